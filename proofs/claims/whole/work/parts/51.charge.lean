/-! ===== charge ===== -/
def smI (f : Nat → Int32) : Nat → Int32
  | 0 => 0
  | n + 1 => smI f n + f n
def seenN (h : Hp) (seen : Int64) (n : Nat) : Int32 := smI (fun i => bI (bq seen (pcF h i))) n
theorem ask_x {h : Hp} {w g np nc nl tk : Nat} (H : RNow h w g np nc nl tk) (l1 : Int32) (seen : Int64) (k : Int32 → Int32 → Option (Int32 × Hp)) : f_x_chargeAsk_L_3 l1 seen h k 1000 0 0 = k (seenN h seen np) (nI np) := by
  have n1 := H.1.1.1
  have e1 := H.1.2.1.1
  refine lp0 (fun f s => f_x_chargeAsk_L_3 l1 seen h k f s.1 s.2) np (fun i => (seenN h seen i, nI i)) _ (by omega) (fun f => ?_) (fun f i hi => ?_)
  · simp only
    rw [f_x_chargeAsk_L_3, e1, if_pos ((leN (by omega) (by omega)).mpr (Nat.le_refl _))]
  · simp only
    obtain ⟨⟨a1, a2⟩, ⟨a3, a4⟩, ⟨a5, a6⟩, -, -⟩ := ppl H hi
    rw [f_x_chargeAsk_L_3, e1, if_neg (fun q => absurd ((leN (by omega) (by omega)).mp q) (by omega)), xin_nI (n := 6) (by omega) (by decide), clampc (by omega), nI_1, a3, tst_u a1, bL_i]
    rfl
theorem ask_m {h : Hp} {w g np nc nl tk : Nat} (HH : RHl h w g) (H : RNow h w g np nc nl tk) {c : Nat} (hc : c < nc) (l1 l3 l4 : Int32) (k : Int32 → Int32 → Option (Int32 × Hp)) : f_m_charge_L_5 l1 (nI c) l3 l4 h k 1000 0 0 = k (seenN h (SEE w g (h.2 39 8) (csF h c)) np) (nI np) := by
  have n1 := H.1.1.1
  have n2 := H.1.1.2.1
  have e1 := H.2.1.1
  obtain ⟨c1, ⟨c2, c3⟩, c4⟩ := car H hc
  refine lp0 (fun f s => f_m_charge_L_5 l1 (nI c) l3 l4 h k f s.1 s.2) np (fun i => (seenN h (SEE w g (h.2 39 8) (csF h c)) i, nI i)) _ (by omega) (fun f => ?_) (fun f i hi => ?_)
  · simp only
    rw [f_m_charge_L_5, e1, if_pos ((leN (by omega) (by omega)).mpr (Nat.le_refl _))]
  · simp only
    obtain ⟨⟨a1, a2⟩, ⟨a3, a4⟩, ⟨a5, a6⟩, -, -⟩ := ppl H hi
    rw [f_m_charge_L_5, e1, if_neg (fun q => absurd ((leN (by omega) (by omega)).mp q) (by omega)), xin_nI (n := 18) (by omega) (by decide), xin_nI (n := 6) (by omega) (by decide), clampc (by omega), clampc (by omega), nI_1, a4, c3, seen_m HH c1, xbd1_some, tst_s a1, bL_i]
    rfl
def chD (k : Nat) : Int64 := match k with
  | 0 => 1
  | 1 => 11
  | 2 => 101
  | 3 => 1101
  | 4 => 10011
  | 5 => 100001
  | _ => 1000101
def chV (k : Nat) (l s : Int32) : Int32 := match k with
  | 0 => 1
  | 1 => 1 + 2 * l
  | 2 => if l ≤ 0 then 1 else 2
  | 3 => 2 * (if l ≤ 0 then 1 else 2)
  | 4 => 1 + 2 * l + 3
  | 5 => 5 + l
  | _ => (if l ≤ 0 then 1 else 2) + s
theorem xL_at (h : Hp) (c j : Nat) (v : Int64) : (xL h c j v).2 c j = v := by rw [xL_2, if_pos ⟨rfl, rfl⟩]
theorem wait_eq (l : Int32) : (1 : Int32) + (if l ≤ 0 then (0 : Int32) else 1) = if l ≤ 0 then 1 else 2 := by
  split <;> rfl
theorem go_x {h : Hp} {k : Nat} (hk : k < 2) : f_x_chargeGo (nI k) h = some (1 + 2 * h.1 10 k, xL h 0 9 (h.2 0 9 + 11)) := by
  unfold f_x_chargeGo f_x_chargeMove
  rw [xin_nI (n := 2) hk (by decide), clampc (by omega), xL_xL, xL_at, Int64.add_assoc]
  rfl
theorem wait_x {h : Hp} {k : Nat} (hk : k < 2) : f_x_chargeWait (nI k) h = some ((if h.1 10 k ≤ 0 then 1 else 2), xL h 0 9 (h.2 0 9 + 101)) := by
  unfold f_x_chargeWait f_x_chargeMove
  rw [xin_nI (n := 2) hk (by decide), clampc (by omega), xL_xL, xL_at, Int64.add_assoc]
  show some (1 + (if h.1 10 k ≤ 0 then (0 : Int32) else 1), _) = _
  rw [wait_eq]; rfl
theorem charge_x {h : Hp} {w g np nc nl tk no : Nat} (HB : RB h w g np nc nl tk no) {k c : Nat} (hk : k < 7) (hc : c < nc) (a : f_x_isCarrier (nI c) h = 1) : f_x_charge (nI k) (nI c) h = some (chV k (h.1 10 c) (seenN h (SEE w g (h.2 39 8) (csF h c)) np), xL h 0 9 (h.2 0 9 + chD k)) := by
  obtain ⟨H0, H1, H2, H3, H4, H5, H6, H7, H8⟩ := id HB
  have n2 := H2.1.1.2.1
  have hc2 : c < 2 := by omega
  unfold f_x_charge
  rw [a, if_neg one_ne]
  match k, hk with
  | 0, _ => rw [if_pos (by decide)]; rfl
  | 1, _ => rw [if_neg (by decide), if_pos (by decide), go_x hc2, xbd2_some]; rfl
  | 2, _ => rw [if_neg (by decide), if_neg (by decide), if_pos (by decide), wait_x hc2, xbd2_some]; rfl
  | 3, _ =>
    rw [if_neg (by decide), if_neg (by decide), if_neg (by decide), if_pos (by decide)]
    unfold f_x_chargeYield
    rw [wait_x hc2, xbd2_some, xbd2_some, xL_xL, xL_at, Int64.add_assoc]; rfl
  | 4, _ =>
    rw [if_neg (by decide), if_neg (by decide), if_neg (by decide), if_neg (by decide), if_pos (by decide)]
    unfold f_x_chargeBack
    rw [go_x hc2, xbd2_some, xbd2_some, xL_xL, xL_at, Int64.add_assoc]; rfl
  | 5, _ =>
    rw [if_neg (by decide), if_neg (by decide), if_neg (by decide), if_neg (by decide), if_neg (by decide), if_pos (by decide)]
    unfold f_x_chargeRide f_x_chargeMove
    rw [xin_nI (n := 2) hc2 (by decide), clampc (by omega), xL_xL, xL_at, Int64.add_assoc]; rfl
  | 6, _ =>
    rw [if_neg (by decide), if_neg (by decide), if_neg (by decide), if_neg (by decide), if_neg (by decide), if_neg (by decide), if_pos (by decide)]
    unfold f_x_chargeAsk
    have K2 : RNow (xL h 0 9 (h.2 0 9 + 1000000)) w g np nc nl tk := H2.of rfl rfl rfl rfl rfl rfl rfl rfl rfl rfl rfl rfl rfl rfl rfl rfl rfl rfl
    have K1 : RHl (xL h 0 9 (h.2 0 9 + 1000000)) w g := H1.of rfl rfl rfl rfl rfl rfl rfl rfl rfl rfl rfl rfl
    rw [seenBy_x K1 K2 hc, xbd1_some, ask_x K2, wait_x hc2, xbd2_some, xbd2_some, xL_xL, xL_at, Int64.add_assoc]; rfl
theorem charge_m {h : Hp} {w g np nc nl tk : Nat} (H1 : RHl h w g) (H2 : RNow h w g np nc nl tk) {k c : Nat} (hk : k < 7) (hc : c < nc) (a : f_m_isCarrier (nI c) h = 1) (y : f_m_in (nI k) 0 6 = 1) : f_m_charge (nI k) (nI c) h = some (chV k (h.1 46 c) (seenN h (SEE w g (h.2 39 8) (csF h c)) np), xL h 39 0 (h.2 39 0 + chD k)) := by
  have n2 := H2.1.1.2.1
  unfold f_m_charge
  rw [y, if_neg one_ne, a, if_neg one_ne, xin_nI (n := 6) (by omega) (by decide), clampc (by omega), ask_m H1 H2 hc]
  simp only [Bool.and_true, xgd_true]
  match k, hk with
  | 0, _ => rw [if_pos (by decide)]; rfl
  | 1, _ => rw [if_neg (by decide), if_pos (by decide)]; rfl
  | 2, _ => rw [if_neg (by decide), if_neg (by decide), if_pos (by decide)]; rfl
  | 3, _ => rw [if_neg (by decide), if_neg (by decide), if_neg (by decide), if_pos (by decide)]; rfl
  | 4, _ => rw [if_neg (by decide), if_neg (by decide), if_neg (by decide), if_neg (by decide), if_pos (by decide)]; rfl
  | 5, _ => rw [if_neg (by decide), if_neg (by decide), if_neg (by decide), if_neg (by decide), if_neg (by decide), if_pos (by decide)]; rfl
  | 6, _ => rw [if_neg (by decide), if_neg (by decide), if_neg (by decide), if_neg (by decide), if_neg (by decide), if_neg (by decide)]; rfl
theorem ok_charge (k i : Int32) : Ok2 (f_x_charge k i) (f_m_charge k i) := by
  rintro h ⟨w, g, np, nc, nl, tk, no, H⟩
  have Hrel : RelB h := ⟨w, g, np, nc, nl, tk, no, H⟩
  obtain ⟨H0, H1, H2, H3, H4, H5, H6, H7, H8⟩ := id H
  rcases isCarrier_cases H2.1.1.2.1 H2.1.2.1.2.1 H2.2.1.2.1 i with ⟨a, b⟩ | ⟨c, hc, rfl, a, b⟩
  · refine ⟨-1, h, h, by unfold f_x_charge; rw [a, if_pos rfl], ?_, Hrel, PK.rf h⟩
    unfold f_m_charge
    rw [b]
    split <;> rfl
  · rcases range0 6 (by decide) k with ⟨z, y⟩ | ⟨k, k6, rfl, y, z1, z2⟩
    · refine ⟨-1, h, h, ?_, by unfold f_m_charge; rw [y, if_pos rfl], Hrel, PK.rf h⟩
      have hk : ∀ n : Nat, n ≤ 6 → ¬ k = nI n := by
        intro n hn e
        subst e
        rcases z with z | z
        · exact nI_pos (by omega) z
        · exact z (by rw [leI, tI 6, nI_toInt (by omega)]; omega)
      unfold f_x_charge
      rw [a, if_neg one_ne, if_neg (show ¬ k = (0 : Int32) from hk 0 (by decide)), if_neg (show ¬ k = (1 : Int32) from hk 1 (by decide)), if_neg (show ¬ k = (2 : Int32) from hk 2 (by decide)), if_neg (show ¬ k = (3 : Int32) from hk 3 (by decide)), if_neg (show ¬ k = (4 : Int32) from hk 4 (by decide)), if_neg (show ¬ k = (5 : Int32) from hk 5 (by decide)), if_neg (show ¬ k = (6 : Int32) from hk 6 (by decide))]
    · have lx : h.1 10 c = h.1 46 c := by
        obtain ⟨v, v1, v2, v3⟩ := H2.1.2.2.2.2.2.1 c hc
        simp only [Nat.mul_zero, Nat.zero_add] at v3
        have v2 : h.1 10 c = nI v := v2
        rw [v2, v3]
      have K2 : RNow (xL h 0 9 (h.2 0 9 + chD k)) w g np nc nl tk := H2.of rfl rfl rfl rfl rfl rfl rfl rfl rfl rfl rfl rfl rfl rfl rfl rfl rfl rfl
      have K1 : RHl (xL h 0 9 (h.2 0 9 + chD k)) w g := H1.of rfl rfl rfl rfl rfl rfl rfl rfl rfl rfl rfl rfl
      refine ⟨_, _, xL (xL h 0 9 (h.2 0 9 + chD k)) 39 0 (h.2 39 0 + chD k), charge_x H (by omega) hc a, ?_, ?_, ?_⟩
      · rw [charge_m K1 K2 (by omega) hc b y, lx]; rfl
      · refine ⟨w, g, np, nc, nl, tk, no, H0.of rfl rfl rfl rfl, H1.of rfl rfl rfl rfl rfl rfl rfl rfl rfl rfl rfl rfl, H2.of rfl rfl rfl rfl rfl rfl rfl rfl rfl rfl rfl rfl rfl rfl rfl rfl rfl rfl, H3.of rfl rfl rfl rfl rfl rfl rfl rfl rfl rfl rfl rfl rfl rfl rfl rfl rfl rfl, H4.of rfl rfl rfl rfl rfl rfl rfl rfl rfl rfl rfl rfl rfl rfl rfl rfl rfl rfl, H5.of rfl rfl rfl rfl rfl rfl rfl rfl rfl, H6.of rfl rfl rfl, ?_, H8⟩
        show h.2 0 9 + chD k = h.2 39 0 + chD k
        have H7 : h.2 0 9 = h.2 39 0 := H7
        rw [H7]
      · exact Or.inr ⟨rfl, rfl, rfl, rfl, rfl, fun _ _ => rfl, rfl, rfl, rfl, rfl⟩
