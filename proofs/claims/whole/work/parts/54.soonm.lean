/-! ===== soonest: the reference ===== -/
theorem oth_m {h : Hp} {nc k : Nat} (n2 : nc ≤ 2) (e : h.1 39 15 = nI nc) (hk : k < nc) (l2 l3 : Int32) (K : Int64 → Int32 → Option (Int32 × Hp)) : f_m_soonest_L_5 (nI k) l2 l3 h K 1000 0 0 = K (OTH h nc k) (nI nc) := by
  refine lp0 (fun f s => f_m_soonest_L_5 (nI k) l2 l3 h K f s.1 s.2) nc (fun i => (OTH h i k, nI i)) _ (by omega) (fun f => ?_) (fun f i hi => ?_)
  · simp only
    rw [f_m_soonest_L_5, e, if_pos ((leN (by omega) (by omega)).mpr (Nat.le_refl _))]
  · simp only
    rw [f_m_soonest_L_5, e, if_neg (fun q => absurd ((leN (by omega) (by omega)).mp q) (by omega)), xin_nI (n := 6) (by omega) (by decide), clampc (by omega), nI_1]
    show _ = f_m_soonest_L_5 (nI k) l2 l3 h K f (OTH h i k ||| (if i = k then 0 else jshlL 1 (h.1 45 i))) (nI (i + 1))
    by_cases hik : i = k
    · rw [if_pos hik, if_pos (by rw [hik])]
    · rw [if_neg hik, if_neg (fun z => hik ((nI_eq (by omega) (by omega)).mp z))]; rfl
/-- the rows of open cells and of cells come to -/
def RW (h : Hp) (E R : Nat → Int64) (t : Nat) : Hp := (h.1, fun a b => if a = 49 ∧ 1 ≤ b ∧ b < t then E b else if a = 50 ∧ b < t then R b else h.2 a b)
theorem RW_s (h : Hp) (E R : Nat → Int64) {t : Nat} (ht : 1 ≤ t) : xL (xL (RW h E R t) 49 t (E t)) 50 t (R t) = RW h E R (t + 1) := by
  refine hp_ext2 rfl (fun a b => ?_)
  simp only [xL_2, RW]
  by_cases a50 : a = 50
  · subst a50
    by_cases hb : b = t
    · subst hb; simp
    · by_cases h2 : b < t
      · simp [hb, h2, show b < t + 1 by omega]
      · simp [hb, h2, show ¬ b < t + 1 by omega]
  · by_cases a49 : a = 49
    · subst a49
      by_cases hb : b = t
      · subst hb; simp [ht]
      · by_cases h2 : b < t
        · simp [hb, h2, show b < t + 1 by omega]
        · simp [hb, h2, show ¬ b < t + 1 by omega]
    · simp [a49, a50]
theorem RW_1 (h : Hp) (E R : Nat → Int64) (s : Nat) (hR : R 0 = one s) : xL h 50 0 (jshlL 1 (nI s)) = RW h E R 1 := by
  refine hp_ext2 rfl (fun a b => ?_)
  simp only [xL_2, RW]
  by_cases a50 : a = 50
  · subst a50
    by_cases hb : b = 0
    · subst hb; simp [hR, one]
    · simp [hb]
  · by_cases a49 : a = 49
    · subst a49
      simp
      intro h1 h2; omega
    · simp [a49, a50]
theorem RW_39 (h : Hp) (E R : Nat → Int64) (t : Nat) {a : Nat} (h1 : a ≠ 49) (h2 : a ≠ 50) : (RW h E R t).2 a = h.2 a := by
  funext b; simp [RW, h1, h2]
theorem SPE {fr S E : Int64} (hE : sub E fr) : S ||| (SP fr S &&& E) = f_x_widened S E := by
  apply bq_ext
  intro q hq
  rw [bq_or, bq_and, SP_bit _ _ hq, wid_bit _ _ hq]
  cases he : bq E q with
  | false => simp
  | true => rw [hE q hq he]; cases bq S q <;> simp
theorem EF_RW (h : Hp) (E R : Nat → Int64) (t0 : Nat) (w g np nc k t : Nat) : EF (RW h E R t0) w g np nc k t = EF h w g np nc k t := rfl
/-- a tick of the forward search -/
theorem fwd_m {h : Hp} {w g np nc nl tk no : Nat} (HB : RB h w g np nc nl tk no) {k c t : Nat} (hk : k < nc) (hc : c < 64) (ht : 1 ≤ t ∧ t ≤ 20) (l3 : Int32) (K : Int32 → Int32 → Hp → Option (Int32 × Hp)) (f : Nat) : f_m_soonest_L_13 (nI k) (nI c) l3 (OTH h nc k) K (f + 1) (-9) (nI t) (RW h (EF h w g np nc k) (Rr (EF h w g np nc k) (csF h k)) t) = f_m_soonest_L_13 (nI k) (nI c) l3 (OTH h nc k) K f (if bq (Rr (EF h w g np nc k) (csF h k) t) c = true then nI t else -9) (nI (t + 1)) (RW h (EF h w g np nc k) (Rr (EF h w g np nc k) (csF h k)) (t + 1)) := by
  obtain ⟨H0, H1, H2, -⟩ := id HB
  have hE := EF_sub h w g np nc k
  generalize hEE : EF h w g np nc k = E at *
  generalize hRR : Rr E (csF h k) = R at *
  have K1 : RHl (RW h E R t) w g := H1.of rfl rfl rfl rfl rfl rfl rfl rfl rfl rfl rfl rfl
  have KM : MP (RW h E R t) w g np nc (NRx h nc) (rowSet h 9 0 nc) := (mp H2).of rfl rfl rfl rfl rfl
  have s1 := seenCould_g K1 KM hk ht.2
  have s2 := unseenCould_g K1 KM hk ht.2
  rw [f_m_soonest_L_13, if_neg (by rw [ltI, tI 20, nI_toInt (by omega)]; omega), if_pos rfl, s1, xbd1_some, s2, xbd1_some]
  have e39 : (RW h E R t).2 39 8 = h.2 39 8 := rfl
  have eE : (((RW h E R t).2 39 8 &&& (OTH h nc k ^^^ -1)) &&& ((seenC (RW h E R t) (NRx h nc) ((RW h E R t).2 39 8) (SEE w g ((RW h E R t).2 39 8) (csF (RW h E R t) k)) t np ||| CB 1 (NRx h nc) ((RW h E R t).2 39 8) t ((RW h E R t).2 39 8 &&& (SEE w g ((RW h E R t).2 39 8) (csF (RW h E R t) k) ^^^ -1))) ^^^ -1)) = E t := by
    rw [← hEE]; rfl
  rw [eE]
  have t1 : nI t - 1 = nI (t - 1) := by
    obtain ⟨t', rfl⟩ : ∃ t', t = t' + 1 := ⟨t - 1, by omega⟩
    rw [nI_pred]; rfl
  rw [t1, xin_nI (n := 21) (k := t - 1) (by omega) (by decide), xin_nI (n := 21) (k := t) (by omega) (by decide), clampc (by omega), clampc (by omega)]
  simp only [Bool.and_true, xgd_true]
  have r50 : (RW h E R t).2 50 (t - 1) = R (t - 1) := by simp [RW, show t - 1 < t by omega]
  rw [r50]
  unfold f_m_goOn
  rw [xin_nI (n := 21) (k := t) (by omega) (by decide), clampc (by omega), xL_at, spread_m]
  have e39' : (xL (RW h E R t) 49 t (E t)).2 39 8 = h.2 39 8 := rfl
  have eR : R (t - 1) ||| (SP (h.2 39 8) (R (t - 1)) &&& E t) = R t := by
    rw [SPE (hE t), ← hRR]
    obtain ⟨t', rfl⟩ : ∃ t', t = t' + 1 := ⟨t - 1, by omega⟩
    rfl
  rw [e39', eR]
  simp only [Bool.and_true, xgd_true, xbd1_some]
  rw [xL_at, RW_s _ _ _ ht.1, nI_1, tst_s hc]
  congr 1
  cases bq (R t) c with
  | false => rw [if_neg (by decide), if_neg (by decide)]
  | true => rw [if_pos (by decide), if_pos rfl]
theorem search_m {h : Hp} {w g np nc nl tk no : Nat} (HB : RB h w g np nc nl tk no) {k c : Nat} (hk : k < nc) (hc : c < 64) (l3 : Int32) (K : Int32 → Int32 → Hp → Option (Int32 × Hp)) :
    (∀ T, 1 ≤ T → T ≤ 20 → bq (Rr (EF h w g np nc k) (csF h k) T) c = true → (∀ t, 1 ≤ t → t < T → bq (Rr (EF h w g np nc k) (csF h k) t) c = false) → f_m_soonest_L_13 (nI k) (nI c) l3 (OTH h nc k) K 1000 (-9) (nI 1) (RW h (EF h w g np nc k) (Rr (EF h w g np nc k) (csF h k)) 1) = K (nI T) (nI (T + 1)) (RW h (EF h w g np nc k) (Rr (EF h w g np nc k) (csF h k)) (T + 1))) ∧
    ((∀ t, 1 ≤ t → t ≤ 20 → bq (Rr (EF h w g np nc k) (csF h k) t) c = false) → f_m_soonest_L_13 (nI k) (nI c) l3 (OTH h nc k) K 1000 (-9) (nI 1) (RW h (EF h w g np nc k) (Rr (EF h w g np nc k) (csF h k)) 1) = K (-9) (nI 21) (RW h (EF h w g np nc k) (Rr (EF h w g np nc k) (csF h k)) 21)) := by
  constructor
  · intro T T1 T20 hT hmin
    refine lpTo (fun f s => f_m_soonest_L_13 (nI k) (nI c) l3 (OTH h nc k) K (f + 1) s.1 s.2.1 s.2.2) (T - 1) (fun i => ((-9 : Int32), nI (i + 1), RW h (EF h w g np nc k) (Rr (EF h w g np nc k) (csF h k)) (i + 1))) _ (fun f => ?_) (fun f i hi => ?_) (T - 1) 0 999 (by omega) (by omega)
    · simp only
      have e1 : T - 1 + 1 = T := by omega
      rw [e1, fwd_m HB hk hc ⟨T1, T20⟩, if_pos hT, f_m_soonest_L_13]
      by_cases z : T = 20
      · subst z; rw [if_pos (by decide)]
      · rw [if_neg (by rw [ltI, tI 20, nI_toInt (by omega)]; omega), if_neg (fun z => by
          have := congrArg Int32.toInt z
          rw [nI_toInt (by omega)] at this
          have e9 : (-9 : Int32).toInt = -9 := by decide
          omega)]
    · simp only
      rw [fwd_m HB hk hc ⟨by omega, by omega⟩, if_neg (by rw [hmin (i + 1) (by omega) (by omega)]; decide)]
  · intro hno
    refine lp0 (fun f s => f_m_soonest_L_13 (nI k) (nI c) l3 (OTH h nc k) K f s.1 s.2.1 s.2.2) 20 (fun i => ((-9 : Int32), nI (i + 1), RW h (EF h w g np nc k) (Rr (EF h w g np nc k) (csF h k)) (i + 1))) _ (by omega) (fun f => ?_) (fun f i hi => ?_)
    · simp only
      rw [f_m_soonest_L_13, if_pos (by decide)]
    · simp only
      rw [fwd_m HB hk hc ⟨by omega, by omega⟩, if_neg (by rw [hno (i + 1) (by omega) (by omega)]; decide)]
theorem addm1n {n : Nat} (h : 1 ≤ n) : nI n + (-1 : Int32) = nI (n - 1) := by
  obtain ⟨m, rfl⟩ : ∃ m, n = m + 1 := ⟨n - 1, by omega⟩
  rw [addm1]
  exact nI_pred m
theorem back_m {h : Hp} {E R : Nat → Int64} {T c : Nat} (T1 : 1 ≤ T) (T20 : T ≤ 20) (l1 : Int32) (K : Int64 → Int32 → Option (Int32 × Hp)) : f_m_soonest_L_32 l1 (RW h E R (T + 1)) K 1000 (jshlL 1 (nI c)) (nI T) = K (Bd (h.2 39 8) E T c (T - 1)) (nI 1) := by
  refine lp0 (fun f s => f_m_soonest_L_32 l1 (RW h E R (T + 1)) K f s.1 s.2) (T - 1) (fun j => (Bd (h.2 39 8) E T c j, nI (T - j))) _ (by omega) (fun f => ?_) (fun f j hj => ?_)
  · simp only
    have e1 : T - (T - 1) = 1 := by omega
    rw [f_m_soonest_L_32, e1, if_pos (by decide)]
  · simp only
    rw [f_m_soonest_L_32, if_neg (by rw [leI, tI 1, nI_toInt (by omega)]; omega), xin_nI (n := 21) (by omega) (by decide), clampc (by omega), addm1n (by omega)]
    have e2 : T - j - 1 = T - (j + 1) := by omega
    have e3 : (RW h E R (T + 1)).2 49 (T - j) = E (T - j) := by simp [RW, show 1 ≤ T - j by omega, show T - j < T + 1 by omega]
    rw [e2, e3, spread_m]
    rfl
theorem leastB (P : Nat → Bool) : ∀ n, (∃ i, i < n ∧ P i = true) → ∃ i, i < n ∧ P i = true ∧ ∀ j, j < i → P j = false := by
  intro n
  induction n with
  | zero => rintro ⟨i, hi, _⟩; omega
  | succ n ih =>
    rintro ⟨i, hi, e⟩
    by_cases h : ∃ i, i < n ∧ P i = true
    · obtain ⟨i0, a, b, c⟩ := ih h
      exact ⟨i0, by omega, b, c⟩
    · have hn : i = n := by
        by_cases z : i = n
        · exact z
        · exact absurd ⟨i, by omega, e⟩ h
      subst hn
      refine ⟨i, by omega, e, fun j hj => ?_⟩
      cases hb : P j with
      | false => rfl
      | true => exact absurd ⟨j, hj, hb⟩ h
theorem first_m {h : Hp} {w g k s f0 : Nat} (K1 : RHl h w g) (hk : k < 6) (hs : s < 64) (c3 : h.1 45 k = nI s) (B : Int64) (hB : sub (h.2 49 1) (h.2 39 8)) (P : Nat → Bool) (hP : ∀ m, m < 4 → (P m = true ↔ ∃ o, nbr s m = some o ∧ bq (B &&& h.2 49 1) o = true)) (h5 : f0 < 5) (hit : f0 < 4 → P f0 = true) (hno : ∀ f, f < f0 → P f = false) : f_m_soonest_L_36 (nI k) B h (fun l9_40 => some ((4 : Int32), h)) 1000 0 = some (nI f0, h) := by
  obtain ⟨⟨w1, w2, g1, g2⟩, ⟨e1, e2⟩, -, ⟨-, hsub⟩, -⟩ := K1
  have cnd : ∀ m, m < 4 → P m = (match nbw w g s m with
    | none => false
    | some o => bq (B &&& h.2 49 1) o) := by
    intro m hm
    rw [Bool.eq_iff_iff, hP m hm]
    constructor
    · rintro ⟨o, hn, hb⟩
      have ho := nbr_lt64 hs hm hn
      have hb2 := hb
      rw [bq_and, Bool.and_eq_true] at hb2
      have hh := hsub o ho (hB o ho hb2.2)
      have : nbw w g s m = some o := by unfold nbw; rw [hn]; simp [inHall, hh.1, hh.2]
      rw [this]; exact hb
    · intro e
      cases hn : nbw w g s m with
      | none => rw [hn] at e; cases e
      | some o => rw [hn] at e; exact ⟨o, (nbw_some hn).1, e⟩
  have stp : ∀ f i, i < 4 → f_m_soonest_L_36 (nI k) B h (fun l9_40 => some ((4 : Int32), h)) (f + 1) (nI i) = if P i = true then some (nI i, h) else f_m_soonest_L_36 (nI k) B h (fun l9_40 => some ((4 : Int32), h)) f (nI (i + 1)) := by
    intro f i hi
    rw [f_m_soonest_L_36, if_neg (nleL 4 hi), xin_nI (n := 6) hk (by decide), clampc (by omega), c3, m_beside e1 e2 (by omega) (by omega) hs hi, nI_1, cnd i hi]
    simp only [Bool.and_true, xgd_true]
    cases hn : nbw w g s i with
    | none => rw [if_pos (show encI none = (-9 : Int32) from rfl), if_neg (show ¬ false = true by decide)]
    | some o =>
      have ho := nbr_lt64 hs hi (nbw_some hn).1
      rw [if_neg (encI_9 ho)]
      show (if lg_cmp (jshrL _ (nI o) &&& 1) 1 = 0 then some (nI i, h) else _) = _
      rw [tst_s ho]
      simp only
      by_cases hbb : bq (B &&& h.2 49 1) o = true
      · rw [if_pos hbb, hbb, if_pos (by decide)]
      · rw [if_neg hbb]
        rw [Bool.not_eq_true] at hbb
        rw [hbb, if_neg (by decide)]
  refine lp0 (fun f (s : Int32) => f_m_soonest_L_36 (nI k) B h (fun l9_40 => some ((4 : Int32), h)) f s) f0 (fun i => nI i) _ (by omega) (fun f => ?_) (fun f i hi => ?_)
  · by_cases z : f0 < 4
    · show f_m_soonest_L_36 (nI k) B h _ (f + 1) (nI f0) = _
      rw [stp f f0 z, if_pos (hit z)]
    · have : f0 = 4 := by omega
      subst this
      show f_m_soonest_L_36 (nI k) B h _ (f + 1) (nI 4) = _
      rw [f_m_soonest_L_36, if_pos (by decide)]
      rfl
  · show f_m_soonest_L_36 (nI k) B h _ (f + 1) (nI i) = f_m_soonest_L_36 (nI k) B h _ f (nI (i + 1))
    rw [stp f i (by omega), if_neg (by rw [hno i hi]; decide)]
theorem RW_rb {h : Hp} {w g np nc nl tk no : Nat} (H : RB h w g np nc nl tk no) (E R : Nat → Int64) (t : Nat) : RB (RW h E R t) w g np nc nl tk no := by
  obtain ⟨H0, H1, H2, H3, H4, H5, H6, H7, H8⟩ := H
  exact ⟨H0.of rfl rfl rfl rfl, H1.of rfl rfl rfl rfl rfl rfl rfl rfl rfl rfl rfl rfl, H2.of rfl rfl rfl rfl rfl rfl rfl rfl rfl rfl rfl rfl rfl rfl rfl rfl rfl rfl, H3.of rfl rfl rfl rfl rfl rfl rfl rfl rfl rfl rfl rfl rfl rfl rfl rfl rfl rfl, H4.of rfl rfl rfl rfl rfl rfl rfl rfl rfl rfl rfl rfl rfl rfl rfl rfl rfl rfl, H5.of rfl rfl rfl rfl rfl rfl rfl rfl rfl, H6.of rfl rfl rfl, H7, H8⟩
theorem RW_pk {h h1 : Hp} (P : PK h h1) (E R : Nat → Int64) (t : Nat) : PK h (RW h1 E R t) := by
  rcases P with p | p
  · exact Or.inl p
  · exact Or.inr p
theorem EF_fr {h h' : Hp} (F : Fr h h') (w g np nc k : Nat) : EF h' w g np nc k = EF h w g np nc k := by
  funext t
  unfold EF OTH
  rw [ANY_fr F, F.1, F.2 39 (by decide) (by decide) (by decide)]
theorem ok_soonest (i c what : Int32) : Ok2 (f_x_soonest i c what) (f_m_soonest i c what) := by
  rintro h ⟨w, g, np, nc, nl, tk, no, H⟩
  have Hrel : RelB h := ⟨w, g, np, nc, nl, tk, no, H⟩
  obtain ⟨H0, H1, H2, H3, H4, H5, H6, H7, H8⟩ := id H
  have n2 := H2.1.1.2.1
  have hfree := H1.2.2.2.1.1
  unfold f_x_soonest
  rcases isCarrier_cases H2.1.1.2.1 H2.1.2.1.2.1 H2.2.1.2.1 i with ⟨a, b⟩ | ⟨k, hk, rfl, a, b⟩
  · rw [a, if_pos rfl]
    exact ⟨-1, h, h, rfl, by unfold f_m_soonest; rw [b, if_pos rfl], Hrel, PK.rf h⟩
  · rw [a, if_neg one_ne]
    rcases isCell_cases H1 c with ⟨a2, b2⟩ | ⟨q, hq, rfl, a2, b2⟩
    · rw [a2, if_pos rfl]
      exact ⟨-1, h, h, rfl, by unfold f_m_soonest; rw [b, if_neg one_ne, b2, if_pos rfl], Hrel, PK.rf h⟩
    · rw [a2, if_neg one_ne]
      rcases range0 1 (by decide) what with ⟨z, y⟩ | ⟨v, v1, rfl, y, z1, z2⟩
      · refine ⟨-1, h, h, ?_, by unfold f_m_soonest; rw [b, if_neg one_ne, b2, if_neg one_ne, y, if_pos rfl], Hrel, PK.rf h⟩
        rcases z with z | z
        · rw [if_pos z]
        · by_cases z2 : what < 0
          · rw [if_pos z2]
          · rw [if_neg z2, if_neg z]
      · rw [if_neg z1, if_pos z2, isFree_x hq.1, hfree]
        cases hb : bq (h.2 39 8) q with
        | false =>
          refine ⟨-2, h, h, by simp [bI], ?_, Hrel, PK.rf h⟩
          unfold f_m_soonest
          rw [b, if_neg one_ne, b2, if_neg one_ne, y, if_neg one_ne, isFree_m hq.1, hb]; simp [bI]
        | true =>
          obtain ⟨c1, ⟨c2, c3⟩, c4⟩ := car H2 hk
          rw [if_neg (by simp [bI]), xin_nI (n := 2) (by omega) (by decide), clampc (by omega), c2]
          simp only [Bool.and_true, xgd_true]
          -- the reference's beginning
          have mm : ∀ h1 : Hp, Fr h h1 → f_m_soonest (nI k) (nI q) (nI v) h1 = f_m_soonest_L_13 (nI k) (nI q) (nI v) (OTH h1 nc k) (fun l6_25 l7_26 h_27 => f_m_soonest_j_28 (nI k) (nI q) (nI v) l6_25 h_27) 1000 (if q = csF h k then 0 else -9) (nI 1) (RW h1 (EF h1 w g np nc k) (Rr (EF h1 w g np nc k) (csF h1 k)) 1) := by
            intro h1 F
            obtain ⟨K0, K1, K2, -⟩ := F.rb H
            have b' : f_m_isCarrier (nI k) h1 = 1 := by rw [isCarrier_fr F, b]
            have b2' : f_m_isCell (nI q) h1 = 1 := by
              have : f_m_isCell (nI q) h1 = f_m_isCell (nI q) h := by unfold f_m_isCell; rw [F.1]
              rw [this, b2]
            have e39 : h1.2 39 8 = h.2 39 8 := by rw [F.2 39 (by decide) (by decide) (by decide)]
            have c3' := (car K2 hk).2.1.2
            have s64 := (car K2 hk).1.1
            unfold f_m_soonest
            rw [b', if_neg one_ne, b2', if_neg one_ne, y, if_neg one_ne, isFree_m hq.1, e39, hb, if_neg (by simp [bI]), oth_m n2 K2.2.1.2.1 hk, xin_nI (n := 6) (by omega) (by decide), clampc (by omega), c3', RW_1 h1 (EF h1 w g np nc k) (Rr (EF h1 w g np nc k) (csF h1 k)) (csF h1 k) rfl, tst_s hq.1, bq_one s64 hq.1, csF_fr F]
            simp only [Bool.and_true, xgd_true]
            by_cases e : q = csF h k
            · rw [decide_eq_true e, if_pos e, if_pos (by decide)]; rfl
            · rw [decide_eq_false e, if_neg e, if_neg (by decide)]; rfl
          have v2 : v = 0 ∨ v = 1 := by omega
          by_cases hqs : q = csF h k
          · rw [if_pos (by rw [hqs])]
            refine ⟨_, h, RW h (EF h w g np nc k) (Rr (EF h w g np nc k) (csF h k)) 1, rfl, ?_, ⟨w, g, np, nc, nl, tk, no, RW_rb H _ _ _⟩, RW_pk (PK.rf h) _ _ _⟩
            rw [mm h (Fr.rf h), if_pos hqs, f_m_soonest_L_13, if_neg (by decide), if_neg (by decide)]
            unfold f_m_soonest_j_28
            rcases v2 with rfl | rfl
            · rw [if_pos (by decide), if_pos (by decide)]
            · rw [if_neg (show ¬ nI 1 = (0 : Int32) by decide), if_neg (show ¬ (0 : Int32) = -9 by decide), if_pos (show (0 : Int32) = 0 from rfl), if_neg (show ¬ nI 1 = (0 : Int32) by decide)]
          · rw [if_neg (fun z => hqs ((nI_eq (by have := c1.1; omega) (by have := hq.1; omega)).mp z).symm)]
            obtain ⟨sx1, sx2⟩ := soonRow_x H hk hq.1 (nI v)
            by_cases hex : ∃ t, t < 20 ∧ bq (Rr (EF h w g np nc k) (csF h k) (t + 1)) q = true
            · obtain ⟨t0, ht0, hT, hmin⟩ := leastB (fun t => bq (Rr (EF h w g np nc k) (csF h k) (t + 1)) q) 20 hex
              have hT : bq (Rr (EF h w g np nc k) (csF h k) (t0 + 1)) q = true := hT
              have hmin : ∀ t, 1 ≤ t → t < t0 + 1 → bq (Rr (EF h w g np nc k) (csF h k) t) q = false := by
                intro t h1 h2
                have := hmin (t - 1) (by omega)
                have e : t - 1 + 1 = t := by omega
                simp only [e] at this
                exact this
              obtain ⟨f0, hf5, hit, hfst⟩ := leastB (fun f => bq (Ld (EF h w g np nc k) (csF h k) f t0) q) 5 ((ld_or c1.1 (t := t0 + 1) (by omega)).mp hT)
              obtain ⟨h1, x1, F⟩ := sx1 (t0 + 1) f0 (by omega) (by omega) hT hmin hf5 hit hfst
              rw [x1, xbd2_some]
              have HB := F.rb H
              obtain ⟨K0, K1, K2, -⟩ := id HB
              refine ⟨_, h1, RW h1 (EF h1 w g np nc k) (Rr (EF h1 w g np nc k) (csF h1 k)) (t0 + 1 + 1), rfl, ?_, ⟨w, g, np, nc, nl, tk, no, RW_rb HB _ _ _⟩, RW_pk F.pk _ _ _⟩
              have eE := EF_fr F w g np nc k
              have es := csF_fr F k
              rw [mm h1 F, if_neg hqs, (search_m HB hk hq.1 (nI v) _).1 (t0 + 1) (by omega) (by omega) (by rw [eE, es]; exact hT) (by rw [eE, es]; exact hmin)]
              unfold f_m_soonest_j_28
              have n9 : ¬ nI (t0 + 1) = (-9 : Int32) := fun z => by
                have := congrArg Int32.toInt z
                rw [nI_toInt (by omega)] at this
                have e9 : (-9 : Int32).toInt = -9 := by decide
                omega
              have n0 : ¬ nI (t0 + 1) = (0 : Int32) := neL 0 (by omega) (by omega)
              rcases v2 with rfl | rfl
              · rw [if_pos (by decide), if_pos (by decide)]
              · rw [if_neg (by decide), if_neg n9, if_neg n0, if_neg (by decide), back_m (by omega) (by omega)]
                have r1 : (RW h1 (EF h1 w g np nc k) (Rr (EF h1 w g np nc k) (csF h1 k)) (t0 + 1 + 1)).2 49 1 = EF h w g np nc k 1 := by
                  rw [← eE]; simp [RW]
                have e39 : h1.2 39 8 = h.2 39 8 := by rw [F.2 39 (by decide) (by decide) (by decide)]
                have K3 : RHl (RW h1 (EF h1 w g np nc k) (Rr (EF h1 w g np nc k) (csF h1 k)) (t0 + 1 + 1)) w g := K1.of rfl rfl rfl rfl rfl rfl rfl rfl rfl rfl rfl rfl
                have c9 : (RW h1 (EF h1 w g np nc k) (Rr (EF h1 w g np nc k) (csF h1 k)) (t0 + 1 + 1)).1 45 k = nI (csF h k) := by rw [← es]; exact (car K2 hk).2.1.2
                refine first_m (s := csF h k) K3 (by omega) c1.1 c9 _ ?_ (fun f => bq (Ld (EF h w g np nc k) (csF h k) f t0) q) (fun m hm => ?_) hf5 (fun _ => hit) hfst
                · rw [r1]
                  have := EF_sub h w g np nc k 1
                  rw [← e39] at this
                  exact this
                · rw [r1, eE, e39]
                  exact first_eq (EF_sub h w g np nc k) (T := t0 + 1) c1.1 hm hq.1 (by omega)
            · have hno : ∀ t, 1 ≤ t → t ≤ 20 → bq (Rr (EF h w g np nc k) (csF h k) t) q = false := by
                intro t h1 h2
                cases hbb : bq (Rr (EF h w g np nc k) (csF h k) t) q with
                | false => rfl
                | true => exact absurd ⟨t - 1, by omega, by rw [show t - 1 + 1 = t by omega]; exact hbb⟩ hex
              obtain ⟨h1, x1, F⟩ := sx2 hno
              rw [x1, xbd2_some]
              have HB := F.rb H
              have eE := EF_fr F w g np nc k
              have es := csF_fr F k
              refine ⟨_, h1, RW h1 (EF h1 w g np nc k) (Rr (EF h1 w g np nc k) (csF h1 k)) 21, rfl, ?_, ⟨w, g, np, nc, nl, tk, no, RW_rb HB _ _ _⟩, RW_pk F.pk _ _ _⟩
              rw [mm h1 F, if_neg hqs, (search_m HB hk hq.1 (nI v) _).2 (by rw [eE, es]; exact hno)]
              unfold f_m_soonest_j_28
              rcases v2 with rfl | rfl
              · rw [if_pos (by decide)]
              · rw [if_neg (by decide), if_pos rfl]
