/-! ===== look, step ===== -/
theorem xor2 : ∀ d, d < 4 → nI d ^^^ (2 : Int32) = nI (opp d) := by decide +kernel
theorem opp_lt : ∀ d, d < 4 → opp d < 4 := by decide
theorem opp_opp : ∀ d, d < 4 → opp (opp d) = d := by decide
theorem canStep_bit {h : Hp} {d q : Nat} (hd : d < 4) (hq : q < 64) : bq (f_hall_canStep (nI d) h) q = ob (h.2 2 5) (nbr q d) := by
  unfold f_hall_canStep
  rw [xor2 d hd, sh_ob _ (opp_lt d hd) hq, opp_opp d hd]
/-- what is looked at from a cell, by bits -/
def lkV (a b c d : Bool) : Nat := (if a then 1 else 0) + (if b then 2 else 0) + (if c then 4 else 0) + (if d then 8 else 0)
def lkB (fr : Int64) (c : Nat) : Nat := lkV (ob fr (nbr c 0)) (ob fr (nbr c 1)) (ob fr (nbr c 2)) (ob fr (nbr c 3))
theorem lkV_lt : ∀ a b c d : Bool, lkV a b c d < 16 := by decide
theorem lkB_lt (fr : Int64) (c : Nat) : lkB fr c < 16 := lkV_lt _ _ _ _
theorem lk_bit : ∀ b, b < 16 → ∀ i, i < 4 → (jshr (nI b) (nI i) &&& (1 : Int32)) = bI (b.testBit i) := by decide +kernel
theorem lk_all : ∀ b, b < 16 → ∀ a0 a1 a2 a3 : Bool, ((((if b.testBit 0 then a0 else !a0) && (if b.testBit 1 then a1 else !a1)) && (if b.testBit 2 then a2 else !a2)) && (if b.testBit 3 then a3 else !a3)) = decide (lkV a0 a1 a2 a3 = b) := by decide +kernel
def lkX (h : Hp) (b i : Nat) : Int64 := if b.testBit i then f_hall_canStep (nI i) h else f_hall_canStep (nI i) h ^^^ (-1)
theorem lkX_bit {h : Hp} {b i q : Nat} (hi : i < 4) (hq : q < 64) : bq (lkX h b i) q = if b.testBit i then ob (h.2 2 5) (nbr q i) else !ob (h.2 2 5) (nbr q i) := by
  unfold lkX
  cases b.testBit i
  · simp only [Bool.false_eq_true, if_false]
    rw [bq_not _ hq, canStep_bit hi hq]
  · simp only [if_true]
    rw [canStep_bit hi hq]
def lkS (h : Hp) (b : Nat) : Int64 := (((h.2 2 5 &&& lkX h b 0) &&& lkX h b 1) &&& lkX h b 2) &&& lkX h b 3
theorem looksLike_x {h : Hp} {b : Nat} (hb : b < 16) : f_hall_looksLike (nI b) h = some (lkS h b) := by
  unfold f_hall_looksLike
  have st : ∀ (i fuel : Nat) (acc : Int64) (k : Int64 → Int32 → Option Int64), i < 4 → f_hall_looksLike_L_1 (nI b) h k (fuel + 1) acc (nI i) = f_hall_looksLike_L_1 (nI b) h k fuel (acc &&& lkX h b i) (nI (i + 1)) := by
    intro i fuel acc k hi
    rw [f_hall_looksLike_L_1, if_neg (nleL 4 hi), nI_1, lk_bit b hb i hi]
    unfold lkX
    cases b.testBit i <;> simp [bI]
  have e0 := st 0 999 (h.2 2 5) (fun l2_6 l4_7 => some l2_6) (by decide)
  rw [st 1 998 _ _ (by decide), st 2 997 _ _ (by decide), st 3 996 _ _ (by decide)] at e0
  refine e0.trans ?_
  rw [f_hall_looksLike_L_1, if_pos (by decide)]
  rfl
theorem lkS_bit {h : Hp} {b q : Nat} (hb : b < 16) (hq : q < 64) : bq (lkS h b) q = (bq (h.2 2 5) q && decide (lkB (h.2 2 5) q = b)) := by
  unfold lkS lkB
  rw [← lk_all b hb, bq_and, bq_and, bq_and, bq_and, lkX_bit (by decide) hq, lkX_bit (by decide) hq, lkX_bit (by decide) hq, lkX_bit (by decide) hq]
  simp only [Bool.and_assoc]
def sgF (h : Hp) (c : Nat) : Nat := (h.1 41 c).toNatClampNeg
theorem sg_ok {h : Hp} {w g c : Nat} (H : RHl h w g) (hc : cellIn w g c) : sgF h c < 128 ∧ h.1 41 c = nI (sgF h c) := by
  obtain ⟨-, s, hs, e⟩ := H.2.2.2.2.1 c hc
  have : sgF h c = s := by unfold sgF; rw [e, clampc (by omega)]
  rw [this]; exact ⟨hs, e⟩
theorem mk_bit {h : Hp} {w g c k : Nat} (H : RHl h w g) (hc : cellIn w g c) (hk : k < 10) : bq (h.2 5 k) c = decide (mkOf (sgF h c) = k) := by
  have := H.2.2.2.2.2.2.1 k hk c hc.1
  obtain ⟨s1, s2⟩ := sg_ok H hc
  by_cases e : mkOf (sgF h c) = k
  · rw [decide_eq_true e]; exact this.mpr ⟨hc, _, s1, s2, e⟩
  · rw [decide_eq_false e]
    cases hb : bq (h.2 5 k) c with
    | false => rfl
    | true =>
      obtain ⟨-, s, hs, e2, e3⟩ := this.mp hb
      rw [s2] at e2
      have := (nI_eq (by omega) (by omega)).mp e2
      subst this
      exact absurd e3 e
theorem mkOf9 (s : Nat) : mkOf s < 10 := by unfold mkOf; split <;> omega
def lookV (h : Hp) (c : Nat) : Nat := lkB (h.2 39 8) c + 16 * mkOf (sgF h c)
theorem lookV_lt (h : Hp) (c : Nat) : lookV h c < 160 := by
  have := lkB_lt (h.2 39 8) c
  have := mkOf9 (sgF h c)
  unfold lookV; omega
theorem lk_or : ∀ a b c d : Bool, ((((((0 : Int32) ||| (if a then jshl 1 (nI 0) else 0)) ||| (if b then jshl 1 (nI 1) else 0)) ||| (if c then jshl 1 (nI 2) else 0))) ||| (if d then jshl 1 (nI 3) else 0)) = nI (lkV a b c d) := by decide +kernel
theorem lk_sign : ∀ s, s < 128 → (if f_m_in (nI s) (49 : Int32) (57 : Int32) = (0 : Int32) then (16 : Int32) * (0 : Int32) else (16 : Int32) * (nI s - (48 : Int32))) = nI (16 * mkOf s) := by decide +kernel
theorem free_in {h : Hp} {w g c : Nat} (H : RHl h w g) (hc : c < 64) (hb : bq (h.2 39 8) c = true) : cellIn w g c := ⟨hc, H.2.2.2.1.2 c hc hb⟩
theorem ob_w {h : Hp} {w g c d : Nat} (H : RHl h w g) (hc : c < 64) (hd : d < 4) : ob (h.2 39 8) (nbr c d) = ob (h.2 39 8) (nbw w g c d) := by
  unfold nbw
  cases hn : nbr c d with
  | none => rfl
  | some q =>
    have hq := nbr_lt64 hc hd hn
    by_cases hi : inHall w g q = true
    · simp [hi]
    · simp only [hi]
      cases hb : bq (h.2 39 8) q with
      | false => simp [ob, hb]
      | true =>
        have := (free_in H hq hb).2
        rw [inHall_iff] at hi
        exact absurd (decide_eq_true this) hi
theorem bes_m {h : Hp} {w g c d : Nat} (H : RHl h w g) (hc : c < 64) (hd : d < 4) : f_m_beside (nI c) (nI d) h = encI (nbw w g c d) := m_beside H.2.1.1 H.2.1.2 (by have := H.1; omega) (by have := H.1; omega) hc hd
theorem nbw_lt {w g c d q : Nat} (hc : c < 64) (hd : d < 4) (h : nbw w g c d = some q) : q < 64 := nbr_lt64 hc hd (nbw_some h).1
/-- a test whether the cell beside is free -/
theorem bes_if {α : Type} {h : Hp} {w g c d : Nat} (H : RHl h w g) (hc : c < 64) (hd : d < 4) (x : α) (y : α) : (if f_m_beside (nI c) (nI d) h = (-9 : Int32) then x else if f_m_isFree (f_m_beside (nI c) (nI d) h) h = (0 : Int32) then x else y) = if ob (h.2 39 8) (nbr c d) then y else x := by
  rw [bes_m H hc hd, ob_w H hc hd]
  cases hn : nbw w g c d with
  | none => simp [encI, ob]
  | some q =>
    have hq := nbw_lt hc hd hn
    rw [if_neg (encI_9 hq)]
    show (if f_m_isFree (nI q) h = 0 then x else y) = if bq (h.2 39 8) q then y else x
    rw [isFree_m hq]
    cases bq (h.2 39 8) q <;> simp [bI]
theorem looks_m1 {h : Hp} {w g c : Nat} (H : RHl h w g) (hc : cellIn w g c) : f_m_looks (nI c) h = some (nI (lookV h c)) := by
  unfold f_m_looks
  have hc64 := hc.1
  have st : ∀ (i fuel : Nat) (acc : Int32) (k : Int32 → Int32 → Option Int32), i < 4 → f_m_looks_L_1 (nI c) h k (fuel + 1) acc (nI i) = f_m_looks_L_1 (nI c) h k fuel (acc ||| (if ob (h.2 39 8) (nbr c i) then jshl 1 (nI i) else 0)) (nI (i + 1)) := by
    intro i fuel acc k hi
    rw [f_m_looks_L_1, if_neg (nleL 4 hi), nI_1, bes_if H hc64 hi]
  obtain ⟨s1, s2⟩ := sg_ok H hc
  have e5 : ∀ (f : Nat) (acc : Int32) (k : Int32 → Int32 → Option Int32), f_m_looks_L_1 (nI c) h k (f + 1) acc (nI 4) = k acc (nI 4) := fun f acc k => by rw [f_m_looks_L_1, if_pos (by decide)]
  refine ((st 0 999 0 _ (by decide)).trans ((st 1 998 _ _ (by decide)).trans ((st 2 997 _ _ (by decide)).trans ((st 3 996 _ _ (by decide)).trans (e5 995 _ _))))).trans ?_
  rw [lk_or, xin_nI hc64 (by decide), clampc (by omega), s2]
  have := lk_sign (sgF h c) s1
  show xgd (true && true) _ = some (nI (lkB (h.2 39 8) c + 16 * mkOf (sgF h c)))
  rw [← nI_add, ← this]
  show (if f_m_in (nI (sgF h c)) 49 57 = 0 then _ else xgd (true && true) _) = _
  split <;> rfl
/-- look: those of a set that are so -/
def flt (S : Int64) (P : Nat → Bool) : Nat → Int64
  | 0 => S
  | n + 1 => if bq (flt S P n) n && P n then flt S P n else flt S P n &&& (jshlL 1 (nI n) ^^^ (-1))
theorem flt_bit (S : Int64) (P : Nat → Bool) {q : Nat} (hq : q < 64) : ∀ n, n ≤ 64 → bq (flt S P n) q = (bq S q && (decide (n ≤ q) || P q)) := by
  intro n
  induction n with
  | zero => intro _; simp [flt]
  | succ n ih =>
    intro hn
    have ihq := ih (by omega)
    by_cases e : q = n
    · subst e
      rw [flt]
      rw [ihq]
      have e1 : decide (q ≤ q) = true := by simp
      have e2 : decide (q + 1 ≤ q) = false := by simp
      rw [e1, e2]
      by_cases c : ((bq S q && (true || P q)) && P q) = true
      · rw [if_pos c, ihq, e1]
        cases h1 : bq S q <;> cases h2 : P q <;> simp [h1, h2] at c ⊢
      · rw [if_neg c, bq_and, bq_not _ hq, bq_one hq hq, ihq, e1]
        cases h1 : bq S q <;> cases h2 : P q <;> simp [h1, h2] at c ⊢
    · have e3 : decide (n + 1 ≤ q) = decide (n ≤ q) := by
        by_cases a : n ≤ q
        · rw [decide_eq_true a, decide_eq_true (by omega)]
        · rw [decide_eq_false a, decide_eq_false (by omega)]
      rw [e3, ← ihq, flt]
      split
      · rfl
      · rw [bq_and, bq_not _ hq, bq_one (by omega) hq]; simp [e]
theorem xL_id (h : Hp) (c j : Nat) : xL h c j (h.2 c j) = h := by
  refine hp_ext2 (h := xL h c j (h.2 c j)) (h' := h) rfl (fun a b => ?_)
  rw [xL_2]
  split
  · next e => rw [e.1, e.2]
  · rfl
theorem look_loop {h : Hp} {w g : Nat} (H : RHl h w g) (hl : sub (h.2 39 9) (h.2 39 8)) (b m : Nat) (k : Int32 → Hp → Option (Int32 × Hp)) (P : Nat → Bool) (hP : ∀ i, i < 64 → cellIn w g i → (nI (lookV h i) = nI b + 16 * nI m ↔ P i = true)) : f_m_look_L_3 (nI b) (nI m) k 1000 0 h = k (nI 64) (xL h 39 9 (flt (h.2 39 9) P 64)) := by
  have := lp0 (fun f (s : Int32 × Hp) => f_m_look_L_3 (nI b) (nI m) k f s.1 s.2) 64 (fun i => (nI i, xL h 39 9 (flt (h.2 39 9) P i))) (k (nI 64) (xL h 39 9 (flt (h.2 39 9) P 64))) (by omega) (fun f => ?_) (fun f i hi => ?_)
  · simp only at this
    have e0 : xL h 39 9 (flt (h.2 39 9) P 0) = h := xL_id h 39 9
    rw [e0] at this
    exact this
  · simp only
    rw [f_m_look_L_3, if_pos (by decide)]
  · simp only
    have K : RHl (xL h 39 9 (flt (h.2 39 9) P i)) w g := H.of rfl rfl rfl rfl rfl rfl rfl rfl rfl rfl rfl rfl
    have e9 : (xL h 39 9 (flt (h.2 39 9) P i)).2 39 9 = flt (h.2 39 9) P i := xL_at _ _ _ _
    rw [f_m_look_L_3, if_neg (nleL 64 hi), e9, tst_s hi, nI_1]
    have hb := flt_bit (h.2 39 9) P hi i (by omega)
    cases hc : bq (flt (h.2 39 9) P i) i with
    | false =>
      rw [if_neg (fun q => absurd ((bL_1 false).mp q) (by decide))]
      unfold f_m_look_j_15 f_m_look_j_16
      rw [e9, xL_xL, nI_1, if_pos rfl]
      show _ = f_m_look_L_3 (nI b) (nI m) k f (nI (i + 1)) (xL h 39 9 (flt (h.2 39 9) P (i + 1)))
      rw [flt, hc, if_neg (by simp)]
    | true =>
      rw [if_pos ((bL_1 true).mpr rfl)]
      have hfree : bq (h.2 39 8) i = true := by
        apply hl i hi
        rw [hc] at hb
        cases h1 : bq (h.2 39 9) i with
        | true => rfl
        | false => rw [h1] at hb; simp at hb
      have hcell := free_in H hi hfree
      rw [looks_m1 K hcell, xbd1_some, xL_xL]
      show f_m_look_L_3 (nI b) (nI m) k f (nI (i + 1)) (xL h 39 9 (if (if nI (lookV h i) = nI b + 16 * nI m then (1 : Int32) else 0) = 0 then _ else _)) = f_m_look_L_3 (nI b) (nI m) k f (nI (i + 1)) (xL h 39 9 (flt (h.2 39 9) P (i + 1)))
      rw [flt, hc]
      by_cases hp : P i = true
      · rw [if_pos ((hP i hi hcell).mpr hp), if_neg (by decide), hp]; rfl
      · rw [if_neg (fun z => hp ((hP i hi hcell).mp z)), if_pos rfl, if_neg (by simp [hp])]
theorem lost_set {h : Hp} (HR : RelB h) {S : Int64} (hs : sub S (h.2 39 8)) : RelB (xL (xL h 0 8 S) 39 9 S) ∧ PK h (xL (xL h 0 8 S) 39 9 S) := by
  obtain ⟨w, g, np, nc, nl, tk, no, H0, H1, H2, H3, H4, H5, H6, H7, H8⟩ := HR
  exact ⟨⟨w, g, np, nc, nl, tk, no, H0.of rfl rfl rfl rfl, H1.of rfl rfl rfl rfl rfl rfl rfl rfl rfl rfl rfl rfl, H2.of rfl rfl rfl rfl rfl rfl rfl rfl rfl rfl rfl rfl rfl rfl rfl rfl rfl rfl, H3.of rfl rfl rfl rfl rfl rfl rfl rfl rfl rfl rfl rfl rfl rfl rfl rfl rfl rfl, H4.of rfl rfl rfl rfl rfl rfl rfl rfl rfl rfl rfl rfl rfl rfl rfl rfl rfl rfl, H5.of rfl rfl rfl rfl rfl rfl rfl rfl rfl, ⟨rfl, fun c hc e => hs c hc e⟩, H7, H8⟩, Or.inr ⟨rfl, rfl, rfl, rfl, rfl, fun _ _ => rfl, rfl, rfl, rfl, rfl⟩⟩
theorem rng (n : Nat) (hn : n < 2 ^ 29) (i : Int32) : ((i < 0 ∨ (OfNat.ofNat (n + 1) : Int32) ≤ i) ∧ f_m_in i 0 (OfNat.ofNat n) = 0) ∨ ∃ k, k ≤ n ∧ i = nI k ∧ f_m_in (nI k) 0 (OfNat.ofNat n) = 1 := by
  rcases ix_x (n := n + 1) (by omega) i with ⟨a, b⟩ | ⟨k, hk, rfl⟩
  · left
    exact ⟨a, in_lit0 (by rw [tI 0, tI n (by omega)]; omega)⟩
  · exact Or.inr ⟨k, by omega, rfl, in_lit1 (by rw [tI 0, tI n (by omega), nI_toInt (by omega)]; omega)⟩
theorem ok_look (b m : Int32) : Ok2 (f_x_look b m) (f_m_look b m) := by
  intro h HR
  have HR2 := HR
  obtain ⟨w, g, np, nc, nl, tk, no, H0, H1, H2, H3, H4, H5, H6, H7, H8⟩ := HR2
  have hf := H1.2.2.2.1.1
  unfold f_x_look f_m_look
  rcases rng 15 (by decide) b with ⟨x, y⟩ | ⟨k, hk, rfl, y⟩
  · refine ⟨-1, h, h, ?_, by rw [y, if_pos rfl], HR, PK.rf h⟩
    rcases x with x | x
    · rw [if_pos x]
    · by_cases z : b < 0
      · rw [if_pos z]
      · rw [if_neg z, if_pos x]
  · rw [if_neg (nI_pos (by omega)), if_neg (nleL 16 (by omega))]
    rcases range0 9 (by decide) m with ⟨x, y2⟩ | ⟨j, hj, rfl, y2, p1, p2⟩
    · refine ⟨-1, h, h, ?_, by rw [y, if_neg one_ne, y2, if_pos rfl], HR, PK.rf h⟩
      rcases x with x | x
      · rw [if_pos x]
      · by_cases z : m < 0
        · rw [if_pos z]
        · rw [if_neg z, if_neg x]
    · rw [if_neg p1, if_pos p2, looksLike_x (by omega), xbd1_some, xin_nI (n := 10) (by omega) (by decide), clampc (by omega)]
      have hsub : sub (h.2 39 9) (h.2 39 8) := H6.2
      have key : h.2 0 8 &&& (lkS h k &&& h.2 5 j) = flt (h.2 39 9) (fun i => decide (lookV h i = k + 16 * j)) 64 := by
        apply bq_ext
        intro q hq
        rw [bq_and, bq_and, lkS_bit (by omega) hq, flt_bit _ _ hq 64 (by omega), H6.1, hf, decide_eq_false (show ¬ 64 ≤ q by omega), Bool.false_or]
        cases hb : bq (h.2 39 9) q with
        | false => rfl
        | true =>
          have hfr := hsub q hq hb
          have hcell := free_in H1 hq hfr
          rw [hfr, mk_bit H1 hcell (by omega)]
          have := lkB_lt (h.2 39 8) q
          simp only [Bool.true_and]
          unfold lookV
          by_cases e1 : lkB (h.2 39 8) q = k
          · by_cases e2 : mkOf (sgF h q) = j
            · rw [decide_eq_true e1, decide_eq_true e2, decide_eq_true (by omega)]; rfl
            · rw [decide_eq_false e2, decide_eq_false (show ¬ lkB (h.2 39 8) q + 16 * mkOf (sgF h q) = k + 16 * j by omega), Bool.and_false]
          · rw [decide_eq_false e1, decide_eq_false (show ¬ lkB (h.2 39 8) q + 16 * mkOf (sgF h q) = k + 16 * j by omega), Bool.false_and]
      rw [key]
      generalize hS : flt (h.2 39 9) (fun i => decide (lookV h i = k + 16 * j)) 64 = S
      have hSs : sub S (h.2 39 8) := by
        intro q hq e
        rw [← hS, flt_bit _ _ hq 64 (by omega)] at e
        apply hsub q hq
        cases hb : bq (h.2 39 9) q with
        | true => rfl
        | false => rw [hb] at e; simp at e
      obtain ⟨R1, R2⟩ := lost_set HR hSs
      refine ⟨nI (cnt (bq S) 64), xL h 0 8 S, xL (xL h 0 8 S) 39 9 S, ?_, ?_, R1, R2⟩
      · rw [bitCount_eq]; rfl
      · have K : RHl (xL h 0 8 S) w g := H1.of rfl rfl rfl rfl rfl rfl rfl rfl rfl rfl rfl rfl
        have lk : ∀ i, lookV (xL h 0 8 S) i = lookV h i := fun i => rfl
        rw [y, if_neg one_ne, y2, if_neg one_ne, look_loop K (show sub ((xL h 0 8 S).2 39 9) ((xL h 0 8 S).2 39 8) from hsub) k j _ (fun i => decide (lookV h i = k + 16 * j)) (fun i hi hc => by
          rw [lk, nI_lit 16, pk_mul, nI_add, eqN (by have := lookV_lt h i; omega) (by omega)]
          simp)]
        have e9 : (xL h 0 8 S).2 39 9 = h.2 39 9 := rfl
        rw [e9, hS, xL_at, bitsIn_m, xbd1_some]
/-- step -/
def tgt (fr : Int64) (d c : Nat) : Int64 := match nbr c d with
  | some o => if bq fr o then one o else one c
  | none => one c
def stS (fr S : Int64) (d : Nat) : Int64 := orF (fun c => if bq S c then tgt fr d c else 0) 64
theorem stepped_m {h : Hp} {w g d : Nat} (H : RHl h w g) (hd : d < 4) : f_m_stepped (nI d) h = some (stS (h.2 39 8) (h.2 39 9) d) := by
  unfold f_m_stepped
  refine lp0 (fun f (s : Int64 × Int32) => f_m_stepped_L_1 (nI d) h (fun l2_8 l4_9 => some l2_8) f s.1 s.2) 64 (fun i => (orF (fun c => if bq (h.2 39 9) c then tgt (h.2 39 8) d c else 0) i, nI i)) _ (by omega) (fun f => ?_) (fun f i hi => ?_)
  · simp only
    rw [f_m_stepped_L_1, if_pos (by decide)]; rfl
  · simp only
    rw [f_m_stepped_L_1, if_neg (nleL 64 hi), nI_1, tst_s hi]
    congr 1
    show _ = orF (fun c => if bq (h.2 39 9) c then tgt (h.2 39 8) d c else 0) i ||| (if bq (h.2 39 9) i then tgt (h.2 39 8) d i else 0)
    cases hb : bq (h.2 39 9) i with
    | false =>
      rw [if_neg (fun q => absurd ((bL_1 false).mp q) (by decide))]
      simp [or_0]
    | true =>
      rw [if_pos ((bL_1 true).mpr rfl), if_pos rfl, bes_m H hi hd]
      unfold tgt
      cases hn : nbw w g i d with
      | none =>
        have e1 := ob_w H hi hd
        rw [hn] at e1
        rw [if_pos (show encI none = (-9 : Int32) from rfl)]
        cases hn2 : nbr i d with
        | none => rfl
        | some o =>
          rw [hn2] at e1
          have e1 : bq (h.2 39 8) o = false := e1
          simp [e1, one]
      | some o =>
        have ho := nbw_lt hi hd hn
        rw [(nbw_some hn).1, if_neg (encI_9 ho)]
        show (if f_m_isFree (nI o) h = 0 then _ else _) = _
        rw [isFree_m ho]
        cases hb2 : bq (h.2 39 8) o <;> simp [bI, one, encI, hb2]
theorem stS_bit {fr S : Int64} {d q : Nat} (hd : d < 4) (hq : q < 64) : bq (stS fr S d) q = ((ob S (nbr q (opp d)) && bq fr q) || (bq S q && !ob fr (nbr q d))) := by
  have key : bq (stS fr S d) q = true ↔ (ob S (nbr q (opp d)) = true ∧ bq fr q = true) ∨ (bq S q = true ∧ ob fr (nbr q d) = false) := by
    unfold stS
    rw [bq_orF]
    constructor
    · rintro ⟨c, hc, e⟩
      cases hb : bq S c with
      | false => rw [hb] at e; simp [bq_0] at e
      | true =>
        rw [hb, if_pos rfl] at e
        unfold tgt at e
        cases hn : nbr c d with
        | none =>
          rw [hn] at e
          have e : bq (one c) q = true := e
          rw [bq_onec hc hq] at e
          have := of_decide_eq_true e
          subst this
          exact Or.inr ⟨hb, by rw [hn]; rfl⟩
        | some o =>
          rw [hn] at e
          have ho := nbr_lt64 hc hd hn
          have e : bq (if bq fr o then one o else one c) q = true := e
          cases hf : bq fr o with
          | true =>
            rw [hf, if_pos rfl, bq_onec ho hq] at e
            have := of_decide_eq_true e
            subst this
            left
            rw [(opp_iff c hc d hd q hq).mp hn]
            exact ⟨hb, hf⟩
          | false =>
            rw [hf, if_neg (by decide), bq_onec hc hq] at e
            have := of_decide_eq_true e
            subst this
            exact Or.inr ⟨hb, by rw [hn]; exact hf⟩
    · rintro (⟨a, b⟩ | ⟨a, b⟩)
      · cases hn : nbr q (opp d) with
        | none => rw [hn] at a; exact absurd a (by simp [ob])
        | some c =>
          rw [hn] at a
          have hc := nbr_lt64 hq (opp_lt d hd) hn
          have a : bq S c = true := a
          refine ⟨c, hc, ?_⟩
          rw [a, if_pos rfl]
          unfold tgt
          rw [(opp_iff c hc d hd q hq).mpr hn]
          show bq (if bq fr q then one q else one c) q = true
          rw [b, if_pos rfl, bq_onec hq hq]; simp
      · refine ⟨q, hq, ?_⟩
        rw [a, if_pos rfl]
        unfold tgt
        cases hn : nbr q d with
        | none => exact (bq_onec hq hq).trans (by simp)
        | some o =>
          rw [hn] at b
          have b : bq fr o = false := b
          show bq (if bq fr o then one o else one q) q = true
          rw [b, if_neg (by decide), bq_onec hq hq]; simp
  cases h1 : ob S (nbr q (opp d)) <;> cases h2 : bq fr q <;> cases h3 : bq S q <;> cases h4 : ob fr (nbr q d) <;> rw [h1, h2, h3, h4] at key <;> simp at key ⊢ <;> exact key
theorem stepped_x {h : Hp} {w g d : Nat} (H : RHl h w g) (hd : d < 4) (hl : h.2 0 8 = h.2 39 9) : f_hall_stepped (h.2 0 8) (nI d) h = stS (h.2 39 8) (h.2 39 9) d := by
  have hf := H.2.2.2.1.1
  apply bq_ext
  intro q hq
  unfold f_hall_stepped
  rw [stS_bit hd hq, bq_or, bq_and, bq_and, bq_not _ hq, sh_ob _ hd hq, canStep_bit hd hq, hl, hf]
theorem stS_sub {fr S : Int64} (hs : sub S fr) {d : Nat} (hd : d < 4) : sub (stS fr S d) fr := by
  intro q hq e
  rw [stS_bit hd hq] at e
  cases hf : bq fr q with
  | true => rfl
  | false =>
    rw [hf] at e
    cases hb : bq S q with
    | true => exact absurd (hs q hq hb) (by simp [hf])
    | false => rw [hb] at e; simp at e
theorem ok_step (d : Int32) {h : Hp} (HR : RelB h) : ∃ r h1 h2, f_x_step d h = (r, h1) ∧ f_m_step d h1 = some (r, h2) ∧ RelB h2 ∧ PK h h2 := by
  have HR2 := HR
  obtain ⟨w, g, np, nc, nl, tk, no, H0, H1, H2, H3, H4, H5, H6, H7, H8⟩ := HR2
  unfold f_x_step f_m_step
  rcases rng 3 (by decide) d with ⟨x, y⟩ | ⟨k, hk, rfl, y⟩
  · refine ⟨-1, h, h, ?_, by rw [y, if_pos rfl], HR, PK.rf h⟩
    rcases x with x | x
    · rw [if_pos x]
    · by_cases z : d < 0
      · rw [if_pos z]
      · have x : (4 : Int32) ≤ d := x
        rw [if_neg z, if_neg (by rw [ltI]; rw [leI] at x; omega)]
  · rw [if_neg (nI_pos (by omega)), if_pos (ltL 4 (by omega)), stepped_x H1 (by omega) H6.1]
    have hs := stS_sub H6.2 (d := k) (by omega)
    obtain ⟨R1, R2⟩ := lost_set HR hs
    refine ⟨_, _, _, rfl, ?_, R1, R2⟩
    have K : RHl (xL h 0 8 (stS (h.2 39 8) (h.2 39 9) k)) w g := H1.of rfl rfl rfl rfl rfl rfl rfl rfl rfl rfl rfl rfl
    rw [y, if_neg one_ne, stepped_m K (by omega), xbd1_some, bitsIn_m, xbd1_some, bitCount_eq]
    rfl
