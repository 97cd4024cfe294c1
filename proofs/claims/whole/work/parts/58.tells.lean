/-! ===== tells ===== -/
theorem cnt_or1 (A : Nat → Bool) (b : Bool) (k : Nat) : ∀ M, cnt (fun v => A v || (b && decide (k = v))) M = cnt A M + (if b && !A k && decide (k < M) then 1 else 0) := by
  intro M
  induction M with
  | zero => simp [cnt]
  | succ M ih =>
    rw [cnt, ih, cnt]
    by_cases e : k = M
    · subst e
      have e1 : decide (k < k) = false := by simp
      have e2 : decide (k < k + 1) = true := by simp
      have e3 : decide (k = k) = true := by simp
      rw [e1, e2, e3]
      cases b <;> cases A k <;> simp
    · have e1 : decide (k < M + 1) = decide (k < M) := by
        by_cases a : k < M
        · rw [decide_eq_true a, decide_eq_true (by omega)]
        · rw [decide_eq_false a, decide_eq_false (by omega)]
      rw [e1, decide_eq_false e, Bool.and_false, Bool.or_false]
      omega
/-- how many unlike values -/
theorem cnt_vals (P : Nat → Bool) (f : Nat → Nat) (M : Nat) (hf : ∀ c, f c < M) : ∀ n, cnt (fun v => exB (fun c => P c && decide (f c = v)) n) M = cnt (fun c => P c && !exB (fun c' => P c' && decide (f c' = f c)) c) n := by
  intro n
  induction n with
  | zero =>
    have : ∀ M, cnt (fun v => exB (fun c => P c && decide (f c = v)) 0) M = 0 := by
      intro M
      induction M with
      | zero => rfl
      | succ M ih => rw [cnt, ih]; rfl
    rw [this]; rfl
  | succ n ih =>
    have e : cnt (fun v => exB (fun c => P c && decide (f c = v)) (n + 1)) M = cnt (fun v => exB (fun c => P c && decide (f c = v)) n || (P n && decide (f n = v))) M := cnt_congr M (fun v _ => rfl)
    rw [e, cnt_or1, ih, cnt, decide_eq_true (hf n), Bool.and_true]
theorem cnt_sum {A B C : Nat → Bool} : ∀ n, (∀ i, i < n → (C i = (A i || B i)) ∧ (A i && B i) = false) → cnt C n = cnt A n + cnt B n := by
  intro n
  induction n with
  | zero => intro _; rfl
  | succ n ih =>
    intro h
    have h1 := h n (by omega)
    rw [cnt, cnt, cnt, ih (fun i hi => h i (by omega)), h1.1]
    have h2 := h1.2
    cases hA : A n <;> cases hB : B n <;> rw [hA, hB] at h2 <;> simp at h2 ⊢ <;> omega
theorem cnt_false {A : Nat → Bool} : ∀ n, (∀ i, i < n → A i = false) → cnt A n = 0 := by
  intro n
  induction n with
  | zero => intro _; rfl
  | succ n ih => intro h; rw [cnt, ih (fun i hi => h i (by omega)), h n (by omega)]; rfl
theorem exB_false {P : Nat → Bool} {n : Nat} (h : ∀ i, i < n → P i = false) : exB P n = false := by
  cases hb : exB P n with
  | false => rfl
  | true =>
    obtain ⟨i, hi, e⟩ := (exB_iff P n).mp hb
    rw [h i hi] at e; cases e
theorem add_cong {a b c d : Nat} (h1 : a = c) (h2 : b = d) : a + b = c + d := by rw [h1, h2]
def UNL (h : Hp) (U : Int64) : Nat := cnt (fun c => bq U c && !exB (fun c' => bq U c' && decide (lookV h c' = lookV h c)) c) 64
theorem unl_eq {h : Hp} {w g : Nat} (H : RHl h w g) {U : Int64} (hU : sub U (h.2 39 8)) : UNL h U = cnt (fun c => bq U c && !bq (h.2 5 0) c) 64 + cnt (fun v => exB (fun c => (bq U c && bq (h.2 5 0) c) && decide (lkB (h.2 39 8) c = v)) 64) 16 := by
  have hcell : ∀ c, c < 64 → bq U c = true → cellIn w g c := fun c hc e => free_in H hc (hU c hc e)
  unfold UNL
  rw [← cnt_vals (bq U) (lookV h) 160 (lookV_lt h) 64]
  rw [cnt_sum (A := fun v => exB (fun c => (bq U c && !bq (h.2 5 0) c) && decide (lookV h c = v)) 64) (B := fun v => exB (fun c => (bq U c && bq (h.2 5 0) c) && decide (lookV h c = v)) 64) 160 (fun v hv => ⟨?_, ?_⟩)]
  · refine add_cong ?_ ?_
    · rw [cnt_vals (fun c => bq U c && !bq (h.2 5 0) c) (lookV h) 160 (lookV_lt h) 64]
      refine cnt_congr 64 (fun c hc => ?_)
      cases hb : bq U c with
      | false => simp
      | true =>
        cases hm : bq (h.2 5 0) c with
        | true => simp
        | false =>
          simp only [Bool.true_and, Bool.not_false]
          rw [exB_false]; rfl
          intro c' hc'
          cases hb' : bq U c' with
          | false => simp
          | true =>
            cases hm' : bq (h.2 5 0) c' with
            | true => simp
            | false =>
              simp only [Bool.true_and, Bool.not_false]
              apply decide_eq_false
              intro e
              have i1 := hcell c hc hb
              have i2 := hcell c' (by omega) hb'
              rw [mk_bit H i1 (by decide)] at hm
              rw [mk_bit H i2 (by decide)] at hm'
              have n1 := of_decide_eq_false hm
              have n2 := of_decide_eq_false hm'
              obtain ⟨s1, s2⟩ := sg_ok H i1
              obtain ⟨t1, t2⟩ := sg_ok H i2
              have l1 := lkB_lt (h.2 39 8) c
              have l2 := lkB_lt (h.2 39 8) c'
              unfold lookV at e
              have em : mkOf (sgF h c') = mkOf (sgF h c) := by omega
              have es : sgF h c' = sgF h c := by
                unfold mkOf at em n1 n2
                split at em
                · split at em
                  · omega
                  · omega
                · next q => rw [if_neg q] at n2; exact absurd rfl n2
              rw [es] at t2
              have := H.2.2.2.2.2.2.2 c c' (sgF h c) i1 i2 s1 s2 t2 n1
              omega
    · have e : (160 : Nat) = 16 + 144 := rfl
      rw [e, cnt_add, cnt_false (A := fun i => exB (fun c => (bq U c && bq (h.2 5 0) c) && decide (lookV h c = 16 + i)) 64) 144, Nat.add_zero]
      · refine cnt_congr 16 (fun v hv => exB_congr 64 (fun c hc => ?_))
        cases hb : bq U c with
        | false => simp
        | true =>
          cases hm : bq (h.2 5 0) c with
          | false => simp
          | true =>
            rw [mk_bit H (hcell c hc hb) (by decide)] at hm
            have := of_decide_eq_true hm
            unfold lookV
            rw [this]; simp
      · intro i hi
        apply exB_false
        intro c hc
        cases hb : bq U c with
        | false => simp
        | true =>
          cases hm : bq (h.2 5 0) c with
          | false => simp
          | true =>
            rw [mk_bit H (hcell c hc hb) (by decide)] at hm
            have := of_decide_eq_true hm
            have l := lkB_lt (h.2 39 8) c
            simp only [Bool.true_and]
            apply decide_eq_false
            unfold lookV
            rw [this]; omega
  · have : ∀ b : Bool, exB (fun c => bq U c && decide (lookV h c = v)) 64 = b → (exB (fun c => (bq U c && !bq (h.2 5 0) c) && decide (lookV h c = v)) 64 || exB (fun c => (bq U c && bq (h.2 5 0) c) && decide (lookV h c = v)) 64) = b := by
      intro b hb
      cases b with
      | false =>
        rw [exB_false, exB_false]; rfl
        · intro i hi
          cases h1 : (bq U i && decide (lookV h i = v)) with
          | true => exact absurd ((exB_iff _ 64).mpr ⟨i, hi, h1⟩) (by rw [hb]; decide)
          | false => cases h2 : bq U i <;> rw [h2] at h1 <;> simp at h1 ⊢ ; intro _; exact h1
        · intro i hi
          cases h1 : (bq U i && decide (lookV h i = v)) with
          | true => exact absurd ((exB_iff _ 64).mpr ⟨i, hi, h1⟩) (by rw [hb]; decide)
          | false => cases h2 : bq U i <;> rw [h2] at h1 <;> simp at h1 ⊢ ; intro _; exact h1
      | true =>
        obtain ⟨i, hi, e⟩ := (exB_iff _ 64).mp hb
        cases h1 : bq (h.2 5 0) i with
        | true =>
          rw [Bool.or_eq_true]; right
          exact (exB_iff _ 64).mpr ⟨i, hi, by rw [h1, Bool.and_true]; exact e⟩
        | false =>
          rw [Bool.or_eq_true]; left
          exact (exB_iff _ 64).mpr ⟨i, hi, by rw [h1, Bool.not_false, Bool.and_true]; exact e⟩
    exact (this _ rfl).symm
  · cases h1 : exB (fun c => (bq U c && !bq (h.2 5 0) c) && decide (lookV h c = v)) 64 with
    | false => rfl
    | true =>
      cases h2 : exB (fun c => (bq U c && bq (h.2 5 0) c) && decide (lookV h c = v)) 64 with
      | false => rfl
      | true =>
        exfalso
        obtain ⟨i, hi, e1⟩ := (exB_iff _ 64).mp h1
        obtain ⟨j, hj, e2⟩ := (exB_iff _ 64).mp h2
        simp only [Bool.and_eq_true, Bool.not_eq_true', decide_eq_true_eq] at e1 e2
        obtain ⟨⟨a1, a2⟩, a3⟩ := e1
        obtain ⟨⟨b1, b2⟩, b3⟩ := e2
        rw [mk_bit H (hcell i hi a1) (by decide)] at a2
        rw [mk_bit H (hcell j hj b1) (by decide)] at b2
        have n1 := of_decide_eq_false a2
        have n2 := of_decide_eq_true b2
        have l1 := lkB_lt (h.2 39 8) i
        have l2 := lkB_lt (h.2 39 8) j
        unfold lookV at a3 b3
        omega
theorem lg_ne {v : Int64} : (lg_cmp v 0 = 0) ↔ exB (fun c => bq v c) 64 = false := by
  rw [lg_eq]
  constructor
  · intro e; subst e
    exact exB_false (fun i _ => bq_0 i)
  · intro e
    apply bq_ext
    intro i hi
    rw [bq_0]
    cases hb : bq v i with
    | false => rfl
    | true => exact absurd ((exB_iff _ 64).mpr ⟨i, hi, hb⟩) (by rw [e]; decide)
theorem unlike_x {h : Hp} {w g : Nat} (H : RHl h w g) {U : Int64} (hU : sub U (h.2 39 8)) : f_hall_unlikeLooks U h = some (nI (UNL h U)) := by
  have hf := H.2.2.2.1.1
  rw [unl_eq H hU]
  unfold f_hall_unlikeLooks
  have e0 : f_j_bitCount (U &&& (h.2 5 0 ^^^ -1)) = nI (cnt (fun c => bq U c && !bq (h.2 5 0) c) 64) := by
    rw [bitCount_eq, cnt_congr (Q := fun c => bq U c && !bq (h.2 5 0) c) 64 (fun i hi => by rw [bq_and, bq_not _ hi])]
  rw [e0]
  generalize cnt (fun c => bq U c && !bq (h.2 5 0) c) 64 = N
  refine lp0 (fun f (s : Int32 × Int32) => f_hall_unlikeLooks_L_1 U h (fun l3_8 l4_9 => some l3_8) f s.1 s.2) 16 (fun i => (nI (N + cnt (fun v => exB (fun c => (bq U c && bq (h.2 5 0) c) && decide (lkB (h.2 39 8) c = v)) 64) i), nI i)) _ (by omega) (fun f => ?_) (fun f i hi => ?_)
  · simp only
    rw [f_hall_unlikeLooks_L_1, if_pos (by decide)]
  · simp only
    rw [f_hall_unlikeLooks_L_1, if_neg (nleL 16 hi), nI_1 i, looksLike_x hi, xbd1_some]
    congr 1
    have e : exB (fun c => bq ((U &&& h.2 5 0) &&& lkS h i) c) 64 = exB (fun c => (bq U c && bq (h.2 5 0) c) && decide (lkB (h.2 39 8) c = i)) 64 := by
      refine exB_congr 64 (fun c hc => ?_)
      rw [bq_and, bq_and, lkS_bit hi hc, hf]
      cases hb : bq U c with
      | false => simp
      | true => rw [hU c hc hb]; simp
    rw [cnt]
    cases hb : exB (fun c => (bq U c && bq (h.2 5 0) c) && decide (lkB (h.2 39 8) c = i)) 64 with
    | false => rw [if_pos (lg_ne.mpr (e.trans hb))]; simp
    | true => rw [if_neg (fun z => by rw [lg_ne, e, hb] at z; cases z), nI_1]; simp [Nat.add_assoc]
/-- the reference's table of looks -/
def TB (h : Hp) (U : Int64) (i : Nat) : Hp := (fun a b => if a = 51 ∧ b < 160 then bI (exB (fun c => bq U c && decide (lookV h c = b)) i) else h.1 a b, h.2)
theorem nar0 : vp_nar .boolean (0 : Int32) = 0 := by decide
theorem nar1 : vp_nar .boolean (1 : Int32) = 1 := by decide
theorem TB_0 (h : Hp) (U : Int64) : fl h 51 0 160 0 = TB h U 0 := by
  refine hp_ext (fun a b => ?_) (by rfl)
  simp [fl, TB, exB, bI]
theorem exB_s (P : Nat → Bool) (n : Nat) : exB P (n + 1) = (exB P n || P n) := rfl
theorem TB_f (h : Hp) (U : Int64) {i : Nat} (hb : bq U i = false) : TB h U i = TB h U (i + 1) := by
  refine hp_ext (fun a b => ?_) (by rfl)
  simp [TB, exB_s, hb]
theorem TB_t (h : Hp) (U : Int64) {i : Nat} (hb : bq U i = true) : xI (TB h U i) 51 (lookV h i) 1 = TB h U (i + 1) := by
  refine hp_ext (fun a b => ?_) (by rfl)
  rw [xI_1]
  simp only [TB, exB_s, hb, Bool.true_and]
  by_cases e : a = 51 ∧ b = lookV h i
  · rw [if_pos e]
    obtain ⟨rfl, rfl⟩ := e
    rw [if_pos ⟨rfl, lookV_lt h i⟩]
    simp [bI]
  · rw [if_neg e]
    by_cases e2 : a = 51 ∧ b < 160
    · rw [if_pos e2, if_pos e2]
      have : ¬ lookV h i = b := fun z => e ⟨e2.1, z.symm⟩
      simp [this]
    · rw [if_neg e2, if_neg e2]
theorem TB_t2 (h : Hp) (U : Int64) {i : Nat} (hb : exB (fun c => bq U c && decide (lookV h c = lookV h i)) i = true) : TB h U i = TB h U (i + 1) := by
  refine hp_ext (fun a b => ?_) (by rfl)
  simp only [TB, exB_s]
  by_cases e2 : a = 51 ∧ b < 160
  · rw [if_pos e2, if_pos e2]
    by_cases e : lookV h i = b
    · subst e; rw [hb]; simp
    · simp [e]
  · rw [if_neg e2, if_neg e2]
def F51 (h h' : Hp) : Prop := h'.2 = h.2 ∧ ∀ a, a ≠ 51 → h'.1 a = h.1 a
theorem TB_F51 (h : Hp) (U : Int64) (i : Nat) : F51 h (TB h U i) := ⟨rfl, fun a ha => by funext b; simp [TB, ha]⟩
theorem F51.rhl {h h' : Hp} (F : F51 h h') {w g : Nat} (H : RHl h w g) : RHl h' w g := by
  have e := F.2
  refine H.of ?_ ?_ ?_ ?_ ?_ ?_ ?_ ?_ ?_ ?_ ?_ ?_ <;> first | rw [F.1] | rw [e _ (by decide)]
theorem F51.lookV {h h' : Hp} (F : F51 h h') (c : Nat) : lookV h' c = lookV h c := by
  show lkB (h'.2 39 8) c + 16 * mkOf (h'.1 41 c).toNatClampNeg = lkB (h.2 39 8) c + 16 * mkOf (h.1 41 c).toNatClampNeg
  rw [F.1, F.2 41 (by decide)]
theorem F51.unl {h h' : Hp} (F : F51 h h') (U : Int64) : UNL h' U = UNL h U := by
  unfold UNL
  simp only [F.lookV]
theorem F51.tr {h h' h'' : Hp} (F : F51 h h') (G : F51 h' h'') : F51 h h'' := ⟨G.1.trans F.1, fun a ha => (G.2 a ha).trans (F.2 a ha)⟩
theorem F51.rel {h h' : Hp} (F : F51 h h') (HR : RelB h) : RelB h' ∧ PK h h' := by
  obtain ⟨w, g, np, nc, nl, tk, no, H0, H1, H2, H3, H4, H5, H6, H7, H8⟩ := HR
  have e1 := F.1
  have e := F.2
  refine ⟨⟨w, g, np, nc, nl, tk, no, H0.of ?_ ?_ ?_ ?_, F.rhl H1, H2.of ?_ ?_ ?_ ?_ ?_ ?_ ?_ ?_ ?_ ?_ ?_ ?_ ?_ ?_ ?_ ?_ ?_ ?_, H3.of ?_ ?_ ?_ ?_ ?_ ?_ ?_ ?_ ?_ ?_ ?_ ?_ ?_ ?_ ?_ ?_ ?_ ?_, H4.of ?_ ?_ ?_ ?_ ?_ ?_ ?_ ?_ ?_ ?_ ?_ ?_ ?_ ?_ ?_ ?_ ?_ ?_, H5.of ?_ ?_ ?_ ?_ ?_ ?_ ?_ ?_ ?_, H6.of ?_ ?_ ?_, ?_, ?_⟩, Or.inr ⟨?_, ?_, ?_, ?_, ?_, ?_, ?_, ?_, ?_, ?_⟩⟩
  all_goals first | (rw [e _ (by decide)]; exact H8) | (intro i _; rw [e _ (by decide)]) | (unfold RTr at H7 ⊢; rw [e1]; exact H7) | (rw [e1]; done) | (rw [e _ (by decide)]; done)
theorem unlike_m {h : Hp} {w g : Nat} (H : RHl h w g) {U : Int64} (hU : sub U (h.2 39 8)) : f_m_unlikeLooks U h = some (nI (UNL h U), TB h U 64) := by
  unfold f_m_unlikeLooks
  have l1 : ∀ k : Int32 → Hp → Option (Int32 × Hp), f_m_unlikeLooks_L_1 U k 1000 0 h = k (nI 160) (fl h 51 0 160 0) := by
    intro k
    have := lp0 (fun f (s : Int32 × Hp) => f_m_unlikeLooks_L_1 U k f s.1 s.2) 160 (fun i => (nI i, fl h 51 0 i 0)) (k (nI 160) (fl h 51 0 160 0)) (by omega) (fun f => ?_) (fun f i hi => ?_)
    · simp only [fl_0] at this
      exact this
    · simp only
      rw [f_m_unlikeLooks_L_1, if_pos (by decide)]
    · simp only
      rw [f_m_unlikeLooks_L_1, if_neg (nleL 160 hi), xin_nI hi (by decide), nI_1, clampc (by omega), nar0]
      have := fl_s h 51 0 i 0
      rw [Nat.zero_add] at this
      rw [this]; rfl
  rw [l1, TB_0 h U]
  refine lp0 (fun f (s : Int32 × Int32 × Hp) => f_m_unlikeLooks_L_5 U (fun l3_15 l4_16 h_17 => some (l3_15, h_17)) f s.1 s.2.1 s.2.2) 64 (fun i => (nI (cnt (fun c => bq U c && !exB (fun c' => bq U c' && decide (lookV h c' = lookV h c)) c) i), nI i, TB h U i)) _ (by omega) (fun f => ?_) (fun f i hi => ?_)
  · simp only
    rw [f_m_unlikeLooks_L_5, if_pos (by decide)]; rfl
  · simp only
    have F := TB_F51 h U i
    rw [f_m_unlikeLooks_L_5, if_neg (nleL 64 hi), tst_s hi, nI_1 i]
    cases hb : bq U i with
    | false =>
      rw [if_neg (fun q => absurd ((bL_1 false).mp q) (by decide)), ← TB_f h U hb, cnt, hb]
      rfl
    | true =>
      have hc := free_in H hi (hU i hi hb)
      have lt := lookV_lt h i
      rw [if_pos ((bL_1 true).mpr rfl), looks_m1 (F.rhl H) hc, xbd1_some, F.lookV, xin_nI lt (by decide), clampc (by omega), Bool.and_true, xgd_true]
      have e : (TB h U i).1 51 (lookV h i) = bI (exB (fun c => bq U c && decide (lookV h c = lookV h i)) i) := if_pos ⟨rfl, lt⟩
      rw [e, cnt, hb]
      cases hx : exB (fun c => bq U c && decide (lookV h c = lookV h i)) i with
      | false =>
        rw [if_pos (show bI false = (0 : Int32) from rfl), xbd1_some, nar1, xin_nI lt (by decide), clampc (by omega), Bool.and_true, xgd_true, TB_t h U hb, nI_1]
        rfl
      | true =>
        rw [if_neg (by simp [bI]), ← TB_t2 h U hx]
        rfl
theorem ok_tells (what : Int32) {h : Hp} (HR : RelB h) : ∃ r h2, f_x_tells what h = some r ∧ f_m_tells what h = some (r, h2) ∧ RelB h2 ∧ PK h h2 := by
  have HR2 := HR
  obtain ⟨w, g, np, nc, nl, tk, no, H0, H1, H2, H3, H4, H5, H6, H7, H8⟩ := HR2
  unfold f_x_tells f_m_tells
  rcases range0 1 (by decide) what with ⟨x, y⟩ | ⟨k, hk, rfl, y, p1, p2⟩
  · refine ⟨-1, h, ?_, by rw [y, if_pos rfl], HR, PK.rf h⟩
    rcases x with x | x
    · rw [if_pos x]
    · by_cases z : what < 0
      · rw [if_pos z]
      · rw [if_neg z, if_neg x]
  · rw [if_neg p1, if_pos p2, y, if_neg one_ne]
    have hsub : sub (h.2 39 9) (h.2 39 8) := H6.2
    have stx : ∀ (i f : Nat) (a b : Int32) (K : Int32 → Int32 → Int32 → Option Int32), i < 4 → f_x_tells_L_3 (nI k) h K (f + 1) a b (nI i) = f_x_tells_L_3 (nI k) h K f (if nI (UNL h (stS (h.2 39 8) (h.2 39 9) i)) ≤ b then a else nI i) (if nI (UNL h (stS (h.2 39 8) (h.2 39 9) i)) ≤ b then b else nI (UNL h (stS (h.2 39 8) (h.2 39 9) i))) (nI (i + 1)) := by
      intro i f a b K hi
      rw [f_x_tells_L_3, if_neg (nleL 4 hi), stepped_x H1 hi H6.1, unlike_x H1 (stS_sub hsub hi), xbd1_some, nI_1]
    have stm : ∀ (i f : Nat) (a b : Int32) (K : Int32 → Int32 → Int32 → Hp → Option (Int32 × Hp)) (h' : Hp), F51 h h' → i < 4 → ∃ h'', F51 h h'' ∧ f_m_tells_L_2 (nI k) K (f + 1) a b (nI i) h' = f_m_tells_L_2 (nI k) K f (if nI (UNL h (stS (h.2 39 8) (h.2 39 9) i)) ≤ b then a else nI i) (if nI (UNL h (stS (h.2 39 8) (h.2 39 9) i)) ≤ b then b else nI (UNL h (stS (h.2 39 8) (h.2 39 9) i))) (nI (i + 1)) h'' := by
      intro i f a b K h' F hi
      refine ⟨TB h' (stS (h.2 39 8) (h.2 39 9) i) 64, F.tr (TB_F51 h' _ _), ?_⟩
      have s1 := stepped_m (F.rhl H1) hi
      have s2 := unlike_m (F.rhl H1) (U := stS (h.2 39 8) (h.2 39 9) i) (by rw [F.1]; exact stS_sub hsub hi)
      rw [F.1] at s1
      rw [f_m_tells_L_2, if_neg (nleL 4 hi), s1, xbd1_some, s2, xbd2_some, nI_1, F.unl]
    obtain ⟨h1, F1, e1⟩ := stm 0 999 0 0 (fun l2_15 l3_16 l4_17 h_18 => some ((if nI k = (0 : Int32) then l2_15 else l3_16), h_18)) h ⟨rfl, fun _ _ => rfl⟩ (by decide)
    obtain ⟨h2, F2, e2⟩ := stm 1 998 _ _ (fun l2_15 l3_16 l4_17 h_18 => some ((if nI k = (0 : Int32) then l2_15 else l3_16), h_18)) h1 F1 (by decide)
    obtain ⟨h3, F3, e3⟩ := stm 2 997 _ _ (fun l2_15 l3_16 l4_17 h_18 => some ((if nI k = (0 : Int32) then l2_15 else l3_16), h_18)) h2 F2 (by decide)
    obtain ⟨h4, F4, e4⟩ := stm 3 996 _ _ (fun l2_15 l3_16 l4_17 h_18 => some ((if nI k = (0 : Int32) then l2_15 else l3_16), h_18)) h3 F3 (by decide)
    have x := (stx 0 999 0 0 (fun l2_11 l3_12 l4_13 => some (if nI k = (0 : Int32) then l2_11 else l3_12)) (by decide)).trans ((stx 1 998 _ _ _ (by decide)).trans ((stx 2 997 _ _ _ (by decide)).trans (stx 3 996 _ _ _ (by decide))))
    have m := e1.trans (e2.trans (e3.trans e4))
    obtain ⟨R1, R2⟩ := F4.rel HR
    have ex : ∀ (f : Nat) (a b : Int32) (K : Int32 → Int32 → Int32 → Option Int32), f_x_tells_L_3 (nI k) h K (f + 1) a b (nI (3 + 1)) = K a b (nI 4) := fun f a b K => by rw [f_x_tells_L_3, if_pos (by decide)]
    have em : ∀ (f : Nat) (a b : Int32) (K : Int32 → Int32 → Int32 → Hp → Option (Int32 × Hp)) (h' : Hp), f_m_tells_L_2 (nI k) K (f + 1) a b (nI (3 + 1)) h' = K a b (nI 4) h' := fun f a b K h' => by rw [f_m_tells_L_2, if_pos (by decide)]
    exact ⟨_, h4, x.trans (ex 995 _ _ _), m.trans (em 995 _ _ _ _), R1, R2⟩
