/-! ===== door ===== -/
theorem or_as (a b c : Int64) : (a ||| b) ||| c = a ||| (b ||| c) := by
  apply bq_ext; intro i _; simp only [bq_or, Bool.or_assoc]
theorem or_0 (a : Int64) : a ||| 0 = a := by
  apply bq_ext; intro i _; rw [bq_or, bq_0, Bool.or_false]
theorem taken_x {h : Hp} {np nc : Nat} (hn : nc ≤ 2) (hp : np ≤ 6) (e : h.1 6 7 = nI nc) (e2 : h.1 6 6 = nI np) : f_scene_taken_6 h = some (rowSet h 9 0 nc ||| rowSet h 7 0 np) := by
  unfold f_scene_taken_6
  rw [cTaken_x hn e, xbd1_some]
  have := lp0 (fun f s => f_scene_taken_6_L_3 h (fun l1_3 l3_4 => some l1_3) f s.1 s.2) np (fun i => (rowSet h 9 0 nc ||| rowSet h 7 0 i, nI i)) (some (rowSet h 9 0 nc ||| rowSet h 7 0 np)) (by omega) (fun f => ?_) (fun f i hi => ?_)
  · have e0 : rowSet h 7 0 0 = 0 := rfl
    simp only [e0, or_0] at this
    exact this
  · show f_scene_taken_6_L_3 h _ (f + 1) (rowSet h 9 0 nc ||| rowSet h 7 0 np) (nI np) = _
    rw [f_scene_taken_6_L_3, e2, if_pos ((leN (by omega) (by omega)).mpr (Nat.le_refl _))]
  · show f_scene_taken_6_L_3 h _ (f + 1) (rowSet h 9 0 nc ||| rowSet h 7 0 i) (nI i) = f_scene_taken_6_L_3 h _ f (rowSet h 9 0 nc ||| (rowSet h 7 0 i ||| jshlL 1 (h.1 7 (0 + i)))) (nI (i + 1))
    rw [f_scene_taken_6_L_3, e2, if_neg (fun q => absurd ((leN (by omega) (by omega)).mp q) (by omega)), xin_nI (n := 6) (by omega) (by decide), clampc (by omega), nI_1, or_as, Nat.zero_add]
    rfl
def endSet (h : Hp) (n : Nat) : Int64 := orF (fun i => jshlL 1 (h.1 31 i) ||| jshlL 1 (h.1 32 i)) n
theorem ends_x {h : Hp} {no : Nat} (hn : no ≤ 6) (e : h.1 30 7 = nI no) : f_orders_ends h = some (endSet h no) := by
  unfold f_orders_ends
  refine lp0 (fun f s => f_orders_ends_L_1 h (fun l1_3 l3_4 => some l1_3) f s.1 s.2) no (fun i => (endSet h i, nI i)) _ (by omega) (fun f => ?_) (fun f i hi => ?_)
  · show f_orders_ends_L_1 h _ (f + 1) (endSet h no) (nI no) = _
    rw [f_orders_ends_L_1, e, if_pos ((leN (by omega) (by omega)).mpr (Nat.le_refl _))]
  · show f_orders_ends_L_1 h _ (f + 1) (endSet h i) (nI i) = f_orders_ends_L_1 h _ f (endSet h i ||| (jshlL 1 (h.1 31 i) ||| jshlL 1 (h.1 32 i))) (nI (i + 1))
    rw [f_orders_ends_L_1, e, if_neg (fun q => absurd ((leN (by omega) (by omega)).mp q) (by omega)), xin_nI (n := 6) (by omega) (by decide), clampc (by omega), nI_1]
    rfl
def exB (P : Nat → Bool) : Nat → Bool
  | 0 => false
  | n + 1 => exB P n || P n
theorem exB_iff (P : Nat → Bool) : ∀ n, (exB P n = true ↔ ∃ i, i < n ∧ P i = true) := by
  intro n
  induction n with
  | zero => simp [exB]
  | succ n ih =>
    rw [exB, Bool.or_eq_true, ih]
    constructor
    · rintro (⟨i, h1, h2⟩ | h)
      · exact ⟨i, by omega, h2⟩
      · exact ⟨n, by omega, h⟩
    · rintro ⟨i, h1, h2⟩
      by_cases e : i = n
      · subst e; exact Or.inr h2
      · exact Or.inl ⟨i, by omega, h2⟩
theorem bI_ite (p : Prop) [Decidable p] : (if p then (1 : Int32) else (0 : Int32)) = bI (decide p) := by
  by_cases h : p <;> simp [h, bI]
theorem isEnd_m {h : Hp} {np nc no : Nat} (hc : nc ≤ 2) (hp : np ≤ 6) (ho : no ≤ 6) (e1 : h.1 39 25 = nI no) (e2 : h.1 39 12 = nI np) (e3 : h.1 39 15 = nI nc) (c : Int32) : f_m_isEnd c h = some (bI ((exB (fun i => decide (h.1 52 i = c) || decide (h.1 53 i = c)) no || exB (fun i => decide (h.1 43 i = c)) np) || exB (fun i => decide (h.1 45 i = c)) nc)) := by
  unfold f_m_isEnd
  have A := fun k => lp0 (fun f s => f_m_isEnd_L_1 c h k f s.1 s.2) no (fun i => (bI (exB (fun i => decide (h.1 52 i = c) || decide (h.1 53 i = c)) i), nI i)) (k (bI (exB (fun i => decide (h.1 52 i = c) || decide (h.1 53 i = c)) no)) (nI no)) (by omega) (fun f => by
    simp only
    rw [f_m_isEnd_L_1, e1, if_pos ((leN (by omega) (by omega)).mpr (Nat.le_refl _))]) (fun f i hi => by
    simp only
    rw [f_m_isEnd_L_1, e1, if_neg (fun q => absurd ((leN (by omega) (by omega)).mp q) (by omega)), xin_nI (n := 6) (by omega) (by decide), clampc (by omega), nI_1]
    show _ = f_m_isEnd_L_1 c h k f (bI (exB (fun i => decide (h.1 52 i = c) || decide (h.1 53 i = c)) i || (decide (h.1 52 i = c) || decide (h.1 53 i = c)))) (nI (i + 1))
    cases exB (fun i => decide (h.1 52 i = c) || decide (h.1 53 i = c)) i with
    | true => rw [if_neg (by decide)]; rfl
    | false =>
      rw [if_pos (by rfl)]
      simp only [Bool.and_true, xgd_true, Bool.false_or, bI_ite]
      by_cases q : h.1 52 i = c
      · rw [if_pos q]; simp [q, bI]
      · rw [if_neg q]; simp [q])
  have B := fun b k => lp0 (fun f s => f_m_isEnd_L_12 c h k f s.1 s.2) np (fun i => (bI (b || exB (fun i => decide (h.1 43 i = c)) i), nI i)) (k (bI (b || exB (fun i => decide (h.1 43 i = c)) np)) (nI np)) (by omega) (fun f => by
    simp only
    rw [f_m_isEnd_L_12, e2, if_pos ((leN (by omega) (by omega)).mpr (Nat.le_refl _))]) (fun f i hi => by
    simp only
    rw [f_m_isEnd_L_12, e2, if_neg (fun q => absurd ((leN (by omega) (by omega)).mp q) (by omega)), xin_nI (n := 18) (by omega) (by decide), clampc (by omega), nI_1]
    show _ = f_m_isEnd_L_12 c h k f (bI (b || (exB (fun i => decide (h.1 43 i = c)) i || decide (h.1 43 i = c)))) (nI (i + 1))
    rw [← Bool.or_assoc]
    cases b || exB (fun i => decide (h.1 43 i = c)) i with
    | true => rw [if_neg (by decide)]; rfl
    | false =>
      rw [if_pos (by rfl)]
      simp only [Bool.and_true, xgd_true, Bool.false_or, bI_ite])
  have C := fun b k => lp0 (fun f s => f_m_isEnd_L_21 c h k f s.1 s.2) nc (fun i => (bI (b || exB (fun i => decide (h.1 45 i = c)) i), nI i)) (k (bI (b || exB (fun i => decide (h.1 45 i = c)) nc)) (nI nc)) (by omega) (fun f => by
    simp only
    rw [f_m_isEnd_L_21, e3, if_pos ((leN (by omega) (by omega)).mpr (Nat.le_refl _))]) (fun f i hi => by
    simp only
    rw [f_m_isEnd_L_21, e3, if_neg (fun q => absurd ((leN (by omega) (by omega)).mp q) (by omega)), xin_nI (n := 6) (by omega) (by decide), clampc (by omega), nI_1]
    show _ = f_m_isEnd_L_21 c h k f (bI (b || (exB (fun i => decide (h.1 45 i = c)) i || decide (h.1 45 i = c)))) (nI (i + 1))
    rw [← Bool.or_assoc]
    cases b || exB (fun i => decide (h.1 45 i = c)) i with
    | true => rw [if_neg (by decide)]; rfl
    | false =>
      rw [if_pos (by rfl)]
      simp only [Bool.and_true, xgd_true, Bool.false_or, bI_ite])
  refine Eq.trans (A _) ?_
  generalize exB (fun i => decide (h.1 52 i = c) || decide (h.1 53 i = c)) no = b1
  have B' := B b1
  simp only [exB, Bool.or_false] at B'
  refine Eq.trans (B' _) ?_
  have C' := C (b1 || exB (fun i => decide (h.1 43 i = c)) np)
  simp only [exB, Bool.or_false] at C'
  refine Eq.trans (C' _) ?_
  generalize ((b1 || exB (fun i => decide (h.1 43 i = c)) np) || exB (fun i => decide (h.1 45 i = c)) nc) = b2
  cases b2 <;> rfl
theorem end_bit {h : Hp} {w g np nc nl tk no : Nat} (H : RNow h w g np nc nl tk) (HO : ROr h no) {c : Nat} (hc : c < 64) : bq ((rowSet h 9 0 nc ||| rowSet h 7 0 np) ||| endSet h no) c = ((exB (fun i => decide (h.1 52 i = nI c) || decide (h.1 53 i = nI c)) no || exB (fun i => decide (h.1 43 i = nI c)) np) || exB (fun i => decide (h.1 45 i = nI c)) nc) := by
  obtain ⟨⟨⟨n1, n2, n3, n4⟩, ⟨e1, e2, e3, e4⟩, hp, hk, hcc, hl, hsaw, hln, hdist⟩, ⟨m1, m2, m3, m4⟩, hpf, hcf⟩ := id H
  obtain ⟨no6, o1, o2, ho⟩ := id HO
  rw [Bool.eq_iff_iff]
  simp only [bq_or, Bool.or_eq_true, exB_iff, decide_eq_true_eq]
  rw [bq_row (fun i hi => by
    obtain ⟨c, c1, c2, c3⟩ := hcc i hi
    exact ⟨c, c1.1, by rw [Nat.zero_add]; exact c2⟩) hc, bq_row (fun i hi => by
    obtain ⟨c, c1, c2, c3⟩ := hp i hi
    exact ⟨c, c1.1, by rw [Nat.zero_add]; exact c2⟩) hc]
  have e1 : bq (endSet h no) c = true ↔ ∃ i, i < no ∧ (h.1 52 i = nI c ∨ h.1 53 i = nI c) := by
    unfold endSet
    rw [bq_orF]
    constructor
    · rintro ⟨i, hi, q⟩
      obtain ⟨a, b, d, ⟨a1, b1, d1⟩, ⟨a2, a3⟩, ⟨b2, b3⟩, ⟨d2, d3⟩, -, -⟩ := ho i hi
      rw [bq_or, a2, b2, bq_one a1 hc, bq_one b1 hc, Bool.or_eq_true] at q
      refine ⟨i, hi, ?_⟩
      rw [a3, b3]
      rcases q with q | q
      · left; rw [of_decide_eq_true q]
      · right; rw [of_decide_eq_true q]
    · rintro ⟨i, hi, q⟩
      obtain ⟨a, b, d, ⟨a1, b1, d1⟩, ⟨a2, a3⟩, ⟨b2, b3⟩, ⟨d2, d3⟩, -, -⟩ := ho i hi
      refine ⟨i, hi, ?_⟩
      rw [a3, b3] at q
      rw [bq_or, a2, b2, Bool.or_eq_true]
      rcases q with q | q
      · left; rw [q, bq_one hc hc]; simp
      · right; rw [q, bq_one hc hc]; simp
  have e2 : (∃ i, i < np ∧ h.1 7 (0 + i) = nI c) ↔ ∃ i, i < np ∧ h.1 43 i = nI c := by
    constructor
    · rintro ⟨i, hi, q⟩
      obtain ⟨c2, c3, c4, c5⟩ := hp i hi
      have c4 : h.1 7 i = nI c2 := c4
      rw [Nat.zero_add, c4] at q
      rw [Nat.mul_zero, Nat.zero_add, q] at c5
      exact ⟨i, hi, c5⟩
    · rintro ⟨i, hi, q⟩
      obtain ⟨c2, c3, c4, c5⟩ := hp i hi
      have c4 : h.1 7 i = nI c2 := c4
      rw [Nat.mul_zero, Nat.zero_add, q] at c5
      exact ⟨i, hi, by rw [Nat.zero_add, c4, c5]⟩
  have e3 : (∃ i, i < nc ∧ h.1 9 (0 + i) = nI c) ↔ ∃ i, i < nc ∧ h.1 45 i = nI c := by
    constructor
    · rintro ⟨i, hi, q⟩
      obtain ⟨c2, c3, c4, c5⟩ := hcc i hi
      have c4 : h.1 9 i = nI c2 := c4
      rw [Nat.zero_add, c4] at q
      rw [Nat.mul_zero, Nat.zero_add, q] at c5
      exact ⟨i, hi, c5⟩
    · rintro ⟨i, hi, q⟩
      obtain ⟨c2, c3, c4, c5⟩ := hcc i hi
      have c4 : h.1 9 i = nI c2 := c4
      rw [Nat.mul_zero, Nat.zero_add, q] at c5
      exact ⟨i, hi, by rw [Nat.zero_add, c4, c5]⟩
  rw [e1, e2, e3]
  constructor
  · rintro ((a | a) | a)
    · exact Or.inr a
    · exact Or.inl (Or.inr a)
    · exact Or.inl (Or.inl a)
  · rintro ((a | a) | a)
    · exact Or.inr a
    · exact Or.inl (Or.inr a)
    · exact Or.inl (Or.inl a)
/-- a door's cell is opened or shut -/
theorem door_set {h : Hp} {w g np nc nl tk no : Nat} (H : RB h w g np nc nl tk no) {c : Nat} (hc : cellIn w g c) (F : Int64) (hF1 : ∀ i, i < 64 → bq F i = true → bq (h.2 39 8) i = true ∨ i = c) (hF2 : ∀ i, i < 64 → bq (h.2 39 8) i = true → bq F i = true ∨ (i = c ∧ ((exB (fun i => decide (h.1 52 i = nI c) || decide (h.1 53 i = nI c)) no || exB (fun i => decide (h.1 43 i = nI c)) np) || exB (fun i => decide (h.1 45 i = nI c)) nc) = false)) : RB (xL (xL (f_orders_forgetPlan (xL (xL h 2 5 F) 0 8 F)) 39 8 F) 39 9 F) w g np nc nl tk no := by
  obtain ⟨H0, H1, H2, H3, H4, H5, H6, H7, H8⟩ := H
  obtain ⟨p1, p2, p3, ⟨q1, q2⟩, p5, p6, p7, p8⟩ := H1
  obtain ⟨S, N, hpf, hcf⟩ := H2
  obtain ⟨no6, o1, o2, ho⟩ := H5
  simp only [Bool.or_eq_false_iff] at hF2
  have nn : ∀ (P : Nat → Bool) n, exB P n = false → ∀ i, i < n → P i = false := by
    intro P n e i hi
    cases hb : P i with
    | false => rfl
    | true => rw [(exB_iff P n).mpr ⟨i, hi, hb⟩] at e; cases e
  refine ⟨H0.of rfl rfl rfl rfl, ⟨p1, p2, p3, ⟨rfl, fun i hi q => ?_⟩, p5, p6, p7, p8⟩, ⟨S.of rfl rfl rfl rfl rfl rfl rfl rfl rfl rfl rfl rfl rfl rfl rfl rfl, N, fun i hi c2 hc2 e => ?_, fun i hi c2 hc2 e => ?_⟩, H3.of rfl rfl rfl rfl rfl rfl rfl rfl rfl rfl rfl rfl rfl rfl rfl rfl rfl rfl, H4.of rfl rfl rfl rfl rfl rfl rfl rfl rfl rfl rfl rfl rfl rfl rfl rfl rfl rfl, ⟨no6, o1, o2, fun i hi => ?_⟩, ⟨rfl, fun i hi q => q⟩, H7, Or.inl rfl⟩
  · rcases hF1 i hi q with z | z
    · exact q2 i hi z
    · subst z; exact hc.2
  · rcases hF2 c2 hc2 (hpf i hi c2 hc2 e) with z | ⟨z, ⟨_, z2⟩, _⟩
    · exact z
    · subst z
      have := nn _ _ z2 i hi
      rw [decide_eq_false_iff_not] at this
      exact absurd e this
  · rcases hF2 c2 hc2 (hcf i hi c2 hc2 e) with z | ⟨z, _, z2⟩
    · exact z
    · subst z
      have := nn _ _ z2 i hi
      rw [decide_eq_false_iff_not] at this
      exact absurd e this
  · obtain ⟨a, b, d, ⟨a1, b1, d1⟩, ⟨a2, a3⟩, ⟨b2, b3⟩, d2, f1, f2⟩ := ho i hi
    refine ⟨a, b, d, ⟨a1, b1, d1⟩, ⟨a2, a3⟩, ⟨b2, b3⟩, d2, ?_, ?_⟩
    · rcases hF2 a a1 f1 with z | ⟨z, ⟨z2, _⟩, _⟩
      · exact z
      · subst z
        have := nn _ _ z2 i hi
        rw [Bool.or_eq_false_iff, decide_eq_false_iff_not] at this
        exact absurd a3 this.1
    · rcases hF2 b b1 f2 with z | ⟨z, ⟨z2, _⟩, _⟩
      · exact z
      · subst z
        have := nn _ _ z2 i hi
        rw [Bool.or_eq_false_iff, decide_eq_false_iff_not, decide_eq_false_iff_not] at this
        exact absurd b3 this.2
theorem ok_door (i op : Int32) : Ok2 (f_x_door i op) (f_m_door i op) := by
  rintro h ⟨w, g, np, nc, nl, tk, no, H⟩
  have Hrel : RelB h := ⟨w, g, np, nc, nl, tk, no, H⟩
  obtain ⟨H0, H1, H2, H3, H4, H5, H6, H7, H8⟩ := id H
  obtain ⟨p1, p2, p3, ⟨q1, q2⟩, p5, ⟨nd, d8, d1, d2, hd⟩, p7, p8⟩ := id H1
  unfold f_x_door
  rw [d1]
  rcases ix_x (n := nd) (by omega) i with ⟨a, b⟩ | ⟨k, hk, rfl⟩
  · refine ⟨-1, h, h, ?_, ?_, Hrel, PK.rf h⟩
    · rcases a with a | a
      · rw [if_pos a]
      · by_cases d : i < 0
        · rw [if_pos d]
        · rw [if_neg d, if_pos a]
    · unfold f_m_door; rw [d2, in_ix (by omega) i b, if_pos rfl]
  · rw [if_neg (nI_pos (by omega)), if_neg (nI_ge hk (by omega))]
    rcases range0 1 (by decide) op with ⟨z, y⟩ | ⟨v, v1, rfl, y, z1, z2⟩
    · refine ⟨-1, h, h, ?_, by unfold f_m_door; rw [d2, in_ix1 (by omega) hk, if_neg one_ne, y, if_pos rfl], Hrel, PK.rf h⟩
      rcases z with z | z
      · rw [if_pos z]
      · by_cases z2 : op < 0
        · rw [if_pos z2]
        · rw [if_neg z2, if_neg z]
    · obtain ⟨c, hc, c1, c2⟩ := hd k hk
      rw [if_neg z1, if_pos z2, xin_nI (n := 8) (by omega) (by decide), clampc (by omega), c1]
      simp only [Bool.and_true, xgd_true]
      have fx : ∀ h', h'.1 39 7 = nI nd → h'.1 42 = h.1 42 → f_m_door (nI k) (nI v) h' = if nI v = 0 then xbd1 (f_m_isEnd (nI c) h') (fun v_5 => if v_5 = 0 then f_m_door_j_7 (nI v) (nI c) h' else some (-2, h')) else f_m_door_j_7 (nI v) (nI c) h' := by
        intro h' e1 e2
        unfold f_m_door
        rw [e1, in_ix1 (by omega) hk, if_neg one_ne, y, if_neg one_ne, xin_nI (n := 8) (by omega) (by decide), clampc (by omega), e2, c2]
        simp only [Bool.and_true, xgd_true]
      have was : (if lg_cmp (h.2 2 5 &&& jshlL 1 (nI c)) 0 = 0 then (0 : Int32) else 1) = bI (bq (h.2 39 8) c) := by
        cases hb : bq (h.2 39 8) c with
        | false => rw [if_pos ((and_one hc.1).mpr (by rw [q1]; exact hb))]; rfl
        | true => rw [if_neg (fun z => by rw [and_one hc.1, q1, hb] at z; cases z)]; rfl
      have was2 : ∀ h', h'.2 39 8 = h.2 39 8 → (if f_m_isFree (nI c) h' = 0 then (0 : Int32) else 1) = bI (bq (h.2 39 8) c) := by
        intro h' e
        rw [isFree_m hc.1, e]
        cases hb : bq (h.2 39 8) c <;> rfl
      have fin : ∀ F : Int64, (∀ i, i < 64 → bq F i = true → bq (h.2 39 8) i = true ∨ i = c) → (∀ i, i < 64 → bq (h.2 39 8) i = true → bq F i = true ∨ (i = c ∧ ((exB (fun i => decide (h.1 52 i = nI c) || decide (h.1 53 i = nI c)) no || exB (fun i => decide (h.1 43 i = nI c)) np) || exB (fun i => decide (h.1 45 i = nI c)) nc) = false)) → RelB (xL (xL (f_orders_forgetPlan (xL (xL h 2 5 F) 0 8 F)) 39 8 F) 39 9 F) ∧ PK h (xL (xL (f_orders_forgetPlan (xL (xL h 2 5 F) 0 8 F)) 39 8 F) 39 9 F) := fun F hF1 hF2 => ⟨⟨w, g, np, nc, nl, tk, no, door_set H hc F hF1 hF2⟩, Or.inl rfl⟩
      have hv : v = 0 ∨ v = 1 := by omega
      rcases hv with rfl | rfl
      · rw [if_pos (show nI 0 = (0 : Int32) from rfl), taken_x H2.1.1.2.1 H2.1.1.1 H2.1.2.1.2.1 H2.1.2.1.1, xbd1_some, ends_x H5.1 H5.2.1, xbd1_some]
        have eb := end_bit H2 H5 hc.1
        cases hb : bq ((rowSet h 9 0 nc ||| rowSet h 7 0 np) ||| endSet h no) c with
        | true =>
          rw [if_neg (fun z => by rw [one_and0 hc.1, hb] at z; cases z)]
          refine ⟨-2, h, h, rfl, ?_, Hrel, PK.rf h⟩
          have := fx h d2 rfl
          rw [this, if_pos (show nI 0 = (0 : Int32) from rfl), isEnd_m H2.1.1.2.1 H2.1.1.1 H5.1 H5.2.2.1 H2.2.1.1 H2.2.1.2.1, xbd1_some, ← eb, hb, if_neg (by decide)]
        | false =>
          rw [if_pos ((one_and0 hc.1).mpr hb)]
          generalize hF : h.2 39 8 &&& (jshlL 1 (nI c) ^^^ -1) = F
          have hFb : ∀ i, i < 64 → bq F i = (bq (h.2 39 8) i && !decide (i = c)) := by
            intro i hi
            rw [← hF, bq_and, bq_not _ hi, bq_one hc.1 hi]
          refine ⟨bI (bq (h.2 39 8) c), f_orders_forgetPlan (xL (xL h 2 5 F) 0 8 F), xL (xL (f_orders_forgetPlan (xL (xL h 2 5 F) 0 8 F)) 39 8 F) 39 9 F, ?_, ?_, fin F ?_ ?_⟩
          · unfold f_x_door_j_11
            rw [was, if_neg (show ¬ nI 0 = (1 : Int32) by decide), q1, hF]
          · have := fx (f_orders_forgetPlan (xL (xL h 2 5 F) 0 8 F)) d2 rfl
            rw [this, if_pos (show nI 0 = (0 : Int32) from rfl), isEnd_m (h := f_orders_forgetPlan (xL (xL h 2 5 F) 0 8 F)) H2.1.1.2.1 H2.1.1.1 H5.1 H5.2.2.1 H2.2.1.1 H2.2.1.2.1, xbd1_some]
            have : ((exB (fun i => decide ((f_orders_forgetPlan (xL (xL h 2 5 F) 0 8 F)).1 52 i = nI c) || decide ((f_orders_forgetPlan (xL (xL h 2 5 F) 0 8 F)).1 53 i = nI c)) no || exB (fun i => decide ((f_orders_forgetPlan (xL (xL h 2 5 F) 0 8 F)).1 43 i = nI c)) np) || exB (fun i => decide ((f_orders_forgetPlan (xL (xL h 2 5 F) 0 8 F)).1 45 i = nI c)) nc) = false := eb.symm.trans hb
            rw [this, if_pos (show bI false = 0 from rfl)]
            unfold f_m_door_j_7
            rw [was2 (f_orders_forgetPlan (xL (xL h 2 5 F) 0 8 F)) rfl, if_neg (show ¬ nI 0 = (1 : Int32) by decide)]
            have e39 : (f_orders_forgetPlan (xL (xL h 2 5 F) 0 8 F)).2 39 8 = h.2 39 8 := rfl
            rw [e39, hF]
          · intro i hi q
            rw [hFb i hi, Bool.and_eq_true] at q
            exact Or.inl q.1
          · intro i hi q
            by_cases e : i = c
            · exact Or.inr ⟨e, eb.symm.trans hb⟩
            · left; rw [hFb i hi, q]; simp [e]
      · rw [if_neg (show ¬ nI 1 = (0 : Int32) by decide)]
        generalize hF : h.2 39 8 ||| jshlL 1 (nI c) = F
        have hFb : ∀ i, i < 64 → bq F i = (bq (h.2 39 8) i || decide (i = c)) := by
          intro i hi
          rw [← hF, bq_or, bq_one hc.1 hi]
        refine ⟨bI (bq (h.2 39 8) c), f_orders_forgetPlan (xL (xL h 2 5 F) 0 8 F), xL (xL (f_orders_forgetPlan (xL (xL h 2 5 F) 0 8 F)) 39 8 F) 39 9 F, ?_, ?_, fin F ?_ ?_⟩
        · unfold f_x_door_j_11
          rw [was, if_pos (show nI 1 = (1 : Int32) by decide), q1, hF]
        · have := fx (f_orders_forgetPlan (xL (xL h 2 5 F) 0 8 F)) d2 rfl
          rw [this, if_neg (show ¬ nI 1 = (0 : Int32) by decide)]
          unfold f_m_door_j_7
          rw [was2 (f_orders_forgetPlan (xL (xL h 2 5 F) 0 8 F)) rfl, if_pos (show nI 1 = (1 : Int32) by decide)]
          have e39 : (f_orders_forgetPlan (xL (xL h 2 5 F) 0 8 F)).2 39 8 = h.2 39 8 := rfl
          rw [e39, hF]
        · intro i hi q
          rw [hFb i hi, Bool.or_eq_true] at q
          rcases q with q | q
          · exact Or.inl q
          · exact Or.inr (of_decide_eq_true q)
        · intro i hi q
          left; rw [hFb i hi, q]; rfl
