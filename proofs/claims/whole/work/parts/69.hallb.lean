/-! ===== the hall, as it is told ===== -/
def cel (T : Nat → Nat) (i : Nat) : Nat := 8 * rI T i + aI T i
def SGn (T : Nat → Nat) : Nat → Nat → Nat
  | 0, _ => 0
  | i + 1, c => if ¬ T i = 47 ∧ c = cel T i then T i else SGn T i c
def DCn (T : Nat → Nat) : Nat → Nat → Nat
  | 0, _ => 0
  | i + 1, j => if T i = 68 ∧ j = dI' T i then cel T i else DCn T i j
def CSs (T : Nat → Nat) : Nat → Int64
  | 0 => 0
  | i + 1 => if T i = 47 then CSs T i else CSs T i ||| one (cel T i)
def FRs (T : Nat → Nat) : Nat → Int64
  | 0 => 0
  | i + 1 => if T i = 47 ∨ T i = 35 ∨ T i = 68 then FRs T i else FRs T i ||| one (cel T i)
def MKs (T : Nat → Nat) : Nat → Nat → Int64
  | 0, _ => 0
  | i + 1, k => if ¬ T i = 47 ∧ mkOf (T i) = k then MKs T i k ||| one (cel T i) else MKs T i k
def Sg (f : Nat → Int32) (T : Nat → Nat) : Nat → Nat → Int32
  | 0, b => f b
  | i + 1, b => if ¬ T i = 47 ∧ b = cel T i then nI (T i) else Sg f T i b
def Dg (f : Nat → Int32) (T : Nat → Nat) : Nat → Nat → Int32
  | 0, b => f b
  | i + 1, b => if T i = 68 ∧ b = dI' T i then nI (cel T i) else Dg f T i b
def sn (T : Nat → Nat) (i c : Nat) : Prop := (c / 8 < rI T i ∧ c % 8 < wI T i) ∨ (c / 8 = rI T i ∧ c % 8 < aI T i)
theorem sn_sl {T : Nat → Nat} {i : Nat} (h : upTo T (i + 1)) (e : T i = 47) (c : Nat) : sn T (i + 1) c ↔ sn T i c := by
  obtain ⟨h1, h2, h3, h4, h5, h6⟩ := tx_inv i h.p
  obtain ⟨k1, k2, k3⟩ := ok_sl (h i (by omega)) e
  unfold sn
  rw [rI, aI, wI, if_pos e, if_pos e, if_pos e]
  by_cases r0 : rI T i = 0
  · rw [if_pos r0]; omega
  · rw [if_neg r0]
    have := k2 r0
    omega
theorem sn_sg {T : Nat → Nat} {i : Nat} (h : upTo T (i + 1)) (e : ¬ T i = 47) : (∀ c, (sn T (i + 1) c ↔ sn T i c ∨ c = cel T i)) ∧ ¬ sn T i (cel T i) ∧ cel T i < 64 ∧ aI T i < 8 ∧ rI T i < 8 := by
  obtain ⟨h1, h2, h3, h4, h5, h6⟩ := tx_inv i h.p
  obtain ⟨k1, k2, k3, k4⟩ := ok_sg (h i (by omega)) e
  unfold sn cel
  rw [rI, aI, wI, if_neg e, if_neg e, if_neg e]
  refine ⟨fun c => ?_, ?_, by omega, by omega, by omega⟩
  · omega
  · omega
theorem sg128 : ∀ b, b < 256 → isSg b = true → b < 128 := by decide +kernel
theorem mk_pow : ∀ b, b < 256 → mkOf b ≠ 0 → mkB b = 2 ^ mkOf b := by decide +kernel
/-- what is told, all of it -/
theorem told {T : Nat → Nat} (hT : ∀ i, T i < 256) : ∀ i, upTo T i →
    (∀ c, c < 64 → (bq (CSs T i) c = true ↔ sn T i c)) ∧ (∀ c, c < 64 → bq (FRs T i) c = true → sn T i c) ∧
    (∀ c, sn T i c → isSg (SGn T i c) = true ∧ SGn T i c < 256 ∧ ∀ f : Nat → Int32, Sg f T i c = nI (SGn T i c)) ∧
    (∀ j, j < dI' T i → sn T i (DCn T i j) ∧ DCn T i j < 64 ∧ ∀ f : Nat → Int32, Dg f T i j = nI (DCn T i j)) ∧
    (∀ k, k < 10 → ∀ c, c < 64 → (bq (MKs T i k) c = true ↔ sn T i c ∧ mkOf (SGn T i c) = k)) ∧
    (∀ c, sn T i c → mkOf (SGn T i c) ≠ 0 → (mN T i).testBit (mkOf (SGn T i c)) = true) ∧
    (∀ c c', sn T i c → sn T i c' → SGn T i c = SGn T i c' → mkOf (SGn T i c) ≠ 0 → c = c') := by
  intro i
  induction i with
  | zero =>
    intro _
    have no : ∀ c, ¬ sn T 0 c := fun c => by
      have e1 : rI T 0 = 0 := rfl
      have e2 : aI T 0 = 0 := rfl
      unfold sn; omega
    refine ⟨fun c hc => ⟨fun z => ?_, fun z => absurd z (no c)⟩, fun c hc z => ?_, fun c z => absurd z (no c), fun j z => absurd z (Nat.not_lt_zero _), fun k hk c hc => ⟨fun z => ?_, fun z => absurd z.1 (no c)⟩, fun c z => absurd z (no c), fun c c' z => absurd z (no c)⟩
    · rw [show CSs T 0 = 0 from rfl, bq_0] at z; cases z
    · rw [show FRs T 0 = 0 from rfl, bq_0] at z; cases z
    · rw [show MKs T 0 k = 0 from rfl, bq_0] at z; cases z
  | succ i ih =>
    intro hu
    obtain ⟨t1, t2, t3, t4, t5, t6, t7⟩ := ih hu.p
    have b256 := hT i
    by_cases e : T i = 47
    · have s := sn_sl hu e
      have e68 : ¬ T i = 68 := by omega
      have c1 : CSs T (i + 1) = CSs T i := by rw [CSs, if_pos e]
      have c2 : FRs T (i + 1) = FRs T i := by rw [FRs, if_pos (Or.inl e)]
      have c3 : ∀ c, SGn T (i + 1) c = SGn T i c := fun c => by rw [SGn, if_neg (fun z => z.1 e)]
      have c4 : ∀ f c, Sg f T (i + 1) c = Sg f T i c := fun f c => by rw [Sg, if_neg (fun z => z.1 e)]
      have c5 : dI' T (i + 1) = dI' T i := by rw [dI', if_neg e68, Nat.add_zero]
      have c6 : ∀ j, DCn T (i + 1) j = DCn T i j := fun j => by rw [DCn, if_neg (fun z => e68 z.1)]
      have c7 : ∀ f j, Dg f T (i + 1) j = Dg f T i j := fun f j => by rw [Dg, if_neg (fun z => e68 z.1)]
      have c8 : ∀ k, MKs T (i + 1) k = MKs T i k := fun k => by rw [MKs, if_neg (fun z => z.1 e)]
      have c9 : mN T (i + 1) = mN T i := by
        have : mkB (T i) = 0 := by rw [e]; rfl
        rw [mN, this, Nat.or_zero]
      rw [c1, c2, c5, c9]
      simp only [c3, c4, c6, c7, c8, s]
      exact ⟨t1, t2, t3, t4, t5, t6, t7⟩
    · obtain ⟨s, sno, c64, a8, r8⟩ := sn_sg hu e
      obtain ⟨k1, k2, k3, k4⟩ := ok_sg (hu i (by omega)) e
      have c1 : CSs T (i + 1) = CSs T i ||| one (cel T i) := by rw [CSs, if_neg e]
      have sgo : ∀ c, sn T i c → SGn T (i + 1) c = SGn T i c := fun c hc => by
        rw [SGn, if_neg (show ¬ (¬ T i = 47 ∧ c = cel T i) from fun z => sno (z.2 ▸ hc))]
      have sgn : SGn T (i + 1) (cel T i) = T i := by rw [SGn, if_pos ⟨e, rfl⟩]
      refine ⟨fun c hc => ?_, fun c hc z => ?_, fun c hc => ?_, fun j hj => ?_, fun k hk c hc => ?_, fun c hc hm => ?_, fun c c' hc hc' hs hm => ?_⟩
      · rw [c1, bq_or, Bool.or_eq_true, t1 c hc, s c, bq_onec c64 hc, decide_eq_true_eq]
      · rw [s c]
        rw [FRs] at z
        split at z
        · exact Or.inl (t2 c hc z)
        · rw [bq_or, Bool.or_eq_true, bq_onec c64 hc, decide_eq_true_eq] at z
          rcases z with z | z
          · exact Or.inl (t2 c hc z)
          · exact Or.inr z
      · rcases (s c).mp hc with z | z
        · rw [sgo c z]
          obtain ⟨u1, u2, u3⟩ := t3 c z
          refine ⟨u1, u2, fun f => ?_⟩
          rw [Sg, if_neg (show ¬ (¬ T i = 47 ∧ c = cel T i) from fun y => sno (y.2 ▸ z))]; exact u3 f
        · subst z
          rw [sgn]
          refine ⟨k1, b256, fun f => ?_⟩
          rw [Sg, if_pos ⟨e, rfl⟩]
      · by_cases e68 : T i = 68
        · rw [dI', if_pos e68] at hj
          by_cases q : j = dI' T i
          · have d1 : DCn T (i + 1) j = cel T i := by rw [DCn, if_pos ⟨e68, q⟩]
            rw [d1]
            refine ⟨(s _).mpr (Or.inr rfl), c64, fun f => ?_⟩
            rw [Dg, if_pos ⟨e68, q⟩]
          · have d1 : DCn T (i + 1) j = DCn T i j := by rw [DCn, if_neg (fun z => q z.2)]
            obtain ⟨u1, u2, u3⟩ := t4 j (by omega)
            rw [d1]
            refine ⟨(s _).mpr (Or.inl u1), u2, fun f => ?_⟩
            rw [Dg, if_neg (fun z => q z.2)]; exact u3 f
        · rw [dI', if_neg e68] at hj
          have d1 : DCn T (i + 1) j = DCn T i j := by rw [DCn, if_neg (fun z => e68 z.1)]
          obtain ⟨u1, u2, u3⟩ := t4 j (by omega)
          rw [d1]
          refine ⟨(s _).mpr (Or.inl u1), u2, fun f => ?_⟩
          rw [Dg, if_neg (fun z => e68 z.1)]; exact u3 f
      · by_cases q : mkOf (T i) = k
        · have m1 : MKs T (i + 1) k = MKs T i k ||| one (cel T i) := by rw [MKs, if_pos ⟨e, q⟩]
          rw [m1, bq_or, Bool.or_eq_true, t5 k hk c hc, bq_onec c64 hc, decide_eq_true_eq, s c]
          constructor
          · rintro (⟨x, y⟩ | x)
            · exact ⟨Or.inl x, by rw [sgo c x]; exact y⟩
            · subst x; exact ⟨Or.inr rfl, by rw [sgn]; exact q⟩
          · rintro ⟨x | x, y⟩
            · rw [sgo c x] at y; exact Or.inl ⟨x, y⟩
            · exact Or.inr x
        · have m1 : MKs T (i + 1) k = MKs T i k := by rw [MKs, if_neg (fun z => q z.2)]
          rw [m1, t5 k hk c hc, s c]
          constructor
          · rintro ⟨x, y⟩
            exact ⟨Or.inl x, by rw [sgo c x]; exact y⟩
          · rintro ⟨x | x, y⟩
            · rw [sgo c x] at y; exact ⟨x, y⟩
            · subst x; rw [sgn] at y; exact absurd y q
      · rw [mN, Nat.testBit_or]
        rcases (s c).mp hc with z | z
        · rw [sgo c z] at hm ⊢
          rw [t6 c z hm]; rfl
        · subst z
          rw [sgn] at hm ⊢
          rw [mk_pow _ b256 hm, Nat.testBit_two_pow_self, Bool.or_true]
      · have old : ∀ c, sn T i c → SGn T i c = T i → mkOf (T i) ≠ 0 → False := by
          intro c hc1 hc2 hm1
          have hb := t6 c hc1 (by rw [hc2]; exact hm1)
          rw [hc2] at hb
          have := congrArg (fun n => n.testBit (mkOf (T i))) k4
          simp only [Nat.testBit_and, hb, mk_pow _ b256 hm1, Nat.testBit_two_pow_self, Nat.zero_testBit] at this
          exact absurd this (by decide)
        rcases (s c).mp hc with z | z
        · rcases (s c').mp hc' with z' | z'
          · rw [sgo c z] at hs hm
            rw [sgo c' z'] at hs
            exact t7 c c' z z' hs hm
          · subst z'
            rw [sgo c z] at hs hm
            rw [sgn] at hs
            exact (old c z hs (by rw [← hs]; exact hm)).elim
        · rcases (s c').mp hc' with z' | z'
          · subst z
            rw [sgn] at hs hm
            rw [sgo c' z'] at hs
            exact (old c' z' hs.symm hm).elim
          · rw [z, z']
/-- the class's rows behind the first i bytes -/
def XH (h : Hp) (T : Nat → Nat) (i : Nat) : Hp := (fun a b => if a = 3 then Sg (h.1 3) T i b else if a = 4 then Dg (h.1 4) T i b else if a = 2 ∧ b = 3 then nI (dI' T i) else h.1 a b, fun a b => if a = 2 ∧ b = 4 then CSs T i else if a = 2 ∧ b = 5 then FRs T i else if a = 5 ∧ b < 10 then MKs T i b else h.2 a b)
theorem XH_sl (h : Hp) {T : Nat → Nat} {i : Nat} (e : T i = 47) : XH h T (i + 1) = XH h T i := by
  have e68 : ¬ T i = 68 := by omega
  have c1 : CSs T (i + 1) = CSs T i := by rw [CSs, if_pos e]
  have c2 : FRs T (i + 1) = FRs T i := by rw [FRs, if_pos (Or.inl e)]
  have c4 : ∀ f c, Sg f T (i + 1) c = Sg f T i c := fun f c => by rw [Sg, if_neg (fun z => z.1 e)]
  have c5 : dI' T (i + 1) = dI' T i := by rw [dI', if_neg e68, Nat.add_zero]
  have c7 : ∀ f j, Dg f T (i + 1) j = Dg f T i j := fun f j => by rw [Dg, if_neg (fun z => e68 z.1)]
  have c8 : ∀ k, MKs T (i + 1) k = MKs T i k := fun k => by rw [MKs, if_neg (fun z => z.1 e)]
  unfold XH
  simp only [c1, c2, c4, c5, c7, c8]
theorem XH_1 (h : Hp) {T : Nat → Nat} {i : Nat} (e : ¬ T i = 47) (a b : Nat) : (XH h T (i + 1)).1 a b = if a = 3 ∧ b = cel T i then nI (T i) else if T i = 68 ∧ a = 4 ∧ b = dI' T i then nI (cel T i) else if T i = 68 ∧ a = 2 ∧ b = 3 then nI (dI' T i + 1) else (XH h T i).1 a b := by
  show (if a = 3 then (if ¬ T i = 47 ∧ b = cel T i then nI (T i) else Sg (h.1 3) T i b) else if a = 4 then (if T i = 68 ∧ b = dI' T i then nI (cel T i) else Dg (h.1 4) T i b) else if a = 2 ∧ b = 3 then nI (dI' T i + (if T i = 68 then 1 else 0)) else h.1 a b) = if a = 3 ∧ b = cel T i then nI (T i) else if T i = 68 ∧ a = 4 ∧ b = dI' T i then nI (cel T i) else if T i = 68 ∧ a = 2 ∧ b = 3 then nI (dI' T i + 1) else (if a = 3 then Sg (h.1 3) T i b else if a = 4 then Dg (h.1 4) T i b else if a = 2 ∧ b = 3 then nI (dI' T i) else h.1 a b)
  by_cases a3 : a = 3
  · subst a3
    simp [e]
  · by_cases a4 : a = 4
    · subst a4
      simp
    · by_cases a2 : a = 2 ∧ b = 3
      · obtain ⟨rfl, rfl⟩ := a2
        by_cases q : T i = 68 <;> simp [q]
      · have n1 : ¬ (a = 3 ∧ b = cel T i) := fun z => a3 z.1
        have n2 : ¬ (T i = 68 ∧ a = 4 ∧ b = dI' T i) := fun z => a4 z.2.1
        have n3 : ¬ (T i = 68 ∧ a = 2 ∧ b = 3) := fun z => a2 z.2
        simp only [if_neg a3, if_neg a4, if_neg a2, if_neg n1, if_neg n2, if_neg n3]
theorem XH_2 (h : Hp) {T : Nat → Nat} {i : Nat} (e : ¬ T i = 47) (a b : Nat) : (XH h T (i + 1)).2 a b = if a = 2 ∧ b = 4 then CSs T i ||| one (cel T i) else if ¬ (T i = 35 ∨ T i = 68) ∧ a = 2 ∧ b = 5 then FRs T i ||| one (cel T i) else if a = 5 ∧ b = mkOf (T i) then MKs T i b ||| one (cel T i) else (XH h T i).2 a b := by
  show (if a = 2 ∧ b = 4 then (if T i = 47 then CSs T i else CSs T i ||| one (cel T i)) else if a = 2 ∧ b = 5 then (if T i = 47 ∨ T i = 35 ∨ T i = 68 then FRs T i else FRs T i ||| one (cel T i)) else if a = 5 ∧ b < 10 then (if ¬ T i = 47 ∧ mkOf (T i) = b then MKs T i b ||| one (cel T i) else MKs T i b) else h.2 a b) = if a = 2 ∧ b = 4 then CSs T i ||| one (cel T i) else if ¬ (T i = 35 ∨ T i = 68) ∧ a = 2 ∧ b = 5 then FRs T i ||| one (cel T i) else if a = 5 ∧ b = mkOf (T i) then MKs T i b ||| one (cel T i) else (if a = 2 ∧ b = 4 then CSs T i else if a = 2 ∧ b = 5 then FRs T i else if a = 5 ∧ b < 10 then MKs T i b else h.2 a b)
  have m9 := mkOf9 (T i)
  by_cases a24 : a = 2 ∧ b = 4
  · obtain ⟨rfl, rfl⟩ := a24
    simp [e]
  · by_cases a25 : a = 2 ∧ b = 5
    · obtain ⟨rfl, rfl⟩ := a25
      by_cases q : T i = 35 ∨ T i = 68
      · simp [q]
      · have q2 : ¬ (T i = 47 ∨ T i = 35 ∨ T i = 68) := fun z => z.elim e q
        simp [q, e]
    · have n1 : ¬ (¬ (T i = 35 ∨ T i = 68) ∧ a = 2 ∧ b = 5) := fun z => a25 z.2
      rw [if_neg a24, if_neg a25, if_neg a24, if_neg n1]
      by_cases a5 : a = 5 ∧ b < 10
      · by_cases q : mkOf (T i) = b
        · have p1 : ¬ T i = 47 ∧ mkOf (T i) = b := ⟨e, q⟩
          have p2 : a = 5 ∧ b = mkOf (T i) := ⟨a5.1, q.symm⟩
          rw [if_pos a5, if_pos p1, if_pos p2]
        · have p1 : ¬ (¬ T i = 47 ∧ mkOf (T i) = b) := fun z => q z.2
          have p2 : ¬ (a = 5 ∧ b = mkOf (T i)) := fun z => q z.2.symm
          rw [if_pos a5, if_neg p1, if_neg p2, if_neg a24, if_neg a25, if_pos a5]
      · have p2 : ¬ (a = 5 ∧ b = mkOf (T i)) := by omega
        rw [if_neg a5, if_neg p2, if_neg a24, if_neg a25, if_neg a5]
theorem x_mkix : ∀ b, b < 256 → (if f_x_isMark (nI b) = (0 : Int32) then (0 : Int32) else nI b - (48 : Int32)) = nI (mkOf b) := by decide +kernel
theorem fill5 (h : Hp) : f_j_fill_5 (0 : Int64) h = some (h.1, fun a b => if a = 5 ∧ b < 10 then 0 else h.2 a b) := by
  unfold f_j_fill_5
  have := lp0 (fun f (s : Int32 × Hp) => f_j_fill_5_L_1 (0 : Int64) (Int32.ofNat 10) (fun l3_3 h_4 => some h_4) f s.1 s.2) 10 (fun i => (nI i, ((h.1, fun a b => if a = 5 ∧ b < i then 0 else h.2 a b) : Hp))) (some (h.1, fun a b => if a = 5 ∧ b < 10 then 0 else h.2 a b)) (by omega) (fun f => ?_) (fun f i hi => ?_)
  · have e0 : ((h.1, fun a b => if a = 5 ∧ b < 0 then 0 else h.2 a b) : Hp) = h := hp_ext2 (by rfl) (fun a b => by show (if a = 5 ∧ b < 0 then 0 else h.2 a b) = h.2 a b; rw [if_neg (by omega)])
    simp only [e0] at this
    exact this
  · simp only
    rw [f_j_fill_5_L_1, if_pos (show Int32.ofNat 10 ≤ nI 10 by decide)]
  · simp only
    rw [f_j_fill_5_L_1, if_neg (show ¬ Int32.ofNat 10 ≤ nI i from fun z => absurd ((leN (a := 10) (b := i) (by omega) (by omega)).mp z) (by omega)), xin_nI hi (by decide), clampc (by omega), nI_1]
    have : xL ((h.1, fun a b => if a = 5 ∧ b < i then 0 else h.2 a b) : Hp) 5 i 0 = ((h.1, fun a b => if a = 5 ∧ b < i + 1 then 0 else h.2 a b) : Hp) := hp_ext2 (by rfl) (fun a b => by
      rw [xL_2]
      show (if a = 5 ∧ b = i then 0 else if a = 5 ∧ b < i then 0 else h.2 a b) = if a = 5 ∧ b < i + 1 then 0 else h.2 a b
      by_cases q : a = 5 ∧ b = i
      · rw [if_pos q, if_pos (by omega)]
      · rw [if_neg q]
        by_cases q2 : a = 5 ∧ b < i
        · rw [if_pos q2, if_pos (by omega)]
        · rw [if_neg q2, if_neg (by omega)])
    rw [this]; rfl
theorem empty_h (h : Hp) (T : Nat → Nat) : f_hall_empty h = some (XH h T 0) := by
  unfold f_hall_empty
  rw [fill5, xbd1_some]
  congr 1
  refine Prod.ext (funext fun a => funext fun b => ?_) (funext fun a => funext fun b => ?_)
  · show (if a = 2 ∧ b = 3 then (0 : Int32) else h.1 a b) = if a = 3 then h.1 3 b else if a = 4 then h.1 4 b else if a = 2 ∧ b = 3 then nI 0 else h.1 a b
    by_cases a3 : a = 3
    · subst a3; simp
    · by_cases a4 : a = 4
      · subst a4; simp
      · rw [if_neg a3, if_neg a4]; rfl
  · show (if a = 2 ∧ b = 5 then (0 : Int64) else if a = 2 ∧ b = 4 then 0 else if a = 5 ∧ b < 10 then 0 else h.2 a b) = if a = 2 ∧ b = 4 then (0 : Int64) else if a = 2 ∧ b = 5 then 0 else if a = 5 ∧ b < 10 then 0 else h.2 a b
    by_cases q : a = 2 ∧ b = 4
    · have n : ¬ (a = 2 ∧ b = 5) := by omega
      rw [if_neg n, if_pos q, if_pos q]
    · rw [if_neg q, if_neg q]
theorem put_x (h : Hp) {T : Nat → Nat} (hT : ∀ i, T i < 256) {i : Nat} (hu : upTo T (i + 1)) (e : ¬ T i = 47) : f_hall_put (nI (aI T i)) (nI (rI T i)) (nI (T i)) (XH h T i) = some (XH h T (i + 1)) := by
  obtain ⟨s, sno, c64, a8, r8⟩ := sn_sg hu e
  obtain ⟨k1, k2, k3, k4⟩ := ok_sg (hu i (by omega)) e
  have d8 := (tx_inv i hu.p).2.2.2.2.2
  have b256 := hT i
  have m9 := mkOf9 (T i)
  have en : (8 : Int32) * nI (rI T i) + nI (aI T i) = nI (cel T i) := by rw [nI_lit 8, pk_mul, nI_add]; rfl
  have xd : (XH h T i).1 2 3 = nI (dI' T i) := rfl
  have xc : (XH h T i).2 2 4 = CSs T i := rfl
  have xf : (XH h T i).2 2 5 = FRs T i := rfl
  have xm : (XH h T i).2 5 (mkOf (T i)) = MKs T i (mkOf (T i)) := by
    have n1 : ¬ (5 = 2 ∧ mkOf (T i) = 4) := by omega
    have n2 : ¬ (5 = 2 ∧ mkOf (T i) = 5) := by omega
    have n3 : 5 = 5 ∧ mkOf (T i) < 10 := ⟨rfl, m9⟩
    have : (XH h T i).2 5 (mkOf (T i)) = if 5 = 2 ∧ mkOf (T i) = 4 then CSs T i else if 5 = 2 ∧ mkOf (T i) = 5 then FRs T i else if 5 = 5 ∧ mkOf (T i) < 10 then MKs T i (mkOf (T i)) else h.2 5 (mkOf (T i)) := rfl
    rw [this, if_neg n1, if_neg n2, if_pos n3]
  unfold f_hall_put
  rw [if_neg (nleL 8 a8), if_pos (ltL 8 r8), en, xin_nI (n := 64) c64 (by decide), clampc (k := cel T i) (by omega), Bool.and_true, xgd_true, xc, xf]
  have j12 : ∀ H : Hp, H.2 5 (mkOf (T i)) = MKs T i (mkOf (T i)) → f_hall_put_j_12 (nI (T i)) (jshlL 1 (nI (cel T i))) H = some (xL H 5 (mkOf (T i)) (MKs T i (mkOf (T i)) ||| one (cel T i))) := by
    intro H hH
    unfold f_hall_put_j_12
    rw [x_mkix _ b256, xin_nI (n := 10) m9 (by decide), clampc (by omega), hH]
    rfl
  have put_2 : ∀ a b, (if a = 5 ∧ b = mkOf (T i) then MKs T i (mkOf (T i)) ||| one (cel T i) else if a = 2 ∧ b = 4 then CSs T i ||| one (cel T i) else (XH h T i).2 a b) = (if a = 2 ∧ b = 4 then CSs T i ||| one (cel T i) else if a = 5 ∧ b = mkOf (T i) then MKs T i b ||| one (cel T i) else (XH h T i).2 a b) := by
    intro a b
    by_cases w : a = 2 ∧ b = 4
    · have w2 : ¬ (a = 5 ∧ b = mkOf (T i)) := by omega
      rw [if_neg w2, if_pos w, if_pos w]
    · by_cases w2 : a = 5 ∧ b = mkOf (T i)
      · rw [if_pos w2, if_neg w, if_pos w2, w2.2]
      · rw [if_neg w2, if_neg w, if_neg w, if_neg w2]
  by_cases q35 : T i = 35
  · have n68 : ¬ T i = 68 := by omega
    rw [if_pos (show nI (T i) = (35 : Int32) by rw [q35]; rfl)]
    unfold f_hall_put_j_6
    rw [if_neg (neL 68 n68 (by omega)), j12 _ (by simp only [xL_2, xI_2]; rw [if_neg (show ¬ (5 = 2 ∧ mkOf (T i) = 4) by omega)]; exact xm)]
    congr 1
    refine Prod.ext (funext fun a => funext fun b => ?_) (funext fun a => funext fun b => ?_)
    · rw [XH_1 h e, if_neg (show ¬ (T i = 68 ∧ a = 4 ∧ b = dI' T i) from fun z => n68 z.1), if_neg (show ¬ (T i = 68 ∧ a = 2 ∧ b = 3) from fun z => n68 z.1)]; rfl
    · rw [XH_2 h e, if_neg (show ¬ (¬ (T i = 35 ∨ T i = 68) ∧ a = 2 ∧ b = 5) from fun z => z.1 (Or.inl q35))]
      exact put_2 a b
  · rw [if_neg (neL 35 q35 (by omega))]
    by_cases q68 : T i = 68
    · have d7 := k3 q68
      rw [if_pos (show nI (T i) = (68 : Int32) by rw [q68]; rfl)]
      unfold f_hall_put_j_6
      rw [if_pos (show nI (T i) = (68 : Int32) by rw [q68]; rfl)]
      have xd2 : (xL (xI (XH h T i) 3 (cel T i) (nI (T i))) 2 4 (CSs T i ||| jshlL 1 (nI (cel T i)))).1 2 3 = nI (dI' T i) := rfl
      rw [xd2, if_neg (nleL 8 d7), xin_nI (n := 8) d7 (by decide), clampc (by omega), Bool.and_true, xgd_true, nI_1, j12 _ (by simp only [xL_2, xI_2]; rw [if_neg (show ¬ (5 = 2 ∧ mkOf (T i) = 4) by omega)]; exact xm)]
      congr 1
      refine Prod.ext (funext fun a => funext fun b => ?_) (funext fun a => funext fun b => ?_)
      · rw [XH_1 h e]
        show (if a = 2 ∧ b = 3 then nI (dI' T i + 1) else if a = 4 ∧ b = dI' T i then nI (cel T i) else if a = 3 ∧ b = cel T i then nI (T i) else (XH h T i).1 a b) = _
        by_cases w1 : a = 3 ∧ b = cel T i
        · have n1 : ¬ (a = 2 ∧ b = 3) := by omega
          have n2 : ¬ (a = 4 ∧ b = dI' T i) := by omega
          rw [if_neg n1, if_neg n2, if_pos w1, if_pos w1]
        · by_cases w2 : a = 4 ∧ b = dI' T i
          · have n1 : ¬ (a = 2 ∧ b = 3) := by omega
            have n2 : T i = 68 ∧ a = 4 ∧ b = dI' T i := ⟨q68, w2⟩
            rw [if_neg n1, if_pos w2, if_neg w1, if_pos n2]
          · have n2 : ¬ (T i = 68 ∧ a = 4 ∧ b = dI' T i) := fun z => w2 z.2
            by_cases w3 : a = 2 ∧ b = 3
            · have n3 : T i = 68 ∧ a = 2 ∧ b = 3 := ⟨q68, w3⟩
              rw [if_pos w3, if_neg w1, if_neg n2, if_pos n3]
            · have n3 : ¬ (T i = 68 ∧ a = 2 ∧ b = 3) := fun z => w3 z.2
              rw [if_neg w3, if_neg w2, if_neg w1, if_neg w1, if_neg n2, if_neg n3]
      · rw [XH_2 h e, if_neg (show ¬ (¬ (T i = 35 ∨ T i = 68) ∧ a = 2 ∧ b = 5) from fun z => z.1 (Or.inr q68))]
        exact put_2 a b
    · rw [if_neg (neL 68 q68 (by omega))]
      unfold f_hall_put_j_6
      rw [if_neg (neL 68 q68 (by omega)), j12 _ (by simp only [xL_2, xI_2]; rw [if_neg (show ¬ (5 = 2 ∧ mkOf (T i) = 5) by omega), if_neg (show ¬ (5 = 2 ∧ mkOf (T i) = 4) by omega)]; exact xm)]
      congr 1
      refine Prod.ext (funext fun a => funext fun b => ?_) (funext fun a => funext fun b => ?_)
      · rw [XH_1 h e, if_neg (show ¬ (T i = 68 ∧ a = 4 ∧ b = dI' T i) from fun z => q68 z.1), if_neg (show ¬ (T i = 68 ∧ a = 2 ∧ b = 3) from fun z => q68 z.1)]; rfl
      · rw [XH_2 h e]
        show (if a = 5 ∧ b = mkOf (T i) then MKs T i (mkOf (T i)) ||| one (cel T i) else if a = 2 ∧ b = 5 then FRs T i ||| one (cel T i) else if a = 2 ∧ b = 4 then CSs T i ||| one (cel T i) else (XH h T i).2 a b) = _
        have nq : ¬ (T i = 35 ∨ T i = 68) := fun z => z.elim q35 q68
        by_cases w : a = 2 ∧ b = 4
        · have n1 : ¬ (a = 5 ∧ b = mkOf (T i)) := by omega
          have n2 : ¬ (a = 2 ∧ b = 5) := by omega
          rw [if_neg n1, if_neg n2, if_pos w, if_pos w]
        · by_cases w3 : a = 2 ∧ b = 5
          · have n1 : ¬ (a = 5 ∧ b = mkOf (T i)) := by omega
            have n2 : ¬ (T i = 35 ∨ T i = 68) ∧ a = 2 ∧ b = 5 := ⟨nq, w3⟩
            rw [if_neg n1, if_pos w3, if_neg w, if_pos n2]
          · have n2 : ¬ (¬ (T i = 35 ∨ T i = 68) ∧ a = 2 ∧ b = 5) := fun z => w3 z.2
            by_cases w2 : a = 5 ∧ b = mkOf (T i)
            · rw [if_pos w2, if_neg w, if_neg n2, if_pos w2, w2.2]
            · rw [if_neg w2, if_neg w3, if_neg w, if_neg w, if_neg n2, if_neg w2]
theorem XH_o (h : Hp) (T : Nat → Nat) (i : Nat) {a : Nat} (h2 : a ≠ 2) (h3 : a ≠ 3) (h4 : a ≠ 4) : (XH h T i).1 a = h.1 a := by
  funext b
  have n : ¬ (a = 2 ∧ b = 3) := fun z => h2 z.1
  unfold XH
  simp only [if_neg h3, if_neg h4, if_neg n]
theorem loop3_x {h : Hp} {T : Nat → Nat} {n : Nat} (H : TxX h T n) (hu : upTo T n) (K : Int32 → Int32 → Int32 → Hp → Option Hp) : f_x_becomeHall_L_3 K 1000 0 0 0 (XH h T 0) = K (nI (aI T n)) (nI (rI T n)) (nI n) (XH h T n) := by
  obtain ⟨n80, e, hT, hb⟩ := H
  refine lp0 (fun f (s : Int32 × Int32 × Int32 × Hp) => f_x_becomeHall_L_3 K f s.1 s.2.1 s.2.2.1 s.2.2.2) n (fun i => (nI (aI T i), nI (rI T i), nI i, XH h T i)) _ (by omega) (fun f => ?_) (fun f i hi => ?_)
  · simp only
    rw [f_x_becomeHall_L_3, XH_o h T n (by decide) (by decide) (by decide), e, if_pos ((leN (by omega) (by omega)).mpr (Nat.le_refl _))]
  · simp only
    have hu' : upTo T (i + 1) := fun j hj => hu j (by omega)
    have b256 := hT i
    rw [f_x_becomeHall_L_3, XH_o h T i (by decide) (by decide) (by decide), e, if_neg (fun z => absurd ((leN (by omega) (by omega)).mp z) (by omega)), xin_nI (n := 80) (by omega) (by decide), clampc (by omega), XH_o h T i (by decide) (by decide) (by decide), hb i hi, Bool.and_true, xgd_true, xgd_true]
    by_cases e47 : T i = 47
    · rw [if_pos (show nI (T i) = (47 : Int32) by rw [e47]; rfl), nI_1, nI_1, XH_sl h e47, rI, aI, if_pos e47, if_pos e47]
      rfl
    · rw [if_neg (neL 47 e47 (by omega)), put_x h hT hu' e47, xbd1_some, nI_1, nI_1, rI, aI, if_neg e47, if_neg e47]
/-- the reference's rows behind the first i bytes -/
def MH (h : Hp) (T : Nat → Nat) (i : Nat) : Hp := (fun a b => if a = 41 then Sg (h.1 41) T i b else if a = 42 then Dg (h.1 42) T i b else if a = 39 ∧ b = 7 then nI (dI' T i) else h.1 a b, fun a b => if a = 39 ∧ b = 8 then FRs T i else h.2 a b)
theorem MH_sl (h : Hp) {T : Nat → Nat} {i : Nat} (e : T i = 47) : MH h T (i + 1) = MH h T i := by
  have e68 : ¬ T i = 68 := by omega
  have c2 : FRs T (i + 1) = FRs T i := by rw [FRs, if_pos (Or.inl e)]
  have c4 : ∀ f c, Sg f T (i + 1) c = Sg f T i c := fun f c => by rw [Sg, if_neg (fun z => z.1 e)]
  have c5 : dI' T (i + 1) = dI' T i := by rw [dI', if_neg e68, Nat.add_zero]
  have c7 : ∀ f j, Dg f T (i + 1) j = Dg f T i j := fun f j => by rw [Dg, if_neg (fun z => e68 z.1)]
  unfold MH
  simp only [c2, c4, c5, c7]
theorem MH_1 (h : Hp) {T : Nat → Nat} {i : Nat} (e : ¬ T i = 47) (a b : Nat) : (MH h T (i + 1)).1 a b = if a = 41 ∧ b = cel T i then nI (T i) else if T i = 68 ∧ a = 42 ∧ b = dI' T i then nI (cel T i) else if T i = 68 ∧ a = 39 ∧ b = 7 then nI (dI' T i + 1) else (MH h T i).1 a b := by
  show (if a = 41 then (if ¬ T i = 47 ∧ b = cel T i then nI (T i) else Sg (h.1 41) T i b) else if a = 42 then (if T i = 68 ∧ b = dI' T i then nI (cel T i) else Dg (h.1 42) T i b) else if a = 39 ∧ b = 7 then nI (dI' T i + (if T i = 68 then 1 else 0)) else h.1 a b) = if a = 41 ∧ b = cel T i then nI (T i) else if T i = 68 ∧ a = 42 ∧ b = dI' T i then nI (cel T i) else if T i = 68 ∧ a = 39 ∧ b = 7 then nI (dI' T i + 1) else (if a = 41 then Sg (h.1 41) T i b else if a = 42 then Dg (h.1 42) T i b else if a = 39 ∧ b = 7 then nI (dI' T i) else h.1 a b)
  by_cases a3 : a = 41
  · subst a3
    simp [e]
  · by_cases a4 : a = 42
    · subst a4
      simp
    · by_cases a2 : a = 39 ∧ b = 7
      · obtain ⟨rfl, rfl⟩ := a2
        by_cases q : T i = 68 <;> simp [q]
      · have n1 : ¬ (a = 41 ∧ b = cel T i) := fun z => a3 z.1
        have n2 : ¬ (T i = 68 ∧ a = 42 ∧ b = dI' T i) := fun z => a4 z.2.1
        have n3 : ¬ (T i = 68 ∧ a = 39 ∧ b = 7) := fun z => a2 z.2
        simp only [if_neg a3, if_neg a4, if_neg a2, if_neg n1, if_neg n2, if_neg n3]
theorem MH_o (h : Hp) (T : Nat → Nat) (i : Nat) {a b : Nat} (h2 : ¬ (a = 39 ∧ b = 7)) (h3 : a ≠ 41) (h4 : a ≠ 42) : (MH h T i).1 a b = h.1 a b := by
  unfold MH
  simp only [if_neg h3, if_neg h4, if_neg h2]
theorem loop5_m {h : Hp} {T : Nat → Nat} {n : Nat} (H : TxM h T n) (hu : upTo T n) (K : Int32 → Int32 → Hp → Option (Int32 × Hp)) : f_m_hall_L_5 K 1000 0 0 (MH h T 0) = K (nI (cel T n)) (nI n) (MH h T n) := by
  obtain ⟨n80, e, hT, hb⟩ := H
  refine lp0 (fun f (s : Int32 × Int32 × Hp) => f_m_hall_L_5 K f s.1 s.2.1 s.2.2) n (fun i => (nI (cel T i), nI i, MH h T i)) _ (by omega) (fun f => ?_) (fun f i hi => ?_)
  · simp only
    rw [f_m_hall_L_5, MH_o h T n (by decide) (by decide) (by decide), e, if_pos ((leN (by omega) (by omega)).mpr (Nat.le_refl _))]
  · simp only
    have hu' : upTo T (i + 1) := fun j hj => hu j (by omega)
    have b256 := hT i
    obtain ⟨g1, g2, g3, g4, g5, g6⟩ := sb_ne _ b256
    obtain ⟨i1, i2, i3, i4, i5, i6⟩ := tx_inv i hu'.p
    rw [f_m_hall_L_5, MH_o h T i (by decide) (by decide) (by decide), e, if_neg (fun z => absurd ((leN (by omega) (by omega)).mp z) (by omega)), xin_nI (n := 80) (by omega) (by decide), clampc (by omega), MH_o h T i (by omega) (by decide) (by decide), hb i hi, Bool.and_true, xgd_true]
    by_cases e47 : T i = 47
    · obtain ⟨k1, k2, k3⟩ := ok_sl (hu i hi) e47
      have a2 : 2 ≤ aI T i := by
        by_cases r0 : rI T i = 0
        · exact k1 r0
        · have := k2 r0
          have := i4 r0
          omega
      have en : (nI (cel T i) + (7 : Int32)) / (8 : Int32) * (8 : Int32) = nI (cel T (i + 1)) := by
        have : cel T (i + 1) = (cel T i + 7) / 8 * 8 := by
          unfold cel
          rw [rI, aI, if_pos e47, if_pos e47]
          omega
        have c : cel T i < 2 ^ 20 := by unfold cel; omega
        rw [this, nI_lit 7, nI_add, jdiv8 (by omega), nI_lit 8, pk_mul]
      rw [if_pos (g1.mpr e47), nI_1, en, MH_sl h e47]
    · obtain ⟨s, sno, c64, a8, r8⟩ := sn_sg hu' e47
      obtain ⟨k1, k2, k3, k4⟩ := ok_sg (hu i hi) e47
      have es := g6 k1
      have ec : cel T (i + 1) = cel T i + 1 := by
        unfold cel
        rw [rI, aI, if_neg e47, if_neg e47]; omega
      have xd : (MH h T i).1 39 7 = nI (dI' T i) := rfl
      have xf : (MH h T i).2 39 8 = FRs T i := rfl
      rw [if_neg (fun z => e47 (g1.mp z)), xin_nI (n := 64) c64 (by decide), clampc (k := cel T i) (by omega), xd, xf, nI_1, nI_1, ec, xgd_true]
      simp only [g4, g3]
      rw [es]
      by_cases q68 : T i = 68
      · have d7 := k3 q68
        rw [if_pos q68, xin_nI (n := 8) d7 (by decide), clampc (by omega), nI_1]
        show f_m_hall_L_5 K f _ _ _ = _
        congr 1
        refine Prod.ext (funext fun a => funext fun b => ?_) (funext fun a => funext fun b => ?_)
        · rw [MH_1 h e47]
          show (if a = 39 ∧ b = 7 then nI (dI' T i + 1) else if a = 42 ∧ b = dI' T i then nI (cel T i) else if a = 41 ∧ b = cel T i then nI (T i) else (MH h T i).1 a b) = _
          by_cases w1 : a = 41 ∧ b = cel T i
          · have n1 : ¬ (a = 39 ∧ b = 7) := by omega
            have n2 : ¬ (a = 42 ∧ b = dI' T i) := by omega
            rw [if_neg n1, if_neg n2, if_pos w1, if_pos w1]
          · by_cases w2 : a = 42 ∧ b = dI' T i
            · have n1 : ¬ (a = 39 ∧ b = 7) := by omega
              have n2 : T i = 68 ∧ a = 42 ∧ b = dI' T i := ⟨q68, w2⟩
              rw [if_neg n1, if_pos w2, if_neg w1, if_pos n2]
            · have n2 : ¬ (T i = 68 ∧ a = 42 ∧ b = dI' T i) := fun z => w2 z.2
              by_cases w3 : a = 39 ∧ b = 7
              · have n3 : T i = 68 ∧ a = 39 ∧ b = 7 := ⟨q68, w3⟩
                rw [if_pos w3, if_neg w1, if_neg n2, if_pos n3]
              · have n3 : ¬ (T i = 68 ∧ a = 39 ∧ b = 7) := fun z => w3 z.2
                rw [if_neg w3, if_neg w2, if_neg w1, if_neg w1, if_neg n2, if_neg n3]
        · show (if a = 39 ∧ b = 8 then FRs T i else h.2 a b) = if a = 39 ∧ b = 8 then FRs T (i + 1) else h.2 a b
          rw [FRs, if_pos (Or.inr (Or.inr q68))]
      · rw [if_neg q68]
        by_cases q35 : T i = 35
        · rw [if_pos q35]
          show f_m_hall_L_5 K f _ _ _ = _
          congr 1
          refine Prod.ext (funext fun a => funext fun b => ?_) (funext fun a => funext fun b => ?_)
          · rw [MH_1 h e47, if_neg (show ¬ (T i = 68 ∧ a = 42 ∧ b = dI' T i) from fun z => q68 z.1), if_neg (show ¬ (T i = 68 ∧ a = 39 ∧ b = 7) from fun z => q68 z.1)]; rfl
          · show (if a = 39 ∧ b = 8 then FRs T i else h.2 a b) = if a = 39 ∧ b = 8 then FRs T (i + 1) else h.2 a b
            rw [FRs, if_pos (Or.inr (Or.inl q35))]
        · rw [if_neg q35]
          show f_m_hall_L_5 K f _ _ _ = _
          congr 1
          refine Prod.ext (funext fun a => funext fun b => ?_) (funext fun a => funext fun b => ?_)
          · rw [MH_1 h e47, if_neg (show ¬ (T i = 68 ∧ a = 42 ∧ b = dI' T i) from fun z => q68 z.1), if_neg (show ¬ (T i = 68 ∧ a = 39 ∧ b = 7) from fun z => q68 z.1)]; rfl
          · show (if a = 39 ∧ b = 8 then FRs T i ||| jshlL 1 (nI (cel T i)) else if a = 39 ∧ b = 8 then FRs T i else h.2 a b) = if a = 39 ∧ b = 8 then FRs T (i + 1) else h.2 a b
            rw [FRs, if_neg (show ¬ (T i = 47 ∨ T i = 35 ∨ T i = 68) from fun z => z.elim e47 (fun y => y.elim q35 q68))]
            by_cases w : a = 39 ∧ b = 8
            · rw [if_pos w, if_pos w]; rfl
            · rw [if_neg w, if_neg w, if_neg w]
