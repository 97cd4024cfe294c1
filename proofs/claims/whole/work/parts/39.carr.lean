/-! ===== loops; sets gathered ===== -/
theorem lpTo {S R : Type} (F : Nat → S → Option R) (n : Nat) (sp : Nat → S) (r : Option R) (hend : ∀ f, F (f + 1) (sp n) = r) (hstep : ∀ f i, i < n → F (f + 1) (sp i) = F f (sp (i + 1))) : ∀ m i fuel, i + m = n → m < fuel → F fuel (sp i) = r := by
  intro m
  induction m with
  | zero =>
    intro i fuel h1 h2
    obtain ⟨f, rfl⟩ : ∃ f, fuel = f + 1 := ⟨fuel - 1, by omega⟩
    have : i = n := by omega
    subst this
    exact hend f
  | succ m ih =>
    intro i fuel h1 h2
    obtain ⟨f, rfl⟩ : ∃ f, fuel = f + 1 := ⟨fuel - 1, by omega⟩
    rw [hstep f i (by omega)]
    exact ih (i + 1) f (by omega) (by omega)
theorem lp0 {S R : Type} (F : Nat → S → Option R) (n : Nat) (sp : Nat → S) (r : Option R) (hn : n < 1000) (hend : ∀ f, F (f + 1) (sp n) = r) (hstep : ∀ f i, i < n → F (f + 1) (sp i) = F f (sp (i + 1))) : F 1000 (sp 0) = r := lpTo F n sp r hend hstep n 0 1000 (by omega) hn
def orF (f : Nat → Int64) : Nat → Int64
  | 0 => 0
  | n + 1 => orF f n ||| f n
theorem bq_orF (f : Nat → Int64) (c : Nat) : ∀ n, (bq (orF f n) c = true ↔ ∃ i, i < n ∧ bq (f i) c = true) := by
  intro n
  induction n with
  | zero => simp [orF, bq_0]
  | succ n ih =>
    rw [orF, bq_or, Bool.or_eq_true, ih]
    constructor
    · rintro (⟨i, h1, h2⟩ | h)
      · exact ⟨i, by omega, h2⟩
      · exact ⟨n, by omega, h⟩
    · rintro ⟨i, h1, h2⟩
      by_cases e : i = n
      · subst e; exact Or.inr h2
      · exact Or.inl ⟨i, by omega, h2⟩
theorem and_one {v : Int64} {c : Nat} (hc : c < 64) : lg_cmp (v &&& jshlL 1 (nI c)) 0 = 0 ↔ bq v c = false := by
  rw [lg_eq]
  have := one_and hc v
  unfold one at this
  rw [show v &&& jshlL 1 (nI c) = jshlL 1 (nI c) &&& v by apply bq_ext; intro i _; rw [bq_and, bq_and, Bool.and_comm], this]
  cases hb : bq v c with
  | false => simp
  | true =>
    have := one_ne0 hc
    unfold one at this
    simp [this]
theorem one_and0 {v : Int64} {c : Nat} (hc : c < 64) : lg_cmp (jshlL 1 (nI c) &&& v) 0 = 0 ↔ bq v c = false := by
  rw [← and_one hc, show v &&& jshlL 1 (nI c) = jshlL 1 (nI c) &&& v by apply bq_ext; intro i _; rw [bq_and, bq_and, Bool.and_comm]]
/-- the cells of a row's first n, as a set -/
def rowSet (h : Hp) (a o n : Nat) : Int64 := orF (fun i => jshlL 1 (h.1 a (o + i))) n
theorem bq_row {h : Hp} {a o n : Nat} (hv : ∀ i, i < n → ∃ c, c < 64 ∧ h.1 a (o + i) = nI c) {c : Nat} (hc : c < 64) : bq (rowSet h a o n) c = true ↔ ∃ i, i < n ∧ h.1 a (o + i) = nI c := by
  unfold rowSet
  rw [bq_orF]
  constructor
  · rintro ⟨i, h1, h2⟩
    obtain ⟨q, hq, e⟩ := hv i h1
    rw [e, bq_one hq hc] at h2
    have h2 := of_decide_eq_true h2
    subst h2
    exact ⟨i, h1, e⟩
  · rintro ⟨i, h1, h2⟩
    refine ⟨i, h1, ?_⟩
    rw [h2, bq_one hc hc]
    simp
theorem leN {a b : Nat} (ha : a < 2 ^ 31) (hb : b < 2 ^ 31) : nI a ≤ nI b ↔ a ≤ b := by rw [leI, nI_toInt ha, nI_toInt hb]; omega
theorem ltN {a b : Nat} (ha : a < 2 ^ 31) (hb : b < 2 ^ 31) : nI a < nI b ↔ a < b := by rw [ltI, nI_toInt ha, nI_toInt hb]; omega
theorem eqN {a b : Nat} (ha : a < 2 ^ 31) (hb : b < 2 ^ 31) : nI a = nI b ↔ a = b := nI_eq ha hb
theorem nleL (n : Nat) {i : Nat} (h : i < n) (hn : n < 2 ^ 31 := by decide) : ¬ (OfNat.ofNat n : Int32) ≤ nI i := by rw [leI, tI n hn, nI_toInt (by omega)]; omega
theorem leL (n : Nat) {i : Nat} (h : n ≤ i) (hi : i < 2 ^ 31) : (OfNat.ofNat n : Int32) ≤ nI i := by rw [leI, tI n (by omega), nI_toInt (by omega)]; omega
theorem orF_congr {f g : Nat → Int64} : ∀ n, (∀ i, i < n → f i = g i) → orF f n = orF g n := by
  intro n
  induction n with
  | zero => intro _; rfl
  | succ n ih => intro e; rw [orF, orF, ih (fun i hi => e i (by omega)), e n (by omega)]
theorem cTaken_x {h : Hp} {nc : Nat} (hn : nc ≤ 2) (e : h.1 6 7 = nI nc) : f_scene_carriersTaken_6 h = some (rowSet h 9 0 nc) := by
  unfold f_scene_carriersTaken_6
  refine lp0 (fun f s => f_scene_carriersTaken_6_L_1 h (fun l1_3 l3_4 => some l1_3) f s.1 s.2) nc (fun i => (rowSet h 9 0 i, nI i)) _ (by omega) (fun f => ?_) (fun f i hi => ?_)
  · show f_scene_carriersTaken_6_L_1 h _ (f + 1) (rowSet h 9 0 nc) (nI nc) = _
    rw [f_scene_carriersTaken_6_L_1, e, if_pos ((leN (by omega) (by omega)).mpr (Nat.le_refl _))]
  · show f_scene_carriersTaken_6_L_1 h _ (f + 1) (rowSet h 9 0 i) (nI i) = f_scene_carriersTaken_6_L_1 h _ f (rowSet h 9 0 (i + 1)) (nI (i + 1))
    rw [f_scene_carriersTaken_6_L_1, e, if_neg (fun q => absurd ((leN (by omega) (by omega)).mp q) (by omega)), xin_nI (n := 2) (by omega) (by decide), clampc (by omega), nI_1]
    show _ = f_scene_carriersTaken_6_L_1 h _ f (rowSet h 9 0 i ||| jshlL 1 (h.1 9 (0 + i))) (nI (i + 1))
    rw [Nat.zero_add]; rfl
theorem cOn_m {h : Hp} {nc : Nat} (hn : nc ≤ 2) (e : h.1 39 15 = nI nc) (c : Int32) : ∃ r, f_m_carrierOn c h = some r ∧ (r = -9 ↔ ∀ k, k < nc → h.1 45 k ≠ c) := by
  unfold f_m_carrierOn
  have key : ∀ m i fuel, i + m = nc → m < fuel → (∀ k, k < i → h.1 45 k ≠ c) → ∃ r, f_m_carrierOn_L_1 c h (fun l2_4 => some (-9 : Int32)) fuel (nI i) = some r ∧ (r = -9 ↔ ∀ k, k < nc → h.1 45 k ≠ c) := by
    intro m
    induction m with
    | zero =>
      intro i fuel h1 h2 h3
      obtain ⟨f, rfl⟩ : ∃ f, fuel = f + 1 := ⟨fuel - 1, by omega⟩
      have : i = nc := by omega
      subst this
      refine ⟨-9, ?_, by simp [h3]; exact h3⟩
      rw [f_m_carrierOn_L_1, e, if_pos ((leN (by omega) (by omega)).mpr (Nat.le_refl _))]
    | succ m ih =>
      intro i fuel h1 h2 h3
      obtain ⟨f, rfl⟩ : ∃ f, fuel = f + 1 := ⟨fuel - 1, by omega⟩
      rw [f_m_carrierOn_L_1, e, if_neg (fun q => absurd ((leN (by omega) (by omega)).mp q) (by omega)), xin_nI (n := 6) (by omega) (by decide), clampc (by omega), nI_1]
      simp only [Bool.and_true, xgd_true]
      by_cases hc : h.1 45 i = c
      · rw [if_pos hc]
        refine ⟨nI i, rfl, ?_⟩
        constructor
        · intro q
          have := congrArg Int32.toInt q
          rw [nI_toInt (by omega)] at this
          have e9 : (-9 : Int32).toInt = -9 := by decide
          rw [e9] at this
          omega
        · intro q; exact absurd hc (q i (by omega))
      · rw [if_neg hc]
        refine ih (i + 1) f (by omega) (by omega) (fun k hk => ?_)
        by_cases ek : k = i
        · subst ek; exact hc
        · exact h3 k (by omega)
  exact key nc 0 1000 (by omega) (by omega) (fun k hk => absurd hk (by omega))
/-- n places of a cell from o on -/
def fl (h : Hp) (c o n : Nat) (v : Int32) : Hp := (fun a b => if a = c ∧ o ≤ b ∧ b < o + n then v else h.1 a b, h.2)
theorem fl_1 (h : Hp) (c o n : Nat) (v : Int32) (a b : Nat) : (fl h c o n v).1 a b = if a = c ∧ o ≤ b ∧ b < o + n then v else h.1 a b := rfl
theorem fl_0 (h : Hp) (c o : Nat) (v : Int32) : fl h c o 0 v = h := by
  refine hp_ext (fun a b => ?_) rfl
  rw [fl_1, if_neg (by omega)]
theorem fl_s (h : Hp) (c o n : Nat) (v : Int32) : xI (fl h c o n v) c (o + n) v = fl h c o (n + 1) v := by
  refine hp_ext (fun a b => ?_) rfl
  rw [xI_1, fl_1, fl_1]
  by_cases h1 : a = c ∧ b = o + n
  · rw [if_pos h1, if_pos (by omega)]
  · rw [if_neg h1]
    by_cases h2 : a = c ∧ o ≤ b ∧ b < o + n
    · rw [if_pos h2, if_pos (by omega)]
    · rw [if_neg h2, if_neg (by omega)]
theorem add_x {h : Hp} {nc : Nat} (hn : nc < 2) (e : h.1 6 7 = nI nc) (c l : Int32) : f_scene_addCarrier_6 c l h = some (nI nc, xI (fl (xI (xI h 9 nc c) 10 nc l) 11 (64 * nc) 64 (-1)) 6 7 (nI nc + 1)) := by
  unfold f_scene_addCarrier_6
  rw [e, xin_nI (n := 2) (by omega) (by decide), clampc (by omega)]
  simp only [Bool.and_true, xgd_true]
  generalize hh0 : xI (xI h 9 nc c) 10 nc l = h0
  have e0 : h0.1 6 7 = nI nc := by subst hh0; exact e
  have := lp0 (fun f s => f_scene_addCarrier_6_L_1 (fun l3_3 h_4 => some ((((h_4.1 6 7) + (1 : Int32)) - (1 : Int32)), (xI h_4 6 7 ((h_4.1 6 7) + (1 : Int32))))) f s.1 s.2) 64 (fun i => (nI i, fl h0 11 (64 * nc) i (-1))) (some (nI nc, xI (fl h0 11 (64 * nc) 64 (-1)) 6 7 (nI nc + 1))) (by omega) (fun f => ?_) (fun f i hi => ?_)
  · simp only [fl_0] at this
    exact this
  · show f_scene_addCarrier_6_L_1 _ (f + 1) (nI 64) (fl h0 11 (64 * nc) 64 (-1)) = _
    rw [f_scene_addCarrier_6_L_1, if_pos (by decide)]
    have e2 : (fl h0 11 (64 * nc) 64 (-1)).1 6 7 = nI nc := e0
    rw [e2, add_sub1]
  · show f_scene_addCarrier_6_L_1 _ (f + 1) (nI i) (fl h0 11 (64 * nc) i (-1)) = f_scene_addCarrier_6_L_1 _ f (nI (i + 1)) (fl h0 11 (64 * nc) (i + 1) (-1))
    have e2 : (fl h0 11 (64 * nc) i (-1)).1 6 7 = nI nc := e0
    rw [f_scene_addCarrier_6_L_1, if_neg (nleL 64 hi), e2, mul64, xin_nI (n := 128) (by omega) (by decide), clampc (by omega), nI_1, fl_s]
    rfl
theorem add_m {h : Hp} {nc : Nat} (hn : nc < 2) (e : h.1 39 15 = nI nc) (k : Int32 → Hp → Option (Int32 × Hp)) : f_m_carrier_L_8 k 1000 0 h = k (nI 64) (fl h 47 (64 * nc) 64 0) := by
  have := lp0 (fun f s => f_m_carrier_L_8 k f s.1 s.2) 64 (fun i => (nI i, fl h 47 (64 * nc) i 0)) (k (nI 64) (fl h 47 (64 * nc) 64 0)) (by omega) (fun f => ?_) (fun f i hi => ?_)
  · simp only [fl_0] at this
    exact this
  · show f_m_carrier_L_8 _ (f + 1) (nI 64) (fl h 47 (64 * nc) 64 0) = _
    rw [f_m_carrier_L_8, if_pos (by decide)]
  · show f_m_carrier_L_8 _ (f + 1) (nI i) (fl h 47 (64 * nc) i 0) = f_m_carrier_L_8 _ f (nI (i + 1)) (fl h 47 (64 * nc) (i + 1) 0)
    have e2 : (fl h 47 (64 * nc) i 0).1 39 15 = nI nc := e
    rw [f_m_carrier_L_8, if_neg (nleL 64 hi), e2, mul64, xin_nI (n := 384) (by omega) (by decide), clampc (by omega), nI_1, fl_s]
    rfl
