/-! ===== a carrier looks ===== -/
def SEE (w g : Nat) (fr : Int64) (c : Nat) : Int64 := dAcc w g c (raysF (fun d => rayN (fun p => nbw w g p d) fr 8 (nbw w g c d) 0) 4 0 (one c))
theorem seen_m {h : Hp} {w g c : Nat} (H : RHl h w g) (hc : cellIn w g c) : f_m_seenFrom (nI c) h = some (SEE w g (h.2 39 8) c) := by
  obtain ⟨⟨w1, w2, g1, g2⟩, ⟨e1, e2⟩, -⟩ := H
  unfold f_m_seenFrom
  show f_m_seenFrom_L_1 (nI c) h _ 1000 (one c) (nI 0) = _
  rw [rays_m e1 e2 (by omega) (by omega) hc.1 _ 4 0 1000 (one c) rfl (by decide)]
  show f_m_seenFrom_L_17 (nI c) h _ (995 + 5) _ 0 = _
  rw [diag_m e1 e2 (by omega) (by omega) hc.1]
  rfl
theorem seen_x {h : Hp} {w g c : Nat} (H : RHl h w g) (hc : cellIn w g c) : f_hall_seenFrom (nI c) h = some (SEE w g (h.2 39 8) c) := by
  obtain ⟨S, s1, s2⟩ := seen_both H hc
  rw [seen_m H hc] at s2
  rw [s1, ← s2]
def lkx (h : Hp) (k : Nat) (S : Int64) (c : Nat) : Hp := (fun a b => if a = 11 ∧ 64 * k ≤ b ∧ b < 64 * k + c ∧ bq S (b - 64 * k) = true then h.1 6 9 else h.1 a b, h.2)
def lkm (h : Hp) (k : Nat) (S : Int64) (c : Nat) : Hp := (fun a b => if a = 47 ∧ 64 * k ≤ b ∧ b < 64 * k + c ∧ bq S (b - 64 * k) = true then h.1 39 19 + 1 else h.1 a b, h.2)
theorem hp_ext {h h' : Hp} (e1 : ∀ a b, h.1 a b = h'.1 a b) (e2 : h.2 = h'.2) : h = h' := by
  obtain ⟨x, y⟩ := h
  obtain ⟨x', y'⟩ := h'
  have : x = x' := funext fun a => funext fun b => e1 a b
  have e2 : y = y' := e2
  rw [this, e2]
theorem lkx_t {h : Hp} {k c : Nat} {S : Int64} (hb : bq S c = true) : xI (lkx h k S c) 11 (64 * k + c) (h.1 6 9) = lkx h k S (c + 1) := by
  refine hp_ext (fun a b => ?_) rfl
  simp only [xI_1, lkx]
  by_cases ha : a = 11
  · by_cases hb2 : b = 64 * k + c
    · subst hb2; simp [ha, hb]
    · have e : (64 * k ≤ b ∧ b < 64 * k + c ∧ bq S (b - 64 * k) = true) ↔ (64 * k ≤ b ∧ b < 64 * k + (c + 1) ∧ bq S (b - 64 * k) = true) := by
        constructor
        · rintro ⟨x, y, z⟩; exact ⟨x, by omega, z⟩
        · rintro ⟨x, y, z⟩; exact ⟨x, by omega, z⟩
      simp [ha, hb2, e]
  · simp [ha]
theorem lkx_f {h : Hp} {k c : Nat} {S : Int64} (hb : bq S c = false) : lkx h k S c = lkx h k S (c + 1) := by
  refine hp_ext (fun a b => ?_) rfl
  simp only [lkx]
  by_cases hb2 : b = 64 * k + c
  · subst hb2; simp [hb]
  · have e : (64 * k ≤ b ∧ b < 64 * k + c ∧ bq S (b - 64 * k) = true) ↔ (64 * k ≤ b ∧ b < 64 * k + (c + 1) ∧ bq S (b - 64 * k) = true) := by
      constructor
      · rintro ⟨x, y, z⟩; exact ⟨x, by omega, z⟩
      · rintro ⟨x, y, z⟩; exact ⟨x, by omega, z⟩
    simp [e]
theorem lkm_t {h : Hp} {k c : Nat} {S : Int64} (hb : bq S c = true) : xI (lkm h k S c) 47 (64 * k + c) (h.1 39 19 + 1) = lkm h k S (c + 1) := by
  refine hp_ext (fun a b => ?_) rfl
  simp only [xI_1, lkm]
  by_cases ha : a = 47
  · by_cases hb2 : b = 64 * k + c
    · subst hb2; simp [ha, hb]
    · have e : (64 * k ≤ b ∧ b < 64 * k + c ∧ bq S (b - 64 * k) = true) ↔ (64 * k ≤ b ∧ b < 64 * k + (c + 1) ∧ bq S (b - 64 * k) = true) := by
        constructor
        · rintro ⟨x, y, z⟩; exact ⟨x, by omega, z⟩
        · rintro ⟨x, y, z⟩; exact ⟨x, by omega, z⟩
      simp [ha, hb2, e]
  · simp [ha]
theorem lkm_f {h : Hp} {k c : Nat} {S : Int64} (hb : bq S c = false) : lkm h k S c = lkm h k S (c + 1) := by
  refine hp_ext (fun a b => ?_) rfl
  simp only [lkm]
  by_cases hb2 : b = 64 * k + c
  · subst hb2; simp [hb]
  · have e : (64 * k ≤ b ∧ b < 64 * k + c ∧ bq S (b - 64 * k) = true) ↔ (64 * k ≤ b ∧ b < 64 * k + (c + 1) ∧ bq S (b - 64 * k) = true) := by
      constructor
      · rintro ⟨x, y, z⟩; exact ⟨x, by omega, z⟩
      · rintro ⟨x, y, z⟩; exact ⟨x, by omega, z⟩
    simp [e]
theorem xI_id (h : Hp) (c j : Nat) : xI h c j (h.1 c j) = h := by
  refine hp_ext (fun a b => ?_) rfl
  simp only [xI_1]
  by_cases e : a = c ∧ b = j
  · obtain ⟨rfl, rfl⟩ := e; simp
  · simp [e]
theorem look_x (h : Hp) {k : Nat} (hk : k < 2) (S : Int64) (K : Int32 → Hp → Option Hp) : ∀ (n c fuel : Nat), c + n = 64 → n < fuel → f_x_lookAround_L_3 (nI k) S K fuel (nI c) (lkx h k S c) = K (nI 64) (lkx h k S 64) := by
  intro n
  induction n with
  | zero =>
    intro c fuel hc hf
    obtain ⟨f, rfl⟩ : ∃ f, fuel = f + 1 := ⟨fuel - 1, by omega⟩
    have : c = 64 := by omega
    subst this
    rw [f_x_lookAround_L_3, if_pos (by decide)]
  | succ n ih =>
    intro c fuel hc hf
    obtain ⟨f, rfl⟩ : ∃ f, fuel = f + 1 := ⟨fuel - 1, by omega⟩
    rw [f_x_lookAround_L_3, if_neg (by rw [leI, tI 64, nI_toInt (by omega)]; omega), tst_u (by omega), nI_1, mul64, xin_nI (n := 128) (by omega) (by decide), clampc (by omega)]
    cases hb : bq S c with
    | false =>
      rw [if_pos ((bL_0 _).mpr rfl), lkx_f hb]
      exact ih (c + 1) f (by omega) (by omega)
    | true =>
      rw [if_neg (fun q => absurd ((bL_0 true).mp q) (by decide))]
      have e9 : (lkx h k S c).1 6 9 = h.1 6 9 := by simp [lkx]
      rw [e9, lkx_t hb]
      simp only [Bool.and_true, xgd_true]
      exact ih (c + 1) f (by omega) (by omega)
theorem look_m (h : Hp) {k : Nat} (hk : k < 2) (S : Int64) (K : Int32 → Hp → Option Hp) : ∀ (n c fuel : Nat), c + n = 64 → n < fuel → f_m_lookAbout_L_3 (nI k) S K fuel (nI c) (lkm h k S c) = K (nI 64) (lkm h k S 64) := by
  intro n
  induction n with
  | zero =>
    intro c fuel hc hf
    obtain ⟨f, rfl⟩ : ∃ f, fuel = f + 1 := ⟨fuel - 1, by omega⟩
    have : c = 64 := by omega
    subst this
    rw [f_m_lookAbout_L_3, if_pos (by decide)]
  | succ n ih =>
    intro c fuel hc hf
    obtain ⟨f, rfl⟩ : ∃ f, fuel = f + 1 := ⟨fuel - 1, by omega⟩
    rw [f_m_lookAbout_L_3, if_neg (by rw [leI, tI 64, nI_toInt (by omega)]; omega), tst_s (by omega), nI_1, mul64, xin_nI (n := 384) (by omega) (by decide), clampc (by omega)]
    cases hb : bq S c with
    | false =>
      rw [if_neg (fun q => absurd ((bL_1 false).mp q) (by decide)), xI_id, lkm_f hb]
      simp only [Bool.and_true, xgd_true]
      exact ih (c + 1) f (by omega) (by omega)
    | true =>
      rw [if_pos ((bL_1 _).mpr rfl)]
      have e9 : (lkm h k S c).1 39 19 = h.1 39 19 := by simp [lkm]
      rw [e9, lkm_t hb]
      simp only [Bool.and_true, xgd_true]
      exact ih (c + 1) f (by omega) (by omega)
theorem lkx_0 (h : Hp) (k : Nat) (S : Int64) : lkx h k S 0 = h := by
  refine hp_ext (fun a b => ?_) rfl
  simp only [lkx]
  rw [if_neg (by omega)]
theorem lkm_0 (h : Hp) (k : Nat) (S : Int64) : lkm h k S 0 = h := by
  refine hp_ext (fun a b => ?_) rfl
  simp only [lkm]
  rw [if_neg (by omega)]
theorem lookAround_x {h : Hp} {w g k c : Nat} (H : RHl h w g) (hk : k < 2) (hc : cellIn w g c) (e : h.1 9 k = nI c) : f_x_lookAround (nI k) h = some (lkx h k (SEE w g (h.2 39 8) c) 64) := by
  unfold f_x_lookAround f_x_seenBy
  rw [xin_nI (n := 2) hk (by decide), clampc (by omega), e, seen_x H hc]
  simp only [Bool.and_true, xgd_true, xbd1_some]
  have := look_x h hk (SEE w g (h.2 39 8) c) (fun _ h => some h) 64 0 1000 rfl (by decide)
  rw [lkx_0] at this
  exact this
theorem lookAbout_m {h : Hp} {w g k c : Nat} (H : RHl h w g) (hk : k < 2) (hc : cellIn w g c) (e : h.1 45 k = nI c) : f_m_lookAbout (nI k) h = some (lkm h k (SEE w g (h.2 39 8) c) 64) := by
  unfold f_m_lookAbout
  rw [xin_nI (n := 6) (by omega) (by decide), clampc (by omega), e, seen_m H hc]
  simp only [Bool.and_true, xgd_true, xbd1_some]
  have := look_m h hk (SEE w g (h.2 39 8) c) (fun _ h => some h) 64 0 1000 rfl (by decide)
  rw [lkm_0] at this
  exact this
theorem lkx_of {h : Hp} {k : Nat} {S : Int64} {a : Nat} (ha : a ≠ 11) : (lkx h k S 64).1 a = h.1 a := by
  funext b; simp [lkx, ha]
theorem lkm_of {h : Hp} {k : Nat} {S : Int64} {a : Nat} (ha : a ≠ 47) : (lkm h k S 64).1 a = h.1 a := by
  funext b; simp [lkm, ha]
/-- what a carrier saw, behind both looks -/
theorem look_saw {h : Hp} {k : Nat} {S : Int64} {nc : Nat} (hs : ∀ i, i < nc → i ≠ k → ∀ c, c < 64 → h.1 47 (64 * i + c) = h.1 11 (64 * i + c) + 1) (hk0 : ∀ c, c < 64 → bq S c = false → h.1 47 (64 * k + c) = h.1 11 (64 * k + c) + 1) (ht : h.1 39 19 = h.1 6 9) : ∀ i, i < nc → ∀ c, c < 64 → (lkm (lkx h k S 64) k S 64).1 47 (64 * i + c) = (lkm (lkx h k S 64) k S 64).1 11 (64 * i + c) + 1 := by
  intro i hi c hc
  have e1 : (lkm (lkx h k S 64) k S 64).1 11 (64 * i + c) = (lkx h k S 64).1 11 (64 * i + c) := by rw [lkm_of (by decide)]
  rw [e1]
  by_cases hik : i = k
  · subst hik
    cases hb : bq S c with
    | true => simp [lkm, lkx, hb, hc, ht, Nat.add_sub_cancel_left]
    | false =>
      have := hk0 c hc hb
      simp [lkm, lkx, hb, this, Nat.add_sub_cancel_left]
  · have := hs i hi hik c hc
    have e : ∀ X : Prop, ¬ (64 * k ≤ 64 * i + c ∧ 64 * i + c < 64 * k + 64 ∧ X) := fun X => by omega
    simp [lkm, lkx, e, this]
