/-! ===== helpers: cells, people, carriers ===== -/
theorem jrem8 {k : Nat} (h : k < 2 ^ 31) : jrem (nI k) 8 = nI (k % 8) := pk_rem (d := 8) h (by decide) (by decide)
theorem jdiv8 {k : Nat} (h : k < 2 ^ 31) : nI k / 8 = nI (k / 8) := pk_div (d := 8) h (by decide) (by decide)
theorem subT {a b : Nat} (ha : a < 2 ^ 30) (hb : b < 2 ^ 30) : (nI a - nI b).toInt = (a : Int) - b := pk_sub_toInt ha hb
theorem sub1T {a : Nat} (ha : a < 2 ^ 30) : (nI a - 1).toInt = (a : Int) - 1 := pk_sub_toInt (b := 1) ha (by decide)
theorem m1T : (-1 : Int32).toInt = -1 := by decide
theorem lit_nI (n : Nat) : nI n = (OfNat.ofNat n : Int32) := rfl
/-- an index of a list of n by both tests -/
theorem ix_x {n : Nat} (hn : n < 2 ^ 30) (i : Int32) : ((i < 0 ∨ nI n ≤ i) ∧ ¬ (0 ≤ i.toInt ∧ i.toInt < n)) ∨ ∃ k, k < n ∧ i = nI k := by
  rcases pk_ix i (n := n) (by omega) with h | h | h
  · left; refine ⟨Or.inl h, ?_⟩
    rw [lt0] at h; omega
  · left; refine ⟨Or.inr h, ?_⟩
    rw [leI, nI_toInt (by omega)] at h; omega
  · exact Or.inr h
theorem in_ix {n : Nat} (hn : n < 2 ^ 30) (i : Int32) (h : ¬ (0 ≤ i.toInt ∧ i.toInt < n)) : f_m_in i 0 (nI n - 1) = 0 := by
  rw [f_in, decide_eq_false]; rfl
  rw [sub1T hn, tI 0]; omega
theorem in_ix1 {n k : Nat} (hn : n < 2 ^ 30) (h : k < n) : f_m_in (nI k) 0 (nI n - 1) = 1 := by
  rw [f_in, decide_eq_true]; rfl
  rw [sub1T hn, tI 0, nI_toInt (by omega)]; omega
theorem in_lit0 {i a b : Int32} (h : ¬ (a.toInt ≤ i.toInt ∧ i.toInt ≤ b.toInt)) : f_m_in i a b = 0 := by
  rw [f_in, decide_eq_false h]; rfl
theorem in_lit1 {i a b : Int32} (h : a.toInt ≤ i.toInt ∧ i.toInt ≤ b.toInt) : f_m_in i a b = 1 := by
  rw [f_in, decide_eq_true h]; rfl
theorem isPerson_cases {h : Hp} {np : Nat} (hn : np ≤ 6) (h1 : h.1 6 6 = nI np) (h2 : h.1 39 12 = nI np) (i : Int32) : (f_x_isPerson i h = 0 ∧ f_m_isPerson i h = 0) ∨ ∃ k, k < np ∧ i = nI k ∧ f_x_isPerson (nI k) h = 1 ∧ f_m_isPerson (nI k) h = 1 := by
  unfold f_x_isPerson f_m_isPerson
  rw [h1, h2]
  rcases ix_x (n := np) (by omega) i with ⟨a, b⟩ | ⟨k, hk, rfl⟩
  · left
    refine ⟨?_, in_ix (by omega) i b⟩
    rcases a with a | a
    · rw [if_pos a]
    · by_cases c : i < 0
      · rw [if_pos c]
      · rw [if_neg c, if_pos a]
  · right
    refine ⟨k, hk, rfl, ?_, in_ix1 (by omega) hk⟩
    rw [if_neg (nI_pos (by omega)), if_neg (nI_ge hk (by omega))]
theorem isCarrier_cases {h : Hp} {nc : Nat} (hn : nc ≤ 2) (h1 : h.1 6 7 = nI nc) (h2 : h.1 39 15 = nI nc) (i : Int32) : (f_x_isCarrier i h = 0 ∧ f_m_isCarrier i h = 0) ∨ ∃ k, k < nc ∧ i = nI k ∧ f_x_isCarrier (nI k) h = 1 ∧ f_m_isCarrier (nI k) h = 1 := by
  unfold f_x_isCarrier f_m_isCarrier
  rw [h1, h2]
  rcases ix_x (n := nc) (by omega) i with ⟨a, b⟩ | ⟨k, hk, rfl⟩
  · left
    refine ⟨?_, in_ix (by omega) i b⟩
    rcases a with a | a
    · rw [if_pos a]
    · by_cases c : i < 0
      · rw [if_pos c]
      · rw [if_neg c, if_pos a]
  · right
    refine ⟨k, hk, rfl, ?_, in_ix1 (by omega) hk⟩
    rw [if_neg (nI_pos (by omega)), if_neg (nI_ge hk (by omega))]
theorem isCell_m1 {h : Hp} {w g k : Nat} (hw : w ≤ 8) (hg : g ≤ 8) (h1 : h.1 39 3 = nI w) (h2 : h.1 39 4 = nI g) (hk : k < 64) : f_m_isCell (nI k) h = bI (decide (k % 8 < w ∧ k / 8 < g)) := by
  unfold f_m_isCell
  rw [in_lit1 (by rw [tI 0, tI 63, nI_toInt (by omega)]; omega), if_neg (by decide), h1, h2, jrem8 (by omega), jdiv8 (by omega)]
  by_cases a : k % 8 < w
  · rw [if_neg (nI_ge a (by omega))]
    by_cases b : k / 8 < g
    · rw [if_neg (nI_ge b (by omega)), decide_eq_true ⟨a, b⟩]; rfl
    · rw [if_pos (nI_le (by omega) (by omega)), decide_eq_false (fun q => b q.2)]; rfl
  · rw [if_pos (nI_le (by omega) (by omega)), decide_eq_false (fun q => a q.1)]; rfl
theorem has_x1 {h : Hp} {k : Nat} (hk : k < 64) : f_hall_has (nI k) h = bI (bq (h.2 2 4) k) := by
  unfold f_hall_has
  rw [if_neg (nI_pos (by omega)), if_neg (by rw [leI, tI 64, nI_toInt (by omega)]; omega), tst_u hk]
  cases bq (h.2 2 4) k
  · rw [if_pos ((bL_0 _).mpr rfl)]; rfl
  · rw [if_neg (fun q => absurd ((bL_0 true).mp q) (by decide))]; rfl
theorem isFree_x {h : Hp} {k : Nat} (hk : k < 64) : f_hall_isFree (nI k) h = bI (bq (h.2 2 5) k) := by
  unfold f_hall_isFree
  rw [tst_u hk]
  cases bq (h.2 2 5) k
  · rw [if_pos ((bL_0 _).mpr rfl)]; rfl
  · rw [if_neg (fun q => absurd ((bL_0 true).mp q) (by decide))]; rfl
theorem isFree_m {h : Hp} {k : Nat} (hk : k < 64) : f_m_isFree (nI k) h = bI (bq (h.2 39 8) k) := by
  unfold f_m_isFree
  rw [tst_s hk]
  cases bq (h.2 39 8) k
  · rw [if_neg (fun q => absurd ((bL_1 false).mp q) (by decide))]; rfl
  · rw [if_pos ((bL_1 _).mpr rfl)]; rfl
theorem isCell_cases {h : Hp} {w g : Nat} (H : RHl h w g) (c : Int32) : (f_hall_has c h = 0 ∧ f_m_isCell c h = 0) ∨ ∃ k, cellIn w g k ∧ c = nI k ∧ f_hall_has (nI k) h = 1 ∧ f_m_isCell (nI k) h = 1 := by
  obtain ⟨⟨w1, w2, g1, g2⟩, ⟨e1, e2⟩, hc, -⟩ := H
  rcases ix_x (n := 64) (by decide) c with ⟨a, b⟩ | ⟨k, hk, rfl⟩
  · left
    constructor
    · unfold f_hall_has
      rcases a with a | a
      · rw [if_pos a]
      · by_cases d : c < 0
        · rw [if_pos d]
        · have a : (64 : Int32) ≤ c := a
          rw [if_neg d, if_pos a]
    · unfold f_m_isCell
      rw [in_lit0 (by rw [tI 0, tI 63]; omega), if_pos rfl]
  · rw [isCell_m1 w2 g2 e1 e2 hk, has_x1 hk, hc k hk]
    by_cases d : k % 8 < w ∧ k / 8 < g
    · right
      refine ⟨k, ⟨hk, d⟩, rfl, ?_, ?_⟩
      · rw [has_x1 hk, hc k hk, decide_eq_true d]; rfl
      · rw [isCell_m1 w2 g2 e1 e2 hk, decide_eq_true d]; rfl
    · left
      rw [decide_eq_false d]
      exact ⟨rfl, rfl⟩
/-! ===== the whole invariant but for the plan ===== -/
def RB (h : Hp) (w g np nc nl tk no : Nat) : Prop := RTx h ∧ RHl h w g ∧ RNow h w g np nc nl tk ∧ RIm h w g 14 0 ∧ RIm h w g 21 1 ∧ ROr h no ∧ RLo h ∧ RTr h ∧ (h.1 30 10 = 0 ∨ h.1 30 10 = 1)
def RelB (h : Hp) : Prop := ∃ w g np nc nl tk no, RB h w g np nc nl tk no
/-- what the plan rests on stays, or the plan is forgotten -/
def PK (h h' : Hp) : Prop := h'.1 30 10 = 0 ∨ (h'.1 30 = h.1 30 ∧ h'.1 37 = h.1 37 ∧ h'.2 39 8 = h.2 39 8 ∧ h'.1 39 19 = h.1 39 19 ∧ h'.1 39 15 = h.1 39 15 ∧ (∀ i, i < 2 → h'.1 45 i = h.1 45 i) ∧ h'.1 39 25 = h.1 39 25 ∧ h'.1 52 = h.1 52 ∧ h'.1 53 = h.1 53 ∧ h'.1 54 = h.1 54)
theorem PK.rf (h : Hp) : PK h h := Or.inr ⟨rfl, rfl, rfl, rfl, rfl, fun _ _ => rfl, rfl, rfl, rfl, rfl⟩
/-- an answer of both, alike; the invariant stays -/
def Ok2 {α : Type} (fx fm : Hp → Option (α × Hp)) : Prop := ∀ h, RelB h → ∃ r h1 h2, fx h = some (r, h1) ∧ fm h1 = some (r, h2) ∧ RelB h2 ∧ PK h h2
def Ok1 {α : Type} (fx fm : Hp → Option α) : Prop := ∀ h, RelB h → ∃ r, fx h = some r ∧ fm h = some r
theorem one_ne : ¬ (1 : Int32) = 0 := by decide
/-! ===== sign ===== -/
theorem ok_sign (c : Int32) : Ok1 (f_x_sign c) (f_m_sign c) := by
  rintro h ⟨w, g, np, nc, nl, tk, no, -, H, -⟩
  rcases isCell_cases H c with ⟨a, b⟩ | ⟨k, hk, rfl, a, b⟩
  · exact ⟨-1, by unfold f_x_sign; rw [a, if_pos rfl], by unfold f_m_sign; rw [b, if_pos rfl]⟩
  · refine ⟨h.1 41 k, ?_, ?_⟩
    · unfold f_x_sign
      rw [a, if_neg one_ne, xin_nI hk.1 (by decide), nI_clamp (by have := hk.1; omega)]
      have := (H.2.2.2.2.1 k hk).1
      simp [xgd, this]
    · unfold f_m_sign
      rw [b, if_neg one_ne, xin_nI hk.1 (by decide), nI_clamp (by have := hk.1; omega)]
      simp [xgd]
