/-! ===== the invariant between the class's cells (0 .. 38) and the reference's (39 .. 65) ===== -/
/-- a byte as the reference keeps it -/
def sb (b : Nat) : Int32 := (nI b).toInt8.toInt32
def cellIn (w g c : Nat) : Prop := c < 64 ∧ c % 8 < w ∧ c / 8 < g
def mkOf (s : Nat) : Nat := if 49 ≤ s ∧ s ≤ 57 then s - 48 else 0
/-- the text -/
def RTx (h : Hp) : Prop := ∃ n, n ≤ 80 ∧ h.1 0 1 = nI n ∧ h.1 39 2 = nI n ∧ ∀ i, i < n → ∃ b, b < 256 ∧ h.1 1 i = nI b ∧ h.1 40 i = sb b
/-- the hall -/
def RHl (h : Hp) (w g : Nat) : Prop :=
  (2 ≤ w ∧ w ≤ 8 ∧ 2 ≤ g ∧ g ≤ 8) ∧ (h.1 39 3 = nI w ∧ h.1 39 4 = nI g) ∧
  (∀ c, c < 64 → bq (h.2 2 4) c = decide (c % 8 < w ∧ c / 8 < g)) ∧
  (h.2 2 5 = h.2 39 8 ∧ ∀ c, c < 64 → bq (h.2 39 8) c = true → c % 8 < w ∧ c / 8 < g) ∧
  (∀ c, cellIn w g c → h.1 3 c = h.1 41 c ∧ ∃ s, s < 128 ∧ h.1 41 c = nI s) ∧
  (∃ nd, nd ≤ 8 ∧ h.1 2 3 = nI nd ∧ h.1 39 7 = nI nd ∧ ∀ i, i < nd → ∃ c, cellIn w g c ∧ h.1 4 i = nI c ∧ h.1 42 i = nI c) ∧
  (∀ k, k < 10 → ∀ c, c < 64 → (bq (h.2 5 k) c = true ↔ cellIn w g c ∧ ∃ s, s < 128 ∧ h.1 41 c = nI s ∧ mkOf s = k)) ∧
  (∀ c c' s, cellIn w g c → cellIn w g c' → s < 128 → h.1 41 c = nI s → h.1 41 c' = nI s → mkOf s ≠ 0 → c = c')
/-- people, carriers, what these saw, tick, lines: the class's scene at cell s, the reference's part t -/
def RSc (h : Hp) (w g s t np nc nl tk : Nat) : Prop :=
  (np ≤ 6 ∧ nc ≤ 2 ∧ nl ≤ 100 ∧ tk ≤ 1000) ∧ (h.1 s 6 = nI np ∧ h.1 s 7 = nI nc ∧ h.1 s 8 = nI nl ∧ h.1 s 9 = nI tk) ∧
  (∀ i, i < np → ∃ c, cellIn w g c ∧ h.1 (s + 1) i = nI c ∧ h.1 43 (6 * t + i) = nI c) ∧
  (∀ i, i < np → ∃ k, k < 4 ∧ h.1 (s + 2) i = nI k ∧ h.1 44 (6 * t + i) = nI k) ∧
  (∀ i, i < nc → ∃ c, cellIn w g c ∧ h.1 (s + 3) i = nI c ∧ h.1 45 (2 * t + i) = nI c) ∧
  (∀ i, i < nc → ∃ v, v < 10 ∧ h.1 (s + 4) i = nI v ∧ h.1 46 (2 * t + i) = nI v) ∧
  (∀ i, i < nc → ∀ c, c < 64 → h.1 47 (128 * t + (64 * i + c)) = h.1 (s + 5) (64 * i + c) + 1) ∧
  (∀ j, j < 5 * nl → h.1 (s + 6) j = h.1 48 (500 * t + j)) ∧
  (∀ i j, i < nc → j < nc → h.1 45 (2 * t + i) = h.1 45 (2 * t + j) → i = j)
/-- the scene that is now: all stand on free cells -/
def RNow (h : Hp) (w g np nc nl tk : Nat) : Prop :=
  RSc h w g 6 0 np nc nl tk ∧ (h.1 39 12 = nI np ∧ h.1 39 15 = nI nc ∧ h.1 39 20 = nI nl ∧ h.1 39 19 = nI tk) ∧
  (∀ i, i < np → ∀ c, c < 64 → h.1 43 i = nI c → bq (h.2 39 8) c = true) ∧
  (∀ i, i < nc → ∀ c, c < 64 → h.1 45 i = nI c → bq (h.2 39 8) c = true)
/-- an image -/
def RIm (h : Hp) (w g s j : Nat) : Prop := h.1 s 10 = h.1 61 j ∧ (h.1 61 j = 0 ∨ (h.1 61 j = 1 ∧ ∃ np nc nl tk, RSc h w g s (1 + j) np nc nl tk ∧ h.1 62 j = nI np ∧ h.1 63 j = nI nc ∧ h.1 64 j = nI tk ∧ h.1 65 j = nI nl))
/-- the orders -/
def ROr (h : Hp) (no : Nat) : Prop := no ≤ 6 ∧ h.1 30 7 = nI no ∧ h.1 39 25 = nI no ∧
  ∀ i, i < no → ∃ a b d, (a < 64 ∧ b < 64 ∧ d ≤ 200) ∧ (h.1 31 i = nI a ∧ h.1 52 i = nI a) ∧ (h.1 32 i = nI b ∧ h.1 53 i = nI b) ∧ (h.1 33 i = nI d ∧ h.1 54 i = nI d) ∧ bq (h.2 39 8) a = true ∧ bq (h.2 39 8) b = true
/-- where a lost one could be -/
def RLo (h : Hp) : Prop := h.2 0 8 = h.2 39 9 ∧ ∀ c, c < 64 → bq (h.2 39 9) c = true → bq (h.2 39 8) c = true
def RTr (h : Hp) : Prop := h.2 0 9 = h.2 39 0
/-- two states that agree in all that the text's part looks at, and so on -/
theorem RTx.of {h h' : Hp} (H : RTx h) (e1 : h'.1 0 1 = h.1 0 1) (e2 : h'.1 39 2 = h.1 39 2) (e3 : h'.1 1 = h.1 1) (e4 : h'.1 40 = h.1 40) : RTx h' := by
  unfold RTx at H ⊢
  rw [e1, e2, e3, e4]; exact H
theorem RHl.of {h h' : Hp} {w g : Nat} (H : RHl h w g) (e1 : h'.1 39 3 = h.1 39 3) (e2 : h'.1 39 4 = h.1 39 4) (e3 : h'.2 2 4 = h.2 2 4) (e4 : h'.2 2 5 = h.2 2 5) (e5 : h'.2 39 8 = h.2 39 8) (e6 : h'.1 3 = h.1 3) (e7 : h'.1 41 = h.1 41) (e8 : h'.1 2 3 = h.1 2 3) (e9 : h'.1 39 7 = h.1 39 7) (e10 : h'.1 4 = h.1 4) (e11 : h'.1 42 = h.1 42) (e12 : h'.2 5 = h.2 5) : RHl h' w g := by
  unfold RHl at H ⊢
  rw [e1, e2, e3, e4, e5, e6, e7, e8, e9, e10, e11, e12]; exact H
theorem RSc.of {h h' : Hp} {w g s t np nc nl tk : Nat} (H : RSc h w g s t np nc nl tk) (e1 : h'.1 s 6 = h.1 s 6) (e2 : h'.1 s 7 = h.1 s 7) (e3 : h'.1 s 8 = h.1 s 8) (e4 : h'.1 s 9 = h.1 s 9) (a1 : h'.1 (s + 1) = h.1 (s + 1)) (a2 : h'.1 (s + 2) = h.1 (s + 2)) (a3 : h'.1 (s + 3) = h.1 (s + 3)) (a4 : h'.1 (s + 4) = h.1 (s + 4)) (a5 : h'.1 (s + 5) = h.1 (s + 5)) (a6 : h'.1 (s + 6) = h.1 (s + 6)) (b1 : h'.1 43 = h.1 43) (b2 : h'.1 44 = h.1 44) (b3 : h'.1 45 = h.1 45) (b4 : h'.1 46 = h.1 46) (b5 : h'.1 47 = h.1 47) (b6 : h'.1 48 = h.1 48) : RSc h' w g s t np nc nl tk := by
  unfold RSc at H ⊢
  rw [e1, e2, e3, e4, a1, a2, a3, a4, a5, a6, b1, b2, b3, b4, b5, b6]; exact H
theorem RNow.of {h h' : Hp} {w g np nc nl tk : Nat} (H : RNow h w g np nc nl tk) (e1 : h'.1 6 = h.1 6) (a1 : h'.1 7 = h.1 7) (a2 : h'.1 8 = h.1 8) (a3 : h'.1 9 = h.1 9) (a4 : h'.1 10 = h.1 10) (a5 : h'.1 11 = h.1 11) (a6 : h'.1 12 = h.1 12) (b1 : h'.1 43 = h.1 43) (b2 : h'.1 44 = h.1 44) (b3 : h'.1 45 = h.1 45) (b4 : h'.1 46 = h.1 46) (b5 : h'.1 47 = h.1 47) (b6 : h'.1 48 = h.1 48) (c1 : h'.1 39 12 = h.1 39 12) (c2 : h'.1 39 15 = h.1 39 15) (c3 : h'.1 39 20 = h.1 39 20) (c4 : h'.1 39 19 = h.1 39 19) (c5 : h'.2 39 8 = h.2 39 8) : RNow h' w g np nc nl tk := by
  obtain ⟨H1, H2, H3, H4⟩ := H
  refine ⟨H1.of (by rw [e1]) (by rw [e1]) (by rw [e1]) (by rw [e1]) a1 a2 a3 a4 a5 a6 b1 b2 b3 b4 b5 b6, ?_, ?_, ?_⟩
  · rw [c1, c2, c3, c4]; exact H2
  · rw [b1, c5]; exact H3
  · rw [b3, c5]; exact H4
theorem RIm.of {h h' : Hp} {w g s j : Nat} (H : RIm h w g s j) (e1 : h'.1 s = h.1 s) (a1 : h'.1 (s + 1) = h.1 (s + 1)) (a2 : h'.1 (s + 2) = h.1 (s + 2)) (a3 : h'.1 (s + 3) = h.1 (s + 3)) (a4 : h'.1 (s + 4) = h.1 (s + 4)) (a5 : h'.1 (s + 5) = h.1 (s + 5)) (a6 : h'.1 (s + 6) = h.1 (s + 6)) (b1 : h'.1 43 = h.1 43) (b2 : h'.1 44 = h.1 44) (b3 : h'.1 45 = h.1 45) (b4 : h'.1 46 = h.1 46) (b5 : h'.1 47 = h.1 47) (b6 : h'.1 48 = h.1 48) (c1 : h'.1 61 = h.1 61) (c2 : h'.1 62 = h.1 62) (c3 : h'.1 63 = h.1 63) (c4 : h'.1 64 = h.1 64) (c5 : h'.1 65 = h.1 65) : RIm h' w g s j := by
  obtain ⟨H1, H2⟩ := H
  refine ⟨by rw [e1, c1]; exact H1, ?_⟩
  rcases H2 with H2 | ⟨H2, np, nc, nl, tk, H3, H4⟩
  · exact Or.inl (by rw [c1]; exact H2)
  · refine Or.inr ⟨by rw [c1]; exact H2, np, nc, nl, tk, H3.of (by rw [e1]) (by rw [e1]) (by rw [e1]) (by rw [e1]) a1 a2 a3 a4 a5 a6 b1 b2 b3 b4 b5 b6, ?_⟩
    rw [c2, c3, c4, c5]; exact H4
theorem ROr.of {h h' : Hp} {no : Nat} (H : ROr h no) (e1 : h'.1 30 7 = h.1 30 7) (e2 : h'.1 39 25 = h.1 39 25) (a1 : h'.1 31 = h.1 31) (a2 : h'.1 32 = h.1 32) (a3 : h'.1 33 = h.1 33) (b1 : h'.1 52 = h.1 52) (b2 : h'.1 53 = h.1 53) (b3 : h'.1 54 = h.1 54) (c5 : h'.2 39 8 = h.2 39 8) : ROr h' no := by
  unfold ROr at H ⊢
  rw [e1, e2, a1, a2, a3, b1, b2, b3, c5]; exact H
theorem RLo.of {h h' : Hp} (H : RLo h) (e1 : h'.2 0 8 = h.2 0 8) (e2 : h'.2 39 9 = h.2 39 9) (e3 : h'.2 39 8 = h.2 39 8) : RLo h' := by
  unfold RLo at H ⊢
  rw [e1, e2, e3]; exact H
