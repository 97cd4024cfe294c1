/-! ===== neighbours ===== -/
/-- the cell beside c in a direction, within 8 times 8 -/
def nbr (c d : Nat) : Option Nat := match d with
  | 0 => if 8 ≤ c then some (c - 8) else none
  | 1 => if c % 8 < 7 then some (c + 1) else none
  | 2 => if c < 56 then some (c + 8) else none
  | _ => if 0 < c % 8 then some (c - 1) else none
def opp (d : Nat) : Nat := match d with
  | 0 => 2
  | 1 => 3
  | 2 => 0
  | _ => 1
def inHall (w g c : Nat) : Bool := decide (c % 8 < w) && decide (c / 8 < g)
/-- within the hall -/
def nbw (w g c d : Nat) : Option Nat := match nbr c d with
  | some q => if inHall w g q then some q else none
  | none => none
def one (c : Nat) : Int64 := jshlL 1 (nI c)
def encI (o : Option Nat) : Int32 := match o with
  | some q => nI q
  | none => -9
def encL (o : Option Nat) : Int64 := match o with
  | some q => one q
  | none => 0
theorem nbr_lt : ∀ c, c < 64 → ∀ d, d < 4 → (match nbr c d with
  | some q => decide (q < 64)
  | none => true) = true := by decide +kernel
theorem nbr_lt64 {c d q : Nat} (hc : c < 64) (hd : d < 4) (h : nbr c d = some q) : q < 64 := by
  have := nbr_lt c hc d hd
  rw [h] at this
  simpa using this
theorem mbx : ∀ x, x < 8 → ∀ d, d < 4 → ∀ w, w < 9 → f_m_in (nI x + (if nI d = (1 : Int32) then (1 : Int32) else (if nI d = (3 : Int32) then (-1 : Int32) else (0 : Int32)))) (0 : Int32) (nI w - (1 : Int32)) = bI (match d with
  | 1 => decide (x + 1 < w)
  | 3 => decide (1 ≤ x ∧ x - 1 < w)
  | _ => decide (x < w)) := by decide +kernel
theorem mby : ∀ y, y < 8 → ∀ d, d < 4 → ∀ g, g < 9 → f_m_in (nI y + (if nI d = (2 : Int32) then (1 : Int32) else (if nI d = (0 : Int32) then (-1 : Int32) else (0 : Int32)))) (0 : Int32) (nI g - (1 : Int32)) = bI (match d with
  | 2 => decide (y + 1 < g)
  | 0 => decide (1 ≤ y ∧ y - 1 < g)
  | _ => decide (y < g)) := by decide +kernel
theorem mbv : ∀ c, c < 64 → ∀ d, d < 4 → (match nbr c d with
  | some q => decide (((8 : Int32) * (nI (c / 8) + (if nI d = (2 : Int32) then (1 : Int32) else (if nI d = (0 : Int32) then (-1 : Int32) else (0 : Int32))))) + (nI (c % 8) + (if nI d = (1 : Int32) then (1 : Int32) else (if nI d = (3 : Int32) then (-1 : Int32) else (0 : Int32)))) = nI q)
  | none => true) = true := by decide +kernel
theorem nbw_xy : ∀ c, c < 64 → ∀ d, d < 4 → ∀ w, w < 9 → ∀ g, g < 9 → (match nbw w g c d with
  | some _ => true
  | none => false) = ((match d with
  | 1 => decide (c % 8 + 1 < w)
  | 3 => decide (1 ≤ c % 8 ∧ c % 8 - 1 < w)
  | _ => decide (c % 8 < w)) && (match d with
  | 2 => decide (c / 8 + 1 < g)
  | 0 => decide (1 ≤ c / 8 ∧ c / 8 - 1 < g)
  | _ => decide (c / 8 < g))) := by decide +kernel
theorem m_beside {h : Hp} {w g c d : Nat} (h1 : h.1 39 3 = nI w) (h2 : h.1 39 4 = nI g) (hw : w < 9) (hg : g < 9) (hc : c < 64) (hd : d < 4) : f_m_beside (nI c) (nI d) h = encI (nbw w g c d) := by
  unfold f_m_beside
  rw [h1, h2, jrem8 (by omega), jdiv8 (by omega), mbx (c % 8) (by omega) d hd w hw, mby (c / 8) (by omega) d hd g hg]
  have e1 := nbw_xy c hc d hd w hw g hg
  have e2 := mbv c hc d hd
  generalize (match d with
    | 1 => decide (c % 8 + 1 < w)
    | 3 => decide (1 ≤ c % 8 ∧ c % 8 - 1 < w)
    | _ => decide (c % 8 < w)) = bx at e1 ⊢
  generalize (match d with
    | 2 => decide (c / 8 + 1 < g)
    | 0 => decide (1 ≤ c / 8 ∧ c / 8 - 1 < g)
    | _ => decide (c / 8 < g)) = bY at e1 ⊢
  cases hn : nbw w g c d with
  | none =>
    rw [hn] at e1
    cases bx
    · simp [bI, encI]
    · cases bY
      · simp [bI, encI]
      · simp at e1
  | some q =>
    rw [hn] at e1
    have hq : nbr c d = some q := by
      unfold nbw at hn
      split at hn
      · next q' hq' =>
        split at hn
        · cases hn; exact hq'
        · cases hn
      · cases hn
    rw [hq] at e2
    cases bx
    · simp at e1
    · cases bY
      · simp at e1
      · simp only [bI]
        rw [if_neg (by decide), if_neg (by decide)]
        simpa [encI] using e2
theorem nbw_some {w g c d q : Nat} (h : nbw w g c d = some q) : nbr c d = some q ∧ inHall w g q = true := by
  unfold nbw at h
  split at h
  · next q' hq' =>
    split at h
    · next hh => cases h; exact ⟨hq', hh⟩
    · cases h
  · cases h
theorem mask_r : ∀ i, i < 64 → bq 9187201950435737471 i = decide (i % 8 < 7) := by decide +kernel
theorem mask_l : ∀ i, i < 64 → bq (-72340172838076674) i = decide (0 < i % 8) := by decide +kernel
theorem bq_sh8 (x : Int64) {i : Nat} (hi : i < 64) : bq (jshlL x 8) i = (decide (8 ≤ i) && bq x (i - 8)) := bq_shl (n := 8) (by decide) x hi
theorem bq_sh1 (x : Int64) {i : Nat} (hi : i < 64) : bq (jshlL x 1) i = (decide (1 ≤ i) && bq x (i - 1)) := bq_shl (n := 1) (by decide) x hi
theorem bq_us8 (x : Int64) (i : Nat) : bq (jushrL x 8) i = bq x (8 + i) := bq_ushr (n := 8) (by decide) x i
theorem bq_us1 (x : Int64) (i : Nat) : bq (jushrL x 1) i = bq x (1 + i) := bq_ushr (n := 1) (by decide) x i
/-- a set, one further in a direction -/
theorem shifted_bit (S : Int64) {d q : Nat} (hd : d < 4) (hq : q < 64) : bq (f_x_shifted S (nI d)) q = (match nbr q (opp d) with
  | some c => bq S c
  | none => false) := by
  unfold f_x_shifted
  match d, hd with
  | 0, _ =>
    rw [if_pos (by decide), bq_us8]
    show _ = (match (if q < 56 then some (q + 8) else none) with | some c => bq S c | none => false)
    by_cases h : q < 56
    · rw [if_pos h, Nat.add_comm]
    · rw [if_neg h, bq_big (by omega)]
  | 1, _ =>
    rw [if_neg (by decide), if_pos (by decide), bq_sh1 _ hq, bq_and]
    show _ = (match (if 0 < q % 8 then some (q - 1) else none) with | some c => bq S c | none => false)
    by_cases h : 0 < q % 8
    · rw [if_pos h, mask_r _ (by omega)]
      simp [show 1 ≤ q by omega, show (q - 1) % 8 < 7 by omega]
    · rw [if_neg h]
      by_cases h2 : 1 ≤ q
      · rw [mask_r _ (by omega)]
        simp [h2, show ¬ (q - 1) % 8 < 7 by omega]
      · simp [h2]
  | 2, _ =>
    rw [if_neg (by decide), if_neg (by decide), if_pos (by decide), bq_sh8 _ hq]
    show _ = (match (if 8 ≤ q then some (q - 8) else none) with | some c => bq S c | none => false)
    by_cases h : 8 ≤ q
    · rw [if_pos h]; simp [h]
    · rw [if_neg h]; simp [h]
  | 3, _ =>
    rw [if_neg (by decide), if_neg (by decide), if_neg (by decide), bq_us1, bq_and]
    show _ = (match (if q % 8 < 7 then some (q + 1) else none) with | some c => bq S c | none => false)
    by_cases h : q % 8 < 7
    · rw [if_pos h, mask_l _ (by omega), Nat.add_comm]
      simp [show 0 < (q + 1) % 8 by omega]
    · rw [if_neg h]
      by_cases h2 : 1 + q < 64
      · rw [mask_l _ h2]; simp [show ¬ 0 < (1 + q) % 8 by omega]
      · rw [bq_big (by omega)]; simp
theorem bq_onec {c i : Nat} (hc : c < 64) (hi : i < 64) : bq (one c) i = decide (i = c) := bq_one hc hi
theorem opp_iff : ∀ c, c < 64 → ∀ d, d < 4 → ∀ q, q < 64 → (nbr c d = some q ↔ nbr q (opp d) = some c) := by decide +kernel
theorem shifted_one {c d : Nat} (hc : c < 64) (hd : d < 4) : f_x_shifted (one c) (nI d) = encL (nbr c d) := by
  apply bq_ext
  intro q hq
  rw [shifted_bit _ hd hq]
  have o := opp_iff c hc d hd q hq
  have od : opp d < 4 := by match d, hd with
    | 0, _ => decide
    | 1, _ => decide
    | 2, _ => decide
    | 3, _ => decide
  cases hn : nbr q (opp d) with
  | none =>
    cases hm : nbr c d with
    | none => simp [encL, bq_0]
    | some p =>
      have hp := nbr_lt64 hc hd hm
      simp only [encL]
      rw [bq_onec hp hq]
      by_cases e : q = p
      · subst e; rw [o.mp hm] at hn; cases hn
      · simp [e]
  | some c2 =>
    have hc2 := nbr_lt64 hq od hn
    simp only
    rw [bq_onec hc hc2]
    cases hm : nbr c d with
    | none =>
      simp only [encL, bq_0]
      by_cases e : c2 = c
      · subst e; rw [o.mpr hn] at hm; cases hm
      · simp [e]
    | some p =>
      have hp := nbr_lt64 hc hd hm
      simp only [encL]
      rw [bq_onec hp hq]
      by_cases e : c2 = c
      · subst e
        have := o.mpr hn
        rw [hm] at this
        cases this
        simp
      · by_cases e2 : q = p
        · subst e2
          have := o.mp hm
          rw [hn] at this
          cases this
          exact absurd rfl e
        · simp [e, e2]
