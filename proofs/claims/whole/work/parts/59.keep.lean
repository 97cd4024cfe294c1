/-! ===== keep, back ===== -/
def MV (h : Hp) (c n fr to j : Nat) : Hp := (fun a b => if a = c ∧ n * to ≤ b ∧ b < n * to + j then h.1 c (n * fr + (b - n * to)) else h.1 a b, h.2)
theorem MV_0 (h : Hp) (c n fr to : Nat) : MV h c n fr to 0 = h := by
  refine hp_ext (fun a b => ?_) (by rfl)
  show (if a = c ∧ n * to ≤ b ∧ b < n * to + 0 then h.1 c (n * fr + (b - n * to)) else h.1 a b) = h.1 a b
  rw [if_neg (by omega)]
theorem MV_s (h : Hp) (c n fr to j : Nat) : xI (MV h c n fr to j) c (n * to + j) (h.1 c (n * fr + j)) = MV h c n fr to (j + 1) := by
  refine hp_ext (fun a b => ?_) (by rfl)
  rw [xI_1]
  show (if a = c ∧ b = n * to + j then h.1 c (n * fr + j) else if a = c ∧ n * to ≤ b ∧ b < n * to + j then h.1 c (n * fr + (b - n * to)) else h.1 a b) = if a = c ∧ n * to ≤ b ∧ b < n * to + (j + 1) then h.1 c (n * fr + (b - n * to)) else h.1 a b
  by_cases e : a = c ∧ b = n * to + j
  · rw [if_pos e, if_pos ⟨e.1, by omega, by omega⟩]
    have : b - n * to = j := by omega
    rw [this]
  · rw [if_neg e]
    by_cases e2 : a = c ∧ n * to ≤ b ∧ b < n * to + j
    · rw [if_pos e2, if_pos ⟨e2.1, e2.2.1, by omega⟩]
    · rw [if_neg e2, if_neg (fun z => e2 ⟨z.1, z.2.1, by
        have : b ≠ n * to + j := fun q => e ⟨z.1, q⟩
        omega⟩)]
theorem MV_rd (h : Hp) {c n fr to j i : Nat} (hn : fr < to ∨ to < fr) (hi : i < n) (hj : j ≤ n) : (MV h c n fr to j).1 c (n * fr + i) = h.1 c (n * fr + i) := by
  show (if c = c ∧ n * to ≤ n * fr + i ∧ n * fr + i < n * to + j then h.1 c (n * fr + (n * fr + i - n * to)) else h.1 c (n * fr + i)) = h.1 c (n * fr + i)
  rw [if_neg]
  rintro ⟨-, a, b⟩
  rcases hn with q | q
  · have : n * (fr + 1) ≤ n * to := Nat.mul_le_mul_left n q
    rw [Nat.mul_add] at this
    omega
  · have : n * (to + 1) ≤ n * fr := Nat.mul_le_mul_left n q
    rw [Nat.mul_add] at this
    omega
theorem move_43 (h : Hp) {fr to : Nat} (h1 : fr < 3) (h2 : to < 3) (hn : fr < to ∨ to < fr) : f_m_move_43 (6 : Int32) (nI fr) (nI to) h = some (MV h 43 6 fr to 6) := by
  unfold f_m_move_43
  have := lp0 (fun f (s : Int32 × Hp) => f_m_move_43_L_1 (6 : Int32) (nI fr) (nI to) (fun l4_3 h_4 => some h_4) f s.1 s.2) 6 (fun i => (nI i, MV h 43 6 fr to i)) (some (MV h 43 6 fr to 6)) (by omega) (fun f => ?_) (fun f i hi => ?_)
  · simp only [MV_0] at this
    exact this
  · simp only
    rw [f_m_move_43_L_1, if_pos (by decide)]
  · simp only
    rw [f_m_move_43_L_1, if_neg (nleL 6 hi), nI_lit 6, pk_mul, pk_mul, nI_add, nI_add, xin_nI (n := 18) (by omega) (by decide), xin_nI (n := 18) (by omega) (by decide), clampc (by omega), clampc (by omega), MV_rd h hn hi (by omega), MV_s, nI_1]
    rfl
theorem move_44 (h : Hp) {fr to : Nat} (h1 : fr < 3) (h2 : to < 3) (hn : fr < to ∨ to < fr) : f_m_move_44 (6 : Int32) (nI fr) (nI to) h = some (MV h 44 6 fr to 6) := by
  unfold f_m_move_44
  have := lp0 (fun f (s : Int32 × Hp) => f_m_move_44_L_1 (6 : Int32) (nI fr) (nI to) (fun l4_3 h_4 => some h_4) f s.1 s.2) 6 (fun i => (nI i, MV h 44 6 fr to i)) (some (MV h 44 6 fr to 6)) (by omega) (fun f => ?_) (fun f i hi => ?_)
  · simp only [MV_0] at this
    exact this
  · simp only
    rw [f_m_move_44_L_1, if_pos (by decide)]
  · simp only
    rw [f_m_move_44_L_1, if_neg (nleL 6 hi), nI_lit 6, pk_mul, pk_mul, nI_add, nI_add, xin_nI (n := 18) (by omega) (by decide), xin_nI (n := 18) (by omega) (by decide), clampc (by omega), clampc (by omega), MV_rd h hn hi (by omega), MV_s, nI_1]
    rfl
theorem move_45 (h : Hp) {fr to : Nat} (h1 : fr < 3) (h2 : to < 3) (hn : fr < to ∨ to < fr) : f_m_move_45 (2 : Int32) (nI fr) (nI to) h = some (MV h 45 2 fr to 2) := by
  unfold f_m_move_45
  have := lp0 (fun f (s : Int32 × Hp) => f_m_move_45_L_1 (2 : Int32) (nI fr) (nI to) (fun l4_3 h_4 => some h_4) f s.1 s.2) 2 (fun i => (nI i, MV h 45 2 fr to i)) (some (MV h 45 2 fr to 2)) (by omega) (fun f => ?_) (fun f i hi => ?_)
  · simp only [MV_0] at this
    exact this
  · simp only
    rw [f_m_move_45_L_1, if_pos (by decide)]
  · simp only
    rw [f_m_move_45_L_1, if_neg (nleL 2 hi), nI_lit 2, pk_mul, pk_mul, nI_add, nI_add, xin_nI (n := 6) (by omega) (by decide), xin_nI (n := 6) (by omega) (by decide), clampc (by omega), clampc (by omega), MV_rd h hn hi (by omega), MV_s, nI_1]
    rfl
theorem move_46 (h : Hp) {fr to : Nat} (h1 : fr < 3) (h2 : to < 3) (hn : fr < to ∨ to < fr) : f_m_move_46 (2 : Int32) (nI fr) (nI to) h = some (MV h 46 2 fr to 2) := by
  unfold f_m_move_46
  have := lp0 (fun f (s : Int32 × Hp) => f_m_move_46_L_1 (2 : Int32) (nI fr) (nI to) (fun l4_3 h_4 => some h_4) f s.1 s.2) 2 (fun i => (nI i, MV h 46 2 fr to i)) (some (MV h 46 2 fr to 2)) (by omega) (fun f => ?_) (fun f i hi => ?_)
  · simp only [MV_0] at this
    exact this
  · simp only
    rw [f_m_move_46_L_1, if_pos (by decide)]
  · simp only
    rw [f_m_move_46_L_1, if_neg (nleL 2 hi), nI_lit 2, pk_mul, pk_mul, nI_add, nI_add, xin_nI (n := 6) (by omega) (by decide), xin_nI (n := 6) (by omega) (by decide), clampc (by omega), clampc (by omega), MV_rd h hn hi (by omega), MV_s, nI_1]
    rfl
theorem move_47 (h : Hp) {fr to : Nat} (h1 : fr < 3) (h2 : to < 3) (hn : fr < to ∨ to < fr) : f_m_move_47 (128 : Int32) (nI fr) (nI to) h = some (MV h 47 128 fr to 128) := by
  unfold f_m_move_47
  have := lp0 (fun f (s : Int32 × Hp) => f_m_move_47_L_1 (128 : Int32) (nI fr) (nI to) (fun l4_3 h_4 => some h_4) f s.1 s.2) 128 (fun i => (nI i, MV h 47 128 fr to i)) (some (MV h 47 128 fr to 128)) (by omega) (fun f => ?_) (fun f i hi => ?_)
  · simp only [MV_0] at this
    exact this
  · simp only
    rw [f_m_move_47_L_1, if_pos (by decide)]
  · simp only
    rw [f_m_move_47_L_1, if_neg (nleL 128 hi), nI_lit 128, pk_mul, pk_mul, nI_add, nI_add, xin_nI (n := 384) (by omega) (by decide), xin_nI (n := 384) (by omega) (by decide), clampc (by omega), clampc (by omega), MV_rd h hn hi (by omega), MV_s, nI_1]
    rfl
theorem move_48 (h : Hp) {fr to : Nat} (h1 : fr < 3) (h2 : to < 3) (hn : fr < to ∨ to < fr) : f_m_move_48 (500 : Int32) (nI fr) (nI to) h = some (MV h 48 500 fr to 500) := by
  unfold f_m_move_48
  have := lp0 (fun f (s : Int32 × Hp) => f_m_move_48_L_1 (500 : Int32) (nI fr) (nI to) (fun l4_3 h_4 => some h_4) f s.1 s.2) 500 (fun i => (nI i, MV h 48 500 fr to i)) (some (MV h 48 500 fr to 500)) (by omega) (fun f => ?_) (fun f i hi => ?_)
  · simp only [MV_0] at this
    exact this
  · simp only
    rw [f_m_move_48_L_1, if_pos (by decide)]
  · simp only
    rw [f_m_move_48_L_1, if_neg (nleL 500 hi), nI_lit 500, pk_mul, pk_mul, nI_add, nI_add, xin_nI (n := 1500) (by omega) (by decide), xin_nI (n := 1500) (by omega) (by decide), clampc (by omega), clampc (by omega), MV_rd h hn hi (by omega), MV_s, nI_1]
    rfl
def MvOk (h h' : Hp) (fr to : Nat) : Prop := h'.2 = h.2 ∧ (∀ a, (a < 43 ∨ 48 < a) → h'.1 a = h.1 a) ∧ (∀ i, i < 6 → h'.1 43 (6 * to + i) = h.1 43 (6 * fr + i)) ∧ (∀ i, i < 6 → h'.1 44 (6 * to + i) = h.1 44 (6 * fr + i)) ∧ (∀ i, i < 2 → h'.1 45 (2 * to + i) = h.1 45 (2 * fr + i)) ∧ (∀ i, i < 2 → h'.1 46 (2 * to + i) = h.1 46 (2 * fr + i)) ∧ (∀ i, i < 128 → h'.1 47 (128 * to + i) = h.1 47 (128 * fr + i)) ∧ (∀ i, i < 500 → h'.1 48 (500 * to + i) = h.1 48 (500 * fr + i)) ∧ ∀ t, t ≠ to → (∀ i, i < 6 → h'.1 43 (6 * t + i) = h.1 43 (6 * t + i)) ∧ (∀ i, i < 6 → h'.1 44 (6 * t + i) = h.1 44 (6 * t + i)) ∧ (∀ i, i < 2 → h'.1 45 (2 * t + i) = h.1 45 (2 * t + i)) ∧ (∀ i, i < 2 → h'.1 46 (2 * t + i) = h.1 46 (2 * t + i)) ∧ (∀ i, i < 128 → h'.1 47 (128 * t + i) = h.1 47 (128 * t + i)) ∧ (∀ i, i < 500 → h'.1 48 (500 * t + i) = h.1 48 (500 * t + i))
theorem MV_ne (h : Hp) {c a : Nat} (n fr to j : Nat) (e : a ≠ c) : (MV h c n fr to j).1 a = h.1 a := by
  funext b
  show (if a = c ∧ n * to ≤ b ∧ b < n * to + j then h.1 c (n * fr + (b - n * to)) else h.1 a b) = h.1 a b
  rw [if_neg (fun z => e z.1)]
theorem MV_at (h : Hp) {c n i : Nat} (fr to : Nat) (hi : i < n) : (MV h c n fr to n).1 c (n * to + i) = h.1 c (n * fr + i) := by
  show (if c = c ∧ n * to ≤ n * to + i ∧ n * to + i < n * to + n then h.1 c (n * fr + (n * to + i - n * to)) else h.1 c (n * to + i)) = _
  rw [if_pos ⟨rfl, by omega, by omega⟩]
  have : n * to + i - n * to = i := by omega
  rw [this]
theorem MV_of (h : Hp) {c n i t to : Nat} (fr : Nat) (e : t ≠ to) (hi : i < n) : (MV h c n fr to n).1 c (n * t + i) = h.1 c (n * t + i) := by
  show (if c = c ∧ n * to ≤ n * t + i ∧ n * t + i < n * to + n then h.1 c (n * fr + (n * t + i - n * to)) else h.1 c (n * t + i)) = h.1 c (n * t + i)
  rw [if_neg]
  rintro ⟨-, a, b⟩
  rcases Nat.lt_or_gt_of_ne e with q | q
  · have : n * (t + 1) ≤ n * to := Nat.mul_le_mul_left n q
    rw [Nat.mul_add] at this
    omega
  · have : n * (to + 1) ≤ n * t := Nat.mul_le_mul_left n q
    rw [Nat.mul_add] at this
    omega
theorem moveAll_m (h : Hp) {fr to : Nat} (h1 : fr < 3) (h2 : to < 3) (hn : fr < to ∨ to < fr) : ∃ h', f_m_moveAll (nI fr) (nI to) h = some h' ∧ MvOk h h' fr to := by
  unfold f_m_moveAll
  rw [move_43 h h1 h2 hn, xbd1_some, move_44 _ h1 h2 hn, xbd1_some, move_45 _ h1 h2 hn, xbd1_some, move_46 _ h1 h2 hn, xbd1_some, move_47 _ h1 h2 hn, xbd1_some, move_48 _ h1 h2 hn, xbd1_some]
  refine ⟨_, rfl, rfl, fun a ha => ?_, fun i hi => ?_, fun i hi => ?_, fun i hi => ?_, fun i hi => ?_, fun i hi => ?_, fun i hi => ?_, fun t ht => ⟨fun i hi => ?_, fun i hi => ?_, fun i hi => ?_, fun i hi => ?_, fun i hi => ?_, fun i hi => ?_⟩⟩
  · rw [MV_ne _ _ _ _ _ (by omega), MV_ne _ _ _ _ _ (by omega), MV_ne _ _ _ _ _ (by omega), MV_ne _ _ _ _ _ (by omega), MV_ne _ _ _ _ _ (by omega), MV_ne _ _ _ _ _ (by omega)]
  · rw [MV_ne _ _ _ _ _ (by decide), MV_ne _ _ _ _ _ (by decide), MV_ne _ _ _ _ _ (by decide), MV_ne _ _ _ _ _ (by decide), MV_ne _ _ _ _ _ (by decide), MV_at _ _ _ hi]
  · rw [MV_ne _ _ _ _ _ (by decide), MV_ne _ _ _ _ _ (by decide), MV_ne _ _ _ _ _ (by decide), MV_ne _ _ _ _ _ (by decide), MV_at _ _ _ hi, MV_ne _ _ _ _ _ (by decide)]
  · rw [MV_ne _ _ _ _ _ (by decide), MV_ne _ _ _ _ _ (by decide), MV_ne _ _ _ _ _ (by decide), MV_at _ _ _ hi, MV_ne _ _ _ _ _ (by decide), MV_ne _ _ _ _ _ (by decide)]
  · rw [MV_ne _ _ _ _ _ (by decide), MV_ne _ _ _ _ _ (by decide), MV_at _ _ _ hi, MV_ne _ _ _ _ _ (by decide), MV_ne _ _ _ _ _ (by decide), MV_ne _ _ _ _ _ (by decide)]
  · rw [MV_ne _ _ _ _ _ (by decide), MV_at _ _ _ hi, MV_ne _ _ _ _ _ (by decide), MV_ne _ _ _ _ _ (by decide), MV_ne _ _ _ _ _ (by decide), MV_ne _ _ _ _ _ (by decide)]
  · rw [MV_at _ _ _ hi, MV_ne _ _ _ _ _ (by decide), MV_ne _ _ _ _ _ (by decide), MV_ne _ _ _ _ _ (by decide), MV_ne _ _ _ _ _ (by decide), MV_ne _ _ _ _ _ (by decide)]
  · rw [MV_ne _ _ _ _ _ (by decide), MV_ne _ _ _ _ _ (by decide), MV_ne _ _ _ _ _ (by decide), MV_ne _ _ _ _ _ (by decide), MV_ne _ _ _ _ _ (by decide), MV_of _ _ ht hi]
  · rw [MV_ne _ _ _ _ _ (by decide), MV_ne _ _ _ _ _ (by decide), MV_ne _ _ _ _ _ (by decide), MV_ne _ _ _ _ _ (by decide), MV_of _ _ ht hi, MV_ne _ _ _ _ _ (by decide)]
  · rw [MV_ne _ _ _ _ _ (by decide), MV_ne _ _ _ _ _ (by decide), MV_ne _ _ _ _ _ (by decide), MV_of _ _ ht hi, MV_ne _ _ _ _ _ (by decide), MV_ne _ _ _ _ _ (by decide)]
  · rw [MV_ne _ _ _ _ _ (by decide), MV_ne _ _ _ _ _ (by decide), MV_of _ _ ht hi, MV_ne _ _ _ _ _ (by decide), MV_ne _ _ _ _ _ (by decide), MV_ne _ _ _ _ _ (by decide)]
  · rw [MV_ne _ _ _ _ _ (by decide), MV_of _ _ ht hi, MV_ne _ _ _ _ _ (by decide), MV_ne _ _ _ _ _ (by decide), MV_ne _ _ _ _ _ (by decide), MV_ne _ _ _ _ _ (by decide)]
  · rw [MV_of _ _ ht hi, MV_ne _ _ _ _ _ (by decide), MV_ne _ _ _ _ _ (by decide), MV_ne _ _ _ _ _ (by decide), MV_ne _ _ _ _ _ (by decide), MV_ne _ _ _ _ _ (by decide)]
def CpOk (h h' : Hp) (s d : Nat) : Prop := h'.2 = h.2 ∧ (∀ a, (a < d ∨ d + 6 < a) → h'.1 a = h.1 a) ∧ (∀ i, i < 6 → h'.1 (d + 1) i = h.1 (s + 1) i) ∧ (∀ i, i < 6 → h'.1 (d + 2) i = h.1 (s + 2) i) ∧ (∀ i, i < 2 → h'.1 (d + 3) i = h.1 (s + 3) i) ∧ (∀ i, i < 2 → h'.1 (d + 4) i = h.1 (s + 4) i) ∧ (∀ i, i < 128 → h'.1 (d + 5) i = h.1 (s + 5) i) ∧ (∀ i, i < 500 → h'.1 (d + 6) i = h.1 (s + 6) i) ∧ (h'.1 d 6 = h.1 s 6 ∧ h'.1 d 7 = h.1 s 7 ∧ h'.1 d 8 = h.1 s 8 ∧ h'.1 d 9 = h.1 s 9) ∧ h'.1 d 10 = h.1 d 10
theorem cp_14_6 (h : Hp) : CpOk h (f_scene_copyFrom_14_6 h) 6 14 := by
  unfold f_scene_copyFrom_14_6
  refine ⟨rfl, fun a ha => ?_, fun i hi => ?_, fun i hi => ?_, fun i hi => ?_, fun i hi => ?_, fun i hi => ?_, fun i hi => ?_, ⟨rfl, rfl, rfl, rfl⟩, rfl⟩
  · funext b
    simp only [xI_1, xCp_1]
    rw [if_neg (by omega), if_neg (by omega), if_neg (by omega), if_neg (by omega), if_neg (by omega), if_neg (by omega), if_neg (by omega), if_neg (by omega), if_neg (by omega), if_neg (by omega)]
  all_goals (simp [xI_1, xCp_1, va_cpy, hi])
theorem cp_21_6 (h : Hp) : CpOk h (f_scene_copyFrom_21_6 h) 6 21 := by
  unfold f_scene_copyFrom_21_6
  refine ⟨rfl, fun a ha => ?_, fun i hi => ?_, fun i hi => ?_, fun i hi => ?_, fun i hi => ?_, fun i hi => ?_, fun i hi => ?_, ⟨rfl, rfl, rfl, rfl⟩, rfl⟩
  · funext b
    simp only [xI_1, xCp_1]
    rw [if_neg (by omega), if_neg (by omega), if_neg (by omega), if_neg (by omega), if_neg (by omega), if_neg (by omega), if_neg (by omega), if_neg (by omega), if_neg (by omega), if_neg (by omega)]
  all_goals (simp [xI_1, xCp_1, va_cpy, hi])
theorem cp_6_14 (h : Hp) : CpOk h (f_scene_copyFrom_6_14 h) 14 6 := by
  unfold f_scene_copyFrom_6_14
  refine ⟨rfl, fun a ha => ?_, fun i hi => ?_, fun i hi => ?_, fun i hi => ?_, fun i hi => ?_, fun i hi => ?_, fun i hi => ?_, ⟨rfl, rfl, rfl, rfl⟩, rfl⟩
  · funext b
    simp only [xI_1, xCp_1]
    rw [if_neg (by omega), if_neg (by omega), if_neg (by omega), if_neg (by omega), if_neg (by omega), if_neg (by omega), if_neg (by omega), if_neg (by omega), if_neg (by omega), if_neg (by omega)]
  all_goals (simp [xI_1, xCp_1, va_cpy, hi])
theorem cp_6_21 (h : Hp) : CpOk h (f_scene_copyFrom_6_21 h) 21 6 := by
  unfold f_scene_copyFrom_6_21
  refine ⟨rfl, fun a ha => ?_, fun i hi => ?_, fun i hi => ?_, fun i hi => ?_, fun i hi => ?_, fun i hi => ?_, fun i hi => ?_, ⟨rfl, rfl, rfl, rfl⟩, rfl⟩
  · funext b
    simp only [xI_1, xCp_1]
    rw [if_neg (by omega), if_neg (by omega), if_neg (by omega), if_neg (by omega), if_neg (by omega), if_neg (by omega), if_neg (by omega), if_neg (by omega), if_neg (by omega), if_neg (by omega)]
  all_goals (simp [xI_1, xCp_1, va_cpy, hi])
theorem cTaken_14 {h : Hp} {nc : Nat} (hn : nc ≤ 2) (e : h.1 14 7 = nI nc) : f_scene_carriersTaken_14 h = some (rowSet h 17 0 nc) := by
  unfold f_scene_carriersTaken_14
  refine lp0 (fun f s => f_scene_carriersTaken_14_L_1 h (fun l1_3 l3_4 => some l1_3) f s.1 s.2) nc (fun i => (rowSet h 17 0 i, nI i)) _ (by omega) (fun f => ?_) (fun f i hi => ?_)
  · show f_scene_carriersTaken_14_L_1 h _ (f + 1) (rowSet h 17 0 nc) (nI nc) = _
    rw [f_scene_carriersTaken_14_L_1, e, if_pos ((leN (by omega) (by omega)).mpr (Nat.le_refl _))]
  · show f_scene_carriersTaken_14_L_1 h _ (f + 1) (rowSet h 17 0 i) (nI i) = f_scene_carriersTaken_14_L_1 h _ f (rowSet h 17 0 (i + 1)) (nI (i + 1))
    rw [f_scene_carriersTaken_14_L_1, e, if_neg (fun q => absurd ((leN (by omega) (by omega)).mp q) (by omega)), xin_nI (n := 2) (by omega) (by decide), clampc (by omega), nI_1]
    show _ = f_scene_carriersTaken_14_L_1 h _ f (rowSet h 17 0 i ||| jshlL 1 (h.1 17 (0 + i))) (nI (i + 1))
    rw [Nat.zero_add]; rfl
theorem taken_14 {h : Hp} {np nc : Nat} (hn : nc ≤ 2) (hp : np ≤ 6) (e : h.1 14 7 = nI nc) (e2 : h.1 14 6 = nI np) : f_scene_taken_14 h = some (rowSet h 17 0 nc ||| rowSet h 15 0 np) := by
  unfold f_scene_taken_14
  rw [cTaken_14 hn e, xbd1_some]
  have := lp0 (fun f s => f_scene_taken_14_L_3 h (fun l1_3 l3_4 => some l1_3) f s.1 s.2) np (fun i => (rowSet h 17 0 nc ||| rowSet h 15 0 i, nI i)) (some (rowSet h 17 0 nc ||| rowSet h 15 0 np)) (by omega) (fun f => ?_) (fun f i hi => ?_)
  · have e0 : rowSet h 15 0 0 = 0 := rfl
    simp only [e0, or_0] at this
    exact this
  · show f_scene_taken_14_L_3 h _ (f + 1) (rowSet h 17 0 nc ||| rowSet h 15 0 np) (nI np) = _
    rw [f_scene_taken_14_L_3, e2, if_pos ((leN (by omega) (by omega)).mpr (Nat.le_refl _))]
  · show f_scene_taken_14_L_3 h _ (f + 1) (rowSet h 17 0 nc ||| rowSet h 15 0 i) (nI i) = f_scene_taken_14_L_3 h _ f (rowSet h 17 0 nc ||| (rowSet h 15 0 i ||| jshlL 1 (h.1 15 (0 + i)))) (nI (i + 1))
    rw [f_scene_taken_14_L_3, e2, if_neg (fun q => absurd ((leN (by omega) (by omega)).mp q) (by omega)), xin_nI (n := 6) (by omega) (by decide), clampc (by omega), nI_1, or_as, Nat.zero_add]
    rfl
theorem cTaken_21 {h : Hp} {nc : Nat} (hn : nc ≤ 2) (e : h.1 21 7 = nI nc) : f_scene_carriersTaken_21 h = some (rowSet h 24 0 nc) := by
  unfold f_scene_carriersTaken_21
  refine lp0 (fun f s => f_scene_carriersTaken_21_L_1 h (fun l1_3 l3_4 => some l1_3) f s.1 s.2) nc (fun i => (rowSet h 24 0 i, nI i)) _ (by omega) (fun f => ?_) (fun f i hi => ?_)
  · show f_scene_carriersTaken_21_L_1 h _ (f + 1) (rowSet h 24 0 nc) (nI nc) = _
    rw [f_scene_carriersTaken_21_L_1, e, if_pos ((leN (by omega) (by omega)).mpr (Nat.le_refl _))]
  · show f_scene_carriersTaken_21_L_1 h _ (f + 1) (rowSet h 24 0 i) (nI i) = f_scene_carriersTaken_21_L_1 h _ f (rowSet h 24 0 (i + 1)) (nI (i + 1))
    rw [f_scene_carriersTaken_21_L_1, e, if_neg (fun q => absurd ((leN (by omega) (by omega)).mp q) (by omega)), xin_nI (n := 2) (by omega) (by decide), clampc (by omega), nI_1]
    show _ = f_scene_carriersTaken_21_L_1 h _ f (rowSet h 24 0 i ||| jshlL 1 (h.1 24 (0 + i))) (nI (i + 1))
    rw [Nat.zero_add]; rfl
theorem taken_21 {h : Hp} {np nc : Nat} (hn : nc ≤ 2) (hp : np ≤ 6) (e : h.1 21 7 = nI nc) (e2 : h.1 21 6 = nI np) : f_scene_taken_21 h = some (rowSet h 24 0 nc ||| rowSet h 22 0 np) := by
  unfold f_scene_taken_21
  rw [cTaken_21 hn e, xbd1_some]
  have := lp0 (fun f s => f_scene_taken_21_L_3 h (fun l1_3 l3_4 => some l1_3) f s.1 s.2) np (fun i => (rowSet h 24 0 nc ||| rowSet h 22 0 i, nI i)) (some (rowSet h 24 0 nc ||| rowSet h 22 0 np)) (by omega) (fun f => ?_) (fun f i hi => ?_)
  · have e0 : rowSet h 22 0 0 = 0 := rfl
    simp only [e0, or_0] at this
    exact this
  · show f_scene_taken_21_L_3 h _ (f + 1) (rowSet h 24 0 nc ||| rowSet h 22 0 np) (nI np) = _
    rw [f_scene_taken_21_L_3, e2, if_pos ((leN (by omega) (by omega)).mpr (Nat.le_refl _))]
  · show f_scene_taken_21_L_3 h _ (f + 1) (rowSet h 24 0 nc ||| rowSet h 22 0 i) (nI i) = f_scene_taken_21_L_3 h _ f (rowSet h 24 0 nc ||| (rowSet h 22 0 i ||| jshlL 1 (h.1 22 (0 + i)))) (nI (i + 1))
    rw [f_scene_taken_21_L_3, e2, if_neg (fun q => absurd ((leN (by omega) (by omega)).mp q) (by omega)), xin_nI (n := 6) (by omega) (by decide), clampc (by omega), nI_1, or_as, Nat.zero_add]
    rfl
theorem RSc.of3 {h h' : Hp} {w g s t s' t' np nc nl tk : Nat} (H : RSc h w g s t np nc nl tk) (e6 : h'.1 s' 6 = h.1 s 6) (e7 : h'.1 s' 7 = h.1 s 7) (e8 : h'.1 s' 8 = h.1 s 8) (e9 : h'.1 s' 9 = h.1 s 9) (a1 : ∀ i, i < 6 → h'.1 (s' + 1) i = h.1 (s + 1) i) (a2 : ∀ i, i < 6 → h'.1 (s' + 2) i = h.1 (s + 2) i) (a3 : ∀ i, i < 2 → h'.1 (s' + 3) i = h.1 (s + 3) i) (a4 : ∀ i, i < 2 → h'.1 (s' + 4) i = h.1 (s + 4) i) (a5 : ∀ i, i < 128 → h'.1 (s' + 5) i = h.1 (s + 5) i) (a6 : ∀ i, i < 500 → h'.1 (s' + 6) i = h.1 (s + 6) i)
    (b1 : ∀ i, i < 6 → h'.1 43 (6 * t' + i) = h.1 43 (6 * t + i)) (b2 : ∀ i, i < 6 → h'.1 44 (6 * t' + i) = h.1 44 (6 * t + i)) (b3 : ∀ i, i < 2 → h'.1 45 (2 * t' + i) = h.1 45 (2 * t + i)) (b4 : ∀ i, i < 2 → h'.1 46 (2 * t' + i) = h.1 46 (2 * t + i)) (b5 : ∀ i, i < 128 → h'.1 47 (128 * t' + i) = h.1 47 (128 * t + i)) (b6 : ∀ i, i < 500 → h'.1 48 (500 * t' + i) = h.1 48 (500 * t + i)) : RSc h' w g s' t' np nc nl tk := by
  obtain ⟨⟨n1, n2, n3, n4⟩, ⟨f1, f2, f3, f4⟩, hp, hk, hc, hl, hs, hln, hd⟩ := H
  refine ⟨⟨n1, n2, n3, n4⟩, ⟨by rw [e6]; exact f1, by rw [e7]; exact f2, by rw [e8]; exact f3, by rw [e9]; exact f4⟩, fun i hi => ?_, fun i hi => ?_, fun i hi => ?_, fun i hi => ?_, fun i hi c hcc => ?_, fun j hj => ?_, fun i j hi hj e => ?_⟩
  · rw [a1 i (by omega), b1 i (by omega)]; exact hp i hi
  · rw [a2 i (by omega), b2 i (by omega)]; exact hk i hi
  · rw [a3 i (by omega), b3 i (by omega)]; exact hc i hi
  · rw [a4 i (by omega), b4 i (by omega)]; exact hl i hi
  · rw [a5 _ (by omega), b5 _ (by omega)]; exact hs i hi c hcc
  · rw [a6 j (by omega), b6 j (by omega)]; exact hln j hj
  · rw [b3 i (by omega), b3 j (by omega)] at e; exact hd i j hi hj e
/-- keep: what both do -/
theorem keep_rel {h h1 h3 : Hp} {w g np nc nl tk no i s : Nat} (H : RB h w g np nc nl tk no) (hi : i < 2) (hs : s = 14 + 7 * i) (C : CpOk h h1 6 s) (M : MvOk (xI h1 s 10 1) h3 0 (1 + i)) : h3.1 39 19 = nI tk ∧ RB (xI (xI (xI (xI (xI h3 62 i (h3.1 39 12)) 63 i (h3.1 39 15)) 64 i (h3.1 39 19)) 65 i (h3.1 39 20)) 61 i 1) w g np nc nl tk no ∧ PK h (xI (xI (xI (xI (xI h3 62 i (h3.1 39 12)) 63 i (h3.1 39 15)) 64 i (h3.1 39 19)) 65 i (h3.1 39 20)) 61 i 1) := by
  obtain ⟨H0, H1, H2, H3, H4, H5, H6, H7, H8⟩ := H
  obtain ⟨c2, cA, c3, c4, c5, c6, c7, c8, ⟨d6, d7, d8, d9⟩, c10⟩ := C
  obtain ⟨m2, mA, -⟩ := id M
  obtain ⟨-, -, q1, q2, q3, q4, q5, q6, qo⟩ := M
  have xs : ∀ a, a ≠ s → (xI h1 s 10 1).1 a = h1.1 a := fun a ha => by
    funext b; rw [xI_1, if_neg (fun z => ha z.1)]
  generalize hh : xI (xI (xI (xI (xI h3 62 i (h3.1 39 12)) 63 i (h3.1 39 15)) 64 i (h3.1 39 19)) 65 i (h3.1 39 20)) 61 i 1 = h5
  have e2 : h5.2 = h.2 := by subst hh; exact m2.trans c2
  have r5 : ∀ a, (a < 61 ∨ 65 < a) → h5.1 a = h3.1 a := fun a ha => by
    subst hh
    funext b
    simp only [xI_1]
    rw [if_neg (by omega), if_neg (by omega), if_neg (by omega), if_neg (by omega), if_neg (by omega)]
  have rA : ∀ a, (a < 43 ∨ (48 < a ∧ a < 61) ∨ 65 < a) → (a < s ∨ s + 6 < a) → h5.1 a = h.1 a := fun a ha hb => by
    rw [r5 a (by omega), mA a (by omega), xs a (by omega), cA a (by omega)]
  have row : ∀ a, 43 ≤ a → a ≤ 48 → (xI h1 s 10 1).1 a = h.1 a := fun a ha hb => by rw [xs a (by omega), cA a (by omega)]
  have sc : ∀ a, s < a → a ≤ s + 6 → h5.1 a = h1.1 a := fun a ha hb => by rw [r5 a (by omega), mA a (by omega), xs a (by omega)]
  have s0 : ∀ b, b ≠ 10 → h5.1 s b = h1.1 s b := fun b hb => by
    rw [r5 s (by omega), mA s (by omega), xI_1, if_neg (fun z => hb z.2)]
  have s10 : h5.1 s 10 = 1 := by rw [r5 s (by omega), mA s (by omega), xI_1, if_pos ⟨rfl, rfl⟩]
  have w39 : ∀ b, h3.1 39 b = h.1 39 b := fun b => by rw [mA 39 (by omega), xs 39 (by omega), cA 39 (by omega)]
  obtain ⟨N1, ⟨m1, m2', m3, m4⟩, N3, N4⟩ := H2
  have imo : ∀ j, j < 2 → j ≠ i → h5.1 61 j = h.1 61 j ∧ h5.1 62 j = h.1 62 j ∧ h5.1 63 j = h.1 63 j ∧ h5.1 64 j = h.1 64 j ∧ h5.1 65 j = h.1 65 j := fun j hj hne => by
    have a : ∀ a, 61 ≤ a → a ≤ 65 → h3.1 a j = h.1 a j := fun a h1 h2 => by rw [mA a (by omega), xs a (by omega), cA a (by omega)]
    subst hh
    simp only [xI_1]
    refine ⟨?_, ?_, ?_, ?_, ?_⟩ <;> (simp [hne]; exact a _ (by decide) (by decide))
  have imi : h5.1 61 i = 1 ∧ h5.1 62 i = nI np ∧ h5.1 63 i = nI nc ∧ h5.1 64 i = nI tk ∧ h5.1 65 i = nI nl := by
    rw [w39, w39, w39, w39, m1, m2', m3, m4] at hh
    subst hh
    simp [xI_1]
  have o0 := qo 0 (by omega)
  obtain ⟨o1, o2, o3, o4, o5, o6⟩ := o0
  have nw : RSc h5 w g 6 0 np nc nl tk := by
    have e6 : ∀ a, 6 ≤ a → a ≤ 12 → h5.1 a = h.1 a := fun a h1 h2 => rA a (by omega) (by omega)
    refine N1.of3 ?_ ?_ ?_ ?_ ?_ ?_ ?_ ?_ ?_ ?_ ?_ ?_ ?_ ?_ ?_ ?_
    · rw [e6 6 (by omega) (by omega)]
    · rw [e6 6 (by omega) (by omega)]
    · rw [e6 6 (by omega) (by omega)]
    · rw [e6 6 (by omega) (by omega)]
    · intro j _; rw [e6 (6 + 1) (by omega) (by omega)]
    · intro j _; rw [e6 (6 + 2) (by omega) (by omega)]
    · intro j _; rw [e6 (6 + 3) (by omega) (by omega)]
    · intro j _; rw [e6 (6 + 4) (by omega) (by omega)]
    · intro j _; rw [e6 (6 + 5) (by omega) (by omega)]
    · intro j _; rw [e6 (6 + 6) (by omega) (by omega)]
    · intro j hj; rw [r5 43 (by omega), o1 j hj, row 43 (by omega) (by omega)]
    · intro j hj; rw [r5 44 (by omega), o2 j hj, row 44 (by omega) (by omega)]
    · intro j hj; rw [r5 45 (by omega), o3 j hj, row 45 (by omega) (by omega)]
    · intro j hj; rw [r5 46 (by omega), o4 j hj, row 46 (by omega) (by omega)]
    · intro j hj; rw [r5 47 (by omega), o5 j hj, row 47 (by omega) (by omega)]
    · intro j hj; rw [r5 48 (by omega), o6 j hj, row 48 (by omega) (by omega)]
  have im : RSc h5 w g s (1 + i) np nc nl tk := by
    refine N1.of3 ?_ ?_ ?_ ?_ ?_ ?_ ?_ ?_ ?_ ?_ ?_ ?_ ?_ ?_ ?_ ?_
    · rw [s0 6 (by omega), d6]
    · rw [s0 7 (by omega), d7]
    · rw [s0 8 (by omega), d8]
    · rw [s0 9 (by omega), d9]
    · intro j hj; rw [sc (s + 1) (by omega) (by omega), c3 j hj]
    · intro j hj; rw [sc (s + 2) (by omega) (by omega), c4 j hj]
    · intro j hj; rw [sc (s + 3) (by omega) (by omega), c5 j hj]
    · intro j hj; rw [sc (s + 4) (by omega) (by omega), c6 j hj]
    · intro j hj; rw [sc (s + 5) (by omega) (by omega), c7 j hj]
    · intro j hj; rw [sc (s + 6) (by omega) (by omega), c8 j hj]
    · intro j hj; rw [r5 43 (by omega), q1 j hj, row 43 (by omega) (by omega)]
    · intro j hj; rw [r5 44 (by omega), q2 j hj, row 44 (by omega) (by omega)]
    · intro j hj; rw [r5 45 (by omega), q3 j hj, row 45 (by omega) (by omega)]
    · intro j hj; rw [r5 46 (by omega), q4 j hj, row 46 (by omega) (by omega)]
    · intro j hj; rw [r5 47 (by omega), q5 j hj, row 47 (by omega) (by omega)]
    · intro j hj; rw [r5 48 (by omega), q6 j hj, row 48 (by omega) (by omega)]
  have imn : RIm h5 w g s i := ⟨by rw [s10, imi.1], Or.inr ⟨imi.1, np, nc, nl, tk, im, imi.2.1, imi.2.2.1, imi.2.2.2.1, imi.2.2.2.2⟩⟩
  have imx : ∀ s' j, j < 2 → j ≠ i → s' = 14 + 7 * j → RIm h w g s' j → RIm h5 w g s' j := by
    intro s' j hj hne hs' HI
    have z := imo j hj hne
    obtain ⟨p1, p2, p3, p4, p5, p6⟩ := qo (1 + j) (by omega)
    refine HI.of2 (rA s' (by omega) (by omega)) ?_ ?_ ?_ ?_ ?_ ?_ ?_ ?_ ?_ ?_ ?_ ?_ z.1 z.2.1 z.2.2.1 z.2.2.2.1 z.2.2.2.2
    · intro k _; rw [rA (s' + 1) (by omega) (by omega)]
    · intro k _; rw [rA (s' + 2) (by omega) (by omega)]
    · intro k _; rw [rA (s' + 3) (by omega) (by omega)]
    · intro k _; rw [rA (s' + 4) (by omega) (by omega)]
    · intro k _; rw [rA (s' + 5) (by omega) (by omega)]
    · intro k _; rw [rA (s' + 6) (by omega) (by omega)]
    · intro k hk; rw [r5 43 (by omega), p1 k hk, row 43 (by omega) (by omega)]
    · intro k hk; rw [r5 44 (by omega), p2 k hk, row 44 (by omega) (by omega)]
    · intro k hk; rw [r5 45 (by omega), p3 k hk, row 45 (by omega) (by omega)]
    · intro k hk; rw [r5 46 (by omega), p4 k hk, row 46 (by omega) (by omega)]
    · intro k hk; rw [r5 47 (by omega), p5 k hk, row 47 (by omega) (by omega)]
    · intro k hk; rw [r5 48 (by omega), p6 k hk, row 48 (by omega) (by omega)]
  have f45 : ∀ j, j < 2 → h5.1 45 j = h.1 45 j := fun j hj => by
    have := o3 j hj
    simp only [Nat.mul_zero, Nat.zero_add] at this
    rw [r5 45 (by omega), this, row 45 (by omega) (by omega)]
  have f43 : ∀ j, j < 6 → h5.1 43 j = h.1 43 j := fun j hj => by
    have := o1 j hj
    simp only [Nat.mul_zero, Nat.zero_add] at this
    rw [r5 43 (by omega), this, row 43 (by omega) (by omega)]
  have k : ∀ a, (a < 6 ∨ (27 < a ∧ a < 43) ∨ (48 < a ∧ a < 61)) → h5.1 a = h.1 a := fun a ha => rA a (by omega) (by omega)
  have n62 := N1.1
  refine ⟨by rw [w39]; exact m4, ⟨H0.of ?_ ?_ ?_ ?_, H1.of ?_ ?_ ?_ ?_ ?_ ?_ ?_ ?_ ?_ ?_ ?_ ?_, ⟨nw, ?_, ?_, ?_⟩, ?_, ?_, H5.of ?_ ?_ ?_ ?_ ?_ ?_ ?_ ?_ ?_, H6.of ?_ ?_ ?_, ?_, ?_⟩, Or.inr ⟨k 30 (by omega), k 37 (by omega), by rw [e2], by rw [k 39 (by omega)], by rw [k 39 (by omega)], f45, by rw [k 39 (by omega)], k 52 (by omega), k 53 (by omega), k 54 (by omega)⟩⟩
  all_goals first | (rw [e2]; done) | (rw [k _ (by omega)]; done) | skip
  · rw [k 39 (by omega)]; exact ⟨m1, m2', m3, m4⟩
  · intro j hj c hc e
    rw [f43 j (by omega)] at e
    rw [e2]; exact N3 j hj c hc e
  · intro j hj c hc e
    rw [f45 j (by omega)] at e
    rw [e2]; exact N4 j hj c hc e
  · by_cases z : i = 0
    · have : s = 14 := by omega
      rw [z, this] at imn; exact imn
    · exact imx 14 0 (by omega) (by omega) (by omega) H3
  · by_cases z : i = 1
    · have : s = 21 := by omega
      rw [z, this] at imn; exact imn
    · exact imx 21 1 (by omega) (by omega) (by omega) H4
  · unfold RTr at H7 ⊢
    rw [e2]; exact H7
  · rw [k 30 (by omega)]; exact H8
theorem ok_keep (i : Int32) : Ok2 (f_x_keep i) (f_m_keep i) := by
  intro h HR
  obtain ⟨w, g, np, nc, nl, tk, no, H⟩ := id HR
  have e4 := H.2.2.1.1.2.1.2.2.2
  unfold f_x_keep f_m_keep
  rcases rng 1 (by decide) i with ⟨x, y⟩ | ⟨k, hk, rfl, y⟩
  · refine ⟨-1, h, h, ?_, by rw [y, if_pos rfl], HR, PK.rf h⟩
    rcases x with x | x
    · rw [if_pos x]
    · by_cases z : i < 0
      · rw [if_pos z]
      · have x : (2 : Int32) ≤ i := x
        rw [if_neg z, if_neg (by rw [ltI]; rw [leI] at x; omega)]
  · rw [if_neg (nI_pos (by omega)), if_pos (ltL 2 (by omega))]
    have x1 : xin (nI k) 2 = true := xin_nI (by omega) (by decide)
    have en : (1 : Int32) + nI k = nI (1 + k) := by rw [nI_lit 1, nI_add]
    by_cases z : k = 0
    · subst z
      obtain ⟨h3, e3, M⟩ := moveAll_m (xI (f_scene_copyFrom_14_6 h) 14 10 1) (fr := 0) (to := 1 + 0) (by decide) (by decide) (by decide)
      obtain ⟨t1, R, P⟩ := keep_rel (i := 0) (s := 14) H (by decide) rfl (cp_14_6 h) M
      refine ⟨nI tk, xI (f_scene_copyFrom_14_6 h) 14 10 1, _, ?_, ?_, ⟨w, g, np, nc, nl, tk, no, R⟩, P⟩
      · rw [if_pos (show nI 0 = (0 : Int32) from rfl)]
        have : (f_scene_copyFrom_14_6 h).1 6 9 = nI tk := by rw [(cp_14_6 h).2.1 6 (by omega)]; exact e4
        rw [this]
      · have e3 : f_m_moveAll 0 (nI (1 + 0)) (xI (f_scene_copyFrom_14_6 h) 14 10 1) = some h3 := e3
        rw [y, if_neg one_ne, en, e3, xbd1_some, x1, t1, nar1]
        rfl
    · have z1 : k = 1 := by omega
      subst z1
      obtain ⟨h3, e3, M⟩ := moveAll_m (xI (f_scene_copyFrom_21_6 h) 21 10 1) (fr := 0) (to := 1 + 1) (by decide) (by decide) (by decide)
      obtain ⟨t1, R, P⟩ := keep_rel (i := 1) (s := 21) H (by decide) rfl (cp_21_6 h) M
      refine ⟨nI tk, xI (f_scene_copyFrom_21_6 h) 21 10 1, _, ?_, ?_, ⟨w, g, np, nc, nl, tk, no, R⟩, P⟩
      · rw [if_neg (by decide), if_pos (show nI 1 = (1 : Int32) from rfl)]
        have : (f_scene_copyFrom_21_6 h).1 6 9 = nI tk := by rw [(cp_21_6 h).2.1 6 (by omega)]; exact e4
        rw [this]
      · have e3 : f_m_moveAll 0 (nI (1 + 1)) (xI (f_scene_copyFrom_21_6 h) 21 10 1) = some h3 := e3
        rw [y, if_neg one_ne, en, e3, xbd1_some, x1, t1, nar1]
        rfl
