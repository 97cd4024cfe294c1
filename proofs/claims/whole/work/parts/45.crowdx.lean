/-! ===== the class's crowd ===== -/
theorem hp_ext2 {h h' : Hp} (e1 : h.1 = h'.1) (e2 : ∀ a b, h.2 a b = h'.2 a b) : h = h' := by
  obtain ⟨x, y⟩ := h
  obtain ⟨x', y'⟩ := h'
  have e1 : x = x' := e1
  have : y = y' := funext fun a => funext fun b => e2 a b
  rw [this, e1]
/-- a state but for the crowd -/
def CR (h : Hp) (A B C D : Int64) (N : Nat → Int64) : Hp := (h.1, fun a b => if a = 28 ∧ b = 1 then A else if a = 28 ∧ b = 2 then B else if a = 28 ∧ b = 3 then C else if a = 28 ∧ b = 4 then D else if a = 29 ∧ b < 4 then N b else h.2 a b)
def CE (h : Hp) (N : Nat → Int64) (i : Nat) : Hp := (h.1, fun a b => if a = 28 ∧ b = 1 then 0 else if a = 28 ∧ b = 2 then 0 else if a = 28 ∧ b = 3 then 0 else if a = 28 ∧ b = 4 then 0 else if a = 29 ∧ b < i then N b else h.2 a b)
theorem CE_s (h : Hp) (N : Nat → Int64) (i : Nat) : xL (CE h N i) 29 i (N i) = CE h N (i + 1) := by
  refine hp_ext2 rfl (fun a b => ?_)
  rw [xL_2]
  simp only [CE]
  by_cases ha : a = 29
  · subst ha
    by_cases hb : b = i
    · subst hb; simp
    · by_cases h2 : b < i
      · simp [hb, h2, show b < i + 1 by omega]
      · simp [hb, h2, show ¬ b < i + 1 by omega]
  · simp [ha]
theorem xL_xL (h : Hp) (c j : Nat) (u v : Int64) : xL (xL h c j u) c j v = xL h c j v := by
  refine hp_ext2 rfl (fun a b => ?_)
  simp only [xL_2]
  by_cases e : a = c ∧ b = j
  · rw [if_pos e, if_pos e]
  · rw [if_neg e, if_neg e, if_neg e]
def NRx (h : Hp) (nc d : Nat) : Int64 := orF (fun k => f_x_behind (h.1 9 k) (nI d)) nc
theorem empty_in {h : Hp} {nc d : Nat} (hn : nc ≤ 2) (hd : d < 4) (e : h.1 6 7 = nI nc) (N : Nat → Int64) (k : Int32 → Hp → Option Hp) : f_crowd_empty_6_L_3 (nI d) k 1000 0 (xL (CE h N d) 29 d 0) = k (nI nc) (xL (CE h N d) 29 d (NRx h nc d)) := by
  refine lp0 (fun f s => f_crowd_empty_6_L_3 (nI d) k f s.1 s.2) nc (fun i => (nI i, xL (CE h N d) 29 d (NRx h i d))) _ (by omega) (fun f => ?_) (fun f i hi => ?_)
  · simp only
    have e2 : (xL (CE h N d) 29 d (NRx h nc d)).1 6 7 = nI nc := e
    rw [f_crowd_empty_6_L_3, e2, if_pos ((leN (by omega) (by omega)).mpr (Nat.le_refl _))]
  · simp only
    have e2 : (xL (CE h N d) 29 d (NRx h i d)).1 6 7 = nI nc := e
    have e3 : (xL (CE h N d) 29 d (NRx h i d)).1 9 i = h.1 9 i := rfl
    have e4 : (xL (CE h N d) 29 d (NRx h i d)).2 29 d = NRx h i d := by rw [xL_2, if_pos ⟨rfl, rfl⟩]
    rw [f_crowd_empty_6_L_3, e2, if_neg (fun q => absurd ((leN (by omega) (by omega)).mp q) (by omega)), xin_nI (n := 2) (by omega) (by decide), xin_nI (n := 4) (by omega) (by decide), clampc (by omega), clampc (by omega), nI_1, e3, e4, xL_xL]
    rfl
theorem empty_x {h : Hp} {nc : Nat} (hn : nc ≤ 2) (e : h.1 6 7 = nI nc) : f_crowd_empty_6 h = some (CR h 0 0 0 0 (NRx h nc)) := by
  unfold f_crowd_empty_6
  have e0 : xL (xL (xL (xL h 28 1 (0 : Int64)) 28 2 (0 : Int64)) 28 3 (0 : Int64)) 28 4 (0 : Int64) = CE h (NRx h nc) 0 := by
    refine hp_ext2 rfl (fun a b => ?_)
    simp only [xL_2, CE]
    by_cases ha : a = 28
    · subst ha
      by_cases b1 : b = 1
      · simp [b1]
      · by_cases b2 : b = 2
        · simp [b2]
        · by_cases b3 : b = 3
          · simp [b3]
          · simp [b1, b2, b3]
    · simp [ha]
  have e9 : CE h (NRx h nc) 4 = CR h 0 0 0 0 (NRx h nc) := rfl
  rw [e0]
  refine lp0 (fun f s => f_crowd_empty_6_L_1 (fun l2_7 h_8 => some h_8) f s.1 s.2) 4 (fun i => (nI i, CE h (NRx h nc) i)) _ (by omega) (fun f => ?_) (fun f i hi => ?_)
  · simp only
    rw [f_crowd_empty_6_L_1, if_pos (by decide), e9]
  · simp only
    rw [f_crowd_empty_6_L_1, if_neg (nleL 4 hi), xin_nI (n := 4) (by omega) (by decide), clampc (by omega), nI_1, empty_in hn hi e, CE_s]
    rfl
theorem CR_CR (h : Hp) (A B C D : Int64) (N : Nat → Int64) (A' B' C' D' : Int64) (N' : Nat → Int64) : CR (CR h A B C D N) A' B' C' D' N' = CR h A' B' C' D' N' := by
  refine hp_ext2 rfl (fun a b => ?_)
  simp only [CR]
  by_cases ha : a = 28
  · subst ha
    by_cases b1 : b = 1
    · simp [b1]
    · by_cases b2 : b = 2
      · simp [b2]
      · by_cases b3 : b = 3
        · simp [b3]
        · simp [b1, b2, b3]
          split <;> rfl
  · by_cases h2 : a = 29 ∧ b < 4
    · simp [h2]
    · simp [ha, h2]
theorem CR_A (h : Hp) (A B C D : Int64) (N : Nat → Int64) (v : Int64) : xL (CR h A B C D N) 28 1 v = CR h v B C D N := by
  refine hp_ext2 rfl (fun a b => ?_)
  rw [xL_2]; simp only [CR]
  by_cases h1 : a = 28 ∧ b = 1
  · rw [if_pos h1, if_pos h1]
  · rw [if_neg h1, if_neg h1, if_neg h1]
theorem CR_B (h : Hp) (A B C D : Int64) (N : Nat → Int64) (v : Int64) : xL (CR h A B C D N) 28 2 v = CR h A v C D N := by
  refine hp_ext2 rfl (fun a b => ?_)
  rw [xL_2]; simp only [CR]
  by_cases h1 : a = 28 ∧ b = 2
  · rw [if_pos h1, if_pos h1, if_neg (by omega)]
  · rw [if_neg h1, if_neg h1, if_neg h1]
theorem CR_C (h : Hp) (A B C D : Int64) (N : Nat → Int64) (v : Int64) : xL (CR h A B C D N) 28 3 v = CR h A B v D N := by
  refine hp_ext2 rfl (fun a b => ?_)
  rw [xL_2]; simp only [CR]
  by_cases h1 : a = 28 ∧ b = 3
  · rw [if_pos h1, if_pos h1, if_neg (by omega), if_neg (by omega)]
  · rw [if_neg h1, if_neg h1, if_neg h1]
theorem CR_D (h : Hp) (A B C D : Int64) (N : Nat → Int64) (v : Int64) : xL (CR h A B C D N) 28 4 v = CR h A B C v N := by
  refine hp_ext2 rfl (fun a b => ?_)
  rw [xL_2]; simp only [CR]
  by_cases h1 : a = 28 ∧ b = 4
  · rw [if_pos h1, if_pos h1, if_neg (by omega), if_neg (by omega), if_neg (by omega)]
  · rw [if_neg h1, if_neg h1, if_neg h1]
def jn (k j : Nat) (A S : Int64) : Int64 := if k = j then A ||| S else A
theorem join_x (h : Hp) (A B C D : Int64) (N : Nat → Int64) {k : Nat} (hk : k < 4) (S : Int64) : f_crowd_join (nI k) S (CR h A B C D N) = CR h (jn k 0 A S) (jn k 1 B S) (jn k 2 C S) (jn k 3 D S) N := by
  unfold f_crowd_join
  match k, hk with
  | 0, _ => rw [if_pos (by decide)]; exact CR_A h A B C D N _
  | 1, _ => rw [if_neg (by decide), if_pos (by decide)]; exact CR_B h A B C D N _
  | 2, _ => rw [if_neg (by decide), if_neg (by decide), if_pos (by decide)]; exact CR_C h A B C D N _
  | 3, _ => rw [if_neg (by decide), if_neg (by decide), if_neg (by decide)]; exact CR_D h A B C D N _
theorem nearer_x (h : Hp) (A B C D fr : Int64) (N : Nat → Int64) : f_crowd_nearer fr (CR h A B C D N) = some (CL N fr D) := by
  unfold f_crowd_nearer
  have z := lp0 (fun f s => f_crowd_nearer_L_1 fr (CR h A B C D N) (fun l3_3 l5_4 => some l3_3) f s.1 s.2) 4 (fun i => (D ||| orF (fun d => f_x_shifted (D &&& N d) (nI d) &&& fr) i, nI i)) (some (CL N fr D)) (by omega) (fun f => ?_) (fun f i hi => ?_)
  · simp only [orF, or_0] at z
    exact z
  · simp only
    rw [f_crowd_nearer_L_1, if_pos (by decide)]
    rfl
  · simp only
    rw [f_crowd_nearer_L_1, if_neg (nleL 4 hi), xin_nI (n := 4) (by omega) (by decide), clampc (by omega), nI_1, orF, ← or_as]
    have e1 : (CR h A B C D N).2 28 4 = D := rfl
    have e2 : (CR h A B C D N).2 29 i = N i := by simp [CR, hi]
    rw [e1, e2]
    rfl
theorem after_x (h : Hp) (A B C D : Int64) {fr : Int64} (N : Nat → Int64) {t : Nat} (ht : t ≤ 20) (hB : sub B fr) (hC : sub C fr) : f_crowd_afterTicks (nI t) fr (CR h A B C D N) = some (((A ||| CB 1 N fr t B) ||| CB 2 N fr t C) ||| CB 3 N fr t D, CR h A (CB 1 N fr t B) (CB 2 N fr t C) (CB 3 N fr t D) N) := by
  unfold f_crowd_afterTicks
  refine lp0 (fun f s => f_crowd_afterTicks_L_1 (nI t) fr (fun l4_5 h_6 => some (((((h_6.2 28 1) ||| (h_6.2 28 2)) ||| (h_6.2 28 3)) ||| (h_6.2 28 4)), h_6)) f s.1 s.2) t (fun i => (nI i, CR h A (CB 1 N fr i B) (CB 2 N fr i C) (CB 3 N fr i D) N)) _ (by omega) (fun f => ?_) (fun f i hi => ?_)
  · simp only
    rw [f_crowd_afterTicks_L_1, if_pos ((leN (by omega) (by omega)).mpr (Nat.le_refl _))]
    rfl
  · simp only
    have sB := CB_sub 1 (N := N) i hB
    have sC := CB_sub 2 (N := N) i hC
    have e1 : (CR h A (CB 1 N fr i B) (CB 2 N fr i C) (CB 3 N fr i D) N).2 28 2 = CB 1 N fr i B := rfl
    have e2 : (CR h A (CB 1 N fr i B) (CB 2 N fr i C) (CB 3 N fr i D) N).2 28 3 = CB 2 N fr i C := rfl
    rw [f_crowd_afterTicks_L_1, if_neg (fun q => absurd ((leN (by omega) (by omega)).mp q) (by omega)), nI_1, e1, e2, CR_B, CR_C, nearer_x, xbd1_some, CR_D, wid_SP sB, wid_SP sC, wid_SP (SP_sub fr _)]
    rfl
