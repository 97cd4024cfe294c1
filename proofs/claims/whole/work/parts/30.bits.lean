/-! ===== sets of cells as bits; small numbers ===== -/
def bq (x : Int64) (i : Nat) : Bool := x.toBitVec.getLsbD i
theorem bq_ext {x y : Int64} (h : ∀ i, i < 64 → bq x i = bq y i) : x = y := Int64.toBitVec_inj.mp (BitVec.eq_of_getLsbD_eq (fun i hi => h i hi))
theorem bq_or (x y : Int64) (i : Nat) : bq (x ||| y) i = (bq x i || bq y i) := by unfold bq; rw [Int64.toBitVec_or, BitVec.getLsbD_or]
theorem bq_and (x y : Int64) (i : Nat) : bq (x &&& y) i = (bq x i && bq y i) := by unfold bq; rw [Int64.toBitVec_and, BitVec.getLsbD_and]
theorem bq_xor (x y : Int64) (i : Nat) : bq (x ^^^ y) i = (bq x i ^^ bq y i) := by unfold bq; rw [Int64.toBitVec_xor, BitVec.getLsbD_xor]
theorem bq_big {x : Int64} {i : Nat} (h : 64 ≤ i) : bq x i = false := BitVec.getLsbD_of_ge _ _ h
theorem bq_0 (i : Nat) : bq 0 i = false := by
  rcases Nat.lt_or_ge i 64 with h | h
  · exact (by decide +kernel : ∀ i, i < 64 → bq 0 i = false) i h
  · exact bq_big h
theorem bq_m1 {i : Nat} (h : i < 64) : bq (-1) i = true := (by decide +kernel : ∀ i, i < 64 → bq (-1) i = true) i h
theorem bq_1 (i : Nat) : bq 1 i = decide (i = 0) := by
  rcases Nat.lt_or_ge i 64 with h | h
  · exact (by decide +kernel : ∀ i, i < 64 → bq 1 i = decide (i = 0)) i h
  · rw [bq_big h, decide_eq_false (by omega)]
theorem bq_not (x : Int64) {i : Nat} (h : i < 64) : bq (x ^^^ (-1)) i = !bq x i := by rw [bq_xor, bq_m1 h, Bool.xor_true]
theorem sl64 : ∀ n, n < 64 → (((nI n).toInt64 &&& 63).toBitVec.smod 64).toNat = n := by decide +kernel
theorem su64 : ∀ n, n < 64 → (((nI n).toInt64.toUInt64 &&& Int64.toUInt64 63).toBitVec % 64).toNat = n := by decide +kernel
theorem bq_shl {n : Nat} (hn : n < 64) (x : Int64) {i : Nat} (hi : i < 64) : bq (jshlL x (nI n)) i = (decide (n ≤ i) && bq x (i - n)) := by
  unfold bq jshlL
  rw [Int64.toBitVec_shiftLeft]
  show (x.toBitVec <<< (((nI n).toInt64 &&& 63).toBitVec.smod 64).toNat).getLsbD i = _
  rw [sl64 n hn, BitVec.getLsbD_shiftLeft]
  rcases Nat.lt_or_ge i n with h | h
  · simp [h, Nat.not_le.mpr h]
  · simp [hi, h, Nat.not_lt.mpr h]
theorem bq_ushr {n : Nat} (hn : n < 64) (x : Int64) (i : Nat) : bq (jushrL x (nI n)) i = bq x (n + i) := by
  unfold jushrL
  show (x.toUInt64 >>> ((nI n).toInt64.toUInt64 &&& Int64.toUInt64 63)).toBitVec.getLsbD i = x.toUInt64.toBitVec.getLsbD (n + i)
  rw [UInt64.toBitVec_shiftRight]
  show (x.toUInt64.toBitVec >>> (((nI n).toInt64.toUInt64 &&& Int64.toUInt64 63).toBitVec % 64).toNat).getLsbD i = _
  rw [su64 n hn, BitVec.getLsbD_ushiftRight]
theorem bq_sshr {n : Nat} (hn : n < 64) (x : Int64) {i : Nat} (hi : i < 64) : bq (jshrL x (nI n)) i = if n + i < 64 then bq x (n + i) else bq x 63 := by
  unfold bq jshrL
  rw [Int64.toBitVec_shiftRight]
  show (x.toBitVec.sshiftRight (((nI n).toInt64 &&& 63).toBitVec.smod 64).toNat).getLsbD i = _
  rw [sl64 n hn, BitVec.getLsbD_sshiftRight, BitVec.msb_eq_getLsbD_last]
  simp [hi]
theorem bq_one {n : Nat} (hn : n < 64) {i : Nat} (hi : i < 64) : bq (jshlL 1 (nI n)) i = decide (i = n) := by
  rw [bq_shl hn _ hi, bq_1]
  by_cases h : i = n
  · subst h; simp
  · by_cases h2 : n ≤ i
    · have : ¬ i - n = 0 := by omega
      simp [h, this]
    · simp [h, h2]
/-- a bit as a number -/
def bL (b : Bool) : Int64 := if b then 1 else 0
def bI (b : Bool) : Int32 := if b then 1 else 0
theorem bq_bL (b : Bool) (i : Nat) : bq (bL b) i = (b && decide (i = 0)) := by
  cases b
  · simp [bL, bq_0]
  · simp [bL, bq_1]
theorem tst_u {n : Nat} (hn : n < 64) (x : Int64) : jushrL x (nI n) &&& 1 = bL (bq x n) := by
  apply bq_ext
  intro i hi
  rw [bq_and, bq_ushr hn, bq_1, bq_bL]
  by_cases h : i = 0
  · subst h; simp
  · simp [h]
theorem tst_s {n : Nat} (hn : n < 64) (x : Int64) : jshrL x (nI n) &&& 1 = bL (bq x n) := by
  apply bq_ext
  intro i hi
  rw [bq_and, bq_sshr hn _ hi, bq_1, bq_bL]
  by_cases h : i = 0
  · subst h; simp [hn]
  · simp [h]
theorem bL_i (b : Bool) : (bL b).toInt32 = bI b := by cases b <;> decide
theorem lg_eq {x y : Int64} : lg_cmp x y = 0 ↔ x = y := by
  unfold lg_cmp
  by_cases h : x > y
  · have hne : x ≠ y := fun e => by subst e; exact absurd h (Int64.lt_irrefl)
    simp [h, hne]
  · by_cases h2 : x = y
    · simp [h2]
    · simp [h, h2]
theorem bL_0 (b : Bool) : (lg_cmp (bL b) 0 = 0) ↔ b = false := by
  rw [lg_eq]; cases b <;> simp [bL]
theorem bL_1 (b : Bool) : (lg_cmp (bL b) 1 = 0) ↔ b = true := by
  rw [lg_eq]; cases b <;> simp [bL]
theorem bI_0 (b : Bool) : (bI b = 0) ↔ b = false := by cases b <;> simp [bI]
theorem bI_1 (b : Bool) : (bI b = 1) ↔ b = true := by cases b <;> simp [bI]
/-- a number of a range by its natural number -/
theorem i_nat {x : Int32} {n : Nat} (h0 : 0 ≤ x.toInt) (h1 : x.toInt < n) (hn : n ≤ 2 ^ 31) : ∃ k, k < n ∧ x = nI k := by
  refine ⟨x.toInt.toNat, by omega, ?_⟩
  apply Int32.toInt_inj.mp
  rw [nI_toInt (by omega)]
  omega
theorem lt0 {x : Int32} : x < 0 ↔ x.toInt < 0 := by rw [Int32.lt_iff_toInt_lt]; rfl
theorem ltI {x y : Int32} : x < y ↔ x.toInt < y.toInt := Int32.lt_iff_toInt_lt
theorem leI {x y : Int32} : x ≤ y ↔ x.toInt ≤ y.toInt := Int32.le_iff_toInt_le
theorem tI (n : Nat) (h : n < 2 ^ 31 := by decide) : ((OfNat.ofNat n : Int32)).toInt = (n : Int) := nI_toInt h
theorem nI_lit (n : Nat) : (OfNat.ofNat n : Int32) = nI n := rfl
theorem xin_nI {k n : Nat} (h : k < n) (hn : n < 2 ^ 31) : xin (nI k) n = true := by
  have h1 : ¬ nI k < 0 := nI_pos (by omega)
  have h2 : ¬ n ≤ (nI k).toNatClampNeg := by rw [nI_clamp (by omega)]; omega
  simp [xin, h1, h2]
theorem xgd_true {α : Type} (k : Option α) : xgd true k = k := rfl
theorem xI_1 (h : Hp) (c j : Nat) (v : Int32) (a b : Nat) : (xI h c j v).1 a b = if a = c ∧ b = j then v else h.1 a b := rfl
theorem xI_2 (h : Hp) (c j : Nat) (v : Int32) : (xI h c j v).2 = h.2 := rfl
theorem xL_1 (h : Hp) (c j : Nat) (v : Int64) : (xL h c j v).1 = h.1 := rfl
theorem xL_2 (h : Hp) (c j : Nat) (v : Int64) (a b : Nat) : (xL h c j v).2 a b = if a = c ∧ b = j then v else h.2 a b := rfl
theorem xCp_1 (h : Hp) (c0 c1 sp dp n a b : Nat) : (xCp h c0 c1 sp dp n).1 a b = if a = c1 then va_cpy (h.1 c0) (h.1 c1) sp dp n b else h.1 a b := rfl
theorem xCp_2 (h : Hp) (c0 c1 sp dp n : Nat) : (xCp h c0 c1 sp dp n).2 = h.2 := rfl
/-- in(v, low, high) -/
theorem f_in (v a b : Int32) : f_m_in v a b = bI (decide (a.toInt ≤ v.toInt ∧ v.toInt ≤ b.toInt)) := by
  unfold f_m_in
  simp only [ltI, leI]
  split
  · next h => rw [decide_eq_false (by omega)]; rfl
  · next h =>
    split
    · next h2 => rw [decide_eq_false (by omega)]; rfl
    · next h2 => rw [decide_eq_true (by omega)]; rfl
