/-! ===== bitCount and bitsIn ===== -/
def tn (x : Int64) : Nat := x.toBitVec.toNat
theorem tn_lt (x : Int64) : tn x < 2 ^ 64 := x.toBitVec.isLt
theorem tn_and (x y : Int64) : tn (x &&& y) = tn x &&& tn y := by unfold tn; rw [Int64.toBitVec_and, BitVec.toNat_and]
theorem tn_ushr {n : Nat} (hn : n < 64) (x : Int64) : tn (jushrL x (nI n)) = tn x / 2 ^ n := by
  unfold jushrL
  show (x.toUInt64 >>> ((nI n).toInt64.toUInt64 &&& Int64.toUInt64 63)).toBitVec.toNat = x.toUInt64.toBitVec.toNat / 2 ^ n
  rw [UInt64.toBitVec_shiftRight]
  show (x.toUInt64.toBitVec >>> (((nI n).toInt64.toUInt64 &&& Int64.toUInt64 63).toBitVec % 64).toNat).toNat = _
  rw [su64 n hn, BitVec.toNat_ushiftRight, Nat.shiftRight_eq_div_pow]
theorem tn_add {x y : Int64} (h : tn x + tn y < 2 ^ 64) : tn (x + y) = tn x + tn y := by
  unfold tn at *
  rw [Int64.toBitVec_add, BitVec.toNat_add, Nat.mod_eq_of_lt h]
theorem tn_sub {x y : Int64} (h : tn y ≤ tn x) : tn (x - y) = tn x - tn y := by
  unfold tn at *
  rw [Int64.toBitVec_sub, BitVec.toNat_sub_of_le (BitVec.le_def.mpr h)]
theorem bq_tn (x : Int64) (i : Nat) : bq x i = (tn x).testBit i := rfl
def bc1 (x : Int64) : Int64 := x - (jushrL x (1 : Int32) &&& 6148914691236517205)
def bc2 (x : Int64) : Int64 := (x &&& 3689348814741910323) + (jushrL x (2 : Int32) &&& 3689348814741910323)
def bc3 (x : Int64) : Int64 := (x + jushrL x (4 : Int32)) &&& 1085102592571150095
def bc4 (x : Int64) : Int64 := x + jushrL x (8 : Int32)
def bc5 (x : Int64) : Int64 := x + jushrL x (16 : Int32)
def bc6 (x : Int64) : Int64 := x + jushrL x (32 : Int32)
theorem bc_def (x : Int64) : f_j_bitCount x = (bc6 (bc5 (bc4 (bc3 (bc2 (bc1 x)))))).toInt32 &&& 127 := rfl
theorem ms1 : tn 6148914691236517205 = mk8 85 8 := by decide +kernel
theorem ms2 : tn 3689348814741910323 = mk8 51 8 := by decide +kernel
theorem ms3 : tn 1085102592571150095 = mk8 15 8 := by decide +kernel
theorem p256 : 256 ^ 8 = 2 ^ 64 := by decide
theorem bc1_n (x : Int64) : tn (bc1 x) = mp8 g1 8 (tn x) := by
  have e : tn (jushrL x (1 : Int32) &&& 6148914691236517205) = (tn x / 2) &&& mk8 85 8 := by
    rw [tn_and, ms1]
    exact congrArg (· &&& mk8 85 8) (tn_ushr (n := 1) (by decide) x)
  have l : (tn x / 2) &&& mk8 85 8 ≤ tn x / 2 := Nat.and_le_left
  unfold bc1
  rw [tn_sub (by rw [e]; omega), e]
  exact stage1 8 (tn x) (by rw [p256]; exact tn_lt x)
theorem and_lt {a b c : Nat} (h : b < c) : a &&& b < c := Nat.lt_of_le_of_lt Nat.and_le_right h
theorem bc2_n (x : Int64) : tn (bc2 x) = mp8 g2 8 (tn x) := by
  have e0 : tn (x &&& 3689348814741910323) = tn x &&& mk8 51 8 := by rw [tn_and, ms2]
  have e : tn (jushrL x (2 : Int32) &&& 3689348814741910323) = (tn x / 4) &&& mk8 51 8 := by
    rw [tn_and, ms2]
    exact congrArg (· &&& mk8 51 8) (tn_ushr (n := 2) (by decide) x)
  have m : mk8 51 8 < 2 ^ 62 := by decide +kernel
  have l1 : tn x &&& mk8 51 8 < 2 ^ 62 := and_lt m
  have l2 : (tn x / 4) &&& mk8 51 8 < 2 ^ 62 := and_lt m
  unfold bc2
  rw [tn_add (by rw [e0, e]; omega), e0, e]
  exact stage2 8 (tn x) (by rw [p256]; exact tn_lt x)
theorem bc3_n {x : Int64} {f : Nat → Nat} {N : Nat} (hf : ∀ a, a < 256 → f a < 69 ∧ f a % 16 < 5) (hx : tn x = mp8 f 8 N) (hl : tn x < 2 ^ 63) : tn (bc3 x) = mp8 (fun a => g3 (f a)) 8 N := by
  have e : tn (jushrL x (4 : Int32)) = tn x / 16 := tn_ushr (n := 4) (by decide) x
  unfold bc3
  rw [tn_and, ms3, tn_add (by rw [e]; omega), e, hx]
  exact stage3 hf 8 N
theorem tn_i32 (v : Int64) : v.toInt32 &&& 127 = nI (tn v % 128) := by
  apply Int32.toBitVec_inj.mp
  rw [Int32.toBitVec_and, Int64.toBitVec_toInt32]
  apply BitVec.eq_of_toNat_eq
  rw [BitVec.toNat_and, BitVec.signExtend_eq_setWidth_of_le _ (by decide), BitVec.toNat_setWidth]
  have e1 : (127 : Int32).toBitVec.toNat = 2 ^ 7 - 1 := by decide
  have e2 : (nI (tn v % 128)).toBitVec.toNat = tn v % 128 := by
    show (BitVec.ofNat 32 (tn v % 128)).toNat = _
    rw [BitVec.toNat_ofNat]
    omega
  rw [e1, e2, Nat.and_two_pow_sub_one_eq_mod]
  show (tn v % 2 ^ 32) % 2 ^ 7 = tn v % 128
  omega
theorem small_bc {x : Int64} {n : Nat} (hn : n < 64) (s : Int32) (es : s = nI n) (hl : tn x < 2 ^ 63) : tn (x + jushrL x s) = tn x + tn x / 2 ^ n := by
  subst es
  have e := tn_ushr hn x
  have l : tn x / 2 ^ n ≤ tn x := Nat.div_le_self _ _
  rw [tn_add (by rw [e]; omega), e]
theorem mp8_le {f : Nat → Nat} {m : Nat} (hf : ∀ a, a < 256 → f a ≤ m) : ∀ n N, mp8 f n N ≤ m * mk8 1 n := by
  intro n
  induction n with
  | zero => intro N; simp [mp8]
  | succ n ih =>
    intro N
    have h1 := ih (N / 256)
    have h2 := hf (N % 256) (by omega)
    show f (N % 256) + 256 * mp8 f n (N / 256) ≤ m * (1 + 256 * mk8 1 n)
    rw [Nat.mul_add, Nat.mul_one, Nat.mul_left_comm]
    omega
theorem mp8_congr {f g : Nat → Nat} (h : ∀ a, a < 256 → f a = g a) : ∀ n N, mp8 f n N = mp8 g n N := by
  intro n
  induction n with
  | zero => intro N; rfl
  | succ n ih =>
    intro N
    show f (N % 256) + 256 * mp8 f n (N / 256) = g (N % 256) + 256 * mp8 g n (N / 256)
    rw [h _ (by omega), ih]
theorem bitCount_eq (x : Int64) : f_j_bitCount x = nI (cnt (bq x) 64) := by
  have h1 := bc1_n x
  have h2 := bc2_n (bc1 x)
  rw [h1, mp8_mp8 g2 g1_dec] at h2
  have l2 : tn (bc2 (bc1 x)) < 2 ^ 63 := by
    rw [h2]
    have := mp8_le (f := fun a => g2 (g1 a)) (m := 68) (fun a ha => by have := (g12_dec a ha).1; omega) 8 (tn x)
    have m : 68 * mk8 1 8 < 2 ^ 63 := by decide +kernel
    omega
  have h3 := bc3_n g12_dec h2 l2
  rw [mp8_congr pop_dec] at h3
  have l3 : tn (bc3 (bc2 (bc1 x))) < 2 ^ 60 := by
    rw [h3]
    have := mp8_le (f := popb) (m := 8) (fun a ha => popb8 a) 8 (tn x)
    have m : 8 * mk8 1 8 < 2 ^ 60 := by decide +kernel
    omega
  rw [bc_def, tn_i32]
  congr 1
  have c : cnt (bq x) 64 = sumB 8 (tn x) := cnt_sumB 8 (tn x)
  rw [c]
  generalize bc3 (bc2 (bc1 x)) = v3 at *
  have h4 : tn (bc4 v3) = tn v3 + tn v3 / 256 := small_bc (n := 8) (by decide) 8 rfl (by omega)
  have h5 : tn (bc5 (bc4 v3)) = tn (bc4 v3) + tn (bc4 v3) / 65536 := small_bc (n := 16) (by decide) 16 rfl (by omega)
  have h6 : tn (bc6 (bc5 (bc4 v3))) = tn (bc5 (bc4 v3)) + tn (bc5 (bc4 v3)) / 4294967296 := small_bc (n := 32) (by decide) 32 rfl (by omega)
  refine (fold8 (popb (tn x % 256)) (popb (tn x / 256 % 256)) (popb (tn x / 256 / 256 % 256)) (popb (tn x / 256 / 256 / 256 % 256)) (popb (tn x / 256 / 256 / 256 / 256 % 256)) (popb (tn x / 256 / 256 / 256 / 256 / 256 % 256)) (popb (tn x / 256 / 256 / 256 / 256 / 256 / 256 % 256)) (popb (tn x / 256 / 256 / 256 / 256 / 256 / 256 / 256 % 256)) ⟨popb8 _, popb8 _, popb8 _, popb8 _, popb8 _, popb8 _, popb8 _, popb8 _⟩ (tn v3) (tn (bc4 v3)) (tn (bc5 (bc4 v3))) (tn (bc6 (bc5 (bc4 v3)))) h3 h4 h5 h6).trans ?_
  simp only [sumB, Nat.add_zero]
  ac_rfl
theorem bitsIn_m (x : Int64) : f_m_bitsIn x = some (nI (cnt (bq x) 64)) := by
  unfold f_m_bitsIn
  refine lp0 (fun f s => f_m_bitsIn_L_1 x (fun l2_3 l3_4 => some l2_3) f s.1 s.2) 64 (fun i => (nI (cnt (bq x) i), nI i)) _ (by omega) (fun f => ?_) (fun f i hi => ?_)
  · simp only
    rw [f_m_bitsIn_L_1, if_pos (by decide)]
  · simp only
    rw [f_m_bitsIn_L_1, if_neg (nleL 64 hi), nI_1, tst_s hi, bL_i]
    show f_m_bitsIn_L_1 x _ f (nI (cnt (bq x) i) + bI (bq x i)) (nI (i + 1)) = f_m_bitsIn_L_1 x _ f (nI (cnt (bq x) i + (if bq x i then 1 else 0))) (nI (i + 1))
    congr 1
    rw [← nI_add]
    cases bq x i <;> rfl
/-! ===== count, lost ===== -/
def hcell (w g : Nat) (c : Nat) : Bool := decide (c % 8 < w ∧ c / 8 < g)
theorem cnt_cells : ∀ w, w < 9 → ∀ g, g < 9 → cnt (hcell w g) 64 = w * g := by decide +kernel
theorem cells_x {h : Hp} {w g : Nat} (H : RHl h w g) : f_j_bitCount (h.2 2 4) = nI (w * g) := by
  obtain ⟨⟨w1, w2, g1, g2⟩, -, hc, -⟩ := H
  rw [bitCount_eq, cnt_congr (Q := hcell w g) 64 (fun i hi => hc i hi), cnt_cells w (by omega) g (by omega)]
theorem ok_count {h : Hp} (HR : RelB h) (i : Int32) : f_m_count i h = some (f_x_count i h) := by
  obtain ⟨w, g, np, nc, nl, tk, no, H0, H1, H2, H3, H4, H5, H6, H7, H8⟩ := HR
  have hf := H1.2.2.2.1.1
  obtain ⟨n, n80, t1, t2, -⟩ := H0
  obtain ⟨nd, -, d1, d2, -⟩ := H1.2.2.2.2.2.1
  obtain ⟨e1, e2, e3, e4⟩ := H2.1.2.1
  obtain ⟨m1, m2, m3, m4⟩ := H2.2.1
  unfold f_m_count f_x_count
  rw [cells_x H1, H1.2.1.1, H1.2.1.2, d1, d2, e1, e2, e3, e4, m1, m2, m3, m4, t1, t2, H5.2.1, H5.2.2.1, hf, bitCount_eq, bitsIn_m, xbd1_some, pk_mul]
  repeat (first | rfl | split)
theorem ok_lost {h : Hp} (HR : RelB h) : ∃ r h2, f_x_lost h = (r, xL h 0 8 (h.2 2 5)) ∧ f_m_lost (xL h 0 8 (h.2 2 5)) = some (r, h2) ∧ RelB h2 ∧ PK h h2 := by
  obtain ⟨w, g, np, nc, nl, tk, no, H0, H1, H2, H3, H4, H5, H6, H7, H8⟩ := HR
  have hf := H1.2.2.2.1.1
  refine ⟨nI (cnt (bq (h.2 39 8)) 64), xL (xL h 0 8 (h.2 2 5)) 39 9 (h.2 39 8), ?_, ?_, ⟨w, g, np, nc, nl, tk, no, H0.of rfl rfl rfl rfl, H1.of rfl rfl rfl rfl rfl rfl rfl rfl rfl rfl rfl rfl, H2.of rfl rfl rfl rfl rfl rfl rfl rfl rfl rfl rfl rfl rfl rfl rfl rfl rfl rfl, H3.of rfl rfl rfl rfl rfl rfl rfl rfl rfl rfl rfl rfl rfl rfl rfl rfl rfl rfl, H4.of rfl rfl rfl rfl rfl rfl rfl rfl rfl rfl rfl rfl rfl rfl rfl rfl rfl rfl, H5.of rfl rfl rfl rfl rfl rfl rfl rfl rfl, ⟨hf, fun c hc e => e⟩, H7, H8⟩, Or.inr ⟨rfl, rfl, rfl, rfl, rfl, fun _ _ => rfl, rfl, rfl, rfl, rfl⟩⟩
  · unfold f_x_lost; rw [bitCount_eq, hf]
  · unfold f_m_lost
    have e : (xL h 0 8 (h.2 2 5)).2 39 8 = h.2 39 8 := rfl
    rw [e, bitsIn_m, xbd1_some]
