/-! ===== how many bits ===== -/
def cnt (P : Nat → Bool) : Nat → Nat
  | 0 => 0
  | n + 1 => cnt P n + (if P n then 1 else 0)
theorem cnt_add (P : Nat → Bool) (n : Nat) : ∀ m, cnt P (n + m) = cnt P n + cnt (fun i => P (n + i)) m := by
  intro m
  induction m with
  | zero => rfl
  | succ m ih =>
    show cnt P (n + m) + _ = _
    rw [ih, Nat.add_assoc]; rfl
theorem cnt_congr {P Q : Nat → Bool} : ∀ n, (∀ i, i < n → P i = Q i) → cnt P n = cnt Q n := by
  intro n
  induction n with
  | zero => intro _; rfl
  | succ n ih => intro e; rw [cnt, cnt, ih (fun i hi => e i (by omega)), e n (by omega)]
theorem cnt_le (P : Nat → Bool) : ∀ n, cnt P n ≤ n := by
  intro n
  induction n with
  | zero => exact Nat.le_refl 0
  | succ n ih =>
    rw [cnt]
    split <;> omega
def mp8 (g : Nat → Nat) : Nat → Nat → Nat
  | 0, _ => 0
  | n + 1, N => g (N % 256) + 256 * mp8 g n (N / 256)
def mk8 (m : Nat) : Nat → Nat
  | 0 => 0
  | n + 1 => m + 256 * mk8 m n
theorem and8 {a b : Nat} (A B : Nat) (ha : a < 256) (hb : b < 256) : (a + 256 * A) &&& (b + 256 * B) = (a &&& b) + 256 * (A &&& B) := by
  have h1 := Nat.and_mod_two_pow (a := a + 256 * A) (b := b + 256 * B) (n := 8)
  have h2 := Nat.and_div_two_pow (a := a + 256 * A) (b := b + 256 * B) (n := 8)
  have e1 : (a + 256 * A) % 2 ^ 8 = a := by omega
  have e2 : (b + 256 * B) % 2 ^ 8 = b := by omega
  have e3 : (a + 256 * A) / 2 ^ 8 = A := by omega
  have e4 : (b + 256 * B) / 2 ^ 8 = B := by omega
  rw [e1, e2] at h1
  rw [e3, e4] at h2
  omega
def g1 (a : Nat) : Nat := a - ((a / 2) &&& 85)
def g2 (a : Nat) : Nat := (a &&& 51) + ((a / 4) &&& 51)
def g3 (a : Nat) : Nat := (a + a / 16) &&& 15
theorem dec1 : ∀ a, a < 256 → ∀ p, p < 2 → (a / 2 + 128 * p) &&& 85 = (a / 2) &&& 85 := by decide +kernel
theorem dec2 : ∀ a, a < 256 → ∀ p, p < 4 → (a / 4 + 64 * p) &&& 51 = (a / 4) &&& 51 := by decide +kernel
theorem dec3 : ∀ a, a < 69 → ∀ p, p < 5 → (a + a / 16 + 16 * p) &&& 15 = (a + a / 16) &&& 15 := by decide +kernel
theorem stage1 : ∀ n N, N < 256 ^ n → N - ((N / 2) &&& mk8 85 n) = mp8 g1 n N := by
  intro n
  induction n with
  | zero => intro N h; simp at h; subst h; rfl
  | succ n ih =>
    intro N h
    have h2 : N / 256 < 256 ^ n := by rw [Nat.pow_succ] at h; omega
    have i := ih (N / 256) h2
    show N - ((N / 2) &&& (85 + 256 * mk8 85 n)) = g1 (N % 256) + 256 * mp8 g1 n (N / 256)
    have e : N / 2 = ((N % 256) / 2 + 128 * ((N / 256) % 2)) + 256 * (N / 256 / 2) := by omega
    rw [← i, e, and8 _ _ (by omega) (by omega), dec1 (N % 256) (by omega) _ (by omega)]
    unfold g1
    have l1 : (N % 256 / 2) &&& 85 ≤ N % 256 / 2 := Nat.and_le_left
    have l2 : (N / 256 / 2) &&& mk8 85 n ≤ N / 256 / 2 := Nat.and_le_left
    omega
theorem stage2 : ∀ n M, M < 256 ^ n → (M &&& mk8 51 n) + ((M / 4) &&& mk8 51 n) = mp8 g2 n M := by
  intro n
  induction n with
  | zero => intro M h; simp at h; subst h; rfl
  | succ n ih =>
    intro M h
    have h2 : M / 256 < 256 ^ n := by rw [Nat.pow_succ] at h; omega
    have i := ih (M / 256) h2
    show (M &&& (51 + 256 * mk8 51 n)) + ((M / 4) &&& (51 + 256 * mk8 51 n)) = g2 (M % 256) + 256 * mp8 g2 n (M / 256)
    have e : M / 4 = ((M % 256) / 4 + 64 * ((M / 256) % 4)) + 256 * (M / 256 / 4) := by omega
    have e0 : M &&& (51 + 256 * mk8 51 n) = (M % 256 &&& 51) + 256 * ((M / 256) &&& mk8 51 n) := by
      have := and8 (M / 256) (mk8 51 n) (a := M % 256) (b := 51) (by omega) (by omega)
      rw [← this]
      congr 1
      omega
    rw [← i, e0, e, and8 _ _ (by omega) (by omega), dec2 (M % 256) (by omega) _ (by omega)]
    unfold g2
    omega
theorem mp8_lt {g : Nat → Nat} (hg : ∀ a, a < 256 → g a < 256) : ∀ n N, mp8 g n N < 256 ^ n := by
  intro n
  induction n with
  | zero => intro N; simp [mp8]
  | succ n ih =>
    intro N
    have := ih (N / 256)
    have := hg (N % 256) (by omega)
    show g (N % 256) + 256 * mp8 g n (N / 256) < _
    rw [Nat.pow_succ]; omega
theorem mp8_mp8 {f : Nat → Nat} (g : Nat → Nat) (hf : ∀ a, a < 256 → f a < 256) : ∀ n N, mp8 g n (mp8 f n N) = mp8 (fun a => g (f a)) n N := by
  intro n
  induction n with
  | zero => intro N; rfl
  | succ n ih =>
    intro N
    have h := hf (N % 256) (by omega)
    show g ((f (N % 256) + 256 * mp8 f n (N / 256)) % 256) + 256 * mp8 g n ((f (N % 256) + 256 * mp8 f n (N / 256)) / 256) = _
    have e1 : (f (N % 256) + 256 * mp8 f n (N / 256)) % 256 = f (N % 256) := by omega
    have e2 : (f (N % 256) + 256 * mp8 f n (N / 256)) / 256 = mp8 f n (N / 256) := by omega
    rw [e1, e2, ih]; rfl
theorem mp8_mod {f : Nat → Nat} (hf : ∀ a, a < 256 → f a < 69 ∧ f a % 16 < 5) : ∀ n N, mp8 f n N % 16 < 5 := by
  intro n
  cases n with
  | zero => intro N; simp [mp8]
  | succ n =>
    intro N
    have := hf (N % 256) (by omega)
    show (f (N % 256) + 256 * mp8 f n (N / 256)) % 16 < 5
    omega
theorem stage3 {f : Nat → Nat} (hf : ∀ a, a < 256 → f a < 69 ∧ f a % 16 < 5) : ∀ n N, (mp8 f n N + mp8 f n N / 16) &&& mk8 15 n = mp8 (fun a => g3 (f a)) n N := by
  intro n
  induction n with
  | zero => intro N; simp [mp8, mk8]
  | succ n ih =>
    intro N
    have i := ih (N / 256)
    have m := mp8_mod hf n (N / 256)
    have hc := hf (N % 256) (by omega)
    show (f (N % 256) + 256 * mp8 f n (N / 256) + (f (N % 256) + 256 * mp8 f n (N / 256)) / 16) &&& (15 + 256 * mk8 15 n) = g3 (f (N % 256)) + 256 * mp8 (fun a => g3 (f a)) n (N / 256)
    rw [← i]
    generalize f (N % 256) = c at *
    generalize mp8 f n (N / 256) = C at *
    have e : c + 256 * C + (c + 256 * C) / 16 = (c + c / 16 + 16 * (C % 16)) + 256 * (C + C / 16) := by omega
    rw [e, and8 _ _ (by omega) (by omega), dec3 c hc.1 _ m]
    rfl
def popb (b : Nat) : Nat := cnt (fun i => b.testBit i) 8
theorem pop_dec : ∀ b, b < 256 → g3 (g2 (g1 b)) = popb b := by decide +kernel
theorem g12_dec : ∀ b, b < 256 → g2 (g1 b) < 69 ∧ g2 (g1 b) % 16 < 5 := by decide +kernel
theorem g1_dec : ∀ b, b < 256 → g1 b < 256 := by decide +kernel
theorem popb8 (b : Nat) : popb b ≤ 8 := cnt_le _ 8
def sumB : Nat → Nat → Nat
  | 0, _ => 0
  | n + 1, N => popb (N % 256) + sumB n (N / 256)
theorem cnt_sumB : ∀ n N, cnt (fun i => N.testBit i) (8 * n) = sumB n N := by
  intro n
  induction n with
  | zero => intro N; rfl
  | succ n ih =>
    intro N
    have e : 8 * (n + 1) = 8 + 8 * n := by omega
    rw [e, cnt_add]
    show _ = popb (N % 256) + sumB n (N / 256)
    rw [← ih (N / 256)]
    congr 1
    · refine cnt_congr 8 (fun i hi => ?_)
      have := Nat.testBit_mod_two_pow N 8 i
      have e2 : N % 256 = N % 2 ^ 8 := rfl
      rw [e2, this, decide_eq_true hi, Bool.true_and]
    · refine cnt_congr _ (fun i hi => ?_)
      have := Nat.testBit_div_two_pow (n := 8) N i
      have e2 : N / 256 = N / 2 ^ 8 := rfl
      rw [e2, this, Nat.add_comm]
/-- the last steps -/
theorem d1_8 {a : Nat} (A : Nat) (ha : a ≤ 8) : (a + 256 * A) / 256 = A := by omega
theorem d2_8 {x y : Nat} (W : Nat) (hx : x ≤ 16) (hy : y ≤ 16) : (x + 256 * (y + 256 * W)) / 65536 = W := by omega
theorem d4_8 {a b c d : Nat} (Z : Nat) (ha : a ≤ 32) (hb : b ≤ 32) (hc : c ≤ 32) (hd : d ≤ 32) : (a + 256 * (b + 256 * (c + 256 * (d + 256 * Z)))) / 4294967296 = Z := by omega
theorem m7_8 {a z : Nat} (T Z : Nat) (h : a + z ≤ 64) : ((a + 256 * T) + (z + 256 * Z)) % 128 = a + z := by omega
theorem fold8 (p0 p1 p2 p3 p4 p5 p6 p7 : Nat) (h : p0 ≤ 8 ∧ p1 ≤ 8 ∧ p2 ≤ 8 ∧ p3 ≤ 8 ∧ p4 ≤ 8 ∧ p5 ≤ 8 ∧ p6 ≤ 8 ∧ p7 ≤ 8) (v3 v4 v5 v6 : Nat) (e3 : v3 = p0 + 256 * (p1 + 256 * (p2 + 256 * (p3 + 256 * (p4 + 256 * (p5 + 256 * (p6 + 256 * p7))))))) (e4 : v4 = v3 + v3 / 256) (e5 : v5 = v4 + v4 / 65536) (e6 : v6 = v5 + v5 / 4294967296) : v6 % 128 = p0 + p1 + p2 + p3 + p4 + p5 + p6 + p7 := by
  obtain ⟨h0, h1, h2, h3, h4, h5, h6, h7⟩ := h
  have q3 : v3 / 256 = p1 + 256 * (p2 + 256 * (p3 + 256 * (p4 + 256 * (p5 + 256 * (p6 + 256 * p7))))) := by rw [e3]; exact d1_8 _ h0
  have a4 : v4 = (p0 + p1) + 256 * ((p1 + p2) + 256 * ((p2 + p3) + 256 * ((p3 + p4) + 256 * ((p4 + p5) + 256 * ((p5 + p6) + 256 * ((p6 + p7) + 256 * p7)))))) := by
    rw [e4, q3, e3]
    simp only [Nat.mul_add]
    ac_rfl
  have q4 : v4 / 65536 = (p2 + p3) + 256 * ((p3 + p4) + 256 * ((p4 + p5) + 256 * ((p5 + p6) + 256 * ((p6 + p7) + 256 * p7)))) := by
    rw [a4]; exact d2_8 _ (Nat.add_le_add h0 h1) (Nat.add_le_add h1 h2)
  have a5 : v5 = (p0 + p1 + (p2 + p3)) + 256 * ((p1 + p2 + (p3 + p4)) + 256 * ((p2 + p3 + (p4 + p5)) + 256 * ((p3 + p4 + (p5 + p6)) + 256 * (((p4 + p5) + (p6 + p7)) + 256 * ((p5 + p6 + p7) + 256 * ((p6 + p7) + 256 * p7)))))) := by
    rw [e5, q4, a4]
    simp only [Nat.mul_add]
    ac_rfl
  have q5 : v5 / 4294967296 = ((p4 + p5) + (p6 + p7)) + 256 * ((p5 + p6 + p7) + 256 * ((p6 + p7) + 256 * p7)) := by
    rw [a5]
    exact d4_8 _ (Nat.add_le_add (Nat.add_le_add h0 h1) (Nat.add_le_add h2 h3)) (Nat.add_le_add (Nat.add_le_add h1 h2) (Nat.add_le_add h3 h4)) (Nat.add_le_add (Nat.add_le_add h2 h3) (Nat.add_le_add h4 h5)) (Nat.add_le_add (Nat.add_le_add h3 h4) (Nat.add_le_add h5 h6))
  rw [e6, q5, a5]
  refine (m7_8 _ _ (Nat.add_le_add (Nat.add_le_add (Nat.add_le_add h0 h1) (Nat.add_le_add h2 h3)) (Nat.add_le_add (Nat.add_le_add h4 h5) (Nat.add_le_add h6 h7)))).trans ?_
  ac_rfl
