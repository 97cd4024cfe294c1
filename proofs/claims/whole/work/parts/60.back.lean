/-! ===== back ===== -/
theorem bk2z {h : Hp} {i : Nat} (hi : i < 2) (k : Int32 → Int32 → Option (Int32 × Hp)) (f : Nat) (p : Int32) : f_m_back_L_2 (nI i) h k (f + 1) 0 p = k 0 p := by
  rw [f_m_back_L_2, xin_nI (n := 2) (by omega) (by decide), Bool.and_true, xgd_true, if_pos rfl]
  split <;> rfl
theorem bk2 {h : Hp} {i n : Nat} (hi : i < 2) (hn : n ≤ 6) (e : h.1 62 i = nI n) (cf : Nat → Nat) (hc : ∀ q, q < n → cf q < 64 ∧ h.1 43 (6 * (1 + i) + q) = nI (cf q)) (k : Int32 → Int32 → Option (Int32 × Hp)) : ∀ m p fuel, p + m = n → m < fuel → ∃ b z, f_m_back_L_2 (nI i) h k fuel 1 (nI p) = k (bI b) z ∧ (b = true ↔ ∀ q, p ≤ q → q < n → bq (h.2 39 8) (cf q) = true) := by
  intro m
  induction m with
  | zero =>
    intro p fuel hp hf
    obtain ⟨f, rfl⟩ : ∃ f, fuel = f + 1 := ⟨fuel - 1, by omega⟩
    refine ⟨true, nI p, ?_, ⟨fun _ q h1 h2 => absurd h2 (by omega), fun _ => rfl⟩⟩
    rw [f_m_back_L_2, xin_nI (n := 2) (by omega) (by decide), Bool.and_true, xgd_true, clampc (by omega), e, if_pos ((leN (by omega) (by omega)).mpr (by omega))]
    rfl
  | succ m ih =>
    intro p fuel hp hf
    obtain ⟨f, rfl⟩ : ∃ f, fuel = f + 1 := ⟨fuel - 1, by omega⟩
    obtain ⟨c1, c2⟩ := hc p (by omega)
    have en : (6 : Int32) * ((1 : Int32) + nI i) + nI p = nI (6 * (1 + i) + p) := by rw [nI_lit 6, nI_lit 1, nI_add, pk_mul, nI_add]
    rw [f_m_back_L_2, xin_nI (n := 2) (by omega) (by decide), Bool.and_true, xgd_true, clampc (k := i) (by omega), e, if_neg (fun q => absurd ((leN (by omega) (by omega)).mp q) (by omega)), if_neg one_ne, en, xin_nI (n := 18) (by omega) (by decide), Bool.and_true, xgd_true, clampc (by omega), c2, isFree_m c1, nI_1]
    cases hb : bq (h.2 39 8) (cf p) with
    | false =>
      obtain ⟨f', rfl⟩ : ∃ f', f = f' + 1 := ⟨f - 1, by omega⟩
      refine ⟨false, _, bk2z hi k f' _, ⟨fun z => Bool.noConfusion z, fun z => ?_⟩⟩
      rw [z p (by omega) (by omega)] at hb; cases hb
    | true =>
      obtain ⟨b, z, e1, e2⟩ := ih (p + 1) f (by omega) (by omega)
      refine ⟨b, z, e1, e2.trans ⟨fun H q h1 h2 => ?_, fun H q h1 h2 => H q (by omega) h2⟩⟩
      by_cases w : q = p
      · subst w; exact hb
      · exact H q (by omega) h2
theorem bk8z {h : Hp} {i : Nat} (hi : i < 2) (k : Int32 → Int32 → Option (Int32 × Hp)) (f : Nat) (p : Int32) : f_m_back_L_8 (nI i) h k (f + 1) 0 p = k 0 p := by
  rw [f_m_back_L_8, xin_nI (n := 2) (by omega) (by decide), Bool.and_true, xgd_true, if_pos rfl]
  split <;> rfl
theorem bk8 {h : Hp} {i n : Nat} (hi : i < 2) (hn : n ≤ 2) (e : h.1 63 i = nI n) (cf : Nat → Nat) (hc : ∀ q, q < n → cf q < 64 ∧ h.1 45 (2 * (1 + i) + q) = nI (cf q)) (k : Int32 → Int32 → Option (Int32 × Hp)) : ∀ m p fuel, p + m = n → m < fuel → ∃ b z, f_m_back_L_8 (nI i) h k fuel 1 (nI p) = k (bI b) z ∧ (b = true ↔ ∀ q, p ≤ q → q < n → bq (h.2 39 8) (cf q) = true) := by
  intro m
  induction m with
  | zero =>
    intro p fuel hp hf
    obtain ⟨f, rfl⟩ : ∃ f, fuel = f + 1 := ⟨fuel - 1, by omega⟩
    refine ⟨true, nI p, ?_, ⟨fun _ q h1 h2 => absurd h2 (by omega), fun _ => rfl⟩⟩
    rw [f_m_back_L_8, xin_nI (n := 2) (by omega) (by decide), Bool.and_true, xgd_true, clampc (by omega), e, if_pos ((leN (by omega) (by omega)).mpr (by omega))]
    rfl
  | succ m ih =>
    intro p fuel hp hf
    obtain ⟨f, rfl⟩ : ∃ f, fuel = f + 1 := ⟨fuel - 1, by omega⟩
    obtain ⟨c1, c2⟩ := hc p (by omega)
    have en : (2 : Int32) * ((1 : Int32) + nI i) + nI p = nI (2 * (1 + i) + p) := by rw [nI_lit 2, nI_lit 1, nI_add, pk_mul, nI_add]
    rw [f_m_back_L_8, xin_nI (n := 2) (by omega) (by decide), Bool.and_true, xgd_true, clampc (k := i) (by omega), e, if_neg (fun q => absurd ((leN (by omega) (by omega)).mp q) (by omega)), if_neg one_ne, en, xin_nI (n := 6) (by omega) (by decide), Bool.and_true, xgd_true, clampc (by omega), c2, isFree_m c1, nI_1]
    cases hb : bq (h.2 39 8) (cf p) with
    | false =>
      obtain ⟨f', rfl⟩ : ∃ f', f = f' + 1 := ⟨f - 1, by omega⟩
      refine ⟨false, _, bk8z hi k f' _, ⟨fun z => Bool.noConfusion z, fun z => ?_⟩⟩
      rw [z p (by omega) (by omega)] at hb; cases hb
    | true =>
      obtain ⟨b, z, e1, e2⟩ := ih (p + 1) f (by omega) (by omega)
      refine ⟨b, z, e1, e2.trans ⟨fun H q h1 h2 => ?_, fun H q h1 h2 => H q (by omega) h2⟩⟩
      by_cases w : q = p
      · subst w; exact hb
      · exact H q (by omega) h2
/-- none stands on what isn't free -/
theorem none_off {h : Hp} {s np nc : Nat} (fp fc : Nat → Nat) (h1 : ∀ q, q < np → fp q < 64 ∧ h.1 (s + 1) q = nI (fp q)) (h2 : ∀ q, q < nc → fc q < 64 ∧ h.1 (s + 3) q = nI (fc q)) (fr : Int64) : lg_cmp ((rowSet h (s + 3) 0 nc ||| rowSet h (s + 1) 0 np) &&& (fr ^^^ -1)) 0 = 0 ↔ (∀ q, q < np → bq fr (fp q) = true) ∧ (∀ q, q < nc → bq fr (fc q) = true) := by
  have v1 : ∀ i, i < np → ∃ c, c < 64 ∧ h.1 (s + 1) (0 + i) = nI c := fun i hi => ⟨_, (h1 i hi).1, by rw [Nat.zero_add]; exact (h1 i hi).2⟩
  have v2 : ∀ i, i < nc → ∃ c, c < 64 ∧ h.1 (s + 3) (0 + i) = nI c := fun i hi => ⟨_, (h2 i hi).1, by rw [Nat.zero_add]; exact (h2 i hi).2⟩
  rw [lg_eq]
  constructor
  · intro e
    have key : ∀ c, c < 64 → bq (rowSet h (s + 3) 0 nc ||| rowSet h (s + 1) 0 np) c = true → bq fr c = true := by
      intro c hc hb
      have := congrArg (fun v => bq v c) e
      simp only [bq_and, bq_0, bq_not fr hc, hb, Bool.true_and] at this
      cases hf : bq fr c with
      | true => rfl
      | false => rw [hf] at this; cases this
    refine ⟨fun q hq => key _ (h1 q hq).1 ?_, fun q hq => key _ (h2 q hq).1 ?_⟩
    · rw [bq_or, (bq_row v1 (h1 q hq).1).mpr ⟨q, hq, by rw [Nat.zero_add]; exact (h1 q hq).2⟩, Bool.or_true]
    · rw [bq_or, (bq_row v2 (h2 q hq).1).mpr ⟨q, hq, by rw [Nat.zero_add]; exact (h2 q hq).2⟩, Bool.true_or]
  · rintro ⟨a, b⟩
    apply bq_ext
    intro c hc
    rw [bq_and, bq_not fr hc, bq_0, bq_or]
    cases x1 : bq (rowSet h (s + 3) 0 nc) c with
    | true =>
      obtain ⟨q, hq, e⟩ := (bq_row v2 hc).mp x1
      rw [Nat.zero_add, (h2 q hq).2] at e
      have := (nI_eq (by have := (h2 q hq).1; omega) (by omega)).mp e
      rw [← this, b q hq]; rfl
    | false =>
      cases x2 : bq (rowSet h (s + 1) 0 np) c with
      | false => rfl
      | true =>
        obtain ⟨q, hq, e⟩ := (bq_row v1 hc).mp x2
        rw [Nat.zero_add, (h1 q hq).2] at e
        have := (nI_eq (by have := (h1 q hq).1; omega) (by omega)).mp e
        rw [← this, a q hq]; rfl
theorem back_rel {h h1 h3 : Hp} {w g np nc nl tk no i s np' nc' nl' tk' : Nat} (H : RB h w g np nc nl tk no) (hi : i < 2) (hs : s = 14 + 7 * i) (HI : RSc h w g s (1 + i) np' nc' nl' tk') (hI : h.1 62 i = nI np' ∧ h.1 63 i = nI nc' ∧ h.1 64 i = nI tk' ∧ h.1 65 i = nI nl') (C : CpOk h h1 s 6) (M : MvOk (xI h1 30 10 0) h3 (1 + i) 0)
    (fp : ∀ j, j < np' → ∀ c, c < 64 → h.1 43 (6 * (1 + i) + j) = nI c → bq (h.2 39 8) c = true) (fc : ∀ j, j < nc' → ∀ c, c < 64 → h.1 45 (2 * (1 + i) + j) = nI c → bq (h.2 39 8) c = true) : h3.1 64 i = nI tk' ∧ h1.1 6 9 = nI tk' ∧ RB (xI (xI (xI (xI h3 39 12 (h3.1 62 i)) 39 15 (h3.1 63 i)) 39 19 (h3.1 64 i)) 39 20 (h3.1 65 i)) w g np' nc' nl' tk' no ∧ PK h (xI (xI (xI (xI h3 39 12 (h3.1 62 i)) 39 15 (h3.1 63 i)) 39 19 (h3.1 64 i)) 39 20 (h3.1 65 i)) := by
  obtain ⟨H0, H1, H2, H3, H4, H5, H6, H7, H8⟩ := H
  obtain ⟨c2, cA, c3, c4, c5, c6, c7, c8, ⟨d6, d7, d8, d9⟩, c10⟩ := C
  obtain ⟨m2, mA, q1, q2, q3, q4, q5, q6, qo⟩ := M
  obtain ⟨i1, i2, i3, i4⟩ := hI
  have xs : ∀ a, a ≠ 30 → (xI h1 30 10 0).1 a = h1.1 a := fun a ha => by
    funext b; rw [xI_1, if_neg (fun z => ha z.1)]
  generalize hh : xI (xI (xI (xI h3 39 12 (h3.1 62 i)) 39 15 (h3.1 63 i)) 39 19 (h3.1 64 i)) 39 20 (h3.1 65 i) = h5
  have e2 : h5.2 = h.2 := by subst hh; exact m2.trans c2
  have r5 : ∀ a, a ≠ 39 → h5.1 a = h3.1 a := fun a ha => by
    subst hh
    funext b
    simp only [xI_1]
    rw [if_neg (by omega), if_neg (by omega), if_neg (by omega), if_neg (by omega)]
  have rA : ∀ a, (a < 43 ∨ 48 < a) → a ≠ 39 → a ≠ 30 → (a < 6 ∨ 12 < a) → h5.1 a = h.1 a := fun a ha hb hc hd => by
    rw [r5 a hb, mA a (by omega), xs a hc, cA a (by omega)]
  have row : ∀ a, 43 ≤ a → a ≤ 48 → (xI h1 30 10 0).1 a = h.1 a := fun a ha hb => by rw [xs a (by omega), cA a (by omega)]
  have sc : ∀ a, 6 ≤ a → a ≤ 12 → h5.1 a = h1.1 a := fun a ha hb => by rw [r5 a (by omega), mA a (by omega), xs a (by omega)]
  have r30 : ∀ b, b ≠ 10 → h5.1 30 b = h.1 30 b := fun b hb => by
    rw [r5 30 (by omega), mA 30 (by omega), xI_1, if_neg (fun z => hb z.2), cA 30 (by omega)]
  have r3010 : h5.1 30 10 = 0 := by rw [r5 30 (by omega), mA 30 (by omega), xI_1, if_pos ⟨rfl, rfl⟩]
  have r3 : ∀ a, 61 ≤ a → h3.1 a = h.1 a := fun a ha => by rw [mA a (by omega), xs a (by omega), cA a (by omega)]
  rw [r3 62 (by omega), r3 63 (by omega), r3 64 (by omega), r3 65 (by omega), i1, i2, i3, i4] at hh
  have r39 : ∀ b, b ≠ 12 → b ≠ 15 → b ≠ 19 → b ≠ 20 → h5.1 39 b = h.1 39 b := fun b h1 h2 h4 h5 => by
    subst hh
    simp only [xI_1]
    rw [if_neg (by omega), if_neg (by omega), if_neg (by omega), if_neg (by omega), mA 39 (by omega), xs 39 (by omega), cA 39 (by omega)]
  have r4 : h5.1 39 12 = nI np' ∧ h5.1 39 15 = nI nc' ∧ h5.1 39 20 = nI nl' ∧ h5.1 39 19 = nI tk' := by
    subst hh
    simp [xI_1]
  have nw : RSc h5 w g 6 0 np' nc' nl' tk' := by
    refine HI.of3 ?_ ?_ ?_ ?_ ?_ ?_ ?_ ?_ ?_ ?_ ?_ ?_ ?_ ?_ ?_ ?_
    · rw [sc 6 (by omega) (by omega), d6]
    · rw [sc 6 (by omega) (by omega), d7]
    · rw [sc 6 (by omega) (by omega), d8]
    · rw [sc 6 (by omega) (by omega), d9]
    · intro j hj; rw [sc (6 + 1) (by omega) (by omega), c3 j hj]
    · intro j hj; rw [sc (6 + 2) (by omega) (by omega), c4 j hj]
    · intro j hj; rw [sc (6 + 3) (by omega) (by omega), c5 j hj]
    · intro j hj; rw [sc (6 + 4) (by omega) (by omega), c6 j hj]
    · intro j hj; rw [sc (6 + 5) (by omega) (by omega), c7 j hj]
    · intro j hj; rw [sc (6 + 6) (by omega) (by omega), c8 j hj]
    · intro j hj; rw [r5 43 (by omega), q1 j hj, row 43 (by omega) (by omega)]
    · intro j hj; rw [r5 44 (by omega), q2 j hj, row 44 (by omega) (by omega)]
    · intro j hj; rw [r5 45 (by omega), q3 j hj, row 45 (by omega) (by omega)]
    · intro j hj; rw [r5 46 (by omega), q4 j hj, row 46 (by omega) (by omega)]
    · intro j hj; rw [r5 47 (by omega), q5 j hj, row 47 (by omega) (by omega)]
    · intro j hj; rw [r5 48 (by omega), q6 j hj, row 48 (by omega) (by omega)]
  have imx : ∀ s' j, j < 2 → s' = 14 + 7 * j → RIm h w g s' j → RIm h5 w g s' j := by
    intro s' j hj hs' HI
    obtain ⟨p1, p2, p3, p4, p5, p6⟩ := qo (1 + j) (by omega)
    refine HI.of2 (rA s' (by omega) (by omega) (by omega) (by omega)) ?_ ?_ ?_ ?_ ?_ ?_ ?_ ?_ ?_ ?_ ?_ ?_ ?_ ?_ ?_ ?_ ?_
    · intro k _; rw [rA (s' + 1) (by omega) (by omega) (by omega) (by omega)]
    · intro k _; rw [rA (s' + 2) (by omega) (by omega) (by omega) (by omega)]
    · intro k _; rw [rA (s' + 3) (by omega) (by omega) (by omega) (by omega)]
    · intro k _; rw [rA (s' + 4) (by omega) (by omega) (by omega) (by omega)]
    · intro k _; rw [rA (s' + 5) (by omega) (by omega) (by omega) (by omega)]
    · intro k _; rw [rA (s' + 6) (by omega) (by omega) (by omega) (by omega)]
    · intro k hk; rw [r5 43 (by omega), p1 k hk, row 43 (by omega) (by omega)]
    · intro k hk; rw [r5 44 (by omega), p2 k hk, row 44 (by omega) (by omega)]
    · intro k hk; rw [r5 45 (by omega), p3 k hk, row 45 (by omega) (by omega)]
    · intro k hk; rw [r5 46 (by omega), p4 k hk, row 46 (by omega) (by omega)]
    · intro k hk; rw [r5 47 (by omega), p5 k hk, row 47 (by omega) (by omega)]
    · intro k hk; rw [r5 48 (by omega), p6 k hk, row 48 (by omega) (by omega)]
    · rw [rA 61 (by omega) (by omega) (by omega) (by omega)]
    · rw [rA 62 (by omega) (by omega) (by omega) (by omega)]
    · rw [rA 63 (by omega) (by omega) (by omega) (by omega)]
    · rw [rA 64 (by omega) (by omega) (by omega) (by omega)]
    · rw [rA 65 (by omega) (by omega) (by omega) (by omega)]
  have k : ∀ a, (a < 6 ∨ (27 < a ∧ a < 43 ∧ a ≠ 39 ∧ a ≠ 30) ∨ (48 < a ∧ a < 61)) → h5.1 a = h.1 a := fun a ha => rA a (by omega) (by omega) (by omega) (by omega)
  have n62 := HI.1
  refine ⟨by rw [r3 64 (by omega)]; exact i3, by rw [d9]; exact HI.2.1.2.2.2, ⟨H0.of ?_ ?_ ?_ ?_, H1.of ?_ ?_ ?_ ?_ ?_ ?_ ?_ ?_ ?_ ?_ ?_ ?_, ⟨nw, r4, ?_, ?_⟩, imx 14 0 (by omega) (by omega) H3, imx 21 1 (by omega) (by omega) H4, H5.of (r30 7 (by decide)) (r39 25 (by decide) (by decide) (by decide) (by decide)) ?_ ?_ ?_ ?_ ?_ ?_ ?_, H6.of ?_ ?_ ?_, ?_, Or.inl r3010⟩, Or.inl r3010⟩
  all_goals first | (rw [e2]; done) | (rw [k _ (by omega)]; done) | (rw [r39 _ (by decide) (by decide) (by decide) (by decide)]; done) | skip
  · intro j hj c hc e
    have q := q1 j (by omega)
    simp only [Nat.mul_zero, Nat.zero_add] at q
    rw [r5 43 (by omega), q, row 43 (by omega) (by omega)] at e
    rw [e2]; exact fp j hj c hc e
  · intro j hj c hc e
    have q := q3 j (by omega)
    simp only [Nat.mul_zero, Nat.zero_add] at q
    rw [r5 45 (by omega), q, row 45 (by omega) (by omega)] at e
    rw [e2]; exact fc j hj c hc e
  · unfold RTr at H7 ⊢
    rw [e2]; exact H7
/-- the reference's back, from its tests -/
theorem back_m1 {h : Hp} {i : Nat} (hi : i < 2) {np nc : Nat} (n6 : np ≤ 6) (n2 : nc ≤ 2) (k1 : h.1 61 i = 1) (e62 : h.1 62 i = nI np) (e63 : h.1 63 i = nI nc) (cp cc : Nat → Nat) (hp : ∀ q, q < np → cp q < 64 ∧ h.1 43 (6 * (1 + i) + q) = nI (cp q)) (hc : ∀ q, q < nc → cc q < 64 ∧ h.1 45 (2 * (1 + i) + q) = nI (cc q)) : ∃ b, f_m_back (nI i) h = f_m_back_j_13 (nI i) (bI b) h ∧ (b = true ↔ (∀ q, q < np → bq (h.2 39 8) (cp q) = true) ∧ (∀ q, q < nc → bq (h.2 39 8) (cc q) = true)) := by
  unfold f_m_back
  rw [in_lit1 (by rw [tI 0, tI 1, nI_toInt (by omega)]; omega), if_neg one_ne, xin_nI (n := 2) (by omega) (by decide), Bool.and_true, xgd_true, clampc (by omega), k1]
  obtain ⟨b, z, e1, e2⟩ := bk2 hi n6 e62 cp hp (fun l2_5 l3_6 => f_m_back_j_7 (nI i) l2_5 h) np 0 1000 (by omega) (by omega)
  have e1 : f_m_back_L_2 (nI i) h (fun l2_5 l3_6 => f_m_back_j_7 (nI i) l2_5 h) 1000 1 0 = f_m_back_j_7 (nI i) (bI b) h := e1
  rw [e1]
  unfold f_m_back_j_7
  cases b with
  | false =>
    refine ⟨false, bk8z hi _ 999 _, ⟨fun z => Bool.noConfusion z, fun z => e2.mpr (fun q _ h2 => z.1 q h2)⟩⟩
  | true =>
    obtain ⟨b', z', f1, f2⟩ := bk8 hi n2 e63 cc hc (fun l2_11 l3_12 => f_m_back_j_13 (nI i) l2_11 h) nc 0 1000 (by omega) (by omega)
    refine ⟨b', f1, f2.trans ⟨fun z => ⟨fun q hq => e2.mp rfl q (by omega) hq, fun q hq => z q (by omega) hq⟩, fun z q _ hq => z.2 q hq⟩⟩
theorem back_m0 {h : Hp} {i : Nat} (hi : i < 2) (k0 : h.1 61 i = 0) : f_m_back (nI i) h = some (-2, h) := by
  unfold f_m_back
  rw [in_lit1 (by rw [tI 0, tI 1, nI_toInt (by omega)]; omega), if_neg one_ne, xin_nI (n := 2) (by omega) (by decide), Bool.and_true, xgd_true, clampc (by omega), k0]
  refine (bk2z hi _ 999 _).trans ?_
  unfold f_m_back_j_7
  refine (bk8z hi _ 999 _).trans ?_
  unfold f_m_back_j_13
  rw [if_pos rfl]
theorem back_14 {h : Hp} (HR : RelB h) : ∃ r h1 h2, f_x_back (nI 0) h = some (r, h1) ∧ f_m_back (nI 0) h1 = some (r, h2) ∧ RelB h2 ∧ PK h h2 := by
  obtain ⟨w, g, np, nc, nl, tk, no, H⟩ := id HR
  have HI : RIm h w g 14 0 := H.2.2.2.1
  have hf := H.2.1.2.2.2.1.1
  unfold f_x_back
  rw [if_neg (by decide), if_pos (by decide), if_pos (show nI 0 = (0 : Int32) from rfl)]
  obtain ⟨k1, k2 | ⟨k2, np', nc', nl', tk', I1, I2, I3, I4, I5⟩⟩ := HI
  · exact ⟨-2, h, h, by rw [k1, k2, if_pos rfl], back_m0 (i := 0) (by decide) k2, HR, PK.rf h⟩
  · rw [k1, k2, if_neg one_ne]
    obtain ⟨⟨n1, n2, n3, n4⟩, ⟨a1, a2, a3, a4⟩, P, -, Cc, -⟩ := id I1
    have cp : ∃ cp : Nat → Nat, ∀ q, q < np' → cp q < 64 ∧ h.1 (14 + 1) q = nI (cp q) ∧ h.1 43 (6 * (1 + 0) + q) = nI (cp q) := ⟨fun q => (h.1 (14 + 1) q).toNatClampNeg, fun q hq => by
      obtain ⟨c, hc, e1, e2⟩ := P q hq
      have := hc.1
      simp only [e1]
      rw [clampc (by omega)]
      exact ⟨this, rfl, e2⟩⟩
    have cc : ∃ cc : Nat → Nat, ∀ q, q < nc' → cc q < 64 ∧ h.1 (14 + 3) q = nI (cc q) ∧ h.1 45 (2 * (1 + 0) + q) = nI (cc q) := ⟨fun q => (h.1 (14 + 3) q).toNatClampNeg, fun q hq => by
      obtain ⟨c, hc, e1, e2⟩ := Cc q hq
      have := hc.1
      simp only [e1]
      rw [clampc (by omega)]
      exact ⟨this, rfl, e2⟩⟩
    obtain ⟨cp, hcp⟩ := cp
    obtain ⟨cc, hcc⟩ := cc
    rw [taken_14 n2 n1 a2 a1, xbd1_some]
    have X := none_off (h := h) (s := 14) cp cc (fun q hq => ⟨(hcp q hq).1, (hcp q hq).2.1⟩) (fun q hq => ⟨(hcc q hq).1, (hcc q hq).2.1⟩) (h.2 2 5)
    by_cases t : lg_cmp ((rowSet h (14 + 3) 0 nc' ||| rowSet h (14 + 1) 0 np') &&& (h.2 2 5 ^^^ -1)) 0 = 0
    · have T := X.mp t
      rw [if_pos t]
      obtain ⟨h3, e3, M⟩ := moveAll_m (xI (f_scene_copyFrom_6_14 h) 30 10 0) (fr := 1 + 0) (to := 0) (by decide) (by decide) (by decide)
      rw [hf] at T
      obtain ⟨t1, t2, R, P⟩ := back_rel (i := 0) (s := 14) H (by decide) rfl I1 ⟨I2, I3, I4, I5⟩ (cp_6_14 h) M (fun j hj c hc e => by
        have q := hcp j hj
        rw [q.2.2] at e
        have := (nI_eq (by have := q.1; omega) (by omega)).mp e
        rw [← this]; exact T.1 j hj) (fun j hj c hc e => by
        have q := hcc j hj
        rw [q.2.2] at e
        have := (nI_eq (by have := q.1; omega) (by omega)).mp e
        rw [← this]; exact T.2 j hj)
      refine ⟨nI tk', xI (f_scene_copyFrom_6_14 h) 30 10 0, _, ?_, ?_, ⟨w, g, np', nc', nl', tk', no, R⟩, P⟩
      · have : (f_orders_forgetPlan (f_scene_copyFrom_6_14 h)).1 6 9 = nI tk' := t2
        rw [this]; rfl
      · have cA := (cp_6_14 h).2.1
        have c2 := (cp_6_14 h).1
        have fx : ∀ a, 31 ≤ a → (xI (f_scene_copyFrom_6_14 h) 30 10 0).1 a = h.1 a := fun a ha => by
          funext b; rw [xI_1, if_neg (by omega), cA a (by omega)]
        have f2 : (xI (f_scene_copyFrom_6_14 h) 30 10 0).2 = h.2 := c2
        obtain ⟨b, e1, e2⟩ := back_m1 (h := xI (f_scene_copyFrom_6_14 h) 30 10 0) (i := 0) (by decide) n1 n2 (by rw [fx 61 (by decide)]; exact k2) (by rw [fx 62 (by decide)]; exact I2) (by rw [fx 63 (by decide)]; exact I3) cp cc (fun q hq => ⟨(hcp q hq).1, by rw [fx 43 (by decide)]; exact (hcp q hq).2.2⟩) (fun q hq => ⟨(hcc q hq).1, by rw [fx 45 (by decide)]; exact (hcc q hq).2.2⟩)
        rw [f2] at e2
        have hb := e2.mpr T
        subst hb
        rw [e1]
        unfold f_m_back_j_13
        have en : (1 : Int32) + nI 0 = nI (1 + 0) := by rw [nI_lit 1, nI_add]
        have e3 : f_m_moveAll (nI (1 + 0)) 0 (xI (f_scene_copyFrom_6_14 h) 30 10 0) = some h3 := e3
        rw [if_neg (show ¬ bI true = (0 : Int32) by decide), en, e3, xbd1_some, xin_nI (n := 2) (by decide) (by decide), clampc (k := 0) (by decide), t1]
        rfl
    · rw [if_neg t]
      refine ⟨-2, h, h, rfl, ?_, HR, PK.rf h⟩
      obtain ⟨b, e1, e2⟩ := back_m1 (h := h) (i := 0) (by decide) n1 n2 k2 I2 I3 cp cc (fun q hq => ⟨(hcp q hq).1, (hcp q hq).2.2⟩) (fun q hq => ⟨(hcc q hq).1, (hcc q hq).2.2⟩)
      rw [e1]
      cases b with
      | false => unfold f_m_back_j_13; rw [if_pos (show bI false = (0 : Int32) from rfl)]
      | true =>
        have := e2.mp rfl
        rw [← hf] at this
        exact absurd (X.mpr this) t
theorem back_21 {h : Hp} (HR : RelB h) : ∃ r h1 h2, f_x_back (nI 1) h = some (r, h1) ∧ f_m_back (nI 1) h1 = some (r, h2) ∧ RelB h2 ∧ PK h h2 := by
  obtain ⟨w, g, np, nc, nl, tk, no, H⟩ := id HR
  have HI : RIm h w g 21 1 := H.2.2.2.2.1
  have hf := H.2.1.2.2.2.1.1
  unfold f_x_back
  rw [if_neg (by decide), if_pos (by decide), if_neg (by decide), if_pos (show nI 1 = (1 : Int32) from rfl)]
  obtain ⟨k1, k2 | ⟨k2, np', nc', nl', tk', I1, I2, I3, I4, I5⟩⟩ := HI
  · exact ⟨-2, h, h, by rw [k1, k2, if_pos rfl], back_m0 (i := 1) (by decide) k2, HR, PK.rf h⟩
  · rw [k1, k2, if_neg one_ne]
    obtain ⟨⟨n1, n2, n3, n4⟩, ⟨a1, a2, a3, a4⟩, P, -, Cc, -⟩ := id I1
    have cp : ∃ cp : Nat → Nat, ∀ q, q < np' → cp q < 64 ∧ h.1 (21 + 1) q = nI (cp q) ∧ h.1 43 (6 * (1 + 1) + q) = nI (cp q) := ⟨fun q => (h.1 (21 + 1) q).toNatClampNeg, fun q hq => by
      obtain ⟨c, hc, e1, e2⟩ := P q hq
      have := hc.1
      simp only [e1]
      rw [clampc (by omega)]
      exact ⟨this, rfl, e2⟩⟩
    have cc : ∃ cc : Nat → Nat, ∀ q, q < nc' → cc q < 64 ∧ h.1 (21 + 3) q = nI (cc q) ∧ h.1 45 (2 * (1 + 1) + q) = nI (cc q) := ⟨fun q => (h.1 (21 + 3) q).toNatClampNeg, fun q hq => by
      obtain ⟨c, hc, e1, e2⟩ := Cc q hq
      have := hc.1
      simp only [e1]
      rw [clampc (by omega)]
      exact ⟨this, rfl, e2⟩⟩
    obtain ⟨cp, hcp⟩ := cp
    obtain ⟨cc, hcc⟩ := cc
    rw [taken_21 n2 n1 a2 a1, xbd1_some]
    have X := none_off (h := h) (s := 21) cp cc (fun q hq => ⟨(hcp q hq).1, (hcp q hq).2.1⟩) (fun q hq => ⟨(hcc q hq).1, (hcc q hq).2.1⟩) (h.2 2 5)
    by_cases t : lg_cmp ((rowSet h (21 + 3) 0 nc' ||| rowSet h (21 + 1) 0 np') &&& (h.2 2 5 ^^^ -1)) 0 = 0
    · have T := X.mp t
      rw [if_pos t]
      obtain ⟨h3, e3, M⟩ := moveAll_m (xI (f_scene_copyFrom_6_21 h) 30 10 0) (fr := 1 + 1) (to := 0) (by decide) (by decide) (by decide)
      rw [hf] at T
      obtain ⟨t1, t2, R, P⟩ := back_rel (i := 1) (s := 21) H (by decide) rfl I1 ⟨I2, I3, I4, I5⟩ (cp_6_21 h) M (fun j hj c hc e => by
        have q := hcp j hj
        rw [q.2.2] at e
        have := (nI_eq (by have := q.1; omega) (by omega)).mp e
        rw [← this]; exact T.1 j hj) (fun j hj c hc e => by
        have q := hcc j hj
        rw [q.2.2] at e
        have := (nI_eq (by have := q.1; omega) (by omega)).mp e
        rw [← this]; exact T.2 j hj)
      refine ⟨nI tk', xI (f_scene_copyFrom_6_21 h) 30 10 0, _, ?_, ?_, ⟨w, g, np', nc', nl', tk', no, R⟩, P⟩
      · have : (f_orders_forgetPlan (f_scene_copyFrom_6_21 h)).1 6 9 = nI tk' := t2
        rw [this]; rfl
      · have cA := (cp_6_21 h).2.1
        have c2 := (cp_6_21 h).1
        have fx : ∀ a, 31 ≤ a → (xI (f_scene_copyFrom_6_21 h) 30 10 0).1 a = h.1 a := fun a ha => by
          funext b; rw [xI_1, if_neg (by omega), cA a (by omega)]
        have f2 : (xI (f_scene_copyFrom_6_21 h) 30 10 0).2 = h.2 := c2
        obtain ⟨b, e1, e2⟩ := back_m1 (h := xI (f_scene_copyFrom_6_21 h) 30 10 0) (i := 1) (by decide) n1 n2 (by rw [fx 61 (by decide)]; exact k2) (by rw [fx 62 (by decide)]; exact I2) (by rw [fx 63 (by decide)]; exact I3) cp cc (fun q hq => ⟨(hcp q hq).1, by rw [fx 43 (by decide)]; exact (hcp q hq).2.2⟩) (fun q hq => ⟨(hcc q hq).1, by rw [fx 45 (by decide)]; exact (hcc q hq).2.2⟩)
        rw [f2] at e2
        have hb := e2.mpr T
        subst hb
        rw [e1]
        unfold f_m_back_j_13
        have en : (1 : Int32) + nI 1 = nI (1 + 1) := by rw [nI_lit 1, nI_add]
        have e3 : f_m_moveAll (nI (1 + 1)) 0 (xI (f_scene_copyFrom_6_21 h) 30 10 0) = some h3 := e3
        rw [if_neg (show ¬ bI true = (0 : Int32) by decide), en, e3, xbd1_some, xin_nI (n := 2) (by decide) (by decide), clampc (k := 1) (by decide), t1]
        rfl
    · rw [if_neg t]
      refine ⟨-2, h, h, rfl, ?_, HR, PK.rf h⟩
      obtain ⟨b, e1, e2⟩ := back_m1 (h := h) (i := 1) (by decide) n1 n2 k2 I2 I3 cp cc (fun q hq => ⟨(hcp q hq).1, (hcp q hq).2.2⟩) (fun q hq => ⟨(hcc q hq).1, (hcc q hq).2.2⟩)
      rw [e1]
      cases b with
      | false => unfold f_m_back_j_13; rw [if_pos (show bI false = (0 : Int32) from rfl)]
      | true =>
        have := e2.mp rfl
        rw [← hf] at this
        exact absurd (X.mpr this) t
theorem ok_back (i : Int32) : Ok2 (f_x_back i) (f_m_back i) := by
  intro h HR
  rcases rng 1 (by decide) i with ⟨x, y⟩ | ⟨k, hk, rfl, y⟩
  · refine ⟨-1, h, h, ?_, by unfold f_m_back; rw [y, if_pos rfl], HR, PK.rf h⟩
    unfold f_x_back
    rcases x with x | x
    · rw [if_pos x]
    · by_cases z : i < 0
      · rw [if_pos z]
      · have x : (2 : Int32) ≤ i := x
        rw [if_neg z, if_neg (by rw [ltI]; rw [leI] at x; omega)]
  · by_cases z : k = 0
    · subst z; exact back_14 HR
    · have z1 : k = 1 := by omega
      subst z1; exact back_21 HR
