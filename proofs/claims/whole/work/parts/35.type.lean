/-! ===== type ===== -/
def bt (x : Int32) (i : Nat) : Bool := x.toBitVec.getLsbD i
theorem b_ext {x y : Int32} (h : ∀ i, i < 32 → bt x i = bt y i) : x = y := Int32.toBitVec_inj.mp (BitVec.eq_of_getLsbD_eq (fun i hi => h i hi))
theorem b_or (x y : Int32) (i : Nat) : bt (x ||| y) i = (bt x i || bt y i) := by unfold bt; rw [Int32.toBitVec_or, BitVec.getLsbD_or]
theorem b_and (x y : Int32) (i : Nat) : bt (x &&& y) i = (bt x i && bt y i) := by unfold bt; rw [Int32.toBitVec_and, BitVec.getLsbD_and]
theorem b_xor (x y : Int32) (i : Nat) : bt (x ^^^ y) i = (bt x i ^^ bt y i) := by unfold bt; rw [Int32.toBitVec_xor, BitVec.getLsbD_xor]
theorem b_big {x : Int32} {i : Nat} (h : 32 ≤ i) : bt x i = false := BitVec.getLsbD_of_ge _ _ h
theorem b_255 (i : Nat) : bt 255 i = decide (i < 8) := by
  rcases Nat.lt_or_ge i 32 with h | h
  · exact (by decide +kernel : ∀ i, i < 32 → bt 255 i = decide (i < 8)) i h
  · rw [b_big h, decide_eq_false (by omega)]
theorem bq_255 (i : Nat) : bq 255 i = decide (i < 8) := by
  rcases Nat.lt_or_ge i 64 with h | h
  · exact (by decide +kernel : ∀ i, i < 64 → bq 255 i = decide (i < 8)) i h
  · rw [bq_big h, decide_eq_false (by omega)]
theorem bt_l2i (x : Int64) {i : Nat} (hi : i < 32) : bt x.toInt32 i = bq x i := by
  unfold bt bq
  rw [Int64.toBitVec_toInt32, BitVec.getLsbD_signExtend]
  simp [hi, show i < 64 by omega]
theorem byte_xm {v : Int64} {j : Nat} (hj : j < 8) : ((jushrL v (nI (8 * j))).toInt32 &&& 255) = ((jshrL v (nI (8 * j))) &&& 255).toInt32 := by
  apply b_ext
  intro i hi
  rw [b_and, b_255, bt_l2i _ hi, bt_l2i _ hi, bq_and, bq_255, bq_ushr (by omega), bq_sshr (by omega) _ (by omega)]
  by_cases h : i < 8
  · simp [h, show 8 * j + i < 64 by omega]
  · simp [h]
theorem and255 (x : Int32) : ∃ b, b < 256 ∧ x &&& 255 = nI b := by
  refine ⟨x.toBitVec.toNat % 256, Nat.mod_lt _ (by decide), ?_⟩
  apply Int32.toBitVec_inj.mp
  apply BitVec.eq_of_toNat_eq
  rw [Int32.toBitVec_and, BitVec.toNat_and]
  have e1 : (255 : Int32).toBitVec.toNat = 2 ^ 8 - 1 := by decide
  rw [e1, Nat.and_two_pow_sub_one_eq_mod]
  show _ = (BitVec.ofNat 32 _).toNat
  rw [BitVec.toNat_ofNat, Nat.mod_eq_of_lt (Nat.lt_of_lt_of_le (Nat.mod_lt _ (by decide)) (by decide))]
theorem nar_byte (x : Int32) : vp_nar .byte (ji2b x) = x.toInt8.toInt32 := by
  rw [vp_nar_byte]; unfold ji2b
  apply Int32.toInt_inj.mp
  simp
theorem mul8 {j : Nat} : (8 : Int32) * nI j = nI (8 * j) := by rw [nI_lit 8, pk_mul]
/-- the byte that comes, as both keep it -/
theorem byte_both (v : Int64) {j : Nat} (hj : j < 8) : ∃ b, b < 256 ∧ ((jushrL v ((8 : Int32) * nI j)).toInt32 &&& 255) = nI b ∧ vp_nar .byte (ji2b ((jshrL v ((8 : Int32) * nI j)) &&& 255).toInt32) = sb b := by
  rw [mul8]
  obtain ⟨b, h1, h2⟩ := and255 (jushrL v (nI (8 * j))).toInt32
  refine ⟨b, h1, h2, ?_⟩
  rw [nar_byte, ← byte_xm hj, h2]; rfl
noncomputable def bvOf (v : Int64) (j : Nat) : Nat := if h : j < 8 then Classical.choose (byte_both v h) else 0
theorem bvOf_ok (v : Int64) {j : Nat} (hj : j < 8) : bvOf v j < 256 ∧ ((jushrL v ((8 : Int32) * nI j)).toInt32 &&& 255) = nI (bvOf v j) ∧ vp_nar .byte (ji2b ((jshrL v ((8 : Int32) * nI j)) &&& 255).toInt32) = sb (bvOf v j) := by
  unfold bvOf; rw [dif_pos hj]; exact Classical.choose_spec (byte_both v hj)
theorem addm1 (x : Int32) : x + (-1 : Int32) = x - 1 := (Int32.sub_eq_add_neg x 1).symm
theorem type_x (v : Int64) (k : Int32 → Hp → Option (Int32 × Hp)) : ∀ (r n fuel : Nat) (h : Hp), r ≤ 8 → r < fuel → n + r ≤ 80 → h.1 0 1 = nI n → ∃ z h1, f_x_type_L_4 v k fuel (nI r - 1) h = k z h1 ∧ h1.2 = h.2 ∧ h1.1 0 1 = nI (n + r) ∧ (∀ a b, a ≠ 1 → ¬ (a = 0 ∧ b = 1) → h1.1 a b = h.1 a b) ∧ (∀ i, i < n → h1.1 1 i = h.1 1 i) ∧ ∀ j, j < r → h1.1 1 (n + j) = nI (bvOf v (r - 1 - j)) := by
  intro r
  induction r with
  | zero =>
    intro n fuel h _ hf _ e
    obtain ⟨f, rfl⟩ : ∃ f, fuel = f + 1 := ⟨fuel - 1, by omega⟩
    refine ⟨nI 0 - 1, h, ?_, rfl, by simpa using e, fun _ _ _ _ => rfl, fun _ _ => rfl, fun j hj => absurd hj (by omega)⟩
    rw [f_x_type_L_4, if_pos (by decide)]
  | succ r ih =>
    intro n fuel h hr hf hn e
    obtain ⟨f, rfl⟩ : ∃ f, fuel = f + 1 := ⟨fuel - 1, by omega⟩
    obtain ⟨b1, b2, -⟩ := bvOf_ok v (j := r) (by omega)
    rw [f_x_type_L_4, nI_pred, if_neg (nI_pos (by omega)), e, xin_nI (n := 80) (by omega) (by decide), clampc (by omega), b2, nI_1]
    obtain ⟨z, h1, q1, q2, q3, q4, q5, q6⟩ := ih (n + 1) f (xI (xI h 1 n (nI (bvOf v r))) 0 1 (nI (n + 1))) (by omega) (by omega) (by omega) rfl
    refine ⟨z, h1, ?_, q2, by rw [q3]; congr 1; omega, fun a b ha hb => ?_, fun i hi => ?_, fun j hj => ?_⟩
    · rw [← q1, addm1]; simp only [Bool.and_true, xgd_true]
    · rw [q4 a b ha hb]; simp [xI_1, ha, hb]
    · rw [q5 i (by omega)]; simp [xI_1, show ¬ i = n by omega]
    · by_cases hj0 : j = 0
      · subst hj0
        rw [Nat.add_zero, q5 n (by omega)]
        simp [xI_1]
      · have := q6 (j - 1) (by omega)
        rw [show n + 1 + (j - 1) = n + j by omega, show r - 1 - (j - 1) = r + 1 - 1 - j by omega] at this
        exact this
theorem type_m (v : Int64) (k : Int32 → Hp → Option (Int32 × Hp)) : ∀ (r n fuel : Nat) (h : Hp), r ≤ 8 → r < fuel → n + r ≤ 80 → h.1 39 2 = nI n → ∃ z h1, f_m_type_L_3 v k fuel (nI r - 1) h = k z h1 ∧ h1.2 = h.2 ∧ h1.1 39 2 = nI (n + r) ∧ (∀ a b, a ≠ 40 → ¬ (a = 39 ∧ b = 2) → h1.1 a b = h.1 a b) ∧ (∀ i, i < n → h1.1 40 i = h.1 40 i) ∧ ∀ j, j < r → h1.1 40 (n + j) = sb (bvOf v (r - 1 - j)) := by
  intro r
  induction r with
  | zero =>
    intro n fuel h _ hf _ e
    obtain ⟨f, rfl⟩ : ∃ f, fuel = f + 1 := ⟨fuel - 1, by omega⟩
    refine ⟨nI 0 - 1, h, ?_, rfl, by simpa using e, fun _ _ _ _ => rfl, fun _ _ => rfl, fun j hj => absurd hj (by omega)⟩
    rw [f_m_type_L_3, if_pos (by decide)]
  | succ r ih =>
    intro n fuel h hr hf hn e
    obtain ⟨f, rfl⟩ : ∃ f, fuel = f + 1 := ⟨fuel - 1, by omega⟩
    obtain ⟨b1, -, b2⟩ := bvOf_ok v (j := r) (by omega)
    rw [f_m_type_L_3, nI_pred, if_neg (nI_pos (by omega)), e, xin_nI (n := 80) (by omega) (by decide), clampc (by omega), b2, nI_1]
    obtain ⟨z, h1, q1, q2, q3, q4, q5, q6⟩ := ih (n + 1) f (xI (xI h 40 n (sb (bvOf v r))) 39 2 (nI (n + 1))) (by omega) (by omega) (by omega) rfl
    refine ⟨z, h1, ?_, q2, by rw [q3]; congr 1; omega, fun a b ha hb => ?_, fun i hi => ?_, fun j hj => ?_⟩
    · rw [← q1, addm1]; simp only [Bool.and_true, xgd_true]
    · rw [q4 a b ha hb]; simp [xI_1, ha, hb]
    · rw [q5 i (by omega)]; simp [xI_1, show ¬ i = n by omega]
    · by_cases hj0 : j = 0
      · subst hj0
        rw [Nat.add_zero, q5 n (by omega)]
        simp [xI_1]
      · have := q6 (j - 1) (by omega)
        rw [show n + 1 + (j - 1) = n + j by omega, show r - 1 - (j - 1) = r + 1 - 1 - j by omega] at this
        exact this
theorem ok_type (v : Int64) (n : Int32) : Ok2 (f_x_type v n) (f_m_type v n) := by
  rintro h ⟨w, g, np, nc, nl, tk, no, H0, H1, H2, H3, H4, H5, H6, H7, H8⟩
  have Hrel : RelB h := ⟨w, g, np, nc, nl, tk, no, H0, H1, H2, H3, H4, H5, H6, H7, H8⟩
  obtain ⟨t, t80, e1, e2, ht⟩ := id H0
  unfold f_x_type f_m_type
  by_cases hin : 1 ≤ n.toInt ∧ n.toInt ≤ 8
  · obtain ⟨r, hr, rfl⟩ := i_nat (x := n) (n := 9) (by omega) (by omega) (by decide)
    rw [nI_toInt (by omega)] at hin
    rw [if_neg (by rw [ltI, tI 1, nI_toInt (by omega)]; omega), if_pos (by rw [leI, tI 8, nI_toInt (by omega)]; omega), e1, nI_add]
    have hfm : f_m_in (nI r) 1 8 = 1 := in_lit1 (by rw [tI 1, tI 8, nI_toInt (by omega)]; omega)
    by_cases hf : t + r ≤ 80
    · rw [if_pos (by rw [leI, tI 80, nI_toInt (by omega)]; omega)]
      obtain ⟨z, h1, q1, q2, q3, q4, q5, q6⟩ := type_x v (fun _ h => some (h.1 0 1, h)) r t 1000 h (by omega) (by omega) hf e1
      have m2 : h1.1 39 2 = nI t := by rw [q4 39 2 (by decide) (by omega)]; exact e2
      obtain ⟨z2, h2, p1, p2, p3, p4, p5, p6⟩ := type_m v (fun _ h => some (h.1 39 2, h)) r t 1000 h1 (by omega) (by omega) hf m2
      have ag : ∀ a b, a ≠ 1 → a ≠ 40 → ¬ (a = 0 ∧ b = 1) → ¬ (a = 39 ∧ b = 2) → h2.1 a b = h.1 a b := fun a b c1 c2 c3 c4 => by rw [p4 a b c2 c4, q4 a b c1 c3]
      have agf : ∀ a, a ≠ 1 → a ≠ 40 → a ≠ 0 → a ≠ 39 → h2.1 a = h.1 a := fun a c1 c2 c3 c4 => funext fun b => ag a b c1 c2 (by omega) (by omega)
      have ag2 : h2.2 = h.2 := p2.trans q2
      refine ⟨nI (t + r), h1, h2, by rw [q1, q3], ?_, ⟨w, g, np, nc, nl, tk, no, ⟨t + r, hf, ?_, ?_, fun i hi => ?_⟩, H1.of (ag _ _ (by decide) (by decide) (by decide) (by decide)) (ag _ _ (by decide) (by decide) (by decide) (by decide)) (by rw [ag2]) (by rw [ag2]) (by rw [ag2]) (agf _ (by decide) (by decide) (by decide) (by decide)) (agf _ (by decide) (by decide) (by decide) (by decide)) (ag _ _ (by decide) (by decide) (by decide) (by decide)) (ag _ _ (by decide) (by decide) (by decide) (by decide)) (agf _ (by decide) (by decide) (by decide) (by decide)) (agf _ (by decide) (by decide) (by decide) (by decide)) (by rw [ag2]), ?_, ?_, ?_, ?_, H6.of (by rw [ag2]) (by rw [ag2]) (by rw [ag2]), ?_, ?_⟩, ?_⟩
      · rw [hfm, if_neg one_ne, m2, nI_add, if_pos (by rw [leI, tI 80, nI_toInt (by omega)]; omega), p1, p3]
      · rw [p4 0 1 (by decide) (by decide)]; exact q3
      · exact p3
      · by_cases hi2 : i < t
        · obtain ⟨b, c1, c2, c3⟩ := ht i hi2
          exact ⟨b, c1, by rw [p4 1 i (by decide) (by omega), q5 i hi2]; exact c2, by rw [p5 i hi2, q4 40 i (by decide) (by omega)]; exact c3⟩
        · have d1 := q6 (i - t) (by omega)
          have d2 := p6 (i - t) (by omega)
          rw [show t + (i - t) = i by omega] at d1 d2
          exact ⟨_, (bvOf_ok v (j := r - 1 - (i - t)) (by omega)).1, by rw [p4 1 i (by decide) (by omega)]; exact d1, d2⟩
      · refine H2.of ?_ ?_ ?_ ?_ ?_ ?_ ?_ ?_ ?_ ?_ ?_ ?_ ?_ ?_ ?_ ?_ ?_ (by rw [ag2]) <;> first | exact agf _ (by decide) (by decide) (by decide) (by decide) | exact ag _ _ (by decide) (by decide) (by decide) (by decide)
      · refine H3.of ?_ ?_ ?_ ?_ ?_ ?_ ?_ ?_ ?_ ?_ ?_ ?_ ?_ ?_ ?_ ?_ ?_ ?_ <;> exact agf _ (by decide) (by decide) (by decide) (by decide)
      · refine H4.of ?_ ?_ ?_ ?_ ?_ ?_ ?_ ?_ ?_ ?_ ?_ ?_ ?_ ?_ ?_ ?_ ?_ ?_ <;> exact agf _ (by decide) (by decide) (by decide) (by decide)
      · refine H5.of ?_ ?_ ?_ ?_ ?_ ?_ ?_ ?_ (by rw [ag2]) <;> first | exact agf _ (by decide) (by decide) (by decide) (by decide) | exact ag _ _ (by decide) (by decide) (by decide) (by decide)
      · show h2.2 0 9 = h2.2 39 0
        rw [ag2]; exact H7
      · rw [ag 30 10 (by decide) (by decide) (by decide) (by decide)]; exact H8
      · exact Or.inr ⟨agf _ (by decide) (by decide) (by decide) (by decide), agf _ (by decide) (by decide) (by decide) (by decide), by rw [ag2], ag _ _ (by decide) (by decide) (by decide) (by decide), ag _ _ (by decide) (by decide) (by decide) (by decide), fun i _ => ag _ _ (by decide) (by decide) (by omega) (by omega), ag _ _ (by decide) (by decide) (by decide) (by decide), agf _ (by decide) (by decide) (by decide) (by decide), agf _ (by decide) (by decide) (by decide) (by decide), agf _ (by decide) (by decide) (by decide) (by decide)⟩
    · refine ⟨-3, h, h, by rw [if_neg (by rw [leI, tI 80, nI_toInt (by omega)]; omega)], ?_, Hrel, PK.rf h⟩
      rw [hfm, if_neg one_ne, e2, nI_add, if_neg (by rw [leI, tI 80, nI_toInt (by omega)]; omega)]
  · refine ⟨-1, h, h, ?_, by rw [in_lit0 (by rw [tI 1, tI 8]; omega), if_pos rfl], Hrel, PK.rf h⟩
    by_cases h1 : n < 1
    · rw [if_pos h1]
    · rw [if_neg h1, if_neg (by rw [leI, tI 8]; rw [ltI, tI 1] at h1; omega)]
