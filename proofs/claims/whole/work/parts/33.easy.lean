/-! ===== at, line, age ===== -/
theorem RSc.np6 {h : Hp} {w g s t np nc nl tk : Nat} (H : RSc h w g s t np nc nl tk) : np ≤ 6 ∧ nc ≤ 2 ∧ nl ≤ 100 ∧ tk ≤ 1000 := H.1
theorem clampc {k : Nat} (h : k < 2 ^ 31) : (nI k).toNatClampNeg = k := nI_clamp h
theorem ok_at (i what : Int32) : Ok1 (f_x_at i what) (f_m_at i what) := by
  rintro h ⟨w, g, np, nc, nl, tk, no, -, -, ⟨⟨⟨n1, n2, n3, n4⟩, ⟨e1, e2, e3, e4⟩, hp, hk, hc, hl, -⟩, ⟨m1, m2, m3, m4⟩, -⟩, -⟩
  have P := isPerson_cases (h := h) n1 e1 m1 i
  have C := isCarrier_cases (h := h) n2 e2 m2 i
  unfold f_x_at f_m_at f_x_at_j_8
  by_cases w0 : what = 0
  · subst w0
    rcases P with ⟨a, b⟩ | ⟨k, kn, rfl, a, b⟩
    · rw [a, b]
      exact ⟨-1, by simp, by simp⟩
    · obtain ⟨c, -, q1, q2⟩ := hp k kn
      rw [a, b, xin_nI (n := 6) (by omega) (by decide), xin_nI (n := 18) (by omega) (by decide), clampc (by omega)]
      refine ⟨nI c, ?_, ?_⟩
      · simp [xgd, q1]
      · simp at q2; simp [xgd, q2]
  · by_cases w1 : what = 1
    · subst w1
      rcases C with ⟨a, b⟩ | ⟨k, kn, rfl, a, b⟩
      · rw [a, b]
        exact ⟨-1, by simp, by simp⟩
      · obtain ⟨c, -, q1, q2⟩ := hc k kn
        rw [a, b, xin_nI (n := 2) (by omega) (by decide), xin_nI (n := 6) (by omega) (by decide), clampc (by omega)]
        refine ⟨nI c, ?_, ?_⟩
        · simp [xgd, q1]
        · simp at q2; simp [xgd, q2]
    · by_cases w2 : what = 2
      · subst w2
        rcases P with ⟨a, b⟩ | ⟨k, kn, rfl, a, b⟩
        · rw [a, b]
          exact ⟨-1, by simp, by simp⟩
        · obtain ⟨c, -, q1, q2⟩ := hk k kn
          rw [a, b, xin_nI (n := 6) (by omega) (by decide), xin_nI (n := 18) (by omega) (by decide), clampc (by omega)]
          refine ⟨nI c, ?_, ?_⟩
          · simp [xgd, q1]
          · simp at q2; simp [xgd, q2]
      · by_cases w3 : what = 3
        · subst w3
          rcases C with ⟨a, b⟩ | ⟨k, kn, rfl, a, b⟩
          · rw [a, b]
            exact ⟨-1, by simp, by simp⟩
          · obtain ⟨c, -, q1, q2⟩ := hl k kn
            rw [a, b, xin_nI (n := 2) (by omega) (by decide), xin_nI (n := 6) (by omega) (by decide), clampc (by omega)]
            refine ⟨nI c, ?_, ?_⟩
            · simp [xgd, q1]
            · simp at q2; simp [xgd, q2]
        · exact ⟨-1, by simp [w0, w1, w2, w3], by simp [w0, w1, w2, w3]⟩
theorem mul5 {a b : Nat} : (5 : Int32) * nI a + nI b = nI (5 * a + b) := by
  rw [nI_lit 5, pk_mul, nI_add]
theorem mul64 {a b : Nat} : (64 : Int32) * nI a + nI b = nI (64 * a + b) := by
  rw [nI_lit 64, pk_mul, nI_add]
theorem ok_line (i what : Int32) : Ok1 (f_x_line i what) (f_m_line i what) := by
  rintro h ⟨w, g, np, nc, nl, tk, no, -, -, ⟨⟨⟨n1, n2, n3, n4⟩, ⟨e1, e2, e3, e4⟩, -, -, -, -, -, hln, -⟩, ⟨m1, m2, m3, m4⟩, -⟩, -⟩
  unfold f_x_line f_m_line
  rw [e3, m3]
  rcases ix_x (n := nl) (by omega) i with ⟨a, b⟩ | ⟨k, hk, rfl⟩
  · refine ⟨-1, ?_, ?_⟩
    · rcases a with a | a
      · rw [if_pos a]
      · by_cases d : i < 0
        · rw [if_pos d]
        · rw [if_neg d, if_pos a]
    · rw [in_ix (by omega) i b, if_pos rfl]
  · rw [if_neg (nI_pos (by omega)), if_neg (nI_ge hk (by omega)), in_ix1 (by omega) hk, if_neg one_ne]
    rcases ix_x (n := 5) (by decide) what with ⟨a, b⟩ | ⟨j, hj, rfl⟩
    · refine ⟨-1, ?_, ?_⟩
      · rcases a with a | a
        · rw [if_pos a]
        · have a : (5 : Int32) ≤ what := a
          by_cases d : what < 0
          · rw [if_pos d]
          · rw [if_neg d, if_neg (by rw [ltI]; rw [leI] at a; omega)]
      · rw [in_lit0 (by rw [tI 0, tI 4]; omega), if_pos rfl]
    · rw [if_neg (nI_pos (by omega)), if_pos (by rw [ltI, tI 5, nI_toInt (by omega)]; omega), in_lit1 (by rw [tI 0, tI 4, nI_toInt (by omega)]; omega), if_neg one_ne, mul5, xin_nI (n := 500) (by omega) (by decide), xin_nI (n := 1500) (by omega) (by decide), clampc (by omega)]
      have := hln (5 * k + j) (by omega)
      refine ⟨h.1 48 (5 * k + j), ?_, ?_⟩
      · simp at this; simp [xgd, this]
      · simp [xgd]
theorem saw_eq (s t : Int32) : (if s = (-1 : Int32) then (-9 : Int32) else t - s) = if s + 1 = 0 then (-9 : Int32) else t + 1 - (s + 1) := by
  have h1 : s + 1 = 0 ↔ s = -1 := by
    constructor
    · intro e
      have : s = s + 1 - 1 := by rw [Int32.add_sub_cancel]
      rw [this, e]; decide
    · intro e; subst e; decide
  have h2 : t + 1 - (s + 1) = t - s := by
    rw [Int32.add_comm s 1, ← Int32.sub_sub, Int32.add_sub_cancel]
  rw [h2]
  by_cases h : s = -1
  · rw [if_pos h, if_pos (h1.mpr h)]
  · rw [if_neg h, if_neg (fun q => h (h1.mp q))]
theorem ok_age (i c : Int32) : Ok1 (f_x_age i c) (f_m_age i c) := by
  rintro h ⟨w, g, np, nc, nl, tk, no, -, H, ⟨⟨⟨n1, n2, n3, n4⟩, ⟨e1, e2, e3, e4⟩, -, -, -, -, hsaw, -, -⟩, ⟨m1, m2, m3, m4⟩, -⟩, -⟩
  unfold f_x_age f_m_age
  rcases isCarrier_cases (h := h) n2 e2 m2 i with ⟨a, b⟩ | ⟨k, kn, rfl, a, b⟩
  · rw [a, b]; exact ⟨-1, by simp, by simp⟩
  · rw [a, b, if_neg one_ne, if_neg one_ne]
    rcases isCell_cases H c with ⟨a, b⟩ | ⟨q, hq, rfl, a, b⟩
    · rw [a, b]; exact ⟨-1, by simp, by simp⟩
    · have hq64 := hq.1
      rw [a, b, if_neg one_ne, if_neg one_ne, mul64, xin_nI (n := 128) (by omega) (by decide), xin_nI (n := 384) (by omega) (by decide), clampc (by omega), e4, m4]
      have hs := hsaw k kn q hq64
      simp only [Nat.mul_zero, Nat.zero_add] at hs
      refine ⟨_, rfl, ?_⟩
      rw [saw_eq, ← hs]
      simp only [Bool.and_true, xgd_true]
      split <;> rfl
/-! ===== where, trace, clear ===== -/
theorem ok_where {h : Hp} (H : RelB h) : f_x_where h = f_m_where h := by
  obtain ⟨w, g, np, nc, nl, tk, no, -, -, -, -, -, -, H, -⟩ := H
  exact H.1
theorem ok_trace {h : Hp} (H : RelB h) : f_x_trace h = f_m_trace h := by
  obtain ⟨w, g, np, nc, nl, tk, no, -, -, -, -, -, -, -, H, -⟩ := H
  exact H
theorem ok_clear {h : Hp} (H : RelB h) : (f_x_clear h).1 = (f_m_clear (f_x_clear h).2).1 ∧ RelB (f_m_clear (f_x_clear h).2).2 ∧ PK h (f_m_clear (f_x_clear h).2).2 := by
  obtain ⟨w, g, np, nc, nl, tk, no, ⟨n, hn, e1, e2, -⟩, H1, H2, H3, H4, H5, H6, H7, H8⟩ := H
  refine ⟨?_, ⟨w, g, np, nc, nl, tk, no, ⟨0, by omega, rfl, rfl, fun i hi => absurd hi (by omega)⟩, H1.of rfl rfl rfl rfl rfl rfl rfl rfl rfl rfl rfl rfl, H2.of rfl rfl rfl rfl rfl rfl rfl rfl rfl rfl rfl rfl rfl rfl rfl rfl rfl rfl, H3.of rfl rfl rfl rfl rfl rfl rfl rfl rfl rfl rfl rfl rfl rfl rfl rfl rfl rfl, H4.of rfl rfl rfl rfl rfl rfl rfl rfl rfl rfl rfl rfl rfl rfl rfl rfl rfl rfl, H5.of rfl rfl rfl rfl rfl rfl rfl rfl rfl, H6.of rfl rfl rfl, H7, H8⟩, Or.inr ⟨rfl, rfl, rfl, rfl, rfl, fun _ _ => rfl, rfl, rfl, rfl, rfl⟩⟩
  show h.1 0 1 = h.1 39 2
  rw [e1, e2]
