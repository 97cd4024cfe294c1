/-! ===== the pure claim ===== -/
theorem xs_in {j d L : Nat} (h : j + d < L) (hL : L ≤ 2048) : xin (nI j + nI d) L = true := by
  rw [nI_add]; exact xin_nI h (by omega)
set_option maxRecDepth 100000 in
set_option maxHeartbeats 4000000 in
theorem law_step (xs : Nat → Int32) (L : Nat) (hL : L ≤ 2048) (k : Int32 → Hp → Option (Int32 × Hp)) (n j : Nat) (hj : j + 4 ≤ L) (h : Hp) (HR : RelB h) (HP : PlanOk h) : ∃ h', RelB h' ∧ PlanOk h' ∧ f_law_L_1 xs L k (n + 1) (nI j) h = f_law_L_1 xs L k n (nI (j + 4)) h' := by
  have e4 : nI j + (4 : Int32) = nI (j + 4) := by rw [nI_lit 4, nI_add]
  have g0 : xin (nI j) L = true := xin_nI (by omega) (by omega)
  have g1 : xin (nI j + (1 : Int32)) L = true := xs_in (d := 1) (by omega) hL
  have g2 : xin (nI j + (2 : Int32)) L = true := xs_in (d := 2) (by omega) hL
  have g3 : xin (nI j + (3 : Int32)) L = true := xs_in (d := 3) (by omega) hL
  have hlt : ¬ Int32.ofNat L - (4 : Int32) < nI j := by
    have e : (Int32.ofNat L - (4 : Int32)).toInt = (L : Int) - 4 := subT (a := L) (b := 4) (by omega) (by omega)
    rw [ltI, e, nI_toInt (by omega)]; omega
  rw [f_law_L_1, if_neg hlt, g0, g1, g2, g3, e4]
  simp only [xgd_true]
  generalize f_law_L_1 xs L k n = F
  generalize xs (nI j + (1 : Int32)).toNatClampNeg = A1
  generalize xs (nI j + (2 : Int32)).toNatClampNeg = A2
  generalize xs (nI j + (3 : Int32)).toNatClampNeg = A3
  generalize xs (nI j).toNatClampNeg &&& (31 : Int32) = x
  by_cases c0 : x = (0 : Int32)
  · rw [if_pos c0]
    obtain ⟨r, h1, h2, a, b, R, P⟩ := ok_type (jshlL A1.toInt64 (32 : Int32) ||| (A2.toInt64 &&& (4294967295 : Int64))) A3 h HR
    rw [a, xbd2_some, b, xbd2_some, if_pos rfl]
    exact ⟨h2, R, P.plan HP, rfl⟩
  rw [if_neg c0]
  by_cases c1 : x = (1 : Int32)
  · rw [if_pos c1]
    obtain ⟨a, R, P⟩ := ok_clear HR
    rw [if_pos a]
    exact ⟨_, R, P.plan HP, rfl⟩
  rw [if_neg c1]
  by_cases c2 : x = (2 : Int32)
  · rw [if_pos c2]
    obtain ⟨r, h1, h2, a, b, R, P⟩ := ok_hall HR HP
    rw [a, xbd2_some, b, xbd2_some, if_pos rfl]
    exact ⟨h2, R, P, rfl⟩
  rw [if_neg c2]
  by_cases c3 : x = (3 : Int32)
  · rw [if_pos c3]
    obtain ⟨r, a, b⟩ := ok_sign A1 h HR
    rw [a, xbd1_some, b, xbd1_some, if_pos rfl]
    exact ⟨h, HR, HP, rfl⟩
  rw [if_neg c3]
  by_cases c4 : x = (4 : Int32)
  · rw [if_pos c4]
    obtain ⟨r, h1, h2, a, b, R, P⟩ := ok_door A1 A2 h HR
    rw [a, xbd2_some, b, xbd2_some, if_pos rfl]
    exact ⟨h2, R, P.plan HP, rfl⟩
  rw [if_neg c4]
  by_cases c5 : x = (5 : Int32)
  · rw [if_pos c5]
    obtain ⟨r, a, b⟩ := ok_sees A1 h HR
    rw [a, xbd1_some, b, xbd1_some, if_pos (lg_eq.mpr rfl)]
    exact ⟨h, HR, HP, rfl⟩
  rw [if_neg c5]
  by_cases c6 : x = (6 : Int32)
  · rw [if_pos c6]
    obtain ⟨r, h1, h2, a, b, R, P⟩ := ok_person A1 A2 h HR
    rw [a, xbd2_some, b, xbd2_some, if_pos rfl]
    exact ⟨h2, R, P.plan HP, rfl⟩
  rw [if_neg c6]
  by_cases c7 : x = (7 : Int32)
  · rw [if_pos c7]
    obtain ⟨r, h1, h2, a, b, R, P⟩ := ok_carrier A1 A2 h HR
    rw [a, xbd2_some, b, xbd2_some, if_pos rfl]
    exact ⟨h2, R, P.plan HP, rfl⟩
  rw [if_neg c7]
  by_cases c8 : x = (8 : Int32)
  · rw [if_pos c8]
    obtain ⟨r, a, b⟩ := ok_at A1 A2 h HR
    rw [a, xbd1_some, b, xbd1_some, if_pos rfl]
    exact ⟨h, HR, HP, rfl⟩
  rw [if_neg c8]
  by_cases c9 : x = (9 : Int32)
  · rw [if_pos c9]
    obtain ⟨r, h1, a, b, R, P⟩ := ok_could A1 A2 h HR
    rw [a, xbd2_some, b, xbd1_some, if_pos (lg_eq.mpr rfl)]
    exact ⟨h1, R, P.plan HP, rfl⟩
  rw [if_neg c9]
  by_cases c10 : x = (10 : Int32)
  · rw [if_pos c10]
    obtain ⟨r, h1, a, b, R, P⟩ := ok_anybody A1 A2 h HR
    rw [a, xbd2_some, b, xbd1_some, if_pos (lg_eq.mpr rfl)]
    exact ⟨h1, R, P.plan HP, rfl⟩
  rw [if_neg c10]
  by_cases c11 : x = (11 : Int32)
  · rw [if_pos c11]
    obtain ⟨r, h1, a, b, R, P⟩ := ok_let A1 h HR
    rw [a, xbd2_some, b, xbd1_some, if_pos rfl]
    exact ⟨h1, R, P.plan HP, rfl⟩
  rw [if_neg c11]
  by_cases c12 : x = (12 : Int32)
  · rw [if_pos c12]
    obtain ⟨r, h1, h2, a, b, R, P⟩ := ok_soonest A1 A2 A3 h HR
    rw [a, xbd2_some, b, xbd2_some, if_pos rfl]
    exact ⟨h2, R, P.plan HP, rfl⟩
  rw [if_neg c12]
  by_cases c13 : x = (13 : Int32)
  · rw [if_pos c13]
    obtain ⟨r, h1, h2, a, b, R, P⟩ := ok_act A1 A2 h HR
    rw [a, xbd2_some, b, xbd2_some, if_pos rfl]
    exact ⟨h2, R, P.plan HP, rfl⟩
  rw [if_neg c13]
  by_cases c14 : x = (14 : Int32)
  · rw [if_pos c14]
    obtain ⟨r, h1, h2, a, b, R, P⟩ := ok_walk A1 A2 h HR
    rw [a, xbd2_some, b, xbd2_some, if_pos rfl]
    exact ⟨h2, R, P.plan HP, rfl⟩
  rw [if_neg c14]
  by_cases c15 : x = (15 : Int32)
  · rw [if_pos c15]
    obtain ⟨r, h1, h2, a, b, R, P⟩ := ok_tick A1 h HR
    rw [a, xbd2_some, b, xbd2_some, if_pos rfl]
    exact ⟨h2, R, P.plan HP, rfl⟩
  rw [if_neg c15]
  by_cases c16 : x = (16 : Int32)
  · rw [if_pos c16]
    obtain ⟨r, a, b⟩ := ok_line A1 A2 h HR
    rw [a, xbd1_some, b, xbd1_some, if_pos rfl]
    exact ⟨h, HR, HP, rfl⟩
  rw [if_neg c16]
  by_cases c17 : x = (17 : Int32)
  · rw [if_pos c17]
    obtain ⟨r, a, b⟩ := ok_age A1 A2 h HR
    rw [a, xbd1_some, b, xbd1_some, if_pos rfl]
    exact ⟨h, HR, HP, rfl⟩
  rw [if_neg c17]
  by_cases c18 : x = (18 : Int32)
  · rw [if_pos c18]
    obtain ⟨r, h1, h2, a, b, R, P⟩ := ok_charge A1 A2 h HR
    rw [a, xbd2_some, b, xbd2_some, if_pos rfl]
    exact ⟨h2, R, P.plan HP, rfl⟩
  rw [if_neg c18]
  by_cases c19 : x = (19 : Int32)
  · rw [if_pos c19]
    obtain ⟨r, h2, a, b, R, P⟩ := ok_lost HR
    rw [a]
    simp only
    rw [b, xbd2_some, if_pos rfl]
    exact ⟨h2, R, P.plan HP, rfl⟩
  rw [if_neg c19]
  by_cases c20 : x = (20 : Int32)
  · rw [if_pos c20]
    obtain ⟨r, h1, h2, a, b, R, P⟩ := ok_look A1 A2 h HR
    rw [a, xbd2_some, b, xbd2_some, if_pos rfl]
    exact ⟨h2, R, P.plan HP, rfl⟩
  rw [if_neg c20]
  by_cases c21 : x = (21 : Int32)
  · rw [if_pos c21]
    obtain ⟨r, h1, h2, a, b, R, P⟩ := ok_step A1 HR
    rw [a]
    simp only
    rw [b, xbd2_some, if_pos rfl]
    exact ⟨h2, R, P.plan HP, rfl⟩
  rw [if_neg c21]
  by_cases c22 : x = (22 : Int32)
  · rw [if_pos c22]
    rw [if_pos (lg_eq.mpr (ok_where HR))]
    exact ⟨h, HR, HP, rfl⟩
  rw [if_neg c22]
  by_cases c23 : x = (23 : Int32)
  · rw [if_pos c23]
    obtain ⟨r, h2, a, b, R, P⟩ := ok_tells A1 HR
    rw [a, xbd1_some, b, xbd2_some, if_pos rfl]
    exact ⟨h2, R, P.plan HP, rfl⟩
  rw [if_neg c23]
  by_cases c24 : x = (24 : Int32)
  · rw [if_pos c24]
    obtain ⟨r, h1, h2, a, b, R, P⟩ := ok_order A1 A2 A3 h HR
    rw [a, xbd2_some, b, xbd2_some, if_pos rfl]
    exact ⟨h2, R, P.plan HP, rfl⟩
  rw [if_neg c24]
  by_cases c25 : x = (25 : Int32)
  · rw [if_pos c25]
    obtain ⟨r, h1, h2, a, b, R, P⟩ := ok_late HR HP
    rw [a, xbd2_some, b, xbd2_some, if_pos rfl]
    exact ⟨h2, R, P, rfl⟩
  rw [if_neg c25]
  by_cases c26 : x = (26 : Int32)
  · rw [if_pos c26]
    obtain ⟨r, h1, h2, a, b, R, P⟩ := ok_served A1 A2 HR HP
    rw [a, xbd2_some, b, xbd2_some, if_pos rfl]
    exact ⟨h2, R, P, rfl⟩
  rw [if_neg c26]
  by_cases c27 : x = (27 : Int32)
  · rw [if_pos c27]
    obtain ⟨r, h1, h2, a, b, R, P⟩ := ok_keep A1 h HR
    rw [a, xbd2_some, b, xbd2_some, if_pos rfl]
    exact ⟨h2, R, P.plan HP, rfl⟩
  rw [if_neg c27]
  by_cases c28 : x = (28 : Int32)
  · rw [if_pos c28]
    obtain ⟨r, h1, h2, a, b, R, P⟩ := ok_back A1 h HR
    rw [a, xbd2_some, b, xbd2_some, if_pos rfl]
    exact ⟨h2, R, P.plan HP, rfl⟩
  rw [if_neg c28]
  by_cases c29 : x = (29 : Int32)
  · rw [if_pos c29]
    rw [ok_count HR A1, xbd1_some, if_pos rfl]
    exact ⟨h, HR, HP, rfl⟩
  rw [if_neg c29]
  by_cases c30 : x = (30 : Int32)
  · rw [if_pos c30]
    rw [if_pos (lg_eq.mpr (ok_trace HR))]
    exact ⟨h, HR, HP, rfl⟩
  rw [if_neg c30]
  exact ⟨h, HR, HP, rfl⟩
theorem law_run (xs : Nat → Int32) (L : Nat) (hL : L ≤ 2048) : ∀ n j h, L < j + 4 * n → j < 2 ^ 29 → RelB h → PlanOk h → ∃ h', f_law_L_1 xs L (fun _ h => some ((1 : Int32), h)) (n + 1) (nI j) h = some ((1 : Int32), h') := by
  have stop : ∀ n j h, L < j + 4 → j < 2 ^ 29 → ∃ h', f_law_L_1 xs L (fun _ h => some ((1 : Int32), h)) (n + 1) (nI j) h = some ((1 : Int32), h') := by
    intro n j h hj hb
    refine ⟨h, ?_⟩
    have e : (Int32.ofNat L - (4 : Int32)).toInt = (L : Int) - 4 := subT (a := L) (b := 4) (by omega) (by omega)
    rw [f_law_L_1, if_pos (by rw [ltI, e, nI_toInt (by omega)]; omega)]
  intro n
  induction n with
  | zero => intro j h hj hb _ _; exact stop 0 j h (by omega) hb
  | succ n ih =>
    intro j h hj hb HR HP
    by_cases q : L < j + 4
    · exact stop _ j h q hb
    · obtain ⟨h', R, P, E⟩ := law_step xs L hL (fun _ h => some ((1 : Int32), h)) (n + 1) j (by omega) h HR HP
      rw [E]
      exact ih (j + 4) h' (by omega) (by omega) R P
theorem law_pure : LawPure := by
  intro hh L xs hL
  obtain ⟨hx, hm, e1, e2, R, P⟩ := init_ok hh
  obtain ⟨h', E⟩ := law_run xs L hL 999 0 hm (by omega) (by omega) R P
  exact ⟨hx, hm, h', e1, e2, E⟩
