/-! ===== tick ===== -/
def LX (SS : Nat → Int64) (h : Hp) (i : Nat) : Hp := (fun a b => if a = 11 ∧ b < 64 * i ∧ bq (SS (b / 64)) (b % 64) = true then h.1 6 9 else h.1 a b, h.2)
def LM (SS : Nat → Int64) (h : Hp) (i : Nat) : Hp := (fun a b => if a = 47 ∧ b < 64 * i ∧ bq (SS (b / 64)) (b % 64) = true then h.1 39 19 + 1 else h.1 a b, h.2)
theorem LX_0 (SS : Nat → Int64) (h : Hp) : LX SS h 0 = h := by
  refine hp_ext (fun a b => ?_) rfl
  simp only [LX]
  rw [if_neg (by omega)]
theorem LM_0 (SS : Nat → Int64) (h : Hp) : LM SS h 0 = h := by
  refine hp_ext (fun a b => ?_) rfl
  simp only [LM]
  rw [if_neg (by omega)]
theorem LX_s (SS : Nat → Int64) (h : Hp) (i : Nat) : lkx (LX SS h i) i (SS i) 64 = LX SS h (i + 1) := by
  refine hp_ext (fun a b => ?_) rfl
  simp only [lkx, LX]
  by_cases ha : a = 11
  · subst ha
    by_cases h1 : 64 * i ≤ b ∧ b < 64 * i + 64
    · have e1 : b / 64 = i := by omega
      have e2 : b % 64 = b - 64 * i := by omega
      have e3 : ¬ b < 64 * i := by omega
      have e4 : b < 64 * (i + 1) := by omega
      simp [e1, e2, e3, e4, h1.1, h1.2]
    · have h2 : ∀ X : Prop, ¬ (64 * i ≤ b ∧ b < 64 * i + 64 ∧ X) := fun X => by omega
      by_cases h3 : b < 64 * i
      · have e4 : b < 64 * (i + 1) := by omega
        simp [h2, h3, e4]
      · have e4 : ¬ b < 64 * (i + 1) := by omega
        simp [h2, h3, e4]
  · simp [ha]
theorem LM_s (SS : Nat → Int64) (h : Hp) (i : Nat) : lkm (LM SS h i) i (SS i) 64 = LM SS h (i + 1) := by
  refine hp_ext (fun a b => ?_) rfl
  simp only [lkm, LM]
  by_cases ha : a = 47
  · subst ha
    by_cases h1 : 64 * i ≤ b ∧ b < 64 * i + 64
    · have e1 : b / 64 = i := by omega
      have e2 : b % 64 = b - 64 * i := by omega
      have e3 : ¬ b < 64 * i := by omega
      have e4 : b < 64 * (i + 1) := by omega
      simp [e1, e2, e3, e4, h1.1, h1.2]
    · have h2 : ∀ X : Prop, ¬ (64 * i ≤ b ∧ b < 64 * i + 64 ∧ X) := fun X => by omega
      by_cases h3 : b < 64 * i
      · have e4 : b < 64 * (i + 1) := by omega
        simp [h2, h3, e4]
      · have e4 : ¬ b < 64 * (i + 1) := by omega
        simp [h2, h3, e4]
  · simp [ha]
theorem looks_x {h : Hp} {w g nc : Nat} (H : RHl h w g) (cs : Nat → Nat) (hn : nc ≤ 2) (e : h.1 6 7 = nI nc) (hc : ∀ i, i < nc → cellIn w g (cs i) ∧ h.1 9 i = nI (cs i)) (k : Int32 → Hp → Option (Int32 × Hp)) : f_x_tick_L_4 k 1000 0 h = k (nI nc) (LX (fun i => SEE w g (h.2 39 8) (cs i)) h nc) := by
  have := lp0 (fun f s => f_x_tick_L_4 k f s.1 s.2) nc (fun i => (nI i, LX (fun i => SEE w g (h.2 39 8) (cs i)) h i)) (k (nI nc) (LX (fun i => SEE w g (h.2 39 8) (cs i)) h nc)) (by omega) (fun f => ?_) (fun f i hi => ?_)
  · simp only [LX_0] at this
    exact this
  · show f_x_tick_L_4 k (f + 1) (nI nc) (LX (fun i => SEE w g (h.2 39 8) (cs i)) h nc) = _
    have e2 : (LX (fun i => SEE w g (h.2 39 8) (cs i)) h nc).1 6 7 = nI nc := e
    rw [f_x_tick_L_4, e2, if_pos ((leN (by omega) (by omega)).mpr (Nat.le_refl _))]
  · show f_x_tick_L_4 k (f + 1) (nI i) (LX (fun i => SEE w g (h.2 39 8) (cs i)) h i) = f_x_tick_L_4 k f (nI (i + 1)) (LX (fun i => SEE w g (h.2 39 8) (cs i)) h (i + 1))
    have e2 : (LX (fun i => SEE w g (h.2 39 8) (cs i)) h i).1 6 7 = nI nc := e
    have H' : RHl (LX (fun i => SEE w g (h.2 39 8) (cs i)) h i) w g := H.of rfl rfl rfl rfl rfl rfl rfl rfl rfl rfl rfl rfl
    rw [f_x_tick_L_4, e2, if_neg (fun q => absurd ((leN (by omega) (by omega)).mp q) (by omega)), lookAround_x H' (by omega) (hc i hi).1 (hc i hi).2, xbd1_some, nI_1, ← LX_s]
    rfl
theorem looks_m {h : Hp} {w g nc : Nat} (H : RHl h w g) (cs : Nat → Nat) (hn : nc ≤ 2) (e : h.1 39 15 = nI nc) (hc : ∀ i, i < nc → cellIn w g (cs i) ∧ h.1 45 i = nI (cs i)) (k : Int32 → Hp → Option (Int32 × Hp)) : f_m_tick_L_3 k 1000 0 h = k (nI nc) (LM (fun i => SEE w g (h.2 39 8) (cs i)) h nc) := by
  have := lp0 (fun f s => f_m_tick_L_3 k f s.1 s.2) nc (fun i => (nI i, LM (fun i => SEE w g (h.2 39 8) (cs i)) h i)) (k (nI nc) (LM (fun i => SEE w g (h.2 39 8) (cs i)) h nc)) (by omega) (fun f => ?_) (fun f i hi => ?_)
  · simp only [LM_0] at this
    exact this
  · show f_m_tick_L_3 k (f + 1) (nI nc) (LM (fun i => SEE w g (h.2 39 8) (cs i)) h nc) = _
    have e2 : (LM (fun i => SEE w g (h.2 39 8) (cs i)) h nc).1 39 15 = nI nc := e
    rw [f_m_tick_L_3, e2, if_pos ((leN (by omega) (by omega)).mpr (Nat.le_refl _))]
  · show f_m_tick_L_3 k (f + 1) (nI i) (LM (fun i => SEE w g (h.2 39 8) (cs i)) h i) = f_m_tick_L_3 k f (nI (i + 1)) (LM (fun i => SEE w g (h.2 39 8) (cs i)) h (i + 1))
    have e2 : (LM (fun i => SEE w g (h.2 39 8) (cs i)) h i).1 39 15 = nI nc := e
    have H' : RHl (LM (fun i => SEE w g (h.2 39 8) (cs i)) h i) w g := H.of rfl rfl rfl rfl rfl rfl rfl rfl rfl rfl rfl rfl
    rw [f_m_tick_L_3, e2, if_neg (fun q => absurd ((leN (by omega) (by omega)).mp q) (by omega)), lookAbout_m H' (by omega) (hc i hi).1 (hc i hi).2, xbd1_some, nI_1, ← LM_s]
    rfl
theorem range1 (i : Int32) : ((i < (1 : Int32) ∨ ¬ i ≤ (50 : Int32)) ∧ f_m_in i 1 50 = 0) ∨ ∃ k, (1 ≤ k ∧ k ≤ 50) ∧ i = nI k ∧ f_m_in (nI k) 1 50 = 1 ∧ ¬ nI k < (1 : Int32) ∧ nI k ≤ (50 : Int32) := by
  rcases ix_x (n := 51) (by omega) i with ⟨a, b⟩ | ⟨k, hk, rfl⟩
  · left
    refine ⟨?_, in_lit0 (by rw [tI 1, tI 50]; omega)⟩
    rcases a with a | a
    · left; rw [ltI, tI 1]; rw [lt0] at a; omega
    · right; rw [leI, tI 50]; rw [leI, nI_toInt (by omega)] at a; omega
  · by_cases k0 : k = 0
    · subst k0
      left
      exact ⟨Or.inl (by decide), by decide⟩
    · exact Or.inr ⟨k, ⟨by omega, by omega⟩, rfl, in_lit1 (by rw [tI 1, tI 50, nI_toInt (by omega)]; omega), by rw [ltI, tI 1, nI_toInt (by omega)]; omega, by rw [leI, tI 50, nI_toInt (by omega)]; omega⟩
theorem ok_tick (n : Int32) : Ok2 (f_x_tick n) (f_m_tick n) := by
  rintro h ⟨w, g, np, nc, nl, tk, no, H0, H1, H2, H3, H4, H5, H6, H7, H8⟩
  have Hrel : RelB h := ⟨w, g, np, nc, nl, tk, no, H0, H1, H2, H3, H4, H5, H6, H7, H8⟩
  obtain ⟨⟨⟨n1, n2, n3, n4⟩, ⟨e1, e2, e3, e4⟩, hp, hk, hc, hl, hsaw, hln, hdist⟩, ⟨m1, m2, m3, m4⟩, hpf, hcf⟩ := id H2
  unfold f_x_tick f_m_tick
  rcases range1 n with ⟨z, y⟩ | ⟨m, ⟨v1, v2⟩, rfl, y, z1, z2⟩
  · refine ⟨-1, h, h, ?_, by rw [y, if_pos rfl], Hrel, PK.rf h⟩
    rcases z with z | z
    · rw [if_pos z]
    · by_cases z2 : n < 1
      · rw [if_pos z2]
      · rw [if_neg z2, if_neg z]
  · rw [if_neg z1, if_pos z2, e4, nI_add]
    by_cases hle : tk + m ≤ 1000
    · have hx : nI (tk + m) ≤ (1000 : Int32) := by rw [leI, tI 1000, nI_toInt (by omega)]; omega
      rw [if_pos hx]
      have hcs : ∃ cs : Nat → Nat, ∀ i, i < nc → cellIn w g (cs i) ∧ h.1 9 i = nI (cs i) ∧ h.1 45 i = nI (cs i) := by
        refine ⟨fun i => (h.1 9 i).toNatClampNeg, fun i hi => ?_⟩
        obtain ⟨c, c1, c2, c3⟩ := hc i hi
        simp only [Nat.mul_zero, Nat.zero_add] at c3
        have c2 : h.1 9 i = nI c := c2
        simp only [c2, clampc (show c < 2 ^ 31 by have := c1.1; omega)]
        exact ⟨c1, trivial, c3⟩
      obtain ⟨cs, hcs⟩ := hcs
      rw [looks_x (h := xI h 6 9 (nI (tk + m))) (H1.of rfl rfl rfl rfl rfl rfl rfl rfl rfl rfl rfl rfl) cs n2 e2 (fun i hi => ⟨(hcs i hi).1, (hcs i hi).2.1⟩)]
      generalize hSS : (fun i => SEE w g ((xI h 6 9 (nI (tk + m))).2 39 8) (cs i)) = SS
      generalize hh2 : f_orders_forgetPlan (LX SS (xI h 6 9 (nI (tk + m))) nc) = h2
      have k1 : RHl (xI h2 39 19 (nI (tk + m))) w g := by subst hh2; exact H1.of rfl rfl rfl rfl rfl rfl rfl rfl rfl rfl rfl rfl
      have k2 : h2.1 39 19 = nI tk := by subst hh2; exact m4
      have k3 : h2.1 39 15 = nI nc := by subst hh2; exact m2
      have k4 : h2.1 6 9 = nI (tk + m) := by subst hh2; rfl
      have k5 := looks_m k1 cs n2 k3 (fun i hi => ⟨(hcs i hi).1, by
        have : (xI h2 39 19 (nI (tk + m))).1 45 i = h.1 45 i := by subst hh2; rfl
        rw [this]; exact (hcs i hi).2.2⟩)
      have k6 : (fun i => SEE w g ((xI h2 39 19 (nI (tk + m))).2 39 8) (cs i)) = SS := by rw [← hSS]; subst hh2; rfl
      rw [k6] at k5
      refine ⟨nI (tk + m), h2, LM SS (xI h2 39 19 (nI (tk + m))) nc, by rw [k4], ?_, ?_, Or.inl (by subst hh2; rfl)⟩
      · rw [y, if_neg one_ne, k2, nI_add, if_pos hx, k5]
        rfl
      · subst hh2
        refine ⟨w, g, np, nc, nl, tk + m, no, H0.of rfl rfl rfl rfl, H1.of rfl rfl rfl rfl rfl rfl rfl rfl rfl rfl rfl rfl, ?_, ?_, ?_, H5.of rfl rfl rfl rfl rfl rfl rfl rfl rfl, H6.of rfl rfl rfl, H7, Or.inl rfl⟩
        · refine ⟨⟨⟨n1, n2, n3, hle⟩, ⟨e1, e2, e3, rfl⟩, hp, hk, hc, hl, fun i hi c hcc => ?_, hln, hdist⟩, ⟨m1, m2, m3, rfl⟩, hpf, hcf⟩
          have := hsaw i hi c hcc
          simp only [Nat.mul_zero, Nat.zero_add] at this
          have q1 : (64 * i + c) / 64 = i := by omega
          have q2 : (64 * i + c) % 64 = c := by omega
          have q3 : 64 * i + c < 64 * nc := by omega
          cases hb : bq (SS i) c with
          | true => simp [LX, LM, f_orders_forgetPlan, xI_1, q1, q2, q3, hb]
          | false => simp [LX, LM, f_orders_forgetPlan, xI_1, q1, q2, q3, hb, this]
        · exact H3.of2 rfl (fun _ _ => rfl) (fun _ _ => rfl) (fun _ _ => rfl) (fun _ _ => rfl) (fun _ _ => rfl) (fun _ _ => rfl) (fun i hi => rfl) (fun i hi => rfl) (fun i hi => rfl) (fun i hi => rfl) (fun i hi => by
            have e : ¬ (128 + i < 64 * nc) := by omega
            simp [LX, LM, f_orders_forgetPlan, xI_1, e]) (fun _ _ => rfl) rfl rfl rfl rfl rfl
        · exact H4.of2 rfl (fun _ _ => rfl) (fun _ _ => rfl) (fun _ _ => rfl) (fun _ _ => rfl) (fun _ _ => rfl) (fun _ _ => rfl) (fun i hi => rfl) (fun i hi => rfl) (fun i hi => rfl) (fun i hi => rfl) (fun i hi => by
            have e : ¬ (256 + i < 64 * nc) := by omega
            simp [LX, LM, f_orders_forgetPlan, xI_1, e]) (fun _ _ => rfl) rfl rfl rfl rfl rfl
    · have hx : ¬ nI (tk + m) ≤ (1000 : Int32) := by rw [leI, tI 1000, nI_toInt (by omega)]; omega
      rw [if_neg hx]
      refine ⟨-2, h, h, rfl, ?_, Hrel, PK.rf h⟩
      rw [y, if_neg one_ne, m4, nI_add, if_neg hx]
