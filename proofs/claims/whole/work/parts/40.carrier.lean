/-! ===== carrier ===== -/
theorem neL (n : Nat) {i : Nat} (h : i ≠ n) (hi : i < 2 ^ 31) (hn : n < 2 ^ 31 := by decide) : ¬ nI i = (OfNat.ofNat n : Int32) := fun z => h ((nI_eq hi hn).mp z)
theorem ltL (n : Nat) {i : Nat} (h : i < n) (hn : n < 2 ^ 31 := by decide) : nI i < (OfNat.ofNat n : Int32) := by rw [ltI, tI n hn, nI_toInt (by omega)]; omega
theorem range0 (n : Nat) (hn : n < 2 ^ 29) (i : Int32) : ((i < 0 ∨ ¬ i ≤ (OfNat.ofNat n : Int32)) ∧ f_m_in i 0 (OfNat.ofNat n) = 0) ∨ ∃ k, k ≤ n ∧ i = nI k ∧ f_m_in (nI k) 0 (OfNat.ofNat n) = 1 ∧ ¬ nI k < 0 ∧ nI k ≤ (OfNat.ofNat n : Int32) := by
  rcases ix_x (n := n + 1) (by omega) i with ⟨a, b⟩ | ⟨k, hk, rfl⟩
  · left
    refine ⟨?_, in_lit0 (by rw [tI 0, tI n (by omega)]; omega)⟩
    rcases a with a | a
    · exact Or.inl a
    · right; rw [leI, tI n (by omega)]; rw [leI, nI_toInt (by omega)] at a; omega
  · exact Or.inr ⟨k, by omega, rfl, in_lit1 (by rw [tI 0, tI n (by omega), nI_toInt (by omega)]; omega), nI_pos (by omega), by rw [leI, tI n (by omega), nI_toInt (by omega)]; omega⟩
/-- where carriers stand now -/
theorem on_bit {h : Hp} {w g np nc nl tk : Nat} (H : RNow h w g np nc nl tk) {c : Nat} (hc : c < 64) : (∀ k, k < nc → h.1 45 k ≠ nI c) ↔ bq (rowSet h 9 0 nc) c = false := by
  obtain ⟨⟨⟨n1, n2, n3, n4⟩, ⟨e1, e2, e3, e4⟩, hp, hk, hcc, hl, hsaw, hln, hdist⟩, ⟨m1, m2, m3, m4⟩, hpf, hcf⟩ := id H
  rw [← Bool.not_eq_true, bq_row (fun i hi => by
    obtain ⟨c, c1, c2, c3⟩ := hcc i hi
    exact ⟨c, c1.1, by rw [Nat.zero_add]; exact c2⟩) hc]
  constructor
  · rintro q ⟨i, hi, e⟩
    obtain ⟨c2, c3, c4, c5⟩ := hcc i hi
    rw [Nat.zero_add, c4] at e
    rw [Nat.mul_zero, Nat.zero_add] at c5
    exact q i hi (by rw [c5, e])
  · intro q k hk e
    obtain ⟨c2, c3, c4, c5⟩ := hcc k hk
    rw [Nat.mul_zero, Nat.zero_add, e] at c5
    exact q ⟨k, hk, by rw [Nat.zero_add, c4, c5]⟩
theorem on_iff {h : Hp} {w g np nc nl tk : Nat} (H : RNow h w g np nc nl tk) {c : Nat} (hc : c < 64) : ∃ r, f_m_carrierOn (nI c) h = some r ∧ (r = -9 ↔ bq (rowSet h 9 0 nc) c = false) ∧ f_scene_carriersTaken_6 h = some (rowSet h 9 0 nc) := by
  obtain ⟨r, r1, r2⟩ := cOn_m H.1.1.2.1 H.2.1.2.1 (nI c)
  exact ⟨r, r1, by rw [r2, on_bit H hc], cTaken_x H.1.1.2.1 H.1.2.1.2.1⟩
theorem ok_carrier (c l : Int32) : Ok2 (f_x_carrier c l) (f_m_carrier c l) := by
  rintro h ⟨w, g, np, nc, nl, tk, no, H0, H1, H2, H3, H4, H5, H6, H7, H8⟩
  have Hrel : RelB h := ⟨w, g, np, nc, nl, tk, no, H0, H1, H2, H3, H4, H5, H6, H7, H8⟩
  obtain ⟨⟨⟨n1, n2, n3, n4⟩, ⟨e1, e2, e3, e4⟩, hp, hk, hc, hl, hsaw, hln, hdist⟩, ⟨m1, m2, m3, m4⟩, hpf, hcf⟩ := id H2
  have hfree := H1.2.2.2.1.1
  unfold f_x_carrier f_m_carrier
  rcases isCell_cases H1 c with ⟨a, b2⟩ | ⟨q, hq, rfl, a, b2⟩
  · rw [a, if_pos rfl]
    exact ⟨-1, h, h, rfl, by rw [b2, if_pos rfl], Hrel, PK.rf h⟩
  · rw [a, if_neg one_ne]
    rcases range0 9 (by decide) l with ⟨z, y⟩ | ⟨v, v9, rfl, y, z1, z2⟩
    · refine ⟨-1, h, h, ?_, by rw [b2, if_neg one_ne, y, if_pos rfl], Hrel, PK.rf h⟩
      rcases z with z | z
      · rw [if_pos z]
      · by_cases z2 : l < 0
        · rw [if_pos z2]
        · rw [if_neg z2, if_neg z]
    · rw [if_neg z1, if_pos z2, isFree_x hq.1, hfree]
      cases hb : bq (h.2 39 8) q with
      | false =>
        refine ⟨-2, h, h, by simp [bI], ?_, Hrel, PK.rf h⟩
        rw [b2, if_neg one_ne, y, if_neg one_ne, isFree_m hq.1, hb]; simp [bI]
      | true =>
        rw [if_neg (by simp [bI])]
        obtain ⟨r, r1, r2, r3⟩ := on_iff H2 hq.1
        rw [r3, xbd1_some]
        cases hbt : bq (rowSet h 9 0 nc) q with
        | true =>
          rw [if_neg (fun z => by rw [and_one hq.1, hbt] at z; cases z)]
          refine ⟨-2, h, h, rfl, ?_, Hrel, PK.rf h⟩
          rw [b2, if_neg one_ne, y, if_neg one_ne, isFree_m hq.1, hb, if_neg (by simp [bI]), r1, xbd1_some, if_neg (fun z => by rw [r2, hbt] at z; cases z)]
        | false =>
          rw [if_pos ((and_one hq.1).mpr hbt), e2]
          by_cases hn : nc = 2
          · subst hn
            refine ⟨-3, h, h, by rw [if_neg (by decide)], ?_, Hrel, PK.rf h⟩
            rw [b2, if_neg one_ne, y, if_neg one_ne, isFree_m hq.1, hb, if_neg (by simp [bI]), r1, xbd1_some, if_pos (r2.mpr hbt), m2, if_pos (show nI 2 = (2 : Int32) from rfl)]
          · have hn2 : nc < 2 := by omega
            rw [if_pos (by rw [ltI, tI 2, nI_toInt (by omega)]; omega), add_x hn2 e2, xbd2_some]
            generalize hh1 : xI (fl (xI (xI h 9 nc (nI q)) 10 nc (nI v)) 11 (64 * nc) 64 (-1)) 6 7 (nI nc + 1) = h1
            have k1 : RHl h1 w g := by subst hh1; exact H1.of rfl rfl rfl rfl rfl rfl rfl rfl rfl rfl rfl rfl
            have k2 : h1.1 9 nc = nI q := by subst hh1; simp [xI_1, fl_1]
            rw [lookAround_x k1 (by omega) hq k2, xbd1_some]
            have k3 : h1.2 39 8 = h.2 39 8 := by subst hh1; rfl
            rw [k3]
            generalize hS : SEE w g (h.2 39 8) q = S
            generalize hh2 : f_orders_forgetPlan (lkx h1 nc S 64) = h2
            have c2 : f_m_isCell (nI q) h2 = 1 := by subst hh2; subst hh1; exact b2
            have f2 : h2.2 39 8 = h.2 39 8 := by subst hh2; subst hh1; rfl
            have m22 : h2.1 39 15 = nI nc := by subst hh2; subst hh1; exact m2
            obtain ⟨r', on2, r4⟩ := cOn_m n2 m22 (nI q)
            have r5 : r' = -9 := r4.mpr (fun k hk => by
              have : h2.1 45 k = h.1 45 k := by subst hh2; subst hh1; rfl
              rw [this]; exact (on_bit H2 hq.1).mpr hbt k hk)
            refine ⟨nI nc, h2, xI (lkm (fl (xI (xI h2 45 nc (nI q)) 46 nc (nI v)) 47 (64 * nc) 64 0) nc S 64) 39 15 (nI nc + 1), rfl, ?_⟩
            rw [c2, if_neg one_ne, y, if_neg one_ne, isFree_m hq.1, f2, hb, if_neg (by simp [bI]), on2, xbd1_some, if_pos r5, m22, if_neg (neL 2 hn (by omega)), xin_nI (n := 6) (by omega) (by decide), clampc (by omega)]
            simp only [Bool.and_true, xgd_true]
            rw [add_m hn2 (by exact m22)]
            generalize hh3 : fl (xI (xI h2 45 nc (nI q)) 46 nc (nI v)) 47 (64 * nc) 64 0 = h3
            have k4 : RHl h3 w g := by subst hh3; subst hh2; subst hh1; exact H1.of rfl rfl rfl rfl rfl rfl rfl rfl rfl rfl rfl rfl
            have k5 : h3.1 45 nc = nI q := by subst hh3; simp [xI_1, fl_1]
            have k6 : h3.1 39 15 = nI nc := by subst hh3; exact m22
            have k7 : h3.2 39 8 = h.2 39 8 := by subst hh3; exact f2
            rw [k6, lookAbout_m k4 (by omega) hq k5, xbd1_some, k7, hS]
            have k8 : (lkm h3 nc S 64).1 39 15 = nI nc := k6
            rw [k8, add_sub1]
            refine ⟨rfl, ?_, Or.inl (by subst hh3; subst hh2; rfl)⟩
            subst hh3; subst hh2; subst hh1
            refine ⟨w, g, np, nc + 1, nl, tk, no, H0.of rfl rfl rfl rfl, H1.of rfl rfl rfl rfl rfl rfl rfl rfl rfl rfl rfl rfl, ?_, ?_, ?_, H5.of rfl rfl rfl rfl rfl rfl rfl rfl rfl, H6.of rfl rfl rfl, H7, Or.inl rfl⟩
            · refine ⟨⟨⟨n1, by omega, n3, n4⟩, ⟨e1, nI_1 nc, e3, e4⟩, hp, hk, fun i hi => ?_, fun i hi => ?_, fun i hi c hcc => ?_, hln, ?_⟩, ⟨m1, nI_1 nc, m3, m4⟩, hpf, fun i hi c2 hc2 e => ?_⟩
              · by_cases hi2 : i = nc
                · subst hi2; exact ⟨q, hq, by simp [xI_1, fl_1, lkm, lkx, f_orders_forgetPlan], by simp [xI_1, fl_1, lkm, lkx, f_orders_forgetPlan]⟩
                · obtain ⟨c2, q1, q2, q3⟩ := hc i (by omega)
                  simp only [Nat.mul_zero, Nat.zero_add] at q3
                  exact ⟨c2, q1, by simpa [xI_1, fl_1, lkm, lkx, f_orders_forgetPlan, hi2] using q2, by simpa [xI_1, fl_1, lkm, lkx, f_orders_forgetPlan, hi2] using q3⟩
              · by_cases hi2 : i = nc
                · subst hi2; exact ⟨v, by omega, by simp [xI_1, fl_1, lkm, lkx, f_orders_forgetPlan], by simp [xI_1, fl_1, lkm, lkx, f_orders_forgetPlan]⟩
                · obtain ⟨c2, q1, q2, q3⟩ := hl i (by omega)
                  simp only [Nat.mul_zero, Nat.zero_add] at q3
                  exact ⟨c2, q1, by simpa [xI_1, fl_1, lkm, lkx, f_orders_forgetPlan, hi2] using q2, by simpa [xI_1, fl_1, lkm, lkx, f_orders_forgetPlan, hi2] using q3⟩
              · by_cases hi2 : i = nc
                · subst hi2
                  cases hbc : bq S c with
                  | true => simp [xI_1, fl_1, lkm, lkx, f_orders_forgetPlan, hbc, hcc, Nat.add_sub_cancel_left, e4, m4]
                  | false => simp [xI_1, fl_1, lkm, lkx, f_orders_forgetPlan, hbc, hcc, Nat.add_sub_cancel_left]
                · have := hsaw i (by omega) c hcc
                  simp only [Nat.mul_zero, Nat.zero_add] at this
                  have e : ∀ X : Prop, ¬ (64 * nc ≤ 64 * i + c ∧ 64 * i + c < 64 * nc + 64 ∧ X) := fun X => by omega
                  have e0 : ¬ (64 * nc ≤ 64 * i + c ∧ 64 * i + c < 64 * nc + 64) := by omega
                  simp [xI_1, fl_1, lkm, lkx, f_orders_forgetPlan, e, e0, this]
              · have hold : ∀ i, i < nc → h.1 45 i ≠ nI q := fun i hi e => by
                  have := (bq_row (h := h) (a := 9) (o := 0) (n := nc) (fun i hi => by
                    obtain ⟨c, c1, c2, c3⟩ := hc i hi
                    exact ⟨c, c1.1, by rw [Nat.zero_add]; exact c2⟩) hq.1).mpr ⟨i, hi, by
                    obtain ⟨c, c1, c2, c3⟩ := hc i hi
                    rw [Nat.mul_zero, Nat.zero_add, e] at c3
                    rw [Nat.zero_add, c2, c3]⟩
                  rw [hbt] at this; cases this
                intro i j hi hj e
                by_cases hi2 : i = nc
                · by_cases hj2 : j = nc
                  · omega
                  · subst hi2
                    simp [xI_1, fl_1, lkm, lkx, f_orders_forgetPlan, hj2] at e
                    exact absurd e.symm (hold j (by omega))
                · by_cases hj2 : j = nc
                  · subst hj2
                    simp [xI_1, fl_1, lkm, lkx, f_orders_forgetPlan, hi2] at e
                    exact absurd e (hold i (by omega))
                  · simp [xI_1, fl_1, lkm, lkx, f_orders_forgetPlan, hi2, hj2] at e
                    exact hdist i j (by omega) (by omega) (by simpa using e)
              · by_cases hi2 : i = nc
                · subst hi2
                  simp [xI_1, fl_1, lkm, lkx, f_orders_forgetPlan] at e
                  have := (nI_eq (by have := hq.1; omega) (by omega)).mp e
                  subst this; exact hb
                · simp [xI_1, fl_1, lkm, lkx, f_orders_forgetPlan, hi2] at e
                  exact hcf i (by omega) c2 hc2 e
            · exact H3.of2 rfl (fun _ _ => rfl) (fun _ _ => rfl) (fun _ _ => rfl) (fun _ _ => rfl) (fun _ _ => rfl) (fun _ _ => rfl) (fun i hi => rfl) (fun i hi => rfl) (fun i hi => by simp [xI_1, fl_1, lkm, lkx, f_orders_forgetPlan, show ¬ 2 + i = nc by omega]) (fun i hi => by simp [xI_1, fl_1, lkm, lkx, f_orders_forgetPlan, show ¬ 2 + i = nc by omega]) (fun i hi => by
                have e : ∀ X : Prop, ¬ (64 * nc ≤ 128 + i ∧ 128 + i < 64 * nc + 64 ∧ X) := fun X => by omega
                have e0 : ¬ (64 * nc ≤ 128 + i ∧ 128 + i < 64 * nc + 64) := by omega
                simp [xI_1, fl_1, lkm, lkx, f_orders_forgetPlan, e, e0]) (fun _ _ => rfl) rfl rfl rfl rfl rfl
            · exact H4.of2 rfl (fun _ _ => rfl) (fun _ _ => rfl) (fun _ _ => rfl) (fun _ _ => rfl) (fun _ _ => rfl) (fun _ _ => rfl) (fun i hi => rfl) (fun i hi => rfl) (fun i hi => by simp [xI_1, fl_1, lkm, lkx, f_orders_forgetPlan, show ¬ 4 + i = nc by omega]) (fun i hi => by simp [xI_1, fl_1, lkm, lkx, f_orders_forgetPlan, show ¬ 4 + i = nc by omega]) (fun i hi => by
                have e : ∀ X : Prop, ¬ (64 * nc ≤ 256 + i ∧ 256 + i < 64 * nc + 64 ∧ X) := fun X => by omega
                have e0 : ¬ (64 * nc ≤ 256 + i ∧ 256 + i < 64 * nc + 64) := by omega
                simp [xI_1, fl_1, lkm, lkx, f_orders_forgetPlan, e, e0]) (fun _ _ => rfl) rfl rfl rfl rfl rfl
