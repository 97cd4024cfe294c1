/-! ===== act ===== -/
theorem step_to : ∀ c, c < 64 → ∀ m, m < 4 → (match nbr c m with
  | some o => decide (nI c + xstep (nI m) = nI o)
  | none => true) = true := by decide +kernel
def actX (h1 : Hp) (w g nl k m y q : Nat) (v : Int32) : Hp := lkx (xI (ln5 (xI (xI h1 9 k (nI q)) 30 10 v) 12 (5 * nl) (h1.1 6 9) (nI k) (nI m) (nI q) (nI y)) 6 8 (nI nl + 1)) k (SEE w g (h1.2 39 8) q) 64
def actM (h2 : Hp) (w g nl k m y q : Nat) : Hp := lkm (xI (ln5 (xI h2 45 k (nI q)) 48 (5 * nl) (h2.1 39 19) (nI k) (nI m) (nI q) (nI y)) 39 20 (nI nl + 1)) k (SEE w g (h2.2 39 8) q) 64
theorem act_x {h1 : Hp} {w g np nc nl tk no : Nat} (H : RB h1 w g np nc nl tk no) {k m y q : Nat} (hk : k < nc) (hn : nl < 100) (hq : cellIn w g q) (v : Int32) : f_x_act_j_13 (nI k) (nI m) (nI y) (xI (xI h1 9 k (nI q)) 30 10 v) = some (nI y, actX h1 w g nl k m y q v) := by
  obtain ⟨H0, H1, H2, H3, H4, H5, H6, H7, H8⟩ := id H
  have n2 := H2.1.1.2.1
  unfold f_x_act_j_13 actX
  have e8 : (xI (xI h1 9 k (nI q)) 30 10 v).1 6 8 = nI nl := H2.1.2.1.2.2.1
  have e9 : (xI (xI h1 9 k (nI q)) 30 10 v).1 9 k = nI q := by simp [xI_1]
  have e69 : (xI (xI h1 9 k (nI q)) 30 10 v).1 6 9 = h1.1 6 9 := rfl
  rw [ln5_x e8 hn (by omega), xbd1_some, e9, e69]
  generalize hh : xI (ln5 (xI (xI h1 9 k (nI q)) 30 10 v) 12 (5 * nl) (h1.1 6 9) (nI k) (nI m) (nI q) (nI y)) 6 8 (nI nl + 1) = h2
  have k1 : RHl h2 w g := by subst hh; exact H1.of rfl rfl rfl rfl rfl rfl rfl rfl rfl rfl rfl rfl
  have k2 : h2.1 9 k = nI q := by subst hh; simp [xI_1, ln5]
  have k3 : h2.2 39 8 = h1.2 39 8 := by subst hh; rfl
  rw [lookAround_x k1 (by omega) hq k2, xbd1_some, k3]
theorem act_m {h2 : Hp} {w g nc nl k m y q : Nat} (H1 : RHl h2 w g) (n2 : nc ≤ 2) (hk : k < nc) (hn : nl < 100) (e : h2.1 39 20 = nI nl) (hq : cellIn w g q) : f_m_act_j_12 (nI k) (nI m) (nI y) (nI q) (nI k) h2 = some (nI y, actM h2 w g nl k m y q) := by
  unfold f_m_act_j_12 actM
  rw [e, mul5L 1, mul5L 2, mul5L 3, mul5L 4, mul50, xin_nI (n := 1500) (by omega) (by decide), xin_nI (n := 1500) (by omega) (by decide), xin_nI (n := 1500) (by omega) (by decide), xin_nI (n := 1500) (by omega) (by decide), xin_nI (n := 1500) (by omega) (by decide), xin_nI (n := 6) (by omega) (by decide), clampc (by omega), clampc (by omega), clampc (by omega), clampc (by omega), clampc (by omega), clampc (by omega)]
  simp only [Bool.and_true, xgd_true]
  have e45 : (xI h2 45 k (nI q)).1 45 k = nI q := by simp [xI_1]
  rw [e45]
  show xbd1 (f_m_lookAbout (nI k) (xI (ln5 (xI h2 45 k (nI q)) 48 (5 * nl) (h2.1 39 19) (nI k) (nI m) (nI q) (nI y)) 39 20 (nI nl + 1))) _ = _
  generalize hh : xI (ln5 (xI h2 45 k (nI q)) 48 (5 * nl) (h2.1 39 19) (nI k) (nI m) (nI q) (nI y)) 39 20 (nI nl + 1) = h3
  have k1 : RHl h3 w g := by subst hh; exact H1.of rfl rfl rfl rfl rfl rfl rfl rfl rfl rfl rfl rfl
  have k2 : h3.1 45 k = nI q := by subst hh; simp [xI_1, ln5]
  have k3 : h3.2 39 8 = h2.2 39 8 := by subst hh; rfl
  rw [lookAbout_m k1 (by omega) hq k2, xbd1_some, k3]
theorem act_rel {h1 : Hp} {w g np nc nl tk no : Nat} (H : RB h1 w g np nc nl tk no) {k m y q : Nat} (hk : k < nc) (hn : nl < 100) (hq : cellIn w g q) (hf : bq (h1.2 39 8) q = true) (hd : ∀ i, i < nc → i ≠ k → h1.1 45 i ≠ nI q) (v : Int32) (hv : v = 0 ∨ v = h1.1 30 10) : RB (actM (actX h1 w g nl k m y q v) w g nl k m y q) w g np nc (nl + 1) tk no := by
  obtain ⟨H0, H1, H2, H3, H4, H5, H6, H7, H8⟩ := id H
  obtain ⟨⟨⟨n1, n2, n3, n4⟩, ⟨e1, e2, e3, e4⟩, hp, hkk, hc, hl, hsaw, hln, hdist⟩, ⟨m1, m2, m3, m4⟩, hpf, hcf⟩ := id H2
  have hS : (actX h1 w g nl k m y q v).2 39 8 = h1.2 39 8 := rfl
  refine ⟨H0.of rfl rfl rfl rfl, H1.of rfl rfl rfl rfl rfl rfl rfl rfl rfl rfl rfl rfl, ?_, ?_, ?_, H5.of rfl rfl rfl rfl rfl rfl rfl rfl rfl, H6.of rfl rfl rfl, H7, ?_⟩
  · refine ⟨⟨⟨n1, n2, by omega, n4⟩, ⟨e1, e2, nI_1 nl, e4⟩, hp, hkk, fun i hi => ?_, hl, fun i hi c hcc => ?_, fun j hj => ?_, ?_⟩, ⟨m1, m2, nI_1 nl, m4⟩, hpf, fun i hi c2 hc2 e => ?_⟩
    · by_cases hi2 : i = k
      · subst hi2; exact ⟨q, hq, by simp [actM, actX, ln5, xI_1, lkm, lkx], by simp [actM, actX, ln5, xI_1, lkm, lkx]⟩
      · obtain ⟨c2, q1, q2, q3⟩ := hc i hi
        simp only [Nat.mul_zero, Nat.zero_add] at q3
        exact ⟨c2, q1, by simpa [actM, actX, ln5, xI_1, lkm, lkx, hi2] using q2, by simpa [actM, actX, ln5, xI_1, lkm, lkx, hi2] using q3⟩
    · have old := hsaw i hi c hcc
      simp only [Nat.mul_zero, Nat.zero_add] at old
      generalize hSS : SEE w g (h1.2 39 8) q = S
      have t1 : (actM (actX h1 w g nl k m y q v) w g nl k m y q).1 47 (64 * i + c) = if 64 * k ≤ 64 * i + c ∧ 64 * i + c < 64 * k + 64 ∧ bq S (64 * i + c - 64 * k) = true then h1.1 39 19 + 1 else h1.1 47 (64 * i + c) := by
        rw [← hSS]
        simp [actM, actX, ln5, xI_1, xI_2, lkm, lkx]
      have t2 : (actM (actX h1 w g nl k m y q v) w g nl k m y q).1 11 (64 * i + c) = if 64 * k ≤ 64 * i + c ∧ 64 * i + c < 64 * k + 64 ∧ bq S (64 * i + c - 64 * k) = true then h1.1 6 9 else h1.1 11 (64 * i + c) := by
        rw [← hSS]
        simp [actM, actX, ln5, xI_1, xI_2, lkm, lkx]
      simp only [Nat.mul_zero, Nat.zero_add]
      show (actM (actX h1 w g nl k m y q v) w g nl k m y q).1 47 (64 * i + c) = (actM (actX h1 w g nl k m y q v) w g nl k m y q).1 11 (64 * i + c) + 1
      rw [t1, t2, old, e4, m4]
      split <;> rfl
    · have t1 : (actM (actX h1 w g nl k m y q v) w g nl k m y q).1 48 j = if j = 5 * nl then h1.1 39 19 else if j = 5 * nl + 1 then nI k else if j = 5 * nl + 2 then nI m else if j = 5 * nl + 3 then nI q else if j = 5 * nl + 4 then nI y else h1.1 48 j := ln5_at _ 48 (5 * nl) _ _ _ _ _ j
      have t2 : (actM (actX h1 w g nl k m y q v) w g nl k m y q).1 12 j = if j = 5 * nl then h1.1 6 9 else if j = 5 * nl + 1 then nI k else if j = 5 * nl + 2 then nI m else if j = 5 * nl + 3 then nI q else if j = 5 * nl + 4 then nI y else h1.1 12 j := ln5_at _ 12 (5 * nl) _ _ _ _ _ j
      show (actM (actX h1 w g nl k m y q v) w g nl k m y q).1 12 j = (actM (actX h1 w g nl k m y q v) w g nl k m y q).1 48 (500 * 0 + j)
      rw [Nat.mul_zero, Nat.zero_add, t1, t2, e4, m4]
      by_cases c0 : j = 5 * nl
      · rw [if_pos c0, if_pos c0]
      · rw [if_neg c0, if_neg c0]
        by_cases c1 : j = 5 * nl + 1
        · rw [if_pos c1, if_pos c1]
        · rw [if_neg c1, if_neg c1]
          by_cases c2 : j = 5 * nl + 2
          · rw [if_pos c2, if_pos c2]
          · rw [if_neg c2, if_neg c2]
            by_cases c3 : j = 5 * nl + 3
            · rw [if_pos c3, if_pos c3]
            · rw [if_neg c3, if_neg c3]
              by_cases c4 : j = 5 * nl + 4
              · rw [if_pos c4, if_pos c4]
              · rw [if_neg c4, if_neg c4]
                have := hln j (by omega)
                simp only [Nat.mul_zero, Nat.zero_add] at this
                exact this
    · intro i j hi hj e
      by_cases hi2 : i = k
      · by_cases hj2 : j = k
        · omega
        · subst hi2
          simp [actM, actX, ln5, xI_1, lkm, lkx, hj2] at e
          exact absurd e.symm (hd j hj hj2)
      · by_cases hj2 : j = k
        · subst hj2
          simp [actM, actX, ln5, xI_1, lkm, lkx, hi2] at e
          exact absurd e (hd i hi hi2)
        · simp [actM, actX, ln5, xI_1, lkm, lkx, hi2, hj2] at e
          exact hdist i j hi hj (by simpa using e)
    · by_cases hi2 : i = k
      · subst hi2
        simp [actM, actX, ln5, xI_1, lkm, lkx] at e
        have := (nI_eq (by have := hq.1; omega) (by omega)).mp e
        subst this; exact hf
      · simp [actM, actX, ln5, xI_1, lkm, lkx, hi2] at e
        exact hcf i hi c2 hc2 e
  · exact H3.of2 rfl (fun _ _ => rfl) (fun _ _ => rfl) (fun _ _ => rfl) (fun _ _ => rfl) (fun _ _ => rfl) (fun _ _ => rfl) (fun i hi => rfl) (fun i hi => rfl) (fun i hi => by simp [actM, actX, ln5, xI_1, lkm, lkx, show ¬ 2 + i = k by omega]) (fun i hi => rfl) (fun i hi => by
      have e : ∀ X : Prop, ¬ (64 * k ≤ 128 + i ∧ 128 + i < 64 * k + 64 ∧ X) := fun X => by omega
      simp [actM, actX, ln5, xI_1, lkm, lkx, e]) (fun i hi => by
      simp [actM, actX, ln5, xI_1, lkm, lkx, show ¬ 500 + i = 5 * nl by omega, show ¬ 500 + i = 5 * nl + 1 by omega, show ¬ 500 + i = 5 * nl + 2 by omega, show ¬ 500 + i = 5 * nl + 3 by omega, show ¬ 500 + i = 5 * nl + 4 by omega]) rfl rfl rfl rfl rfl
  · exact H4.of2 rfl (fun _ _ => rfl) (fun _ _ => rfl) (fun _ _ => rfl) (fun _ _ => rfl) (fun _ _ => rfl) (fun _ _ => rfl) (fun i hi => rfl) (fun i hi => rfl) (fun i hi => by simp [actM, actX, ln5, xI_1, lkm, lkx, show ¬ 4 + i = k by omega]) (fun i hi => rfl) (fun i hi => by
      have e : ∀ X : Prop, ¬ (64 * k ≤ 256 + i ∧ 256 + i < 64 * k + 64 ∧ X) := fun X => by omega
      simp [actM, actX, ln5, xI_1, lkm, lkx, e]) (fun i hi => by
      simp [actM, actX, ln5, xI_1, lkm, lkx, show ¬ 1000 + i = 5 * nl by omega, show ¬ 1000 + i = 5 * nl + 1 by omega, show ¬ 1000 + i = 5 * nl + 2 by omega, show ¬ 1000 + i = 5 * nl + 3 by omega, show ¬ 1000 + i = 5 * nl + 4 by omega]) rfl rfl rfl rfl rfl
  · show v = 0 ∨ v = 1
    rcases hv with hv | hv
    · exact Or.inl hv
    · rw [hv]; exact H8
theorem ok_act (i m : Int32) : Ok2 (f_x_act i m) (f_m_act i m) := by
  rintro h ⟨w, g, np, nc, nl, tk, no, H⟩
  have Hrel : RelB h := ⟨w, g, np, nc, nl, tk, no, H⟩
  obtain ⟨H0, H1, H2, H3, H4, H5, H6, H7, H8⟩ := id H
  have n2 := H2.1.1.2.1
  have n3 := H2.1.1.2.2.1
  unfold f_x_act
  rcases isCarrier_cases H2.1.1.2.1 H2.1.2.1.2.1 H2.2.1.2.1 i with ⟨a, b⟩ | ⟨k, hk, rfl, a, b⟩
  · rw [a, if_pos rfl]
    exact ⟨-1, h, h, rfl, by unfold f_m_act; rw [b, if_pos rfl], Hrel, PK.rf h⟩
  · rw [a, if_neg one_ne]
    rcases range0 4 (by decide) m with ⟨z, y⟩ | ⟨m, m4, rfl, y, z1, z2⟩
    · refine ⟨-1, h, h, ?_, by unfold f_m_act; rw [b, if_neg one_ne, y, if_pos rfl], Hrel, PK.rf h⟩
      rcases z with z | z
      · rw [if_pos z]
      · by_cases z2 : m < 0
        · rw [if_pos z2]
        · rw [if_neg z2, if_neg z]
    · rw [if_neg z1, if_pos z2, H2.1.2.1.2.2.1]
      by_cases hl : nl = 100
      · subst hl
        rw [if_neg (by decide)]
        refine ⟨-3, h, h, rfl, ?_, Hrel, PK.rf h⟩
        unfold f_m_act
        rw [b, if_neg one_ne, y, if_neg one_ne, H2.2.1.2.2.1, if_pos (show nI 100 = (100 : Int32) from rfl)]
      · have hl2 : nl < 100 := by omega
        rw [if_pos (ltL 100 hl2)]
        obtain ⟨h1, q1, F⟩ := why_x H hk m4
        rw [q1, xbd2_some]
        have HB := F.rb H
        obtain ⟨K0, K1, K2, K3, K4, K5, K6, K7, K8⟩ := id HB
        obtain ⟨c1, ⟨c2, c3⟩, c4⟩ := car K2 hk
        have W5 := WHY_5 h w g np nc k m
        generalize hW : WHY h w g np nc k m = W at *
        have hW1 : WHYg h1 (NRx h1 nc) (rowSet h1 9 0 nc) w g np k m = W := by rw [← WHY_g, WHY_fr F, hW]
        -- the reference's road from the class's state
        have mm : ∀ h2 : Hp, RHl h2 w g → h2.1 43 = h1.1 43 → h2.1 44 = h1.1 44 → h2.1 45 = h1.1 45 → h2.1 39 = h1.1 39 → h2.2 39 8 = h1.2 39 8 → f_m_act (nI k) (nI m) h2 = if W = 0 ∧ m < 4 then f_m_act_j_12 (nI k) (nI m) (nI W) (encI (nbw w g (csF h1 k) m)) (nI k) h2 else f_m_act_j_12 (nI k) (nI m) (nI W) (nI (csF h1 k)) (nI k) h2 := by
          intro h2 KH e43 e44 e45 e39 e8
          have b2 : f_m_isCarrier (nI k) h2 = 1 := by
            have : f_m_isCarrier (nI k) h2 = f_m_isCarrier (nI k) h1 := by unfold f_m_isCarrier; rw [e39]
            rw [this, isCarrier_fr F, b]
          have l2 : h2.1 39 20 = nI nl := by rw [e39]; exact K2.2.1.2.2.1
          have w2 := why_g KH ((mp K2).of e43 e44 e45 (by rw [e39]) (by rw [e39])) hk m4
          rw [WHYg_of e43 e44 e45 e8, hW1] at w2
          have b45 : h2.1 45 k = nI (csF h1 k) := by rw [e45]; exact c3
          have hb := m_beside (h := h2) (w := w) (g := g) (c := csF h1 k) (d := m) KH.2.1.1 KH.2.1.2 (by have := KH.1; omega) (by have := KH.1; omega) c1.1
          unfold f_m_act f_m_act_j_11
          rw [b2, if_neg one_ne, y, if_neg one_ne, l2, if_neg (neL 100 hl (by omega)), w2, xbd1_some, xin_nI (n := 6) (by omega) (by decide), clampc (by omega), b45]
          simp only [Bool.and_true, xgd_true, nI0 W5]
          by_cases e0 : W = 0
          · rw [if_pos e0]
            by_cases e4 : m < 4
            · rw [if_neg (nleL 4 e4), if_pos ⟨e0, e4⟩, hb e4]
            · rw [if_pos (leL 4 (by omega) (by omega)), if_neg (fun z => e4 z.2)]
          · rw [if_neg e0, if_neg (fun z => e0 z.1)]
        by_cases mv : W = 0 ∧ m < 4
        · -- it moves
          obtain ⟨o, ho1, ho2, ho3⟩ : ∃ o, nbw w g (csF h1 k) m = some o ∧ bq (h1.2 39 8) o = true ∧ bq (rowSet h1 9 0 nc) o = false := by
            rw [mv.1] at hW1
            unfold WHYg at hW1
            rw [if_neg (by omega)] at hW1
            cases hn : nbw w g (csF h1 k) m with
            | none => rw [hn] at hW1; cases hW1
            | some o =>
              rw [hn] at hW1
              simp only at hW1
              by_cases f1 : bq (h1.2 39 8) o = true
              · rw [if_pos f1] at hW1
                by_cases f2 : bq (rowSet h1 9 0 nc) o = true
                · rw [if_pos f2] at hW1; cases hW1
                · exact ⟨o, rfl, f1, by simpa using f2⟩
              · rw [if_neg f1] at hW1; cases hW1
          have on := (nbw_some ho1).1
          have o64 := nbr_lt64 c1.1 mv.2 on
          have oc : cellIn w g o := by
            have := (nbw_some ho1).2
            rw [inHall_iff] at this
            exact ⟨o64, of_decide_eq_true this⟩
          have st := step_to (csF h1 k) c1.1 m mv.2
          rw [on] at st
          have st : nI (csF h1 k) + xstep (nI m) = nI o := of_decide_eq_true st
          rw [if_pos ((nI0 W5).mpr mv.1), if_neg (nleL 4 mv.2), xin_nI (n := 2) (by omega) (by decide), xin_nI (n := 4) (by omega) (by decide), clampc (by omega), c2, st]
          simp only [Bool.and_true, xgd_true]
          refine ⟨nI W, actX h1 w g nl k m W o 0, actM (actX h1 w g nl k m W o 0) w g nl k m W o, act_x HB hk hl2 oc 0, ?_, ⟨w, g, np, nc, nl + 1, tk, no, act_rel HB hk hl2 oc ho2 (fun i hi _ => (on_bit K2 o64).mpr ho3 i hi) 0 (Or.inl rfl)⟩, Or.inl rfl⟩
          have KX : RHl (actX h1 w g nl k m W o 0) w g := K1.of rfl rfl rfl rfl rfl rfl rfl rfl rfl rfl rfl rfl
          rw [mm (actX h1 w g nl k m W o 0) KX rfl rfl rfl rfl rfl, if_pos mv, ho1]
          exact act_m KX n2 hk hl2 K2.2.1.2.2.1 oc
        · have e : (if nI W = 0 then if (4 : Int32) ≤ nI m then f_x_act_j_13 (nI k) (nI m) (nI W) h1 else xgd (xin (nI k) 2 && true) (xgd (xin (nI m) 4 && true) (xgd (xin (nI k) 2 && true) (f_x_act_j_13 (nI k) (nI m) (nI W) (f_orders_forgetPlan (xI h1 9 (nI k).toNatClampNeg (h1.1 9 (nI k).toNatClampNeg + xstep (nI m))))))) else f_x_act_j_13 (nI k) (nI m) (nI W) h1) = f_x_act_j_13 (nI k) (nI m) (nI W) h1 := by
            by_cases e0 : W = 0
            · rw [if_pos ((nI0 W5).mpr e0), if_pos (leL 4 (by omega) (by omega))]
            · rw [if_neg (fun z => e0 ((nI0 W5).mp z))]
          rw [e]
          have id1 : xI (xI h1 9 k (nI (csF h1 k))) 30 10 (h1.1 30 10) = h1 := by
            rw [← c2, xI_id, xI_id]
          have ax := act_x HB hk hl2 c1 (m := m) (y := W) (h1.1 30 10)
          rw [id1] at ax
          refine ⟨nI W, actX h1 w g nl k m W (csF h1 k) (h1.1 30 10), actM (actX h1 w g nl k m W (csF h1 k) (h1.1 30 10)) w g nl k m W (csF h1 k), ax, ?_, ⟨w, g, np, nc, nl + 1, tk, no, act_rel HB hk hl2 c1 c4 (fun i hi ne => ?_) _ (Or.inr rfl)⟩, ?_⟩
          · have KX : RHl (actX h1 w g nl k m W (csF h1 k) (h1.1 30 10)) w g := K1.of rfl rfl rfl rfl rfl rfl rfl rfl rfl rfl rfl rfl
            rw [mm (actX h1 w g nl k m W (csF h1 k) (h1.1 30 10)) KX rfl rfl rfl rfl rfl, if_neg mv]
            exact act_m KX n2 hk hl2 K2.2.1.2.2.1 c1
          · intro e
            have := K2.1.2.2.2.2.2.2.2.2 i k hi hk (by simp only [Nat.mul_zero, Nat.zero_add]; rw [e, c3])
            exact ne this
          · rcases F.pk with hp | ⟨p1, p2, p3, p4, p5, p6, p7, p8, p9, p10⟩
            · exact Or.inl hp
            · refine Or.inr ⟨?_, p2, p3, p4, p5, fun i hi => ?_, p7, p8, p9, p10⟩
              · rw [← p1]
                funext b
                show (if 30 = 30 ∧ b = 10 then h1.1 30 10 else h1.1 30 b) = h1.1 30 b
                by_cases hb : b = 10
                · subst hb; rfl
                · simp [hb]
              · rw [← p6 i hi]
                show (if 45 = 45 ∧ i = k then nI (csF h1 k) else h1.1 45 i) = h1.1 45 i
                by_cases hb : i = k
                · subst hb; simp [c3]
                · simp [hb]
