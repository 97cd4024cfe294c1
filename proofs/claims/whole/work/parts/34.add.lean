/-- an image looks only at its own part of the reference's rows -/
theorem RSc.of2 {h h' : Hp} {w g s t np nc nl tk : Nat} (H : RSc h w g s t np nc nl tk) (e1 : ∀ j, j < 10 → h'.1 s j = h.1 s j) (a1 : ∀ i, i < 6 → h'.1 (s + 1) i = h.1 (s + 1) i) (a2 : ∀ i, i < 6 → h'.1 (s + 2) i = h.1 (s + 2) i) (a3 : ∀ i, i < 2 → h'.1 (s + 3) i = h.1 (s + 3) i) (a4 : ∀ i, i < 2 → h'.1 (s + 4) i = h.1 (s + 4) i) (a5 : ∀ i, i < 128 → h'.1 (s + 5) i = h.1 (s + 5) i) (a6 : ∀ i, i < 500 → h'.1 (s + 6) i = h.1 (s + 6) i)
    (b1 : ∀ i, i < 6 → h'.1 43 (6 * t + i) = h.1 43 (6 * t + i)) (b2 : ∀ i, i < 6 → h'.1 44 (6 * t + i) = h.1 44 (6 * t + i)) (b3 : ∀ i, i < 2 → h'.1 45 (2 * t + i) = h.1 45 (2 * t + i)) (b4 : ∀ i, i < 2 → h'.1 46 (2 * t + i) = h.1 46 (2 * t + i)) (b5 : ∀ i, i < 128 → h'.1 47 (128 * t + i) = h.1 47 (128 * t + i)) (b6 : ∀ i, i < 500 → h'.1 48 (500 * t + i) = h.1 48 (500 * t + i)) : RSc h' w g s t np nc nl tk := by
  obtain ⟨⟨n1, n2, n3, n4⟩, ⟨f1, f2, f3, f4⟩, hp, hk, hc, hl, hs, hln, hd⟩ := H
  refine ⟨⟨n1, n2, n3, n4⟩, ⟨by rw [e1 6 (by decide)]; exact f1, by rw [e1 7 (by decide)]; exact f2, by rw [e1 8 (by decide)]; exact f3, by rw [e1 9 (by decide)]; exact f4⟩, fun i hi => ?_, fun i hi => ?_, fun i hi => ?_, fun i hi => ?_, fun i hi c hcc => ?_, fun j hj => ?_, fun i j hi hj e => ?_⟩
  · rw [a1 i (by omega), b1 i (by omega)]; exact hp i hi
  · rw [a2 i (by omega), b2 i (by omega)]; exact hk i hi
  · rw [a3 i (by omega), b3 i (by omega)]; exact hc i hi
  · rw [a4 i (by omega), b4 i (by omega)]; exact hl i hi
  · rw [a5 _ (by omega), b5 _ (by omega)]; exact hs i hi c hcc
  · rw [a6 j (by omega), b6 j (by omega)]; exact hln j hj
  · rw [b3 i (by omega), b3 j (by omega)] at e; exact hd i j hi hj e
theorem RIm.of2 {h h' : Hp} {w g s j : Nat} (H : RIm h w g s j) (e1 : h'.1 s = h.1 s) (a1 : ∀ i, i < 6 → h'.1 (s + 1) i = h.1 (s + 1) i) (a2 : ∀ i, i < 6 → h'.1 (s + 2) i = h.1 (s + 2) i) (a3 : ∀ i, i < 2 → h'.1 (s + 3) i = h.1 (s + 3) i) (a4 : ∀ i, i < 2 → h'.1 (s + 4) i = h.1 (s + 4) i) (a5 : ∀ i, i < 128 → h'.1 (s + 5) i = h.1 (s + 5) i) (a6 : ∀ i, i < 500 → h'.1 (s + 6) i = h.1 (s + 6) i)
    (b1 : ∀ i, i < 6 → h'.1 43 (6 * (1 + j) + i) = h.1 43 (6 * (1 + j) + i)) (b2 : ∀ i, i < 6 → h'.1 44 (6 * (1 + j) + i) = h.1 44 (6 * (1 + j) + i)) (b3 : ∀ i, i < 2 → h'.1 45 (2 * (1 + j) + i) = h.1 45 (2 * (1 + j) + i)) (b4 : ∀ i, i < 2 → h'.1 46 (2 * (1 + j) + i) = h.1 46 (2 * (1 + j) + i)) (b5 : ∀ i, i < 128 → h'.1 47 (128 * (1 + j) + i) = h.1 47 (128 * (1 + j) + i)) (b6 : ∀ i, i < 500 → h'.1 48 (500 * (1 + j) + i) = h.1 48 (500 * (1 + j) + i)) (c1 : h'.1 61 j = h.1 61 j) (c2 : h'.1 62 j = h.1 62 j) (c3 : h'.1 63 j = h.1 63 j) (c4 : h'.1 64 j = h.1 64 j) (c5 : h'.1 65 j = h.1 65 j) : RIm h' w g s j := by
  obtain ⟨H1, H2⟩ := H
  refine ⟨by rw [e1, c1]; exact H1, ?_⟩
  rcases H2 with H2 | ⟨H2, np, nc, nl, tk, H3, H4⟩
  · exact Or.inl (by rw [c1]; exact H2)
  · refine Or.inr ⟨by rw [c1]; exact H2, np, nc, nl, tk, H3.of2 (fun j _ => by rw [e1]) a1 a2 a3 a4 a5 a6 b1 b2 b3 b4 b5 b6, ?_⟩
    rw [c2, c3, c4, c5]; exact H4
/-! ===== person ===== -/
theorem kind_cases (i : Int32) : ((i < 0 ∨ (3 : Int32) < i) ∧ f_m_in i 0 3 = 0) ∨ ∃ k, k < 4 ∧ i = nI k ∧ f_m_in (nI k) 0 3 = 1 := by
  rcases ix_x (n := 4) (by decide) i with ⟨a, b⟩ | ⟨k, hk, rfl⟩
  · left
    refine ⟨?_, in_lit0 (by rw [tI 0, tI 3]; omega)⟩
    rcases a with a | a
    · exact Or.inl a
    · right; rw [ltI, tI 3]; rw [leI, nI_toInt (by decide)] at a; omega
  · exact Or.inr ⟨k, hk, rfl, in_lit1 (by rw [tI 0, tI 3, nI_toInt (by omega)]; omega)⟩
theorem nlit6 {n : Nat} (hn : n < 2 ^ 31) (h : n ≠ 6) : ¬ nI n = (6 : Int32) := fun z => h ((nI_eq (b := 6) hn (by decide)).mp z)
theorem add_sub1 (n : Nat) : nI n + 1 - 1 = nI n := by rw [nI_1, nI_pred]
theorem ok_person (kind c : Int32) : Ok2 (f_x_person kind c) (f_m_person kind c) := by
  rintro h ⟨w, g, np, nc, nl, tk, no, H0, H1, H2, H3, H4, H5, H6, H7, H8⟩
  have Hrel : RelB h := ⟨w, g, np, nc, nl, tk, no, H0, H1, H2, H3, H4, H5, H6, H7, H8⟩
  obtain ⟨⟨⟨n1, n2, n3, n4⟩, ⟨e1, e2, e3, e4⟩, hp, hk, hc, hl, hsaw, hln, hdist⟩, ⟨m1, m2, m3, m4⟩, hpf, hcf⟩ := id H2
  have hfree := H1.2.2.2.1.1
  unfold f_x_person f_m_person f_scene_addPerson_6
  rcases kind_cases kind with ⟨a, b⟩ | ⟨k, k4, rfl, b⟩
  · refine ⟨-1, h, h, ?_, by rw [b, if_pos rfl], Hrel, PK.rf h⟩
    rcases a with a | a
    · rw [if_pos a]
    · by_cases d : kind < 0
      · rw [if_pos d]
      · rw [if_neg d, if_pos a]
  · rw [if_neg (nI_pos (by omega)), if_neg (by rw [ltI, tI 3, nI_toInt (by omega)]; omega)]
    rcases isCell_cases H1 c with ⟨a, b2⟩ | ⟨q, hq, rfl, a, b2⟩
    · rw [a, if_pos rfl]
      exact ⟨-1, h, h, rfl, by rw [b, if_neg one_ne, b2, if_pos rfl], Hrel, PK.rf h⟩
    · rw [a, if_neg one_ne, isFree_x hq.1, hfree]
      cases hb : bq (h.2 39 8) q with
      | false =>
        refine ⟨-2, h, h, by simp [bI], ?_, Hrel, PK.rf h⟩
        rw [b, if_neg one_ne, b2, if_neg one_ne, isFree_m hq.1, hb]; simp [bI]
      | true =>
        rw [if_neg (by simp [bI]), e1]
        by_cases hn : np = 6
        · subst hn
          refine ⟨-3, h, h, by rw [if_pos (show (6 : Int32) ≤ nI 6 by decide)], ?_, Hrel, PK.rf h⟩
          rw [b, if_neg one_ne, b2, if_neg one_ne, isFree_m hq.1, hb, if_neg (by simp [bI]), m1, if_pos (show nI 6 = (6 : Int32) from rfl)]
        · rw [if_neg (by rw [leI, tI 6, nI_toInt (by omega)]; omega), xin_nI (n := 6) (by omega) (by decide), clampc (by omega)]
          refine ⟨nI np, xI (xI (xI h 8 np (nI k)) 7 np (nI q)) 6 6 (nI np + 1), xI (xI (xI (xI (xI (xI h 8 np (nI k)) 7 np (nI q)) 6 6 (nI np + 1)) 43 np (nI q)) 44 np (nI k)) 39 12 (nI np + 1), ?_, ?_, ?_, ?_⟩
          · simp [xgd, xbd2, add_sub1]
          · have f2 := isFree_m (h := xI (xI (xI h 8 np (nI k)) 7 np (nI q)) 6 6 (nI np + 1)) hq.1
            have c2 : f_m_isCell (nI q) (xI (xI (xI h 8 np (nI k)) 7 np (nI q)) 6 6 (nI np + 1)) = f_m_isCell (nI q) h := rfl
            have m12 : (xI (xI (xI h 8 np (nI k)) 7 np (nI q)) 6 6 (nI np + 1)).1 39 12 = nI np := m1
            have fr : (xI (xI (xI h 8 np (nI k)) 7 np (nI q)) 6 6 (nI np + 1)).2 39 8 = h.2 39 8 := rfl
            rw [b, if_neg one_ne, c2, b2, if_neg one_ne, f2, fr, hb, if_neg (by simp [bI]), m12, if_neg (nlit6 (by omega) hn), xin_nI (n := 18) (by omega) (by decide), clampc (by omega)]
            simp [xgd, add_sub1]
          · refine ⟨w, g, np + 1, nc, nl, tk, no, H0.of rfl rfl rfl rfl, H1.of rfl rfl rfl rfl rfl rfl rfl rfl rfl rfl rfl rfl, ?_, ?_, ?_, H5.of rfl rfl rfl rfl rfl rfl rfl rfl rfl, H6.of rfl rfl rfl, H7, H8⟩
            · refine ⟨⟨⟨by omega, n2, n3, n4⟩, ⟨nI_1 np, e2, e3, e4⟩, fun i hi => ?_, fun i hi => ?_, hc, hl, hsaw, hln, hdist⟩, ⟨nI_1 np, m2, m3, m4⟩, fun i hi c2 hc2 e => ?_, hcf⟩
              · by_cases hi2 : i = np
                · subst hi2; exact ⟨q, hq, by simp [xI_1], by simp [xI_1]⟩
                · obtain ⟨c2, q1, q2, q3⟩ := hp i (by omega)
                  simp only [Nat.mul_zero, Nat.zero_add] at q3
                  exact ⟨c2, q1, by simpa [xI_1, hi2] using q2, by simpa [xI_1, hi2] using q3⟩
              · by_cases hi2 : i = np
                · subst hi2; exact ⟨k, k4, by simp [xI_1], by simp [xI_1]⟩
                · obtain ⟨c2, q1, q2, q3⟩ := hk i (by omega)
                  simp only [Nat.mul_zero, Nat.zero_add] at q3
                  exact ⟨c2, q1, by simpa [xI_1, hi2] using q2, by simpa [xI_1, hi2] using q3⟩
              · by_cases hi2 : i = np
                · subst hi2
                  simp [xI_1] at e
                  have := (nI_eq (by have := hq.1; omega) (by omega)).mp e
                  subst this; exact hb
                · simp [xI_1, hi2] at e
                  exact hpf i (by omega) c2 hc2 e
            · exact H3.of2 rfl (fun _ _ => rfl) (fun _ _ => rfl) (fun _ _ => rfl) (fun _ _ => rfl) (fun _ _ => rfl) (fun _ _ => rfl) (fun i hi => by simp [xI_1, show ¬ 6 + i = np by omega]) (fun i hi => by simp [xI_1, show ¬ 6 + i = np by omega]) (fun _ _ => rfl) (fun _ _ => rfl) (fun _ _ => rfl) (fun _ _ => rfl) rfl rfl rfl rfl rfl
            · exact H4.of2 rfl (fun _ _ => rfl) (fun _ _ => rfl) (fun _ _ => rfl) (fun _ _ => rfl) (fun _ _ => rfl) (fun _ _ => rfl) (fun i hi => by simp [xI_1, show ¬ 12 + i = np by omega]) (fun i hi => by simp [xI_1, show ¬ 12 + i = np by omega]) (fun _ _ => rfl) (fun _ _ => rfl) (fun _ _ => rfl) (fun _ _ => rfl) rfl rfl rfl rfl rfl
          · exact Or.inr ⟨rfl, rfl, rfl, rfl, rfl, fun _ _ => rfl, rfl, rfl, rfl, rfl⟩
/-! ===== order ===== -/
theorem due_cases (i : Int32) : ((i < 0 ∨ ¬ i ≤ (200 : Int32)) ∧ f_m_in i 0 200 = 0) ∨ ∃ k, k ≤ 200 ∧ i = nI k ∧ f_m_in (nI k) 0 200 = 1 := by
  rcases ix_x (n := 201) (by decide) i with ⟨a, b⟩ | ⟨k, hk, rfl⟩
  · left
    refine ⟨?_, in_lit0 (by rw [tI 0, tI 200]; omega)⟩
    rcases a with a | a
    · exact Or.inl a
    · right; rw [leI, tI 200]; rw [leI, nI_toInt (by decide)] at a; omega
  · exact Or.inr ⟨k, by omega, rfl, in_lit1 (by rw [tI 0, tI 200, nI_toInt (by omega)]; omega)⟩
theorem ok_order (a b d : Int32) : Ok2 (f_x_order a b d) (f_m_order a b d) := by
  rintro h ⟨w, g, np, nc, nl, tk, no, H0, H1, H2, H3, H4, H5, H6, H7, H8⟩
  have Hrel : RelB h := ⟨w, g, np, nc, nl, tk, no, H0, H1, H2, H3, H4, H5, H6, H7, H8⟩
  obtain ⟨no6, o1, o2, ho⟩ := id H5
  have hfree := H1.2.2.2.1.1
  unfold f_x_order f_m_order f_orders_add
  rcases isCell_cases H1 a with ⟨x1, y1⟩ | ⟨p, hp, rfl, x1, y1⟩
  · rw [x1, if_pos rfl]
    exact ⟨-1, h, h, rfl, by rw [y1, if_pos rfl], Hrel, PK.rf h⟩
  · rw [x1, if_neg one_ne]
    rcases isCell_cases H1 b with ⟨x2, y2⟩ | ⟨q, hq, rfl, x2, y2⟩
    · rw [x2, if_pos rfl]
      exact ⟨-1, h, h, rfl, by rw [y1, if_neg one_ne, y2, if_pos rfl], Hrel, PK.rf h⟩
    · rw [x2, if_neg one_ne]
      rcases due_cases d with ⟨x3, y3⟩ | ⟨k, hk, rfl, y3⟩
      · refine ⟨-1, h, h, ?_, by rw [y1, if_neg one_ne, y2, if_neg one_ne, y3, if_pos rfl], Hrel, PK.rf h⟩
        rcases x3 with z | z
        · rw [if_pos z]
        · by_cases z2 : d < 0
          · rw [if_pos z2]
          · rw [if_neg z2, if_neg z]
      · rw [if_neg (nI_pos (by omega)), if_pos (by rw [leI, tI 200, nI_toInt (by omega)]; omega), isFree_x hp.1, isFree_x hq.1, hfree]
        cases hb : bq (h.2 39 8) p with
        | false =>
          refine ⟨-2, h, h, by simp [bI], ?_, Hrel, PK.rf h⟩
          rw [y1, if_neg one_ne, y2, if_neg one_ne, y3, if_neg one_ne, isFree_m hp.1, hb]; simp [bI]
        | true =>
          rw [if_neg (by simp [bI])]
          cases hb2 : bq (h.2 39 8) q with
          | false =>
            refine ⟨-2, h, h, by simp [bI], ?_, Hrel, PK.rf h⟩
            rw [y1, if_neg one_ne, y2, if_neg one_ne, y3, if_neg one_ne, isFree_m hp.1, hb, if_neg (by simp [bI]), isFree_m hq.1, hb2]; simp [bI]
          | true =>
            rw [if_neg (by simp [bI]), o1]
            by_cases hn : no = 6
            · subst hn
              refine ⟨-3, h, h, by rw [if_pos (show (6 : Int32) ≤ nI 6 by decide)], ?_, Hrel, PK.rf h⟩
              rw [y1, if_neg one_ne, y2, if_neg one_ne, y3, if_neg one_ne, isFree_m hp.1, hb, if_neg (by simp [bI]), isFree_m hq.1, hb2, if_neg (by simp [bI]), o2, if_pos (show nI 6 = (6 : Int32) from rfl)]
            · rw [if_neg (by rw [leI, tI 6, nI_toInt (by omega)]; omega), xin_nI (n := 6) (by omega) (by decide), clampc (by omega)]
              refine ⟨nI no, xI (xI (xI (xI (xI h 31 no (nI p)) 32 no (nI q)) 33 no (nI k)) 30 7 (nI no + 1)) 30 10 0, xI (xI (xI (xI (xI (xI (xI (xI (xI h 31 no (nI p)) 32 no (nI q)) 33 no (nI k)) 30 7 (nI no + 1)) 30 10 0) 52 no (nI p)) 53 no (nI q)) 54 no (nI k)) 39 25 (nI no + 1), ?_, ?_, ?_, ?_⟩
              · simp [xgd, xbd2, add_sub1]
              · generalize hh1 : xI (xI (xI (xI (xI h 31 no (nI p)) 32 no (nI q)) 33 no (nI k)) 30 7 (nI no + 1)) 30 10 0 = h1
                have c1 : f_m_isCell (nI p) h1 = f_m_isCell (nI p) h := by subst hh1; rfl
                have c2 : f_m_isCell (nI q) h1 = f_m_isCell (nI q) h := by subst hh1; rfl
                have fr : h1.2 39 8 = h.2 39 8 := by subst hh1; rfl
                have m12 : h1.1 39 25 = nI no := by subst hh1; exact o2
                rw [c1, y1, if_neg one_ne, c2, y2, if_neg one_ne, y3, if_neg one_ne, isFree_m hp.1, fr, hb, if_neg (by simp [bI]), isFree_m hq.1, fr, hb2, if_neg (by simp [bI]), m12, if_neg (nlit6 (by omega) hn), xin_nI (n := 6) (by omega) (by decide), clampc (by omega)]
                simp [xgd, add_sub1]
              · refine ⟨w, g, np, nc, nl, tk, no + 1, H0.of rfl rfl rfl rfl, H1.of rfl rfl rfl rfl rfl rfl rfl rfl rfl rfl rfl rfl, H2.of rfl rfl rfl rfl rfl rfl rfl rfl rfl rfl rfl rfl rfl rfl rfl rfl rfl rfl, H3.of rfl rfl rfl rfl rfl rfl rfl rfl rfl rfl rfl rfl rfl rfl rfl rfl rfl rfl, H4.of rfl rfl rfl rfl rfl rfl rfl rfl rfl rfl rfl rfl rfl rfl rfl rfl rfl rfl, ⟨by omega, nI_1 no, nI_1 no, fun i hi => ?_⟩, H6.of rfl rfl rfl, H7, Or.inl rfl⟩
                by_cases hi2 : i = no
                · subst hi2
                  exact ⟨p, q, k, ⟨hp.1, hq.1, hk⟩, ⟨by simp [xI_1], by simp [xI_1]⟩, ⟨by simp [xI_1], by simp [xI_1]⟩, ⟨by simp [xI_1], by simp [xI_1]⟩, hb, hb2⟩
                · obtain ⟨p2, q2, k2, z1, ⟨z2, z3⟩, ⟨z4, z5⟩, ⟨z6, z7⟩, z8, z9⟩ := ho i (by omega)
                  exact ⟨p2, q2, k2, z1, ⟨by simpa [xI_1, hi2] using z2, by simpa [xI_1, hi2] using z3⟩, ⟨by simpa [xI_1, hi2] using z4, by simpa [xI_1, hi2] using z5⟩, ⟨by simpa [xI_1, hi2] using z6, by simpa [xI_1, hi2] using z7⟩, z8, z9⟩
              · exact Or.inl rfl
