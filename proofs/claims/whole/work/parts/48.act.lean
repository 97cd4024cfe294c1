/-! ===== let ===== -/
def letB (W : Nat → Nat) : Nat → Int32
  | 0 => 0
  | i + 1 => if W i = 0 then letB W i ||| jshl 1 (nI i) else letB W i
theorem nI0 {n : Nat} (h : n < 5) : nI n = 0 ↔ n = 0 := by
  constructor
  · intro e; exact (nI_eq (b := 0) (by omega) (by decide)).mp e
  · intro e; subst e; rfl
theorem let_x {w g np nc nl tk no k : Nat} (hk : k < nc) : ∀ (n i fuel : Nat) (h : Hp) (W : Nat → Nat), i + n = 5 → n < fuel → RB h w g np nc nl tk no → (∀ m, WHY h w g np nc k m = W m) → ∃ h', f_x_let_L_2 (nI k) (fun l2_10 l3_11 h_12 => some (l2_10, h_12)) fuel (letB W i) (nI i) h = some (letB W 5, h') ∧ Fr h h' := by
  intro n
  induction n with
  | zero =>
    intro i fuel h W h1 h2 h3 h4
    obtain ⟨f, rfl⟩ : ∃ f, fuel = f + 1 := ⟨fuel - 1, by omega⟩
    have : i = 5 := by omega
    subst this
    exact ⟨h, by rw [f_x_let_L_2, if_pos (by decide)], Fr.rf h⟩
  | succ n ih =>
    intro i fuel h W h1 h2 h3 h4
    obtain ⟨f, rfl⟩ : ∃ f, fuel = f + 1 := ⟨fuel - 1, by omega⟩
    obtain ⟨h', q1, q2⟩ := why_x h3 hk (m := i) (by omega)
    have w5 := WHY_5 h w g np nc k i
    rw [f_x_let_L_2, if_neg (by rw [ltI, tI 4, nI_toInt (by omega)]; omega), q1, xbd2_some, nI_1]
    rw [h4 i] at w5 ⊢
    have e : (if nI (W i) = 0 then letB W i ||| jshl 1 (nI i) else letB W i) = letB W (i + 1) := by
      simp only [nI0 w5, letB]
    rw [e]
    obtain ⟨h'', q3, q4⟩ := ih (i + 1) f h' W (by omega) (by omega) (q2.rb h3) (fun m => by rw [WHY_fr q2, h4])
    exact ⟨h'', q3, q2.tr q4⟩
theorem or0i (x : Int32) : x ||| 0 = x := by
  apply Int32.toBitVec_inj.mp
  rw [Int32.toBitVec_or]
  show x.toBitVec ||| 0#32 = _
  exact BitVec.or_zero
theorem let_m {h : Hp} {w g np nc nl tk : Nat} (HH : RHl h w g) (H : RNow h w g np nc nl tk) {k : Nat} (hk : k < nc) : f_m_let_L_2 (nI k) h (fun l2_9 l3_10 => some l2_9) 1000 0 0 = some (letB (WHY h w g np nc k) 5) := by
  refine lp0 (fun f s => f_m_let_L_2 (nI k) h (fun l2_9 l3_10 => some l2_9) f s.1 s.2) 5 (fun i => (letB (WHY h w g np nc k) i, nI i)) _ (by omega) (fun f => ?_) (fun f i hi => ?_)
  · simp only
    rw [f_m_let_L_2, if_pos (by decide)]
  · simp only
    have w5 := WHY_5 h w g np nc k i
    rw [f_m_let_L_2, if_neg (nleL 5 hi), why_m HH H hk (by omega), xbd1_some, nI_1]
    congr 1
    simp only [nI0 w5, letB]
    by_cases e : WHY h w g np nc k i = 0
    · rw [if_pos e, if_pos e]
    · rw [if_neg e, if_neg e, or0i]
theorem ok_let (i : Int32) : Ok3 (f_x_let i) (f_m_let i) := by
  rintro h ⟨w, g, np, nc, nl, tk, no, H⟩
  have Hrel : RelB h := ⟨w, g, np, nc, nl, tk, no, H⟩
  obtain ⟨H0, H1, H2, H3, H4, H5, H6, H7, H8⟩ := id H
  unfold f_x_let
  rcases isCarrier_cases H2.1.1.2.1 H2.1.2.1.2.1 H2.2.1.2.1 i with ⟨a, b⟩ | ⟨k, hk, rfl, a, b⟩
  · rw [a, if_pos rfl]
    exact ⟨-1, h, rfl, by unfold f_m_let; rw [b, if_pos rfl], Hrel, PK.rf h⟩
  · rw [a, if_neg one_ne]
    obtain ⟨h', q1, F⟩ := let_x hk 5 0 1000 h (WHY h w g np nc k) (by decide) (by decide) H (fun _ => rfl)
    refine ⟨_, h', q1, ?_, F.rel Hrel, F.pk⟩
    obtain ⟨K0, K1, K2, -⟩ := F.rb H
    unfold f_m_let
    rw [isCarrier_fr F, b, if_neg one_ne, let_m K1 K2 hk]
    congr 2
    funext m
    exact WHY_fr F w g np nc k m
/-! ===== walk ===== -/
theorem ok_walk (i c : Int32) : Ok2 (f_x_walk i c) (f_m_walk i c) := by
  rintro h ⟨w, g, np, nc, nl, tk, no, H⟩
  have Hrel : RelB h := ⟨w, g, np, nc, nl, tk, no, H⟩
  obtain ⟨H0, H1, H2, H3, H4, H5, H6, H7, H8⟩ := id H
  unfold f_x_walk
  rcases isPerson_cases H2.1.1.1 H2.1.2.1.1 H2.2.1.1 i with ⟨a, b⟩ | ⟨k, hk, rfl, a, b⟩
  · rw [a, if_pos rfl]
    exact ⟨-1, h, h, rfl, by unfold f_m_walk; rw [b, if_pos rfl], Hrel, PK.rf h⟩
  · rw [a, if_neg one_ne]
    rcases isCell_cases H1 c with ⟨a2, b2⟩ | ⟨q, hq, rfl, a2, b2⟩
    · rw [a2, if_pos rfl]
      exact ⟨-1, h, h, rfl, by unfold f_m_walk; rw [b, if_neg one_ne, b2, if_pos rfl], Hrel, PK.rf h⟩
    · rw [a2, if_neg one_ne]
      obtain ⟨h1, q1, F⟩ := couldBe_x H1 H2 hk (t := 1) (by decide)
      have q1 : f_x_couldBe (nI k) 1 h = _ := q1
      have HB := F.rb H
      obtain ⟨K0, K1, K2, K3, K4, K5, K6, K7, K8⟩ := id HB
      obtain ⟨⟨a1, a22⟩, ⟨a3, a4⟩, ⟨a5, a6⟩, a7, a8⟩ := ppl K2 hk
      have n1 := H2.1.1.1
      rw [q1, xbd2_some, cTaken_x K2.1.1.2.1 K2.1.2.1.2.1, xbd1_some]
      have eN : NRx h1 nc = NRx h nc := by unfold NRx; rw [F.1]
      have ek : pkF h1 k = pkF h k := by unfold pkF; rw [F.1]
      have ec : pcF h1 k = pcF h k := by unfold pcF; rw [F.1]
      have ef : h1.2 39 8 = h.2 39 8 := by rw [F.2 39 (by decide) (by decide) (by decide)]
      have cm := couldBe_m (nearOf K2) K1 a22 (t := 1) (by decide) (one (pcF h1 k))
      rw [eN, ef, ek, ec] at cm
      generalize hS : CB (pkF h k) (NRx h nc) (h.2 39 8) 1 (one (pcF h k)) = S at *
      have sS : sub S (h.2 39 8) := by
        rw [← hS]
        refine CB_sub _ _ ?_
        intro z hz e
        rw [bq_onec (by rw [← ec]; exact a1) hz, decide_eq_true_eq] at e
        rw [e, ← ec, ← ef]; exact a7
      have b' : f_m_isPerson (nI k) h1 = 1 := by
        have : f_m_isPerson (nI k) h1 = f_m_isPerson (nI k) h := by unfold f_m_isPerson; rw [F.1]
        rw [this, b]
      have b2' : f_m_isCell (nI q) h1 = 1 := by
        have : f_m_isCell (nI q) h1 = f_m_isCell (nI q) h := by unfold f_m_isCell; rw [F.1]
        rw [this, b2]
      have mm : f_m_walk (nI k) (nI q) h1 = if bq S q = true then (if bq (rowSet h1 9 0 nc) q = true then some (-2, h1) else some (h1.1 43 k, xI h1 43 k (nI q))) else some (-2, h1) := by
        unfold f_m_walk
        have cm : f_m_couldBe (nI (pkF h k)) (jshlL 1 (nI (pcF h k))) 1 h1 = some S := cm
        obtain ⟨r, r1, r2, r3⟩ := on_iff K2 hq.1
        rw [b', if_neg one_ne, b2', if_neg one_ne, xin_nI (n := 18) (by omega) (by decide), clampc (by omega), a4, a6, ek, ec, cm, xbd1_some, tst_s hq.1, r1, xbd1_some]
        simp only [Bool.and_true, xgd_true]
        cases hb : bq S q with
        | false => rw [if_pos (by decide), if_neg (by decide)]
        | true =>
          rw [if_neg (by decide), if_pos rfl]
          cases hbt : bq (rowSet h1 9 0 nc) q with
          | true => rw [if_neg (fun z => by rw [r2, hbt] at z; cases z), if_pos rfl]
          | false => rw [if_pos (r2.mpr hbt), if_neg (by decide)]
      have cnd : lg_cmp (S &&& (rowSet h1 9 0 nc ^^^ -1) &&& jshlL 1 (nI q)) 0 = 0 ↔ ¬ (bq S q = true ∧ ¬ bq (rowSet h1 9 0 nc) q = true) := by
        rw [and_one hq.1, bq_and, bq_not _ hq.1]
        cases bq S q <;> cases bq (rowSet h1 9 0 nc) q <;> simp
      by_cases hg : bq S q = true ∧ ¬ bq (rowSet h1 9 0 nc) q = true
      · rw [if_neg (fun z => (cnd.mp z) hg), xin_nI (n := 6) (by omega) (by decide), clampc (by omega)]
        simp only [Bool.and_true, xgd_true]
        refine ⟨nI (pcF h1 k), xI h1 7 k (nI q), xI (xI h1 7 k (nI q)) 43 k (nI q), by rw [a3], ?_, ?_, ?_⟩
        · rw [if_pos hg.1, if_neg hg.2] at mm
          have F2 : f_m_walk (nI k) (nI q) (xI h1 7 k (nI q)) = some (h1.1 43 k, xI (xI h1 7 k (nI q)) 43 k (nI q)) := by
            unfold f_m_walk
            have cm2 := couldBe_m (h := xI h1 7 k (nI q)) (nc := nc) (cs := csF h1) (N := NRx h1 nc) (by
              obtain ⟨z1, z2, z3, z4⟩ := nearOf K2
              exact ⟨z1, z2, z3, z4⟩) (K1.of rfl rfl rfl rfl rfl rfl rfl rfl rfl rfl rfl rfl) a22 (t := 1) (by decide) (one (pcF h1 k))
            have cm2 : f_m_couldBe (nI (pkF h1 k)) (jshlL 1 (nI (pcF h1 k))) 1 (xI h1 7 k (nI q)) = some (CB (pkF h1 k) (NRx h1 nc) (h1.2 39 8) 1 (one (pcF h1 k))) := cm2
            rw [eN, ef, ek, ec, hS] at cm2
            obtain ⟨r, r1, r2⟩ := cOn_m (h := xI h1 7 k (nI q)) K2.1.1.2.1 K2.2.1.2.1 (nI q)
            have r3 : r = -9 := r2.mpr ((on_bit K2 hq.1).mpr (by simpa using hg.2))
            have b3 : f_m_isPerson (nI k) (xI h1 7 k (nI q)) = 1 := b'
            have b4 : f_m_isCell (nI q) (xI h1 7 k (nI q)) = 1 := b2'
            have a4' : (xI h1 7 k (nI q)).1 43 k = nI (pcF h k) := by rw [← ec]; exact a4
            have a6' : (xI h1 7 k (nI q)).1 44 k = nI (pkF h k) := by rw [← ek]; exact a6
            rw [b3, if_neg one_ne, b4, if_neg one_ne, xin_nI (n := 18) (by omega) (by decide), clampc (by omega), a4', a6', cm2, xbd1_some, tst_s hq.1, hg.1, if_neg (by decide), r1, xbd1_some, if_pos r3, a4, ec]
            rfl
          rw [F2, a4]
        · refine ⟨w, g, np, nc, nl, tk, no, K0.of rfl rfl rfl rfl, K1.of rfl rfl rfl rfl rfl rfl rfl rfl rfl rfl rfl rfl, ?_, ?_, ?_, K5.of rfl rfl rfl rfl rfl rfl rfl rfl rfl, K6.of rfl rfl rfl, K7, K8⟩
          · obtain ⟨⟨nn, ⟨e1, e2, e3, e4⟩, hp, hkk, hc, hl, hsaw, hln, hdist⟩, ⟨m1, m2, m3, m4⟩, hpf, hcf⟩ := id K2
            refine ⟨⟨nn, ⟨e1, e2, e3, e4⟩, fun i hi => ?_, hkk, hc, hl, hsaw, hln, hdist⟩, ⟨m1, m2, m3, m4⟩, fun i hi c2 hc2 e => ?_, hcf⟩
            · by_cases hi2 : i = k
              · subst hi2; exact ⟨q, hq, by simp [xI_1], by simp [xI_1]⟩
              · obtain ⟨c2, z1, z2, z3⟩ := hp i hi
                simp only [Nat.mul_zero, Nat.zero_add] at z3
                exact ⟨c2, z1, by simpa [xI_1, hi2] using z2, by simpa [xI_1, hi2] using z3⟩
            · by_cases hi2 : i = k
              · subst hi2
                simp [xI_1] at e
                have := (nI_eq (by have := hq.1; omega) (by omega)).mp e
                subst this
                show bq (h1.2 39 8) q = true
                rw [ef]; exact sS q hq.1 hg.1
              · simp [xI_1, hi2] at e
                exact hpf i hi c2 hc2 e
          · exact K3.of2 rfl (fun _ _ => rfl) (fun _ _ => rfl) (fun _ _ => rfl) (fun _ _ => rfl) (fun _ _ => rfl) (fun _ _ => rfl) (fun i hi => by simp [xI_1, show ¬ 6 + i = k by omega]) (fun _ _ => rfl) (fun _ _ => rfl) (fun _ _ => rfl) (fun _ _ => rfl) (fun _ _ => rfl) rfl rfl rfl rfl rfl
          · exact K4.of2 rfl (fun _ _ => rfl) (fun _ _ => rfl) (fun _ _ => rfl) (fun _ _ => rfl) (fun _ _ => rfl) (fun _ _ => rfl) (fun i hi => by simp [xI_1, show ¬ 12 + i = k by omega]) (fun _ _ => rfl) (fun _ _ => rfl) (fun _ _ => rfl) (fun _ _ => rfl) (fun _ _ => rfl) rfl rfl rfl rfl rfl
        · obtain hp | ⟨p1, p2, p3, p4, p5, p6, p7, p8, p9, p10⟩ := F.pk
          · exact Or.inl hp
          · exact Or.inr ⟨p1, p2, p3, p4, p5, p6, p7, p8, p9, p10⟩
      · rw [if_pos (cnd.mpr hg)]
        refine ⟨-2, h1, h1, rfl, ?_, F.rel Hrel, F.pk⟩
        rw [mm]
        by_cases g1 : bq S q = true
        · rw [if_pos g1]
          by_cases g2 : bq (rowSet h1 9 0 nc) q = true
          · rw [if_pos g2]
          · exact absurd ⟨g1, g2⟩ hg
        · rw [if_neg g1]
