/-! ===== could, anybody, walk, let ===== -/
def Ok3 {α : Type} (fx : Hp → Option (α × Hp)) (fm : Hp → Option α) : Prop := ∀ h, RelB h → ∃ r h1, fx h = some (r, h1) ∧ fm h1 = some r ∧ RelB h1 ∧ PK h h1
theorem or_0l (a : Int64) : 0 ||| a = a := by
  apply bq_ext; intro i _; rw [bq_or, bq_0, Bool.false_or]
theorem couldBe_x {h : Hp} {w g np nc nl tk : Nat} (HH : RHl h w g) (H : RNow h w g np nc nl tk) {i t : Nat} (hi : i < np) (ht : t ≤ 20) : ∃ h', f_x_couldBe (nI i) (nI t) h = some (CB (pkF h i) (NRx h nc) (h.2 39 8) t (one (pcF h i)), h') ∧ Fr h h' := by
  obtain ⟨⟨a1, a2⟩, ⟨a3, a4⟩, ⟨a5, a6⟩, a7, -⟩ := ppl H hi
  have n1 := H.1.1.1
  unfold f_x_couldBe
  rw [empty_x H.1.1.2.1 H.1.2.1.2.1, xbd1_some, xin_nI (n := 6) (by omega) (by decide), clampc (by omega)]
  simp only [Bool.and_true, xgd_true]
  have e3 : (CR h 0 0 0 0 (NRx h nc)).1 8 i = nI (pkF h i) := a5
  have e4 : (CR h 0 0 0 0 (NRx h nc)).1 7 i = nI (pcF h i) := a3
  rw [e3, e4, join_x _ _ _ _ _ _ a2]
  have e5 : (CR h (jn (pkF h i) 0 0 (jshlL 1 (nI (pcF h i)))) (jn (pkF h i) 1 0 (jshlL 1 (nI (pcF h i)))) (jn (pkF h i) 2 0 (jshlL 1 (nI (pcF h i)))) (jn (pkF h i) 3 0 (jshlL 1 (nI (pcF h i)))) (NRx h nc)).2 2 5 = h.2 39 8 := HH.2.2.2.1.1
  rw [e5]
  have s1 : sub (one (pcF h i)) (h.2 39 8) := by
    intro q hq e
    rw [bq_onec a1 hq, decide_eq_true_eq] at e
    rw [e]; exact a7
  have s2 : ∀ j, sub (jn (pkF h i) j 0 (jshlL 1 (nI (pcF h i)))) (h.2 39 8) := by
    intro j
    unfold jn
    by_cases e : pkF h i = j
    · rw [if_pos e, or_0l]; exact s1
    · rw [if_neg e]; intro q hq e; rw [bq_0] at e; cases e
  rw [after_x _ _ _ _ _ _ ht (s2 1) (s2 2), xbd2_some]
  have val : ((jn (pkF h i) 0 0 (jshlL 1 (nI (pcF h i))) ||| CB 1 (NRx h nc) (h.2 39 8) t (jn (pkF h i) 1 0 (jshlL 1 (nI (pcF h i))))) ||| CB 2 (NRx h nc) (h.2 39 8) t (jn (pkF h i) 2 0 (jshlL 1 (nI (pcF h i))))) ||| CB 3 (NRx h nc) (h.2 39 8) t (jn (pkF h i) 3 0 (jshlL 1 (nI (pcF h i)))) = CB (pkF h i) (NRx h nc) (h.2 39 8) t (one (pcF h i)) := by
    unfold jn
    clear e3 e4 e5 s2 a5 a6
    generalize hk : pkF h i = k at *
    match k, a2 with
    | 0, _ => simp [CB_0, CB_k0, or_0, or_0l]; rfl
    | 1, _ => simp [CB_0, or_0, or_0l]; rfl
    | 2, _ => simp [CB_0, or_0, or_0l]; rfl
    | 3, _ => simp [CB_0, or_0, or_0l]; rfl
  rw [val]
  exact ⟨_, rfl, Fr.CR h _ _ _ _ _⟩
theorem ok_could (i t : Int32) : Ok3 (f_x_could i t) (f_m_could i t) := by
  rintro h ⟨w, g, np, nc, nl, tk, no, H⟩
  have Hrel : RelB h := ⟨w, g, np, nc, nl, tk, no, H⟩
  obtain ⟨H0, H1, H2, H3, H4, H5, H6, H7, H8⟩ := id H
  unfold f_x_could
  rcases isPerson_cases H2.1.1.1 H2.1.2.1.1 H2.2.1.1 i with ⟨a, b⟩ | ⟨k, hk, rfl, a, b⟩
  · rw [a, if_pos rfl]
    exact ⟨-1, h, rfl, by unfold f_m_could; rw [b, if_pos rfl], Hrel, PK.rf h⟩
  · rw [a, if_neg one_ne]
    rcases range0 20 (by decide) t with ⟨z, y⟩ | ⟨v, v9, rfl, y, z1, z2⟩
    · refine ⟨-1, h, ?_, by unfold f_m_could; rw [b, if_neg one_ne, y, if_pos rfl], Hrel, PK.rf h⟩
      rcases z with z | z
      · rw [if_pos z]
      · by_cases z2 : t < 0
        · rw [if_pos z2]
        · rw [if_neg z2, if_neg z]
    · rw [if_neg z1, if_pos z2]
      obtain ⟨h', q1, q2⟩ := couldBe_x H1 H2 hk v9
      rw [q1, xbd2_some]
      refine ⟨_, h', rfl, ?_, q2.rel Hrel, q2.pk⟩
      obtain ⟨K0, K1, K2, -⟩ := q2.rb H
      obtain ⟨⟨a1, a2⟩, ⟨a3, a4⟩, ⟨a5, a6⟩, a7, -⟩ := ppl H2 hk
      have n1 := H2.1.1.1
      unfold f_m_could
      have b' : f_m_isPerson (nI k) h' = 1 := by
        have : f_m_isPerson (nI k) h' = f_m_isPerson (nI k) h := by unfold f_m_isPerson; rw [q2.1]
        rw [this, b]
      rw [b', if_neg one_ne, y, if_neg one_ne, xin_nI (n := 18) (by omega) (by decide), clampc (by omega), q2.1, a4, a6, couldBe_m (nearOf K2) K1 a2 v9, xbd1_some, q2.2 39 (by decide) (by decide) (by decide)]
      have : NRx h' nc = NRx h nc := by unfold NRx; rw [q2.1]
      rw [this]; rfl
theorem csF_fr {h h' : Hp} (F : Fr h h') (k : Nat) : csF h' k = csF h k := by unfold csF; rw [F.1]
theorem ANY_fr {h h' : Hp} (F : Fr h h') (w g np nc k t : Nat) : ANY h' w g np nc k t = ANY h w g np nc k t := by
  unfold ANY seenC NRx csF pcF pkF
  rw [F.1, F.2 39 (by decide) (by decide) (by decide)]
theorem anybody_m {h : Hp} {w g np nc nl tk : Nat} (HH : RHl h w g) (H : RNow h w g np nc nl tk) {k t : Nat} (hk : k < nc) (ht : t ≤ 20) : xbd1 (f_m_seenCould (nI k) (nI t) h) (fun v_7 => xbd1 (f_m_unseenCould (nI k) (nI t) h) fun v_9 => some (v_7 ||| v_9)) = some (ANY h w g np nc k t) := by
  rw [seenCould_m HH H hk ht, xbd1_some, unseenCould_m HH H hk ht, xbd1_some]; rfl
theorem CRA_fr (h : Hp) (w g np nc k t : Nat) : Fr h (CRA h w g np nc k t) := Fr.CR h _ _ _ _ _
theorem CRA_25 {h : Hp} {w g : Nat} (HH : RHl h w g) (np nc k t : Nat) : (CRA h w g np nc k t).2 2 5 = h.2 39 8 := HH.2.2.2.1.1
theorem isCarrier_fr {h h' : Hp} (F : Fr h h') (i : Int32) : f_m_isCarrier i h' = f_m_isCarrier i h := by unfold f_m_isCarrier; rw [F.1]
theorem ok_anybody (i t : Int32) : Ok3 (f_x_anybody i t) (f_m_anybody i t) := by
  rintro h ⟨w, g, np, nc, nl, tk, no, H⟩
  have Hrel : RelB h := ⟨w, g, np, nc, nl, tk, no, H⟩
  obtain ⟨H0, H1, H2, H3, H4, H5, H6, H7, H8⟩ := id H
  unfold f_x_anybody
  rcases isCarrier_cases H2.1.1.2.1 H2.1.2.1.2.1 H2.2.1.2.1 i with ⟨a, b⟩ | ⟨k, hk, rfl, a, b⟩
  · rw [a, if_pos rfl]
    exact ⟨-1, h, rfl, by unfold f_m_anybody; rw [b, if_pos rfl], Hrel, PK.rf h⟩
  · rw [a, if_neg one_ne]
    rcases range0 20 (by decide) t with ⟨z, y⟩ | ⟨v, v9, rfl, y, z1, z2⟩
    · refine ⟨-1, h, ?_, by unfold f_m_anybody; rw [b, if_neg one_ne, y, if_pos rfl], Hrel, PK.rf h⟩
      rcases z with z | z
      · rw [if_pos z]
      · by_cases z2 : t < 0
        · rw [if_pos z2]
        · rw [if_neg z2, if_neg z]
    · rw [if_neg z1, if_pos z2, gatherAny_x H1 H2 hk, xbd1_some, CRA_25 H1, afterAny_x H2 k 0 v9, xbd2_some]
      have F := CRA_fr h w g np nc k (0 + v)
      refine ⟨_, _, rfl, ?_, F.rel Hrel, F.pk⟩
      obtain ⟨K0, K1, K2, -⟩ := F.rb H
      unfold f_m_anybody
      rw [isCarrier_fr F, b, if_neg one_ne, y, if_neg one_ne, anybody_m K1 K2 hk v9, ANY_fr F, Nat.zero_add]
/-! why a move is not let -/
def WHY (h : Hp) (w g np nc k m : Nat) : Nat := if m = 4 then 0 else match nbw w g (csF h k) m with
  | none => 1
  | some o => if bq (h.2 39 8) o then (if bq (rowSet h 9 0 nc) o then 2 else if bq (seenC h (NRx h nc) (h.2 39 8) (SEE w g (h.2 39 8) (csF h k)) 1 np) o then 3 else if bq (CB 1 (NRx h nc) (h.2 39 8) 1 (h.2 39 8 &&& (SEE w g (h.2 39 8) (csF h k) ^^^ -1))) o then 4 else 0) else 1
theorem WHY_fr {h h' : Hp} (F : Fr h h') (w g np nc k m : Nat) : WHY h' w g np nc k m = WHY h w g np nc k m := by
  unfold WHY seenC NRx csF pcF pkF rowSet
  rw [F.1, F.2 39 (by decide) (by decide) (by decide)]
theorem WHY_5 (h : Hp) (w g np nc k m : Nat) : WHY h w g np nc k m < 5 := by
  unfold WHY
  split
  · decide
  · split
    · decide
    · split
      · split
        · decide
        · split
          · decide
          · split <;> decide
      · decide
theorem why_m {h : Hp} {w g np nc nl tk : Nat} (HH : RHl h w g) (H : RNow h w g np nc nl tk) {k m : Nat} (hk : k < nc) (hm : m ≤ 4) : f_m_why (nI k) (nI m) h = some (nI (WHY h w g np nc k m)) := by
  have n2 := H.1.1.2.1
  obtain ⟨c1, ⟨c2, c3⟩, c4⟩ := car H hk
  obtain ⟨⟨w1, w2, g1, g2⟩, ⟨e1, e2⟩, -⟩ := id HH
  unfold f_m_why WHY
  by_cases h4 : m = 4
  · subst h4; rw [if_pos (show nI 4 = (4 : Int32) from rfl), if_pos rfl]; rfl
  · rw [if_neg (neL 4 h4 (by omega)), if_neg h4, xin_nI (n := 6) (by omega) (by decide), clampc (by omega), c3, m_beside e1 e2 (by omega) (by omega) c1.1 (by omega)]
    simp only [Bool.and_true, xgd_true]
    cases hn : nbw w g (csF h k) m with
    | none => rw [if_pos (show encI none = (-9 : Int32) from rfl)]; rfl
    | some o =>
      have ho := nbr_lt64 c1.1 (by omega) (nbw_some hn).1
      rw [if_neg (encI_9 ho)]
      show (if f_m_isFree (nI o) h = 0 then some 1 else xbd1 (f_m_carrierOn (nI o) h) _) = _
      rw [isFree_m ho]
      cases hb : bq (h.2 39 8) o with
      | false => rw [if_pos (show bI false = 0 from rfl)]; simp only [hb]; rfl
      | true =>
        rw [if_neg (show ¬ bI true = 0 by decide)]
        obtain ⟨r, r1, r2, r3⟩ := on_iff H ho
        rw [r1, xbd1_some]
        simp only [hb, if_true]
        cases hbt : bq (rowSet h 9 0 nc) o with
        | true => rw [if_neg (fun z => by rw [r2, hbt] at z; cases z)]; rfl
        | false =>
          have s1 := seenCould_m HH H hk (t := 1) (by decide)
          have s2 := unseenCould_m HH H hk (t := 1) (by decide)
          have s1 : f_m_seenCould (nI k) 1 h = _ := s1
          have s2 : f_m_unseenCould (nI k) 1 h = _ := s2
          rw [if_pos (r2.mpr hbt), s1, xbd1_some]
          show (if lg_cmp (jshrL _ (nI o) &&& 1) 1 = 0 then some 3 else _) = _
          rw [tst_s ho]
          cases hs : bq (seenC h (NRx h nc) (h.2 39 8) (SEE w g (h.2 39 8) (csF h k)) 1 np) o with
          | true => rw [if_pos (by decide)]; rfl
          | false =>
            rw [if_neg (by decide), s2, xbd1_some]
            show some (if lg_cmp (jshrL _ (nI o) &&& 1) 1 = 0 then (4 : Int32) else 0) = _
            rw [tst_s ho]
            cases hu : bq (CB 1 (NRx h nc) (h.2 39 8) 1 (h.2 39 8 &&& (SEE w g (h.2 39 8) (csF h k) ^^^ -1))) o with
            | true => rfl
            | false => rfl
theorem encL_free {h : Hp} {w g : Nat} (HH : RHl h w g) {c m : Nat} (hc : c < 64) (hm : m < 4) : f_x_shifted (jshlL 1 (nI c)) (nI m) &&& h.2 2 5 = (match nbw w g c m with
  | some o => if bq (h.2 39 8) o then one o else 0
  | none => 0) := by
  have e := shifted_one hc hm
  unfold one at e
  rw [e, HH.2.2.2.1.1]
  have hsub := HH.2.2.2.1.2
  cases hn : nbr c m with
  | none =>
    have : nbw w g c m = none := by unfold nbw; rw [hn]
    rw [this]
    apply bq_ext; intro i _; show bq (0 &&& _) i = _; rw [bq_and, bq_0]; rfl
  | some o =>
    have ho := nbr_lt64 hc hm hn
    show one o &&& h.2 39 8 = _
    rw [one_and ho]
    cases hb : bq (h.2 39 8) o with
    | true =>
      have hh := hsub o ho hb
      have : nbw w g c m = some o := by unfold nbw; rw [hn]; simp [inHall, hh.1, hh.2]
      rw [this]; simp [hb]
    | false =>
      unfold nbw
      rw [hn]
      by_cases hh : inHall w g o = true
      · simp [hh, hb]
      · simp [hh]
theorem one_and1 {c : Nat} (hc : c < 64) (v : Int64) : lg_cmp (one c &&& v) 0 = 0 ↔ bq v c = false := one_and0 hc
theorem one_c0 {c : Nat} (hc : c < 64) : ¬ lg_cmp (one c) 0 = 0 := fun z => one_ne0 hc (lg_eq.mp z)
theorem why_x {h : Hp} {w g np nc nl tk no : Nat} (HB : RB h w g np nc nl tk no) {k m : Nat} (hk : k < nc) (hm : m ≤ 4) : ∃ h', f_x_whyNot (nI k) (nI m) h = some (nI (WHY h w g np nc k m), h') ∧ Fr h h' := by
  obtain ⟨-, HH, H, -⟩ := id HB
  have n2 := H.1.1.2.1
  obtain ⟨c1, ⟨c2, c3⟩, c4⟩ := car H hk
  unfold f_x_whyNot WHY
  by_cases h4 : m = 4
  · subst h4; rw [if_pos (show nI 4 = (4 : Int32) from rfl), if_pos rfl]; exact ⟨h, rfl, Fr.rf h⟩
  · rw [if_neg (neL 4 h4 (by omega)), if_neg h4, xin_nI (n := 2) (by omega) (by decide), clampc (by omega), c2, encL_free HH c1.1 (by omega)]
    simp only [Bool.and_true, xgd_true]
    cases hn : nbw w g (csF h k) m with
    | none => refine ⟨h, ?_, Fr.rf h⟩; rw [if_pos (show lg_cmp 0 0 = 0 from rfl)]; rfl
    | some o =>
      have ho := nbr_lt64 c1.1 (by omega) (nbw_some hn).1
      simp only
      by_cases hb : bq (h.2 39 8) o = true
      rotate_left
      · refine ⟨h, ?_, Fr.rf h⟩; simp only [if_neg hb]; rw [if_pos (show lg_cmp 0 0 = 0 from rfl)]; rfl
      · simp only [if_pos hb]
        rw [if_neg (one_c0 ho), cTaken_x n2 H.1.2.1.2.1, xbd1_some]
        cases hbt : bq (rowSet h 9 0 nc) o with
        | true => refine ⟨h, ?_, Fr.rf h⟩; rw [if_neg (fun z => by rw [one_and1 ho, hbt] at z; cases z)]; rfl
        | false =>
          rw [if_pos ((one_and1 ho _).mpr hbt), seenBy_x HH H hk, xbd1_some, gather_x H, xbd1_some]
          generalize hS : SEE w g (h.2 39 8) (csF h k) = seen
          have e : (CR h (GK h seen 0 np) (GK h seen 1 np) (GK h seen 2 np) (GK h seen 3 np) (NRx h nc)).2 2 5 = h.2 39 8 := HH.2.2.2.1.1
          have ax := after_x h (GK h seen 0 np) (GK h seen 1 np) (GK h seen 2 np) (GK h seen 3 np) (NRx h nc) (t := 1) (by decide) (GK_sub H seen 1) (GK_sub H seen 2)
          have ax : f_crowd_afterTicks 1 (h.2 39 8) _ = _ := ax
          rw [e, ax, xbd2_some, seen_eq H _ _ _ _ np (Nat.le_refl _)]
          generalize hh1 : CR h (GK h seen 0 np) (CB 1 (NRx h nc) (h.2 39 8) 1 (GK h seen 1 np)) (CB 2 (NRx h nc) (h.2 39 8) 1 (GK h seen 2 np)) (CB 3 (NRx h nc) (h.2 39 8) 1 (GK h seen 3 np)) (NRx h nc) = h1
          have F : Fr h h1 := by subst hh1; exact Fr.CR h _ _ _ _ _
          cases hs : bq (seenC h (NRx h nc) (h.2 39 8) seen 1 np) o with
          | true => refine ⟨h1, ?_, F⟩; rw [if_neg (fun z => by rw [one_and1 ho, hs] at z; cases z)]; rfl
          | false =>
            obtain ⟨-, K1, K2, -⟩ := F.rb HB
            have e39 := F.2 39 (by decide) (by decide) (by decide)
            rw [if_pos ((one_and1 ho _).mpr hs), gatherAny_x K1 K2 hk, xbd1_some, CRA_25 K1]
            have ay := afterAny_x K2 k 0 (s := 1) (by decide)
            have ay : f_crowd_afterTicks 1 _ _ = _ := ay
            rw [ay, xbd2_some]
            refine ⟨_, ?_, F.tr (CRA_fr h1 w g np nc k (0 + 1))⟩
            congr 2
            rw [ANY_fr F]
            have ea : bq (ANY h w g np nc k (0 + 1)) o = bq (CB 1 (NRx h nc) (h.2 39 8) 1 (h.2 39 8 &&& (seen ^^^ -1))) o := by
              unfold ANY
              rw [hS, bq_or, hs, Bool.false_or]
            cases hu : bq (CB 1 (NRx h nc) (h.2 39 8) 1 (h.2 39 8 &&& (seen ^^^ -1))) o with
            | true => rw [hu] at ea; rw [if_neg (fun z => by rw [one_and1 ho, ea] at z; cases z)]; rfl
            | false => rw [hu] at ea; rw [if_pos ((one_and1 ho _).mpr ea)]; rfl
