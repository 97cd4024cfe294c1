/-! ===== act: the reference's why where the class has moved already ===== -/
def MP (h : Hp) (w g np nc : Nat) (N : Nat → Int64) (T : Int64) : Prop := np ≤ 6 ∧ h.1 39 12 = nI np ∧ NearOf h nc (csF h) N ∧ (∀ i, i < np → (pcF h i < 64 ∧ pkF h i < 4) ∧ h.1 43 i = nI (pcF h i) ∧ h.1 44 i = nI (pkF h i)) ∧ (∀ k, k < nc → cellIn w g (csF h k)) ∧ ∀ o, o < 64 → ((∀ k, k < nc → h.1 45 k ≠ nI o) ↔ bq T o = false)
theorem mp {h : Hp} {w g np nc nl tk : Nat} (H : RNow h w g np nc nl tk) : MP h w g np nc (NRx h nc) (rowSet h 9 0 nc) := by
  refine ⟨H.1.1.1, H.2.1.1, nearOf H, fun i hi => ?_, fun k hk => (car H hk).1, fun o ho => on_bit H ho⟩
  obtain ⟨a, ⟨b1, b2⟩, ⟨c1, c2⟩, -⟩ := ppl H hi
  exact ⟨a, b2, c2⟩
def WHYg (h : Hp) (N : Nat → Int64) (T : Int64) (w g np k m : Nat) : Nat := if m = 4 then 0 else match nbw w g (csF h k) m with
  | none => 1
  | some o => if bq (h.2 39 8) o then (if bq T o then 2 else if bq (seenC h N (h.2 39 8) (SEE w g (h.2 39 8) (csF h k)) 1 np) o then 3 else if bq (CB 1 N (h.2 39 8) 1 (h.2 39 8 &&& (SEE w g (h.2 39 8) (csF h k) ^^^ -1))) o then 4 else 0) else 1
theorem WHY_g (h : Hp) (w g np nc k m : Nat) : WHY h w g np nc k m = WHYg h (NRx h nc) (rowSet h 9 0 nc) w g np k m := rfl
theorem WHYg_of {h h' : Hp} (e1 : h'.1 43 = h.1 43) (e2 : h'.1 44 = h.1 44) (e3 : h'.1 45 = h.1 45) (e4 : h'.2 39 8 = h.2 39 8) (N : Nat → Int64) (T : Int64) (w g np k m : Nat) : WHYg h' N T w g np k m = WHYg h N T w g np k m := by
  unfold WHYg seenC csF pcF pkF
  rw [e1, e2, e3, e4]
theorem MP.of {h h' : Hp} {w g np nc : Nat} {N : Nat → Int64} {T : Int64} (H : MP h w g np nc N T) (e1 : h'.1 43 = h.1 43) (e2 : h'.1 44 = h.1 44) (e3 : h'.1 45 = h.1 45) (e4 : h'.1 39 12 = h.1 39 12) (e5 : h'.1 39 15 = h.1 39 15) : MP h' w g np nc N T := by
  unfold MP NearOf csF pcF pkF at *
  rw [e1, e2, e3, e4, e5]; exact H
theorem seenCould_g {h : Hp} {w g np nc : Nat} {N : Nat → Int64} {T : Int64} (HH : RHl h w g) (H : MP h w g np nc N T) {k t : Nat} (hk : k < nc) (ht : t ≤ 20) : f_m_seenCould (nI k) (nI t) h = some (seenC h N (h.2 39 8) (SEE w g (h.2 39 8) (csF h k)) t np) := by
  obtain ⟨n1, m1, HN, hp, hc, -⟩ := H
  have n2 := HN.1
  have c1 := hc k hk
  have c3 := (HN.2.2.1 k hk).2
  unfold f_m_seenCould
  rw [xin_nI (n := 6) (by omega) (by decide), clampc (by omega), c3, seen_m HH c1]
  simp only [Bool.and_true, xgd_true, xbd1_some]
  generalize SEE w g (h.2 39 8) (csF h k) = seen
  refine lp0 (fun f s => f_m_seenCould_L_3 (nI t) seen h (fun l5_12 l7_13 => some l5_12) f s.1 s.2) np (fun i => (seenC h N (h.2 39 8) seen t i, nI i)) _ (by omega) (fun f => ?_) (fun f i hi => ?_)
  · simp only
    rw [f_m_seenCould_L_3, m1, if_pos ((leN (by omega) (by omega)).mpr (Nat.le_refl _))]
  · simp only
    obtain ⟨⟨a1, a2⟩, a4, a6⟩ := hp i hi
    rw [f_m_seenCould_L_3, m1, if_neg (fun q => absurd ((leN (by omega) (by omega)).mp q) (by omega)), xin_nI (n := 18) (by omega) (by decide), clampc (by omega), nI_1, a4, a6, tst_s a1, couldBe_m HN HH a2 ht]
    simp only [Bool.and_true, xgd_true, xbd1_some]
    show _ = f_m_seenCould_L_3 (nI t) seen h _ f (seenC h N (h.2 39 8) seen t i ||| (if bq seen (pcF h i) then CB (pkF h i) N (h.2 39 8) t (one (pcF h i)) else 0)) (nI (i + 1))
    cases bq seen (pcF h i) with
    | false => rw [if_pos (by decide)]; rfl
    | true => rw [if_neg (by decide)]; rfl
theorem unseenCould_g {h : Hp} {w g np nc : Nat} {N : Nat → Int64} {T : Int64} (HH : RHl h w g) (H : MP h w g np nc N T) {k t : Nat} (hk : k < nc) (ht : t ≤ 20) : f_m_unseenCould (nI k) (nI t) h = some (CB 1 N (h.2 39 8) t (h.2 39 8 &&& (SEE w g (h.2 39 8) (csF h k) ^^^ -1))) := by
  obtain ⟨n1, m1, HN, hp, hc, -⟩ := H
  have n2 := HN.1
  have c1 := hc k hk
  have c3 := (HN.2.2.1 k hk).2
  unfold f_m_unseenCould
  rw [xin_nI (n := 6) (by omega) (by decide), clampc (by omega), c3, seen_m HH c1]
  simp only [Bool.and_true, xgd_true, xbd1_some]
  have := couldBe_m HN HH (k := 1) (by decide) ht (h.2 39 8 &&& (SEE w g (h.2 39 8) (csF h k) ^^^ -1))
  have this : f_m_couldBe 1 (h.2 39 8 &&& (SEE w g (h.2 39 8) (csF h k) ^^^ -1)) (nI t) h = _ := this
  rw [this, xbd1_some]
theorem why_g {h : Hp} {w g np nc : Nat} {N : Nat → Int64} {T : Int64} (HH : RHl h w g) (H : MP h w g np nc N T) {k m : Nat} (hk : k < nc) (hm : m ≤ 4) : f_m_why (nI k) (nI m) h = some (nI (WHYg h N T w g np k m)) := by
  obtain ⟨n1, m1, HN, hp, hc, hT⟩ := id H
  have n2 := HN.1
  have c1 := hc k hk
  have c3 := (HN.2.2.1 k hk).2
  obtain ⟨⟨w1, w2, g1, g2⟩, ⟨e1, e2⟩, -⟩ := id HH
  unfold f_m_why WHYg
  by_cases h4 : m = 4
  · subst h4; rw [if_pos (show nI 4 = (4 : Int32) from rfl), if_pos rfl]; rfl
  · rw [if_neg (neL 4 h4 (by omega)), if_neg h4, xin_nI (n := 6) (by omega) (by decide), clampc (by omega), c3, m_beside e1 e2 (by omega) (by omega) c1.1 (by omega)]
    simp only [Bool.and_true, xgd_true]
    cases hn : nbw w g (csF h k) m with
    | none => rw [if_pos (show encI none = (-9 : Int32) from rfl)]; rfl
    | some o =>
      have ho := nbr_lt64 c1.1 (by omega) (nbw_some hn).1
      rw [if_neg (encI_9 ho)]
      show (if f_m_isFree (nI o) h = 0 then some 1 else xbd1 (f_m_carrierOn (nI o) h) _) = _
      rw [isFree_m ho]
      cases hb : bq (h.2 39 8) o with
      | false => rw [if_pos (show bI false = 0 from rfl)]; simp only [hb]; rfl
      | true =>
        rw [if_neg (show ¬ bI true = 0 by decide)]
        obtain ⟨r, r1, r2⟩ := cOn_m n2 HN.2.1 (nI o)
        rw [hT o ho] at r2
        rw [r1, xbd1_some]
        simp only [hb, if_true]
        cases hbt : bq T o with
        | true => rw [if_neg (fun z => by rw [r2, hbt] at z; cases z)]; rfl
        | false =>
          have s1 := seenCould_g HH H hk (t := 1) (by decide)
          have s2 := unseenCould_g HH H hk (t := 1) (by decide)
          have s1 : f_m_seenCould (nI k) 1 h = _ := s1
          have s2 : f_m_unseenCould (nI k) 1 h = _ := s2
          rw [if_pos (r2.mpr hbt), s1, xbd1_some]
          show (if lg_cmp (jshrL _ (nI o) &&& 1) 1 = 0 then some 3 else _) = _
          rw [tst_s ho]
          cases hs : bq (seenC h N (h.2 39 8) (SEE w g (h.2 39 8) (csF h k)) 1 np) o with
          | true => rw [if_pos (by decide)]; rfl
          | false =>
            rw [if_neg (by decide), s2, xbd1_some]
            show some (if lg_cmp (jshrL _ (nI o) &&& 1) 1 = 0 then (4 : Int32) else 0) = _
            rw [tst_s ho]
            cases hu : bq (CB 1 N (h.2 39 8) 1 (h.2 39 8 &&& (SEE w g (h.2 39 8) (csF h k) ^^^ -1))) o with
            | true => rfl
            | false => rfl
theorem mul5L (n : Nat) {a : Nat} : (5 : Int32) * nI a + (OfNat.ofNat n : Int32) = nI (5 * a + n) := mul5
theorem mul50 {a : Nat} : (5 : Int32) * nI a = nI (5 * a) := by rw [nI_lit 5, pk_mul]
/-- a line more -/
def ln5 (h : Hp) (a o : Nat) (v0 v1 v2 v3 v4 : Int32) : Hp := xI (xI (xI (xI (xI h a o v0) a (o + 1) v1) a (o + 2) v2) a (o + 3) v3) a (o + 4) v4
theorem ln5_x {h : Hp} {nl k : Nat} (e : h.1 6 8 = nI nl) (hn : nl < 100) (hk : k < 2) (m y : Int32) : f_scene_addLine_6 (nI k) m y h = some (xI (ln5 h 12 (5 * nl) (h.1 6 9) (nI k) m (h.1 9 k) y) 6 8 (nI nl + 1)) := by
  unfold f_scene_addLine_6 ln5
  rw [e, mul5L 1, mul5L 2, mul5L 3, mul5L 4, mul50, xin_nI (n := 500) (by omega) (by decide), xin_nI (n := 500) (by omega) (by decide), xin_nI (n := 500) (by omega) (by decide), xin_nI (n := 500) (by omega) (by decide), xin_nI (n := 500) (by omega) (by decide), xin_nI (n := 2) (by omega) (by decide), clampc (by omega), clampc (by omega), clampc (by omega), clampc (by omega), clampc (by omega), clampc (by omega)]
  rfl
theorem ln5_at (h : Hp) (a o : Nat) (v0 v1 v2 v3 v4 : Int32) (j : Nat) : (ln5 h a o v0 v1 v2 v3 v4).1 a j = if j = o then v0 else if j = o + 1 then v1 else if j = o + 2 then v2 else if j = o + 3 then v3 else if j = o + 4 then v4 else h.1 a j := by
  simp only [ln5, xI_1]
  by_cases h0 : j = o
  · subst h0
    simp
  · by_cases h1 : j = o + 1
    · subst h1; simp
    · by_cases h2 : j = o + 2
      · subst h2; simp
      · by_cases h3 : j = o + 3
        · subst h3; simp
        · by_cases h4 : j = o + 4
          · subst h4; simp
          · simp [h0, h1, h2, h3, h4]
