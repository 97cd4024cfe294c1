/-! ===== the choice of sets, both ===== -/
theorem all_and0 : ∀ no, no < 7 → ∀ S, S < 64 → decide (S < 2 ^ no) = true → nI (2 ^ no - 1) &&& (nI S ^^^ (-1 : Int32)) = nI (2 ^ no - 1 - S) ∧ nI (2 ^ no - 1) ^^^ nI S = nI (2 ^ no - 1 - S) := by decide +kernel
theorem all_and {no S : Nat} (hn : no ≤ 6) (hS : S < 2 ^ no) : nI (2 ^ no - 1) &&& (nI S ^^^ (-1 : Int32)) = nI (2 ^ no - 1 - S) ∧ nI (2 ^ no - 1) ^^^ nI S = nI (2 ^ no - 1 - S) := all_and0 no (by omega) S (by have := two64 hn; omega) (decide_eq_true hS)
def vv (C : Nat → Nat → Nat) (T du : Nat → Nat) (tk no nc S : Nat) : Nat := Lm C T du tk no 0 (2 ^ no - 1 - S) + (if 1 < nc then Lm C T du tk no 1 S else 0)
def nn (no nc : Nat) : Nat := if 1 < nc then 2 ^ no else 1
def SB (C : Nat → Nat → Nat) (T du : Nat → Nat) (tk no nc : Nat) : Nat := fm (vv C T du tk no nc) (nn no nc)
theorem nn_pos (no nc : Nat) : 0 < nn no nc := by
  unfold nn
  have := Nat.two_pow_pos no
  split <;> omega
theorem SB_lt (C : Nat → Nat → Nat) (T du : Nat → Nat) (tk no nc : Nat) : SB C T du tk no nc < 2 ^ no := by
  have h1 := (fm_spec (vv C T du tk no nc) (nn no nc) (nn_pos no nc)).1
  have h2 : nn no nc ≤ 2 ^ no := by
    unfold nn
    have := Nat.two_pow_pos no
    split <;> omega
  unfold SB; omega
theorem els_0 : ∀ n, els 0 n = [] := by
  intro n
  induction n with
  | zero => rfl
  | succ n ih => rw [els, Nat.zero_testBit, if_neg (by decide), ih]
theorem best_0 (C : Nat → Nat → Nat) (T du : Nat → Nat) (tk no k : Nat) : bestT C T du tk no k 0 = [] := by
  unfold bestT; rw [els_0]; rfl
theorem Lm_0 (C : Nat → Nat → Nat) (T du : Nat → Nat) (tk no k : Nat) : Lm C T du tk no k 0 = 0 := by
  unfold Lm; rw [best_0]; rfl
theorem best_len (C : Nat → Nat → Nat) (T du : Nat → Nat) (tk no k S : Nat) : (bestT C T du tk no k S).length = (els S no).length := pm_len _ _ _
/-- what the reference keeps of its plan -/
def MPl (h : Hp) (k : Nat) (t : List Nat) : Prop := (∀ i, i < t.length → h.1 58 (6 * k + i) = nI (nth t i)) ∧ h.1 59 k = nI t.length
theorem find_m {h : Hp} {no nc tk : Nat} {C : Nat → Nat → Nat} {T du : Nat → Nat} (H : LIn h no nc tk C T du) (hc : 0 < nc) : ∃ h', f_m_findLate h = some (nI (vv C T du tk no nc (SB C T du tk no nc)), h') ∧ F58 h h' ∧ MPl h' 0 (bestT C T du tk no 0 (2 ^ no - 1 - SB C T du tk no nc)) ∧ (1 < nc → MPl h' 1 (bestT C T du tk no 1 (SB C T du tk no nc))) := by
  obtain ⟨⟨n6, c2, t1⟩, ⟨e25, e15, -⟩, -⟩ := id H
  have h64 := two64 n6
  have p2 := Nat.two_pow_pos no
  have nn64 : nn no nc ≤ 64 := by unfold nn; split <;> omega
  have nnle : nn no nc ≤ 2 ^ no := by unfold nn; split <;> omega
  have np := nn_pos no nc
  unfold f_m_findLate
  rw [e25, all_no no (by omega)]
  have lim : ∀ {h1 : Hp}, F58 h h1 → (if h1.1 39 15 ≤ (1 : Int32) then (0 : Int32) else nI (2 ^ no - 1)) = nI (nn no nc - 1) := by
    intro h1 F
    rw [F.2 39 (by decide) (by decide) (by decide) (by decide), e15]
    unfold nn
    by_cases q : 1 < nc
    · rw [if_neg (show ¬ nI nc ≤ (1 : Int32) from fun z => absurd ((leN (a := nc) (b := 1) (by omega) (by omega)).mp z) (by omega)), if_pos q]
    · rw [if_pos (show nI nc ≤ (1 : Int32) from (leN (a := nc) (b := 1) (by omega) (by omega)).mpr (by omega)), if_neg q]; rfl
  have one15 : ∀ {h1 : Hp}, F58 h h1 → (h1.1 39 15 ≤ (1 : Int32) ↔ ¬ 1 < nc) := by
    intro h1 F
    rw [F.2 39 (by decide) (by decide) (by decide) (by decide), e15]
    exact (leN (a := nc) (b := 1) (by omega) (by omega)).trans (by omega)
  obtain ⟨s1, ⟨p1, p2', p3, p4⟩, E⟩ := lpX (fun f (s : Int32 × Int32 × Int32 × Hp) => f_m_findLate_L_1 (nI (2 ^ no - 1)) (fun l2_23 l3_24 l4_25 h_26 =>
    xbd2 (f_m_leastOf (0 : Int32) ((nI (2 ^ no - 1)) &&& (l3_24 ^^^ (-1 : Int32))) (1 : Int32) h_26) fun v_29 h_28 =>
    if (h_28.1 39 15) ≤ (1 : Int32) then
      some (l2_23, h_28)
    else
      xbd2 (f_m_leastOf (1 : Int32) l3_24 (1 : Int32) h_28) fun v_34 h_33 =>
      some (l2_23, h_33)) f s.1 s.2.1 s.2.2.1 s.2.2.2) (nn no nc) (fun i s => (i = 0 → s.1 = -9 ∧ s.2.1 = 0) ∧ (0 < i → s.1 = nI (vv C T du tk no nc (fm (vv C T du tk no nc) i)) ∧ vv C T du tk no nc (fm (vv C T du tk no nc) i) ≤ 24000 ∧ s.2.1 = nI (fm (vv C T du tk no nc) i)) ∧ s.2.2.1 = nI i ∧ F58 h s.2.2.2) (fun s => xbd2 (f_m_leastOf (0 : Int32) ((nI (2 ^ no - 1)) &&& (s.2.1 ^^^ (-1 : Int32))) (1 : Int32) s.2.2.2) fun v_29 h_28 =>
    if (h_28.1 39 15) ≤ (1 : Int32) then
      some (s.1, h_28)
    else
      xbd2 (f_m_leastOf (1 : Int32) s.2.1 (1 : Int32) h_28) fun v_34 h_33 =>
      some (s.1, h_33)) (fun f s hs => by
    obtain ⟨q1, q2, q3, q4⟩ := hs
    rw [f_m_findLate_L_1, lim q4, q3, if_pos ((ltN (by omega) (by omega)).mpr (by omega))]) (fun f i s hi hs => by
    obtain ⟨q1, q2, q3, q4⟩ := hs
    have H' := H.of q4
    obtain ⟨h1, E1, F1, L1, K1⟩ := least_m H' (k := 0) (S := 2 ^ no - 1 - i) hc (by omega) false
    have E1 : f_m_leastOf 0 (nI (2 ^ no - 1 - i)) 0 s.2.2.2 = some (nI (Lm C T du tk no 0 (2 ^ no - 1 - i)), h1) := E1
    have F1' := q4.tr F1
    rw [f_m_findLate_L_1, lim q4, q3, if_neg (fun z => absurd ((ltN (by omega) (by omega)).mp z) (by omega)), (all_and n6 (S := i) (by omega)).1, E1, xbd2_some]
    have fin : ∀ (w : Nat) (h2 : Hp), F58 h h2 → w ≤ 12000 → w = (if 1 < nc then Lm C T du tk no 1 i else 0) → ∃ s' : Int32 × Int32 × Int32 × Hp, (((i + 1 = 0 → s'.1 = -9 ∧ s'.2.1 = 0) ∧ (0 < i + 1 → s'.1 = nI (vv C T du tk no nc (fm (vv C T du tk no nc) (i + 1))) ∧ vv C T du tk no nc (fm (vv C T du tk no nc) (i + 1)) ≤ 24000 ∧ s'.2.1 = nI (fm (vv C T du tk no nc) (i + 1))) ∧ s'.2.2.1 = nI (i + 1) ∧ F58 h s'.2.2.2)) ∧ ∀ (k17 k114 : Int32 → Int32 → Int32 → Hp → Option (Int32 × Hp)) (l1 : Int32), f_m_findLate_j_10 k17 k114 l1 s.1 s.2.1 (nI i) (nI w) (nI (Lm C T du tk no 0 (2 ^ no - 1 - i))) h2 = k17 s'.1 s'.2.1 s'.2.2.1 s'.2.2.2 := by
      intro w h2 F2 hw hwe
      have ve : Lm C T du tk no 0 (2 ^ no - 1 - i) + w = vv C T du tk no nc i := by rw [hwe]; rfl
      have fs : fm (vv C T du tk no nc) (i + 1) = if vv C T du tk no nc i < vv C T du tk no nc (fm (vv C T du tk no nc) i) then i else fm (vv C T du tk no nc) i := rfl
      by_cases i0 : i = 0
      · obtain ⟨z1, z2⟩ := q1 i0
        have fi : fm (vv C T du tk no nc) (i + 1) = i := by
          subst i0
          show (if _ < _ then 0 else fm _ 0) = 0
          split <;> rfl
        refine ⟨(nI (vv C T du tk no nc i), nI i, nI (i + 1), h2), ⟨fun z => by omega, fun _ => ?_, rfl, F2⟩, fun k17 k114 l1 => ?_⟩
        · rw [fi]; exact ⟨rfl, by omega, rfl⟩
        · unfold f_m_findLate_j_10
          rw [z1, if_pos rfl, if_pos rfl, nI_add, ve, nI_1]
      · obtain ⟨z1, z2, z3⟩ := q2 (by omega)
        have n9 : ¬ nI (vv C T du tk no nc (fm (vv C T du tk no nc) i)) = (-9 : Int32) := fun z => by
          have := congrArg Int32.toInt z
          rw [nI_toInt (by omega)] at this
          have e : (-9 : Int32).toInt = -9 := by decide
          omega
        by_cases q : vv C T du tk no nc i < vv C T du tk no nc (fm (vv C T du tk no nc) i)
        · refine ⟨(nI (vv C T du tk no nc i), nI i, nI (i + 1), h2), ⟨fun z => by omega, fun _ => ?_, rfl, F2⟩, fun k17 k114 l1 => ?_⟩
          · rw [fs, if_pos q]; exact ⟨rfl, by omega, rfl⟩
          · unfold f_m_findLate_j_10
            rw [z1, if_neg n9, if_neg n9, nI_add, ve, nI_1, if_neg (fun z => absurd ((leN (by omega) (by omega)).mp z) (by omega)), if_neg (fun z => absurd ((leN (by omega) (by omega)).mp z) (by omega))]
        · refine ⟨(s.1, s.2.1, nI (i + 1), h2), ⟨fun z => by omega, fun _ => ?_, rfl, F2⟩, fun k17 k114 l1 => ?_⟩
          · rw [fs, if_neg q]; exact ⟨z1, z2, z3⟩
          · unfold f_m_findLate_j_10
            rw [z1, if_neg n9, if_neg n9, nI_add, ve, nI_1, if_pos ((leN (by omega) (by omega)).mpr (by omega)), if_pos ((leN (by omega) (by omega)).mpr (by omega))]
    by_cases q : 1 < nc
    · rw [if_neg (fun z => (one15 F1').mp z q)]
      obtain ⟨h2, E2, F2, L2, K2⟩ := least_m (H'.of F1) (k := 1) (S := i) q (by omega) false
      have E2 : f_m_leastOf 1 (nI i) 0 h1 = some (nI (Lm C T du tk no 1 i), h2) := E2
      rw [E2, xbd2_some]
      obtain ⟨s', I', J'⟩ := fin _ h2 (F1'.tr F2) L2 (by rw [if_pos q])
      exact ⟨s', I', J' _ _ _⟩
    · rw [if_pos ((one15 F1').mpr q)]
      obtain ⟨s', I', J'⟩ := fin 0 h1 F1' (by omega) (by rw [if_neg q])
      exact ⟨s', I', J' _ _ _⟩) (nn no nc) 0 1000 ((-9 : Int32), (0 : Int32), (0 : Int32), h) (by omega) (by omega) ⟨fun _ => ⟨rfl, rfl⟩, fun z => by omega, rfl, F58.rf h⟩
  simp only at E
  obtain ⟨z1, z2, z3⟩ := p2' np
  have hSB : fm (vv C T du tk no nc) (nn no nc) = SB C T du tk no nc := rfl
  rw [hSB] at z1 z2 z3
  have hlt := SB_lt C T du tk no nc
  rw [E, z1, z3, (all_and n6 hlt).1]
  obtain ⟨h1, E1, F1, L1, K1, K1', K1''⟩ := least_m (H.of p4) (k := 0) (S := 2 ^ no - 1 - SB C T du tk no nc) hc (by omega) true
  have E1 : f_m_leastOf 0 (nI (2 ^ no - 1 - SB C T du tk no nc)) 1 s1.2.2.2 = some (nI (Lm C T du tk no 0 (2 ^ no - 1 - SB C T du tk no nc)), h1) := E1
  have F1' := p4.tr F1
  rw [E1, xbd2_some]
  by_cases q : 1 < nc
  · rw [if_neg (fun z => (one15 F1').mp z q)]
    obtain ⟨h2, E2, F2, L2, K2, K2', K2''⟩ := least_m ((H.of p4).of F1) (k := 1) (S := SB C T du tk no nc) q hlt true
    have E2 : f_m_leastOf 1 (nI (SB C T du tk no nc)) 1 h1 = some (nI (Lm C T du tk no 1 (SB C T du tk no nc)), h2) := E2
    rw [E2, xbd2_some]
    have bl := best_len C T du tk no 0 (2 ^ no - 1 - SB C T du tk no nc)
    have el := els_len (2 ^ no - 1 - SB C T du tk no nc) no
    refine ⟨h2, rfl, F1'.tr F2, ⟨fun i hi => ?_, ?_⟩, fun _ => ⟨K2.1, by rw [best_len]; exact K2'⟩⟩
    · rw [K2.2 _ (by omega)]; exact K1.1 i hi
    · rw [K2'' 0 (by decide), best_len]; exact K1'
  · rw [if_pos ((one15 F1').mpr q)]
    exact ⟨h1, rfl, F1', ⟨K1.1, by rw [best_len]; exact K1'⟩, fun z => absurd z q⟩
/-- what the class's table holds after the search -/
def TabOk (h : Hp) (C : Nat → Nat → Nat) (T du : Nat → Nat) (tk no nc : Nat) : Prop := (tab h (2 ^ no - 1) = Lm C T du tk no 0 (2 ^ no - 1) ∧ h.1 36 (2 ^ no - 1) = nI (rowL 0 (bestT C T du tk no 0 (2 ^ no - 1)))) ∧ ∀ c, c < nc → ∀ S, S < 2 ^ no → (Lm C T du tk no c S < Lm C T du tk no 0 (2 ^ no - 1) → tab h (64 * c + S) = Lm C T du tk no c S ∧ h.1 36 (64 * c + S) = nI (rowL 0 (bestT C T du tk no c S))) ∧ (Lm C T du tk no 0 (2 ^ no - 1) ≤ Lm C T du tk no c S → Lm C T du tk no 0 (2 ^ no - 1) ≤ tab h (64 * c + S))
def F37 (h h' : Hp) : Prop := h'.2 = h.2 ∧ (∀ a, a ≠ 30 → a ≠ 37 → h'.1 a = h.1 a) ∧ ∀ b, b ≠ 8 → h'.1 30 b = h.1 30 b
def Pl3 (h : Hp) (v r0 r1 : Nat) : Prop := h.1 30 8 = nI v ∧ h.1 37 0 = nI r0 ∧ h.1 37 1 = nI r1
theorem choose_x {h : Hp} {no nc tk : Nat} {C : Nat → Nat → Nat} {T du : Nat → Nat} (n6 : no ≤ 6) (hc : 0 < nc) (c2 : nc ≤ 2) (e7 : h.1 30 7 = nI no) (HI : Inv5 h) (HT : TabOk h C T du tk no nc) : ∃ h', f_orders_chooseSets (nI nc) h = some h' ∧ F37 h h' ∧ Pl3 h' (vv C T du tk no nc (SB C T du tk no nc)) (rowL 0 (bestT C T du tk no 0 (2 ^ no - 1 - SB C T du tk no nc))) (if 1 < nc then rowL 0 (bestT C T du tk no 1 (SB C T du tk no nc)) else 0) := by
  have h64 := two64 n6
  have p2 := Nat.two_pow_pos no
  have np := nn_pos no nc
  have nnle : nn no nc ≤ 2 ^ no := by unfold nn; split <;> omega
  obtain ⟨⟨A1, A2⟩, HE⟩ := HT
  have iA := HI (2 ^ no - 1) (by omega)
  unfold f_orders_chooseSets
  rw [e7, all_no no (by omega), xin_nI (n := 128) (by omega) (by decide), clampc (k := 2 ^ no - 1) (by omega), Bool.and_true, Bool.and_true, xgd_true, iA.2, A1, A2]
  have v0 : vv C T du tk no nc 0 = Lm C T du tk no 0 (2 ^ no - 1) := by
    unfold vv
    rw [Lm_0]; simp
  have Fst : F37 h (xI (xI (xI h 30 8 (nI (Lm C T du tk no 0 (2 ^ no - 1)))) 37 0 (nI (rowL 0 (bestT C T du tk no 0 (2 ^ no - 1))))) 37 1 0) := by
    refine ⟨rfl, fun a x y => ?_, fun b hb => ?_⟩
    · rw [xI_ne _ _ _ y, xI_ne _ _ _ y, xI_ne _ _ _ x]
    · rw [xI_1, if_neg (by omega), xI_1, if_neg (by omega), xI_1, if_neg (by omega)]
  obtain ⟨s1, ⟨p1, p3, p4, p5⟩, E⟩ := lpX (fun f (s : Int32 × Hp) => f_orders_chooseSets_L_1 (nI nc) (nI (2 ^ no - 1)) (fun l3_6 h_7 => some h_7) f s.1 s.2) (nn no nc) (fun i s => s.1 = nI i ∧ 1 ≤ i ∧ F37 h s.2 ∧ vv C T du tk no nc (fm (vv C T du tk no nc) i) ≤ Lm C T du tk no 0 (2 ^ no - 1) ∧ Pl3 s.2 (vv C T du tk no nc (fm (vv C T du tk no nc) i)) (rowL 0 (bestT C T du tk no 0 (2 ^ no - 1 - fm (vv C T du tk no nc) i))) (if 1 < nc then rowL 0 (bestT C T du tk no 1 (fm (vv C T du tk no nc) i)) else 0)) (fun s => some s.2) (fun f s hs => by
    obtain ⟨q1, q2, q3, q4, q5⟩ := hs
    rw [f_orders_chooseSets_L_1, q1]
    by_cases q : 1 < nc
    · have : nn no nc = 2 ^ no := by unfold nn; rw [if_pos q]
      rw [this, if_pos ((ltN (by omega) (by omega)).mpr (by omega))]
    · rw [if_pos (show nI nc ≤ (1 : Int32) from (leN (a := nc) (b := 1) (by omega) (by omega)).mpr (by omega))]
      split <;> rfl) (fun f i s hi hs => by
    obtain ⟨q1, q2, q3, q4, q5⟩ := hs
    obtain ⟨w1, w2, w3⟩ := q5
    have q : 1 < nc := by
      by_cases z : 1 < nc
      · exact z
      · unfold nn at hi
        rw [if_neg z] at hi
        omega
    have i2 : i < 2 ^ no := by omega
    have t1 := HI (2 ^ no - 1 - i) (by omega)
    have t2 := HI (64 + i) (by omega)
    have f35 : s.2.1 35 = h.1 35 := q3.2.1 35 (by decide) (by decide)
    have f36 : s.2.1 36 = h.1 36 := q3.2.1 36 (by decide) (by decide)
    have e64 : (64 : Int32) + nI i = nI (64 + i) := by rw [nI_lit 64, nI_add]
    have E0 := HE 0 hc (2 ^ no - 1 - i) (by omega)
    have E1 := HE 1 q i i2
    have e01 : 64 * 0 + (2 ^ no - 1 - i) = 2 ^ no - 1 - i := by omega
    have e11 : 64 * 1 + i = 64 + i := by omega
    rw [e01] at E0
    rw [e11] at E1
    have hv : vv C T du tk no nc i = Lm C T du tk no 0 (2 ^ no - 1 - i) + Lm C T du tk no 1 i := by unfold vv; rw [if_pos q]
    have fs : fm (vv C T du tk no nc) (i + 1) = if vv C T du tk no nc i < vv C T du tk no nc (fm (vv C T du tk no nc) i) then i else fm (vv C T du tk no nc) i := rfl
    rw [f_orders_chooseSets_L_1, q1, if_neg (fun z => absurd ((ltN (by omega) (by omega)).mp z) (by omega)), if_neg (show ¬ nI nc ≤ (1 : Int32) from fun z => absurd ((leN (a := nc) (b := 1) (by omega) (by omega)).mp z) (by omega)), e64, (all_and n6 i2).2, xin_nI (n := 128) (by omega) (by decide), xin_nI (n := 128) (by omega) (by decide), clampc (k := 64 + i) (by omega), clampc (k := 2 ^ no - 1 - i) (by omega), f35, f36, t1.2, t2.2, w1, nI_add, nI_1, Bool.and_true, Bool.and_true, xgd_true, xgd_true]
    have b1 : Lm C T du tk no 0 (2 ^ no - 1) ≤ 1000000 := by rw [← A1]; exact iA.1
    by_cases z : vv C T du tk no nc i < vv C T du tk no nc (fm (vv C T du tk no nc) i)
    · obtain ⟨g1, g2⟩ := E0.1 (by omega)
      obtain ⟨g3, g4⟩ := E1.1 (by omega)
      rw [g1, g3, ← hv, if_neg (fun y => absurd ((leN (by omega) (by omega)).mp y) (by omega)), g2, g4]
      refine ⟨(nI (i + 1), xI (xI (xI s.2 30 8 (nI (vv C T du tk no nc i))) 37 0 (nI (rowL 0 (bestT C T du tk no 0 (2 ^ no - 1 - i))))) 37 1 (nI (rowL 0 (bestT C T du tk no 1 i)))), ⟨rfl, by omega, ⟨q3.1, fun a x y => ?_, fun b hb => ?_⟩, ?_, ?_⟩, rfl⟩
      · simp only
        rw [xI_ne _ _ _ y, xI_ne _ _ _ y, xI_ne _ _ _ x]; exact q3.2.1 a x y
      · simp only
        rw [xI_1, if_neg (by omega), xI_1, if_neg (by omega), xI_1, if_neg (by omega)]; exact q3.2.2 b hb
      · rw [fs, if_pos z]; omega
      · rw [fs, if_pos z, if_pos q]
        refine ⟨?_, ?_, ?_⟩ <;> simp [xI_1]
    · have ge : vv C T du tk no nc (fm (vv C T du tk no nc) i) ≤ tab h (2 ^ no - 1 - i) + tab h (64 + i) := by
        by_cases y1 : Lm C T du tk no 0 (2 ^ no - 1 - i) < Lm C T du tk no 0 (2 ^ no - 1)
        · by_cases y2 : Lm C T du tk no 1 i < Lm C T du tk no 0 (2 ^ no - 1)
          · have := (E0.1 y1).1
            have := (E1.1 y2).1
            omega
          · have := E1.2 (by omega)
            omega
        · have := E0.2 (by omega)
          omega
      rw [if_pos ((leN (by omega) (by omega)).mpr ge)]
      refine ⟨(nI (i + 1), s.2), ⟨rfl, by omega, q3, ?_, ?_⟩, rfl⟩
      · rw [fs, if_neg z]; exact q4
      · rw [fs, if_neg z]; exact ⟨w1, w2, w3⟩) (nn no nc - 1) 1 1000 ((1 : Int32), xI (xI (xI h 30 8 (nI (Lm C T du tk no 0 (2 ^ no - 1)))) 37 0 (nI (rowL 0 (bestT C T du tk no 0 (2 ^ no - 1))))) 37 1 0) (by omega) (by omega) ⟨rfl, Nat.le_refl _, Fst, by
      have : fm (vv C T du tk no nc) 1 = 0 := by
        show (if _ < _ then 0 else fm _ 0) = 0
        split <;> rfl
      rw [this, v0]; exact Nat.le_refl _, by
      have : fm (vv C T du tk no nc) 1 = 0 := by
        show (if _ < _ then 0 else fm _ 0) = 0
        split <;> rfl
      rw [this, v0, best_0]
      refine ⟨by simp [xI_1], by simp [xI_1], ?_⟩
      refine (xI_1 _ _ _ _ _ _).trans ?_
      rw [if_pos (show (37 : Nat) = 37 ∧ (1 : Nat) = 1 from ⟨rfl, rfl⟩)]
      split <;> rfl⟩
  exact ⟨s1.2, E, p4, p5.2⟩
