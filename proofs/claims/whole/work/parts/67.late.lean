/-! ===== the plan, both ===== -/
theorem lat_le {no : Nat} {C : Nat → Nat → Nat} {T du : Nat → Nat} (hC : ∀ b, b < no → ∀ o, o < no → C (2 + b) o ≤ 63) (hT : ∀ o, o < no → T o ≤ 63) : ∀ t s tm i, i + t.length ≤ 6 → (∀ x, x ∈ t → x < no) → (∀ o, o < no → C s o ≤ 63) → tm ≤ 1000 + 126 * i → lat C T du s tm t ≤ 2000 * t.length := by
  intro t
  induction t with
  | nil => intro s tm i _ _ _ _; exact Nat.le_refl _
  | cons o t ih =>
    intro s tm i hi hm hs htm
    simp only [List.length_cons] at hi
    have ho := hm o List.mem_cons_self
    have a1 := hs o ho
    have a2 := hT o ho
    have := ih (2 + o) (tm + C s o + T o) (i + 1) (by omega) (fun x hx => hm x (List.mem_cons_of_mem _ hx)) (hC o ho) (by omega)
    rw [lat, List.length_cons]; omega
theorem Lm_le {no : Nat} (hn : no ≤ 6) {C : Nat → Nat → Nat} {T du : Nat → Nat} (hC : ∀ b, b < no → ∀ o, o < no → C (2 + b) o ≤ 63) (hT : ∀ o, o < no → T o ≤ 63) {k S tk : Nat} (hk : ∀ o, o < no → C k o ≤ 63) (htk : tk ≤ 1000) (hS : S < 2 ^ no) : Lm C T du tk no k S ≤ 12000 := by
  have b := best_len C T du tk no k S
  have e := els_len S no
  have v := (best_spec C T du tk hn k hS).1
  have := lat_le hC hT (du := du) (bestT C T du tk no k S) k tk 0 (by omega) (vld_mem _ 0 v) hk (by omega)
  unfold Lm; omega
theorem fill_x (h : Hp) : f_j_fill_35 (1000000 : Int32) h = some (fl h 35 0 128 1000000) := by
  unfold f_j_fill_35
  have := lp0 (fun f (s : Int32 × Hp) => f_j_fill_35_L_1 (1000000 : Int32) (Int32.ofNat 128) (fun l2_3 h_4 => some h_4) f s.1 s.2) 128 (fun i => (nI i, fl h 35 0 i 1000000)) (some (fl h 35 0 128 1000000)) (by omega) (fun f => ?_) (fun f i hi => ?_)
  · simp only [fl_0] at this
    exact this
  · simp only
    rw [f_j_fill_35_L_1, if_pos (show Int32.ofNat 128 ≤ nI 128 by decide)]
  · simp only
    rw [f_j_fill_35_L_1, if_neg (show ¬ Int32.ofNat 128 ≤ nI i from fun z => absurd ((leN (a := 128) (b := i) (by omega) (by omega)).mp z) (by omega)), xin_nI hi (by decide), clampc (by omega), nI_1]
    have := fl_s h 35 0 i 1000000
    rw [Nat.zero_add] at this
    rw [this]; rfl
theorem call_x {no : Nat} (hn : no ≤ 6) {C : Nat → Nat → Nat} {T du : Nat → Nat} {c tk : Nat} (hc : c < 2) (htk : tk ≤ 1000) {h : Hp} (H : DIn h no C T du) (HS : SIn h no C (6 + c) c) (HI : Inv5 h) : ∃ h', f_orders_tryRows 8 (nI c) (nI (6 + c)) 0 0 (nI tk) 0 0 h = some h' ∧ F35 h h' ∧ Inv5 h' ∧ (∀ P m, P < 128 → (∀ t, vld no 0 t → 64 * c + bitsL t = P → m ≤ lat C T du c tk t) → Rl m P h h') ∧ ∀ S, S < 2 ^ no → Lm C T du tk no c S < tab h (64 * c + S) → ∀ Bf, (64 * c + S = 2 ^ no - 1 ∨ Lm C T du tk no c S < Bf) → Bf ≤ tab h (2 ^ no - 1) → (∀ t, vld no 0 t → 64 * c + bitsL t = 2 ^ no - 1 → Bf ≤ lat C T du c tk t) → tab h' (64 * c + S) = Lm C T du tk no c S ∧ h'.1 36 (64 * c + S) = nI (rowL 0 (bestT C T du tk no c S)) := by
  have h64 := two64 hn
  have p2 := Nat.two_pow_pos no
  obtain ⟨h', E, G1, G2, G3⟩ := try_W hn (C := C) (T := T) (du := du) 8 0 c (6 + c) c 0 0 tk 0 h (by omega) (by omega) hc p2 (by decide) (by omega) (by omega) H HS HI
  refine ⟨h', E, G1, G2, fun P m hP hm => G3 P m hP (fun t h1 h2 => by rw [Nat.zero_add] at h2 ⊢; exact hm t h1 h2), fun S hS hlt Bf hA hB hBm => ?_⟩
  obtain ⟨v1, v2, v3⟩ := best_spec C T du tk hn c hS
  have bl := best_len C T du tk no c S
  have el := els_len S no
  obtain ⟨h2, E2, r1, r2⟩ := try_C hn (C := C) (T := T) (du := du) (c := c) (P := 64 * c + S) (L := Lm C T du tk no c S) (Bf := Bf) hc (by omega) hA (bestT C T du tk no c S) 8 0 (6 + c) c 0 0 tk 0 h (by omega) (by omega) p2 (by decide) (by omega) (by omega) H HS HI v1 (by rw [v2, Nat.zero_add]) (by rw [Nat.zero_add]; rfl) hlt hB (fun t h1 h2 => by rw [Nat.zero_add] at h2 ⊢; exact hBm t h1 h2) (fun t h1 h2 => by
    rw [Nat.zero_add]
    exact v3 t h1 (h2.trans v2))
  rw [E] at E2
  have E2 := Option.some.inj E2
  subst E2
  rw [Nat.zero_add] at r2
  exact ⟨r1, r2⟩
theorem run_x {h : Hp} {no nc tk : Nat} {C : Nat → Nat → Nat} {T du : Nat → Nat} (n6 : no ≤ 6) (hc : 0 < nc) (c2 : nc ≤ 2) (htk : tk ≤ 1000) (e67 : h.1 6 7 = nI nc) (e69 : h.1 6 9 = nI tk) (H : DIn h no C T du) (HS : ∀ c, c < nc → SIn h no C (6 + c) c) (HI : Inv5 h) (H0 : ∀ j, j < 128 → tab h j = 1000000) (K : Int32 → Hp → Option Hp) : ∃ z h', f_orders_makePlan_6_L_8 K 1000 0 h = K z h' ∧ F35 h h' ∧ Inv5 h' ∧ TabOk h' C T du tk no nc := by
  have h64 := two64 n6
  have p2 := Nat.two_pow_pos no
  have hC : ∀ b, b < no → ∀ o, o < no → C (2 + b) o ≤ 63 := fun b hb o ho => (H.2.1 b hb o ho).1
  have hT : ∀ o, o < no → T o ≤ 63 := fun o ho => by rw [(H.2.2 o ho).1]; exact hC o ho o ho
  have hL : ∀ c, c < nc → ∀ S, S < 2 ^ no → Lm C T du tk no c S ≤ 12000 := fun c hcc S hS => Lm_le n6 hC hT (fun o ho => ((HS c hcc).2 o ho).1) htk hS
  have min0 : ∀ c S, S < 2 ^ no → ∀ t, vld no 0 t → bitsL t = S → Lm C T du tk no c S ≤ lat C T du c tk t := fun c S hS t h1 h2 => ((best_spec C T du tk n6 c hS).2.2 t h1 h2).1
  have tlt : ∀ t, vld no 0 t → bitsL t < 2 ^ no := fun t ht => by
    have := vld_lt n6 t 0 p2 ht
    rwa [Nat.zero_add] at this
  obtain ⟨h1, E1, F1, I1, R1, T1⟩ := call_x n6 (tk := tk) (c := 0) (by decide) htk H (HS 0 hc) HI
  have E1 : f_orders_tryRows 8 (0 : Int32) ((6 : Int32) + 0) (0 : Int32) (0 : Int32) (nI tk) (0 : Int32) (0 : Int32) h = some h1 := E1
  -- the entries of carrier 0
  have a0 : tab h1 (2 ^ no - 1) = Lm C T du tk no 0 (2 ^ no - 1) ∧ h1.1 36 (2 ^ no - 1) = nI (rowL 0 (bestT C T du tk no 0 (2 ^ no - 1))) := by
    have l := hL 0 hc (2 ^ no - 1) (by omega)
    have := T1 (2 ^ no - 1) (by omega) (by rw [H0 _ (by omega)]; omega) 0 (Or.inl (by omega)) (by omega) (fun _ _ _ => by omega)
    have e : 64 * 0 + (2 ^ no - 1) = 2 ^ no - 1 := by omega
    rw [e] at this; exact this
  have lA := hL 0 hc (2 ^ no - 1) (by omega)
  have b0 : ∀ S, S < 2 ^ no → (Lm C T du tk no 0 S < Lm C T du tk no 0 (2 ^ no - 1) → tab h1 (64 * 0 + S) = Lm C T du tk no 0 S ∧ h1.1 36 (64 * 0 + S) = nI (rowL 0 (bestT C T du tk no 0 S))) ∧ (Lm C T du tk no 0 (2 ^ no - 1) ≤ Lm C T du tk no 0 S → Lm C T du tk no 0 (2 ^ no - 1) ≤ tab h1 (64 * 0 + S)) := by
    intro S hS
    constructor
    · intro q
      have l := hL 0 hc S hS
      exact T1 S hS (by rw [H0 _ (by omega)]; omega) (Lm C T du tk no 0 (2 ^ no - 1)) (Or.inr q) (by rw [H0 _ (by omega)]; omega) (fun t h1 h2 => min0 0 _ (by omega) t h1 (by omega))
    · intro q
      have := R1 (64 * 0 + S) (Lm C T du tk no 0 (2 ^ no - 1)) (by omega) (fun t h1 h2 => by
        have := min0 0 S hS t h1 (by omega)
        omega)
      have h0 := H0 (64 * 0 + S) (by omega)
      rcases this with ⟨x1, x2⟩ | ⟨x1, x2⟩ <;> omega
  by_cases n2 : nc = 2
  · subst n2
    have up : ∀ S, S < 64 → tab h1 (64 * 1 + S) = 1000000 := by
      intro S hS
      have := R1 (64 * 1 + S) 2000000 (by omega) (fun t h1 h2 => by have := tlt t h1; omega)
      have h0 := H0 (64 * 1 + S) (by omega)
      have i1 := (I1 (64 * 1 + S) (by omega)).1
      rcases this with ⟨x1, x2⟩ | ⟨x1, x2⟩ <;> omega
    obtain ⟨h2, E2, F2, I2, R2, T2⟩ := call_x n6 (tk := tk) (c := 1) (by decide) htk (H.of F1) ((HS 1 (by decide)).of F1) I1
    have E2 : f_orders_tryRows 8 (nI 1) ((6 : Int32) + nI 1) (0 : Int32) (0 : Int32) (nI tk) (0 : Int32) (0 : Int32) h1 = some h2 := E2
    have low : ∀ P, P < 64 → tab h2 P = tab h1 P ∧ h2.1 36 P = h1.1 36 P := by
      intro P hP
      have := R2 P 2000000 (by omega) (fun t h1 h2 => by omega)
      have i2 := (I2 P (by omega)).1
      rcases this with x | ⟨x1, x2⟩
      · exact x
      · omega
    refine ⟨nI 2, h2, ?_, F1.tr F2, I2, ⟨?_, fun c hcc S hS => ?_⟩⟩
    · show f_orders_makePlan_6_L_8 K (997 + 1 + 1 + 1) 0 h = _
      rw [f_orders_makePlan_6_L_8, e67, e69, if_neg (by decide), E1, xbd1_some, f_orders_makePlan_6_L_8, F1.2 6 (by decide) (by decide), e67, e69, if_neg (by decide)]
      have e01 : (0 : Int32) + 1 = nI 1 := by decide
      rw [e01, E2, xbd1_some, f_orders_makePlan_6_L_8, F2.2 6 (by decide) (by decide), F1.2 6 (by decide) (by decide), e67, if_pos (by decide)]
      rfl
    · rw [(low _ (by omega)).1, (low _ (by omega)).2]; exact a0
    · by_cases c0 : c = 0
      · subst c0
        rw [(low (64 * 0 + S) (by omega)).1, (low (64 * 0 + S) (by omega)).2]; exact b0 S hS
      · have c1 : c = 1 := by omega
        subst c1
        constructor
        · intro q
          have l := hL 1 (by decide) S hS
          exact T2 S hS (by rw [up S (by omega)]; omega) (Lm C T du tk no 0 (2 ^ no - 1)) (Or.inr q) (by rw [a0.1]; exact Nat.le_refl _) (fun t h1 h2 => by omega)
        · intro q
          have := R2 (64 * 1 + S) (Lm C T du tk no 0 (2 ^ no - 1)) (by omega) (fun t h1 h2 => by
            have := min0 1 S hS t h1 (by omega)
            omega)
          have h0 := up S (by omega)
          rcases this with ⟨x1, x2⟩ | ⟨x1, x2⟩ <;> omega
  · have n1 : nc = 1 := by omega
    subst n1
    refine ⟨nI 1, h1, ?_, F1, I1, ⟨a0, fun c hcc S hS => ?_⟩⟩
    · show f_orders_makePlan_6_L_8 K (998 + 1 + 1) 0 h = _
      rw [f_orders_makePlan_6_L_8, e67, e69, if_neg (by decide), E1, xbd1_some, f_orders_makePlan_6_L_8, F1.2 6 (by decide) (by decide), e67, if_pos (by decide)]
      rfl
    · have c0 : c = 0 := by omega
      subst c0
      exact b0 S hS
/-! what the plan rests on -/
def foF (h : Hp) (o : Nat) : Nat := (h.1 52 o).toNatClampNeg
def ttF (h : Hp) (o : Nat) : Nat := (h.1 53 o).toNatClampNeg
def duF (h : Hp) (o : Nat) : Nat := (h.1 54 o).toNatClampNeg
def ccF (h : Hp) (k : Nat) : Nat := if k < 2 then (h.1 45 k).toNatClampNeg else 0
def noF (h : Hp) : Nat := (h.1 39 25).toNatClampNeg
def ncF (h : Hp) : Nat := (h.1 39 15).toNatClampNeg
def tkF (h : Hp) : Nat := (h.1 39 19).toNatClampNeg
def cC (h : Hp) (s o : Nat) : Nat := (dst (h.2 39 8) (if s < 2 then ccF h s else ttF h (s - 2)) (foF h o)).getD 0
def cT (h : Hp) (o : Nat) : Nat := (dst (h.2 39 8) (foF h o) (ttF h o)).getD 0
def posB (h : Hp) : Bool := decide (0 < ncF h) && alB (PM (h.2 39 8) (ncF h) (foF h) (ttF h) (ccF h)) (noF h)
def sbF (h : Hp) : Nat := SB (cC h) (cT h) (duF h) (tkF h) (noF h) (ncF h)
def valF (h : Hp) : Nat := vv (cC h) (cT h) (duF h) (tkF h) (noF h) (ncF h) (sbF h)
def rowF (h : Hp) (k : Nat) : List Nat := bestT (cC h) (cT h) (duF h) (tkF h) (noF h) k (if k = 0 then 2 ^ noF h - 1 - sbF h else sbF h)
def Plan (h : Hp) : Prop := h.1 30 9 = bI (posB h) ∧ (posB h = true → h.1 30 8 = nI (valF h) ∧ ∀ k, k < ncF h → k < 2 → h.1 37 k = nI (rowL 0 (rowF h k)))
def PlanOk (h : Hp) : Prop := h.1 30 10 = 0 ∨ Plan h
def SI (h h' : Hp) : Prop := h'.2 39 8 = h.2 39 8 ∧ h'.1 39 19 = h.1 39 19 ∧ h'.1 39 15 = h.1 39 15 ∧ (∀ i, i < 2 → h'.1 45 i = h.1 45 i) ∧ h'.1 39 25 = h.1 39 25 ∧ h'.1 52 = h.1 52 ∧ h'.1 53 = h.1 53 ∧ h'.1 54 = h.1 54
theorem SI.all {h h' : Hp} (S : SI h h') : posB h' = posB h ∧ valF h' = valF h ∧ (∀ k, rowF h' k = rowF h k) ∧ ncF h' = ncF h ∧ noF h' = noF h := by
  obtain ⟨s1, s2, s3, s4, s5, s6, s7, s8⟩ := S
  have e1 : foF h' = foF h := by funext o; unfold foF; rw [s6]
  have e2 : ttF h' = ttF h := by funext o; unfold ttF; rw [s7]
  have e3 : duF h' = duF h := by funext o; unfold duF; rw [s8]
  have e4 : ccF h' = ccF h := by
    funext k; unfold ccF
    by_cases q : k < 2
    · rw [if_pos q, if_pos q, s4 k q]
    · rw [if_neg q, if_neg q]
  have e5 : noF h' = noF h := by unfold noF; rw [s5]
  have e6 : ncF h' = ncF h := by unfold ncF; rw [s3]
  have e7 : tkF h' = tkF h := by unfold tkF; rw [s2]
  have e8 : cC h' = cC h := by funext s o; unfold cC; rw [s1, e1, e2, e4]
  have e9 : cT h' = cT h := by funext o; unfold cT; rw [s1, e1, e2]
  have e10 : sbF h' = sbF h := by unfold sbF; rw [e8, e9, e3, e5, e6, e7]
  refine ⟨?_, ?_, fun k => ?_, e6, e5⟩
  · unfold posB; rw [s1, e1, e2, e4, e5, e6]
  · unfold valF; rw [e8, e9, e3, e5, e6, e7, e10]
  · unfold rowF; rw [e8, e9, e3, e5, e7, e10]
theorem Plan.of {h h' : Hp} (S : SI h h') (e8 : h'.1 30 8 = h.1 30 8) (e9 : h'.1 30 9 = h.1 30 9) (e37 : h'.1 37 = h.1 37) (H : Plan h) : Plan h' := by
  obtain ⟨a1, a2, a3, a4, a5⟩ := S.all
  unfold Plan at H ⊢
  rw [a1, a2, a4, e8, e9, e37]
  simp only [a3]
  exact H
theorem PK.plan {h h' : Hp} (P : PK h h') (H : PlanOk h) : PlanOk h' := by
  rcases P with e | ⟨p1, p2, p3, p4, p5, p6, p7, p8, p9, p10⟩
  · exact Or.inl e
  · rcases H with H | H
    · left; rw [p1]; exact H
    · right
      exact H.of ⟨p3, p4, p5, p6, p7, p8, p9, p10⟩ (by rw [p1]) (by rw [p1]) p2
/-- the numbers of a state -/
theorem nums {h : Hp} {w g np nc nl tk no : Nat} (H : RB h w g np nc nl tk no) : noF h = no ∧ ncF h = nc ∧ tkF h = tk ∧ no ≤ 6 ∧ nc ≤ 2 ∧ tk ≤ 1000 ∧ MIn h no nc (foF h) (ttF h) (ccF h) ∧ FreeIn (h.2 39 8) no nc (foF h) (ttF h) (ccF h) ∧ (∀ o, o < no → (h.1 31 o = nI (foF h o) ∧ h.1 32 o = nI (ttF h o)) ∧ h.1 33 o = nI (duF h o) ∧ h.1 54 o = nI (duF h o) ∧ duF h o ≤ 200) ∧ ∀ k, k < nc → h.1 9 k = nI (ccF h k) := by
  obtain ⟨-, -, N, -, -, ⟨o6, o1, o2, O⟩, -⟩ := H
  obtain ⟨n1, n2, n3, n4⟩ := N.1.1
  obtain ⟨m1, m2, m3, m4⟩ := N.2.1
  have fo : ∀ o, o < no → (foF h o < 64 ∧ h.1 52 o = nI (foF h o)) ∧ (ttF h o < 64 ∧ h.1 53 o = nI (ttF h o)) ∧ ((h.1 31 o = nI (foF h o) ∧ h.1 32 o = nI (ttF h o)) ∧ h.1 33 o = nI (duF h o) ∧ h.1 54 o = nI (duF h o) ∧ duF h o ≤ 200) ∧ bq (h.2 39 8) (foF h o) = true ∧ bq (h.2 39 8) (ttF h o) = true := by
    intro o ho
    obtain ⟨a, b, d, ⟨a1, b1, d1⟩, ⟨x1, x2⟩, ⟨y1, y2⟩, ⟨z1, z2⟩, f1, f2⟩ := O o ho
    have ea : foF h o = a := by unfold foF; rw [x2, clampc (by omega)]
    have eb : ttF h o = b := by unfold ttF; rw [y2, clampc (by omega)]
    have ed : duF h o = d := by unfold duF; rw [z2, clampc (by omega)]
    rw [ea, eb, ed]
    exact ⟨⟨a1, x2⟩, ⟨b1, y2⟩, ⟨⟨x1, y1⟩, z1, z2, d1⟩, f1, f2⟩
  have cc : ∀ k, k < nc → (ccF h k < 64 ∧ h.1 45 k = nI (ccF h k)) ∧ h.1 9 k = nI (ccF h k) ∧ bq (h.2 39 8) (ccF h k) = true := by
    intro k hk
    have e : ccF h k = csF h k := by unfold ccF; rw [if_pos (by omega)]; rfl
    obtain ⟨c1, ⟨c2, c3⟩, c4⟩ := car N hk
    rw [e]; exact ⟨⟨c1.1, c3⟩, c2, c4⟩
  refine ⟨by unfold noF; rw [o2, clampc (by omega)], by unfold ncF; rw [m2, clampc (by omega)], by unfold tkF; rw [m4, clampc (by omega)], o6, n2, n4, ⟨⟨o6, n2⟩, ⟨o2, m2⟩, fun o ho => ⟨(fo o ho).1, (fo o ho).2.1⟩, fun k hk => (cc k hk).1⟩, ⟨fun o ho => (fo o ho).2.2.2, fun k hk => (cc k hk).2.2⟩, fun o ho => (fo o ho).2.2.1, fun k hk => (cc k hk).2.1⟩
/-- all is near enough, if the plan can be made -/
theorem conn {h : Hp} {w g np nc nl tk no : Nat} (H : RB h w g np nc nl tk no) (hp : posB h = true) : 0 < nc ∧ (∀ k, k < nc → ∀ o, o < no → ∃ n, n < 64 ∧ dst (h.2 39 8) (ccF h k) (foF h o) = some n ∧ cC h k o = n) ∧ (∀ b, b < no → ∀ o, o < no → ∃ n, n < 64 ∧ dst (h.2 39 8) (ttF h b) (foF h o) = some n ∧ cC h (2 + b) o = n) ∧ ∀ o, o < no → ∃ n, n < 64 ∧ dst (h.2 39 8) (foF h o) (ttF h o) = some n ∧ cT h o = n ∧ cC h (2 + o) o = n := by
  obtain ⟨e1, e2, e3, o6, n2, n4, M, F, -, -⟩ := nums H
  unfold posB at hp
  rw [e1, e2, Bool.and_eq_true, decide_eq_true_eq, alB_iff] at hp
  obtain ⟨hc, hp⟩ := hp
  have base : ∀ k, k < nc → ∀ o, o < no → dst (h.2 39 8) (ccF h k) (foF h o) ≠ none ∧ dst (h.2 39 8) (foF h o) (ttF h o) ≠ none := by
    intro k hk o ho
    have := (alB_iff _ nc).mp (hp o ho) k hk
    rw [Bool.and_eq_true] at this
    constructor
    · intro z; rw [z] at this; exact absurd this.1 (by decide)
    · intro z; rw [z] at this; exact absurd this.2 (by decide)
  have fin : ∀ a b, dst (h.2 39 8) a b ≠ none → ∃ n, n < 64 ∧ dst (h.2 39 8) a b = some n := by
    intro a b hne
    cases q : dst (h.2 39 8) a b with
    | none => exact absurd q hne
    | some n => exact ⟨n, dst_lt q, rfl⟩
  have f64 : ∀ o, o < no → foF h o < 64 ∧ ttF h o < 64 := fun o ho => ⟨(M.2.2.1 o ho).1.1, (M.2.2.1 o ho).2.1⟩
  have c64 : ∀ k, k < nc → ccF h k < 64 := fun k hk => (M.2.2.2 k hk).1
  have tb : ∀ b, b < no → ∀ o, o < no → dst (h.2 39 8) (ttF h b) (foF h o) ≠ none := by
    intro b hb o ho
    have s1 : dst (h.2 39 8) (ttF h b) (foF h b) ≠ none := by
      rw [dst_symm (f64 b hb).2 (f64 b hb).1 (F.1 b hb).2 (F.1 b hb).1]
      exact (base 0 hc b hb).2
    have s2 : dst (h.2 39 8) (foF h b) (ccF h 0) ≠ none := by
      rw [dst_symm (f64 b hb).1 (c64 0 hc) (F.1 b hb).1 (F.2 0 hc)]
      exact (base 0 hc b hb).1
    have s3 := dst_tr (f64 b hb).2 (f64 b hb).1 (c64 0 hc) (F.1 b hb).2 s1 s2
    exact dst_tr (f64 b hb).2 (c64 0 hc) (f64 o ho).1 (F.1 b hb).2 s3 (base 0 hc o ho).1
  refine ⟨hc, fun k hk o ho => ?_, fun b hb o ho => ?_, fun o ho => ?_⟩
  · obtain ⟨n, h1, h2⟩ := fin _ _ (base k hk o ho).1
    refine ⟨n, h1, h2, ?_⟩
    unfold cC
    rw [if_pos (by omega), h2]; rfl
  · obtain ⟨n, h1, h2⟩ := fin _ _ (tb b hb o ho)
    refine ⟨n, h1, h2, ?_⟩
    unfold cC
    have : 2 + b - 2 = b := by omega
    rw [if_neg (by omega), this, h2]; rfl
  · obtain ⟨n, h1, h2⟩ := fin _ _ (base 0 hc o ho).2
    refine ⟨n, h1, h2, ?_, ?_⟩
    · unfold cT; rw [h2]; rfl
    · unfold cC
      have : 2 + o - 2 = o := by omega
      rw [if_neg (by omega), this, dst_symm (f64 o ho).2 (f64 o ho).1 (F.1 o ho).2 (F.1 o ho).1, h2]; rfl
/-- the reference's plan leaves all else as it was -/
def FMp (h h' : Hp) : Prop := h'.2 = h.2 ∧ ∀ a, (a < 55 ∨ 60 < a) → h'.1 a = h.1 a
theorem FMp.rel {h h' : Hp} (F : FMp h h') (HR : RelB h) : RelB h' ∧ PK h h' := by
  obtain ⟨w, g, np, nc, nl, tk, no, H0, H1, H2, H3, H4, H5, H6, H7, H8⟩ := HR
  have e1 := F.1
  have e := F.2
  refine ⟨⟨w, g, np, nc, nl, tk, no, H0.of ?_ ?_ ?_ ?_, H1.of ?_ ?_ ?_ ?_ ?_ ?_ ?_ ?_ ?_ ?_ ?_ ?_, H2.of ?_ ?_ ?_ ?_ ?_ ?_ ?_ ?_ ?_ ?_ ?_ ?_ ?_ ?_ ?_ ?_ ?_ ?_, H3.of ?_ ?_ ?_ ?_ ?_ ?_ ?_ ?_ ?_ ?_ ?_ ?_ ?_ ?_ ?_ ?_ ?_ ?_, H4.of ?_ ?_ ?_ ?_ ?_ ?_ ?_ ?_ ?_ ?_ ?_ ?_ ?_ ?_ ?_ ?_ ?_ ?_, H5.of ?_ ?_ ?_ ?_ ?_ ?_ ?_ ?_ ?_, H6.of ?_ ?_ ?_, ?_, ?_⟩, Or.inr ⟨?_, ?_, ?_, ?_, ?_, ?_, ?_, ?_, ?_, ?_⟩⟩
  all_goals first | (rw [e _ (by decide)]; exact H8) | (intro i _; rw [e _ (by decide)]) | (unfold RTr at H7 ⊢; rw [e1]; exact H7) | (rw [e1]; done) | (rw [e _ (by decide)]; done)
theorem plan_m {h : Hp} {w g np nc nl tk no : Nat} (H : RB h w g np nc nl tk no) : ∃ h', f_m_measure h = some (bI (posB h), h') ∧ FMp h h' ∧ (posB h = true → ∃ h'', f_m_findLate h' = some (nI (valF h), h'') ∧ FMp h h'' ∧ ∀ k, k < nc → MPl h'' k (rowF h k)) := by
  obtain ⟨e1, e2, e3, o6, n2, n4, M, F, D, -⟩ := nums H
  obtain ⟨h', E, F1, V⟩ := measure_m M rfl F
  have eb : (decide (0 < nc) && alB (PM (h.2 39 8) nc (foF h) (ttF h) (ccF h)) no) = posB h := by unfold posB; rw [e1, e2]
  rw [eb] at E V
  refine ⟨h', E, ⟨F1.1, fun a ha => F1.2 a (by omega) (by omega)⟩, fun hp => ?_⟩
  have V := V hp
  obtain ⟨hc, A1, A2, A3⟩ := conn H hp
  have m4 := H.2.2.1.2.1.2.2.2
  have L : LIn h' no nc tk (cC h) (cT h) (duF h) := by
    refine ⟨⟨o6, n2, n4⟩, ⟨?_, ?_, ?_⟩, fun b hb => ⟨by omega, fun o ho => ?_⟩, fun k hk => ⟨by omega, fun o ho => ?_⟩, fun o ho => ?_⟩
    · rw [F1.2 39 (by decide) (by decide)]; exact M.2.1.1
    · rw [F1.2 39 (by decide) (by decide)]; exact M.2.1.2
    · rw [F1.2 39 (by decide) (by decide)]; exact m4
    · obtain ⟨n, h1, h2, h3⟩ := A2 b hb o ho
      rw [h3, (V o ho).2.2 b hb, h2]
      exact ⟨by omega, rfl⟩
    · obtain ⟨n, h1, h2, h3⟩ := A1 k hk o ho
      rw [h3, (V o ho).2.1 k hk, h2]
      exact ⟨by omega, rfl⟩
    · obtain ⟨n, h1, h2, h3, h4⟩ := A3 o ho
      rw [h3, (V o ho).1, h2, F1.2 54 (by decide) (by decide)]
      exact ⟨by omega, rfl, (D o ho).2.2.1, (D o ho).2.2.2⟩
  obtain ⟨h2, E2, F2, P0, P1⟩ := find_m L hc
  refine ⟨h2, ?_, ⟨F2.1.trans F1.1, fun a ha => (F2.2 a (by omega) (by omega) (by omega) (by omega)).trans (F1.2 a (by omega) (by omega))⟩, fun k hk => ?_⟩
  · rw [E2]; unfold valF sbF; rw [e1, e2, e3]
  · unfold rowF sbF
    rw [e1, e2, e3]
    by_cases k0 : k = 0
    · subst k0; rw [if_pos rfl]; exact P0
    · have k1 : k = 1 := by omega
      subst k1; rw [if_neg (by decide)]; exact P1 hk
/-- the class's plan leaves all else as it was -/
def FXp (h h' : Hp) : Prop := h'.2 = h.2 ∧ (∀ a, a ≠ 30 → (a < 34 ∨ 37 < a) → h'.1 a = h.1 a) ∧ ∀ b, (b < 8 ∨ 10 < b) → h'.1 30 b = h.1 30 b
theorem FXp.rel {h h' : Hp} (F : FXp h h') (e10 : h'.1 30 10 = 1) {w g np nc nl tk no : Nat} (H : RB h w g np nc nl tk no) : RB h' w g np nc nl tk no := by
  obtain ⟨H0, H1, H2, H3, H4, H5, H6, H7, H8⟩ := H
  obtain ⟨e1, e, e30⟩ := F
  refine ⟨H0.of ?_ ?_ ?_ ?_, H1.of ?_ ?_ ?_ ?_ ?_ ?_ ?_ ?_ ?_ ?_ ?_ ?_, H2.of ?_ ?_ ?_ ?_ ?_ ?_ ?_ ?_ ?_ ?_ ?_ ?_ ?_ ?_ ?_ ?_ ?_ ?_, H3.of ?_ ?_ ?_ ?_ ?_ ?_ ?_ ?_ ?_ ?_ ?_ ?_ ?_ ?_ ?_ ?_ ?_ ?_, H4.of ?_ ?_ ?_ ?_ ?_ ?_ ?_ ?_ ?_ ?_ ?_ ?_ ?_ ?_ ?_ ?_ ?_ ?_, H5.of ?_ ?_ ?_ ?_ ?_ ?_ ?_ ?_ ?_, H6.of ?_ ?_ ?_, ?_, Or.inr e10⟩
  all_goals first | (unfold RTr at H7 ⊢; rw [e1]; exact H7) | (rw [e1]; done) | (rw [e _ (by decide) (by decide)]; done) | exact e30 _ (by decide)
theorem FXp.si {h h' : Hp} (F : FXp h h') : SI h h' := by
  obtain ⟨e1, e, e30⟩ := F
  exact ⟨by rw [e1], by rw [e 39 (by decide) (by decide)], by rw [e 39 (by decide) (by decide)], fun i _ => by rw [e 45 (by decide) (by decide)], by rw [e 39 (by decide) (by decide)], e 52 (by decide) (by decide), e 53 (by decide) (by decide), e 54 (by decide) (by decide)⟩
theorem plan_x {h : Hp} {w g np nc nl tk no : Nat} (H : RB h w g np nc nl tk no) (HP : PlanOk h) : ∃ h', f_orders_makePlan_6 (h.2 2 5) h = some h' ∧ FXp h h' ∧ h'.1 30 10 = 1 ∧ Plan h' := by
  obtain ⟨e1, e2, e3, o6, n2, n4, M, F, D, C9⟩ := nums H
  have hfr := H.2.1.2.2.2.1.1
  have e67 := H.2.2.1.1.2.1.2.1
  have e69 := H.2.2.1.1.2.1.2.2.2
  have e307 := H.2.2.2.2.2.1.2.1
  have e8 := H.2.2.2.2.2.2.2.2
  unfold f_orders_makePlan_6
  by_cases q : h.1 30 10 = 0
  · rw [if_pos q]
    have FA : FXp h (xI h 30 10 1) := ⟨rfl, fun a x _ => xI_ne _ _ _ x, fun b hb => by rw [xI_1, if_neg (by omega)]⟩
    have no_plan : ∀ hB, FXp h hB → hB.1 30 10 = 1 → posB h = false → ∃ h', f_orders_makePlan_6_j_3 hB = some h' ∧ FXp h h' ∧ h'.1 30 10 = 1 ∧ Plan h' := by
      intro hB FB e10 hp
      refine ⟨xI hB 30 9 0, rfl, ⟨FB.1, fun a x y => (xI_ne _ _ _ x).trans (FB.2.1 a x y), fun b hb => by rw [xI_1, if_neg (by omega)]; exact FB.2.2 b hb⟩, by rw [xI_1, if_neg (by omega)]; exact e10, ?_⟩
      have FC : FXp h (xI hB 30 9 0) := ⟨FB.1, fun a x y => (xI_ne _ _ _ x).trans (FB.2.1 a x y), fun b hb => by rw [xI_1, if_neg (by omega)]; exact FB.2.2 b hb⟩
      have a1 := FC.si.all.1
      refine ⟨?_, fun z => ?_⟩
      · rw [a1, hp, xI_1, if_pos ⟨rfl, rfl⟩]; rfl
      · rw [a1, hp] at z; cases z
    by_cases n0 : nc = 0
    · rw [e67, n0, if_pos (by decide)]
      refine no_plan _ FA (by rw [xI_1, if_pos ⟨rfl, rfl⟩]) ?_
      unfold posB; rw [e2, n0]; rfl
    · rw [e67, if_neg (show ¬ nI nc ≤ (0 : Int32) from fun z => absurd ((leN (a := nc) (b := 0) (by omega) (by omega)).mp z) (by omega))]
      have XA : XIn (xI h 30 10 1) no nc (foF h) (ttF h) (ccF h) := by
        refine ⟨⟨o6, n2⟩, ⟨?_, ?_⟩, fun o ho => ?_, fun k hk => ?_⟩
        · rw [xI_1, if_neg (by omega)]; exact e307
        · rw [xI_ne _ _ _ (by decide)]; exact e67
        · rw [xI_ne _ _ _ (by decide), xI_ne _ _ _ (by decide)]
          exact ⟨⟨(M.2.2.1 o ho).1.1, (D o ho).1.1⟩, ⟨(M.2.2.1 o ho).2.1, (D o ho).1.2⟩⟩
        · rw [xI_ne _ _ _ (by decide)]; exact ⟨(M.2.2.2 k hk).1, C9 k hk⟩
      rw [hfr]
      obtain ⟨hB, EB, FB, V1, V2⟩ := measure_x XA F
      have eb : (alB (fun o => (dst (h.2 39 8) (ttF h o) (foF h o)).isSome) no && alB (fun k => alB (fun o => (dst (h.2 39 8) (ccF h k) (foF h o)).isSome) no) nc) = posB h := by
        have sy : ∀ o, o < no → (dst (h.2 39 8) (ttF h o) (foF h o)).isSome = (dst (h.2 39 8) (foF h o) (ttF h o)).isSome := fun o ho => by
          rw [dst_symm (M.2.2.1 o ho).2.1 (M.2.2.1 o ho).1.1 (F.1 o ho).2 (F.1 o ho).1]
        have i1 : (alB (fun o => (dst (h.2 39 8) (ttF h o) (foF h o)).isSome) no && alB (fun k => alB (fun o => (dst (h.2 39 8) (ccF h k) (foF h o)).isSome) no) nc) = true ↔ posB h = true := by
          unfold posB
          rw [e1, e2, Bool.and_eq_true, Bool.and_eq_true, decide_eq_true_eq, alB_iff, alB_iff, alB_iff]
          constructor
          · rintro ⟨x, y⟩
            refine ⟨by omega, fun o ho => (alB_iff _ nc).mpr (fun k hk => ?_)⟩
            rw [(alB_iff _ no).mp (y k hk) o ho, ← sy o ho, x o ho]; rfl
          · rintro ⟨x, y⟩
            refine ⟨fun o ho => ?_, fun k hk => (alB_iff _ no).mpr (fun o ho => ?_)⟩
            · have := (alB_iff _ nc).mp (y o ho) 0 (by omega)
              rw [Bool.and_eq_true] at this
              rw [sy o ho]; exact this.2
            · have := (alB_iff _ nc).mp (y o ho) k hk
              rw [Bool.and_eq_true] at this
              exact this.1
        cases x : posB h with
        | true => exact i1.mpr x
        | false =>
          cases y : (alB (fun o => (dst (h.2 39 8) (ttF h o) (foF h o)).isSome) no && alB (fun k => alB (fun o => (dst (h.2 39 8) (ccF h k) (foF h o)).isSome) no) nc) with
          | false => rfl
          | true => rw [i1.mp y] at x; cases x
      rw [eb] at EB
      rw [EB, xbd2_some]
      have FB' : FXp h hB := ⟨FB.1, fun a x y => by rw [FB.2 a (by omega), xI_ne _ _ _ x], fun b hb => by rw [FB.2 30 (by decide), xI_1, if_neg (by omega)]⟩
      have b10 : hB.1 30 10 = 1 := by rw [FB.2 30 (by decide), xI_1, if_pos ⟨rfl, rfl⟩]
      cases hp : posB h with
      | false =>
        rw [if_pos (show bI false = (0 : Int32) from rfl)]
        exact no_plan hB FB' b10 hp
      | true =>
        rw [if_neg (show ¬ bI true = (0 : Int32) by decide)]
        obtain ⟨hc, A1, A2, A3⟩ := conn H hp
        unfold f_orders_makePlan_6_j_4
        rw [show xbool (1 : Int32) = true by decide, Bool.and_true, xgd_true, if_neg one_ne, fill_x, xbd1_some]
        generalize hD : fl (xI hB 30 9 1) 35 0 128 1000000 = hd
        have d2 : hd.2 = h.2 := by subst hD; exact FB'.1
        have dA : ∀ a, a ≠ 30 → a ≠ 35 → hd.1 a = hB.1 a := fun a x y => by
          subst hD; funext b
          rw [fl_1, if_neg (fun z => y z.1), xI_ne _ _ _ x]
        have d30 : ∀ b, b ≠ 9 → hd.1 30 b = hB.1 30 b := fun b hb => by
          subst hD
          rw [fl_1, if_neg (by omega), xI_1, if_neg (by omega)]
        have d309 : hd.1 30 9 = 1 := by
          subst hD
          rw [fl_1, if_neg (by omega), xI_1, if_pos ⟨rfl, rfl⟩]
        have d35 : ∀ j, j < 128 → hd.1 35 j = nI 1000000 := fun j hj => by
          subst hD
          rw [fl_1, if_pos ⟨rfl, by omega, by omega⟩]; rfl
        have t35 : ∀ j, j < 128 → tab hd j = 1000000 := fun j hj => by unfold tab; rw [d35 j hj, clampc (by omega)]
        have D' : DIn hd no (cC h) (cT h) (duF h) := by
          refine ⟨?_, fun b hb o ho => ?_, fun o ho => ?_⟩
          · rw [d30 7 (by decide), FB'.2.2 7 (by omega)]; exact e307
          · obtain ⟨n, h1, h2, h3⟩ := A2 b hb o ho
            rw [h3, dA 34 (by decide) (by decide), V1 b hb o ho, h2]
            exact ⟨by omega, rfl⟩
          · obtain ⟨n, h1, h2, h3, h4⟩ := A3 o ho
            rw [h3, h4, dA 33 (by decide) (by decide), FB'.2.1 33 (by decide) (by omega)]
            exact ⟨rfl, (D o ho).2.2.2, (D o ho).2.1⟩
        have S' : ∀ c, c < nc → SIn hd no (cC h) (6 + c) c := by
          intro c hcc
          refine ⟨by omega, fun o ho => ?_⟩
          obtain ⟨n, h1, h2, h3⟩ := A1 c hcc o ho
          rw [h3, dA 34 (by decide) (by decide), V2 c hcc o ho, h2]
          exact ⟨by omega, rfl⟩
        have d6 : hd.1 6 = h.1 6 := by rw [dA 6 (by decide) (by decide), FB'.2.1 6 (by decide) (by omega)]
        obtain ⟨z, hE, EE, FE, IE, TE⟩ := run_x (h := hd) o6 hc n2 n4 (by rw [d6]; exact e67) (by rw [d6]; exact e69) D' S' (fun j hj => ⟨by rw [t35 j hj]; exact Nat.le_refl _, by rw [t35 j hj]; exact d35 j hj⟩) t35 (fun l4_12 h_13 => xbd1 (f_orders_chooseSets (h_13.1 6 7) h_13) fun h_15 => some h_15)
        have e6 : hE.1 6 7 = nI nc := by rw [FE.2 6 (by decide) (by decide), d6]; exact e67
        have x30 : hE.1 30 = hd.1 30 := FE.2 30 (by decide) (by decide)
        obtain ⟨hF, EF, FF, P1, P2, P3⟩ := choose_x (h := hE) o6 hc n2 (by rw [x30, d30 7 (by decide), FB'.2.2 7 (by omega)]; exact e307) IE TE
        rw [EE, e6, EF, xbd1_some]
        have FZ : FXp h hF := by
          refine ⟨FF.1.trans (FE.1.trans d2), fun a x y => ?_, fun b hb => ?_⟩
          · rw [FF.2.1 a x (by omega), FE.2 a (by omega) (by omega), dA a x (by omega), FB'.2.1 a x y]
          · rw [FF.2.2 b (by omega), x30, d30 b (by omega), FB'.2.2 b hb]
        have f10 : hF.1 30 10 = 1 := by rw [FF.2.2 10 (by decide), x30, d30 10 (by decide), b10]
        have f9 : hF.1 30 9 = 1 := by rw [FF.2.2 9 (by decide), x30, d309]
        refine ⟨hF, rfl, FZ, f10, ?_⟩
        obtain ⟨a1, a2, a3, a4, a5⟩ := FZ.si.all
        unfold Plan
        rw [a1, a2, a4, e2, hp, f9]
        refine ⟨rfl, fun _ => ⟨?_, fun k hk _ => ?_⟩⟩
        · rw [P1]; unfold valF sbF; rw [e1, e2, e3]
        · rw [a3 k]
          unfold rowF sbF
          rw [e1, e2, e3]
          by_cases k0 : k = 0
          · subst k0; rw [if_pos rfl]; exact P2
          · have k1 : k = 1 := by omega
            subst k1
            rw [if_neg (by decide)]
            rw [if_pos hk] at P3
            exact P3
  · rw [if_neg q]
    have q1 : h.1 30 10 = 1 := by
      rcases e8 with z | z
      · exact absurd z q
      · exact z
    refine ⟨h, rfl, ⟨rfl, fun _ _ _ => rfl, fun _ _ => rfl⟩, q1, ?_⟩
    rcases HP with z | z
    · exact absurd z q
    · exact z
theorem ok_late {h : Hp} (HR : RelB h) (HP : PlanOk h) : ∃ r h1 h2, f_x_late h = some (r, h1) ∧ f_m_late h1 = some (r, h2) ∧ RelB h2 ∧ PlanOk h2 := by
  obtain ⟨w, g, np, nc, nl, tk, no, H⟩ := id HR
  obtain ⟨no6, o1, o2, -⟩ := H.2.2.2.2.2.1
  unfold f_x_late
  by_cases n0 : no = 0
  · rw [o1, n0, if_pos (show nI 0 = (0 : Int32) from rfl)]
    refine ⟨0, h, h, rfl, ?_, HR, HP⟩
    unfold f_m_late
    rw [o2, n0, if_pos (show nI 0 = (0 : Int32) from rfl)]
  · have nz : ¬ nI no = (0 : Int32) := fun z => n0 ((nI_eq (a := no) (b := 0) (by omega) (by omega)).mp z)
    rw [o1, if_neg nz]
    obtain ⟨h1, E1, F1, t1, P1⟩ := plan_x H HP
    have H1 := F1.rel t1 H
    rw [E1, xbd1_some]
    obtain ⟨h2, E2, F2, V2⟩ := plan_m H1
    have o2' := H1.2.2.2.2.2.1.2.2.1
    cases hp : posB h1 with
    | false =>
      obtain ⟨R2, K2⟩ := F2.rel ⟨w, g, np, nc, nl, tk, no, H1⟩
      refine ⟨-2, h1, h2, ?_, ?_, R2, K2.plan (Or.inr P1)⟩
      · rw [P1.1, hp, if_pos (show bI false = (0 : Int32) from rfl)]
      · unfold f_m_late
        rw [o2', if_neg nz, E2, xbd2_some, hp, if_pos (show bI false = (0 : Int32) from rfl)]
    | true =>
      obtain ⟨h3, E3, F3, M3⟩ := V2 hp
      obtain ⟨R3, K3⟩ := F3.rel ⟨w, g, np, nc, nl, tk, no, H1⟩
      refine ⟨nI (valF h1), h1, h3, ?_, ?_, R3, K3.plan (Or.inr P1)⟩
      · rw [P1.1, hp, if_neg (show ¬ bI true = (0 : Int32) by decide), (P1.2 hp).1]
      · unfold f_m_late
        rw [o2', if_neg nz, E2, xbd2_some, hp, if_neg (show ¬ bI true = (0 : Int32) by decide), E3, xbd2_some]
/-- a row's places -/
theorem rowL_s : ∀ t d, rowL (d + 1) t = 16 * rowL d t := by
  intro t
  induction t with
  | nil => intro d; rfl
  | cons o t ih =>
    intro d
    rw [rowL, rowL, ih (d + 1), Nat.pow_succ, Nat.mul_add]
    congr 1
    rw [Nat.mul_comm (16 ^ d) 16, Nat.mul_left_comm]
theorem row_dig : ∀ t i, (∀ x, x ∈ t → x < 6) → rowL 0 t / 16 ^ i % 16 = if i < t.length then nth t i + 1 else 0 := by
  intro t
  induction t with
  | nil => intro i _; simp [rowL]
  | cons o t ih =>
    intro i hm
    have ho := hm o List.mem_cons_self
    have e : rowL 0 (o :: t) = (o + 1) + 16 * rowL 0 t := by rw [rowL, rowL_s]; simp
    rw [e]
    cases i with
    | zero =>
      simp only [Nat.pow_zero, Nat.div_one, List.length_cons]
      rw [if_pos (by omega)]
      show (o + 1 + 16 * rowL 0 t) % 16 = o + 1
      omega
    | succ i =>
      have : (o + 1 + 16 * rowL 0 t) / 16 ^ (i + 1) = rowL 0 t / 16 ^ i := by
        have e3 : (o + 1 + 16 * rowL 0 t) / 16 = rowL 0 t := by omega
        rw [Nat.pow_succ, Nat.mul_comm (16 ^ i) 16, ← Nat.div_div_eq_div_mul, e3]
      rw [this, ih i (fun x hx => hm x (List.mem_cons_of_mem _ hx))]
      have e2 : (i + 1 < (o :: t).length) = (i < t.length) := by simp
      simp only [e2]
      rfl
theorem rowL_lt : ∀ t, (∀ x, x ∈ t → x < 6) → rowL 0 t < 16 ^ t.length := by
  intro t
  induction t with
  | nil => intro _; decide
  | cons o t ih =>
    intro hm
    have ho := hm o List.mem_cons_self
    have := ih (fun x hx => hm x (List.mem_cons_of_mem _ hx))
    have e : rowL 0 (o :: t) = (o + 1) + 16 * rowL 0 t := by rw [rowL, rowL_s]; simp
    rw [e, List.length_cons, Nat.pow_succ]
    omega
theorem ush4 : ∀ i, i < 6 → ((((4 : Int32) * nI i).toUInt32 &&& Int32.toUInt32 31).toBitVec % 32).toNat = 4 * i := by decide +kernel
theorem ok_served (c k : Int32) {h : Hp} (HR : RelB h) (HP : PlanOk h) : ∃ r h1 h2, f_x_served c k h = some (r, h1) ∧ f_m_served c k h1 = some (r, h2) ∧ RelB h2 ∧ PlanOk h2 := by
  obtain ⟨w, g, np, nc, nl, tk, no, H⟩ := id HR
  obtain ⟨no6, o1, o2, -⟩ := H.2.2.2.2.2.1
  have N := H.2.2.1
  obtain ⟨n1, n2, n3, n4⟩ := N.1.1
  unfold f_x_served
  rcases isCarrier_cases (h := h) n2 N.1.2.1.2.1 N.2.1.2.1 c with ⟨a, b⟩ | ⟨j, hj, rfl, a, b⟩
  · rw [a, if_pos rfl]
    exact ⟨-1, h, h, rfl, by unfold f_m_served; rw [b, if_pos rfl], HR, HP⟩
  · rw [a, if_neg one_ne]
    by_cases k0 : (0 : Int32) ≤ k
    · rw [if_pos k0, o1]
      by_cases n0 : no = 0
      · rw [n0, if_pos (show nI 0 = (0 : Int32) from rfl)]
        refine ⟨-9, h, h, rfl, ?_, HR, HP⟩
        unfold f_m_served
        rw [b, if_neg one_ne, if_pos k0, o2, n0, if_pos (show nI 0 = (0 : Int32) from rfl)]
      · have nz : ¬ nI no = (0 : Int32) := fun z => n0 ((nI_eq (a := no) (b := 0) (by omega) (by omega)).mp z)
        rw [if_neg nz]
        obtain ⟨h1, E1, F1, t1, P1⟩ := plan_x H HP
        have H1 := F1.rel t1 H
        rw [E1, xbd1_some]
        obtain ⟨h2, E2, F2, V2⟩ := plan_m H1
        have o2' := H1.2.2.2.2.2.1.2.2.1
        have b' : f_m_isCarrier (nI j) h1 = 1 := by
          have : f_m_isCarrier (nI j) h1 = f_m_isCarrier (nI j) h := by unfold f_m_isCarrier; rw [F1.2.1 39 (by decide) (by decide)]
          rw [this]; exact b
        cases hp : posB h1 with
        | false =>
          obtain ⟨R2, K2⟩ := F2.rel ⟨w, g, np, nc, nl, tk, no, H1⟩
          refine ⟨-2, h1, h2, ?_, ?_, R2, K2.plan (Or.inr P1)⟩
          · rw [P1.1, hp, if_pos (show bI false = (0 : Int32) from rfl)]
          · unfold f_m_served
            rw [b', if_neg one_ne, if_pos k0, o2', if_neg nz, E2, xbd2_some, hp, if_pos (show bI false = (0 : Int32) from rfl)]
        | true =>
          obtain ⟨h3, E3, F3, M3⟩ := V2 hp
          obtain ⟨R3, K3⟩ := F3.rel ⟨w, g, np, nc, nl, tk, no, H1⟩
          obtain ⟨m1, m2⟩ := M3 j hj
          obtain ⟨e1, e2, e3, -⟩ := nums H1
          have p37 := (P1.2 hp).2 j (by rw [e2]; exact hj) (by omega)
          have hsb : sbF h1 < 2 ^ no := by unfold sbF; rw [e1, e2, e3]; exact SB_lt _ _ _ _ _ _
          have hv : vld no 0 (rowF h1 j) ∧ (rowF h1 j).length ≤ no := by
            unfold rowF
            rw [e1]
            have hS : (if j = 0 then 2 ^ no - 1 - sbF h1 else sbF h1) < 2 ^ no := by split <;> omega
            exact ⟨(best_spec _ _ _ _ no6 j hS).1, by rw [best_len]; exact els_len _ _⟩
          have hm : ∀ x, x ∈ rowF h1 j → x < 6 := fun x hx => by have := vld_mem _ 0 hv.1 x hx; omega
          have hlen := hv.2
          generalize rowF h1 j = t at *
          have rl : rowL 0 t < 2 ^ 31 := by
            have l1 := rowL_lt t hm
            have l2 : 16 ^ t.length ≤ 16 ^ 6 := Nat.pow_le_pow_right (by decide) (by omega)
            have l3 : (16 : Nat) ^ 6 < 2 ^ 31 := by decide
            omega
          have mk : ∀ r, f_orders_planned (nI j) k h1 = some r → (if h3.1 59 j ≤ k then (some ((-9 : Int32), h3)) else xgd (xin (((6 : Int32) * nI j) + k) 12 && true) (some ((h3.1 58 (((6 : Int32) * nI j) + k).toNatClampNeg), h3))) = some (r, h3) → ∃ r h1' h2', xbd1 (f_orders_planned (nI j) k h1) (fun v_9 => some (v_9, h1)) = some (r, h1') ∧ f_m_served (nI j) k h1' = some (r, h2') ∧ RelB h2' ∧ PlanOk h2' := by
            intro r hr hm3
            refine ⟨r, h1, h3, by rw [hr, xbd1_some], ?_, R3, K3.plan (Or.inr P1)⟩
            unfold f_m_served
            rw [b', if_neg one_ne, if_pos k0, o2', if_neg nz, E2, xbd2_some, hp, if_neg (show ¬ bI true = (0 : Int32) by decide), E3, xbd2_some, xin_nI (n := 2) (by omega) (by decide), clampc (k := j) (by omega), Bool.and_true, xgd_true]
            exact hm3
          rw [P1.1, hp, if_neg (show ¬ bI true = (0 : Int32) by decide)]
          by_cases k6 : (6 : Int32) ≤ k
          · refine mk (-9) ?_ ?_
            · unfold f_orders_planned
              rw [if_pos k6]; rfl
            · rw [m2, if_pos]
              rw [leI] at k6 ⊢
              rw [nI_toInt (by omega)]
              rw [tI 6] at k6
              omega
          · obtain ⟨i, hi, rfl⟩ := i_nat (x := k) (n := 6) (by rw [leI, tI 0] at k0; exact k0) (by rw [leI, tI 6] at k6; omega) (by decide)
            have dg := row_dig t i hm
            have e16 : 16 ^ i = 2 ^ (4 * i) := by rw [Nat.pow_mul]
            have num : (jushr (nI (rowL 0 t)) ((4 : Int32) * nI i)) &&& (15 : Int32) = nI (rowL 0 t / 16 ^ i % 16) := by
              unfold jushr
              rw [pk_ushrN (by omega) _ (4 * i) (ush4 i hi), e16]
              exact pk_andN (by have := Nat.div_le_self (rowL 0 t) (2 ^ (4 * i)); omega) 4 (by decide)
            have pl : f_orders_planned (nI j) (nI i) h1 = some (if i < t.length then nI (nth t i) else -9) := by
              unfold f_orders_planned f_orders_planned_j_3
              rw [if_neg k6, xin_nI (n := 2) (by omega) (by decide), clampc (k := j) (by omega), p37, num, dg, Bool.and_true, xgd_true]
              by_cases q : i < t.length
              · rw [if_pos q, if_pos q, if_neg (fun z => by
                  have := (nI_eq (a := nth t i + 1) (b := 0) (by have := hm _ (nth_mem t i q); omega) (by omega)).mp z
                  omega), nI_pred]
              · rw [if_neg q, if_neg q, if_pos (show nI 0 = (0 : Int32) from rfl)]
            refine mk _ pl ?_
            have en : (6 : Int32) * nI j + nI i = nI (6 * j + i) := by rw [nI_lit 6, pk_mul, nI_add]
            rw [m2, en]
            by_cases q : i < t.length
            · rw [if_neg (fun z => absurd ((leN (by omega) (by omega)).mp z) (by omega)), xin_nI (n := 12) (by omega) (by decide), clampc (k := 6 * j + i) (by omega), m1 i q, if_pos q]
              rfl
            · rw [if_pos ((leN (by omega) (by omega)).mpr (by omega)), if_neg q]
    · rw [if_neg k0]
      exact ⟨-1, h, h, rfl, by unfold f_m_served; rw [b, if_neg one_ne, if_neg k0], HR, HP⟩
