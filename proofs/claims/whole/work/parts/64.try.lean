/-! ===== the class's search ===== -/
theorem jmax_nat {a b : Nat} (ha : a < 2 ^ 30) (hb : b < 2 ^ 30) : jmax 0 (nI a - nI b) = nI (a - b) := by
  unfold jmax
  by_cases e : b < a
  · rw [if_pos (by rw [ltI, subT ha hb, tI 0]; omega), pk_sub (by omega)]
  · rw [if_neg (by rw [ltI, subT ha hb, tI 0]; omega)]
    have : a - b = 0 := by omega
    rw [this]; rfl
theorem or_nat (a b : Nat) : nI a ||| nI b = nI (a ||| b) := by
  apply Int32.toBitVec_inj.mp
  rw [Int32.toBitVec_or]
  show BitVec.ofNat 32 a ||| BitVec.ofNat 32 b = BitVec.ofNat 32 (a ||| b)
  exact (BitVec.ofNat_or ..).symm
theorem row_sh : ∀ o, o < 6 → ∀ d, d < 6 → jshl (nI o + (1 : Int32)) ((4 : Int32) * nI d) = nI ((o + 1) * 16 ^ d) := by decide +kernel
theorem row_or {row o d : Nat} (ho : o < 6) (hd : d < 6) (hr : row < 16 ^ d) : nI row ||| jshl (nI o + (1 : Int32)) ((4 : Int32) * nI d) = nI (row + (o + 1) * 16 ^ d) := by
  rw [row_sh o ho d hd, or_nat]
  congr 1
  have e : 16 ^ d = 2 ^ (4 * d) := by rw [Nat.pow_mul]
  rw [e] at hr ⊢
  have := Nat.two_pow_add_eq_or_of_lt hr (o + 1)
  rw [Nat.mul_comm, Nat.or_comm, ← this, Nat.add_comm]
theorem all_no : ∀ no, no < 7 → jshl (1 : Int32) (nI no) - (1 : Int32) = nI (2 ^ no - 1) := by decide +kernel
theorem set_or : ∀ U, U < 64 → ∀ o, o < 6 → U.testBit o = false → nI U ||| jshl (1 : Int32) (nI o) = nI (U + 2 ^ o) := by decide +kernel
theorem set_bit : ∀ U, U < 64 → ∀ o, o < 6 → (jshr (nI U) (nI o) &&& (1 : Int32)) = bI (U.testBit o) := by decide +kernel
def tab (h : Hp) (j : Nat) : Nat := (h.1 35 j).toNatClampNeg
def Inv5 (h : Hp) : Prop := ∀ j, j < 128 → tab h j ≤ 1000000 ∧ h.1 35 j = nI (tab h j)
def F35 (h h' : Hp) : Prop := h'.2 = h.2 ∧ ∀ a, a ≠ 35 → a ≠ 36 → h'.1 a = h.1 a
theorem F35.rf (h : Hp) : F35 h h := ⟨rfl, fun _ _ _ => rfl⟩
theorem F35.tr {h h' h'' : Hp} (F : F35 h h') (G : F35 h' h'') : F35 h h'' := ⟨G.1.trans F.1, fun a x y => (G.2 a x y).trans (F.2 a x y)⟩
def Rl (m P : Nat) (h h' : Hp) : Prop := (tab h' P = tab h P ∧ h'.1 36 P = h.1 36 P) ∨ (tab h' P < tab h P ∧ m ≤ tab h' P)
theorem Rl.rf (m P : Nat) (h : Hp) : Rl m P h h := Or.inl ⟨rfl, rfl⟩
theorem Rl.tr {m P : Nat} {h h' h'' : Hp} (a : Rl m P h h') (b : Rl m P h' h'') : Rl m P h h'' := by
  rcases a with ⟨a1, a2⟩ | ⟨a1, a2⟩
  · rcases b with ⟨b1, b2⟩ | ⟨b1, b2⟩
    · exact Or.inl ⟨b1.trans a1, b2.trans a2⟩
    · exact Or.inr ⟨by omega, b2⟩
  · rcases b with ⟨b1, b2⟩ | ⟨b1, b2⟩
    · exact Or.inr ⟨by omega, by omega⟩
    · exact Or.inr ⟨by omega, b2⟩
/-- what the search looks at -/
def DIn (h : Hp) (no : Nat) (C : Nat → Nat → Nat) (T du : Nat → Nat) : Prop := h.1 30 7 = nI no ∧ (∀ b, b < no → ∀ o, o < no → C (2 + b) o ≤ 63 ∧ h.1 34 (6 * b + o) = nI (C (2 + b) o)) ∧ ∀ o, o < no → T o = C (2 + o) o ∧ du o ≤ 200 ∧ h.1 33 o = nI (du o)
theorem DIn.of {h h' : Hp} (F : F35 h h') {no : Nat} {C : Nat → Nat → Nat} {T du : Nat → Nat} (H : DIn h no C T du) : DIn h' no C T du := by
  unfold DIn at H ⊢
  rw [F.2 30 (by decide) (by decide), F.2 34 (by decide) (by decide), F.2 33 (by decide) (by decide)]
  exact H
def SIn (h : Hp) (no : Nat) (C : Nat → Nat → Nat) (x s : Nat) : Prop := x < 8 ∧ ∀ o, o < no → C s o ≤ 63 ∧ h.1 34 (6 * x + o) = nI (C s o)
theorem SIn.of {h h' : Hp} (F : F35 h h') {no : Nat} {C : Nat → Nat → Nat} {x s : Nat} (H : SIn h no C x s) : SIn h' no C x s := by
  unfold SIn at H ⊢
  rw [F.2 34 (by decide) (by decide)]
  exact H
theorem DIn.s {h : Hp} {no : Nat} {C : Nat → Nat → Nat} {T du : Nat → Nat} (H : DIn h no C T du) (hn : no ≤ 6) {b : Nat} (hb : b < no) : SIn h no C b (2 + b) := ⟨by omega, fun o ho => H.2.1 b hb o ho⟩
/-- what a call does, over all its rows -/
def WOk (C : Nat → Nat → Nat) (T du : Nat → Nat) (no c s U tm lt : Nat) (h h' : Hp) : Prop := F35 h h' ∧ Inv5 h' ∧ ∀ P m, P < 128 → (∀ t, vld no U t → 64 * c + (U + bitsL t) = P → m ≤ lt + lat C T du s tm t) → Rl m P h h'
def WOk1 (C : Nat → Nat → Nat) (T du : Nat → Nat) (no c s U tm lt : Nat) (h h' : Hp) : Prop := F35 h h' ∧ Inv5 h' ∧ ∀ P m, P < 128 → (∀ o t, vld no U (o :: t) → 64 * c + (U + bitsL (o :: t)) = P → m ≤ lt + lat C T du s tm (o :: t)) → Rl m P h h'
/-- a step of the loop over the next order -/
theorem try_step {no : Nat} (hn : no ≤ 6) {C : Nat → Nat → Nat} {T du : Nat → Nat} {h : Hp} (H : DIn h no C T du) {c x s U row tm lt d o : Nat} (HS : SIn h no C x s) (hU : U < 2 ^ no) (hr : row < 16 ^ d) (hd : d < 6) (ht : tm ≤ 1000 + 126 * d) (hl : lt ≤ 2000 * d) (ho : o < no) (slf : Int32 → Int32 → Int32 → Int32 → Int32 → Int32 → Int32 → Hp → Option Hp) (K : Int32 → Hp → Option Hp) (f : Nat) : f_orders_tryRows_L_6 slf (nI c) (nI x) (nI U) (nI row) (nI tm) (nI lt) (nI d) K (f + 1) (nI o) h = if U.testBit o = true then f_orders_tryRows_L_6 slf (nI c) (nI x) (nI U) (nI row) (nI tm) (nI lt) (nI d) K f (nI (o + 1)) h else xbd1 (slf (nI c) (nI o) (nI (U + 2 ^ o)) (nI (row + (o + 1) * 16 ^ d)) (nI (tm + C s o + T o)) (nI (lt + (tm + C s o + T o - du o))) (nI (d + 1)) h) (fun h_11 => f_orders_tryRows_L_6 slf (nI c) (nI x) (nI U) (nI row) (nI tm) (nI lt) (nI d) K f (nI (o + 1)) h_11) := by
  have h64 := two64 hn
  obtain ⟨e7, hC, hT⟩ := H
  obtain ⟨x8, hS⟩ := HS
  obtain ⟨s1, s2⟩ := hS o ho
  obtain ⟨t1, t2, t3⟩ := hT o ho
  obtain ⟨c1, c2⟩ := hC o ho o ho
  rw [f_orders_tryRows_L_6, e7, if_neg (fun q => absurd ((leN (by omega) (by omega)).mp q) (by omega)), set_bit U (by omega) o (by omega)]
  cases hb : U.testBit o with
  | true => rw [if_neg (show ¬ bI true = (0 : Int32) by decide), if_pos rfl, nI_1]
  | false =>
    have e1 : (6 : Int32) * nI o + nI o = nI (6 * o + o) := by rw [nI_lit 6, pk_mul, nI_add]
    have e2 : (6 : Int32) * nI x + nI o = nI (6 * x + o) := by rw [nI_lit 6, pk_mul, nI_add]
    rw [if_pos (show bI false = (0 : Int32) from rfl), if_neg (by decide), e1, e2, xin_nI (n := 6) (by omega) (by decide), xin_nI (n := 48) (by omega) (by decide), xin_nI (n := 48) (by omega) (by decide), clampc (k := 6 * x + o) (by omega), clampc (k := 6 * o + o) (by omega), clampc (k := o) (by omega), s2, c2, t3, set_or U (by omega) o (by omega) hb, row_or (by omega) hd hr, nI_add, nI_add, jmax_nat (by omega) (by omega), nI_add, nI_1, nI_1, ← t1]
    rfl
theorem vld_le {C : Nat → Nat → Nat} {T du : Nat → Nat} {s tm : Nat} {o : Nat} {t : List Nat} (lt : Nat) : lt + lat C T du s tm (o :: t) = lt + (tm + C s o + T o - du o) + lat C T du (2 + o) (tm + C s o + T o) t := by
  rw [lat]; omega
theorem try_loop {no : Nat} (hn : no ≤ 6) {C : Nat → Nat → Nat} {T du : Nat → Nat} {fuel : Nat} (IH : ∀ d c x s U row tm lt h, 7 ≤ fuel + d → d ≤ 6 → c < 2 → U < 2 ^ no → row < 16 ^ d → tm ≤ 1000 + 126 * d → lt ≤ 2000 * d → DIn h no C T du → SIn h no C x s → Inv5 h → ∃ h', f_orders_tryRows fuel (nI c) (nI x) (nI U) (nI row) (nI tm) (nI lt) (nI d) h = some h' ∧ WOk C T du no c s U tm lt h h') {d c x s U row tm lt : Nat} {h : Hp} (hfd : 7 ≤ fuel + 1 + d) (hd : d ≤ 6) (hc : c < 2) (hU : U < 2 ^ no) (hr : row < 16 ^ d) (ht : tm ≤ 1000 + 126 * d) (hl : lt ≤ 2000 * d) (H : DIn h no C T du) (HS : SIn h no C x s) (HI : Inv5 h) : ∃ h', f_orders_tryRows_j_4 (f_orders_tryRows fuel) (nI c) (nI x) (nI U) (nI row) (nI tm) (nI lt) (nI d) h = some h' ∧ WOk1 C T du no c s U tm lt h h' := by
  have h64 := two64 hn
  unfold f_orders_tryRows_j_4
  by_cases hd6 : d < 6
  · rw [if_pos (ltL 6 hd6)]
    obtain ⟨s1, ⟨p1, p2, p3, p4⟩, E⟩ := lpX (fun f (s : Int32 × Hp) => f_orders_tryRows_L_6 (f_orders_tryRows fuel) (nI c) (nI x) (nI U) (nI row) (nI tm) (nI lt) (nI d) (fun l9_12 h_13 => some h_13) f s.1 s.2) no (fun i q => q.1 = nI i ∧ F35 h q.2 ∧ Inv5 q.2 ∧ ∀ P m, P < 128 → (∀ o t, vld no U (o :: t) → 64 * c + (U + bitsL (o :: t)) = P → m ≤ lt + lat C T du s tm (o :: t)) → Rl m P h q.2) (fun q => some q.2) (fun f q hq => by
      obtain ⟨q1, q2, q3, q4⟩ := hq
      rw [f_orders_tryRows_L_6, (H.of q2).1, q1, if_pos ((leN (by omega) (by omega)).mpr (Nat.le_refl _))]) (fun f i q hi hq => by
      obtain ⟨q1, q2, q3, q4⟩ := hq
      have st := try_step hn (H.of q2) (c := c) (row := row) (HS.of q2) hU hr hd6 ht hl hi (f_orders_tryRows fuel) (fun l9_12 h_13 => some h_13) f
      cases hb : U.testBit i with
      | true =>
        rw [hb, if_pos rfl] at st
        exact ⟨(nI (i + 1), q.2), ⟨rfl, q2, q3, q4⟩, by rw [q1]; exact st⟩
      | false =>
        rw [hb, if_neg (by decide)] at st
        have D' := H.of q2
        obtain ⟨t1, t2, -⟩ := D'.2.2 i hi
        have c1 := (D'.2.1 i hi i hi).1
        have s1 := ((HS.of q2).2 i hi).1
        have pw : 16 ^ (d + 1) = 16 ^ d * 16 := Nat.pow_succ ..
        have pw2 : (i + 1) * 16 ^ d ≤ 6 * 16 ^ d := Nat.mul_le_mul_right _ (by omega)
        obtain ⟨h2, E2, G1, G2, G3⟩ := IH (d + 1) c i (2 + i) (U + 2 ^ i) (row + (i + 1) * 16 ^ d) (tm + C s i + T i) (lt + (tm + C s i + T i - du i)) q.2 (by omega) (by omega) hc (addbit no (by omega) U (by omega) hU i (by omega) hi hb) (by omega) (by omega) (by omega) D' (D'.s hn hi) q3
        rw [E2, xbd1_some] at st
        refine ⟨(nI (i + 1), h2), ⟨rfl, q2.tr G1, G2, fun P m hP hm => (q4 P m hP hm).tr (G3 P m hP (fun t ht1 ht2 => ?_))⟩, by rw [q1]; exact st⟩
        rw [← vld_le]
        refine hm i t ⟨hi, hb, ht1⟩ ?_
        rw [bitsL]; omega) no 0 1000 ((0 : Int32), h) (by omega) (by omega) ⟨rfl, F35.rf h, HI, fun P m _ _ => Rl.rf m P h⟩
    exact ⟨s1.2, E, p2, p3, p4⟩
  · rw [if_neg (by rw [ltI, tI 6, nI_toInt (by omega)]; omega)]
    exact ⟨h, rfl, F35.rf h, HI, fun P m _ _ => Rl.rf m P h⟩
/-- the entry of a set, told anew -/
def put2 (h : Hp) (p lt row : Nat) : Hp := xI (xI h 35 p (nI lt)) 36 p (nI row)
theorem put2_tab (h : Hp) {p lt row : Nat} (hl : lt < 2 ^ 31) (j : Nat) : tab (put2 h p lt row) j = if j = p then lt else tab h j := by
  unfold tab put2
  rw [xI_1, if_neg (by omega), xI_1]
  by_cases e : j = p
  · rw [if_pos ⟨rfl, e⟩, if_pos e, clampc hl]
  · rw [if_neg (fun z => e z.2), if_neg e]
theorem put2_row (h : Hp) (p lt row j : Nat) : (put2 h p lt row).1 36 j = if j = p then nI row else h.1 36 j := by
  unfold put2
  rw [xI_1]
  by_cases e : j = p
  · rw [if_pos ⟨rfl, e⟩, if_pos e]
  · rw [if_neg (fun z => e z.2), if_neg e, xI_1, if_neg (by omega)]
theorem put2_F (h : Hp) (p lt row : Nat) : F35 h (put2 h p lt row) := ⟨rfl, fun a h1 h2 => by unfold put2; rw [xI_ne _ _ _ h2, xI_ne _ _ _ h1]⟩
theorem put2_I {h : Hp} (H : Inv5 h) {p lt : Nat} (row : Nat) (hl : lt ≤ 1000000) : Inv5 (put2 h p lt row) := by
  intro j hj
  rw [put2_tab h (by omega)]
  by_cases e : j = p
  · rw [if_pos e]
    refine ⟨hl, ?_⟩
    unfold put2
    rw [xI_1, if_neg (by omega), xI_1, if_pos ⟨rfl, e⟩]
  · rw [if_neg e]
    refine ⟨(H j hj).1, ?_⟩
    unfold put2
    rw [xI_1, if_neg (by omega), xI_1, if_neg (fun z => e z.2)]
    exact (H j hj).2
/-- a call, its first part: it looks at the bound, tells the entry, goes on -/
theorem try_head {no : Nat} (hn : no ≤ 6) {fuel c x U row tm lt d : Nat} {h : Hp} (e7 : h.1 30 7 = nI no) (HI : Inv5 h) (hc : c < 2) (hU : U < 2 ^ no) (hl : lt ≤ 1000000) : f_orders_tryRows (fuel + 1) (nI c) (nI x) (nI U) (nI row) (nI tm) (nI lt) (nI d) h = if lt < tab h (2 ^ no - 1) then f_orders_tryRows_j_4 (f_orders_tryRows fuel) (nI c) (nI x) (nI U) (nI row) (nI tm) (nI lt) (nI d) (if lt < tab h (64 * c + U) then put2 h (64 * c + U) lt row else h) else some h := by
  have h64 := two64 hn
  have a1 := HI (2 ^ no - 1) (by omega)
  have a2 := HI (64 * c + U) (by omega)
  rw [f_orders_tryRows, e7, all_no no (by omega), xin_nI (n := 128) (by omega) (by decide), clampc (k := 2 ^ no - 1) (by omega), a1.2, mul64, xin_nI (n := 128) (by omega) (by decide), clampc (k := 64 * c + U) (by omega), a2.2, Bool.and_true, xgd_true, xgd_true]
  by_cases q : lt < tab h (2 ^ no - 1)
  · rw [if_pos ((ltN (by omega) (by omega)).mpr q), if_pos q]
    by_cases q2 : lt < tab h (64 * c + U)
    · rw [if_neg (fun z => absurd ((leN (by omega) (by omega)).mp z) (by omega)), if_pos q2]; rfl
    · rw [if_pos ((leN (by omega) (by omega)).mpr (by omega)), if_neg q2]
  · rw [if_neg (fun z => q ((ltN (by omega) (by omega)).mp z)), if_neg q]
theorem try_W {no : Nat} (hn : no ≤ 6) {C : Nat → Nat → Nat} {T du : Nat → Nat} : ∀ fuel d c x s U row tm lt h, 7 ≤ fuel + d → d ≤ 6 → c < 2 → U < 2 ^ no → row < 16 ^ d → tm ≤ 1000 + 126 * d → lt ≤ 2000 * d → DIn h no C T du → SIn h no C x s → Inv5 h → ∃ h', f_orders_tryRows fuel (nI c) (nI x) (nI U) (nI row) (nI tm) (nI lt) (nI d) h = some h' ∧ WOk C T du no c s U tm lt h h' := by
  have h64 := two64 hn
  intro fuel
  induction fuel with
  | zero => intro d c x s U row tm lt h h1 h2; omega
  | succ fuel IH =>
    intro d c x s U row tm lt h hfd hd hc hU hr ht hl H HS HI
    rw [try_head hn H.1 HI hc hU (by omega)]
    by_cases q : lt < tab h (2 ^ no - 1)
    · rw [if_pos q]
      have hF : F35 h (if lt < tab h (64 * c + U) then put2 h (64 * c + U) lt row else h) := by
        split
        · exact put2_F _ _ _ _
        · exact F35.rf h
      have hI : Inv5 (if lt < tab h (64 * c + U) then put2 h (64 * c + U) lt row else h) := by
        split
        · exact put2_I HI row (by omega)
        · exact HI
      have hR : ∀ P m, P < 128 → (∀ t, vld no U t → 64 * c + (U + bitsL t) = P → m ≤ lt + lat C T du s tm t) → Rl m P h (if lt < tab h (64 * c + U) then put2 h (64 * c + U) lt row else h) := by
        intro P m hP hm
        split
        · next q2 =>
          by_cases e : P = 64 * c + U
          · right
            rw [put2_tab h (by omega), if_pos e]
            have := hm [] trivial (by simp [bitsL]; omega)
            simp only [lat, Nat.add_zero] at this
            exact ⟨by rw [e]; exact q2, this⟩
          · left
            rw [put2_tab h (by omega), if_neg e, put2_row, if_neg e]
            exact ⟨rfl, rfl⟩
        · exact Rl.rf m P h
      generalize (if lt < tab h (64 * c + U) then put2 h (64 * c + U) lt row else h) = h1 at *
      obtain ⟨h', E, G1, G2, G3⟩ := try_loop hn IH hfd hd hc hU hr ht hl (H.of hF) (HS.of hF) hI
      exact ⟨h', E, hF.tr G1, G2, fun P m hP hm => (hR P m hP hm).tr (G3 P m hP (fun o t h1 h2 => hm (o :: t) h1 h2))⟩
    · rw [if_neg q]
      exact ⟨h, rfl, F35.rf h, HI, fun P m _ _ => Rl.rf m P h⟩
theorem bits_pos (o : Nat) (t : List Nat) : 0 < bitsL (o :: t) := by
  rw [bitsL]
  have := Nat.two_pow_pos o
  omega
/-- the row that is wanted is found -/
theorem try_C {no : Nat} (hn : no ≤ 6) {C : Nat → Nat → Nat} {T du : Nat → Nat} {c P L Bf : Nat} (hc : c < 2) (hP : P < 128) (hA : P = 2 ^ no - 1 ∨ L < Bf) : ∀ t fuel d x s U row tm lt h, 7 ≤ fuel + d → d + t.length ≤ 6 → U < 2 ^ no → row < 16 ^ d → tm ≤ 1000 + 126 * d → lt ≤ 2000 * d → DIn h no C T du → SIn h no C x s → Inv5 h → vld no U t → 64 * c + (U + bitsL t) = P → L = lt + lat C T du s tm t → L < tab h P → Bf ≤ tab h (2 ^ no - 1) → (∀ t', vld no U t' → 64 * c + (U + bitsL t') = 2 ^ no - 1 → Bf ≤ lt + lat C T du s tm t') → (∀ t', vld no U t' → bitsL t' = bitsL t → L ≤ lt + lat C T du s tm t' ∧ (lexL t' t → L < lt + lat C T du s tm t')) → ∃ h', f_orders_tryRows fuel (nI c) (nI x) (nI U) (nI row) (nI tm) (nI lt) (nI d) h = some h' ∧ tab h' P = L ∧ h'.1 36 P = nI (row + rowL d t) := by
  have h64 := two64 hn
  intro t
  induction t with
  | nil =>
    intro fuel d x s U row tm lt h hfd hd hU hr ht hl H HS HI hv hp hL hlt hB hBm hmin
    simp only [bitsL, lat, Nat.add_zero, List.length_nil] at hp hL hd
    subst hL
    obtain ⟨f, rfl⟩ : ∃ f, fuel = f + 1 := ⟨fuel - 1, by omega⟩
    have np : L < tab h (2 ^ no - 1) := by
      rcases hA with e | e
      · rw [← e]; exact hlt
      · omega
    rw [try_head hn H.1 HI hc hU (by omega), if_pos np, hp, if_pos hlt]
    have hF := put2_F h P L row
    obtain ⟨h', E, G1, G2, G3⟩ := try_loop (d := d) (row := row) (h := put2 h P L row) hn (fun d c x s U row tm lt h => try_W hn f d c x s U row tm lt h) (by omega) hd hc hU hr ht hl (H.of hF) (HS.of hF) (put2_I HI row (by omega))
    refine ⟨h', E, ?_⟩
    have := G3 P 2000000 hP (fun o t' h1 h2 => by have := bits_pos o t'; omega)
    unfold Rl at this
    rw [put2_tab h (p := P) (lt := L) (row := row) (by omega), if_pos rfl, put2_row, if_pos rfl] at this
    rcases this with ⟨a1, a2⟩ | ⟨a1, a2⟩
    · exact ⟨a1, a2⟩
    · omega
  | cons o t ih =>
    intro fuel d x s U row tm lt h hfd hd hU hr ht hl H HS HI hv hp hL hlt hB hBm hmin
    obtain ⟨hv1, hv2, hv3⟩ := hv
    obtain ⟨f, rfl⟩ : ∃ f, fuel = f + 1 := ⟨fuel - 1, by omega⟩
    simp only [List.length_cons] at hd
    have hd6 : d < 6 := by omega
    have np : lt < tab h (2 ^ no - 1) := by
      rcases hA with e | e
      · rw [← e]; omega
      · omega
    rw [try_head hn H.1 HI hc hU (by omega), if_pos np]
    have bp := bits_pos o t
    have hF : F35 h (if lt < tab h (64 * c + U) then put2 h (64 * c + U) lt row else h) := by
      split
      · exact put2_F _ _ _ _
      · exact F35.rf h
    have hI : Inv5 (if lt < tab h (64 * c + U) then put2 h (64 * c + U) lt row else h) := by
      split
      · exact put2_I HI row (by omega)
      · exact HI
    have hlt1 : L < tab (if lt < tab h (64 * c + U) then put2 h (64 * c + U) lt row else h) P := by
      split
      · rw [put2_tab h (by omega), if_neg (by omega)]; exact hlt
      · exact hlt
    have hB1 : Bf ≤ tab (if lt < tab h (64 * c + U) then put2 h (64 * c + U) lt row else h) (2 ^ no - 1) := by
      split
      · rw [put2_tab h (by omega)]
        split
        · next e =>
          have := hBm [] trivial (by simp [bitsL]; omega)
          simpa [lat] using this
        · exact hB
      · exact hB
    generalize (if lt < tab h (64 * c + U) then put2 h (64 * c + U) lt row else h) = h1 at *
    unfold f_orders_tryRows_j_4
    rw [if_pos (ltL 6 hd6)]
    have H1 := H.of hF
    have HS1 := HS.of hF
    obtain ⟨s1, ⟨p1, p2, p3, p4, p5, p6⟩, E⟩ := lpX (fun f' (s : Int32 × Hp) => f_orders_tryRows_L_6 (f_orders_tryRows f) (nI c) (nI x) (nI U) (nI row) (nI tm) (nI lt) (nI d) (fun l9_12 h_13 => some h_13) f' s.1 s.2) no (fun i q => q.1 = nI i ∧ F35 h1 q.2 ∧ Inv5 q.2 ∧ Bf ≤ tab q.2 (2 ^ no - 1) ∧ (i ≤ o → L < tab q.2 P) ∧ (o < i → tab q.2 P = L ∧ q.2.1 36 P = nI (row + rowL d (o :: t)))) (fun q => some q.2) (fun f' q hq => by
      obtain ⟨q1, q2, q3, q4⟩ := hq
      rw [f_orders_tryRows_L_6, (H1.of q2).1, q1, if_pos ((leN (by omega) (by omega)).mpr (Nat.le_refl _))]) (fun f' i q hi hq => by
      obtain ⟨q1, q2, q3, q4, q5, q6⟩ := hq
      have st := try_step hn (H1.of q2) (c := c) (row := row) (HS1.of q2) hU hr hd6 ht hl hi (f_orders_tryRows f) (fun l9_12 h_13 => some h_13) f'
      cases hb : U.testBit i with
      | true =>
        rw [hb, if_pos rfl] at st
        have ne : i ≠ o := fun e => by rw [e, hv2] at hb; cases hb
        exact ⟨(nI (i + 1), q.2), ⟨rfl, q2, q3, q4, fun z => q5 (by omega), fun z => q6 (by omega)⟩, by rw [q1]; exact st⟩
      | false =>
        rw [hb, if_neg (by decide)] at st
        have D' := H1.of q2
        obtain ⟨t1, t2, -⟩ := D'.2.2 i hi
        have c1 := (D'.2.1 i hi i hi).1
        have s1 := ((HS1.of q2).2 i hi).1
        have pw : 16 ^ (d + 1) = 16 ^ d * 16 := Nat.pow_succ ..
        have pw2 : (i + 1) * 16 ^ d ≤ 6 * 16 ^ d := Nat.mul_le_mul_right _ (by omega)
        have hUi := addbit no (by omega) U (by omega) hU i (by omega) hi hb
        obtain ⟨h2, E2, G1, G2, G3⟩ := try_W hn f (d + 1) c i (2 + i) (U + 2 ^ i) (row + (i + 1) * 16 ^ d) (tm + C s i + T i) (lt + (tm + C s i + T i - du i)) q.2 (by omega) (by omega) hc hUi (by omega) (by omega) (by omega) D' (D'.s hn hi) q3
        have st2 := st
        rw [E2, xbd1_some] at st2
        have nB : Bf ≤ tab h2 (2 ^ no - 1) := by
          have := G3 (2 ^ no - 1) Bf (by omega) (fun t' h1 h2 => by
            rw [← vld_le]
            exact hBm (i :: t') ⟨hi, hb, h1⟩ (by rw [bitsL]; omega))
          rcases this with ⟨a1, a2⟩ | ⟨a1, a2⟩ <;> omega
        by_cases e : i = o
        · subst e
          obtain ⟨h3, E3, r1, r2⟩ := ih f (d + 1) i (2 + i) (U + 2 ^ i) (row + (i + 1) * 16 ^ d) (tm + C s i + T i) (lt + (tm + C s i + T i - du i)) q.2 (by omega) (by omega) hUi (by omega) (by omega) (by omega) D' (D'.s hn hi) q3 hv3 (by rw [bitsL] at hp; omega) (by rw [← vld_le]; exact hL) (q5 (Nat.le_refl _)) q4 (fun t' h1 h2 => by
            rw [← vld_le]
            exact hBm (i :: t') ⟨hi, hb, h1⟩ (by rw [bitsL]; omega)) (fun t' h1 h2 => by
            rw [← vld_le]
            have := hmin (i :: t') ⟨hi, hb, h1⟩ (by rw [bitsL, bitsL, h2])
            exact ⟨this.1, fun z => this.2 (Or.inr ⟨rfl, z⟩)⟩)
          rw [E2] at E3
          have E3 := Option.some.inj E3
          subst E3
          refine ⟨(nI (i + 1), h2), ⟨rfl, q2.tr G1, G2, nB, fun z => by omega, fun _ => ⟨r1, ?_⟩⟩, by rw [q1]; exact st2⟩
          rw [rowL, ← Nat.add_assoc]; exact r2
        · by_cases e2 : i < o
          · refine ⟨(nI (i + 1), h2), ⟨rfl, q2.tr G1, G2, nB, fun z => ?_, fun z => by omega⟩, by rw [q1]; exact st2⟩
            have := G3 P (L + 1) hP (fun t' h1 h2 => by
              rw [← vld_le]
              exact (hmin (i :: t') ⟨hi, hb, h1⟩ (by rw [bitsL]; omega)).2 (Or.inl e2))
            have := q5 (by omega)
            simp only
            rcases ‹Rl (L + 1) P q.2 h2› with ⟨a1, a2⟩ | ⟨a1, a2⟩ <;> omega
          · refine ⟨(nI (i + 1), h2), ⟨rfl, q2.tr G1, G2, nB, fun z => by omega, fun z => ?_⟩, by rw [q1]; exact st2⟩
            obtain ⟨z1, z2⟩ := q6 (by omega)
            have := G3 P L hP (fun t' h1 h2 => by
              rw [← vld_le]
              exact (hmin (i :: t') ⟨hi, hb, h1⟩ (by rw [bitsL]; omega)).1)
            rcases this with ⟨a1, a2⟩ | ⟨a1, a2⟩
            · exact ⟨a1.trans z1, a2.trans z2⟩
            · omega) no 0 1000 ((0 : Int32), h1) (by omega) (by omega) ⟨rfl, F35.rf h1, hI, hB1, fun _ => hlt1, fun z => by omega⟩
    obtain ⟨r1, r2⟩ := p6 hv1
    exact ⟨s1.2, E, r1, r2⟩
