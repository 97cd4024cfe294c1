/-! ===== reading the text ===== -/
def isMk (b : Nat) : Bool := decide (49 ≤ b) && decide (b ≤ 57)
def isSg (b : Nat) : Bool := ((decide (b = 46) || decide (b = 35)) || decide (b = 68)) || isMk b
def mkB (b : Nat) : Nat := if isMk b then 2 ^ (b - 48) else 0
def rI (T : Nat → Nat) : Nat → Nat
  | 0 => 0
  | i + 1 => if T i = 47 then rI T i + 1 else rI T i
def aI (T : Nat → Nat) : Nat → Nat
  | 0 => 0
  | i + 1 => if T i = 47 then 0 else aI T i + 1
def wI (T : Nat → Nat) : Nat → Nat
  | 0 => 8
  | i + 1 => if T i = 47 then (if rI T i = 0 then aI T i else wI T i) else wI T i
def dI' (T : Nat → Nat) : Nat → Nat
  | 0 => 0
  | i + 1 => dI' T i + (if T i = 68 then 1 else 0)
def mN (T : Nat → Nat) : Nat → Nat
  | 0 => 0
  | i + 1 => mN T i ||| mkB (T i)
def okI (T : Nat → Nat) (i : Nat) : Bool := if T i = 47 then (if rI T i = 0 then decide (2 ≤ aI T i) else decide (wI T i ≤ aI T i)) && decide (rI T i < 7) else (isSg (T i) && decide (aI T i < wI T i)) && ((!decide (T i = 68) || decide (dI' T i < 8)) && decide (mN T i &&& mkB (T i) = 0))
def upTo (T : Nat → Nat) (i : Nat) : Prop := ∀ j, j < i → okI T j = true
theorem upTo.p {T : Nat → Nat} {i : Nat} (h : upTo T (i + 1)) : upTo T i := fun j hj => h j (by omega)
theorem mkB_lt : ∀ b, b < 256 → mkB b < 1024 := by decide +kernel
theorem mN_lt {T : Nat → Nat} (hT : ∀ i, T i < 256) : ∀ i, mN T i < 1024 := by
  intro i
  induction i with
  | zero => exact (by decide : (0 : Nat) < 1024)
  | succ i ih => exact Nat.or_lt_two_pow (n := 10) ih (mkB_lt _ (hT i))
theorem ok_sl {T : Nat → Nat} {i : Nat} (h : okI T i = true) (e : T i = 47) : (rI T i = 0 → 2 ≤ aI T i) ∧ (rI T i ≠ 0 → wI T i ≤ aI T i) ∧ rI T i < 7 := by
  unfold okI at h
  rw [if_pos e, Bool.and_eq_true] at h
  refine ⟨fun z => ?_, fun z => ?_, of_decide_eq_true h.2⟩
  · rw [if_pos z] at h; exact of_decide_eq_true h.1
  · rw [if_neg z] at h; exact of_decide_eq_true h.1
theorem ok_sg {T : Nat → Nat} {i : Nat} (h : okI T i = true) (e : ¬ T i = 47) : isSg (T i) = true ∧ aI T i < wI T i ∧ (T i = 68 → dI' T i < 8) ∧ mN T i &&& mkB (T i) = 0 := by
  unfold okI at h
  rw [if_neg e, Bool.and_eq_true, Bool.and_eq_true, Bool.and_eq_true] at h
  obtain ⟨⟨h1, h2⟩, h3, h4⟩ := h
  refine ⟨h1, of_decide_eq_true h2, fun z => ?_, of_decide_eq_true h4⟩
  rw [decide_eq_true z] at h3
  simpa using h3
/-- what holds while nothing was at fault -/
theorem tx_inv {T : Nat → Nat} : ∀ i, upTo T i → rI T i ≤ 7 ∧ aI T i ≤ wI T i ∧ wI T i ≤ 8 ∧ (rI T i ≠ 0 → 2 ≤ wI T i) ∧ (rI T i = 0 → wI T i = 8) ∧ dI' T i ≤ 8 := by
  intro i
  induction i with
  | zero => intro _; exact ⟨Nat.zero_le 7, Nat.zero_le 8, Nat.le_refl 8, fun z => absurd rfl z, fun _ => rfl, Nat.zero_le 8⟩
  | succ i ih =>
    intro h
    obtain ⟨h1, h2, h3, h4, h5, h6⟩ := ih h.p
    have hk := h i (by omega)
    by_cases e : T i = 47
    · obtain ⟨k1, k2, k3⟩ := ok_sl hk e
      have e68 : ¬ T i = 68 := by omega
      rw [rI, aI, wI, dI', if_pos e, if_pos e, if_pos e, if_neg e68]
      by_cases r0 : rI T i = 0
      · rw [if_pos r0]
        have := k1 r0
        have := h5 r0
        exact ⟨by omega, by omega, by omega, fun _ => by omega, fun z => by omega, by omega⟩
      · rw [if_neg r0]
        have := h4 r0
        exact ⟨by omega, by omega, by omega, fun _ => by omega, fun z => by omega, by omega⟩
    · obtain ⟨k1, k2, k3, k4⟩ := ok_sg hk e
      rw [rI, aI, wI, dI', if_neg e, if_neg e, if_neg e]
      refine ⟨h1, by omega, h3, h4, h5, ?_⟩
      split
      · next z => have := k3 z; omega
      · omega
/-- where the fault is; none, if all can stand -/
def fltI (T : Nat → Nat) (n : Nat) : Option Nat := match fdB (fun i => !okI T i) n with
  | some i => some i
  | none => if rI T n = 0 ∨ aI T n < wI T n then some n else none
theorem x_sign : ∀ b, b < 256 → f_x_isSign (nI b) = bI (isSg b) := by decide +kernel
theorem x_mark : ∀ b, b < 256 → f_x_markOf (nI b) = nI (mkB b) := by decide +kernel
theorem and_nat (a b : Nat) : nI a &&& nI b = nI (a &&& b) := by
  apply Int32.toBitVec_inj.mp
  rw [Int32.toBitVec_and]
  show BitVec.ofNat 32 a &&& BitVec.ofNat 32 b = BitVec.ofNat 32 (a &&& b)
  exact (BitVec.ofNat_and ..).symm
def TxX (h : Hp) (T : Nat → Nat) (n : Nat) : Prop := n ≤ 80 ∧ h.1 0 1 = nI n ∧ (∀ i, T i < 256) ∧ ∀ i, i < n → h.1 1 i = nI (T i)
def encF (v : Int32) (o : Option Nat) : Int32 := match o with
  | some q => nI q
  | none => v
theorem fault_x {h : Hp} {T : Nat → Nat} {n : Nat} (H : TxX h T n) : f_x_faultPlace h = some (encF (-1) (fltI T n)) := by
  obtain ⟨n80, e, hT, hb⟩ := H
  unfold f_x_faultPlace
  rw [e]
  have key : ∀ m i fuel, i + m = n → m < fuel → upTo T i → f_x_faultPlace_L_1 h (fun l1_21 l2_22 l3_23 l4_24 l5_25 l6_26 => some (if l2_22 = (1 : Int32) then (nI n) else (if l1_21 ≤ l3_23 then (-1 : Int32) else (nI n)))) fuel (nI (if rI T i = 0 then 0 else wI T i)) (nI (rI T i + 1)) (nI (aI T i)) (nI (dI' T i)) (nI (mN T i)) (nI i) = some (encF (-1) (fltI T n)) := by
    intro m
    induction m with
    | zero =>
      intro i fuel hi hf hu
      obtain ⟨f, rfl⟩ : ∃ f, fuel = f + 1 := ⟨fuel - 1, by omega⟩
      have : i = n := by omega
      subst this
      obtain ⟨h1, h2, h3, h4, h5, h6⟩ := tx_inv i hu
      have ff : fltI T i = if rI T i = 0 ∨ aI T i < wI T i then some i else none := by
        unfold fltI
        rw [fdB_no (fun j hj => by rw [hu j hj]; rfl)]
      rw [f_x_faultPlace_L_1, e, if_pos ((leN (by omega) (by omega)).mpr (Nat.le_refl _)), ff]
      by_cases r0 : rI T i = 0
      · rw [if_pos (show nI (rI T i + 1) = (1 : Int32) by rw [r0]; rfl), if_pos (Or.inl r0)]; rfl
      · rw [if_neg (neL 1 (by omega) (by omega)), if_neg r0]
        by_cases q : aI T i < wI T i
        · rw [if_neg (fun z => absurd ((leN (by omega) (by omega)).mp z) (by omega)), if_pos (Or.inr q)]; rfl
        · rw [if_pos ((leN (by omega) (by omega)).mpr (by omega)), if_neg (by omega)]; rfl
    | succ m ih =>
      intro i fuel hi hf hu
      obtain ⟨f, rfl⟩ : ∃ f, fuel = f + 1 := ⟨fuel - 1, by omega⟩
      obtain ⟨h1, h2, h3, h4, h5, h6⟩ := tx_inv i hu
      have b256 := hT i
      have bad : okI T i = false → fltI T n = some i := fun z => by
        unfold fltI
        rw [fdB_of (P := fun i => !okI T i) (n := n) (i := i) (by omega) (by simp [z]) (fun j hj => by simp [hu j hj])]
      have nxt : okI T i = true → upTo T (i + 1) := fun z j hj => by
        by_cases w : j = i
        · subst w; exact z
        · exact hu j (by omega)
      rw [f_x_faultPlace_L_1, e, if_neg (fun z => absurd ((leN (by omega) (by omega)).mp z) (by omega)), xin_nI (n := 80) (by omega) (by decide), Bool.and_true, xgd_true, clampc (by omega), hb i (by omega)]
      by_cases e47 : T i = 47
      · rw [if_pos (show nI (T i) = (47 : Int32) by rw [e47]; rfl)]
        have lim : (if nI (rI T i + 1) = (1 : Int32) then (2 : Int32) else nI (if rI T i = 0 then 0 else wI T i)) = nI (if rI T i = 0 then 2 else wI T i) := by
          by_cases r0 : rI T i = 0
          · rw [if_pos (show nI (rI T i + 1) = (1 : Int32) by rw [r0]; rfl), if_pos r0]; rfl
          · rw [if_neg (neL 1 (by omega) (by omega)), if_neg r0, if_neg r0]
        rw [lim]
        have w8 : (if rI T i = 0 then 2 else wI T i) ≤ 8 := by split <;> omega
        by_cases q : aI T i < (if rI T i = 0 then 2 else wI T i)
        · rw [if_pos ((ltN (by omega) (by omega)).mpr q), bad]; rfl
          unfold okI
          rw [if_pos e47]
          by_cases r0 : rI T i = 0
          · rw [if_pos r0] at q ⊢
            rw [decide_eq_false (show ¬ 2 ≤ aI T i by omega)]; rfl
          · rw [if_neg r0] at q ⊢
            rw [decide_eq_false (show ¬ wI T i ≤ aI T i by omega)]; rfl
        · rw [if_neg (fun z => q ((ltN (by omega) (by omega)).mp z))]
          by_cases r7 : rI T i = 7
          · rw [if_pos (show nI (rI T i + 1) = (8 : Int32) by rw [r7]; rfl), bad]; rfl
            unfold okI
            rw [if_pos e47, r7]; simp
          · rw [if_neg (neL 8 (by omega) (by omega)), nI_1, nI_1]
            have ok : okI T i = true := by
              unfold okI
              rw [if_pos e47, decide_eq_true (show rI T i < 7 by omega), Bool.and_true]
              by_cases r0 : rI T i = 0
              · rw [if_pos r0] at q ⊢; exact decide_eq_true (by omega)
              · rw [if_neg r0] at q ⊢; exact decide_eq_true (by omega)
            have := ih (i + 1) f (by omega) (by omega) (nxt ok)
            have e68 : ¬ T i = 68 := by omega
            have mk0 : mkB (T i) = 0 := by rw [e47]; rfl
            rw [rI, aI, wI, dI', mN, if_pos e47, if_pos e47, if_pos e47, if_neg e68, mk0, Nat.or_zero, Nat.add_zero, if_neg (show ¬ rI T i + 1 = 0 by omega)] at this
            have aw : (if rI T i = 0 then aI T i else wI T i) = aI T i := by
              by_cases r0 : rI T i = 0
              · rw [if_pos r0]
              · rw [if_neg r0] at q ⊢; omega
            rw [aw] at this
            exact this
      · have ne47 : ¬ nI (T i) = (47 : Int32) := neL 47 e47 (by omega)
        rw [if_neg ne47]
        have lim : (if nI (rI T i + 1) = (1 : Int32) then (8 : Int32) else nI (if rI T i = 0 then 0 else wI T i)) = nI (wI T i) := by
          by_cases r0 : rI T i = 0
          · rw [if_pos (show nI (rI T i + 1) = (1 : Int32) by rw [r0]; rfl), h5 r0]; rfl
          · rw [if_neg (neL 1 (by omega) (by omega)), if_neg r0]
        have mlt := mN_lt hT i
        have klt := mkB_lt _ b256
        have alt : mN T i &&& mkB (T i) < 1024 := and_lt klt
        rw [lim, x_sign _ b256, x_mark _ b256, and_nat]
        by_cases q : aI T i < wI T i
        · rw [if_neg (fun z => by have := (nI_eq (by omega) (by omega)).mp z; omega)]
          cases hs : isSg (T i) with
          | false =>
            rw [if_pos (show bI false = (0 : Int32) from rfl), bad]; rfl
            unfold okI
            rw [if_neg e47, hs]; rfl
          | true =>
            rw [if_neg (show ¬ bI true = (0 : Int32) by decide)]
            by_cases m0 : mN T i &&& mkB (T i) = 0
            · rw [m0, if_pos (show nI 0 = (0 : Int32) from rfl)]
              by_cases e68 : T i = 68
              · rw [if_pos (show nI (T i) = (68 : Int32) by rw [e68]; rfl)]
                by_cases d8 : dI' T i = 8
                · rw [if_pos (show nI (dI' T i) = (8 : Int32) by rw [d8]; rfl), bad]; rfl
                  unfold okI
                  rw [if_neg e47, d8, decide_eq_true e68]; simp
                · rw [if_neg (neL 8 d8 (by omega))]
                  have ok : okI T i = true := by
                    unfold okI
                    rw [if_neg e47, hs, decide_eq_true q, decide_eq_true (show dI' T i < 8 by omega), decide_eq_true m0]; simp
                  have := ih (i + 1) f (by omega) (by omega) (nxt ok)
                  rw [rI, aI, wI, dI', mN, if_neg e47, if_neg e47, if_neg e47, if_pos e68] at this
                  unfold f_x_faultPlace_j_16
                  rw [if_pos (show nI (T i) = (68 : Int32) by rw [e68]; rfl), nI_1, nI_1, nI_1, or_nat]
                  exact this
              · rw [if_neg (neL 68 e68 (by omega))]
                have ok : okI T i = true := by
                  unfold okI
                  rw [if_neg e47, hs, decide_eq_true q, decide_eq_false e68, decide_eq_true m0]; simp
                have := ih (i + 1) f (by omega) (by omega) (nxt ok)
                rw [rI, aI, wI, dI', mN, if_neg e47, if_neg e47, if_neg e47, if_neg e68] at this
                unfold f_x_faultPlace_j_16
                have z0 : nI (dI' T i) + (0 : Int32) = nI (dI' T i + 0) := by rw [nI_lit 0, nI_add]
                rw [if_neg (neL 68 e68 (by omega)), z0, nI_1, nI_1, or_nat]
                exact this
            · rw [if_neg (neL 0 m0 (by omega)), bad]; rfl
              unfold okI
              rw [if_neg e47, decide_eq_false m0]; simp
        · rw [if_pos (show nI (aI T i) = nI (wI T i) by congr 1; omega), bad]; rfl
          unfold okI
          rw [if_neg e47, decide_eq_false q]; simp
  exact key n 0 1000 (by omega) (by omega) (fun j hj => by omega)
/-- the reference's -/
theorem sb_ne : ∀ b, b < 256 → ((sb b = (47 : Int32)) = (b = 47)) ∧ ((sb b = (46 : Int32)) = (b = 46)) ∧ ((sb b = (35 : Int32)) = (b = 35)) ∧ ((sb b = (68 : Int32)) = (b = 68)) ∧ f_m_in (sb b) 49 57 = bI (isMk b) ∧ (isSg b = true → sb b = nI b) := by
  have h : ∀ b, b < 256 → decide (sb b = (47 : Int32)) = decide (b = 47) ∧ decide (sb b = (46 : Int32)) = decide (b = 46) ∧ decide (sb b = (35 : Int32)) = decide (b = 35) ∧ decide (sb b = (68 : Int32)) = decide (b = 68) ∧ f_m_in (sb b) 49 57 = bI (isMk b) ∧ (isSg b = true → sb b = nI b) := by decide +kernel
  intro b hb
  obtain ⟨a1, a2, a3, a4, a5, a6⟩ := h b hb
  exact ⟨propext (decide_eq_decide.mp a1), propext (decide_eq_decide.mp a2), propext (decide_eq_decide.mp a3), propext (decide_eq_decide.mp a4), a5, a6⟩
theorem mk_sh : ∀ M, M < 1024 → ∀ b, b < 58 → isMk b = true → (jshr (nI M) (nI b - (48 : Int32)) &&& (1 : Int32)) = bI (!decide (M &&& mkB b = 0)) := by decide +kernel
theorem mk_one : ∀ b, b < 256 → isMk b = true → jshl (1 : Int32) (nI b - (48 : Int32)) = nI (mkB b) := by decide +kernel
def TxM (h : Hp) (T : Nat → Nat) (n : Nat) : Prop := n ≤ 80 ∧ h.1 39 2 = nI n ∧ (∀ i, T i < 256) ∧ ∀ i, i < n → h.1 40 i = sb (T i)
def f10 (h : Hp) (r c : Nat) : Hp := xI (xI h 39 11 (nI c)) 39 10 (nI r)
theorem f10_f10 (h : Hp) (r c r' c' : Nat) : xI (xI (f10 h r c) 39 11 (nI c')) 39 10 (nI r') = f10 h r' c' := by
  refine hp_ext (fun a b => ?_) (by rfl)
  unfold f10
  simp only [xI_1]
  by_cases e1 : a = 39 ∧ b = 10
  · simp only [if_pos e1]
  · simp only [if_neg e1]
    by_cases e2 : a = 39 ∧ b = 11
    · simp only [if_pos e2]
    · simp only [if_neg e2]
theorem f10_10 (h : Hp) (r c : Nat) : (f10 h r c).1 39 10 = nI r := by unfold f10; rw [xI_1, if_pos ⟨rfl, rfl⟩]
theorem f10_11 (h : Hp) (r c : Nat) : (f10 h r c).1 39 11 = nI c := by unfold f10; rw [xI_1, if_neg (by decide), xI_1, if_pos ⟨rfl, rfl⟩]
theorem f10_o (h : Hp) (r c : Nat) {a b : Nat} (e : ¬ (a = 39 ∧ (b = 10 ∨ b = 11))) : (f10 h r c).1 a b = h.1 a b := by
  unfold f10; rw [xI_1, if_neg (by omega), xI_1, if_neg (by omega)]
/-- whether a byte can stand, as the reference asks it -/
theorem well_m {b : Nat} (hb : b < 256) {M : Nat} (hM : M < 1024) {D a w : Nat} (hD : D < 2 ^ 20) (ha : a < 2 ^ 20) (hw : w < 2 ^ 20) : (if (if sb b = (46 : Int32) then (if nI w ≤ nI a then (0 : Int32) else (1 : Int32)) else (if sb b = (35 : Int32) then (if nI w ≤ nI a then (0 : Int32) else (1 : Int32)) else (if sb b = (68 : Int32) then (if nI w ≤ nI a then (0 : Int32) else (1 : Int32)) else (if (f_m_in (sb b) (49 : Int32) (57 : Int32)) = (0 : Int32) then (0 : Int32) else (if nI w ≤ nI a then (0 : Int32) else (1 : Int32)))))) = (0 : Int32) then (0 : Int32) else (if sb b = (68 : Int32) then (if (8 : Int32) ≤ nI D then (0 : Int32) else (if (f_m_in (sb b) (49 : Int32) (57 : Int32)) = (0 : Int32) then (1 : Int32) else (if ((jshr (nI M) ((sb b) - (48 : Int32))) &&& (1 : Int32)) = (0 : Int32) then (1 : Int32) else (0 : Int32)))) else (if (f_m_in (sb b) (49 : Int32) (57 : Int32)) = (0 : Int32) then (1 : Int32) else (if ((jshr (nI M) ((sb b) - (48 : Int32))) &&& (1 : Int32)) = (0 : Int32) then (1 : Int32) else (0 : Int32))))) = bI ((isSg b && decide (a < w)) && ((!decide (b = 68) || decide (D < 8)) && decide (M &&& mkB b = 0))) := by
  obtain ⟨a1, a2, a3, a4, a5, a6⟩ := sb_ne b hb
  have c1 : (if nI w ≤ nI a then (0 : Int32) else (1 : Int32)) = bI (decide (a < w)) := by
    by_cases q : a < w
    · rw [if_neg (fun z => absurd ((leN (by omega) (by omega)).mp z) (by omega)), decide_eq_true q]; rfl
    · rw [if_pos ((leN (by omega) (by omega)).mpr (by omega)), decide_eq_false q]; rfl
  rw [c1, a5]
  simp only [a2, a3, a4]
  have x1 : (if b = 46 then bI (decide (a < w)) else if b = 35 then bI (decide (a < w)) else if b = 68 then bI (decide (a < w)) else if bI (isMk b) = (0 : Int32) then (0 : Int32) else bI (decide (a < w))) = bI (isSg b && decide (a < w)) := by
    unfold isSg
    by_cases q1 : b = 46
    · rw [if_pos q1, decide_eq_true q1]; simp
    · rw [if_neg q1, decide_eq_false q1]
      by_cases q2 : b = 35
      · rw [if_pos q2, decide_eq_true q2]; simp
      · rw [if_neg q2, decide_eq_false q2]
        by_cases q3 : b = 68
        · rw [if_pos q3, decide_eq_true q3]; simp
        · rw [if_neg q3, decide_eq_false q3]
          cases isMk b <;> simp [bI]
  rw [x1]
  cases hs : (isSg b && decide (a < w)) with
  | false => rfl
  | true =>
    rw [if_neg (show ¬ bI true = (0 : Int32) by decide), Bool.true_and]
    rw [Bool.and_eq_true] at hs
    have y : (if bI (isMk b) = (0 : Int32) then (1 : Int32) else (if ((jshr (nI M) ((sb b) - (48 : Int32))) &&& (1 : Int32)) = (0 : Int32) then (1 : Int32) else (0 : Int32))) = bI (decide (M &&& mkB b = 0)) := by
      cases hk : isMk b with
      | false =>
        have : mkB b = 0 := by unfold mkB; rw [hk]; rfl
        rw [this, Nat.and_zero]; rfl
      | true =>
        rw [if_neg (show ¬ bI true = (0 : Int32) by decide), a6 hs.1, mk_sh M hM b (by unfold isMk at hk; rw [Bool.and_eq_true] at hk; have := of_decide_eq_true hk.2; omega) hk]
        cases decide (M &&& mkB b = 0) <;> simp [bI]
    rw [y]
    by_cases q : b = 68
    · rw [if_pos q, decide_eq_true q]
      by_cases d : D < 8
      · rw [if_neg (nleL 8 d), decide_eq_true d]; simp
      · rw [if_pos (leL 8 (by omega) (by omega)), decide_eq_false d]; rfl
    · rw [if_neg q, decide_eq_false q]; simp
theorem fault_m {h : Hp} {T : Nat → Nat} {n : Nat} (H : TxM h T n) : ∃ r c, f_m_fault h = some (encF (-9) (fltI T n), f10 h r c) ∧ (fltI T n = none → r = rI T n + 1 ∧ c = wI T n) := by
  obtain ⟨n80, e, hT, hb⟩ := H
  unfold f_m_fault
  have key : ∀ m i fuel, i + m = n → m < fuel → upTo T i → ∃ r c, f_m_fault_L_1 (fun l1_38 l2_39 l3_40 l4_41 h_42 => some ((if ((h_42.1 39 10) + (1 : Int32)) < (2 : Int32) then (h_42.1 39 2) else (if (h_42.1 39 11) ≤ l1_38 then (-9 : Int32) else (h_42.1 39 2))), (xI h_42 39 10 ((h_42.1 39 10) + (1 : Int32))))) fuel (nI (aI T i)) (nI (mN T i)) (nI (dI' T i)) (nI i) (f10 h (rI T i) (wI T i)) = some (encF (-9) (fltI T n), f10 h r c) ∧ (fltI T n = none → r = rI T n + 1 ∧ c = wI T n) := by
    intro m
    induction m with
    | zero =>
      intro i fuel hi hf hu
      obtain ⟨f, rfl⟩ : ∃ f, fuel = f + 1 := ⟨fuel - 1, by omega⟩
      have : i = n := by omega
      subst this
      obtain ⟨h1, h2, h3, h4, h5, h6⟩ := tx_inv i hu
      have ff : fltI T i = if rI T i = 0 ∨ aI T i < wI T i then some i else none := by
        unfold fltI
        rw [fdB_no (fun j hj => by rw [hu j hj]; rfl)]
      have x : xI (f10 h (rI T i) (wI T i)) 39 10 (nI (rI T i + 1)) = f10 h (rI T i + 1) (wI T i) := by
        refine hp_ext (fun a b => ?_) (by rfl)
        unfold f10
        simp only [xI_1]
        by_cases e1 : a = 39 ∧ b = 10
        · rw [if_pos e1, if_pos e1]
        · rw [if_neg e1, if_neg e1, if_neg e1]
      refine ⟨rI T i + 1, wI T i, ?_, fun _ => ⟨rfl, rfl⟩⟩
      rw [f_m_fault_L_1, f10_o h _ _ (a := 39) (b := 2) (by decide), e, if_pos ((leN (by omega) (by omega)).mpr (Nat.le_refl _)), f10_10, f10_11, nI_1, x, ff]
      by_cases r0 : rI T i = 0
      · rw [if_pos (ltL 2 (by omega)), if_pos (Or.inl r0)]; rfl
      · rw [if_neg (by rw [ltI, tI 2, nI_toInt (by omega)]; omega)]
        by_cases q : aI T i < wI T i
        · rw [if_neg (fun z => absurd ((leN (by omega) (by omega)).mp z) (by omega)), if_pos (Or.inr q)]; rfl
        · rw [if_pos ((leN (by omega) (by omega)).mpr (by omega)), if_neg (by omega)]; rfl
    | succ m ih =>
      intro i fuel hi hf hu
      obtain ⟨f, rfl⟩ : ∃ f, fuel = f + 1 := ⟨fuel - 1, by omega⟩
      obtain ⟨h1, h2, h3, h4, h5, h6⟩ := tx_inv i hu
      have b256 := hT i
      obtain ⟨g1, g2, g3, g4, g5, g6⟩ := sb_ne _ b256
      have bad : okI T i = false → fltI T n = some i := fun z => by
        unfold fltI
        rw [fdB_of (P := fun i => !okI T i) (n := n) (i := i) (by omega) (by simp [z]) (fun j hj => by simp [hu j hj])]
      have nxt : okI T i = true → upTo T (i + 1) := fun z j hj => by
        by_cases w : j = i
        · subst w; exact z
        · exact hu j (by omega)
      have mlt := mN_lt hT i
      rw [f_m_fault_L_1, f10_o h _ _ (a := 39) (b := 2) (by decide), e, if_neg (fun z => absurd ((leN (by omega) (by omega)).mp z) (by omega)), xin_nI (n := 80) (by omega) (by decide), Bool.and_true, xgd_true, clampc (by omega), f10_o h _ _ (a := 40) (b := i) (by omega), hb i (by omega), f10_10, f10_11]
      by_cases e47 : T i = 47
      · rw [if_pos (g1.mpr e47)]
        have r0e : (nI (rI T i) = (0 : Int32)) = (rI T i = 0) := propext ⟨fun z => (nI_eq (a := rI T i) (b := 0) (by omega) (by omega)).mp z, fun z => by rw [z]; rfl⟩
        simp only [r0e]
        have lim : (if rI T i = 0 then (2 : Int32) else nI (wI T i)) = nI (if rI T i = 0 then 2 else wI T i) := by split <;> rfl
        rw [lim]
        have w8 : (if rI T i = 0 then 2 else wI T i) ≤ 8 := by split <;> omega
        by_cases q : aI T i < (if rI T i = 0 then 2 else wI T i)
        · have bd : okI T i = false := by
            unfold okI
            rw [if_pos e47]
            by_cases r0 : rI T i = 0
            · rw [if_pos r0] at q ⊢
              rw [decide_eq_false (show ¬ 2 ≤ aI T i by omega)]; rfl
            · rw [if_neg r0] at q ⊢
              rw [decide_eq_false (show ¬ wI T i ≤ aI T i by omega)]; rfl
          rw [if_pos ((ltN (by omega) (by omega)).mpr q), bad bd]
          exact ⟨_, _, rfl, fun z => by cases z⟩
        · rw [if_neg (fun z => q ((ltN (by omega) (by omega)).mp z))]
          by_cases r7 : rI T i = 7
          · have bd : okI T i = false := by
              unfold okI
              rw [if_pos e47, r7]; simp
            rw [if_pos (show nI (rI T i) = (7 : Int32) by rw [r7]; rfl), bad bd]
            exact ⟨_, _, rfl, fun z => by cases z⟩
          · have ok : okI T i = true := by
              unfold okI
              rw [if_pos e47, decide_eq_true (show rI T i < 7 by omega), Bool.and_true]
              by_cases r0 : rI T i = 0
              · rw [if_pos r0] at q ⊢; exact decide_eq_true (by omega)
              · rw [if_neg r0] at q ⊢; exact decide_eq_true (by omega)
            have cw : (if rI T i = 0 then nI (aI T i) else nI (wI T i)) = nI (if rI T i = 0 then aI T i else wI T i) := by split <;> rfl
            rw [if_neg (neL 7 r7 (by omega)), nI_1, nI_1, cw, f10_f10]
            have := ih (i + 1) f (by omega) (by omega) (nxt ok)
            have e68 : ¬ T i = 68 := by omega
            have mk0 : mkB (T i) = 0 := by rw [e47]; rfl
            rw [rI, aI, wI, dI', mN, if_pos e47, if_pos e47, if_pos e47, if_neg e68, mk0, Nat.or_zero, Nat.add_zero] at this
            exact this
      · rw [if_neg (fun z => e47 (g1.mp z)), well_m b256 mlt (by omega) (by omega) (by omega)]
        have ek : ((isSg (T i) && decide (aI T i < wI T i)) && ((!decide (T i = 68) || decide (dI' T i < 8)) && decide (mN T i &&& mkB (T i) = 0))) = okI T i := by unfold okI; rw [if_neg e47]
        rw [ek]
        cases hk : okI T i with
        | false =>
          rw [if_pos (show bI false = (0 : Int32) from rfl), bad hk]
          exact ⟨_, _, rfl, fun z => by cases z⟩
        | true =>
          rw [if_neg (show ¬ bI true = (0 : Int32) by decide), g5]
          obtain ⟨k1, k2, k3, k4⟩ := ok_sg hk e47
          have := ih (i + 1) f (by omega) (by omega) (nxt hk)
          rw [rI, aI, wI, dI', mN, if_neg e47, if_neg e47, if_neg e47] at this
          have em : (if bI (isMk (T i)) = (0 : Int32) then (0 : Int32) else jshl (1 : Int32) (sb (T i) - (48 : Int32))) = nI (mkB (T i)) := by
            cases hm : isMk (T i) with
            | false =>
              have : mkB (T i) = 0 := by unfold mkB; rw [hm]; rfl
              rw [this]; rfl
            | true => rw [if_neg (show ¬ bI true = (0 : Int32) by decide), g6 k1, mk_one _ b256 hm]
          have ed : (if sb (T i) = (68 : Int32) then (1 : Int32) else (0 : Int32)) = nI (if T i = 68 then 1 else 0) := by
            simp only [g4]
            split <;> rfl
          rw [em, ed, or_nat, nI_add, nI_1, nI_1]
          exact this
  have e00 : xI (xI h 39 10 (0 : Int32)) 39 11 (8 : Int32) = f10 h 0 8 := by
    refine hp_ext (fun a b => ?_) (by rfl)
    unfold f10
    simp only [xI_1]
    by_cases e1 : a = 39 ∧ b = 10
    · rw [if_neg (by omega), if_pos e1, if_pos e1]; rfl
    · rw [if_neg e1, if_neg e1]; rfl
  rw [e00]
  exact key n 0 1000 (by omega) (by omega) (fun j hj => by omega)
