/-! ===== measure, both ===== -/
theorem lpX {S R : Type} (F : Nat → S → Option R) (n : Nat) (I : Nat → S → Prop) (G : S → Option R) (hend : ∀ f s, I n s → F (f + 1) s = G s) (hstep : ∀ f i s, i < n → I i s → ∃ s', I (i + 1) s' ∧ F (f + 1) s = F f s') : ∀ m i fuel s, i + m = n → m < fuel → I i s → ∃ s', I n s' ∧ F fuel s = G s' := by
  intro m
  induction m with
  | zero =>
    intro i fuel s hi hf h
    obtain ⟨f, rfl⟩ : ∃ f, fuel = f + 1 := ⟨fuel - 1, by omega⟩
    have : i = n := by omega
    subst this
    exact ⟨s, h, hend f s h⟩
  | succ m ih =>
    intro i fuel s hi hf h
    obtain ⟨f, rfl⟩ : ∃ f, fuel = f + 1 := ⟨fuel - 1, by omega⟩
    obtain ⟨s', h1, h2⟩ := hstep f i s (by omega) h
    obtain ⟨s'', h3, h4⟩ := ih (i + 1) f s' (by omega) (by omega) h1
    exact ⟨s'', h3, h2.trans h4⟩
def alB (P : Nat → Bool) : Nat → Bool
  | 0 => true
  | n + 1 => alB P n && P n
theorem alB_iff (P : Nat → Bool) : ∀ n, (alB P n = true ↔ ∀ i, i < n → P i = true) := by
  intro n
  induction n with
  | zero => exact ⟨fun _ i hi => by omega, fun _ => rfl⟩
  | succ n ih =>
    rw [alB, Bool.and_eq_true, ih]
    constructor
    · rintro ⟨a, b⟩ i hi
      by_cases e : i = n
      · subst e; exact b
      · exact a i (by omega)
    · intro h
      exact ⟨fun i hi => h i (by omega), h n (by omega)⟩
theorem alB_congr {P Q : Nat → Bool} : ∀ n, (∀ i, i < n → P i = Q i) → alB P n = alB Q n := by
  intro n
  induction n with
  | zero => intro _; rfl
  | succ n ih => intro h; rw [alB, alB, ih (fun i hi => h i (by omega)), h n (by omega)]
theorem alB_f {P : Nat → Bool} {i n : Nat} (h : alB P i = false) (hi : i ≤ n) : alB P n = false := by
  cases hx : alB P n with
  | false => rfl
  | true =>
    have := (alB_iff P i).mpr (fun j hj => (alB_iff P n).mp hx j (by omega))
    rw [h] at this; cases this
theorem encU_n {o : Option Nat} (h : ∀ n, o = some n → n < 64) : encU o = (-1 : Int32) ↔ o = none := by
  cases o with
  | none => exact ⟨fun _ => rfl, fun _ => rfl⟩
  | some n =>
    have hn := h n rfl
    refine ⟨fun z => ?_, fun z => by cases z⟩
    have z : nI n = (-1 : Int32) := z
    have := congrArg Int32.toInt z
    rw [nI_toInt (by omega), m1T] at this
    omega
theorem dU (fr : Int64) (a b : Nat) : encU (dst fr a b) = (-1 : Int32) ↔ (dst fr a b).isSome = false := by
  rw [encU_n (fun n e => dst_lt e)]
  cases dst fr a b <;> simp
theorem dI (fr : Int64) (a b : Nat) : encI (dst fr a b) = (-9 : Int32) ↔ (dst fr a b).isSome = false := by
  rw [enc9 _ (fun n e => dst_lt e)]
  cases dst fr a b <;> simp
def F34 (h h' : Hp) : Prop := h'.2 = h.2 ∧ ∀ a, a ≠ 34 → h'.1 a = h.1 a
def XIn (h : Hp) (no nc : Nat) (fo tt cc : Nat → Nat) : Prop := (no ≤ 6 ∧ nc ≤ 2) ∧ (h.1 30 7 = nI no ∧ h.1 6 7 = nI nc) ∧ (∀ o, o < no → (fo o < 64 ∧ h.1 31 o = nI (fo o)) ∧ (tt o < 64 ∧ h.1 32 o = nI (tt o))) ∧ ∀ k, k < nc → cc k < 64 ∧ h.1 9 k = nI (cc k)
theorem XIn.of {h h' : Hp} {no nc : Nat} {fo tt cc : Nat → Nat} (F : F34 h h') (H : XIn h no nc fo tt cc) : XIn h' no nc fo tt cc := by
  unfold XIn at H ⊢
  rw [F.2 30 (by decide), F.2 6 (by decide), F.2 31 (by decide), F.2 32 (by decide), F.2 9 (by decide)]
  exact H
def FreeIn (fr : Int64) (no nc : Nat) (fo tt cc : Nat → Nat) : Prop := (∀ o, o < no → bq fr (fo o) = true ∧ bq fr (tt o) = true) ∧ ∀ k, k < nc → bq fr (cc k) = true
theorem S34_F (h : Hp) (r no : Nat) (v : Nat → Int32) : F34 h (S34 h r no v) := ⟨rfl, fun a ha => S34_ne h r no v ha⟩
theorem S34_at (h : Hp) {r no o : Nat} (v : Nat → Int32) (ho : o < no) : (S34 h r no v).1 34 (6 * r + o) = v o := by
  show (if 34 = 34 ∧ 6 * r ≤ 6 * r + o ∧ 6 * r + o < 6 * r + no then v (6 * r + o - 6 * r) else h.1 34 (6 * r + o)) = v o
  rw [if_pos ⟨rfl, by omega, by omega⟩]
  have : 6 * r + o - 6 * r = o := by omega
  rw [this]
theorem S34_of (h : Hp) {r r' no o : Nat} (v : Nat → Int32) (hno : no ≤ 6) (ho : o < no) (hr : r' ≠ r) : (S34 h r no v).1 34 (6 * r' + o) = h.1 34 (6 * r' + o) := by
  show (if 34 = 34 ∧ 6 * r ≤ 6 * r' + o ∧ 6 * r' + o < 6 * r + no then v (6 * r' + o - 6 * r) else h.1 34 (6 * r' + o)) = _
  rw [if_neg (by omega)]
theorem F34.S {h h' : Hp} (F : F34 h h') (r no : Nat) (v : Nat → Int32) : F34 h (S34 h' r no v) := ⟨F.1, fun a ha => (S34_ne h' r no v ha).trans (F.2 a ha)⟩
theorem m17 {h : Hp} {no k : Nat} (hno : no ≤ 6) (hk : k < 2) (e : h.1 30 7 = nI no) (fr : Int64) (K : Int32 → Int32 → Option (Int32 × Hp)) (b : Bool) : f_orders_measure_6_L_17 fr (nI k) h K 1000 (bI b) 0 = K (bI (b && alB (fun o => !decide (h.1 34 (6 * (6 + k) + o) = -1)) no)) (nI no) := by
  have := lp0 (fun f (s : Int32 × Int32) => f_orders_measure_6_L_17 fr (nI k) h K f s.1 s.2) no (fun i => (bI (b && alB (fun o => !decide (h.1 34 (6 * (6 + k) + o) = -1)) i), nI i)) (K (bI (b && alB (fun o => !decide (h.1 34 (6 * (6 + k) + o) = -1)) no)) (nI no)) (by omega) (fun f => ?_) (fun f i hi => ?_)
  · simp only [alB, Bool.and_true] at this
    exact this
  · simp only
    rw [f_orders_measure_6_L_17, e, if_pos ((leN (by omega) (by omega)).mpr (Nat.le_refl _))]
  · simp only
    rw [f_orders_measure_6_L_17, e, if_neg (fun q => absurd ((leN (by omega) (by omega)).mp q) (by omega)), nI_lit 6, nI_add, pk_mul, nI_add, xin_nI (n := 48) (by omega) (by decide), clampc (k := 6 * (6 + k) + i) (by omega), nI_1, Bool.and_true, xgd_true, alB, ← Bool.and_assoc]
    cases hb : (b && alB (fun o => !decide (h.1 34 (6 * (6 + k) + o) = -1)) i) with
    | false => rw [if_pos (show bI false = (0 : Int32) from rfl)]; rfl
    | true =>
      rw [if_neg (show ¬ bI true = (0 : Int32) by decide), Bool.true_and]
      by_cases q : h.1 34 (6 * (6 + k) + i) = -1
      · rw [if_pos q, decide_eq_true q]; rfl
      · rw [if_neg q, decide_eq_false q]; rfl
theorem measure_x {h : Hp} {fr : Int64} {no nc : Nat} {fo tt cc : Nat → Nat} (H : XIn h no nc fo tt cc) (HF : FreeIn fr no nc fo tt cc) : ∃ h', f_orders_measure_6 fr h = some (bI (alB (fun o => (dst fr (tt o) (fo o)).isSome) no && alB (fun k => alB (fun o => (dst fr (cc k) (fo o)).isSome) no) nc), h') ∧ F34 h h' ∧ (∀ r, r < no → ∀ o, o < no → h'.1 34 (6 * r + o) = encU (dst fr (tt r) (fo o))) ∧ ∀ k, k < nc → ∀ o, o < no → h'.1 34 (6 * (6 + k) + o) = encU (dst fr (cc k) (fo o)) := by
  obtain ⟨⟨n6, n2⟩, -, -, -⟩ := id H
  unfold f_orders_measure_6
  have A := fun (K : Int32 → Int32 → Hp → Option (Int32 × Hp)) => lpX (fun f (s : Int32 × Int32 × Hp) => f_orders_measure_6_L_1 fr K f s.1 s.2.1 s.2.2) no (fun i s => s.1 = bI (alB (fun o => (dst fr (tt o) (fo o)).isSome) i) ∧ s.2.1 = nI i ∧ F34 h s.2.2 ∧ ∀ r, r < i → ∀ o, o < no → s.2.2.1 34 (6 * r + o) = encU (dst fr (tt r) (fo o))) (fun s => K s.1 s.2.1 s.2.2) (fun f s hs => by
    obtain ⟨e1, e2, e3, e4⟩ := hs
    have H' := H.of e3
    rw [f_orders_measure_6_L_1, H'.2.1.1, e2, if_pos ((leN (by omega) (by omega)).mpr (Nat.le_refl _))]) (fun f i s hi hs => by
    obtain ⟨e1, e2, e3, e4⟩ := hs
    have H' := H.of e3
    obtain ⟨⟨f1, f2⟩, ⟨t1, t2⟩⟩ := H'.2.2.1 i hi
    have MF := mFrom_x (h := s.2.2) (fr := fr) (r := i) (c := tt i) (no := no) (by omega) n6 H'.2.1.1 t1 (HF.1 i hi).2 fo (fun o ho => (H'.2.2.1 o ho).1)
    refine ⟨(bI (alB (fun o => (dst fr (tt o) (fo o)).isSome) (i + 1)), nI (i + 1), S34 s.2.2 i no (fun o => encU (dst fr (tt i) (fo o)))), ⟨rfl, rfl, e3.S _ _ _, fun r hr o ho => ?_⟩, ?_⟩
    · simp only
      by_cases q : r = i
      · subst q; rw [S34_at _ _ ho]
      · rw [S34_of _ _ n6 ho q]; exact e4 r (by omega) o ho
    · simp only
      rw [f_orders_measure_6_L_1, H'.2.1.1, e2, if_neg (fun q => absurd ((leN (by omega) (by omega)).mp q) (by omega)), xin_nI (n := 6) (by omega) (by decide), clampc (k := i) (by omega), t2, MF, Bool.and_true, xgd_true, xbd1_some, nI_1, e1, nI_lit 6, pk_mul, nI_add, xin_nI (n := 48) (by omega) (by decide), clampc (k := 6 * i + i) (by omega), S34_at _ _ hi, Bool.and_true, xgd_true, alB]
      cases hb : alB (fun o => (dst fr (tt o) (fo o)).isSome) i with
      | false => rw [if_pos (show bI false = (0 : Int32) from rfl)]; rfl
      | true =>
        rw [if_neg (show ¬ bI true = (0 : Int32) by decide), Bool.true_and]
        cases hq : (dst fr (tt i) (fo i)).isSome with
        | false => rw [if_pos ((dU fr _ _).mpr hq)]; rfl
        | true => rw [if_neg (fun z => by rw [dU, hq] at z; cases z)]; rfl) no 0 1000 ((1 : Int32), (0 : Int32), h) (by omega) (by omega) ⟨rfl, rfl, ⟨rfl, fun _ _ => rfl⟩, fun r hr => by omega⟩
  obtain ⟨s1, ⟨e1, e2, e3, e4⟩, E⟩ := A (fun l4_10 l5_11 h_12 => f_orders_measure_6_L_13 fr (fun l4_26 l5_27 h_28 => xgd (xbool l4_26 && true) <| some (l4_26, h_28)) 1000 l4_10 (0 : Int32) h_12)
  simp only at E
  rw [E]
  obtain ⟨s2, ⟨p1, p2, p3, p4, p5⟩, E2⟩ := lpX (fun f (s : Int32 × Int32 × Hp) => f_orders_measure_6_L_13 fr (fun l4_26 l5_27 h_28 => xgd (xbool l4_26 && true) <| some (l4_26, h_28)) f s.1 s.2.1 s.2.2) nc (fun i s => s.1 = bI (alB (fun o => (dst fr (tt o) (fo o)).isSome) no && alB (fun k => alB (fun o => (dst fr (cc k) (fo o)).isSome) no) i) ∧ s.2.1 = nI i ∧ F34 h s.2.2 ∧ (∀ r, r < no → ∀ o, o < no → s.2.2.1 34 (6 * r + o) = encU (dst fr (tt r) (fo o))) ∧ ∀ k, k < i → ∀ o, o < no → s.2.2.1 34 (6 * (6 + k) + o) = encU (dst fr (cc k) (fo o))) (fun s => xgd (xbool s.1 && true) <| some (s.1, s.2.2)) (fun f s hs => by
    obtain ⟨e1, e2, e3, e4⟩ := hs
    have H' := H.of e3
    rw [f_orders_measure_6_L_13, H'.2.1.2, e2, if_pos ((leN (by omega) (by omega)).mpr (Nat.le_refl _))]) (fun f i s hi hs => by
    obtain ⟨e1, e2, e3, e4, e5⟩ := hs
    have H' := H.of e3
    obtain ⟨c1, c2⟩ := H'.2.2.2 i hi
    have MF := mFrom_x (h := s.2.2) (fr := fr) (r := 6 + i) (c := cc i) (no := no) (by omega) n6 H'.2.1.1 c1 (HF.2 i hi) fo (fun o ho => (H'.2.2.1 o ho).1)
    refine ⟨(bI (alB (fun o => (dst fr (tt o) (fo o)).isSome) no && alB (fun k => alB (fun o => (dst fr (cc k) (fo o)).isSome) no) (i + 1)), nI (i + 1), S34 s.2.2 (6 + i) no (fun o => encU (dst fr (cc i) (fo o)))), ⟨rfl, rfl, e3.S _ _ _, fun r hr o ho => ?_, fun k hk o ho => ?_⟩, ?_⟩
    · simp only
      rw [S34_of _ _ n6 ho (by omega)]; exact e4 r hr o ho
    · simp only
      by_cases q : k = i
      · subst q; rw [S34_at _ _ ho]
      · rw [S34_of _ _ n6 ho (by omega)]; exact e5 k (by omega) o ho
    · simp only
      have en : (6 : Int32) + nI i = nI (6 + i) := by rw [nI_lit 6, nI_add]
      rw [f_orders_measure_6_L_13, H'.2.1.2, e2, if_neg (fun q => absurd ((leN (by omega) (by omega)).mp q) (by omega)), xin_nI (n := 2) (by omega) (by decide), clampc (k := i) (by omega), c2, en, MF, Bool.and_true, xgd_true, xbd1_some, nI_1, e1, m17 n6 (by omega) (by rw [S34_ne _ _ _ _ (by decide)]; exact H'.2.1.1)]
      congr 2
      rw [alB, ← Bool.and_assoc]
      congr 1
      refine alB_congr no (fun o ho => ?_)
      rw [S34_at _ _ ho]
      cases hq : (dst fr (cc i) (fo o)).isSome with
      | false => rw [decide_eq_true ((dU fr _ _).mpr hq)]; rfl
      | true => rw [decide_eq_false (fun z => by rw [dU, hq] at z; cases z)]; rfl) nc 0 1000 (s1.1, (0 : Int32), s1.2.2) (by omega) (by omega) ⟨by rw [e1, alB, Bool.and_true], rfl, e3, e4, fun k hk => by omega⟩
  simp only at E2
  rw [E2]
  have hb : xbool s2.1 = true := by
    rw [p1]
    cases (alB (fun o => (dst fr (tt o) (fo o)).isSome) no && alB (fun k => alB (fun o => (dst fr (cc k) (fo o)).isSome) no) nc) <;> decide
  rw [hb, ← p1]
  exact ⟨s2.2.2, rfl, p3, p4, p5⟩
/-- the reference's -/
def F55 (h h' : Hp) : Prop := h'.2 = h.2 ∧ ∀ a, a ≠ 55 → a ≠ 56 → h'.1 a = h.1 a
theorem F55.rf (h : Hp) : F55 h h := ⟨rfl, fun _ _ _ => rfl⟩
theorem F55.x55 {h h' : Hp} (F : F55 h h') (j : Nat) (v : Int32) : F55 h (xI h' 55 j v) := ⟨F.1, fun a h1 h2 => (xI_ne h' j v h1).trans (F.2 a h1 h2)⟩
theorem F55.x56 {h h' : Hp} (F : F55 h h') (j : Nat) (v : Int32) : F55 h (xI h' 56 j v) := ⟨F.1, fun a h1 h2 => (xI_ne h' j v h2).trans (F.2 a h1 h2)⟩
def MIn (h : Hp) (no nc : Nat) (fo tt cc : Nat → Nat) : Prop := (no ≤ 6 ∧ nc ≤ 2) ∧ (h.1 39 25 = nI no ∧ h.1 39 15 = nI nc) ∧ (∀ o, o < no → (fo o < 64 ∧ h.1 52 o = nI (fo o)) ∧ (tt o < 64 ∧ h.1 53 o = nI (tt o))) ∧ ∀ k, k < nc → cc k < 64 ∧ h.1 45 k = nI (cc k)
theorem MIn.of {h h' : Hp} {no nc : Nat} {fo tt cc : Nat → Nat} (F : F55 h h') (H : MIn h no nc fo tt cc) : MIn h' no nc fo tt cc := by
  unfold MIn at H ⊢
  rw [F.2 39 (by decide) (by decide), F.2 52 (by decide) (by decide), F.2 53 (by decide) (by decide), F.2 45 (by decide) (by decide)]
  exact H
/-- what is measured of the first i orders -/
def MV3 (fr : Int64) (no nc : Nat) (fo tt cc : Nat → Nat) (i : Nat) (h : Hp) : Prop := ∀ o, o < i → h.1 56 o = encI (dst fr (fo o) (tt o)) ∧ (∀ k, k < nc → h.1 55 (6 * k + o) = encI (dst fr (cc k) (fo o))) ∧ ∀ b, b < no → h.1 55 (6 * (2 + b) + o) = encI (dst fr (tt b) (fo o))
def PM (fr : Int64) (nc : Nat) (fo tt cc : Nat → Nat) (o : Nat) : Bool := alB (fun k => (dst fr (cc k) (fo o)).isSome && (dst fr (fo o) (tt o)).isSome) nc
theorem meas8 {h : Hp} {fr : Int64} {no nc : Nat} {fo tt cc : Nat → Nat} (H : MIn h no nc fo tt cc) (hfr : h.2 39 8 = fr) (HF : FreeIn fr no nc fo tt cc) {o : Nat} (ho : o < no) (h56 : h.1 56 o = encI (dst fr (fo o) (tt o))) (hv : MV3 fr no nc fo tt cc o h) (K : Int32 → Int32 → Hp → Option (Int32 × Hp)) : ∃ h', f_m_measure_L_8 (nI o) K 1000 1 0 h = K (bI (PM fr nc fo tt cc o)) (nI nc) h' ∧ F55 h h' ∧ h'.1 56 = h.1 56 ∧ MV3 fr no nc fo tt cc o h' ∧ ∀ k, k < nc → h'.1 55 (6 * k + o) = encI (dst fr (cc k) (fo o)) := by
  obtain ⟨⟨n6, n2⟩, -, -, -⟩ := id H
  obtain ⟨s2, ⟨p1, p2, p3, p4, p5, p6⟩, E2⟩ := lpX (fun f (s : Int32 × Int32 × Hp) => f_m_measure_L_8 (nI o) K f s.1 s.2.1 s.2.2) nc (fun i s => s.1 = bI (alB (fun k => (dst fr (cc k) (fo o)).isSome && (dst fr (fo o) (tt o)).isSome) i) ∧ s.2.1 = nI i ∧ F55 h s.2.2 ∧ s.2.2.1 56 = h.1 56 ∧ MV3 fr no nc fo tt cc o s.2.2 ∧ ∀ k, k < i → s.2.2.1 55 (6 * k + o) = encI (dst fr (cc k) (fo o))) (fun s => K s.1 s.2.1 s.2.2) (fun f s hs => by
    obtain ⟨e1, e2, e3, e4⟩ := hs
    have H' := H.of e3
    rw [f_m_measure_L_8, H'.2.1.2, e2, if_pos ((leN (by omega) (by omega)).mpr (Nat.le_refl _))]) (fun f i s hi hs => by
    obtain ⟨e1, e2, e3, e4, e5, e6⟩ := hs
    have H' := H.of e3
    obtain ⟨c1, c2⟩ := H'.2.2.2 i hi
    obtain ⟨⟨f1, f2⟩, ⟨t1, t2⟩⟩ := H'.2.2.1 o ho
    have hfr' : s.2.2.2 39 8 = fr := by rw [e3.1]; exact hfr
    have ST := steps_m (h := s.2.2) c1 f1 (by rw [hfr']; exact HF.2 i hi)
    rw [hfr'] at ST
    refine ⟨(bI (alB (fun k => (dst fr (cc k) (fo o)).isSome && (dst fr (fo o) (tt o)).isSome) (i + 1)), nI (i + 1), xI s.2.2 55 (6 * i + o) (encI (dst fr (cc i) (fo o)))), ⟨rfl, rfl, e3.x55 _ _, ?_, ?_, ?_⟩, ?_⟩
    · simp only
      rw [xI_ne _ _ _ (by decide)]; exact e4
    · intro q hq
      obtain ⟨a1, a2, a3⟩ := e5 q hq
      simp only
      refine ⟨by rw [xI_1, if_neg (by omega)]; exact a1, fun k hk => by rw [xI_1, if_neg (by omega)]; exact a2 k hk, fun b hb => by rw [xI_1, if_neg (by omega)]; exact a3 b hb⟩
    · intro k hk
      simp only
      by_cases q : k = i
      · subst q; rw [xI_1, if_pos ⟨rfl, rfl⟩]
      · rw [xI_1, if_neg (by omega)]; exact e6 k (by omega)
    · simp only
      have en : (6 : Int32) * nI i + nI o = nI (6 * i + o) := by rw [nI_lit 6, pk_mul, nI_add]
      have at55 : (xI s.2.2 55 (6 * i + o) (encI (dst fr (cc i) (fo o)))).1 55 (6 * i + o) = encI (dst fr (cc i) (fo o)) := by rw [xI_1, if_pos ⟨rfl, rfl⟩]
      rw [f_m_measure_L_8, H'.2.1.2, e2, if_neg (fun q => absurd ((leN (by omega) (by omega)).mp q) (by omega)), xin_nI (n := 6) (by omega) (by decide), xin_nI (n := 6) (by omega) (by decide), clampc (k := i) (by omega), clampc (k := o) (by omega), c2, f2, ST, xbd1_some, en, xin_nI (n := 48) (by omega) (by decide), clampc (k := 6 * i + o) (by omega), nI_1, e1, at55, e4, h56, Bool.and_true, Bool.and_true, xgd_true, xgd_true, xgd_true, xgd_true, alB]
      cases hb : alB (fun k => (dst fr (cc k) (fo o)).isSome && (dst fr (fo o) (tt o)).isSome) i with
      | false => rw [if_pos (show bI false = (0 : Int32) from rfl)]; rfl
      | true =>
        rw [if_neg (show ¬ bI true = (0 : Int32) by decide), Bool.true_and]
        cases hq : (dst fr (cc i) (fo o)).isSome with
        | false => rw [if_pos ((dI fr _ _).mpr hq)]; rfl
        | true =>
          rw [if_neg (fun z => by rw [dI, hq] at z; cases z), Bool.true_and]
          cases hq2 : (dst fr (fo o) (tt o)).isSome with
          | false => rw [if_pos ((dI fr _ _).mpr hq2)]; rfl
          | true => rw [if_neg (fun z => by rw [dI, hq2] at z; cases z)]; rfl) nc 0 1000 ((1 : Int32), (0 : Int32), h) (by omega) (by omega) ⟨rfl, rfl, F55.rf h, rfl, hv, fun k hk => by omega⟩
  simp only at E2
  refine ⟨s2.2.2, ?_, p3, p4, p5, p6⟩
  rw [E2, p1, p2]; rfl
theorem meas22 {h : Hp} {fr : Int64} {no nc : Nat} {fo tt cc : Nat → Nat} (H : MIn h no nc fo tt cc) (hfr : h.2 39 8 = fr) (HF : FreeIn fr no nc fo tt cc) {o : Nat} (ho : o < no) (h56 : h.1 56 o = encI (dst fr (fo o) (tt o))) (hv : MV3 fr no nc fo tt cc o h) (hc : ∀ k, k < nc → h.1 55 (6 * k + o) = encI (dst fr (cc k) (fo o))) (l1 : Int32) (K : Int32 → Hp → Option (Int32 × Hp)) : ∃ h', f_m_measure_L_22 l1 (nI o) K 1000 0 h = K (nI no) h' ∧ F55 h h' ∧ MV3 fr no nc fo tt cc (o + 1) h' := by
  obtain ⟨⟨n6, n2⟩, -, -, -⟩ := id H
  obtain ⟨s2, ⟨p2, p3, p4, p5, p6, p7⟩, E2⟩ := lpX (fun f (s : Int32 × Hp) => f_m_measure_L_22 l1 (nI o) K f s.1 s.2) no (fun i s => s.1 = nI i ∧ F55 h s.2 ∧ s.2.1 56 = h.1 56 ∧ MV3 fr no nc fo tt cc o s.2 ∧ (∀ k, k < nc → s.2.1 55 (6 * k + o) = encI (dst fr (cc k) (fo o))) ∧ ∀ b, b < i → s.2.1 55 (6 * (2 + b) + o) = encI (dst fr (tt b) (fo o))) (fun s => K s.1 s.2) (fun f s hs => by
    obtain ⟨e2, e3, e4⟩ := hs
    have H' := H.of e3
    rw [f_m_measure_L_22, H'.2.1.1, e2, if_pos ((leN (by omega) (by omega)).mpr (Nat.le_refl _))]) (fun f i s hi hs => by
    obtain ⟨e2, e3, e4, e5, e6, e7⟩ := hs
    have H' := H.of e3
    obtain ⟨⟨f1, f2⟩, -⟩ := H'.2.2.1 o ho
    obtain ⟨-, ⟨t1, t2⟩⟩ := H'.2.2.1 i hi
    have hfr' : s.2.2 39 8 = fr := by rw [e3.1]; exact hfr
    have ST := steps_m (h := s.2) t1 f1 (by rw [hfr']; exact (HF.1 i hi).2)
    rw [hfr'] at ST
    refine ⟨(nI (i + 1), xI s.2 55 (6 * (2 + i) + o) (encI (dst fr (tt i) (fo o)))), ⟨rfl, e3.x55 _ _, ?_, ?_, ?_, ?_⟩, ?_⟩
    · simp only
      rw [xI_ne _ _ _ (by decide)]; exact e4
    · intro q hq
      obtain ⟨a1, a2, a3⟩ := e5 q hq
      simp only
      refine ⟨by rw [xI_1, if_neg (by omega)]; exact a1, fun k hk => by rw [xI_1, if_neg (by omega)]; exact a2 k hk, fun b hb => by rw [xI_1, if_neg (by omega)]; exact a3 b hb⟩
    · intro k hk
      simp only
      rw [xI_1, if_neg (by omega)]; exact e6 k hk
    · intro b hb
      simp only
      by_cases q : b = i
      · subst q; rw [xI_1, if_pos ⟨rfl, rfl⟩]
      · rw [xI_1, if_neg (by omega)]; exact e7 b (by omega)
    · simp only
      have en : (6 : Int32) * ((2 : Int32) + nI i) + nI o = nI (6 * (2 + i) + o) := by rw [nI_lit 6, nI_lit 2, nI_add, pk_mul, nI_add]
      rw [f_m_measure_L_22, H'.2.1.1, e2, if_neg (fun q => absurd ((leN (by omega) (by omega)).mp q) (by omega)), xin_nI (n := 6) (by omega) (by decide), xin_nI (n := 6) (by omega) (by decide), clampc (k := i) (by omega), clampc (k := o) (by omega), t2, f2, ST, xbd1_some, en, xin_nI (n := 48) (by omega) (by decide), clampc (k := 6 * (2 + i) + o) (by omega), nI_1, Bool.and_true, Bool.and_true, xgd_true, xgd_true]) no 0 1000 ((0 : Int32), h) (by omega) (by omega) ⟨rfl, F55.rf h, rfl, hv, hc, fun k hk => by omega⟩
  simp only at E2
  refine ⟨s2.2, ?_, p3, fun q hq => ?_⟩
  · rw [E2, p2]
  · by_cases w : q = o
    · subst w
      exact ⟨by rw [p4]; exact h56, p6, p7⟩
    · exact p5 q (by omega)
theorem measure_m {h : Hp} {fr : Int64} {no nc : Nat} {fo tt cc : Nat → Nat} (H : MIn h no nc fo tt cc) (hfr : h.2 39 8 = fr) (HF : FreeIn fr no nc fo tt cc) : ∃ h', f_m_measure h = some (bI (decide (0 < nc) && alB (PM fr nc fo tt cc) no), h') ∧ F55 h h' ∧ ((decide (0 < nc) && alB (PM fr nc fo tt cc) no) = true → MV3 fr no nc fo tt cc no h') := by
  obtain ⟨⟨n6, n2⟩, ⟨e25, e15⟩, -, -⟩ := id H
  unfold f_m_measure
  have key : ∀ m i fuel h1, i + m = no → m < fuel → F55 h h1 → ((decide (0 < nc) && alB (PM fr nc fo tt cc) i) = true → MV3 fr no nc fo tt cc i h1) → ∃ h', f_m_measure_L_3 (fun l1_28 l2_29 h_30 => xgd (xbool l1_28 && true) <| some (l1_28, h_30)) fuel (bI (decide (0 < nc) && alB (PM fr nc fo tt cc) i)) (nI i) h1 = some (bI (decide (0 < nc) && alB (PM fr nc fo tt cc) no), h') ∧ F55 h h' ∧ ((decide (0 < nc) && alB (PM fr nc fo tt cc) no) = true → MV3 fr no nc fo tt cc no h') := by
    have xb : ∀ b : Bool, xbool (bI b) = true := by decide
    intro m
    induction m with
    | zero =>
      intro i fuel h1 hi hf F V
      obtain ⟨f, rfl⟩ : ∃ f, fuel = f + 1 := ⟨fuel - 1, by omega⟩
      have : i = no := by omega
      subst this
      refine ⟨h1, ?_, F, V⟩
      rw [f_m_measure_L_3, (H.of F).2.1.1, if_pos ((leN (by omega) (by omega)).mpr (Nat.le_refl _)), xb]
      rfl
    | succ m ih =>
      intro i fuel h1 hi hf F V
      obtain ⟨f, rfl⟩ : ∃ f, fuel = f + 1 := ⟨fuel - 1, by omega⟩
      have H' := H.of F
      have hi' : i < no := by omega
      rw [f_m_measure_L_3, H'.2.1.1, if_neg (fun q => absurd ((leN (by omega) (by omega)).mp q) (by omega))]
      cases hb : (decide (0 < nc) && alB (PM fr nc fo tt cc) i) with
      | false =>
        rw [if_pos (show bI false = (0 : Int32) from rfl), xb]
        have : (decide (0 < nc) && alB (PM fr nc fo tt cc) no) = false := by
          cases q : decide (0 < nc) with
          | false => rfl
          | true =>
            rw [q, Bool.true_and] at hb
            rw [Bool.true_and]; exact alB_f hb (by omega)
        rw [this]
        exact ⟨h1, rfl, F, fun z => by cases z⟩
      | true =>
        rw [if_neg (show ¬ bI true = (0 : Int32) by decide)]
        obtain ⟨⟨f1, f2⟩, ⟨t1, t2⟩⟩ := H'.2.2.1 i hi'
        have hfr' : h1.2 39 8 = fr := by rw [F.1]; exact hfr
        have ST := steps_m (h := h1) f1 t1 (by rw [hfr']; exact (HF.1 i hi').1)
        rw [hfr'] at ST
        have V1 := V hb
        have F1 := F.x56 i (encI (dst fr (fo i) (tt i)))
        have H1 := H.of F1
        have a56 : (xI h1 56 i (encI (dst fr (fo i) (tt i)))).1 56 i = encI (dst fr (fo i) (tt i)) := by rw [xI_1, if_pos ⟨rfl, rfl⟩]
        have V2 : MV3 fr no nc fo tt cc i (xI h1 56 i (encI (dst fr (fo i) (tt i)))) := by
          intro q hq
          obtain ⟨a1, a2, a3⟩ := V1 q hq
          refine ⟨by rw [xI_1, if_neg (by omega)]; exact a1, fun k hk => by rw [xI_1, if_neg (by omega)]; exact a2 k hk, fun b hb => by rw [xI_1, if_neg (by omega)]; exact a3 b hb⟩
        obtain ⟨h2, E2, F2, q56, V3, C2⟩ := meas8 (fr := fr) H1 hfr' HF hi' a56 V2 (fun l1_19 l3_20 h_21 => f_m_measure_L_22 l1_19 (nI i) (fun l3_26 h_27 => (f_m_measure_L_3 (fun l1_28 l2_29 h_30 => xgd (xbool l1_28 && true) <| some (l1_28, h_30)) f) l1_19 (nI i + (1 : Int32)) h_27) 1000 (0 : Int32) h_21)
        have F2' : F55 h h2 := ⟨F2.1.trans F1.1, fun a x y => (F2.2 a x y).trans (F1.2 a x y)⟩
        obtain ⟨h3, E3, F3, V4⟩ := meas22 (fr := fr) (H.of F2') (by rw [F2'.1]; exact hfr) HF hi' (by rw [q56]; exact a56) V3 C2 (bI (PM fr nc fo tt cc i)) (fun l3_26 h_27 => (f_m_measure_L_3 (fun l1_28 l2_29 h_30 => xgd (xbool l1_28 && true) <| some (l1_28, h_30)) f) (bI (PM fr nc fo tt cc i)) (nI i + (1 : Int32)) h_27)
        have F3' : F55 h h3 := ⟨F3.1.trans F2'.1, fun a x y => (F3.2 a x y).trans (F2'.2 a x y)⟩
        rw [xin_nI (n := 6) (by omega) (by decide), clampc (k := i) (by omega), f2, t2, ST, Bool.and_true, Bool.and_true, xgd_true, xbd1_some, xgd_true]
        have nb : PM fr nc fo tt cc i = (decide (0 < nc) && alB (PM fr nc fo tt cc) (i + 1)) := by
          rw [alB, ← Bool.and_assoc, hb, Bool.true_and]
        obtain ⟨h4, E4, F4, V5⟩ := ih (i + 1) f h3 (by omega) (by omega) F3' (fun _ => V4)
        refine ⟨h4, ?_, F4, V5⟩
        refine (show _ = _ from E2).trans (E3.trans ?_)
        rw [nI_1, nb]; exact E4
  have e0 : (if h.1 39 15 ≤ (0 : Int32) then (0 : Int32) else (1 : Int32)) = bI (decide (0 < nc) && alB (PM fr nc fo tt cc) 0) := by
    rw [e15, alB, Bool.and_true]
    by_cases q : 0 < nc
    · rw [if_neg (show ¬ nI nc ≤ (0 : Int32) from fun z => absurd ((leN (a := nc) (b := 0) (by omega) (by omega)).mp z) (by omega)), decide_eq_true q]; rfl
    · have : nc = 0 := by omega
      subst this
      rw [if_pos (by decide)]; rfl
  rw [e0]
  exact key no 0 1000 h (by omega) (by omega) (F55.rf h) (fun _ o ho => by omega)
