/-! ===== the reference's search ===== -/
theorem rowsOf_m : ∀ n, n < 7 → f_m_rowsOf (nI n) = some (nI (fac n)) := by decide +kernel
theorem fac720 : ∀ n, n < 7 → fac n ≤ 720 := by decide
def arr (h : Hp) (a : Nat) (l : List Nat) : Prop := ∀ i, i < l.length → h.1 a i = nI (nth l i)
theorem nth_app : ∀ (l : List Nat) (n i : Nat), nth (l ++ [n]) i = if i < l.length then nth l i else if i = l.length then n else 0 := by
  intro l
  induction l with
  | nil =>
    intro n i
    cases i with
    | zero => rfl
    | succ i => rfl
  | cons a l ih =>
    intro n i
    cases i with
    | zero => rfl
    | succ i =>
      show nth (l ++ [n]) i = _
      rw [ih]
      have e1 : (i + 1 < (a :: l).length) = (i < l.length) := by simp
      have e2 : (i + 1 = (a :: l).length) = (i = l.length) := by simp
      simp only [e1, e2]
      rfl
theorem nth_del : ∀ (l : List Nat) (k i : Nat), nth (del l k) i = if i < k then nth l i else nth l (i + 1) := by
  intro l
  induction l with
  | nil => intro k i; simp [del, nth]
  | cons a l ih =>
    intro k i
    cases k with
    | zero => rfl
    | succ k =>
      cases i with
      | zero => rfl
      | succ i =>
        show nth (del l k) i = _
        rw [ih]
        have e1 : (i + 1 < k + 1) = (i < k) := by simp
        simp only [e1]
        rfl
def F60 (h h' : Hp) : Prop := h'.2 = h.2 ∧ ∀ a, a ≠ 57 → a ≠ 60 → h'.1 a = h.1 a
theorem F60.rf (h : Hp) : F60 h h := ⟨rfl, fun _ _ _ => rfl⟩
theorem F60.tr {h h' h'' : Hp} (F : F60 h h') (G : F60 h' h'') : F60 h h'' := ⟨G.1.trans F.1, fun a x y => (G.2 a x y).trans (F.2 a x y)⟩
theorem F60.x60 {h h' : Hp} (F : F60 h h') (j : Nat) (v : Int32) : F60 h (xI h' 60 j v) := ⟨F.1, fun a h1 h2 => (xI_ne h' j v h2).trans (F.2 a h1 h2)⟩
theorem F60.x57 {h h' : Hp} (F : F60 h h') (j : Nat) (v : Int32) : F60 h (xI h' 57 j v) := ⟨F.1, fun a h1 h2 => (xI_ne h' j v h1).trans (F.2 a h1 h2)⟩
theorem tell1 {h : Hp} {no S : Nat} (hn : no ≤ 6) (hS : S < 64) (e : h.1 39 25 = nI no) (l2 : Int32) (K : Int32 → Int32 → Hp → Option (Int32 × Hp)) : ∃ h', f_m_tellRow_L_1 (nI S) l2 K 1000 0 0 h = K (nI (els S no).length) (nI no) h' ∧ F60 h h' ∧ arr h' 60 (els S no) := by
  obtain ⟨s1, ⟨p1, p2, p3, p4⟩, E⟩ := lpX (fun f (s : Int32 × Int32 × Hp) => f_m_tellRow_L_1 (nI S) l2 K f s.1 s.2.1 s.2.2) no (fun i s => s.1 = nI (els S i).length ∧ s.2.1 = nI i ∧ F60 h s.2.2 ∧ arr s.2.2 60 (els S i)) (fun s => K s.1 s.2.1 s.2.2) (fun f s hs => by
    obtain ⟨q1, q2, q3, q4⟩ := hs
    rw [f_m_tellRow_L_1, q3.2 39 (by decide) (by decide), e, q2, if_pos ((leN (by omega) (by omega)).mpr (Nat.le_refl _))]) (fun f i s hi hs => by
    obtain ⟨q1, q2, q3, q4⟩ := hs
    have len := els_len S i
    rw [f_m_tellRow_L_1, q3.2 39 (by decide) (by decide), e, q2, if_neg (fun q => absurd ((leN (by omega) (by omega)).mp q) (by omega)), set_bit S hS i (by omega), q1]
    cases hb : S.testBit i with
    | true =>
      rw [if_pos (show bI true = (1 : Int32) from rfl), xin_nI (n := 6) (by omega) (by decide), clampc (by omega), nI_1, nI_1, Bool.and_true, xgd_true]
      refine ⟨(nI ((els S i).length + 1), nI (i + 1), xI s.2.2 60 (els S i).length (nI i)), ⟨?_, rfl, q3.x60 _ _, ?_⟩, rfl⟩
      · rw [els, hb, if_pos rfl, List.length_append]; rfl
      · rw [els, hb, if_pos rfl]
        intro j hj
        simp only
        rw [List.length_append, List.length_singleton] at hj
        rw [nth_app, xI_1]
        by_cases w : j = (els S i).length
        · rw [if_pos ⟨rfl, w⟩, if_neg (by omega), if_pos w]
        · rw [if_neg (fun z => w z.2), if_pos (by omega)]; exact q4 j (by omega)
    | false =>
      rw [if_neg (show ¬ bI false = (1 : Int32) by decide), nI_1]
      refine ⟨(nI (els S i).length, nI (i + 1), s.2.2), ⟨?_, rfl, q3, ?_⟩, rfl⟩
      · rw [els, hb, if_neg (by decide)]
      · rw [els, hb, if_neg (by decide)]; exact q4) no 0 1000 ((0 : Int32), (0 : Int32), h) (by omega) (by omega) ⟨rfl, rfl, F60.rf h, fun i hi => by simp [els] at hi⟩
  refine ⟨s1.2.2, ?_, p3, p4⟩
  simp only at E
  rw [E, p1, p2]
/-- the rest closes up -/
theorem tell12 {h : Hp} {n k at_ : Nat} {l : List Nat} (hn : n ≤ 6) (hk : k < n) (hl : l.length = n - k) (ha : at_ < l.length) (har : arr h 60 l) (l4 : Int32) (K : Int32 → Hp → Option (Int32 × Hp)) : ∃ z h', f_m_tellRow_L_12 (nI n) l4 (nI k) K 1000 (nI at_) h = K z h' ∧ F60 h h' ∧ h'.1 57 = h.1 57 ∧ arr h' 60 (del l at_) := by
  have en : nI n - 1 - nI k = nI (n - 1 - k) := by rw [nI_lit 1, pk_sub (by omega), pk_sub (by omega)]
  have dl := del_len l at_ ha
  obtain ⟨s1, ⟨p0, p1, p2, p3, p4⟩, E⟩ := lpX (fun f (s : Int32 × Hp) => f_m_tellRow_L_12 (nI n) l4 (nI k) K f s.1 s.2) (n - 1 - k) (fun i s => at_ ≤ i ∧ s.1 = nI i ∧ F60 h s.2 ∧ s.2.1 57 = h.1 57 ∧ ∀ j, j < l.length → s.2.1 60 j = nI (if j < i then nth (del l at_) j else nth l j)) (fun s => K s.1 s.2) (fun f s hs => by
    obtain ⟨q0, q1, q2, q3, q4⟩ := hs
    rw [f_m_tellRow_L_12, en, q1, if_pos ((leN (by omega) (by omega)).mpr (Nat.le_refl _))]) (fun f i s hi hs => by
    obtain ⟨q0, q1, q2, q3, q4⟩ := hs
    have v := q4 (i + 1) (by omega)
    rw [if_neg (by omega)] at v
    rw [f_m_tellRow_L_12, en, q1, if_neg (fun q => absurd ((leN (by omega) (by omega)).mp q) (by omega)), nI_1, xin_nI (n := 6) (by omega) (by decide), xin_nI (n := 6) (by omega) (by decide), clampc (k := i) (by omega), clampc (k := i + 1) (by omega), v, Bool.and_true, Bool.and_true, xgd_true]
    refine ⟨(nI (i + 1), xI s.2 60 i (nI (nth l (i + 1)))), ⟨by omega, rfl, q2.x60 _ _, ?_, fun j hj => ?_⟩, rfl⟩
    · simp only
      rw [xI_ne _ _ _ (by decide)]; exact q3
    · simp only
      rw [xI_1]
      by_cases w : j = i
      · subst w
        rw [if_pos ⟨rfl, rfl⟩, if_pos (by omega), nth_del, if_neg (by omega)]
      · rw [if_neg (fun z => w z.2), q4 j hj]
        by_cases w2 : j < i
        · rw [if_pos w2, if_pos (by omega)]
        · rw [if_neg w2, if_neg (by omega)]) (n - 1 - k - at_) at_ 1000 (nI at_, h) (by omega) (by omega) ⟨Nat.le_refl _, rfl, F60.rf h, rfl, fun j hj => by
      rw [har j hj]
      by_cases w : j < at_
      · rw [if_pos w, nth_del, if_pos w]
      · rw [if_neg w]⟩
  refine ⟨s1.1, s1.2, E, p2, p3, fun j hj => ?_⟩
  rw [p4 j (by omega), if_pos (by omega)]
theorem tell8 {n : Nat} (hn : n ≤ 6) (K : Int32 → Int32 → Hp → Option (Int32 × Hp)) (full : List Nat) : ∀ m k fuel h l code pre, k + m = n → m < fuel → l.length = m → code < fac m → arr h 60 l → pre.length = k → arr h 57 pre → pre ++ pm m l code = full → ∃ z1 z2 h', f_m_tellRow_L_8 (nI n) K fuel (nI code) (nI k) h = K z1 z2 h' ∧ F60 h h' ∧ arr h' 57 full := by
  intro m
  induction m with
  | zero =>
    intro k fuel h l code pre hk hf hl hc h60 hp h57 hfull
    obtain ⟨f, rfl⟩ : ∃ f, fuel = f + 1 := ⟨fuel - 1, by omega⟩
    refine ⟨nI code, nI k, h, ?_, F60.rf h, ?_⟩
    · rw [f_m_tellRow_L_8, if_pos ((leN (by omega) (by omega)).mpr (by omega))]
    · rw [← hfull, pm, List.append_nil]; exact h57
  | succ m ih =>
    intro k fuel h l code pre hk hf hl hc h60 hp h57 hfull
    obtain ⟨f, rfl⟩ : ∃ f, fuel = f + 1 := ⟨fuel - 1, by omega⟩
    have en : nI n - 1 - nI k = nI (n - 1 - k) := by rw [nI_lit 1, pk_sub (by omega), pk_sub (by omega)]
    have em : n - 1 - k = m := by omega
    have hat := pm_ix hc
    have f7 := fac720 m (by omega)
    have f8 := fac720 (m + 1) (by omega)
    have fp := fac_pos m
    have dv : nI code / nI (fac m) = nI (code / fac m) := pk_div (by omega) fp (by omega)
    have rm : jrem (nI code) (nI (fac m)) = nI (code % fac m) := pk_rem (by omega) fp (by omega)
    have nz : xnz (nI (fac m)) = true := by
      unfold xnz
      rw [decide_eq_false (fun z => by
        have := (nI_eq (a := fac m) (b := 0) (by omega) (by omega)).mp z
        omega)]
      rfl
    rw [f_m_tellRow_L_8, if_neg (fun q => absurd ((leN (by omega) (by omega)).mp q) (by omega)), en, em, rowsOf_m m (by omega), xbd1_some, dv, rm, nz, xin_nI (n := 6) (by omega) (by decide), xin_nI (n := 6) (by omega) (by decide), clampc (k := k) (by omega), clampc (k := code / fac m) (by omega), h60 (code / fac m) (by omega)]
    obtain ⟨z, h', E, F, q57, q60⟩ := tell12 (h := xI h 57 k (nI (nth l (code / fac m)))) (n := n) (k := k) (at_ := code / fac m) (l := l) hn (by omega) (by omega) (by omega) (fun i hi => by rw [xI_1, if_neg (by omega)]; exact h60 i hi) (nI (code % fac m)) (fun l8_14 h_15 => (f_m_tellRow_L_8 (nI n) K f) (nI (code % fac m)) (nI k + (1 : Int32)) h_15)
    have dl := del_len l (code / fac m) (by omega)
    obtain ⟨z1, z2, h2, E2, F2, q2⟩ := ih (k + 1) f h' (del l (code / fac m)) (code % fac m) (pre ++ [nth l (code / fac m)]) (by omega) (by omega) (by omega) (Nat.mod_lt _ fp) q60 (by rw [List.length_append, List.length_singleton]; omega) (fun i hi => by
      rw [List.length_append, List.length_singleton] at hi
      rw [q57, nth_app, xI_1]
      by_cases w : i = k
      · rw [if_pos ⟨rfl, w⟩, if_neg (by omega), if_pos (by omega)]
      · rw [if_neg (fun z => w z.2), if_pos (by omega)]; exact h57 i (by omega)) (by rw [List.append_assoc]; exact hfull)
    refine ⟨z1, z2, h2, ?_, ((F60.rf h).x57 _ _).tr (F.tr F2), q2⟩
    refine (show _ = _ from E).trans ?_
    rw [nI_1]; exact E2
theorem tell_m {h : Hp} {no S code : Nat} (hn : no ≤ 6) (hS : S < 64) (e : h.1 39 25 = nI no) (hc : code < fac (els S no).length) : ∃ h', f_m_tellRow (nI S) (nI code) h = some (nI (els S no).length, h') ∧ F60 h h' ∧ arr h' 57 (pm (els S no).length (els S no) code) := by
  unfold f_m_tellRow
  have len := els_len S no
  obtain ⟨h1, E1, F1, a1⟩ := tell1 hn hS e (nI code) (fun l3_5 l4_6 h_7 => f_m_tellRow_L_8 l3_5 (fun l4_16 l5_17 h_18 => some (l3_5, h_18)) 1000 (nI code) (0 : Int32) h_7)
  obtain ⟨z1, z2, h2, E2, F2, a2⟩ := tell8 (n := (els S no).length) (by omega) (fun l4_16 l5_17 h_18 => some (nI (els S no).length, h_18)) (pm (els S no).length (els S no) code) (els S no).length 0 1000 h1 (els S no) code [] (by omega) (by omega) rfl hc a1 rfl (fun i hi => by simp at hi) rfl
  refine ⟨h2, E1.trans ?_, F1.tr F2, a2⟩
  exact E2
/-- what the reference's search looks at -/
def SM (h : Hp) (no : Nat) (C : Nat → Nat → Nat) (s : Nat) : Prop := s < 8 ∧ ∀ o, o < no → C s o ≤ 63 ∧ h.1 55 (6 * s + o) = nI (C s o)
def LIn (h : Hp) (no nc tk : Nat) (C : Nat → Nat → Nat) (T du : Nat → Nat) : Prop := (no ≤ 6 ∧ nc ≤ 2 ∧ tk ≤ 1000) ∧ (h.1 39 25 = nI no ∧ h.1 39 15 = nI nc ∧ h.1 39 19 = nI tk) ∧ (∀ b, b < no → SM h no C (2 + b)) ∧ (∀ k, k < nc → SM h no C k) ∧ ∀ o, o < no → T o ≤ 63 ∧ h.1 56 o = nI (T o) ∧ h.1 54 o = nI (du o) ∧ du o ≤ 200
def F58 (h h' : Hp) : Prop := h'.2 = h.2 ∧ ∀ a, a ≠ 57 → a ≠ 58 → a ≠ 59 → a ≠ 60 → h'.1 a = h.1 a
theorem F58.rf (h : Hp) : F58 h h := ⟨rfl, fun _ _ _ _ _ => rfl⟩
theorem F58.tr {h h' h'' : Hp} (F : F58 h h') (G : F58 h' h'') : F58 h h'' := ⟨G.1.trans F.1, fun a x y z w => (G.2 a x y z w).trans (F.2 a x y z w)⟩
theorem F60.f58 {h h' : Hp} (F : F60 h h') : F58 h h' := ⟨F.1, fun a x _ _ w => F.2 a x w⟩
theorem LIn.of {h h' : Hp} (F : F58 h h') {no nc tk : Nat} {C : Nat → Nat → Nat} {T du : Nat → Nat} (H : LIn h no nc tk C T du) : LIn h' no nc tk C T du := by
  unfold LIn SM at H ⊢
  rw [F.2 39 (by decide) (by decide) (by decide) (by decide), F.2 54 (by decide) (by decide) (by decide) (by decide), F.2 55 (by decide) (by decide) (by decide) (by decide), F.2 56 (by decide) (by decide) (by decide) (by decide)]
  exact H
theorem late1 {h : Hp} {no nc tk : Nat} {C : Nat → Nat → Nat} {T du : Nat → Nat} (H : LIn h no nc tk C T du) {n : Nat} (n6 : n ≤ 6) : ∀ t i fuel s tm acc, i + t.length = n → t.length < fuel → (∀ j, j < t.length → h.1 57 (i + j) = nI (nth t j)) → (∀ x, x ∈ t → x < no) → SM h no C s → tm ≤ 1000 + 126 * i → acc ≤ 2000 * i → f_m_lateOf_L_1 (nI n) h (fun l3_6 l4_7 l5_8 l6_9 => some l4_7) fuel (nI tm) (nI acc) (nI s) (nI i) = some (nI (acc + lat C T du s tm t)) ∧ lat C T du s tm t ≤ 2000 * t.length := by
  intro t
  induction t with
  | nil =>
    intro i fuel s tm acc hi hf _ _ _ _ _
    obtain ⟨f, rfl⟩ : ∃ f, fuel = f + 1 := ⟨fuel - 1, by omega⟩
    simp only [List.length_nil] at hi
    refine ⟨?_, Nat.le_refl _⟩
    rw [f_m_lateOf_L_1, if_pos ((leN (by omega) (by omega)).mpr (by omega))]
    rfl
  | cons o t ih =>
    intro i fuel s tm acc hi hf h57 hm hs htm hacc
    obtain ⟨f, rfl⟩ : ∃ f, fuel = f + 1 := ⟨fuel - 1, by omega⟩
    simp only [List.length_cons] at hi hf
    have ho := hm o List.mem_cons_self
    have e0 : h.1 57 i = nI o := h57 0 (by simp)
    obtain ⟨⟨m6, -, -⟩, -, hB, -, hT⟩ := id H
    obtain ⟨t1, t2, t3, t4⟩ := hT o ho
    obtain ⟨s8, sC⟩ := hs
    obtain ⟨c1, c2⟩ := sC o ho
    have en : (6 : Int32) * nI s + nI o = nI (6 * s + o) := by rw [nI_lit 6, pk_mul, nI_add]
    obtain ⟨I1, I2⟩ := ih (i + 1) f (2 + o) (tm + C s o + T o) (acc + (tm + C s o + T o - du o)) (by omega) (by omega) (fun j hj => by
      have := h57 (j + 1) (by simp only [List.length_cons]; omega)
      have e : i + (j + 1) = i + 1 + j := by omega
      rw [e] at this; exact this) (fun x hx => hm x (List.mem_cons_of_mem _ hx)) (hB o ho) (by omega) (by omega)
    refine ⟨?_, by rw [lat, List.length_cons]; omega⟩
    have e2 : (2 : Int32) + nI o = nI (2 + o) := by rw [nI_lit 2, nI_add]
    rw [f_m_lateOf_L_1, if_neg (fun q => absurd ((leN (by omega) (by omega)).mp q) (by omega)), clampc (k := i) (by omega), e0, en, xin_nI (n := 6) (by omega) (by decide), xin_nI (n := 48) (by omega) (by decide), xin_nI (n := 6) (by omega) (by decide), clampc (k := 6 * s + o) (by omega), clampc (k := o) (by omega), c2, t2, t3, nI_add, nI_add, ← Nat.add_assoc]
    unfold f_m_lateOf_j_5
    rw [e2, nI_1, lat, ← Nat.add_assoc, ← I1]
    by_cases q : tm + C s o + T o ≤ du o
    · have z : tm + C s o + T o - du o = 0 := by omega
      rw [if_pos ((leN (by omega) (by omega)).mpr q), z]
      show xgd _ (f_m_lateOf_L_1 _ _ _ _ _ (nI acc + nI 0) _ _) = _
      rw [nI_add]
      rfl
    · rw [if_neg (fun z => q ((leN (by omega) (by omega)).mp z)), pk_sub (by omega), nI_add]
      rfl
theorem lateOf_m {h : Hp} {no nc tk : Nat} {C : Nat → Nat → Nat} {T du : Nat → Nat} (H : LIn h no nc tk C T du) {k : Nat} (hk : k < nc) {t : List Nat} (ht : t.length ≤ 6) (ha : arr h 57 t) (hm : ∀ x, x ∈ t → x < no) : f_m_lateOf (nI k) (nI t.length) h = some (nI (lat C T du k tk t)) ∧ lat C T du k tk t ≤ 12000 := by
  unfold f_m_lateOf
  rw [H.2.1.2.2]
  obtain ⟨a, b⟩ := late1 H ht t 0 1000 k tk 0 (by omega) (by omega) (fun j hj => by rw [Nat.zero_add]; exact ha j hj) hm (H.2.2.2.1 k hk) (by have := H.1; omega) (by omega)
  rw [Nat.zero_add] at a
  exact ⟨a, by omega⟩
/-- the best row is kept -/
def KP (h h' : Hp) (k : Nat) (t : List Nat) : Prop := (∀ i, i < t.length → h'.1 58 (6 * k + i) = nI (nth t i)) ∧ ∀ j, (j < 6 * k ∨ 6 * k + 6 ≤ j) → h'.1 58 j = h.1 58 j
theorem keep15 {h : Hp} {k n : Nat} (hk : k < 2) (hn : n ≤ 6) {t : List Nat} (ht : t.length = n) (ha : arr h 57 t) (l2 l5 l6 : Int32) (K : Int32 → Hp → Option (Int32 × Hp)) : ∃ z h', f_m_leastOf_L_15 (nI k) l2 1 (nI n) l5 l6 K 1000 0 h = K z h' ∧ F58 h h' ∧ h'.1 59 = h.1 59 ∧ KP h h' k t := by
  obtain ⟨s1, ⟨p1, p2, p3, p4, p5⟩, E⟩ := lpX (fun f (s : Int32 × Hp) => f_m_leastOf_L_15 (nI k) l2 1 (nI n) l5 l6 K f s.1 s.2) n (fun i s => s.1 = nI i ∧ F58 h s.2 ∧ (s.2.1 57 = h.1 57 ∧ s.2.1 59 = h.1 59) ∧ (∀ j, j < i → s.2.1 58 (6 * k + j) = nI (nth t j)) ∧ ∀ j, (j < 6 * k ∨ 6 * k + 6 ≤ j) → s.2.1 58 j = h.1 58 j) (fun s => K s.1 s.2) (fun f s hs => by
    obtain ⟨q1, q2, q3, q4, q5⟩ := hs
    rw [f_m_leastOf_L_15, q1, if_pos ((leN (by omega) (by omega)).mpr (Nat.le_refl _))]) (fun f i s hi hs => by
    obtain ⟨q1, q2, ⟨q3, q3'⟩, q4, q5⟩ := hs
    have en : (6 : Int32) * nI k + nI i = nI (6 * k + i) := by rw [nI_lit 6, pk_mul, nI_add]
    rw [f_m_leastOf_L_15, q1, if_neg (fun q => absurd ((leN (by omega) (by omega)).mp q) (by omega)), if_neg one_ne, en, xin_nI (n := 12) (by omega) (by decide), xin_nI (n := 6) (by omega) (by decide), clampc (k := 6 * k + i) (by omega), clampc (k := i) (by omega), q3, ha i (by omega), nI_1, Bool.and_true, Bool.and_true, xgd_true]
    refine ⟨(nI (i + 1), xI s.2 58 (6 * k + i) (nI (nth t i))), ⟨rfl, ⟨q2.1, fun a x y z w => (xI_ne _ _ _ y).trans (q2.2 a x y z w)⟩, ⟨?_, ?_⟩, fun j hj => ?_, fun j hj => ?_⟩, rfl⟩
    · exact (xI_ne _ _ _ (by decide)).trans q3
    · exact (xI_ne _ _ _ (by decide)).trans q3'
    · simp only
      rw [xI_1]
      by_cases w : j = i
      · subst w; rw [if_pos ⟨rfl, rfl⟩]
      · rw [if_neg (by omega)]; exact q4 j (by omega)
    · simp only
      rw [xI_1, if_neg (by omega)]; exact q5 j hj) n 0 1000 ((0 : Int32), h) (by omega) (by omega) ⟨rfl, F58.rf h, ⟨rfl, rfl⟩, fun j hj => by omega, fun _ _ => rfl⟩
  exact ⟨s1.1, s1.2, E, p2, p3.2, fun i hi => p4 i (by omega), p5⟩
theorem keep15z {h : Hp} (l1 l2 l4 l5 l6 : Int32) (K : Int32 → Hp → Option (Int32 × Hp)) (f : Nat) (l8 : Int32) : f_m_leastOf_L_15 l1 l2 0 l4 l5 l6 K (f + 1) l8 h = K l8 h := by
  rw [f_m_leastOf_L_15, if_pos rfl]
  split <;> rfl
/-- what is kept of the best row, or nothing -/
def KK (kp : Bool) (h h' : Hp) (k : Nat) (t : List Nat) : Prop := h'.1 59 = h.1 59 ∧ (if kp then KP h h' k t else h'.1 58 = h.1 58)
theorem KK_j14 {h0 h : Hp} (kp : Bool) {k n : Nat} (hk : k < 2) (hn : n ≤ 6) {t told : List Nat} (ht : t.length = n) (ha : arr h 57 t) (hold : KK kp h0 h k told ∨ h = h) (h59 : h.1 59 = h0.1 59) (h58 : if kp then (∀ j, (j < 6 * k ∨ 6 * k + 6 ≤ j) → h.1 58 j = h0.1 58 j) else h.1 58 = h0.1 58) (k15 k105 : Int32 → Int32 → Hp → Option (Int32 × Hp)) (l2 l6 l7 : Int32) : ∃ h', f_m_leastOf_j_14 k15 k105 (nI k) l2 (bI kp) (nI n) l6 l7 h = k15 l7 (l6 + 1) h' ∧ F58 h h' ∧ KK kp h0 h' k t := by
  unfold f_m_leastOf_j_14
  cases kp with
  | true =>
    obtain ⟨z, h', E, F, e59, K1, K2⟩ := keep15 (h := h) hk hn ht ha l2 l7 l6 (fun l8_18 h_19 => k15 l7 (l6 + (1 : Int32)) h_19)
    refine ⟨h', E, F, e59.trans h59, ?_⟩
    rw [if_pos rfl] at h58 ⊢
    exact ⟨K1, fun j hj => (K2 j hj).trans (h58 j hj)⟩
  | false =>
    refine ⟨h, keep15z _ _ _ _ _ _ 999 _, F58.rf h, h59, ?_⟩
    rw [if_neg (by decide)] at h58 ⊢
    exact h58
theorem least_m {h : Hp} {no nc tk : Nat} {C : Nat → Nat → Nat} {T du : Nat → Nat} (H : LIn h no nc tk C T du) {k S : Nat} (hk : k < nc) (hS : S < 2 ^ no) (kp : Bool) : ∃ h', f_m_leastOf (nI k) (nI S) (bI kp) h = some (nI (Lm C T du tk no k S), h') ∧ F58 h h' ∧ Lm C T du tk no k S ≤ 12000 ∧ (if kp then KP h h' k (bestT C T du tk no k S) ∧ h'.1 59 k = nI (els S no).length ∧ ∀ j, j ≠ k → h'.1 59 j = h.1 59 j else h'.1 58 = h.1 58 ∧ h'.1 59 = h.1 59) := by
  obtain ⟨⟨n6, c2, -⟩, ⟨e25, -, -⟩, -⟩ := id H
  have h64 := two64 n6
  have len := els_len S no
  have hs := els_srt S no
  have fp := fac_pos (els S no).length
  have f7 := fac720 (els S no).length (by omega)
  have hz : ∀ x, (0 : Nat).testBit x = false := fun x => Nat.zero_testBit x
  have mem : ∀ code, code < fac (els S no).length → ∀ x, x ∈ pm (els S no).length (els S no) code → x < no := fun code hc => vld_mem _ 0 (pm_vld n6 (els S no).length (els S no) code 0 rfl hs hc (by omega) (fun x hx => ⟨((els_mem S no x).mp hx).1, hz x⟩)).1
  unfold f_m_leastOf
  obtain ⟨h1, E1, F1, a1⟩ := tell_m (h := h) (code := 0) n6 (by omega) e25 fp
  have E1 : f_m_tellRow (nI S) 0 h = some (nI (els S no).length, h1) := E1
  rw [E1, xbd2_some]
  generalize hl : els S no = l at *
  generalize hN : l.length = N at *
  have g : ∀ code, code < fac N → lat C T du k tk (pm N l code) ≤ 12000 → True := fun _ _ _ => trivial
  obtain ⟨s1, ⟨p1, p2, p3, p4, p5⟩, E⟩ := lpX (fun f (s : Int32 × Int32 × Hp) => f_m_leastOf_L_4 (nI k) (nI S) (bI kp) (nI N) (fun l5_21 l6_22 h_23 =>
    if (bI kp) = (0 : Int32) then
      xgd (xin (nI k) 2 && (xin (nI k) 2 && true)) <|
      some (l5_21, (xI h_23 59 (nI k).toNatClampNeg (h_23.1 59 (nI k).toNatClampNeg)))
    else
      xgd (xin (nI k) 2 && true) <|
      some (l5_21, (xI h_23 59 (nI k).toNatClampNeg (nI N)))) f s.1 s.2.1 s.2.2) (fac N) (fun i s => (i = 0 → s.1 = -9 ∧ s.2.2.1 58 = h.1 58) ∧ (0 < i → s.1 = nI (lat C T du k tk (pm N l (fm (fun code => lat C T du k tk (pm N l code)) i))) ∧ lat C T du k tk (pm N l (fm (fun code => lat C T du k tk (pm N l code)) i)) ≤ 12000 ∧ (if kp then KP h s.2.2 k (pm N l (fm (fun code => lat C T du k tk (pm N l code)) i)) else s.2.2.1 58 = h.1 58)) ∧ s.2.1 = nI i ∧ F58 h s.2.2 ∧ s.2.2.1 59 = h.1 59) (fun s => if (bI kp) = (0 : Int32) then
      xgd (xin (nI k) 2 && (xin (nI k) 2 && true)) <|
      some (s.1, (xI s.2.2 59 (nI k).toNatClampNeg (s.2.2.1 59 (nI k).toNatClampNeg)))
    else
      xgd (xin (nI k) 2 && true) <|
      some (s.1, (xI s.2.2 59 (nI k).toNatClampNeg (nI N)))) (fun f s hq => by
    obtain ⟨q1, q2, q3, q4, q5⟩ := hq
    rw [f_m_leastOf_L_4, rowsOf_m N (by omega), xbd1_some, q3, if_pos ((leN (by omega) (by omega)).mpr (Nat.le_refl _))]) (fun f i s hi hq => by
    obtain ⟨q1, q2, q3, q4, q5⟩ := hq
    have H' := H.of q4
    obtain ⟨h2, E2, F2, a2⟩ := tell_m (h := s.2.2) (code := i) (S := S) n6 (by omega) H'.2.1.1 (by rw [hl, hN]; exact hi)
    rw [hl, hN] at E2 a2
    have H2 := H'.of F2.f58
    have pl := pm_len N l i
    obtain ⟨L1, L2⟩ := lateOf_m H2 hk (t := pm N l i) (by omega) a2 (mem i hi)
    rw [pl] at L1
    have f59 : h2.1 59 = h.1 59 := (F2.2 59 (by decide) (by decide)).trans q5
    have f58 : h2.1 58 = s.2.2.1 58 := F2.2 58 (by decide) (by decide)
    have nN : N < 7 := by omega
    rw [f_m_leastOf_L_4, rowsOf_m N nN, xbd1_some, q3, if_neg (fun q => absurd ((leN (by omega) (by omega)).mp q) (by omega)), E2, xbd2_some, L1, xbd1_some]
    have o58 : if kp then (∀ j, (j < 6 * k ∨ 6 * k + 6 ≤ j) → h2.1 58 j = h.1 58 j) else h2.1 58 = h.1 58 := by
      by_cases i0 : i = 0
      · have := (q1 i0).2
        cases kp with
        | true => rw [if_pos rfl]; intro j _; rw [f58, this]
        | false => rw [if_neg (by decide), f58, this]
      · have := (q2 (by omega)).2.2
        cases kp with
        | true => rw [if_pos rfl] at this ⊢; intro j hj; rw [f58]; exact this.2 j hj
        | false => rw [if_neg (by decide)] at this ⊢; rw [f58, this]
    obtain ⟨h3, E3, F3, K3⟩ := KK_j14 (h0 := h) (h := h2) (told := []) kp (by omega) (by omega) pl a2 (Or.inr rfl) f59 o58 (f_m_leastOf_L_4 (nI k) (nI S) (bI kp) (nI N) (fun l5_21 l6_22 h_23 =>
    if (bI kp) = (0 : Int32) then
      xgd (xin (nI k) 2 && (xin (nI k) 2 && true)) <|
      some (l5_21, (xI h_23 59 (nI k).toNatClampNeg (h_23.1 59 (nI k).toNatClampNeg)))
    else
      xgd (xin (nI k) 2 && true) <|
      some (l5_21, (xI h_23 59 (nI k).toNatClampNeg (nI N)))) f) (fun l5_21 l6_22 h_23 =>
    if (bI kp) = (0 : Int32) then
      xgd (xin (nI k) 2 && (xin (nI k) 2 && true)) <|
      some (l5_21, (xI h_23 59 (nI k).toNatClampNeg (h_23.1 59 (nI k).toNatClampNeg)))
    else
      xgd (xin (nI k) 2 && true) <|
      some (l5_21, (xI h_23 59 (nI k).toNatClampNeg (nI N)))) (nI S) (nI i) (nI (lat C T du k tk (pm N l i)))
    rw [nI_1] at E3
    have F3' : F58 h h3 := q4.tr (F2.f58.tr F3)
    by_cases i0 : i = 0
    · have e9 := (q1 i0).1
      rw [e9, if_pos rfl]
      have fi : fm (fun code => lat C T du k tk (pm N l code)) (i + 1) = i := by
        subst i0
        show (if _ < _ then 0 else fm _ 0) = 0
        split <;> rfl
      refine ⟨(nI (lat C T du k tk (pm N l i)), nI (i + 1), h3), ⟨fun z => by omega, fun _ => ?_, rfl, F3', K3.1⟩, E3⟩
      rw [fi]
      exact ⟨rfl, L2, K3.2⟩
    · obtain ⟨e1, e2, e3⟩ := q2 (by omega)
      rw [e1, if_neg (fun z => by
        have := congrArg Int32.toInt z
        rw [nI_toInt (by omega)] at this
        have e : (-9 : Int32).toInt = -9 := by decide
        omega)]
      have fi : fm (fun code => lat C T du k tk (pm N l code)) (i + 1) = if lat C T du k tk (pm N l i) < lat C T du k tk (pm N l (fm (fun code => lat C T du k tk (pm N l code)) i)) then i else fm (fun code => lat C T du k tk (pm N l code)) i := rfl
      by_cases w : lat C T du k tk (pm N l i) < lat C T du k tk (pm N l (fm (fun code => lat C T du k tk (pm N l code)) i))
      · rw [if_neg (fun z => absurd ((leN (by omega) (by omega)).mp z) (by omega))]
        refine ⟨(nI (lat C T du k tk (pm N l i)), nI (i + 1), h3), ⟨fun z => by omega, fun _ => ?_, rfl, F3', K3.1⟩, E3⟩
        rw [fi, if_pos w]
        exact ⟨rfl, L2, K3.2⟩
      · rw [if_pos ((leN (by omega) (by omega)).mpr (by omega)), nI_1]
        refine ⟨(nI (lat C T du k tk (pm N l (fm (fun code => lat C T du k tk (pm N l code)) i))), nI (i + 1), h2), ⟨fun z => by omega, fun _ => ?_, rfl, q4.tr F2.f58, f59⟩, rfl⟩
        rw [fi, if_neg w]
        refine ⟨rfl, e2, ?_⟩
        simp only
        cases kp with
        | true =>
          rw [if_pos rfl] at e3 ⊢
          exact ⟨fun j hj => by rw [f58]; exact e3.1 j hj, fun j hj => by rw [f58]; exact e3.2 j hj⟩
        | false =>
          rw [if_neg (by decide)] at e3 ⊢
          rw [f58, e3]) (fac N) 0 1000 ((-9 : Int32), (0 : Int32), h1) (by omega) (by omega) ⟨fun _ => ⟨rfl, F1.2 58 (by decide) (by decide)⟩, fun z => by omega, rfl, F1.f58, F1.2 59 (by decide) (by decide)⟩
  simp only at E
  obtain ⟨e1, e2, e3⟩ := p2 fp
  have eT : bestT C T du tk no k S = pm N l (fm (fun code => lat C T du k tk (pm N l code)) (fac N)) := by
    unfold bestT; rw [hl, hN]
  have eL : Lm C T du tk no k S = lat C T du k tk (pm N l (fm (fun code => lat C T du k tk (pm N l code)) (fac N))) := by
    unfold Lm; rw [eT]
  rw [eL, eT]
  have x2 : xin (nI k) 2 = true := xin_nI (by omega) (by decide)
  rw [x2, clampc (k := k) (by omega)] at E
  rw [x2, clampc (k := k) (by omega)]
  cases kp with
  | true =>
    have e3 : KP h s1.2.2 k (pm N l (fm (fun code => lat C T du k tk (pm N l code)) (fac N))) := e3
    refine ⟨xI s1.2.2 59 k (nI N), ?_, ⟨p4.1, fun a x y z w => (xI_ne _ _ _ z).trans (p4.2 a x y z w)⟩, e2, ⟨fun j hj => ?_, fun j hj => ?_⟩, ?_, fun j hj => ?_⟩
    · rw [← e1]
      exact E
    · rw [xI_1, if_neg (by omega)]; exact e3.1 j hj
    · rw [xI_1, if_neg (by omega)]; exact e3.2 j hj
    · rw [xI_1, if_pos ⟨rfl, rfl⟩]
    · rw [xI_1, if_neg (fun z => hj z.2), p5]
  | false =>
    have e3 : s1.2.2.1 58 = h.1 58 := e3
    refine ⟨s1.2.2, ?_, p4, e2, e3, p5⟩
    rw [← e1]
    refine E.trans ?_
    rw [if_pos (show bI false = (0 : Int32) from rfl), xI_id]
    rfl
