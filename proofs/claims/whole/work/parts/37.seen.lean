/-! ===== what is seen from a cell ===== -/
def rayN (nx : Nat → Option Nat) (fr : Int64) : Nat → Option Nat → Int64 → Int64
  | 0, _, acc => acc
  | _ + 1, none, acc => acc
  | n + 1, some p, acc => rayN nx fr n (if bq fr p then nx p else none) (acc ||| one p)
theorem one_ne0 {p : Nat} (hp : p < 64) : one p ≠ 0 := by
  intro e
  have := bq_onec hp hp
  rw [e, bq_0] at this
  simp at this
theorem shifted_0 {d : Nat} (hd : d < 4) : f_x_shifted 0 (nI d) = 0 := by
  apply bq_ext
  intro q hq
  rw [shifted_bit _ hd hq, bq_0]
  split <;> simp [bq_0]
theorem one_and {p : Nat} (hp : p < 64) (fr : Int64) : one p &&& fr = if bq fr p then one p else 0 := by
  apply bq_ext
  intro i hi
  rw [bq_and, bq_onec hp hi]
  by_cases e : i = p
  · subst e
    cases hb : bq fr i
    · simp [bq_0]
    · simp [bq_onec hi hi]
  · cases hb : bq fr p
    · simp [e, bq_0]
    · simp [e, bq_onec hp hi]
theorem ray_x {h : Hp} {l2 : Int64} {d : Nat} (hd : d < 4) (k : Int64 → Int64 → Int32 → Option Int64) : ∀ (n fuel i : Nat) (o : Option Nat) (acc : Int64), i + n = 8 → n < fuel → (∀ p, o = some p → p < 64) → ∃ z1 z2, f_hall_seenFrom_L_3 l2 (nI d) h k fuel acc (encL o) (nI i) = k (rayN (fun p => nbr p d) (h.2 2 5) n o acc) z1 z2 := by
  intro n
  induction n with
  | zero =>
    intro fuel i o acc hi hf ho
    obtain ⟨f, rfl⟩ : ∃ f, fuel = f + 1 := ⟨fuel - 1, by omega⟩
    have : i = 8 := by omega
    subst this
    exact ⟨encL o, nI 8, by rw [f_hall_seenFrom_L_3, if_pos (by decide)]; rfl⟩
  | succ n ih =>
    intro fuel i o acc hi hf ho
    obtain ⟨f, rfl⟩ : ∃ f, fuel = f + 1 := ⟨fuel - 1, by omega⟩
    rw [f_hall_seenFrom_L_3, if_neg (by rw [leI, tI 8, nI_toInt (by omega)]; omega)]
    cases o with
    | none => exact ⟨0, nI i, by rw [if_pos (show lg_cmp (encL none) 0 = 0 from lg_eq.mpr rfl)]; rfl⟩
    | some p =>
      have hp := ho p rfl
      rw [if_neg (show ¬ lg_cmp (encL (some p)) 0 = 0 from fun q => one_ne0 hp (lg_eq.mp q)), nI_1]
      have e : f_x_shifted (encL (some p) &&& h.2 2 5) (nI d) = encL (if bq (h.2 2 5) p then nbr p d else none) := by
        show f_x_shifted (one p &&& h.2 2 5) (nI d) = _
        rw [one_and hp]
        cases bq (h.2 2 5) p
        · exact shifted_0 hd
        · exact shifted_one hp hd
      rw [e]
      exact ih f (i + 1) _ _ (by omega) (by omega) (fun q hq => by
        split at hq
        · exact nbr_lt64 hp hd hq
        · cases hq)
/-- how far it is to the edge -/
def rk (d p : Nat) : Nat := match d with
  | 0 => p / 8
  | 1 => 7 - p % 8
  | 2 => 7 - p / 8
  | _ => p % 8
theorem rk_nbr : ∀ p, p < 64 → ∀ d, d < 4 → (match nbr p d with
  | some q => decide (rk d q < rk d p)
  | none => true) = true := by decide +kernel
theorem rk_lt : ∀ p, p < 64 → ∀ d, d < 4 → rk d p < 8 := by decide +kernel
theorem encI_9 {p : Nat} (hp : p < 64) : ¬ encI (some p) = (-9 : Int32) := by
  intro e
  have e1 : (nI p).toInt = (-9 : Int32).toInt := congrArg _ e
  rw [nI_toInt (by omega)] at e1
  have : (-9 : Int32).toInt = -9 := by decide
  omega
theorem ray_m {h : Hp} {l1 : Int32} {w g d : Nat} (h1 : h.1 39 3 = nI w) (h2 : h.1 39 4 = nI g) (hw : w < 9) (hg : g < 9) (hd : d < 4) (k : Int64 → Int32 → Int32 → Option Int64) : ∀ (n fuel : Nat) (o : Option Nat) (acc : Int64), n < fuel → (∀ p, o = some p → p < 64 ∧ rk d p < n) → ∃ z1 z2, f_m_seenFrom_L_5 l1 (nI d) h k fuel acc (encI o) (bI o.isSome) = k (rayN (fun p => nbw w g p d) (h.2 39 8) n o acc) z1 z2 := by
  intro n
  induction n with
  | zero =>
    intro fuel o acc hf ho
    obtain ⟨f, rfl⟩ : ∃ f, fuel = f + 1 := ⟨fuel - 1, by omega⟩
    cases o with
    | none => exact ⟨_, _, by rw [f_m_seenFrom_L_5, if_pos (show bI (none : Option Nat).isSome = 0 from rfl)]; rfl⟩
    | some p => have := (ho p rfl).2; omega
  | succ n ih =>
    intro fuel o acc hf ho
    obtain ⟨f, rfl⟩ : ∃ f, fuel = f + 1 := ⟨fuel - 1, by omega⟩
    cases o with
    | none => exact ⟨_, _, by rw [f_m_seenFrom_L_5, if_pos (show bI (none : Option Nat).isSome = 0 from rfl)]; rfl⟩
    | some p =>
      obtain ⟨hp, hr⟩ := ho p rfl
      rw [f_m_seenFrom_L_5, if_neg (show ¬ bI (some p).isSome = 0 from one_ne)]
      show ∃ z1 z2, f_m_seenFrom_L_5 l1 (nI d) h k f (acc ||| one p) (f_m_beside (nI p) (nI d) h) (if f_m_isFree (nI p) h = 0 then 0 else if f_m_beside (nI p) (nI d) h = -9 then 0 else 1) = k (rayN (fun p => nbw w g p d) (h.2 39 8) n (if bq (h.2 39 8) p then nbw w g p d else none) (acc ||| one p)) z1 z2
      rw [isFree_m hp, m_beside h1 h2 hw hg hp hd]
      cases hb : bq (h.2 39 8) p with
      | false =>
        obtain ⟨f', rfl⟩ : ∃ f', f = f' + 1 := ⟨f - 1, by omega⟩
        refine ⟨encI (nbw w g p d), 0, ?_⟩
        rw [if_pos (show bI false = 0 from rfl), f_m_seenFrom_L_5, if_pos rfl]
        cases n <;> rfl
      | true =>
        rw [if_neg (by decide)]
        have e : (if encI (nbw w g p d) = -9 then (0 : Int32) else 1) = bI (nbw w g p d).isSome := by
          cases hn : nbw w g p d with
          | none => rfl
          | some q => rw [if_neg (encI_9 (nbr_lt64 hp hd (nbw_some hn).1))]; rfl
        rw [e]
        refine ih f _ _ (by omega) (fun q hq => ?_)
        have hq : nbw w g p d = some q := hq
        have hq2 := (nbw_some hq).1
        have := rk_nbr p hp d hd
        rw [hq2] at this
        have := of_decide_eq_true this
        exact ⟨nbr_lt64 hp hd hq2, by omega⟩
theorem ray_acc (nx : Nat → Option Nat) (fr : Int64) : ∀ (n : Nat) (o : Option Nat) (acc : Int64), rayN nx fr n o acc = acc ||| rayN nx fr n o 0 := by
  intro n
  induction n with
  | zero => intro o acc; apply bq_ext; intro i hi; simp [rayN, bq_or, bq_0]
  | succ n ih =>
    intro o acc
    cases o with
    | none => apply bq_ext; intro i hi; simp [rayN, bq_or, bq_0]
    | some p =>
      simp only [rayN]
      rw [ih _ (acc ||| one p), ih _ (0 ||| one p)]
      apply bq_ext; intro i hi
      simp [bq_or, bq_0, Bool.or_assoc]
/-- within the hall both rays are one -/
theorem ray_xm {w g d : Nat} {fr cs : Int64} (hd : d < 4) (hcs : ∀ c, c < 64 → bq cs c = inHall w g c) (hfr : ∀ c, c < 64 → bq fr c = true → inHall w g c = true) : ∀ (n m : Nat) (o o2 : Option Nat), n ≤ m → (∀ p, o = some p → p < 64 ∧ rk d p < n) → o2 = (match o with
    | some p => if inHall w g p then some p else none
    | none => none) → (rayN (fun p => nbr p d) fr n o 0) &&& cs = rayN (fun p => nbw w g p d) fr m o2 0 := by
  intro n
  induction n with
  | zero =>
    intro m o o2 _ ho e
    cases o with
    | none =>
      subst e
      cases m <;> (apply bq_ext; intro i hi; simp [rayN, bq_and, bq_0])
    | some p => have := (ho p rfl).2; omega
  | succ n ih =>
    intro m o o2 hm ho e
    obtain ⟨m, rfl⟩ : ∃ m', m = m' + 1 := ⟨m - 1, by omega⟩
    cases o with
    | none =>
      subst e
      apply bq_ext; intro i hi; simp [rayN, bq_and, bq_0]
    | some p =>
      obtain ⟨hp, hr⟩ := ho p rfl
      have e : o2 = if inHall w g p then some p else none := e
      cases hin : inHall w g p with
      | false =>
        rw [hin] at e
        have e : o2 = none := e
        subst e
        have hnf : bq fr p = false := by
          cases hb : bq fr p with
          | false => rfl
          | true => rw [hfr p hp hb] at hin; cases hin
        simp only [rayN, hnf]
        have e0 : rayN (fun p => nbr p d) fr n (if false = true then nbr p d else none) (0 ||| one p) = 0 ||| one p := by
          cases n <;> rfl
        rw [e0]
        apply bq_ext; intro i hi
        rw [bq_and, bq_or, bq_0, bq_onec hp hi, hcs i hi]
        by_cases e : i = p
        · subst e; simp [hin]
        · simp [e]
      | true =>
        rw [hin] at e
        have e : o2 = some p := e
        subst e
        simp only [rayN]
        rw [ray_acc _ _ _ _ (0 ||| one p), ray_acc _ _ _ _ (0 ||| one p)]
        have e2 := ih m (if bq fr p then nbr p d else none) (if bq fr p then nbw w g p d else none) (by omega) (fun q hq => by
          split at hq
          · have := rk_nbr p hp d hd
            rw [hq] at this
            have := of_decide_eq_true this
            exact ⟨nbr_lt64 hp hd hq, by omega⟩
          · cases hq) (by
          cases bq fr p
          · rfl
          · simp only [nbw, if_true]
            cases nbr p d <;> rfl)
        rw [← e2]
        apply bq_ext; intro i hi
        simp only [bq_and, bq_or, bq_0]
        rw [bq_onec hp hi]
        by_cases e : i = p
        · subst e; rw [hcs i hi, hin]; simp
        · simp [e]
theorem inHall_iff {w g c : Nat} : inHall w g c = decide (c % 8 < w ∧ c / 8 < g) := by simp [inHall]
/-- all rays of a cell, one direction behind another -/
def raysF (r : Nat → Int64) : Nat → Nat → Int64 → Int64
  | 0, _, acc => acc
  | m + 1, i, acc => raysF r m (i + 1) (acc ||| r i)
theorem rays_x {h : Hp} {c : Nat} (hc : c < 64) (k : Int64 → Int32 → Option Int64) : ∀ (m i fuel : Nat) (acc : Int64), i + m = 4 → m < fuel → f_hall_seenFrom_L_1 (one c) h k fuel acc (nI i) = k (raysF (fun d => rayN (fun p => nbr p d) (h.2 2 5) 7 (nbr c d) 0) m i acc) (nI 4) := by
  intro m
  induction m with
  | zero =>
    intro i fuel acc hi hf
    obtain ⟨f, rfl⟩ : ∃ f, fuel = f + 1 := ⟨fuel - 1, by omega⟩
    have : i = 4 := by omega
    subst this
    rw [f_hall_seenFrom_L_1, if_pos (by decide)]; rfl
  | succ m ih =>
    intro i fuel acc hi hf
    obtain ⟨f, rfl⟩ : ∃ f, fuel = f + 1 := ⟨fuel - 1, by omega⟩
    rw [f_hall_seenFrom_L_1, if_neg (by rw [leI, tI 4, nI_toInt (by omega)]; omega), nI_1, shifted_one hc (by omega)]
    obtain ⟨z1, z2, e⟩ := ray_x (h := h) (l2 := one c) (d := i) (by omega) (fun l6 _ _ => f_hall_seenFrom_L_1 (one c) h k f l6 (nI (i + 1))) 7 1000 1 (nbr c i) acc (by omega) (by decide) (fun p hp => nbr_lt64 hc (by omega) hp)
    refine Eq.trans e ?_
    show f_hall_seenFrom_L_1 (one c) h k f _ (nI (i + 1)) = _
    rw [ih (i + 1) f _ (by omega) (by omega), ray_acc]
    rfl
theorem rays_m {h : Hp} {c w g : Nat} (h1 : h.1 39 3 = nI w) (h2 : h.1 39 4 = nI g) (hw : w < 9) (hg : g < 9) (hc : c < 64) (k : Int64 → Int32 → Option Int64) : ∀ (m i fuel : Nat) (acc : Int64), i + m = 4 → m < fuel → f_m_seenFrom_L_1 (nI c) h k fuel acc (nI i) = k (raysF (fun d => rayN (fun p => nbw w g p d) (h.2 39 8) 8 (nbw w g c d) 0) m i acc) (nI 4) := by
  intro m
  induction m with
  | zero =>
    intro i fuel acc hi hf
    obtain ⟨f, rfl⟩ : ∃ f, fuel = f + 1 := ⟨fuel - 1, by omega⟩
    have : i = 4 := by omega
    subst this
    rw [f_m_seenFrom_L_1, if_pos (by decide)]; rfl
  | succ m ih =>
    intro i fuel acc hi hf
    obtain ⟨f, rfl⟩ : ∃ f, fuel = f + 1 := ⟨fuel - 1, by omega⟩
    rw [f_m_seenFrom_L_1, if_neg (by rw [leI, tI 4, nI_toInt (by omega)]; omega), nI_1, m_beside h1 h2 hw hg hc (by omega)]
    have e0 : (if encI (nbw w g c i) = -9 then (0 : Int32) else 1) = bI (nbw w g c i).isSome := by
      cases hn : nbw w g c i with
      | none => rfl
      | some q => rw [if_neg (encI_9 (nbr_lt64 hc (by omega) (nbw_some hn).1))]; rfl
    rw [e0]
    obtain ⟨z1, z2, e⟩ := ray_m (h := h) (l1 := nI c) (d := i) h1 h2 hw hg (by omega) (fun l2 _ _ => f_m_seenFrom_L_1 (nI c) h k f l2 (nI (i + 1))) 8 1000 (nbw w g c i) acc (by decide) (fun p hp => by
      have := nbr_lt64 hc (by omega) (nbw_some hp).1
      exact ⟨this, rk_lt p this i (by omega)⟩)
    refine Eq.trans e ?_
    show f_m_seenFrom_L_1 (nI c) h k f _ (nI (i + 1)) = _
    rw [ih (i + 1) f _ (by omega) (by omega), ray_acc]
    rfl
theorem raysF_and {r s : Nat → Int64} {cs : Int64} (hr : ∀ i, i < 4 → r i &&& cs = s i) : ∀ (m i : Nat) (a b : Int64), i + m = 4 → a &&& cs = b → raysF r m i a &&& cs = raysF s m i b := by
  intro m
  induction m with
  | zero => intro i a b _ e; exact e
  | succ m ih =>
    intro i a b hi e
    refine ih (i + 1) _ _ (by omega) ?_
    rw [← e, ← hr i (by omega)]
    apply bq_ext; intro j hj
    simp only [bq_and, bq_or]
    cases bq a j <;> cases bq (r i) j <;> cases bq cs j <;> rfl
theorem raysF_or {r : Nat → Int64} : ∀ (m i : Nat) (a b : Int64), raysF r m i (a ||| b) = raysF r m i a ||| b := by
  intro m
  induction m with
  | zero => intro i a b; rfl
  | succ m ih =>
    intro i a b
    simp only [raysF]
    rw [← ih]
    congr 1
    apply bq_ext; intro j hj
    simp only [bq_or]
    cases bq a j <;> cases bq b j <;> cases bq (r i) j <;> rfl
/-! the cells at the corners -/
def dg (c k : Nat) : Option Nat := match k with
  | 0 => if c % 8 < 7 ∧ c < 56 then some (c + 9) else none
  | 1 => if c % 8 < 7 ∧ 8 ≤ c then some (c - 7) else none
  | 2 => if 0 < c % 8 ∧ c < 56 then some (c + 7) else none
  | _ => if 0 < c % 8 ∧ 8 ≤ c then some (c - 9) else none
def dgw (w g c k : Nat) : Option Nat := match dg c k with
  | some q => if inHall w g q then some q else none
  | none => none
theorem dg_lt : ∀ c, c < 64 → ∀ k, k < 4 → (match dg c k with
  | some q => decide (q < 64)
  | none => true) = true := by decide +kernel
theorem dg_lt64 {c k q : Nat} (hc : c < 64) (hk : k < 4) (h : dg c k = some q) : q < 64 := by
  have := dg_lt c hc k hk
  rw [h] at this
  simpa using this
theorem dgx : ∀ x, x < 8 → ∀ k, k < 4 → ∀ w, w < 9 → f_m_in (nI x + (if (2 : Int32) ≤ nI k then (-1 : Int32) else (1 : Int32))) (0 : Int32) (nI w - (1 : Int32)) = bI (if k < 2 then decide (x + 1 < w) else decide (1 ≤ x ∧ x - 1 < w)) := by decide +kernel
theorem dgy : ∀ y, y < 8 → ∀ k, k < 4 → ∀ g, g < 9 → f_m_in (nI y + (if (jrem (nI k) (2 : Int32)) = (0 : Int32) then (1 : Int32) else (-1 : Int32))) (0 : Int32) (nI g - (1 : Int32)) = bI (if k % 2 = 0 then decide (y + 1 < g) else decide (1 ≤ y ∧ y - 1 < g)) := by decide +kernel
theorem dgv : ∀ c, c < 64 → ∀ k, k < 4 → (match dg c k with
  | some q => decide (((8 : Int32) * (nI (c / 8) + (if (jrem (nI k) (2 : Int32)) = (0 : Int32) then (1 : Int32) else (-1 : Int32)))) + (nI (c % 8) + (if (2 : Int32) ≤ nI k then (-1 : Int32) else (1 : Int32))) = nI q)
  | none => true) = true := by decide +kernel
theorem dg_xy : ∀ c, c < 64 → ∀ k, k < 4 → ∀ w, w < 9 → ∀ g, g < 9 → (dgw w g c k).isSome = ((if k < 2 then decide (c % 8 + 1 < w) else decide (1 ≤ c % 8 ∧ c % 8 - 1 < w)) && (if k % 2 = 0 then decide (c / 8 + 1 < g) else decide (1 ≤ c / 8 ∧ c / 8 - 1 < g))) := by decide +kernel
theorem m_diag {w g c k : Nat} (hw : w < 9) (hg : g < 9) (hc : c < 64) (hk : k < 4) : (if (f_m_in (nI (c % 8) + (if (2 : Int32) ≤ nI k then (-1 : Int32) else (1 : Int32))) (0 : Int32) (nI w - (1 : Int32))) = (0 : Int32) then (0 : Int64) else (if (f_m_in (nI (c / 8) + (if (jrem (nI k) (2 : Int32)) = (0 : Int32) then (1 : Int32) else (-1 : Int32))) (0 : Int32) (nI g - (1 : Int32))) = (0 : Int32) then (0 : Int64) else (jshlL (1 : Int64) (((8 : Int32) * (nI (c / 8) + (if (jrem (nI k) (2 : Int32)) = (0 : Int32) then (1 : Int32) else (-1 : Int32)))) + (nI (c % 8) + (if (2 : Int32) ≤ nI k then (-1 : Int32) else (1 : Int32))))))) = encL (dgw w g c k) := by
  rw [dgx (c % 8) (by omega) k hk w hw, dgy (c / 8) (by omega) k hk g hg]
  have e1 := dg_xy c hc k hk w hw g hg
  have e2 := dgv c hc k hk
  generalize (if k < 2 then decide (c % 8 + 1 < w) else decide (1 ≤ c % 8 ∧ c % 8 - 1 < w)) = bx at e1 ⊢
  generalize (if k % 2 = 0 then decide (c / 8 + 1 < g) else decide (1 ≤ c / 8 ∧ c / 8 - 1 < g)) = bY at e1 ⊢
  cases hn : dgw w g c k with
  | none =>
    rw [hn] at e1
    cases bx
    · simp [bI, encL]
    · cases bY
      · simp [bI, encL]
      · simp at e1
  | some q =>
    rw [hn] at e1
    have hq : dg c k = some q := by
      unfold dgw at hn
      split at hn
      · next q' hq' =>
        split at hn
        · cases hn; exact hq'
        · cases hn
      · cases hn
    rw [hq] at e2
    cases bx
    · simp at e1
    · cases bY
      · simp at e1
      · simp only [bI]
        rw [if_neg (by decide), if_neg (by decide)]
        have e2 := of_decide_eq_true e2
        rw [e2]
        rfl
def dAcc (w g c : Nat) (acc : Int64) : Int64 := (((acc ||| encL (dgw w g c 0)) ||| encL (dgw w g c 1)) ||| encL (dgw w g c 2)) ||| encL (dgw w g c 3)
theorem diag_m {h : Hp} {c w g : Nat} (h1 : h.1 39 3 = nI w) (h2 : h.1 39 4 = nI g) (hw : w < 9) (hg : g < 9) (hc : c < 64) (k : Int64 → Int32 → Option Int64) (f : Nat) (acc : Int64) : f_m_seenFrom_L_17 (nI c) h k (f + 5) acc 0 = k (dAcc w g c acc) (nI 4) := by
  have st : ∀ (i fuel : Nat) (acc : Int64), i < 4 → f_m_seenFrom_L_17 (nI c) h k (fuel + 1) acc (nI i) = f_m_seenFrom_L_17 (nI c) h k fuel (acc ||| encL (dgw w g c i)) (nI (i + 1)) := by
    intro i fuel acc hi
    rw [f_m_seenFrom_L_17, if_neg (by rw [leI, tI 4, nI_toInt (by omega)]; omega), h1, h2, jrem8 (by omega), jdiv8 (by omega), m_diag hw hg hc hi, nI_1]
  have e0 := st 0 (f + 4) acc (by decide)
  rw [st 1 (f + 3) _ (by decide), st 2 (f + 2) _ (by decide), st 3 (f + 1) _ (by decide)] at e0
  have e4 : ∀ a : Int64, f_m_seenFrom_L_17 (nI c) h k (f + 1) a (nI (3 + 1)) = k a (nI 4) := fun a => by
    rw [f_m_seenFrom_L_17, if_pos (by decide)]
  exact e0.trans (e4 _)
theorem diag_x : ∀ c, c < 64 → ((one c) ||| (f_x_shifted ((f_x_shifted (one c) (1 : Int32)) ||| (f_x_shifted (one c) (3 : Int32))) (0 : Int32))) ||| (f_x_shifted ((f_x_shifted (one c) (1 : Int32)) ||| (f_x_shifted (one c) (3 : Int32))) (2 : Int32)) = ((((one c) ||| encL (dg c 0)) ||| encL (dg c 1)) ||| encL (dg c 2)) ||| encL (dg c 3) := by decide +kernel
theorem encL_and {w g : Nat} {cs : Int64} (hcs : ∀ c, c < 64 → bq cs c = inHall w g c) {c k : Nat} (hc : c < 64) (hk : k < 4) : encL (dg c k) &&& cs = encL (dgw w g c k) := by
  unfold dgw
  cases hn : dg c k with
  | none => apply bq_ext; intro i hi; simp [encL, bq_and, bq_0]
  | some q =>
    have hq := dg_lt64 hc hk hn
    show one q &&& cs = encL (if inHall w g q then some q else none)
    rw [one_and hq, hcs q hq]
    cases inHall w g q <;> rfl
/-- what both see -/
theorem seen_both {h : Hp} {w g c : Nat} (H : RHl h w g) (hc : cellIn w g c) : ∃ S, f_hall_seenFrom (nI c) h = some S ∧ f_m_seenFrom (nI c) h = some S := by
  obtain ⟨⟨w1, w2, g1, g2⟩, ⟨e1, e2⟩, hcs, ⟨hfr, hff⟩, -⟩ := H
  obtain ⟨c64, cx, cy⟩ := hc
  have hcs' : ∀ c, c < 64 → bq (h.2 2 4) c = inHall w g c := fun c hc => by rw [hcs c hc, inHall_iff]
  have hff' : ∀ c, c < 64 → bq (h.2 39 8) c = true → inHall w g c = true := fun c hc hb => by rw [inHall_iff]; exact decide_eq_true (hff c hc hb)
  refine ⟨dAcc w g c (raysF (fun d => rayN (fun p => nbw w g p d) (h.2 39 8) 8 (nbw w g c d) 0) 4 0 (one c)), ?_, ?_⟩
  rotate_left
  · unfold f_m_seenFrom
    show f_m_seenFrom_L_1 (nI c) h _ 1000 (one c) (nI 0) = _
    rw [rays_m e1 e2 (by omega) (by omega) c64 _ 4 0 1000 (one c) rfl (by decide)]
    show f_m_seenFrom_L_17 (nI c) h _ (995 + 5) _ 0 = _
    rw [diag_m e1 e2 (by omega) (by omega) c64]
  · unfold f_hall_seenFrom
    have ei := diag_x c c64
    show f_hall_seenFrom_L_1 (one c) h _ 1000 (((one c) ||| (f_x_shifted ((f_x_shifted (one c) (1 : Int32)) ||| (f_x_shifted (one c) (3 : Int32))) (0 : Int32))) ||| (f_x_shifted ((f_x_shifted (one c) (1 : Int32)) ||| (f_x_shifted (one c) (3 : Int32))) (2 : Int32))) (nI 0) = _
    rw [ei, rays_x c64 _ 4 0 1000 _ rfl (by decide)]
    congr 1
    have hin : inHall w g c = true := by rw [inHall_iff]; exact decide_eq_true ⟨cx, cy⟩
    have ea : (((((one c) ||| encL (dg c 0)) ||| encL (dg c 1)) ||| encL (dg c 2)) ||| encL (dg c 3)) &&& h.2 2 4 = dAcc w g c (one c) := by
      unfold dAcc
      rw [← encL_and hcs' c64 (k := 0) (by decide), ← encL_and hcs' c64 (k := 1) (by decide), ← encL_and hcs' c64 (k := 2) (by decide), ← encL_and hcs' c64 (k := 3) (by decide)]
      apply bq_ext; intro i hi
      simp only [bq_and, bq_or]
      rw [bq_onec c64 hi]
      by_cases e : i = c
      · subst e; rw [hcs' i hi, hin]; simp
      · simp [e, Bool.and_or_distrib_right]
    have er : ∀ i, i < 4 → rayN (fun p => nbr p i) (h.2 2 5) 7 (nbr c i) 0 &&& h.2 2 4 = rayN (fun p => nbw w g p i) (h.2 39 8) 8 (nbw w g c i) 0 := fun i hi => by
      rw [hfr]
      refine ray_xm hi hcs' hff' 7 8 (nbr c i) (nbw w g c i) (by decide) (fun p hp => ?_) ?_
      · have hp64 := nbr_lt64 c64 hi hp
        have h1 := rk_nbr c c64 i hi
        rw [hp] at h1
        have h1 := of_decide_eq_true h1
        have h2 := rk_lt c c64 i hi
        exact ⟨hp64, by omega⟩
      · unfold nbw
        cases nbr c i <;> rfl
    rw [raysF_and er 4 0 _ _ rfl ea]
    unfold dAcc
    rw [raysF_or, raysF_or, raysF_or, raysF_or]
theorem ok_sees (c : Int32) : Ok1 (f_x_sees c) (f_m_sees c) := by
  rintro h ⟨w, g, np, nc, nl, tk, no, -, H, -⟩
  unfold f_x_sees f_m_sees
  rcases isCell_cases H c with ⟨a, b⟩ | ⟨k, hk, rfl, a, b⟩
  · rw [a, b]; exact ⟨-1, by simp, by simp⟩
  · obtain ⟨S, s1, s2⟩ := seen_both H hk
    rw [a, b, if_neg one_ne, if_neg one_ne, s1, s2]
    exact ⟨S, rfl, rfl⟩
