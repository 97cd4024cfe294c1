/-! ===== the soonest way: forward by first moves, and back from the goal ===== -/
def Rr (E : Nat → Int64) (s : Nat) : Nat → Int64
  | 0 => one s
  | t + 1 => f_x_widened (Rr E s t) (E (t + 1))
def Ld (E : Nat → Int64) (s f : Nat) : Nat → Int64
  | 0 => if f = 4 then one s else f_x_shifted (one s) (nI f) &&& E 1
  | t + 1 => f_x_widened (Ld E s f t) (E (t + 2))
def Bd (fr : Int64) (E : Nat → Int64) (T c : Nat) : Nat → Int64
  | 0 => one c
  | j + 1 => Bd fr E T c j ||| SP fr (Bd fr E T c j &&& E (T - j))
theorem nbB_iff (S : Int64) {q : Nat} (hq : q < 64) : nbB S q = true ↔ ∃ d c, d < 4 ∧ c < 64 ∧ nbr c d = some q ∧ bq S c = true := by
  unfold nbB
  simp only [Bool.or_eq_true]
  have key : ∀ d, d < 4 → (ob S (nbr q d) = true ↔ ∃ c, c < 64 ∧ nbr c (opp d) = some q ∧ bq S c = true) := by
    intro d hd
    have od : opp d < 4 := by match d, hd with
      | 0, _ => decide
      | 1, _ => decide
      | 2, _ => decide
      | 3, _ => decide
    constructor
    · intro h
      cases hn : nbr q d with
      | none => rw [hn] at h; cases h
      | some c =>
        rw [hn] at h
        have hc := nbr_lt64 hq hd hn
        exact ⟨c, hc, (opp_iff q hq d hd c hc).mp hn, h⟩
    · rintro ⟨c, hc, h1, h2⟩
      rw [(opp_iff q hq d hd c hc).mpr h1]; exact h2
  rw [key 0 (by decide), key 1 (by decide), key 2 (by decide), key 3 (by decide)]
  constructor
  · rintro (((⟨c, a, b, e⟩ | ⟨c, a, b, e⟩) | ⟨c, a, b, e⟩) | ⟨c, a, b, e⟩)
    · exact ⟨2, c, by decide, a, b, e⟩
    · exact ⟨3, c, by decide, a, b, e⟩
    · exact ⟨0, c, by decide, a, b, e⟩
    · exact ⟨1, c, by decide, a, b, e⟩
  · rintro ⟨d, c, hd, a, b, e⟩
    match d, hd with
    | 0, _ => exact Or.inl (Or.inr ⟨c, a, b, e⟩)
    | 1, _ => exact Or.inr ⟨c, a, b, e⟩
    | 2, _ => exact Or.inl (Or.inl (Or.inl ⟨c, a, b, e⟩))
    | 3, _ => exact Or.inl (Or.inl (Or.inr ⟨c, a, b, e⟩))
theorem wid_or (S T E : Int64) : f_x_widened (S ||| T) E = f_x_widened S E ||| f_x_widened T E := by
  apply bq_ext
  intro q hq
  rw [bq_or, wid_bit _ _ hq, wid_bit _ _ hq, wid_bit _ _ hq, bq_or, nbB_or]
  cases bq S q <;> cases bq T q <;> cases nbB S q <;> cases nbB T q <;> cases bq E q <;> rfl
theorem orF_wid (f : Nat → Int64) (E : Int64) : ∀ n, f_x_widened (orF f n) E = orF (fun i => f_x_widened (f i) E) n := by
  intro n
  induction n with
  | zero =>
    apply bq_ext; intro q hq
    show bq (f_x_widened 0 E) q = bq 0 q
    rw [wid_bit _ _ hq, nbB_0, bq_0]; rfl
  | succ n ih => rw [orF, wid_or, ih]; rfl
/-- all rows of moves, parted by their first -/
theorem R_L (E : Nat → Int64) {s : Nat} (hs : s < 64) : ∀ t, Rr E s (t + 1) = orF (fun f => Ld E s f t) 5 := by
  intro t
  induction t with
  | zero =>
    apply bq_ext; intro q hq
    show bq (f_x_widened (one s) (E 1)) q = bq (((((0 ||| (f_x_shifted (one s) (nI 0) &&& E 1)) ||| (f_x_shifted (one s) (nI 1) &&& E 1)) ||| (f_x_shifted (one s) (nI 2) &&& E 1)) ||| (f_x_shifted (one s) (nI 3) &&& E 1)) ||| one s) q
    rw [wid_bit _ _ hq, or_0l, bq_or, bq_or, bq_or, bq_or, bq_and, bq_and, bq_and, bq_and, sh_ob _ (by decide) hq, sh_ob _ (by decide) hq, sh_ob _ (by decide) hq, sh_ob _ (by decide) hq]
    unfold nbB
    show _ = ((((ob (one s) (nbr q 2) && bq (E 1) q || ob (one s) (nbr q 3) && bq (E 1) q) || ob (one s) (nbr q 0) && bq (E 1) q) || ob (one s) (nbr q 1) && bq (E 1) q) || bq (one s) q)
    cases ob (one s) (nbr q 0) <;> cases ob (one s) (nbr q 1) <;> cases ob (one s) (nbr q 2) <;> cases ob (one s) (nbr q 3) <;> cases bq (E 1) q <;> cases bq (one s) q <;> rfl
  | succ t ih =>
    show f_x_widened (Rr E s (t + 1)) (E (t + 2)) = _
    rw [ih, orF_wid]; rfl
theorem Ld_sub {E : Nat → Int64} {fr : Int64} (hE : ∀ t, sub (E t) fr) {s f : Nat} (hf : f ≠ 4) : ∀ t, sub (Ld E s f t) fr := by
  intro t
  induction t with
  | zero =>
    intro q hq e
    unfold Ld at e
    rw [if_neg hf, bq_and, Bool.and_eq_true] at e
    exact hE 1 q hq e.2
  | succ t ih =>
    intro q hq e
    have e : bq (f_x_widened (Ld E s f t) (E (t + 2))) q = true := e
    rw [wid_bit _ _ hq, Bool.or_eq_true, Bool.and_eq_true] at e
    rcases e with e | e
    · exact ih q hq e
    · exact hE _ q hq e.2
def meet (S B : Int64) : Prop := ∃ q, q < 64 ∧ bq S q = true ∧ bq B q = true
theorem dual {fr S B E : Int64} (hS : sub S fr) : meet (f_x_widened S E) B ↔ meet S (B ||| SP fr (B &&& E)) := by
  constructor
  · rintro ⟨q, hq, h1, h2⟩
    rw [wid_bit _ _ hq, Bool.or_eq_true, Bool.and_eq_true] at h1
    rcases h1 with h1 | ⟨h1, h3⟩
    · exact ⟨q, hq, h1, by rw [bq_or, h2]; rfl⟩
    · obtain ⟨d, c, hd, hc, hn, hb⟩ := (nbB_iff S hq).mp h1
      refine ⟨c, hc, hb, ?_⟩
      rw [bq_or, Bool.or_eq_true]
      right
      rw [SP_bit _ _ hc, hS c hc hb, Bool.and_true, Bool.or_eq_true]
      right
      have od : opp d < 4 := by match d, hd with
        | 0, _ => decide
        | 1, _ => decide
        | 2, _ => decide
        | 3, _ => decide
      refine (nbB_iff _ hc).mpr ⟨opp d, q, od, hq, ?_, by rw [bq_and, h2, h3]; rfl⟩
      exact (opp_iff c hc d hd q hq).mp hn
  · rintro ⟨c, hc, h1, h2⟩
    rw [bq_or, Bool.or_eq_true] at h2
    rcases h2 with h2 | h2
    · exact ⟨c, hc, by rw [wid_bit _ _ hc, h1]; rfl, h2⟩
    · rw [SP_bit _ _ hc, Bool.and_eq_true, Bool.or_eq_true] at h2
      rcases h2.1 with h3 | h3
      · rw [bq_and, Bool.and_eq_true] at h3
        exact ⟨c, hc, by rw [wid_bit _ _ hc, h1]; rfl, h3.1⟩
      · obtain ⟨d, q, hd, hq, hn, hb⟩ := (nbB_iff _ hc).mp h3
        rw [bq_and, Bool.and_eq_true] at hb
        have od : opp d < 4 := by match d, hd with
          | 0, _ => decide
          | 1, _ => decide
          | 2, _ => decide
          | 3, _ => decide
        refine ⟨q, hq, ?_, hb.1⟩
        rw [wid_bit _ _ hq, Bool.or_eq_true, Bool.and_eq_true]
        exact Or.inr ⟨(nbB_iff S hq).mpr ⟨opp d, c, od, hc, (opp_iff q hq d hd c hc).mp hn, h1⟩, hb.2⟩
theorem meet_one {S : Int64} {c : Nat} (hc : c < 64) : meet S (one c) ↔ bq S c = true := by
  constructor
  · rintro ⟨q, hq, h1, h2⟩
    rw [bq_onec hc hq, decide_eq_true_eq] at h2
    rw [← h2]; exact h1
  · intro h
    exact ⟨c, hc, h, by rw [bq_onec hc hc]; simp⟩
theorem Ld_back {E : Nat → Int64} {fr : Int64} (hE : ∀ t, sub (E t) fr) {s f c T : Nat} (hf : f ≠ 4) (hc : c < 64) : ∀ j, j < T → (bq (Ld E s f (T - 1)) c = true ↔ meet (Ld E s f (T - 1 - j)) (Bd fr E T c j)) := by
  intro j
  induction j with
  | zero => intro _; exact (meet_one hc).symm
  | succ j ih =>
    intro hj
    rw [ih (by omega)]
    obtain ⟨t, ht⟩ : ∃ t, T - 1 - j = t + 1 := ⟨T - 1 - j - 1, by omega⟩
    have e2 : T - 1 - (j + 1) = t := by omega
    have e3 : T - j = t + 2 := by omega
    rw [ht, e2]
    show meet (f_x_widened (Ld E s f t) (E (t + 2))) _ ↔ meet _ (Bd fr E T c j ||| SP fr (Bd fr E T c j &&& E (T - j)))
    rw [e3]
    exact dual (Ld_sub hE hf t)
/-- the first move by both -/
theorem first_eq {E : Nat → Int64} {fr : Int64} (hE : ∀ t, sub (E t) fr) {s f c T : Nat} (hs : s < 64) (hf : f < 4) (hc : c < 64) (hT : 1 ≤ T) : bq (Ld E s f (T - 1)) c = true ↔ ∃ o, nbr s f = some o ∧ bq (Bd fr E T c (T - 1) &&& E 1) o = true := by
  rw [Ld_back hE (by omega) hc (T - 1) (by omega)]
  have e : T - 1 - (T - 1) = 0 := by omega
  rw [e]
  have e0 : Ld E s f 0 = encL (nbr s f) &&& E 1 := by
    show (if f = 4 then one s else f_x_shifted (one s) (nI f) &&& E 1) = _
    rw [if_neg (by omega), shifted_one hs hf]
  rw [e0]
  constructor
  · rintro ⟨q, hq, h1, h2⟩
    rw [bq_and, Bool.and_eq_true] at h1
    cases hn : nbr s f with
    | none => rw [hn] at h1; have := h1.1; simp [encL, bq_0] at this
    | some o =>
      rw [hn] at h1
      have ho := nbr_lt64 hs hf hn
      have h3 : bq (one o) q = true := h1.1
      rw [bq_onec ho hq, decide_eq_true_eq] at h3
      subst h3
      exact ⟨q, rfl, by rw [bq_and, h2, h1.2]; rfl⟩
  · rintro ⟨o, hn, h1⟩
    have ho := nbr_lt64 hs hf hn
    rw [bq_and, Bool.and_eq_true] at h1
    refine ⟨o, ho, ?_, h1.1⟩
    rw [hn, bq_and, h1.2, Bool.and_true]
    show bq (one o) o = true
    rw [bq_onec ho ho]; simp
