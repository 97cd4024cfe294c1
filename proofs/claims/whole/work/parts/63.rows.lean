/-! ===== rows of orders: lists ===== -/
def lat (C : Nat → Nat → Nat) (T du : Nat → Nat) (s tm : Nat) : List Nat → Nat
  | [] => 0
  | o :: t => (tm + C s o + T o - du o) + lat C T du (2 + o) (tm + C s o + T o) t
def bitsL : List Nat → Nat
  | [] => 0
  | o :: t => 2 ^ o + bitsL t
def rowL (d : Nat) : List Nat → Nat
  | [] => 0
  | o :: t => (o + 1) * 16 ^ d + rowL (d + 1) t
def vld (no U : Nat) : List Nat → Prop
  | [] => True
  | o :: t => o < no ∧ U.testBit o = false ∧ vld no (U + 2 ^ o) t
def lexL : List Nat → List Nat → Prop
  | a :: s, b :: t => a < b ∨ (a = b ∧ lexL s t)
  | _, _ => False
theorem lexL_asym : ∀ s t, lexL s t → lexL t s → False := by
  intro s
  induction s with
  | nil => intro t h; cases t <;> exact h.elim
  | cons a s ih =>
    intro t h1 h2
    cases t with
    | nil => exact h1.elim
    | cons b t =>
      rcases h1 with h1 | ⟨h1, h3⟩
      · rcases h2 with h2 | ⟨h2, _⟩ <;> omega
      · rcases h2 with h2 | ⟨_, h4⟩
        · omega
        · exact ih t h3 h4
theorem addbit0 : ∀ no, no < 7 → ∀ U, U < 64 → ∀ o, o < 6 → (decide (U < 2 ^ no) && (decide (o < no) && !U.testBit o)) = true → U + 2 ^ o < 2 ^ no := by decide +kernel
theorem addbit (no : Nat) (hn : no < 7) (U : Nat) (hU : U < 64) (h1 : U < 2 ^ no) (o : Nat) (ho : o < 6) (h2 : o < no) (h3 : U.testBit o = false) : U + 2 ^ o < 2 ^ no := addbit0 no hn U hU o ho (by rw [decide_eq_true h1, decide_eq_true h2, h3]; rfl)
theorem addbit2 : ∀ U, U < 64 → ∀ o, o < 6 → U.testBit o = false → ∀ j, j < 6 → (U + 2 ^ o).testBit j = (U.testBit j || decide (j = o)) := by decide +kernel
theorem two64 {no : Nat} (h : no ≤ 6) : 2 ^ no ≤ 64 := (by decide : ∀ no, no < 7 → 2 ^ no ≤ 64) no (by omega)
theorem vld_lt {no : Nat} (hn : no ≤ 6) : ∀ t U, U < 2 ^ no → vld no U t → U + bitsL t < 2 ^ no := by
  intro t
  have h64 := two64 hn
  induction t with
  | nil => intro U h _; simpa [bitsL] using h
  | cons o t ih =>
    rintro U h ⟨h1, h2, h3⟩
    have := ih (U + 2 ^ o) (addbit no (by omega) U (by omega) h o (by omega) h1 h2) h3
    rw [bitsL]; omega
theorem vld_bit {no : Nat} (hn : no ≤ 6) : ∀ t U, U < 2 ^ no → vld no U t → ∀ j, j < 6 → ((U + bitsL t).testBit j = true ↔ U.testBit j = true ∨ j ∈ t) := by
  intro t
  have h64 := two64 hn
  induction t with
  | nil => intro U h _ j hj; simp [bitsL]
  | cons o t ih =>
    rintro U h ⟨h1, h2, h3⟩ j hj
    have := ih (U + 2 ^ o) (addbit no (by omega) U (by omega) h o (by omega) h1 h2) h3 j hj
    rw [bitsL, ← Nat.add_assoc, this, addbit2 U (by omega) o (by omega) h2 j hj, Bool.or_eq_true, decide_eq_true_eq, List.mem_cons]
    constructor
    · rintro ((a | a) | a)
      · exact Or.inl a
      · exact Or.inr (Or.inl a)
      · exact Or.inr (Or.inr a)
    · rintro (a | a | a)
      · exact Or.inl (Or.inl a)
      · exact Or.inl (Or.inr a)
      · exact Or.inr a
theorem vld_mem {no : Nat} : ∀ t U, vld no U t → ∀ j, j ∈ t → j < no := by
  intro t
  induction t with
  | nil => intro U _ j h; cases h
  | cons o t ih =>
    rintro U ⟨h1, h2, h3⟩ j hj
    rcases List.mem_cons.mp hj with e | e
    · rw [e]; exact h1
    · exact ih _ h3 j e
def del : List Nat → Nat → List Nat
  | [], _ => []
  | _ :: l, 0 => l
  | a :: l, i + 1 => a :: del l i
def nth : List Nat → Nat → Nat
  | [], _ => 0
  | a :: _, 0 => a
  | _ :: l, i + 1 => nth l i
def srt : List Nat → Prop
  | [] => True
  | a :: l => (∀ x, x ∈ l → a < x) ∧ srt l
theorem nth_mem : ∀ l i, i < l.length → nth l i ∈ l := by
  intro l
  induction l with
  | nil => intro i h; exact absurd h (by simp)
  | cons a l ih =>
    intro i h
    cases i with
    | zero => exact List.mem_cons_self
    | succ i => exact List.mem_cons_of_mem _ (ih i (by simpa using h))
theorem mem_nth : ∀ l x, x ∈ l → ∃ i, i < l.length ∧ nth l i = x := by
  intro l
  induction l with
  | nil => intro x h; cases h
  | cons a l ih =>
    intro x h
    rcases List.mem_cons.mp h with e | e
    · exact ⟨0, by simp, e.symm⟩
    · obtain ⟨i, h1, h2⟩ := ih x e
      exact ⟨i + 1, by simpa using h1, h2⟩
theorem del_len : ∀ l i, i < l.length → (del l i).length + 1 = l.length := by
  intro l
  induction l with
  | nil => intro i h; exact absurd h (by simp)
  | cons a l ih =>
    intro i h
    cases i with
    | zero => rfl
    | succ i =>
      have := ih i (by simpa using h)
      simp only [del, List.length_cons]; omega
theorem del_sub : ∀ l i x, x ∈ del l i → x ∈ l := by
  intro l
  induction l with
  | nil => intro i x h; cases h
  | cons a l ih =>
    intro i x h
    cases i with
    | zero => exact List.mem_cons_of_mem _ h
    | succ i =>
      rcases List.mem_cons.mp h with e | e
      · rw [e]; exact List.mem_cons_self
      · exact List.mem_cons_of_mem _ (ih i x e)
theorem del_srt : ∀ l i, srt l → srt (del l i) := by
  intro l
  induction l with
  | nil => intro i _; exact trivial
  | cons a l ih =>
    rintro i ⟨h1, h2⟩
    cases i with
    | zero => exact h2
    | succ i => exact ⟨fun x hx => h1 x (del_sub l i x hx), ih i h2⟩
theorem del_mem : ∀ l i, srt l → i < l.length → ∀ x, (x ∈ del l i ↔ x ∈ l ∧ x ≠ nth l i) := by
  intro l
  induction l with
  | nil => intro i _ h; exact absurd h (by simp)
  | cons a l ih =>
    rintro i ⟨h1, h2⟩ hi x
    cases i with
    | zero =>
      show x ∈ l ↔ x ∈ a :: l ∧ x ≠ a
      constructor
      · intro h
        exact ⟨List.mem_cons_of_mem _ h, by have := h1 x h; omega⟩
      · rintro ⟨h, h3⟩
        rcases List.mem_cons.mp h with e | e
        · exact absurd e h3
        · exact e
    | succ i =>
      have hi' : i < l.length := by simpa using hi
      have := ih i h2 hi' x
      show x ∈ a :: del l i ↔ x ∈ a :: l ∧ x ≠ nth l i
      rw [List.mem_cons, List.mem_cons, this]
      have h4 := h1 _ (nth_mem l i hi')
      constructor
      · rintro (e | ⟨e1, e2⟩)
        · exact ⟨Or.inl e, by omega⟩
        · exact ⟨Or.inr e1, e2⟩
      · rintro ⟨e | e, h5⟩
        · exact Or.inl e
        · exact Or.inr ⟨e, h5⟩
theorem nth_lt : ∀ l i j, srt l → i < j → j < l.length → nth l i < nth l j := by
  intro l
  induction l with
  | nil => intro i j _ _ h; exact absurd h (by simp)
  | cons a l ih =>
    rintro i j ⟨h1, h2⟩ hij hj
    cases j with
    | zero => omega
    | succ j =>
      have hj' : j < l.length := by simpa using hj
      cases i with
      | zero => exact h1 _ (nth_mem l j hj')
      | succ i => exact ih i j h2 (by omega) hj'
theorem del_bits : ∀ l i, i < l.length → 2 ^ nth l i + bitsL (del l i) = bitsL l := by
  intro l
  induction l with
  | nil => intro i h; exact absurd h (by simp)
  | cons a l ih =>
    intro i hi
    cases i with
    | zero => rfl
    | succ i =>
      have := ih i (by simpa using hi)
      simp only [del, nth, bitsL]
      omega
def fac : Nat → Nat
  | 0 => 1
  | n + 1 => (n + 1) * fac n
theorem fac_pos : ∀ n, 0 < fac n := by
  intro n
  induction n with
  | zero => decide
  | succ n ih => exact Nat.mul_pos (by omega) ih
def pm : Nat → List Nat → Nat → List Nat
  | 0, _, _ => []
  | n + 1, l, code => nth l (code / fac n) :: pm n (del l (code / fac n)) (code % fac n)
theorem pm_ix {n code : Nat} (h : code < fac (n + 1)) : code / fac n < n + 1 := by
  rw [Nat.div_lt_iff_lt_mul (fac_pos n)]; exact h
theorem pm_len : ∀ n l code, (pm n l code).length = n := by
  intro n
  induction n with
  | zero => intro l code; rfl
  | succ n ih => intro l code; rw [pm, List.length_cons, ih]
theorem pm_vld {no : Nat} (hn : no ≤ 6) : ∀ n l code U, l.length = n → srt l → code < fac n → U < 2 ^ no → (∀ x, x ∈ l → x < no ∧ U.testBit x = false) → vld no U (pm n l code) ∧ bitsL (pm n l code) = bitsL l := by
  have h64 := two64 hn
  intro n
  induction n with
  | zero =>
    intro l code U hl _ _ _ _
    cases l with
    | nil => exact ⟨trivial, rfl⟩
    | cons a l => simp at hl
  | succ n ih =>
    intro l code U hl hs hc hU hm
    have hi := pm_ix hc
    have him := hm _ (nth_mem l (code / fac n) (by omega))
    have hlen := del_len l (code / fac n) (by omega)
    have := ih (del l (code / fac n)) (code % fac n) (U + 2 ^ nth l (code / fac n)) (by omega) (del_srt l _ hs) (Nat.mod_lt _ (fac_pos n)) (addbit no (by omega) U (by omega) hU _ (by omega) him.1 him.2) (fun x hx => by
      obtain ⟨x1, x2⟩ := (del_mem l _ hs (by omega) x).mp hx
      obtain ⟨y1, y2⟩ := hm x x1
      refine ⟨y1, ?_⟩
      rw [addbit2 U (by omega) _ (by omega) him.2 x (by omega), y2, decide_eq_false x2]; rfl)
    refine ⟨⟨him.1, him.2, this.1⟩, ?_⟩
    rw [pm, bitsL, this.2]
    exact del_bits l _ (by omega)
theorem pm_lex : ∀ n l c1 c2, l.length = n → srt l → c1 < c2 → c2 < fac n → lexL (pm n l c1) (pm n l c2) := by
  intro n
  induction n with
  | zero => intro l c1 c2 _ _ h1 h2; have : fac 0 = 1 := rfl
            omega
  | succ n ih =>
    intro l c1 c2 hl hs h1 h2
    have hi2 := pm_ix h2
    have hle : c1 / fac n ≤ c2 / fac n := Nat.div_le_div_right (by omega)
    rw [pm, pm]
    by_cases e : c1 / fac n = c2 / fac n
    · right
      rw [e]
      refine ⟨rfl, ih _ _ _ (by have := del_len l (c2 / fac n) (by omega); omega) (del_srt l _ hs) ?_ (Nat.mod_lt _ (fac_pos n))⟩
      have a1 := Nat.div_add_mod c1 (fac n)
      have a2 := Nat.div_add_mod c2 (fac n)
      rw [e] at a1
      omega
    · left
      exact nth_lt l _ _ hs (by omega) (by omega)
/-- every row of a set is told by a number -/
theorem pm_surj {no : Nat} (hn : no ≤ 6) : ∀ t U l, U < 2 ^ no → vld no U t → srt l → (∀ x, x < 6 → (x ∈ l ↔ (U + bitsL t).testBit x = true ∧ U.testBit x = false)) → (∀ x, x ∈ l → x < 6) → ∃ code, code < fac l.length ∧ pm l.length l code = t := by
  have h64 := two64 hn
  intro t
  induction t with
  | nil =>
    intro U l hU _ hs hm hb
    cases l with
    | nil => exact ⟨0, by decide, rfl⟩
    | cons a l =>
      have a6 := hb a List.mem_cons_self
      have := (hm a a6).mp List.mem_cons_self
      rw [bitsL, Nat.add_zero, this.2] at this
      exact absurd this.1 (by decide)
  | cons o t ih =>
    rintro U l hU ⟨h1, h2, h3⟩ hs hm hb
    have hU' := addbit no (by omega) U (by omega) hU o (by omega) h1 h2
    have e0 : U + bitsL (o :: t) = U + 2 ^ o + bitsL t := by rw [bitsL, Nat.add_assoc]
    have ob : (U + bitsL (o :: t)).testBit o = true := by
      rw [e0, vld_bit hn t _ hU' h3 o (by omega)]
      left
      rw [addbit2 U (by omega) o (by omega) h2 o (by omega)]; simp
    obtain ⟨i, hi, he⟩ := mem_nth l o ((hm o (by omega)).mpr ⟨ob, h2⟩)
    have hlen := del_len l i hi
    obtain ⟨code, c1, c2⟩ := ih (U + 2 ^ o) (del l i) hU' h3 (del_srt l i hs) (fun x hx => by
      rw [del_mem l i hs hi x, hm x hx, he, e0, addbit2 U (by omega) o (by omega) h2 x hx]
      constructor
      · rintro ⟨⟨a, b⟩, c⟩
        exact ⟨a, by rw [b, decide_eq_false c]; rfl⟩
      · rintro ⟨a, b⟩
        rw [Bool.or_eq_false_iff] at b
        exact ⟨⟨a, b.1⟩, of_decide_eq_false b.2⟩) (fun x hx => hb x (del_sub l i x hx))
    obtain ⟨n, hn'⟩ : ∃ n, l.length = n + 1 := ⟨l.length - 1, by omega⟩
    have hd : (del l i).length = n := by omega
    rw [hd] at c1 c2
    have hf := fac_pos n
    have d1 : (i * fac n + code) / fac n = i := by
      rw [Nat.mul_comm, Nat.mul_add_div hf, Nat.div_eq_of_lt c1, Nat.add_zero]
    have d2 : (i * fac n + code) % fac n = code := by
      rw [Nat.mul_comm, Nat.mul_add_mod, Nat.mod_eq_of_lt c1]
    refine ⟨i * fac n + code, ?_, ?_⟩
    · rw [hn']
      show _ < (n + 1) * fac n
      have : (i + 1) * fac n ≤ (n + 1) * fac n := Nat.mul_le_mul_right _ (by omega)
      rw [Nat.add_mul, Nat.one_mul] at this
      omega
    · rw [hn', pm, d1, d2, he, c2]
def els (S : Nat) : Nat → List Nat
  | 0 => []
  | n + 1 => if S.testBit n then els S n ++ [n] else els S n
theorem els_mem (S : Nat) : ∀ n x, (x ∈ els S n ↔ x < n ∧ S.testBit x = true) := by
  intro n
  induction n with
  | zero => intro x; simp [els]
  | succ n ih =>
    intro x
    rw [els]
    cases hb : S.testBit n with
    | true =>
      rw [if_pos rfl, List.mem_append, ih, List.mem_singleton]
      constructor
      · rintro (⟨a, b⟩ | a)
        · exact ⟨by omega, b⟩
        · subst a; exact ⟨by omega, hb⟩
      · rintro ⟨a, b⟩
        by_cases e : x = n
        · exact Or.inr e
        · exact Or.inl ⟨by omega, b⟩
    | false =>
      rw [if_neg (by decide), ih]
      constructor
      · rintro ⟨a, b⟩; exact ⟨by omega, b⟩
      · rintro ⟨a, b⟩
        have : x ≠ n := fun e => by subst e; rw [hb] at b; cases b
        exact ⟨by omega, b⟩
theorem srt_app : ∀ l n, srt l → (∀ x, x ∈ l → x < n) → srt (l ++ [n]) := by
  intro l
  induction l with
  | nil => intro n _ _; exact ⟨fun x h => absurd h (by simp), trivial⟩
  | cons a l ih =>
    rintro n ⟨h1, h2⟩ h3
    refine ⟨fun x hx => ?_, ih n h2 (fun x hx => h3 x (List.mem_cons_of_mem _ hx))⟩
    rcases List.mem_append.mp hx with e | e
    · exact h1 x e
    · rw [List.mem_singleton.mp e]; exact h3 a List.mem_cons_self
theorem els_srt (S : Nat) : ∀ n, srt (els S n) := by
  intro n
  induction n with
  | zero => exact trivial
  | succ n ih =>
    rw [els]
    split
    · exact srt_app _ _ ih (fun x hx => ((els_mem S n x).mp hx).1)
    · exact ih
theorem els_bits0 : ∀ no, no < 7 → ∀ S, S < 64 → decide (S < 2 ^ no) = true → bitsL (els S no) = S := by decide +kernel
theorem els_bits (no : Nat) (hn : no < 7) (S : Nat) (hS : S < 64) (h : S < 2 ^ no) : bitsL (els S no) = S := els_bits0 no hn S hS (decide_eq_true h)
theorem els_len : ∀ S n, (els S n).length ≤ n := by
  intro S n
  induction n with
  | zero => exact Nat.le_refl _
  | succ n ih =>
    rw [els]
    split
    · rw [List.length_append, List.length_singleton]; omega
    · omega
/-- the first of the least -/
def fm (f : Nat → Nat) : Nat → Nat
  | 0 => 0
  | n + 1 => if f n < f (fm f n) then n else fm f n
theorem fm_spec (f : Nat → Nat) : ∀ n, 0 < n → fm f n < n ∧ (∀ i, i < n → f (fm f n) ≤ f i) ∧ ∀ i, i < fm f n → f (fm f n) < f i := by
  intro n
  induction n with
  | zero => intro h; omega
  | succ n ih =>
    intro _
    rw [fm]
    by_cases e : n = 0
    · subst e
      have : fm f 0 = 0 := rfl
      rw [this, if_neg (Nat.lt_irrefl _)]
      exact ⟨by omega, fun i hi => by have : i = 0 := by omega
                                      subst this; exact Nat.le_refl _, fun i hi => by omega⟩
    · obtain ⟨h1, h2, h3⟩ := ih (by omega)
      by_cases c : f n < f (fm f n)
      · rw [if_pos c]
        refine ⟨by omega, fun i hi => ?_, fun i hi => ?_⟩
        · by_cases q : i = n
          · subst q; exact Nat.le_refl _
          · have := h2 i (by omega); omega
        · have := h2 i hi; omega
      · rw [if_neg c]
        refine ⟨by omega, fun i hi => ?_, h3⟩
        by_cases q : i = n
        · subst q; omega
        · exact h2 i (by omega)
def bestT (C : Nat → Nat → Nat) (T du : Nat → Nat) (tk no k S : Nat) : List Nat := pm (els S no).length (els S no) (fm (fun code => lat C T du k tk (pm (els S no).length (els S no) code)) (fac (els S no).length))
def Lm (C : Nat → Nat → Nat) (T du : Nat → Nat) (tk no k S : Nat) : Nat := lat C T du k tk (bestT C T du tk no k S)
theorem best_spec (C : Nat → Nat → Nat) (T du : Nat → Nat) (tk : Nat) {no : Nat} (hn : no ≤ 6) (k : Nat) {S : Nat} (hS : S < 2 ^ no) : vld no 0 (bestT C T du tk no k S) ∧ bitsL (bestT C T du tk no k S) = S ∧ ∀ t, vld no 0 t → bitsL t = S → Lm C T du tk no k S ≤ lat C T du k tk t ∧ (lexL t (bestT C T du tk no k S) → Lm C T du tk no k S < lat C T du k tk t) := by
  have h64 := two64 hn
  have hb := els_bits no (by omega) S (by omega) hS
  have hs := els_srt S no
  have h0 : 0 < 2 ^ no := by omega
  obtain ⟨f1, f2, f3⟩ := fm_spec (fun code => lat C T du k tk (pm (els S no).length (els S no) code)) (fac (els S no).length) (fac_pos _)
  have hz : ∀ x, (0 : Nat).testBit x = false := fun x => Nat.zero_testBit x
  obtain ⟨v1, v2⟩ := pm_vld hn (els S no).length (els S no) _ 0 rfl hs f1 h0 (fun x hx => ⟨((els_mem S no x).mp hx).1, hz x⟩)
  refine ⟨v1, v2.trans hb, fun t ht hbt => ?_⟩
  obtain ⟨code, c1, c2⟩ := pm_surj hn t 0 (els S no) h0 ht hs (fun x hx => by
    rw [els_mem, hbt, Nat.zero_add]
    constructor
    · rintro ⟨a, b⟩; exact ⟨b, hz x⟩
    · rintro ⟨a, _⟩
      have hx2 := (vld_bit hn t 0 h0 ht x hx).mp (by rw [Nat.zero_add, hbt]; exact a)
      rcases hx2 with q | q
      · rw [hz] at q; cases q
      · exact ⟨vld_mem t 0 ht x q, a⟩) (fun x hx => by have := ((els_mem S no x).mp hx).1; omega)
  have g := f2 code c1
  simp only [c2] at g
  refine ⟨g, fun hl => ?_⟩
  unfold Lm bestT at *
  rcases Nat.lt_trichotomy code (fm (fun code => lat C T du k tk (pm (els S no).length (els S no) code)) (fac (els S no).length)) with q | q | q
  · have := f3 code q
    simp only [c2] at this
    exact this
  · rw [← q, c2] at hl
    exact (lexL_asym _ _ hl hl).elim
  · have := pm_lex _ (els S no) _ _ rfl hs q c1
    rw [c2] at this
    exact (lexL_asym _ _ this hl).elim
