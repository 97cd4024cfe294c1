/-! ===== distances ===== -/
def RR (fr : Int64) (a n : Nat) : Int64 := it (SP fr) n (one a)
theorem RR_s (fr : Int64) (a n : Nat) : RR fr a (n + 1) = SP fr (RR fr a n) := rfl
theorem sub_or {S T : Int64} (h : sub S T) : S ||| T = T := by
  apply bq_ext
  intro i hi
  rw [bq_or]
  cases hb : bq S i with
  | false => rfl
  | true => rw [h i hi hb]; rfl
theorem SP_mono (fr : Int64) {S T : Int64} (h : sub S T) : sub (SP fr S) (SP fr T) := by
  intro i hi e
  have := SP_or fr S T
  rw [sub_or h] at this
  rw [this, bq_or, e]; rfl
theorem one_sub {fr : Int64} {a : Nat} (ha : a < 64) (hf : bq fr a = true) : sub (one a) fr := by
  intro i hi e
  rw [bq_onec ha hi] at e
  have := of_decide_eq_true e
  subst this; exact hf
theorem RR_sub {fr : Int64} {a : Nat} (ha : a < 64) (hf : bq fr a = true) : ∀ n, sub (RR fr a n) fr := by
  intro n
  cases n with
  | zero => exact one_sub ha hf
  | succ n => exact SP_sub fr _
theorem SP_ext {fr S : Int64} (h : sub S fr) : sub S (SP fr S) := by
  intro i hi e
  rw [SP_bit fr S hi, e, h i hi e]; rfl
theorem RR_mono {fr : Int64} {a : Nat} (ha : a < 64) (hf : bq fr a = true) {m n : Nat} (h : m ≤ n) : sub (RR fr a m) (RR fr a n) := by
  induction n with
  | zero =>
    have : m = 0 := by omega
    subst this; exact fun i _ e => e
  | succ n ih =>
    by_cases e : m = n + 1
    · subst e; exact fun i _ e => e
    · intro i hi b
      exact SP_ext (RR_sub ha hf n) i hi (ih (by omega) i hi b)
theorem RR_stab {fr : Int64} {a n : Nat} (h : RR fr a (n + 1) = RR fr a n) : ∀ m, n ≤ m → RR fr a m = RR fr a n := by
  intro m
  induction m with
  | zero => intro hm; have : n = 0 := by omega
            subst this; rfl
  | succ m ih =>
    intro hm
    by_cases e : n = m + 1
    · subst e; rfl
    · rw [RR_s, ih (by omega)]; exact h
theorem cnt_mono {P Q : Nat → Bool} : ∀ n, (∀ i, i < n → P i = true → Q i = true) → cnt P n ≤ cnt Q n := by
  intro n
  induction n with
  | zero => intro _; exact Nat.le_refl _
  | succ n ih =>
    intro h
    have h1 := ih (fun i hi => h i (by omega))
    rw [cnt, cnt]
    cases hp : P n with
    | false => simp; omega
    | true => rw [h n (by omega) hp]; simp; exact h1
theorem cnt_less {P Q : Nat → Bool} : ∀ n, (∀ i, i < n → P i = true → Q i = true) → (∃ i, i < n ∧ P i = false ∧ Q i = true) → cnt P n < cnt Q n := by
  intro n
  induction n with
  | zero => rintro _ ⟨i, hi, _⟩; omega
  | succ n ih =>
    rintro h ⟨i, hi, e1, e2⟩
    rw [cnt, cnt]
    by_cases e : i = n
    · subst e
      have := cnt_mono i (fun j hj => h j (by omega))
      rw [e1, e2]; simp; omega
    · have := ih (fun j hj => h j (by omega)) ⟨i, by omega, e1, e2⟩
      cases hp : P n with
      | false => simp; omega
      | true => rw [h n (by omega) hp]; simp; exact this
theorem cnt_sub {S T : Int64} (h : sub S T) (hne : S ≠ T) : cnt (bq S) 64 < cnt (bq T) 64 := by
  refine cnt_less 64 (fun i hi => h i hi) ?_
  cases hx : exB (fun i => !bq S i && bq T i) 64 with
  | true =>
    obtain ⟨i, hi, e⟩ := (exB_iff _ 64).mp hx
    refine ⟨i, hi, ?_⟩
    cases h1 : bq S i <;> cases h2 : bq T i <;> rw [h1, h2] at e <;> simp at e ⊢
  | false =>
    exfalso
    apply hne
    apply bq_ext
    intro i hi
    cases h1 : bq S i with
    | true => rw [h i hi h1]
    | false =>
      cases h2 : bq T i with
      | false => rfl
      | true => exact absurd ((exB_iff (fun i => !bq S i && bq T i) 64).mpr ⟨i, hi, by simp [h1, h2]⟩) (by rw [hx]; decide)
theorem RR_grow {fr : Int64} {a : Nat} (ha : a < 64) (hf : bq fr a = true) : ∀ n, (∀ m, m < n → RR fr a (m + 1) ≠ RR fr a m) → n ≤ cnt (bq (RR fr a n)) 64 := by
  intro n
  induction n with
  | zero => intro _; omega
  | succ n ih =>
    intro h
    have h1 := ih (fun m hm => h m (by omega))
    have h2 := cnt_sub (RR_mono ha hf (show n ≤ n + 1 by omega)) (fun z => h n (by omega) z.symm)
    omega
theorem RR_one {fr : Int64} {a : Nat} (ha : a < 64) (hf : bq fr a = true) : ∀ n, 1 ≤ n → (∀ m, m < n → RR fr a (m + 1) ≠ RR fr a m) → n + 1 ≤ cnt (bq (RR fr a n)) 64 := by
  have c0 : 1 ≤ cnt (bq (RR fr a 0)) 64 := by
    have := cnt_less (P := fun _ => false) (Q := bq (RR fr a 0)) 64 (fun i hi e => by cases e) ⟨a, ha, rfl, (bq_onec ha ha).trans (by simp)⟩
    omega
  intro n
  induction n with
  | zero => intro h; omega
  | succ n ih =>
    intro _ h
    have h2 := cnt_sub (RR_mono ha hf (show n ≤ n + 1 by omega)) (fun z => h n (by omega) z.symm)
    by_cases e : n = 0
    · subst e; omega
    · have h1 := ih (by omega) (fun m hm => h m (by omega))
      omega
theorem RR_ex {fr : Int64} {a : Nat} (ha : a < 64) (hf : bq fr a = true) : ¬ ∀ m, m < 64 → RR fr a (m + 1) ≠ RR fr a m := by
  intro h
  have := RR_one ha hf 64 (by omega) h
  have := cnt_le (bq (RR fr a 64)) 64
  omega
theorem RR_63 {fr : Int64} {a : Nat} (ha : a < 64) (hf : bq fr a = true) (n : Nat) : sub (RR fr a n) (RR fr a 63) := by
  by_cases hn : n ≤ 63
  · exact RR_mono ha hf hn
  · cases hx : exB (fun m => decide (RR fr a (m + 1) = RR fr a m)) 64 with
    | false =>
      exfalso
      refine RR_ex ha hf (fun m hm e => ?_)
      exact absurd ((exB_iff _ 64).mpr ⟨m, hm, decide_eq_true e⟩) (by rw [hx]; decide)
    | true =>
      obtain ⟨m, hm, e⟩ := (exB_iff _ 64).mp hx
      have e := of_decide_eq_true e
      rw [RR_stab e n (by omega), ← RR_stab e 63 (by omega)]
      exact fun i _ e => e
def fdB (P : Nat → Bool) : Nat → Option Nat
  | 0 => none
  | n + 1 => match fdB P n with
    | some i => some i
    | none => if P n then some n else none
theorem fdB_spec (P : Nat → Bool) : ∀ n, (match fdB P n with
  | some i => i < n ∧ P i = true ∧ ∀ j, j < i → P j = false
  | none => ∀ i, i < n → P i = false) := by
  intro n
  induction n with
  | zero => intro i hi; omega
  | succ n ih =>
    rw [fdB]
    cases hx : fdB P n with
    | some i =>
      rw [hx] at ih
      exact ⟨by have := ih.1; omega, ih.2⟩
    | none =>
      rw [hx] at ih
      cases hp : P n with
      | true => exact ⟨by omega, hp, ih⟩
      | false =>
        intro i hi
        by_cases e : i = n
        · subst e; exact hp
        · exact ih i (by omega)
theorem fdB_some {P : Nat → Bool} {n i : Nat} (h : fdB P n = some i) : i < n ∧ P i = true ∧ ∀ j, j < i → P j = false := by
  have := fdB_spec P n; rw [h] at this; exact this
theorem fdB_none {P : Nat → Bool} {n : Nat} (h : fdB P n = none) : ∀ i, i < n → P i = false := by
  have := fdB_spec P n; rw [h] at this; exact this
theorem fdB_of {P : Nat → Bool} {n i : Nat} (h1 : i < n) (h2 : P i = true) (h3 : ∀ j, j < i → P j = false) : fdB P n = some i := by
  cases hx : fdB P n with
  | none => rw [fdB_none hx i h1] at h2; cases h2
  | some k =>
    obtain ⟨k1, k2, k3⟩ := fdB_some hx
    rcases Nat.lt_trichotomy k i with q | q | q
    · rw [h3 k q] at k2; cases k2
    · rw [q]
    · rw [k3 i q] at h2; cases h2
theorem fdB_no {P : Nat → Bool} {n : Nat} (h : ∀ i, i < n → P i = false) : fdB P n = none := by
  cases hx : fdB P n with
  | none => rfl
  | some k =>
    obtain ⟨k1, k2, _⟩ := fdB_some hx
    rw [h k k1] at k2; cases k2
theorem fdB_congr {P Q : Nat → Bool} : ∀ n, (∀ i, i < n → P i = Q i) → fdB P n = fdB Q n := by
  intro n
  induction n with
  | zero => intro _; rfl
  | succ n ih => intro h; rw [fdB, fdB, ih (fun i hi => h i (by omega)), h n (by omega)]
def dst (fr : Int64) (a b : Nat) : Option Nat := fdB (fun n => bq (RR fr a n) b) 64
theorem dst_lt {fr : Int64} {a b n : Nat} (h : dst fr a b = some n) : n < 64 := (fdB_some h).1
def pv (fr : Int64) (a n : Nat) : Int64 := match n with
  | 0 => 0
  | j + 1 => RR fr a j
theorem one_ne0' {a : Nat} (ha : a < 64) : ¬ lg_cmp (one a) 0 = 0 := fun z => one_ne0 ha (lg_eq.mp z)
theorem steps_m {h : Hp} {a b : Nat} (ha : a < 64) (hb : b < 64) (hf : bq (h.2 39 8) a = true) : f_m_steps (nI a) (nI b) h = some (encI (dst (h.2 39 8) a b)) := by
  unfold f_m_steps
  have key : ∀ m i fuel, i + m = 65 → m < fuel → (∀ j, j < i → bq (RR (h.2 39 8) a j) b = false) → (∀ j, j + 1 < i → RR (h.2 39 8) a (j + 1) ≠ RR (h.2 39 8) a j) → f_m_steps_L_1 (nI b) h (fun l3_4 l5_5 l7_6 => some (-9 : Int32)) fuel (RR (h.2 39 8) a i) (pv (h.2 39 8) a i) (nI i) = some (encI (dst (h.2 39 8) a b)) := by
    intro m
    induction m with
    | zero =>
      intro i fuel hi _ h1 h2
      exact absurd (fun m hm => h2 m (by omega)) (RR_ex ha hf)
    | succ m ih =>
      intro i fuel hi hfu h1 h2
      obtain ⟨f, rfl⟩ : ∃ f, fuel = f + 1 := ⟨fuel - 1, by omega⟩
      rw [f_m_steps_L_1]
      by_cases e : lg_cmp (RR (h.2 39 8) a i) (pv (h.2 39 8) a i) = 0
      · rw [if_pos e]
        have e := lg_eq.mp e
        cases i with
        | zero => exact absurd e (one_ne0 ha)
        | succ j =>
          have e : RR (h.2 39 8) a (j + 1) = RR (h.2 39 8) a j := e
          have : dst (h.2 39 8) a b = none := fdB_no (fun n _ => by
            by_cases hn : n ≤ j
            · exact h1 n (by omega)
            · rw [RR_stab e n (by omega)]; exact h1 j (by omega))
          rw [this]; rfl
      · rw [if_neg e, tst_s hb]
        cases hbt : bq (RR (h.2 39 8) a i) b with
        | true =>
          rw [if_pos ((bL_1 true).mpr rfl)]
          have i64 : i < 64 := by
            by_cases q : i < 64
            · exact q
            · have := RR_63 ha hf i b hb hbt
              rw [h1 63 (by omega)] at this; cases this
          have : dst (h.2 39 8) a b = some i := fdB_of i64 hbt h1
          rw [this]; rfl
        | false =>
          rw [if_neg (fun q => absurd ((bL_1 false).mp q) (by decide)), nI_1, spread_m]
          refine ih (i + 1) f (by omega) (by omega) (fun j hj => ?_) (fun j hj => ?_)
          · by_cases q : j = i
            · subst q; exact hbt
            · exact h1 j (by omega)
          · by_cases q : j + 1 = i
            · subst q
              exact fun z => e (lg_eq.mpr z)
            · exact h2 j (by omega)
  exact key 65 0 1000 (by omega) (by omega) (fun j hj => by omega) (fun j hj => by omega)
/-- reaching, both ways -/
theorem dual2 {fr S B : Int64} (hS : sub S fr) (hB : sub B fr) : meet (SP fr S) B ↔ meet S (SP fr B) := by
  have := dual (fr := fr) (S := S) (B := B) (E := fr) hS
  rw [wid_SP hS] at this
  have e : B &&& fr = B := by
    apply bq_ext
    intro i hi
    rw [bq_and]
    cases hb : bq B i with
    | false => rfl
    | true => rw [hB i hi hb]; rfl
  rw [e, sub_or (SP_ext hB)] at this
  exact this
theorem RR_swap {fr : Int64} {a b : Nat} (ha : a < 64) (hb : b < 64) (fa : bq fr a = true) (fb : bq fr b = true) : ∀ n m, meet (RR fr a n) (RR fr b m) ↔ meet (one a) (RR fr b (m + n)) := by
  intro n
  induction n with
  | zero => intro m; exact Iff.rfl
  | succ n ih =>
    intro m
    rw [RR_s, dual2 (RR_sub ha fa n) (RR_sub hb fb m), ← RR_s, ih (m + 1)]
    have : m + 1 + n = m + (n + 1) := by omega
    rw [this]
theorem meet_comm {S B : Int64} : meet S B ↔ meet B S := ⟨fun ⟨q, h, a, b⟩ => ⟨q, h, b, a⟩, fun ⟨q, h, a, b⟩ => ⟨q, h, b, a⟩⟩
theorem RR_symm {fr : Int64} {a b : Nat} (ha : a < 64) (hb : b < 64) (fa : bq fr a = true) (fb : bq fr b = true) (n : Nat) : bq (RR fr a n) b = bq (RR fr b n) a := by
  have h1 : bq (RR fr a n) b = true ↔ bq (RR fr b n) a = true := by
    have := RR_swap ha hb fa fb n 0
    rw [Nat.zero_add] at this
    rw [← meet_one hb, ← meet_one ha, ← (meet_comm (S := one a))]
    exact this
  cases h2 : bq (RR fr a n) b <;> cases h3 : bq (RR fr b n) a <;> rw [h2, h3] at h1 <;> simp at h1 ⊢
theorem dst_symm {fr : Int64} {a b : Nat} (ha : a < 64) (hb : b < 64) (fa : bq fr a = true) (fb : bq fr b = true) : dst fr a b = dst fr b a := fdB_congr 64 (fun n _ => RR_symm ha hb fa fb n)
theorem dst_ex {fr : Int64} {a b n : Nat} (ha : a < 64) (hb : b < 64) (fa : bq fr a = true) (h : bq (RR fr a n) b = true) : dst fr a b ≠ none := by
  intro e
  have := RR_63 ha fa n b hb h
  rw [fdB_none e 63 (by omega)] at this; cases this
theorem it_add (f : Int64 → Int64) (S : Int64) (n : Nat) : ∀ m, it f m (it f n S) = it f (n + m) S := by
  intro m
  induction m with
  | zero => rfl
  | succ m ih => show f (it f m (it f n S)) = f (it f (n + m) S); rw [ih]
theorem it_mono {fr S T : Int64} (h : sub S T) : ∀ n, sub (it (SP fr) n S) (it (SP fr) n T) := by
  intro n
  induction n with
  | zero => exact h
  | succ n ih => exact SP_mono fr ih
theorem dst_tr {fr : Int64} {a b c : Nat} (ha : a < 64) (hb : b < 64) (hc : c < 64) (fa : bq fr a = true) (h1 : dst fr a b ≠ none) (h2 : dst fr b c ≠ none) : dst fr a c ≠ none := by
  cases e1 : dst fr a b with
  | none => exact absurd e1 h1
  | some n =>
    cases e2 : dst fr b c with
    | none => exact absurd e2 h2
    | some m =>
      obtain ⟨-, p1, -⟩ := fdB_some e1
      obtain ⟨-, p2, -⟩ := fdB_some e2
      refine dst_ex (n := n + m) ha hc fa ?_
      have : sub (one b) (RR fr a n) := by
        intro i hi e
        rw [bq_onec hb hi] at e
        have := of_decide_eq_true e
        subst this; exact p1
      have := it_mono (fr := fr) this m c hc p2
      have e := it_add (SP fr) (one a) n m
      unfold RR
      rw [← e]; exact this
/-- the class's way: a row of its table -/
def encU (o : Option Nat) : Int32 := match o with
  | some q => nI q
  | none => -1
def S34 (h : Hp) (r no : Nat) (v : Nat → Int32) : Hp := (fun a b => if a = 34 ∧ 6 * r ≤ b ∧ b < 6 * r + no then v (b - 6 * r) else h.1 a b, h.2)
theorem S34_congr (h : Hp) (r no : Nat) {v v' : Nat → Int32} (e : ∀ o, o < no → v o = v' o) : S34 h r no v = S34 h r no v' := by
  refine hp_ext (fun a b => ?_) (by rfl)
  show (if a = 34 ∧ 6 * r ≤ b ∧ b < 6 * r + no then v (b - 6 * r) else h.1 a b) = if a = 34 ∧ 6 * r ≤ b ∧ b < 6 * r + no then v' (b - 6 * r) else h.1 a b
  split
  · exact e _ (by omega)
  · rfl
theorem S34_upd (h : Hp) (r no : Nat) (v : Nat → Int32) {o : Nat} (ho : o < no) (x : Int32) : xI (S34 h r no v) 34 (6 * r + o) x = S34 h r no (fun p => if p = o then x else v p) := by
  refine hp_ext (fun a b => ?_) (by rfl)
  rw [xI_1]
  show (if a = 34 ∧ b = 6 * r + o then x else if a = 34 ∧ 6 * r ≤ b ∧ b < 6 * r + no then v (b - 6 * r) else h.1 a b) = if a = 34 ∧ 6 * r ≤ b ∧ b < 6 * r + no then (if b - 6 * r = o then x else v (b - 6 * r)) else h.1 a b
  by_cases e : a = 34 ∧ b = 6 * r + o
  · rw [if_pos e, if_pos ⟨e.1, by omega, by omega⟩, if_pos (by omega)]
  · rw [if_neg e]
    by_cases e2 : a = 34 ∧ 6 * r ≤ b ∧ b < 6 * r + no
    · rw [if_pos e2, if_pos e2, if_neg (by omega)]
    · rw [if_neg e2, if_neg e2]
theorem S34_id (h : Hp) (r no : Nat) : S34 h r no (fun o => h.1 34 (6 * r + o)) = h := by
  refine hp_ext (fun a b => ?_) (by rfl)
  show (if a = 34 ∧ 6 * r ≤ b ∧ b < 6 * r + no then h.1 34 (6 * r + (b - 6 * r)) else h.1 a b) = h.1 a b
  split
  · next e =>
    have : 6 * r + (b - 6 * r) = b := by omega
    rw [this, e.1]
  · rfl
theorem S34_ne (h : Hp) (r no : Nat) (v : Nat → Int32) {a : Nat} (ha : a ≠ 34) : (S34 h r no v).1 a = h.1 a := by
  funext b
  show (if a = 34 ∧ 6 * r ≤ b ∧ b < 6 * r + no then v (b - 6 * r) else h.1 a b) = h.1 a b
  rw [if_neg (fun z => ha z.1)]
theorem mFrom_x {h : Hp} {fr : Int64} {r c no : Nat} (hr : r < 8) (hno : no ≤ 6) (e : h.1 30 7 = nI no) (hc : c < 64) (hf : bq fr c = true) (fo : Nat → Nat) (hfo : ∀ o, o < no → fo o < 64 ∧ h.1 31 o = nI (fo o)) : f_orders_measureFrom (nI r) (nI c) fr h = some (S34 h r no (fun o => encU (dst fr c (fo o)))) := by
  unfold f_orders_measureFrom
  have l1 : ∀ k : Int32 → Hp → Option Hp, f_orders_measureFrom_L_1 (nI c) fr ((6 : Int32) * nI r) k 1000 0 h = k (nI no) (S34 h r no (fun _ => -1)) := by
    intro k
    have := lp0 (fun f (s : Int32 × Hp) => f_orders_measureFrom_L_1 (nI c) fr ((6 : Int32) * nI r) k f s.1 s.2) no (fun i => (nI i, S34 h r no (fun o => if o < i then -1 else h.1 34 (6 * r + o)))) (k (nI no) (S34 h r no (fun _ => -1))) (by omega) (fun f => ?_) (fun f i hi => ?_)
    · have e0 : S34 h r no (fun o => if o < 0 then -1 else h.1 34 (6 * r + o)) = h := by
        rw [S34_congr h r no (v' := fun o => h.1 34 (6 * r + o)) (fun o _ => if_neg (by omega)), S34_id]
      simp only [e0] at this
      exact this
    · simp only
      rw [f_orders_measureFrom_L_1, S34_ne _ _ _ _ (show (30 : Nat) ≠ 34 by decide), e, if_pos ((leN (by omega) (by omega)).mpr (Nat.le_refl _)), S34_congr h r no (v' := fun _ => -1) (fun o ho => if_pos ho)]
    · simp only
      rw [f_orders_measureFrom_L_1, S34_ne _ _ _ _ (show (30 : Nat) ≠ 34 by decide), e, if_neg (fun q => absurd ((leN (by omega) (by omega)).mp q) (by omega)), nI_lit 6, pk_mul, nI_add, xin_nI (n := 48) (by omega) (by decide), clampc (by omega), nI_1, S34_upd h r no _ hi, Bool.and_true, xgd_true]
      congr 1
      refine S34_congr h r no (fun o ho => ?_)
      by_cases q : o = i
      · rw [if_pos q, if_pos (by omega)]
      · rw [if_neg q]
        by_cases q2 : o < i
        · rw [if_pos q2, if_pos (by omega)]
        · rw [if_neg q2, if_neg (by omega)]
  rw [l1]
  -- one round of the outer loop
  have l8 : ∀ (n : Nat) (k : Int32 → Hp → Option Hp), n < 64 → f_orders_measureFrom_L_8 fr ((6 : Int32) * nI r) (RR fr c n) (pv fr c n) (nI n) k 1000 0 (S34 h r no (fun o => encU (fdB (fun m => bq (RR fr c m) (fo o)) n))) = k (nI no) (S34 h r no (fun o => encU (fdB (fun m => bq (RR fr c m) (fo o)) (n + 1)))) := by
    intro n k hn
    have bit : ∀ o, o < no → ((bq (RR fr c n &&& (pv fr c n ^^^ -1)) (fo o) = true → fdB (fun m => bq (RR fr c m) (fo o)) (n + 1) = some n) ∧ (bq (RR fr c n &&& (pv fr c n ^^^ -1)) (fo o) = false → fdB (fun m => bq (RR fr c m) (fo o)) (n + 1) = fdB (fun m => bq (RR fr c m) (fo o)) n)) := by
      intro o ho
      have o64 := (hfo o ho).1
      have pvs : bq (pv fr c n) (fo o) = true → fdB (fun m => bq (RR fr c m) (fo o)) n ≠ none := by
        intro hb z
        cases n with
        | zero => rw [show pv fr c 0 = 0 from rfl, bq_0] at hb; cases hb
        | succ j =>
          have := fdB_none z j (by omega)
          have hb : bq (RR fr c j) (fo o) = true := hb
          rw [hb] at this; cases this
      have pvn : bq (pv fr c n) (fo o) = false → fdB (fun m => bq (RR fr c m) (fo o)) n = none := by
        intro hb
        refine fdB_no (fun i hi => ?_)
        cases n with
        | zero => omega
        | succ j =>
          have hb : bq (RR fr c j) (fo o) = false := hb
          cases hx : bq (RR fr c i) (fo o) with
          | false => rfl
          | true =>
            rw [RR_mono hc hf (show i ≤ j by omega) (fo o) o64 hx] at hb; cases hb
      rw [bq_and, bq_not _ o64]
      constructor
      · intro hb
        cases h1 : bq (RR fr c n) (fo o) <;> cases h2 : bq (pv fr c n) (fo o) <;> rw [h1, h2] at hb <;> simp at hb
        rw [fdB, pvn h2]
        simp [h1]
      · intro hb
        rw [fdB]
        cases h2 : bq (pv fr c n) (fo o) with
        | true =>
          cases h3 : fdB (fun m => bq (RR fr c m) (fo o)) n with
          | none => exact absurd h3 (pvs h2)
          | some i => rfl
        | false =>
          rw [h2] at hb
          rw [pvn h2]
          cases h1 : bq (RR fr c n) (fo o) with
          | true => rw [h1] at hb; cases hb
          | false => simp [h1]
    have := lp0 (fun f (s : Int32 × Hp) => f_orders_measureFrom_L_8 fr ((6 : Int32) * nI r) (RR fr c n) (pv fr c n) (nI n) k f s.1 s.2) no (fun i => (nI i, S34 h r no (fun o => if o < i then encU (fdB (fun m => bq (RR fr c m) (fo o)) (n + 1)) else encU (fdB (fun m => bq (RR fr c m) (fo o)) n)))) (k (nI no) (S34 h r no (fun o => encU (fdB (fun m => bq (RR fr c m) (fo o)) (n + 1))))) (by omega) (fun f => ?_) (fun f i hi => ?_)
    · rw [S34_congr h r no (v' := fun o => encU (fdB (fun m => bq (RR fr c m) (fo o)) n)) (fun o _ => if_neg (by omega))] at this
      exact this
    · simp only
      rw [f_orders_measureFrom_L_8, S34_ne _ _ _ _ (show (30 : Nat) ≠ 34 by decide), e, if_pos ((leN (by omega) (by omega)).mpr (Nat.le_refl _)), S34_congr h r no (v' := fun o => encU (fdB (fun m => bq (RR fr c m) (fo o)) (n + 1))) (fun o ho => if_pos ho)]
    · simp only
      obtain ⟨o64, oe⟩ := hfo i hi
      rw [f_orders_measureFrom_L_8, S34_ne _ _ _ _ (show (30 : Nat) ≠ 34 by decide), S34_ne _ _ _ _ (show (31 : Nat) ≠ 34 by decide), e, if_neg (fun q => absurd ((leN (by omega) (by omega)).mp q) (by omega)), xin_nI (n := 6) (by omega) (by decide), clampc (k := i) (by omega), oe, tst_u o64, nI_1, Bool.and_true, xgd_true]
      cases hb : bq (RR fr c n &&& (pv fr c n ^^^ -1)) (fo i) with
      | false =>
        rw [if_pos ((bL_0 false).mpr rfl)]
        congr 1
        refine S34_congr h r no (fun o ho => ?_)
        by_cases q : o = i
        · subst q
          rw [if_neg (by omega), if_pos (by omega), (bit o ho).2 hb]
        · by_cases q2 : o < i
          · rw [if_pos q2, if_pos (by omega)]
          · rw [if_neg q2, if_neg (by omega)]
      | true =>
        rw [if_neg (fun q => absurd ((bL_0 true).mp q) (by decide)), nI_lit 6, pk_mul, nI_add, xin_nI (n := 48) (by omega) (by decide), clampc (k := 6 * r + i) (by omega), S34_upd h r no _ hi, Bool.and_true, xgd_true]
        congr 1
        refine S34_congr h r no (fun o ho => ?_)
        by_cases q : o = i
        · subst q
          rw [if_pos rfl, if_pos (by omega), (bit o ho).1 hb]; rfl
        · rw [if_neg q]
          by_cases q2 : o < i
          · rw [if_pos q2, if_pos (by omega)]
          · rw [if_neg q2, if_neg (by omega)]
  have key : ∀ m n fuel, n + m = 64 → m < fuel → f_orders_measureFrom_L_5 fr ((6 : Int32) * nI r) (fun l6_14 l8_15 l10_16 h_17 => some h_17) fuel (RR fr c n) (pv fr c n) (nI n) (S34 h r no (fun o => encU (fdB (fun m => bq (RR fr c m) (fo o)) n))) = some (S34 h r no (fun o => encU (dst fr c (fo o)))) := by
    intro m
    induction m with
    | zero =>
      intro n fuel hn hfu
      obtain ⟨f, rfl⟩ : ∃ f, fuel = f + 1 := ⟨fuel - 1, by omega⟩
      have : n = 64 := by omega
      subst this
      rw [f_orders_measureFrom_L_5, if_pos (by decide)]; rfl
    | succ m ih =>
      intro n fuel hn hfu
      obtain ⟨f, rfl⟩ : ∃ f, fuel = f + 1 := ⟨fuel - 1, by omega⟩
      rw [f_orders_measureFrom_L_5, if_neg (nleL 64 (by omega))]
      by_cases q : lg_cmp (RR fr c n) (pv fr c n) = 0
      · rw [if_pos q]
        have q := lg_eq.mp q
        cases n with
        | zero => exact absurd q (one_ne0 hc)
        | succ j =>
          have q : RR fr c (j + 1) = RR fr c j := q
          congr 1
          refine S34_congr h r no (fun o ho => ?_)
          congr 1
          cases hx : fdB (fun m => bq (RR fr c m) (fo o)) (j + 1) with
          | some i =>
            obtain ⟨k1, k2, k3⟩ := fdB_some hx
            exact (fdB_of (P := fun m => bq (RR fr c m) (fo o)) (by omega) k2 k3).symm
          | none =>
            have z := fdB_none hx
            refine (fdB_no (fun i hi => ?_)).symm
            by_cases w : i ≤ j
            · exact z i (by omega)
            · have := z j (by omega)
              show bq (RR fr c i) (fo o) = false
              rw [RR_stab q i (by omega)]; exact this
      · rw [if_neg q, l8 n _ (by omega), nI_1, wid_SP (RR_sub hc hf n)]
        exact ih (n + 1) f (by omega) (by omega)
  exact key 64 0 1000 (by omega) (by omega)
