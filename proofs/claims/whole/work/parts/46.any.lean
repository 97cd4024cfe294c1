/-! ===== who is seen, who could come ===== -/
def pcF (h : Hp) (i : Nat) : Nat := (h.1 43 i).toNatClampNeg
def pkF (h : Hp) (i : Nat) : Nat := (h.1 44 i).toNatClampNeg
def csF (h : Hp) (i : Nat) : Nat := (h.1 45 i).toNatClampNeg
theorem ppl {h : Hp} {w g np nc nl tk : Nat} (H : RNow h w g np nc nl tk) {i : Nat} (hi : i < np) : (pcF h i < 64 ∧ pkF h i < 4) ∧ (h.1 7 i = nI (pcF h i) ∧ h.1 43 i = nI (pcF h i)) ∧ (h.1 8 i = nI (pkF h i) ∧ h.1 44 i = nI (pkF h i)) ∧ bq (h.2 39 8) (pcF h i) = true ∧ cellIn w g (pcF h i) := by
  obtain ⟨⟨-, -, hp, hk, -⟩, -, hpf, -⟩ := H
  obtain ⟨c, c1, c2, c3⟩ := hp i hi
  obtain ⟨k, k1, k2, k3⟩ := hk i hi
  simp only [Nat.mul_zero, Nat.zero_add] at c3 k3
  have c64 := c1.1
  have e1 : pcF h i = c := by unfold pcF; rw [c3, clampc (by omega)]
  have e2 : pkF h i = k := by unfold pkF; rw [k3, clampc (by omega)]
  rw [e1, e2]
  exact ⟨⟨c64, k1⟩, ⟨c2, c3⟩, ⟨k2, k3⟩, hpf i hi c c64 c3, c1⟩
theorem car {h : Hp} {w g np nc nl tk : Nat} (H : RNow h w g np nc nl tk) {i : Nat} (hi : i < nc) : cellIn w g (csF h i) ∧ (h.1 9 i = nI (csF h i) ∧ h.1 45 i = nI (csF h i)) ∧ bq (h.2 39 8) (csF h i) = true := by
  obtain ⟨⟨-, -, -, -, hc, -⟩, -, -, hcf⟩ := H
  obtain ⟨c, c1, c2, c3⟩ := hc i hi
  simp only [Nat.mul_zero, Nat.zero_add] at c3
  have c64 := c1.1
  have e1 : csF h i = c := by unfold csF; rw [c3, clampc (by omega)]
  rw [e1]
  exact ⟨c1, ⟨c2, c3⟩, hcf i hi c c64 c3⟩
theorem exB_congr {P Q : Nat → Bool} : ∀ n, (∀ i, i < n → P i = Q i) → exB P n = exB Q n := by
  intro n
  induction n with
  | zero => intro _; rfl
  | succ n ih => intro e; rw [exB, exB, ih (fun i hi => e i (by omega)), e n (by omega)]
theorem bq_orB (f : Nat → Int64) (c : Nat) : ∀ n, bq (orF f n) c = exB (fun i => bq (f i) c) n := by
  intro n
  induction n with
  | zero => exact bq_0 c
  | succ n ih => rw [orF, bq_or, ih]; rfl
theorem nearOf {h : Hp} {w g np nc nl tk : Nat} (H : RNow h w g np nc nl tk) : NearOf h nc (csF h) (NRx h nc) := by
  refine ⟨H.1.1.2.1, H.2.1.2.1, fun k hk => ⟨(car H hk).1.1, (car H hk).2.1.2⟩, fun d hd c hc => ?_⟩
  unfold NRx
  rw [bq_orB]
  refine exB_congr nc (fun k hk => ?_)
  rw [(car H hk).2.1.1, behind_bit _ (car H hk).1.1 d hd c hc]
/-- the seen people of a kind -/
def GK (h : Hp) (seen : Int64) (j n : Nat) : Int64 := orF (fun i => if pkF h i = j then seen &&& one (pcF h i) else 0) n
theorem gather_x {h : Hp} {w g np nc nl tk : Nat} (H : RNow h w g np nc nl tk) (seen : Int64) : f_x_gatherSeen seen h = some (CR h (GK h seen 0 np) (GK h seen 1 np) (GK h seen 2 np) (GK h seen 3 np) (NRx h nc)) := by
  unfold f_x_gatherSeen
  have n1 := H.1.1.1
  have e1 := H.1.2.1.1
  rw [empty_x H.1.1.2.1 H.1.2.1.2.1, xbd1_some]
  refine lp0 (fun f s => f_x_gatherSeen_L_3 seen (fun l3_5 h_6 => some h_6) f s.1 s.2) np (fun i => (nI i, CR h (GK h seen 0 i) (GK h seen 1 i) (GK h seen 2 i) (GK h seen 3 i) (NRx h nc))) _ (by omega) (fun f => ?_) (fun f i hi => ?_)
  · simp only
    have e2 : (CR h (GK h seen 0 np) (GK h seen 1 np) (GK h seen 2 np) (GK h seen 3 np) (NRx h nc)).1 6 6 = nI np := e1
    rw [f_x_gatherSeen_L_3, e2, if_pos ((leN (by omega) (by omega)).mpr (Nat.le_refl _))]
  · simp only
    have e2 : (CR h (GK h seen 0 i) (GK h seen 1 i) (GK h seen 2 i) (GK h seen 3 i) (NRx h nc)).1 6 6 = nI np := e1
    obtain ⟨⟨a1, a2⟩, ⟨a3, a4⟩, ⟨a5, a6⟩, -, -⟩ := ppl H hi
    have e3 : (CR h (GK h seen 0 i) (GK h seen 1 i) (GK h seen 2 i) (GK h seen 3 i) (NRx h nc)).1 8 i = nI (pkF h i) := a5
    have e4 : (CR h (GK h seen 0 i) (GK h seen 1 i) (GK h seen 2 i) (GK h seen 3 i) (NRx h nc)).1 7 i = nI (pcF h i) := a3
    rw [f_x_gatherSeen_L_3, e2, if_neg (fun q => absurd ((leN (by omega) (by omega)).mp q) (by omega)), xin_nI (n := 6) (by omega) (by decide), clampc (by omega), nI_1, e3, e4, join_x _ _ _ _ _ _ a2]
    have q : ∀ j, jn (pkF h i) j (GK h seen j i) (seen &&& jshlL 1 (nI (pcF h i))) = GK h seen j (i + 1) := by
      intro j
      show _ = GK h seen j i ||| (if pkF h i = j then seen &&& one (pcF h i) else 0)
      unfold jn
      by_cases e : pkF h i = j
      · rw [if_pos e, if_pos e]; rfl
      · rw [if_neg e, if_neg e, or_0]
    rw [q, q, q, q]
    rfl
theorem GK_sub {h : Hp} {w g np nc nl tk : Nat} (H : RNow h w g np nc nl tk) (seen : Int64) (j : Nat) : sub (GK h seen j np) (h.2 39 8) := by
  intro q hq e
  unfold GK at e
  rw [bq_orF] at e
  obtain ⟨i, hi, e⟩ := e
  obtain ⟨⟨a1, a2⟩, -, -, a7, -⟩ := ppl H hi
  by_cases c : pkF h i = j
  · rw [if_pos c, bq_and, bq_onec a1 hq, Bool.and_eq_true, decide_eq_true_eq] at e
    rw [e.2]; exact a7
  · rw [if_neg c, bq_0] at e; cases e
def seenC (h : Hp) (N : Nat → Int64) (fr seen : Int64) (t n : Nat) : Int64 := orF (fun i => if bq seen (pcF h i) then CB (pkF h i) N fr t (one (pcF h i)) else 0) n
theorem and_one2 {c : Nat} (hc : c < 64) (v : Int64) : v &&& one c = if bq v c then one c else 0 := by
  rw [← one_and hc]
  apply bq_ext; intro i _; rw [bq_and, bq_and, Bool.and_comm]
theorem CB_k0 (N : Nat → Int64) (fr : Int64) (t : Nat) (S : Int64) : CB 0 N fr t S = S := by
  unfold CB
  induction t with
  | zero => rfl
  | succ t ih => exact ih
theorem seen_eq {h : Hp} {w g np nc nl tk : Nat} (H : RNow h w g np nc nl tk) (N : Nat → Int64) (fr seen : Int64) (t : Nat) : ∀ n, n ≤ np → ((GK h seen 0 n ||| CB 1 N fr t (GK h seen 1 n)) ||| CB 2 N fr t (GK h seen 2 n)) ||| CB 3 N fr t (GK h seen 3 n) = seenC h N fr seen t n := by
  intro n
  induction n with
  | zero =>
    intro _
    show ((0 ||| CB 1 N fr t 0) ||| CB 2 N fr t 0) ||| CB 3 N fr t 0 = 0
    rw [CB_0, CB_0, CB_0]; rfl
  | succ n ih =>
    intro hn
    obtain ⟨⟨a1, a2⟩, -⟩ := ppl H (i := n) (by omega)
    have s : ∀ j, GK h seen j (n + 1) = GK h seen j n ||| (if pkF h n = j then seen &&& one (pcF h n) else 0) := fun j => rfl
    have s2 : seenC h N fr seen t (n + 1) = seenC h N fr seen t n ||| (if bq seen (pcF h n) then CB (pkF h n) N fr t (one (pcF h n)) else 0) := rfl
    rw [s, s, s, s, s2, ← ih (by omega), CB_or, CB_or, CB_or, and_one2 a1]
    cases hb : bq seen (pcF h n) with
    | false =>
      simp only [Bool.false_eq_true, if_false, ite_self, CB_0, or_0]
    | true =>
      simp only [if_true]
      generalize GK h seen 0 n = X0
      generalize CB 1 N fr t (GK h seen 1 n) = X1
      generalize CB 2 N fr t (GK h seen 2 n) = X2
      generalize CB 3 N fr t (GK h seen 3 n) = X3
      generalize hk : pkF h n = k at *
      match k, a2 with
      | 0, _ =>
        apply bq_ext; intro i _; simp [bq_or, bq_0, CB_0, CB_k0]
        cases bq X0 i <;> cases bq X1 i <;> cases bq X2 i <;> cases bq X3 i <;> simp
      | 1, _ =>
        apply bq_ext; intro i _; simp [bq_or, bq_0, CB_0]
        cases bq X0 i <;> cases bq X1 i <;> cases bq X2 i <;> cases bq X3 i <;> simp
      | 2, _ =>
        apply bq_ext; intro i _; simp [bq_or, bq_0, CB_0]
        cases bq X0 i <;> cases bq X1 i <;> cases bq X2 i <;> cases bq X3 i <;> simp
      | 3, _ =>
        apply bq_ext; intro i _; simp [bq_or, bq_0, CB_0]
        cases bq X0 i <;> cases bq X1 i <;> cases bq X2 i <;> cases bq X3 i <;> simp
theorem seenCould_m {h : Hp} {w g np nc nl tk : Nat} (HH : RHl h w g) (H : RNow h w g np nc nl tk) {k t : Nat} (hk : k < nc) (ht : t ≤ 20) : f_m_seenCould (nI k) (nI t) h = some (seenC h (NRx h nc) (h.2 39 8) (SEE w g (h.2 39 8) (csF h k)) t np) := by
  have n1 := H.1.1.1
  have n2 := H.1.1.2.1
  have m1 := H.2.1.1
  obtain ⟨c1, ⟨c2, c3⟩, c4⟩ := car H hk
  unfold f_m_seenCould
  rw [xin_nI (n := 6) (by omega) (by decide), clampc (by omega), c3, seen_m HH c1]
  simp only [Bool.and_true, xgd_true, xbd1_some]
  generalize SEE w g (h.2 39 8) (csF h k) = seen
  refine lp0 (fun f s => f_m_seenCould_L_3 (nI t) seen h (fun l5_12 l7_13 => some l5_12) f s.1 s.2) np (fun i => (seenC h (NRx h nc) (h.2 39 8) seen t i, nI i)) _ (by omega) (fun f => ?_) (fun f i hi => ?_)
  · simp only
    rw [f_m_seenCould_L_3, m1, if_pos ((leN (by omega) (by omega)).mpr (Nat.le_refl _))]
  · simp only
    obtain ⟨⟨a1, a2⟩, ⟨a3, a4⟩, ⟨a5, a6⟩, -, -⟩ := ppl H hi
    rw [f_m_seenCould_L_3, m1, if_neg (fun q => absurd ((leN (by omega) (by omega)).mp q) (by omega)), xin_nI (n := 18) (by omega) (by decide), clampc (by omega), nI_1, a4, a6, tst_s a1, couldBe_m (nearOf H) HH a2 ht]
    simp only [Bool.and_true, xgd_true, xbd1_some]
    show _ = f_m_seenCould_L_3 (nI t) seen h _ f (seenC h (NRx h nc) (h.2 39 8) seen t i ||| (if bq seen (pcF h i) then CB (pkF h i) (NRx h nc) (h.2 39 8) t (one (pcF h i)) else 0)) (nI (i + 1))
    cases bq seen (pcF h i) with
    | false => rw [if_pos (by decide)]; rfl
    | true => rw [if_neg (by decide)]; rfl
theorem unseenCould_m {h : Hp} {w g np nc nl tk : Nat} (HH : RHl h w g) (H : RNow h w g np nc nl tk) {k t : Nat} (hk : k < nc) (ht : t ≤ 20) : f_m_unseenCould (nI k) (nI t) h = some (CB 1 (NRx h nc) (h.2 39 8) t (h.2 39 8 &&& (SEE w g (h.2 39 8) (csF h k) ^^^ -1))) := by
  have n2 := H.1.1.2.1
  obtain ⟨c1, ⟨c2, c3⟩, c4⟩ := car H hk
  unfold f_m_unseenCould
  rw [xin_nI (n := 6) (by omega) (by decide), clampc (by omega), c3, seen_m HH c1]
  simp only [Bool.and_true, xgd_true, xbd1_some]
  have := couldBe_m (nearOf H) HH (k := 1) (by decide) ht (h.2 39 8 &&& (SEE w g (h.2 39 8) (csF h k) ^^^ -1))
  have this : f_m_couldBe 1 (h.2 39 8 &&& (SEE w g (h.2 39 8) (csF h k) ^^^ -1)) (nI t) h = _ := this
  rw [this, xbd1_some]
/-- all who could be there in t ticks -/
def ANY (h : Hp) (w g np nc k t : Nat) : Int64 := seenC h (NRx h nc) (h.2 39 8) (SEE w g (h.2 39 8) (csF h k)) t np ||| CB 1 (NRx h nc) (h.2 39 8) t (h.2 39 8 &&& (SEE w g (h.2 39 8) (csF h k) ^^^ -1))
/-- the class's crowd with all who could come, t ticks on -/
def CRA (h : Hp) (w g np nc k t : Nat) : Hp := CR h (GK h (SEE w g (h.2 39 8) (csF h k)) 0 np) (CB 1 (NRx h nc) (h.2 39 8) t (GK h (SEE w g (h.2 39 8) (csF h k)) 1 np ||| (h.2 39 8 &&& (SEE w g (h.2 39 8) (csF h k) ^^^ -1)))) (CB 2 (NRx h nc) (h.2 39 8) t (GK h (SEE w g (h.2 39 8) (csF h k)) 2 np)) (CB 3 (NRx h nc) (h.2 39 8) t (GK h (SEE w g (h.2 39 8) (csF h k)) 3 np)) (NRx h nc)
theorem seenBy_x {h : Hp} {w g np nc nl tk : Nat} (HH : RHl h w g) (H : RNow h w g np nc nl tk) {k : Nat} (hk : k < nc) : f_x_seenBy (nI k) h = some (SEE w g (h.2 39 8) (csF h k)) := by
  have n2 := H.1.1.2.1
  obtain ⟨c1, ⟨c2, c3⟩, c4⟩ := car H hk
  unfold f_x_seenBy
  rw [xin_nI (n := 2) (by omega) (by decide), clampc (by omega), c2, seen_x HH c1]
  simp only [Bool.and_true, xgd_true, xbd1_some]
theorem gatherAny_x {h : Hp} {w g np nc nl tk : Nat} (HH : RHl h w g) (H : RNow h w g np nc nl tk) {k : Nat} (hk : k < nc) : f_x_gatherAnybody (nI k) h = some (CRA h w g np nc k 0) := by
  unfold f_x_gatherAnybody
  rw [seenBy_x HH H hk, xbd1_some, gather_x H, xbd1_some]
  have e : (CR h (GK h (SEE w g (h.2 39 8) (csF h k)) 0 np) (GK h (SEE w g (h.2 39 8) (csF h k)) 1 np) (GK h (SEE w g (h.2 39 8) (csF h k)) 2 np) (GK h (SEE w g (h.2 39 8) (csF h k)) 3 np) (NRx h nc)).2 2 5 = h.2 39 8 := HH.2.2.2.1.1
  rw [e]
  have := join_x h (GK h (SEE w g (h.2 39 8) (csF h k)) 0 np) (GK h (SEE w g (h.2 39 8) (csF h k)) 1 np) (GK h (SEE w g (h.2 39 8) (csF h k)) 2 np) (GK h (SEE w g (h.2 39 8) (csF h k)) 3 np) (NRx h nc) (k := 1) (by decide) (h.2 39 8 &&& (SEE w g (h.2 39 8) (csF h k) ^^^ -1))
  exact congrArg some this
theorem and_sub (a b : Int64) : sub (a &&& b) a := by
  intro i hi e
  rw [bq_and, Bool.and_eq_true] at e
  exact e.1
theorem or_sub {a b c : Int64} (h1 : sub a c) (h2 : sub b c) : sub (a ||| b) c := by
  intro i hi e
  rw [bq_or, Bool.or_eq_true] at e
  rcases e with e | e
  · exact h1 i hi e
  · exact h2 i hi e
theorem CB_add (k : Nat) (N : Nat → Int64) (fr : Int64) (t : Nat) (S : Int64) : ∀ s, CB k N fr s (CB k N fr t S) = CB k N fr (t + s) S := by
  intro s
  induction s with
  | zero => rfl
  | succ s ih =>
    show stp k N fr (CB k N fr s (CB k N fr t S)) = stp k N fr (CB k N fr (t + s) S)
    rw [ih]
theorem afterAny_x {h : Hp} {w g np nc nl tk : Nat} (H : RNow h w g np nc nl tk) (k t : Nat) {s : Nat} (hs : s ≤ 20) : f_crowd_afterTicks (nI s) (h.2 39 8) (CRA h w g np nc k t) = some (ANY h w g np nc k (t + s), CRA h w g np nc k (t + s)) := by
  unfold CRA ANY
  rw [after_x h _ _ _ _ _ hs (CB_sub 1 t (or_sub (GK_sub H _ 1) (and_sub _ _))) (CB_sub 2 t (GK_sub H _ 2)), CB_add, CB_add, CB_add]
  congr 2
  rw [← seen_eq H _ _ _ _ np (Nat.le_refl _), CB_or]
  apply bq_ext; intro i _; simp only [bq_or]
  generalize bq (GK h (SEE w g (h.2 39 8) (csF h k)) 0 np) i = x0
  generalize bq (CB 1 (NRx h nc) (h.2 39 8) (t + s) (GK h (SEE w g (h.2 39 8) (csF h k)) 1 np)) i = x1
  generalize bq (CB 2 (NRx h nc) (h.2 39 8) (t + s) (GK h (SEE w g (h.2 39 8) (csF h k)) 2 np)) i = x2
  generalize bq (CB 3 (NRx h nc) (h.2 39 8) (t + s) (GK h (SEE w g (h.2 39 8) (csF h k)) 3 np)) i = x3
  generalize bq (CB 1 (NRx h nc) (h.2 39 8) (t + s) (h.2 39 8 &&& (SEE w g (h.2 39 8) (csF h k) ^^^ -1))) i = x4
  cases x0 <;> cases x1 <;> cases x2 <;> cases x3 <;> cases x4 <;> rfl
/-! ===== the crowd is nobody's but the class's own ===== -/
/-- two states alike but for the crowd and the rows of ways -/
def Fr (h h' : Hp) : Prop := h'.1 = h.1 ∧ ∀ a, a ≠ 28 → a ≠ 29 → a ≠ 38 → h'.2 a = h.2 a
theorem Fr.rf (h : Hp) : Fr h h := ⟨rfl, fun _ _ _ _ => rfl⟩
theorem Fr.tr {h h' h'' : Hp} (a : Fr h h') (b : Fr h' h'') : Fr h h'' := ⟨b.1.trans a.1, fun x h1 h2 h3 => (b.2 x h1 h2 h3).trans (a.2 x h1 h2 h3)⟩
theorem Fr.CR (h : Hp) (A B C D : Int64) (N : Nat → Int64) : Fr h (CR h A B C D N) := ⟨rfl, fun a h1 h2 _ => by funext b; simp [Jvm.Pilot.CHallCarrierLaw_law_r7979_99ce51.CR, h1, h2]⟩
theorem Fr.rb {h h' : Hp} (F : Fr h h') {w g np nc nl tk no : Nat} (H : RB h w g np nc nl tk no) : RB h' w g np nc nl tk no := by
  obtain ⟨f1, f2⟩ := F
  have g0 := f2 0 (by decide) (by decide) (by decide)
  have g2 := f2 2 (by decide) (by decide) (by decide)
  have g5 := f2 5 (by decide) (by decide) (by decide)
  have g39 := f2 39 (by decide) (by decide) (by decide)
  obtain ⟨H0, H1, H2, H3, H4, H5, H6, H7, H8⟩ := H
  refine ⟨?_, ?_, ?_, ?_, ?_, ?_, ?_, ?_, ?_⟩
  · unfold RTx at *; rw [f1]; exact H0
  · unfold RHl at *; rw [f1, g2, g5, g39]; exact H1
  · unfold RNow RSc at *; rw [f1, g39]; exact H2
  · unfold RIm RSc at *; rw [f1]; exact H3
  · unfold RIm RSc at *; rw [f1]; exact H4
  · unfold ROr at *; rw [f1, g39]; exact H5
  · unfold RLo at *; rw [g0, g39]; exact H6
  · unfold RTr at *; rw [g0, g39]; exact H7
  · rw [f1]; exact H8
theorem Fr.rel {h h' : Hp} (F : Fr h h') (H : RelB h) : RelB h' := by
  obtain ⟨w, g, np, nc, nl, tk, no, H⟩ := H
  exact ⟨w, g, np, nc, nl, tk, no, F.rb H⟩
theorem Fr.pk {h h' : Hp} (F : Fr h h') : PK h h' := by
  obtain ⟨f1, f2⟩ := F
  refine Or.inr ?_
  rw [f1, f2 39 (by decide) (by decide) (by decide)]
  exact ⟨rfl, rfl, rfl, rfl, rfl, fun _ _ => rfl, rfl, rfl, rfl, rfl⟩
