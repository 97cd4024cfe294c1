/-! ===== where people could be: sets ===== -/
def ob (S : Int64) (o : Option Nat) : Bool := match o with
  | some c => bq S c
  | none => false
def nbB (S : Int64) (q : Nat) : Bool := ((ob S (nbr q 0) || ob S (nbr q 1)) || ob S (nbr q 2)) || ob S (nbr q 3)
def sub (S T : Int64) : Prop := ∀ i, i < 64 → bq S i = true → bq T i = true
theorem sh_ob (S : Int64) {d q : Nat} (hd : d < 4) (hq : q < 64) : bq (f_x_shifted S (nI d)) q = ob S (nbr q (opp d)) := shifted_bit S hd hq
theorem wid_bit (S E : Int64) {q : Nat} (hq : q < 64) : bq (f_x_widened S E) q = (bq S q || (nbB S q && bq E q)) := by
  have e : f_x_widened S E = S ||| ((((f_x_shifted S (nI 0) ||| f_x_shifted S (nI 2)) ||| f_x_shifted S (nI 1)) ||| f_x_shifted S (nI 3)) &&& E) := rfl
  rw [e, bq_or, bq_and, bq_or, bq_or, bq_or, sh_ob S (by decide) hq, sh_ob S (by decide) hq, sh_ob S (by decide) hq, sh_ob S (by decide) hq]
  unfold nbB
  show (bq S q || ((((ob S (nbr q 2) || ob S (nbr q 0)) || ob S (nbr q 3)) || ob S (nbr q 1)) && bq E q)) = _
  cases ob S (nbr q 0) <;> cases ob S (nbr q 1) <;> cases ob S (nbr q 2) <;> cases ob S (nbr q 3) <;> rfl
def SP (fr S : Int64) : Int64 := (((((S ||| (jushrL S (8 : Int32))) ||| (jshlL S (8 : Int32))) ||| ((jshlL S (1 : Int32)) &&& (-72340172838076674 : Int64))) ||| ((jushrL S (1 : Int32)) &&& (9187201950435737471 : Int64))) &&& fr)
theorem spread_m (S : Int64) (h : Hp) : f_m_spread S h = SP (h.2 39 8) S := rfl
theorem SP_bit (fr S : Int64) {q : Nat} (hq : q < 64) : bq (SP fr S) q = ((bq S q || nbB S q) && bq fr q) := by
  unfold SP
  rw [bq_and, bq_or, bq_or, bq_or, bq_or, bq_and, bq_and, bq_us8, bq_sh8 _ hq, bq_sh1 _ hq, bq_us1, mask_l q hq, mask_r q hq]
  unfold nbB
  have a0 : ob S (nbr q 0) = (decide (8 ≤ q) && bq S (q - 8)) := by
    show ob S (if 8 ≤ q then some (q - 8) else none) = _
    by_cases h : 8 ≤ q <;> simp [h, ob]
  have a1 : ob S (nbr q 1) = (bq S (1 + q) && decide (q % 8 < 7)) := by
    show ob S (if q % 8 < 7 then some (q + 1) else none) = _
    by_cases h : q % 8 < 7 <;> simp [h, ob, Nat.add_comm]
  have a2 : ob S (nbr q 2) = bq S (8 + q) := by
    show ob S (if q < 56 then some (q + 8) else none) = _
    by_cases h : q < 56
    · simp [h, ob, Nat.add_comm]
    · simp only [if_neg h, ob]; rw [bq_big (by omega)]
  have a3 : ob S (nbr q 3) = ((decide (1 ≤ q) && bq S (q - 1)) && decide (0 < q % 8)) := by
    show ob S (if 0 < q % 8 then some (q - 1) else none) = _
    by_cases h : 0 < q % 8
    · simp [h, ob, show 1 ≤ q by omega]
    · simp [h, ob]
  rw [a0, a1, a2, a3]
  generalize (decide (8 ≤ q) && bq S (q - 8)) = x0
  generalize (bq S (1 + q) && decide (q % 8 < 7)) = x1
  generalize bq S (8 + q) = x2
  generalize ((decide (1 ≤ q) && bq S (q - 1)) && decide (0 < q % 8)) = x3
  cases bq S q <;> cases x0 <;> cases x1 <;> cases x2 <;> cases x3 <;> rfl
theorem wid_SP {fr S : Int64} (h : sub S fr) : f_x_widened S fr = SP fr S := by
  apply bq_ext
  intro q hq
  rw [wid_bit _ _ hq, SP_bit _ _ hq]
  cases hs : bq S q with
  | false => simp
  | true => simp [h q hq hs]
theorem SP_sub (fr S : Int64) : sub (SP fr S) fr := by
  intro q hq h
  rw [SP_bit _ _ hq, Bool.and_eq_true] at h
  exact h.2
theorem ob_or (S T : Int64) (o : Option Nat) : ob (S ||| T) o = (ob S o || ob T o) := by
  cases o with
  | none => rfl
  | some c => exact bq_or S T c
theorem ob_0 (o : Option Nat) : ob 0 o = false := by
  cases o with
  | none => rfl
  | some c => exact bq_0 c
theorem nbB_or (S T : Int64) (q : Nat) : nbB (S ||| T) q = (nbB S q || nbB T q) := by
  unfold nbB
  simp only [ob_or]
  cases ob S (nbr q 0) <;> cases ob S (nbr q 1) <;> cases ob S (nbr q 2) <;> cases ob S (nbr q 3) <;> cases ob T (nbr q 0) <;> cases ob T (nbr q 1) <;> cases ob T (nbr q 2) <;> rfl
theorem nbB_0 (q : Nat) : nbB 0 q = false := by simp [nbB, ob_0]
theorem SP_or (fr S T : Int64) : SP fr (S ||| T) = SP fr S ||| SP fr T := by
  apply bq_ext
  intro q hq
  rw [bq_or, SP_bit _ _ hq, SP_bit _ _ hq, SP_bit _ _ hq, bq_or, nbB_or]
  cases bq S q <;> cases bq T q <;> cases nbB S q <;> cases nbB T q <;> simp
theorem SP_0 (fr : Int64) : SP fr 0 = 0 := by
  apply bq_ext
  intro q hq
  rw [SP_bit _ _ hq, nbB_0, bq_0]; rfl
/-! blocking -/
def nearer (c d k : Nat) : Bool := match d with
  | 0 => decide (k / 8 < c / 8)
  | 1 => decide (c % 8 < k % 8)
  | 2 => decide (c / 8 < k / 8)
  | _ => decide (k % 8 < c % 8)
theorem behind_bit : ∀ c, c < 64 → ∀ d, d < 4 → ∀ q, q < 64 → bq (f_x_behind (nI c) (nI d)) q = nearer q d c := by decide +kernel
theorem apart_m : ∀ a, a < 64 → ∀ b, b < 64 → f_m_apart (nI a) (nI b) = nI ((a % 8 - b % 8) + (b % 8 - a % 8) + ((a / 8 - b / 8) + (b / 8 - a / 8))) := by decide +kernel
def CL (N : Nat → Int64) (fr S : Int64) : Int64 := S ||| orF (fun d => f_x_shifted (S &&& N d) (nI d) &&& fr) 4
theorem CL_bit (N : Nat → Int64) (fr S : Int64) {q : Nat} (hq : q < 64) : bq (CL N fr S) q = true ↔ bq S q = true ∨ (bq fr q = true ∧ ∃ d c, d < 4 ∧ c < 64 ∧ nbr c d = some q ∧ bq S c = true ∧ bq (N d) c = true) := by
  unfold CL
  rw [bq_or, Bool.or_eq_true, bq_orF]
  constructor
  · rintro (h | ⟨d, hd, h⟩)
    · exact Or.inl h
    · right
      rw [bq_and, Bool.and_eq_true, sh_ob _ hd hq] at h
      obtain ⟨h1, h2⟩ := h
      refine ⟨h2, d, ?_⟩
      cases hn : nbr q (opp d) with
      | none => rw [hn] at h1; cases h1
      | some c =>
        rw [hn] at h1
        have h1 : bq (S &&& N d) c = true := h1
        rw [bq_and, Bool.and_eq_true] at h1
        have od : opp d < 4 := by match d, hd with
          | 0, _ => decide
          | 1, _ => decide
          | 2, _ => decide
          | 3, _ => decide
        have hc := nbr_lt64 hq od hn
        exact ⟨c, hd, hc, (opp_iff c hc d hd q hq).mpr hn, h1.1, h1.2⟩
  · rintro (h | ⟨h1, d, c, hd, hc, hn, h2, h3⟩)
    · exact Or.inl h
    · right
      refine ⟨d, hd, ?_⟩
      rw [bq_and, h1, sh_ob _ hd hq, (opp_iff c hc d hd q hq).mp hn, Bool.and_true]
      show bq (S &&& N d) c = true
      rw [bq_and, h2, h3]; rfl
theorem CL_or (N : Nat → Int64) (fr S T : Int64) : CL N fr (S ||| T) = CL N fr S ||| CL N fr T := by
  apply bq_ext
  intro q hq
  rw [Bool.eq_iff_iff, bq_or, Bool.or_eq_true, CL_bit _ _ _ hq, CL_bit _ _ _ hq, CL_bit _ _ _ hq, bq_or, Bool.or_eq_true]
  constructor
  · rintro ((h | h) | ⟨h1, d, c, hd, hc, hn, h2, h3⟩)
    · exact Or.inl (Or.inl h)
    · exact Or.inr (Or.inl h)
    · rw [bq_or, Bool.or_eq_true] at h2
      rcases h2 with h2 | h2
      · exact Or.inl (Or.inr ⟨h1, d, c, hd, hc, hn, h2, h3⟩)
      · exact Or.inr (Or.inr ⟨h1, d, c, hd, hc, hn, h2, h3⟩)
  · rintro ((h | ⟨h1, d, c, hd, hc, hn, h2, h3⟩) | (h | ⟨h1, d, c, hd, hc, hn, h2, h3⟩))
    · exact Or.inl (Or.inl h)
    · exact Or.inr ⟨h1, d, c, hd, hc, hn, by rw [bq_or, h2]; rfl, h3⟩
    · exact Or.inl (Or.inr h)
    · exact Or.inr ⟨h1, d, c, hd, hc, hn, by rw [bq_or, h2, Bool.or_true], h3⟩
theorem CL_0 (N : Nat → Int64) (fr : Int64) : CL N fr 0 = 0 := by
  apply bq_ext
  intro q hq
  rw [bq_0, ← Bool.not_eq_true, CL_bit _ _ _ hq, bq_0]
  rintro (h | ⟨h1, d, c, hd, hc, hn, h2, h3⟩)
  · cases h
  · rw [bq_0] at h2; cases h2
theorem CL_sub {N : Nat → Int64} {fr S : Int64} (h : sub S fr) : sub (CL N fr S) fr := by
  intro q hq e
  rcases (CL_bit _ _ _ hq).mp e with e | e
  · exact h q hq e
  · exact e.1
def it (f : Int64 → Int64) : Nat → Int64 → Int64
  | 0, s => s
  | n + 1, s => f (it f n s)
def stp (k : Nat) (N : Nat → Int64) (fr S : Int64) : Int64 := match k with
  | 0 => S
  | 1 => SP fr S
  | 2 => SP fr (SP fr S)
  | _ => CL N fr S
def CB (k : Nat) (N : Nat → Int64) (fr : Int64) (t : Nat) (S : Int64) : Int64 := it (stp k N fr) t S
theorem stp_or (k : Nat) (N : Nat → Int64) (fr S T : Int64) : stp k N fr (S ||| T) = stp k N fr S ||| stp k N fr T := by
  match k with
  | 0 => rfl
  | 1 => exact SP_or fr S T
  | 2 => show SP fr (SP fr (S ||| T)) = _; rw [SP_or, SP_or]; rfl
  | k + 3 => exact CL_or N fr S T
theorem stp_0 (k : Nat) (N : Nat → Int64) (fr : Int64) : stp k N fr 0 = 0 := by
  match k with
  | 0 => rfl
  | 1 => exact SP_0 fr
  | 2 => show SP fr (SP fr 0) = _; rw [SP_0, SP_0]
  | k + 3 => exact CL_0 N fr
theorem stp_sub (k : Nat) {N : Nat → Int64} {fr S : Int64} (h : sub S fr) : sub (stp k N fr S) fr := by
  match k with
  | 0 => exact h
  | 1 => exact SP_sub fr S
  | 2 => exact SP_sub fr _
  | k + 3 => exact CL_sub h
theorem CB_or (k : Nat) (N : Nat → Int64) (fr : Int64) (t : Nat) (S T : Int64) : CB k N fr t (S ||| T) = CB k N fr t S ||| CB k N fr t T := by
  unfold CB
  induction t with
  | zero => rfl
  | succ t ih => rw [it, ih, stp_or]; rfl
theorem CB_0 (k : Nat) (N : Nat → Int64) (fr : Int64) (t : Nat) : CB k N fr t 0 = 0 := by
  unfold CB
  induction t with
  | zero => rfl
  | succ t ih => rw [it, ih, stp_0]
theorem CB_sub (k : Nat) {N : Nat → Int64} {fr : Int64} (t : Nat) {S : Int64} (h : sub S fr) : sub (CB k N fr t S) fr := by
  unfold CB
  induction t with
  | zero => exact h
  | succ t ih => exact stp_sub k ih
/-! the reference's -/
theorem enc9 (o : Option Nat) (ho : ∀ p, o = some p → p < 64) : encI o = (-9 : Int32) ↔ o = none := by
  cases o with
  | none => exact ⟨fun _ => rfl, fun _ => rfl⟩
  | some p => exact ⟨fun z => absurd z (encI_9 (ho p rfl)), fun z => by cases z⟩
theorem near_iff : ∀ c, c < 64 → ∀ d, d < 4 → ∀ k, k < 64 → (match nbr c d with
  | some o => decide (((o % 8 - k % 8) + (k % 8 - o % 8) + ((o / 8 - k / 8) + (k / 8 - o / 8))) < ((c % 8 - k % 8) + (k % 8 - c % 8) + ((c / 8 - k / 8) + (k / 8 - c / 8)))) == nearer c d k
  | none => true) = true := by decide +kernel
