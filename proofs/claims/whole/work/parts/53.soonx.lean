/-! ===== soonest: the class ===== -/
def OTH (h : Hp) (nc k : Nat) : Int64 := orF (fun i => if i = k then 0 else jshlL 1 (h.1 45 i)) nc
def EF (h : Hp) (w g np nc k t : Nat) : Int64 := (h.2 39 8 &&& (OTH h nc k ^^^ -1)) &&& (ANY h w g np nc k t ^^^ -1)
theorem EF_sub (h : Hp) (w g np nc k t : Nat) : sub (EF h w g np nc k t) (h.2 39 8) := by
  intro q hq e
  unfold EF at e
  rw [bq_and, bq_and, Bool.and_eq_true, Bool.and_eq_true] at e
  exact e.1.1
theorem open_eq {h : Hp} {w g np nc nl tk : Nat} (HH : RHl h w g) (H : RNow h w g np nc nl tk) {k : Nat} (hk : k < nc) : h.2 2 5 &&& ((rowSet h 9 0 nc ^^^ -1) ||| jshlL 1 (nI (csF h k))) = h.2 39 8 &&& (OTH h nc k ^^^ -1) := by
  rw [HH.2.2.2.1.1]
  apply bq_ext
  intro q hq
  rw [bq_and, bq_and, bq_or, bq_not _ hq, bq_not _ hq, bq_one (car H hk).1.1 hq]
  congr 1
  have e1 : bq (rowSet h 9 0 nc) q = true ↔ ∃ i, i < nc ∧ csF h i = q := by
    rw [bq_row (fun i hi => ⟨csF h i, (car H hi).1.1, by rw [Nat.zero_add]; exact (car H hi).2.1.1⟩) hq]
    constructor
    · rintro ⟨i, hi, e⟩
      rw [Nat.zero_add, (car H hi).2.1.1] at e
      exact ⟨i, hi, (nI_eq (by have := (car H hi).1.1; omega) (by omega)).mp e⟩
    · rintro ⟨i, hi, e⟩
      exact ⟨i, hi, by rw [Nat.zero_add, (car H hi).2.1.1, e]⟩
  have e2 : bq (OTH h nc k) q = true ↔ ∃ i, i < nc ∧ i ≠ k ∧ csF h i = q := by
    unfold OTH
    rw [bq_orF]
    constructor
    · rintro ⟨i, hi, e⟩
      by_cases hik : i = k
      · rw [if_pos hik, bq_0] at e; cases e
      · rw [if_neg hik, (car H hi).2.1.2, bq_one (car H hi).1.1 hq, decide_eq_true_eq] at e
        exact ⟨i, hi, hik, e.symm⟩
    · rintro ⟨i, hi, hik, e⟩
      refine ⟨i, hi, ?_⟩
      rw [if_neg hik, (car H hi).2.1.2, e, bq_one hq hq]; simp
  by_cases hq2 : q = csF h k
  · have : ¬ bq (OTH h nc k) q = true := by
      rw [e2]
      rintro ⟨i, hi, hik, e⟩
      exact hik (H.1.2.2.2.2.2.2.2.2 i k hi hk (by simp only [Nat.mul_zero, Nat.zero_add]; rw [(car H hi).2.1.2, (car H hk).2.1.2, e, hq2]))
    rw [Bool.not_eq_true] at this
    rw [this, decide_eq_true hq2, Bool.or_true]; rfl
  · rw [decide_eq_false hq2, Bool.or_false]
    congr 1
    rw [Bool.eq_iff_iff, e1, e2]
    constructor
    · rintro ⟨i, hi, e⟩
      exact ⟨i, hi, fun z => hq2 (by rw [← e, z]), e⟩
    · rintro ⟨i, hi, _, e⟩
      exact ⟨i, hi, e⟩
/-- the rows of ways -/
def ST (h : Hp) (V : Nat → Int64) : Hp := (h.1, fun a b => if a = 38 then V b else h.2 a b)
def updL (V : Nat → Int64) (j : Nat) (x : Int64) : Nat → Int64 := fun b => if b = j then x else V b
theorem ST_fr (h : Hp) (V : Nat → Int64) : Fr h (ST h V) := ⟨rfl, fun a _ _ h3 => by funext b; simp [ST, h3]⟩
theorem ST_id (h : Hp) : ST h (h.2 38) = h := by
  refine hp_ext2 rfl (fun a b => ?_)
  simp only [ST]
  by_cases e : a = 38
  · subst e; simp
  · simp [e]
theorem CR_st (h : Hp) (V : Nat → Int64) (A B C D : Int64) (N : Nat → Int64) (j : Nat) (x : Int64) : xL (CR (ST h V) A B C D N) 38 j x = CR (ST h (updL V j x)) A B C D N := by
  refine hp_ext2 rfl (fun a b => ?_)
  rw [xL_2]
  simp only [CR, ST, updL]
  by_cases e : a = 38
  · subst e; simp
  · simp [e]
theorem CRA_st (h : Hp) (V : Nat → Int64) (w g np nc k t j : Nat) (x : Int64) : xL (CRA (ST h V) w g np nc k t) 38 j x = CRA (ST h (updL V j x)) w g np nc k t := CR_st h V _ _ _ _ _ j x
theorem CRA_38 (h : Hp) (V : Nat → Int64) (w g np nc k t j : Nat) : (CRA (ST h V) w g np nc k t).2 38 j = V j := by
  simp [CRA, CR, ST]
def VV (h : Hp) (E : Nat → Int64) (s t b : Nat) : Int64 := if t ≤ 1 then h.2 38 b else if b < 5 then Ld E s b (t - 2) else h.2 38 b
def UU (h : Hp) (E : Nat → Int64) (s t i b : Nat) : Int64 := if b < i then Ld E s b (t - 1) else VV h E s t b
theorem UU_0 (h : Hp) (E : Nat → Int64) (s t : Nat) : UU h E s t 0 = VV h E s t := by
  funext b; simp [UU]
theorem UU_5 (h : Hp) (E : Nat → Int64) (s t : Nat) (ht : 1 ≤ t) : UU h E s t 5 = VV h E s (t + 1) := by
  funext b
  unfold UU VV
  by_cases h5 : b < 5
  · rw [if_pos h5, if_neg (by omega), if_pos h5]; rfl
  · rw [if_neg h5, if_neg h5, if_neg h5, ite_self, if_neg (by omega)]
theorem UU_s (h : Hp) (E : Nat → Int64) (s t i : Nat) : updL (UU h E s t i) i (Ld E s i (t - 1)) = UU h E s t (i + 1) := by
  funext b
  unfold updL UU
  by_cases hb : b = i
  · subst hb; rw [if_pos rfl, if_pos (by omega)]
  · rw [if_neg hb]
    by_cases h2 : b < i
    · rw [if_pos h2, if_pos (by omega)]
    · rw [if_neg h2, if_neg (by omega)]
/-- one first move at one tick: what is written, and whether the goal is in it -/
theorem soon_in {h : Hp} {w g np nc k s c t i : Nat} (E : Nat → Int64) (hs : s < 64) (hc : c < 64) (ht : 1 ≤ t ∧ t ≤ 20) (hi : i < 5) (what l7 : _) (K : Int32 → Hp → Option (Int32 × Hp)) (f : Nat) : f_x_soonestRow_L_10 (jshlL 1 (nI c)) what (jshlL 1 (nI s)) l7 (nI t) (E t) K (f + 1) (nI i) (CRA (ST h (UU h E s t i)) w g np nc k t) = if bq (Ld E s i (t - 1)) c = true then some ((if what = (0 : Int32) then nI t else nI i), CRA (ST h (UU h E s t (i + 1))) w g np nc k t) else f_x_soonestRow_L_10 (jshlL 1 (nI c)) what (jshlL 1 (nI s)) l7 (nI t) (E t) K f (nI (i + 1)) (CRA (ST h (UU h E s t (i + 1))) w g np nc k t) := by
  have fin : ∀ x : Int64, x = Ld E s i (t - 1) → f_x_soonestRow_j_17 (f_x_soonestRow_L_10 (jshlL 1 (nI c)) what (jshlL 1 (nI s)) l7 (nI t) (E t) K f) K (jshlL 1 (nI c)) what (jshlL 1 (nI s)) l7 (nI t) (E t) (nI i) (xL (CRA (ST h (UU h E s t i)) w g np nc k t) 38 i x) = if bq (Ld E s i (t - 1)) c = true then some ((if what = (0 : Int32) then nI t else nI i), CRA (ST h (UU h E s t (i + 1))) w g np nc k t) else f_x_soonestRow_L_10 (jshlL 1 (nI c)) what (jshlL 1 (nI s)) l7 (nI t) (E t) K f (nI (i + 1)) (CRA (ST h (UU h E s t (i + 1))) w g np nc k t) := by
    intro x hx
    subst hx
    unfold f_x_soonestRow_j_17
    rw [CRA_st, UU_s, xin_nI (n := 5) hi (by decide), clampc (by omega), CRA_38, nI_1]
    have e : UU h E s t (i + 1) i = Ld E s i (t - 1) := by unfold UU; rw [if_pos (by omega)]
    rw [e]
    simp only [Bool.and_true, xgd_true]
    cases hb : bq (Ld E s i (t - 1)) c with
    | false => rw [if_pos ((and_one hc).mpr hb), if_neg (by decide)]
    | true => rw [if_neg (fun z => by rw [and_one hc, hb] at z; cases z), if_pos rfl]
  rw [f_x_soonestRow_L_10, if_neg (by rw [ltI, tI 4, nI_toInt (by omega)]; omega), xin_nI (n := 5) hi (by decide), clampc (by omega)]
  simp only [Bool.and_true, xgd_true]
  by_cases h1 : t = 1
  · subst h1
    rw [if_pos (show nI 1 ≤ (1 : Int32) by decide)]
    refine fin _ ?_
    show (if nI i = (4 : Int32) then one s else f_x_shifted (one s) (nI i) &&& E 1) = if i = 4 then one s else f_x_shifted (one s) (nI i) &&& E 1
    by_cases e : i = 4
    · subst e; rfl
    · rw [if_neg e, if_neg (neL 4 e (by omega))]
  · rw [if_neg (by rw [leI, tI 1, nI_toInt (by omega)]; omega)]
    refine fin _ ?_
    rw [CRA_38]
    have e : UU h E s t i i = Ld E s i (t - 2) := by unfold UU VV; rw [if_neg (by omega), if_neg (by omega), if_pos hi]
    rw [e]
    obtain ⟨t', rfl⟩ : ∃ t', t = t' + 2 := ⟨t - 2, by omega⟩
    rfl
theorem soon_row {h : Hp} {w g np nc k s c t : Nat} (E : Nat → Int64) (hs : s < 64) (hc : c < 64) (ht : 1 ≤ t ∧ t ≤ 20) (what : Int32) (l7 : Int64) (K : Int32 → Hp → Option (Int32 × Hp)) (hno : ∀ f, f < 5 → bq (Ld E s f (t - 1)) c = false) : f_x_soonestRow_L_10 (jshlL 1 (nI c)) what (jshlL 1 (nI s)) l7 (nI t) (E t) K 1000 0 (CRA (ST h (VV h E s t)) w g np nc k t) = K (nI 5) (CRA (ST h (VV h E s (t + 1))) w g np nc k t) := by
  have := lp0 (fun f s2 => f_x_soonestRow_L_10 (jshlL 1 (nI c)) what (jshlL 1 (nI s)) l7 (nI t) (E t) K f s2.1 s2.2) 5 (fun i => (nI i, CRA (ST h (UU h E s t i)) w g np nc k t)) (K (nI 5) (CRA (ST h (VV h E s (t + 1))) w g np nc k t)) (by omega) (fun f => ?_) (fun f i hi => ?_)
  · simp only [UU_0] at this
    exact this
  · simp only
    rw [f_x_soonestRow_L_10, if_pos (by decide), UU_5 _ _ _ _ ht.1]
  · simp only
    rw [soon_in E hs hc ht hi, if_neg (by rw [hno i hi]; decide)]
theorem soon_hit {h : Hp} {w g np nc k s c t f0 : Nat} (E : Nat → Int64) (hs : s < 64) (hc : c < 64) (ht : 1 ≤ t ∧ t ≤ 20) (what : Int32) (l7 : Int64) (K : Int32 → Hp → Option (Int32 × Hp)) (h5 : f0 < 5) (hit : bq (Ld E s f0 (t - 1)) c = true) (hno : ∀ f, f < f0 → bq (Ld E s f (t - 1)) c = false) : f_x_soonestRow_L_10 (jshlL 1 (nI c)) what (jshlL 1 (nI s)) l7 (nI t) (E t) K 1000 0 (CRA (ST h (VV h E s t)) w g np nc k t) = some ((if what = (0 : Int32) then nI t else nI f0), CRA (ST h (UU h E s t (f0 + 1))) w g np nc k t) := by
  have := lp0 (fun f s2 => f_x_soonestRow_L_10 (jshlL 1 (nI c)) what (jshlL 1 (nI s)) l7 (nI t) (E t) K f s2.1 s2.2) f0 (fun i => (nI i, CRA (ST h (UU h E s t i)) w g np nc k t)) (some ((if what = (0 : Int32) then nI t else nI f0), CRA (ST h (UU h E s t (f0 + 1))) w g np nc k t)) (by omega) (fun f => ?_) (fun f i hi => ?_)
  · simp only [UU_0] at this
    exact this
  · simp only
    rw [soon_in E hs hc ht h5, if_pos hit]
  · simp only
    rw [soon_in E hs hc ht (by omega), if_neg (by rw [hno i hi]; decide)]
theorem soon_tick {h : Hp} {w g np nc nl tk no : Nat} (HB : RB h w g np nc nl tk no) {k c t : Nat} (ht : 1 ≤ t ∧ t ≤ 20) (what : Int32) (l5 : Int64) (K : Int32 → Hp → Option (Int32 × Hp)) (f : Nat) (V : Nat → Int64) : f_x_soonestRow_L_5 (jshlL 1 (nI c)) what l5 (h.2 39 8 &&& (OTH h nc k ^^^ -1)) K (f + 1) (nI t) (CRA (ST h V) w g np nc k (t - 1)) = f_x_soonestRow_L_10 (jshlL 1 (nI c)) what l5 (h.2 39 8 &&& (OTH h nc k ^^^ -1)) (nI t) (EF h w g np nc k t) (fun l12_23 h_24 => f_x_soonestRow_L_5 (jshlL 1 (nI c)) what l5 (h.2 39 8 &&& (OTH h nc k ^^^ -1)) K f (nI (t + 1)) h_24) 1000 0 (CRA (ST h V) w g np nc k t) := by
  have F := ST_fr h V
  obtain ⟨K0, K1, K2, -⟩ := F.rb HB
  have ay := afterAny_x K2 k (t - 1) (s := 1) (by decide)
  have ay : f_crowd_afterTicks 1 ((ST h V).2 39 8) _ = _ := ay
  have e1 : t - 1 + 1 = t := by omega
  rw [e1] at ay
  rw [f_x_soonestRow_L_5, if_neg (by rw [ltI, tI 20, nI_toInt (by omega)]; omega), CRA_25 K1, ay, xbd2_some, nI_1, ANY_fr F]
  rfl
theorem ld_or {E : Nat → Int64} {s c t : Nat} (hs : s < 64) (ht : 1 ≤ t) : bq (Rr E s t) c = true ↔ ∃ f, f < 5 ∧ bq (Ld E s f (t - 1)) c = true := by
  obtain ⟨t', rfl⟩ : ∃ t', t = t' + 1 := ⟨t - 1, by omega⟩
  rw [R_L E hs, bq_orF]
  rfl
theorem soonRow_x {h : Hp} {w g np nc nl tk no : Nat} (HB : RB h w g np nc nl tk no) {k c : Nat} (hk : k < nc) (hc : c < 64) (what : Int32) :
    (∀ T f0, 1 ≤ T → T ≤ 20 → bq (Rr (EF h w g np nc k) (csF h k) T) c = true → (∀ t, 1 ≤ t → t < T → bq (Rr (EF h w g np nc k) (csF h k) t) c = false) → f0 < 5 → bq (Ld (EF h w g np nc k) (csF h k) f0 (T - 1)) c = true → (∀ f, f < f0 → bq (Ld (EF h w g np nc k) (csF h k) f (T - 1)) c = false) → ∃ h', f_x_soonestRow (nI k) (jshlL 1 (nI c)) what h = some ((if what = (0 : Int32) then nI T else nI f0), h') ∧ Fr h h') ∧
    ((∀ t, 1 ≤ t → t ≤ 20 → bq (Rr (EF h w g np nc k) (csF h k) t) c = false) → ∃ h', f_x_soonestRow (nI k) (jshlL 1 (nI c)) what h = some (-9, h') ∧ Fr h h') := by
  obtain ⟨H0, H1, H2, -⟩ := id HB
  have n2 := H2.1.1.2.1
  obtain ⟨c1, ⟨c2, c3⟩, c4⟩ := car H2 hk
  generalize hE : EF h w g np nc k = E at *
  generalize hs : csF h k = s at *
  have s64 := c1.1
  have start : ∀ R, f_x_soonestRow_L_5 (jshlL 1 (nI c)) what (jshlL 1 (nI s)) (h.2 39 8 &&& (OTH h nc k ^^^ -1)) (fun l9_25 h_26 => some ((-9 : Int32), h_26)) 1000 (nI 1) (CRA (ST h (VV h E s 1)) w g np nc k 0) = R → f_x_soonestRow (nI k) (jshlL 1 (nI c)) what h = R := by
    intro R hR
    unfold f_x_soonestRow
    have oe := open_eq H1 H2 hk
    rw [hs] at oe
    rw [xin_nI (n := 2) (by omega) (by decide), clampc (by omega), c2, cTaken_x n2 H2.1.2.1.2.1, xbd1_some, gatherAny_x H1 H2 hk, xbd1_some, oe, ← hR]
    have e : VV h E s 1 = h.2 38 := by funext b; simp [VV]
    rw [e, ST_id]
    rfl
  have stp1 : ∀ (n i : Nat), i + 1 ≤ 20 → bq (Rr E s (i + 1)) c = false → f_x_soonestRow_L_5 (jshlL 1 (nI c)) what (jshlL 1 (nI s)) (h.2 39 8 &&& (OTH h nc k ^^^ -1)) (fun l9_25 h_26 => some ((-9 : Int32), h_26)) (n + 1) (nI (i + 1)) (CRA (ST h (VV h E s (i + 1))) w g np nc k i) = f_x_soonestRow_L_5 (jshlL 1 (nI c)) what (jshlL 1 (nI s)) (h.2 39 8 &&& (OTH h nc k ^^^ -1)) (fun l9_25 h_26 => some ((-9 : Int32), h_26)) n (nI (i + 1 + 1)) (CRA (ST h (VV h E s (i + 1 + 1))) w g np nc k (i + 1)) := by
    intro n i hi hno
    have := soon_tick HB (k := k) (c := c) (t := i + 1) ⟨by omega, hi⟩ what (jshlL 1 (nI s)) (fun l9_25 h_26 => some ((-9 : Int32), h_26)) n (VV h E s (i + 1))
    have e1 : i + 1 - 1 = i := by omega
    rw [e1] at this
    rw [this, hE]
    rw [soon_row E s64 hc ⟨by omega, hi⟩]
    intro f hf
    cases hb : bq (Ld E s f (i + 1 - 1)) c with
    | false => rfl
    | true => rw [(ld_or s64 (by omega)).mpr ⟨f, hf, hb⟩] at hno; cases hno
  constructor
  · intro T f0 T1 T20 hT hmin h5 hit hfst
    have := lp0 (fun f s2 => f_x_soonestRow_L_5 (jshlL 1 (nI c)) what (jshlL 1 (nI s)) (h.2 39 8 &&& (OTH h nc k ^^^ -1)) (fun l9_25 h_26 => some ((-9 : Int32), h_26)) f s2.1 s2.2) (T - 1) (fun i => (nI (i + 1), CRA (ST h (VV h E s (i + 1))) w g np nc k i)) (some ((if what = (0 : Int32) then nI T else nI f0), CRA (ST h (UU h E s T (f0 + 1))) w g np nc k T)) (by omega) (fun f => ?_) (fun f i hi => ?_)
    · refine ⟨_, start _ this, (ST_fr h _).tr (CRA_fr _ w g np nc k T)⟩
    · simp only
      have e1 : T - 1 + 1 = T := by omega
      rw [e1]
      have := soon_tick HB (k := k) (c := c) (t := T) ⟨T1, T20⟩ what (jshlL 1 (nI s)) (fun l9_25 h_26 => some ((-9 : Int32), h_26)) f (VV h E s T)
      rw [this, hE, soon_hit E s64 hc ⟨T1, T20⟩ what _ _ h5 hit hfst]
    · simp only
      exact stp1 f i (by omega) (hmin (i + 1) (by omega) (by omega))
  · intro hno
    have := lp0 (fun f s2 => f_x_soonestRow_L_5 (jshlL 1 (nI c)) what (jshlL 1 (nI s)) (h.2 39 8 &&& (OTH h nc k ^^^ -1)) (fun l9_25 h_26 => some ((-9 : Int32), h_26)) f s2.1 s2.2) 20 (fun i => (nI (i + 1), CRA (ST h (VV h E s (i + 1))) w g np nc k i)) (some ((-9 : Int32), CRA (ST h (VV h E s 21)) w g np nc k 20)) (by omega) (fun f => ?_) (fun f i hi => ?_)
    · refine ⟨_, start _ this, (ST_fr h _).tr (CRA_fr _ w g np nc k 20)⟩
    · simp only
      rw [f_x_soonestRow_L_5, if_pos (by decide)]
    · simp only
      exact stp1 f i (by omega) (hno (i + 1) (by omega) (by omega))
