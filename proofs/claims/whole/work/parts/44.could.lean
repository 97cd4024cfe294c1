/-! ===== close, couldBe of the reference ===== -/
/-- carriers' cells, and what the nearing sets hold -/
def NearOf (h : Hp) (nc : Nat) (cs : Nat → Nat) (N : Nat → Int64) : Prop := nc ≤ 2 ∧ h.1 39 15 = nI nc ∧ (∀ k, k < nc → cs k < 64 ∧ h.1 45 k = nI (cs k)) ∧ ∀ d, d < 4 → ∀ c, c < 64 → bq (N d) c = exB (fun k => nearer c d (cs k)) nc
theorem close6 {h : Hp} {nc : Nat} {cs : Nat → Nat} {N : Nat → Int64} (HN : NearOf h nc cs N) {c d : Nat} (hc : c < 64) (hd : d < 4) (S l3 : Int64) (l6 : Int32) (k : Int32 → Int32 → Option Int64) (o : Option Nat) (ho : ∀ p, o = some p → nbr c d = some p) : ∃ z, f_m_close_L_6 S l3 (nI c) l6 (encI o) h k 1000 0 0 = k (bI (o.isSome && bq (N d) c)) z := by
  obtain ⟨n2, e, hcs, hN⟩ := HN
  have ho64 : ∀ p, o = some p → p < 64 := fun p e => nbr_lt64 hc hd (ho p e)
  cases o with
  | none =>
    refine ⟨0, ?_⟩
    rw [f_m_close_L_6]
    by_cases h0 : h.1 39 15 ≤ 0
    · rw [if_pos h0]; rfl
    · rw [if_neg h0, if_pos rfl]; rfl
  | some p =>
    refine ⟨nI nc, ?_⟩
    have hp := ho p rfl
    have hp64 := ho64 p rfl
    rw [hN d hd c hc]
    refine lp0 (fun f s => f_m_close_L_6 S l3 (nI c) l6 (encI (some p)) h k f s.1 s.2) nc (fun i => (bI (exB (fun k => nearer c d (cs k)) i), nI i)) _ (by omega) (fun f => ?_) (fun f i hi => ?_)
    · simp only
      rw [f_m_close_L_6, e, if_pos ((leN (by omega) (by omega)).mpr (Nat.le_refl _))]
      rfl
    · simp only
      obtain ⟨c1, c2⟩ := hcs i hi
      rw [f_m_close_L_6, e, if_neg (fun q => absurd ((leN (by omega) (by omega)).mp q) (by omega)), if_neg (encI_9 hp64), xin_nI (n := 6) (by omega) (by decide), clampc (by omega), nI_1, c2]
      have ne := near_iff c hc d hd (cs i) c1
      rw [hp] at ne
      simp only [beq_iff_eq] at ne
      have a1 := apart_m c hc (cs i) c1
      have a2 := apart_m p hp64 (cs i) c1
      show _ = f_m_close_L_6 S l3 (nI c) l6 (encI (some p)) h k f (bI (exB (fun k => nearer c d (cs k)) i || nearer c d (cs i))) (nI (i + 1))
      cases exB (fun k => nearer c d (cs k)) i with
      | true => rw [if_neg (by decide)]; rfl
      | false =>
        rw [if_pos (by rfl)]
        simp only [Bool.and_true, xgd_true, Bool.false_or]
        rw [← ne, a1]
        show f_m_close_L_6 S l3 (nI c) l6 (encI (some p)) h k f (if _ ≤ f_m_apart (nI p) (nI (cs i)) then (0 : Int32) else 1) (nI (i + 1)) = _
        rw [a2]
        have b1 : ∀ a, a < 64 → ∀ b, b < 64 → (a % 8 - b % 8) + (b % 8 - a % 8) + ((a / 8 - b / 8) + (b / 8 - a / 8)) < 2 ^ 31 := by
          intro a ha b hb; omega
        have b2 := b1 p hp64 (cs i) c1
        have b3 := b1 c hc (cs i) c1
        generalize (c % 8 - cs i % 8) + (cs i % 8 - c % 8) + ((c / 8 - cs i / 8) + (cs i / 8 - c / 8)) = x at *
        generalize (p % 8 - cs i % 8) + (cs i % 8 - p % 8) + ((p / 8 - cs i / 8) + (cs i / 8 - p / 8)) = y at *
        by_cases q : y < x
        · rw [if_neg (fun z => by rw [leN b3 b2] at z; omega), decide_eq_true q]; rfl
        · rw [if_pos ((leN b3 b2).mpr (by omega)), decide_eq_false q]; rfl
def clT (w g : Nat) (N : Nat → Int64) (fr : Int64) (c d : Nat) : Int64 := match nbw w g c d with
  | some o => if bq (N d) c && bq fr o then one o else 0
  | none => 0
theorem close3 {h : Hp} {w g nc : Nat} {cs : Nat → Nat} {N : Nat → Int64} (HN : NearOf h nc cs N) (H : RHl h w g) {c : Nat} (hc : c < 64) (S : Int64) (hb : bq S c = true) (k : Int64 → Int32 → Option Int64) (acc : Int64) : f_m_close_L_3 S (nI c) h k 1000 acc 0 = k (acc ||| orF (clT w g N (h.2 39 8) c) 4) (nI 4) := by
  obtain ⟨⟨w1, w2, g1, g2⟩, ⟨e1, e2⟩, -⟩ := H
  have := lp0 (fun f s => f_m_close_L_3 S (nI c) h k f s.1 s.2) 4 (fun i => (acc ||| orF (clT w g N (h.2 39 8) c) i, nI i)) (k (acc ||| orF (clT w g N (h.2 39 8) c) 4) (nI 4)) (by omega) (fun f => ?_) (fun f i hi => ?_)
  · simp only [orF, or_0] at this
    exact this
  · simp only
    rw [f_m_close_L_3, if_pos (by decide)]
  · simp only
    rw [f_m_close_L_3, if_neg (nleL 4 hi), tst_s hc, hb, if_pos (by decide), m_beside e1 e2 (by omega) (by omega) hc hi]
    obtain ⟨z, hz⟩ := close6 HN hc hi S (acc ||| orF (clT w g N (h.2 39 8) c) i) (nI i) (fun l8_14 l9_15 => f_m_close_j_16 (f_m_close_L_3 S (nI c) h k f) k S (acc ||| orF (clT w g N (h.2 39 8) c) i) (nI c) (nI i) (encI (nbw w g c i)) l8_14 h) (nbw w g c i) (fun p e => (nbw_some e).1)
    rw [hz]
    unfold f_m_close_j_16
    rw [nI_1, orF, ← or_as]
    congr 2
    unfold clT
    cases hn : nbw w g c i with
    | none => rfl
    | some p =>
      have hp := nbr_lt64 hc hi (nbw_some hn).1
      show (if bI (true && bq (N i) c) = 0 then (0 : Int64) else if f_m_isFree (nI p) h = 0 then 0 else jshlL 1 (nI p)) = (if (bq (N i) c && bq (h.2 39 8) p) = true then one p else 0)
      rw [isFree_m hp]
      cases bq (N i) c with
      | false => rfl
      | true =>
        cases bq (h.2 39 8) p with
        | false => rfl
        | true => rfl
theorem close_m {h : Hp} {w g nc : Nat} {cs : Nat → Nat} {N : Nat → Int64} (HN : NearOf h nc cs N) (H : RHl h w g) (S : Int64) : f_m_close S h = some (CL N (h.2 39 8) S) := by
  unfold f_m_close
  have key : f_m_close_L_1 S h (fun l3_23 l5_24 => some l3_23) 1000 S 0 = some (S ||| orF (fun c => if bq S c then orF (clT w g N (h.2 39 8) c) 4 else 0) 64) := by
    have := lp0 (fun f s => f_m_close_L_1 S h (fun l3_23 l5_24 => some l3_23) f s.1 s.2) 64 (fun i => (S ||| orF (fun c => if bq S c then orF (clT w g N (h.2 39 8) c) 4 else 0) i, nI i)) (some (S ||| orF (fun c => if bq S c then orF (clT w g N (h.2 39 8) c) 4 else 0) 64)) (by omega) (fun f => ?_) (fun f i hi => ?_)
    · simp only [orF, or_0] at this
      exact this
    · simp only
      rw [f_m_close_L_1, if_pos (by decide)]
    · simp only
      rw [f_m_close_L_1, if_neg (nleL 64 hi), nI_1]
      rw [orF, ← or_as]
      cases hb : bq S i with
      | true => rw [close3 HN H hi S hb]; rfl
      | false =>
        rw [f_m_close_L_3, if_neg (by decide), tst_s hi, hb, if_neg (by decide)]
        show _ = f_m_close_L_1 S h _ f (_ ||| 0) _
        rw [or_0]
  rw [key]
  congr 1
  apply bq_ext
  intro q hq
  rw [Bool.eq_iff_iff, CL_bit _ _ _ hq, bq_or, Bool.or_eq_true, bq_orF]
  have hsub := H.2.2.2.1.2
  constructor
  · rintro (h1 | ⟨c, hc, h1⟩)
    · exact Or.inl h1
    · right
      cases hb : bq S c with
      | false => rw [hb] at h1; simp [bq_0] at h1
      | true =>
        rw [hb, if_pos rfl, bq_orF] at h1
        obtain ⟨d, hd, h2⟩ := h1
        unfold clT at h2
        cases hn : nbw w g c d with
        | none => rw [hn] at h2; simp [bq_0] at h2
        | some p =>
          rw [hn] at h2
          have hp := nbr_lt64 hc hd (nbw_some hn).1
          cases hx : (bq (N d) c && bq (h.2 39 8) p) with
          | false => simp [hx, bq_0] at h2
          | true =>
            simp only [hx, if_true] at h2
            rw [bq_onec hp hq] at h2
            have := of_decide_eq_true h2
            subst this
            rw [Bool.and_eq_true] at hx
            exact ⟨hx.2, d, c, hd, hc, (nbw_some hn).1, hb, hx.1⟩
  · rintro (h1 | ⟨h1, d, c, hd, hc, hn, h2, h3⟩)
    · exact Or.inl h1
    · right
      refine ⟨c, hc, ?_⟩
      rw [h2, if_pos rfl, bq_orF]
      refine ⟨d, hd, ?_⟩
      unfold clT
      have hw : nbw w g c d = some q := by
        unfold nbw
        rw [hn]
        have := hsub q hq h1
        simp [inHall, this.1, this.2]
      rw [hw]
      simp only [h1, h3, Bool.and_true, if_true]
      rw [bq_onec hq hq]; simp
theorem couldBe_m {h : Hp} {w g nc : Nat} {cs : Nat → Nat} {N : Nat → Int64} (HN : NearOf h nc cs N) (H : RHl h w g) {k t : Nat} (hk : k < 4) (ht : t ≤ 20) (S : Int64) : f_m_couldBe (nI k) S (nI t) h = some (CB k N (h.2 39 8) t S) := by
  unfold f_m_couldBe
  refine lp0 (fun f s => f_m_couldBe_L_1 (nI k) (nI t) h (fun l5_14 l7_15 => some l5_14) f s.1 s.2) t (fun i => (CB k N (h.2 39 8) i S, nI i)) _ (by omega) (fun f => ?_) (fun f i hi => ?_)
  · simp only
    rw [f_m_couldBe_L_1, if_pos ((leN (by omega) (by omega)).mpr (Nat.le_refl _))]
  · simp only
    rw [f_m_couldBe_L_1, if_neg (fun q => absurd ((leN (by omega) (by omega)).mp q) (by omega)), nI_1]
    show _ = f_m_couldBe_L_1 (nI k) (nI t) h _ f (stp k N (h.2 39 8) (CB k N (h.2 39 8) i S)) (nI (i + 1))
    match k, hk with
    | 0, _ => rw [if_pos (by decide)]; rfl
    | 1, _ => rw [if_neg (by decide), if_pos (by decide)]; rfl
    | 2, _ => rw [if_neg (by decide), if_neg (by decide), if_pos (by decide)]; rfl
    | 3, _ => rw [if_neg (by decide), if_neg (by decide), if_neg (by decide), close_m HN H, xbd1_some]; rfl
