/-! ===== hall; a new object ===== -/
theorem RHl_of {h : Hp} {T : Nat → Nat} {n : Nat} (hT : ∀ i, T i < 256) (hu : upTo T n) (r0 : rI T n ≠ 0) (aw : wI T n ≤ aI T n) (e1 : h.2 2 4 = CSs T n) (e2 : h.2 2 5 = FRs T n) (e3 : h.2 39 8 = FRs T n) (e4 : h.1 39 3 = nI (wI T n)) (e5 : h.1 39 4 = nI (rI T n + 1)) (e6 : ∀ c, sn T n c → h.1 3 c = nI (SGn T n c) ∧ h.1 41 c = nI (SGn T n c)) (e7 : h.1 2 3 = nI (dI' T n) ∧ h.1 39 7 = nI (dI' T n)) (e8 : ∀ j, j < dI' T n → h.1 4 j = nI (DCn T n j) ∧ h.1 42 j = nI (DCn T n j)) (e9 : ∀ k, k < 10 → h.2 5 k = MKs T n k) : RHl h (wI T n) (rI T n + 1) := by
  obtain ⟨i1, i2, i3, i4, i5, i6⟩ := tx_inv n hu
  obtain ⟨t1, t2, t3, t4, t5, t6, t7⟩ := told hT n hu
  have w2 := i4 r0
  have sc : ∀ c, sn T n c ↔ c % 8 < wI T n ∧ c / 8 < rI T n + 1 := fun c => by unfold sn; omega
  have sgs : ∀ c, cellIn (wI T n) (rI T n + 1) c → sn T n c := fun c hc => (sc c).mpr hc.2
  have c64 : ∀ c, sn T n c → c < 64 := fun c hc => by have := (sc c).mp hc; omega
  refine ⟨⟨w2, i3, by omega, by omega⟩, ⟨e4, e5⟩, fun c hc => ?_, ⟨by rw [e2, e3], fun c hc hb => ?_⟩, fun c hc => ?_, ⟨dI' T n, i6, e7.1, e7.2, fun j hj => ?_⟩, fun k hk c hc => ?_, fun c c' s hc hc' hs e e' hm => ?_⟩
  · rw [e1]
    cases hb : bq (CSs T n) c with
    | true => exact (decide_eq_true ((sc c).mp ((t1 c hc).mp hb))).symm
    | false => exact (decide_eq_false (fun z => by rw [(t1 c hc).mpr ((sc c).mpr z)] at hb; cases hb)).symm
  · rw [e3] at hb; exact (sc c).mp (t2 c hc hb)
  · obtain ⟨x1, x2⟩ := e6 c (sgs c hc)
    obtain ⟨y1, y2, -⟩ := t3 c (sgs c hc)
    exact ⟨by rw [x1, x2], _, sg128 _ y2 y1, x2⟩
  · obtain ⟨u1, u2, -⟩ := t4 j hj
    exact ⟨_, ⟨u2, (sc _).mp u1⟩, (e8 j hj).1, (e8 j hj).2⟩
  · rw [e9 k hk, t5 k hk c hc]
    constructor
    · rintro ⟨x, y⟩
      obtain ⟨y1, y2, -⟩ := t3 c x
      exact ⟨⟨hc, (sc c).mp x⟩, _, sg128 _ y2 y1, (e6 c x).2, y⟩
    · rintro ⟨x, s, hs, y, z⟩
      refine ⟨sgs c x, ?_⟩
      rw [(e6 c (sgs c x)).2] at y
      have := (nI_eq (by have := (t3 c (sgs c x)).2.1; omega) (by omega)).mp y
      rw [this]; exact z
  · have s1 := sgs c hc
    have s2 := sgs c' hc'
    rw [(e6 c s1).2] at e
    rw [(e6 c' s2).2] at e'
    have q1 := (nI_eq (by have := (t3 c s1).2.1; omega) (by omega)).mp e
    have q2 := (nI_eq (by have := (t3 c' s2).2.1; omega) (by omega)).mp e'
    exact t7 c c' s1 s2 (by rw [q1, q2]) (by rw [q1]; exact hm)
theorem fresh_rel {h : Hp} {w g : Nat} (HH : RHl h w g) (t1 : h.1 0 1 = 0) (t2 : h.1 39 2 = 0) (s : h.1 6 6 = 0 ∧ h.1 6 7 = 0 ∧ h.1 6 8 = 0 ∧ h.1 6 9 = 0) (m : h.1 39 12 = 0 ∧ h.1 39 15 = 0 ∧ h.1 39 20 = 0 ∧ h.1 39 19 = 0) (im : h.1 14 10 = 0 ∧ h.1 61 0 = 0 ∧ h.1 21 10 = 0 ∧ h.1 61 1 = 0) (o : h.1 30 7 = 0 ∧ h.1 39 25 = 0 ∧ h.1 30 10 = 0) (l : h.2 0 8 = h.2 39 8 ∧ h.2 39 9 = h.2 39 8) (tr : h.2 0 9 = h.2 39 0) : RelB h := by
  refine ⟨w, g, 0, 0, 0, 0, 0, ⟨0, by omega, t1, t2, fun i hi => by omega⟩, HH, ⟨⟨⟨by omega, by omega, by omega, by omega⟩, s, fun i hi => by omega, fun i hi => by omega, fun i hi => by omega, fun i hi => by omega, fun i hi => by omega, fun j hj => by omega, fun i j hi => by omega⟩, m, fun i hi => by omega, fun i hi => by omega⟩, ⟨by rw [im.1, im.2.1], Or.inl im.2.1⟩, ⟨by rw [im.2.2.1, im.2.2.2], Or.inl im.2.2.2⟩, ⟨by omega, o.1, o.2.1, fun i hi => by omega⟩, ⟨by rw [l.1, l.2], fun c hc e => ?_⟩, tr, Or.inl o.2.2⟩
  rw [l.2] at e; exact e
def XF (h : Hp) (T : Nat → Nat) (n : Nat) : Hp := f_orders_empty (xI (xI (f_scene_empty_6 (xL (xI (XH h T n) 0 1 0) 0 8 ((XH h T n).2 2 5))) 14 10 0) 21 10 0)
theorem become_x {h : Hp} {T : Nat → Nat} {n : Nat} (H : TxX h T n) (hu : upTo T n) : f_x_becomeHall h = some (XF h T n) := by
  unfold f_x_becomeHall XF
  rw [empty_h h T, xbd1_some, loop3_x H hu]
  generalize f_scene_empty_6 (xL (xI (XH h T n) 0 1 0) 0 8 ((XH h T n).2 2 5)) = H'
  show f_x_becomeHall_L_13 (fun l3_17 h_18 => some (f_orders_empty h_18)) (997 + 1 + 1 + 1) (0 : Int32) H' = _
  rw [f_x_becomeHall_L_13, if_neg (by decide), if_pos rfl, f_x_becomeHall_L_13, if_neg (by decide), if_neg (by decide), if_pos (by decide), f_x_becomeHall_L_13, if_pos (by decide)]
theorem XF_Sg (h : Hp) (T : Nat → Nat) (n c : Nat) : (XF h T n).1 3 c = Sg (h.1 3) T n c := rfl
theorem XF_Dg (h : Hp) (T : Nat → Nat) (n c : Nat) : (XF h T n).1 4 c = Dg (h.1 4) T n c := rfl
theorem XF_mk (h : Hp) (T : Nat → Nat) (n : Nat) {k : Nat} (hk : k < 10) : (XF h T n).2 5 k = MKs T n k := by
  have : (XF h T n).2 5 k = if 5 = 2 ∧ k = 4 then CSs T n else if 5 = 2 ∧ k = 5 then FRs T n else if 5 = 5 ∧ k < 10 then MKs T n k else h.2 5 k := rfl
  rw [this, if_neg (by omega), if_neg (by omega), if_pos ⟨rfl, hk⟩]
theorem MH_id {h : Hp} (T : Nat → Nat) (e1 : h.1 39 7 = 0) (e2 : h.2 39 8 = 0) : MH h T 0 = h := by
  refine Prod.ext (funext fun a => funext fun b => ?_) (funext fun a => funext fun b => ?_)
  · show (if a = 41 then h.1 41 b else if a = 42 then h.1 42 b else if a = 39 ∧ b = 7 then nI 0 else h.1 a b) = h.1 a b
    by_cases q1 : a = 41
    · rw [if_pos q1, q1]
    · by_cases q2 : a = 42
      · rw [if_neg q1, if_pos q2, q2]
      · by_cases q3 : a = 39 ∧ b = 7
        · rw [if_neg q1, if_neg q2, if_pos q3, q3.1, q3.2, e1]; rfl
        · rw [if_neg q1, if_neg q2, if_neg q3]
  · show (if a = 39 ∧ b = 8 then (0 : Int64) else h.2 a b) = h.2 a b
    by_cases q3 : a = 39 ∧ b = 8
    · rw [if_pos q3, q3.1, q3.2, e2]
    · rw [if_neg q3]
def MG (h : Hp) (r c : Nat) : Hp := xL (xI (xI (xI (f10 h r c) 39 3 (nI c)) 39 4 (nI r)) 39 7 0) 39 8 0
def MFin (h : Hp) : Hp := xI (xL (xI (xI (xI (xI (xI (xI (xI h 39 12 (0 : Int32)) 39 15 (0 : Int32)) 39 25 (0 : Int32)) 39 20 (0 : Int32)) 39 19 (0 : Int32)) 61 0 (vp_nar .boolean (0 : Int32))) 61 1 (vp_nar .boolean (0 : Int32))) 39 9 (h.2 39 8)) 39 2 (0 : Int32)
theorem enc_ne {q : Nat} (hq : q ≤ 80) : ¬ encF (-1) (some q) = (-1 : Int32) ∧ ¬ encF (-9) (some q) = (-9 : Int32) := by
  constructor
  · intro z
    have z : nI q = (-1 : Int32) := z
    have := congrArg Int32.toInt z
    rw [nI_toInt (by omega), m1T] at this
    omega
  · intro z
    have z : nI q = (-9 : Int32) := z
    have := congrArg Int32.toInt z
    rw [nI_toInt (by omega)] at this
    have e : (-9 : Int32).toInt = -9 := by decide
    omega
theorem ok_hall {h : Hp} (HR : RelB h) (HP : PlanOk h) : ∃ r h1 h2, f_x_hall h = some (r, h1) ∧ f_m_hall h1 = some (r, h2) ∧ RelB h2 ∧ PlanOk h2 := by
  obtain ⟨w, g, np, nc, nl, tk, no, H0, H1, H2, H3, H4, H5, H6, H7, H8⟩ := id HR
  obtain ⟨n, n80, t1, t2, tb⟩ := id H0
  have hTx : ∃ T : Nat → Nat, (∀ i, T i < 256) ∧ ∀ i, i < n → h.1 1 i = nI (T i) ∧ h.1 40 i = sb (T i) := by
    refine ⟨fun i => if i < n then (h.1 1 i).toNatClampNeg else 0, fun i => ?_, fun i hi => ?_⟩
    · by_cases q : i < n
      · obtain ⟨b, b1, b2, b3⟩ := tb i q
        simp only [if_pos q]
        rw [b2, clampc (by omega)]; exact b1
      · simp only [if_neg q]; omega
    · obtain ⟨b, b1, b2, b3⟩ := tb i hi
      simp only [if_pos hi]
      rw [b2, clampc (by omega)]
      exact ⟨rfl, b3⟩
  obtain ⟨T, hT, hb⟩ := hTx
  have TX : TxX h T n := ⟨n80, t1, hT, fun i hi => (hb i hi).1⟩
  unfold f_x_hall
  rw [fault_x TX, xbd1_some]
  cases hfl : fltI T n with
  | some q =>
    have q80 : q ≤ 80 := by
      unfold fltI at hfl
      cases hx : fdB (fun i => !okI T i) n with
      | some i =>
        rw [hx] at hfl
        have := (fdB_some hx).1
        have := Option.some.inj hfl
        omega
      | none =>
        rw [hx] at hfl
        simp only at hfl
        split at hfl
        · have := Option.some.inj hfl; omega
        · cases hfl
    rw [if_neg (enc_ne q80).1]
    obtain ⟨r, c, E, -⟩ := fault_m (h := h) (T := T) (n := n) ⟨n80, t2, hT, fun i hi => (hb i hi).2⟩
    rw [hfl] at E
    refine ⟨_, h, f10 h r c, rfl, ?_, ⟨w, g, np, nc, nl, tk, no, H0.of rfl rfl rfl rfl, H1.of rfl rfl rfl rfl rfl rfl rfl rfl rfl rfl rfl rfl, H2.of rfl rfl rfl rfl rfl rfl rfl rfl rfl rfl rfl rfl rfl rfl rfl rfl rfl rfl, H3.of rfl rfl rfl rfl rfl rfl rfl rfl rfl rfl rfl rfl rfl rfl rfl rfl rfl rfl, H4.of rfl rfl rfl rfl rfl rfl rfl rfl rfl rfl rfl rfl rfl rfl rfl rfl rfl rfl, H5.of rfl rfl rfl rfl rfl rfl rfl rfl rfl, H6.of rfl rfl rfl, H7, H8⟩, PK.plan (h := h) (Or.inr ⟨rfl, rfl, rfl, rfl, rfl, fun _ _ => rfl, rfl, rfl, rfl, rfl⟩) HP⟩
    unfold f_m_hall
    rw [E, xbd2_some, if_neg (enc_ne q80).2]; rfl
  | none =>
    have e0 : encF (-1) (none : Option Nat) = (-1 : Int32) := rfl
    rw [e0, if_pos rfl]
    have hu : upTo T n ∧ rI T n ≠ 0 ∧ wI T n ≤ aI T n := by
      unfold fltI at hfl
      cases hx : fdB (fun i => !okI T i) n with
      | some i => rw [hx] at hfl; cases hfl
      | none =>
        rw [hx] at hfl
        simp only at hfl
        split at hfl
        · cases hfl
        · next z =>
          refine ⟨fun j hj => ?_, fun y => z (Or.inl y), by omega⟩
          have := fdB_none hx j hj
          simpa using this
    obtain ⟨hu, r0, aw⟩ := hu
    rw [become_x TX hu, xbd1_some]
    obtain ⟨k1, k2, k3, k4, k5, k6, k7⟩ := told hT n hu
    have TM : TxM (XF h T n) T n := by
      refine ⟨n80, ?_, hT, fun i hi => ?_⟩
      · exact t2
      · exact (hb i hi).2
    obtain ⟨r, c, E, rc⟩ := fault_m TM
    obtain ⟨hr, hc⟩ := rc hfl
    subst hr hc
    rw [hfl] at E
    have TG : TxM (MG (XF h T n) (rI T n + 1) (wI T n)) T n := ⟨n80, t2, hT, fun i hi => (hb i hi).2⟩
    have L5 := fun K => loop5_m TG hu K
    have mid : MH (MG (XF h T n) (rI T n + 1) (wI T n)) T 0 = MG (XF h T n) (rI T n + 1) (wI T n) := MH_id T rfl rfl
    rw [mid] at L5
    have fin : RHl (MFin (MH (MG (XF h T n) (rI T n + 1) (wI T n)) T n)) (wI T n) (rI T n + 1) := by
      refine RHl_of hT hu r0 aw rfl rfl rfl rfl rfl (fun c hc => ⟨?_, ?_⟩) ⟨rfl, rfl⟩ (fun j hj => ⟨?_, ?_⟩) (fun k hk => ?_)
      · exact (k3 c hc).2.2 _
      · exact (k3 c hc).2.2 _
      · exact (k4 j hj).2.2 _
      · exact (k4 j hj).2.2 _
      · exact XF_mk h T n hk
    refine ⟨nI (wI T n * (rI T n + 1)), XF h T n, MFin (MH (MG (XF h T n) (rI T n + 1) (wI T n)) T n), ?_, ?_, ?_, Or.inl rfl⟩
    · have := cells_x fin
      have e2 : (MFin (MH (MG (XF h T n) (rI T n + 1) (wI T n)) T n)).2 2 4 = (XF h T n).2 2 4 := rfl
      rw [e2] at this
      rw [this]
    · unfold f_m_hall
      have e9 : encF (-9) (none : Option Nat) = (-9 : Int32) := rfl
      rw [E, xbd2_some, e9, if_pos rfl, f10_11, f10_10]
      refine (L5 _).trans ?_
      have m3 : (MH (MG (XF h T n) (rI T n + 1) (wI T n)) T n).1 39 3 = nI (wI T n) := rfl
      have m4 : (MH (MG (XF h T n) (rI T n + 1) (wI T n)) T n).1 39 4 = nI (rI T n + 1) := rfl
      rw [m3, m4, pk_mul]
      rfl
    · exact fresh_rel fin rfl rfl ⟨rfl, rfl, rfl, rfl⟩ ⟨rfl, rfl, rfl, rfl⟩ ⟨rfl, by simp [MFin, xI_1, xL_1, nar0], rfl, by simp [MFin, xI_1, xL_1, nar0]⟩ ⟨rfl, rfl, rfl⟩ ⟨rfl, rfl⟩ H7
/-! a new object -/
def T0 (i : Nat) : Nat := if i = 2 then 47 else 46
theorem T0_up : upTo T0 5 := by
  have : ∀ j, j < 5 → okI T0 j = true := by decide +kernel
  exact this
theorem T0_fr : FRs T0 5 = 771 := by decide +kernel
theorem T0_sg : ∀ c, c < 16 → (c / 8 < rI T0 5 ∧ c % 8 < wI T0 5) ∨ (c / 8 = rI T0 5 ∧ c % 8 < aI T0 5) → SGn T0 5 c = 46 := by decide +kernel
theorem T0_by : ∀ j, j < 5 → ((jushrL 198343339566 ((8 : Int32) * nI (5 - 1 - j))).toInt32 &&& 255) = nI (T0 j) := by decide +kernel
theorem minit {h : Hp} : f_m_init h = some (xL (xL (fl (xI (xI h 39 3 2) 39 4 2) 41 0 64 46) 39 8 771) 39 9 771) := by
  unfold f_m_init
  have := lp0 (fun f (s : Int32 × Hp) => f_m_init_L_1 (fun l1_3 h_4 => some (xL (xL h_4 39 8 (771 : Int64)) 39 9 (771 : Int64))) f s.1 s.2) 64 (fun i => (nI i, fl (xI (xI h 39 3 2) 39 4 2) 41 0 i 46)) (some (xL (xL (fl (xI (xI h 39 3 2) 39 4 2) 41 0 64 46) 39 8 771) 39 9 771)) (by omega) (fun f => ?_) (fun f i hi => ?_)
  · simp only [fl_0] at this
    exact this
  · simp only
    rw [f_m_init_L_1, if_pos (by decide)]
  · simp only
    rw [f_m_init_L_1, if_neg (nleL 64 hi), xin_nI hi (by decide), clampc (by omega), nI_1]
    have := fl_s (xI (xI h 39 3 2) 39 4 2) 41 0 i 46
    rw [Nat.zero_add] at this
    rw [this]; rfl
theorem init_ok (hh : Hp) : ∃ hx hm, f_x_init (hz 0 hh) = some hx ∧ f_m_init (hz 39 hx) = some hm ∧ RelB hm ∧ PlanOk hm := by
  have z1 : ∀ a b, (hz 0 hh).1 a b = 0 := fun a b => by
    show (if a < 0 then hh.1 a b else 0) = 0
    rw [if_neg (Nat.not_lt_zero a)]
  have z2 : ∀ a b, (hz 0 hh).2 a b = 0 := fun a b => by
    show (if a < 0 then hh.2 a b else 0) = 0
    rw [if_neg (Nat.not_lt_zero a)]
  obtain ⟨z, h1, q1, q2, q3, q4, q5, q6⟩ := type_x 198343339566 (fun l4_6 h_7 => some ((h_7.1 0 1), h_7)) 5 0 1000 (hz 0 hh) (by omega) (by omega) (by omega) (z1 0 1)
  have ty : f_x_type 198343339566 5 (hz 0 hh) = some (h1.1 0 1, h1) := by
    unfold f_x_type
    rw [if_neg (by decide), if_pos (by decide), z1 0 1, if_pos (by decide)]
    exact q1
  have TX : TxX h1 T0 5 := by
    refine ⟨by omega, by rw [q3], fun i => by unfold T0; split <;> omega, fun i hi => ?_⟩
    have := q6 i hi
    rw [Nat.zero_add] at this
    rw [this, ← (bvOf_ok 198343339566 (j := 5 - 1 - i) (by omega)).2.1]
    exact T0_by i hi
  have hT : ∀ i, T0 i < 256 := TX.2.2.1
  obtain ⟨k1, k2, k3, k4, k5, k6, k7⟩ := told hT 5 T0_up
  refine ⟨XF h1 T0 5, _, ?_, minit, ?_, Or.inl rfl⟩
  · unfold f_x_init
    rw [ty, xbd2_some, become_x TX T0_up, xbd1_some]
  · generalize hF : xL (xL (fl (xI (xI (hz 39 (XF h1 T0 5)) 39 3 2) 39 4 2) 41 0 64 46) 39 8 771) 39 9 771 = hm
    have low1 : ∀ a b, a < 39 → hm.1 a b = (XF h1 T0 5).1 a b := fun a b ha => by
      subst hF
      rw [xL_1, xL_1, fl_1, if_neg (by omega), xI_1, if_neg (by omega), xI_1, if_neg (by omega)]
      exact if_pos ha
    have low2 : ∀ a b, a < 39 → hm.2 a b = (XF h1 T0 5).2 a b := fun a b ha => by
      subst hF
      rw [xL_2, if_neg (by omega), xL_2, if_neg (by omega)]
      exact if_pos ha
    have up1 : ∀ a b, 39 ≤ a → ¬ (a = 39 ∧ (b = 3 ∨ b = 4)) → a ≠ 41 → hm.1 a b = 0 := fun a b ha hb hc => by
      subst hF
      rw [xL_1, xL_1, fl_1, if_neg (by omega), xI_1, if_neg (by omega), xI_1, if_neg (by omega)]
      exact if_neg (by omega)
    have up2 : ∀ b, b ≠ 8 → b ≠ 9 → hm.2 39 b = 0 := fun b h8 h9 => by
      subst hF
      rw [xL_2, if_neg (by omega), xL_2, if_neg (by omega)]
      show (if 39 < 39 then (XF h1 T0 5).2 39 b else 0) = 0
      rw [if_neg (by omega)]
    have fr8 : hm.2 39 8 = 771 := by subst hF; rw [xL_2, if_neg (by omega), xL_2, if_pos ⟨rfl, rfl⟩]
    have fr9 : hm.2 39 9 = 771 := by subst hF; rw [xL_2, if_pos ⟨rfl, rfl⟩]
    have w3 : hm.1 39 3 = 2 := by subst hF; rw [xL_1, xL_1, fl_1, if_neg (by omega), xI_1, if_neg (by omega), xI_1, if_pos ⟨rfl, rfl⟩]
    have w4 : hm.1 39 4 = 2 := by subst hF; rw [xL_1, xL_1, fl_1, if_neg (by omega), xI_1, if_pos ⟨rfl, rfl⟩]
    have s41 : ∀ c, c < 64 → hm.1 41 c = 46 := fun c hc => by subst hF; rw [xL_1, xL_1, fl_1, if_pos ⟨rfl, by omega, by omega⟩]
    have r5 : rI T0 5 = 1 := by decide +kernel
    have a5 : aI T0 5 = 2 := by decide +kernel
    have w5 : wI T0 5 = 2 := by decide +kernel
    have d5 : dI' T0 5 = 0 := by decide +kernel
    have RH : RHl hm (wI T0 5) (rI T0 5 + 1) := by
      refine RHl_of hT T0_up (by omega) (by omega) ?_ ?_ ?_ ?_ ?_ (fun c hc => ?_) ⟨?_, ?_⟩ (fun j hj => by omega) (fun k hk => ?_)
      · rw [low2 2 4 (by omega)]; rfl
      · rw [low2 2 5 (by omega)]; rfl
      · rw [fr8, T0_fr]
      · rw [w3, w5]; rfl
      · rw [w4, r5]; rfl
      · have c16 : c < 16 := by unfold sn at hc; omega
        rw [low1 3 c (by omega), T0_sg c c16 hc, s41 c (by omega)]
        refine ⟨?_, rfl⟩
        have := (k3 c hc).2.2 (h1.1 3)
        rw [T0_sg c c16 hc] at this
        exact this
      · rw [low1 2 3 (by omega)]; rfl
      · rw [up1 39 7 (by omega) (by omega) (by omega), d5]; rfl
      · rw [low2 5 k (by omega)]; exact XF_mk h1 T0 5 hk
    have x08 : (XF h1 T0 5).2 0 8 = FRs T0 5 := rfl
    have x09 : (XF h1 T0 5).2 0 9 = h1.2 0 9 := rfl
    refine fresh_rel RH ?_ (up1 39 2 (by omega) (by omega) (by omega)) ⟨?_, ?_, ?_, ?_⟩ ⟨up1 _ _ (by omega) (by omega) (by omega), up1 _ _ (by omega) (by omega) (by omega), up1 _ _ (by omega) (by omega) (by omega), up1 _ _ (by omega) (by omega) (by omega)⟩ ⟨?_, up1 _ _ (by omega) (by omega) (by omega), ?_, up1 _ _ (by omega) (by omega) (by omega)⟩ ⟨?_, up1 _ _ (by omega) (by omega) (by omega), ?_⟩ ⟨?_, ?_⟩ ?_
    · rw [low1 0 1 (by omega)]; rfl
    · rw [low1 6 6 (by omega)]; rfl
    · rw [low1 6 7 (by omega)]; rfl
    · rw [low1 6 8 (by omega)]; rfl
    · rw [low1 6 9 (by omega)]; rfl
    · rw [low1 14 10 (by omega)]; rfl
    · rw [low1 21 10 (by omega)]; rfl
    · rw [low1 30 7 (by omega)]; rfl
    · rw [low1 30 10 (by omega)]; rfl
    · rw [low2 0 8 (by omega), x08, T0_fr, fr8]
    · rw [fr8, fr9]
    · rw [low2 0 9 (by omega), x09, q2, z2, up2 0 (by omega) (by omega)]
