/-! ===== the law from its entry, out of the pure claim ===== -/
/-- what is left to show: over the functions alone -/
def LawPure : Prop := ∀ (hh : Hp) (L : Nat) (xs : Nat → Int32), L ≤ 2048 → ∃ hx hm h', f_x_init (hz 0 hh) = some hx ∧ f_m_init (hz 39 hx) = some hm ∧ f_law_L_1 xs L (fun _ h => some ((1 : Int32), h)) 1000 0 hm = some ((1 : Int32), h')
theorem xk_start {s : State} {b : Nat} (hts : ∀ w ∈ lw_tbl, w.before #[Value.ref b] s = true) : ∃ (D : va_G) (cT : Nat → ClassId), XK D cT s := by
  have hg : ∀ w ∈ XG, w.before #[Value.ref b] s = true := fun w hw => hts w (List.mem_filter.mp hw).1
  obtain ⟨c0, i0, k0⟩ := u_known (C := RX0) (T := TX0) (N := 5) (n := 5) hg xu0 (hts (.instantiable RX0 5) (List.mem_append_right _ (List.mem_of_getElem? (i := 109) (by decide +kernel))))
  obtain ⟨c1, i1, k1⟩ := u_known (C := RX1) (T := TX1) (N := 6) (n := 6) hg xu1 (hts (.instantiable RX1 6) (List.mem_append_right _ (List.mem_of_getElem? (i := 20) (by decide +kernel))))
  obtain ⟨c2, i2, k2⟩ := u_known (C := RX2) (T := TX2) (N := 11) (n := 11) hg xu2 (hts (.instantiable RX2 11) (List.mem_append_right _ (List.mem_of_getElem? (i := 131) (by decide +kernel))))
  obtain ⟨c3, i3, k3⟩ := u_known (C := RX3) (T := TX3) (N := 11) (n := 11) hg xu3 (hts (.instantiable RX3 11) (List.mem_append_right _ (List.mem_of_getElem? (i := 53) (by decide +kernel))))
  obtain ⟨c4, i4, k4⟩ := u_known (C := RX4) (T := TX4) (N := 10) (n := 10) hg xu4 (hts (.instantiable RX4 10) (List.mem_append_right _ (List.mem_of_getElem? (i := 12) (by decide +kernel))))
  obtain ⟨c5, i5, k5⟩ := u_known (C := RX5) (T := TX5) (N := 40) (n := 40) hg xu5 (hts (.instantiable RX5 40) (List.mem_append_right _ (List.mem_of_getElem? (i := 582) (by decide +kernel))))
  obtain ⟨aI, kI, pI, fI, gI, hI⟩ := Cond.arrayClass_spec (hts (.arrayClass .int) (List.mem_append_right _ (List.mem_of_getElem? (i := 50) (by decide +kernel))))
  obtain ⟨aJ, kJ, pJ, fJ, gJ, hJ⟩ := Cond.arrayClass_spec (hts (.arrayClass .long) (List.mem_append_right _ (List.mem_of_getElem? (i := 51) (by decide +kernel))))
  obtain ⟨aB, kB, pB, fB, gB, hB⟩ := Cond.arrayClass_spec (hts (.arrayClass .byte) (List.mem_append_right _ (List.mem_of_getElem? (i := 709) (by decide +kernel))))
  obtain ⟨aZ, kZ, pZ, fZ, gZ, hZ⟩ := Cond.arrayClass_spec (hts (.arrayClass .boolean) (List.mem_append_right _ (List.mem_of_getElem? (i := 710) (by decide +kernel))))
  obtain ⟨pS, aS, kS, fS, -, gS, hS, eS⟩ := Cond.arrayOver_spec (hts (.arrayOver (.object "HallCarrier$Scene")) (List.mem_append_right _ (List.mem_of_getElem? (i := 107) (by decide +kernel))))
  refine ⟨(fun k => if k = 0 then c0 else if k = 1 then c1 else if k = 2 then c2 else if k = 3 then c3 else if k = 4 then c4 else c5, fun k => if k = 0 then i0 else if k = 1 then i1 else if k = 2 then i2 else if k = 3 then i3 else if k = 4 then i4 else i5), fun t => if t = 0 then aI else if t = 1 then aJ else if t = 2 then aB else if t = 3 then aZ else aS, ⟨?_, ?_⟩, ?_⟩
  · intro k q hq
    match k, hq with
    | 0, hq => cases hq; exact k0
    | 1, hq => cases hq; exact k1
    | 2, hq => cases hq; exact k2
    | 3, hq => cases hq; exact k3
    | 4, hq => cases hq; exact k4
    | 5, hq => cases hq; exact k5
    | k + 6, hq => simp [vwCl] at hq
  · intro k q hq
    match k, hq with
    | 0, hq => cases hq; exact ⟨fun n z => ⟨fun k h => (by cases h), kI, gI, pI, hI⟩, fI⟩
    | 1, hq => cases hq; exact ⟨fun n z => ⟨fun k h => (by cases h), kJ, gJ, pJ, hJ⟩, fJ⟩
    | 2, hq => cases hq; exact ⟨fun n z => ⟨fun k h => (by cases h), kB, gB, pB, hB⟩, fB⟩
    | 3, hq => cases hq; exact ⟨fun n z => ⟨fun k h => (by cases h), kZ, gZ, pZ, hZ⟩, fZ⟩
    | 4, hq => cases hq; exact ⟨fun n z => ⟨fun k h => (by cases h), kS, gS, pS, hS⟩, kS, pS, gS, hS, fS, eS⟩
    | k + 5, hq => simp [xtys] at hq
  · intro w hw
    exact va_Nw.of (xn_tables hw) (hts w (List.mem_filter.mp hw).1)
theorem xz_start {s : State} {b : Nat} (hts : ∀ w ∈ lw_tbl, w.before #[Value.ref b] s = true) (hgv : (Jvm.Cond.and given_1 narrow_1).before #[Value.ref b] s = true) : ∃ t : Nat, va_Z "HallCarrier" "STEP_BY" "[I" (.ref t) (fun q => s.heap.size ≤ q) s s.heap ∧ va_T .int t 4 xstepV (fun q => s.heap.size ≤ q) s s.heap := by
  have hs := flat_of_before _ hgv
  have hA : ∀ a : Nat, a < s.heap.size → ¬ (fun q => s.heap.size ≤ q) a := fun a h q => absurd q (Nat.not_le.mpr h)
  have e0 := va_eqt (hs (Cond.eq (.elem (.static "HallCarrier" "STEP_BY" "[I") (.int 0)) (.int (-8))) (by decide +kernel))
  have e1 := va_eqt (hs (Cond.eq (.elem (.static "HallCarrier" "STEP_BY" "[I") (.int 1)) (.int 1)) (by decide +kernel))
  have e2 := va_eqt (hs (Cond.eq (.elem (.static "HallCarrier" "STEP_BY" "[I") (.int 2)) (.int 8)) (by decide +kernel))
  have e3 := va_eqt (hs (Cond.eq (.elem (.static "HallCarrier" "STEP_BY" "[I") (.int 3)) (.int (-1))) (by decide +kernel))
  have el := va_eqt (hs (Cond.eq (.length (.static "HallCarrier" "STEP_BY" "[I")) (.int 4)) (by decide +kernel))
  obtain ⟨t, h1, h2⟩ := va_Tof (N := 4) (f := xstepV) (A := fun q => s.heap.size ≤ q) (by decide) (hs (Cond.arrayOf (.static "HallCarrier" "STEP_BY" "[I") .int) (by decide +kernel)) el (fun j hj => by
    match j, hj with
    | 0, _ => exact e0
    | 1, _ => exact e1
    | 2, _ => exact e2
    | 3, _ => exact e3) hA
  have hl : (Cond.laysStatic "HallCarrier" "STEP_BY" "[I").before #[Value.ref b] s = true := hts _ (List.mem_append_right _ (List.mem_of_getElem? (i := 411) (by decide +kernel)))
  have hi : (Cond.initialized "HallCarrier").before #[Value.ref b] s = true := hts _ (List.mem_append_right _ (List.mem_of_getElem? (i := 1) (by decide +kernel)))
  exact ⟨t, va_Zof hl hi h1 hA, h2⟩
section LCall
variable {p : Program} {l : Launch} {e : Env} {R : Room} {s : State} {m : MethodId} {args : Array Value} {below : List Frame} {meth : Method} {c : Code} {D : va_G} {cT : Nat → ClassId} {ad : Nat → Nat} {A : Nat → Prop} {Q : State → Prop} {H : Heap} {locs : List Loc} {la : Array Slot} {pc kc ks nL : Nat} {rest : List Value}
/-- the law calls a constructor whose world is all that there is -/
theorem LcallI {own : String} {cc : ByteArray} {idx d' mc' ms' po maxL : Nat} {hh : Hp} {y : MethodName} {bytes : ByteArray} {cs0 : List xSh} {w : (Nat → ClassId) → (Nat → Nat) → va_W} (hM : MI d' mc' ms' po hh po y bytes maxL cs0 w) (hx : p.tables.exec = Jvm.exec) (hb : c.code = cc) (hml : c.maxLocals = nL) (hown : s.vm.findClass own = some m.cls) (hts : ∀ w ∈ XG, w.before args s = true) (hK : XK D cT s) (hAO : va_AO "HallCarrier$Scene" s) (hA : ∀ q, s.heap.size ≤ q → A q) (hP : va_P D vwCl (yall po hh po cT ad cs0) H) (hD : va_D A (yall po hh po cT ad cs0)) (hS : va_S A s.heap H locs) (hsz : la.size = nL) (hy : xmd y bytes maxL none 0) (hi : Cond.instanceMethod y ∈ XG) (hyn : y.name = "<init>") (hl : Cond.methodLink own idx y ∈ XG) (hfr : d' + 1 ≤ R.frames) (hlo : 64 * (d' + 1) ≤ R.locals) (hkc : kc + mc' ≤ R.cells) (hks : ks + ms' ≤ R.slots) (hW : (rest.map fun v => v.category).sum ≤ 8) (hd : decode cc pc = .ok (.invokespecial idx, 3))
    (kk : ∀ (ad' : Nat → Nat) (H1 : Heap) (locs1 : List Loc), (∀ j, j ≤ po → ad' j = ad j) → va_P D vwCl (w cT ad') H1 → va_D A (w cT ad') → va_S A s.heap H1 locs1 → W p l e R s m args below meth c H1 locs1 (kc + mc') (ks + ms') Q (F0 m (pc + 3) la rest)) : W p l e R s m args below meth c H locs kc ks Q (F0 m pc la (.ref (ad po) :: rest)) := by
  obtain ⟨hcode, hini, hne, hpar, hmax⟩ := hy
  have hM1 := hM l D cT ad H.size
  have hws := pay_in hts (xg_goodIn0 hcode)
  have hFc : ∀ q, va_A (yall po hh po cT ad cs0) H.size q → A q := by
    rintro q (⟨k, x, hk⟩ | hq)
    · exact hD.2 k _ hk
    · exact hA q (Nat.le_trans hS.1 hq)
  have hpre : PreS s H (va_Pc [.ref (ad po)] (yPre D cT ad po hh po H.size cs0)) (.ref (ad po) :: []) := by
    refine ⟨?_, fun U hU hW => ⟨rfl, by rw [hU], by rw [hU]; exact hP, hK.warm hW, hD.weaken (fun _ _ _ _ => trivial), va_AO.warm hW hAO⟩⟩
    intro a U g mk hq
    obtain ⟨q0, q1, q2, q3, q4, q5⟩ := hq
    exact ⟨q0, q1, q2, XK.same (u := U) (U := U.calling g mk a) rfl q3, q4, q5⟩
  have hroom : 8 + (maxL + 11) + (yrm d' mc' ms').locals ≤ R.locals := by
    show 8 + (maxL + 11) + 64 * d' ≤ R.locals
    omega
  have hsig : ∀ sig, parseMethodDescriptor y.desc = some sig → 0 = sig.parameters.length := fun sig hsg => by
    rw [hsg] at hpar; exact (Option.some.inj hpar).symm
  have hrun := va_runI (e := e) (b := ad po) (As := []) (rest := rest) (nL := nL) (g := F0 m pc la (.ref (ad po) :: rest)) (locs := locs) (cells := kc) (slots := ks) (below := below) (meth := meth) ⟨hx, hb, hml, hown, hts⟩ hM1 ⟨⟨rfl, rfl, hfr, hroom, hws, List.mem_cons_self, hts _ hcode, hts _ hini, hne, hsig, hts _ hl⟩, hyn, hts _ hi⟩ hpre rfl rfl hsz rfl (lv_room hW) hd ⟨hkc, hks⟩
  intro T hT X9
  obtain ⟨v, st₀, t, T', L, h00, X', hL, e1, e2, ⟨⟨hv, ad', hag, hp1, hd1, hk1⟩, hz, hkk⟩, stp⟩ := hrun T hT X9
  cases hv
  rw [h00] at hz hkk
  obtain ⟨t2, a1, b1⟩ := kk ad' T'.heap (locs ++ L) hag (by rw [e1]; exact hp1) (hd1.weaken (fun _ q _ h => hFc q.1 h))
    ⟨Nat.le_trans hS.1 (by rw [e1]; exact hz), fun q h1 h2 => by rw [e1, hkk q (Nat.lt_of_lt_of_le h1 hS.1) (fun z => h2 (hFc q z))]; exact hS.2.1 q h1 h2, fun q hq => by
      rcases List.mem_append.mp hq with h | h
      · exact hS.2.2 q h
      · exact hFc _ (hL q h)⟩ T' rfl X'
  exact ⟨t2, stp t2 a1, b1⟩
end LCall
theorem xwrl_ad {n : Nat} {cT : Nat → ClassId} {ad ad' : Nat → Nat} {h : Hp} (hx : xclo n = true) (ha : ∀ j, j < n → ad' j = ad j) : xwrl n cT ad' h = xwrl n cT ad h := xclo_eq hx ha
set_option maxHeartbeats 4000000 in
set_option maxRecDepth 100000 in
theorem whole_start_of (hpure : LawPure) {p : Program} {e : Env} {s : State} {m : MethodId} {below : List Frame} {meth : Method} {c : Code} (l : Launch) {b L : Nat} {xs : Nat → Int32} (hL : L ≤ 2048) (C0 : lw_At p s m meth c b L xs) : W p l e room_1 s m #[Value.ref b] below meth c s.heap [] 0 0 (lw_Z below #[Value.ref b] s) (entryFrame m ([Value.ref b] : List Value).toArray 4) := by
  obtain ⟨hx, hb, hr, hml, hown, hts, hXs, hbl, hlocks, hgv⟩ := id C0
  obtain ⟨D, cT, hK⟩ := xk_start hts
  obtain ⟨tz, hz1, hz2⟩ := xz_start hts hgv
  obtain ⟨hxh, hmh, hfin, hp1, hp2, hp3⟩ := hpure (fun _ _ => 0, fun _ _ => 0) L xs hL
  have hg : ∀ w ∈ XG, w.before #[Value.ref b] s = true := fun w hw => hts w (List.mem_filter.mp hw).1
  have hAO : va_AO "HallCarrier$Scene" s := va_AO.of (hts (.arrayOver (.object "HallCarrier$Scene")) (List.mem_append_right _ (List.mem_of_getElem? (i := 107) (by decide +kernel))))
  have hA : ∀ q : Nat, s.heap.size ≤ q → (fun q : Nat => s.heap.size ≤ q) q := fun _ h => h
  have hS : va_S (fun q : Nat => s.heap.size ≤ q) s.heap s.heap [] := va_S.rf
  have hP0 : va_P D vwCl [] s.heap := fun k q h => by simp at h
  have hD0 : va_D (fun q : Nat => s.heap.size ≤ q) [] := ⟨fun i j p q h => by simp at h, fun k q h => by simp at h⟩
  have hl := lv_entry ([.ref b]) (n := 4) (Nat.le_of_ble_eq_true rfl)
  rw [lg_entry_eq]
  generalize (lg_sl ([.ref b]) ++ List.replicate (4 - (lg_sl ([.ref b])).length) Slot.unset).toArray = la at hl ⊢
  have hl : lv_has la 4 [(0, .ref b)] := hl
  have hc7 : (Cond.classLink RL 7 RX4).before #[Value.ref b] s = true := hts _ (List.mem_append_right _ (List.mem_of_getElem? (i := 11) (by decide +kernel)))
  have hc10 : (Cond.classLink RL 10 RX5).before #[Value.ref b] s = true := hts _ (List.mem_append_right _ (List.mem_of_getElem? (i := 581) (by decide +kernel)))
  have hi4 : (Cond.instantiable RX4 10).before #[Value.ref b] s = true := hts _ (List.mem_append_right _ (List.mem_of_getElem? (i := 12) (by decide +kernel)))
  have hi5 : (Cond.instantiable RX5 40).before #[Value.ref b] s = true := hts _ (List.mem_append_right _ (List.mem_of_getElem? (i := 582) (by decide +kernel)))
  have hn4 : (Cond.initialized RX4).before #[Value.ref b] s = true := hts _ (List.mem_append_right _ (List.mem_of_getElem? (i := 1) (by decide +kernel)))
  have hn5 : (Cond.initialized RX5).before #[Value.ref b] s = true := hts _ (List.mem_append_right _ (List.mem_of_getElem? (i := 7) (by decide +kernel)))
  refine va_new (ci := 4) (fs := [.null, .int 0, .null, .null, .null, .null, .null, .null, .long 0, .long 0]) (C := RX4) (T := TX4) (N := 10) hx hb hg xu4 tyX4 tyX4_ok hown hc7 hi4 hn4 hK.1 hP0 hD0 hS hA rfl (by decide) (Nat.le_of_ble_eq_true rfl) (Nat.le_of_ble_eq_true rfl) (show decode code 0 = .ok (.new 7, 3) by decide +kernel) (fun q0 H hP hD hS => ?_)
  refine lv_dup hx hb (show decode code 3 = .ok (.dup, 1) by decide +kernel) rfl ?_
  have e0 : ([] : va_W) ++ [(q0, .inr (4, [.null, .int 0, .null, .null, .null, .null, .null, .null, .long 0, .long 0]))] = yall 0 (fun _ _ => 0, fun _ _ => 0) 0 cT (fun _ => q0) ycs_10 := rfl
  rw [e0] at hP hD
  refine LcallI (ad := fun _ => q0) (po := 0) (own := RL) (rest := [.ref q0]) (nL := 4) (mi_x_init (fun _ _ => 0, fun _ _ => 0) hp1) hx hb hml hown hg hK hAO hA hP hD hS hl.1 xm_X4_init xi_X4_init rfl yl_RL_9 (by decide) (by decide) (by decide) (by decide) (Nat.le_of_ble_eq_true rfl) (show decode code 4 = .ok (.invokespecial 9, 3) by decide +kernel) (fun ad1 H1 locs1 hag1 hP1 hD1 hS1 => ?_)
  have hq0 : ad1 0 = q0 := hag1 0 (Nat.le_refl _)
  rw [← hq0]
  refine lv_astore_n (lv' := [(1, .ref (ad1 0)), (0, .ref b)]) hx hb (show decode code 7 = .ok (.astore_n 1, 1) by decide +kernel) rfl hl (by decide) rfl (fun la hl => ?_)
  refine va_new (ci := 5) (fs := [.long 0, .null, .int 0, .int 0, .int 0, .null, .null, .int 0, .long 0, .long 0, .int 0, .int 0, .int 0, .null, .null, .int 0, .null, .null, .null, .int 0, .int 0, .null, .null, .null, .null, .int 0, .null, .null, .null, .null, .null, .null, .null, .null, .null, .null, .null, .null, .null, .null]) (C := RX5) (T := TX5) (N := 40) hx hb hg xu5 tyX5 tyX5_ok hown hc10 hi5 hn5 hK.1 hP1 hD1 hS1 hA rfl (by decide +kernel) (Nat.le_of_ble_eq_true rfl) (Nat.le_of_ble_eq_true rfl) (show decode code 8 = .ok (.new 10, 3) by decide +kernel) (fun q2 H2 hP2 hD2 hS2 => ?_)
  refine lv_dup hx hb (show decode code 11 = .ok (.dup, 1) by decide +kernel) rfl ?_
  have e2 : xwrl 39 cT ad1 hxh ++ [(q2, .inr (5, [.long 0, .null, .int 0, .int 0, .int 0, .null, .null, .int 0, .long 0, .long 0, .int 0, .int 0, .int 0, .null, .null, .int 0, .null, .null, .null, .int 0, .int 0, .null, .null, .null, .null, .int 0, .null, .null, .null, .null, .null, .null, .null, .null, .null, .null, .null, .null, .null, .null]))] = yall 39 hxh 39 cT (yad ad1 39 q2) ycs_30 := by
    unfold yall
    rw [xclo_eq (by decide +kernel) yad_lt]
    rfl
  rw [e2] at hP2 hD2
  have hq2 : q2 = yad ad1 39 q2 39 := by simp [yad]
  have ea : ad1 0 = yad ad1 39 q2 0 := (yad_lt 0 (by decide)).symm
  refine W.eq (g2 := F0 m 12 la (.ref (yad ad1 39 q2 39) :: [.ref q2])) (by rw [← hq2]) ?_
  refine LcallI (ad := yad ad1 39 q2) (po := 39) (own := RL) (rest := [.ref q2]) (nL := 4) (mi_m_init hxh hp2) hx hb hml hown hg hK hAO hA hP2 hD2 hS2 hl.1 xm_X5_init xi_X5_init rfl yl_RL_12 (by decide) (by decide) (by decide) (by decide) (Nat.le_of_ble_eq_true rfl) (show decode code 12 = .ok (.invokespecial 12, 3) by decide +kernel) (fun ad2 H3 locs3 hag3 hP3 hD3 hS3 => ?_)
  have hq39 : ad2 39 = q2 := (hag3 39 (Nat.le_refl _)).trans hq2.symm
  have hq00 : ad2 0 = ad1 0 := (hag3 0 (by decide)).trans ea.symm
  rw [← hq39]
  refine lv_astore_n (lv' := [(2, .ref (ad2 39)), (1, .ref (ad1 0)), (0, .ref b)]) hx hb (show decode code 15 = .ok (.astore_n 2, 1) by decide +kernel) rfl hl (by decide) rfl (fun la hl => ?_)
  refine lv_iconst (v := 0) hx hb (show decode code 16 = .ok (.iconst 0, 1) by decide +kernel) (by decide) ?_
  refine lv_istore_n (lv' := [(3, .int 0), (2, .ref (ad2 39)), (1, .ref (ad1 0)), (0, .ref b)]) hx hb (show decode code 17 = .ok (.istore_n 3, 1) by decide +kernel) rfl hl (by decide) rfl (fun la hl => ?_)
  -- the whole world, with the script at 67 and the static table at 66
  have hadF : ∀ j, j < 66 → yad (yad ad2 66 tz) 67 b j = ad2 j := fun j hj => by rw [yad_lt j (by omega), yad_lt j hj]
  have eF : xwrl 66 cT (yad (yad ad2 66 tz) 67 b) hmh = xwrl 66 cT ad2 hmh := xclo_eq (by decide +kernel) hadF
  have hP4 : va_P D vwCl (xwrl 66 cT (yad (yad ad2 66 tz) 67 b) hmh) H3 := by rw [eF]; exact hP3
  have hD4 : va_D (fun q : Nat => s.heap.size ≤ q) (xwrl 66 cT (yad (yad ad2 66 tz) 67 b) hmh) := by rw [eF]; exact hD3
  have h67 : yad (yad ad2 66 tz) 67 b 67 = b := by simp [yad]
  have h66 : yad (yad ad2 66 tz) 67 b 66 = tz := by simp [yad]
  have hXok : XOk (p, l, e, room_1, s, m, #[Value.ref b], below, meth, c, D, cT, yad (yad ad2 66 tz) 67 b, (fun q : Nat => s.heap.size ≤ q), lw_Z below #[Value.ref b] s, 66, 66, 4928) RL code 4 20 66 := ⟨hx, hb, hml, hown, hg, hK, hA, xad_of_D hD4, Nat.le_refl _, Nat.le_refl _, by decide, by decide, by decide, by decide⟩
  have hXR : XRL (p, l, e, room_1, s, m, #[Value.ref b], below, meth, c, D, cT, yad (yad ad2 66 tz) 67 b, (fun q : Nat => s.heap.size ≤ q), lw_Z below #[Value.ref b] s, 66, 66, 4928) b := ⟨rfl, rfl, hr, hlocks, rfl, fun _ h => h, by decide, by decide⟩
  have hXS : XScr (p, l, e, room_1, s, m, #[Value.ref b], below, meth, c, D, cT, yad (yad ad2 66 tz) 67 b, (fun q : Nat => s.heap.size ≤ q), lw_Z below #[Value.ref b] s, 66, 66, 4928) L xs := by
    refine ⟨?_, ?_, ?_⟩
    · rw [h67]; exact hXs
    · rw [h67]; exact hbl
    · rw [h67]; exact Nat.not_le.mpr hbl
  have hXZ : XZ (p, l, e, room_1, s, m, #[Value.ref b], below, meth, c, D, cT, yad (yad ad2 66 tz) 67 b, (fun q : Nat => s.heap.size ≤ q), lw_Z below #[Value.ref b] s, 66, 66, 4928) := by
    refine ⟨?_, ?_⟩
    · rw [h66]; exact hz1
    · rw [h66]; exact hz2
  have hwalk := f_law_L_1_ok hXok hXR xs L (fun _ h => some ((1 : Int32), h)) hXS hXZ (fun l3 h hf => ?_) 1000 0 hmh hp3
  · refine hwalk H3 locs3 la hP4 hS3 ?_
    rw [hml]
    refine lv_sub hl [3, 2, 1, 0] ?_
    show _ = [(0, Value.ref (yad (yad ad2 66 tz) 67 b 67)), (1, Value.ref (yad (yad ad2 66 tz) 67 b 0)), (2, Value.ref (yad (yad ad2 66 tz) 67 b 39)), (3, Value.int 0)]
    rw [h67, hadF 0 (by decide), hadF 39 (by decide), hq00]
    rfl
  · refine Xblk hXok pkL_ok [.iconst 1] (pc' := 1047) (ls' := []) (st' := [.int (1 : Int32)]) (h' := h) (g := true) (by decide +kernel) rfl rfl rfl ?_
    exact XrLaw hXok hXR hf (by decide +kernel)
