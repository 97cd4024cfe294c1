/-! THE CLAIM OUT OF ONE WALK OF THE LAW'S BODY. Your part is whole_start (and what it stands on); all else here is the same for every law, but numbers. -/
def R_law : String := "HallCarrierLaw"
def lw_P (b : Addr) (xs : List Int32) (args : Array Value) (s : State) : Prop := args = #[.ref b] ∧ s.IntsAt b xs ∧ xs.length ≤ 2048 ∧ (Jvm.Cond.and given_1 narrow_1).before args s = true
def lw_Q (_ : Array Value) (s : State) (o : Outcome) (t : State) : Prop := o = .returned (some (.int 1)) ∧ Framed s o t [] 600000 7302250
def lw_Z (below : List Frame) (a : Array Value) (s : State) : State → Prop := fun t => ∃ o, t.status = .running ∧ Ended t below o ∧ lw_Q a s o t
/-- the law's own end, with 1 on the stack, nothing written that was there before, its room as the claim has it -/
theorem lw_ret {p : Program} {l : Launch} {e : Env} {s : State} {m : MethodId} {below : List Frame} {meth : Method} {c : Code} {b : Nat} (hx : p.tables.exec = Jvm.exec) (hb : c.code = code) (hr : meth.sig.returnType = ret) (hlocks : meth.locks = false) {pc : Nat} {H : Heap} {ls : Array Slot} (hdg : decode code pc = .ok (.ireturn, 1)) : W p l e room_1 s m #[Value.ref b] below meth c H [] 600000 7302250 (lw_Z below #[Value.ref b] s) (F0 m pc ls [.int 1]) := by
  intro T hT X
  obtain ⟨fs, hret, hrun, hended, hW, hframe⟩ := X.leave (v := some (.int 1)) (hlocks := hlocks) (fun h => by rw [hr] at h; cases h)
  have hmeth' : T.vm.method? m = some meth := X.method'
  refine ⟨T.setFrames fs, ?_, .returned (some (.int 1)), hrun, hended, rfl, ⟨_, rfl⟩, hW, hframe⟩
  jvm_step X.here [X.here.top, hx, hb, hdg, hmeth', hr, ret, narrow_b1]
  (try refine ⟨rfl, ?_⟩); (try refine ⟨rfl, ?_⟩)
  first | (intro acts; rw [hret _ acts rfl rfl rfl]) | rw [hret _ _ rfl rfl rfl]
  exact Steps.refl _
/-- what holds at the law's entry: the machine, the code, the tables' words (any of lw_tbl by 'hts w (by decide +kernel)'), the script of L ints xs at the cell b, what the Statement gives of the start (any of its parts by flat_of_before) -/
def lw_At (p : Program) (s : State) (m : MethodId) (meth : Method) (c : Code) (b L : Nat) (xs : Nat → Int32) : Prop :=
  p.tables.exec = Jvm.exec ∧ c.code = code ∧ meth.sig.returnType = ret ∧ c.maxLocals = 4 ∧ s.vm.findClass R_law = some m.cls ∧ (∀ w ∈ lw_tbl, w.before #[Value.ref b] s = true) ∧ va_X b L xs s s.heap ∧ b < s.heap.size ∧ meth.locks = false ∧ (Jvm.Cond.and given_1 narrow_1).before #[Value.ref b] s = true
/-! ===== the law's own instructions, calls and return ===== -/
def XScr (X : XCtx) (L : Nat) (xs : Nat → Int32) : Prop := match X with
  | (p, l, e, R, s, m, args, below, meth, c, D, cT, ad, A, Q, n, kc, ks) => va_X (ad 67) L xs s s.heap ∧ ad 67 < s.heap.size ∧ ¬ A (ad 67)
theorem Xsld {X : XCtx} {own : String} {cc : ByteArray} {nL d b : Nat} (hX : XOk X own cc nL d b) {L : Nat} {xs : Nat → Int32} (hS : XScr X L xs) {pc : Nat} {j : Int32} {ls : List (Nat × Value)} {st : List Value} {h : Hp} (hd : decode cc pc = .ok (.iaload, 1)) (hg : xin j L = true) (k : XW X (pc + 1) ls (.int (xs j.toNatClampNeg) :: st) h) : XW X pc ls (.int j :: .ref 67 :: st) h := by
  obtain ⟨p, l, e, R, s, m, args, below, meth, c, D, cT, ad, A, Q, n, kc, ks⟩ := X
  obtain ⟨hx, hb, hml, hown, hts, hK, hA, hadr, hbn, hn66, hfr, hlo, hkc, hks⟩ := hX
  obtain ⟨h1, h2, h3⟩ := hS
  intro H locs la hP hSS hl
  exact va_sld hx hb h1 h2 h3 hSS (xin_vp hg) hd (k H locs la hP hSS hl)
theorem Xslen {X : XCtx} {own : String} {cc : ByteArray} {nL d b : Nat} (hX : XOk X own cc nL d b) {L : Nat} {xs : Nat → Int32} (hS : XScr X L xs) {pc : Nat} {ls : List (Nat × Value)} {st : List Value} {h : Hp} (hd : decode cc pc = .ok (.arraylength, 1)) (k : XW X (pc + 1) ls (.int (Int32.ofNat L) :: st) h) : XW X pc ls (.ref 67 :: st) h := by
  obtain ⟨p, l, e, R, s, m, args, below, meth, c, D, cT, ad, A, Q, n, kc, ks⟩ := X
  obtain ⟨hx, hb, hml, hown, hts, hK, hA, hadr, hbn, hn66, hfr, hlo, hkc, hks⟩ := hX
  obtain ⟨h1, h2, h3⟩ := hS
  intro H locs la hP hSS hl
  exact va_slen hx hb h1 h2 h3 hSS hd (k H locs la hP hSS hl)
def XRL (X : XCtx) (b : Nat) : Prop := match X with
  | (p, l, e, R, s, m, args, below, meth, c, D, cT, ad, A, Q, n, kc, ks) => R = room_1 ∧ args = #[Value.ref b] ∧ meth.sig.returnType = ret ∧ meth.locks = false ∧ Q = lw_Z below args s ∧ (∀ q, A q → s.heap.size ≤ q) ∧ kc ≤ 600000 ∧ ks ≤ 7302250
theorem XrLaw {X : XCtx} {own : String} {nL d b bb : Nat} (hX : XOk X own code nL d b) (hR : XRL X bb) {pc : Nat} {ls : List (Nat × Value)} {h h' : Hp} {v : Int32} (hf : some (v, h) = some ((1 : Int32), h')) (hd : decode code pc = .ok (.ireturn, 1)) : XW X pc ls [.int v] h := by
  cases hf
  obtain ⟨p, l, e, R, s, m, args, below, meth, c, D, cT, ad, A, Q, n, kc, ks⟩ := X
  obtain ⟨hx, hb, hml, hown, hts, hK, hA, hadr, hbn, hn66, hfr, hlo, hkc, hks⟩ := hX
  obtain ⟨rfl, rfl, hr, hlk, rfl, hAs, h1, h2⟩ := hR
  intro H locs la hP hSS hl
  refine va_forget (fun q hq => hAs _ (hSS.2.2 q hq)) ?_
  refine W.widen (k := 600000) (n := 7302250) h1 h2 ?_
  exact lw_ret hx hb hr hlk hd
theorem xZ_blind {D : va_G} {cT : Nat → ClassId} {ad : Nat → Nat} {n sz : Nat} {h : Hp} {av : List Value} {A : Nat → Prop} : FrameBlind (va_Pc av (fun U => xPre D cT ad n sz h U ∧ xZ ad A U)) := by
  intro a U g mk hq
  obtain ⟨q0, ⟨q1, q2, q3, q4⟩, q5, q6⟩ := hq
  exact ⟨q0, ⟨q1, q2, XK.same (u := U) (U := U.calling g mk a) rfl q3, q4⟩, va_Z.moved (u := U) (U := U.calling g mk a) (Vm.Alike.refl U.vm) q5, va_T.moved (u := U) (U := U.calling g mk a) (Vm.Alike.refl U.vm) q6⟩
theorem XcallVS {X : XCtx} {own : String} {cc : ByteArray} {nL d b : Nat} (hX : XOk X own cc nL d b) (hZ : XZ X) {d' b' : Nat} {y : MethodName} {bytes : ByteArray} {maxL : Nat} {ret : Option FieldType} {k ci : Nat} {tm : List Value} {q : vw_C} {As rest : List Value} {h h' : Hp} {r : Option Value} {pc idx : Nat} {ls : List (Nat × Value)} {st : List Value}
    (hM : MTS d' b' y bytes maxL ret (.ref k :: As) h r h') (hb' : b' ≤ b) (hd' : d' + 1 ≤ d) (hy : xmd y bytes maxL ret As.length) (hi : Cond.instanceMethod y ∈ XG) (hse : Cond.selects y.cls y y ∈ XG) (hl : xlnk own idx y) (hk : k < b) (hsh : xsh k = some (.inr (ci, tm))) (hci : vwCl[ci]? = some q) (hcl : q.1 = y.cls) (hst : st = As.reverse ++ .ref k :: rest) (hW : (rest.map fun v => v.category).sum ≤ 8) (hdg : decode cc pc = .ok (.invokevirtual idx, 3))
    (kk : XW X (pc + 3) ls (r.toList ++ rest) h') : XW X pc ls st h := by
  obtain ⟨p, l, e, R, s, m, args, below, meth, c, D, cT, ad, A, Q, n, kc, ks⟩ := X
  obtain ⟨hx, hb, hml, hown, hts, hK, hA, hadr, hbn, hn66, hfr, hlo, hkc, hks⟩ := hX
  obtain ⟨hcode, hini, hne, hpar, hmax⟩ := hy
  obtain ⟨hZ1, hZ2⟩ := hZ
  intro H locs la hP hS hll
  subst hst
  have hkn : k < n := Nat.lt_of_lt_of_le hk hbn
  have hM1 := hM l D cT ad n H.size (Nat.le_trans hb' hbn) hn66
  have hws := pay_in hts (xg_goodIn0 hcode)
  have hrv : ∃ cell : Cell, H[ad k]? = some cell ∧ cell.vm.isStatics = false ∧ s.vm.findClass y.cls = some cell.cls := by
    rw [← hcl]; exact va_recv hK.1 hP hci (show (xwrl n cT ad h)[k]? = some (ad k, .inr (ci, _)) by rw [xwrl_get hkn, xce_obj hsh])
  have hf2 : ∀ q, xAr n ad H.size q → A q := by
    rintro q (⟨k2, h1, rfl⟩ | h1)
    · exact hadr.2 k2 h1
    · exact hA q (Nat.le_trans hS.1 h1)
  have hpre : PreV s H y.cls (ad k) (va_Pc ((Value.ref k :: As).map (xcv ad)) (fun U => xPre D cT ad n H.size h U ∧ xZ ad (xAr n ad H.size) U)) (As.map (xcv ad)) :=
    ⟨xZ_blind, hrv, fun U hU hW => ⟨rfl, ⟨by rw [hU], by rw [hU]; exact hP, hK.warm hW, hadr.1⟩, by
      have z1 := (va_Z.narrow (hZ1.kept (H1 := H) (fun a h1 h2 => hS.2.1 a h1 h2)) hf2).moved hW.alike
      have z2 := (va_T.narrow (hZ2.kept (H1 := H) (fun a h1 h2 => hS.2.1 a h1 h2)) hf2).moved hW.alike
      unfold xZ
      rw [hU]
      exact ⟨z1, z2⟩⟩⟩
  have hroom : 8 + (maxL + 11) + (xrm d').locals ≤ R.locals := by
    show 8 + (maxL + 11) + 64 * d' ≤ R.locals
    omega
  have hframes : (xrm d').frames + 1 ≤ R.frames := by
    show d' + 1 ≤ R.frames
    omega
  have hsig : ∀ sig, parseMethodDescriptor y.desc = some sig → As.length = sig.parameters.length := fun sig hsg => by
    rw [hsg] at hpar; exact (Option.some.inj hpar).symm
  have hstk : (F0 m pc la ((As.reverse ++ .ref k :: rest).map (xcv ad))).stack = (As.map (xcv ad)).reverse ++ .ref (ad k) :: rest.map (xcv ad) := by
    show (As.reverse ++ .ref k :: rest).map (xcv ad) = _
    rw [List.map_append, List.map_reverse]; rfl
  have hW2 : 2 * (F0 m pc la ((As.reverse ++ .ref k :: rest).map (xcv ad))).monitorRoom + ((rest.map (xcv ad)).map fun v => v.category).sum ≤ 8 := lv_room (by rw [xsum_map]; exact hW)
  refine xrun (D := D) (cT := cT) (ad := ad) (n := n) (A1 := xAr n ad H.size) (free := xAr n ad H.size) (rest := rest.map (xcv ad)) (a := (Value.ref (ad k) :: As.map (xcv ad)).toArray) (r := r) (h' := h') ?_ hS hf2 hf2 (fun H1 locs1 hP1 hS1 => ?_)
  · rcases hl with hl | hl
    · exact va_runV (C := y.cls) (b := ad k) (As := As.map (xcv ad)) (nL := nL) ⟨hx, hb, hml, hown, hts⟩ hM1 ⟨⟨rfl, rfl, hframes, hroom, hws, List.mem_cons_self, hts _ hcode, hts _ hini, hne, hsig, hts _ hl⟩, hts _ hi, hts _ hse⟩ hpre rfl (by simp) (by rw [← hml]; exact hll.1) hstk hW2 hdg ⟨hkc, hks⟩
    · exact va_runVN (C := y.cls) (b := ad k) (As := As.map (xcv ad)) (nL := nL) ⟨hx, hb, hml, hown, hts⟩ hM1 ⟨⟨⟨rfl, rfl, hframes, hroom, hws, List.mem_cons_self⟩, hts _ hcode, hts _ hini, hne, hsig, va_Nw.use rfl (hK.2 _ hl)⟩, hts _ hi, hts _ hse⟩ hpre rfl (by simp) (by rw [← hml]; exact hll.1) hstk hW2 hdg ⟨hkc, hks⟩
  · have k1 := kk H1 locs1 la hP1 hS1 hll
    rw [List.map_append] at k1
    cases r <;> exact k1
