/-! ===== constructors' contracts and calls ===== -/
theorem Yblk {X : XCtx} {own : String} {cc : ByteArray} {nL d mc ms : Nat} {P : XPool} {C : YPool} {po : Nat} {hh : Hp} {o : Nat} (hX : YOk X own cc nL d mc ms) (hpo : po ≤ o) (hxo : xclo po = true) (hAO : match X with
    | (_, _, _, _, s, _) => va_AO "HallCarrier$Scene" s) (hp : xpok own P) (hF0 : ∀ q ∈ P.1, q.2.2.2 = false → ∀ (K : String) (T : u_T) (N : Nat), vwCl[q.2.1]? = some (K, T, N) → K = own) (hC : ypok own C) {pc pc' : Nat} (is : List Instr) {ls ls' : List (Nat × Value)} {st st' : List Value} {cs cs' : List xSh} {kc ks kc' ks' : Nat} (hd : ydec cc pc is = true) (he : yend pc is = pc') (hs : yblk P C o mc ms is (ls, st, cs, kc, ks) = some (ls', st', cs', kc', ks')) (h0 : 0 < cs.length) (k : YW X po hh o pc' ls' st' cs' kc' ks') : YW X po hh o pc ls st cs kc ks := by
  subst he
  exact yblk_ok hX hpo hxo hAO hp hF0 hC is pc ls ls' st st' cs cs' kc ks kc' ks' hd hs h0 k
theorem Yobj {X : XCtx} {own : String} {cc : ByteArray} {nL d mc ms : Nat} {po : Nat} {hh : Hp} {o pc idx r : Nat} {ls : List (Nat × Value)} {st : List Value} {cs : List xSh} {kc ks : Nat} (hX : YOk X own cc nL d mc ms) (hd1 : 1 ≤ d) (hl : Cond.methodLink own idx objectInit ∈ XG) (hi : Cond.instanceMethod objectInit ∈ XG) (hc : Cond.code objectInit ⟨#[0xb1]⟩ 1 none ∈ XG) (hW : (st.map fun v => v.category).sum ≤ 8) (hd : decode cc pc = .ok (.invokespecial idx, 3)) (k : YW X po hh o (pc + 3) ls st cs kc ks) : YW X po hh o pc ls (.ref r :: st) cs kc ks := by
  obtain ⟨p, l, e, R, s, m, args, below, meth, c, D, cT, ad0, A, Q, n0, n1, n2⟩ := X
  obtain ⟨hx, hb, hml, hown, hts, hK, hA, hin, hfr, hlo, rfl, rfl⟩ := hX
  intro ad H locs la h0 hP hD hS hll
  refine W.objInit hx hb hown (hts _ hl) (hts _ hi) (hts _ hc) rfl hll.1 rfl hd (by omega) ?_ ?_
  · have := lv_room (m := m) (pc := pc) (ls := la) (rest := (.ref r :: st).map (xcv ad)) (st := st.map (xcv ad)) (by rw [xsum_map]; exact hW)
    have h12 : 2 * (F0 m pc la ((.ref r :: st).map (xcv ad))).monitorRoom + ((st.map (xcv ad)).map fun v => v.category).sum ≤ 8 := this
    omega
  · exact k ad H locs la h0 hP hD hS hll
def yrm (d mc ms : Nat) : Room := { frames := d, cells := mc, slots := ms, locals := 64 * d }
def yPre (D : va_G) (cT : Nat → ClassId) (ad0 : Nat → Nat) (po : Nat) (hh : Hp) (o sz : Nat) (cs0 : List xSh) (U : State) : Prop := U.heap.size = sz ∧ va_P D vwCl (yall po hh o cT ad0 cs0) U.heap ∧ XK D cT U ∧ va_D (fun _ => True) (yall po hh o cT ad0 cs0) ∧ va_AO "HallCarrier$Scene" U
/-- a constructor's end: its world is w ad' -/
def yQ (D : va_G) (cT : Nat → ClassId) (ad0 : Nat → Nat) (o : Nat) (A : Nat → Prop) (w : (Nat → Nat) → va_W) : Array Value → State → Outcome → State → Prop := fun _ st oc t => (oc = .returned none ∧ ∃ ad' : Nat → Nat, (∀ j, j ≤ o → ad' j = ad0 j) ∧ va_P D vwCl (w ad') t.heap ∧ va_D A (w ad') ∧ XK D cT t) ∧ va_F A st t
def MI (d mc ms po : Nat) (hh : Hp) (o : Nat) (y : MethodName) (bytes : ByteArray) (maxL : Nat) (cs0 : List xSh) (w : (Nat → ClassId) → (Nat → Nat) → va_W) : Prop :=
  ∀ (l : Launch) (D : va_G) (cT : Nat → ClassId) (ad0 : Nat → Nat) (sz : Nat), Met l y (.code y bytes maxL none :: XG) (yrm d mc ms) (va_Pc [.ref (ad0 o)] (yPre D cT ad0 po hh o sz cs0)) (yQ D cT ad0 o (va_A (yall po hh o cT ad0 cs0) sz) (w cT)) mc ms (va_A (yall po hh o cT ad0 cs0) sz)
def YR (X : XCtx) (o mc ms : Nat) (w : (Nat → ClassId) → (Nat → Nat) → va_W) : Prop := match X with
  | (p, l, e, R, s, m, args, below, meth, c, D, cT, ad0, A, Q, _, _, _) => meth.sig.returnType = none ∧ meth.locks = false ∧ Q = MQ below (yQ D cT ad0 o A (w cT)) args s mc ms A
theorem MI.of {d mc ms po : Nat} {hh : Hp} {o : Nat} {y : MethodName} {bytes : ByteArray} {maxL : Nat} {cs0 : List xSh} {w : (Nat → ClassId) → (Nat → Nat) → va_W} (hy : plainName y.cls = true) (hn : y.name = "<init>") (hlen : 1 ≤ maxL)
    (body : ∀ X : XCtx, YOk X y.cls bytes maxL d mc ms → (match X with
    | (_, _, _, _, s, _) => va_AO "HallCarrier$Scene" s) → YR X o mc ms w → YW X po hh o 0 [(0, .ref o)] [] cs0 0 0) : MI d mc ms po hh o y bytes maxL cs0 w := by
  intro l D cT ad0 sz
  refine Met.ofW (cc := bytes) (maxL := maxL) (ret := none) hy rfl ?_
  intro p e s m args below meth c s₁ B hml hv
  obtain ⟨rfl, hsz, hP, hK, hD, hAO⟩ := hv
  subst hsz
  have hts := atoms_spec (ws := .code y bytes maxL none :: XG) B.pre
  have hown : s.vm.findClass y.cls = some m.cls := findClass_of_methodNamed B.named
  have hin : meth.name = "<init>" := hn ▸ (name_of_methodNamed B.named B.method).1
  have hl := lv_entry [Value.ref (ad0 o)] (n := maxL) hlen
  rw [lg_entry_eq]
  refine body (p, l, e, yrm d mc ms, s, m, [Value.ref (ad0 o)].toArray, below, meth, c, D, cT, ad0, va_A (yall po hh o cT ad0 cs0) s.heap.size, MQ below (yQ D cT ad0 o (va_A (yall po hh o cT ad0 cs0) s.heap.size) (w cT)) [Value.ref (ad0 o)].toArray s mc ms (va_A (yall po hh o cT ad0 cs0) s.heap.size), 0, 0, 0) ?_ hAO ?_ ad0 s.heap [] _ (fun _ _ => rfl) hP hD.self va_S.rf (by rw [hml]; exact hl)
  · exact ⟨B.exec, B.bytes, hml, hown, fun w hw => hts w (List.mem_cons_of_mem _ hw), hK, fun q hq => Or.inr hq, hin, Nat.le_refl _, Nat.le_refl _, rfl, rfl⟩
  · exact ⟨B.returns, B.notSynchronized, rfl⟩
theorem Yret {X : XCtx} {own : String} {cc : ByteArray} {nL d mc ms : Nat} {po : Nat} {hh : Hp} {o pc : Nat} {ls : List (Nat × Value)} {cs : List xSh} (hX : YOk X own cc nL d mc ms) (hR : YR X o mc ms (fun cT ad => yall po hh o cT ad cs)) (hd : decode cc pc = .ok (.return_, 1)) : YW X po hh o pc ls [] cs mc ms := by
  obtain ⟨p, l, e, R, s, m, args, below, meth, c, D, cT, ad0, A, Q, n0, n1, n2⟩ := X
  obtain ⟨hx, hb, hml, hown, hts, hK, hA, hin, hfr, hlo, rfl, rfl⟩ := hX
  obtain ⟨hr, hlk, rfl⟩ := hR
  intro ad H locs la h0 hP hD hS hl
  exact W.vret hx hb hr (fun t ht hW => ⟨⟨rfl, ad, h0, by rw [ht]; exact hP, hD, hK.warm hW⟩, hS.F ht⟩) hS.2.2 hd hlk
theorem va_nd_range (k : Nat) : va_nd (List.range k) = true := by
  have key : ∀ l : List Nat, l.Nodup → va_nd l = true := by
    intro l
    induction l with
    | nil => intro _; rfl
    | cons a t ih =>
      intro h
      have h := List.nodup_cons.mp h
      simp only [va_nd, Bool.and_eq_true, decide_eq_true_eq]
      exact ⟨h.1, ih h.2⟩
  exact key _ List.nodup_range
theorem ywrl_app {o : Nat} {cT : Nat → ClassId} {ad : Nat → Nat} {c1 c2 : List xSh} : ywrl o cT ad (c1 ++ c2) = ywrl o cT ad c1 ++ ywrl (o + c1.length) cT ad c2 := by
  unfold ywrl
  rw [List.mapIdx_append]
  congr 1
  apply List.ext_getElem?
  intro i
  simp only [List.getElem?_mapIdx]
  cases c2[i]? with
  | none => rfl
  | some c => simp; congr 1; omega
theorem va_AO.warm {C : String} {s U : State} (hW : s.WarmedH U.vm) (h : va_AO C s) : va_AO C U := va_AO.moved hW.alike h
/-- the call of a nest mate's constructor, on the cell that was made last -/
theorem YcallN {X : XCtx} {own : String} {cc : ByteArray} {nL d mc ms : Nat} {o pc idx : Nat} {hh : Hp} {ls : List (Nat × Value)} {st : List Value} {cs cs0 cs1 : List xSh} {c0 : xSh} {kc ks d' mc' ms' maxL : Nat} {y : MethodName} {bytes : ByteArray} {hh' : Hp} (hX : YOk X own cc nL d mc ms) (hAO : match X with
    | (_, _, _, _, s, _) => va_AO "HallCarrier$Scene" s) (hM : MI d' mc' ms' 0 hh' (o + cs0.length) y bytes maxL [c0] (fun cT ad => yall 0 hh' (o + cs0.length) cT ad cs1)) (hd' : d' + 1 ≤ d) (hy : xmd y bytes maxL none 0) (hi : Cond.instanceMethod y ∈ XG) (hyn : y.name = "<init>") (hl : Cond.methodLinkNest own idx y "HallCarrier" ∈ XN) (hcs : cs = cs0 ++ [c0]) (hchk : ychk (o + cs0.length + 1) ls st [] = true) (hc0 : cs0.all (clt (o + cs0.length)) = true) (hW : (st.map fun v => v.category).sum ≤ 8) (hkc : kc + mc' ≤ mc) (hks : ks + ms' ≤ ms) (hd : decode cc pc = .ok (.invokespecial idx, 3))
    (k : YW X 0 hh o (pc + 3) ls st (cs0 ++ cs1) (kc + mc') (ks + ms')) : YW X 0 hh o pc ls (.ref (o + cs0.length) :: st) cs kc ks := by
  obtain ⟨p, l, e, R, s, m, args, below, meth, c, D, cT, ad0, A, Q, n0, n1, n2⟩ := X
  obtain ⟨hx, hb, hml, hown, hts, hK, hA, hin, hfr, hlo, rfl, rfl⟩ := hX
  obtain ⟨hcode, hini, hne, hpar, hmax⟩ := hy
  simp only [ychk, Bool.and_eq_true] at hchk
  subst hcs
  intro ad H locs la h0 hP hD hS hll
  have hM1 := hM l D cT ad H.size
  have hws := pay_in hts (xg_goodIn0 hcode)
  have ew : yall 0 hh o cT ad (cs0 ++ [c0]) = ywrl o cT ad cs0 ++ yall 0 hh' (o + cs0.length) cT ad [c0] := by
    simp only [yall, ywrl_app]
    rfl
  have el : (ywrl o cT ad cs0).length = cs0.length := by simp [ywrl]
  have hC : [cs0.length].map (fun i => (yall 0 hh o cT ad (cs0 ++ [c0]))[i]?) = (yall 0 hh' (o + cs0.length) cT ad [c0]).map some := by
    rw [ew]
    simp only [List.map_cons, List.map_nil]
    rw [List.getElem?_append_right (by omega), el, Nat.sub_self]
    simp [yall, ywrl, xwrl]
  have hRr : (List.range cs0.length).map (fun i => (yall 0 hh o cT ad (cs0 ++ [c0]))[i]?) = (ywrl o cT ad cs0).map some := by
    rw [ew]
    apply List.ext_getElem?
    intro i
    by_cases hi2 : i < cs0.length
    · have h9 : i < (ywrl o cT ad cs0).length := by omega
      simp [hi2, List.getElem?_append_left h9, List.getElem?_eq_getElem h9]
    · rw [List.getElem?_eq_none (by simpa using hi2), List.getElem?_eq_none (by simp [el]; omega)]
  have hPc : va_P D vwCl (yall 0 hh' (o + cs0.length) cT ad [c0]) H := by
    intro k2 q hq
    refine hP (cs0.length + k2) q ?_
    rw [ew, List.getElem?_append_right (by omega), el]
    simpa using hq
  have hDc : va_D (fun _ => True) (yall 0 hh' (o + cs0.length) cT ad [c0]) := by
    refine ⟨fun i j a b h1 h2 h3 => ?_, fun _ _ _ => trivial⟩
    have e1 : (yall 0 hh o cT ad (cs0 ++ [c0]))[cs0.length + i]? = some a := by
      rw [ew, List.getElem?_append_right (by omega), el]; simpa using h1
    have e2 : (yall 0 hh o cT ad (cs0 ++ [c0]))[cs0.length + j]? = some b := by
      rw [ew, List.getElem?_append_right (by omega), el]; simpa using h2
    have := hD.1 _ _ a b e1 e2 h3
    omega
  have hFc := va_free (wc := yall 0 hh' (o + cs0.length) cT ad [c0]) hD hS hA [cs0.length] hC
  have hpre : PreS s H (va_Pc [.ref (ad (o + cs0.length))] (yPre D cT ad 0 hh' (o + cs0.length) H.size [c0])) (.ref (ad (o + cs0.length)) :: []) := by
    refine ⟨?_, fun U hU hW => ⟨rfl, by rw [hU], by rw [hU]; exact hPc, hK.warm hW, hDc, va_AO.warm hW hAO⟩⟩
    intro a U g mk hq
    obtain ⟨q0, q1, q2, q3, q4, q5⟩ := hq
    exact ⟨q0, q1, q2, XK.same (u := U) (U := U.calling g mk a) rfl q3, q4, q5⟩
  have hroom : 8 + (maxL + 11) + (yrm d' mc' ms').locals ≤ R.locals := by
    show 8 + (maxL + 11) + 64 * d' ≤ R.locals
    omega
  have hframes : (yrm d' mc' ms').frames + 1 ≤ R.frames := by
    show d' + 1 ≤ R.frames
    omega
  have hsig : ∀ sig, parseMethodDescriptor y.desc = some sig → 0 = sig.parameters.length := fun sig hsg => by
    rw [hsg] at hpar; exact (Option.some.inj hpar).symm
  have hW2 : 2 * (F0 m pc la ((.ref (o + cs0.length) :: st).map (xcv ad))).monitorRoom + ((st.map (xcv ad)).map fun v => v.category).sum ≤ 8 := lv_room (by rw [xsum_map]; exact hW)
  have hrun := va_runIN (e := e) (b := ad (o + cs0.length)) (As := []) (rest := st.map (xcv ad)) (nL := nL) (g := F0 m pc la ((.ref (o + cs0.length) :: st).map (xcv ad))) (locs := locs) (cells := kc) (slots := ks) (below := below) (meth := meth) ⟨hx, hb, hml, hown, hts⟩ hM1 ⟨⟨⟨rfl, rfl, hframes, hroom, hws, List.mem_cons_self⟩, hts _ hcode, hts _ hini, hne, hsig, va_Nw.use rfl (hK.2 _ hl)⟩, hyn, hts _ hi⟩ hpre rfl rfl (by rw [← hml]; exact hll.1) rfl hW2 hd ⟨hkc, hks⟩
  intro T hT X9
  obtain ⟨v, st₀, t, T', L, h00, X', hL, e1, e2, ⟨⟨hv, ad', hag, hp1, hd1, hk1⟩, hz, hkk⟩, stp⟩ := hrun T hT X9
  cases hv
  rw [h00] at hz hkk
  obtain ⟨hP3, hD3⟩ := va_join (H1 := T'.heap) (wr := ywrl o cT ad cs0) (w1 := yall 0 hh' (o + cs0.length) cT ad' cs1) hP hD [cs0.length] (List.range cs0.length) hC hRr (va_nd_range _) (fun i hi9 hi8 => by
    have := List.mem_range.mp hi9
    rw [List.mem_singleton] at hi8
    omega) (fun q h1 h2 => by rw [e1, hkk q h1 h2]) hFc (by rw [e1]; exact hp1) hd1
  have hlt : ∀ j, j < o + cs0.length → ad' j = ad j := fun j hj => hag j (by omega)
  have hlt1 : ∀ j, j < o + cs0.length + 1 → ad' j = ad j := fun j hj => hag j (by omega)
  have e5 : ywrl o cT ad cs0 ++ yall 0 hh' (o + cs0.length) cT ad' cs1 = yall 0 hh o cT ad' (cs0 ++ cs1) := by
    rw [← ywrl_eq hlt hc0]
    simp only [yall, ywrl_app]
    rfl
  rw [e5] at hP3 hD3
  obtain ⟨t2, a1, b1⟩ := k ad' T'.heap (locs ++ L) la (fun j hj => by rw [hag j (by omega)]; exact h0 j hj) hP3 hD3
    ⟨Nat.le_trans hS.1 (by rw [e1]; exact hz), fun q h1 h2 => by rw [e1, hkk q (Nat.lt_of_lt_of_le h1 hS.1) (fun z => h2 (hFc q z))]; exact hS.2.1 q h1 h2, fun q hq => by
      rcases List.mem_append.mp hq with h | h
      · exact hS.2.2 q h
      · exact hFc _ (hL q h)⟩ (by rw [xcl_eq hlt1 hchk.1]; exact hll) T' rfl X'
  rw [xst_eq hlt1 hchk.2.1] at a1
  exact ⟨t2, stp t2 a1, b1⟩
/-! ===== from the growing world to the whole one ===== -/
def hz (po : Nat) (hh : Hp) : Hp := (fun a b => if a < po then hh.1 a b else 0, fun a b => if a < po then hh.2 a b else 0)
def yshv : Value → Value
  | .int _ => .int 0
  | .float _ => .int 0
  | .long _ => .long 0
  | v => v
def ysh : xSh → xSh
  | .inl a => .inl a
  | .inr (ci, tm) => .inr (ci, tm.map yshv)
theorem yce_x {cT : Nat → ClassId} {ad : Nat → Nat} {po k : Nat} {hh : Hp} {c : xSh} (hs : xsh k = some c) (hk : po ≤ k) : yce cT ad (ysh c) = xce cT ad (hz po hh) k := by
  have hn : ¬ k < po := by omega
  have e1 : (hz po hh).1 k = fun _ => 0 := by funext b; simp [hz, hn]
  have e2 : (hz po hh).2 k = fun _ => 0 := by funext b; simp [hz, hn]
  match c, hs with
  | .inl (t, n, rs), hs => unfold xce; rw [hs]; simp only [ysh, yce, e1, e2]
  | .inr (ci, tm), hs =>
    rw [xce_obj hs]
    simp only [ysh, yce]
    congr 2
    apply List.ext_getElem?
    intro i
    simp only [List.map_map, List.getElem?_map, List.getElem?_mapIdx]
    cases tm[i]? with
    | none => rfl
    | some v => cases v <;> simp [yshv, xcv, xfv, e1, e2]
theorem yall_x {cT : Nat → ClassId} {ad : Nat → Nat} {po n : Nat} {hh : Hp} {cs : List xSh} (hn : po + cs.length = n) (hn66 : n ≤ 66) (hcs : ((xshL.drop po).take cs.length).map ysh = cs) : yall po hh po cT ad cs = xwrl n cT ad (hz po hh) := by
  subst hn
  apply List.ext_getElem?
  intro i
  by_cases hi : i < po
  · unfold yall
    rw [List.getElem?_append_left (by simpa [xwrl] using hi), xwrl_get hi, xwrl_get (by omega)]
    have e : xce cT ad (hz po hh) i = xce cT ad hh i := by
      have e1 : (hz po hh).1 i = hh.1 i := by funext b; simp [hz, hi]
      have e2 : (hz po hh).2 i = hh.2 i := by funext b; simp [hz, hi]
      have e3 : ∀ k w, xfv ad (hz po hh) i k w = xfv ad hh i k w := by
        intro k w; cases w <;> simp [xfv, e1, e2]
      unfold xce
      split <;> simp [e1, e2, e3]
    rw [e]
  · unfold yall
    rw [List.getElem?_append_right (by simpa [xwrl] using hi)]
    have e0 : i - (xwrl po cT ad hh).length = i - po := by simp [xwrl]
    rw [e0]
    by_cases hl : i - po < cs.length
    · have hx : ∃ c, xsh i = some c ∧ cs[i - po]? = some (ysh c) := by
        have h1 : cs[i - po]? = (((xshL.drop po).take cs.length).map ysh)[i - po]? := by rw [hcs]
        rw [List.getElem?_map, List.getElem?_take_of_lt hl, List.getElem?_drop] at h1
        have h2 : po + (i - po) = i := by omega
        rw [h2] at h1
        have h3 : i < xshL.length := by rw [xshL_len]; omega
        refine ⟨xshL[i], List.getElem?_eq_getElem h3, ?_⟩
        rw [h1, List.getElem?_eq_getElem h3]
        rfl
      obtain ⟨c, h1, h2⟩ := hx
      rw [ywrl_get h2, xwrl_get (by omega), yce_x (po := po) (hh := hh) h1 (by omega)]
      congr 2
      congr 1
      omega
    · rw [List.getElem?_eq_none (by simpa [ywrl] using hl), List.getElem?_eq_none (by simp [xwrl]; omega)]
def xset (X : XCtx) (ad : Nat → Nat) (n kc ks : Nat) : XCtx := match X with
  | (p, l, e, R, s, m, args, below, meth, c, D, cT, _, A, Q, _, _, _) => (p, l, e, R, s, m, args, below, meth, c, D, cT, ad, A, Q, n, kc, ks)
/-- what a constructor's end must give, seen from the whole world -/
def XRC (X : XCtx) (o n : Nat) (h' : Hp) : Prop := match X with
  | (p, l, e, R, s, m, args, below, meth, c, D, cT, ad, A, Q, _, kc, ks) => meth.sig.returnType = none ∧ meth.locks = false ∧ ∃ ad0 : Nat → Nat, (∀ j, j ≤ o → ad j = ad0 j) ∧ Q = MQ below (yQ D cT ad0 o A (fun ad' => xwrl n cT ad' h')) args s kc ks A
theorem XrC {X : XCtx} {own : String} {cc : ByteArray} {nL d b o pc : Nat} {ls : List (Nat × Value)} {h h' : Hp} (hX : XOk X own cc nL d b) (hR : XRC X o b h') (hbn : match X with
    | (_, _, _, _, _, _, _, _, _, _, _, _, _, _, _, n, _, _) => n = b) (hf : some h = some h') (hd : decode cc pc = .ok (.return_, 1)) : XW X pc ls [] h := by
  cases hf
  obtain ⟨p, l, e, R, s, m, args, below, meth, c, D, cT, ad, A, Q, n, kc, ks⟩ := X
  obtain ⟨hx, hb, hml, hown, hts, hK, hA, hadr, hbn', hn66, hfr, hlo, hkc, hks⟩ := hX
  obtain ⟨hr, hlk, ad0, hag, rfl⟩ := hR
  have hbn : n = b := hbn
  subst hbn
  intro H locs la hP hS hl
  exact W.vret hx hb hr (fun t ht hW => ⟨⟨rfl, ad, hag, by rw [ht]; exact hP, xad_D hadr _, hK.warm hW⟩, hS.F ht⟩) hS.2.2 hd hlk
theorem YX {X : XCtx} {own : String} {cc : ByteArray} {nL d mc ms : Nat} {po n pc : Nat} {hh h' : Hp} {ls : List (Nat × Value)} {st : List Value} {cs : List xSh} (hX : YOk X own cc nL d mc ms) (hR : YR X po mc ms (fun cT ad' => xwrl n cT ad' h')) (hn : po + cs.length = n) (hn66 : n ≤ 66) (hcs : ((xshL.drop po).take cs.length).map ysh = cs)
    (k : ∀ X' : XCtx, XOk X' own cc nL d n → XRC X' po n h' → (match X' with
    | (_, _, _, _, _, _, _, _, _, _, _, _, _, _, _, n', _, _) => n' = n) → XW X' pc ls st (hz po hh)) : YW X po hh po pc ls st cs mc ms := by
  obtain ⟨p, l, e, R, s, m, args, below, meth, c, D, cT, ad0, A, Q, n0, n1, n2⟩ := X
  obtain ⟨hx, hb, hml, hown, hts, hK, hA, hin, hfr, hlo, rfl, rfl⟩ := hX
  obtain ⟨hr, hlk, rfl⟩ := hR
  intro ad H locs la h0 hP hD hS hl
  rw [yall_x hn hn66 hcs] at hP hD
  exact k (p, l, e, R, s, m, args, below, meth, c, D, cT, ad, A, _, n, R.cells, R.slots) ⟨hx, hb, hml, hown, hts, hK, hA, xad_of_D hD, Nat.le_refl _, hn66, hfr, hlo, Nat.le_refl _, Nat.le_refl _⟩ ⟨hr, hlk, ad0, h0, rfl⟩ rfl H locs la hP hS hl
