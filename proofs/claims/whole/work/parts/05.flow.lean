/-! ===== jumps ===== -/
def xcnd : Instr → List Value → Option (Prop × Int × List Value)
  | .ifCond .eq o, .int x :: r => some (x = 0, o, r)
  | .ifCond .lt o, .int x :: r => some (x < 0, o, r)
  | .ifCond .ge o, .int x :: r => some (0 ≤ x, o, r)
  | .ifCond .gt o, .int x :: r => some (0 < x, o, r)
  | .ifCond .le o, .int x :: r => some (x ≤ 0, o, r)
  | .if_icmp .eq o, .int y :: .int x :: r => some (x = y, o, r)
  | .if_icmp .lt o, .int y :: .int x :: r => some (x < y, o, r)
  | .if_icmp .ge o, .int y :: .int x :: r => some (y ≤ x, o, r)
  | .if_icmp .gt o, .int y :: .int x :: r => some (y < x, o, r)
  | .if_icmp .le o, .int y :: .int x :: r => some (x ≤ y, o, r)
  | _, _ => none
def xcndN : Instr → List Value → Option (Prop × Int × List Value)
  | .ifCond .ne o, .int x :: r => some (x = 0, o, r)
  | .if_icmp .ne o, .int y :: .int x :: r => some (x = y, o, r)
  | _, _ => none
theorem Xbr {X : XCtx} {own : String} {cc : ByteArray} {nL d b : Nat} (hX : XOk X own cc nL d b) {pc tgt : Nat} (i : Instr) {ls : List (Nat × Value)} {st r : List Value} {h : Hp} {P : Prop} {o : Int} (hd : decode cc pc = .ok (i, 3)) (hc : xcnd i st = some (P, o, r)) (ht : (pc : Int) + o = (tgt : Int)) (kt : P → XW X tgt ls r h) (kf : ¬ P → XW X (pc + 3) ls r h) : XW X pc ls st h := by
  obtain ⟨p, l, e, R, s, m, args, below, meth, c, D, cT, ad, A, Q, n, kc, ks⟩ := X
  obtain ⟨hx, hb, -⟩ := hX
  intro H locs la hP hS hl
  unfold xcnd at hc
  split at hc
  · cases hc; exact lv_if_eq hx hb hd ht (fun q => kt q H locs la hP hS hl) (fun q => kf q H locs la hP hS hl)
  · cases hc; exact lv_if_lt hx hb hd ht (fun q => kt q H locs la hP hS hl) (fun q => kf q H locs la hP hS hl)
  · cases hc; exact lv_if_ge hx hb hd ht (fun q => kt q H locs la hP hS hl) (fun q => kf q H locs la hP hS hl)
  · cases hc; exact lv_if_gt hx hb hd ht (fun q => kt q H locs la hP hS hl) (fun q => kf q H locs la hP hS hl)
  · cases hc; exact lv_if_le hx hb hd ht (fun q => kt q H locs la hP hS hl) (fun q => kf q H locs la hP hS hl)
  · cases hc; exact lv_icmp_eq hx hb hd ht (fun q => kt q H locs la hP hS hl) (fun q => kf q H locs la hP hS hl)
  · cases hc; exact lv_icmp_lt hx hb hd ht (fun q => kt q H locs la hP hS hl) (fun q => kf q H locs la hP hS hl)
  · cases hc; exact lv_icmp_ge hx hb hd ht (fun q => kt q H locs la hP hS hl) (fun q => kf q H locs la hP hS hl)
  · cases hc; exact lv_icmp_gt hx hb hd ht (fun q => kt q H locs la hP hS hl) (fun q => kf q H locs la hP hS hl)
  · cases hc; exact lv_icmp_le hx hb hd ht (fun q => kt q H locs la hP hS hl) (fun q => kf q H locs la hP hS hl)
  · cases hc
theorem XbrN {X : XCtx} {own : String} {cc : ByteArray} {nL d b : Nat} (hX : XOk X own cc nL d b) {pc tgt : Nat} (i : Instr) {ls : List (Nat × Value)} {st r : List Value} {h : Hp} {P : Prop} {o : Int} (hd : decode cc pc = .ok (i, 3)) (hc : xcndN i st = some (P, o, r)) (ht : (pc : Int) + o = (tgt : Int)) (kf : P → XW X (pc + 3) ls r h) (kt : ¬ P → XW X tgt ls r h) : XW X pc ls st h := by
  obtain ⟨p, l, e, R, s, m, args, below, meth, c, D, cT, ad, A, Q, n, kc, ks⟩ := X
  obtain ⟨hx, hb, -⟩ := hX
  intro H locs la hP hS hl
  unfold xcndN at hc
  split at hc
  · cases hc; exact lv_if_ne hx hb hd ht (fun q => kt q H locs la hP hS hl) (fun q => kf q H locs la hP hS hl)
  · cases hc; exact lv_icmp_ne hx hb hd ht (fun q => kt q H locs la hP hS hl) (fun q => kf q H locs la hP hS hl)
  · cases hc
theorem Xgoto {X : XCtx} {own : String} {cc : ByteArray} {nL d b : Nat} (hX : XOk X own cc nL d b) {pc : Nat} (o : Int) (tgt : Nat) {ls : List (Nat × Value)} {st : List Value} {h : Hp} (hd : decode cc pc = .ok (.goto o, 3)) (ht : (pc : Int) + o = (tgt : Int)) (k : XW X tgt ls st h) : XW X pc ls st h := by
  obtain ⟨p, l, e, R, s, m, args, below, meth, c, D, cT, ad, A, Q, n, kc, ks⟩ := X
  obtain ⟨hx, hb, -⟩ := hX
  intro H locs la hP hS hl
  exact lv_goto hx hb hd ht (k H locs la hP hS hl)
theorem XswOut {X : XCtx} {own : String} {cc : ByteArray} {nL d b : Nat} (hX : XOk X own cc nL d b) {pc : Nat} {dflt lo hi : Int} {offs : Array Int} {len : Nat} {x : Int32} (tgt : Nat) {ls : List (Nat × Value)} {st : List Value} {h : Hp} (hd : decode cc pc = .ok (.tableswitch dflt lo hi offs, len)) (hh : x.toInt < lo ∨ hi < x.toInt) (ht : (pc : Int) + dflt = (tgt : Int)) (k : XW X tgt ls st h) : XW X pc ls (.int x :: st) h := by
  obtain ⟨p, l, e, R, s, m, args, below, meth, c, D, cT, ad, A, Q, n, kc, ks⟩ := X
  obtain ⟨hx, hb, -⟩ := hX
  intro H locs la hP hS hl
  exact lv_tableOut hx hb hd hh ht (k H locs la hP hS hl)
theorem XswIn {X : XCtx} {own : String} {cc : ByteArray} {nL d b : Nat} (hX : XOk X own cc nL d b) {pc : Nat} {dflt lo hi o : Int} {offs : Array Int} {len : Nat} {x : Int32} (tgt : Nat) {ls : List (Nat × Value)} {st : List Value} {h : Hp} (hd : decode cc pc = .ok (.tableswitch dflt lo hi offs, len)) (h1 : ¬ x.toInt < lo) (h2 : ¬ hi < x.toInt) (ho : offs[(x.toInt - lo).toNat]? = some o) (ht : (pc : Int) + o = (tgt : Int)) (k : XW X tgt ls st h) : XW X pc ls (.int x :: st) h := by
  obtain ⟨p, l, e, R, s, m, args, below, meth, c, D, cT, ad, A, Q, n, kc, ks⟩ := X
  obtain ⟨hx, hb, -⟩ := hX
  intro H locs la hP hS hl
  exact lv_tableIn hx hb hd h1 h2 ho ht (k H locs la hP hS hl)
theorem xref_at {rs : List Nat} {ad : Nat → Nat} {j t : Nat} (h : rs[j]? = some t) : va_rf ((rs[j]?).map ad) = .ref (ad t) := by rw [h]; rfl
/-- a reference out of an array of references -/
theorem Xaald {X : XCtx} {own : String} {cc : ByteArray} {nL d b : Nat} (hX : XOk X own cc nL d b) {pc q n0 t : Nat} {rs : List Nat} {j : Int32} {ls : List (Nat × Value)} {st : List Value} {h : Hp} (hd : decode cc pc = .ok (.aaload, 1)) (hsh : xsh q = some (.inl (4, n0, rs))) (hq : q < b) (hj : xin j n0 = true) (hr : rs[j.toNatClampNeg]? = some t) (k : XW X (pc + 1) ls (.ref t :: st) h) : XW X pc ls (.int j :: .ref q :: st) h := by
  obtain ⟨p, l, e, R, s, m, args, below, meth, c, D, cT, ad, A, Q, n, kc, ks⟩ := X
  obtain ⟨hx, hb, hml, hown, hts, hK, hA, hadr, hbn, hn66, hfr, hlo, hkc, hks⟩ := hX
  intro H locs la hP hS hl
  refine va_aldq (a := ad q) (f := fun j => (rs[j]?).map ad) hx hb hK.1 hP q 4 (by rw [xwrl_get (Nat.lt_of_lt_of_le hq hbn), xce_refs hsh]) rfl (xin_vp hj) hd ?_
  rw [xref_at hr]
  exact k H locs la hP hS hl
/-! ===== a method's contract ===== -/
def xrm (d : Nat) : Room := { frames := d, cells := 0, slots := 0, locals := 64 * d }
def xAr (n : Nat) (ad : Nat → Nat) (sz : Nat) : Nat → Prop := fun q => (∃ k, k < n ∧ q = ad k) ∨ sz ≤ q
def xPre (D : va_G) (cT : Nat → ClassId) (ad : Nat → Nat) (n sz : Nat) (h : Hp) (U : State) : Prop := U.heap.size = sz ∧ va_P D vwCl (xwrl n cT ad h) U.heap ∧ XK D cT U ∧ ∀ i j, i < n → j < n → ad i = ad j → i = j
def xQ (D : va_G) (cT : Nat → ClassId) (ad : Nat → Nat) (n : Nat) (A : Nat → Prop) (r : Option Value) (h' : Hp) : Array Value → State → Outcome → State → Prop := fun _ st oc t => (oc = .returned (r.map (xcv ad)) ∧ va_P D vwCl (xwrl n cT ad h') t.heap ∧ XK D cT t) ∧ va_F A st t
def MT (d b : Nat) (y : MethodName) (bytes : ByteArray) (maxL : Nat) (ret : Option FieldType) (as : List Value) (h : Hp) (r : Option Value) (h' : Hp) : Prop :=
  ∀ (l : Launch) (D : va_G) (cT : Nat → ClassId) (ad : Nat → Nat) (n sz : Nat), b ≤ n → n ≤ 66 → Met l y (.code y bytes maxL ret :: XG) (xrm d) (va_Pc (as.map (xcv ad)) (xPre D cT ad n sz h)) (xQ D cT ad n (xAr n ad sz) r h') 0 0 (xAr n ad sz)
/-- what a return must give -/
def XR (X : XCtx) (ret : Option FieldType) (r : Option Value) (h' : Hp) : Prop := match X with
  | (p, l, e, R, s, m, args, below, meth, c, D, cT, ad, A, Q, n, kc, ks) => meth.sig.returnType = ret ∧ meth.locks = false ∧ Q = MQ below (xQ D cT ad n A r h') args s kc ks A
theorem lg_map (ad : Nat → Nat) (vs : List Value) : (lg_sl (vs.map (xcv ad))).length = (lg_sl vs).length := by
  induction vs with
  | nil => rfl
  | cons v t ih =>
    simp only [lg_sl, List.map_cons, List.flatMap_cons, List.length_append] at ih ⊢
    rw [ih, xcv_cat]
    split <;> rfl
theorem lv_args_map (ad : Nat → Nat) (vs : List Value) : ∀ i, lv_args i (vs.map (xcv ad)) = xcl ad (lv_args i vs) := by
  induction vs with
  | nil => intro i; rfl
  | cons v t ih =>
    intro i
    simp only [List.map_cons, lv_args, xcl, xcv_cat]
    rw [ih]
    rfl
theorem MT.of {d b : Nat} {y : MethodName} {bytes : ByteArray} {maxL : Nat} {ret : Option FieldType} {as : List Value} {h h' : Hp} {r : Option Value} (hy : plainName y.cls = true) (hlen : (lg_sl as).length ≤ maxL)
    (body : ∀ X : XCtx, XOk X y.cls bytes maxL d b → XR X ret r h' → XW X 0 (lv_args 0 as) [] h) : MT d b y bytes maxL ret as h r h' := by
  intro l D cT ad n sz hbn hn66
  refine Met.ofW (cc := bytes) (maxL := maxL) (ret := ret) hy rfl ?_
  intro p e s m args below meth c s₁ B hml hv
  obtain ⟨rfl, hsz, hP, hK, hinj⟩ := hv
  subst hsz
  have hts := atoms_spec (ws := .code y bytes maxL ret :: XG) B.pre
  have hown : s.vm.findClass y.cls = some m.cls := findClass_of_methodNamed B.named
  have hl := lv_entry (as.map (xcv ad)) (n := maxL) (by rw [lg_map]; exact hlen)
  rw [lg_entry_eq]
  rw [lv_args_map] at hl
  refine body (p, l, e, xrm d, s, m, (as.map (xcv ad)).toArray, below, meth, c, D, cT, ad, xAr n ad s.heap.size, MQ below (xQ D cT ad n (xAr n ad s.heap.size) r h') (as.map (xcv ad)).toArray s 0 0 (xAr n ad s.heap.size), n, 0, 0) ?_ ?_ s.heap [] _ hP va_S.rf (by rw [hml]; exact hl)
  · exact ⟨B.exec, B.bytes, hml, hown, fun w hw => hts w (List.mem_cons_of_mem _ hw), hK, fun q hq => Or.inr hq, ⟨hinj, fun k hk => Or.inl ⟨k, hk, rfl⟩⟩, hbn, hn66, Nat.le_refl _, Nat.le_refl _, Nat.zero_le _, Nat.zero_le _⟩
  · exact ⟨B.returns, B.notSynchronized, rfl⟩
theorem XretI {X : XCtx} {own : String} {cc : ByteArray} {nL d b : Nat} (hX : XOk X own cc nL d b) {pc : Nat} {ls : List (Nat × Value)} {h : Hp} {v : Int32} (hR : XR X (some .int) (some (.int v)) h) (hd : decode cc pc = .ok (.ireturn, 1)) : XW X pc ls [.int v] h := by
  obtain ⟨p, l, e, R, s, m, args, below, meth, c, D, cT, ad, A, Q, n, kc, ks⟩ := X
  obtain ⟨hx, hb, hml, hown, hts, hK, hA, hadr, hbn, hn66, hfr, hlo, hkc, hks⟩ := hX
  obtain ⟨hr, hlk, rfl⟩ := hR
  intro H locs la hP hS hl
  exact W.iret (v := v) hx hb hr (fun t ht hW => ⟨⟨rfl, by rw [ht]; exact hP, hK.warm hW⟩, hS.F ht⟩) hS.2.2 hd hlk
theorem XretZ {X : XCtx} {own : String} {cc : ByteArray} {nL d b : Nat} (hX : XOk X own cc nL d b) {pc : Nat} {ls : List (Nat × Value)} {h : Hp} {v : Int32} (hR : XR X (some .boolean) (some (.int v)) h) (hv : xbool v = true) (hd : decode cc pc = .ok (.ireturn, 1)) : XW X pc ls [.int v] h := by
  obtain ⟨p, l, e, R, s, m, args, below, meth, c, D, cT, ad, A, Q, n, kc, ks⟩ := X
  obtain ⟨hx, hb, hml, hown, hts, hK, hA, hadr, hbn, hn66, hfr, hlo, hkc, hks⟩ := hX
  obtain ⟨hr, hlk, rfl⟩ := hR
  intro H locs la hP hS hl
  exact W.zret (v := v) hx hb hr (xboolN hv) (fun t ht hW => ⟨⟨rfl, by rw [ht]; exact hP, hK.warm hW⟩, hS.F ht⟩) hS.2.2 hd hlk
theorem XretL {X : XCtx} {own : String} {cc : ByteArray} {nL d b : Nat} (hX : XOk X own cc nL d b) {pc : Nat} {ls : List (Nat × Value)} {h : Hp} {v : Int64} (hR : XR X (some .long) (some (.long v)) h) (hd : decode cc pc = .ok (.lreturn, 1)) : XW X pc ls [.long v] h := by
  obtain ⟨p, l, e, R, s, m, args, below, meth, c, D, cT, ad, A, Q, n, kc, ks⟩ := X
  obtain ⟨hx, hb, hml, hown, hts, hK, hA, hadr, hbn, hn66, hfr, hlo, hkc, hks⟩ := hX
  obtain ⟨hr, hlk, rfl⟩ := hR
  intro H locs la hP hS hl
  exact W.lret (v := v) hx hb hr (fun t ht hW => ⟨⟨rfl, by rw [ht]; exact hP, hK.warm hW⟩, hS.F ht⟩) hS.2.2 hd hlk
theorem XretV {X : XCtx} {own : String} {cc : ByteArray} {nL d b : Nat} (hX : XOk X own cc nL d b) {pc : Nat} {ls : List (Nat × Value)} {h : Hp} (hR : XR X none none h) (hd : decode cc pc = .ok (.return_, 1)) : XW X pc ls [] h := by
  obtain ⟨p, l, e, R, s, m, args, below, meth, c, D, cT, ad, A, Q, n, kc, ks⟩ := X
  obtain ⟨hx, hb, hml, hown, hts, hK, hA, hadr, hbn, hn66, hfr, hlo, hkc, hks⟩ := hX
  obtain ⟨hr, hlk, rfl⟩ := hR
  intro H locs la hP hS hl
  exact W.vret hx hb hr (fun t ht hW => ⟨⟨rfl, by rw [ht]; exact hP, hK.warm hW⟩, hS.F ht⟩) hS.2.2 hd hlk
/-! ===== calls ===== -/
section XRun
variable {p : Program} {l : Launch} {e : Env} {R : Room} {s : State} {m : MethodId} {args : Array Value} {below : List Frame} {meth : Method} {c : Code} {D : va_G} {cT : Nat → ClassId} {ad : Nat → Nat} {A A1 : Nat → Prop} {Q : State → Prop} {n kc ks : Nat} {H : Heap} {locs : List Loc} {la : Array Slot} {pc : Nat} {h' : Hp} {r : Option Value} {rest st0 : List Value} {a : Array Value} {free : Addr → Prop}
theorem xrun (hr : va_Run p l e R s m args below meth c H locs kc ks 0 0 (F0 m pc la st0) rest (xQ D cT ad n A1 r h' a) free) (hS : va_S A s.heap H locs) (hA : ∀ q, A1 q → A q) (hf : ∀ q, free q → A q)
    (kk : ∀ (H1 : Heap) (locs1 : List Loc), va_P D vwCl (xwrl n cT ad h') H1 → va_S A s.heap H1 locs1 → W p l e R s m args below meth c H1 locs1 kc ks Q (F0 m (pc + 3) la ((r.map (xcv ad)).toList ++ rest))) : W p l e R s m args below meth c H locs kc ks Q (F0 m pc la st0) := by
  intro T hT X
  obtain ⟨v, st₀, t, T', L, h0, X', hL, e1, e2, ⟨⟨hv, hp, hb⟩, hz, hk⟩, st⟩ := hr T hT X
  cases hv
  rw [h0] at hz hk
  obtain ⟨t2, a1, b1⟩ := kk T'.heap (locs ++ L) (by rw [e1]; exact hp)
    ⟨Nat.le_trans hS.1 (by rw [e1]; exact hz), fun q h1 h2 => by rw [e1, hk q (Nat.lt_of_lt_of_le h1 hS.1) (fun z => h2 (hA q z))]; exact hS.2.1 q h1 h2, fun q hq => by
      rcases List.mem_append.mp hq with h | h
      · exact hS.2.2 q h
      · exact hf _ (hL q h)⟩ T' rfl X'
  exact ⟨t2, st t2 a1, b1⟩
end XRun
/-- what a caller needs of a method: its code, its class, its descriptor -/
def xmd (y : MethodName) (bytes : ByteArray) (maxL : Nat) (ret : Option FieldType) (na : Nat) : Prop := Cond.code y bytes maxL ret ∈ XG ∧ Cond.initialized y.cls ∈ XG ∧ (y.cls ≠ "java/lang/invoke/MethodHandle" ∧ y.cls ≠ "java/lang/invoke/VarHandle") ∧ (parseMethodDescriptor y.desc).map (fun d => d.parameters.length) = some na ∧ maxL ≤ 45
def xlnk (own : String) (idx : Nat) (y : MethodName) : Prop := Cond.methodLink own idx y ∈ XG ∨ Cond.methodLinkNest own idx y "HallCarrier" ∈ XN
theorem xPre_blind {D : va_G} {cT : Nat → ClassId} {ad : Nat → Nat} {n sz : Nat} {h : Hp} {av : List Value} : FrameBlind (va_Pc av (xPre D cT ad n sz h)) := by
  intro a U g mk hq
  obtain ⟨q0, q1, q2, q3, q4⟩ := hq
  exact ⟨q0, q1, q2, XK.same (u := U) (U := U.calling g mk a) rfl q3, q4⟩
theorem xsum_map (ad : Nat → Nat) (st : List Value) : ((st.map (xcv ad)).map fun v => v.category).sum = (st.map fun v => v.category).sum := by
  rw [List.map_map]
  congr 1
  apply List.map_congr_left
  intro v _
  exact xcv_cat ad v
theorem XcallV {X : XCtx} {own : String} {cc : ByteArray} {nL d b : Nat} (hX : XOk X own cc nL d b) {d' b' : Nat} {y : MethodName} {bytes : ByteArray} {maxL : Nat} {ret : Option FieldType} {k ci : Nat} {tm : List Value} {q : vw_C} {As rest : List Value} {h h' : Hp} {r : Option Value} {pc idx : Nat} {ls : List (Nat × Value)} {st : List Value}
    (hM : MT d' b' y bytes maxL ret (.ref k :: As) h r h') (hb' : b' ≤ b) (hd' : d' + 1 ≤ d) (hy : xmd y bytes maxL ret As.length) (hi : Cond.instanceMethod y ∈ XG) (hse : Cond.selects y.cls y y ∈ XG) (hl : xlnk own idx y) (hk : k < b) (hsh : xsh k = some (.inr (ci, tm))) (hci : vwCl[ci]? = some q) (hcl : q.1 = y.cls) (hst : st = As.reverse ++ .ref k :: rest) (hW : (rest.map fun v => v.category).sum ≤ 8) (hdg : decode cc pc = .ok (.invokevirtual idx, 3))
    (kk : XW X (pc + 3) ls (r.toList ++ rest) h') : XW X pc ls st h := by
  obtain ⟨p, l, e, R, s, m, args, below, meth, c, D, cT, ad, A, Q, n, kc, ks⟩ := X
  obtain ⟨hx, hb, hml, hown, hts, hK, hA, hadr, hbn, hn66, hfr, hlo, hkc, hks⟩ := hX
  obtain ⟨hcode, hini, hne, hpar, hmax⟩ := hy
  intro H locs la hP hS hll
  subst hst
  have hkn : k < n := Nat.lt_of_lt_of_le hk hbn
  have hM1 := hM l D cT ad n H.size (Nat.le_trans hb' hbn) hn66
  have hws := pay_in hts (xg_goodIn0 hcode)
  have hrv : ∃ cell : Cell, H[ad k]? = some cell ∧ cell.vm.isStatics = false ∧ s.vm.findClass y.cls = some cell.cls := by
    rw [← hcl]; exact va_recv hK.1 hP hci (show (xwrl n cT ad h)[k]? = some (ad k, .inr (ci, _)) by rw [xwrl_get hkn, xce_obj hsh])
  have hpre : PreV s H y.cls (ad k) (va_Pc ((Value.ref k :: As).map (xcv ad)) (xPre D cT ad n H.size h)) (As.map (xcv ad)) :=
    ⟨xPre_blind, hrv, fun U hU hW => ⟨rfl, by rw [hU], by rw [hU]; exact hP, hK.warm hW, hadr.1⟩⟩
  have hf2 : ∀ q, xAr n ad H.size q → A q := by
    rintro q (⟨k2, h1, rfl⟩ | h1)
    · exact hadr.2 k2 h1
    · exact hA q (Nat.le_trans hS.1 h1)
  have hroom : 8 + (maxL + 11) + (xrm d').locals ≤ R.locals := by
    show 8 + (maxL + 11) + 64 * d' ≤ R.locals
    omega
  have hframes : (xrm d').frames + 1 ≤ R.frames := by
    show d' + 1 ≤ R.frames
    omega
  have hsig : ∀ sig, parseMethodDescriptor y.desc = some sig → As.length = sig.parameters.length := fun sig hsg => by
    rw [hsg] at hpar; exact (Option.some.inj hpar).symm
  have hstk : (F0 m pc la ((As.reverse ++ .ref k :: rest).map (xcv ad))).stack = (As.map (xcv ad)).reverse ++ .ref (ad k) :: rest.map (xcv ad) := by
    show (As.reverse ++ .ref k :: rest).map (xcv ad) = _
    rw [List.map_append, List.map_reverse]; rfl
  have hW2 : 2 * (F0 m pc la ((As.reverse ++ .ref k :: rest).map (xcv ad))).monitorRoom + ((rest.map (xcv ad)).map fun v => v.category).sum ≤ 8 := lv_room (by rw [xsum_map]; exact hW)
  refine xrun (D := D) (cT := cT) (ad := ad) (n := n) (A1 := xAr n ad H.size) (free := xAr n ad H.size) (rest := rest.map (xcv ad)) (a := (Value.ref (ad k) :: As.map (xcv ad)).toArray) (r := r) (h' := h') ?_ hS hf2 hf2 (fun H1 locs1 hP1 hS1 => ?_)
  · rcases hl with hl | hl
    · exact va_runV (C := y.cls) (b := ad k) (As := As.map (xcv ad)) (nL := nL) ⟨hx, hb, hml, hown, hts⟩ hM1 ⟨⟨rfl, rfl, hframes, hroom, hws, List.mem_cons_self, hts _ hcode, hts _ hini, hne, hsig, hts _ hl⟩, hts _ hi, hts _ hse⟩ hpre rfl (by simp) (by rw [← hml]; exact hll.1) hstk hW2 hdg ⟨hkc, hks⟩
    · exact va_runVN (C := y.cls) (b := ad k) (As := As.map (xcv ad)) (nL := nL) ⟨hx, hb, hml, hown, hts⟩ hM1 ⟨⟨⟨rfl, rfl, hframes, hroom, hws, List.mem_cons_self⟩, hts _ hcode, hts _ hini, hne, hsig, va_Nw.use rfl (hK.2 _ hl)⟩, hts _ hi, hts _ hse⟩ hpre rfl (by simp) (by rw [← hml]; exact hll.1) hstk hW2 hdg ⟨hkc, hks⟩
  · have k1 := kk H1 locs1 la hP1 hS1 hll
    rw [List.map_append] at k1
    cases r <;> exact k1
theorem XcallS {X : XCtx} {own : String} {cc : ByteArray} {nL d b : Nat} (hX : XOk X own cc nL d b) {d' b' : Nat} {y : MethodName} {bytes : ByteArray} {maxL : Nat} {ret : Option FieldType} {As rest : List Value} {h h' : Hp} {r : Option Value} {pc idx : Nat} {ls : List (Nat × Value)} {st : List Value}
    (hM : MT d' b' y bytes maxL ret As h r h') (hb' : b' ≤ b) (hd' : d' + 1 ≤ d) (hy : xmd y bytes maxL ret As.length) (hi : Cond.static y ∈ XG) (hl : xlnk own idx y) (hst : st = As.reverse ++ rest) (hW : (rest.map fun v => v.category).sum ≤ 8) (hdg : decode cc pc = .ok (.invokestatic idx, 3))
    (kk : XW X (pc + 3) ls (r.toList ++ rest) h') : XW X pc ls st h := by
  obtain ⟨p, l, e, R, s, m, args, below, meth, c, D, cT, ad, A, Q, n, kc, ks⟩ := X
  obtain ⟨hx, hb, hml, hown, hts, hK, hA, hadr, hbn, hn66, hfr, hlo, hkc, hks⟩ := hX
  obtain ⟨hcode, hini, hne, hpar, hmax⟩ := hy
  intro H locs la hP hS hll
  subst hst
  have hM1 := hM l D cT ad n H.size (Nat.le_trans hb' hbn) hn66
  have hws := pay_in hts (xg_goodIn0 hcode)
  have hpre : PreS s H (va_Pc (As.map (xcv ad)) (xPre D cT ad n H.size h)) (As.map (xcv ad)) :=
    ⟨xPre_blind, fun U hU hW => ⟨rfl, by rw [hU], by rw [hU]; exact hP, hK.warm hW, hadr.1⟩⟩
  have hf2 : ∀ q, xAr n ad H.size q → A q := by
    rintro q (⟨k2, h1, rfl⟩ | h1)
    · exact hadr.2 k2 h1
    · exact hA q (Nat.le_trans hS.1 h1)
  have hroom : 8 + (maxL + 11) + (xrm d').locals ≤ R.locals := by
    show 8 + (maxL + 11) + 64 * d' ≤ R.locals
    omega
  have hframes : (xrm d').frames + 1 ≤ R.frames := by
    show d' + 1 ≤ R.frames
    omega
  have hsig : ∀ sig, parseMethodDescriptor y.desc = some sig → As.length = sig.parameters.length := fun sig hsg => by
    rw [hsg] at hpar; exact (Option.some.inj hpar).symm
  have hstk : (F0 m pc la ((As.reverse ++ rest).map (xcv ad))).stack = (As.map (xcv ad)).reverse ++ rest.map (xcv ad) := by
    show (As.reverse ++ rest).map (xcv ad) = _
    rw [List.map_append, List.map_reverse]
  have hW2 : 2 * (F0 m pc la ((As.reverse ++ rest).map (xcv ad))).monitorRoom + ((rest.map (xcv ad)).map fun v => v.category).sum ≤ 8 := lv_room (by rw [xsum_map]; exact hW)
  refine xrun (D := D) (cT := cT) (ad := ad) (n := n) (A1 := xAr n ad H.size) (free := xAr n ad H.size) (rest := rest.map (xcv ad)) (a := (As.map (xcv ad)).toArray) (r := r) (h' := h') ?_ hS hf2 hf2 (fun H1 locs1 hP1 hS1 => ?_)
  · rcases hl with hl | hl
    · exact va_runS (As := As.map (xcv ad)) (nL := nL) ⟨hx, hb, hml, hown, hts⟩ hM1 ⟨⟨rfl, rfl, hframes, hroom, hws, List.mem_cons_self, hts _ hcode, hts _ hini, hne, hsig, hts _ hl⟩, hts _ hi⟩ hpre rfl (by simp) (by rw [← hml]; exact hll.1) hstk hW2 hdg ⟨hkc, hks⟩
    · exact va_runSN (As := As.map (xcv ad)) (nL := nL) ⟨hx, hb, hml, hown, hts⟩ hM1 ⟨⟨⟨rfl, rfl, hframes, hroom, hws, List.mem_cons_self⟩, hts _ hcode, hts _ hini, hne, hsig, va_Nw.use rfl (hK.2 _ hl)⟩, hts _ hi, trivial⟩ hpre rfl (by simp) (by rw [← hml]; exact hll.1) hstk hW2 hdg ⟨hkc, hks⟩
  · have k1 := kk H1 locs1 la hP1 hS1 hll
    rw [List.map_append] at k1
    cases r <;> exact k1
/-- System.arraycopy between two int arrays -/
theorem Xcopy {X : XCtx} {own : String} {cc : ByteArray} {nL d b : Nat} (hX : XOk X own cc nL d b) {pc idx q0 q1 n0 n1 : Nat} {r0 r1 : List Nat} {sp dp k : Int32} {ls : List (Nat × Value)} {rest : List Value} {h : Hp} (hl : Cond.methodLink own idx arraycopyName ∈ XG) (hnat : Cond.native arraycopyName ∈ XG) (hstt : Cond.static arraycopyName ∈ XG) (hini : Cond.initialized "java/lang/System" ∈ XG) (h0 : xsh q0 = some (.inl (0, n0, r0))) (h1 : xsh q1 = some (.inl (0, n1, r1))) (hq0 : q0 < b) (hq1 : q1 < b) (hd1 : 1 ≤ d)
    (hg : (!decide (sp < 0) && !decide (dp < 0) && !decide (k < 0) && decide (sp.toNatClampNeg + k.toNatClampNeg ≤ n0) && decide (dp.toNatClampNeg + k.toNatClampNeg ≤ n1)) = true) (hW : (rest.map fun v => v.category).sum ≤ 8) (hdg : decode cc pc = .ok (.invokestatic idx, 3))
    (kk : XW X (pc + 3) ls rest (xCp h q0 q1 sp.toNatClampNeg dp.toNatClampNeg k.toNatClampNeg)) : XW X pc ls (.int k :: .int dp :: .ref q1 :: .int sp :: .ref q0 :: rest) h := by
  obtain ⟨p, l, e, R, s, m, args, below, meth, c, D, cT, ad, A, Q, n, kc, ks⟩ := X
  obtain ⟨hx, hb, hml, hown, hts, hK, hA, hadr, hbn, hn66, hfr, hlo, hkc, hks⟩ := hX
  intro H locs la hP hS hll
  simp only [Bool.and_eq_true, Bool.not_eq_true', decide_eq_false_iff_not, decide_eq_true_eq] at hg
  obtain ⟨⟨⟨⟨g1, g2⟩, g3⟩, g4⟩, g5⟩ := hg
  have hq0n : q0 < n := Nat.lt_of_lt_of_le hq0 hbn
  have hq1n : q1 < n := Nat.lt_of_lt_of_le hq1 hbn
  refine va_copyi (a := ad q1) (a0 := ad q0) (ty := .int) hx hb hll.1.symm hown (hts _ hl) (hts _ hnat) (hts _ hstt) (hts _ hini) hK.1 hP (xad_D hadr h) hS q0 q1 0 0 (by rw [xwrl_get hq0n, xce_int h0 (by decide) (by decide)]) (by rw [xwrl_get hq1n, xce_int h1 (by decide) (by decide)]) rfl rfl rfl g1 g2 g3 g4 g5 (fun i _ => rfl) (by omega) ?_ hdg (fun H1 locs1 hP1 _ hS1 => ?_)
  · rw [xsum_map]
    have : nativeFrameWords "java/lang/System" "arraycopy" 5 + 11 ≤ 56 := by decide
    omega
  · rw [xwrl_set (h' := xCp h q0 q1 sp.toNatClampNeg dp.toNatClampNeg k.toNatClampNeg) hq1n (by rw [xce_int h1 (by decide) (by decide), xCp_self]) (fun j0 e0 => xce_Cp_ne h _ _ _ e0)] at hP1
    exact kk H1 locs1 la hP1 hS1 hll
theorem xb {α β : Type} {x : Option α} {f : α → Option β} {y : β} (h : x.bind f = some y) : ∃ q, x = some q ∧ f q = some y := by
  cases x with
  | none => cases h
  | some q => exact ⟨q, rfl, h⟩
/-- a guard -/
def xgd {α : Type} (g : Bool) (k : Option α) : Option α := if g = true then k else none
theorem xgd_inv {α : Type} {g : Bool} {k : Option α} {y : α} (h : xgd g k = some y) : g = true ∧ k = some y := by
  unfold xgd at h
  split at h
  · next e => exact ⟨e, h⟩
  · cases h
