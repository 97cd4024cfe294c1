/-! ===== constructors: worlds that grow; nothing in them but defaults and references ===== -/
def yce (cT : Nat → ClassId) (ad : Nat → Nat) : xSh → va_E
  | .inl (t, n, rs) => .inl (cT t, n, if t = 1 then .inr (.inl (fun _ => 0)) else if t = 4 then .inr (.inr (.inr (.inr (fun j => (rs[j]?).map ad)))) else .inl (fun _ => 0))
  | .inr (ci, fs) => .inr (ci, fs.map (xcv ad))
def ywrl (o : Nat) (cT : Nat → ClassId) (ad : Nat → Nat) (cs : List xSh) : va_W := cs.mapIdx (fun k c => (ad (o + k), yce cT ad c))
def vlt (m : Nat) : Value → Bool
  | .ref r => decide (r < m)
  | _ => true
def clt (m : Nat) : xSh → Bool
  | .inl (_, _, rs) => rs.all (fun r => decide (r < m))
  | .inr (_, fs) => fs.all (vlt m)
def ychk (m : Nat) (ls : List (Nat × Value)) (st : List Value) (cs : List xSh) : Bool := ls.all (fun q => vlt m q.2) && (st.all (vlt m) && cs.all (clt m))
theorem vlt_eq {m : Nat} {ad ad' : Nat → Nat} (h : ∀ j, j < m → ad' j = ad j) {v : Value} (hv : vlt m v = true) : xcv ad' v = xcv ad v := by
  cases v <;> simp [xcv]
  case ref r => exact h r (by simpa [vlt] using hv)
theorem clt_eq {m : Nat} {cT : Nat → ClassId} {ad ad' : Nat → Nat} (h : ∀ j, j < m → ad' j = ad j) {c : xSh} (hc : clt m c = true) : yce cT ad' c = yce cT ad c := by
  match c, hc with
  | .inl (t, n, rs), hc =>
    have e : (fun j : Nat => (rs[j]?).map ad') = (fun j : Nat => (rs[j]?).map ad) := by
      funext j
      cases hr : rs[j]? with
      | none => rfl
      | some r =>
        have := List.all_eq_true.mp hc r (List.mem_of_getElem? hr)
        simp [h r (by simpa using this)]
    simp only [yce, e]
  | .inr (ci, fs), hc =>
    have e : fs.map (xcv ad') = fs.map (xcv ad) := List.map_congr_left fun v hv => vlt_eq h (List.all_eq_true.mp hc v hv)
    simp only [yce, e]
theorem ywrl_get {o : Nat} {cT : Nat → ClassId} {ad : Nat → Nat} {cs : List xSh} {k : Nat} {c : xSh} (h : cs[k]? = some c) : (ywrl o cT ad cs)[k]? = some (ad (o + k), yce cT ad c) := by
  simp [ywrl, h]
theorem ywrl_eq {o : Nat} {cT : Nat → ClassId} {ad ad' : Nat → Nat} {cs : List xSh} (h : ∀ j, j < o + cs.length → ad' j = ad j) (hc : cs.all (clt (o + cs.length)) = true) : ywrl o cT ad' cs = ywrl o cT ad cs := by
  apply List.ext_getElem?
  intro k
  cases hk : cs[k]? with
  | none => simp [ywrl, hk]
  | some c =>
    have hl : k < cs.length := (List.getElem?_eq_some_iff.mp hk).1
    rw [ywrl_get hk, ywrl_get hk, h _ (by omega), clt_eq h (List.all_eq_true.mp hc c (List.mem_of_getElem? hk))]
theorem ywrl_push {o : Nat} {cT : Nat → ClassId} {ad : Nat → Nat} {cs : List xSh} {c : xSh} : ywrl o cT ad (cs ++ [c]) = ywrl o cT ad cs ++ [(ad (o + cs.length), yce cT ad c)] := by
  simp [ywrl, List.mapIdx_append]
theorem ywrl_set {o : Nat} {cT : Nat → ClassId} {ad : Nat → Nat} {cs : List xSh} {k : Nat} {c : xSh} : (ywrl o cT ad cs).set k (ad (o + k), yce cT ad c) = ywrl o cT ad (cs.set k c) := by
  apply List.ext_getElem?
  intro i
  by_cases hi : i = k
  · subst hi
    by_cases hl : i < cs.length
    · rw [List.getElem?_set_self (by simpa [ywrl] using hl), ywrl_get (List.getElem?_set_self hl)]
    · rw [List.getElem?_eq_none (by simpa [ywrl] using hl), List.getElem?_eq_none (by simpa [ywrl] using hl)]
  · rw [List.getElem?_set_ne (Ne.symm hi)]
    simp [ywrl, List.getElem?_set_ne (Ne.symm hi)]
/-- an address more -/
def yad (ad : Nat → Nat) (m q : Nat) : Nat → Nat := fun j => if j = m then q else ad j
theorem yad_lt {ad : Nat → Nat} {m q : Nat} : ∀ j, j < m → yad ad m q j = ad j := fun j h => by simp [yad, Nat.ne_of_lt h]
theorem ywrl_new {o : Nat} {cT : Nat → ClassId} {ad : Nat → Nat} {cs : List xSh} {c : xSh} {q : Nat} (hc : cs.all (clt (o + cs.length)) = true) (hn : clt (o + cs.length) c = true) : ywrl o cT ad cs ++ [(q, yce cT ad c)] = ywrl o cT (yad ad (o + cs.length) q) (cs ++ [c]) := by
  rw [ywrl_push, ywrl_eq yad_lt hc, clt_eq yad_lt hn]
  simp [yad]
/-- the first cells of the world, whole; behind them cells that come -/
def yall (po : Nat) (hh : Hp) (o : Nat) (cT : Nat → ClassId) (ad : Nat → Nat) (cs : List xSh) : va_W := xwrl po cT ad hh ++ ywrl o cT ad cs
/-- the first cells point to nothing but themselves -/
def xclo (po : Nat) : Bool := (xshL.take po).all (clt po)
theorem xclo_eq {po : Nat} (h : xclo po = true) {cT : Nat → ClassId} {ad ad' : Nat → Nat} {hh : Hp} (ha : ∀ j, j < po → ad' j = ad j) : xwrl po cT ad' hh = xwrl po cT ad hh := by
  unfold xwrl
  apply List.map_congr_left
  intro k hk
  have hk : k < po := List.mem_range.mp hk
  rw [ha k hk]
  congr 1
  unfold xce
  cases hs : xsh k with
  | none => rfl
  | some c =>
    have hc : clt po c = true := by
      refine List.all_eq_true.mp h c (List.mem_of_getElem? (i := k) ?_)
      rw [List.getElem?_take_of_lt hk]; exact hs
    match c, hc with
    | .inl (t, n, rs), hc =>
      have e : (fun j : Nat => (rs[j]?).map ad') = (fun j : Nat => (rs[j]?).map ad) := by
        funext j
        cases hr : rs[j]? with
        | none => rfl
        | some r =>
          have := List.all_eq_true.mp hc r (List.mem_of_getElem? hr)
          simp [ha r (by simpa using this)]
      simp only [e]
    | .inr (ci, tm), hc =>
      have e : tm.mapIdx (fun j v => xfv ad' hh k j v) = tm.mapIdx (fun j v => xfv ad hh k j v) := by
        apply List.ext_getElem?
        intro i
        simp only [List.getElem?_mapIdx]
        cases hv : tm[i]? with
        | none => rfl
        | some v =>
          have := List.all_eq_true.mp hc v (List.mem_of_getElem? hv)
          cases v <;> simp [xfv]
          case ref r => exact ha r (by simpa [vlt] using this)
      simp only [e]
theorem yall_get {po o : Nat} {hh : Hp} {cT : Nat → ClassId} {ad : Nat → Nat} {cs : List xSh} {k : Nat} {c : xSh} (h : cs[k]? = some c) : (yall po hh o cT ad cs)[po + k]? = some (ad (o + k), yce cT ad c) := by
  unfold yall
  rw [List.getElem?_append_right (by simp [xwrl])]
  have : po + k - (xwrl po cT ad hh).length = k := by simp [xwrl]
  rw [this]
  exact ywrl_get h
theorem yall_set {po o : Nat} {hh : Hp} {cT : Nat → ClassId} {ad : Nat → Nat} {cs : List xSh} {k : Nat} {c : xSh} : (yall po hh o cT ad cs).set (po + k) (ad (o + k), yce cT ad c) = yall po hh o cT ad (cs.set k c) := by
  unfold yall
  rw [List.set_append_right _ _ (by simp [xwrl])]
  have : po + k - (xwrl po cT ad hh).length = k := by simp [xwrl]
  rw [this, ywrl_set]
theorem yall_new {po o : Nat} {hh : Hp} {cT : Nat → ClassId} {ad : Nat → Nat} {cs : List xSh} {c : xSh} {q : Nat} (hpo : po ≤ o) (hx : xclo po = true) (hc : cs.all (clt (o + cs.length)) = true) (hn : clt (o + cs.length) c = true) : yall po hh o cT ad cs ++ [(q, yce cT ad c)] = yall po hh o cT (yad ad (o + cs.length) q) (cs ++ [c]) := by
  unfold yall
  rw [List.append_assoc, ywrl_new hc hn, xclo_eq hx (fun j hj => yad_lt j (by omega))]
theorem xcl_eq {m : Nat} {ad ad' : Nat → Nat} (h : ∀ j, j < m → ad' j = ad j) {ls : List (Nat × Value)} (hl : ls.all (fun q => vlt m q.2) = true) : xcl ad' ls = xcl ad ls := by
  unfold xcl
  apply List.map_congr_left
  intro q hq
  rw [vlt_eq h (List.all_eq_true.mp hl q hq)]
theorem xst_eq {m : Nat} {ad ad' : Nat → Nat} (h : ∀ j, j < m → ad' j = ad j) {st : List Value} (hl : st.all (vlt m) = true) : st.map (xcv ad') = st.map (xcv ad) :=
  List.map_congr_left fun v hv => vlt_eq h (List.all_eq_true.mp hl v hv)
def YW (X : XCtx) (po : Nat) (hh : Hp) (o pc : Nat) (ls : List (Nat × Value)) (st : List Value) (cs : List xSh) (kc ks : Nat) : Prop := match X with
  | (p, l, e, R, s, m, args, below, meth, c, D, cT, ad0, A, Q, _, _, _) => ∀ (ad : Nat → Nat) (H : Heap) (locs : List Loc) (la : Array Slot), (∀ j, j ≤ o → ad j = ad0 j) → va_P D vwCl (yall po hh o cT ad cs) H → va_D A (yall po hh o cT ad cs) → va_S A s.heap H locs → lv_has la c.maxLocals (xcl ad ls) →
    W p l e R s m args below meth c H locs kc ks Q (F0 m pc la (st.map (xcv ad)))
def YOk (X : XCtx) (own : String) (cc : ByteArray) (nL d mc ms : Nat) : Prop := match X with
  | (p, l, e, R, s, m, args, below, meth, c, D, cT, ad, A, Q, _, _, _) => p.tables.exec = Jvm.exec ∧ c.code = cc ∧ c.maxLocals = nL ∧ s.vm.findClass own = some m.cls ∧ (∀ w ∈ XG, w.before args s = true) ∧ XK D cT s ∧ (∀ q, s.heap.size ≤ q → A q) ∧ meth.name = "<init>" ∧ d ≤ R.frames ∧ 64 * d ≤ R.locals ∧ R.cells = mc ∧ R.slots = ms
def ydef : Nat → Option (List Value)
  | 0 => some [.null, .long 0, .long 0, .long 0, .long 0]
  | 1 => some [.null, .null, .null, .int 0, .long 0, .long 0]
  | 2 => some [.null, .null, .null, .null, .null, .null, .null, .int 0, .int 0, .int 0, .int 0]
  | 3 => some [.null, .null, .null, .null, .null, .null, .int 0, .int 0, .int 0, .int 0, .int 0]
  | 4 => some [.null, .int 0, .null, .null, .null, .null, .null, .null, .long 0, .long 0]
  | 5 => some [.long 0, .null, .int 0, .int 0, .int 0, .null, .null, .int 0, .long 0, .long 0, .int 0, .int 0, .int 0, .null, .null, .int 0, .null, .null, .null, .int 0, .int 0, .null, .null, .null, .null, .int 0, .null, .null, .null, .null, .null, .null, .null, .null, .null, .null, .null, .null, .null, .null]
  | _ => none
abbrev YS : Type := List (Nat × Value) × List Value × List xSh × Nat × Nat
/-- classes that a class makes: (entry, class) -/
abbrev YPool : Type := List (Nat × Nat)
def yat : ArrayType → Option Nat
  | .int => some 0
  | .long => some 1
  | .byte => some 2
  | .boolean => some 3
  | _ => none
def ylen : Instr → Nat
  | .bipush _ => 2
  | .newarray _ => 2
  | .sipush _ => 3
  | .putfield _ => 3
  | .new _ => 3
  | .anewarray _ => 3
  | _ => 1
/-- one instruction of a constructor -/
def ys1 (P : XPool) (C : YPool) (o RC RS : Nat) (i : Instr) (s : YS) : Option YS := match s with
  | (ls, st, cs, kc, ks) => match i with
    | .iconst n => some (ls, .int (xic n) :: st, cs, kc, ks)
    | .bipush n => if -128 ≤ n ∧ n < 128 then some (ls, .int (xic n) :: st, cs, kc, ks) else none
    | .sipush n => if -32768 ≤ n ∧ n < 32768 then some (ls, .int (xic n) :: st, cs, kc, ks) else none
    | .aload_n k => match xlk ls k with
      | some (.ref v) => some (ls, .ref v :: st, cs, kc, ks)
      | _ => none
    | .dup => match st with
      | .ref x :: r => some (ls, .ref x :: .ref x :: r, cs, kc, ks)
      | _ => none
    | .newarray a => match st with
      | .int n :: r => match yat a with
        | some t => if (!decide (n < 0) && (decide (n.toNatClampNeg ≤ 5000) && (decide (kc + 1 ≤ RC) && (decide (ks + n.toNatClampNeg ≤ RS) && ychk (o + cs.length) ls r cs)))) = true then some (ls, .ref (o + cs.length) :: r, cs ++ [.inl (t, n.toNatClampNeg, [])], kc + 1, ks + n.toNatClampNeg) else none
        | none => none
      | _ => none
    | .anewarray k => match st with
      | .int n :: r => match xpC C k with
        | some 3 => if (!decide (n < 0) && (decide (n.toNatClampNeg ≤ 5000) && (decide (kc + 1 ≤ RC) && (decide (ks + n.toNatClampNeg ≤ RS) && ychk (o + cs.length) ls r cs)))) = true then some (ls, .ref (o + cs.length) :: r, cs ++ [.inl (4, n.toNatClampNeg, [])], kc + 1, ks + n.toNatClampNeg) else none
        | _ => none
      | _ => none
    | .new k => match xpC C k with
      | some ci => match ydef ci with
        | some fs => if (decide (kc + 1 ≤ RC) && (decide (ks + fs.length ≤ RS) && (ychk (o + cs.length) ls st cs && fs.all (vlt 0)))) = true then some (ls, .ref (o + cs.length) :: st, cs ++ [.inr (ci, fs)], kc + 1, ks + fs.length) else none
        | none => none
      | none => none
    | .putfield k => match st with
      | .ref v :: .ref q :: r => match xpF P.1 k with
        | some (ci, f, false) => if o ≤ q then (match cs[q - o]? with
          | some (.inr (c, fs)) => if c = ci ∧ f < fs.length then (match vwCl[ci]? with
            | some (_, T, N) => if (decide (f < N) && (T f).2.2.2) = true then some (ls, r, cs.set (q - o) (.inr (ci, fs.set f (.ref v))), kc, ks) else none
            | none => none) else none
          | _ => none) else none
        | _ => none
      | _ => none
    | .aastore => match st with
      | .ref v :: .int j :: .ref q :: r => if o ≤ q ∧ o ≤ v then (match cs[q - o]?, cs[v - o]? with
        | some (.inl (4, n, rs)), some (.inr (3, _)) => if (xin j n && decide (rs.length = j.toNatClampNeg)) = true then some (ls, r, cs.set (q - o) (.inl (4, n, rs ++ [v])), kc, ks) else none
        | _, _ => none) else none
      | _ => none
    | _ => none
def yblk (P : XPool) (C : YPool) (o RC RS : Nat) : List Instr → YS → Option YS
  | [], s => some s
  | i :: is, s => match ys1 P C o RC RS i s with
    | some s' => yblk P C o RC RS is s'
    | none => none
def ydec (cc : ByteArray) : Nat → List Instr → Bool
  | _, [] => true
  | pc, i :: is => decide (decode cc pc = .ok (i, ylen i)) && ydec cc (pc + ylen i) is
def yend : Nat → List Instr → Nat
  | pc, [] => pc
  | pc, i :: is => yend (pc + ylen i) is
def ypok (own : String) (C : YPool) : Prop := ∀ q ∈ C, ∀ (K : String) (T : u_T) (N : Nat), vwCl[q.2]? = some (K, T, N) → Cond.classLink own q.1 K ∈ XG ∧ Cond.instantiable K N ∈ XG ∧ Cond.initialized K ∈ XG
theorem ydef_ok : ∀ ci fs, ydef ci = some fs → ∃ (K : String) (T : u_T) (N : Nat) (ty : Nat → FieldType), vwCl[ci]? = some (K, T, N) ∧ (∀ w ∈ u_ws K T N, w ∈ XG) ∧ (∀ k, k < N → parseFieldDescriptor (T k).2.2.1 = some (ty k)) ∧ fs.length = N ∧ ∀ j, j < N → defaultValue (ty j) = vp_V fs j := by
  intro ci fs h
  match ci, h with
  | 0, h => cases h; exact ⟨_, _, _, tyX0, rfl, xu0, tyX0_ok, rfl, by decide⟩
  | 1, h => cases h; exact ⟨_, _, _, tyX1, rfl, xu1, tyX1_ok, rfl, by decide⟩
  | 2, h => cases h; exact ⟨_, _, _, tyX2, rfl, xu2, tyX2_ok, rfl, by decide⟩
  | 3, h => cases h; exact ⟨_, _, _, tyX3, rfl, xu3, tyX3_ok, rfl, by decide⟩
  | 4, h => cases h; exact ⟨_, _, _, tyX4, rfl, xu4, tyX4_ok, rfl, by decide⟩
  | 5, h => cases h; exact ⟨_, _, _, tyX5, rfl, xu5, tyX5_ok, rfl, by decide +kernel⟩
  | n + 6, h => simp [ydef] at h
theorem va_RA_one {U : State} {a b : ClassId} {ty : FieldType} (h1 : va_RA U a ty) (h2 : va_RA U b ty) : a = b := by
  cases ty with
  | object C =>
    obtain ⟨_, _, _, _, _, h1⟩ := h1
    obtain ⟨_, _, _, _, _, h2⟩ := h2
    exact Option.some.inj (h1.symm.trans h2)
  | _ => exact Option.some.inj (h1.symm.trans h2)
theorem xty_at {cT : Nat → ClassId} {t : Nat} (h : t < 5) : (xtys cT)[t]? = some (cT t, xty t) := by
  match t, h with
  | 0, _ => rfl
  | 1, _ => rfl
  | 2, _ => rfl
  | 3, _ => rfl
  | 4, _ => rfl
theorem xty_one {D : va_G} {cT : Nat → ClassId} {s : State} {t : Nat} {cA : ClassId} (ht : t < 5) (hK : XK D cT s) (h : va_K D vwCl (xtys cT ++ [(cA, xty t)]) s) : cA = cT t := by
  have h1 := (h.2 5 (cA, xty t) (by simp [xtys])).2
  have h2 := (hK.1.2 t _ (xty_at ht)).2
  exact va_RA_one h1 h2
