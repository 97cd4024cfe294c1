/-! ===== the step function ===== -/
def jshl (x y : Int32) : Int32 := x <<< (y &&& 31)
def jshr (x y : Int32) : Int32 := x >>> (y &&& 31)
def jushr (x y : Int32) : Int32 := (x.toUInt32 >>> (y.toUInt32 &&& Int32.toUInt32 31)).toInt32
def jrem (x y : Int32) : Int32 := x - x / y * y
def jshlL (x : Int64) (y : Int32) : Int64 := x <<< (y.toInt64 &&& 63)
def jshrL (x : Int64) (y : Int32) : Int64 := x >>> (y.toInt64 &&& 63)
def jushrL (x : Int64) (y : Int32) : Int64 := (x.toUInt64 >>> (y.toInt64.toUInt64 &&& Int64.toUInt64 63)).toInt64
def ji2b (x : Int32) : Int32 := x.toInt8.toInt32
def xin (i : Int32) (n : Nat) : Bool := !(decide (i < 0) || decide (n ≤ i.toNatClampNeg))
theorem xin_vp {i : Int32} {n : Nat} (h : xin i n = true) : vp_in i n := by
  simpa [xin, vp_in, not_or] using h
def xnz (y : Int32) : Bool := !decide (y = 0)
def xbool (v : Int32) : Bool := decide (v = 0) || decide (v = 1)
def xic (n : Int) : Int32 := match n with
  | .ofNat k => Int32.ofNat k
  | .negSucc k => -(Int32.ofNat (k + 1))
theorem xic_ok (n : Int) : Int32.ofInt n = xic n := by
  cases n with
  | ofNat k => rfl
  | negSucc k =>
    show Int32.ofInt (-((k + 1 : Nat) : Int)) = -(Int32.ofNat (k + 1))
    rw [Int32.ofInt_neg]; rfl
def xlk : List (Nat × Value) → Nat → Option Value
  | [], _ => none
  | q :: t, i => if q.1 = i then some q.2 else xlk t i
theorem xlk_mem {ls : List (Nat × Value)} {i : Nat} {v : Value} (h : xlk ls i = some v) : (i, v) ∈ ls := by
  induction ls with
  | nil => cases h
  | cons q t ih =>
    unfold xlk at h
    split at h
    · next e => cases h; subst e; exact List.mem_cons_self
    · exact List.mem_cons_of_mem _ (ih h)
def xcl (ad : Nat → Nat) (ls : List (Nat × Value)) : List (Nat × Value) := ls.map (fun q => (q.1, xcv ad q.2))
theorem xcv_cat (ad : Nat → Nat) (v : Value) : (xcv ad v).category = v.category := by cases v <;> rfl
theorem xlk_at {ad : Nat → Nat} {la : Array Slot} {nL : Nat} {ls : List (Nat × Value)} {i : Nat} {v : Value} (hl : lv_has la nL (xcl ad ls)) (h : xlk ls i = some v) : la[i]? = some (.val (xcv ad v)) :=
  hl.2.2 (i, xcv ad v) (List.mem_map.mpr ⟨(i, v), xlk_mem h, rfl⟩)
def xst1 (ls : List (Nat × Value)) (i : Nat) (v : Value) : List (Nat × Value) := (i, v) :: ls.filter (fun q => !(q.1 == i) && !(q.1 + 1 == i && q.2.category == 2))
def xst2 (ls : List (Nat × Value)) (i : Nat) (v : Value) : List (Nat × Value) := (i, v) :: ls.filter (fun q => !(q.1 == i) && (!(q.1 == i + 1) && !(q.1 + 1 == i && q.2.category == 2)))
theorem xcl_st1 (ad : Nat → Nat) (ls : List (Nat × Value)) (i : Nat) (v : Value) : (i, xcv ad v) :: (xcl ad ls).filter (fun q => !(q.1 == i) && !(q.1 + 1 == i && q.2.category == 2)) = xcl ad (xst1 ls i v) := by
  simp only [xcl, xst1, List.map_cons, List.filter_map]
  congr 2
  apply List.filter_congr
  intro q _
  simp [Function.comp, xcv_cat]
theorem xcl_st2 (ad : Nat → Nat) (ls : List (Nat × Value)) (i : Nat) (v : Value) : (i, xcv ad v) :: (xcl ad ls).filter (fun q => !(q.1 == i) && (!(q.1 == i + 1) && !(q.1 + 1 == i && q.2.category == 2))) = xcl ad (xst2 ls i v) := by
  simp only [xcl, xst2, List.map_cons, List.filter_map]
  congr 2
  apply List.filter_congr
  intro q _
  simp [Function.comp, xcv_cat]
abbrev XS : Type := List (Nat × Value) × List Value × Hp × Bool
/-- a class's pool: fields (entry, class, place, of a nest mate), ints, longs -/
abbrev XPool : Type := List (Nat × Nat × Nat × Bool) × List (Nat × Int32) × List (Nat × Int64)
def xpF : List (Nat × Nat × Nat × Bool) → Nat → Option (Nat × Nat × Bool)
  | [], _ => none
  | q :: t, i => if q.1 = i then some q.2 else xpF t i
def xpC {α : Type} : List (Nat × α) → Nat → Option α
  | [], _ => none
  | q :: t, i => if q.1 = i then some q.2 else xpC t i
theorem xpF_mem {l : List (Nat × Nat × Nat × Bool)} {i : Nat} {v : Nat × Nat × Bool} (h : xpF l i = some v) : (i, v) ∈ l := by
  induction l with
  | nil => cases h
  | cons q t ih =>
    unfold xpF at h
    split at h
    · next e => cases h; subst e; exact List.mem_cons_self
    · exact List.mem_cons_of_mem _ (ih h)
theorem xpC_mem {α : Type} {l : List (Nat × α)} {i : Nat} {v : α} (h : xpC l i = some v) : (i, v) ∈ l := by
  induction l with
  | nil => cases h
  | cons q t ih =>
    unfold xpC at h
    split at h
    · next e => cases h; subst e; exact List.mem_cons_self
    · exact List.mem_cons_of_mem _ (ih h)
/-- the field of an object: its kind's template -/
def xtm (b r ci k : Nat) : Option Value := if r < b then (match xsh r with
  | some (.inr (c, tm)) => if c = ci then tm[k]? else none
  | _ => none) else none
/-- an array: its kind and length -/
def xar (b r : Nat) : Option (Nat × Nat) := if r < b then (match xsh r with
  | some (.inl (t, n, _)) => some (t, n)
  | _ => none) else none
def xlen : Instr → Nat
  | .iload _ => 2
  | .lload _ => 2
  | .aload _ => 2
  | .istore _ => 2
  | .lstore _ => 2
  | .astore _ => 2
  | .bipush _ => 2
  | .ldc _ => 2
  | .sipush _ => 3
  | .getfield _ => 3
  | .putfield _ => 3
  | .iinc _ _ => 3
  | .ldc2_w _ => 3
  | _ => 1
def xload (s : XS) (i : Nat) : Option XS := match s with
  | (ls, st, h, g) => match xlk ls i with
    | some v => some (ls, v :: st, h, g)
    | none => none
def xs1 (P : XPool) (b nL : Nat) (i : Instr) (s : XS) : Option XS := match s with
  | (ls, st, h, g) => match i with
    | .iconst n => some (ls, .int (xic n) :: st, h, g)
    | .bipush n => if -128 ≤ n ∧ n < 128 then some (ls, .int (xic n) :: st, h, g) else none
    | .sipush n => if -32768 ≤ n ∧ n < 32768 then some (ls, .int (xic n) :: st, h, g) else none
    | .lconst n => some (ls, .long (if (n : Nat) = 0 then 0 else 1) :: st, h, g)
    | .ldc k => match xpC P.2.1 k with
      | some v => some (ls, .int v :: st, h, g)
      | none => none
    | .ldc2_w k => match xpC P.2.2 k with
      | some v => some (ls, .long v :: st, h, g)
      | none => none
    | .iload k => match xlk ls k with
      | some (.int v) => some (ls, .int v :: st, h, g)
      | _ => none
    | .iload_n k => match xlk ls k with
      | some (.int v) => some (ls, .int v :: st, h, g)
      | _ => none
    | .lload k => match xlk ls k with
      | some (.long v) => some (ls, .long v :: st, h, g)
      | _ => none
    | .lload_n k => match xlk ls k with
      | some (.long v) => some (ls, .long v :: st, h, g)
      | _ => none
    | .aload k => match xlk ls k with
      | some (.ref v) => some (ls, .ref v :: st, h, g)
      | _ => none
    | .aload_n k => match xlk ls k with
      | some (.ref v) => some (ls, .ref v :: st, h, g)
      | _ => none
    | .istore k => match st with
      | .int v :: r => if k < nL then some (xst1 ls k (.int v), r, h, g) else none
      | _ => none
    | .istore_n k => match st with
      | .int v :: r => if (k : Nat) < nL then some (xst1 ls k (.int v), r, h, g) else none
      | _ => none
    | .lstore k => match st with
      | .long v :: r => if k + 1 < nL then some (xst2 ls k (.long v), r, h, g) else none
      | _ => none
    | .lstore_n k => match st with
      | .long v :: r => if (k : Nat) + 1 < nL then some (xst2 ls k (.long v), r, h, g) else none
      | _ => none
    | .iinc k n => match xlk ls k with
      | some (.int v) => if k < nL then some (xst1 ls k (.int (v + xic n)), st, h, g) else none
      | _ => none
    | .iadd => match st with
      | .int y :: .int x :: r => some (ls, .int (x + y) :: r, h, g)
      | _ => none
    | .isub => match st with
      | .int y :: .int x :: r => some (ls, .int (x - y) :: r, h, g)
      | _ => none
    | .imul => match st with
      | .int y :: .int x :: r => some (ls, .int (x * y) :: r, h, g)
      | _ => none
    | .idiv => match st with
      | .int y :: .int x :: r => some (ls, .int (x / y) :: r, h, xnz y && g)
      | _ => none
    | .irem => match st with
      | .int y :: .int x :: r => some (ls, .int (jrem x y) :: r, h, xnz y && g)
      | _ => none
    | .ineg => match st with
      | .int x :: r => some (ls, .int (-x) :: r, h, g)
      | _ => none
    | .iand => match st with
      | .int y :: .int x :: r => some (ls, .int (x &&& y) :: r, h, g)
      | _ => none
    | .ior => match st with
      | .int y :: .int x :: r => some (ls, .int (x ||| y) :: r, h, g)
      | _ => none
    | .ixor => match st with
      | .int y :: .int x :: r => some (ls, .int (x ^^^ y) :: r, h, g)
      | _ => none
    | .ishl => match st with
      | .int y :: .int x :: r => some (ls, .int (jshl x y) :: r, h, g)
      | _ => none
    | .ishr => match st with
      | .int y :: .int x :: r => some (ls, .int (jshr x y) :: r, h, g)
      | _ => none
    | .iushr => match st with
      | .int y :: .int x :: r => some (ls, .int (jushr x y) :: r, h, g)
      | _ => none
    | .ladd => match st with
      | .long y :: .long x :: r => some (ls, .long (x + y) :: r, h, g)
      | _ => none
    | .lsub => match st with
      | .long y :: .long x :: r => some (ls, .long (x - y) :: r, h, g)
      | _ => none
    | .lmul => match st with
      | .long y :: .long x :: r => some (ls, .long (x * y) :: r, h, g)
      | _ => none
    | .land => match st with
      | .long y :: .long x :: r => some (ls, .long (x &&& y) :: r, h, g)
      | _ => none
    | .lor => match st with
      | .long y :: .long x :: r => some (ls, .long (x ||| y) :: r, h, g)
      | _ => none
    | .lxor => match st with
      | .long y :: .long x :: r => some (ls, .long (x ^^^ y) :: r, h, g)
      | _ => none
    | .lshl => match st with
      | .int y :: .long x :: r => some (ls, .long (jshlL x y) :: r, h, g)
      | _ => none
    | .lshr => match st with
      | .int y :: .long x :: r => some (ls, .long (jshrL x y) :: r, h, g)
      | _ => none
    | .lushr => match st with
      | .int y :: .long x :: r => some (ls, .long (jushrL x y) :: r, h, g)
      | _ => none
    | .lcmp => match st with
      | .long y :: .long x :: r => some (ls, .int (lg_cmp x y) :: r, h, g)
      | _ => none
    | .i2l => match st with
      | .int x :: r => some (ls, .long x.toInt64 :: r, h, g)
      | _ => none
    | .l2i => match st with
      | .long x :: r => some (ls, .int x.toInt32 :: r, h, g)
      | _ => none
    | .i2b => match st with
      | .int x :: r => some (ls, .int (ji2b x) :: r, h, g)
      | _ => none
    | .dup => match st with
      | .int x :: r => some (ls, .int x :: .int x :: r, h, g)
      | .ref x :: r => some (ls, .ref x :: .ref x :: r, h, g)
      | _ => none
    | .pop => match st with
      | .int _ :: r => some (ls, r, h, g)
      | .ref _ :: r => some (ls, r, h, g)
      | _ => none
    | .dup2 => match st with
      | .long x :: r => some (ls, .long x :: .long x :: r, h, g)
      | .int x :: .ref y :: r => some (ls, .int x :: .ref y :: .int x :: .ref y :: r, h, g)
      | _ => none
    | .getfield k => match st with
      | .ref q :: r => match xpF P.1 k with
        | some (ci, f, _) => match xtm b q ci f with
          | some (.int _) => some (ls, .int (h.1 q f) :: r, h, g)
          | some (.float _) => some (ls, .int (h.1 q f) :: r, h, g)
          | some (.long _) => some (ls, .long (h.2 q f) :: r, h, g)
          | some (.ref t) => some (ls, .ref t :: r, h, g)
          | _ => none
        | none => none
      | _ => none
    | .putfield k => match st with
      | .int v :: .ref q :: r => match xpF P.1 k with
        | some (ci, f, _) => match xtm b q ci f with
          | some (.int _) => some (ls, r, xI h q f v, g)
          | some (.float _) => some (ls, r, xI h q f v, xbool v && g)
          | _ => none
        | none => none
      | .long v :: .ref q :: r => match xpF P.1 k with
        | some (ci, f, _) => match xtm b q ci f with
          | some (.long _) => some (ls, r, xL h q f v, g)
          | _ => none
        | none => none
      | _ => none
    | .arraylength => match st with
      | .ref q :: r => match xar b q with
        | some (_, n) => some (ls, .int (Int32.ofNat n) :: r, h, g)
        | none => none
      | _ => none
    | .iaload => match st with
      | .int j :: .ref q :: r => match xar b q with
        | some (0, n) => some (ls, .int (h.1 q j.toNatClampNeg) :: r, h, xin j n && g)
        | _ => none
      | _ => none
    | .laload => match st with
      | .int j :: .ref q :: r => match xar b q with
        | some (1, n) => some (ls, .long (h.2 q j.toNatClampNeg) :: r, h, xin j n && g)
        | _ => none
      | _ => none
    | .baload => match st with
      | .int j :: .ref q :: r => match xar b q with
        | some (2, n) => some (ls, .int (h.1 q j.toNatClampNeg) :: r, h, xin j n && g)
        | some (3, n) => some (ls, .int (h.1 q j.toNatClampNeg) :: r, h, xin j n && g)
        | _ => none
      | _ => none
    | .iastore => match st with
      | .int v :: .int j :: .ref q :: r => match xar b q with
        | some (0, n) => some (ls, r, xI h q j.toNatClampNeg v, xin j n && g)
        | _ => none
      | _ => none
    | .lastore => match st with
      | .long v :: .int j :: .ref q :: r => match xar b q with
        | some (1, n) => some (ls, r, xL h q j.toNatClampNeg v, xin j n && g)
        | _ => none
      | _ => none
    | .bastore => match st with
      | .int v :: .int j :: .ref q :: r => match xar b q with
        | some (2, n) => some (ls, r, xI h q j.toNatClampNeg (vp_nar .byte v), xin j n && g)
        | some (3, n) => some (ls, r, xI h q j.toNatClampNeg (vp_nar .boolean v), xin j n && g)
        | _ => none
      | _ => none
    | _ => none
def xblk (P : XPool) (b nL : Nat) : List Instr → XS → Option XS
  | [], s => some s
  | i :: is, s => match xs1 P b nL i s with
    | some s' => xblk P b nL is s'
    | none => none
def xdec (cc : ByteArray) : Nat → List Instr → Bool
  | _, [] => true
  | pc, i :: is => decide (decode cc pc = .ok (i, xlen i)) && xdec cc (pc + xlen i) is
def xend : Nat → List Instr → Nat
  | pc, [] => pc
  | pc, i :: is => xend (pc + xlen i) is
/-! ===== the context of a walk; its judgement ===== -/
abbrev XCtx : Type := Program × Launch × Env × Room × State × MethodId × Array Value × List Frame × Method × Code × va_G × (Nat → ClassId) × (Nat → Nat) × (Nat → Prop) × (State → Prop) × Nat × Nat × Nat
def XW (X : XCtx) (pc : Nat) (ls : List (Nat × Value)) (st : List Value) (h : Hp) : Prop := match X with
  | (p, l, e, R, s, m, args, below, meth, c, D, cT, ad, A, Q, n, kc, ks) => ∀ (H : Heap) (locs : List Loc) (la : Array Slot), va_P D vwCl (xwrl n cT ad h) H → va_S A s.heap H locs → lv_has la c.maxLocals (xcl ad ls) →
    W p l e R s m args below meth c H locs kc ks Q (F0 m pc la (st.map (xcv ad)))
def XOk (X : XCtx) (own : String) (cc : ByteArray) (nL d b : Nat) : Prop := match X with
  | (p, l, e, R, s, m, args, below, meth, c, D, cT, ad, A, Q, n, kc, ks) => p.tables.exec = Jvm.exec ∧ c.code = cc ∧ c.maxLocals = nL ∧ s.vm.findClass own = some m.cls ∧ (∀ w ∈ XG, w.before args s = true) ∧ XK D cT s ∧ (∀ q, s.heap.size ≤ q → A q) ∧ xad n ad A ∧ b ≤ n ∧ n ≤ 66 ∧ d ≤ R.frames ∧ 64 * d ≤ R.locals ∧ kc ≤ R.cells ∧ ks ≤ R.slots
theorem XW.pick {X : XCtx} {pc : Nat} {ls ls' : List (Nat × Value)} {st : List Value} {h : Hp} (ks : List Nat) (hpk : lv_pick ls ks = ls') (k : XW X pc ls' st h) : XW X pc ls st h := by
  obtain ⟨p, l, e, R, s, m, args, below, meth, c, D, cT, ad, A, Q, n, kc, ks⟩ := X
  intro H locs la hP hS hl
  refine k H locs la hP hS ⟨hl.1, hl.2.1, fun q hq => ?_⟩
  obtain ⟨q0, h0, rfl⟩ := List.mem_map.mp hq
  subst hpk
  obtain ⟨i, -, hi⟩ := List.mem_filterMap.mp h0
  exact hl.2.2 _ (List.mem_map.mpr ⟨q0, List.mem_of_getElem? hi, rfl⟩)
