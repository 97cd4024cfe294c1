/-! ===== rows for the written proofs ===== -/
theorem xif_t {α : Type} {P : Prop} [Decidable P] {a b y : α} (h : P) (hf : (if P then a else b) = y) : a = y := by rw [if_pos h] at hf; exact hf
theorem xif_f {α : Type} {P : Prop} [Decidable P] {a b y : α} (h : ¬ P) (hf : (if P then a else b) = y) : b = y := by rw [if_neg h] at hf; exact hf
def xbd1 {α β : Type} (x : Option α) (f : α → Option β) : Option β := match x with
  | some a => f a
  | none => none
def xbd2 {α γ β : Type} (x : Option (α × γ)) (f : α → γ → Option β) : Option β := match x with
  | some (a, c) => f a c
  | none => none
theorem xbd1_inv {α β : Type} {x : Option α} {f : α → Option β} {y : β} (h : xbd1 x f = some y) : ∃ a, x = some a ∧ f a = some y := by
  cases x with
  | none => cases h
  | some a => exact ⟨a, rfl, h⟩
theorem xbd2_inv {α γ β : Type} {x : Option (α × γ)} {f : α → γ → Option β} {y : β} (h : xbd2 x f = some y) : ∃ a c, x = some (a, c) ∧ f a c = some y := by
  match x, h with
  | none, h => cases h
  | some (a, c), h => exact ⟨a, c, rfl, h⟩
theorem xbd1_some {α β : Type} (a : α) (f : α → Option β) : xbd1 (some a) f = f a := rfl
theorem xbd2_some {α γ β : Type} (a : α) (c : γ) (f : α → γ → Option β) : xbd2 (some (a, c)) f = f a c := rfl
section XRets
variable {X : XCtx} {own : String} {cc : ByteArray} {nL d b : Nat} {pc : Nat} {ls : List (Nat × Value)} {h h' : Hp}
theorem XrI2 {v r : Int32} (hX : XOk X own cc nL d b) (hR : XR X (some .int) (some (.int r)) h') (hf : some (v, h) = some (r, h')) (hd : decode cc pc = .ok (.ireturn, 1)) : XW X pc ls [.int v] h := by
  cases hf; exact XretI hX hR hd
theorem XrI1 {v r : Int32} (hX : XOk X own cc nL d b) (hR : XR X (some .int) (some (.int r)) h) (hf : some v = some r) (hd : decode cc pc = .ok (.ireturn, 1)) : XW X pc ls [.int v] h := by
  cases hf; exact XretI hX hR hd
theorem XrZ2 {v r : Int32} (hX : XOk X own cc nL d b) (hR : XR X (some .boolean) (some (.int r)) h') (hf : some (v, h) = some (r, h')) (hv : xbool v = true) (hd : decode cc pc = .ok (.ireturn, 1)) : XW X pc ls [.int v] h := by
  cases hf; exact XretZ hX hR hv hd
theorem XrZ1 {v r : Int32} (hX : XOk X own cc nL d b) (hR : XR X (some .boolean) (some (.int r)) h) (hf : some v = some r) (hv : xbool v = true) (hd : decode cc pc = .ok (.ireturn, 1)) : XW X pc ls [.int v] h := by
  cases hf; exact XretZ hX hR hv hd
theorem XrL2 {v r : Int64} (hX : XOk X own cc nL d b) (hR : XR X (some .long) (some (.long r)) h') (hf : some (v, h) = some (r, h')) (hd : decode cc pc = .ok (.lreturn, 1)) : XW X pc ls [.long v] h := by
  cases hf; exact XretL hX hR hd
theorem XrL1 {v r : Int64} (hX : XOk X own cc nL d b) (hR : XR X (some .long) (some (.long r)) h) (hf : some v = some r) (hd : decode cc pc = .ok (.lreturn, 1)) : XW X pc ls [.long v] h := by
  cases hf; exact XretL hX hR hd
theorem XrV2 (hX : XOk X own cc nL d b) (hR : XR X none none h') (hf : some h = some h') (hd : decode cc pc = .ok (.return_, 1)) : XW X pc ls [] h := by
  cases hf; exact XretV hX hR hd
theorem XswAt {dflt lo hi o : Int} {offs : Array Int} {len : Nat} {x kk : Int32} (hX : XOk X own cc nL d b) (tgt : Nat) {st : List Value} (e : x = kk) (hd : decode cc pc = .ok (.tableswitch dflt lo hi offs, len)) (h1 : ¬ kk.toInt < lo) (h2 : ¬ hi < kk.toInt) (ho : offs[(kk.toInt - lo).toNat]? = some o) (ht : (pc : Int) + o = (tgt : Int)) (k : XW X tgt ls st h) : XW X pc ls (.int x :: st) h := by
  subst e
  exact XswIn hX tgt hd h1 h2 ho ht k
end XRets
/-! ===== the static table of steps ===== -/
def xstep (j : Int32) : Int32 := if j = 0 then -8 else if j = 1 then 1 else if j = 2 then 8 else -1
def xstepV (j : Nat) : Value := .int (match j with
  | 0 => -8
  | 1 => 1
  | 2 => 8
  | _ => -1)
def xZ (ad : Nat → Nat) (A : Nat → Prop) (U : State) : Prop := va_Z "HallCarrier" "STEP_BY" "[I" (.ref (ad 66)) A U U.heap ∧ va_T .int (ad 66) 4 xstepV A U U.heap
def XZ (X : XCtx) : Prop := match X with
  | (p, l, e, R, s, m, args, below, meth, c, D, cT, ad, A, Q, n, kc, ks) => xZ ad A s
def MTS (d b : Nat) (y : MethodName) (bytes : ByteArray) (maxL : Nat) (ret : Option FieldType) (as : List Value) (h : Hp) (r : Option Value) (h' : Hp) : Prop :=
  ∀ (l : Launch) (D : va_G) (cT : Nat → ClassId) (ad : Nat → Nat) (n sz : Nat), b ≤ n → n ≤ 66 → Met l y (.code y bytes maxL ret :: XG) (xrm d) (va_Pc (as.map (xcv ad)) (fun U => xPre D cT ad n sz h U ∧ xZ ad (xAr n ad sz) U)) (xQ D cT ad n (xAr n ad sz) r h') 0 0 (xAr n ad sz)
theorem MTS.of {d b : Nat} {y : MethodName} {bytes : ByteArray} {maxL : Nat} {ret : Option FieldType} {as : List Value} {h h' : Hp} {r : Option Value} (hy : plainName y.cls = true) (hlen : (lg_sl as).length ≤ maxL)
    (body : ∀ X : XCtx, XOk X y.cls bytes maxL d b → XZ X → XR X ret r h' → XW X 0 (lv_args 0 as) [] h) : MTS d b y bytes maxL ret as h r h' := by
  intro l D cT ad n sz hbn hn66
  refine Met.ofW (cc := bytes) (maxL := maxL) (ret := ret) hy rfl ?_
  intro p e s m args below meth c s₁ B hml hv
  obtain ⟨rfl, ⟨hsz, hP, hK, hinj⟩, hZ⟩ := hv
  subst hsz
  have hts := atoms_spec (ws := .code y bytes maxL ret :: XG) B.pre
  have hown : s.vm.findClass y.cls = some m.cls := findClass_of_methodNamed B.named
  have hl := lv_entry (as.map (xcv ad)) (n := maxL) (by rw [lg_map]; exact hlen)
  rw [lg_entry_eq]
  rw [lv_args_map] at hl
  refine body (p, l, e, xrm d, s, m, (as.map (xcv ad)).toArray, below, meth, c, D, cT, ad, xAr n ad s.heap.size, MQ below (xQ D cT ad n (xAr n ad s.heap.size) r h') (as.map (xcv ad)).toArray s 0 0 (xAr n ad s.heap.size), n, 0, 0) ?_ hZ ?_ s.heap [] _ hP va_S.rf (by rw [hml]; exact hl)
  · exact ⟨B.exec, B.bytes, hml, hown, fun w hw => hts w (List.mem_cons_of_mem _ hw), hK, fun q hq => Or.inr hq, ⟨hinj, fun k hk => Or.inl ⟨k, hk, rfl⟩⟩, hbn, hn66, Nat.le_refl _, Nat.le_refl _, Nat.zero_le _, Nat.zero_le _⟩
  · exact ⟨B.returns, B.notSynchronized, rfl⟩
theorem Xstep {X : XCtx} {cc : ByteArray} {nL d b : Nat} {own : String} (hX : XOk X own cc nL d b) (hZ : XZ X) {pc idx : Nat} {k : Fin 4} {j : Int32} {ls : List (Nat × Value)} {st : List Value} {h : Hp} (hw : Cond.fieldLink own idx "HallCarrier" "STEP_BY" "[I" ∈ XG) (hd1 : decode cc pc = .ok (.getstatic idx, 3)) (hd2 : decode cc (pc + 3) = .ok (.iload_n k, 1)) (hd3 : decode cc (pc + 3 + 1) = .ok (.iaload, 1)) (hl : xlk ls k = some (.int j)) (hg : xin j 4 = true) (kk : XW X (pc + 5) ls (.int (xstep j) :: st) h) : XW X pc ls st h := by
  obtain ⟨p, l, e, R, s, m, args, below, meth, c, D, cT, ad, A, Q, n, kc, ks⟩ := X
  obtain ⟨hx, hb, hml, hown, hts, hK, hA, hadr, hbn, hn66, hfr, hlo, hkc, hks⟩ := hX
  obtain ⟨hZ1, hZ2⟩ := hZ
  intro H locs la hP hS hll
  refine va_gets hx hb hZ1 hS hown (hts _ hw) (fun _ q => q) hd1 ?_
  refine lv_iload_n hx hb hd2 rfl (xlk_at hll hl) ?_
  refine va_ti hx hb hZ2 hS (xin_vp hg) (v := .int (xstep j)) ?_ hd3 ?_
  · obtain ⟨i, hi, rfl⟩ := vp_in_of (xin_vp hg) (by decide)
    rw [nI_clamp (by omega)]
    match i, hi with
    | 0, _ => rfl
    | 1, _ => rfl
    | 2, _ => rfl
    | 3, _ => rfl
  · exact kk H locs la hP hS hll
/-! ===== pools ===== -/
def xpck (own : String) (l1 : List ((Nat × Nat × Nat × Bool) × Nat)) (l2 : List ((Nat × Int32) × Nat)) (l3 : List ((Nat × Int64) × Nat)) : Bool :=
  l1.all (fun e => match vwCl[e.1.2.1]? with
    | some (_, T, N) => decide (e.1.2.2.1 < N) && (if e.1.2.2.2 = true then decide (tables_1[e.2]? = some (Cond.fieldLinkNest own e.1.1 (T e.1.2.2.1).1 (T e.1.2.2.1).2.1 (T e.1.2.2.1).2.2.1 "HallCarrier")) else decide (tables_1[e.2]? = some (Cond.fieldLink own e.1.1 (T e.1.2.2.1).1 (T e.1.2.2.1).2.1 (T e.1.2.2.1).2.2.1)))
    | none => false) &&
  l2.all (fun e => decide (tables_1[e.2]? = some (Cond.constant own e.1.1 e.1.2))) && l3.all (fun e => decide (tables_1[e.2]? = some (Cond.constantLong own e.1.1 e.1.2)))
theorem xpok_of {own : String} {P : XPool} {l1 : List ((Nat × Nat × Nat × Bool) × Nat)} {l2 : List ((Nat × Int32) × Nat)} {l3 : List ((Nat × Int64) × Nat)} (e1 : l1.map (fun e => e.1) = P.1) (e2 : l2.map (fun e => e.1) = P.2.1) (e3 : l3.map (fun e => e.1) = P.2.2) (h : xpck own l1 l2 l3 = true) : xpok own P := by
  simp only [xpck, Bool.and_eq_true] at h
  obtain ⟨⟨h1, h2⟩, h3⟩ := h
  refine ⟨fun q hq C T N hc => ?_, fun q hq => ?_, fun q hq => ?_⟩
  · rw [← e1] at hq
    obtain ⟨e, he, rfl⟩ := List.mem_map.mp hq
    have a := List.all_eq_true.mp h1 e he
    rw [hc] at a
    simp only [Bool.and_eq_true, decide_eq_true_eq] at a
    refine ⟨a.1, ?_⟩
    have a2 := a.2
    split
    · next hb => rw [if_pos hb] at a2; exact xn_tab e.2 (of_decide_eq_true a2) rfl
    · next hb => rw [if_neg hb] at a2; exact xg_tab e.2 (of_decide_eq_true a2) (by first | rfl | simp [goodWord, Cond.onTables, Cond.keeps, Cond.steady])
  · rw [← e2] at hq
    obtain ⟨e, he, rfl⟩ := List.mem_map.mp hq
    exact xg_tab e.2 (of_decide_eq_true (List.all_eq_true.mp h2 e he)) (by first | rfl | simp [goodWord, Cond.onTables, Cond.keeps, Cond.steady])
  · rw [← e3] at hq
    obtain ⟨e, he, rfl⟩ := List.mem_map.mp hq
    exact xg_tab e.2 (of_decide_eq_true (List.all_eq_true.mp h3 e he)) (by first | rfl | simp [goodWord, Cond.onTables, Cond.keeps, Cond.steady])
/-! ===== Math.max ===== -/
def jmax (x y : Int32) : Int32 := if x < y then y else x
theorem xmax_s : Cond.static Lib.Math.max.name ∈ XG := xg_tab 544 (by decide +kernel) (by decide +kernel)
theorem xmax_i : Cond.initialized "java/lang/Math" ∈ XG := xg_tab 9 (by decide +kernel) (by decide +kernel)
theorem xmax_c : Cond.code Lib.Math.max.name Lib.Math.max.code 2 (some .int) ∈ XG := xg_tab 545 (by decide +kernel) (by decide +kernel)
theorem Xmax {X : XCtx} {own : String} {cc : ByteArray} {nL d b : Nat} (hX : XOk X own cc nL d b) {pc idx : Nat} {x y : Int32} {ls : List (Nat × Value)} {rest : List Value} {h : Hp} (hl : Cond.methodLink own idx Lib.Math.max.name ∈ XG) (hd1 : 1 ≤ d) (hW : (rest.map fun v => v.category).sum ≤ 8) (hdg : decode cc pc = .ok (.invokestatic idx, 3)) (kk : XW X (pc + 3) ls (.int (jmax x y) :: rest) h) : XW X pc ls (.int y :: .int x :: rest) h := by
  obtain ⟨p, l, e, R, s, m, args, below, meth, c, D, cT, ad, A, Q, n, kc, ks⟩ := X
  obtain ⟨hx, hb, hml, hown, hts, hK, hA, hadr, hbn, hn66, hfr, hlo, hkc, hks⟩ := hX
  intro H locs la hP hS hll
  refine va_mmax hx hb hll.1.symm hown (hts _ hl) (hts _ xmax_s) (hts _ xmax_i) (hts _ xmax_c) (by omega) ?_ hkc hks hdg (kk H locs la hP hS hll)
  rw [xsum_map]
  omega
theorem xsh_0 : xsh 0 = some (.inr (4, [.ref 1, .int 0, .ref 2, .ref 6, .ref 13, .ref 28, .ref 30, .ref 38, .long 0, .long 0])) := rfl
theorem xsh_1 : xsh 1 = some (.inl (0, 80, [])) := rfl
theorem xsh_2 : xsh 2 = some (.inr (1, [.ref 3, .ref 4, .ref 5, .int 0, .long 0, .long 0])) := rfl
theorem xsh_3 : xsh 3 = some (.inl (0, 64, [])) := rfl
theorem xsh_4 : xsh 4 = some (.inl (0, 8, [])) := rfl
theorem xsh_5 : xsh 5 = some (.inl (1, 10, [])) := rfl
theorem xsh_6 : xsh 6 = some (.inr (3, [.ref 7, .ref 8, .ref 9, .ref 10, .ref 11, .ref 12, .int 0, .int 0, .int 0, .int 0, .float 0])) := rfl
theorem xsh_7 : xsh 7 = some (.inl (0, 6, [])) := rfl
theorem xsh_8 : xsh 8 = some (.inl (0, 6, [])) := rfl
theorem xsh_9 : xsh 9 = some (.inl (0, 2, [])) := rfl
theorem xsh_10 : xsh 10 = some (.inl (0, 2, [])) := rfl
theorem xsh_11 : xsh 11 = some (.inl (0, 128, [])) := rfl
theorem xsh_12 : xsh 12 = some (.inl (0, 500, [])) := rfl
theorem xsh_13 : xsh 13 = some (.inl (4, 2, [14, 21])) := rfl
theorem xsh_14 : xsh 14 = some (.inr (3, [.ref 15, .ref 16, .ref 17, .ref 18, .ref 19, .ref 20, .int 0, .int 0, .int 0, .int 0, .float 0])) := rfl
theorem xsh_15 : xsh 15 = some (.inl (0, 6, [])) := rfl
theorem xsh_16 : xsh 16 = some (.inl (0, 6, [])) := rfl
theorem xsh_17 : xsh 17 = some (.inl (0, 2, [])) := rfl
theorem xsh_18 : xsh 18 = some (.inl (0, 2, [])) := rfl
theorem xsh_19 : xsh 19 = some (.inl (0, 128, [])) := rfl
theorem xsh_20 : xsh 20 = some (.inl (0, 500, [])) := rfl
theorem xsh_21 : xsh 21 = some (.inr (3, [.ref 22, .ref 23, .ref 24, .ref 25, .ref 26, .ref 27, .int 0, .int 0, .int 0, .int 0, .float 0])) := rfl
theorem xsh_22 : xsh 22 = some (.inl (0, 6, [])) := rfl
theorem xsh_23 : xsh 23 = some (.inl (0, 6, [])) := rfl
theorem xsh_24 : xsh 24 = some (.inl (0, 2, [])) := rfl
theorem xsh_25 : xsh 25 = some (.inl (0, 2, [])) := rfl
theorem xsh_26 : xsh 26 = some (.inl (0, 128, [])) := rfl
theorem xsh_27 : xsh 27 = some (.inl (0, 500, [])) := rfl
theorem xsh_28 : xsh 28 = some (.inr (0, [.ref 29, .long 0, .long 0, .long 0, .long 0])) := rfl
theorem xsh_29 : xsh 29 = some (.inl (1, 4, [])) := rfl
theorem xsh_30 : xsh 30 = some (.inr (2, [.ref 31, .ref 32, .ref 33, .ref 34, .ref 35, .ref 36, .ref 37, .int 0, .int 0, .float 0, .float 0])) := rfl
theorem xsh_31 : xsh 31 = some (.inl (0, 6, [])) := rfl
theorem xsh_32 : xsh 32 = some (.inl (0, 6, [])) := rfl
theorem xsh_33 : xsh 33 = some (.inl (0, 6, [])) := rfl
theorem xsh_34 : xsh 34 = some (.inl (0, 48, [])) := rfl
theorem xsh_35 : xsh 35 = some (.inl (0, 128, [])) := rfl
theorem xsh_36 : xsh 36 = some (.inl (0, 128, [])) := rfl
theorem xsh_37 : xsh 37 = some (.inl (0, 2, [])) := rfl
theorem xsh_38 : xsh 38 = some (.inl (1, 5, [])) := rfl
theorem xsh_39 : xsh 39 = some (.inr (5, [.long 0, .ref 40, .int 0, .int 0, .int 0, .ref 41, .ref 42, .int 0, .long 0, .long 0, .int 0, .int 0, .int 0, .ref 43, .ref 44, .int 0, .ref 45, .ref 46, .ref 47, .int 0, .int 0, .ref 48, .ref 49, .ref 50, .ref 51, .int 0, .ref 52, .ref 53, .ref 54, .ref 55, .ref 56, .ref 57, .ref 58, .ref 59, .ref 60, .ref 61, .ref 62, .ref 63, .ref 64, .ref 65])) := rfl
theorem xsh_40 : xsh 40 = some (.inl (2, 80, [])) := rfl
theorem xsh_41 : xsh 41 = some (.inl (0, 64, [])) := rfl
theorem xsh_42 : xsh 42 = some (.inl (0, 8, [])) := rfl
theorem xsh_43 : xsh 43 = some (.inl (0, 18, [])) := rfl
theorem xsh_44 : xsh 44 = some (.inl (0, 18, [])) := rfl
theorem xsh_45 : xsh 45 = some (.inl (0, 6, [])) := rfl
theorem xsh_46 : xsh 46 = some (.inl (0, 6, [])) := rfl
theorem xsh_47 : xsh 47 = some (.inl (0, 384, [])) := rfl
theorem xsh_48 : xsh 48 = some (.inl (0, 1500, [])) := rfl
theorem xsh_49 : xsh 49 = some (.inl (1, 21, [])) := rfl
theorem xsh_50 : xsh 50 = some (.inl (1, 21, [])) := rfl
theorem xsh_51 : xsh 51 = some (.inl (3, 160, [])) := rfl
theorem xsh_52 : xsh 52 = some (.inl (0, 6, [])) := rfl
theorem xsh_53 : xsh 53 = some (.inl (0, 6, [])) := rfl
theorem xsh_54 : xsh 54 = some (.inl (0, 6, [])) := rfl
theorem xsh_55 : xsh 55 = some (.inl (0, 48, [])) := rfl
theorem xsh_56 : xsh 56 = some (.inl (0, 6, [])) := rfl
theorem xsh_57 : xsh 57 = some (.inl (0, 6, [])) := rfl
theorem xsh_58 : xsh 58 = some (.inl (0, 12, [])) := rfl
theorem xsh_59 : xsh 59 = some (.inl (0, 2, [])) := rfl
theorem xsh_60 : xsh 60 = some (.inl (0, 6, [])) := rfl
theorem xsh_61 : xsh 61 = some (.inl (3, 2, [])) := rfl
theorem xsh_62 : xsh 62 = some (.inl (0, 2, [])) := rfl
theorem xsh_63 : xsh 63 = some (.inl (0, 2, [])) := rfl
theorem xsh_64 : xsh 64 = some (.inl (0, 2, [])) := rfl
theorem xsh_65 : xsh 65 = some (.inl (0, 2, [])) := rfl
def pkX4 : XPool := ([(9, 4, 0, false), (16, 4, 2, false), (23, 4, 3, false), (27, 4, 4, false), (34, 4, 5, false), (41, 4, 6, false), (45, 4, 7, false), (58, 4, 1, false), (66, 1, 4, true), (80, 1, 0, true), (83, 1, 3, true), (86, 1, 1, true), (96, 1, 5, true), (101, 4, 8, false), (114, 3, 6, true), (124, 3, 7, true), (137, 3, 0, true), (140, 3, 1, true), (146, 3, 2, true), (149, 3, 3, true), (170, 3, 8, true), (180, 3, 9, true), (183, 3, 5, true), (186, 3, 4, true), (214, 1, 2, true), (224, 2, 7, true), (235, 2, 9, true), (239, 2, 8, true), (249, 3, 10, true), (252, 4, 9, false)], [], [(49, (198343339566 : Int64)), (99, (-1 : Int64)), (292, (10 : Int64)), (294, (100 : Int64)), (296, (1000 : Int64)), (298, (10000 : Int64)), (300, (100000 : Int64)), (302, (1000000 : Int64)), (304, (9187201950435737471 : Int64)), (306, (-72340172838076674 : Int64)), (308, (72340172838076673 : Int64))])
theorem pkX4_ok : xpok RX4 pkX4 := xpok_of (l1 := [((9, 4, 0, false), 204), ((16, 4, 2, false), 206), ((23, 4, 3, false), 207), ((27, 4, 4, false), 208), ((34, 4, 5, false), 209), ((41, 4, 6, false), 210), ((45, 4, 7, false), 211), ((58, 4, 1, false), 205), ((66, 1, 4, true), 34), ((80, 1, 0, true), 26), ((83, 1, 3, true), 32), ((86, 1, 1, true), 28), ((96, 1, 5, true), 36), ((101, 4, 8, false), 212), ((114, 3, 6, true), 73), ((124, 3, 7, true), 77), ((137, 3, 0, true), 59), ((140, 3, 1, true), 61), ((146, 3, 2, true), 65), ((149, 3, 3, true), 67), ((170, 3, 8, true), 79), ((180, 3, 9, true), 82), ((183, 3, 5, true), 71), ((186, 3, 4, true), 69), ((214, 1, 2, true), 30), ((224, 2, 7, true), 144), ((235, 2, 9, true), 148), ((239, 2, 8, true), 146), ((249, 3, 10, true), 83), ((252, 4, 9, false), 213)]) (l2 := []) (l3 := [((49, (198343339566 : Int64)), 173), ((99, (-1 : Int64)), 285), ((292, (10 : Int64)), 444), ((294, (100 : Int64)), 449), ((296, (1000 : Int64)), 454), ((298, (10000 : Int64)), 459), ((300, (100000 : Int64)), 464), ((302, (1000000 : Int64)), 469), ((304, (9187201950435737471 : Int64)), 301), ((306, (-72340172838076674 : Int64)), 302), ((308, (72340172838076673 : Int64)), 359)]) rfl rfl rfl (by decide +kernel)
def pkX0 : XPool := ([(9, 0, 0, false), (15, 0, 1, false), (19, 0, 2, false), (22, 0, 3, false), (25, 0, 4, false), (28, 3, 7, true), (34, 3, 2, true)], [], [])
theorem pkX0_ok : xpok RX0 pkX0 := xpok_of (l1 := [((9, 0, 0, false), 114), ((15, 0, 1, false), 115), ((19, 0, 2, false), 116), ((22, 0, 3, false), 117), ((25, 0, 4, false), 118), ((28, 3, 7, true), 75), ((34, 3, 2, true), 63)]) (l2 := []) (l3 := []) rfl rfl rfl (by decide +kernel)
def pkX1 : XPool := ([(9, 1, 0, false), (15, 1, 1, false), (18, 1, 2, false), (28, 1, 3, false), (32, 1, 4, false), (36, 1, 5, false)], [], [(51, (-1 : Int64))])
theorem pkX1_ok : xpok RX1 pkX1 := xpok_of (l1 := [((9, 1, 0, false), 25), ((15, 1, 1, false), 27), ((18, 1, 2, false), 29), ((28, 1, 3, false), 31), ((32, 1, 4, false), 33), ((36, 1, 5, false), 35)]) (l2 := []) (l3 := [((51, (-1 : Int64)), 486)]) rfl rfl rfl (by decide +kernel)
def pkX2 : XPool := ([(9, 2, 0, false), (15, 2, 1, false), (18, 2, 2, false), (21, 2, 3, false), (24, 2, 4, false), (27, 2, 5, false), (30, 2, 6, false), (33, 2, 7, false), (37, 2, 10, false), (41, 3, 7, true), (50, 2, 9, false), (60, 3, 9, true), (75, 3, 2, true), (90, 2, 8, false)], [(53, (1000000 : Int32))], [(78, (-1 : Int64))])
theorem pkX2_ok : xpok RX2 pkX2 := xpok_of (l1 := [((9, 2, 0, false), 136), ((15, 2, 1, false), 137), ((18, 2, 2, false), 138), ((21, 2, 3, false), 139), ((24, 2, 4, false), 140), ((27, 2, 5, false), 141), ((30, 2, 6, false), 142), ((33, 2, 7, false), 143), ((37, 2, 10, false), 149), ((41, 3, 7, true), 76), ((50, 2, 9, false), 147), ((60, 3, 9, true), 81), ((75, 3, 2, true), 64), ((90, 2, 8, false), 145)]) (l2 := [((53, (1000000 : Int32)), 535)]) (l3 := [((78, (-1 : Int64)), 533)]) rfl rfl rfl (by decide +kernel)
def pkX3 : XPool := ([(9, 3, 0, false), (15, 3, 1, false), (18, 3, 2, false), (21, 3, 3, false), (24, 3, 4, false), (27, 3, 5, false), (30, 3, 6, false), (34, 3, 7, false), (37, 3, 8, false), (40, 3, 9, false)], [], [])
theorem pkX3_ok : xpok RX3 pkX3 := xpok_of (l1 := [((9, 3, 0, false), 58), ((15, 3, 1, false), 60), ((18, 3, 2, false), 62), ((21, 3, 3, false), 66), ((24, 3, 4, false), 68), ((27, 3, 5, false), 70), ((30, 3, 6, false), 72), ((34, 3, 7, false), 74), ((37, 3, 8, false), 78), ((40, 3, 9, false), 80)]) (l2 := []) (l3 := []) rfl rfl rfl (by decide +kernel)
def pkL : XPool := ([], [], [(13, (4294967295 : Int64))])
theorem pkL_ok : xpok RL pkL := xpok_of (l1 := []) (l2 := []) (l3 := [((13, (4294967295 : Int64)), 968)]) rfl rfl rfl (by decide +kernel)
def pkX5 : XPool := ([(7, 5, 1, false), (13, 5, 5, false), (17, 5, 6, false), (20, 5, 13, false), (23, 5, 14, false), (26, 5, 16, false), (29, 5, 17, false), (32, 5, 18, false), (35, 5, 21, false), (38, 5, 22, false), (42, 5, 23, false), (45, 5, 24, false), (49, 5, 26, false), (52, 5, 27, false), (55, 5, 28, false), (58, 5, 29, false), (61, 5, 30, false), (64, 5, 31, false), (67, 5, 32, false), (70, 5, 33, false), (73, 5, 34, false), (76, 5, 35, false), (79, 5, 36, false), (82, 5, 37, false), (85, 5, 38, false), (88, 5, 39, false), (91, 5, 3, false), (95, 5, 4, false), (100, 5, 8, false), (104, 5, 9, false), (111, 5, 2, false), (116, 5, 10, false), (119, 5, 11, false), (126, 5, 7, false), (129, 5, 12, false), (132, 5, 15, false), (135, 5, 25, false), (138, 5, 20, false), (141, 5, 19, false), (210, 5, 0, false)], [], [(98, (771 : Int64)), (114, (255 : Int64)), (154, (-1 : Int64)), (178, (-72340172838076674 : Int64)), (180, (9187201950435737471 : Int64)), (213, (11 : Int64)), (215, (101 : Int64)), (217, (1101 : Int64)), (219, (10011 : Int64)), (221, (100001 : Int64)), (223, (1000101 : Int64))])
theorem pkX5_ok : xpok RX5 pkX5 := xpok_of (l1 := [((7, 5, 1, false), 589), ((13, 5, 5, false), 593), ((17, 5, 6, false), 594), ((20, 5, 13, false), 601), ((23, 5, 14, false), 602), ((26, 5, 16, false), 604), ((29, 5, 17, false), 605), ((32, 5, 18, false), 606), ((35, 5, 21, false), 609), ((38, 5, 22, false), 610), ((42, 5, 23, false), 611), ((45, 5, 24, false), 612), ((49, 5, 26, false), 614), ((52, 5, 27, false), 615), ((55, 5, 28, false), 616), ((58, 5, 29, false), 617), ((61, 5, 30, false), 618), ((64, 5, 31, false), 619), ((67, 5, 32, false), 620), ((70, 5, 33, false), 621), ((73, 5, 34, false), 622), ((76, 5, 35, false), 623), ((79, 5, 36, false), 624), ((82, 5, 37, false), 625), ((85, 5, 38, false), 626), ((88, 5, 39, false), 627), ((91, 5, 3, false), 591), ((95, 5, 4, false), 592), ((100, 5, 8, false), 596), ((104, 5, 9, false), 597), ((111, 5, 2, false), 590), ((116, 5, 10, false), 598), ((119, 5, 11, false), 599), ((126, 5, 7, false), 595), ((129, 5, 12, false), 600), ((132, 5, 15, false), 603), ((135, 5, 25, false), 613), ((138, 5, 20, false), 608), ((141, 5, 19, false), 607), ((210, 5, 0, false), 588)]) (l2 := []) (l3 := [((98, (771 : Int64)), 587), ((114, (255 : Int64)), 718), ((154, (-1 : Int64)), 751), ((178, (-72340172838076674 : Int64)), 804), ((180, (9187201950435737471 : Int64)), 805), ((213, (11 : Int64)), 865), ((215, (101 : Int64)), 866), ((217, (1101 : Int64)), 867), ((219, (10011 : Int64)), 868), ((221, (100001 : Int64)), 869), ((223, (1000101 : Int64)), 870)]) rfl rfl rfl (by decide +kernel)
def pkJ13 : XPool := ([], [], [(314, (6148914691236517205 : Int64)), (316, (3689348814741910323 : Int64)), (318, (1085102592571150095 : Int64))])
theorem pkJ13_ok : xpok RJ13 pkJ13 := xpok_of (l1 := []) (l2 := []) (l3 := [((314, (6148914691236517205 : Int64)), 258), ((316, (3689348814741910323 : Int64)), 259), ((318, (1085102592571150095 : Int64)), 260)]) rfl rfl rfl (by decide +kernel)
def pkJ7 : XPool := ([], [], [])
theorem pkJ7_ok : xpok RJ7 pkJ7 := xpok_of (l1 := []) (l2 := []) (l3 := []) rfl rfl rfl (by decide +kernel)
theorem xstep_w : Cond.fieldLink RX4 173 "HallCarrier" "STEP_BY" "[I" ∈ XG := xg_tab 410 (by decide +kernel) (by decide +kernel)
theorem xnative : Cond.native arraycopyName ∈ XG := xg_tab 568 (by decide +kernel) (by decide +kernel)
theorem xstatic_ac : Cond.static arraycopyName ∈ XG := xg_tab 567 (by decide +kernel) (by decide +kernel)
theorem xinit_sys : Cond.initialized "java/lang/System" ∈ XG := xg_tab 10 (by decide +kernel) (by decide +kernel)
theorem xm_X4_type : xmd yX4_type cX4_type 5 (some .int) 2 := ⟨xg_tab 177 (by decide +kernel) (by decide +kernel), xg_tab 1 (by decide +kernel) (by decide +kernel), by decide +kernel, by decide +kernel, by decide⟩
theorem xi_X4_type : Cond.instanceMethod yX4_type ∈ XG := xg_tab 175 (by decide +kernel) (by decide +kernel)
theorem xs_X4_type : Cond.selects yX4_type.cls yX4_type yX4_type ∈ XG := xg_tab 176 (by decide +kernel) (by decide +kernel)
theorem xm_X4_becomeHall : xmd yX4_becomeHall cX4_becomeHall 4 none 0 := ⟨xg_tab 181 (by decide +kernel) (by decide +kernel), xg_tab 1 (by decide +kernel) (by decide +kernel), by decide +kernel, by decide +kernel, by decide⟩
theorem xi_X4_becomeHall : Cond.instanceMethod yX4_becomeHall ∈ XG := xg_tab 180 (by decide +kernel) (by decide +kernel)
theorem xs_X4_becomeHall : Cond.selects yX4_becomeHall.cls yX4_becomeHall yX4_becomeHall ∈ XG := xg_prv (n := 10) 0 (by decide +kernel) (by decide +kernel)
theorem xm_X1_empty : xmd yX1_empty cX1_empty 1 none 0 := ⟨xg_tab 185 (by decide +kernel) (by decide +kernel), xg_tab 2 (by decide +kernel) (by decide +kernel), by decide +kernel, by decide +kernel, by decide⟩
theorem xi_X1_empty : Cond.instanceMethod yX1_empty ∈ XG := xg_tab 184 (by decide +kernel) (by decide +kernel)
theorem xs_X1_empty : Cond.selects yX1_empty.cls yX1_empty yX1_empty ∈ XG := xg_prv (n := 6) 1 (by decide +kernel) (by decide +kernel)
theorem xm_J7_fill_d0a16 : xmd yJ7_fill_d0a16 cJ7_fill_d0a16 5 none 2 := ⟨xg_tab 188 (by decide +kernel) (by decide +kernel), xg_tab 6 (by decide +kernel) (by decide +kernel), by decide +kernel, by decide +kernel, by decide⟩
theorem xi_J7_fill_d0a16 : Cond.static yJ7_fill_d0a16 ∈ XG := xg_tab 187 (by decide +kernel) (by decide +kernel)
theorem xm_X1_put : xmd yX1_put cX1_put 7 none 3 := ⟨xg_tab 192 (by decide +kernel) (by decide +kernel), xg_tab 2 (by decide +kernel) (by decide +kernel), by decide +kernel, by decide +kernel, by decide⟩
theorem xi_X1_put : Cond.instanceMethod yX1_put ∈ XG := xg_tab 191 (by decide +kernel) (by decide +kernel)
theorem xs_X1_put : Cond.selects yX1_put.cls yX1_put yX1_put ∈ XG := xg_prv (n := 6) 2 (by decide +kernel) (by decide +kernel)
theorem xm_X4_isMark : xmd yX4_isMark cX4_isMark 1 (some .boolean) 1 := ⟨xg_tab 195 (by decide +kernel) (by decide +kernel), xg_tab 1 (by decide +kernel) (by decide +kernel), by decide +kernel, by decide +kernel, by decide⟩
theorem xi_X4_isMark : Cond.static yX4_isMark ∈ XG := xg_tab 194 (by decide +kernel) (by decide +kernel)
theorem xm_X3_empty : xmd yX3_empty cX3_empty 1 none 0 := ⟨xg_tab 199 (by decide +kernel) (by decide +kernel), xg_tab 3 (by decide +kernel) (by decide +kernel), by decide +kernel, by decide +kernel, by decide⟩
theorem xi_X3_empty : Cond.instanceMethod yX3_empty ∈ XG := xg_tab 198 (by decide +kernel) (by decide +kernel)
theorem xs_X3_empty : Cond.selects yX3_empty.cls yX3_empty yX3_empty ∈ XG := xg_prv (n := 11) 3 (by decide +kernel) (by decide +kernel)
theorem xm_X2_empty : xmd yX2_empty cX2_empty 1 none 0 := ⟨xg_tab 203 (by decide +kernel) (by decide +kernel), xg_tab 5 (by decide +kernel) (by decide +kernel), by decide +kernel, by decide +kernel, by decide⟩
theorem xi_X2_empty : Cond.instanceMethod yX2_empty ∈ XG := xg_tab 202 (by decide +kernel) (by decide +kernel)
theorem xs_X2_empty : Cond.selects yX2_empty.cls yX2_empty yX2_empty ∈ XG := xg_prv (n := 11) 4 (by decide +kernel) (by decide +kernel)
theorem xm_X4_clear : xmd yX4_clear cX4_clear 2 (some .int) 0 := ⟨xg_tab 239 (by decide +kernel) (by decide +kernel), xg_tab 1 (by decide +kernel) (by decide +kernel), by decide +kernel, by decide +kernel, by decide⟩
theorem xi_X4_clear : Cond.instanceMethod yX4_clear ∈ XG := xg_tab 237 (by decide +kernel) (by decide +kernel)
theorem xs_X4_clear : Cond.selects yX4_clear.cls yX4_clear yX4_clear ∈ XG := xg_tab 238 (by decide +kernel) (by decide +kernel)
theorem xm_X4_hall : xmd yX4_hall cX4_hall 2 (some .int) 0 := ⟨xg_tab 243 (by decide +kernel) (by decide +kernel), xg_tab 1 (by decide +kernel) (by decide +kernel), by decide +kernel, by decide +kernel, by decide⟩
theorem xi_X4_hall : Cond.instanceMethod yX4_hall ∈ XG := xg_tab 241 (by decide +kernel) (by decide +kernel)
theorem xs_X4_hall : Cond.selects yX4_hall.cls yX4_hall yX4_hall ∈ XG := xg_tab 242 (by decide +kernel) (by decide +kernel)
theorem xm_X4_faultPlace : xmd yX4_faultPlace cX4_faultPlace 9 (some .int) 0 := ⟨xg_tab 247 (by decide +kernel) (by decide +kernel), xg_tab 1 (by decide +kernel) (by decide +kernel), by decide +kernel, by decide +kernel, by decide⟩
theorem xi_X4_faultPlace : Cond.instanceMethod yX4_faultPlace ∈ XG := xg_tab 246 (by decide +kernel) (by decide +kernel)
theorem xs_X4_faultPlace : Cond.selects yX4_faultPlace.cls yX4_faultPlace yX4_faultPlace ∈ XG := xg_prv (n := 10) 5 (by decide +kernel) (by decide +kernel)
theorem xm_X4_markOf : xmd yX4_markOf cX4_markOf 1 (some .int) 1 := ⟨xg_tab 250 (by decide +kernel) (by decide +kernel), xg_tab 1 (by decide +kernel) (by decide +kernel), by decide +kernel, by decide +kernel, by decide⟩
theorem xi_X4_markOf : Cond.static yX4_markOf ∈ XG := xg_tab 249 (by decide +kernel) (by decide +kernel)
theorem xm_X4_isSign : xmd yX4_isSign cX4_isSign 1 (some .boolean) 1 := ⟨xg_tab 254 (by decide +kernel) (by decide +kernel), xg_tab 1 (by decide +kernel) (by decide +kernel), by decide +kernel, by decide +kernel, by decide⟩
theorem xi_X4_isSign : Cond.static yX4_isSign ∈ XG := xg_tab 253 (by decide +kernel) (by decide +kernel)
theorem xm_J13_bitCount_95d88 : xmd yJ13_bitCount_95d88 cJ13_bitCount_95d88 2 (some .int) 1 := ⟨xg_tab 257 (by decide +kernel) (by decide +kernel), xg_tab 8 (by decide +kernel) (by decide +kernel), by decide +kernel, by decide +kernel, by decide⟩
theorem xi_J13_bitCount_95d88 : Cond.static yJ13_bitCount_95d88 ∈ XG := xg_tab 256 (by decide +kernel) (by decide +kernel)
theorem xm_X4_sign : xmd yX4_sign cX4_sign 2 (some .int) 1 := ⟨xg_tab 264 (by decide +kernel) (by decide +kernel), xg_tab 1 (by decide +kernel) (by decide +kernel), by decide +kernel, by decide +kernel, by decide⟩
theorem xi_X4_sign : Cond.instanceMethod yX4_sign ∈ XG := xg_tab 262 (by decide +kernel) (by decide +kernel)
theorem xs_X4_sign : Cond.selects yX4_sign.cls yX4_sign yX4_sign ∈ XG := xg_tab 263 (by decide +kernel) (by decide +kernel)
theorem xm_X1_has : xmd yX1_has cX1_has 2 (some .boolean) 1 := ⟨xg_tab 268 (by decide +kernel) (by decide +kernel), xg_tab 2 (by decide +kernel) (by decide +kernel), by decide +kernel, by decide +kernel, by decide⟩
theorem xi_X1_has : Cond.instanceMethod yX1_has ∈ XG := xg_tab 267 (by decide +kernel) (by decide +kernel)
theorem xs_X1_has : Cond.selects yX1_has.cls yX1_has yX1_has ∈ XG := xg_prv (n := 6) 6 (by decide +kernel) (by decide +kernel)
theorem xm_X4_door : xmd yX4_door cX4_door 6 (some .int) 2 := ⟨xg_tab 272 (by decide +kernel) (by decide +kernel), xg_tab 1 (by decide +kernel) (by decide +kernel), by decide +kernel, by decide +kernel, by decide⟩
theorem xi_X4_door : Cond.instanceMethod yX4_door ∈ XG := xg_tab 270 (by decide +kernel) (by decide +kernel)
theorem xs_X4_door : Cond.selects yX4_door.cls yX4_door yX4_door ∈ XG := xg_tab 271 (by decide +kernel) (by decide +kernel)
theorem xm_X3_taken : xmd yX3_taken cX3_taken 4 (some .long) 0 := ⟨xg_tab 276 (by decide +kernel) (by decide +kernel), xg_tab 3 (by decide +kernel) (by decide +kernel), by decide +kernel, by decide +kernel, by decide⟩
theorem xi_X3_taken : Cond.instanceMethod yX3_taken ∈ XG := xg_tab 275 (by decide +kernel) (by decide +kernel)
theorem xs_X3_taken : Cond.selects yX3_taken.cls yX3_taken yX3_taken ∈ XG := xg_prv (n := 11) 7 (by decide +kernel) (by decide +kernel)
theorem xm_X3_carriersTaken : xmd yX3_carriersTaken cX3_carriersTaken 4 (some .long) 0 := ⟨xg_tab 280 (by decide +kernel) (by decide +kernel), xg_tab 3 (by decide +kernel) (by decide +kernel), by decide +kernel, by decide +kernel, by decide⟩
theorem xi_X3_carriersTaken : Cond.instanceMethod yX3_carriersTaken ∈ XG := xg_tab 279 (by decide +kernel) (by decide +kernel)
theorem xs_X3_carriersTaken : Cond.selects yX3_carriersTaken.cls yX3_carriersTaken yX3_carriersTaken ∈ XG := xg_prv (n := 11) 8 (by decide +kernel) (by decide +kernel)
theorem xm_X2_ends : xmd yX2_ends cX2_ends 4 (some .long) 0 := ⟨xg_tab 284 (by decide +kernel) (by decide +kernel), xg_tab 5 (by decide +kernel) (by decide +kernel), by decide +kernel, by decide +kernel, by decide⟩
theorem xi_X2_ends : Cond.instanceMethod yX2_ends ∈ XG := xg_tab 283 (by decide +kernel) (by decide +kernel)
theorem xs_X2_ends : Cond.selects yX2_ends.cls yX2_ends yX2_ends ∈ XG := xg_prv (n := 11) 9 (by decide +kernel) (by decide +kernel)
theorem xm_X2_forgetPlan : xmd yX2_forgetPlan cX2_forgetPlan 1 none 0 := ⟨xg_tab 289 (by decide +kernel) (by decide +kernel), xg_tab 5 (by decide +kernel) (by decide +kernel), by decide +kernel, by decide +kernel, by decide⟩
theorem xi_X2_forgetPlan : Cond.instanceMethod yX2_forgetPlan ∈ XG := xg_tab 288 (by decide +kernel) (by decide +kernel)
theorem xs_X2_forgetPlan : Cond.selects yX2_forgetPlan.cls yX2_forgetPlan yX2_forgetPlan ∈ XG := xg_prv (n := 11) 10 (by decide +kernel) (by decide +kernel)
theorem xm_X4_sees : xmd yX4_sees cX4_sees 2 (some .long) 1 := ⟨xg_tab 293 (by decide +kernel) (by decide +kernel), xg_tab 1 (by decide +kernel) (by decide +kernel), by decide +kernel, by decide +kernel, by decide⟩
theorem xi_X4_sees : Cond.instanceMethod yX4_sees ∈ XG := xg_tab 291 (by decide +kernel) (by decide +kernel)
theorem xs_X4_sees : Cond.selects yX4_sees.cls yX4_sees yX4_sees ∈ XG := xg_tab 292 (by decide +kernel) (by decide +kernel)
theorem xm_X1_seenFrom : xmd yX1_seenFrom cX1_seenFrom 12 (some .long) 1 := ⟨xg_tab 297 (by decide +kernel) (by decide +kernel), xg_tab 2 (by decide +kernel) (by decide +kernel), by decide +kernel, by decide +kernel, by decide⟩
theorem xi_X1_seenFrom : Cond.instanceMethod yX1_seenFrom ∈ XG := xg_tab 296 (by decide +kernel) (by decide +kernel)
theorem xs_X1_seenFrom : Cond.selects yX1_seenFrom.cls yX1_seenFrom yX1_seenFrom ∈ XG := xg_prv (n := 6) 11 (by decide +kernel) (by decide +kernel)
theorem xm_X4_shifted : xmd yX4_shifted cX4_shifted 3 (some .long) 2 := ⟨xg_tab 300 (by decide +kernel) (by decide +kernel), xg_tab 1 (by decide +kernel) (by decide +kernel), by decide +kernel, by decide +kernel, by decide⟩
theorem xi_X4_shifted : Cond.static yX4_shifted ∈ XG := xg_tab 299 (by decide +kernel) (by decide +kernel)
theorem xm_X4_person : xmd yX4_person cX4_person 3 (some .int) 2 := ⟨xg_tab 306 (by decide +kernel) (by decide +kernel), xg_tab 1 (by decide +kernel) (by decide +kernel), by decide +kernel, by decide +kernel, by decide⟩
theorem xi_X4_person : Cond.instanceMethod yX4_person ∈ XG := xg_tab 304 (by decide +kernel) (by decide +kernel)
theorem xs_X4_person : Cond.selects yX4_person.cls yX4_person yX4_person ∈ XG := xg_tab 305 (by decide +kernel) (by decide +kernel)
theorem xm_X1_isFree : xmd yX1_isFree cX1_isFree 2 (some .boolean) 1 := ⟨xg_tab 310 (by decide +kernel) (by decide +kernel), xg_tab 2 (by decide +kernel) (by decide +kernel), by decide +kernel, by decide +kernel, by decide⟩
theorem xi_X1_isFree : Cond.instanceMethod yX1_isFree ∈ XG := xg_tab 309 (by decide +kernel) (by decide +kernel)
theorem xs_X1_isFree : Cond.selects yX1_isFree.cls yX1_isFree yX1_isFree ∈ XG := xg_prv (n := 6) 12 (by decide +kernel) (by decide +kernel)
theorem xm_X3_addPerson : xmd yX3_addPerson cX3_addPerson 3 (some .int) 2 := ⟨xg_tab 314 (by decide +kernel) (by decide +kernel), xg_tab 3 (by decide +kernel) (by decide +kernel), by decide +kernel, by decide +kernel, by decide⟩
theorem xi_X3_addPerson : Cond.instanceMethod yX3_addPerson ∈ XG := xg_tab 313 (by decide +kernel) (by decide +kernel)
theorem xs_X3_addPerson : Cond.selects yX3_addPerson.cls yX3_addPerson yX3_addPerson ∈ XG := xg_prv (n := 11) 13 (by decide +kernel) (by decide +kernel)
theorem xm_X4_carrier : xmd yX4_carrier cX4_carrier 4 (some .int) 2 := ⟨xg_tab 318 (by decide +kernel) (by decide +kernel), xg_tab 1 (by decide +kernel) (by decide +kernel), by decide +kernel, by decide +kernel, by decide⟩
theorem xi_X4_carrier : Cond.instanceMethod yX4_carrier ∈ XG := xg_tab 316 (by decide +kernel) (by decide +kernel)
theorem xs_X4_carrier : Cond.selects yX4_carrier.cls yX4_carrier yX4_carrier ∈ XG := xg_tab 317 (by decide +kernel) (by decide +kernel)
theorem xm_X3_addCarrier : xmd yX3_addCarrier cX3_addCarrier 4 (some .int) 2 := ⟨xg_tab 323 (by decide +kernel) (by decide +kernel), xg_tab 3 (by decide +kernel) (by decide +kernel), by decide +kernel, by decide +kernel, by decide⟩
theorem xi_X3_addCarrier : Cond.instanceMethod yX3_addCarrier ∈ XG := xg_tab 322 (by decide +kernel) (by decide +kernel)
theorem xs_X3_addCarrier : Cond.selects yX3_addCarrier.cls yX3_addCarrier yX3_addCarrier ∈ XG := xg_prv (n := 11) 14 (by decide +kernel) (by decide +kernel)
theorem xm_X4_lookAround : xmd yX4_lookAround cX4_lookAround 5 none 1 := ⟨xg_tab 327 (by decide +kernel) (by decide +kernel), xg_tab 1 (by decide +kernel) (by decide +kernel), by decide +kernel, by decide +kernel, by decide⟩
theorem xi_X4_lookAround : Cond.instanceMethod yX4_lookAround ∈ XG := xg_tab 326 (by decide +kernel) (by decide +kernel)
theorem xs_X4_lookAround : Cond.selects yX4_lookAround.cls yX4_lookAround yX4_lookAround ∈ XG := xg_prv (n := 10) 15 (by decide +kernel) (by decide +kernel)
theorem xm_X4_seenBy : xmd yX4_seenBy cX4_seenBy 2 (some .long) 1 := ⟨xg_tab 331 (by decide +kernel) (by decide +kernel), xg_tab 1 (by decide +kernel) (by decide +kernel), by decide +kernel, by decide +kernel, by decide⟩
theorem xi_X4_seenBy : Cond.instanceMethod yX4_seenBy ∈ XG := xg_tab 330 (by decide +kernel) (by decide +kernel)
theorem xs_X4_seenBy : Cond.selects yX4_seenBy.cls yX4_seenBy yX4_seenBy ∈ XG := xg_prv (n := 10) 16 (by decide +kernel) (by decide +kernel)
theorem xm_X4_at : xmd yX4_at cX4_at 5 (some .int) 2 := ⟨xg_tab 335 (by decide +kernel) (by decide +kernel), xg_tab 1 (by decide +kernel) (by decide +kernel), by decide +kernel, by decide +kernel, by decide⟩
theorem xi_X4_at : Cond.instanceMethod yX4_at ∈ XG := xg_tab 333 (by decide +kernel) (by decide +kernel)
theorem xs_X4_at : Cond.selects yX4_at.cls yX4_at yX4_at ∈ XG := xg_tab 334 (by decide +kernel) (by decide +kernel)
theorem xm_X4_isPerson : xmd yX4_isPerson cX4_isPerson 2 (some .boolean) 1 := ⟨xg_tab 339 (by decide +kernel) (by decide +kernel), xg_tab 1 (by decide +kernel) (by decide +kernel), by decide +kernel, by decide +kernel, by decide⟩
theorem xi_X4_isPerson : Cond.instanceMethod yX4_isPerson ∈ XG := xg_tab 338 (by decide +kernel) (by decide +kernel)
theorem xs_X4_isPerson : Cond.selects yX4_isPerson.cls yX4_isPerson yX4_isPerson ∈ XG := xg_prv (n := 10) 17 (by decide +kernel) (by decide +kernel)
theorem xm_X4_isCarrier : xmd yX4_isCarrier cX4_isCarrier 2 (some .boolean) 1 := ⟨xg_tab 343 (by decide +kernel) (by decide +kernel), xg_tab 1 (by decide +kernel) (by decide +kernel), by decide +kernel, by decide +kernel, by decide⟩
theorem xi_X4_isCarrier : Cond.instanceMethod yX4_isCarrier ∈ XG := xg_tab 342 (by decide +kernel) (by decide +kernel)
theorem xs_X4_isCarrier : Cond.selects yX4_isCarrier.cls yX4_isCarrier yX4_isCarrier ∈ XG := xg_prv (n := 10) 18 (by decide +kernel) (by decide +kernel)
theorem xm_X4_could : xmd yX4_could cX4_could 3 (some .long) 2 := ⟨xg_tab 347 (by decide +kernel) (by decide +kernel), xg_tab 1 (by decide +kernel) (by decide +kernel), by decide +kernel, by decide +kernel, by decide⟩
theorem xi_X4_could : Cond.instanceMethod yX4_could ∈ XG := xg_tab 345 (by decide +kernel) (by decide +kernel)
theorem xs_X4_could : Cond.selects yX4_could.cls yX4_could yX4_could ∈ XG := xg_tab 346 (by decide +kernel) (by decide +kernel)
theorem xm_X4_couldBe : xmd yX4_couldBe cX4_couldBe 3 (some .long) 2 := ⟨xg_tab 351 (by decide +kernel) (by decide +kernel), xg_tab 1 (by decide +kernel) (by decide +kernel), by decide +kernel, by decide +kernel, by decide⟩
theorem xi_X4_couldBe : Cond.instanceMethod yX4_couldBe ∈ XG := xg_tab 350 (by decide +kernel) (by decide +kernel)
theorem xs_X4_couldBe : Cond.selects yX4_couldBe.cls yX4_couldBe yX4_couldBe ∈ XG := xg_prv (n := 10) 19 (by decide +kernel) (by decide +kernel)
theorem xm_X0_empty : xmd yX0_empty cX0_empty 4 none 1 := ⟨xg_tab 355 (by decide +kernel) (by decide +kernel), xg_tab 4 (by decide +kernel) (by decide +kernel), by decide +kernel, by decide +kernel, by decide⟩
theorem xi_X0_empty : Cond.instanceMethod yX0_empty ∈ XG := xg_tab 354 (by decide +kernel) (by decide +kernel)
theorem xs_X0_empty : Cond.selects yX0_empty.cls yX0_empty yX0_empty ∈ XG := xg_prv (n := 5) 20 (by decide +kernel) (by decide +kernel)
theorem xm_X4_behind : xmd yX4_behind cX4_behind 4 (some .long) 2 := ⟨xg_tab 358 (by decide +kernel) (by decide +kernel), xg_tab 1 (by decide +kernel) (by decide +kernel), by decide +kernel, by decide +kernel, by decide⟩
theorem xi_X4_behind : Cond.static yX4_behind ∈ XG := xg_tab 357 (by decide +kernel) (by decide +kernel)
theorem xm_X0_join : xmd yX0_join cX0_join 4 none 2 := ⟨xg_tab 363 (by decide +kernel) (by decide +kernel), xg_tab 4 (by decide +kernel) (by decide +kernel), by decide +kernel, by decide +kernel, by decide⟩
theorem xi_X0_join : Cond.instanceMethod yX0_join ∈ XG := xg_tab 362 (by decide +kernel) (by decide +kernel)
theorem xs_X0_join : Cond.selects yX0_join.cls yX0_join yX0_join ∈ XG := xg_prv (n := 5) 21 (by decide +kernel) (by decide +kernel)
theorem xm_X0_afterTicks : xmd yX0_afterTicks cX0_afterTicks 5 (some .long) 2 := ⟨xg_tab 367 (by decide +kernel) (by decide +kernel), xg_tab 4 (by decide +kernel) (by decide +kernel), by decide +kernel, by decide +kernel, by decide⟩
theorem xi_X0_afterTicks : Cond.instanceMethod yX0_afterTicks ∈ XG := xg_tab 366 (by decide +kernel) (by decide +kernel)
theorem xs_X0_afterTicks : Cond.selects yX0_afterTicks.cls yX0_afterTicks yX0_afterTicks ∈ XG := xg_prv (n := 5) 22 (by decide +kernel) (by decide +kernel)
theorem xm_X4_widened : xmd yX4_widened cX4_widened 6 (some .long) 2 := ⟨xg_tab 370 (by decide +kernel) (by decide +kernel), xg_tab 1 (by decide +kernel) (by decide +kernel), by decide +kernel, by decide +kernel, by decide⟩
theorem xi_X4_widened : Cond.static yX4_widened ∈ XG := xg_tab 369 (by decide +kernel) (by decide +kernel)
theorem xm_X0_nearer : xmd yX0_nearer cX0_nearer 6 (some .long) 1 := ⟨xg_tab 374 (by decide +kernel) (by decide +kernel), xg_tab 4 (by decide +kernel) (by decide +kernel), by decide +kernel, by decide +kernel, by decide⟩
theorem xi_X0_nearer : Cond.instanceMethod yX0_nearer ∈ XG := xg_tab 373 (by decide +kernel) (by decide +kernel)
theorem xs_X0_nearer : Cond.selects yX0_nearer.cls yX0_nearer yX0_nearer ∈ XG := xg_prv (n := 5) 23 (by decide +kernel) (by decide +kernel)
theorem xm_X4_anybody : xmd yX4_anybody cX4_anybody 3 (some .long) 2 := ⟨xg_tab 379 (by decide +kernel) (by decide +kernel), xg_tab 1 (by decide +kernel) (by decide +kernel), by decide +kernel, by decide +kernel, by decide⟩
theorem xi_X4_anybody : Cond.instanceMethod yX4_anybody ∈ XG := xg_tab 377 (by decide +kernel) (by decide +kernel)
theorem xs_X4_anybody : Cond.selects yX4_anybody.cls yX4_anybody yX4_anybody ∈ XG := xg_tab 378 (by decide +kernel) (by decide +kernel)
theorem xm_X4_gatherAnybody : xmd yX4_gatherAnybody cX4_gatherAnybody 4 none 1 := ⟨xg_tab 383 (by decide +kernel) (by decide +kernel), xg_tab 1 (by decide +kernel) (by decide +kernel), by decide +kernel, by decide +kernel, by decide⟩
theorem xi_X4_gatherAnybody : Cond.instanceMethod yX4_gatherAnybody ∈ XG := xg_tab 382 (by decide +kernel) (by decide +kernel)
theorem xs_X4_gatherAnybody : Cond.selects yX4_gatherAnybody.cls yX4_gatherAnybody yX4_gatherAnybody ∈ XG := xg_prv (n := 10) 24 (by decide +kernel) (by decide +kernel)
theorem xm_X4_gatherSeen : xmd yX4_gatherSeen cX4_gatherSeen 4 none 1 := ⟨xg_tab 387 (by decide +kernel) (by decide +kernel), xg_tab 1 (by decide +kernel) (by decide +kernel), by decide +kernel, by decide +kernel, by decide⟩
theorem xi_X4_gatherSeen : Cond.instanceMethod yX4_gatherSeen ∈ XG := xg_tab 386 (by decide +kernel) (by decide +kernel)
theorem xs_X4_gatherSeen : Cond.selects yX4_gatherSeen.cls yX4_gatherSeen yX4_gatherSeen ∈ XG := xg_prv (n := 10) 25 (by decide +kernel) (by decide +kernel)
theorem xm_X4_let : xmd yX4_let cX4_let 4 (some .int) 1 := ⟨xg_tab 391 (by decide +kernel) (by decide +kernel), xg_tab 1 (by decide +kernel) (by decide +kernel), by decide +kernel, by decide +kernel, by decide⟩
theorem xi_X4_let : Cond.instanceMethod yX4_let ∈ XG := xg_tab 389 (by decide +kernel) (by decide +kernel)
theorem xs_X4_let : Cond.selects yX4_let.cls yX4_let yX4_let ∈ XG := xg_tab 390 (by decide +kernel) (by decide +kernel)
theorem xm_X4_whyNot : xmd yX4_whyNot cX4_whyNot 5 (some .int) 2 := ⟨xg_tab 395 (by decide +kernel) (by decide +kernel), xg_tab 1 (by decide +kernel) (by decide +kernel), by decide +kernel, by decide +kernel, by decide⟩
theorem xi_X4_whyNot : Cond.instanceMethod yX4_whyNot ∈ XG := xg_tab 394 (by decide +kernel) (by decide +kernel)
theorem xs_X4_whyNot : Cond.selects yX4_whyNot.cls yX4_whyNot yX4_whyNot ∈ XG := xg_prv (n := 10) 26 (by decide +kernel) (by decide +kernel)
theorem xm_X4_soonest : xmd yX4_soonest cX4_soonest 4 (some .int) 3 := ⟨xg_tab 400 (by decide +kernel) (by decide +kernel), xg_tab 1 (by decide +kernel) (by decide +kernel), by decide +kernel, by decide +kernel, by decide⟩
theorem xi_X4_soonest : Cond.instanceMethod yX4_soonest ∈ XG := xg_tab 398 (by decide +kernel) (by decide +kernel)
theorem xs_X4_soonest : Cond.selects yX4_soonest.cls yX4_soonest yX4_soonest ∈ XG := xg_tab 399 (by decide +kernel) (by decide +kernel)
theorem xm_X4_soonestRow : xmd yX4_soonestRow cX4_soonestRow 13 (some .int) 3 := ⟨xg_tab 404 (by decide +kernel) (by decide +kernel), xg_tab 1 (by decide +kernel) (by decide +kernel), by decide +kernel, by decide +kernel, by decide⟩
theorem xi_X4_soonestRow : Cond.instanceMethod yX4_soonestRow ∈ XG := xg_tab 403 (by decide +kernel) (by decide +kernel)
theorem xs_X4_soonestRow : Cond.selects yX4_soonestRow.cls yX4_soonestRow yX4_soonestRow ∈ XG := xg_prv (n := 10) 27 (by decide +kernel) (by decide +kernel)
theorem xm_X4_act : xmd yX4_act cX4_act 4 (some .int) 2 := ⟨xg_tab 409 (by decide +kernel) (by decide +kernel), xg_tab 1 (by decide +kernel) (by decide +kernel), by decide +kernel, by decide +kernel, by decide⟩
theorem xi_X4_act : Cond.instanceMethod yX4_act ∈ XG := xg_tab 407 (by decide +kernel) (by decide +kernel)
theorem xs_X4_act : Cond.selects yX4_act.cls yX4_act yX4_act ∈ XG := xg_tab 408 (by decide +kernel) (by decide +kernel)
theorem xm_X3_addLine : xmd yX3_addLine cX3_addLine 5 none 3 := ⟨xg_tab 415 (by decide +kernel) (by decide +kernel), xg_tab 3 (by decide +kernel) (by decide +kernel), by decide +kernel, by decide +kernel, by decide⟩
theorem xi_X3_addLine : Cond.instanceMethod yX3_addLine ∈ XG := xg_tab 414 (by decide +kernel) (by decide +kernel)
theorem xs_X3_addLine : Cond.selects yX3_addLine.cls yX3_addLine yX3_addLine ∈ XG := xg_prv (n := 11) 28 (by decide +kernel) (by decide +kernel)
theorem xm_X4_walk : xmd yX4_walk cX4_walk 4 (some .int) 2 := ⟨xg_tab 419 (by decide +kernel) (by decide +kernel), xg_tab 1 (by decide +kernel) (by decide +kernel), by decide +kernel, by decide +kernel, by decide⟩
theorem xi_X4_walk : Cond.instanceMethod yX4_walk ∈ XG := xg_tab 417 (by decide +kernel) (by decide +kernel)
theorem xs_X4_walk : Cond.selects yX4_walk.cls yX4_walk yX4_walk ∈ XG := xg_tab 418 (by decide +kernel) (by decide +kernel)
theorem xm_X4_tick : xmd yX4_tick cX4_tick 3 (some .int) 1 := ⟨xg_tab 423 (by decide +kernel) (by decide +kernel), xg_tab 1 (by decide +kernel) (by decide +kernel), by decide +kernel, by decide +kernel, by decide⟩
theorem xi_X4_tick : Cond.instanceMethod yX4_tick ∈ XG := xg_tab 421 (by decide +kernel) (by decide +kernel)
theorem xs_X4_tick : Cond.selects yX4_tick.cls yX4_tick yX4_tick ∈ XG := xg_tab 422 (by decide +kernel) (by decide +kernel)
theorem xm_X4_line : xmd yX4_line cX4_line 3 (some .int) 2 := ⟨xg_tab 427 (by decide +kernel) (by decide +kernel), xg_tab 1 (by decide +kernel) (by decide +kernel), by decide +kernel, by decide +kernel, by decide⟩
theorem xi_X4_line : Cond.instanceMethod yX4_line ∈ XG := xg_tab 425 (by decide +kernel) (by decide +kernel)
theorem xs_X4_line : Cond.selects yX4_line.cls yX4_line yX4_line ∈ XG := xg_tab 426 (by decide +kernel) (by decide +kernel)
theorem xm_X4_age : xmd yX4_age cX4_age 4 (some .int) 2 := ⟨xg_tab 431 (by decide +kernel) (by decide +kernel), xg_tab 1 (by decide +kernel) (by decide +kernel), by decide +kernel, by decide +kernel, by decide⟩
theorem xi_X4_age : Cond.instanceMethod yX4_age ∈ XG := xg_tab 429 (by decide +kernel) (by decide +kernel)
theorem xs_X4_age : Cond.selects yX4_age.cls yX4_age yX4_age ∈ XG := xg_tab 430 (by decide +kernel) (by decide +kernel)
theorem xm_X4_charge : xmd yX4_charge cX4_charge 3 (some .int) 2 := ⟨xg_tab 435 (by decide +kernel) (by decide +kernel), xg_tab 1 (by decide +kernel) (by decide +kernel), by decide +kernel, by decide +kernel, by decide⟩
theorem xi_X4_charge : Cond.instanceMethod yX4_charge ∈ XG := xg_tab 433 (by decide +kernel) (by decide +kernel)
theorem xs_X4_charge : Cond.selects yX4_charge.cls yX4_charge yX4_charge ∈ XG := xg_tab 434 (by decide +kernel) (by decide +kernel)
theorem xm_X4_chargeMove : xmd yX4_chargeMove cX4_chargeMove 1 (some .int) 0 := ⟨xg_tab 439 (by decide +kernel) (by decide +kernel), xg_tab 1 (by decide +kernel) (by decide +kernel), by decide +kernel, by decide +kernel, by decide⟩
theorem xi_X4_chargeMove : Cond.instanceMethod yX4_chargeMove ∈ XG := xg_tab 438 (by decide +kernel) (by decide +kernel)
theorem xs_X4_chargeMove : Cond.selects yX4_chargeMove.cls yX4_chargeMove yX4_chargeMove ∈ XG := xg_prv (n := 10) 29 (by decide +kernel) (by decide +kernel)
theorem xm_X4_chargeGo : xmd yX4_chargeGo cX4_chargeGo 2 (some .int) 1 := ⟨xg_tab 443 (by decide +kernel) (by decide +kernel), xg_tab 1 (by decide +kernel) (by decide +kernel), by decide +kernel, by decide +kernel, by decide⟩
theorem xi_X4_chargeGo : Cond.instanceMethod yX4_chargeGo ∈ XG := xg_tab 442 (by decide +kernel) (by decide +kernel)
theorem xs_X4_chargeGo : Cond.selects yX4_chargeGo.cls yX4_chargeGo yX4_chargeGo ∈ XG := xg_prv (n := 10) 30 (by decide +kernel) (by decide +kernel)
theorem xm_X4_chargeWait : xmd yX4_chargeWait cX4_chargeWait 2 (some .int) 1 := ⟨xg_tab 448 (by decide +kernel) (by decide +kernel), xg_tab 1 (by decide +kernel) (by decide +kernel), by decide +kernel, by decide +kernel, by decide⟩
theorem xi_X4_chargeWait : Cond.instanceMethod yX4_chargeWait ∈ XG := xg_tab 447 (by decide +kernel) (by decide +kernel)
theorem xs_X4_chargeWait : Cond.selects yX4_chargeWait.cls yX4_chargeWait yX4_chargeWait ∈ XG := xg_prv (n := 10) 31 (by decide +kernel) (by decide +kernel)
theorem xm_X4_chargeYield : xmd yX4_chargeYield cX4_chargeYield 2 (some .int) 1 := ⟨xg_tab 453 (by decide +kernel) (by decide +kernel), xg_tab 1 (by decide +kernel) (by decide +kernel), by decide +kernel, by decide +kernel, by decide⟩
theorem xi_X4_chargeYield : Cond.instanceMethod yX4_chargeYield ∈ XG := xg_tab 452 (by decide +kernel) (by decide +kernel)
theorem xs_X4_chargeYield : Cond.selects yX4_chargeYield.cls yX4_chargeYield yX4_chargeYield ∈ XG := xg_prv (n := 10) 32 (by decide +kernel) (by decide +kernel)
theorem xm_X4_chargeBack : xmd yX4_chargeBack cX4_chargeBack 2 (some .int) 1 := ⟨xg_tab 458 (by decide +kernel) (by decide +kernel), xg_tab 1 (by decide +kernel) (by decide +kernel), by decide +kernel, by decide +kernel, by decide⟩
theorem xi_X4_chargeBack : Cond.instanceMethod yX4_chargeBack ∈ XG := xg_tab 457 (by decide +kernel) (by decide +kernel)
theorem xs_X4_chargeBack : Cond.selects yX4_chargeBack.cls yX4_chargeBack yX4_chargeBack ∈ XG := xg_prv (n := 10) 33 (by decide +kernel) (by decide +kernel)
theorem xm_X4_chargeRide : xmd yX4_chargeRide cX4_chargeRide 2 (some .int) 1 := ⟨xg_tab 463 (by decide +kernel) (by decide +kernel), xg_tab 1 (by decide +kernel) (by decide +kernel), by decide +kernel, by decide +kernel, by decide⟩
theorem xi_X4_chargeRide : Cond.instanceMethod yX4_chargeRide ∈ XG := xg_tab 462 (by decide +kernel) (by decide +kernel)
theorem xs_X4_chargeRide : Cond.selects yX4_chargeRide.cls yX4_chargeRide yX4_chargeRide ∈ XG := xg_prv (n := 10) 34 (by decide +kernel) (by decide +kernel)
theorem xm_X4_chargeAsk : xmd yX4_chargeAsk cX4_chargeAsk 6 (some .int) 1 := ⟨xg_tab 468 (by decide +kernel) (by decide +kernel), xg_tab 1 (by decide +kernel) (by decide +kernel), by decide +kernel, by decide +kernel, by decide⟩
theorem xi_X4_chargeAsk : Cond.instanceMethod yX4_chargeAsk ∈ XG := xg_tab 467 (by decide +kernel) (by decide +kernel)
theorem xs_X4_chargeAsk : Cond.selects yX4_chargeAsk.cls yX4_chargeAsk yX4_chargeAsk ∈ XG := xg_prv (n := 10) 35 (by decide +kernel) (by decide +kernel)
theorem xm_X4_lost : xmd yX4_lost cX4_lost 1 (some .int) 0 := ⟨xg_tab 473 (by decide +kernel) (by decide +kernel), xg_tab 1 (by decide +kernel) (by decide +kernel), by decide +kernel, by decide +kernel, by decide⟩
theorem xi_X4_lost : Cond.instanceMethod yX4_lost ∈ XG := xg_tab 471 (by decide +kernel) (by decide +kernel)
theorem xs_X4_lost : Cond.selects yX4_lost.cls yX4_lost yX4_lost ∈ XG := xg_tab 472 (by decide +kernel) (by decide +kernel)
theorem xm_X4_look : xmd yX4_look cX4_look 3 (some .int) 2 := ⟨xg_tab 477 (by decide +kernel) (by decide +kernel), xg_tab 1 (by decide +kernel) (by decide +kernel), by decide +kernel, by decide +kernel, by decide⟩
theorem xi_X4_look : Cond.instanceMethod yX4_look ∈ XG := xg_tab 475 (by decide +kernel) (by decide +kernel)
theorem xs_X4_look : Cond.selects yX4_look.cls yX4_look yX4_look ∈ XG := xg_tab 476 (by decide +kernel) (by decide +kernel)
theorem xm_X1_looksLike : xmd yX1_looksLike cX1_looksLike 5 (some .long) 1 := ⟨xg_tab 481 (by decide +kernel) (by decide +kernel), xg_tab 2 (by decide +kernel) (by decide +kernel), by decide +kernel, by decide +kernel, by decide⟩
theorem xi_X1_looksLike : Cond.instanceMethod yX1_looksLike ∈ XG := xg_tab 480 (by decide +kernel) (by decide +kernel)
theorem xs_X1_looksLike : Cond.selects yX1_looksLike.cls yX1_looksLike yX1_looksLike ∈ XG := xg_prv (n := 6) 36 (by decide +kernel) (by decide +kernel)
theorem xm_X1_canStep : xmd yX1_canStep cX1_canStep 2 (some .long) 1 := ⟨xg_tab 485 (by decide +kernel) (by decide +kernel), xg_tab 2 (by decide +kernel) (by decide +kernel), by decide +kernel, by decide +kernel, by decide⟩
theorem xi_X1_canStep : Cond.instanceMethod yX1_canStep ∈ XG := xg_tab 484 (by decide +kernel) (by decide +kernel)
theorem xs_X1_canStep : Cond.selects yX1_canStep.cls yX1_canStep yX1_canStep ∈ XG := xg_prv (n := 6) 37 (by decide +kernel) (by decide +kernel)
theorem xm_X4_step : xmd yX4_step cX4_step 2 (some .int) 1 := ⟨xg_tab 490 (by decide +kernel) (by decide +kernel), xg_tab 1 (by decide +kernel) (by decide +kernel), by decide +kernel, by decide +kernel, by decide⟩
theorem xi_X4_step : Cond.instanceMethod yX4_step ∈ XG := xg_tab 488 (by decide +kernel) (by decide +kernel)
theorem xs_X4_step : Cond.selects yX4_step.cls yX4_step yX4_step ∈ XG := xg_tab 489 (by decide +kernel) (by decide +kernel)
theorem xm_X1_stepped : xmd yX1_stepped cX1_stepped 4 (some .long) 2 := ⟨xg_tab 494 (by decide +kernel) (by decide +kernel), xg_tab 2 (by decide +kernel) (by decide +kernel), by decide +kernel, by decide +kernel, by decide⟩
theorem xi_X1_stepped : Cond.instanceMethod yX1_stepped ∈ XG := xg_tab 493 (by decide +kernel) (by decide +kernel)
theorem xs_X1_stepped : Cond.selects yX1_stepped.cls yX1_stepped yX1_stepped ∈ XG := xg_prv (n := 6) 38 (by decide +kernel) (by decide +kernel)
theorem xm_X4_where : xmd yX4_where cX4_where 1 (some .long) 0 := ⟨xg_tab 498 (by decide +kernel) (by decide +kernel), xg_tab 1 (by decide +kernel) (by decide +kernel), by decide +kernel, by decide +kernel, by decide⟩
theorem xi_X4_where : Cond.instanceMethod yX4_where ∈ XG := xg_tab 496 (by decide +kernel) (by decide +kernel)
theorem xs_X4_where : Cond.selects yX4_where.cls yX4_where yX4_where ∈ XG := xg_tab 497 (by decide +kernel) (by decide +kernel)
theorem xm_X4_tells : xmd yX4_tells cX4_tells 6 (some .int) 1 := ⟨xg_tab 502 (by decide +kernel) (by decide +kernel), xg_tab 1 (by decide +kernel) (by decide +kernel), by decide +kernel, by decide +kernel, by decide⟩
theorem xi_X4_tells : Cond.instanceMethod yX4_tells ∈ XG := xg_tab 500 (by decide +kernel) (by decide +kernel)
theorem xs_X4_tells : Cond.selects yX4_tells.cls yX4_tells yX4_tells ∈ XG := xg_tab 501 (by decide +kernel) (by decide +kernel)
theorem xm_X1_unlikeLooks : xmd yX1_unlikeLooks cX1_unlikeLooks 5 (some .int) 1 := ⟨xg_tab 506 (by decide +kernel) (by decide +kernel), xg_tab 2 (by decide +kernel) (by decide +kernel), by decide +kernel, by decide +kernel, by decide⟩
theorem xi_X1_unlikeLooks : Cond.instanceMethod yX1_unlikeLooks ∈ XG := xg_tab 505 (by decide +kernel) (by decide +kernel)
theorem xs_X1_unlikeLooks : Cond.selects yX1_unlikeLooks.cls yX1_unlikeLooks yX1_unlikeLooks ∈ XG := xg_prv (n := 6) 39 (by decide +kernel) (by decide +kernel)
theorem xm_X4_order : xmd yX4_order cX4_order 4 (some .int) 3 := ⟨xg_tab 512 (by decide +kernel) (by decide +kernel), xg_tab 1 (by decide +kernel) (by decide +kernel), by decide +kernel, by decide +kernel, by decide⟩
theorem xi_X4_order : Cond.instanceMethod yX4_order ∈ XG := xg_tab 510 (by decide +kernel) (by decide +kernel)
theorem xs_X4_order : Cond.selects yX4_order.cls yX4_order yX4_order ∈ XG := xg_tab 511 (by decide +kernel) (by decide +kernel)
theorem xm_X2_add : xmd yX2_add cX2_add 4 (some .int) 3 := ⟨xg_tab 516 (by decide +kernel) (by decide +kernel), xg_tab 5 (by decide +kernel) (by decide +kernel), by decide +kernel, by decide +kernel, by decide⟩
theorem xi_X2_add : Cond.instanceMethod yX2_add ∈ XG := xg_tab 515 (by decide +kernel) (by decide +kernel)
theorem xs_X2_add : Cond.selects yX2_add.cls yX2_add yX2_add ∈ XG := xg_prv (n := 11) 40 (by decide +kernel) (by decide +kernel)
theorem xm_X4_late : xmd yX4_late cX4_late 1 (some .int) 0 := ⟨xg_tab 520 (by decide +kernel) (by decide +kernel), xg_tab 1 (by decide +kernel) (by decide +kernel), by decide +kernel, by decide +kernel, by decide⟩
theorem xi_X4_late : Cond.instanceMethod yX4_late ∈ XG := xg_tab 518 (by decide +kernel) (by decide +kernel)
theorem xs_X4_late : Cond.selects yX4_late.cls yX4_late yX4_late ∈ XG := xg_tab 519 (by decide +kernel) (by decide +kernel)
theorem xm_X2_makePlan : xmd yX2_makePlan cX2_makePlan 5 none 2 := ⟨xg_tab 524 (by decide +kernel) (by decide +kernel), xg_tab 5 (by decide +kernel) (by decide +kernel), by decide +kernel, by decide +kernel, by decide⟩
theorem xi_X2_makePlan : Cond.instanceMethod yX2_makePlan ∈ XG := xg_tab 523 (by decide +kernel) (by decide +kernel)
theorem xs_X2_makePlan : Cond.selects yX2_makePlan.cls yX2_makePlan yX2_makePlan ∈ XG := xg_prv (n := 11) 41 (by decide +kernel) (by decide +kernel)
theorem xm_X2_measure : xmd yX2_measure cX2_measure 7 (some .boolean) 2 := ⟨xg_tab 528 (by decide +kernel) (by decide +kernel), xg_tab 5 (by decide +kernel) (by decide +kernel), by decide +kernel, by decide +kernel, by decide⟩
theorem xi_X2_measure : Cond.instanceMethod yX2_measure ∈ XG := xg_tab 527 (by decide +kernel) (by decide +kernel)
theorem xs_X2_measure : Cond.selects yX2_measure.cls yX2_measure yX2_measure ∈ XG := xg_prv (n := 11) 42 (by decide +kernel) (by decide +kernel)
theorem xm_X2_measureFrom : xmd yX2_measureFrom cX2_measureFrom 12 none 3 := ⟨xg_tab 532 (by decide +kernel) (by decide +kernel), xg_tab 5 (by decide +kernel) (by decide +kernel), by decide +kernel, by decide +kernel, by decide⟩
theorem xi_X2_measureFrom : Cond.instanceMethod yX2_measureFrom ∈ XG := xg_tab 531 (by decide +kernel) (by decide +kernel)
theorem xs_X2_measureFrom : Cond.selects yX2_measureFrom.cls yX2_measureFrom yX2_measureFrom ∈ XG := xg_prv (n := 11) 43 (by decide +kernel) (by decide +kernel)
theorem xm_J7_fill_53178 : xmd yJ7_fill_53178 cJ7_fill_53178 4 none 2 := ⟨xg_tab 538 (by decide +kernel) (by decide +kernel), xg_tab 6 (by decide +kernel) (by decide +kernel), by decide +kernel, by decide +kernel, by decide⟩
theorem xi_J7_fill_53178 : Cond.static yJ7_fill_53178 ∈ XG := xg_tab 537 (by decide +kernel) (by decide +kernel)
theorem xm_X2_tryRows : xmd yX2_tryRows cX2_tryRows 13 none 7 := ⟨xg_tab 542 (by decide +kernel) (by decide +kernel), xg_tab 5 (by decide +kernel) (by decide +kernel), by decide +kernel, by decide +kernel, by decide⟩
theorem xi_X2_tryRows : Cond.instanceMethod yX2_tryRows ∈ XG := xg_tab 541 (by decide +kernel) (by decide +kernel)
theorem xs_X2_tryRows : Cond.selects yX2_tryRows.cls yX2_tryRows yX2_tryRows ∈ XG := xg_prv (n := 11) 44 (by decide +kernel) (by decide +kernel)
theorem xm_X2_chooseSets : xmd yX2_chooseSets cX2_chooseSets 5 none 1 := ⟨xg_tab 549 (by decide +kernel) (by decide +kernel), xg_tab 5 (by decide +kernel) (by decide +kernel), by decide +kernel, by decide +kernel, by decide⟩
theorem xi_X2_chooseSets : Cond.instanceMethod yX2_chooseSets ∈ XG := xg_tab 548 (by decide +kernel) (by decide +kernel)
theorem xs_X2_chooseSets : Cond.selects yX2_chooseSets.cls yX2_chooseSets yX2_chooseSets ∈ XG := xg_prv (n := 11) 45 (by decide +kernel) (by decide +kernel)
theorem xm_X4_served : xmd yX4_served cX4_served 3 (some .int) 2 := ⟨xg_tab 553 (by decide +kernel) (by decide +kernel), xg_tab 1 (by decide +kernel) (by decide +kernel), by decide +kernel, by decide +kernel, by decide⟩
theorem xi_X4_served : Cond.instanceMethod yX4_served ∈ XG := xg_tab 551 (by decide +kernel) (by decide +kernel)
theorem xs_X4_served : Cond.selects yX4_served.cls yX4_served yX4_served ∈ XG := xg_tab 552 (by decide +kernel) (by decide +kernel)
theorem xm_X2_planned : xmd yX2_planned cX2_planned 4 (some .int) 2 := ⟨xg_tab 557 (by decide +kernel) (by decide +kernel), xg_tab 5 (by decide +kernel) (by decide +kernel), by decide +kernel, by decide +kernel, by decide⟩
theorem xi_X2_planned : Cond.instanceMethod yX2_planned ∈ XG := xg_tab 556 (by decide +kernel) (by decide +kernel)
theorem xs_X2_planned : Cond.selects yX2_planned.cls yX2_planned yX2_planned ∈ XG := xg_prv (n := 11) 46 (by decide +kernel) (by decide +kernel)
theorem xm_X4_keep : xmd yX4_keep cX4_keep 2 (some .int) 1 := ⟨xg_tab 561 (by decide +kernel) (by decide +kernel), xg_tab 1 (by decide +kernel) (by decide +kernel), by decide +kernel, by decide +kernel, by decide⟩
theorem xi_X4_keep : Cond.instanceMethod yX4_keep ∈ XG := xg_tab 559 (by decide +kernel) (by decide +kernel)
theorem xs_X4_keep : Cond.selects yX4_keep.cls yX4_keep yX4_keep ∈ XG := xg_tab 560 (by decide +kernel) (by decide +kernel)
theorem xm_X3_copyFrom : xmd yX3_copyFrom cX3_copyFrom 2 none 1 := ⟨xg_tab 565 (by decide +kernel) (by decide +kernel), xg_tab 3 (by decide +kernel) (by decide +kernel), by decide +kernel, by decide +kernel, by decide⟩
theorem xi_X3_copyFrom : Cond.instanceMethod yX3_copyFrom ∈ XG := xg_tab 564 (by decide +kernel) (by decide +kernel)
theorem xs_X3_copyFrom : Cond.selects yX3_copyFrom.cls yX3_copyFrom yX3_copyFrom ∈ XG := xg_prv (n := 11) 47 (by decide +kernel) (by decide +kernel)
theorem xm_X4_back : xmd yX4_back cX4_back 2 (some .int) 1 := ⟨xg_tab 572 (by decide +kernel) (by decide +kernel), xg_tab 1 (by decide +kernel) (by decide +kernel), by decide +kernel, by decide +kernel, by decide⟩
theorem xi_X4_back : Cond.instanceMethod yX4_back ∈ XG := xg_tab 570 (by decide +kernel) (by decide +kernel)
theorem xs_X4_back : Cond.selects yX4_back.cls yX4_back yX4_back ∈ XG := xg_tab 571 (by decide +kernel) (by decide +kernel)
theorem xm_X4_count : xmd yX4_count cX4_count 2 (some .int) 1 := ⟨xg_tab 576 (by decide +kernel) (by decide +kernel), xg_tab 1 (by decide +kernel) (by decide +kernel), by decide +kernel, by decide +kernel, by decide⟩
theorem xi_X4_count : Cond.instanceMethod yX4_count ∈ XG := xg_tab 574 (by decide +kernel) (by decide +kernel)
theorem xs_X4_count : Cond.selects yX4_count.cls yX4_count yX4_count ∈ XG := xg_tab 575 (by decide +kernel) (by decide +kernel)
theorem xm_X4_trace : xmd yX4_trace cX4_trace 1 (some .long) 0 := ⟨xg_tab 580 (by decide +kernel) (by decide +kernel), xg_tab 1 (by decide +kernel) (by decide +kernel), by decide +kernel, by decide +kernel, by decide⟩
theorem xi_X4_trace : Cond.instanceMethod yX4_trace ∈ XG := xg_tab 578 (by decide +kernel) (by decide +kernel)
theorem xs_X4_trace : Cond.selects yX4_trace.cls yX4_trace yX4_trace ∈ XG := xg_tab 579 (by decide +kernel) (by decide +kernel)
theorem xm_X5_type : xmd yX5_type cX5_type 5 (some .int) 2 := ⟨xg_tab 714 (by decide +kernel) (by decide +kernel), xg_tab 7 (by decide +kernel) (by decide +kernel), by decide +kernel, by decide +kernel, by decide⟩
theorem xi_X5_type : Cond.instanceMethod yX5_type ∈ XG := xg_tab 712 (by decide +kernel) (by decide +kernel)
theorem xs_X5_type : Cond.selects yX5_type.cls yX5_type yX5_type ∈ XG := xg_tab 713 (by decide +kernel) (by decide +kernel)
theorem xm_X5_in : xmd yX5_in cX5_in 3 (some .boolean) 3 := ⟨xg_tab 717 (by decide +kernel) (by decide +kernel), xg_tab 7 (by decide +kernel) (by decide +kernel), by decide +kernel, by decide +kernel, by decide⟩
theorem xi_X5_in : Cond.static yX5_in ∈ XG := xg_tab 716 (by decide +kernel) (by decide +kernel)
theorem xm_X5_clear : xmd yX5_clear cX5_clear 2 (some .int) 0 := ⟨xg_tab 722 (by decide +kernel) (by decide +kernel), xg_tab 7 (by decide +kernel) (by decide +kernel), by decide +kernel, by decide +kernel, by decide⟩
theorem xi_X5_clear : Cond.instanceMethod yX5_clear ∈ XG := xg_tab 720 (by decide +kernel) (by decide +kernel)
theorem xs_X5_clear : Cond.selects yX5_clear.cls yX5_clear yX5_clear ∈ XG := xg_tab 721 (by decide +kernel) (by decide +kernel)
theorem xm_X5_hall : xmd yX5_hall cX5_hall 4 (some .int) 0 := ⟨xg_tab 726 (by decide +kernel) (by decide +kernel), xg_tab 7 (by decide +kernel) (by decide +kernel), by decide +kernel, by decide +kernel, by decide⟩
theorem xi_X5_hall : Cond.instanceMethod yX5_hall ∈ XG := xg_tab 724 (by decide +kernel) (by decide +kernel)
theorem xs_X5_hall : Cond.selects yX5_hall.cls yX5_hall yX5_hall ∈ XG := xg_tab 725 (by decide +kernel) (by decide +kernel)
theorem xm_X5_fault : xmd yX5_fault cX5_fault 8 (some .int) 0 := ⟨xg_tab 730 (by decide +kernel) (by decide +kernel), xg_tab 7 (by decide +kernel) (by decide +kernel), by decide +kernel, by decide +kernel, by decide⟩
theorem xi_X5_fault : Cond.instanceMethod yX5_fault ∈ XG := xg_tab 729 (by decide +kernel) (by decide +kernel)
theorem xs_X5_fault : Cond.selects yX5_fault.cls yX5_fault yX5_fault ∈ XG := xg_prv (n := 40) 48 (by decide +kernel) (by decide +kernel)
theorem xm_X5_sign : xmd yX5_sign cX5_sign 2 (some .int) 1 := ⟨xg_tab 734 (by decide +kernel) (by decide +kernel), xg_tab 7 (by decide +kernel) (by decide +kernel), by decide +kernel, by decide +kernel, by decide⟩
theorem xi_X5_sign : Cond.instanceMethod yX5_sign ∈ XG := xg_tab 732 (by decide +kernel) (by decide +kernel)
theorem xs_X5_sign : Cond.selects yX5_sign.cls yX5_sign yX5_sign ∈ XG := xg_tab 733 (by decide +kernel) (by decide +kernel)
theorem xm_X5_isCell : xmd yX5_isCell cX5_isCell 2 (some .boolean) 1 := ⟨xg_tab 738 (by decide +kernel) (by decide +kernel), xg_tab 7 (by decide +kernel) (by decide +kernel), by decide +kernel, by decide +kernel, by decide⟩
theorem xi_X5_isCell : Cond.instanceMethod yX5_isCell ∈ XG := xg_tab 737 (by decide +kernel) (by decide +kernel)
theorem xs_X5_isCell : Cond.selects yX5_isCell.cls yX5_isCell yX5_isCell ∈ XG := xg_prv (n := 40) 49 (by decide +kernel) (by decide +kernel)
theorem xm_X5_door : xmd yX5_door cX5_door 5 (some .int) 2 := ⟨xg_tab 742 (by decide +kernel) (by decide +kernel), xg_tab 7 (by decide +kernel) (by decide +kernel), by decide +kernel, by decide +kernel, by decide⟩
theorem xi_X5_door : Cond.instanceMethod yX5_door ∈ XG := xg_tab 740 (by decide +kernel) (by decide +kernel)
theorem xs_X5_door : Cond.selects yX5_door.cls yX5_door yX5_door ∈ XG := xg_tab 741 (by decide +kernel) (by decide +kernel)
theorem xm_X5_isEnd : xmd yX5_isEnd cX5_isEnd 4 (some .boolean) 1 := ⟨xg_tab 746 (by decide +kernel) (by decide +kernel), xg_tab 7 (by decide +kernel) (by decide +kernel), by decide +kernel, by decide +kernel, by decide⟩
theorem xi_X5_isEnd : Cond.instanceMethod yX5_isEnd ∈ XG := xg_tab 745 (by decide +kernel) (by decide +kernel)
theorem xs_X5_isEnd : Cond.selects yX5_isEnd.cls yX5_isEnd yX5_isEnd ∈ XG := xg_prv (n := 40) 50 (by decide +kernel) (by decide +kernel)
theorem xm_X5_isFree : xmd yX5_isFree cX5_isFree 2 (some .boolean) 1 := ⟨xg_tab 750 (by decide +kernel) (by decide +kernel), xg_tab 7 (by decide +kernel) (by decide +kernel), by decide +kernel, by decide +kernel, by decide⟩
theorem xi_X5_isFree : Cond.instanceMethod yX5_isFree ∈ XG := xg_tab 749 (by decide +kernel) (by decide +kernel)
theorem xs_X5_isFree : Cond.selects yX5_isFree.cls yX5_isFree yX5_isFree ∈ XG := xg_prv (n := 40) 51 (by decide +kernel) (by decide +kernel)
theorem xm_X5_sees : xmd yX5_sees cX5_sees 2 (some .long) 1 := ⟨xg_tab 755 (by decide +kernel) (by decide +kernel), xg_tab 7 (by decide +kernel) (by decide +kernel), by decide +kernel, by decide +kernel, by decide⟩
theorem xi_X5_sees : Cond.instanceMethod yX5_sees ∈ XG := xg_tab 753 (by decide +kernel) (by decide +kernel)
theorem xs_X5_sees : Cond.selects yX5_sees.cls yX5_sees yX5_sees ∈ XG := xg_tab 754 (by decide +kernel) (by decide +kernel)
theorem xm_X5_seenFrom : xmd yX5_seenFrom cX5_seenFrom 8 (some .long) 1 := ⟨xg_tab 759 (by decide +kernel) (by decide +kernel), xg_tab 7 (by decide +kernel) (by decide +kernel), by decide +kernel, by decide +kernel, by decide⟩
theorem xi_X5_seenFrom : Cond.instanceMethod yX5_seenFrom ∈ XG := xg_tab 758 (by decide +kernel) (by decide +kernel)
theorem xs_X5_seenFrom : Cond.selects yX5_seenFrom.cls yX5_seenFrom yX5_seenFrom ∈ XG := xg_prv (n := 40) 52 (by decide +kernel) (by decide +kernel)
theorem xm_X5_beside : xmd yX5_beside cX5_beside 5 (some .int) 2 := ⟨xg_tab 763 (by decide +kernel) (by decide +kernel), xg_tab 7 (by decide +kernel) (by decide +kernel), by decide +kernel, by decide +kernel, by decide⟩
theorem xi_X5_beside : Cond.instanceMethod yX5_beside ∈ XG := xg_tab 762 (by decide +kernel) (by decide +kernel)
theorem xs_X5_beside : Cond.selects yX5_beside.cls yX5_beside yX5_beside ∈ XG := xg_prv (n := 40) 53 (by decide +kernel) (by decide +kernel)
theorem xm_X5_person : xmd yX5_person cX5_person 3 (some .int) 2 := ⟨xg_tab 767 (by decide +kernel) (by decide +kernel), xg_tab 7 (by decide +kernel) (by decide +kernel), by decide +kernel, by decide +kernel, by decide⟩
theorem xi_X5_person : Cond.instanceMethod yX5_person ∈ XG := xg_tab 765 (by decide +kernel) (by decide +kernel)
theorem xs_X5_person : Cond.selects yX5_person.cls yX5_person yX5_person ∈ XG := xg_tab 766 (by decide +kernel) (by decide +kernel)
theorem xm_X5_carrier : xmd yX5_carrier cX5_carrier 4 (some .int) 2 := ⟨xg_tab 771 (by decide +kernel) (by decide +kernel), xg_tab 7 (by decide +kernel) (by decide +kernel), by decide +kernel, by decide +kernel, by decide⟩
theorem xi_X5_carrier : Cond.instanceMethod yX5_carrier ∈ XG := xg_tab 769 (by decide +kernel) (by decide +kernel)
theorem xs_X5_carrier : Cond.selects yX5_carrier.cls yX5_carrier yX5_carrier ∈ XG := xg_tab 770 (by decide +kernel) (by decide +kernel)
theorem xm_X5_carrierOn : xmd yX5_carrierOn cX5_carrierOn 3 (some .int) 1 := ⟨xg_tab 775 (by decide +kernel) (by decide +kernel), xg_tab 7 (by decide +kernel) (by decide +kernel), by decide +kernel, by decide +kernel, by decide⟩
theorem xi_X5_carrierOn : Cond.instanceMethod yX5_carrierOn ∈ XG := xg_tab 774 (by decide +kernel) (by decide +kernel)
theorem xs_X5_carrierOn : Cond.selects yX5_carrierOn.cls yX5_carrierOn yX5_carrierOn ∈ XG := xg_prv (n := 40) 54 (by decide +kernel) (by decide +kernel)
theorem xm_X5_lookAbout : xmd yX5_lookAbout cX5_lookAbout 5 none 1 := ⟨xg_tab 779 (by decide +kernel) (by decide +kernel), xg_tab 7 (by decide +kernel) (by decide +kernel), by decide +kernel, by decide +kernel, by decide⟩
theorem xi_X5_lookAbout : Cond.instanceMethod yX5_lookAbout ∈ XG := xg_tab 778 (by decide +kernel) (by decide +kernel)
theorem xs_X5_lookAbout : Cond.selects yX5_lookAbout.cls yX5_lookAbout yX5_lookAbout ∈ XG := xg_prv (n := 40) 55 (by decide +kernel) (by decide +kernel)
theorem xm_X5_at : xmd yX5_at cX5_at 3 (some .int) 2 := ⟨xg_tab 783 (by decide +kernel) (by decide +kernel), xg_tab 7 (by decide +kernel) (by decide +kernel), by decide +kernel, by decide +kernel, by decide⟩
theorem xi_X5_at : Cond.instanceMethod yX5_at ∈ XG := xg_tab 781 (by decide +kernel) (by decide +kernel)
theorem xs_X5_at : Cond.selects yX5_at.cls yX5_at yX5_at ∈ XG := xg_tab 782 (by decide +kernel) (by decide +kernel)
theorem xm_X5_isPerson : xmd yX5_isPerson cX5_isPerson 2 (some .boolean) 1 := ⟨xg_tab 787 (by decide +kernel) (by decide +kernel), xg_tab 7 (by decide +kernel) (by decide +kernel), by decide +kernel, by decide +kernel, by decide⟩
theorem xi_X5_isPerson : Cond.instanceMethod yX5_isPerson ∈ XG := xg_tab 786 (by decide +kernel) (by decide +kernel)
theorem xs_X5_isPerson : Cond.selects yX5_isPerson.cls yX5_isPerson yX5_isPerson ∈ XG := xg_prv (n := 40) 56 (by decide +kernel) (by decide +kernel)
theorem xm_X5_isCarrier : xmd yX5_isCarrier cX5_isCarrier 2 (some .boolean) 1 := ⟨xg_tab 791 (by decide +kernel) (by decide +kernel), xg_tab 7 (by decide +kernel) (by decide +kernel), by decide +kernel, by decide +kernel, by decide⟩
theorem xi_X5_isCarrier : Cond.instanceMethod yX5_isCarrier ∈ XG := xg_tab 790 (by decide +kernel) (by decide +kernel)
theorem xs_X5_isCarrier : Cond.selects yX5_isCarrier.cls yX5_isCarrier yX5_isCarrier ∈ XG := xg_prv (n := 40) 57 (by decide +kernel) (by decide +kernel)
theorem xm_X5_could : xmd yX5_could cX5_could 3 (some .long) 2 := ⟨xg_tab 795 (by decide +kernel) (by decide +kernel), xg_tab 7 (by decide +kernel) (by decide +kernel), by decide +kernel, by decide +kernel, by decide⟩
theorem xi_X5_could : Cond.instanceMethod yX5_could ∈ XG := xg_tab 793 (by decide +kernel) (by decide +kernel)
theorem xs_X5_could : Cond.selects yX5_could.cls yX5_could yX5_could ∈ XG := xg_tab 794 (by decide +kernel) (by decide +kernel)
theorem xm_X5_couldBe : xmd yX5_couldBe cX5_couldBe 8 (some .long) 3 := ⟨xg_tab 799 (by decide +kernel) (by decide +kernel), xg_tab 7 (by decide +kernel) (by decide +kernel), by decide +kernel, by decide +kernel, by decide⟩
theorem xi_X5_couldBe : Cond.instanceMethod yX5_couldBe ∈ XG := xg_tab 798 (by decide +kernel) (by decide +kernel)
theorem xs_X5_couldBe : Cond.selects yX5_couldBe.cls yX5_couldBe yX5_couldBe ∈ XG := xg_prv (n := 40) 58 (by decide +kernel) (by decide +kernel)
theorem xm_X5_spread : xmd yX5_spread cX5_spread 3 (some .long) 1 := ⟨xg_tab 803 (by decide +kernel) (by decide +kernel), xg_tab 7 (by decide +kernel) (by decide +kernel), by decide +kernel, by decide +kernel, by decide⟩
theorem xi_X5_spread : Cond.instanceMethod yX5_spread ∈ XG := xg_tab 802 (by decide +kernel) (by decide +kernel)
theorem xs_X5_spread : Cond.selects yX5_spread.cls yX5_spread yX5_spread ∈ XG := xg_prv (n := 40) 59 (by decide +kernel) (by decide +kernel)
theorem xm_X5_close : xmd yX5_close cX5_close 10 (some .long) 1 := ⟨xg_tab 809 (by decide +kernel) (by decide +kernel), xg_tab 7 (by decide +kernel) (by decide +kernel), by decide +kernel, by decide +kernel, by decide⟩
theorem xi_X5_close : Cond.instanceMethod yX5_close ∈ XG := xg_tab 808 (by decide +kernel) (by decide +kernel)
theorem xs_X5_close : Cond.selects yX5_close.cls yX5_close yX5_close ∈ XG := xg_prv (n := 40) 60 (by decide +kernel) (by decide +kernel)
theorem xm_X5_apart : xmd yX5_apart cX5_apart 4 (some .int) 2 := ⟨xg_tab 812 (by decide +kernel) (by decide +kernel), xg_tab 7 (by decide +kernel) (by decide +kernel), by decide +kernel, by decide +kernel, by decide⟩
theorem xi_X5_apart : Cond.static yX5_apart ∈ XG := xg_tab 811 (by decide +kernel) (by decide +kernel)
theorem xm_X5_anybody : xmd yX5_anybody cX5_anybody 3 (some .long) 2 := ⟨xg_tab 816 (by decide +kernel) (by decide +kernel), xg_tab 7 (by decide +kernel) (by decide +kernel), by decide +kernel, by decide +kernel, by decide⟩
theorem xi_X5_anybody : Cond.instanceMethod yX5_anybody ∈ XG := xg_tab 814 (by decide +kernel) (by decide +kernel)
theorem xs_X5_anybody : Cond.selects yX5_anybody.cls yX5_anybody yX5_anybody ∈ XG := xg_tab 815 (by decide +kernel) (by decide +kernel)
theorem xm_X5_seenCould : xmd yX5_seenCould cX5_seenCould 9 (some .long) 2 := ⟨xg_tab 820 (by decide +kernel) (by decide +kernel), xg_tab 7 (by decide +kernel) (by decide +kernel), by decide +kernel, by decide +kernel, by decide⟩
theorem xi_X5_seenCould : Cond.instanceMethod yX5_seenCould ∈ XG := xg_tab 819 (by decide +kernel) (by decide +kernel)
theorem xs_X5_seenCould : Cond.selects yX5_seenCould.cls yX5_seenCould yX5_seenCould ∈ XG := xg_prv (n := 40) 61 (by decide +kernel) (by decide +kernel)
theorem xm_X5_unseenCould : xmd yX5_unseenCould cX5_unseenCould 3 (some .long) 2 := ⟨xg_tab 824 (by decide +kernel) (by decide +kernel), xg_tab 7 (by decide +kernel) (by decide +kernel), by decide +kernel, by decide +kernel, by decide⟩
theorem xi_X5_unseenCould : Cond.instanceMethod yX5_unseenCould ∈ XG := xg_tab 823 (by decide +kernel) (by decide +kernel)
theorem xs_X5_unseenCould : Cond.selects yX5_unseenCould.cls yX5_unseenCould yX5_unseenCould ∈ XG := xg_prv (n := 40) 62 (by decide +kernel) (by decide +kernel)
theorem xm_X5_let : xmd yX5_let cX5_let 4 (some .int) 1 := ⟨xg_tab 828 (by decide +kernel) (by decide +kernel), xg_tab 7 (by decide +kernel) (by decide +kernel), by decide +kernel, by decide +kernel, by decide⟩
theorem xi_X5_let : Cond.instanceMethod yX5_let ∈ XG := xg_tab 826 (by decide +kernel) (by decide +kernel)
theorem xs_X5_let : Cond.selects yX5_let.cls yX5_let yX5_let ∈ XG := xg_tab 827 (by decide +kernel) (by decide +kernel)
theorem xm_X5_why : xmd yX5_why cX5_why 4 (some .int) 2 := ⟨xg_tab 832 (by decide +kernel) (by decide +kernel), xg_tab 7 (by decide +kernel) (by decide +kernel), by decide +kernel, by decide +kernel, by decide⟩
theorem xi_X5_why : Cond.instanceMethod yX5_why ∈ XG := xg_tab 831 (by decide +kernel) (by decide +kernel)
theorem xs_X5_why : Cond.selects yX5_why.cls yX5_why yX5_why ∈ XG := xg_prv (n := 40) 63 (by decide +kernel) (by decide +kernel)
theorem xm_X5_soonest : xmd yX5_soonest cX5_soonest 11 (some .int) 3 := ⟨xg_tab 836 (by decide +kernel) (by decide +kernel), xg_tab 7 (by decide +kernel) (by decide +kernel), by decide +kernel, by decide +kernel, by decide⟩
theorem xi_X5_soonest : Cond.instanceMethod yX5_soonest ∈ XG := xg_tab 834 (by decide +kernel) (by decide +kernel)
theorem xs_X5_soonest : Cond.selects yX5_soonest.cls yX5_soonest yX5_soonest ∈ XG := xg_tab 835 (by decide +kernel) (by decide +kernel)
theorem xm_X5_goOn : xmd yX5_goOn cX5_goOn 4 (some .long) 2 := ⟨xg_tab 840 (by decide +kernel) (by decide +kernel), xg_tab 7 (by decide +kernel) (by decide +kernel), by decide +kernel, by decide +kernel, by decide⟩
theorem xi_X5_goOn : Cond.instanceMethod yX5_goOn ∈ XG := xg_tab 839 (by decide +kernel) (by decide +kernel)
theorem xs_X5_goOn : Cond.selects yX5_goOn.cls yX5_goOn yX5_goOn ∈ XG := xg_prv (n := 40) 64 (by decide +kernel) (by decide +kernel)
theorem xm_X5_act : xmd yX5_act cX5_act 4 (some .int) 2 := ⟨xg_tab 844 (by decide +kernel) (by decide +kernel), xg_tab 7 (by decide +kernel) (by decide +kernel), by decide +kernel, by decide +kernel, by decide⟩
theorem xi_X5_act : Cond.instanceMethod yX5_act ∈ XG := xg_tab 842 (by decide +kernel) (by decide +kernel)
theorem xs_X5_act : Cond.selects yX5_act.cls yX5_act yX5_act ∈ XG := xg_tab 843 (by decide +kernel) (by decide +kernel)
theorem xm_X5_walk : xmd yX5_walk cX5_walk 4 (some .int) 2 := ⟨xg_tab 848 (by decide +kernel) (by decide +kernel), xg_tab 7 (by decide +kernel) (by decide +kernel), by decide +kernel, by decide +kernel, by decide⟩
theorem xi_X5_walk : Cond.instanceMethod yX5_walk ∈ XG := xg_tab 846 (by decide +kernel) (by decide +kernel)
theorem xs_X5_walk : Cond.selects yX5_walk.cls yX5_walk yX5_walk ∈ XG := xg_tab 847 (by decide +kernel) (by decide +kernel)
theorem xm_X5_tick : xmd yX5_tick cX5_tick 3 (some .int) 1 := ⟨xg_tab 852 (by decide +kernel) (by decide +kernel), xg_tab 7 (by decide +kernel) (by decide +kernel), by decide +kernel, by decide +kernel, by decide⟩
theorem xi_X5_tick : Cond.instanceMethod yX5_tick ∈ XG := xg_tab 850 (by decide +kernel) (by decide +kernel)
theorem xs_X5_tick : Cond.selects yX5_tick.cls yX5_tick yX5_tick ∈ XG := xg_tab 851 (by decide +kernel) (by decide +kernel)
theorem xm_X5_line : xmd yX5_line cX5_line 3 (some .int) 2 := ⟨xg_tab 856 (by decide +kernel) (by decide +kernel), xg_tab 7 (by decide +kernel) (by decide +kernel), by decide +kernel, by decide +kernel, by decide⟩
theorem xi_X5_line : Cond.instanceMethod yX5_line ∈ XG := xg_tab 854 (by decide +kernel) (by decide +kernel)
theorem xs_X5_line : Cond.selects yX5_line.cls yX5_line yX5_line ∈ XG := xg_tab 855 (by decide +kernel) (by decide +kernel)
theorem xm_X5_age : xmd yX5_age cX5_age 3 (some .int) 2 := ⟨xg_tab 860 (by decide +kernel) (by decide +kernel), xg_tab 7 (by decide +kernel) (by decide +kernel), by decide +kernel, by decide +kernel, by decide⟩
theorem xi_X5_age : Cond.instanceMethod yX5_age ∈ XG := xg_tab 858 (by decide +kernel) (by decide +kernel)
theorem xs_X5_age : Cond.selects yX5_age.cls yX5_age yX5_age ∈ XG := xg_tab 859 (by decide +kernel) (by decide +kernel)
theorem xm_X5_charge : xmd yX5_charge cX5_charge 7 (some .int) 2 := ⟨xg_tab 864 (by decide +kernel) (by decide +kernel), xg_tab 7 (by decide +kernel) (by decide +kernel), by decide +kernel, by decide +kernel, by decide⟩
theorem xi_X5_charge : Cond.instanceMethod yX5_charge ∈ XG := xg_tab 862 (by decide +kernel) (by decide +kernel)
theorem xs_X5_charge : Cond.selects yX5_charge.cls yX5_charge yX5_charge ∈ XG := xg_tab 863 (by decide +kernel) (by decide +kernel)
theorem xm_X5_lost : xmd yX5_lost cX5_lost 1 (some .int) 0 := ⟨xg_tab 874 (by decide +kernel) (by decide +kernel), xg_tab 7 (by decide +kernel) (by decide +kernel), by decide +kernel, by decide +kernel, by decide⟩
theorem xi_X5_lost : Cond.instanceMethod yX5_lost ∈ XG := xg_tab 872 (by decide +kernel) (by decide +kernel)
theorem xs_X5_lost : Cond.selects yX5_lost.cls yX5_lost yX5_lost ∈ XG := xg_tab 873 (by decide +kernel) (by decide +kernel)
theorem xm_X5_bitsIn : xmd yX5_bitsIn cX5_bitsIn 4 (some .int) 1 := ⟨xg_tab 877 (by decide +kernel) (by decide +kernel), xg_tab 7 (by decide +kernel) (by decide +kernel), by decide +kernel, by decide +kernel, by decide⟩
theorem xi_X5_bitsIn : Cond.static yX5_bitsIn ∈ XG := xg_tab 876 (by decide +kernel) (by decide +kernel)
theorem xm_X5_look : xmd yX5_look cX5_look 5 (some .int) 2 := ⟨xg_tab 881 (by decide +kernel) (by decide +kernel), xg_tab 7 (by decide +kernel) (by decide +kernel), by decide +kernel, by decide +kernel, by decide⟩
theorem xi_X5_look : Cond.instanceMethod yX5_look ∈ XG := xg_tab 879 (by decide +kernel) (by decide +kernel)
theorem xs_X5_look : Cond.selects yX5_look.cls yX5_look yX5_look ∈ XG := xg_tab 880 (by decide +kernel) (by decide +kernel)
theorem xm_X5_looks : xmd yX5_looks cX5_looks 5 (some .int) 1 := ⟨xg_tab 885 (by decide +kernel) (by decide +kernel), xg_tab 7 (by decide +kernel) (by decide +kernel), by decide +kernel, by decide +kernel, by decide⟩
theorem xi_X5_looks : Cond.instanceMethod yX5_looks ∈ XG := xg_tab 884 (by decide +kernel) (by decide +kernel)
theorem xs_X5_looks : Cond.selects yX5_looks.cls yX5_looks yX5_looks ∈ XG := xg_prv (n := 40) 65 (by decide +kernel) (by decide +kernel)
theorem xm_X5_step : xmd yX5_step cX5_step 2 (some .int) 1 := ⟨xg_tab 889 (by decide +kernel) (by decide +kernel), xg_tab 7 (by decide +kernel) (by decide +kernel), by decide +kernel, by decide +kernel, by decide⟩
theorem xi_X5_step : Cond.instanceMethod yX5_step ∈ XG := xg_tab 887 (by decide +kernel) (by decide +kernel)
theorem xs_X5_step : Cond.selects yX5_step.cls yX5_step yX5_step ∈ XG := xg_tab 888 (by decide +kernel) (by decide +kernel)
theorem xm_X5_stepped : xmd yX5_stepped cX5_stepped 6 (some .long) 1 := ⟨xg_tab 893 (by decide +kernel) (by decide +kernel), xg_tab 7 (by decide +kernel) (by decide +kernel), by decide +kernel, by decide +kernel, by decide⟩
theorem xi_X5_stepped : Cond.instanceMethod yX5_stepped ∈ XG := xg_tab 892 (by decide +kernel) (by decide +kernel)
theorem xs_X5_stepped : Cond.selects yX5_stepped.cls yX5_stepped yX5_stepped ∈ XG := xg_prv (n := 40) 66 (by decide +kernel) (by decide +kernel)
theorem xm_X5_where : xmd yX5_where cX5_where 1 (some .long) 0 := ⟨xg_tab 897 (by decide +kernel) (by decide +kernel), xg_tab 7 (by decide +kernel) (by decide +kernel), by decide +kernel, by decide +kernel, by decide⟩
theorem xi_X5_where : Cond.instanceMethod yX5_where ∈ XG := xg_tab 895 (by decide +kernel) (by decide +kernel)
theorem xs_X5_where : Cond.selects yX5_where.cls yX5_where yX5_where ∈ XG := xg_tab 896 (by decide +kernel) (by decide +kernel)
theorem xm_X5_tells : xmd yX5_tells cX5_tells 6 (some .int) 1 := ⟨xg_tab 901 (by decide +kernel) (by decide +kernel), xg_tab 7 (by decide +kernel) (by decide +kernel), by decide +kernel, by decide +kernel, by decide⟩
theorem xi_X5_tells : Cond.instanceMethod yX5_tells ∈ XG := xg_tab 899 (by decide +kernel) (by decide +kernel)
theorem xs_X5_tells : Cond.selects yX5_tells.cls yX5_tells yX5_tells ∈ XG := xg_tab 900 (by decide +kernel) (by decide +kernel)
theorem xm_X5_unlikeLooks : xmd yX5_unlikeLooks cX5_unlikeLooks 5 (some .int) 1 := ⟨xg_tab 905 (by decide +kernel) (by decide +kernel), xg_tab 7 (by decide +kernel) (by decide +kernel), by decide +kernel, by decide +kernel, by decide⟩
theorem xi_X5_unlikeLooks : Cond.instanceMethod yX5_unlikeLooks ∈ XG := xg_tab 904 (by decide +kernel) (by decide +kernel)
theorem xs_X5_unlikeLooks : Cond.selects yX5_unlikeLooks.cls yX5_unlikeLooks yX5_unlikeLooks ∈ XG := xg_prv (n := 40) 67 (by decide +kernel) (by decide +kernel)
theorem xm_X5_order : xmd yX5_order cX5_order 4 (some .int) 3 := ⟨xg_tab 909 (by decide +kernel) (by decide +kernel), xg_tab 7 (by decide +kernel) (by decide +kernel), by decide +kernel, by decide +kernel, by decide⟩
theorem xi_X5_order : Cond.instanceMethod yX5_order ∈ XG := xg_tab 907 (by decide +kernel) (by decide +kernel)
theorem xs_X5_order : Cond.selects yX5_order.cls yX5_order yX5_order ∈ XG := xg_tab 908 (by decide +kernel) (by decide +kernel)
theorem xm_X5_late : xmd yX5_late cX5_late 1 (some .int) 0 := ⟨xg_tab 913 (by decide +kernel) (by decide +kernel), xg_tab 7 (by decide +kernel) (by decide +kernel), by decide +kernel, by decide +kernel, by decide⟩
theorem xi_X5_late : Cond.instanceMethod yX5_late ∈ XG := xg_tab 911 (by decide +kernel) (by decide +kernel)
theorem xs_X5_late : Cond.selects yX5_late.cls yX5_late yX5_late ∈ XG := xg_tab 912 (by decide +kernel) (by decide +kernel)
theorem xm_X5_measure : xmd yX5_measure cX5_measure 4 (some .boolean) 0 := ⟨xg_tab 917 (by decide +kernel) (by decide +kernel), xg_tab 7 (by decide +kernel) (by decide +kernel), by decide +kernel, by decide +kernel, by decide⟩
theorem xi_X5_measure : Cond.instanceMethod yX5_measure ∈ XG := xg_tab 916 (by decide +kernel) (by decide +kernel)
theorem xs_X5_measure : Cond.selects yX5_measure.cls yX5_measure yX5_measure ∈ XG := xg_prv (n := 40) 68 (by decide +kernel) (by decide +kernel)
theorem xm_X5_steps : xmd yX5_steps cX5_steps 8 (some .int) 2 := ⟨xg_tab 921 (by decide +kernel) (by decide +kernel), xg_tab 7 (by decide +kernel) (by decide +kernel), by decide +kernel, by decide +kernel, by decide⟩
theorem xi_X5_steps : Cond.instanceMethod yX5_steps ∈ XG := xg_tab 920 (by decide +kernel) (by decide +kernel)
theorem xs_X5_steps : Cond.selects yX5_steps.cls yX5_steps yX5_steps ∈ XG := xg_prv (n := 40) 69 (by decide +kernel) (by decide +kernel)
theorem xm_X5_findLate : xmd yX5_findLate cX5_findLate 6 (some .int) 0 := ⟨xg_tab 925 (by decide +kernel) (by decide +kernel), xg_tab 7 (by decide +kernel) (by decide +kernel), by decide +kernel, by decide +kernel, by decide⟩
theorem xi_X5_findLate : Cond.instanceMethod yX5_findLate ∈ XG := xg_tab 924 (by decide +kernel) (by decide +kernel)
theorem xs_X5_findLate : Cond.selects yX5_findLate.cls yX5_findLate yX5_findLate ∈ XG := xg_prv (n := 40) 70 (by decide +kernel) (by decide +kernel)
theorem xm_X5_leastOf : xmd yX5_leastOf cX5_leastOf 9 (some .int) 3 := ⟨xg_tab 929 (by decide +kernel) (by decide +kernel), xg_tab 7 (by decide +kernel) (by decide +kernel), by decide +kernel, by decide +kernel, by decide⟩
theorem xi_X5_leastOf : Cond.instanceMethod yX5_leastOf ∈ XG := xg_tab 928 (by decide +kernel) (by decide +kernel)
theorem xs_X5_leastOf : Cond.selects yX5_leastOf.cls yX5_leastOf yX5_leastOf ∈ XG := xg_prv (n := 40) 71 (by decide +kernel) (by decide +kernel)
theorem xm_X5_tellRow : xmd yX5_tellRow cX5_tellRow 9 (some .int) 2 := ⟨xg_tab 933 (by decide +kernel) (by decide +kernel), xg_tab 7 (by decide +kernel) (by decide +kernel), by decide +kernel, by decide +kernel, by decide⟩
theorem xi_X5_tellRow : Cond.instanceMethod yX5_tellRow ∈ XG := xg_tab 932 (by decide +kernel) (by decide +kernel)
theorem xs_X5_tellRow : Cond.selects yX5_tellRow.cls yX5_tellRow yX5_tellRow ∈ XG := xg_prv (n := 40) 72 (by decide +kernel) (by decide +kernel)
theorem xm_X5_rowsOf : xmd yX5_rowsOf cX5_rowsOf 3 (some .int) 1 := ⟨xg_tab 936 (by decide +kernel) (by decide +kernel), xg_tab 7 (by decide +kernel) (by decide +kernel), by decide +kernel, by decide +kernel, by decide⟩
theorem xi_X5_rowsOf : Cond.static yX5_rowsOf ∈ XG := xg_tab 935 (by decide +kernel) (by decide +kernel)
theorem xm_X5_lateOf : xmd yX5_lateOf cX5_lateOf 8 (some .int) 2 := ⟨xg_tab 940 (by decide +kernel) (by decide +kernel), xg_tab 7 (by decide +kernel) (by decide +kernel), by decide +kernel, by decide +kernel, by decide⟩
theorem xi_X5_lateOf : Cond.instanceMethod yX5_lateOf ∈ XG := xg_tab 939 (by decide +kernel) (by decide +kernel)
theorem xs_X5_lateOf : Cond.selects yX5_lateOf.cls yX5_lateOf yX5_lateOf ∈ XG := xg_prv (n := 40) 73 (by decide +kernel) (by decide +kernel)
theorem xm_X5_served : xmd yX5_served cX5_served 3 (some .int) 2 := ⟨xg_tab 944 (by decide +kernel) (by decide +kernel), xg_tab 7 (by decide +kernel) (by decide +kernel), by decide +kernel, by decide +kernel, by decide⟩
theorem xi_X5_served : Cond.instanceMethod yX5_served ∈ XG := xg_tab 942 (by decide +kernel) (by decide +kernel)
theorem xs_X5_served : Cond.selects yX5_served.cls yX5_served yX5_served ∈ XG := xg_tab 943 (by decide +kernel) (by decide +kernel)
theorem xm_X5_keep : xmd yX5_keep cX5_keep 2 (some .int) 1 := ⟨xg_tab 948 (by decide +kernel) (by decide +kernel), xg_tab 7 (by decide +kernel) (by decide +kernel), by decide +kernel, by decide +kernel, by decide⟩
theorem xi_X5_keep : Cond.instanceMethod yX5_keep ∈ XG := xg_tab 946 (by decide +kernel) (by decide +kernel)
theorem xs_X5_keep : Cond.selects yX5_keep.cls yX5_keep yX5_keep ∈ XG := xg_tab 947 (by decide +kernel) (by decide +kernel)
theorem xm_X5_moveAll : xmd yX5_moveAll cX5_moveAll 3 none 2 := ⟨xg_tab 952 (by decide +kernel) (by decide +kernel), xg_tab 7 (by decide +kernel) (by decide +kernel), by decide +kernel, by decide +kernel, by decide⟩
theorem xi_X5_moveAll : Cond.instanceMethod yX5_moveAll ∈ XG := xg_tab 951 (by decide +kernel) (by decide +kernel)
theorem xs_X5_moveAll : Cond.selects yX5_moveAll.cls yX5_moveAll yX5_moveAll ∈ XG := xg_prv (n := 40) 74 (by decide +kernel) (by decide +kernel)
theorem xm_X5_move : xmd yX5_move cX5_move 5 none 4 := ⟨xg_tab 955 (by decide +kernel) (by decide +kernel), xg_tab 7 (by decide +kernel) (by decide +kernel), by decide +kernel, by decide +kernel, by decide⟩
theorem xi_X5_move : Cond.static yX5_move ∈ XG := xg_tab 954 (by decide +kernel) (by decide +kernel)
theorem xm_X5_back : xmd yX5_back cX5_back 4 (some .int) 1 := ⟨xg_tab 959 (by decide +kernel) (by decide +kernel), xg_tab 7 (by decide +kernel) (by decide +kernel), by decide +kernel, by decide +kernel, by decide⟩
theorem xi_X5_back : Cond.instanceMethod yX5_back ∈ XG := xg_tab 957 (by decide +kernel) (by decide +kernel)
theorem xs_X5_back : Cond.selects yX5_back.cls yX5_back yX5_back ∈ XG := xg_tab 958 (by decide +kernel) (by decide +kernel)
theorem xm_X5_count : xmd yX5_count cX5_count 2 (some .int) 1 := ⟨xg_tab 963 (by decide +kernel) (by decide +kernel), xg_tab 7 (by decide +kernel) (by decide +kernel), by decide +kernel, by decide +kernel, by decide⟩
theorem xi_X5_count : Cond.instanceMethod yX5_count ∈ XG := xg_tab 961 (by decide +kernel) (by decide +kernel)
theorem xs_X5_count : Cond.selects yX5_count.cls yX5_count yX5_count ∈ XG := xg_tab 962 (by decide +kernel) (by decide +kernel)
theorem xm_X5_trace : xmd yX5_trace cX5_trace 1 (some .long) 0 := ⟨xg_tab 967 (by decide +kernel) (by decide +kernel), xg_tab 7 (by decide +kernel) (by decide +kernel), by decide +kernel, by decide +kernel, by decide⟩
theorem xi_X5_trace : Cond.instanceMethod yX5_trace ∈ XG := xg_tab 965 (by decide +kernel) (by decide +kernel)
theorem xs_X5_trace : Cond.selects yX5_trace.cls yX5_trace yX5_trace ∈ XG := xg_tab 966 (by decide +kernel) (by decide +kernel)
theorem xl_RX4_55 : xlnk RX4 55 yX4_becomeHall := Or.inl (xg_tab 178 (by decide +kernel) (by decide +kernel))
theorem xl_RX4_62 : xlnk RX4 62 yX4_faultPlace := Or.inl (xg_tab 244 (by decide +kernel) (by decide +kernel))
theorem xl_RX4_70 : xlnk RX4 70 yJ13_bitCount_95d88 := Or.inl (xg_tab 255 (by decide +kernel) (by decide +kernel))
theorem xl_RX4_76 : xlnk RX4 76 yX1_has := Or.inr (xn_tab 265 (by decide +kernel) (by decide +kernel))
theorem xl_RX4_89 : xlnk RX4 89 yX3_taken := Or.inr (xn_tab 273 (by decide +kernel) (by decide +kernel))
theorem xl_RX4_93 : xlnk RX4 93 yX2_ends := Or.inr (xn_tab 281 (by decide +kernel) (by decide +kernel))
theorem xl_RX4_104 : xlnk RX4 104 yX2_forgetPlan := Or.inr (xn_tab 286 (by decide +kernel) (by decide +kernel))
theorem xl_RX4_107 : xlnk RX4 107 yX1_seenFrom := Or.inr (xn_tab 294 (by decide +kernel) (by decide +kernel))
theorem xl_RX4_111 : xlnk RX4 111 yX1_isFree := Or.inr (xn_tab 307 (by decide +kernel) (by decide +kernel))
theorem xl_RX4_117 : xlnk RX4 117 yX3_addPerson := Or.inr (xn_tab 311 (by decide +kernel) (by decide +kernel))
theorem xl_RX4_121 : xlnk RX4 121 yX3_carriersTaken := Or.inr (xn_tab 319 (by decide +kernel) (by decide +kernel))
theorem xl_RX4_127 : xlnk RX4 127 yX3_addCarrier := Or.inr (xn_tab 320 (by decide +kernel) (by decide +kernel))
theorem xl_RX4_130 : xlnk RX4 130 yX4_lookAround := Or.inl (xg_tab 324 (by decide +kernel) (by decide +kernel))
theorem xl_RX4_134 : xlnk RX4 134 yX4_isPerson := Or.inl (xg_tab 336 (by decide +kernel) (by decide +kernel))
theorem xl_RX4_143 : xlnk RX4 143 yX4_isCarrier := Or.inl (xg_tab 340 (by decide +kernel) (by decide +kernel))
theorem xl_RX4_152 : xlnk RX4 152 yX4_couldBe := Or.inl (xg_tab 348 (by decide +kernel) (by decide +kernel))
theorem xl_RX4_156 : xlnk RX4 156 yX4_gatherAnybody := Or.inl (xg_tab 380 (by decide +kernel) (by decide +kernel))
theorem xl_RX4_159 : xlnk RX4 159 yX0_afterTicks := Or.inr (xn_tab 364 (by decide +kernel) (by decide +kernel))
theorem xl_RX4_163 : xlnk RX4 163 yX4_whyNot := Or.inl (xg_tab 392 (by decide +kernel) (by decide +kernel))
theorem xl_RX4_166 : xlnk RX4 166 yX4_soonestRow := Or.inl (xg_tab 401 (by decide +kernel) (by decide +kernel))
theorem xl_RX4_176 : xlnk RX4 176 yX3_addLine := Or.inr (xn_tab 412 (by decide +kernel) (by decide +kernel))
theorem xl_RX4_189 : xlnk RX4 189 yX4_chargeMove := Or.inl (xg_tab 436 (by decide +kernel) (by decide +kernel))
theorem xl_RX4_192 : xlnk RX4 192 yX4_chargeGo := Or.inl (xg_tab 440 (by decide +kernel) (by decide +kernel))
theorem xl_RX4_196 : xlnk RX4 196 yX4_chargeWait := Or.inl (xg_tab 445 (by decide +kernel) (by decide +kernel))
theorem xl_RX4_199 : xlnk RX4 199 yX4_chargeYield := Or.inl (xg_tab 450 (by decide +kernel) (by decide +kernel))
theorem xl_RX4_202 : xlnk RX4 202 yX4_chargeBack := Or.inl (xg_tab 455 (by decide +kernel) (by decide +kernel))
theorem xl_RX4_205 : xlnk RX4 205 yX4_chargeRide := Or.inl (xg_tab 460 (by decide +kernel) (by decide +kernel))
theorem xl_RX4_208 : xlnk RX4 208 yX4_chargeAsk := Or.inl (xg_tab 465 (by decide +kernel) (by decide +kernel))
theorem xl_RX4_211 : xlnk RX4 211 yX1_looksLike := Or.inr (xn_tab 478 (by decide +kernel) (by decide +kernel))
theorem xl_RX4_217 : xlnk RX4 217 yX1_stepped := Or.inr (xn_tab 491 (by decide +kernel) (by decide +kernel))
theorem xl_RX4_221 : xlnk RX4 221 yX1_unlikeLooks := Or.inr (xn_tab 503 (by decide +kernel) (by decide +kernel))
theorem xl_RX4_227 : xlnk RX4 227 yX2_add := Or.inr (xn_tab 513 (by decide +kernel) (by decide +kernel))
theorem xl_RX4_231 : xlnk RX4 231 yX2_makePlan := Or.inr (xn_tab 521 (by decide +kernel) (by decide +kernel))
theorem xl_RX4_242 : xlnk RX4 242 yX2_planned := Or.inr (xn_tab 554 (by decide +kernel) (by decide +kernel))
theorem xl_RX4_245 : xlnk RX4 245 yX3_copyFrom := Or.inr (xn_tab 562 (by decide +kernel) (by decide +kernel))
theorem xl_RX4_255 : xlnk RX4 255 yX4_markOf := Or.inl (xg_tab 248 (by decide +kernel) (by decide +kernel))
theorem xl_RX4_258 : xlnk RX4 258 yX4_isSign := Or.inl (xg_tab 252 (by decide +kernel) (by decide +kernel))
theorem xl_RX4_261 : xlnk RX4 261 yX4_isMark := Or.inl (xg_tab 251 (by decide +kernel) (by decide +kernel))
theorem xl_RX4_264 : xlnk RX4 264 yX1_empty := Or.inr (xn_tab 182 (by decide +kernel) (by decide +kernel))
theorem xl_RX4_267 : xlnk RX4 267 yX1_put := Or.inr (xn_tab 189 (by decide +kernel) (by decide +kernel))
theorem xl_RX4_270 : xlnk RX4 270 yX3_empty := Or.inr (xn_tab 196 (by decide +kernel) (by decide +kernel))
theorem xl_RX4_271 : xlnk RX4 271 yX2_empty := Or.inr (xn_tab 200 (by decide +kernel) (by decide +kernel))
theorem xl_RX4_272 : xlnk RX4 272 yX4_seenBy := Or.inl (xg_tab 328 (by decide +kernel) (by decide +kernel))
theorem xl_RX4_275 : xlnk RX4 275 yX0_empty := Or.inr (xn_tab 352 (by decide +kernel) (by decide +kernel))
theorem xl_RX4_277 : xlnk RX4 277 yX0_join := Or.inr (xn_tab 360 (by decide +kernel) (by decide +kernel))
theorem xl_RX4_281 : xlnk RX4 281 yX4_gatherSeen := Or.inl (xg_tab 384 (by decide +kernel) (by decide +kernel))
theorem xl_RX4_285 : xlnk RX4 285 yX4_shifted := Or.inl (xg_tab 396 (by decide +kernel) (by decide +kernel))
theorem xl_RX4_288 : xlnk RX4 288 yX4_widened := Or.inl (xg_tab 405 (by decide +kernel) (by decide +kernel))
theorem xl_RX0_38 : xlnk RX0 38 yX4_behind := Or.inr (xn_tab 356 (by decide +kernel) (by decide +kernel))
theorem xl_RX0_42 : xlnk RX0 42 yX4_widened := Or.inr (xn_tab 368 (by decide +kernel) (by decide +kernel))
theorem xl_RX0_46 : xlnk RX0 46 yX0_nearer := Or.inl (xg_tab 371 (by decide +kernel) (by decide +kernel))
theorem xl_RX0_50 : xlnk RX0 50 yX4_shifted := Or.inr (xn_tab 375 (by decide +kernel) (by decide +kernel))
theorem xl_RX1_22 : xlnk RX1 22 yJ7_fill_d0a16 := Or.inl (xg_tab 186 (by decide +kernel) (by decide +kernel))
theorem xl_RX1_39 : xlnk RX1 39 yX4_isMark := Or.inr (xn_tab 193 (by decide +kernel) (by decide +kernel))
theorem xl_RX1_43 : xlnk RX1 43 yX4_shifted := Or.inr (xn_tab 298 (by decide +kernel) (by decide +kernel))
theorem xl_RX1_47 : xlnk RX1 47 yX1_canStep := Or.inl (xg_tab 482 (by decide +kernel) (by decide +kernel))
theorem xl_RX1_53 : xlnk RX1 53 yJ13_bitCount_95d88 := Or.inl (xg_tab 507 (by decide +kernel) (by decide +kernel))
theorem xl_RX1_59 : xlnk RX1 59 yX1_looksLike := Or.inl (xg_tab 508 (by decide +kernel) (by decide +kernel))
theorem xl_RX2_46 : xlnk RX2 46 yX2_measure := Or.inl (xg_tab 525 (by decide +kernel) (by decide +kernel))
theorem xl_RX2_54 : xlnk RX2 54 yJ7_fill_53178 := Or.inl (xg_tab 536 (by decide +kernel) (by decide +kernel))
theorem xl_RX2_63 : xlnk RX2 63 yX2_tryRows := Or.inl (xg_tab 539 (by decide +kernel) (by decide +kernel))
theorem xl_RX2_67 : xlnk RX2 67 yX2_chooseSets := Or.inl (xg_tab 546 (by decide +kernel) (by decide +kernel))
theorem xl_RX2_71 : xlnk RX2 71 yX2_measureFrom := Or.inl (xg_tab 529 (by decide +kernel) (by decide +kernel))
theorem xl_RX2_80 : xlnk RX2 80 yX4_widened := Or.inr (xn_tab 534 (by decide +kernel) (by decide +kernel))
theorem xl_RX2_84 : Cond.methodLink RX2 84 Lib.Math.max.name ∈ XG := xg_tab 543 (by decide +kernel) (by decide +kernel)
theorem xl_RX3_43 : xlnk RX3 43 yX3_carriersTaken := Or.inl (xg_tab 277 (by decide +kernel) (by decide +kernel))
theorem xl_RX3_47 : Cond.methodLink RX3 47 arraycopyName ∈ XG := xg_tab 566 (by decide +kernel) (by decide +kernel)
theorem xl_RL_15 : xlnk RL 15 yX4_type := Or.inl (xg_tab 235 (by decide +kernel) (by decide +kernel))
theorem xl_RL_19 : xlnk RL 19 yX5_type := Or.inl (xg_tab 711 (by decide +kernel) (by decide +kernel))
theorem xl_RL_20 : xlnk RL 20 yX4_clear := Or.inl (xg_tab 236 (by decide +kernel) (by decide +kernel))
theorem xl_RL_24 : xlnk RL 24 yX5_clear := Or.inl (xg_tab 719 (by decide +kernel) (by decide +kernel))
theorem xl_RL_25 : xlnk RL 25 yX4_hall := Or.inl (xg_tab 240 (by decide +kernel) (by decide +kernel))
theorem xl_RL_28 : xlnk RL 28 yX5_hall := Or.inl (xg_tab 723 (by decide +kernel) (by decide +kernel))
theorem xl_RL_29 : xlnk RL 29 yX4_sign := Or.inl (xg_tab 261 (by decide +kernel) (by decide +kernel))
theorem xl_RL_33 : xlnk RL 33 yX5_sign := Or.inl (xg_tab 731 (by decide +kernel) (by decide +kernel))
theorem xl_RL_34 : xlnk RL 34 yX4_door := Or.inl (xg_tab 269 (by decide +kernel) (by decide +kernel))
theorem xl_RL_38 : xlnk RL 38 yX5_door := Or.inl (xg_tab 739 (by decide +kernel) (by decide +kernel))
theorem xl_RL_39 : xlnk RL 39 yX4_sees := Or.inl (xg_tab 290 (by decide +kernel) (by decide +kernel))
theorem xl_RL_43 : xlnk RL 43 yX5_sees := Or.inl (xg_tab 752 (by decide +kernel) (by decide +kernel))
theorem xl_RL_44 : xlnk RL 44 yX4_person := Or.inl (xg_tab 303 (by decide +kernel) (by decide +kernel))
theorem xl_RL_47 : xlnk RL 47 yX5_person := Or.inl (xg_tab 764 (by decide +kernel) (by decide +kernel))
theorem xl_RL_48 : xlnk RL 48 yX4_carrier := Or.inl (xg_tab 315 (by decide +kernel) (by decide +kernel))
theorem xl_RL_51 : xlnk RL 51 yX5_carrier := Or.inl (xg_tab 768 (by decide +kernel) (by decide +kernel))
theorem xl_RL_52 : xlnk RL 52 yX4_at := Or.inl (xg_tab 332 (by decide +kernel) (by decide +kernel))
theorem xl_RL_55 : xlnk RL 55 yX5_at := Or.inl (xg_tab 780 (by decide +kernel) (by decide +kernel))
theorem xl_RL_56 : xlnk RL 56 yX4_could := Or.inl (xg_tab 344 (by decide +kernel) (by decide +kernel))
theorem xl_RL_60 : xlnk RL 60 yX5_could := Or.inl (xg_tab 792 (by decide +kernel) (by decide +kernel))
theorem xl_RL_61 : xlnk RL 61 yX4_anybody := Or.inl (xg_tab 376 (by decide +kernel) (by decide +kernel))
theorem xl_RL_64 : xlnk RL 64 yX5_anybody := Or.inl (xg_tab 813 (by decide +kernel) (by decide +kernel))
theorem xl_RL_65 : xlnk RL 65 yX4_let := Or.inl (xg_tab 388 (by decide +kernel) (by decide +kernel))
theorem xl_RL_68 : xlnk RL 68 yX5_let := Or.inl (xg_tab 825 (by decide +kernel) (by decide +kernel))
theorem xl_RL_69 : xlnk RL 69 yX4_soonest := Or.inl (xg_tab 397 (by decide +kernel) (by decide +kernel))
theorem xl_RL_73 : xlnk RL 73 yX5_soonest := Or.inl (xg_tab 833 (by decide +kernel) (by decide +kernel))
theorem xl_RL_74 : xlnk RL 74 yX4_act := Or.inl (xg_tab 406 (by decide +kernel) (by decide +kernel))
theorem xl_RL_77 : xlnk RL 77 yX5_act := Or.inl (xg_tab 841 (by decide +kernel) (by decide +kernel))
theorem xl_RL_78 : xlnk RL 78 yX4_walk := Or.inl (xg_tab 416 (by decide +kernel) (by decide +kernel))
theorem xl_RL_81 : xlnk RL 81 yX5_walk := Or.inl (xg_tab 845 (by decide +kernel) (by decide +kernel))
theorem xl_RL_82 : xlnk RL 82 yX4_tick := Or.inl (xg_tab 420 (by decide +kernel) (by decide +kernel))
theorem xl_RL_85 : xlnk RL 85 yX5_tick := Or.inl (xg_tab 849 (by decide +kernel) (by decide +kernel))
theorem xl_RL_86 : xlnk RL 86 yX4_line := Or.inl (xg_tab 424 (by decide +kernel) (by decide +kernel))
theorem xl_RL_89 : xlnk RL 89 yX5_line := Or.inl (xg_tab 853 (by decide +kernel) (by decide +kernel))
theorem xl_RL_90 : xlnk RL 90 yX4_age := Or.inl (xg_tab 428 (by decide +kernel) (by decide +kernel))
theorem xl_RL_93 : xlnk RL 93 yX5_age := Or.inl (xg_tab 857 (by decide +kernel) (by decide +kernel))
theorem xl_RL_94 : xlnk RL 94 yX4_charge := Or.inl (xg_tab 432 (by decide +kernel) (by decide +kernel))
theorem xl_RL_97 : xlnk RL 97 yX5_charge := Or.inl (xg_tab 861 (by decide +kernel) (by decide +kernel))
theorem xl_RL_98 : xlnk RL 98 yX4_lost := Or.inl (xg_tab 470 (by decide +kernel) (by decide +kernel))
theorem xl_RL_101 : xlnk RL 101 yX5_lost := Or.inl (xg_tab 871 (by decide +kernel) (by decide +kernel))
theorem xl_RL_102 : xlnk RL 102 yX4_look := Or.inl (xg_tab 474 (by decide +kernel) (by decide +kernel))
theorem xl_RL_105 : xlnk RL 105 yX5_look := Or.inl (xg_tab 878 (by decide +kernel) (by decide +kernel))
theorem xl_RL_106 : xlnk RL 106 yX4_step := Or.inl (xg_tab 487 (by decide +kernel) (by decide +kernel))
theorem xl_RL_109 : xlnk RL 109 yX5_step := Or.inl (xg_tab 886 (by decide +kernel) (by decide +kernel))
theorem xl_RL_110 : xlnk RL 110 yX4_where := Or.inl (xg_tab 495 (by decide +kernel) (by decide +kernel))
theorem xl_RL_114 : xlnk RL 114 yX5_where := Or.inl (xg_tab 894 (by decide +kernel) (by decide +kernel))
theorem xl_RL_115 : xlnk RL 115 yX4_tells := Or.inl (xg_tab 499 (by decide +kernel) (by decide +kernel))
theorem xl_RL_118 : xlnk RL 118 yX5_tells := Or.inl (xg_tab 898 (by decide +kernel) (by decide +kernel))
theorem xl_RL_119 : xlnk RL 119 yX4_order := Or.inl (xg_tab 509 (by decide +kernel) (by decide +kernel))
theorem xl_RL_122 : xlnk RL 122 yX5_order := Or.inl (xg_tab 906 (by decide +kernel) (by decide +kernel))
theorem xl_RL_123 : xlnk RL 123 yX4_late := Or.inl (xg_tab 517 (by decide +kernel) (by decide +kernel))
theorem xl_RL_126 : xlnk RL 126 yX5_late := Or.inl (xg_tab 910 (by decide +kernel) (by decide +kernel))
theorem xl_RL_127 : xlnk RL 127 yX4_served := Or.inl (xg_tab 550 (by decide +kernel) (by decide +kernel))
theorem xl_RL_130 : xlnk RL 130 yX5_served := Or.inl (xg_tab 941 (by decide +kernel) (by decide +kernel))
theorem xl_RL_131 : xlnk RL 131 yX4_keep := Or.inl (xg_tab 558 (by decide +kernel) (by decide +kernel))
theorem xl_RL_134 : xlnk RL 134 yX5_keep := Or.inl (xg_tab 945 (by decide +kernel) (by decide +kernel))
theorem xl_RL_135 : xlnk RL 135 yX4_back := Or.inl (xg_tab 569 (by decide +kernel) (by decide +kernel))
theorem xl_RL_138 : xlnk RL 138 yX5_back := Or.inl (xg_tab 956 (by decide +kernel) (by decide +kernel))
theorem xl_RL_139 : xlnk RL 139 yX4_count := Or.inl (xg_tab 573 (by decide +kernel) (by decide +kernel))
theorem xl_RL_142 : xlnk RL 142 yX5_count := Or.inl (xg_tab 960 (by decide +kernel) (by decide +kernel))
theorem xl_RL_143 : xlnk RL 143 yX4_trace := Or.inl (xg_tab 577 (by decide +kernel) (by decide +kernel))
theorem xl_RL_146 : xlnk RL 146 yX5_trace := Or.inl (xg_tab 964 (by decide +kernel) (by decide +kernel))
theorem xl_RX5_107 : xlnk RX5 107 yX5_in := Or.inl (xg_tab 715 (by decide +kernel) (by decide +kernel))
theorem xl_RX5_122 : xlnk RX5 122 yX5_fault := Or.inl (xg_tab 727 (by decide +kernel) (by decide +kernel))
theorem xl_RX5_144 : xlnk RX5 144 yX5_isCell := Or.inl (xg_tab 735 (by decide +kernel) (by decide +kernel))
theorem xl_RX5_148 : xlnk RX5 148 yX5_isEnd := Or.inl (xg_tab 743 (by decide +kernel) (by decide +kernel))
theorem xl_RX5_151 : xlnk RX5 151 yX5_isFree := Or.inl (xg_tab 747 (by decide +kernel) (by decide +kernel))
theorem xl_RX5_156 : xlnk RX5 156 yX5_beside := Or.inl (xg_tab 760 (by decide +kernel) (by decide +kernel))
theorem xl_RX5_160 : xlnk RX5 160 yX5_seenFrom := Or.inl (xg_tab 756 (by decide +kernel) (by decide +kernel))
theorem xl_RX5_164 : xlnk RX5 164 yX5_carrierOn := Or.inl (xg_tab 772 (by decide +kernel) (by decide +kernel))
theorem xl_RX5_168 : xlnk RX5 168 yX5_lookAbout := Or.inl (xg_tab 776 (by decide +kernel) (by decide +kernel))
theorem xl_RX5_172 : xlnk RX5 172 yX5_isPerson := Or.inl (xg_tab 784 (by decide +kernel) (by decide +kernel))
theorem xl_RX5_175 : xlnk RX5 175 yX5_isCarrier := Or.inl (xg_tab 788 (by decide +kernel) (by decide +kernel))
theorem xl_RX5_182 : xlnk RX5 182 yX5_apart := Or.inl (xg_tab 810 (by decide +kernel) (by decide +kernel))
theorem xl_RX5_185 : xlnk RX5 185 yX5_spread := Or.inl (xg_tab 800 (by decide +kernel) (by decide +kernel))
theorem xl_RX5_189 : xlnk RX5 189 yX5_close := Or.inl (xg_tab 806 (by decide +kernel) (by decide +kernel))
theorem xl_RX5_192 : xlnk RX5 192 yX5_couldBe := Or.inl (xg_tab 796 (by decide +kernel) (by decide +kernel))
theorem xl_RX5_196 : xlnk RX5 196 yX5_seenCould := Or.inl (xg_tab 817 (by decide +kernel) (by decide +kernel))
theorem xl_RX5_200 : xlnk RX5 200 yX5_unseenCould := Or.inl (xg_tab 821 (by decide +kernel) (by decide +kernel))
theorem xl_RX5_203 : xlnk RX5 203 yX5_why := Or.inl (xg_tab 829 (by decide +kernel) (by decide +kernel))
theorem xl_RX5_206 : xlnk RX5 206 yX5_goOn := Or.inl (xg_tab 837 (by decide +kernel) (by decide +kernel))
theorem xl_RX5_225 : xlnk RX5 225 yX5_bitsIn := Or.inl (xg_tab 875 (by decide +kernel) (by decide +kernel))
theorem xl_RX5_229 : xlnk RX5 229 yX5_looks := Or.inl (xg_tab 882 (by decide +kernel) (by decide +kernel))
theorem xl_RX5_232 : xlnk RX5 232 yX5_stepped := Or.inl (xg_tab 890 (by decide +kernel) (by decide +kernel))
theorem xl_RX5_235 : xlnk RX5 235 yX5_unlikeLooks := Or.inl (xg_tab 902 (by decide +kernel) (by decide +kernel))
theorem xl_RX5_238 : xlnk RX5 238 yX5_steps := Or.inl (xg_tab 918 (by decide +kernel) (by decide +kernel))
theorem xl_RX5_241 : xlnk RX5 241 yX5_rowsOf := Or.inl (xg_tab 934 (by decide +kernel) (by decide +kernel))
theorem xl_RX5_244 : xlnk RX5 244 yX5_tellRow := Or.inl (xg_tab 930 (by decide +kernel) (by decide +kernel))
theorem xl_RX5_247 : xlnk RX5 247 yX5_lateOf := Or.inl (xg_tab 937 (by decide +kernel) (by decide +kernel))
theorem xl_RX5_250 : xlnk RX5 250 yX5_leastOf := Or.inl (xg_tab 926 (by decide +kernel) (by decide +kernel))
theorem xl_RX5_254 : xlnk RX5 254 yX5_measure := Or.inl (xg_tab 914 (by decide +kernel) (by decide +kernel))
theorem xl_RX5_258 : xlnk RX5 258 yX5_findLate := Or.inl (xg_tab 922 (by decide +kernel) (by decide +kernel))
theorem xl_RX5_261 : xlnk RX5 261 yX5_move := Or.inl (xg_tab 953 (by decide +kernel) (by decide +kernel))
theorem xl_RX5_265 : xlnk RX5 265 yX5_moveAll := Or.inl (xg_tab 949 (by decide +kernel) (by decide +kernel))
