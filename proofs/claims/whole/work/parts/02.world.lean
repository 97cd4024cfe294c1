/-! ===== the world of this claim as two functions; a step function over it ===== -/
def xNest : Cond → Bool
  | .fieldLinkNest _ _ _ _ _ _ => true
  | .methodLinkNest _ _ _ _ => true
  | _ => false
def XG : List Cond := lw_tbl.filter goodWord
def XN : List Cond := lw_tbl.filter xNest
theorem xg_in {w : Cond} (h : w ∈ lw_tbl) (g : goodWord w = true) : w ∈ XG := List.mem_filter.mpr ⟨h, g⟩
theorem xg_tab {w : Cond} (i : Nat) (h : tables_1[i]? = some w) (g : goodWord w = true) : w ∈ XG := xg_in (List.mem_append_right _ (List.mem_of_getElem? h)) g
theorem xn_tab {w : Cond} (i : Nat) (h : tables_1[i]? = some w) (g : xNest w = true) : w ∈ XN := List.mem_filter.mpr ⟨List.mem_append_right _ (List.mem_of_getElem? h), g⟩
theorem xg_prv {y : MethodName} {n : Nat} (i : Nat) (h : lw_privs[i]? = some (y, n)) (g : goodWord (Cond.selects y.cls y y) = true) : Cond.selects y.cls y y ∈ XG :=
  xg_in (List.mem_append_left _ (List.mem_map.mpr ⟨_, List.mem_of_getElem? h, rfl⟩)) g
theorem xg_good {w : Cond} (h : w ∈ XG) : (w.onTables && w.keeps) = true ∨ ∃ ty, w = .arrayClass ty := good_of_word (List.mem_filter.mp h).2
theorem xg_goodIn {w1 w2 : Cond} (h : w2 ∈ XG) : GoodIn (w1 :: XG) (w2 :: XG) := by
  intro w hw
  rcases List.mem_cons.mp hw with rfl | hw
  · exact ⟨List.mem_cons_of_mem _ h, xg_good h⟩
  · exact ⟨List.mem_cons_of_mem _ hw, xg_good hw⟩
theorem xg_goodIn0 {w2 : Cond} (h : w2 ∈ XG) : GoodIn XG (w2 :: XG) := by
  intro w hw
  rcases List.mem_cons.mp hw with rfl | hw
  · exact ⟨h, xg_good h⟩
  · exact ⟨hw, xg_good hw⟩
/-- the mutable state: of each cell its int places and its long places -/
abbrev Hp : Type := (Nat → Nat → Int32) × (Nat → Nat → Int64)
def xI (h : Hp) (c j : Nat) (v : Int32) : Hp := (fun a b => if a = c ∧ b = j then v else h.1 a b, h.2)
def xL (h : Hp) (c j : Nat) (v : Int64) : Hp := (h.1, fun a b => if a = c ∧ b = j then v else h.2 a b)
def xCp (h : Hp) (c0 c1 sp dp n : Nat) : Hp := (fun a b => if a = c1 then va_cpy (h.1 c0) (h.1 c1) sp dp n b else h.1 a b, h.2)
theorem xI_self (h : Hp) (c j : Nat) (v : Int32) : (xI h c j v).1 c = upd (h.1 c) j v := by
  funext b; simp [xI, upd]
theorem xI_ne (h : Hp) {c k : Nat} (j : Nat) (v : Int32) (e : k ≠ c) : (xI h c j v).1 k = h.1 k := by
  funext b; simp [xI, e]
theorem xL_self (h : Hp) (c j : Nat) (v : Int64) : (xL h c j v).2 c = vp_updL (h.2 c) j v := by
  funext b; simp [xL, vp_updL]
theorem xL_ne (h : Hp) {c k : Nat} (j : Nat) (v : Int64) (e : k ≠ c) : (xL h c j v).2 k = h.2 k := by
  funext b; simp [xL, e]
theorem xCp_self (h : Hp) (c0 c1 sp dp n : Nat) : (xCp h c0 c1 sp dp n).1 c1 = va_cpy (h.1 c0) (h.1 c1) sp dp n := by
  funext b; simp [xCp]
theorem xCp_ne (h : Hp) {c0 c1 k : Nat} (sp dp n : Nat) (e : k ≠ c1) : (xCp h c0 c1 sp dp n).1 k = h.1 k := by
  funext b; simp [xCp, e]
/-- what never changes of a cell: an array's kind (0 int, 1 long, 2 byte, 3 boolean, 4 of references), length, references; an object's class and, of each field, its kind (.int int, .float boolean, .long long, .ref its cell) -/
abbrev xSh : Type := (Nat × Nat × List Nat) ⊕ (Nat × List Value)
def xshL : List xSh := [
  .inr (4, [.ref 1, .int 0, .ref 2, .ref 6, .ref 13, .ref 28, .ref 30, .ref 38, .long 0, .long 0]),
  .inl (0, 80, []),
  .inr (1, [.ref 3, .ref 4, .ref 5, .int 0, .long 0, .long 0]),
  .inl (0, 64, []),
  .inl (0, 8, []),
  .inl (1, 10, []),
  .inr (3, [.ref 7, .ref 8, .ref 9, .ref 10, .ref 11, .ref 12, .int 0, .int 0, .int 0, .int 0, .float 0]),
  .inl (0, 6, []),
  .inl (0, 6, []),
  .inl (0, 2, []),
  .inl (0, 2, []),
  .inl (0, 128, []),
  .inl (0, 500, []),
  .inl (4, 2, [14, 21]),
  .inr (3, [.ref 15, .ref 16, .ref 17, .ref 18, .ref 19, .ref 20, .int 0, .int 0, .int 0, .int 0, .float 0]),
  .inl (0, 6, []),
  .inl (0, 6, []),
  .inl (0, 2, []),
  .inl (0, 2, []),
  .inl (0, 128, []),
  .inl (0, 500, []),
  .inr (3, [.ref 22, .ref 23, .ref 24, .ref 25, .ref 26, .ref 27, .int 0, .int 0, .int 0, .int 0, .float 0]),
  .inl (0, 6, []),
  .inl (0, 6, []),
  .inl (0, 2, []),
  .inl (0, 2, []),
  .inl (0, 128, []),
  .inl (0, 500, []),
  .inr (0, [.ref 29, .long 0, .long 0, .long 0, .long 0]),
  .inl (1, 4, []),
  .inr (2, [.ref 31, .ref 32, .ref 33, .ref 34, .ref 35, .ref 36, .ref 37, .int 0, .int 0, .float 0, .float 0]),
  .inl (0, 6, []),
  .inl (0, 6, []),
  .inl (0, 6, []),
  .inl (0, 48, []),
  .inl (0, 128, []),
  .inl (0, 128, []),
  .inl (0, 2, []),
  .inl (1, 5, []),
  .inr (5, [.long 0, .ref 40, .int 0, .int 0, .int 0, .ref 41, .ref 42, .int 0, .long 0, .long 0, .int 0, .int 0, .int 0, .ref 43, .ref 44, .int 0, .ref 45, .ref 46, .ref 47, .int 0, .int 0, .ref 48, .ref 49, .ref 50, .ref 51, .int 0, .ref 52, .ref 53, .ref 54, .ref 55, .ref 56, .ref 57, .ref 58, .ref 59, .ref 60, .ref 61, .ref 62, .ref 63, .ref 64, .ref 65]),
  .inl (2, 80, []),
  .inl (0, 64, []),
  .inl (0, 8, []),
  .inl (0, 18, []),
  .inl (0, 18, []),
  .inl (0, 6, []),
  .inl (0, 6, []),
  .inl (0, 384, []),
  .inl (0, 1500, []),
  .inl (1, 21, []),
  .inl (1, 21, []),
  .inl (3, 160, []),
  .inl (0, 6, []),
  .inl (0, 6, []),
  .inl (0, 6, []),
  .inl (0, 48, []),
  .inl (0, 6, []),
  .inl (0, 6, []),
  .inl (0, 12, []),
  .inl (0, 2, []),
  .inl (0, 6, []),
  .inl (3, 2, []),
  .inl (0, 2, []),
  .inl (0, 2, []),
  .inl (0, 2, []),
  .inl (0, 2, [])]
theorem xshL_len : xshL.length = 66 := by decide
abbrev xN : Nat := 66
def xsh (k : Nat) : Option xSh := xshL[k]?
def xcv (ad : Nat → Nat) : Value → Value
  | .ref r => .ref (ad r)
  | v => v
def xfv (ad : Nat → Nat) (h : Hp) (k j : Nat) : Value → Value
  | .int _ => .int (h.1 k j)
  | .float _ => .int (h.1 k j)
  | .long _ => .long (h.2 k j)
  | .ref r => .ref (ad r)
  | v => v
def xce (cT : Nat → ClassId) (ad : Nat → Nat) (h : Hp) (k : Nat) : va_E := match xsh k with
  | some (.inl (t, n, rs)) => .inl (cT t, n, if t = 1 then .inr (.inl (h.2 k)) else if t = 4 then .inr (.inr (.inr (.inr (fun j => (rs[j]?).map ad)))) else .inl (h.1 k))
  | some (.inr (ci, tm)) => .inr (ci, tm.mapIdx (fun j v => xfv ad h k j v))
  | none => .inr (0, [])
def xwrl (n : Nat) (cT : Nat → ClassId) (ad : Nat → Nat) (h : Hp) : va_W := (List.range n).map (fun k => (ad k, xce cT ad h k))
theorem xwrl_get {n : Nat} {cT : Nat → ClassId} {ad : Nat → Nat} {h : Hp} {k : Nat} (hk : k < n) : (xwrl n cT ad h)[k]? = some (ad k, xce cT ad h k) := by
  simp [xwrl, hk]
theorem xwrl_inv {n : Nat} {cT : Nat → ClassId} {ad : Nat → Nat} {h : Hp} {k : Nat} {q : Nat × va_E} (e : (xwrl n cT ad h)[k]? = some q) : k < n ∧ q = (ad k, xce cT ad h k) := by
  have hk : k < n := by
    have := (List.getElem?_eq_some_iff.mp e).1
    simpa [xwrl] using this
  rw [xwrl_get hk] at e
  exact ⟨hk, (Option.some.inj e).symm⟩
theorem xwrl_set {n : Nat} {cT : Nat → ClassId} {ad : Nat → Nat} {h h' : Hp} {k : Nat} {x : va_E} (hk : k < n) (he : xce cT ad h' k = x) (ho : ∀ j, j ≠ k → xce cT ad h' j = xce cT ad h j) : (xwrl n cT ad h).set k (ad k, x) = xwrl n cT ad h' := by
  apply List.ext_getElem?
  intro i
  by_cases hi : i = k
  · subst hi
    rw [List.getElem?_set_self (by simpa [xwrl] using hk), xwrl_get hk, he]
  · rw [List.getElem?_set_ne (Ne.symm hi)]
    by_cases hin : i < n
    · rw [xwrl_get hin, xwrl_get hin, ho i hi]
    · rw [List.getElem?_eq_none (by simpa [xwrl] using hin), List.getElem?_eq_none (by simpa [xwrl] using hin)]
/-- addresses apart, of a kind -/
def xad (n : Nat) (ad : Nat → Nat) (A : Nat → Prop) : Prop := (∀ i j, i < n → j < n → ad i = ad j → i = j) ∧ ∀ k, k < n → A (ad k)
theorem xad_D {n : Nat} {cT : Nat → ClassId} {ad : Nat → Nat} {A : Nat → Prop} (hA : xad n ad A) (h : Hp) : va_D A (xwrl n cT ad h) := by
  refine ⟨fun i j p q hi hj e => ?_, fun k q hk => ?_⟩
  · obtain ⟨a1, rfl⟩ := xwrl_inv hi
    obtain ⟨a2, rfl⟩ := xwrl_inv hj
    exact hA.1 i j a1 a2 e
  · obtain ⟨a1, rfl⟩ := xwrl_inv hk
    exact hA.2 k a1
theorem xad_of_D {n : Nat} {cT : Nat → ClassId} {ad : Nat → Nat} {A : Nat → Prop} {h : Hp} (hD : va_D A (xwrl n cT ad h)) : xad n ad A :=
  ⟨fun i j hi hj e => hD.1 i j _ _ (xwrl_get hi) (xwrl_get hj) e, fun k hk => hD.2 k _ (xwrl_get hk)⟩
theorem xA_iff {n : Nat} {cT : Nat → ClassId} {ad : Nat → Nat} {h h' : Hp} {sz : Nat} : va_A (xwrl n cT ad h) sz = va_A (xwrl n cT ad h') sz := by
  funext q
  apply propext
  constructor
  · rintro (⟨k, x, hk⟩ | hq)
    · obtain ⟨a1, a2⟩ := xwrl_inv hk
      exact Or.inl ⟨k, xce cT ad h' k, by rw [xwrl_get a1, (Prod.mk.inj a2).1]⟩
    · exact Or.inr hq
  · rintro (⟨k, x, hk⟩ | hq)
    · obtain ⟨a1, a2⟩ := xwrl_inv hk
      exact Or.inl ⟨k, xce cT ad h k, by rw [xwrl_get a1, (Prod.mk.inj a2).1]⟩
    · exact Or.inr hq
def xty : Nat → FieldType
  | 0 => .int
  | 1 => .long
  | 2 => .byte
  | 3 => .boolean
  | _ => .object "HallCarrier$Scene"
def xtys (cT : Nat → ClassId) : List (ClassId × FieldType) := [(cT 0, .int), (cT 1, .long), (cT 2, .byte), (cT 3, .boolean), (cT 4, .object "HallCarrier$Scene")]
def XK (D : va_G) (cT : Nat → ClassId) (U : State) : Prop := va_K D vwCl (xtys cT) U ∧ ∀ w ∈ XN, va_Nw w U
theorem xn_tables {w : Cond} (h : w ∈ XN) : w.onTables = true := by
  have := (List.mem_filter.mp h).2
  cases w <;> first | rfl | (simp [xNest] at this)
theorem XK.warm {D : va_G} {cT : Nat → ClassId} {s U : State} (hW : s.WarmedH U.vm) (h : XK D cT s) : XK D cT U := by
  refine ⟨va_K.moved hW.alike h.1, fun w hw => ?_⟩
  have h1 := h.2 w hw
  have h2 := (List.mem_filter.mp hw).2
  cases w <;> first | exact va_Nw.warmF hW h1 | exact va_Nw.warmM hW h1 | (simp [xNest] at h2)
theorem XK.same {D : va_G} {cT : Nat → ClassId} {u U : State} (e : u.vm = U.vm) (h : XK D cT u) : XK D cT U :=
  ⟨va_K.moved (e ▸ Vm.Alike.refl u.vm) h.1, fun w hw => va_Nw.same (xn_tables hw) e (h.2 w hw)⟩
theorem XK.back {D : va_G} {cT : Nat → ClassId} {s t : State} (hvm : s.vm.Alike t.vm) (hs : XK D cT s) : va_K D vwCl (xtys cT) s := hs.1
