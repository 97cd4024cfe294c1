/-! ===== the step function is what the machine does ===== -/
def xcOk (ci : Nat) : Prop := ∃ (C : String) (T : u_T) (N : Nat) (ty0 : Nat → FieldType), vwCl[ci]? = some (C, T, N) ∧ (∀ w ∈ u_ws C T N, w ∈ XG) ∧ (∀ k, k < N → parseFieldDescriptor (T k).2.2.1 = some (ty0 k)) ∧ (∀ a, a < N → ∀ b, b < N → a ≠ b → (T a).2.1 ≠ (T b).2.1)
theorem xg_all {ws : List Cond} (h : ws.all (fun w => decide (w ∈ tables_1) && goodWord w) = true) : ∀ w ∈ ws, w ∈ XG := by
  intro w hw
  have h1 := List.all_eq_true.mp h w hw
  simp only [Bool.and_eq_true, decide_eq_true_eq] at h1
  exact xg_in (List.mem_append_right _ h1.1) h1.2
theorem xu0 : ∀ w ∈ u_ws RX0 TX0 5, w ∈ XG := xg_all (by decide +kernel)
theorem xu1 : ∀ w ∈ u_ws RX1 TX1 6, w ∈ XG := xg_all (by decide +kernel)
theorem xu2 : ∀ w ∈ u_ws RX2 TX2 11, w ∈ XG := xg_all (by decide +kernel)
theorem xu3 : ∀ w ∈ u_ws RX3 TX3 11, w ∈ XG := xg_all (by decide +kernel)
theorem xu4 : ∀ w ∈ u_ws RX4 TX4 10, w ∈ XG := xg_all (by decide +kernel)
theorem xu5 : ∀ w ∈ u_ws RX5 TX5 40, w ∈ XG := xg_all (by decide +kernel)
theorem xc_all {ci : Nat} {q : vw_C} (h : vwCl[ci]? = some q) : xcOk ci := by
  match ci, h with
  | 0, h => exact ⟨_, _, _, tyX0, rfl, xu0, tyX0_ok, nmX0⟩
  | 1, h => exact ⟨_, _, _, tyX1, rfl, xu1, tyX1_ok, nmX1⟩
  | 2, h => exact ⟨_, _, _, tyX2, rfl, xu2, tyX2_ok, nmX2⟩
  | 3, h => exact ⟨_, _, _, tyX3, rfl, xu3, tyX3_ok, nmX3⟩
  | 4, h => exact ⟨_, _, _, tyX4, rfl, xu4, tyX4_ok, nmX4⟩
  | 5, h => exact ⟨_, _, _, tyX5, rfl, xu5, tyX5_ok, nmX5⟩
  | n + 6, h => simp [vwCl] at h
def xkind (T : u_T) (k : Nat) (v : Value) : Bool := match v with
  | .int _ => decide ((T k).2.2.1 = "I") && !(T k).2.2.2
  | .float _ => decide ((T k).2.2.1 = "Z") && !(T k).2.2.2
  | .long _ => decide ((T k).2.2.1 = "J") && !(T k).2.2.2
  | .ref _ => true
  | _ => false
def xshOk1 (q : xSh) : Bool := match q with
  | .inl (t, _, _) => decide (t < 5)
  | .inr (ci, tm) => match vwCl[ci]? with
    | some (_, T, N) => decide (tm.length = N) && (List.range N).all (fun k => match tm[k]? with
      | some v => xkind T k v
      | none => false)
    | none => false
theorem xshOk : xshL.all xshOk1 = true := by decide +kernel
theorem xsh_obj {r ci : Nat} {tm : List Value} (h : xsh r = some (.inr (ci, tm))) : ∃ (C : String) (T : u_T) (N : Nat), vwCl[ci]? = some (C, T, N) ∧ tm.length = N ∧ ∀ k v, tm[k]? = some v → k < N ∧ xkind T k v = true := by
  have h1 := List.all_eq_true.mp xshOk _ (List.mem_of_getElem? h)
  unfold xshOk1 at h1
  dsimp only at h1
  split at h1
  · next C T N hc =>
    simp only [Bool.and_eq_true, decide_eq_true_eq] at h1
    refine ⟨C, T, N, hc, h1.1, fun k v hv => ?_⟩
    have hk : k < N := by rw [← h1.1]; exact (List.getElem?_eq_some_iff.mp hv).1
    have h2 := List.all_eq_true.mp h1.2 k (List.mem_range.mpr hk)
    rw [hv] at h2
    exact ⟨hk, h2⟩
  · cases h1
theorem xsh_arr {r t n : Nat} {rs : List Nat} (h : xsh r = some (.inl (t, n, rs))) : t < 5 := by
  have h1 := List.all_eq_true.mp xshOk _ (List.mem_of_getElem? h)
  unfold xshOk1 at h1
  simpa using h1
def xpok (own : String) (P : XPool) : Prop := (∀ q ∈ P.1, ∀ (C : String) (T : u_T) (N : Nat), vwCl[q.2.1]? = some (C, T, N) → q.2.2.1 < N ∧ (if q.2.2.2 = true then Cond.fieldLinkNest own q.1 (T q.2.2.1).1 (T q.2.2.1).2.1 (T q.2.2.1).2.2.1 "HallCarrier" ∈ XN else Cond.fieldLink own q.1 (T q.2.2.1).1 (T q.2.2.1).2.1 (T q.2.2.1).2.2.1 ∈ XG)) ∧ (∀ q ∈ P.2.1, Cond.constant own q.1 q.2 ∈ XG) ∧ (∀ q ∈ P.2.2, Cond.constantLong own q.1 q.2 ∈ XG)
theorem xtm_inv {b r ci k : Nat} {v : Value} (h : xtm b r ci k = some v) : r < b ∧ ∃ tm, xsh r = some (.inr (ci, tm)) ∧ tm[k]? = some v := by
  unfold xtm at h
  split at h
  · next hr =>
    split at h
    · next c tm hs =>
      split at h
      · next e => subst e; exact ⟨hr, tm, hs, h⟩
      · cases h
    · cases h
  · cases h
theorem xar_inv {b r t n : Nat} (h : xar b r = some (t, n)) : r < b ∧ ∃ rs, xsh r = some (.inl (t, n, rs)) := by
  unfold xar at h
  split at h
  · next hr =>
    split at h
    · next t' n' rs hs => cases h; exact ⟨hr, rs, hs⟩
    · cases h
  · cases h
theorem xce_obj {cT : Nat → ClassId} {ad : Nat → Nat} {h : Hp} {r ci : Nat} {tm : List Value} (e : xsh r = some (.inr (ci, tm))) : xce cT ad h r = .inr (ci, tm.mapIdx (fun j v => xfv ad h r j v)) := by
  unfold xce; rw [e]
theorem xce_int {cT : Nat → ClassId} {ad : Nat → Nat} {h : Hp} {r t n : Nat} {rs : List Nat} (e : xsh r = some (.inl (t, n, rs))) (h1 : t ≠ 1) (h4 : t ≠ 4) : xce cT ad h r = .inl (cT t, n, .inl (h.1 r)) := by
  unfold xce; rw [e]; simp [h1, h4]
theorem xce_long {cT : Nat → ClassId} {ad : Nat → Nat} {h : Hp} {r n : Nat} {rs : List Nat} (e : xsh r = some (.inl (1, n, rs))) : xce cT ad h r = .inl (cT 1, n, .inr (.inl (h.2 r))) := by
  unfold xce; rw [e]; simp
theorem xce_refs {cT : Nat → ClassId} {ad : Nat → Nat} {h : Hp} {r n : Nat} {rs : List Nat} (e : xsh r = some (.inl (4, n, rs))) : xce cT ad h r = .inl (cT 4, n, .inr (.inr (.inr (.inr (fun j => (rs[j]?).map ad))))) := by
  unfold xce; rw [e]; simp
theorem xce_I_ne {cT : Nat → ClassId} {ad : Nat → Nat} (h : Hp) {c j : Nat} (i : Nat) (v : Int32) (e : j ≠ c) : xce cT ad (xI h c i v) j = xce cT ad h j := by
  have e1 := xI_ne h i v e
  have e2 : (xI h c i v).2 = h.2 := rfl
  have e3 : ∀ k w, xfv ad (xI h c i v) j k w = xfv ad h j k w := by
    intro k w; cases w <;> simp [xfv, e1, e2]
  unfold xce
  split <;> simp [e1, e2, e3]
theorem xce_L_ne {cT : Nat → ClassId} {ad : Nat → Nat} (h : Hp) {c j : Nat} (i : Nat) (v : Int64) (e : j ≠ c) : xce cT ad (xL h c i v) j = xce cT ad h j := by
  have e1 := xL_ne h i v e
  have e2 : (xL h c i v).1 = h.1 := rfl
  have e3 : ∀ k w, xfv ad (xL h c i v) j k w = xfv ad h j k w := by
    intro k w; cases w <;> simp [xfv, e1, e2]
  unfold xce
  split <;> simp [e1, e2, e3]
theorem xce_Cp_ne {cT : Nat → ClassId} {ad : Nat → Nat} (h : Hp) {c0 c1 j : Nat} (sp dp n : Nat) (e : j ≠ c1) : xce cT ad (xCp h c0 c1 sp dp n) j = xce cT ad h j := by
  have e1 := xCp_ne h (c0 := c0) sp dp n e
  have e2 : (xCp h c0 c1 sp dp n).2 = h.2 := rfl
  have e3 : ∀ k w, xfv ad (xCp h c0 c1 sp dp n) j k w = xfv ad h j k w := by
    intro k w; cases w <;> simp [xfv, e1, e2]
  unfold xce
  split <;> simp [e1, e2, e3]
theorem xfields_set {ad : Nat → Nat} {h h' : Hp} {r k : Nat} {tm : List Value} {v w : Value} (hk : tm[k]? = some w) (hv : xfv ad h' r k w = v) (ho : ∀ j u, j ≠ k → xfv ad h' r j u = xfv ad h r j u) : (tm.mapIdx (fun j v => xfv ad h r j v)).set k v = tm.mapIdx (fun j v => xfv ad h' r j v) := by
  apply List.ext_getElem?
  intro i
  by_cases hi : i = k
  · subst hi
    have hl : i < tm.length := (List.getElem?_eq_some_iff.mp hk).1
    rw [List.getElem?_set_self (by simpa using hl)]
    simp [hk, hv]
  · rw [List.getElem?_set_ne (Ne.symm hi)]
    simp only [List.getElem?_mapIdx]
    cases tm[i]? with
    | none => rfl
    | some u => simp [ho i u hi]
theorem xbip {n : Int} (h : -128 ≤ n ∧ n < 128) : (Int8.ofInt n).toInt32 = xic n := by
  rw [← xic_ok]
  apply Int32.toInt_inj.mp
  rw [Int8.toInt_toInt32, Int8.toInt_ofInt, Int32.toInt_ofInt, show Int8.size = 256 from rfl, show Int32.size = 4294967296 from rfl, Int.bmod_eq_of_le (by omega) (by omega), Int.bmod_eq_of_le (by omega) (by omega)]
theorem xsip {n : Int} (h : -32768 ≤ n ∧ n < 32768) : (Int16.ofInt n).toInt32 = xic n := by
  rw [← xic_ok]
  apply Int32.toInt_inj.mp
  rw [Int16.toInt_toInt32, Int16.toInt_ofInt, Int32.toInt_ofInt, show Int16.size = 65536 from rfl, show Int32.size = 4294967296 from rfl, Int.bmod_eq_of_le (by omega) (by omega), Int.bmod_eq_of_le (by omega) (by omega)]
def xkTy : Value → Option FieldType
  | .int _ => some .int
  | .float _ => some .boolean
  | .long _ => some .long
  | _ => none
theorem xkind_ty {T : u_T} {k : Nat} {t : Value} {ty : FieldType} (h : xkind T k t = true) (ht : xkTy t = some ty) : (T k).2.2.2 = false ∧ parseFieldDescriptor (T k).2.2.1 = some ty := by
  cases t <;> simp [xkTy] at ht
  all_goals
    subst ht
    simp only [xkind, Bool.and_eq_true, decide_eq_true_eq, Bool.not_eq_true'] at h
    refine ⟨h.2, ?_⟩
    rw [h.1]
    rfl
theorem xboolN {v : Int32} (h : xbool v = true) : narrow .boolean (.int v) = .int v := by
  simp only [xbool, Bool.or_eq_true, decide_eq_true_eq] at h
  rcases h with rfl | rfl <;> rfl
theorem xboolF {v : Int32} (h : xbool v = true) : fits .boolean (.int v) = true := by
  simp only [xbool, Bool.or_eq_true, decide_eq_true_eq] at h
  rcases h with rfl | rfl <;> rfl
section XSound
variable {p : Program} {l : Launch} {e : Env} {R : Room} {s : State} {m : MethodId} {args : Array Value} {below : List Frame} {meth : Method} {c : Code} {D : va_G} {cT : Nat → ClassId} {ad : Nat → Nat} {A : Nat → Prop} {Q : State → Prop} {n kc ks : Nat} {own : String} {cc : ByteArray} {P : XPool} {b : Nat} {H : Heap} {locs : List Loc} {la : Array Slot} {pc : Nat} {h : Hp} {H0 : Heap}
theorem xs1_get {q idx ci f : Nat} {nb : Bool} {t v : Value} {rest : List Value} (hx : p.tables.exec = Jvm.exec) (hb : c.code = cc) (hown : s.vm.findClass own = some m.cls) (hts : ∀ w ∈ XG, w.before args s = true) (hK : XK D cT s) (hP : va_P D vwCl (xwrl n cT ad h) H) (hbn : b ≤ n)
    (hp : ∀ q ∈ P.1, ∀ (C : String) (T : u_T) (N : Nat), vwCl[q.2.1]? = some (C, T, N) → q.2.2.1 < N ∧ (if q.2.2.2 = true then Cond.fieldLinkNest own q.1 (T q.2.2.1).1 (T q.2.2.1).2.1 (T q.2.2.1).2.2.1 "HallCarrier" ∈ XN else Cond.fieldLink own q.1 (T q.2.2.1).1 (T q.2.2.1).2.1 (T q.2.2.1).2.2.1 ∈ XG)) (hF : xpF P.1 idx = some (ci, f, nb)) (htm : xtm b q ci f = some t) (hv : xfv ad h q f t = v) (hd : decode cc pc = .ok (.getfield idx, 3))
    (kk : W p l e R s m args below meth c H locs kc ks Q (F0 m (pc + 3) la (v :: rest))) : W p l e R s m args below meth c H locs kc ks Q (F0 m pc la (.ref (ad q) :: rest)) := by
  obtain ⟨hr, tm, hsh, htk⟩ := xtm_inv htm
  obtain ⟨C, T, N, hc, hlen, hkk⟩ := xsh_obj hsh
  obtain ⟨C', T', N', ty0, hc', hu, hty, hnm⟩ := xc_all hc
  cases hc.symm.trans hc'
  obtain ⟨hkN, hlink⟩ := hp _ (xpF_mem hF) C T N hc
  have hq : q < n := Nat.lt_of_lt_of_le hr hbn
  have he : (xwrl n cT ad h)[q]? = some (ad q, .inr (ci, tm.mapIdx (fun j v => xfv ad h q j v))) := by rw [xwrl_get hq, xce_obj hsh]
  have hfv : (tm.mapIdx (fun j v => xfv ad h q j v))[f]? = some v := by simp [htk, hv]
  cases nb with
  | false => exact va_get hx hb hts hu hown hK.1 hP q he hc f hkN (hts _ (by simpa using hlink)) (fun _ h9 => h9) hfv hd kk
  | true => exact va_getN hx hb hts hu hown hK.1 hP q he hc f hkN (va_Nw.use rfl (hK.2 _ (by simpa using hlink))) (fun _ h9 => h9) hfv hd kk
theorem xs1_put {q idx ci f : Nat} {nb : Bool} {t v : Value} {ty : FieldType} {h' : Hp} {rest : List Value} (hx : p.tables.exec = Jvm.exec) (hb : c.code = cc) (hown : s.vm.findClass own = some m.cls) (hts : ∀ w ∈ XG, w.before args s = true) (hK : XK D cT s) (hP : va_P D vwCl (xwrl n cT ad h) H) (hD : va_D A (xwrl n cT ad h)) (hS : va_S A H0 H locs) (hbn : b ≤ n)
    (hp : ∀ q ∈ P.1, ∀ (C : String) (T : u_T) (N : Nat), vwCl[q.2.1]? = some (C, T, N) → q.2.2.1 < N ∧ (if q.2.2.2 = true then Cond.fieldLinkNest own q.1 (T q.2.2.1).1 (T q.2.2.1).2.1 (T q.2.2.1).2.2.1 "HallCarrier" ∈ XN else Cond.fieldLink own q.1 (T q.2.2.1).1 (T q.2.2.1).2.1 (T q.2.2.1).2.2.1 ∈ XG)) (hF : xpF P.1 idx = some (ci, f, nb)) (htm : xtm b q ci f = some t)
    (hkd2 : xkTy t = some ty) (hn : narrow ty v = v) (hf : fits ty v = true) (hv : xfv ad h' q f t = v) (ho : ∀ j u, j ≠ f → xfv ad h' q j u = xfv ad h q j u) (hother : ∀ j, j ≠ q → xce cT ad h' j = xce cT ad h j) (hd : decode cc pc = .ok (.putfield idx, 3))
    (kk : ∀ (H1 : Heap) (locs1 : List Loc), va_P D vwCl (xwrl n cT ad h') H1 → va_S A H0 H1 locs1 → W p l e R s m args below meth c H1 locs1 kc ks Q (F0 m (pc + 3) la rest)) : W p l e R s m args below meth c H locs kc ks Q (F0 m pc la (v :: .ref (ad q) :: rest)) := by
  obtain ⟨hr, tm, hsh, htk⟩ := xtm_inv htm
  obtain ⟨C, T, N, hc, hlen, hkk⟩ := xsh_obj hsh
  obtain ⟨C', T', N', ty0, hc', hu, hty, hnm⟩ := xc_all hc
  cases hc.symm.trans hc'
  obtain ⟨hkN, hlink⟩ := hp _ (xpF_mem hF) C T N hc
  have hq : q < n := Nat.lt_of_lt_of_le hr hbn
  have he : (xwrl n cT ad h)[q]? = some (ad q, .inr (ci, tm.mapIdx (fun j v => xfv ad h q j v))) := by rw [xwrl_get hq, xce_obj hsh]
  obtain ⟨hfin, hdd⟩ := xkind_ty (hkk f t htk).2 hkd2
  have hset : (xwrl n cT ad h).set q (ad q, .inr (ci, (tm.mapIdx (fun j v => xfv ad h q j v)).set f v)) = xwrl n cT ad h' := by
    rw [xfields_set htk hv ho]
    exact xwrl_set hq (xce_obj hsh) hother
  have hl : f < (tm.mapIdx (fun j v => xfv ad h q j v)).length := by simpa using (List.getElem?_eq_some_iff.mp htk).1
  cases nb with
  | false =>
    refine va_put hx hb hts hu ty0 hty hnm hown hK.1 hP hD hS q he hc f hkN (hts _ (by simpa using hlink)) (fun _ h9 => h9) hfin hdd hn hf hl hd fun H1 locs1 hP1 _ hS1 => ?_
    rw [hset] at hP1
    exact kk H1 locs1 hP1 hS1
  | true =>
    refine va_putN hx hb hts hu ty0 hty hnm hown hK.1 hP hD hS q he hc f hkN (va_Nw.use rfl (hK.2 _ (by simpa using hlink))) (fun _ h9 => h9) hfin hdd hn hf hl hd fun H1 locs1 hP1 _ hS1 => ?_
    rw [hset] at hP1
    exact kk H1 locs1 hP1 hS1
end XSound
set_option maxHeartbeats 4000000 in
theorem xs1_ok {X : XCtx} {own : String} {cc : ByteArray} {nL d b : Nat} {P : XPool} {pc : Nat} {i : Instr} {ls ls' : List (Nat × Value)} {st st' : List Value} {h h' : Hp} {g g' : Bool} (hX : XOk X own cc nL d b) (hp : xpok own P) (hd : decode cc pc = .ok (i, xlen i)) (hs : xs1 P b nL i (ls, st, h, g) = some (ls', st', h', g')) (hg : g' = true) :
    g = true ∧ (XW X (pc + xlen i) ls' st' h' → XW X pc ls st h) := by
  obtain ⟨p, l, e, R, s, m, args, below, meth, c, D, cT, ad, A, Q, n, kc, ks⟩ := X
  obtain ⟨hx, hb, hml, hown, hts, hK, hA, hadr, hbn, hn66, hfr, hlo, hkc, hks⟩ := hX
  subst hml
  cases i with
  | iadd =>
    unfold xs1 at hs; dsimp only at hs
    split at hs
    · cases hs; exact ⟨hg, fun k H locs la hP hS hl => lv_iadd hx hb hd (k H locs la hP hS hl)⟩
    · cases hs
  | isub =>
    unfold xs1 at hs; dsimp only at hs
    split at hs
    · cases hs; exact ⟨hg, fun k H locs la hP hS hl => lv_isub hx hb hd (k H locs la hP hS hl)⟩
    · cases hs
  | imul =>
    unfold xs1 at hs; dsimp only at hs
    split at hs
    · cases hs; exact ⟨hg, fun k H locs la hP hS hl => lv_imul hx hb hd (k H locs la hP hS hl)⟩
    · cases hs
  | iand =>
    unfold xs1 at hs; dsimp only at hs
    split at hs
    · cases hs; exact ⟨hg, fun k H locs la hP hS hl => lv_iand hx hb hd (k H locs la hP hS hl)⟩
    · cases hs
  | ior =>
    unfold xs1 at hs; dsimp only at hs
    split at hs
    · cases hs; exact ⟨hg, fun k H locs la hP hS hl => lv_ior hx hb hd (k H locs la hP hS hl)⟩
    · cases hs
  | ixor =>
    unfold xs1 at hs; dsimp only at hs
    split at hs
    · cases hs; exact ⟨hg, fun k H locs la hP hS hl => lv_ixor hx hb hd (k H locs la hP hS hl)⟩
    · cases hs
  | ladd =>
    unfold xs1 at hs; dsimp only at hs
    split at hs
    · cases hs; exact ⟨hg, fun k H locs la hP hS hl => lv_ladd hx hb hd (k H locs la hP hS hl)⟩
    · cases hs
  | lsub =>
    unfold xs1 at hs; dsimp only at hs
    split at hs
    · cases hs; exact ⟨hg, fun k H locs la hP hS hl => lv_lsub hx hb hd (k H locs la hP hS hl)⟩
    · cases hs
  | lmul =>
    unfold xs1 at hs; dsimp only at hs
    split at hs
    · cases hs; exact ⟨hg, fun k H locs la hP hS hl => lv_lmul hx hb hd (k H locs la hP hS hl)⟩
    · cases hs
  | land =>
    unfold xs1 at hs; dsimp only at hs
    split at hs
    · cases hs; exact ⟨hg, fun k H locs la hP hS hl => lv_land hx hb hd (k H locs la hP hS hl)⟩
    · cases hs
  | lor =>
    unfold xs1 at hs; dsimp only at hs
    split at hs
    · cases hs; exact ⟨hg, fun k H locs la hP hS hl => lv_lor hx hb hd (k H locs la hP hS hl)⟩
    · cases hs
  | lxor =>
    unfold xs1 at hs; dsimp only at hs
    split at hs
    · cases hs; exact ⟨hg, fun k H locs la hP hS hl => lv_lxor hx hb hd (k H locs la hP hS hl)⟩
    · cases hs
  | ineg =>
    unfold xs1 at hs; dsimp only at hs
    split at hs
    · cases hs; exact ⟨hg, fun k H locs la hP hS hl => lv_ineg hx hb hd (k H locs la hP hS hl)⟩
    · cases hs
  | ishl =>
    unfold xs1 at hs; dsimp only at hs
    split at hs
    · cases hs; exact ⟨hg, fun k H locs la hP hS hl => lv_ishl hx hb hd (k H locs la hP hS hl)⟩
    · cases hs
  | ishr =>
    unfold xs1 at hs; dsimp only at hs
    split at hs
    · cases hs; exact ⟨hg, fun k H locs la hP hS hl => lv_ishr hx hb hd (k H locs la hP hS hl)⟩
    · cases hs
  | iushr =>
    unfold xs1 at hs; dsimp only at hs
    split at hs
    · cases hs; exact ⟨hg, fun k H locs la hP hS hl => lv_iushr hx hb hd rfl (k H locs la hP hS hl)⟩
    · cases hs
  | lushr =>
    unfold xs1 at hs; dsimp only at hs
    split at hs
    · cases hs; exact ⟨hg, fun k H locs la hP hS hl => lv_lushr hx hb hd rfl (k H locs la hP hS hl)⟩
    · cases hs
  | lshl =>
    unfold xs1 at hs; dsimp only at hs
    split at hs
    · cases hs; exact ⟨hg, fun k H locs la hP hS hl => lv_lshl hx hb hd rfl (k H locs la hP hS hl)⟩
    · cases hs
  | lshr =>
    unfold xs1 at hs; dsimp only at hs
    split at hs
    · cases hs; exact ⟨hg, fun k H locs la hP hS hl => lv_lshr hx hb hd rfl (k H locs la hP hS hl)⟩
    · cases hs
  | i2l =>
    unfold xs1 at hs; dsimp only at hs
    split at hs
    · cases hs; exact ⟨hg, fun k H locs la hP hS hl => lv_i2l hx hb hd rfl (k H locs la hP hS hl)⟩
    · cases hs
  | l2i =>
    unfold xs1 at hs; dsimp only at hs
    split at hs
    · cases hs; exact ⟨hg, fun k H locs la hP hS hl => lv_l2i hx hb hd rfl (k H locs la hP hS hl)⟩
    · cases hs
  | i2b =>
    unfold xs1 at hs; dsimp only at hs
    split at hs
    · cases hs; exact ⟨hg, fun k H locs la hP hS hl => lv_i2b hx hb hd rfl (k H locs la hP hS hl)⟩
    · cases hs
  | lcmp =>
    unfold xs1 at hs; dsimp only at hs
    split at hs
    · cases hs; exact ⟨hg, fun k H locs la hP hS hl => W.lcmp hx hb hd (k H locs la hP hS hl)⟩
    · cases hs
  | idiv =>
    unfold xs1 at hs; dsimp only at hs
    split at hs
    · cases hs
      simp only [Bool.and_eq_true] at hg
      exact ⟨hg.2, fun k H locs la hP hS hl => lv_idiv hx hb hd (by simpa [xnz] using hg.1) (k H locs la hP hS hl)⟩
    · cases hs
  | irem =>
    unfold xs1 at hs; dsimp only at hs
    split at hs
    · cases hs
      simp only [Bool.and_eq_true] at hg
      exact ⟨hg.2, fun k H locs la hP hS hl => lv_irem hx hb hd (by simpa [xnz] using hg.1) (k H locs la hP hS hl)⟩
    · cases hs
  | iconst v =>
    unfold xs1 at hs; dsimp only at hs
    cases hs; exact ⟨hg, fun k H locs la hP hS hl => lv_iconst hx hb hd (xic_ok v) (k H locs la hP hS hl)⟩
  | bipush v =>
    unfold xs1 at hs; dsimp only at hs
    split at hs
    · next hv => cases hs; exact ⟨hg, fun k H locs la hP hS hl => lv_bipush hx hb hd (xbip hv) (k H locs la hP hS hl)⟩
    · cases hs
  | sipush v =>
    unfold xs1 at hs; dsimp only at hs
    split at hs
    · next hv => cases hs; exact ⟨hg, fun k H locs la hP hS hl => lv_sipush hx hb hd (xsip hv) (k H locs la hP hS hl)⟩
    · cases hs
  | lconst v =>
    unfold xs1 at hs; dsimp only at hs
    cases hs; exact ⟨hg, fun k H locs la hP hS hl => lv_lconst hx hb hd (by match v with
      | 0 => rfl
      | 1 => rfl) (k H locs la hP hS hl)⟩
  | ldc v =>
    unfold xs1 at hs; dsimp only at hs
    split at hs
    · next c0 hv => cases hs; exact ⟨hg, fun k H locs la hP hS hl => lv_ldc hx hb hown (hts _ (hp.2.1 _ (xpC_mem hv))) hd (k H locs la hP hS hl)⟩
    · cases hs
  | ldc2_w v =>
    unfold xs1 at hs; dsimp only at hs
    split at hs
    · next c0 hv => cases hs; exact ⟨hg, fun k H locs la hP hS hl => lv_ldc2 hx hb hown (hts _ (hp.2.2 _ (xpC_mem hv))) hd (k H locs la hP hS hl)⟩
    · cases hs
  | iload v =>
    unfold xs1 at hs; dsimp only at hs
    split at hs
    · next c0 hv => cases hs; exact ⟨hg, fun k H locs la hP hS hl => lv_iload hx hb hd (xlk_at hl hv) (k H locs la hP hS hl)⟩
    · cases hs
  | iload_n v =>
    unfold xs1 at hs; dsimp only at hs
    split at hs
    · next c0 hv => cases hs; exact ⟨hg, fun k H locs la hP hS hl => lv_iload_n hx hb hd rfl (xlk_at hl hv) (k H locs la hP hS hl)⟩
    · cases hs
  | lload v =>
    unfold xs1 at hs; dsimp only at hs
    split at hs
    · next c0 hv => cases hs; exact ⟨hg, fun k H locs la hP hS hl => lv_lload hx hb hd (xlk_at hl hv) (k H locs la hP hS hl)⟩
    · cases hs
  | lload_n v =>
    unfold xs1 at hs; dsimp only at hs
    split at hs
    · next c0 hv => cases hs; exact ⟨hg, fun k H locs la hP hS hl => lv_lload_n hx hb hd rfl (xlk_at hl hv) (k H locs la hP hS hl)⟩
    · cases hs
  | aload v =>
    unfold xs1 at hs; dsimp only at hs
    split at hs
    · next c0 hv => cases hs; exact ⟨hg, fun k H locs la hP hS hl => lv_aload hx hb hd (xlk_at hl hv) (k H locs la hP hS hl)⟩
    · cases hs
  | aload_n v =>
    unfold xs1 at hs; dsimp only at hs
    split at hs
    · next c0 hv => cases hs; exact ⟨hg, fun k H locs la hP hS hl => lv_aload_n hx hb hd rfl (xlk_at hl hv) (k H locs la hP hS hl)⟩
    · cases hs
  | istore v =>
    unfold xs1 at hs; dsimp only at hs
    split at hs
    · split at hs
      · next hv => cases hs; exact ⟨hg, fun k H locs la hP hS hl => lv_istore hx hb hd hl hv (xcl_st1 ad ls _ (.int _)) (fun la hl => k H locs la hP hS hl)⟩
      · cases hs
    · cases hs
  | istore_n v =>
    unfold xs1 at hs; dsimp only at hs
    split at hs
    · split at hs
      · next hv => cases hs; exact ⟨hg, fun k H locs la hP hS hl => lv_istore_n hx hb hd rfl hl hv (xcl_st1 ad ls _ (.int _)) (fun la hl => k H locs la hP hS hl)⟩
      · cases hs
    · cases hs
  | lstore v =>
    unfold xs1 at hs; dsimp only at hs
    split at hs
    · split at hs
      · next hv => cases hs; exact ⟨hg, fun k H locs la hP hS hl => lv_lstore hx hb hd hl hv (xcl_st2 ad ls _ (.long _)) (fun la hl => k H locs la hP hS hl)⟩
      · cases hs
    · cases hs
  | lstore_n v =>
    unfold xs1 at hs; dsimp only at hs
    split at hs
    · split at hs
      · next hv => cases hs; exact ⟨hg, fun k H locs la hP hS hl => lv_lstore_n hx hb hd rfl hl hv (xcl_st2 ad ls _ (.long _)) (fun la hl => k H locs la hP hS hl)⟩
      · cases hs
    · cases hs
  | iinc v w =>
    unfold xs1 at hs; dsimp only at hs
    split at hs
    · next x hv =>
      split at hs
      · next hn =>
        cases hs
        refine ⟨hg, fun k H locs la hP hS hl => ?_⟩
        obtain ⟨j, hj⟩ := List.getElem?_of_mem (xlk_mem hv)
        have hj2 : (xcl ad ls)[j]? = some (v, .int x) := by simp [xcl, hj, xcv]
        exact lv_iinc hx hb hd hl hj2 (by rw [xic_ok]) hn (xcl_st1 ad ls _ (.int _)) (fun la hl => k H locs la hP hS hl)
      · cases hs
    · cases hs
  | dup =>
    unfold xs1 at hs; dsimp only at hs
    split at hs
    · cases hs; exact ⟨hg, fun k H locs la hP hS hl => lv_dup hx hb hd rfl (k H locs la hP hS hl)⟩
    · cases hs; exact ⟨hg, fun k H locs la hP hS hl => lv_dup hx hb hd rfl (k H locs la hP hS hl)⟩
    · cases hs
  | pop =>
    unfold xs1 at hs; dsimp only at hs
    split at hs
    · cases hs; exact ⟨hg, fun k H locs la hP hS hl => lv_pop hx hb hd rfl (k H locs la hP hS hl)⟩
    · cases hs; exact ⟨hg, fun k H locs la hP hS hl => lv_pop hx hb hd rfl (k H locs la hP hS hl)⟩
    · cases hs
  | dup2 =>
    unfold xs1 at hs; dsimp only at hs
    split at hs
    · cases hs; exact ⟨hg, fun k H locs la hP hS hl => lv_dup2_2 hx hb hd rfl (k H locs la hP hS hl)⟩
    · cases hs; exact ⟨hg, fun k H locs la hP hS hl => lv_dup2_11 hx hb hd rfl rfl (k H locs la hP hS hl)⟩
    · cases hs
  | arraylength =>
    unfold xs1 at hs; dsimp only at hs
    split at hs
    · next q r =>
      split at hs
      · next t0 n0 ha =>
        cases hs
        refine ⟨hg, fun k H locs la hP hS hl => ?_⟩
        obtain ⟨hr, rs, hsh⟩ := xar_inv ha
        have hq : q < n := Nat.lt_of_lt_of_le hr hbn
        have ht5 := xsh_arr hsh
        have hty : (xtys cT)[t0]? = some (cT t0, xty t0) := by
          match t0, ht5 with
          | 0, _ => rfl
          | 1, _ => rfl
          | 2, _ => rfl
          | 3, _ => rfl
          | 4, _ => rfl
        exact va_alen (a := ad q) (x := (n0, if t0 = 1 then .inr (.inl (h.2 q)) else if t0 = 4 then .inr (.inr (.inr (.inr (fun j => (rs[j]?).map ad)))) else .inl (h.1 q))) hx hb hK.1 hP q t0 (by rw [xwrl_get hq]; unfold xce; rw [hsh]) hty rfl hd (k H locs la hP hS hl)
      · cases hs
    · cases hs
  | iaload =>
    unfold xs1 at hs; dsimp only at hs
    split at hs
    · next j q r =>
      split at hs
      · next n0 ha =>
        cases hs
        simp only [Bool.and_eq_true] at hg
        refine ⟨hg.2, fun k H locs la hP hS hl => ?_⟩
        obtain ⟨hr, rs, hsh⟩ := xar_inv ha
        have hq : q < n := Nat.lt_of_lt_of_le hr hbn
        exact va_iald (a := ad q) hx hb hK.1 hP q 0 (by rw [xwrl_get hq, xce_int hsh (by decide) (by decide)]) rfl (xin_vp hg.1) hd (k H locs la hP hS hl)
      · cases hs
    · cases hs
  | laload =>
    unfold xs1 at hs; dsimp only at hs
    split at hs
    · next j q r =>
      split at hs
      · next n0 ha =>
        cases hs
        simp only [Bool.and_eq_true] at hg
        refine ⟨hg.2, fun k H locs la hP hS hl => ?_⟩
        obtain ⟨hr, rs, hsh⟩ := xar_inv ha
        have hq : q < n := Nat.lt_of_lt_of_le hr hbn
        exact va_lald (a := ad q) hx hb hK.1 hP q 1 (by rw [xwrl_get hq, xce_long hsh]) rfl (xin_vp hg.1) hd (k H locs la hP hS hl)
      · cases hs
    · cases hs
  | baload =>
    unfold xs1 at hs; dsimp only at hs
    split at hs
    · next j q r =>
      split at hs
      · next n0 ha =>
        cases hs
        simp only [Bool.and_eq_true] at hg
        refine ⟨hg.2, fun k H locs la hP hS hl => ?_⟩
        obtain ⟨hr, rs, hsh⟩ := xar_inv ha
        have hq : q < n := Nat.lt_of_lt_of_le hr hbn
        exact va_bald (a := ad q) hx hb hK.1 hP q 2 (by rw [xwrl_get hq, xce_int hsh (by decide) (by decide)]) rfl (xin_vp hg.1) hd (k H locs la hP hS hl)
      · next n0 ha =>
        cases hs
        simp only [Bool.and_eq_true] at hg
        refine ⟨hg.2, fun k H locs la hP hS hl => ?_⟩
        obtain ⟨hr, rs, hsh⟩ := xar_inv ha
        have hq : q < n := Nat.lt_of_lt_of_le hr hbn
        exact va_zald (a := ad q) hx hb hK.1 hP q 3 (by rw [xwrl_get hq, xce_int hsh (by decide) (by decide)]) rfl (xin_vp hg.1) hd (k H locs la hP hS hl)
      · cases hs
    · cases hs
  | iastore =>
    unfold xs1 at hs; dsimp only at hs
    split at hs
    · next v j q r =>
      split at hs
      · next n0 ha =>
        cases hs
        simp only [Bool.and_eq_true] at hg
        refine ⟨hg.2, fun k H locs la hP hS hl => ?_⟩
        obtain ⟨hr, rs, hsh⟩ := xar_inv ha
        have hq : q < n := Nat.lt_of_lt_of_le hr hbn
        refine va_iast (a := ad q) hx hb hK.1 hP (xad_D hadr h) hS q 0 (by rw [xwrl_get hq, xce_int hsh (by decide) (by decide)]) rfl (xin_vp hg.1) hd (fun H1 locs1 hP1 _ hS1 => k H1 locs1 la ?_ hS1 hl)
        rw [xwrl_set (h' := xI h q j.toNatClampNeg v) hq (by rw [xce_int hsh (by decide) (by decide), xI_self]) (fun j0 e0 => xce_I_ne h _ _ e0)] at hP1
        exact hP1
      · cases hs
    · cases hs
  | lastore =>
    unfold xs1 at hs; dsimp only at hs
    split at hs
    · next v j q r =>
      split at hs
      · next n0 ha =>
        cases hs
        simp only [Bool.and_eq_true] at hg
        refine ⟨hg.2, fun k H locs la hP hS hl => ?_⟩
        obtain ⟨hr, rs, hsh⟩ := xar_inv ha
        have hq : q < n := Nat.lt_of_lt_of_le hr hbn
        refine va_last (a := ad q) hx hb hK.1 hP (xad_D hadr h) hS q 1 (by rw [xwrl_get hq, xce_long hsh]) rfl (xin_vp hg.1) hd (fun H1 locs1 hP1 _ hS1 => k H1 locs1 la ?_ hS1 hl)
        rw [xwrl_set (h' := xL h q j.toNatClampNeg v) hq (by rw [xce_long hsh, xL_self]) (fun j0 e0 => xce_L_ne h _ _ e0)] at hP1
        exact hP1
      · cases hs
    · cases hs
  | bastore =>
    unfold xs1 at hs; dsimp only at hs
    split at hs
    · next v j q r =>
      split at hs
      · next n0 ha =>
        cases hs
        simp only [Bool.and_eq_true] at hg
        refine ⟨hg.2, fun k H locs la hP hS hl => ?_⟩
        obtain ⟨hr, rs, hsh⟩ := xar_inv ha
        have hq : q < n := Nat.lt_of_lt_of_le hr hbn
        refine va_bast (a := ad q) hx hb hK.1 hP (xad_D hadr h) hS q 2 (by rw [xwrl_get hq, xce_int hsh (by decide) (by decide)]) rfl (xin_vp hg.1) hd (fun H1 locs1 hP1 _ hS1 => k H1 locs1 la ?_ hS1 hl)
        rw [xwrl_set (h' := xI h q j.toNatClampNeg (vp_nar .byte v)) hq (by rw [xce_int hsh (by decide) (by decide), xI_self]) (fun j0 e0 => xce_I_ne h _ _ e0)] at hP1
        exact hP1
      · next n0 ha =>
        cases hs
        simp only [Bool.and_eq_true] at hg
        refine ⟨hg.2, fun k H locs la hP hS hl => ?_⟩
        obtain ⟨hr, rs, hsh⟩ := xar_inv ha
        have hq : q < n := Nat.lt_of_lt_of_le hr hbn
        refine va_zast (a := ad q) hx hb hK.1 hP (xad_D hadr h) hS q 3 (by rw [xwrl_get hq, xce_int hsh (by decide) (by decide)]) rfl (xin_vp hg.1) hd (fun H1 locs1 hP1 _ hS1 => k H1 locs1 la ?_ hS1 hl)
        rw [xwrl_set (h' := xI h q j.toNatClampNeg (vp_nar .boolean v)) hq (by rw [xce_int hsh (by decide) (by decide), xI_self]) (fun j0 e0 => xce_I_ne h _ _ e0)] at hP1
        exact hP1
      · cases hs
    · cases hs
  | getfield idx =>
    unfold xs1 at hs; dsimp only at hs
    split at hs
    · next q r =>
      split at hs
      · next ci f nb hF =>
        split at hs
        · next t0 htm =>
          cases hs
          refine ⟨hg, fun k H locs la hP hS hl => xs1_get (v := .int (h.1 q f)) hx hb hown hts hK hP hbn hp.1 hF htm rfl hd (k H locs la hP hS hl)⟩
        · next t0 htm =>
          cases hs
          refine ⟨hg, fun k H locs la hP hS hl => xs1_get (v := .int (h.1 q f)) hx hb hown hts hK hP hbn hp.1 hF htm rfl hd (k H locs la hP hS hl)⟩
        · next t0 htm =>
          cases hs
          refine ⟨hg, fun k H locs la hP hS hl => xs1_get (v := .long (h.2 q f)) hx hb hown hts hK hP hbn hp.1 hF htm rfl hd (k H locs la hP hS hl)⟩
        · next t0 htm =>
          cases hs
          refine ⟨hg, fun k H locs la hP hS hl => xs1_get (v := .ref (ad t0)) hx hb hown hts hK hP hbn hp.1 hF htm rfl hd (k H locs la hP hS hl)⟩
        · cases hs
      · cases hs
    · cases hs
  | putfield idx =>
    unfold xs1 at hs; dsimp only at hs
    split at hs
    · next v q r =>
      split at hs
      · next ci f nb hF =>
        split at hs
        · next t0 htm =>
          cases hs
          exact ⟨hg, fun k H locs la hP hS hl => xs1_put (h' := xI h q f v) (v := .int v) (ty := .int) hx hb hown hts hK hP (xad_D hadr h) hS hbn hp.1 hF htm rfl rfl rfl (by simp [xfv, xI]) (fun j u e0 => by cases u <;> simp [xfv, xI, e0]) (fun j0 e0 => xce_I_ne h _ _ e0) hd (fun H1 locs1 hP1 hS1 => k H1 locs1 la hP1 hS1 hl)⟩
        · next t0 htm =>
          cases hs
          simp only [Bool.and_eq_true] at hg
          exact ⟨hg.2, fun k H locs la hP hS hl => xs1_put (h' := xI h q f v) (v := .int v) (ty := .boolean) hx hb hown hts hK hP (xad_D hadr h) hS hbn hp.1 hF htm rfl (xboolN hg.1) (xboolF hg.1) (by simp [xfv, xI]) (fun j u e0 => by cases u <;> simp [xfv, xI, e0]) (fun j0 e0 => xce_I_ne h _ _ e0) hd (fun H1 locs1 hP1 hS1 => k H1 locs1 la hP1 hS1 hl)⟩
        · cases hs
      · cases hs
    · next v q r =>
      split at hs
      · next ci f nb hF =>
        split at hs
        · next t0 htm =>
          cases hs
          exact ⟨hg, fun k H locs la hP hS hl => xs1_put (h' := xL h q f v) (v := .long v) (ty := .long) hx hb hown hts hK hP (xad_D hadr h) hS hbn hp.1 hF htm rfl rfl rfl (by simp [xfv, xL]) (fun j u e0 => by cases u <;> simp [xfv, xL, e0]) (fun j0 e0 => xce_L_ne h _ _ e0) hd (fun H1 locs1 hP1 hS1 => k H1 locs1 la hP1 hS1 hl)⟩
        · cases hs
      · cases hs
    · cases hs
  | _ => unfold xs1 at hs; cases hs
theorem xblk_ok {X : XCtx} {own : String} {cc : ByteArray} {nL d b : Nat} {P : XPool} (hX : XOk X own cc nL d b) (hp : xpok own P) : ∀ (is : List Instr) (pc : Nat) (ls ls' : List (Nat × Value)) (st st' : List Value) (h h' : Hp) (g g' : Bool), xdec cc pc is = true → xblk P b nL is (ls, st, h, g) = some (ls', st', h', g') → g' = true →
    g = true ∧ (XW X (xend pc is) ls' st' h' → XW X pc ls st h)
  | [], pc, ls, ls', st, st', h, h', g, g', _, hs, hg => by
    cases hs; exact ⟨hg, fun k => k⟩
  | i :: is, pc, ls, ls', st, st', h, h', g, g', hd, hs, hg => by
    simp only [xdec, Bool.and_eq_true, decide_eq_true_eq] at hd
    unfold xblk at hs
    split at hs
    · next s1 h1 =>
      obtain ⟨ls1, st1, hh1, g1⟩ := s1
      obtain ⟨a1, a2⟩ := xblk_ok hX hp is (pc + xlen i) ls1 ls' st1 st' hh1 h' g1 g' hd.2 hs hg
      obtain ⟨b1, b2⟩ := xs1_ok hX hp hd.1 h1 a1
      exact ⟨b1, fun k => b2 (a2 k)⟩
    · cases hs
/-- a stretch of code without jumps and calls -/
theorem Xblk {X : XCtx} {own : String} {cc : ByteArray} {nL d b : Nat} {P : XPool} (hX : XOk X own cc nL d b) (hp : xpok own P) {pc pc' : Nat} (is : List Instr) {ls ls' : List (Nat × Value)} {st st' : List Value} {h h' : Hp} {g : Bool} (hd : xdec cc pc is = true) (he : xend pc is = pc') (hs : xblk P b nL is (ls, st, h, true) = some (ls', st', h', g)) (hg : g = true) (k : XW X pc' ls' st' h') : XW X pc ls st h := by
  subst he
  exact (xblk_ok hX hp is pc ls ls' st st' h h' true g hd hs hg).2 k
