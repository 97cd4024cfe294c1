/-! ===== the constructors ===== -/
theorem yo_i : Cond.instanceMethod objectInit ∈ XG := xg_tab 17 (by decide +kernel) (by decide +kernel)
theorem yo_c : Cond.code objectInit ⟨#[0xb1]⟩ 1 none ∈ XG := xg_tab 18 (by decide +kernel) (by decide +kernel)
def yeq (a b : Option YS) : Bool := match a, b with
  | some (l1, s1, c1, k1, q1), some (l2, s2, c2, k2, q2) => decide (l1 = l2) && (decide (s1 = s2) && (decide (c1 = c2) && (decide (k1 = k2) && decide (q1 = q2))))
  | _, _ => false
theorem yeq_of {a b : Option YS} (h : yeq a b = true) : a = b := by
  match a, b, h with
  | some (l1, s1, c1, k1, q1), some (l2, s2, c2, k2, q2), h =>
    simp only [yeq, Bool.and_eq_true, decide_eq_true_eq] at h
    obtain ⟨rfl, rfl, rfl, rfl, rfl⟩ := h
    rfl
  | none, _, h => simp [yeq] at h
  | some _, none, h => simp [yeq] at h
def leq (a b : List xSh) : Bool := decide (a = b)
theorem leq_of {a b : List xSh} (h : leq a b = true) : a = b := of_decide_eq_true h
theorem YW.cs {X : XCtx} {po : Nat} {hh : Hp} {o pc : Nat} {ls : List (Nat × Value)} {st : List Value} {cs cs' : List xSh} {kc ks : Nat} (h : cs = cs') (k : YW X po hh o pc ls st cs' kc ks) : YW X po hh o pc ls st cs kc ks := h ▸ k
theorem yown_of {own : String} {P : XPool} (h : P.1.all (fun q => q.2.2.2 || decide ((vwCl[q.2.1]?).map (fun r => r.1) = some own)) = true) : ∀ q ∈ P.1, q.2.2.2 = false → ∀ (K : String) (T : u_T) (N : Nat), vwCl[q.2.1]? = some (K, T, N) → K = own := by
  intro q hq hb K T N hc
  have := List.all_eq_true.mp h q hq
  rw [hb, hc] at this
  simpa using this
theorem ypok_of {own : String} {C : YPool} (h : C.all (fun q => match vwCl[q.2]? with
    | some (K, _, N) => decide (Cond.classLink own q.1 K ∈ tables_1) && (goodWord (Cond.classLink own q.1 K) && (decide (Cond.instantiable K N ∈ tables_1) && (goodWord (Cond.instantiable K N) && (decide (Cond.initialized K ∈ tables_1) && goodWord (Cond.initialized K)))))
    | none => false) = true) : ypok own C := by
  intro q hq K T N hc
  have := List.all_eq_true.mp h q hq
  rw [hc] at this
  simp only [Bool.and_eq_true, decide_eq_true_eq] at this
  obtain ⟨a, b, c, d, e, f⟩ := this
  exact ⟨xg_in (List.mem_append_right _ a) b, xg_in (List.mem_append_right _ c) d, xg_in (List.mem_append_right _ e) f⟩
theorem xl_RX4_51 : xlnk RX4 51 yX4_type := Or.inl (xg_tab 174 (by decide +kernel) (by decide +kernel))
def ycs_0 : List xSh := [.inr (1, [.null, .null, .null, .int 0, .long 0, .long 0])]
def ycs_1 : List xSh := [.inr (1, [.ref 3, .ref 4, .ref 5, .int 0, .long 0, .long 0]), .inl (0, 64, []), .inl (0, 8, []), .inl (1, 10, [])]
def ycs_2 : List xSh := [.inr (3, [.null, .null, .null, .null, .null, .null, .int 0, .int 0, .int 0, .int 0, .int 0])]
def ycs_3 : List xSh := [.inr (3, [.ref 7, .ref 8, .ref 9, .ref 10, .ref 11, .ref 12, .int 0, .int 0, .int 0, .int 0, .int 0]), .inl (0, 6, []), .inl (0, 6, []), .inl (0, 2, []), .inl (0, 2, []), .inl (0, 128, []), .inl (0, 500, [])]
def ycs_4 : List xSh := [.inr (3, [.ref 15, .ref 16, .ref 17, .ref 18, .ref 19, .ref 20, .int 0, .int 0, .int 0, .int 0, .int 0]), .inl (0, 6, []), .inl (0, 6, []), .inl (0, 2, []), .inl (0, 2, []), .inl (0, 128, []), .inl (0, 500, [])]
def ycs_5 : List xSh := [.inr (3, [.ref 22, .ref 23, .ref 24, .ref 25, .ref 26, .ref 27, .int 0, .int 0, .int 0, .int 0, .int 0]), .inl (0, 6, []), .inl (0, 6, []), .inl (0, 2, []), .inl (0, 2, []), .inl (0, 128, []), .inl (0, 500, [])]
def ycs_6 : List xSh := [.inr (0, [.null, .long 0, .long 0, .long 0, .long 0])]
def ycs_7 : List xSh := [.inr (0, [.ref 29, .long 0, .long 0, .long 0, .long 0]), .inl (1, 4, [])]
def ycs_8 : List xSh := [.inr (2, [.null, .null, .null, .null, .null, .null, .null, .int 0, .int 0, .int 0, .int 0])]
def ycs_9 : List xSh := [.inr (2, [.ref 31, .ref 32, .ref 33, .ref 34, .ref 35, .ref 36, .ref 37, .int 0, .int 0, .int 0, .int 0]), .inl (0, 6, []), .inl (0, 6, []), .inl (0, 6, []), .inl (0, 48, []), .inl (0, 128, []), .inl (0, 128, []), .inl (0, 2, [])]
def ycs_10 : List xSh := [.inr (4, [.null, .int 0, .null, .null, .null, .null, .null, .null, .long 0, .long 0])]
def ycs_11 : List xSh := [.inr (4, [.ref 1, .int 0, .null, .null, .null, .null, .null, .null, .long 0, .long 0]), .inl (0, 80, []), .inr (1, [.null, .null, .null, .int 0, .long 0, .long 0])]
def ycs_12 : List xSh := [.inr (4, [.ref 1, .int 0, .null, .null, .null, .null, .null, .null, .long 0, .long 0]), .inl (0, 80, [])]
def ycs_13 : List xSh := [.inr (4, [.ref 1, .int 0, .null, .null, .null, .null, .null, .null, .long 0, .long 0]), .inl (0, 80, []), .inr (1, [.ref 3, .ref 4, .ref 5, .int 0, .long 0, .long 0]), .inl (0, 64, []), .inl (0, 8, []), .inl (1, 10, [])]
def ycs_14 : List xSh := [.inr (4, [.ref 1, .int 0, .ref 2, .null, .null, .null, .null, .null, .long 0, .long 0]), .inl (0, 80, []), .inr (1, [.ref 3, .ref 4, .ref 5, .int 0, .long 0, .long 0]), .inl (0, 64, []), .inl (0, 8, []), .inl (1, 10, []), .inr (3, [.null, .null, .null, .null, .null, .null, .int 0, .int 0, .int 0, .int 0, .int 0])]
def ycs_15 : List xSh := [.inr (4, [.ref 1, .int 0, .ref 2, .null, .null, .null, .null, .null, .long 0, .long 0]), .inl (0, 80, []), .inr (1, [.ref 3, .ref 4, .ref 5, .int 0, .long 0, .long 0]), .inl (0, 64, []), .inl (0, 8, []), .inl (1, 10, [])]
def ycs_16 : List xSh := [.inr (4, [.ref 1, .int 0, .ref 2, .null, .null, .null, .null, .null, .long 0, .long 0]), .inl (0, 80, []), .inr (1, [.ref 3, .ref 4, .ref 5, .int 0, .long 0, .long 0]), .inl (0, 64, []), .inl (0, 8, []), .inl (1, 10, []), .inr (3, [.ref 7, .ref 8, .ref 9, .ref 10, .ref 11, .ref 12, .int 0, .int 0, .int 0, .int 0, .int 0]), .inl (0, 6, []), .inl (0, 6, []), .inl (0, 2, []), .inl (0, 2, []), .inl (0, 128, []), .inl (0, 500, [])]
def ycs_17 : List xSh := [.inr (4, [.ref 1, .int 0, .ref 2, .ref 6, .null, .null, .null, .null, .long 0, .long 0]), .inl (0, 80, []), .inr (1, [.ref 3, .ref 4, .ref 5, .int 0, .long 0, .long 0]), .inl (0, 64, []), .inl (0, 8, []), .inl (1, 10, []), .inr (3, [.ref 7, .ref 8, .ref 9, .ref 10, .ref 11, .ref 12, .int 0, .int 0, .int 0, .int 0, .int 0]), .inl (0, 6, []), .inl (0, 6, []), .inl (0, 2, []), .inl (0, 2, []), .inl (0, 128, []), .inl (0, 500, []), .inl (4, 2, []), .inr (3, [.null, .null, .null, .null, .null, .null, .int 0, .int 0, .int 0, .int 0, .int 0])]
def ycs_18 : List xSh := [.inr (4, [.ref 1, .int 0, .ref 2, .ref 6, .null, .null, .null, .null, .long 0, .long 0]), .inl (0, 80, []), .inr (1, [.ref 3, .ref 4, .ref 5, .int 0, .long 0, .long 0]), .inl (0, 64, []), .inl (0, 8, []), .inl (1, 10, []), .inr (3, [.ref 7, .ref 8, .ref 9, .ref 10, .ref 11, .ref 12, .int 0, .int 0, .int 0, .int 0, .int 0]), .inl (0, 6, []), .inl (0, 6, []), .inl (0, 2, []), .inl (0, 2, []), .inl (0, 128, []), .inl (0, 500, []), .inl (4, 2, [])]
def ycs_19 : List xSh := [.inr (4, [.ref 1, .int 0, .ref 2, .ref 6, .null, .null, .null, .null, .long 0, .long 0]), .inl (0, 80, []), .inr (1, [.ref 3, .ref 4, .ref 5, .int 0, .long 0, .long 0]), .inl (0, 64, []), .inl (0, 8, []), .inl (1, 10, []), .inr (3, [.ref 7, .ref 8, .ref 9, .ref 10, .ref 11, .ref 12, .int 0, .int 0, .int 0, .int 0, .int 0]), .inl (0, 6, []), .inl (0, 6, []), .inl (0, 2, []), .inl (0, 2, []), .inl (0, 128, []), .inl (0, 500, []), .inl (4, 2, []), .inr (3, [.ref 15, .ref 16, .ref 17, .ref 18, .ref 19, .ref 20, .int 0, .int 0, .int 0, .int 0, .int 0]), .inl (0, 6, []), .inl (0, 6, []), .inl (0, 2, []), .inl (0, 2, []), .inl (0, 128, []), .inl (0, 500, [])]
def ycs_20 : List xSh := [.inr (4, [.ref 1, .int 0, .ref 2, .ref 6, .null, .null, .null, .null, .long 0, .long 0]), .inl (0, 80, []), .inr (1, [.ref 3, .ref 4, .ref 5, .int 0, .long 0, .long 0]), .inl (0, 64, []), .inl (0, 8, []), .inl (1, 10, []), .inr (3, [.ref 7, .ref 8, .ref 9, .ref 10, .ref 11, .ref 12, .int 0, .int 0, .int 0, .int 0, .int 0]), .inl (0, 6, []), .inl (0, 6, []), .inl (0, 2, []), .inl (0, 2, []), .inl (0, 128, []), .inl (0, 500, []), .inl (4, 2, [14]), .inr (3, [.ref 15, .ref 16, .ref 17, .ref 18, .ref 19, .ref 20, .int 0, .int 0, .int 0, .int 0, .int 0]), .inl (0, 6, []), .inl (0, 6, []), .inl (0, 2, []), .inl (0, 2, []), .inl (0, 128, []), .inl (0, 500, []), .inr (3, [.null, .null, .null, .null, .null, .null, .int 0, .int 0, .int 0, .int 0, .int 0])]
def ycs_21 : List xSh := [.inr (4, [.ref 1, .int 0, .ref 2, .ref 6, .null, .null, .null, .null, .long 0, .long 0]), .inl (0, 80, []), .inr (1, [.ref 3, .ref 4, .ref 5, .int 0, .long 0, .long 0]), .inl (0, 64, []), .inl (0, 8, []), .inl (1, 10, []), .inr (3, [.ref 7, .ref 8, .ref 9, .ref 10, .ref 11, .ref 12, .int 0, .int 0, .int 0, .int 0, .int 0]), .inl (0, 6, []), .inl (0, 6, []), .inl (0, 2, []), .inl (0, 2, []), .inl (0, 128, []), .inl (0, 500, []), .inl (4, 2, [14]), .inr (3, [.ref 15, .ref 16, .ref 17, .ref 18, .ref 19, .ref 20, .int 0, .int 0, .int 0, .int 0, .int 0]), .inl (0, 6, []), .inl (0, 6, []), .inl (0, 2, []), .inl (0, 2, []), .inl (0, 128, []), .inl (0, 500, [])]
def ycs_22 : List xSh := [.inr (4, [.ref 1, .int 0, .ref 2, .ref 6, .null, .null, .null, .null, .long 0, .long 0]), .inl (0, 80, []), .inr (1, [.ref 3, .ref 4, .ref 5, .int 0, .long 0, .long 0]), .inl (0, 64, []), .inl (0, 8, []), .inl (1, 10, []), .inr (3, [.ref 7, .ref 8, .ref 9, .ref 10, .ref 11, .ref 12, .int 0, .int 0, .int 0, .int 0, .int 0]), .inl (0, 6, []), .inl (0, 6, []), .inl (0, 2, []), .inl (0, 2, []), .inl (0, 128, []), .inl (0, 500, []), .inl (4, 2, [14]), .inr (3, [.ref 15, .ref 16, .ref 17, .ref 18, .ref 19, .ref 20, .int 0, .int 0, .int 0, .int 0, .int 0]), .inl (0, 6, []), .inl (0, 6, []), .inl (0, 2, []), .inl (0, 2, []), .inl (0, 128, []), .inl (0, 500, []), .inr (3, [.ref 22, .ref 23, .ref 24, .ref 25, .ref 26, .ref 27, .int 0, .int 0, .int 0, .int 0, .int 0]), .inl (0, 6, []), .inl (0, 6, []), .inl (0, 2, []), .inl (0, 2, []), .inl (0, 128, []), .inl (0, 500, [])]
def ycs_23 : List xSh := [.inr (4, [.ref 1, .int 0, .ref 2, .ref 6, .ref 13, .null, .null, .null, .long 0, .long 0]), .inl (0, 80, []), .inr (1, [.ref 3, .ref 4, .ref 5, .int 0, .long 0, .long 0]), .inl (0, 64, []), .inl (0, 8, []), .inl (1, 10, []), .inr (3, [.ref 7, .ref 8, .ref 9, .ref 10, .ref 11, .ref 12, .int 0, .int 0, .int 0, .int 0, .int 0]), .inl (0, 6, []), .inl (0, 6, []), .inl (0, 2, []), .inl (0, 2, []), .inl (0, 128, []), .inl (0, 500, []), .inl (4, 2, [14, 21]), .inr (3, [.ref 15, .ref 16, .ref 17, .ref 18, .ref 19, .ref 20, .int 0, .int 0, .int 0, .int 0, .int 0]), .inl (0, 6, []), .inl (0, 6, []), .inl (0, 2, []), .inl (0, 2, []), .inl (0, 128, []), .inl (0, 500, []), .inr (3, [.ref 22, .ref 23, .ref 24, .ref 25, .ref 26, .ref 27, .int 0, .int 0, .int 0, .int 0, .int 0]), .inl (0, 6, []), .inl (0, 6, []), .inl (0, 2, []), .inl (0, 2, []), .inl (0, 128, []), .inl (0, 500, []), .inr (0, [.null, .long 0, .long 0, .long 0, .long 0])]
def ycs_24 : List xSh := [.inr (4, [.ref 1, .int 0, .ref 2, .ref 6, .ref 13, .null, .null, .null, .long 0, .long 0]), .inl (0, 80, []), .inr (1, [.ref 3, .ref 4, .ref 5, .int 0, .long 0, .long 0]), .inl (0, 64, []), .inl (0, 8, []), .inl (1, 10, []), .inr (3, [.ref 7, .ref 8, .ref 9, .ref 10, .ref 11, .ref 12, .int 0, .int 0, .int 0, .int 0, .int 0]), .inl (0, 6, []), .inl (0, 6, []), .inl (0, 2, []), .inl (0, 2, []), .inl (0, 128, []), .inl (0, 500, []), .inl (4, 2, [14, 21]), .inr (3, [.ref 15, .ref 16, .ref 17, .ref 18, .ref 19, .ref 20, .int 0, .int 0, .int 0, .int 0, .int 0]), .inl (0, 6, []), .inl (0, 6, []), .inl (0, 2, []), .inl (0, 2, []), .inl (0, 128, []), .inl (0, 500, []), .inr (3, [.ref 22, .ref 23, .ref 24, .ref 25, .ref 26, .ref 27, .int 0, .int 0, .int 0, .int 0, .int 0]), .inl (0, 6, []), .inl (0, 6, []), .inl (0, 2, []), .inl (0, 2, []), .inl (0, 128, []), .inl (0, 500, [])]
def ycs_25 : List xSh := [.inr (4, [.ref 1, .int 0, .ref 2, .ref 6, .ref 13, .null, .null, .null, .long 0, .long 0]), .inl (0, 80, []), .inr (1, [.ref 3, .ref 4, .ref 5, .int 0, .long 0, .long 0]), .inl (0, 64, []), .inl (0, 8, []), .inl (1, 10, []), .inr (3, [.ref 7, .ref 8, .ref 9, .ref 10, .ref 11, .ref 12, .int 0, .int 0, .int 0, .int 0, .int 0]), .inl (0, 6, []), .inl (0, 6, []), .inl (0, 2, []), .inl (0, 2, []), .inl (0, 128, []), .inl (0, 500, []), .inl (4, 2, [14, 21]), .inr (3, [.ref 15, .ref 16, .ref 17, .ref 18, .ref 19, .ref 20, .int 0, .int 0, .int 0, .int 0, .int 0]), .inl (0, 6, []), .inl (0, 6, []), .inl (0, 2, []), .inl (0, 2, []), .inl (0, 128, []), .inl (0, 500, []), .inr (3, [.ref 22, .ref 23, .ref 24, .ref 25, .ref 26, .ref 27, .int 0, .int 0, .int 0, .int 0, .int 0]), .inl (0, 6, []), .inl (0, 6, []), .inl (0, 2, []), .inl (0, 2, []), .inl (0, 128, []), .inl (0, 500, []), .inr (0, [.ref 29, .long 0, .long 0, .long 0, .long 0]), .inl (1, 4, [])]
def ycs_26 : List xSh := [.inr (4, [.ref 1, .int 0, .ref 2, .ref 6, .ref 13, .ref 28, .null, .null, .long 0, .long 0]), .inl (0, 80, []), .inr (1, [.ref 3, .ref 4, .ref 5, .int 0, .long 0, .long 0]), .inl (0, 64, []), .inl (0, 8, []), .inl (1, 10, []), .inr (3, [.ref 7, .ref 8, .ref 9, .ref 10, .ref 11, .ref 12, .int 0, .int 0, .int 0, .int 0, .int 0]), .inl (0, 6, []), .inl (0, 6, []), .inl (0, 2, []), .inl (0, 2, []), .inl (0, 128, []), .inl (0, 500, []), .inl (4, 2, [14, 21]), .inr (3, [.ref 15, .ref 16, .ref 17, .ref 18, .ref 19, .ref 20, .int 0, .int 0, .int 0, .int 0, .int 0]), .inl (0, 6, []), .inl (0, 6, []), .inl (0, 2, []), .inl (0, 2, []), .inl (0, 128, []), .inl (0, 500, []), .inr (3, [.ref 22, .ref 23, .ref 24, .ref 25, .ref 26, .ref 27, .int 0, .int 0, .int 0, .int 0, .int 0]), .inl (0, 6, []), .inl (0, 6, []), .inl (0, 2, []), .inl (0, 2, []), .inl (0, 128, []), .inl (0, 500, []), .inr (0, [.ref 29, .long 0, .long 0, .long 0, .long 0]), .inl (1, 4, []), .inr (2, [.null, .null, .null, .null, .null, .null, .null, .int 0, .int 0, .int 0, .int 0])]
def ycs_27 : List xSh := [.inr (4, [.ref 1, .int 0, .ref 2, .ref 6, .ref 13, .ref 28, .null, .null, .long 0, .long 0]), .inl (0, 80, []), .inr (1, [.ref 3, .ref 4, .ref 5, .int 0, .long 0, .long 0]), .inl (0, 64, []), .inl (0, 8, []), .inl (1, 10, []), .inr (3, [.ref 7, .ref 8, .ref 9, .ref 10, .ref 11, .ref 12, .int 0, .int 0, .int 0, .int 0, .int 0]), .inl (0, 6, []), .inl (0, 6, []), .inl (0, 2, []), .inl (0, 2, []), .inl (0, 128, []), .inl (0, 500, []), .inl (4, 2, [14, 21]), .inr (3, [.ref 15, .ref 16, .ref 17, .ref 18, .ref 19, .ref 20, .int 0, .int 0, .int 0, .int 0, .int 0]), .inl (0, 6, []), .inl (0, 6, []), .inl (0, 2, []), .inl (0, 2, []), .inl (0, 128, []), .inl (0, 500, []), .inr (3, [.ref 22, .ref 23, .ref 24, .ref 25, .ref 26, .ref 27, .int 0, .int 0, .int 0, .int 0, .int 0]), .inl (0, 6, []), .inl (0, 6, []), .inl (0, 2, []), .inl (0, 2, []), .inl (0, 128, []), .inl (0, 500, []), .inr (0, [.ref 29, .long 0, .long 0, .long 0, .long 0]), .inl (1, 4, [])]
def ycs_28 : List xSh := [.inr (4, [.ref 1, .int 0, .ref 2, .ref 6, .ref 13, .ref 28, .null, .null, .long 0, .long 0]), .inl (0, 80, []), .inr (1, [.ref 3, .ref 4, .ref 5, .int 0, .long 0, .long 0]), .inl (0, 64, []), .inl (0, 8, []), .inl (1, 10, []), .inr (3, [.ref 7, .ref 8, .ref 9, .ref 10, .ref 11, .ref 12, .int 0, .int 0, .int 0, .int 0, .int 0]), .inl (0, 6, []), .inl (0, 6, []), .inl (0, 2, []), .inl (0, 2, []), .inl (0, 128, []), .inl (0, 500, []), .inl (4, 2, [14, 21]), .inr (3, [.ref 15, .ref 16, .ref 17, .ref 18, .ref 19, .ref 20, .int 0, .int 0, .int 0, .int 0, .int 0]), .inl (0, 6, []), .inl (0, 6, []), .inl (0, 2, []), .inl (0, 2, []), .inl (0, 128, []), .inl (0, 500, []), .inr (3, [.ref 22, .ref 23, .ref 24, .ref 25, .ref 26, .ref 27, .int 0, .int 0, .int 0, .int 0, .int 0]), .inl (0, 6, []), .inl (0, 6, []), .inl (0, 2, []), .inl (0, 2, []), .inl (0, 128, []), .inl (0, 500, []), .inr (0, [.ref 29, .long 0, .long 0, .long 0, .long 0]), .inl (1, 4, []), .inr (2, [.ref 31, .ref 32, .ref 33, .ref 34, .ref 35, .ref 36, .ref 37, .int 0, .int 0, .int 0, .int 0]), .inl (0, 6, []), .inl (0, 6, []), .inl (0, 6, []), .inl (0, 48, []), .inl (0, 128, []), .inl (0, 128, []), .inl (0, 2, [])]
def ycs_29 : List xSh := [.inr (4, [.ref 1, .int 0, .ref 2, .ref 6, .ref 13, .ref 28, .ref 30, .ref 38, .long 0, .long 0]), .inl (0, 80, []), .inr (1, [.ref 3, .ref 4, .ref 5, .int 0, .long 0, .long 0]), .inl (0, 64, []), .inl (0, 8, []), .inl (1, 10, []), .inr (3, [.ref 7, .ref 8, .ref 9, .ref 10, .ref 11, .ref 12, .int 0, .int 0, .int 0, .int 0, .int 0]), .inl (0, 6, []), .inl (0, 6, []), .inl (0, 2, []), .inl (0, 2, []), .inl (0, 128, []), .inl (0, 500, []), .inl (4, 2, [14, 21]), .inr (3, [.ref 15, .ref 16, .ref 17, .ref 18, .ref 19, .ref 20, .int 0, .int 0, .int 0, .int 0, .int 0]), .inl (0, 6, []), .inl (0, 6, []), .inl (0, 2, []), .inl (0, 2, []), .inl (0, 128, []), .inl (0, 500, []), .inr (3, [.ref 22, .ref 23, .ref 24, .ref 25, .ref 26, .ref 27, .int 0, .int 0, .int 0, .int 0, .int 0]), .inl (0, 6, []), .inl (0, 6, []), .inl (0, 2, []), .inl (0, 2, []), .inl (0, 128, []), .inl (0, 500, []), .inr (0, [.ref 29, .long 0, .long 0, .long 0, .long 0]), .inl (1, 4, []), .inr (2, [.ref 31, .ref 32, .ref 33, .ref 34, .ref 35, .ref 36, .ref 37, .int 0, .int 0, .int 0, .int 0]), .inl (0, 6, []), .inl (0, 6, []), .inl (0, 6, []), .inl (0, 48, []), .inl (0, 128, []), .inl (0, 128, []), .inl (0, 2, []), .inl (1, 5, [])]
def ycs_30 : List xSh := [.inr (5, [.long 0, .null, .int 0, .int 0, .int 0, .null, .null, .int 0, .long 0, .long 0, .int 0, .int 0, .int 0, .null, .null, .int 0, .null, .null, .null, .int 0, .int 0, .null, .null, .null, .null, .int 0, .null, .null, .null, .null, .null, .null, .null, .null, .null, .null, .null, .null, .null, .null])]
def ycs_31 : List xSh := [.inr (5, [.long 0, .ref 40, .int 0, .int 0, .int 0, .ref 41, .ref 42, .int 0, .long 0, .long 0, .int 0, .int 0, .int 0, .ref 43, .ref 44, .int 0, .ref 45, .ref 46, .ref 47, .int 0, .int 0, .ref 48, .ref 49, .ref 50, .ref 51, .int 0, .ref 52, .ref 53, .ref 54, .ref 55, .ref 56, .ref 57, .ref 58, .ref 59, .ref 60, .ref 61, .ref 62, .ref 63, .ref 64, .ref 65]), .inl (2, 80, []), .inl (0, 64, []), .inl (0, 8, []), .inl (0, 18, []), .inl (0, 18, []), .inl (0, 6, []), .inl (0, 6, []), .inl (0, 384, []), .inl (0, 1500, []), .inl (1, 21, []), .inl (1, 21, []), .inl (3, 160, []), .inl (0, 6, []), .inl (0, 6, []), .inl (0, 6, []), .inl (0, 48, []), .inl (0, 6, []), .inl (0, 6, []), .inl (0, 12, []), .inl (0, 2, []), .inl (0, 6, []), .inl (3, 2, []), .inl (0, 2, []), .inl (0, 2, []), .inl (0, 2, []), .inl (0, 2, [])]
theorem yo_RX1 : Cond.methodLink RX1 3 objectInit ∈ XG := xg_tab 24 (by decide +kernel) (by decide +kernel)
theorem pkX1_own : ∀ q ∈ pkX1.1, q.2.2.2 = false → ∀ (K : String) (T : u_T) (N : Nat), vwCl[q.2.1]? = some (K, T, N) → K = RX1 := yown_of (by decide +kernel)
def ycX1 : YPool := []
theorem ycX1_ok : ypok RX1 ycX1 := ypok_of (by decide +kernel)
theorem yo_RX3 : Cond.methodLink RX3 3 objectInit ∈ XG := xg_tab 57 (by decide +kernel) (by decide +kernel)
theorem pkX3_own : ∀ q ∈ pkX3.1, q.2.2.2 = false → ∀ (K : String) (T : u_T) (N : Nat), vwCl[q.2.1]? = some (K, T, N) → K = RX3 := yown_of (by decide +kernel)
def ycX3 : YPool := []
theorem ycX3_ok : ypok RX3 ycX3 := ypok_of (by decide +kernel)
theorem yo_RX0 : Cond.methodLink RX0 3 objectInit ∈ XG := xg_tab 113 (by decide +kernel) (by decide +kernel)
theorem pkX0_own : ∀ q ∈ pkX0.1, q.2.2.2 = false → ∀ (K : String) (T : u_T) (N : Nat), vwCl[q.2.1]? = some (K, T, N) → K = RX0 := yown_of (by decide +kernel)
def ycX0 : YPool := []
theorem ycX0_ok : ypok RX0 ycX0 := ypok_of (by decide +kernel)
theorem yo_RX2 : Cond.methodLink RX2 3 objectInit ∈ XG := xg_tab 135 (by decide +kernel) (by decide +kernel)
theorem pkX2_own : ∀ q ∈ pkX2.1, q.2.2.2 = false → ∀ (K : String) (T : u_T) (N : Nat), vwCl[q.2.1]? = some (K, T, N) → K = RX2 := yown_of (by decide +kernel)
def ycX2 : YPool := []
theorem ycX2_ok : ypok RX2 ycX2 := ypok_of (by decide +kernel)
theorem yo_RX4 : Cond.methodLink RX4 3 objectInit ∈ XG := xg_tab 16 (by decide +kernel) (by decide +kernel)
theorem pkX4_own : ∀ q ∈ pkX4.1, q.2.2.2 = false → ∀ (K : String) (T : u_T) (N : Nat), vwCl[q.2.1]? = some (K, T, N) → K = RX4 := yown_of (by decide +kernel)
def ycX4 : YPool := [(13, 1), (20, 3), (31, 0), (38, 2)]
theorem ycX4_ok : ypok RX4 ycX4 := ypok_of (by decide +kernel)
theorem yo_RX5 : Cond.methodLink RX5 1 objectInit ∈ XG := xg_tab 586 (by decide +kernel) (by decide +kernel)
theorem pkX5_own : ∀ q ∈ pkX5.1, q.2.2.2 = false → ∀ (K : String) (T : u_T) (N : Nat), vwCl[q.2.1]? = some (K, T, N) → K = RX5 := yown_of (by decide +kernel)
def ycX5 : YPool := []
theorem ycX5_ok : ypok RX5 ycX5 := ypok_of (by decide +kernel)
theorem xm_X4_init : xmd yX4_init cX4_init 1 none 0 := ⟨xg_tab 15 (by decide +kernel) (by decide +kernel), xg_tab 1 (by decide +kernel) (by decide +kernel), by decide +kernel, by decide +kernel, by decide⟩
theorem xi_X4_init : Cond.instanceMethod yX4_init ∈ XG := xg_tab 14 (by decide +kernel) (by decide +kernel)
theorem xm_X1_init : xmd yX1_init cX1_init 1 none 0 := ⟨xg_tab 23 (by decide +kernel) (by decide +kernel), xg_tab 2 (by decide +kernel) (by decide +kernel), by decide +kernel, by decide +kernel, by decide⟩
theorem xi_X1_init : Cond.instanceMethod yX1_init ∈ XG := xg_tab 22 (by decide +kernel) (by decide +kernel)
theorem xm_X3_init : xmd yX3_init cX3_init 1 none 0 := ⟨xg_tab 56 (by decide +kernel) (by decide +kernel), xg_tab 3 (by decide +kernel) (by decide +kernel), by decide +kernel, by decide +kernel, by decide⟩
theorem xi_X3_init : Cond.instanceMethod yX3_init ∈ XG := xg_tab 55 (by decide +kernel) (by decide +kernel)
theorem xm_X0_init : xmd yX0_init cX0_init 1 none 0 := ⟨xg_tab 112 (by decide +kernel) (by decide +kernel), xg_tab 4 (by decide +kernel) (by decide +kernel), by decide +kernel, by decide +kernel, by decide⟩
theorem xi_X0_init : Cond.instanceMethod yX0_init ∈ XG := xg_tab 111 (by decide +kernel) (by decide +kernel)
theorem xm_X2_init : xmd yX2_init cX2_init 1 none 0 := ⟨xg_tab 134 (by decide +kernel) (by decide +kernel), xg_tab 5 (by decide +kernel) (by decide +kernel), by decide +kernel, by decide +kernel, by decide⟩
theorem xi_X2_init : Cond.instanceMethod yX2_init ∈ XG := xg_tab 133 (by decide +kernel) (by decide +kernel)
theorem xm_X5_init : xmd yX5_init cX5_init 2 none 0 := ⟨xg_tab 585 (by decide +kernel) (by decide +kernel), xg_tab 7 (by decide +kernel) (by decide +kernel), by decide +kernel, by decide +kernel, by decide⟩
theorem xi_X5_init : Cond.instanceMethod yX5_init ∈ XG := xg_tab 584 (by decide +kernel) (by decide +kernel)
theorem yl_RX4_15 : Cond.methodLinkNest RX4 15 yX1_init "HallCarrier" ∈ XN := xn_tab 21 (by decide +kernel) (by decide +kernel)
theorem yl_RX4_22 : Cond.methodLinkNest RX4 22 yX3_init "HallCarrier" ∈ XN := xn_tab 54 (by decide +kernel) (by decide +kernel)
theorem yl_RX4_33 : Cond.methodLinkNest RX4 33 yX0_init "HallCarrier" ∈ XN := xn_tab 110 (by decide +kernel) (by decide +kernel)
theorem yl_RX4_40 : Cond.methodLinkNest RX4 40 yX2_init "HallCarrier" ∈ XN := xn_tab 132 (by decide +kernel) (by decide +kernel)
theorem yl_RL_9 : Cond.methodLink RL 9 yX4_init ∈ XG := xg_tab 13 (by decide +kernel) (by decide +kernel)
theorem yl_RL_12 : Cond.methodLink RL 12 yX5_init ∈ XG := xg_tab 583 (by decide +kernel) (by decide +kernel)
set_option maxRecDepth 100000 in
set_option maxHeartbeats 4000000 in
theorem mi_hall_2 (hh : Hp) : MI 1 3 82 0 hh 2 yX1_init cX1_init 1 ycs_0 (fun cT ad => yall 0 hh 2 cT ad ycs_1) := by
  refine MI.of (by decide +kernel) rfl (by decide) fun X hX hAO hR => ?_
  refine Yblk hX (po := 0) (Nat.zero_le _) rfl hAO pkX1_ok pkX1_own ycX1_ok [.aload_n 0] (pc' := 1) (ls' := [(0, .ref 2)]) (st' := [.ref 2]) (cs' := ycs_0) (kc' := 0) (ks' := 0) (by decide +kernel) (by decide) (yeq_of (by decide +kernel)) (by decide) ?_
  refine Yobj hX (by decide) yo_RX1 yo_i yo_c (Nat.le_of_ble_eq_true rfl) (by decide +kernel) ?_
  refine Yblk hX (po := 0) (Nat.zero_le _) rfl hAO pkX1_ok pkX1_own ycX1_ok [.aload_n 0, .bipush 64, .newarray .int, .putfield 9, .aload_n 0, .bipush 8, .newarray .int, .putfield 15, .aload_n 0, .bipush 10, .newarray .long, .putfield 18] (pc' := 28) (ls' := [(0, .ref 2)]) (st' := []) (cs' := ycs_1) (kc' := 3) (ks' := 82) (by decide +kernel) (by decide) (yeq_of (by decide +kernel)) (by decide) ?_
  exact Yret hX hR (by decide +kernel)
set_option maxRecDepth 100000 in
set_option maxHeartbeats 4000000 in
theorem mi_scene_6 (hh : Hp) : MI 1 6 644 0 hh 6 yX3_init cX3_init 1 ycs_2 (fun cT ad => yall 0 hh 6 cT ad ycs_3) := by
  refine MI.of (by decide +kernel) rfl (by decide) fun X hX hAO hR => ?_
  refine Yblk hX (po := 0) (Nat.zero_le _) rfl hAO pkX3_ok pkX3_own ycX3_ok [.aload_n 0] (pc' := 1) (ls' := [(0, .ref 6)]) (st' := [.ref 6]) (cs' := ycs_2) (kc' := 0) (ks' := 0) (by decide +kernel) (by decide) (yeq_of (by decide +kernel)) (by decide) ?_
  refine Yobj hX (by decide) yo_RX3 yo_i yo_c (Nat.le_of_ble_eq_true rfl) (by decide +kernel) ?_
  refine Yblk hX (po := 0) (Nat.zero_le _) rfl hAO pkX3_ok pkX3_own ycX3_ok [.aload_n 0, .bipush 6, .newarray .int, .putfield 9, .aload_n 0, .bipush 6, .newarray .int, .putfield 15, .aload_n 0, .iconst 2, .newarray .int, .putfield 18, .aload_n 0, .iconst 2, .newarray .int, .putfield 21, .aload_n 0, .sipush 128, .newarray .int, .putfield 24, .aload_n 0, .sipush 500, .newarray .int, .putfield 27] (pc' := 52) (ls' := [(0, .ref 6)]) (st' := []) (cs' := ycs_3) (kc' := 6) (ks' := 644) (by decide +kernel) (by decide) (yeq_of (by decide +kernel)) (by decide) ?_
  exact Yret hX hR (by decide +kernel)
set_option maxRecDepth 100000 in
set_option maxHeartbeats 4000000 in
theorem mi_scene_14 (hh : Hp) : MI 1 6 644 0 hh 14 yX3_init cX3_init 1 ycs_2 (fun cT ad => yall 0 hh 14 cT ad ycs_4) := by
  refine MI.of (by decide +kernel) rfl (by decide) fun X hX hAO hR => ?_
  refine Yblk hX (po := 0) (Nat.zero_le _) rfl hAO pkX3_ok pkX3_own ycX3_ok [.aload_n 0] (pc' := 1) (ls' := [(0, .ref 14)]) (st' := [.ref 14]) (cs' := ycs_2) (kc' := 0) (ks' := 0) (by decide +kernel) (by decide) (yeq_of (by decide +kernel)) (by decide) ?_
  refine Yobj hX (by decide) yo_RX3 yo_i yo_c (Nat.le_of_ble_eq_true rfl) (by decide +kernel) ?_
  refine Yblk hX (po := 0) (Nat.zero_le _) rfl hAO pkX3_ok pkX3_own ycX3_ok [.aload_n 0, .bipush 6, .newarray .int, .putfield 9, .aload_n 0, .bipush 6, .newarray .int, .putfield 15, .aload_n 0, .iconst 2, .newarray .int, .putfield 18, .aload_n 0, .iconst 2, .newarray .int, .putfield 21, .aload_n 0, .sipush 128, .newarray .int, .putfield 24, .aload_n 0, .sipush 500, .newarray .int, .putfield 27] (pc' := 52) (ls' := [(0, .ref 14)]) (st' := []) (cs' := ycs_4) (kc' := 6) (ks' := 644) (by decide +kernel) (by decide) (yeq_of (by decide +kernel)) (by decide) ?_
  exact Yret hX hR (by decide +kernel)
set_option maxRecDepth 100000 in
set_option maxHeartbeats 4000000 in
theorem mi_scene_21 (hh : Hp) : MI 1 6 644 0 hh 21 yX3_init cX3_init 1 ycs_2 (fun cT ad => yall 0 hh 21 cT ad ycs_5) := by
  refine MI.of (by decide +kernel) rfl (by decide) fun X hX hAO hR => ?_
  refine Yblk hX (po := 0) (Nat.zero_le _) rfl hAO pkX3_ok pkX3_own ycX3_ok [.aload_n 0] (pc' := 1) (ls' := [(0, .ref 21)]) (st' := [.ref 21]) (cs' := ycs_2) (kc' := 0) (ks' := 0) (by decide +kernel) (by decide) (yeq_of (by decide +kernel)) (by decide) ?_
  refine Yobj hX (by decide) yo_RX3 yo_i yo_c (Nat.le_of_ble_eq_true rfl) (by decide +kernel) ?_
  refine Yblk hX (po := 0) (Nat.zero_le _) rfl hAO pkX3_ok pkX3_own ycX3_ok [.aload_n 0, .bipush 6, .newarray .int, .putfield 9, .aload_n 0, .bipush 6, .newarray .int, .putfield 15, .aload_n 0, .iconst 2, .newarray .int, .putfield 18, .aload_n 0, .iconst 2, .newarray .int, .putfield 21, .aload_n 0, .sipush 128, .newarray .int, .putfield 24, .aload_n 0, .sipush 500, .newarray .int, .putfield 27] (pc' := 52) (ls' := [(0, .ref 21)]) (st' := []) (cs' := ycs_5) (kc' := 6) (ks' := 644) (by decide +kernel) (by decide) (yeq_of (by decide +kernel)) (by decide) ?_
  exact Yret hX hR (by decide +kernel)
set_option maxRecDepth 100000 in
set_option maxHeartbeats 4000000 in
theorem mi_crowd_28 (hh : Hp) : MI 1 1 4 0 hh 28 yX0_init cX0_init 1 ycs_6 (fun cT ad => yall 0 hh 28 cT ad ycs_7) := by
  refine MI.of (by decide +kernel) rfl (by decide) fun X hX hAO hR => ?_
  refine Yblk hX (po := 0) (Nat.zero_le _) rfl hAO pkX0_ok pkX0_own ycX0_ok [.aload_n 0] (pc' := 1) (ls' := [(0, .ref 28)]) (st' := [.ref 28]) (cs' := ycs_6) (kc' := 0) (ks' := 0) (by decide +kernel) (by decide) (yeq_of (by decide +kernel)) (by decide) ?_
  refine Yobj hX (by decide) yo_RX0 yo_i yo_c (Nat.le_of_ble_eq_true rfl) (by decide +kernel) ?_
  refine Yblk hX (po := 0) (Nat.zero_le _) rfl hAO pkX0_ok pkX0_own ycX0_ok [.aload_n 0, .iconst 4, .newarray .long, .putfield 9] (pc' := 11) (ls' := [(0, .ref 28)]) (st' := []) (cs' := ycs_7) (kc' := 1) (ks' := 4) (by decide +kernel) (by decide) (yeq_of (by decide +kernel)) (by decide) ?_
  exact Yret hX hR (by decide +kernel)
set_option maxRecDepth 100000 in
set_option maxHeartbeats 4000000 in
theorem mi_orders_30 (hh : Hp) : MI 1 7 324 0 hh 30 yX2_init cX2_init 1 ycs_8 (fun cT ad => yall 0 hh 30 cT ad ycs_9) := by
  refine MI.of (by decide +kernel) rfl (by decide) fun X hX hAO hR => ?_
  refine Yblk hX (po := 0) (Nat.zero_le _) rfl hAO pkX2_ok pkX2_own ycX2_ok [.aload_n 0] (pc' := 1) (ls' := [(0, .ref 30)]) (st' := [.ref 30]) (cs' := ycs_8) (kc' := 0) (ks' := 0) (by decide +kernel) (by decide) (yeq_of (by decide +kernel)) (by decide) ?_
  refine Yobj hX (by decide) yo_RX2 yo_i yo_c (Nat.le_of_ble_eq_true rfl) (by decide +kernel) ?_
  refine Yblk hX (po := 0) (Nat.zero_le _) rfl hAO pkX2_ok pkX2_own ycX2_ok [.aload_n 0, .bipush 6, .newarray .int, .putfield 9, .aload_n 0, .bipush 6, .newarray .int, .putfield 15, .aload_n 0, .bipush 6, .newarray .int, .putfield 18, .aload_n 0, .bipush 48, .newarray .int, .putfield 21, .aload_n 0, .sipush 128, .newarray .int, .putfield 24, .aload_n 0, .sipush 128, .newarray .int, .putfield 27, .aload_n 0, .iconst 2, .newarray .int, .putfield 30] (pc' := 61) (ls' := [(0, .ref 30)]) (st' := []) (cs' := ycs_9) (kc' := 7) (ks' := 324) (by decide +kernel) (by decide) (yeq_of (by decide +kernel)) (by decide) ?_
  exact Yret hX hR (by decide +kernel)
def f_x_init (h : Hp) : Option Hp :=
  xbd2 (f_x_type (198343339566 : Int64) (5 : Int32) h) fun v_3 h_2 =>
  xbd1 (f_x_becomeHall h_2) fun h_5 =>
  some h_5
theorem yx_x : ((xshL.drop 0).take (ycs_29).length).map ysh = ycs_29 := leq_of (by decide +kernel)
set_option maxRecDepth 100000 in
set_option maxHeartbeats 4000000 in
theorem mi_x_init (hh : Hp) {h' : Hp} (hf : f_x_init (hz 0 hh) = some h') : MI 4 38 2484 0 hh 0 yX4_init cX4_init 1 ycs_10 (fun cT ad => xwrl 39 cT ad h') := by
  refine MI.of (by decide +kernel) rfl (by decide) fun X hX hAO hR => ?_
  refine Yblk hX (po := 0) (Nat.zero_le _) rfl hAO pkX4_ok pkX4_own ycX4_ok [.aload_n 0] (pc' := 1) (ls' := [(0, .ref 0)]) (st' := [.ref 0]) (cs' := ycs_10) (kc' := 0) (ks' := 0) (by decide +kernel) (by decide) (yeq_of (by decide +kernel)) (by decide) ?_
  refine Yobj hX (by decide) yo_RX4 yo_i yo_c (Nat.le_of_ble_eq_true rfl) (by decide +kernel) ?_
  refine Yblk hX (po := 0) (Nat.zero_le _) rfl hAO pkX4_ok pkX4_own ycX4_ok [.aload_n 0, .bipush 80, .newarray .int, .putfield 9, .aload_n 0, .new 13, .dup] (pc' := 17) (ls' := [(0, .ref 0)]) (st' := [.ref 2, .ref 2, .ref 0]) (cs' := ycs_11) (kc' := 2) (ks' := 86) (by decide +kernel) (by decide) (yeq_of (by decide +kernel)) (by decide) ?_
  refine YcallN hX hAO (cs0 := ycs_12) (cs1 := ycs_1) (c0 := .inr (1, [.null, .null, .null, .int 0, .long 0, .long 0])) (st := [.ref 2, .ref 0]) (mi_hall_2 hh) (by decide) xm_X1_init xi_X1_init rfl yl_RX4_15 (leq_of (by decide +kernel)) (by decide +kernel) (by decide +kernel) (Nat.le_of_ble_eq_true rfl) (by decide) (by decide) (by decide +kernel) ?_
  refine YW.cs (cs' := ycs_13) (leq_of (by decide +kernel)) ?_
  show YW X 0 hh 0 20 [(0, .ref 0)] [.ref 2, .ref 0] ycs_13 5 168
  refine Yblk hX (po := 0) (Nat.zero_le _) rfl hAO pkX4_ok pkX4_own ycX4_ok [.putfield 16, .aload_n 0, .new 20, .dup] (pc' := 28) (ls' := [(0, .ref 0)]) (st' := [.ref 6, .ref 6, .ref 0]) (cs' := ycs_14) (kc' := 6) (ks' := 179) (by decide +kernel) (by decide) (yeq_of (by decide +kernel)) (by decide) ?_
  refine YcallN hX hAO (cs0 := ycs_15) (cs1 := ycs_3) (c0 := .inr (3, [.null, .null, .null, .null, .null, .null, .int 0, .int 0, .int 0, .int 0, .int 0])) (st := [.ref 6, .ref 0]) (mi_scene_6 hh) (by decide) xm_X3_init xi_X3_init rfl yl_RX4_22 (leq_of (by decide +kernel)) (by decide +kernel) (by decide +kernel) (Nat.le_of_ble_eq_true rfl) (by decide) (by decide) (by decide +kernel) ?_
  refine YW.cs (cs' := ycs_16) (leq_of (by decide +kernel)) ?_
  show YW X 0 hh 0 31 [(0, .ref 0)] [.ref 6, .ref 0] ycs_16 12 823
  refine Yblk hX (po := 0) (Nat.zero_le _) rfl hAO pkX4_ok pkX4_own ycX4_ok [.putfield 23, .aload_n 0, .iconst 2, .anewarray 20, .dup, .iconst 0, .new 20, .dup] (pc' := 45) (ls' := [(0, .ref 0)]) (st' := [.ref 14, .ref 14, .int 0, .ref 13, .ref 13, .ref 0]) (cs' := ycs_17) (kc' := 14) (ks' := 836) (by decide +kernel) (by decide) (yeq_of (by decide +kernel)) (by decide) ?_
  refine YcallN hX hAO (cs0 := ycs_18) (cs1 := ycs_4) (c0 := .inr (3, [.null, .null, .null, .null, .null, .null, .int 0, .int 0, .int 0, .int 0, .int 0])) (st := [.ref 14, .int 0, .ref 13, .ref 13, .ref 0]) (mi_scene_14 hh) (by decide) xm_X3_init xi_X3_init rfl yl_RX4_22 (leq_of (by decide +kernel)) (by decide +kernel) (by decide +kernel) (Nat.le_of_ble_eq_true rfl) (by decide) (by decide) (by decide +kernel) ?_
  refine YW.cs (cs' := ycs_19) (leq_of (by decide +kernel)) ?_
  show YW X 0 hh 0 48 [(0, .ref 0)] [.ref 14, .int 0, .ref 13, .ref 13, .ref 0] ycs_19 20 1480
  refine Yblk hX (po := 0) (Nat.zero_le _) rfl hAO pkX4_ok pkX4_own ycX4_ok [.aastore, .dup, .iconst 1, .new 20, .dup] (pc' := 55) (ls' := [(0, .ref 0)]) (st' := [.ref 21, .ref 21, .int 1, .ref 13, .ref 13, .ref 0]) (cs' := ycs_20) (kc' := 21) (ks' := 1491) (by decide +kernel) (by decide) (yeq_of (by decide +kernel)) (by decide) ?_
  refine YcallN hX hAO (cs0 := ycs_21) (cs1 := ycs_5) (c0 := .inr (3, [.null, .null, .null, .null, .null, .null, .int 0, .int 0, .int 0, .int 0, .int 0])) (st := [.ref 21, .int 1, .ref 13, .ref 13, .ref 0]) (mi_scene_21 hh) (by decide) xm_X3_init xi_X3_init rfl yl_RX4_22 (leq_of (by decide +kernel)) (by decide +kernel) (by decide +kernel) (Nat.le_of_ble_eq_true rfl) (by decide) (by decide) (by decide +kernel) ?_
  refine YW.cs (cs' := ycs_22) (leq_of (by decide +kernel)) ?_
  show YW X 0 hh 0 58 [(0, .ref 0)] [.ref 21, .int 1, .ref 13, .ref 13, .ref 0] ycs_22 27 2135
  refine Yblk hX (po := 0) (Nat.zero_le _) rfl hAO pkX4_ok pkX4_own ycX4_ok [.aastore, .putfield 27, .aload_n 0, .new 31, .dup] (pc' := 67) (ls' := [(0, .ref 0)]) (st' := [.ref 28, .ref 28, .ref 0]) (cs' := ycs_23) (kc' := 28) (ks' := 2140) (by decide +kernel) (by decide) (yeq_of (by decide +kernel)) (by decide) ?_
  refine YcallN hX hAO (cs0 := ycs_24) (cs1 := ycs_7) (c0 := .inr (0, [.null, .long 0, .long 0, .long 0, .long 0])) (st := [.ref 28, .ref 0]) (mi_crowd_28 hh) (by decide) xm_X0_init xi_X0_init rfl yl_RX4_33 (leq_of (by decide +kernel)) (by decide +kernel) (by decide +kernel) (Nat.le_of_ble_eq_true rfl) (by decide) (by decide) (by decide +kernel) ?_
  refine YW.cs (cs' := ycs_25) (leq_of (by decide +kernel)) ?_
  show YW X 0 hh 0 70 [(0, .ref 0)] [.ref 28, .ref 0] ycs_25 29 2144
  refine Yblk hX (po := 0) (Nat.zero_le _) rfl hAO pkX4_ok pkX4_own ycX4_ok [.putfield 34, .aload_n 0, .new 38, .dup] (pc' := 78) (ls' := [(0, .ref 0)]) (st' := [.ref 30, .ref 30, .ref 0]) (cs' := ycs_26) (kc' := 30) (ks' := 2155) (by decide +kernel) (by decide) (yeq_of (by decide +kernel)) (by decide) ?_
  refine YcallN hX hAO (cs0 := ycs_27) (cs1 := ycs_9) (c0 := .inr (2, [.null, .null, .null, .null, .null, .null, .null, .int 0, .int 0, .int 0, .int 0])) (st := [.ref 30, .ref 0]) (mi_orders_30 hh) (by decide) xm_X2_init xi_X2_init rfl yl_RX4_40 (leq_of (by decide +kernel)) (by decide +kernel) (by decide +kernel) (Nat.le_of_ble_eq_true rfl) (by decide) (by decide) (by decide +kernel) ?_
  refine YW.cs (cs' := ycs_28) (leq_of (by decide +kernel)) ?_
  show YW X 0 hh 0 81 [(0, .ref 0)] [.ref 30, .ref 0] ycs_28 37 2479
  refine Yblk hX (po := 0) (Nat.zero_le _) rfl hAO pkX4_ok pkX4_own ycX4_ok [.putfield 41, .aload_n 0, .iconst 5, .newarray .long, .putfield 45] (pc' := 91) (ls' := [(0, .ref 0)]) (st' := []) (cs' := ycs_29) (kc' := 38) (ks' := 2484) (by decide +kernel) (by decide) (yeq_of (by decide +kernel)) (by decide) ?_
  refine YX hX hR (by decide +kernel) (by decide) yx_x (fun X hX hR hb => ?_)
  generalize hz 0 hh = h at hf ⊢
  unfold f_x_init at hf
  refine Xblk hX pkX4_ok [.aload_n 0, .ldc2_w 49, .iconst 5] (pc' := 96) (ls' := [(0, .ref 0)]) (st' := [.int (5 : Int32), .long (198343339566 : Int64), .ref 0]) (h' := h) (g := true) (by decide +kernel) rfl rfl rfl ?_
  obtain ⟨v_3, h_2, hc_1, hf⟩ := xbd2_inv hf
  refine XcallV hX (mt_x_type (198343339566 : Int64) (5 : Int32) h hc_1) (rest := []) (by decide) (by decide) xm_X4_type xi_X4_type xs_X4_type xl_RX4_51 (by decide) (xsh_0) rfl rfl rfl (Nat.le_of_ble_eq_true rfl) (by decide +kernel) ?_
  show XW X 99 [(0, .ref 0)] [.int v_3] h_2
  refine Xblk hX pkX4_ok [.pop, .aload_n 0] (pc' := 101) (ls' := [(0, .ref 0)]) (st' := [.ref 0]) (h' := h_2) (g := true) (by decide +kernel) rfl rfl rfl ?_
  obtain ⟨h_5, hc_4, hf⟩ := xbd1_inv hf
  refine XcallV hX (mt_x_becomeHall  h_2 hc_4) (rest := []) (by decide) (by decide) xm_X4_becomeHall xi_X4_becomeHall xs_X4_becomeHall xl_RX4_55 (by decide) (xsh_0) rfl rfl rfl (Nat.le_of_ble_eq_true rfl) (by decide +kernel) ?_
  show XW X 104 [(0, .ref 0)] [] h_5
  exact XrC hX hR hb hf (by decide +kernel)
def f_m_init_L_1    (k : Int32 → Hp → Option (Hp)) : Nat → Int32 → Hp → Option (Hp)
  | 0, _, _ => none
  | n + 1, l1, h =>
    if (64 : Int32) ≤ l1 then
      k l1 h
    else
      xgd (xin l1 64 && true) <|
      (f_m_init_L_1 k n) (l1 + (1 : Int32)) (xI h 41 l1.toNatClampNeg (46 : Int32))
def f_m_init (h : Hp) : Option Hp :=
  f_m_init_L_1 (fun l1_3 h_4 =>
    some (xL (xL h_4 39 8 (771 : Int64)) 39 9 (771 : Int64))
    ) 1000 (0 : Int32) (xI (xI h 39 3 (2 : Int32)) 39 4 (2 : Int32))
set_option maxRecDepth 100000 in
set_option maxHeartbeats 4000000 in
theorem f_m_init_L_1_ok {X : XCtx} (hX : XOk X RX5 cX5_init 2 2 66) {h' : Hp} (hR : XRC X 39 66 h') (hb : match X with | (_, _, _, _, _, _, _, _, _, _, _, _, _, _, _, n', _, _) => n' = 66)    (k : Int32 → Hp → Option (Hp))  (hk : ∀ (l1 : Int32) (h : Hp), k l1 h = some h' → XW X 241 [(0, .ref 39)] [] h) : ∀ (n : Nat) (l1 : Int32) (h : Hp), f_m_init_L_1 k n l1 h = some h' → XW X 221 [(0, .ref 39), (1, .int l1)] [] h := by
  intro n
  induction n with
  | zero => intro l1 h hf; cases hf
  | succ n ih =>
    intro l1 h hf
    rw [f_m_init_L_1] at hf
    refine Xblk hX pkX5_ok [.iload_n 1, .bipush 64] (pc' := 224) (ls' := [(0, .ref 39), (1, .int l1)]) (st' := [.int (64 : Int32), .int l1]) (h' := h) (g := true) (by decide +kernel) rfl rfl rfl ?_
    refine Xbr hX (.if_icmp .ge (17)) (tgt := 241) (P := (64 : Int32) ≤ l1) (r := []) (by decide +kernel) rfl (by decide) (fun hc_2 => ?_) (fun hc_2 => ?_)
    · replace hf := xif_t hc_2 hf
      refine XW.pick [0] (ls' := [(0, .ref 39)]) rfl ?_
      exact hk l1 h hf
    · replace hf := xif_f hc_2 hf
      obtain ⟨hg, hf⟩ := xgd_inv hf
      refine Xblk hX pkX5_ok [.aload_n 0, .getfield 13, .iload_n 1, .bipush 46, .iastore, .iinc 1 1] (pc' := 238) (ls' := [(1, .int (l1 + (1 : Int32))), (0, .ref 39)]) (st' := []) (h' := (xI h 41 l1.toNatClampNeg (46 : Int32))) (g := (xin l1 64 && true)) (by decide +kernel) rfl rfl hg ?_
      refine Xgoto hX (-17) 221 (by decide +kernel) (by decide) ?_
      refine XW.pick [1, 0] (ls' := [(0, .ref 39), (1, .int (l1 + (1 : Int32)))]) rfl ?_
      exact ih (l1 + (1 : Int32)) (xI h 41 l1.toNatClampNeg (46 : Int32)) hf
theorem yx_m : ((xshL.drop 39).take (ycs_31).length).map ysh = ycs_31 := leq_of (by decide +kernel)
set_option maxRecDepth 100000 in
set_option maxHeartbeats 4000000 in
theorem mi_m_init (hh : Hp) {h' : Hp} (hf : f_m_init (hz 39 hh) = some h') : MI 2 26 2394 39 hh 39 yX5_init cX5_init 2 ycs_30 (fun cT ad => xwrl 66 cT ad h') := by
  refine MI.of (by decide +kernel) rfl (by decide) fun X hX hAO hR => ?_
  refine Yblk hX (po := 39) (Nat.le_refl _) (by decide) hAO pkX5_ok pkX5_own ycX5_ok [.aload_n 0] (pc' := 1) (ls' := [(0, .ref 39)]) (st' := [.ref 39]) (cs' := ycs_30) (kc' := 0) (ks' := 0) (by decide +kernel) (by decide) (yeq_of (by decide +kernel)) (by decide) ?_
  refine Yobj hX (by decide) yo_RX5 yo_i yo_c (Nat.le_of_ble_eq_true rfl) (by decide +kernel) ?_
  refine Yblk hX (po := 39) (Nat.le_refl _) (by decide) hAO pkX5_ok pkX5_own ycX5_ok [.aload_n 0, .bipush 80, .newarray .byte, .putfield 7, .aload_n 0, .bipush 64, .newarray .int, .putfield 13, .aload_n 0, .bipush 8, .newarray .int, .putfield 17, .aload_n 0, .bipush 18, .newarray .int, .putfield 20, .aload_n 0, .bipush 18, .newarray .int, .putfield 23, .aload_n 0, .bipush 6, .newarray .int, .putfield 26, .aload_n 0, .bipush 6, .newarray .int, .putfield 29, .aload_n 0, .sipush 384, .newarray .int, .putfield 32, .aload_n 0, .sipush 1500, .newarray .int, .putfield 35, .aload_n 0, .bipush 21, .newarray .long, .putfield 38, .aload_n 0, .bipush 21, .newarray .long, .putfield 42, .aload_n 0, .sipush 160, .newarray .boolean, .putfield 45, .aload_n 0, .bipush 6, .newarray .int, .putfield 49, .aload_n 0, .bipush 6, .newarray .int, .putfield 52, .aload_n 0, .bipush 6, .newarray .int, .putfield 55, .aload_n 0, .bipush 48, .newarray .int, .putfield 58, .aload_n 0, .bipush 6, .newarray .int, .putfield 61, .aload_n 0, .bipush 6, .newarray .int, .putfield 64, .aload_n 0, .bipush 12, .newarray .int, .putfield 67, .aload_n 0, .iconst 2, .newarray .int, .putfield 70, .aload_n 0, .bipush 6, .newarray .int, .putfield 73, .aload_n 0, .iconst 2, .newarray .boolean, .putfield 76, .aload_n 0, .iconst 2, .newarray .int, .putfield 79, .aload_n 0, .iconst 2, .newarray .int, .putfield 82, .aload_n 0, .iconst 2, .newarray .int, .putfield 85, .aload_n 0, .iconst 2, .newarray .int, .putfield 88] (pc' := 209) (ls' := [(0, .ref 39)]) (st' := []) (cs' := ycs_31) (kc' := 26) (ks' := 2394) (by decide +kernel) (by decide) (yeq_of (by decide +kernel)) (by decide) ?_
  refine YX hX hR (by decide +kernel) (by decide) yx_m (fun X hX hR hb => ?_)
  generalize hz 39 hh = h at hf ⊢
  unfold f_m_init at hf
  refine Xblk hX pkX5_ok [.aload_n 0, .iconst 2, .putfield 91, .aload_n 0, .iconst 2, .putfield 95, .iconst 0, .istore_n 1] (pc' := 221) (ls' := [(1, .int (0 : Int32)), (0, .ref 39)]) (st' := []) (h' := (xI (xI h 39 3 (2 : Int32)) 39 4 (2 : Int32))) (g := true) (by decide +kernel) rfl rfl rfl ?_
  refine XW.pick [1, 0] (ls' := [(0, .ref 39), (1, .int (0 : Int32))]) rfl ?_
  refine f_m_init_L_1_ok hX hR hb  _  (fun l1_3 h_4 hf => ?_) 1000 (0 : Int32) (xI (xI h 39 3 (2 : Int32)) 39 4 (2 : Int32)) hf
  refine Xblk hX pkX5_ok [.aload_n 0, .ldc2_w 98, .putfield 100, .aload_n 0, .aload_n 0, .getfield 100, .putfield 104] (pc' := 256) (ls' := [(0, .ref 39)]) (st' := []) (h' := (xL (xL h_4 39 8 (771 : Int64)) 39 9 (771 : Int64))) (g := true) (by decide +kernel) rfl rfl rfl ?_
  exact XrC hX hR hb hf (by decide +kernel)
