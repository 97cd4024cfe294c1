def f_j_fill_5_L_1  (l1 : Int64) (l4 : Int32)  (k : Int32 → Hp → Option (Hp)) : Nat → Int32 → Hp → Option (Hp)
  | 0, _, _ => none
  | n + 1, l3, h =>
    if l4 ≤ l3 then
      k l3 h
    else
      xgd (xin l3 10 && true) <|
      (f_j_fill_5_L_1 l1 l4 k n) (l3 + (1 : Int32)) (xL h 5 l3.toNatClampNeg l1)
def f_j_fill_5 (l1 : Int64) (h : Hp) : Option (Hp) :=
  f_j_fill_5_L_1 l1 (Int32.ofNat 10) (fun l3_3 h_4 =>
    some h_4
    ) 1000 (0 : Int32) h
set_option maxRecDepth 100000 in
set_option maxHeartbeats 4000000 in
theorem f_j_fill_5_L_1_ok {X : XCtx} (hX : XOk X RJ7 cJ7_fill_d0a16 5 0 39) {h' : Hp} (hR : XR X none none h')  (l1 : Int64) (l4 : Int32)  (k : Int32 → Hp → Option (Hp))  (hk : ∀ (l3 : Int32) (h : Hp), k l3 h = some h' → XW X 22 [] [] h) : ∀ (n : Nat) (l3 : Int32) (h : Hp), f_j_fill_5_L_1 l1 l4 k n l3 h = some h' → XW X 6 [(0, .ref 5), (1, .long l1), (3, .int l3), (4, .int l4)] [] h := by
  intro n
  induction n with
  | zero => intro l3 h hf; cases hf
  | succ n ih =>
    intro l3 h hf
    rw [f_j_fill_5_L_1] at hf
    refine Xblk hX pkJ7_ok [.iload_n 3, .iload 4] (pc' := 9) (ls' := [(0, .ref 5), (1, .long l1), (3, .int l3), (4, .int l4)]) (st' := [.int l4, .int l3]) (h' := h) (g := true) (by decide +kernel) rfl rfl rfl ?_
    refine Xbr hX (.if_icmp .ge (13)) (tgt := 22) (P := l4 ≤ l3) (r := []) (by decide +kernel) rfl (by decide) (fun hc_2 => ?_) (fun hc_2 => ?_)
    · replace hf := xif_t hc_2 hf
      refine XW.pick [] (ls' := []) rfl ?_
      exact hk l3 h hf
    · replace hf := xif_f hc_2 hf
      obtain ⟨hg, hf⟩ := xgd_inv hf
      refine Xblk hX pkJ7_ok [.aload_n 0, .iload_n 3, .lload_n 1, .lastore, .iinc 3 1] (pc' := 19) (ls' := [(3, .int (l3 + (1 : Int32))), (0, .ref 5), (1, .long l1), (4, .int l4)]) (st' := []) (h' := (xL h 5 l3.toNatClampNeg l1)) (g := (xin l3 10 && true)) (by decide +kernel) rfl rfl hg ?_
      refine Xgoto hX (-13) 6 (by decide +kernel) (by decide) ?_
      refine XW.pick [1, 2, 0, 3] (ls' := [(0, .ref 5), (1, .long l1), (3, .int (l3 + (1 : Int32))), (4, .int l4)]) rfl ?_
      exact ih (l3 + (1 : Int32)) (xL h 5 l3.toNatClampNeg l1) hf
set_option maxRecDepth 100000 in
set_option maxHeartbeats 4000000 in
theorem mt_j_fill_5 (l1 : Int64) (h : Hp) {h' : Hp} (hf : f_j_fill_5 l1 h = some h') : MT 0 39 yJ7_fill_d0a16 cJ7_fill_d0a16 5 none [.ref 5, .long l1] h none h' := by
  refine MT.of (by decide +kernel) (Nat.le_of_ble_eq_true rfl) fun X hX hR => ?_
  unfold f_j_fill_5 at hf
  refine Xblk hX pkJ7_ok [.iconst 0, .istore_n 3, .aload_n 0, .arraylength, .istore 4] (pc' := 6) (ls' := [(4, .int (Int32.ofNat 10)), (3, .int (0 : Int32)), (0, .ref 5), (1, .long l1)]) (st' := []) (h' := h) (g := true) (by decide +kernel) rfl rfl rfl ?_
  refine XW.pick [2, 3, 1, 0] (ls' := [(0, .ref 5), (1, .long l1), (3, .int (0 : Int32)), (4, .int (Int32.ofNat 10))]) rfl ?_
  refine f_j_fill_5_L_1_ok hX hR l1 (Int32.ofNat 10) _  (fun l3_3 h_4 hf => ?_) 1000 (0 : Int32) h hf
  exact XrV2 hX hR hf (by decide +kernel)
def f_hall_empty  (h : Hp) : Option (Hp) :=
  xbd1 (f_j_fill_5 (0 : Int64) h) fun h_2 =>
  some (xL (xL (xI h_2 2 3 (0 : Int32)) 2 4 (0 : Int64)) 2 5 (0 : Int64))
set_option maxRecDepth 100000 in
set_option maxHeartbeats 4000000 in
theorem mt_hall_empty  (h : Hp) {h' : Hp} (hf : f_hall_empty h = some h') : MT 1 39 yX1_empty cX1_empty 1 none [.ref 2] h none h' := by
  refine MT.of (by decide +kernel) (Nat.le_of_ble_eq_true rfl) fun X hX hR => ?_
  unfold f_hall_empty at hf
  refine Xblk hX pkX1_ok [.aload_n 0, .getfield 18, .lconst 0] (pc' := 5) (ls' := [(0, .ref 2)]) (st' := [.long (0 : Int64), .ref 5]) (h' := h) (g := true) (by decide +kernel) rfl rfl rfl ?_
  obtain ⟨h_2, hc_1, hf⟩ := xbd1_inv hf
  refine XcallS hX (mt_j_fill_5 (0 : Int64) h hc_1) (rest := []) (by decide) (by decide) xm_J7_fill_d0a16 xi_J7_fill_d0a16 xl_RX1_22 rfl (Nat.le_of_ble_eq_true rfl) (by decide +kernel) ?_
  show XW X 8 [(0, .ref 2)] [] h_2
  refine Xblk hX pkX1_ok [.aload_n 0, .iconst 0, .putfield 28, .aload_n 0, .lconst 0, .putfield 32, .aload_n 0, .lconst 0, .putfield 36] (pc' := 23) (ls' := [(0, .ref 2)]) (st' := []) (h' := (xL (xL (xI h_2 2 3 (0 : Int32)) 2 4 (0 : Int64)) 2 5 (0 : Int64))) (g := true) (by decide +kernel) rfl rfl rfl ?_
  exact XrV2 hX hR hf (by decide +kernel)
def f_x_isMark (l0 : Int32) : Int32 :=
  if l0 < (49 : Int32) then
    (0 : Int32)
  else
    if (57 : Int32) < l0 then
      (0 : Int32)
    else
      (1 : Int32)
theorem xb_x_isMark (l0 : Int32) : xbool (f_x_isMark l0) = true := by
  unfold f_x_isMark
  (repeat' split) <;> first | rfl | exact xb_m_in _ _ _
set_option maxRecDepth 100000 in
set_option maxHeartbeats 4000000 in
theorem mt_x_isMark (l0 : Int32) (h : Hp) : MT 0 39 yX4_isMark cX4_isMark 1 (some .boolean) [.int l0] h (some (.int (f_x_isMark l0))) h := by
  obtain ⟨o, hf⟩ : ∃ o, f_x_isMark l0 = o := ⟨_, rfl⟩
  rw [hf]
  refine MT.of (by decide +kernel) (Nat.le_of_ble_eq_true rfl) fun X hX hR => ?_
  unfold f_x_isMark at hf
  refine Xblk hX pkX4_ok [.iload_n 0, .bipush 49] (pc' := 3) (ls' := [(0, .int l0)]) (st' := [.int (49 : Int32), .int l0]) (h' := h) (g := true) (by decide +kernel) rfl rfl rfl ?_
  refine Xbr hX (.if_icmp .lt (13)) (tgt := 16) (P := l0 < (49 : Int32)) (r := []) (by decide +kernel) rfl (by decide) (fun hc_1 => ?_) (fun hc_1 => ?_)
  · replace hf := xif_t hc_1 hf
    refine Xblk hX pkX4_ok [.iconst 0] (pc' := 17) (ls' := [(0, .int l0)]) (st' := [.int (0 : Int32)]) (h' := h) (g := true) (by decide +kernel) rfl rfl rfl ?_
    subst hf
    exact XretZ hX hR (by decide) (by decide +kernel)
  · replace hf := xif_f hc_1 hf
    refine Xblk hX pkX4_ok [.iload_n 0, .bipush 57] (pc' := 9) (ls' := [(0, .int l0)]) (st' := [.int (57 : Int32), .int l0]) (h' := h) (g := true) (by decide +kernel) rfl rfl rfl ?_
    refine Xbr hX (.if_icmp .gt (7)) (tgt := 16) (P := (57 : Int32) < l0) (r := []) (by decide +kernel) rfl (by decide) (fun hc_2 => ?_) (fun hc_2 => ?_)
    · replace hf := xif_t hc_2 hf
      refine Xblk hX pkX4_ok [.iconst 0] (pc' := 17) (ls' := [(0, .int l0)]) (st' := [.int (0 : Int32)]) (h' := h) (g := true) (by decide +kernel) rfl rfl rfl ?_
      subst hf
      exact XretZ hX hR (by decide) (by decide +kernel)
    · replace hf := xif_f hc_2 hf
      refine Xblk hX pkX4_ok [.iconst 1] (pc' := 13) (ls' := [(0, .int l0)]) (st' := [.int (1 : Int32)]) (h' := h) (g := true) (by decide +kernel) rfl rfl rfl ?_
      refine Xgoto hX (4) 17 (by decide +kernel) (by decide) ?_
      subst hf
      exact XretZ hX hR (by decide) (by decide +kernel)
def f_hall_put_j_12  (l3 : Int32) (l5 : Int64) (h : Hp) : Option (Hp) :=
  xgd (xin (if (f_x_isMark l3) = (0 : Int32) then (0 : Int32) else (l3 - (48 : Int32))) 10 && (xin (if (f_x_isMark l3) = (0 : Int32) then (0 : Int32) else (l3 - (48 : Int32))) 10 && true)) <|
  some (xL h 5 (if (f_x_isMark l3) = (0 : Int32) then (0 : Int32) else (l3 - (48 : Int32))).toNatClampNeg ((h.2 5 (if (f_x_isMark l3) = (0 : Int32) then (0 : Int32) else (l3 - (48 : Int32))).toNatClampNeg) ||| l5))
def f_hall_put_j_6  (l3 : Int32) (l4 : Int32) (l5 : Int64) (h : Hp) : Option (Hp) :=
  if l3 = (68 : Int32) then
    if (8 : Int32) ≤ (h.1 2 3) then
      f_hall_put_j_12 l3 l5 h
    else
      xgd (xin (h.1 2 3) 8 && true) <|
      f_hall_put_j_12 l3 l5 (xI (xI h 4 (h.1 2 3).toNatClampNeg l4) 2 3 ((h.1 2 3) + (1 : Int32)))
  else
    f_hall_put_j_12 l3 l5 h
def f_hall_put (l1 : Int32) (l2 : Int32) (l3 : Int32) (h : Hp) : Option (Hp) :=
  if (8 : Int32) ≤ l1 then
    some h
  else
    if l2 < (8 : Int32) then
      xgd (xin (((8 : Int32) * l2) + l1) 64 && true) <|
      if l3 = (35 : Int32) then
        f_hall_put_j_6 l3 (((8 : Int32) * l2) + l1) (jshlL (1 : Int64) (((8 : Int32) * l2) + l1)) (xL (xI h 3 (((8 : Int32) * l2) + l1).toNatClampNeg l3) 2 4 ((h.2 2 4) ||| (jshlL (1 : Int64) (((8 : Int32) * l2) + l1))))
      else
        if l3 = (68 : Int32) then
          f_hall_put_j_6 l3 (((8 : Int32) * l2) + l1) (jshlL (1 : Int64) (((8 : Int32) * l2) + l1)) (xL (xI h 3 (((8 : Int32) * l2) + l1).toNatClampNeg l3) 2 4 ((h.2 2 4) ||| (jshlL (1 : Int64) (((8 : Int32) * l2) + l1))))
        else
          f_hall_put_j_6 l3 (((8 : Int32) * l2) + l1) (jshlL (1 : Int64) (((8 : Int32) * l2) + l1)) (xL (xL (xI h 3 (((8 : Int32) * l2) + l1).toNatClampNeg l3) 2 4 ((h.2 2 4) ||| (jshlL (1 : Int64) (((8 : Int32) * l2) + l1)))) 2 5 ((h.2 2 5) ||| (jshlL (1 : Int64) (((8 : Int32) * l2) + l1))))
    else
      some h
set_option maxRecDepth 100000 in
set_option maxHeartbeats 4000000 in
theorem f_hall_put_j_12_ok {X : XCtx} (hX : XOk X RX1 cX1_put 7 1 39) {h' : Hp} (hR : XR X none none h')   (l3 : Int32) (l5 : Int64) (h : Hp)  (hf : f_hall_put_j_12 l3 l5 h = some h') : XW X 105 [(0, .ref 2), (3, .int l3), (5, .long l5)] [] h := by
  unfold f_hall_put_j_12 at hf
  refine Xblk hX pkX1_ok [.aload_n 0, .getfield 18, .iload_n 3] (pc' := 110) (ls' := [(0, .ref 2), (3, .int l3), (5, .long l5)]) (st' := [.int l3, .ref 5]) (h' := h) (g := true) (by decide +kernel) rfl rfl rfl ?_
  refine XcallS hX (mt_x_isMark l3 h) (rest := [.ref 5]) (by decide) (by decide) xm_X4_isMark xi_X4_isMark xl_RX1_39 rfl (Nat.le_of_ble_eq_true rfl) (by decide +kernel) ?_
  show XW X 113 [(0, .ref 2), (3, .int l3), (5, .long l5)] [.int (f_x_isMark l3), .ref 5] h
  have kJ_15 : ∀ (w_14 : Int32), w_14 = (if (f_x_isMark l3) = (0 : Int32) then (0 : Int32) else (l3 - (48 : Int32))) → XW X 124 [(5, .long l5)] [.int w_14, .ref 5] h := by
    intro w_14 ew_14
    subst ew_14
    obtain ⟨hg, hf⟩ := xgd_inv hf
    refine Xblk hX pkX1_ok [.dup2, .laload, .lload 5, .lor, .lastore] (pc' := 130) (ls' := [(5, .long l5)]) (st' := []) (h' := (xL h 5 (if (f_x_isMark l3) = (0 : Int32) then (0 : Int32) else (l3 - (48 : Int32))).toNatClampNeg ((h.2 5 (if (f_x_isMark l3) = (0 : Int32) then (0 : Int32) else (l3 - (48 : Int32))).toNatClampNeg) ||| l5))) (g := (xin (if (f_x_isMark l3) = (0 : Int32) then (0 : Int32) else (l3 - (48 : Int32))) 10 && (xin (if (f_x_isMark l3) = (0 : Int32) then (0 : Int32) else (l3 - (48 : Int32))) 10 && true))) (by decide +kernel) rfl rfl hg ?_
    exact XrV2 hX hR hf (by decide +kernel)
  refine Xbr hX (.ifCond .eq (10)) (tgt := 123) (P := (f_x_isMark l3) = (0 : Int32)) (r := [.ref 5]) (by decide +kernel) rfl (by decide) (fun hc_13 => ?_) (fun hc_13 => ?_)
  · refine Xblk hX pkX1_ok [.iconst 0] (pc' := 124) (ls' := [(0, .ref 2), (3, .int l3), (5, .long l5)]) (st' := [.int (0 : Int32), .ref 5]) (h' := h) (g := true) (by decide +kernel) rfl rfl rfl ?_
    refine XW.pick [2] (ls' := [(5, .long l5)]) rfl ?_
    exact kJ_15 _ (by rw [if_pos hc_13])
  · refine Xblk hX pkX1_ok [.iload_n 3, .bipush 48, .isub] (pc' := 120) (ls' := [(0, .ref 2), (3, .int l3), (5, .long l5)]) (st' := [.int (l3 - (48 : Int32)), .ref 5]) (h' := h) (g := true) (by decide +kernel) rfl rfl rfl ?_
    refine Xgoto hX (4) 124 (by decide +kernel) (by decide) ?_
    refine XW.pick [2] (ls' := [(5, .long l5)]) rfl ?_
    exact kJ_15 _ (by rw [if_neg hc_13])
set_option maxRecDepth 100000 in
set_option maxHeartbeats 4000000 in
theorem f_hall_put_j_6_ok {X : XCtx} (hX : XOk X RX1 cX1_put 7 1 39) {h' : Hp} (hR : XR X none none h')   (l3 : Int32) (l4 : Int32) (l5 : Int64) (h : Hp)  (hf : f_hall_put_j_6 l3 l4 l5 h = some h') : XW X 69 [(0, .ref 2), (3, .int l3), (4, .int l4), (5, .long l5)] [] h := by
  unfold f_hall_put_j_6 at hf
  refine Xblk hX pkX1_ok [.iload_n 3, .bipush 68] (pc' := 72) (ls' := [(0, .ref 2), (3, .int l3), (4, .int l4), (5, .long l5)]) (st' := [.int (68 : Int32), .int l3]) (h' := h) (g := true) (by decide +kernel) rfl rfl rfl ?_
  refine XbrN hX (.if_icmp .ne (33)) (tgt := 105) (P := l3 = (68 : Int32)) (r := []) (by decide +kernel) rfl (by decide) (fun hc_9 => ?_) (fun hc_9 => ?_)
  · replace hf := xif_t hc_9 hf
    refine Xblk hX pkX1_ok [.aload_n 0, .getfield 28, .bipush 8] (pc' := 81) (ls' := [(0, .ref 2), (3, .int l3), (4, .int l4), (5, .long l5)]) (st' := [.int (8 : Int32), .int (h.1 2 3)]) (h' := h) (g := true) (by decide +kernel) rfl rfl rfl ?_
    refine Xbr hX (.if_icmp .ge (24)) (tgt := 105) (P := (8 : Int32) ≤ (h.1 2 3)) (r := []) (by decide +kernel) rfl (by decide) (fun hc_11 => ?_) (fun hc_11 => ?_)
    · replace hf := xif_t hc_11 hf
      refine XW.pick [0, 1, 3] (ls' := [(0, .ref 2), (3, .int l3), (5, .long l5)]) rfl ?_
      exact f_hall_put_j_12_ok hX hR l3 l5 h hf
    · replace hf := xif_f hc_11 hf
      obtain ⟨hg, hf⟩ := xgd_inv hf
      refine Xblk hX pkX1_ok [.aload_n 0, .getfield 15, .aload_n 0, .getfield 28, .iload 4, .iastore, .aload_n 0, .dup, .getfield 28, .iconst 1, .iadd, .putfield 28] (pc' := 105) (ls' := [(0, .ref 2), (3, .int l3), (4, .int l4), (5, .long l5)]) (st' := []) (h' := (xI (xI h 4 (h.1 2 3).toNatClampNeg l4) 2 3 ((h.1 2 3) + (1 : Int32)))) (g := (xin (h.1 2 3) 8 && true)) (by decide +kernel) rfl rfl hg ?_
      refine XW.pick [0, 1, 3] (ls' := [(0, .ref 2), (3, .int l3), (5, .long l5)]) rfl ?_
      exact f_hall_put_j_12_ok hX hR l3 l5 (xI (xI h 4 (h.1 2 3).toNatClampNeg l4) 2 3 ((h.1 2 3) + (1 : Int32))) hf
  · replace hf := xif_f hc_9 hf
    refine XW.pick [0, 1, 3] (ls' := [(0, .ref 2), (3, .int l3), (5, .long l5)]) rfl ?_
    exact f_hall_put_j_12_ok hX hR l3 l5 h hf
set_option maxRecDepth 100000 in
set_option maxHeartbeats 4000000 in
theorem mt_hall_put (l1 : Int32) (l2 : Int32) (l3 : Int32) (h : Hp) {h' : Hp} (hf : f_hall_put l1 l2 l3 h = some h') : MT 1 39 yX1_put cX1_put 7 none [.ref 2, .int l1, .int l2, .int l3] h none h' := by
  refine MT.of (by decide +kernel) (Nat.le_of_ble_eq_true rfl) fun X hX hR => ?_
  unfold f_hall_put at hf
  refine Xblk hX pkX1_ok [.iload_n 1, .bipush 8] (pc' := 3) (ls' := [(0, .ref 2), (1, .int l1), (2, .int l2), (3, .int l3)]) (st' := [.int (8 : Int32), .int l1]) (h' := h) (g := true) (by decide +kernel) rfl rfl rfl ?_
  refine Xbr hX (.if_icmp .ge (9)) (tgt := 12) (P := (8 : Int32) ≤ l1) (r := []) (by decide +kernel) rfl (by decide) (fun hc_1 => ?_) (fun hc_1 => ?_)
  · replace hf := xif_t hc_1 hf
    exact XrV2 hX hR hf (by decide +kernel)
  · replace hf := xif_f hc_1 hf
    refine Xblk hX pkX1_ok [.iload_n 2, .bipush 8] (pc' := 9) (ls' := [(0, .ref 2), (1, .int l1), (2, .int l2), (3, .int l3)]) (st' := [.int (8 : Int32), .int l2]) (h' := h) (g := true) (by decide +kernel) rfl rfl rfl ?_
    refine Xbr hX (.if_icmp .lt (4)) (tgt := 13) (P := l2 < (8 : Int32)) (r := []) (by decide +kernel) rfl (by decide) (fun hc_2 => ?_) (fun hc_2 => ?_)
    · replace hf := xif_t hc_2 hf
      obtain ⟨hg, hf⟩ := xgd_inv hf
      refine Xblk hX pkX1_ok [.bipush 8, .iload_n 2, .imul, .iload_n 1, .iadd, .istore 4, .lconst 1, .iload 4, .lshl, .lstore 5, .aload_n 0, .getfield 9, .iload 4, .iload_n 3, .iastore, .aload_n 0, .dup, .getfield 32, .lload 5, .lor, .putfield 32, .iload_n 3, .bipush 35] (pc' := 49) (ls' := [(5, .long (jshlL (1 : Int64) (((8 : Int32) * l2) + l1))), (4, .int (((8 : Int32) * l2) + l1)), (0, .ref 2), (1, .int l1), (2, .int l2), (3, .int l3)]) (st' := [.int (35 : Int32), .int l3]) (h' := (xL (xI h 3 (((8 : Int32) * l2) + l1).toNatClampNeg l3) 2 4 ((h.2 2 4) ||| (jshlL (1 : Int64) (((8 : Int32) * l2) + l1))))) (g := (xin (((8 : Int32) * l2) + l1) 64 && true)) (by decide +kernel) rfl rfl hg ?_
      refine Xbr hX (.if_icmp .eq (20)) (tgt := 69) (P := l3 = (35 : Int32)) (r := []) (by decide +kernel) rfl (by decide) (fun hc_5 => ?_) (fun hc_5 => ?_)
      · replace hf := xif_t hc_5 hf
        refine XW.pick [2, 5, 1, 0] (ls' := [(0, .ref 2), (3, .int l3), (4, .int (((8 : Int32) * l2) + l1)), (5, .long (jshlL (1 : Int64) (((8 : Int32) * l2) + l1)))]) rfl ?_
        exact f_hall_put_j_6_ok hX hR l3 (((8 : Int32) * l2) + l1) (jshlL (1 : Int64) (((8 : Int32) * l2) + l1)) (xL (xI h 3 (((8 : Int32) * l2) + l1).toNatClampNeg l3) 2 4 ((h.2 2 4) ||| (jshlL (1 : Int64) (((8 : Int32) * l2) + l1)))) hf
      · replace hf := xif_f hc_5 hf
        refine Xblk hX pkX1_ok [.iload_n 3, .bipush 68] (pc' := 55) (ls' := [(5, .long (jshlL (1 : Int64) (((8 : Int32) * l2) + l1))), (4, .int (((8 : Int32) * l2) + l1)), (0, .ref 2), (1, .int l1), (2, .int l2), (3, .int l3)]) (st' := [.int (68 : Int32), .int l3]) (h' := (xL (xI h 3 (((8 : Int32) * l2) + l1).toNatClampNeg l3) 2 4 ((h.2 2 4) ||| (jshlL (1 : Int64) (((8 : Int32) * l2) + l1))))) (g := true) (by decide +kernel) rfl rfl rfl ?_
        refine Xbr hX (.if_icmp .eq (14)) (tgt := 69) (P := l3 = (68 : Int32)) (r := []) (by decide +kernel) rfl (by decide) (fun hc_17 => ?_) (fun hc_17 => ?_)
        · replace hf := xif_t hc_17 hf
          refine XW.pick [2, 5, 1, 0] (ls' := [(0, .ref 2), (3, .int l3), (4, .int (((8 : Int32) * l2) + l1)), (5, .long (jshlL (1 : Int64) (((8 : Int32) * l2) + l1)))]) rfl ?_
          exact f_hall_put_j_6_ok hX hR l3 (((8 : Int32) * l2) + l1) (jshlL (1 : Int64) (((8 : Int32) * l2) + l1)) (xL (xI h 3 (((8 : Int32) * l2) + l1).toNatClampNeg l3) 2 4 ((h.2 2 4) ||| (jshlL (1 : Int64) (((8 : Int32) * l2) + l1)))) hf
        · replace hf := xif_f hc_17 hf
          refine Xblk hX pkX1_ok [.aload_n 0, .dup, .getfield 36, .lload 5, .lor, .putfield 36] (pc' := 69) (ls' := [(5, .long (jshlL (1 : Int64) (((8 : Int32) * l2) + l1))), (4, .int (((8 : Int32) * l2) + l1)), (0, .ref 2), (1, .int l1), (2, .int l2), (3, .int l3)]) (st' := []) (h' := (xL (xL (xI h 3 (((8 : Int32) * l2) + l1).toNatClampNeg l3) 2 4 ((h.2 2 4) ||| (jshlL (1 : Int64) (((8 : Int32) * l2) + l1)))) 2 5 ((h.2 2 5) ||| (jshlL (1 : Int64) (((8 : Int32) * l2) + l1))))) (g := true) (by decide +kernel) rfl rfl rfl ?_
          refine XW.pick [2, 5, 1, 0] (ls' := [(0, .ref 2), (3, .int l3), (4, .int (((8 : Int32) * l2) + l1)), (5, .long (jshlL (1 : Int64) (((8 : Int32) * l2) + l1)))]) rfl ?_
          exact f_hall_put_j_6_ok hX hR l3 (((8 : Int32) * l2) + l1) (jshlL (1 : Int64) (((8 : Int32) * l2) + l1)) (xL (xL (xI h 3 (((8 : Int32) * l2) + l1).toNatClampNeg l3) 2 4 ((h.2 2 4) ||| (jshlL (1 : Int64) (((8 : Int32) * l2) + l1)))) 2 5 ((h.2 2 5) ||| (jshlL (1 : Int64) (((8 : Int32) * l2) + l1)))) hf
    · replace hf := xif_f hc_2 hf
      exact XrV2 hX hR hf (by decide +kernel)
def f_scene_empty_6  (h : Hp) : Hp :=
  (xI (xI (xI (xI h 6 6 (0 : Int32)) 6 7 (0 : Int32)) 6 8 (0 : Int32)) 6 9 (0 : Int32))
set_option maxRecDepth 100000 in
set_option maxHeartbeats 4000000 in
theorem mt_scene_empty_6  (h : Hp) : MT 0 39 yX3_empty cX3_empty 1 none [.ref 6] h none (f_scene_empty_6 h) := by
  obtain ⟨o, hf⟩ : ∃ o, f_scene_empty_6 h = o := ⟨_, rfl⟩
  rw [hf]
  refine MT.of (by decide +kernel) (Nat.le_of_ble_eq_true rfl) fun X hX hR => ?_
  unfold f_scene_empty_6 at hf
  refine Xblk hX pkX3_ok [.aload_n 0, .iconst 0, .putfield 30, .aload_n 0, .iconst 0, .putfield 34, .aload_n 0, .iconst 0, .putfield 37, .aload_n 0, .iconst 0, .putfield 40] (pc' := 20) (ls' := [(0, .ref 6)]) (st' := []) (h' := (xI (xI (xI (xI h 6 6 (0 : Int32)) 6 7 (0 : Int32)) 6 8 (0 : Int32)) 6 9 (0 : Int32))) (g := true) (by decide +kernel) rfl rfl rfl ?_
  subst hf
  exact XretV hX hR (by decide +kernel)
def f_orders_empty  (h : Hp) : Hp :=
  (xI (xI h 30 7 (0 : Int32)) 30 10 (0 : Int32))
set_option maxRecDepth 100000 in
set_option maxHeartbeats 4000000 in
theorem mt_orders_empty  (h : Hp) : MT 0 39 yX2_empty cX2_empty 1 none [.ref 30] h none (f_orders_empty h) := by
  obtain ⟨o, hf⟩ : ∃ o, f_orders_empty h = o := ⟨_, rfl⟩
  rw [hf]
  refine MT.of (by decide +kernel) (Nat.le_of_ble_eq_true rfl) fun X hX hR => ?_
  unfold f_orders_empty at hf
  refine Xblk hX pkX2_ok [.aload_n 0, .iconst 0, .putfield 33, .aload_n 0, .iconst 0, .putfield 37] (pc' := 10) (ls' := [(0, .ref 30)]) (st' := []) (h' := (xI (xI h 30 7 (0 : Int32)) 30 10 (0 : Int32))) (g := true) (by decide +kernel) rfl rfl rfl ?_
  subst hf
  exact XretV hX hR (by decide +kernel)
def f_x_becomeHall_L_3    (k : Int32 → Int32 → Int32 → Hp → Option (Hp)) : Nat → Int32 → Int32 → Int32 → Hp → Option (Hp)
  | 0, _, _, _, _ => none
  | n + 1, l1, l2, l3, h =>
    if (h.1 0 1) ≤ l3 then
      k l1 l2 l3 h
    else
      xgd (xin l3 80 && true) <|
      if (h.1 1 l3.toNatClampNeg) = (47 : Int32) then
        (f_x_becomeHall_L_3 k n) (0 : Int32) (l2 + (1 : Int32)) (l3 + (1 : Int32)) h
      else
        xgd (xin l3 80 && true) <|
        xbd1 (f_hall_put l1 l2 (h.1 1 l3.toNatClampNeg) h) fun h_8 =>
        (f_x_becomeHall_L_3 k n) (l1 + (1 : Int32)) l2 (l3 + (1 : Int32)) h_8
def f_x_becomeHall_L_13    (k : Int32 → Hp → Option (Hp)) : Nat → Int32 → Hp → Option (Hp)
  | 0, _, _ => none
  | n + 1, l3, h =>
    if (2 : Int32) ≤ l3 then
      k l3 h
    else
      if l3 = (0 : Int32) then
        (f_x_becomeHall_L_13 k n) (l3 + (1 : Int32)) (xI h 14 10 (0 : Int32))
      else if l3 = (1 : Int32) then
        (f_x_becomeHall_L_13 k n) (l3 + (1 : Int32)) (xI h 21 10 (0 : Int32))
      else none
def f_x_becomeHall  (h : Hp) : Option (Hp) :=
  xbd1 (f_hall_empty h) fun h_2 =>
  f_x_becomeHall_L_3 (fun l1_9 l2_10 l3_11 h_12 =>
    f_x_becomeHall_L_13 (fun l3_17 h_18 =>
      some (f_orders_empty h_18)
      ) 1000 (0 : Int32) (f_scene_empty_6 (xL (xI h_12 0 1 (0 : Int32)) 0 8 (h_12.2 2 5)))
    ) 1000 (0 : Int32) (0 : Int32) (0 : Int32) h_2
set_option maxRecDepth 100000 in
set_option maxHeartbeats 4000000 in
theorem f_x_becomeHall_L_3_ok {X : XCtx} (hX : XOk X RX4 cX4_becomeHall 4 2 39) {h' : Hp} (hR : XR X none none h')    (k : Int32 → Int32 → Int32 → Hp → Option (Hp))  (hk : ∀ (l1 : Int32) (l2 : Int32) (l3 : Int32) (h : Hp), k l1 l2 l3 h = some h' → XW X 64 [(0, .ref 0)] [] h) : ∀ (n : Nat) (l1 : Int32) (l2 : Int32) (l3 : Int32) (h : Hp), f_x_becomeHall_L_3 k n l1 l2 l3 h = some h' → XW X 13 [(0, .ref 0), (1, .int l1), (2, .int l2), (3, .int l3)] [] h := by
  intro n
  induction n with
  | zero => intro l1 l2 l3 h hf; cases hf
  | succ n ih =>
    intro l1 l2 l3 h hf
    rw [f_x_becomeHall_L_3] at hf
    refine Xblk hX pkX4_ok [.iload_n 3, .aload_n 0, .getfield 58] (pc' := 18) (ls' := [(0, .ref 0), (1, .int l1), (2, .int l2), (3, .int l3)]) (st' := [.int (h.1 0 1), .int l3]) (h' := h) (g := true) (by decide +kernel) rfl rfl rfl ?_
    refine Xbr hX (.if_icmp .ge (46)) (tgt := 64) (P := (h.1 0 1) ≤ l3) (r := []) (by decide +kernel) rfl (by decide) (fun hc_4 => ?_) (fun hc_4 => ?_)
    · replace hf := xif_t hc_4 hf
      refine XW.pick [0] (ls' := [(0, .ref 0)]) rfl ?_
      exact hk l1 l2 l3 h hf
    · replace hf := xif_f hc_4 hf
      obtain ⟨hg, hf⟩ := xgd_inv hf
      refine Xblk hX pkX4_ok [.aload_n 0, .getfield 9, .iload_n 3, .iaload, .bipush 47] (pc' := 29) (ls' := [(0, .ref 0), (1, .int l1), (2, .int l2), (3, .int l3)]) (st' := [.int (47 : Int32), .int (h.1 1 l3.toNatClampNeg)]) (h' := h) (g := (xin l3 80 && true)) (by decide +kernel) rfl rfl hg ?_
      refine XbrN hX (.if_icmp .ne (11)) (tgt := 40) (P := (h.1 1 l3.toNatClampNeg) = (47 : Int32)) (r := []) (by decide +kernel) rfl (by decide) (fun hc_6 => ?_) (fun hc_6 => ?_)
      · replace hf := xif_t hc_6 hf
        refine Xblk hX pkX4_ok [.iconst 0, .istore_n 1, .iinc 2 1] (pc' := 37) (ls' := [(2, .int (l2 + (1 : Int32))), (1, .int (0 : Int32)), (0, .ref 0), (3, .int l3)]) (st' := []) (h' := h) (g := true) (by decide +kernel) rfl rfl rfl ?_
        refine Xgoto hX (21) 58 (by decide +kernel) (by decide) ?_
        refine Xblk hX pkX4_ok [.iinc 3 1] (pc' := 61) (ls' := [(3, .int (l3 + (1 : Int32))), (2, .int (l2 + (1 : Int32))), (1, .int (0 : Int32)), (0, .ref 0)]) (st' := []) (h' := h) (g := true) (by decide +kernel) rfl rfl rfl ?_
        refine Xgoto hX (-48) 13 (by decide +kernel) (by decide) ?_
        refine XW.pick [3, 2, 1, 0] (ls' := [(0, .ref 0), (1, .int (0 : Int32)), (2, .int (l2 + (1 : Int32))), (3, .int (l3 + (1 : Int32)))]) rfl ?_
        exact ih (0 : Int32) (l2 + (1 : Int32)) (l3 + (1 : Int32)) h hf
      · replace hf := xif_f hc_6 hf
        obtain ⟨hg, hf⟩ := xgd_inv hf
        refine Xblk hX pkX4_ok [.aload_n 0, .getfield 16, .iload_n 1, .iload_n 2, .aload_n 0, .getfield 9, .iload_n 3, .iaload] (pc' := 52) (ls' := [(0, .ref 0), (1, .int l1), (2, .int l2), (3, .int l3)]) (st' := [.int (h.1 1 l3.toNatClampNeg), .int l2, .int l1, .ref 2]) (h' := h) (g := (xin l3 80 && true)) (by decide +kernel) rfl rfl hg ?_
        obtain ⟨h_8, hc_7, hf⟩ := xbd1_inv hf
        refine XcallV hX (mt_hall_put l1 l2 (h.1 1 l3.toNatClampNeg) h hc_7) (rest := []) (by decide) (by decide) xm_X1_put xi_X1_put xs_X1_put xl_RX4_267 (by decide) (xsh_2) rfl rfl rfl (Nat.le_of_ble_eq_true rfl) (by decide +kernel) ?_
        show XW X 55 [(0, .ref 0), (1, .int l1), (2, .int l2), (3, .int l3)] [] h_8
        refine Xblk hX pkX4_ok [.iinc 1 1, .iinc 3 1] (pc' := 61) (ls' := [(3, .int (l3 + (1 : Int32))), (1, .int (l1 + (1 : Int32))), (0, .ref 0), (2, .int l2)]) (st' := []) (h' := h_8) (g := true) (by decide +kernel) rfl rfl rfl ?_
        refine Xgoto hX (-48) 13 (by decide +kernel) (by decide) ?_
        refine XW.pick [2, 1, 3, 0] (ls' := [(0, .ref 0), (1, .int (l1 + (1 : Int32))), (2, .int l2), (3, .int (l3 + (1 : Int32)))]) rfl ?_
        exact ih (l1 + (1 : Int32)) l2 (l3 + (1 : Int32)) h_8 hf
set_option maxRecDepth 100000 in
set_option maxHeartbeats 4000000 in
theorem f_x_becomeHall_L_13_ok {X : XCtx} (hX : XOk X RX4 cX4_becomeHall 4 2 39) {h' : Hp} (hR : XR X none none h')    (k : Int32 → Hp → Option (Hp))  (hk : ∀ (l3 : Int32) (h : Hp), k l3 h = some h' → XW X 110 [(0, .ref 0)] [] h) : ∀ (n : Nat) (l3 : Int32) (h : Hp), f_x_becomeHall_L_13 k n l3 h = some h' → XW X 89 [(0, .ref 0), (3, .int l3)] [] h := by
  intro n
  induction n with
  | zero => intro l3 h hf; cases hf
  | succ n ih =>
    intro l3 h hf
    rw [f_x_becomeHall_L_13] at hf
    refine Xblk hX pkX4_ok [.iload_n 3, .iconst 2] (pc' := 91) (ls' := [(0, .ref 0), (3, .int l3)]) (st' := [.int (2 : Int32), .int l3]) (h' := h) (g := true) (by decide +kernel) rfl rfl rfl ?_
    refine Xbr hX (.if_icmp .ge (19)) (tgt := 110) (P := (2 : Int32) ≤ l3) (r := []) (by decide +kernel) rfl (by decide) (fun hc_14 => ?_) (fun hc_14 => ?_)
    · replace hf := xif_t hc_14 hf
      refine XW.pick [0] (ls' := [(0, .ref 0)]) rfl ?_
      exact hk l3 h hf
    · replace hf := xif_f hc_14 hf
      refine Xblk hX pkX4_ok [.aload_n 0, .getfield 27, .iload_n 3] (pc' := 99) (ls' := [(0, .ref 0), (3, .int l3)]) (st' := [.int l3, .ref 13]) (h' := h) (g := true) (by decide +kernel) rfl rfl rfl ?_
      by_cases hc_15 : l3 = (0 : Int32)
      · replace hf := xif_t hc_15 hf
        refine Xaald hX (by decide +kernel) (xsh_13) (by decide) (by rw [hc_15]; decide) (t := 14) (by rw [hc_15]; rfl) ?_
        refine Xblk hX pkX4_ok [.iconst 0, .putfield 249, .iinc 3 1] (pc' := 107) (ls' := [(3, .int (l3 + (1 : Int32))), (0, .ref 0)]) (st' := []) (h' := (xI h 14 10 (0 : Int32))) (g := true) (by decide +kernel) rfl rfl rfl ?_
        refine Xgoto hX (-18) 89 (by decide +kernel) (by decide) ?_
        refine XW.pick [1, 0] (ls' := [(0, .ref 0), (3, .int (l3 + (1 : Int32)))]) rfl ?_
        exact ih (l3 + (1 : Int32)) (xI h 14 10 (0 : Int32)) hf
      · replace hf := xif_f hc_15 hf
        by_cases hc_16 : l3 = (1 : Int32)
        · replace hf := xif_t hc_16 hf
          refine Xaald hX (by decide +kernel) (xsh_13) (by decide) (by rw [hc_16]; decide) (t := 21) (by rw [hc_16]; rfl) ?_
          refine Xblk hX pkX4_ok [.iconst 0, .putfield 249, .iinc 3 1] (pc' := 107) (ls' := [(3, .int (l3 + (1 : Int32))), (0, .ref 0)]) (st' := []) (h' := (xI h 21 10 (0 : Int32))) (g := true) (by decide +kernel) rfl rfl rfl ?_
          refine Xgoto hX (-18) 89 (by decide +kernel) (by decide) ?_
          refine XW.pick [1, 0] (ls' := [(0, .ref 0), (3, .int (l3 + (1 : Int32)))]) rfl ?_
          exact ih (l3 + (1 : Int32)) (xI h 21 10 (0 : Int32)) hf
        · replace hf := xif_f hc_16 hf
          cases hf
set_option maxRecDepth 100000 in
set_option maxHeartbeats 4000000 in
theorem mt_x_becomeHall  (h : Hp) {h' : Hp} (hf : f_x_becomeHall h = some h') : MT 2 39 yX4_becomeHall cX4_becomeHall 4 none [.ref 0] h none h' := by
  refine MT.of (by decide +kernel) (Nat.le_of_ble_eq_true rfl) fun X hX hR => ?_
  unfold f_x_becomeHall at hf
  refine Xblk hX pkX4_ok [.aload_n 0, .getfield 16] (pc' := 4) (ls' := [(0, .ref 0)]) (st' := [.ref 2]) (h' := h) (g := true) (by decide +kernel) rfl rfl rfl ?_
  obtain ⟨h_2, hc_1, hf⟩ := xbd1_inv hf
  refine XcallV hX (mt_hall_empty  h hc_1) (rest := []) (by decide) (by decide) xm_X1_empty xi_X1_empty xs_X1_empty xl_RX4_264 (by decide) (xsh_2) rfl rfl rfl (Nat.le_of_ble_eq_true rfl) (by decide +kernel) ?_
  show XW X 7 [(0, .ref 0)] [] h_2
  refine Xblk hX pkX4_ok [.iconst 0, .istore_n 1, .iconst 0, .istore_n 2, .iconst 0, .istore_n 3] (pc' := 13) (ls' := [(3, .int (0 : Int32)), (2, .int (0 : Int32)), (1, .int (0 : Int32)), (0, .ref 0)]) (st' := []) (h' := h_2) (g := true) (by decide +kernel) rfl rfl rfl ?_
  refine XW.pick [3, 2, 1, 0] (ls' := [(0, .ref 0), (1, .int (0 : Int32)), (2, .int (0 : Int32)), (3, .int (0 : Int32))]) rfl ?_
  refine f_x_becomeHall_L_3_ok hX hR  _  (fun l1_9 l2_10 l3_11 h_12 hf => ?_) 1000 (0 : Int32) (0 : Int32) (0 : Int32) h_2 hf
  refine Xblk hX pkX4_ok [.aload_n 0, .iconst 0, .putfield 58, .aload_n 0, .aload_n 0, .getfield 16, .getfield 96, .putfield 101, .aload_n 0, .getfield 23] (pc' := 84) (ls' := [(0, .ref 0)]) (st' := [.ref 6]) (h' := (xL (xI h_12 0 1 (0 : Int32)) 0 8 (h_12.2 2 5))) (g := true) (by decide +kernel) rfl rfl rfl ?_
  refine XcallV hX (mt_scene_empty_6  (xL (xI h_12 0 1 (0 : Int32)) 0 8 (h_12.2 2 5))) (rest := []) (by decide) (by decide) xm_X3_empty xi_X3_empty xs_X3_empty xl_RX4_270 (by decide) (xsh_6) rfl rfl rfl (Nat.le_of_ble_eq_true rfl) (by decide +kernel) ?_
  show XW X 87 [(0, .ref 0)] [] (f_scene_empty_6 (xL (xI h_12 0 1 (0 : Int32)) 0 8 (h_12.2 2 5)))
  refine Xblk hX pkX4_ok [.iconst 0, .istore_n 3] (pc' := 89) (ls' := [(3, .int (0 : Int32)), (0, .ref 0)]) (st' := []) (h' := (f_scene_empty_6 (xL (xI h_12 0 1 (0 : Int32)) 0 8 (h_12.2 2 5)))) (g := true) (by decide +kernel) rfl rfl rfl ?_
  refine XW.pick [1, 0] (ls' := [(0, .ref 0), (3, .int (0 : Int32))]) rfl ?_
  refine f_x_becomeHall_L_13_ok hX hR  _  (fun l3_17 h_18 hf => ?_) 1000 (0 : Int32) (f_scene_empty_6 (xL (xI h_12 0 1 (0 : Int32)) 0 8 (h_12.2 2 5))) hf
  refine Xblk hX pkX4_ok [.aload_n 0, .getfield 41] (pc' := 114) (ls' := [(0, .ref 0)]) (st' := [.ref 30]) (h' := h_18) (g := true) (by decide +kernel) rfl rfl rfl ?_
  refine XcallV hX (mt_orders_empty  h_18) (rest := []) (by decide) (by decide) xm_X2_empty xi_X2_empty xs_X2_empty xl_RX4_271 (by decide) (xsh_30) rfl rfl rfl (Nat.le_of_ble_eq_true rfl) (by decide +kernel) ?_
  show XW X 117 [(0, .ref 0)] [] (f_orders_empty h_18)
  exact XrV2 hX hR hf (by decide +kernel)
def f_x_type_L_4  (l1 : Int64)  (k : Int32 → Hp → Option (Int32 × Hp)) : Nat → Int32 → Hp → Option (Int32 × Hp)
  | 0, _, _ => none
  | n + 1, l4, h =>
    if l4 < (0 : Int32) then
      k l4 h
    else
      xgd (xin (h.1 0 1) 80 && true) <|
      (f_x_type_L_4 l1 k n) (l4 + (-1 : Int32)) (xI (xI h 1 (h.1 0 1).toNatClampNeg ((jushrL l1 ((8 : Int32) * l4)).toInt32 &&& (255 : Int32))) 0 1 ((h.1 0 1) + (1 : Int32)))
def f_x_type (l1 : Int64) (l3 : Int32) (h : Hp) : Option (Int32 × Hp) :=
  if l3 < (1 : Int32) then
    some ((-1 : Int32), h)
  else
    if l3 ≤ (8 : Int32) then
      if ((h.1 0 1) + l3) ≤ (80 : Int32) then
        f_x_type_L_4 l1 (fun l4_6 h_7 =>
          some ((h_7.1 0 1), h_7)
          ) 1000 (l3 - (1 : Int32)) h
      else
        some ((-3 : Int32), h)
    else
      some ((-1 : Int32), h)
set_option maxRecDepth 100000 in
set_option maxHeartbeats 4000000 in
theorem f_x_type_L_4_ok {X : XCtx} (hX : XOk X RX4 cX4_type 5 0 39) {r : Int32} {h' : Hp} (hR : XR X (some .int) (some (.int r)) h')  (l1 : Int64)  (k : Int32 → Hp → Option (Int32 × Hp))  (hk : ∀ (l4 : Int32) (h : Hp), k l4 h = some (r, h') → XW X 74 [(0, .ref 0)] [] h) : ∀ (n : Nat) (l4 : Int32) (h : Hp), f_x_type_L_4 l1 k n l4 h = some (r, h') → XW X 32 [(0, .ref 0), (1, .long l1), (4, .int l4)] [] h := by
  intro n
  induction n with
  | zero => intro l4 h hf; cases hf
  | succ n ih =>
    intro l4 h hf
    rw [f_x_type_L_4] at hf
    refine Xblk hX pkX4_ok [.iload 4] (pc' := 34) (ls' := [(0, .ref 0), (1, .long l1), (4, .int l4)]) (st' := [.int l4]) (h' := h) (g := true) (by decide +kernel) rfl rfl rfl ?_
    refine Xbr hX (.ifCond .lt (40)) (tgt := 74) (P := l4 < (0 : Int32)) (r := []) (by decide +kernel) rfl (by decide) (fun hc_5 => ?_) (fun hc_5 => ?_)
    · replace hf := xif_t hc_5 hf
      refine XW.pick [0] (ls' := [(0, .ref 0)]) rfl ?_
      exact hk l4 h hf
    · replace hf := xif_f hc_5 hf
      obtain ⟨hg, hf⟩ := xgd_inv hf
      refine Xblk hX pkX4_ok [.aload_n 0, .getfield 9, .aload_n 0, .getfield 58, .lload_n 1, .bipush 8, .iload 4, .imul, .lushr, .l2i, .sipush 255, .iand, .iastore, .aload_n 0, .dup, .getfield 58, .iconst 1, .iadd, .putfield 58, .iinc 4 (-1)] (pc' := 71) (ls' := [(4, .int (l4 + (-1 : Int32))), (0, .ref 0), (1, .long l1)]) (st' := []) (h' := (xI (xI h 1 (h.1 0 1).toNatClampNeg ((jushrL l1 ((8 : Int32) * l4)).toInt32 &&& (255 : Int32))) 0 1 ((h.1 0 1) + (1 : Int32)))) (g := (xin (h.1 0 1) 80 && true)) (by decide +kernel) rfl rfl hg ?_
      refine Xgoto hX (-39) 32 (by decide +kernel) (by decide) ?_
      refine XW.pick [1, 2, 0] (ls' := [(0, .ref 0), (1, .long l1), (4, .int (l4 + (-1 : Int32)))]) rfl ?_
      exact ih (l4 + (-1 : Int32)) (xI (xI h 1 (h.1 0 1).toNatClampNeg ((jushrL l1 ((8 : Int32) * l4)).toInt32 &&& (255 : Int32))) 0 1 ((h.1 0 1) + (1 : Int32))) hf
set_option maxRecDepth 100000 in
set_option maxHeartbeats 4000000 in
theorem mt_x_type (l1 : Int64) (l3 : Int32) (h : Hp) {r : Int32} {h' : Hp} (hf : f_x_type l1 l3 h = some (r, h')) : MT 0 39 yX4_type cX4_type 5 (some .int) [.ref 0, .long l1, .int l3] h (some (.int r)) h' := by
  refine MT.of (by decide +kernel) (Nat.le_of_ble_eq_true rfl) fun X hX hR => ?_
  unfold f_x_type at hf
  refine Xblk hX pkX4_ok [.iload_n 3, .iconst 1] (pc' := 2) (ls' := [(0, .ref 0), (1, .long l1), (3, .int l3)]) (st' := [.int (1 : Int32), .int l3]) (h' := h) (g := true) (by decide +kernel) rfl rfl rfl ?_
  refine Xbr hX (.if_icmp .lt (9)) (tgt := 11) (P := l3 < (1 : Int32)) (r := []) (by decide +kernel) rfl (by decide) (fun hc_1 => ?_) (fun hc_1 => ?_)
  · replace hf := xif_t hc_1 hf
    refine Xblk hX pkX4_ok [.iconst (-1)] (pc' := 12) (ls' := [(0, .ref 0), (1, .long l1), (3, .int l3)]) (st' := [.int (-1 : Int32)]) (h' := h) (g := true) (by decide +kernel) rfl rfl rfl ?_
    exact XrI2 hX hR hf (by decide +kernel)
  · replace hf := xif_f hc_1 hf
    refine Xblk hX pkX4_ok [.iload_n 3, .bipush 8] (pc' := 8) (ls' := [(0, .ref 0), (1, .long l1), (3, .int l3)]) (st' := [.int (8 : Int32), .int l3]) (h' := h) (g := true) (by decide +kernel) rfl rfl rfl ?_
    refine Xbr hX (.if_icmp .le (5)) (tgt := 13) (P := l3 ≤ (8 : Int32)) (r := []) (by decide +kernel) rfl (by decide) (fun hc_2 => ?_) (fun hc_2 => ?_)
    · replace hf := xif_t hc_2 hf
      refine Xblk hX pkX4_ok [.aload_n 0, .getfield 58, .iload_n 3, .iadd, .bipush 80] (pc' := 21) (ls' := [(0, .ref 0), (1, .long l1), (3, .int l3)]) (st' := [.int (80 : Int32), .int ((h.1 0 1) + l3)]) (h' := h) (g := true) (by decide +kernel) rfl rfl rfl ?_
      refine Xbr hX (.if_icmp .le (6)) (tgt := 27) (P := ((h.1 0 1) + l3) ≤ (80 : Int32)) (r := []) (by decide +kernel) rfl (by decide) (fun hc_3 => ?_) (fun hc_3 => ?_)
      · replace hf := xif_t hc_3 hf
        refine Xblk hX pkX4_ok [.iload_n 3, .iconst 1, .isub, .istore 4] (pc' := 32) (ls' := [(4, .int (l3 - (1 : Int32))), (0, .ref 0), (1, .long l1), (3, .int l3)]) (st' := []) (h' := h) (g := true) (by decide +kernel) rfl rfl rfl ?_
        refine XW.pick [1, 2, 0] (ls' := [(0, .ref 0), (1, .long l1), (4, .int (l3 - (1 : Int32)))]) rfl ?_
        refine f_x_type_L_4_ok hX hR l1 _  (fun l4_6 h_7 hf => ?_) 1000 (l3 - (1 : Int32)) h hf
        refine Xblk hX pkX4_ok [.aload_n 0, .getfield 58] (pc' := 78) (ls' := [(0, .ref 0)]) (st' := [.int (h_7.1 0 1)]) (h' := h_7) (g := true) (by decide +kernel) rfl rfl rfl ?_
        exact XrI2 hX hR hf (by decide +kernel)
      · replace hf := xif_f hc_3 hf
        refine Xblk hX pkX4_ok [.bipush (-3)] (pc' := 26) (ls' := [(0, .ref 0), (1, .long l1), (3, .int l3)]) (st' := [.int (-3 : Int32)]) (h' := h) (g := true) (by decide +kernel) rfl rfl rfl ?_
        exact XrI2 hX hR hf (by decide +kernel)
    · replace hf := xif_f hc_2 hf
      refine Xblk hX pkX4_ok [.iconst (-1)] (pc' := 12) (ls' := [(0, .ref 0), (1, .long l1), (3, .int l3)]) (st' := [.int (-1 : Int32)]) (h' := h) (g := true) (by decide +kernel) rfl rfl rfl ?_
      exact XrI2 hX hR hf (by decide +kernel)
def f_x_clear  (h : Hp) : Int32 × Hp :=
  ((h.1 0 1), (xI h 0 1 (0 : Int32)))
set_option maxRecDepth 100000 in
set_option maxHeartbeats 4000000 in
theorem mt_x_clear  (h : Hp) : MT 0 39 yX4_clear cX4_clear 2 (some .int) [.ref 0] h (some (.int (f_x_clear h).1)) (f_x_clear h).2 := by
  obtain ⟨o, hf⟩ : ∃ o, f_x_clear h = o := ⟨_, rfl⟩
  rw [hf]
  refine MT.of (by decide +kernel) (Nat.le_of_ble_eq_true rfl) fun X hX hR => ?_
  unfold f_x_clear at hf
  refine Xblk hX pkX4_ok [.aload_n 0, .getfield 58, .istore_n 1, .aload_n 0, .iconst 0, .putfield 58, .iload_n 1] (pc' := 11) (ls' := [(1, .int (h.1 0 1)), (0, .ref 0)]) (st' := [.int (h.1 0 1)]) (h' := (xI h 0 1 (0 : Int32))) (g := true) (by decide +kernel) rfl rfl rfl ?_
  subst hf
  exact XretI hX hR (by decide +kernel)
def f_x_markOf (l0 : Int32) : Int32 :=
  (if (f_x_isMark l0) = (0 : Int32) then (0 : Int32) else (jshl (1 : Int32) (l0 - (48 : Int32))))
set_option maxRecDepth 100000 in
set_option maxHeartbeats 4000000 in
theorem mt_x_markOf (l0 : Int32) (h : Hp) : MT 1 39 yX4_markOf cX4_markOf 1 (some .int) [.int l0] h (some (.int (f_x_markOf l0))) h := by
  obtain ⟨o, hf⟩ : ∃ o, f_x_markOf l0 = o := ⟨_, rfl⟩
  rw [hf]
  refine MT.of (by decide +kernel) (Nat.le_of_ble_eq_true rfl) fun X hX hR => ?_
  unfold f_x_markOf at hf
  refine Xblk hX pkX4_ok [.iload_n 0] (pc' := 1) (ls' := [(0, .int l0)]) (st' := [.int l0]) (h' := h) (g := true) (by decide +kernel) rfl rfl rfl ?_
  refine XcallS hX (mt_x_isMark l0 h) (rest := []) (by decide) (by decide) xm_X4_isMark xi_X4_isMark xl_RX4_261 rfl (Nat.le_of_ble_eq_true rfl) (by decide +kernel) ?_
  show XW X 4 [(0, .int l0)] [.int (f_x_isMark l0)] h
  have kJ_3 : ∀ (w_2 : Int32), w_2 = (if (f_x_isMark l0) = (0 : Int32) then (0 : Int32) else (jshl (1 : Int32) (l0 - (48 : Int32)))) → XW X 17 [] [.int w_2] h := by
    intro w_2 ew_2
    subst ew_2
    subst hf
    exact XretI hX hR (by decide +kernel)
  refine Xbr hX (.ifCond .eq (12)) (tgt := 16) (P := (f_x_isMark l0) = (0 : Int32)) (r := []) (by decide +kernel) rfl (by decide) (fun hc_1 => ?_) (fun hc_1 => ?_)
  · refine Xblk hX pkX4_ok [.iconst 0] (pc' := 17) (ls' := [(0, .int l0)]) (st' := [.int (0 : Int32)]) (h' := h) (g := true) (by decide +kernel) rfl rfl rfl ?_
    refine XW.pick [] (ls' := []) rfl ?_
    exact kJ_3 _ (by rw [if_pos hc_1])
  · refine Xblk hX pkX4_ok [.iconst 1, .iload_n 0, .bipush 48, .isub, .ishl] (pc' := 13) (ls' := [(0, .int l0)]) (st' := [.int (jshl (1 : Int32) (l0 - (48 : Int32)))]) (h' := h) (g := true) (by decide +kernel) rfl rfl rfl ?_
    refine Xgoto hX (4) 17 (by decide +kernel) (by decide) ?_
    refine XW.pick [] (ls' := []) rfl ?_
    exact kJ_3 _ (by rw [if_neg hc_1])
def f_x_isSign (l0 : Int32) : Int32 :=
  if l0 = (46 : Int32) then
    (1 : Int32)
  else
    if l0 = (35 : Int32) then
      (1 : Int32)
    else
      if l0 = (68 : Int32) then
        (1 : Int32)
      else
        if (f_x_isMark l0) = (0 : Int32) then
          (0 : Int32)
        else
          (1 : Int32)
theorem xb_x_isSign (l0 : Int32) : xbool (f_x_isSign l0) = true := by
  unfold f_x_isSign
  (repeat' split) <;> first | rfl | exact xb_m_in _ _ _
set_option maxRecDepth 100000 in
set_option maxHeartbeats 4000000 in
theorem mt_x_isSign (l0 : Int32) (h : Hp) : MT 1 39 yX4_isSign cX4_isSign 1 (some .boolean) [.int l0] h (some (.int (f_x_isSign l0))) h := by
  obtain ⟨o, hf⟩ : ∃ o, f_x_isSign l0 = o := ⟨_, rfl⟩
  rw [hf]
  refine MT.of (by decide +kernel) (Nat.le_of_ble_eq_true rfl) fun X hX hR => ?_
  unfold f_x_isSign at hf
  refine Xblk hX pkX4_ok [.iload_n 0, .bipush 46] (pc' := 3) (ls' := [(0, .int l0)]) (st' := [.int (46 : Int32), .int l0]) (h' := h) (g := true) (by decide +kernel) rfl rfl rfl ?_
  refine Xbr hX (.if_icmp .eq (22)) (tgt := 25) (P := l0 = (46 : Int32)) (r := []) (by decide +kernel) rfl (by decide) (fun hc_1 => ?_) (fun hc_1 => ?_)
  · replace hf := xif_t hc_1 hf
    refine Xblk hX pkX4_ok [.iconst 1] (pc' := 26) (ls' := [(0, .int l0)]) (st' := [.int (1 : Int32)]) (h' := h) (g := true) (by decide +kernel) rfl rfl rfl ?_
    refine Xgoto hX (4) 30 (by decide +kernel) (by decide) ?_
    subst hf
    exact XretZ hX hR (by decide) (by decide +kernel)
  · replace hf := xif_f hc_1 hf
    refine Xblk hX pkX4_ok [.iload_n 0, .bipush 35] (pc' := 9) (ls' := [(0, .int l0)]) (st' := [.int (35 : Int32), .int l0]) (h' := h) (g := true) (by decide +kernel) rfl rfl rfl ?_
    refine Xbr hX (.if_icmp .eq (16)) (tgt := 25) (P := l0 = (35 : Int32)) (r := []) (by decide +kernel) rfl (by decide) (fun hc_2 => ?_) (fun hc_2 => ?_)
    · replace hf := xif_t hc_2 hf
      refine Xblk hX pkX4_ok [.iconst 1] (pc' := 26) (ls' := [(0, .int l0)]) (st' := [.int (1 : Int32)]) (h' := h) (g := true) (by decide +kernel) rfl rfl rfl ?_
      refine Xgoto hX (4) 30 (by decide +kernel) (by decide) ?_
      subst hf
      exact XretZ hX hR (by decide) (by decide +kernel)
    · replace hf := xif_f hc_2 hf
      refine Xblk hX pkX4_ok [.iload_n 0, .bipush 68] (pc' := 15) (ls' := [(0, .int l0)]) (st' := [.int (68 : Int32), .int l0]) (h' := h) (g := true) (by decide +kernel) rfl rfl rfl ?_
      refine Xbr hX (.if_icmp .eq (10)) (tgt := 25) (P := l0 = (68 : Int32)) (r := []) (by decide +kernel) rfl (by decide) (fun hc_3 => ?_) (fun hc_3 => ?_)
      · replace hf := xif_t hc_3 hf
        refine Xblk hX pkX4_ok [.iconst 1] (pc' := 26) (ls' := [(0, .int l0)]) (st' := [.int (1 : Int32)]) (h' := h) (g := true) (by decide +kernel) rfl rfl rfl ?_
        refine Xgoto hX (4) 30 (by decide +kernel) (by decide) ?_
        subst hf
        exact XretZ hX hR (by decide) (by decide +kernel)
      · replace hf := xif_f hc_3 hf
        refine Xblk hX pkX4_ok [.iload_n 0] (pc' := 19) (ls' := [(0, .int l0)]) (st' := [.int l0]) (h' := h) (g := true) (by decide +kernel) rfl rfl rfl ?_
        refine XcallS hX (mt_x_isMark l0 h) (rest := []) (by decide) (by decide) xm_X4_isMark xi_X4_isMark xl_RX4_261 rfl (Nat.le_of_ble_eq_true rfl) (by decide +kernel) ?_
        show XW X 22 [(0, .int l0)] [.int (f_x_isMark l0)] h
        refine Xbr hX (.ifCond .eq (7)) (tgt := 29) (P := (f_x_isMark l0) = (0 : Int32)) (r := []) (by decide +kernel) rfl (by decide) (fun hc_4 => ?_) (fun hc_4 => ?_)
        · replace hf := xif_t hc_4 hf
          refine Xblk hX pkX4_ok [.iconst 0] (pc' := 30) (ls' := [(0, .int l0)]) (st' := [.int (0 : Int32)]) (h' := h) (g := true) (by decide +kernel) rfl rfl rfl ?_
          subst hf
          exact XretZ hX hR (by decide) (by decide +kernel)
        · replace hf := xif_f hc_4 hf
          refine Xblk hX pkX4_ok [.iconst 1] (pc' := 26) (ls' := [(0, .int l0)]) (st' := [.int (1 : Int32)]) (h' := h) (g := true) (by decide +kernel) rfl rfl rfl ?_
          refine Xgoto hX (4) 30 (by decide +kernel) (by decide) ?_
          subst hf
          exact XretZ hX hR (by decide) (by decide +kernel)
def f_x_faultPlace_j_16  (k15 : Int32 → Int32 → Int32 → Int32 → Int32 → Int32 → Option (Int32)) (k164 : Int32 → Int32 → Int32 → Int32 → Int32 → Int32 → Option (Int32)) (l1 : Int32) (l2 : Int32) (l3 : Int32) (l4 : Int32) (l5 : Int32) (l6 : Int32) (l7 : Int32) (l8 : Int32) (h : Hp) : Option (Int32) :=
  k15 l1 l2 (l3 + (1 : Int32)) (l4 + (if l7 = (68 : Int32) then (1 : Int32) else (0 : Int32))) (l5 ||| l8) (l6 + (1 : Int32))
def f_x_faultPlace_L_1   (h : Hp) (k : Int32 → Int32 → Int32 → Int32 → Int32 → Int32 → Option (Int32)) : Nat → Int32 → Int32 → Int32 → Int32 → Int32 → Int32 → Option (Int32)
  | 0, _, _, _, _, _, _ => none
  | n + 1, l1, l2, l3, l4, l5, l6 =>
    if (h.1 0 1) ≤ l6 then
      k l1 l2 l3 l4 l5 l6
    else
      xgd (xin l6 80 && true) <|
      if (h.1 1 l6.toNatClampNeg) = (47 : Int32) then
        if l3 < (if l2 = (1 : Int32) then (2 : Int32) else l1) then
          some l6
        else
          if l2 = (8 : Int32) then
            some l6
          else
            (f_x_faultPlace_L_1 h k n) l3 (l2 + (1 : Int32)) (0 : Int32) l4 l5 (l6 + (1 : Int32))
      else
        if l3 = (if l2 = (1 : Int32) then (8 : Int32) else l1) then
          some l6
        else
          if (f_x_isSign (h.1 1 l6.toNatClampNeg)) = (0 : Int32) then
            some l6
          else
            if (l5 &&& (f_x_markOf (h.1 1 l6.toNatClampNeg))) = (0 : Int32) then
              if (h.1 1 l6.toNatClampNeg) = (68 : Int32) then
                if l4 = (8 : Int32) then
                  some l6
                else
                  f_x_faultPlace_j_16 (f_x_faultPlace_L_1 h k n) k l1 l2 l3 l4 l5 l6 (h.1 1 l6.toNatClampNeg) (f_x_markOf (h.1 1 l6.toNatClampNeg)) h
              else
                f_x_faultPlace_j_16 (f_x_faultPlace_L_1 h k n) k l1 l2 l3 l4 l5 l6 (h.1 1 l6.toNatClampNeg) (f_x_markOf (h.1 1 l6.toNatClampNeg)) h
            else
              some l6
def f_x_faultPlace  (h : Hp) : Option (Int32) :=
  f_x_faultPlace_L_1 h (fun l1_21 l2_22 l3_23 l4_24 l5_25 l6_26 =>
    some (if l2_22 = (1 : Int32) then (h.1 0 1) else (if l1_21 ≤ l3_23 then (-1 : Int32) else (h.1 0 1)))
    ) 1000 (0 : Int32) (1 : Int32) (0 : Int32) (0 : Int32) (0 : Int32) (0 : Int32)
set_option maxRecDepth 100000 in
set_option maxHeartbeats 4000000 in
theorem f_x_faultPlace_j_16_ok {X : XCtx} (hX : XOk X RX4 cX4_faultPlace 9 2 39) {r : Int32} {h : Hp} (hR : XR X (some .int) (some (.int r)) h)   (l1 : Int32) (l2 : Int32) (l3 : Int32) (l4 : Int32) (l5 : Int32) (l6 : Int32) (l7 : Int32) (l8 : Int32) (k15 : Int32 → Int32 → Int32 → Int32 → Int32 → Int32 → Option (Int32)) (k164 : Int32 → Int32 → Int32 → Int32 → Int32 → Int32 → Option (Int32))  (hk15 : ∀ (l1 : Int32) (l2 : Int32) (l3 : Int32) (l4 : Int32) (l5 : Int32) (l6 : Int32), k15 l1 l2 l3 l4 l5 l6 = some r → XW X 15 [(0, .ref 0), (1, .int l1), (2, .int l2), (3, .int l3), (4, .int l4), (5, .int l5), (6, .int l6)] [] h) (hk164 : ∀ (l1 : Int32) (l2 : Int32) (l3 : Int32) (l4 : Int32) (l5 : Int32) (l6 : Int32), k164 l1 l2 l3 l4 l5 l6 = some r → XW X 164 [(0, .ref 0), (1, .int l1), (2, .int l2), (3, .int l3)] [] h) (hf : f_x_faultPlace_j_16 k15 k164 l1 l2 l3 l4 l5 l6 l7 l8 h = some r) : XW X 131 [(0, .ref 0), (1, .int l1), (2, .int l2), (3, .int l3), (4, .int l4), (5, .int l5), (6, .int l6), (7, .int l7), (8, .int l8)] [] h := by
  unfold f_x_faultPlace_j_16 at hf
  refine Xblk hX pkX4_ok [.iload 4, .iload 7, .bipush 68] (pc' := 137) (ls' := [(0, .ref 0), (1, .int l1), (2, .int l2), (3, .int l3), (4, .int l4), (5, .int l5), (6, .int l6), (7, .int l7), (8, .int l8)]) (st' := [.int (68 : Int32), .int l7, .int l4]) (h' := h) (g := true) (by decide +kernel) rfl rfl rfl ?_
  have kJ_19 : ∀ (w_18 : Int32), w_18 = (if l7 = (68 : Int32) then (1 : Int32) else (0 : Int32)) → XW X 145 [(0, .ref 0), (1, .int l1), (2, .int l2), (3, .int l3), (5, .int l5), (6, .int l6), (8, .int l8)] [.int w_18, .int l4] h := by
    intro w_18 ew_18
    subst ew_18
    refine Xblk hX pkX4_ok [.iadd, .istore 4, .iload 5, .iload 8, .ior, .istore 5, .iinc 3 1, .iinc 6 1] (pc' := 161) (ls' := [(6, .int (l6 + (1 : Int32))), (3, .int (l3 + (1 : Int32))), (5, .int (l5 ||| l8)), (4, .int (l4 + (if l7 = (68 : Int32) then (1 : Int32) else (0 : Int32)))), (0, .ref 0), (1, .int l1), (2, .int l2), (8, .int l8)]) (st' := []) (h' := h) (g := true) (by decide +kernel) rfl rfl rfl ?_
    refine Xgoto hX (-146) 15 (by decide +kernel) (by decide) ?_
    refine XW.pick [4, 5, 6, 1, 3, 2, 0] (ls' := [(0, .ref 0), (1, .int l1), (2, .int l2), (3, .int (l3 + (1 : Int32))), (4, .int (l4 + (if l7 = (68 : Int32) then (1 : Int32) else (0 : Int32)))), (5, .int (l5 ||| l8)), (6, .int (l6 + (1 : Int32)))]) rfl ?_
    exact hk15 l1 l2 (l3 + (1 : Int32)) (l4 + (if l7 = (68 : Int32) then (1 : Int32) else (0 : Int32))) (l5 ||| l8) (l6 + (1 : Int32)) hf
  refine XbrN hX (.if_icmp .ne (7)) (tgt := 144) (P := l7 = (68 : Int32)) (r := [.int l4]) (by decide +kernel) rfl (by decide) (fun hc_17 => ?_) (fun hc_17 => ?_)
  · refine Xblk hX pkX4_ok [.iconst 1] (pc' := 141) (ls' := [(0, .ref 0), (1, .int l1), (2, .int l2), (3, .int l3), (4, .int l4), (5, .int l5), (6, .int l6), (7, .int l7), (8, .int l8)]) (st' := [.int (1 : Int32), .int l4]) (h' := h) (g := true) (by decide +kernel) rfl rfl rfl ?_
    refine Xgoto hX (4) 145 (by decide +kernel) (by decide) ?_
    refine XW.pick [0, 1, 2, 3, 5, 6, 8] (ls' := [(0, .ref 0), (1, .int l1), (2, .int l2), (3, .int l3), (5, .int l5), (6, .int l6), (8, .int l8)]) rfl ?_
    exact kJ_19 _ (by rw [if_pos hc_17])
  · refine Xblk hX pkX4_ok [.iconst 0] (pc' := 145) (ls' := [(0, .ref 0), (1, .int l1), (2, .int l2), (3, .int l3), (4, .int l4), (5, .int l5), (6, .int l6), (7, .int l7), (8, .int l8)]) (st' := [.int (0 : Int32), .int l4]) (h' := h) (g := true) (by decide +kernel) rfl rfl rfl ?_
    refine XW.pick [0, 1, 2, 3, 5, 6, 8] (ls' := [(0, .ref 0), (1, .int l1), (2, .int l2), (3, .int l3), (5, .int l5), (6, .int l6), (8, .int l8)]) rfl ?_
    exact kJ_19 _ (by rw [if_neg hc_17])
set_option maxRecDepth 100000 in
set_option maxHeartbeats 4000000 in
theorem f_x_faultPlace_L_1_ok {X : XCtx} (hX : XOk X RX4 cX4_faultPlace 9 2 39) {r : Int32} {h : Hp} (hR : XR X (some .int) (some (.int r)) h)    (k : Int32 → Int32 → Int32 → Int32 → Int32 → Int32 → Option (Int32))  (hk : ∀ (l1 : Int32) (l2 : Int32) (l3 : Int32) (l4 : Int32) (l5 : Int32) (l6 : Int32), k l1 l2 l3 l4 l5 l6 = some r → XW X 164 [(0, .ref 0), (1, .int l1), (2, .int l2), (3, .int l3)] [] h) : ∀ (n : Nat) (l1 : Int32) (l2 : Int32) (l3 : Int32) (l4 : Int32) (l5 : Int32) (l6 : Int32), f_x_faultPlace_L_1 h k n l1 l2 l3 l4 l5 l6 = some r → XW X 15 [(0, .ref 0), (1, .int l1), (2, .int l2), (3, .int l3), (4, .int l4), (5, .int l5), (6, .int l6)] [] h := by
  intro n
  induction n with
  | zero => intro l1 l2 l3 l4 l5 l6 hf; cases hf
  | succ n ih =>
    intro l1 l2 l3 l4 l5 l6 hf
    rw [f_x_faultPlace_L_1] at hf
    refine Xblk hX pkX4_ok [.iload 6, .aload_n 0, .getfield 58] (pc' := 21) (ls' := [(0, .ref 0), (1, .int l1), (2, .int l2), (3, .int l3), (4, .int l4), (5, .int l5), (6, .int l6)]) (st' := [.int (h.1 0 1), .int l6]) (h' := h) (g := true) (by decide +kernel) rfl rfl rfl ?_
    refine Xbr hX (.if_icmp .ge (143)) (tgt := 164) (P := (h.1 0 1) ≤ l6) (r := []) (by decide +kernel) rfl (by decide) (fun hc_2 => ?_) (fun hc_2 => ?_)
    · replace hf := xif_t hc_2 hf
      refine XW.pick [0, 1, 2, 3] (ls' := [(0, .ref 0), (1, .int l1), (2, .int l2), (3, .int l3)]) rfl ?_
      exact hk l1 l2 l3 l4 l5 l6 hf
    · replace hf := xif_f hc_2 hf
      obtain ⟨hg, hf⟩ := xgd_inv hf
      refine Xblk hX pkX4_ok [.aload_n 0, .getfield 9, .iload 6, .iaload, .istore 7, .iload 7, .bipush 47] (pc' := 37) (ls' := [(7, .int (h.1 1 l6.toNatClampNeg)), (0, .ref 0), (1, .int l1), (2, .int l2), (3, .int l3), (4, .int l4), (5, .int l5), (6, .int l6)]) (st' := [.int (47 : Int32), .int (h.1 1 l6.toNatClampNeg)]) (h' := h) (g := (xin l6 80 && true)) (by decide +kernel) rfl rfl hg ?_
      refine XbrN hX (.if_icmp .ne (36)) (tgt := 73) (P := (h.1 1 l6.toNatClampNeg) = (47 : Int32)) (r := []) (by decide +kernel) rfl (by decide) (fun hc_3 => ?_) (fun hc_3 => ?_)
      · replace hf := xif_t hc_3 hf
        refine Xblk hX pkX4_ok [.iload_n 3, .iload_n 2, .iconst 1] (pc' := 43) (ls' := [(7, .int (h.1 1 l6.toNatClampNeg)), (0, .ref 0), (1, .int l1), (2, .int l2), (3, .int l3), (4, .int l4), (5, .int l5), (6, .int l6)]) (st' := [.int (1 : Int32), .int l2, .int l3]) (h' := h) (g := true) (by decide +kernel) rfl rfl rfl ?_
        have kJ_8 : ∀ (w_5 : Int32), w_5 = (if l2 = (1 : Int32) then (2 : Int32) else l1) → XW X 51 [(0, .ref 0), (2, .int l2), (3, .int l3), (4, .int l4), (5, .int l5), (6, .int l6)] [.int w_5, .int l3] h := by
          intro w_5 ew_5
          subst ew_5
          refine Xbr hX (.if_icmp .lt (9)) (tgt := 60) (P := l3 < (if l2 = (1 : Int32) then (2 : Int32) else l1)) (r := []) (by decide +kernel) rfl (by decide) (fun hc_6 => ?_) (fun hc_6 => ?_)
          · replace hf := xif_t hc_6 hf
            refine Xblk hX pkX4_ok [.iload 6] (pc' := 62) (ls' := [(0, .ref 0), (2, .int l2), (3, .int l3), (4, .int l4), (5, .int l5), (6, .int l6)]) (st' := [.int l6]) (h' := h) (g := true) (by decide +kernel) rfl rfl rfl ?_
            exact XrI1 hX hR hf (by decide +kernel)
          · replace hf := xif_f hc_6 hf
            refine Xblk hX pkX4_ok [.iload_n 2, .bipush 8] (pc' := 57) (ls' := [(0, .ref 0), (2, .int l2), (3, .int l3), (4, .int l4), (5, .int l5), (6, .int l6)]) (st' := [.int (8 : Int32), .int l2]) (h' := h) (g := true) (by decide +kernel) rfl rfl rfl ?_
            refine XbrN hX (.if_icmp .ne (6)) (tgt := 63) (P := l2 = (8 : Int32)) (r := []) (by decide +kernel) rfl (by decide) (fun hc_7 => ?_) (fun hc_7 => ?_)
            · replace hf := xif_t hc_7 hf
              refine Xblk hX pkX4_ok [.iload 6] (pc' := 62) (ls' := [(0, .ref 0), (2, .int l2), (3, .int l3), (4, .int l4), (5, .int l5), (6, .int l6)]) (st' := [.int l6]) (h' := h) (g := true) (by decide +kernel) rfl rfl rfl ?_
              exact XrI1 hX hR hf (by decide +kernel)
            · replace hf := xif_f hc_7 hf
              refine Xblk hX pkX4_ok [.iload_n 3, .istore_n 1, .iconst 0, .istore_n 3, .iinc 2 1] (pc' := 70) (ls' := [(2, .int (l2 + (1 : Int32))), (3, .int (0 : Int32)), (1, .int l3), (0, .ref 0), (4, .int l4), (5, .int l5), (6, .int l6)]) (st' := []) (h' := h) (g := true) (by decide +kernel) rfl rfl rfl ?_
              refine Xgoto hX (88) 158 (by decide +kernel) (by decide) ?_
              refine Xblk hX pkX4_ok [.iinc 6 1] (pc' := 161) (ls' := [(6, .int (l6 + (1 : Int32))), (2, .int (l2 + (1 : Int32))), (3, .int (0 : Int32)), (1, .int l3), (0, .ref 0), (4, .int l4), (5, .int l5)]) (st' := []) (h' := h) (g := true) (by decide +kernel) rfl rfl rfl ?_
              refine Xgoto hX (-146) 15 (by decide +kernel) (by decide) ?_
              refine XW.pick [4, 3, 1, 2, 5, 6, 0] (ls' := [(0, .ref 0), (1, .int l3), (2, .int (l2 + (1 : Int32))), (3, .int (0 : Int32)), (4, .int l4), (5, .int l5), (6, .int (l6 + (1 : Int32)))]) rfl ?_
              exact ih l3 (l2 + (1 : Int32)) (0 : Int32) l4 l5 (l6 + (1 : Int32)) hf
        refine XbrN hX (.if_icmp .ne (7)) (tgt := 50) (P := l2 = (1 : Int32)) (r := [.int l3]) (by decide +kernel) rfl (by decide) (fun hc_4 => ?_) (fun hc_4 => ?_)
        · refine Xblk hX pkX4_ok [.iconst 2] (pc' := 47) (ls' := [(7, .int (h.1 1 l6.toNatClampNeg)), (0, .ref 0), (1, .int l1), (2, .int l2), (3, .int l3), (4, .int l4), (5, .int l5), (6, .int l6)]) (st' := [.int (2 : Int32), .int l3]) (h' := h) (g := true) (by decide +kernel) rfl rfl rfl ?_
          refine Xgoto hX (4) 51 (by decide +kernel) (by decide) ?_
          refine XW.pick [1, 3, 4, 5, 6, 7] (ls' := [(0, .ref 0), (2, .int l2), (3, .int l3), (4, .int l4), (5, .int l5), (6, .int l6)]) rfl ?_
          exact kJ_8 _ (by rw [if_pos hc_4])
        · refine Xblk hX pkX4_ok [.iload_n 1] (pc' := 51) (ls' := [(7, .int (h.1 1 l6.toNatClampNeg)), (0, .ref 0), (1, .int l1), (2, .int l2), (3, .int l3), (4, .int l4), (5, .int l5), (6, .int l6)]) (st' := [.int l1, .int l3]) (h' := h) (g := true) (by decide +kernel) rfl rfl rfl ?_
          refine XW.pick [1, 3, 4, 5, 6, 7] (ls' := [(0, .ref 0), (2, .int l2), (3, .int l3), (4, .int l4), (5, .int l5), (6, .int l6)]) rfl ?_
          exact kJ_8 _ (by rw [if_neg hc_4])
      · replace hf := xif_f hc_3 hf
        refine Xblk hX pkX4_ok [.iload 7] (pc' := 75) (ls' := [(7, .int (h.1 1 l6.toNatClampNeg)), (0, .ref 0), (1, .int l1), (2, .int l2), (3, .int l3), (4, .int l4), (5, .int l5), (6, .int l6)]) (st' := [.int (h.1 1 l6.toNatClampNeg)]) (h' := h) (g := true) (by decide +kernel) rfl rfl rfl ?_
        refine XcallS hX (mt_x_markOf (h.1 1 l6.toNatClampNeg) h) (rest := []) (by decide) (by decide) xm_X4_markOf xi_X4_markOf xl_RX4_255 rfl (Nat.le_of_ble_eq_true rfl) (by decide +kernel) ?_
        show XW X 78 [(7, .int (h.1 1 l6.toNatClampNeg)), (0, .ref 0), (1, .int l1), (2, .int l2), (3, .int l3), (4, .int l4), (5, .int l5), (6, .int l6)] [.int (f_x_markOf (h.1 1 l6.toNatClampNeg))] h
        refine Xblk hX pkX4_ok [.istore 8, .iload_n 3, .iload_n 2, .iconst 1] (pc' := 83) (ls' := [(8, .int (f_x_markOf (h.1 1 l6.toNatClampNeg))), (7, .int (h.1 1 l6.toNatClampNeg)), (0, .ref 0), (1, .int l1), (2, .int l2), (3, .int l3), (4, .int l4), (5, .int l5), (6, .int l6)]) (st' := [.int (1 : Int32), .int l2, .int l3]) (h' := h) (g := true) (by decide +kernel) rfl rfl rfl ?_
        have kJ_20 : ∀ (w_10 : Int32), w_10 = (if l2 = (1 : Int32) then (8 : Int32) else l1) → XW X 92 [(0, .ref 0), (1, .int l1), (2, .int l2), (3, .int l3), (4, .int l4), (5, .int l5), (6, .int l6), (7, .int (h.1 1 l6.toNatClampNeg)), (8, .int (f_x_markOf (h.1 1 l6.toNatClampNeg)))] [.int w_10, .int l3] h := by
          intro w_10 ew_10
          subst ew_10
          refine Xbr hX (.if_icmp .eq (19)) (tgt := 111) (P := l3 = (if l2 = (1 : Int32) then (8 : Int32) else l1)) (r := []) (by decide +kernel) rfl (by decide) (fun hc_11 => ?_) (fun hc_11 => ?_)
          · replace hf := xif_t hc_11 hf
            refine Xblk hX pkX4_ok [.iload 6] (pc' := 113) (ls' := [(0, .ref 0), (1, .int l1), (2, .int l2), (3, .int l3), (4, .int l4), (5, .int l5), (6, .int l6), (7, .int (h.1 1 l6.toNatClampNeg)), (8, .int (f_x_markOf (h.1 1 l6.toNatClampNeg)))]) (st' := [.int l6]) (h' := h) (g := true) (by decide +kernel) rfl rfl rfl ?_
            exact XrI1 hX hR hf (by decide +kernel)
          · replace hf := xif_f hc_11 hf
            refine Xblk hX pkX4_ok [.iload 7] (pc' := 97) (ls' := [(0, .ref 0), (1, .int l1), (2, .int l2), (3, .int l3), (4, .int l4), (5, .int l5), (6, .int l6), (7, .int (h.1 1 l6.toNatClampNeg)), (8, .int (f_x_markOf (h.1 1 l6.toNatClampNeg)))]) (st' := [.int (h.1 1 l6.toNatClampNeg)]) (h' := h) (g := true) (by decide +kernel) rfl rfl rfl ?_
            refine XcallS hX (mt_x_isSign (h.1 1 l6.toNatClampNeg) h) (rest := []) (by decide) (by decide) xm_X4_isSign xi_X4_isSign xl_RX4_258 rfl (Nat.le_of_ble_eq_true rfl) (by decide +kernel) ?_
            show XW X 100 [(0, .ref 0), (1, .int l1), (2, .int l2), (3, .int l3), (4, .int l4), (5, .int l5), (6, .int l6), (7, .int (h.1 1 l6.toNatClampNeg)), (8, .int (f_x_markOf (h.1 1 l6.toNatClampNeg)))] [.int (f_x_isSign (h.1 1 l6.toNatClampNeg))] h
            refine Xbr hX (.ifCond .eq (11)) (tgt := 111) (P := (f_x_isSign (h.1 1 l6.toNatClampNeg)) = (0 : Int32)) (r := []) (by decide +kernel) rfl (by decide) (fun hc_12 => ?_) (fun hc_12 => ?_)
            · replace hf := xif_t hc_12 hf
              refine Xblk hX pkX4_ok [.iload 6] (pc' := 113) (ls' := [(0, .ref 0), (1, .int l1), (2, .int l2), (3, .int l3), (4, .int l4), (5, .int l5), (6, .int l6), (7, .int (h.1 1 l6.toNatClampNeg)), (8, .int (f_x_markOf (h.1 1 l6.toNatClampNeg)))]) (st' := [.int l6]) (h' := h) (g := true) (by decide +kernel) rfl rfl rfl ?_
              exact XrI1 hX hR hf (by decide +kernel)
            · replace hf := xif_f hc_12 hf
              refine Xblk hX pkX4_ok [.iload 5, .iload 8, .iand] (pc' := 108) (ls' := [(0, .ref 0), (1, .int l1), (2, .int l2), (3, .int l3), (4, .int l4), (5, .int l5), (6, .int l6), (7, .int (h.1 1 l6.toNatClampNeg)), (8, .int (f_x_markOf (h.1 1 l6.toNatClampNeg)))]) (st' := [.int (l5 &&& (f_x_markOf (h.1 1 l6.toNatClampNeg)))]) (h' := h) (g := true) (by decide +kernel) rfl rfl rfl ?_
              refine Xbr hX (.ifCond .eq (6)) (tgt := 114) (P := (l5 &&& (f_x_markOf (h.1 1 l6.toNatClampNeg))) = (0 : Int32)) (r := []) (by decide +kernel) rfl (by decide) (fun hc_13 => ?_) (fun hc_13 => ?_)
              · replace hf := xif_t hc_13 hf
                refine Xblk hX pkX4_ok [.iload 7, .bipush 68] (pc' := 118) (ls' := [(0, .ref 0), (1, .int l1), (2, .int l2), (3, .int l3), (4, .int l4), (5, .int l5), (6, .int l6), (7, .int (h.1 1 l6.toNatClampNeg)), (8, .int (f_x_markOf (h.1 1 l6.toNatClampNeg)))]) (st' := [.int (68 : Int32), .int (h.1 1 l6.toNatClampNeg)]) (h' := h) (g := true) (by decide +kernel) rfl rfl rfl ?_
                refine XbrN hX (.if_icmp .ne (13)) (tgt := 131) (P := (h.1 1 l6.toNatClampNeg) = (68 : Int32)) (r := []) (by decide +kernel) rfl (by decide) (fun hc_14 => ?_) (fun hc_14 => ?_)
                · replace hf := xif_t hc_14 hf
                  refine Xblk hX pkX4_ok [.iload 4, .bipush 8] (pc' := 125) (ls' := [(0, .ref 0), (1, .int l1), (2, .int l2), (3, .int l3), (4, .int l4), (5, .int l5), (6, .int l6), (7, .int (h.1 1 l6.toNatClampNeg)), (8, .int (f_x_markOf (h.1 1 l6.toNatClampNeg)))]) (st' := [.int (8 : Int32), .int l4]) (h' := h) (g := true) (by decide +kernel) rfl rfl rfl ?_
                  refine XbrN hX (.if_icmp .ne (6)) (tgt := 131) (P := l4 = (8 : Int32)) (r := []) (by decide +kernel) rfl (by decide) (fun hc_15 => ?_) (fun hc_15 => ?_)
                  · replace hf := xif_t hc_15 hf
                    refine Xblk hX pkX4_ok [.iload 6] (pc' := 130) (ls' := [(0, .ref 0), (1, .int l1), (2, .int l2), (3, .int l3), (4, .int l4), (5, .int l5), (6, .int l6), (7, .int (h.1 1 l6.toNatClampNeg)), (8, .int (f_x_markOf (h.1 1 l6.toNatClampNeg)))]) (st' := [.int l6]) (h' := h) (g := true) (by decide +kernel) rfl rfl rfl ?_
                    exact XrI1 hX hR hf (by decide +kernel)
                  · replace hf := xif_f hc_15 hf
                    refine XW.pick [0, 1, 2, 3, 4, 5, 6, 7, 8] (ls' := [(0, .ref 0), (1, .int l1), (2, .int l2), (3, .int l3), (4, .int l4), (5, .int l5), (6, .int l6), (7, .int (h.1 1 l6.toNatClampNeg)), (8, .int (f_x_markOf (h.1 1 l6.toNatClampNeg)))]) rfl ?_
                    exact f_x_faultPlace_j_16_ok hX hR l1 l2 l3 l4 l5 l6 (h.1 1 l6.toNatClampNeg) (f_x_markOf (h.1 1 l6.toNatClampNeg)) _ _ ih hk hf
                · replace hf := xif_f hc_14 hf
                  refine XW.pick [0, 1, 2, 3, 4, 5, 6, 7, 8] (ls' := [(0, .ref 0), (1, .int l1), (2, .int l2), (3, .int l3), (4, .int l4), (5, .int l5), (6, .int l6), (7, .int (h.1 1 l6.toNatClampNeg)), (8, .int (f_x_markOf (h.1 1 l6.toNatClampNeg)))]) rfl ?_
                  exact f_x_faultPlace_j_16_ok hX hR l1 l2 l3 l4 l5 l6 (h.1 1 l6.toNatClampNeg) (f_x_markOf (h.1 1 l6.toNatClampNeg)) _ _ ih hk hf
              · replace hf := xif_f hc_13 hf
                refine Xblk hX pkX4_ok [.iload 6] (pc' := 113) (ls' := [(0, .ref 0), (1, .int l1), (2, .int l2), (3, .int l3), (4, .int l4), (5, .int l5), (6, .int l6), (7, .int (h.1 1 l6.toNatClampNeg)), (8, .int (f_x_markOf (h.1 1 l6.toNatClampNeg)))]) (st' := [.int l6]) (h' := h) (g := true) (by decide +kernel) rfl rfl rfl ?_
                exact XrI1 hX hR hf (by decide +kernel)
        refine XbrN hX (.if_icmp .ne (8)) (tgt := 91) (P := l2 = (1 : Int32)) (r := [.int l3]) (by decide +kernel) rfl (by decide) (fun hc_9 => ?_) (fun hc_9 => ?_)
        · refine Xblk hX pkX4_ok [.bipush 8] (pc' := 88) (ls' := [(8, .int (f_x_markOf (h.1 1 l6.toNatClampNeg))), (7, .int (h.1 1 l6.toNatClampNeg)), (0, .ref 0), (1, .int l1), (2, .int l2), (3, .int l3), (4, .int l4), (5, .int l5), (6, .int l6)]) (st' := [.int (8 : Int32), .int l3]) (h' := h) (g := true) (by decide +kernel) rfl rfl rfl ?_
          refine Xgoto hX (4) 92 (by decide +kernel) (by decide) ?_
          refine XW.pick [2, 3, 4, 5, 6, 7, 8, 1, 0] (ls' := [(0, .ref 0), (1, .int l1), (2, .int l2), (3, .int l3), (4, .int l4), (5, .int l5), (6, .int l6), (7, .int (h.1 1 l6.toNatClampNeg)), (8, .int (f_x_markOf (h.1 1 l6.toNatClampNeg)))]) rfl ?_
          exact kJ_20 _ (by rw [if_pos hc_9])
        · refine Xblk hX pkX4_ok [.iload_n 1] (pc' := 92) (ls' := [(8, .int (f_x_markOf (h.1 1 l6.toNatClampNeg))), (7, .int (h.1 1 l6.toNatClampNeg)), (0, .ref 0), (1, .int l1), (2, .int l2), (3, .int l3), (4, .int l4), (5, .int l5), (6, .int l6)]) (st' := [.int l1, .int l3]) (h' := h) (g := true) (by decide +kernel) rfl rfl rfl ?_
          refine XW.pick [2, 3, 4, 5, 6, 7, 8, 1, 0] (ls' := [(0, .ref 0), (1, .int l1), (2, .int l2), (3, .int l3), (4, .int l4), (5, .int l5), (6, .int l6), (7, .int (h.1 1 l6.toNatClampNeg)), (8, .int (f_x_markOf (h.1 1 l6.toNatClampNeg)))]) rfl ?_
          exact kJ_20 _ (by rw [if_neg hc_9])
set_option maxRecDepth 100000 in
set_option maxHeartbeats 4000000 in
theorem mt_x_faultPlace  (h : Hp) {r : Int32} (hf : f_x_faultPlace h = some r) : MT 2 39 yX4_faultPlace cX4_faultPlace 9 (some .int) [.ref 0] h (some (.int r)) h := by
  refine MT.of (by decide +kernel) (Nat.le_of_ble_eq_true rfl) fun X hX hR => ?_
  unfold f_x_faultPlace at hf
  refine Xblk hX pkX4_ok [.iconst 0, .istore_n 1, .iconst 1, .istore_n 2, .iconst 0, .istore_n 3, .iconst 0, .istore 4, .iconst 0, .istore 5, .iconst 0, .istore 6] (pc' := 15) (ls' := [(6, .int (0 : Int32)), (5, .int (0 : Int32)), (4, .int (0 : Int32)), (3, .int (0 : Int32)), (2, .int (1 : Int32)), (1, .int (0 : Int32)), (0, .ref 0)]) (st' := []) (h' := h) (g := true) (by decide +kernel) rfl rfl rfl ?_
  refine XW.pick [6, 5, 4, 3, 2, 1, 0] (ls' := [(0, .ref 0), (1, .int (0 : Int32)), (2, .int (1 : Int32)), (3, .int (0 : Int32)), (4, .int (0 : Int32)), (5, .int (0 : Int32)), (6, .int (0 : Int32))]) rfl ?_
  refine f_x_faultPlace_L_1_ok hX hR  _  (fun l1_21 l2_22 l3_23 l4_24 l5_25 l6_26 hf => ?_) 1000 (0 : Int32) (1 : Int32) (0 : Int32) (0 : Int32) (0 : Int32) (0 : Int32) hf
  refine Xblk hX pkX4_ok [.iload_n 2, .iconst 1] (pc' := 166) (ls' := [(0, .ref 0), (1, .int l1_21), (2, .int l2_22), (3, .int l3_23)]) (st' := [.int (1 : Int32), .int l2_22]) (h' := h) (g := true) (by decide +kernel) rfl rfl rfl ?_
  have kJ_30 : ∀ (w_29 : Int32), w_29 = (if l2_22 = (1 : Int32) then (h.1 0 1) else (if l1_21 ≤ l3_23 then (-1 : Int32) else (h.1 0 1))) → XW X 182 [] [.int w_29] h := by
    intro w_29 ew_29
    subst ew_29
    exact XrI1 hX hR hf (by decide +kernel)
  refine Xbr hX (.if_icmp .eq (8)) (tgt := 174) (P := l2_22 = (1 : Int32)) (r := []) (by decide +kernel) rfl (by decide) (fun hc_27 => ?_) (fun hc_27 => ?_)
  · refine Xblk hX pkX4_ok [.aload_n 0, .getfield 58] (pc' := 178) (ls' := [(0, .ref 0), (1, .int l1_21), (2, .int l2_22), (3, .int l3_23)]) (st' := [.int (h.1 0 1)]) (h' := h) (g := true) (by decide +kernel) rfl rfl rfl ?_
    refine Xgoto hX (4) 182 (by decide +kernel) (by decide) ?_
    refine XW.pick [] (ls' := []) rfl ?_
    exact kJ_30 _ (by rw [if_pos hc_27])
  · refine Xblk hX pkX4_ok [.iload_n 3, .iload_n 1] (pc' := 171) (ls' := [(0, .ref 0), (1, .int l1_21), (2, .int l2_22), (3, .int l3_23)]) (st' := [.int l1_21, .int l3_23]) (h' := h) (g := true) (by decide +kernel) rfl rfl rfl ?_
    refine Xbr hX (.if_icmp .ge (10)) (tgt := 181) (P := l1_21 ≤ l3_23) (r := []) (by decide +kernel) rfl (by decide) (fun hc_28 => ?_) (fun hc_28 => ?_)
    · refine Xblk hX pkX4_ok [.iconst (-1)] (pc' := 182) (ls' := [(0, .ref 0), (1, .int l1_21), (2, .int l2_22), (3, .int l3_23)]) (st' := [.int (-1 : Int32)]) (h' := h) (g := true) (by decide +kernel) rfl rfl rfl ?_
      refine XW.pick [] (ls' := []) rfl ?_
      exact kJ_30 _ (by rw [if_neg hc_27, if_pos hc_28])
    · refine Xblk hX pkX4_ok [.aload_n 0, .getfield 58] (pc' := 178) (ls' := [(0, .ref 0), (1, .int l1_21), (2, .int l2_22), (3, .int l3_23)]) (st' := [.int (h.1 0 1)]) (h' := h) (g := true) (by decide +kernel) rfl rfl rfl ?_
      refine Xgoto hX (4) 182 (by decide +kernel) (by decide) ?_
      refine XW.pick [] (ls' := []) rfl ?_
      exact kJ_30 _ (by rw [if_neg hc_27, if_neg hc_28])
def f_j_bitCount (l0 : Int64) : Int32 :=
  (((((((((l0 - ((jushrL l0 (1 : Int32)) &&& (6148914691236517205 : Int64))) &&& (3689348814741910323 : Int64)) + ((jushrL (l0 - ((jushrL l0 (1 : Int32)) &&& (6148914691236517205 : Int64))) (2 : Int32)) &&& (3689348814741910323 : Int64))) + (jushrL (((l0 - ((jushrL l0 (1 : Int32)) &&& (6148914691236517205 : Int64))) &&& (3689348814741910323 : Int64)) + ((jushrL (l0 - ((jushrL l0 (1 : Int32)) &&& (6148914691236517205 : Int64))) (2 : Int32)) &&& (3689348814741910323 : Int64))) (4 : Int32))) &&& (1085102592571150095 : Int64)) + (jushrL (((((l0 - ((jushrL l0 (1 : Int32)) &&& (6148914691236517205 : Int64))) &&& (3689348814741910323 : Int64)) + ((jushrL (l0 - ((jushrL l0 (1 : Int32)) &&& (6148914691236517205 : Int64))) (2 : Int32)) &&& (3689348814741910323 : Int64))) + (jushrL (((l0 - ((jushrL l0 (1 : Int32)) &&& (6148914691236517205 : Int64))) &&& (3689348814741910323 : Int64)) + ((jushrL (l0 - ((jushrL l0 (1 : Int32)) &&& (6148914691236517205 : Int64))) (2 : Int32)) &&& (3689348814741910323 : Int64))) (4 : Int32))) &&& (1085102592571150095 : Int64)) (8 : Int32))) + (jushrL ((((((l0 - ((jushrL l0 (1 : Int32)) &&& (6148914691236517205 : Int64))) &&& (3689348814741910323 : Int64)) + ((jushrL (l0 - ((jushrL l0 (1 : Int32)) &&& (6148914691236517205 : Int64))) (2 : Int32)) &&& (3689348814741910323 : Int64))) + (jushrL (((l0 - ((jushrL l0 (1 : Int32)) &&& (6148914691236517205 : Int64))) &&& (3689348814741910323 : Int64)) + ((jushrL (l0 - ((jushrL l0 (1 : Int32)) &&& (6148914691236517205 : Int64))) (2 : Int32)) &&& (3689348814741910323 : Int64))) (4 : Int32))) &&& (1085102592571150095 : Int64)) + (jushrL (((((l0 - ((jushrL l0 (1 : Int32)) &&& (6148914691236517205 : Int64))) &&& (3689348814741910323 : Int64)) + ((jushrL (l0 - ((jushrL l0 (1 : Int32)) &&& (6148914691236517205 : Int64))) (2 : Int32)) &&& (3689348814741910323 : Int64))) + (jushrL (((l0 - ((jushrL l0 (1 : Int32)) &&& (6148914691236517205 : Int64))) &&& (3689348814741910323 : Int64)) + ((jushrL (l0 - ((jushrL l0 (1 : Int32)) &&& (6148914691236517205 : Int64))) (2 : Int32)) &&& (3689348814741910323 : Int64))) (4 : Int32))) &&& (1085102592571150095 : Int64)) (8 : Int32))) (16 : Int32))) + (jushrL (((((((l0 - ((jushrL l0 (1 : Int32)) &&& (6148914691236517205 : Int64))) &&& (3689348814741910323 : Int64)) + ((jushrL (l0 - ((jushrL l0 (1 : Int32)) &&& (6148914691236517205 : Int64))) (2 : Int32)) &&& (3689348814741910323 : Int64))) + (jushrL (((l0 - ((jushrL l0 (1 : Int32)) &&& (6148914691236517205 : Int64))) &&& (3689348814741910323 : Int64)) + ((jushrL (l0 - ((jushrL l0 (1 : Int32)) &&& (6148914691236517205 : Int64))) (2 : Int32)) &&& (3689348814741910323 : Int64))) (4 : Int32))) &&& (1085102592571150095 : Int64)) + (jushrL (((((l0 - ((jushrL l0 (1 : Int32)) &&& (6148914691236517205 : Int64))) &&& (3689348814741910323 : Int64)) + ((jushrL (l0 - ((jushrL l0 (1 : Int32)) &&& (6148914691236517205 : Int64))) (2 : Int32)) &&& (3689348814741910323 : Int64))) + (jushrL (((l0 - ((jushrL l0 (1 : Int32)) &&& (6148914691236517205 : Int64))) &&& (3689348814741910323 : Int64)) + ((jushrL (l0 - ((jushrL l0 (1 : Int32)) &&& (6148914691236517205 : Int64))) (2 : Int32)) &&& (3689348814741910323 : Int64))) (4 : Int32))) &&& (1085102592571150095 : Int64)) (8 : Int32))) + (jushrL ((((((l0 - ((jushrL l0 (1 : Int32)) &&& (6148914691236517205 : Int64))) &&& (3689348814741910323 : Int64)) + ((jushrL (l0 - ((jushrL l0 (1 : Int32)) &&& (6148914691236517205 : Int64))) (2 : Int32)) &&& (3689348814741910323 : Int64))) + (jushrL (((l0 - ((jushrL l0 (1 : Int32)) &&& (6148914691236517205 : Int64))) &&& (3689348814741910323 : Int64)) + ((jushrL (l0 - ((jushrL l0 (1 : Int32)) &&& (6148914691236517205 : Int64))) (2 : Int32)) &&& (3689348814741910323 : Int64))) (4 : Int32))) &&& (1085102592571150095 : Int64)) + (jushrL (((((l0 - ((jushrL l0 (1 : Int32)) &&& (6148914691236517205 : Int64))) &&& (3689348814741910323 : Int64)) + ((jushrL (l0 - ((jushrL l0 (1 : Int32)) &&& (6148914691236517205 : Int64))) (2 : Int32)) &&& (3689348814741910323 : Int64))) + (jushrL (((l0 - ((jushrL l0 (1 : Int32)) &&& (6148914691236517205 : Int64))) &&& (3689348814741910323 : Int64)) + ((jushrL (l0 - ((jushrL l0 (1 : Int32)) &&& (6148914691236517205 : Int64))) (2 : Int32)) &&& (3689348814741910323 : Int64))) (4 : Int32))) &&& (1085102592571150095 : Int64)) (8 : Int32))) (16 : Int32))) (32 : Int32))).toInt32 &&& (127 : Int32))
set_option maxRecDepth 100000 in
set_option maxHeartbeats 4000000 in
theorem mt_j_bitCount (l0 : Int64) (h : Hp) : MT 0 39 yJ13_bitCount_95d88 cJ13_bitCount_95d88 2 (some .int) [.long l0] h (some (.int (f_j_bitCount l0))) h := by
  obtain ⟨o, hf⟩ : ∃ o, f_j_bitCount l0 = o := ⟨_, rfl⟩
  rw [hf]
  refine MT.of (by decide +kernel) (Nat.le_of_ble_eq_true rfl) fun X hX hR => ?_
  unfold f_j_bitCount at hf
  refine Xblk hX pkJ13_ok [.lload_n 0, .lload_n 0, .iconst 1, .lushr, .ldc2_w 314, .land, .lsub, .lstore_n 0, .lload_n 0, .ldc2_w 316, .land, .lload_n 0, .iconst 2, .lushr, .ldc2_w 316, .land, .ladd, .lstore_n 0, .lload_n 0, .lload_n 0, .iconst 4, .lushr, .ladd, .ldc2_w 318, .land, .lstore_n 0, .lload_n 0, .lload_n 0, .bipush 8, .lushr, .ladd, .lstore_n 0, .lload_n 0, .lload_n 0, .bipush 16, .lushr, .ladd, .lstore_n 0, .lload_n 0, .lload_n 0, .bipush 32, .lushr, .ladd, .lstore_n 0, .lload_n 0, .l2i, .bipush 127, .iand] (pc' := 60) (ls' := [(0, .long ((((((((l0 - ((jushrL l0 (1 : Int32)) &&& (6148914691236517205 : Int64))) &&& (3689348814741910323 : Int64)) + ((jushrL (l0 - ((jushrL l0 (1 : Int32)) &&& (6148914691236517205 : Int64))) (2 : Int32)) &&& (3689348814741910323 : Int64))) + (jushrL (((l0 - ((jushrL l0 (1 : Int32)) &&& (6148914691236517205 : Int64))) &&& (3689348814741910323 : Int64)) + ((jushrL (l0 - ((jushrL l0 (1 : Int32)) &&& (6148914691236517205 : Int64))) (2 : Int32)) &&& (3689348814741910323 : Int64))) (4 : Int32))) &&& (1085102592571150095 : Int64)) + (jushrL (((((l0 - ((jushrL l0 (1 : Int32)) &&& (6148914691236517205 : Int64))) &&& (3689348814741910323 : Int64)) + ((jushrL (l0 - ((jushrL l0 (1 : Int32)) &&& (6148914691236517205 : Int64))) (2 : Int32)) &&& (3689348814741910323 : Int64))) + (jushrL (((l0 - ((jushrL l0 (1 : Int32)) &&& (6148914691236517205 : Int64))) &&& (3689348814741910323 : Int64)) + ((jushrL (l0 - ((jushrL l0 (1 : Int32)) &&& (6148914691236517205 : Int64))) (2 : Int32)) &&& (3689348814741910323 : Int64))) (4 : Int32))) &&& (1085102592571150095 : Int64)) (8 : Int32))) + (jushrL ((((((l0 - ((jushrL l0 (1 : Int32)) &&& (6148914691236517205 : Int64))) &&& (3689348814741910323 : Int64)) + ((jushrL (l0 - ((jushrL l0 (1 : Int32)) &&& (6148914691236517205 : Int64))) (2 : Int32)) &&& (3689348814741910323 : Int64))) + (jushrL (((l0 - ((jushrL l0 (1 : Int32)) &&& (6148914691236517205 : Int64))) &&& (3689348814741910323 : Int64)) + ((jushrL (l0 - ((jushrL l0 (1 : Int32)) &&& (6148914691236517205 : Int64))) (2 : Int32)) &&& (3689348814741910323 : Int64))) (4 : Int32))) &&& (1085102592571150095 : Int64)) + (jushrL (((((l0 - ((jushrL l0 (1 : Int32)) &&& (6148914691236517205 : Int64))) &&& (3689348814741910323 : Int64)) + ((jushrL (l0 - ((jushrL l0 (1 : Int32)) &&& (6148914691236517205 : Int64))) (2 : Int32)) &&& (3689348814741910323 : Int64))) + (jushrL (((l0 - ((jushrL l0 (1 : Int32)) &&& (6148914691236517205 : Int64))) &&& (3689348814741910323 : Int64)) + ((jushrL (l0 - ((jushrL l0 (1 : Int32)) &&& (6148914691236517205 : Int64))) (2 : Int32)) &&& (3689348814741910323 : Int64))) (4 : Int32))) &&& (1085102592571150095 : Int64)) (8 : Int32))) (16 : Int32))) + (jushrL (((((((l0 - ((jushrL l0 (1 : Int32)) &&& (6148914691236517205 : Int64))) &&& (3689348814741910323 : Int64)) + ((jushrL (l0 - ((jushrL l0 (1 : Int32)) &&& (6148914691236517205 : Int64))) (2 : Int32)) &&& (3689348814741910323 : Int64))) + (jushrL (((l0 - ((jushrL l0 (1 : Int32)) &&& (6148914691236517205 : Int64))) &&& (3689348814741910323 : Int64)) + ((jushrL (l0 - ((jushrL l0 (1 : Int32)) &&& (6148914691236517205 : Int64))) (2 : Int32)) &&& (3689348814741910323 : Int64))) (4 : Int32))) &&& (1085102592571150095 : Int64)) + (jushrL (((((l0 - ((jushrL l0 (1 : Int32)) &&& (6148914691236517205 : Int64))) &&& (3689348814741910323 : Int64)) + ((jushrL (l0 - ((jushrL l0 (1 : Int32)) &&& (6148914691236517205 : Int64))) (2 : Int32)) &&& (3689348814741910323 : Int64))) + (jushrL (((l0 - ((jushrL l0 (1 : Int32)) &&& (6148914691236517205 : Int64))) &&& (3689348814741910323 : Int64)) + ((jushrL (l0 - ((jushrL l0 (1 : Int32)) &&& (6148914691236517205 : Int64))) (2 : Int32)) &&& (3689348814741910323 : Int64))) (4 : Int32))) &&& (1085102592571150095 : Int64)) (8 : Int32))) + (jushrL ((((((l0 - ((jushrL l0 (1 : Int32)) &&& (6148914691236517205 : Int64))) &&& (3689348814741910323 : Int64)) + ((jushrL (l0 - ((jushrL l0 (1 : Int32)) &&& (6148914691236517205 : Int64))) (2 : Int32)) &&& (3689348814741910323 : Int64))) + (jushrL (((l0 - ((jushrL l0 (1 : Int32)) &&& (6148914691236517205 : Int64))) &&& (3689348814741910323 : Int64)) + ((jushrL (l0 - ((jushrL l0 (1 : Int32)) &&& (6148914691236517205 : Int64))) (2 : Int32)) &&& (3689348814741910323 : Int64))) (4 : Int32))) &&& (1085102592571150095 : Int64)) + (jushrL (((((l0 - ((jushrL l0 (1 : Int32)) &&& (6148914691236517205 : Int64))) &&& (3689348814741910323 : Int64)) + ((jushrL (l0 - ((jushrL l0 (1 : Int32)) &&& (6148914691236517205 : Int64))) (2 : Int32)) &&& (3689348814741910323 : Int64))) + (jushrL (((l0 - ((jushrL l0 (1 : Int32)) &&& (6148914691236517205 : Int64))) &&& (3689348814741910323 : Int64)) + ((jushrL (l0 - ((jushrL l0 (1 : Int32)) &&& (6148914691236517205 : Int64))) (2 : Int32)) &&& (3689348814741910323 : Int64))) (4 : Int32))) &&& (1085102592571150095 : Int64)) (8 : Int32))) (16 : Int32))) (32 : Int32))))]) (st' := [.int (((((((((l0 - ((jushrL l0 (1 : Int32)) &&& (6148914691236517205 : Int64))) &&& (3689348814741910323 : Int64)) + ((jushrL (l0 - ((jushrL l0 (1 : Int32)) &&& (6148914691236517205 : Int64))) (2 : Int32)) &&& (3689348814741910323 : Int64))) + (jushrL (((l0 - ((jushrL l0 (1 : Int32)) &&& (6148914691236517205 : Int64))) &&& (3689348814741910323 : Int64)) + ((jushrL (l0 - ((jushrL l0 (1 : Int32)) &&& (6148914691236517205 : Int64))) (2 : Int32)) &&& (3689348814741910323 : Int64))) (4 : Int32))) &&& (1085102592571150095 : Int64)) + (jushrL (((((l0 - ((jushrL l0 (1 : Int32)) &&& (6148914691236517205 : Int64))) &&& (3689348814741910323 : Int64)) + ((jushrL (l0 - ((jushrL l0 (1 : Int32)) &&& (6148914691236517205 : Int64))) (2 : Int32)) &&& (3689348814741910323 : Int64))) + (jushrL (((l0 - ((jushrL l0 (1 : Int32)) &&& (6148914691236517205 : Int64))) &&& (3689348814741910323 : Int64)) + ((jushrL (l0 - ((jushrL l0 (1 : Int32)) &&& (6148914691236517205 : Int64))) (2 : Int32)) &&& (3689348814741910323 : Int64))) (4 : Int32))) &&& (1085102592571150095 : Int64)) (8 : Int32))) + (jushrL ((((((l0 - ((jushrL l0 (1 : Int32)) &&& (6148914691236517205 : Int64))) &&& (3689348814741910323 : Int64)) + ((jushrL (l0 - ((jushrL l0 (1 : Int32)) &&& (6148914691236517205 : Int64))) (2 : Int32)) &&& (3689348814741910323 : Int64))) + (jushrL (((l0 - ((jushrL l0 (1 : Int32)) &&& (6148914691236517205 : Int64))) &&& (3689348814741910323 : Int64)) + ((jushrL (l0 - ((jushrL l0 (1 : Int32)) &&& (6148914691236517205 : Int64))) (2 : Int32)) &&& (3689348814741910323 : Int64))) (4 : Int32))) &&& (1085102592571150095 : Int64)) + (jushrL (((((l0 - ((jushrL l0 (1 : Int32)) &&& (6148914691236517205 : Int64))) &&& (3689348814741910323 : Int64)) + ((jushrL (l0 - ((jushrL l0 (1 : Int32)) &&& (6148914691236517205 : Int64))) (2 : Int32)) &&& (3689348814741910323 : Int64))) + (jushrL (((l0 - ((jushrL l0 (1 : Int32)) &&& (6148914691236517205 : Int64))) &&& (3689348814741910323 : Int64)) + ((jushrL (l0 - ((jushrL l0 (1 : Int32)) &&& (6148914691236517205 : Int64))) (2 : Int32)) &&& (3689348814741910323 : Int64))) (4 : Int32))) &&& (1085102592571150095 : Int64)) (8 : Int32))) (16 : Int32))) + (jushrL (((((((l0 - ((jushrL l0 (1 : Int32)) &&& (6148914691236517205 : Int64))) &&& (3689348814741910323 : Int64)) + ((jushrL (l0 - ((jushrL l0 (1 : Int32)) &&& (6148914691236517205 : Int64))) (2 : Int32)) &&& (3689348814741910323 : Int64))) + (jushrL (((l0 - ((jushrL l0 (1 : Int32)) &&& (6148914691236517205 : Int64))) &&& (3689348814741910323 : Int64)) + ((jushrL (l0 - ((jushrL l0 (1 : Int32)) &&& (6148914691236517205 : Int64))) (2 : Int32)) &&& (3689348814741910323 : Int64))) (4 : Int32))) &&& (1085102592571150095 : Int64)) + (jushrL (((((l0 - ((jushrL l0 (1 : Int32)) &&& (6148914691236517205 : Int64))) &&& (3689348814741910323 : Int64)) + ((jushrL (l0 - ((jushrL l0 (1 : Int32)) &&& (6148914691236517205 : Int64))) (2 : Int32)) &&& (3689348814741910323 : Int64))) + (jushrL (((l0 - ((jushrL l0 (1 : Int32)) &&& (6148914691236517205 : Int64))) &&& (3689348814741910323 : Int64)) + ((jushrL (l0 - ((jushrL l0 (1 : Int32)) &&& (6148914691236517205 : Int64))) (2 : Int32)) &&& (3689348814741910323 : Int64))) (4 : Int32))) &&& (1085102592571150095 : Int64)) (8 : Int32))) + (jushrL ((((((l0 - ((jushrL l0 (1 : Int32)) &&& (6148914691236517205 : Int64))) &&& (3689348814741910323 : Int64)) + ((jushrL (l0 - ((jushrL l0 (1 : Int32)) &&& (6148914691236517205 : Int64))) (2 : Int32)) &&& (3689348814741910323 : Int64))) + (jushrL (((l0 - ((jushrL l0 (1 : Int32)) &&& (6148914691236517205 : Int64))) &&& (3689348814741910323 : Int64)) + ((jushrL (l0 - ((jushrL l0 (1 : Int32)) &&& (6148914691236517205 : Int64))) (2 : Int32)) &&& (3689348814741910323 : Int64))) (4 : Int32))) &&& (1085102592571150095 : Int64)) + (jushrL (((((l0 - ((jushrL l0 (1 : Int32)) &&& (6148914691236517205 : Int64))) &&& (3689348814741910323 : Int64)) + ((jushrL (l0 - ((jushrL l0 (1 : Int32)) &&& (6148914691236517205 : Int64))) (2 : Int32)) &&& (3689348814741910323 : Int64))) + (jushrL (((l0 - ((jushrL l0 (1 : Int32)) &&& (6148914691236517205 : Int64))) &&& (3689348814741910323 : Int64)) + ((jushrL (l0 - ((jushrL l0 (1 : Int32)) &&& (6148914691236517205 : Int64))) (2 : Int32)) &&& (3689348814741910323 : Int64))) (4 : Int32))) &&& (1085102592571150095 : Int64)) (8 : Int32))) (16 : Int32))) (32 : Int32))).toInt32 &&& (127 : Int32))]) (h' := h) (g := true) (by decide +kernel) rfl rfl rfl ?_
  subst hf
  exact XretI hX hR (by decide +kernel)
def f_x_hall  (h : Hp) : Option (Int32 × Hp) :=
  xbd1 (f_x_faultPlace h) fun v_2 =>
  if v_2 = (-1 : Int32) then
    xbd1 (f_x_becomeHall h) fun h_5 =>
    some ((f_j_bitCount (h_5.2 2 4)), h_5)
  else
    some (((-10 : Int32) - v_2), h)
set_option maxRecDepth 100000 in
set_option maxHeartbeats 4000000 in
theorem mt_x_hall  (h : Hp) {r : Int32} {h' : Hp} (hf : f_x_hall h = some (r, h')) : MT 3 39 yX4_hall cX4_hall 2 (some .int) [.ref 0] h (some (.int r)) h' := by
  refine MT.of (by decide +kernel) (Nat.le_of_ble_eq_true rfl) fun X hX hR => ?_
  unfold f_x_hall at hf
  refine Xblk hX pkX4_ok [.aload_n 0] (pc' := 1) (ls' := [(0, .ref 0)]) (st' := [.ref 0]) (h' := h) (g := true) (by decide +kernel) rfl rfl rfl ?_
  obtain ⟨v_2, hc_1, hf⟩ := xbd1_inv hf
  refine XcallV hX (mt_x_faultPlace  h hc_1) (rest := []) (by decide) (by decide) xm_X4_faultPlace xi_X4_faultPlace xs_X4_faultPlace xl_RX4_62 (by decide) (xsh_0) rfl rfl rfl (Nat.le_of_ble_eq_true rfl) (by decide +kernel) ?_
  show XW X 4 [(0, .ref 0)] [.int v_2] h
  refine Xblk hX pkX4_ok [.istore_n 1, .iload_n 1, .iconst (-1)] (pc' := 7) (ls' := [(1, .int v_2), (0, .ref 0)]) (st' := [.int (-1 : Int32), .int v_2]) (h' := h) (g := true) (by decide +kernel) rfl rfl rfl ?_
  refine Xbr hX (.if_icmp .eq (8)) (tgt := 15) (P := v_2 = (-1 : Int32)) (r := []) (by decide +kernel) rfl (by decide) (fun hc_3 => ?_) (fun hc_3 => ?_)
  · replace hf := xif_t hc_3 hf
    refine Xblk hX pkX4_ok [.aload_n 0] (pc' := 16) (ls' := [(1, .int v_2), (0, .ref 0)]) (st' := [.ref 0]) (h' := h) (g := true) (by decide +kernel) rfl rfl rfl ?_
    obtain ⟨h_5, hc_4, hf⟩ := xbd1_inv hf
    refine XcallV hX (mt_x_becomeHall  h hc_4) (rest := []) (by decide) (by decide) xm_X4_becomeHall xi_X4_becomeHall xs_X4_becomeHall xl_RX4_55 (by decide) (xsh_0) rfl rfl rfl (Nat.le_of_ble_eq_true rfl) (by decide +kernel) ?_
    show XW X 19 [(1, .int v_2), (0, .ref 0)] [] h_5
    refine Xblk hX pkX4_ok [.aload_n 0, .getfield 16, .getfield 66] (pc' := 26) (ls' := [(1, .int v_2), (0, .ref 0)]) (st' := [.long (h_5.2 2 4)]) (h' := h_5) (g := true) (by decide +kernel) rfl rfl rfl ?_
    refine XcallS hX (mt_j_bitCount (h_5.2 2 4) h_5) (rest := []) (by decide) (by decide) xm_J13_bitCount_95d88 xi_J13_bitCount_95d88 xl_RX4_70 rfl (Nat.le_of_ble_eq_true rfl) (by decide +kernel) ?_
    show XW X 29 [(1, .int v_2), (0, .ref 0)] [.int (f_j_bitCount (h_5.2 2 4))] h_5
    exact XrI2 hX hR hf (by decide +kernel)
  · replace hf := xif_f hc_3 hf
    refine Xblk hX pkX4_ok [.bipush (-10), .iload_n 1, .isub] (pc' := 14) (ls' := [(1, .int v_2), (0, .ref 0)]) (st' := [.int ((-10 : Int32) - v_2)]) (h' := h) (g := true) (by decide +kernel) rfl rfl rfl ?_
    exact XrI2 hX hR hf (by decide +kernel)
def f_hall_has (l1 : Int32) (h : Hp) : Int32 :=
  if l1 < (0 : Int32) then
    (0 : Int32)
  else
    if (64 : Int32) ≤ l1 then
      (0 : Int32)
    else
      if (lg_cmp ((jushrL (h.2 2 4) l1) &&& (1 : Int64)) (0 : Int64)) = (0 : Int32) then
        (0 : Int32)
      else
        (1 : Int32)
theorem xb_hall_has (l1 : Int32) (h : Hp) : xbool (f_hall_has l1 h) = true := by
  unfold f_hall_has
  (repeat' split) <;> first | rfl | exact xb_m_in _ _ _
set_option maxRecDepth 100000 in
set_option maxHeartbeats 4000000 in
theorem mt_hall_has (l1 : Int32) (h : Hp) : MT 0 39 yX1_has cX1_has 2 (some .boolean) [.ref 2, .int l1] h (some (.int (f_hall_has l1 h))) h := by
  obtain ⟨o, hf⟩ : ∃ o, f_hall_has l1 h = o := ⟨_, rfl⟩
  rw [hf]
  refine MT.of (by decide +kernel) (Nat.le_of_ble_eq_true rfl) fun X hX hR => ?_
  unfold f_hall_has at hf
  refine Xblk hX pkX1_ok [.iload_n 1] (pc' := 1) (ls' := [(0, .ref 2), (1, .int l1)]) (st' := [.int l1]) (h' := h) (g := true) (by decide +kernel) rfl rfl rfl ?_
  refine Xbr hX (.ifCond .lt (26)) (tgt := 27) (P := l1 < (0 : Int32)) (r := []) (by decide +kernel) rfl (by decide) (fun hc_1 => ?_) (fun hc_1 => ?_)
  · replace hf := xif_t hc_1 hf
    refine Xblk hX pkX1_ok [.iconst 0] (pc' := 28) (ls' := [(0, .ref 2), (1, .int l1)]) (st' := [.int (0 : Int32)]) (h' := h) (g := true) (by decide +kernel) rfl rfl rfl ?_
    subst hf
    exact XretZ hX hR (by decide) (by decide +kernel)
  · replace hf := xif_f hc_1 hf
    refine Xblk hX pkX1_ok [.iload_n 1, .bipush 64] (pc' := 7) (ls' := [(0, .ref 2), (1, .int l1)]) (st' := [.int (64 : Int32), .int l1]) (h' := h) (g := true) (by decide +kernel) rfl rfl rfl ?_
    refine Xbr hX (.if_icmp .ge (20)) (tgt := 27) (P := (64 : Int32) ≤ l1) (r := []) (by decide +kernel) rfl (by decide) (fun hc_2 => ?_) (fun hc_2 => ?_)
    · replace hf := xif_t hc_2 hf
      refine Xblk hX pkX1_ok [.iconst 0] (pc' := 28) (ls' := [(0, .ref 2), (1, .int l1)]) (st' := [.int (0 : Int32)]) (h' := h) (g := true) (by decide +kernel) rfl rfl rfl ?_
      subst hf
      exact XretZ hX hR (by decide) (by decide +kernel)
    · replace hf := xif_f hc_2 hf
      refine Xblk hX pkX1_ok [.aload_n 0, .getfield 32, .iload_n 1, .lushr, .lconst 1, .land, .lconst 0, .lcmp] (pc' := 20) (ls' := [(0, .ref 2), (1, .int l1)]) (st' := [.int (lg_cmp ((jushrL (h.2 2 4) l1) &&& (1 : Int64)) (0 : Int64))]) (h' := h) (g := true) (by decide +kernel) rfl rfl rfl ?_
      refine Xbr hX (.ifCond .eq (7)) (tgt := 27) (P := (lg_cmp ((jushrL (h.2 2 4) l1) &&& (1 : Int64)) (0 : Int64)) = (0 : Int32)) (r := []) (by decide +kernel) rfl (by decide) (fun hc_3 => ?_) (fun hc_3 => ?_)
      · replace hf := xif_t hc_3 hf
        refine Xblk hX pkX1_ok [.iconst 0] (pc' := 28) (ls' := [(0, .ref 2), (1, .int l1)]) (st' := [.int (0 : Int32)]) (h' := h) (g := true) (by decide +kernel) rfl rfl rfl ?_
        subst hf
        exact XretZ hX hR (by decide) (by decide +kernel)
      · replace hf := xif_f hc_3 hf
        refine Xblk hX pkX1_ok [.iconst 1] (pc' := 24) (ls' := [(0, .ref 2), (1, .int l1)]) (st' := [.int (1 : Int32)]) (h' := h) (g := true) (by decide +kernel) rfl rfl rfl ?_
        refine Xgoto hX (4) 28 (by decide +kernel) (by decide) ?_
        subst hf
        exact XretZ hX hR (by decide) (by decide +kernel)
def f_x_sign (l1 : Int32) (h : Hp) : Option (Int32) :=
  if (f_hall_has l1 h) = (0 : Int32) then
    some (-1 : Int32)
  else
    xgd (xin l1 64 && true) <|
    some (h.1 3 l1.toNatClampNeg)
set_option maxRecDepth 100000 in
set_option maxHeartbeats 4000000 in
theorem mt_x_sign (l1 : Int32) (h : Hp) {r : Int32} (hf : f_x_sign l1 h = some r) : MT 1 39 yX4_sign cX4_sign 2 (some .int) [.ref 0, .int l1] h (some (.int r)) h := by
  refine MT.of (by decide +kernel) (Nat.le_of_ble_eq_true rfl) fun X hX hR => ?_
  unfold f_x_sign at hf
  refine Xblk hX pkX4_ok [.aload_n 0, .getfield 16, .iload_n 1] (pc' := 5) (ls' := [(0, .ref 0), (1, .int l1)]) (st' := [.int l1, .ref 2]) (h' := h) (g := true) (by decide +kernel) rfl rfl rfl ?_
  refine XcallV hX (mt_hall_has l1 h) (rest := []) (by decide) (by decide) xm_X1_has xi_X1_has xs_X1_has xl_RX4_76 (by decide) (xsh_2) rfl rfl rfl (Nat.le_of_ble_eq_true rfl) (by decide +kernel) ?_
  show XW X 8 [(0, .ref 0), (1, .int l1)] [.int (f_hall_has l1 h)] h
  refine Xbr hX (.ifCond .eq (15)) (tgt := 23) (P := (f_hall_has l1 h) = (0 : Int32)) (r := []) (by decide +kernel) rfl (by decide) (fun hc_2 => ?_) (fun hc_2 => ?_)
  · replace hf := xif_t hc_2 hf
    refine Xblk hX pkX4_ok [.iconst (-1)] (pc' := 24) (ls' := [(0, .ref 0), (1, .int l1)]) (st' := [.int (-1 : Int32)]) (h' := h) (g := true) (by decide +kernel) rfl rfl rfl ?_
    exact XrI1 hX hR hf (by decide +kernel)
  · replace hf := xif_f hc_2 hf
    obtain ⟨hg, hf⟩ := xgd_inv hf
    refine Xblk hX pkX4_ok [.aload_n 0, .getfield 16, .getfield 80, .iload_n 1, .iaload] (pc' := 20) (ls' := [(0, .ref 0), (1, .int l1)]) (st' := [.int (h.1 3 l1.toNatClampNeg)]) (h' := h) (g := (xin l1 64 && true)) (by decide +kernel) rfl rfl hg ?_
    refine Xgoto hX (4) 24 (by decide +kernel) (by decide) ?_
    exact XrI1 hX hR hf (by decide +kernel)
def f_scene_carriersTaken_6_L_1   (h : Hp) (k : Int64 → Int32 → Option (Int64)) : Nat → Int64 → Int32 → Option (Int64)
  | 0, _, _ => none
  | n + 1, l1, l3 =>
    if (h.1 6 7) ≤ l3 then
      k l1 l3
    else
      xgd (xin l3 2 && true) <|
      (f_scene_carriersTaken_6_L_1 h k n) (l1 ||| (jshlL (1 : Int64) (h.1 9 l3.toNatClampNeg))) (l3 + (1 : Int32))
def f_scene_carriersTaken_6  (h : Hp) : Option (Int64) :=
  f_scene_carriersTaken_6_L_1 h (fun l1_3 l3_4 =>
    some l1_3
    ) 1000 (0 : Int64) (0 : Int32)
set_option maxRecDepth 100000 in
set_option maxHeartbeats 4000000 in
theorem f_scene_carriersTaken_6_L_1_ok {X : XCtx} (hX : XOk X RX3 cX3_carriersTaken 4 0 39) {r : Int64} {h : Hp} (hR : XR X (some .long) (some (.long r)) h)    (k : Int64 → Int32 → Option (Int64))  (hk : ∀ (l1 : Int64) (l3 : Int32), k l1 l3 = some r → XW X 29 [(1, .long l1)] [] h) : ∀ (n : Nat) (l1 : Int64) (l3 : Int32), f_scene_carriersTaken_6_L_1 h k n l1 l3 = some r → XW X 4 [(0, .ref 6), (1, .long l1), (3, .int l3)] [] h := by
  intro n
  induction n with
  | zero => intro l1 l3 hf; cases hf
  | succ n ih =>
    intro l1 l3 hf
    rw [f_scene_carriersTaken_6_L_1] at hf
    refine Xblk hX pkX3_ok [.iload_n 3, .aload_n 0, .getfield 34] (pc' := 9) (ls' := [(0, .ref 6), (1, .long l1), (3, .int l3)]) (st' := [.int (h.1 6 7), .int l3]) (h' := h) (g := true) (by decide +kernel) rfl rfl rfl ?_
    refine Xbr hX (.if_icmp .ge (20)) (tgt := 29) (P := (h.1 6 7) ≤ l3) (r := []) (by decide +kernel) rfl (by decide) (fun hc_2 => ?_) (fun hc_2 => ?_)
    · replace hf := xif_t hc_2 hf
      refine XW.pick [1] (ls' := [(1, .long l1)]) rfl ?_
      exact hk l1 l3 hf
    · replace hf := xif_f hc_2 hf
      obtain ⟨hg, hf⟩ := xgd_inv hf
      refine Xblk hX pkX3_ok [.lload_n 1, .lconst 1, .aload_n 0, .getfield 18, .iload_n 3, .iaload, .lshl, .lor, .lstore_n 1, .iinc 3 1] (pc' := 26) (ls' := [(3, .int (l3 + (1 : Int32))), (1, .long (l1 ||| (jshlL (1 : Int64) (h.1 9 l3.toNatClampNeg)))), (0, .ref 6)]) (st' := []) (h' := h) (g := (xin l3 2 && true)) (by decide +kernel) rfl rfl hg ?_
      refine Xgoto hX (-22) 4 (by decide +kernel) (by decide) ?_
      refine XW.pick [2, 1, 0] (ls' := [(0, .ref 6), (1, .long (l1 ||| (jshlL (1 : Int64) (h.1 9 l3.toNatClampNeg)))), (3, .int (l3 + (1 : Int32)))]) rfl ?_
      exact ih (l1 ||| (jshlL (1 : Int64) (h.1 9 l3.toNatClampNeg))) (l3 + (1 : Int32)) hf
set_option maxRecDepth 100000 in
set_option maxHeartbeats 4000000 in
theorem mt_scene_carriersTaken_6  (h : Hp) {r : Int64} (hf : f_scene_carriersTaken_6 h = some r) : MT 0 39 yX3_carriersTaken cX3_carriersTaken 4 (some .long) [.ref 6] h (some (.long r)) h := by
  refine MT.of (by decide +kernel) (Nat.le_of_ble_eq_true rfl) fun X hX hR => ?_
  unfold f_scene_carriersTaken_6 at hf
  refine Xblk hX pkX3_ok [.lconst 0, .lstore_n 1, .iconst 0, .istore_n 3] (pc' := 4) (ls' := [(3, .int (0 : Int32)), (1, .long (0 : Int64)), (0, .ref 6)]) (st' := []) (h' := h) (g := true) (by decide +kernel) rfl rfl rfl ?_
  refine XW.pick [2, 1, 0] (ls' := [(0, .ref 6), (1, .long (0 : Int64)), (3, .int (0 : Int32))]) rfl ?_
  refine f_scene_carriersTaken_6_L_1_ok hX hR  _  (fun l1_3 l3_4 hf => ?_) 1000 (0 : Int64) (0 : Int32) hf
  refine Xblk hX pkX3_ok [.lload_n 1] (pc' := 30) (ls' := [(1, .long l1_3)]) (st' := [.long l1_3]) (h' := h) (g := true) (by decide +kernel) rfl rfl rfl ?_
  exact XrL1 hX hR hf (by decide +kernel)
def f_scene_taken_6_L_3   (h : Hp) (k : Int64 → Int32 → Option (Int64)) : Nat → Int64 → Int32 → Option (Int64)
  | 0, _, _ => none
  | n + 1, l1, l3 =>
    if (h.1 6 6) ≤ l3 then
      k l1 l3
    else
      xgd (xin l3 6 && true) <|
      (f_scene_taken_6_L_3 h k n) (l1 ||| (jshlL (1 : Int64) (h.1 7 l3.toNatClampNeg))) (l3 + (1 : Int32))
def f_scene_taken_6  (h : Hp) : Option (Int64) :=
  xbd1 (f_scene_carriersTaken_6 h) fun v_2 =>
  f_scene_taken_6_L_3 h (fun l1_5 l3_6 =>
    some l1_5
    ) 1000 v_2 (0 : Int32)
set_option maxRecDepth 100000 in
set_option maxHeartbeats 4000000 in
theorem f_scene_taken_6_L_3_ok {X : XCtx} (hX : XOk X RX3 cX3_taken 4 1 39) {r : Int64} {h : Hp} (hR : XR X (some .long) (some (.long r)) h)    (k : Int64 → Int32 → Option (Int64))  (hk : ∀ (l1 : Int64) (l3 : Int32), k l1 l3 = some r → XW X 32 [(1, .long l1)] [] h) : ∀ (n : Nat) (l1 : Int64) (l3 : Int32), f_scene_taken_6_L_3 h k n l1 l3 = some r → XW X 7 [(0, .ref 6), (1, .long l1), (3, .int l3)] [] h := by
  intro n
  induction n with
  | zero => intro l1 l3 hf; cases hf
  | succ n ih =>
    intro l1 l3 hf
    rw [f_scene_taken_6_L_3] at hf
    refine Xblk hX pkX3_ok [.iload_n 3, .aload_n 0, .getfield 30] (pc' := 12) (ls' := [(0, .ref 6), (1, .long l1), (3, .int l3)]) (st' := [.int (h.1 6 6), .int l3]) (h' := h) (g := true) (by decide +kernel) rfl rfl rfl ?_
    refine Xbr hX (.if_icmp .ge (20)) (tgt := 32) (P := (h.1 6 6) ≤ l3) (r := []) (by decide +kernel) rfl (by decide) (fun hc_4 => ?_) (fun hc_4 => ?_)
    · replace hf := xif_t hc_4 hf
      refine XW.pick [1] (ls' := [(1, .long l1)]) rfl ?_
      exact hk l1 l3 hf
    · replace hf := xif_f hc_4 hf
      obtain ⟨hg, hf⟩ := xgd_inv hf
      refine Xblk hX pkX3_ok [.lload_n 1, .lconst 1, .aload_n 0, .getfield 9, .iload_n 3, .iaload, .lshl, .lor, .lstore_n 1, .iinc 3 1] (pc' := 29) (ls' := [(3, .int (l3 + (1 : Int32))), (1, .long (l1 ||| (jshlL (1 : Int64) (h.1 7 l3.toNatClampNeg)))), (0, .ref 6)]) (st' := []) (h' := h) (g := (xin l3 6 && true)) (by decide +kernel) rfl rfl hg ?_
      refine Xgoto hX (-22) 7 (by decide +kernel) (by decide) ?_
      refine XW.pick [2, 1, 0] (ls' := [(0, .ref 6), (1, .long (l1 ||| (jshlL (1 : Int64) (h.1 7 l3.toNatClampNeg)))), (3, .int (l3 + (1 : Int32)))]) rfl ?_
      exact ih (l1 ||| (jshlL (1 : Int64) (h.1 7 l3.toNatClampNeg))) (l3 + (1 : Int32)) hf
set_option maxRecDepth 100000 in
set_option maxHeartbeats 4000000 in
theorem mt_scene_taken_6  (h : Hp) {r : Int64} (hf : f_scene_taken_6 h = some r) : MT 1 39 yX3_taken cX3_taken 4 (some .long) [.ref 6] h (some (.long r)) h := by
  refine MT.of (by decide +kernel) (Nat.le_of_ble_eq_true rfl) fun X hX hR => ?_
  unfold f_scene_taken_6 at hf
  refine Xblk hX pkX3_ok [.aload_n 0] (pc' := 1) (ls' := [(0, .ref 6)]) (st' := [.ref 6]) (h' := h) (g := true) (by decide +kernel) rfl rfl rfl ?_
  obtain ⟨v_2, hc_1, hf⟩ := xbd1_inv hf
  refine XcallV hX (mt_scene_carriersTaken_6  h hc_1) (rest := []) (by decide) (by decide) xm_X3_carriersTaken xi_X3_carriersTaken xs_X3_carriersTaken xl_RX3_43 (by decide) (xsh_6) rfl rfl rfl (Nat.le_of_ble_eq_true rfl) (by decide +kernel) ?_
  show XW X 4 [(0, .ref 6)] [.long v_2] h
  refine Xblk hX pkX3_ok [.lstore_n 1, .iconst 0, .istore_n 3] (pc' := 7) (ls' := [(3, .int (0 : Int32)), (1, .long v_2), (0, .ref 6)]) (st' := []) (h' := h) (g := true) (by decide +kernel) rfl rfl rfl ?_
  refine XW.pick [2, 1, 0] (ls' := [(0, .ref 6), (1, .long v_2), (3, .int (0 : Int32))]) rfl ?_
  refine f_scene_taken_6_L_3_ok hX hR  _  (fun l1_5 l3_6 hf => ?_) 1000 v_2 (0 : Int32) hf
  refine Xblk hX pkX3_ok [.lload_n 1] (pc' := 33) (ls' := [(1, .long l1_5)]) (st' := [.long l1_5]) (h' := h) (g := true) (by decide +kernel) rfl rfl rfl ?_
  exact XrL1 hX hR hf (by decide +kernel)
def f_orders_ends_L_1   (h : Hp) (k : Int64 → Int32 → Option (Int64)) : Nat → Int64 → Int32 → Option (Int64)
  | 0, _, _ => none
  | n + 1, l1, l3 =>
    if (h.1 30 7) ≤ l3 then
      k l1 l3
    else
      xgd (xin l3 6 && (xin l3 6 && true)) <|
      (f_orders_ends_L_1 h k n) (l1 ||| ((jshlL (1 : Int64) (h.1 31 l3.toNatClampNeg)) ||| (jshlL (1 : Int64) (h.1 32 l3.toNatClampNeg)))) (l3 + (1 : Int32))
def f_orders_ends  (h : Hp) : Option (Int64) :=
  f_orders_ends_L_1 h (fun l1_3 l3_4 =>
    some l1_3
    ) 1000 (0 : Int64) (0 : Int32)
set_option maxRecDepth 100000 in
set_option maxHeartbeats 4000000 in
theorem f_orders_ends_L_1_ok {X : XCtx} (hX : XOk X RX2 cX2_ends 4 0 39) {r : Int64} {h : Hp} (hR : XR X (some .long) (some (.long r)) h)    (k : Int64 → Int32 → Option (Int64))  (hk : ∀ (l1 : Int64) (l3 : Int32), k l1 l3 = some r → XW X 38 [(1, .long l1)] [] h) : ∀ (n : Nat) (l1 : Int64) (l3 : Int32), f_orders_ends_L_1 h k n l1 l3 = some r → XW X 4 [(0, .ref 30), (1, .long l1), (3, .int l3)] [] h := by
  intro n
  induction n with
  | zero => intro l1 l3 hf; cases hf
  | succ n ih =>
    intro l1 l3 hf
    rw [f_orders_ends_L_1] at hf
    refine Xblk hX pkX2_ok [.iload_n 3, .aload_n 0, .getfield 33] (pc' := 9) (ls' := [(0, .ref 30), (1, .long l1), (3, .int l3)]) (st' := [.int (h.1 30 7), .int l3]) (h' := h) (g := true) (by decide +kernel) rfl rfl rfl ?_
    refine Xbr hX (.if_icmp .ge (29)) (tgt := 38) (P := (h.1 30 7) ≤ l3) (r := []) (by decide +kernel) rfl (by decide) (fun hc_2 => ?_) (fun hc_2 => ?_)
    · replace hf := xif_t hc_2 hf
      refine XW.pick [1] (ls' := [(1, .long l1)]) rfl ?_
      exact hk l1 l3 hf
    · replace hf := xif_f hc_2 hf
      obtain ⟨hg, hf⟩ := xgd_inv hf
      refine Xblk hX pkX2_ok [.lload_n 1, .lconst 1, .aload_n 0, .getfield 9, .iload_n 3, .iaload, .lshl, .lconst 1, .aload_n 0, .getfield 15, .iload_n 3, .iaload, .lshl, .lor, .lor, .lstore_n 1, .iinc 3 1] (pc' := 35) (ls' := [(3, .int (l3 + (1 : Int32))), (1, .long (l1 ||| ((jshlL (1 : Int64) (h.1 31 l3.toNatClampNeg)) ||| (jshlL (1 : Int64) (h.1 32 l3.toNatClampNeg))))), (0, .ref 30)]) (st' := []) (h' := h) (g := (xin l3 6 && (xin l3 6 && true))) (by decide +kernel) rfl rfl hg ?_
      refine Xgoto hX (-31) 4 (by decide +kernel) (by decide) ?_
      refine XW.pick [2, 1, 0] (ls' := [(0, .ref 30), (1, .long (l1 ||| ((jshlL (1 : Int64) (h.1 31 l3.toNatClampNeg)) ||| (jshlL (1 : Int64) (h.1 32 l3.toNatClampNeg))))), (3, .int (l3 + (1 : Int32)))]) rfl ?_
      exact ih (l1 ||| ((jshlL (1 : Int64) (h.1 31 l3.toNatClampNeg)) ||| (jshlL (1 : Int64) (h.1 32 l3.toNatClampNeg)))) (l3 + (1 : Int32)) hf
set_option maxRecDepth 100000 in
set_option maxHeartbeats 4000000 in
theorem mt_orders_ends  (h : Hp) {r : Int64} (hf : f_orders_ends h = some r) : MT 0 39 yX2_ends cX2_ends 4 (some .long) [.ref 30] h (some (.long r)) h := by
  refine MT.of (by decide +kernel) (Nat.le_of_ble_eq_true rfl) fun X hX hR => ?_
  unfold f_orders_ends at hf
  refine Xblk hX pkX2_ok [.lconst 0, .lstore_n 1, .iconst 0, .istore_n 3] (pc' := 4) (ls' := [(3, .int (0 : Int32)), (1, .long (0 : Int64)), (0, .ref 30)]) (st' := []) (h' := h) (g := true) (by decide +kernel) rfl rfl rfl ?_
  refine XW.pick [2, 1, 0] (ls' := [(0, .ref 30), (1, .long (0 : Int64)), (3, .int (0 : Int32))]) rfl ?_
  refine f_orders_ends_L_1_ok hX hR  _  (fun l1_3 l3_4 hf => ?_) 1000 (0 : Int64) (0 : Int32) hf
  refine Xblk hX pkX2_ok [.lload_n 1] (pc' := 39) (ls' := [(1, .long l1_3)]) (st' := [.long l1_3]) (h' := h) (g := true) (by decide +kernel) rfl rfl rfl ?_
  exact XrL1 hX hR hf (by decide +kernel)
def f_orders_forgetPlan  (h : Hp) : Hp :=
  (xI h 30 10 (0 : Int32))
set_option maxRecDepth 100000 in
set_option maxHeartbeats 4000000 in
theorem mt_orders_forgetPlan  (h : Hp) : MT 0 39 yX2_forgetPlan cX2_forgetPlan 1 none [.ref 30] h none (f_orders_forgetPlan h) := by
  obtain ⟨o, hf⟩ : ∃ o, f_orders_forgetPlan h = o := ⟨_, rfl⟩
  rw [hf]
  refine MT.of (by decide +kernel) (Nat.le_of_ble_eq_true rfl) fun X hX hR => ?_
  unfold f_orders_forgetPlan at hf
  refine Xblk hX pkX2_ok [.aload_n 0, .iconst 0, .putfield 37] (pc' := 5) (ls' := [(0, .ref 30)]) (st' := []) (h' := (xI h 30 10 (0 : Int32))) (g := true) (by decide +kernel) rfl rfl rfl ?_
  subst hf
  exact XretV hX hR (by decide +kernel)
def f_x_door_j_11  (l2 : Int32) (l3 : Int64) (h : Hp) : Option (Int32 × Hp) :=
  some ((if (lg_cmp ((h.2 2 5) &&& l3) (0 : Int64)) = (0 : Int32) then (0 : Int32) else (1 : Int32)), (f_orders_forgetPlan (xL (xL h 2 5 (if l2 = (1 : Int32) then ((h.2 2 5) ||| l3) else ((h.2 2 5) &&& (l3 ^^^ (-1 : Int64))))) 0 8 (if l2 = (1 : Int32) then ((h.2 2 5) ||| l3) else ((h.2 2 5) &&& (l3 ^^^ (-1 : Int64)))))))
def f_x_door (l1 : Int32) (l2 : Int32) (h : Hp) : Option (Int32 × Hp) :=
  if l1 < (0 : Int32) then
    some ((-1 : Int32), h)
  else
    if (h.1 2 3) ≤ l1 then
      some ((-1 : Int32), h)
    else
      if l2 < (0 : Int32) then
        some ((-1 : Int32), h)
      else
        if l2 ≤ (1 : Int32) then
          xgd (xin l1 8 && true) <|
          if l2 = (0 : Int32) then
            xbd1 (f_scene_taken_6 h) fun v_7 =>
            xbd1 (f_orders_ends h) fun v_9 =>
            if (lg_cmp ((jshlL (1 : Int64) (h.1 4 l1.toNatClampNeg)) &&& (v_7 ||| v_9)) (0 : Int64)) = (0 : Int32) then
              f_x_door_j_11 l2 (jshlL (1 : Int64) (h.1 4 l1.toNatClampNeg)) h
            else
              some ((-2 : Int32), h)
          else
            f_x_door_j_11 l2 (jshlL (1 : Int64) (h.1 4 l1.toNatClampNeg)) h
        else
          some ((-1 : Int32), h)
set_option maxRecDepth 100000 in
set_option maxHeartbeats 4000000 in
theorem f_x_door_j_11_ok {X : XCtx} (hX : XOk X RX4 cX4_door 6 2 39) {r : Int32} {h' : Hp} (hR : XR X (some .int) (some (.int r)) h')   (l2 : Int32) (l3 : Int64) (h : Hp)  (hf : f_x_door_j_11 l2 l3 h = some (r, h')) : XW X 67 [(0, .ref 0), (2, .int l2), (3, .long l3)] [] h := by
  unfold f_x_door_j_11 at hf
  refine Xblk hX pkX4_ok [.aload_n 0, .getfield 16, .getfield 96, .lload_n 3, .land, .lconst 0, .lcmp] (pc' := 78) (ls' := [(0, .ref 0), (2, .int l2), (3, .long l3)]) (st' := [.int (lg_cmp ((h.2 2 5) &&& l3) (0 : Int64))]) (h' := h) (g := true) (by decide +kernel) rfl rfl rfl ?_
  have kJ_17 : ∀ (w_13 : Int32), w_13 = (if (lg_cmp ((h.2 2 5) &&& l3) (0 : Int64)) = (0 : Int32) then (0 : Int32) else (1 : Int32)) → XW X 86 [(0, .ref 0), (2, .int l2), (3, .long l3)] [.int w_13] h := by
    intro w_13 ew_13
    subst ew_13
    refine Xblk hX pkX4_ok [.istore 5, .aload_n 0, .getfield 16, .iload_n 2, .iconst 1] (pc' := 94) (ls' := [(5, .int (if (lg_cmp ((h.2 2 5) &&& l3) (0 : Int64)) = (0 : Int32) then (0 : Int32) else (1 : Int32))), (0, .ref 0), (2, .int l2), (3, .long l3)]) (st' := [.int (1 : Int32), .int l2, .ref 2]) (h' := h) (g := true) (by decide +kernel) rfl rfl rfl ?_
    have kJ_16 : ∀ (w_15 : Int64), w_15 = (if l2 = (1 : Int32) then ((h.2 2 5) ||| l3) else ((h.2 2 5) &&& (l3 ^^^ (-1 : Int64)))) → XW X 122 [(0, .ref 0), (5, .int (if (lg_cmp ((h.2 2 5) &&& l3) (0 : Int64)) = (0 : Int32) then (0 : Int32) else (1 : Int32)))] [.long w_15, .ref 2] h := by
      intro w_15 ew_15
      subst ew_15
      refine Xblk hX pkX4_ok [.putfield 96, .aload_n 0, .aload_n 0, .getfield 16, .getfield 96, .putfield 101, .aload_n 0, .getfield 41] (pc' := 140) (ls' := [(0, .ref 0), (5, .int (if (lg_cmp ((h.2 2 5) &&& l3) (0 : Int64)) = (0 : Int32) then (0 : Int32) else (1 : Int32)))]) (st' := [.ref 30]) (h' := (xL (xL h 2 5 (if l2 = (1 : Int32) then ((h.2 2 5) ||| l3) else ((h.2 2 5) &&& (l3 ^^^ (-1 : Int64))))) 0 8 (if l2 = (1 : Int32) then ((h.2 2 5) ||| l3) else ((h.2 2 5) &&& (l3 ^^^ (-1 : Int64)))))) (g := true) (by decide +kernel) rfl rfl rfl ?_
      refine XcallV hX (mt_orders_forgetPlan  (xL (xL h 2 5 (if l2 = (1 : Int32) then ((h.2 2 5) ||| l3) else ((h.2 2 5) &&& (l3 ^^^ (-1 : Int64))))) 0 8 (if l2 = (1 : Int32) then ((h.2 2 5) ||| l3) else ((h.2 2 5) &&& (l3 ^^^ (-1 : Int64)))))) (rest := []) (by decide) (by decide) xm_X2_forgetPlan xi_X2_forgetPlan xs_X2_forgetPlan xl_RX4_104 (by decide) (xsh_30) rfl rfl rfl (Nat.le_of_ble_eq_true rfl) (by decide +kernel) ?_
      show XW X 143 [(0, .ref 0), (5, .int (if (lg_cmp ((h.2 2 5) &&& l3) (0 : Int64)) = (0 : Int32) then (0 : Int32) else (1 : Int32)))] [] (f_orders_forgetPlan (xL (xL h 2 5 (if l2 = (1 : Int32) then ((h.2 2 5) ||| l3) else ((h.2 2 5) &&& (l3 ^^^ (-1 : Int64))))) 0 8 (if l2 = (1 : Int32) then ((h.2 2 5) ||| l3) else ((h.2 2 5) &&& (l3 ^^^ (-1 : Int64))))))
      refine Xblk hX pkX4_ok [.iload 5] (pc' := 145) (ls' := [(0, .ref 0), (5, .int (if (lg_cmp ((h.2 2 5) &&& l3) (0 : Int64)) = (0 : Int32) then (0 : Int32) else (1 : Int32)))]) (st' := [.int (if (lg_cmp ((h.2 2 5) &&& l3) (0 : Int64)) = (0 : Int32) then (0 : Int32) else (1 : Int32))]) (h' := (f_orders_forgetPlan (xL (xL h 2 5 (if l2 = (1 : Int32) then ((h.2 2 5) ||| l3) else ((h.2 2 5) &&& (l3 ^^^ (-1 : Int64))))) 0 8 (if l2 = (1 : Int32) then ((h.2 2 5) ||| l3) else ((h.2 2 5) &&& (l3 ^^^ (-1 : Int64))))))) (g := true) (by decide +kernel) rfl rfl rfl ?_
      exact XrI2 hX hR hf (by decide +kernel)
    refine XbrN hX (.if_icmp .ne (15)) (tgt := 109) (P := l2 = (1 : Int32)) (r := [.ref 2]) (by decide +kernel) rfl (by decide) (fun hc_14 => ?_) (fun hc_14 => ?_)
    · refine Xblk hX pkX4_ok [.aload_n 0, .getfield 16, .getfield 96, .lload_n 3, .lor] (pc' := 106) (ls' := [(5, .int (if (lg_cmp ((h.2 2 5) &&& l3) (0 : Int64)) = (0 : Int32) then (0 : Int32) else (1 : Int32))), (0, .ref 0), (2, .int l2), (3, .long l3)]) (st' := [.long ((h.2 2 5) ||| l3), .ref 2]) (h' := h) (g := true) (by decide +kernel) rfl rfl rfl ?_
      refine Xgoto hX (16) 122 (by decide +kernel) (by decide) ?_
      refine XW.pick [1, 0] (ls' := [(0, .ref 0), (5, .int (if (lg_cmp ((h.2 2 5) &&& l3) (0 : Int64)) = (0 : Int32) then (0 : Int32) else (1 : Int32)))]) rfl ?_
      exact kJ_16 _ (by rw [if_pos hc_14])
    · refine Xblk hX pkX4_ok [.aload_n 0, .getfield 16, .getfield 96, .lload_n 3, .ldc2_w 99, .lxor, .land] (pc' := 122) (ls' := [(5, .int (if (lg_cmp ((h.2 2 5) &&& l3) (0 : Int64)) = (0 : Int32) then (0 : Int32) else (1 : Int32))), (0, .ref 0), (2, .int l2), (3, .long l3)]) (st' := [.long ((h.2 2 5) &&& (l3 ^^^ (-1 : Int64))), .ref 2]) (h' := h) (g := true) (by decide +kernel) rfl rfl rfl ?_
      refine XW.pick [1, 0] (ls' := [(0, .ref 0), (5, .int (if (lg_cmp ((h.2 2 5) &&& l3) (0 : Int64)) = (0 : Int32) then (0 : Int32) else (1 : Int32)))]) rfl ?_
      exact kJ_16 _ (by rw [if_neg hc_14])
  refine Xbr hX (.ifCond .eq (7)) (tgt := 85) (P := (lg_cmp ((h.2 2 5) &&& l3) (0 : Int64)) = (0 : Int32)) (r := []) (by decide +kernel) rfl (by decide) (fun hc_12 => ?_) (fun hc_12 => ?_)
  · refine Xblk hX pkX4_ok [.iconst 0] (pc' := 86) (ls' := [(0, .ref 0), (2, .int l2), (3, .long l3)]) (st' := [.int (0 : Int32)]) (h' := h) (g := true) (by decide +kernel) rfl rfl rfl ?_
    refine XW.pick [0, 1, 2] (ls' := [(0, .ref 0), (2, .int l2), (3, .long l3)]) rfl ?_
    exact kJ_17 _ (by rw [if_pos hc_12])
  · refine Xblk hX pkX4_ok [.iconst 1] (pc' := 82) (ls' := [(0, .ref 0), (2, .int l2), (3, .long l3)]) (st' := [.int (1 : Int32)]) (h' := h) (g := true) (by decide +kernel) rfl rfl rfl ?_
    refine Xgoto hX (4) 86 (by decide +kernel) (by decide) ?_
    refine XW.pick [0, 1, 2] (ls' := [(0, .ref 0), (2, .int l2), (3, .long l3)]) rfl ?_
    exact kJ_17 _ (by rw [if_neg hc_12])
set_option maxRecDepth 100000 in
set_option maxHeartbeats 4000000 in
theorem mt_x_door (l1 : Int32) (l2 : Int32) (h : Hp) {r : Int32} {h' : Hp} (hf : f_x_door l1 l2 h = some (r, h')) : MT 2 39 yX4_door cX4_door 6 (some .int) [.ref 0, .int l1, .int l2] h (some (.int r)) h' := by
  refine MT.of (by decide +kernel) (Nat.le_of_ble_eq_true rfl) fun X hX hR => ?_
  unfold f_x_door at hf
  refine Xblk hX pkX4_ok [.iload_n 1] (pc' := 1) (ls' := [(0, .ref 0), (1, .int l1), (2, .int l2)]) (st' := [.int l1]) (h' := h) (g := true) (by decide +kernel) rfl rfl rfl ?_
  refine Xbr hX (.ifCond .lt (23)) (tgt := 24) (P := l1 < (0 : Int32)) (r := []) (by decide +kernel) rfl (by decide) (fun hc_1 => ?_) (fun hc_1 => ?_)
  · replace hf := xif_t hc_1 hf
    refine Xblk hX pkX4_ok [.iconst (-1)] (pc' := 25) (ls' := [(0, .ref 0), (1, .int l1), (2, .int l2)]) (st' := [.int (-1 : Int32)]) (h' := h) (g := true) (by decide +kernel) rfl rfl rfl ?_
    exact XrI2 hX hR hf (by decide +kernel)
  · replace hf := xif_f hc_1 hf
    refine Xblk hX pkX4_ok [.iload_n 1, .aload_n 0, .getfield 16, .getfield 83] (pc' := 12) (ls' := [(0, .ref 0), (1, .int l1), (2, .int l2)]) (st' := [.int (h.1 2 3), .int l1]) (h' := h) (g := true) (by decide +kernel) rfl rfl rfl ?_
    refine Xbr hX (.if_icmp .ge (12)) (tgt := 24) (P := (h.1 2 3) ≤ l1) (r := []) (by decide +kernel) rfl (by decide) (fun hc_2 => ?_) (fun hc_2 => ?_)
    · replace hf := xif_t hc_2 hf
      refine Xblk hX pkX4_ok [.iconst (-1)] (pc' := 25) (ls' := [(0, .ref 0), (1, .int l1), (2, .int l2)]) (st' := [.int (-1 : Int32)]) (h' := h) (g := true) (by decide +kernel) rfl rfl rfl ?_
      exact XrI2 hX hR hf (by decide +kernel)
    · replace hf := xif_f hc_2 hf
      refine Xblk hX pkX4_ok [.iload_n 2] (pc' := 16) (ls' := [(0, .ref 0), (1, .int l1), (2, .int l2)]) (st' := [.int l2]) (h' := h) (g := true) (by decide +kernel) rfl rfl rfl ?_
      refine Xbr hX (.ifCond .lt (8)) (tgt := 24) (P := l2 < (0 : Int32)) (r := []) (by decide +kernel) rfl (by decide) (fun hc_3 => ?_) (fun hc_3 => ?_)
      · replace hf := xif_t hc_3 hf
        refine Xblk hX pkX4_ok [.iconst (-1)] (pc' := 25) (ls' := [(0, .ref 0), (1, .int l1), (2, .int l2)]) (st' := [.int (-1 : Int32)]) (h' := h) (g := true) (by decide +kernel) rfl rfl rfl ?_
        exact XrI2 hX hR hf (by decide +kernel)
      · replace hf := xif_f hc_3 hf
        refine Xblk hX pkX4_ok [.iload_n 2, .iconst 1] (pc' := 21) (ls' := [(0, .ref 0), (1, .int l1), (2, .int l2)]) (st' := [.int (1 : Int32), .int l2]) (h' := h) (g := true) (by decide +kernel) rfl rfl rfl ?_
        refine Xbr hX (.if_icmp .le (5)) (tgt := 26) (P := l2 ≤ (1 : Int32)) (r := []) (by decide +kernel) rfl (by decide) (fun hc_4 => ?_) (fun hc_4 => ?_)
        · replace hf := xif_t hc_4 hf
          obtain ⟨hg, hf⟩ := xgd_inv hf
          refine Xblk hX pkX4_ok [.lconst 1, .aload_n 0, .getfield 16, .getfield 86, .iload_n 1, .iaload, .lshl, .lstore_n 3, .iload_n 2] (pc' := 39) (ls' := [(3, .long (jshlL (1 : Int64) (h.1 4 l1.toNatClampNeg))), (0, .ref 0), (1, .int l1), (2, .int l2)]) (st' := [.int l2]) (h' := h) (g := (xin l1 8 && true)) (by decide +kernel) rfl rfl hg ?_
          refine XbrN hX (.ifCond .ne (28)) (tgt := 67) (P := l2 = (0 : Int32)) (r := []) (by decide +kernel) rfl (by decide) (fun hc_5 => ?_) (fun hc_5 => ?_)
          · replace hf := xif_t hc_5 hf
            refine Xblk hX pkX4_ok [.lload_n 3, .aload_n 0, .getfield 23] (pc' := 47) (ls' := [(3, .long (jshlL (1 : Int64) (h.1 4 l1.toNatClampNeg))), (0, .ref 0), (1, .int l1), (2, .int l2)]) (st' := [.ref 6, .long (jshlL (1 : Int64) (h.1 4 l1.toNatClampNeg))]) (h' := h) (g := true) (by decide +kernel) rfl rfl rfl ?_
            obtain ⟨v_7, hc_6, hf⟩ := xbd1_inv hf
            refine XcallV hX (mt_scene_taken_6  h hc_6) (rest := [.long (jshlL (1 : Int64) (h.1 4 l1.toNatClampNeg))]) (by decide) (by decide) xm_X3_taken xi_X3_taken xs_X3_taken xl_RX4_89 (by decide) (xsh_6) rfl rfl rfl (Nat.le_of_ble_eq_true rfl) (by decide +kernel) ?_
            show XW X 50 [(3, .long (jshlL (1 : Int64) (h.1 4 l1.toNatClampNeg))), (0, .ref 0), (1, .int l1), (2, .int l2)] [.long v_7, .long (jshlL (1 : Int64) (h.1 4 l1.toNatClampNeg))] h
            refine Xblk hX pkX4_ok [.aload_n 0, .getfield 41] (pc' := 54) (ls' := [(3, .long (jshlL (1 : Int64) (h.1 4 l1.toNatClampNeg))), (0, .ref 0), (1, .int l1), (2, .int l2)]) (st' := [.ref 30, .long v_7, .long (jshlL (1 : Int64) (h.1 4 l1.toNatClampNeg))]) (h' := h) (g := true) (by decide +kernel) rfl rfl rfl ?_
            obtain ⟨v_9, hc_8, hf⟩ := xbd1_inv hf
            refine XcallV hX (mt_orders_ends  h hc_8) (rest := [.long v_7, .long (jshlL (1 : Int64) (h.1 4 l1.toNatClampNeg))]) (by decide) (by decide) xm_X2_ends xi_X2_ends xs_X2_ends xl_RX4_93 (by decide) (xsh_30) rfl rfl rfl (Nat.le_of_ble_eq_true rfl) (by decide +kernel) ?_
            show XW X 57 [(3, .long (jshlL (1 : Int64) (h.1 4 l1.toNatClampNeg))), (0, .ref 0), (1, .int l1), (2, .int l2)] [.long v_9, .long v_7, .long (jshlL (1 : Int64) (h.1 4 l1.toNatClampNeg))] h
            refine Xblk hX pkX4_ok [.lor, .land, .lconst 0, .lcmp] (pc' := 61) (ls' := [(3, .long (jshlL (1 : Int64) (h.1 4 l1.toNatClampNeg))), (0, .ref 0), (1, .int l1), (2, .int l2)]) (st' := [.int (lg_cmp ((jshlL (1 : Int64) (h.1 4 l1.toNatClampNeg)) &&& (v_7 ||| v_9)) (0 : Int64))]) (h' := h) (g := true) (by decide +kernel) rfl rfl rfl ?_
            refine Xbr hX (.ifCond .eq (6)) (tgt := 67) (P := (lg_cmp ((jshlL (1 : Int64) (h.1 4 l1.toNatClampNeg)) &&& (v_7 ||| v_9)) (0 : Int64)) = (0 : Int32)) (r := []) (by decide +kernel) rfl (by decide) (fun hc_10 => ?_) (fun hc_10 => ?_)
            · replace hf := xif_t hc_10 hf
              refine XW.pick [1, 3, 0] (ls' := [(0, .ref 0), (2, .int l2), (3, .long (jshlL (1 : Int64) (h.1 4 l1.toNatClampNeg)))]) rfl ?_
              exact f_x_door_j_11_ok hX hR l2 (jshlL (1 : Int64) (h.1 4 l1.toNatClampNeg)) h hf
            · replace hf := xif_f hc_10 hf
              refine Xblk hX pkX4_ok [.bipush (-2)] (pc' := 66) (ls' := [(3, .long (jshlL (1 : Int64) (h.1 4 l1.toNatClampNeg))), (0, .ref 0), (1, .int l1), (2, .int l2)]) (st' := [.int (-2 : Int32)]) (h' := h) (g := true) (by decide +kernel) rfl rfl rfl ?_
              exact XrI2 hX hR hf (by decide +kernel)
          · replace hf := xif_f hc_5 hf
            refine XW.pick [1, 3, 0] (ls' := [(0, .ref 0), (2, .int l2), (3, .long (jshlL (1 : Int64) (h.1 4 l1.toNatClampNeg)))]) rfl ?_
            exact f_x_door_j_11_ok hX hR l2 (jshlL (1 : Int64) (h.1 4 l1.toNatClampNeg)) h hf
        · replace hf := xif_f hc_4 hf
          refine Xblk hX pkX4_ok [.iconst (-1)] (pc' := 25) (ls' := [(0, .ref 0), (1, .int l1), (2, .int l2)]) (st' := [.int (-1 : Int32)]) (h' := h) (g := true) (by decide +kernel) rfl rfl rfl ?_
          exact XrI2 hX hR hf (by decide +kernel)
def f_x_shifted (l0 : Int64) (l2 : Int32) : Int64 :=
  if l2 = (0 : Int32) then
    (jushrL l0 (8 : Int32))
  else
    if l2 = (1 : Int32) then
      (jshlL (l0 &&& (9187201950435737471 : Int64)) (1 : Int32))
    else
      if l2 = (2 : Int32) then
        (jshlL l0 (8 : Int32))
      else
        (jushrL (l0 &&& (-72340172838076674 : Int64)) (1 : Int32))
set_option maxRecDepth 100000 in
set_option maxHeartbeats 4000000 in
theorem mt_x_shifted (l0 : Int64) (l2 : Int32) (h : Hp) : MT 0 39 yX4_shifted cX4_shifted 3 (some .long) [.long l0, .int l2] h (some (.long (f_x_shifted l0 l2))) h := by
  obtain ⟨o, hf⟩ : ∃ o, f_x_shifted l0 l2 = o := ⟨_, rfl⟩
  rw [hf]
  refine MT.of (by decide +kernel) (Nat.le_of_ble_eq_true rfl) fun X hX hR => ?_
  unfold f_x_shifted at hf
  refine Xblk hX pkX4_ok [.iload_n 2] (pc' := 1) (ls' := [(0, .long l0), (2, .int l2)]) (st' := [.int l2]) (h' := h) (g := true) (by decide +kernel) rfl rfl rfl ?_
  by_cases hc_1 : l2 = (0 : Int32)
  · replace hf := xif_t hc_1 hf
    refine XswAt hX 28 hc_1 (show decode _ _ = .ok (.tableswitch (45) (0) (2) #[27, 32, 40], 27) by decide +kernel) (by decide) (by decide) (o := 27) (by decide) (by decide) ?_
    refine Xblk hX pkX4_ok [.lload_n 0, .bipush 8, .lushr] (pc' := 32) (ls' := [(0, .long l0), (2, .int l2)]) (st' := [.long (jushrL l0 (8 : Int32))]) (h' := h) (g := true) (by decide +kernel) rfl rfl rfl ?_
    subst hf
    exact XretL hX hR (by decide +kernel)
  · replace hf := xif_f hc_1 hf
    by_cases hc_2 : l2 = (1 : Int32)
    · replace hf := xif_t hc_2 hf
      refine XswAt hX 33 hc_2 (show decode _ _ = .ok (.tableswitch (45) (0) (2) #[27, 32, 40], 27) by decide +kernel) (by decide) (by decide) (o := 32) (by decide) (by decide) ?_
      refine Xblk hX pkX4_ok [.lload_n 0, .ldc2_w 304, .land, .iconst 1, .lshl] (pc' := 40) (ls' := [(0, .long l0), (2, .int l2)]) (st' := [.long (jshlL (l0 &&& (9187201950435737471 : Int64)) (1 : Int32))]) (h' := h) (g := true) (by decide +kernel) rfl rfl rfl ?_
      subst hf
      exact XretL hX hR (by decide +kernel)
    · replace hf := xif_f hc_2 hf
      by_cases hc_3 : l2 = (2 : Int32)
      · replace hf := xif_t hc_3 hf
        refine XswAt hX 41 hc_3 (show decode _ _ = .ok (.tableswitch (45) (0) (2) #[27, 32, 40], 27) by decide +kernel) (by decide) (by decide) (o := 40) (by decide) (by decide) ?_
        refine Xblk hX pkX4_ok [.lload_n 0, .bipush 8, .lshl] (pc' := 45) (ls' := [(0, .long l0), (2, .int l2)]) (st' := [.long (jshlL l0 (8 : Int32))]) (h' := h) (g := true) (by decide +kernel) rfl rfl rfl ?_
        subst hf
        exact XretL hX hR (by decide +kernel)
      · replace hf := xif_f hc_3 hf
        refine XswOut hX 46 (show decode _ _ = .ok (.tableswitch (45) (0) (2) #[27, 32, 40], 27) by decide +kernel) (by have a0 := lv_neT (a := 0) hc_1 (by decide); have a1 := lv_neT (a := 1) hc_2 (by decide); have a2 := lv_neT (a := 2) hc_3 (by decide); omega) (by decide) ?_
        refine Xblk hX pkX4_ok [.lload_n 0, .ldc2_w 306, .land, .iconst 1, .lushr] (pc' := 53) (ls' := [(0, .long l0), (2, .int l2)]) (st' := [.long (jushrL (l0 &&& (-72340172838076674 : Int64)) (1 : Int32))]) (h' := h) (g := true) (by decide +kernel) rfl rfl rfl ?_
        subst hf
        exact XretL hX hR (by decide +kernel)
def f_hall_seenFrom_L_3  (l2 : Int64) (l8 : Int32) (h : Hp) (k : Int64 → Int64 → Int32 → Option (Int64)) : Nat → Int64 → Int64 → Int32 → Option (Int64)
  | 0, _, _, _ => none
  | n + 1, l6, l9, l11 =>
    if (8 : Int32) ≤ l11 then
      k l6 l9 l11
    else
      if (lg_cmp l9 (0 : Int64)) = (0 : Int32) then
        k l6 l9 l11
      else
        (f_hall_seenFrom_L_3 l2 l8 h k n) (l6 ||| l9) (f_x_shifted (l9 &&& (h.2 2 5)) l8) (l11 + (1 : Int32))
def f_hall_seenFrom_L_1  (l2 : Int64) (h : Hp) (k : Int64 → Int32 → Option (Int64)) : Nat → Int64 → Int32 → Option (Int64)
  | 0, _, _ => none
  | n + 1, l6, l8 =>
    if (4 : Int32) ≤ l8 then
      k l6 l8
    else
      f_hall_seenFrom_L_3 l2 l8 h (fun l6_6 l9_7 l11_8 =>
        (f_hall_seenFrom_L_1 l2 h k n) l6_6 (l8 + (1 : Int32))
        ) 1000 l6 (f_x_shifted l2 l8) (1 : Int32)
def f_hall_seenFrom (l1 : Int32) (h : Hp) : Option (Int64) :=
  f_hall_seenFrom_L_1 (jshlL (1 : Int64) l1) h (fun l6_9 l8_10 =>
    some (l6_9 &&& (h.2 2 4))
    ) 1000 (((jshlL (1 : Int64) l1) ||| (f_x_shifted ((f_x_shifted (jshlL (1 : Int64) l1) (1 : Int32)) ||| (f_x_shifted (jshlL (1 : Int64) l1) (3 : Int32))) (0 : Int32))) ||| (f_x_shifted ((f_x_shifted (jshlL (1 : Int64) l1) (1 : Int32)) ||| (f_x_shifted (jshlL (1 : Int64) l1) (3 : Int32))) (2 : Int32))) (0 : Int32)
set_option maxRecDepth 100000 in
set_option maxHeartbeats 4000000 in
theorem f_hall_seenFrom_L_3_ok {X : XCtx} (hX : XOk X RX1 cX1_seenFrom 12 1 39) {r : Int64} {h : Hp} (hR : XR X (some .long) (some (.long r)) h)  (l2 : Int64) (l8 : Int32)  (k : Int64 → Int64 → Int32 → Option (Int64))  (hk : ∀ (l6 : Int64) (l9 : Int64) (l11 : Int32), k l6 l9 l11 = some r → XW X 95 [(0, .ref 2), (2, .long l2), (6, .long l6), (8, .int l8)] [] h) : ∀ (n : Nat) (l6 : Int64) (l9 : Int64) (l11 : Int32), f_hall_seenFrom_L_3 l2 l8 h k n l6 l9 l11 = some r → XW X 54 [(0, .ref 2), (2, .long l2), (6, .long l6), (8, .int l8), (9, .long l9), (11, .int l11)] [] h := by
  intro n
  induction n with
  | zero => intro l6 l9 l11 hf; cases hf
  | succ n ih =>
    intro l6 l9 l11 hf
    rw [f_hall_seenFrom_L_3] at hf
    refine Xblk hX pkX1_ok [.iload 11, .bipush 8] (pc' := 58) (ls' := [(0, .ref 2), (2, .long l2), (6, .long l6), (8, .int l8), (9, .long l9), (11, .int l11)]) (st' := [.int (8 : Int32), .int l11]) (h' := h) (g := true) (by decide +kernel) rfl rfl rfl ?_
    refine Xbr hX (.if_icmp .ge (37)) (tgt := 95) (P := (8 : Int32) ≤ l11) (r := []) (by decide +kernel) rfl (by decide) (fun hc_4 => ?_) (fun hc_4 => ?_)
    · replace hf := xif_t hc_4 hf
      refine XW.pick [0, 1, 2, 3] (ls' := [(0, .ref 2), (2, .long l2), (6, .long l6), (8, .int l8)]) rfl ?_
      exact hk l6 l9 l11 hf
    · replace hf := xif_f hc_4 hf
      refine Xblk hX pkX1_ok [.lload 9, .lconst 0, .lcmp] (pc' := 65) (ls' := [(0, .ref 2), (2, .long l2), (6, .long l6), (8, .int l8), (9, .long l9), (11, .int l11)]) (st' := [.int (lg_cmp l9 (0 : Int64))]) (h' := h) (g := true) (by decide +kernel) rfl rfl rfl ?_
      refine Xbr hX (.ifCond .eq (30)) (tgt := 95) (P := (lg_cmp l9 (0 : Int64)) = (0 : Int32)) (r := []) (by decide +kernel) rfl (by decide) (fun hc_5 => ?_) (fun hc_5 => ?_)
      · replace hf := xif_t hc_5 hf
        refine XW.pick [0, 1, 2, 3] (ls' := [(0, .ref 2), (2, .long l2), (6, .long l6), (8, .int l8)]) rfl ?_
        exact hk l6 l9 l11 hf
      · replace hf := xif_f hc_5 hf
        refine Xblk hX pkX1_ok [.lload 6, .lload 9, .lor, .lstore 6, .lload 9, .aload_n 0, .getfield 36, .land, .iload 8] (pc' := 84) (ls' := [(6, .long (l6 ||| l9)), (0, .ref 2), (2, .long l2), (8, .int l8), (9, .long l9), (11, .int l11)]) (st' := [.int l8, .long (l9 &&& (h.2 2 5))]) (h' := h) (g := true) (by decide +kernel) rfl rfl rfl ?_
        refine XcallS hX (mt_x_shifted (l9 &&& (h.2 2 5)) l8 h) (rest := []) (by decide) (by decide) xm_X4_shifted xi_X4_shifted xl_RX1_43 rfl (Nat.le_of_ble_eq_true rfl) (by decide +kernel) ?_
        show XW X 87 [(6, .long (l6 ||| l9)), (0, .ref 2), (2, .long l2), (8, .int l8), (9, .long l9), (11, .int l11)] [.long (f_x_shifted (l9 &&& (h.2 2 5)) l8)] h
        refine Xblk hX pkX1_ok [.lstore 9, .iinc 11 1] (pc' := 92) (ls' := [(11, .int (l11 + (1 : Int32))), (9, .long (f_x_shifted (l9 &&& (h.2 2 5)) l8)), (6, .long (l6 ||| l9)), (0, .ref 2), (2, .long l2), (8, .int l8)]) (st' := []) (h' := h) (g := true) (by decide +kernel) rfl rfl rfl ?_
        refine Xgoto hX (-38) 54 (by decide +kernel) (by decide) ?_
        refine XW.pick [3, 4, 2, 5, 1, 0] (ls' := [(0, .ref 2), (2, .long l2), (6, .long (l6 ||| l9)), (8, .int l8), (9, .long (f_x_shifted (l9 &&& (h.2 2 5)) l8)), (11, .int (l11 + (1 : Int32)))]) rfl ?_
        exact ih (l6 ||| l9) (f_x_shifted (l9 &&& (h.2 2 5)) l8) (l11 + (1 : Int32)) hf
set_option maxRecDepth 100000 in
set_option maxHeartbeats 4000000 in
theorem f_hall_seenFrom_L_1_ok {X : XCtx} (hX : XOk X RX1 cX1_seenFrom 12 1 39) {r : Int64} {h : Hp} (hR : XR X (some .long) (some (.long r)) h)  (l2 : Int64)  (k : Int64 → Int32 → Option (Int64))  (hk : ∀ (l6 : Int64) (l8 : Int32), k l6 l8 = some r → XW X 101 [(0, .ref 2), (6, .long l6)] [] h) : ∀ (n : Nat) (l6 : Int64) (l8 : Int32), f_hall_seenFrom_L_1 l2 h k n l6 l8 = some r → XW X 37 [(0, .ref 2), (2, .long l2), (6, .long l6), (8, .int l8)] [] h := by
  intro n
  induction n with
  | zero => intro l6 l8 hf; cases hf
  | succ n ih =>
    intro l6 l8 hf
    rw [f_hall_seenFrom_L_1] at hf
    refine Xblk hX pkX1_ok [.iload 8, .iconst 4] (pc' := 40) (ls' := [(0, .ref 2), (2, .long l2), (6, .long l6), (8, .int l8)]) (st' := [.int (4 : Int32), .int l8]) (h' := h) (g := true) (by decide +kernel) rfl rfl rfl ?_
    refine Xbr hX (.if_icmp .ge (61)) (tgt := 101) (P := (4 : Int32) ≤ l8) (r := []) (by decide +kernel) rfl (by decide) (fun hc_2 => ?_) (fun hc_2 => ?_)
    · replace hf := xif_t hc_2 hf
      refine XW.pick [0, 2] (ls' := [(0, .ref 2), (6, .long l6)]) rfl ?_
      exact hk l6 l8 hf
    · replace hf := xif_f hc_2 hf
      refine Xblk hX pkX1_ok [.lload_n 2, .iload 8] (pc' := 46) (ls' := [(0, .ref 2), (2, .long l2), (6, .long l6), (8, .int l8)]) (st' := [.int l8, .long l2]) (h' := h) (g := true) (by decide +kernel) rfl rfl rfl ?_
      refine XcallS hX (mt_x_shifted l2 l8 h) (rest := []) (by decide) (by decide) xm_X4_shifted xi_X4_shifted xl_RX1_43 rfl (Nat.le_of_ble_eq_true rfl) (by decide +kernel) ?_
      show XW X 49 [(0, .ref 2), (2, .long l2), (6, .long l6), (8, .int l8)] [.long (f_x_shifted l2 l8)] h
      refine Xblk hX pkX1_ok [.lstore 9, .iconst 1, .istore 11] (pc' := 54) (ls' := [(11, .int (1 : Int32)), (9, .long (f_x_shifted l2 l8)), (0, .ref 2), (2, .long l2), (6, .long l6), (8, .int l8)]) (st' := []) (h' := h) (g := true) (by decide +kernel) rfl rfl rfl ?_
      refine XW.pick [2, 3, 4, 5, 1, 0] (ls' := [(0, .ref 2), (2, .long l2), (6, .long l6), (8, .int l8), (9, .long (f_x_shifted l2 l8)), (11, .int (1 : Int32))]) rfl ?_
      refine f_hall_seenFrom_L_3_ok hX hR l2 l8 _  (fun l6_6 l9_7 l11_8 hf => ?_) 1000 l6 (f_x_shifted l2 l8) (1 : Int32) hf
      refine Xblk hX pkX1_ok [.iinc 8 1] (pc' := 98) (ls' := [(8, .int (l8 + (1 : Int32))), (0, .ref 2), (2, .long l2), (6, .long l6_6)]) (st' := []) (h' := h) (g := true) (by decide +kernel) rfl rfl rfl ?_
      refine Xgoto hX (-61) 37 (by decide +kernel) (by decide) ?_
      refine XW.pick [1, 2, 3, 0] (ls' := [(0, .ref 2), (2, .long l2), (6, .long l6_6), (8, .int (l8 + (1 : Int32)))]) rfl ?_
      exact ih l6_6 (l8 + (1 : Int32)) hf
set_option maxRecDepth 100000 in
set_option maxHeartbeats 4000000 in
theorem mt_hall_seenFrom (l1 : Int32) (h : Hp) {r : Int64} (hf : f_hall_seenFrom l1 h = some r) : MT 1 39 yX1_seenFrom cX1_seenFrom 12 (some .long) [.ref 2, .int l1] h (some (.long r)) h := by
  refine MT.of (by decide +kernel) (Nat.le_of_ble_eq_true rfl) fun X hX hR => ?_
  unfold f_hall_seenFrom at hf
  refine Xblk hX pkX1_ok [.lconst 1, .iload_n 1, .lshl, .lstore_n 2, .lload_n 2, .iconst 1] (pc' := 6) (ls' := [(2, .long (jshlL (1 : Int64) l1)), (0, .ref 2), (1, .int l1)]) (st' := [.int (1 : Int32), .long (jshlL (1 : Int64) l1)]) (h' := h) (g := true) (by decide +kernel) rfl rfl rfl ?_
  refine XcallS hX (mt_x_shifted (jshlL (1 : Int64) l1) (1 : Int32) h) (rest := []) (by decide) (by decide) xm_X4_shifted xi_X4_shifted xl_RX1_43 rfl (Nat.le_of_ble_eq_true rfl) (by decide +kernel) ?_
  show XW X 9 [(2, .long (jshlL (1 : Int64) l1)), (0, .ref 2), (1, .int l1)] [.long (f_x_shifted (jshlL (1 : Int64) l1) (1 : Int32))] h
  refine Xblk hX pkX1_ok [.lload_n 2, .iconst 3] (pc' := 11) (ls' := [(2, .long (jshlL (1 : Int64) l1)), (0, .ref 2), (1, .int l1)]) (st' := [.int (3 : Int32), .long (jshlL (1 : Int64) l1), .long (f_x_shifted (jshlL (1 : Int64) l1) (1 : Int32))]) (h' := h) (g := true) (by decide +kernel) rfl rfl rfl ?_
  refine XcallS hX (mt_x_shifted (jshlL (1 : Int64) l1) (3 : Int32) h) (rest := [.long (f_x_shifted (jshlL (1 : Int64) l1) (1 : Int32))]) (by decide) (by decide) xm_X4_shifted xi_X4_shifted xl_RX1_43 rfl (Nat.le_of_ble_eq_true rfl) (by decide +kernel) ?_
  show XW X 14 [(2, .long (jshlL (1 : Int64) l1)), (0, .ref 2), (1, .int l1)] [.long (f_x_shifted (jshlL (1 : Int64) l1) (3 : Int32)), .long (f_x_shifted (jshlL (1 : Int64) l1) (1 : Int32))] h
  refine Xblk hX pkX1_ok [.lor, .lstore 4, .lload_n 2, .lload 4, .iconst 0] (pc' := 21) (ls' := [(4, .long ((f_x_shifted (jshlL (1 : Int64) l1) (1 : Int32)) ||| (f_x_shifted (jshlL (1 : Int64) l1) (3 : Int32)))), (2, .long (jshlL (1 : Int64) l1)), (0, .ref 2), (1, .int l1)]) (st' := [.int (0 : Int32), .long ((f_x_shifted (jshlL (1 : Int64) l1) (1 : Int32)) ||| (f_x_shifted (jshlL (1 : Int64) l1) (3 : Int32))), .long (jshlL (1 : Int64) l1)]) (h' := h) (g := true) (by decide +kernel) rfl rfl rfl ?_
  refine XcallS hX (mt_x_shifted ((f_x_shifted (jshlL (1 : Int64) l1) (1 : Int32)) ||| (f_x_shifted (jshlL (1 : Int64) l1) (3 : Int32))) (0 : Int32) h) (rest := [.long (jshlL (1 : Int64) l1)]) (by decide) (by decide) xm_X4_shifted xi_X4_shifted xl_RX1_43 rfl (Nat.le_of_ble_eq_true rfl) (by decide +kernel) ?_
  show XW X 24 [(4, .long ((f_x_shifted (jshlL (1 : Int64) l1) (1 : Int32)) ||| (f_x_shifted (jshlL (1 : Int64) l1) (3 : Int32)))), (2, .long (jshlL (1 : Int64) l1)), (0, .ref 2), (1, .int l1)] [.long (f_x_shifted ((f_x_shifted (jshlL (1 : Int64) l1) (1 : Int32)) ||| (f_x_shifted (jshlL (1 : Int64) l1) (3 : Int32))) (0 : Int32)), .long (jshlL (1 : Int64) l1)] h
  refine Xblk hX pkX1_ok [.lor, .lload 4, .iconst 2] (pc' := 28) (ls' := [(4, .long ((f_x_shifted (jshlL (1 : Int64) l1) (1 : Int32)) ||| (f_x_shifted (jshlL (1 : Int64) l1) (3 : Int32)))), (2, .long (jshlL (1 : Int64) l1)), (0, .ref 2), (1, .int l1)]) (st' := [.int (2 : Int32), .long ((f_x_shifted (jshlL (1 : Int64) l1) (1 : Int32)) ||| (f_x_shifted (jshlL (1 : Int64) l1) (3 : Int32))), .long ((jshlL (1 : Int64) l1) ||| (f_x_shifted ((f_x_shifted (jshlL (1 : Int64) l1) (1 : Int32)) ||| (f_x_shifted (jshlL (1 : Int64) l1) (3 : Int32))) (0 : Int32)))]) (h' := h) (g := true) (by decide +kernel) rfl rfl rfl ?_
  refine XcallS hX (mt_x_shifted ((f_x_shifted (jshlL (1 : Int64) l1) (1 : Int32)) ||| (f_x_shifted (jshlL (1 : Int64) l1) (3 : Int32))) (2 : Int32) h) (rest := [.long ((jshlL (1 : Int64) l1) ||| (f_x_shifted ((f_x_shifted (jshlL (1 : Int64) l1) (1 : Int32)) ||| (f_x_shifted (jshlL (1 : Int64) l1) (3 : Int32))) (0 : Int32)))]) (by decide) (by decide) xm_X4_shifted xi_X4_shifted xl_RX1_43 rfl (Nat.le_of_ble_eq_true rfl) (by decide +kernel) ?_
  show XW X 31 [(4, .long ((f_x_shifted (jshlL (1 : Int64) l1) (1 : Int32)) ||| (f_x_shifted (jshlL (1 : Int64) l1) (3 : Int32)))), (2, .long (jshlL (1 : Int64) l1)), (0, .ref 2), (1, .int l1)] [.long (f_x_shifted ((f_x_shifted (jshlL (1 : Int64) l1) (1 : Int32)) ||| (f_x_shifted (jshlL (1 : Int64) l1) (3 : Int32))) (2 : Int32)), .long ((jshlL (1 : Int64) l1) ||| (f_x_shifted ((f_x_shifted (jshlL (1 : Int64) l1) (1 : Int32)) ||| (f_x_shifted (jshlL (1 : Int64) l1) (3 : Int32))) (0 : Int32)))] h
  refine Xblk hX pkX1_ok [.lor, .lstore 6, .iconst 0, .istore 8] (pc' := 37) (ls' := [(8, .int (0 : Int32)), (6, .long (((jshlL (1 : Int64) l1) ||| (f_x_shifted ((f_x_shifted (jshlL (1 : Int64) l1) (1 : Int32)) ||| (f_x_shifted (jshlL (1 : Int64) l1) (3 : Int32))) (0 : Int32))) ||| (f_x_shifted ((f_x_shifted (jshlL (1 : Int64) l1) (1 : Int32)) ||| (f_x_shifted (jshlL (1 : Int64) l1) (3 : Int32))) (2 : Int32)))), (4, .long ((f_x_shifted (jshlL (1 : Int64) l1) (1 : Int32)) ||| (f_x_shifted (jshlL (1 : Int64) l1) (3 : Int32)))), (2, .long (jshlL (1 : Int64) l1)), (0, .ref 2), (1, .int l1)]) (st' := []) (h' := h) (g := true) (by decide +kernel) rfl rfl rfl ?_
  refine XW.pick [4, 3, 1, 0] (ls' := [(0, .ref 2), (2, .long (jshlL (1 : Int64) l1)), (6, .long (((jshlL (1 : Int64) l1) ||| (f_x_shifted ((f_x_shifted (jshlL (1 : Int64) l1) (1 : Int32)) ||| (f_x_shifted (jshlL (1 : Int64) l1) (3 : Int32))) (0 : Int32))) ||| (f_x_shifted ((f_x_shifted (jshlL (1 : Int64) l1) (1 : Int32)) ||| (f_x_shifted (jshlL (1 : Int64) l1) (3 : Int32))) (2 : Int32)))), (8, .int (0 : Int32))]) rfl ?_
  refine f_hall_seenFrom_L_1_ok hX hR (jshlL (1 : Int64) l1) _  (fun l6_9 l8_10 hf => ?_) 1000 (((jshlL (1 : Int64) l1) ||| (f_x_shifted ((f_x_shifted (jshlL (1 : Int64) l1) (1 : Int32)) ||| (f_x_shifted (jshlL (1 : Int64) l1) (3 : Int32))) (0 : Int32))) ||| (f_x_shifted ((f_x_shifted (jshlL (1 : Int64) l1) (1 : Int32)) ||| (f_x_shifted (jshlL (1 : Int64) l1) (3 : Int32))) (2 : Int32))) (0 : Int32) hf
  refine Xblk hX pkX1_ok [.lload 6, .aload_n 0, .getfield 32, .land] (pc' := 108) (ls' := [(0, .ref 2), (6, .long l6_9)]) (st' := [.long (l6_9 &&& (h.2 2 4))]) (h' := h) (g := true) (by decide +kernel) rfl rfl rfl ?_
  exact XrL1 hX hR hf (by decide +kernel)
def f_x_sees (l1 : Int32) (h : Hp) : Option (Int64) :=
  if (f_hall_has l1 h) = (0 : Int32) then
    some (-1 : Int64)
  else
    xbd1 (f_hall_seenFrom l1 h) fun v_4 =>
    some v_4
set_option maxRecDepth 100000 in
set_option maxHeartbeats 4000000 in
theorem mt_x_sees (l1 : Int32) (h : Hp) {r : Int64} (hf : f_x_sees l1 h = some r) : MT 2 39 yX4_sees cX4_sees 2 (some .long) [.ref 0, .int l1] h (some (.long r)) h := by
  refine MT.of (by decide +kernel) (Nat.le_of_ble_eq_true rfl) fun X hX hR => ?_
  unfold f_x_sees at hf
  refine Xblk hX pkX4_ok [.aload_n 0, .getfield 16, .iload_n 1] (pc' := 5) (ls' := [(0, .ref 0), (1, .int l1)]) (st' := [.int l1, .ref 2]) (h' := h) (g := true) (by decide +kernel) rfl rfl rfl ?_
  refine XcallV hX (mt_hall_has l1 h) (rest := []) (by decide) (by decide) xm_X1_has xi_X1_has xs_X1_has xl_RX4_76 (by decide) (xsh_2) rfl rfl rfl (Nat.le_of_ble_eq_true rfl) (by decide +kernel) ?_
  show XW X 8 [(0, .ref 0), (1, .int l1)] [.int (f_hall_has l1 h)] h
  refine Xbr hX (.ifCond .eq (14)) (tgt := 22) (P := (f_hall_has l1 h) = (0 : Int32)) (r := []) (by decide +kernel) rfl (by decide) (fun hc_2 => ?_) (fun hc_2 => ?_)
  · replace hf := xif_t hc_2 hf
    refine Xblk hX pkX4_ok [.ldc2_w 99] (pc' := 25) (ls' := [(0, .ref 0), (1, .int l1)]) (st' := [.long (-1 : Int64)]) (h' := h) (g := true) (by decide +kernel) rfl rfl rfl ?_
    exact XrL1 hX hR hf (by decide +kernel)
  · replace hf := xif_f hc_2 hf
    refine Xblk hX pkX4_ok [.aload_n 0, .getfield 16, .iload_n 1] (pc' := 16) (ls' := [(0, .ref 0), (1, .int l1)]) (st' := [.int l1, .ref 2]) (h' := h) (g := true) (by decide +kernel) rfl rfl rfl ?_
    obtain ⟨v_4, hc_3, hf⟩ := xbd1_inv hf
    refine XcallV hX (mt_hall_seenFrom l1 h hc_3) (rest := []) (by decide) (by decide) xm_X1_seenFrom xi_X1_seenFrom xs_X1_seenFrom xl_RX4_107 (by decide) (xsh_2) rfl rfl rfl (Nat.le_of_ble_eq_true rfl) (by decide +kernel) ?_
    show XW X 19 [(0, .ref 0), (1, .int l1)] [.long v_4] h
    refine Xgoto hX (6) 25 (by decide +kernel) (by decide) ?_
    exact XrL1 hX hR hf (by decide +kernel)
