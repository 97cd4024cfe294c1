def f_hall_isFree (l1 : Int32) (h : Hp) : Int32 :=
  if (lg_cmp ((jushrL (h.2 2 5) l1) &&& (1 : Int64)) (0 : Int64)) = (0 : Int32) then
    (0 : Int32)
  else
    (1 : Int32)
theorem xb_hall_isFree (l1 : Int32) (h : Hp) : xbool (f_hall_isFree l1 h) = true := by
  unfold f_hall_isFree
  (repeat' split) <;> first | rfl | exact xb_m_in _ _ _
set_option maxRecDepth 100000 in
set_option maxHeartbeats 4000000 in
theorem mt_hall_isFree (l1 : Int32) (h : Hp) : MT 0 39 yX1_isFree cX1_isFree 2 (some .boolean) [.ref 2, .int l1] h (some (.int (f_hall_isFree l1 h))) h := by
  obtain ⟨o, hf⟩ : ∃ o, f_hall_isFree l1 h = o := ⟨_, rfl⟩
  rw [hf]
  refine MT.of (by decide +kernel) (Nat.le_of_ble_eq_true rfl) fun X hX hR => ?_
  unfold f_hall_isFree at hf
  refine Xblk hX pkX1_ok [.aload_n 0, .getfield 36, .iload_n 1, .lushr, .lconst 1, .land, .lconst 0, .lcmp] (pc' := 10) (ls' := [(0, .ref 2), (1, .int l1)]) (st' := [.int (lg_cmp ((jushrL (h.2 2 5) l1) &&& (1 : Int64)) (0 : Int64))]) (h' := h) (g := true) (by decide +kernel) rfl rfl rfl ?_
  refine Xbr hX (.ifCond .eq (7)) (tgt := 17) (P := (lg_cmp ((jushrL (h.2 2 5) l1) &&& (1 : Int64)) (0 : Int64)) = (0 : Int32)) (r := []) (by decide +kernel) rfl (by decide) (fun hc_1 => ?_) (fun hc_1 => ?_)
  · replace hf := xif_t hc_1 hf
    refine Xblk hX pkX1_ok [.iconst 0] (pc' := 18) (ls' := [(0, .ref 2), (1, .int l1)]) (st' := [.int (0 : Int32)]) (h' := h) (g := true) (by decide +kernel) rfl rfl rfl ?_
    subst hf
    exact XretZ hX hR (by decide) (by decide +kernel)
  · replace hf := xif_f hc_1 hf
    refine Xblk hX pkX1_ok [.iconst 1] (pc' := 14) (ls' := [(0, .ref 2), (1, .int l1)]) (st' := [.int (1 : Int32)]) (h' := h) (g := true) (by decide +kernel) rfl rfl rfl ?_
    refine Xgoto hX (4) 18 (by decide +kernel) (by decide) ?_
    subst hf
    exact XretZ hX hR (by decide) (by decide +kernel)
def f_scene_addPerson_6 (l1 : Int32) (l2 : Int32) (h : Hp) : Option (Int32 × Hp) :=
  xgd (xin (h.1 6 6) 6 && (xin (h.1 6 6) 6 && true)) <|
  some ((((h.1 6 6) + (1 : Int32)) - (1 : Int32)), (xI (xI (xI h 8 (h.1 6 6).toNatClampNeg l1) 7 (h.1 6 6).toNatClampNeg l2) 6 6 ((h.1 6 6) + (1 : Int32))))
set_option maxRecDepth 100000 in
set_option maxHeartbeats 4000000 in
theorem mt_scene_addPerson_6 (l1 : Int32) (l2 : Int32) (h : Hp) {r : Int32} {h' : Hp} (hf : f_scene_addPerson_6 l1 l2 h = some (r, h')) : MT 0 39 yX3_addPerson cX3_addPerson 3 (some .int) [.ref 6, .int l1, .int l2] h (some (.int r)) h' := by
  refine MT.of (by decide +kernel) (Nat.le_of_ble_eq_true rfl) fun X hX hR => ?_
  unfold f_scene_addPerson_6 at hf
  obtain ⟨hg, hf⟩ := xgd_inv hf
  refine Xblk hX pkX3_ok [.aload_n 0, .getfield 15, .aload_n 0, .getfield 30, .iload_n 1, .iastore, .aload_n 0, .getfield 9, .aload_n 0, .getfield 30, .iload_n 2, .iastore, .aload_n 0, .dup, .getfield 30, .iconst 1, .iadd, .putfield 30, .aload_n 0, .getfield 30, .iconst 1, .isub] (pc' := 36) (ls' := [(0, .ref 6), (1, .int l1), (2, .int l2)]) (st' := [.int (((h.1 6 6) + (1 : Int32)) - (1 : Int32))]) (h' := (xI (xI (xI h 8 (h.1 6 6).toNatClampNeg l1) 7 (h.1 6 6).toNatClampNeg l2) 6 6 ((h.1 6 6) + (1 : Int32)))) (g := (xin (h.1 6 6) 6 && (xin (h.1 6 6) 6 && true))) (by decide +kernel) rfl rfl hg ?_
  exact XrI2 hX hR hf (by decide +kernel)
def f_x_person (l1 : Int32) (l2 : Int32) (h : Hp) : Option (Int32 × Hp) :=
  if l1 < (0 : Int32) then
    some ((-1 : Int32), h)
  else
    if (3 : Int32) < l1 then
      some ((-1 : Int32), h)
    else
      if (f_hall_has l2 h) = (0 : Int32) then
        some ((-1 : Int32), h)
      else
        if (f_hall_isFree l2 h) = (0 : Int32) then
          some ((-2 : Int32), h)
        else
          if (6 : Int32) ≤ (h.1 6 6) then
            some ((-3 : Int32), h)
          else
            xbd2 (f_scene_addPerson_6 l1 l2 h) fun v_9 h_8 =>
            some (v_9, h_8)
set_option maxRecDepth 100000 in
set_option maxHeartbeats 4000000 in
theorem mt_x_person (l1 : Int32) (l2 : Int32) (h : Hp) {r : Int32} {h' : Hp} (hf : f_x_person l1 l2 h = some (r, h')) : MT 1 39 yX4_person cX4_person 3 (some .int) [.ref 0, .int l1, .int l2] h (some (.int r)) h' := by
  refine MT.of (by decide +kernel) (Nat.le_of_ble_eq_true rfl) fun X hX hR => ?_
  unfold f_x_person at hf
  refine Xblk hX pkX4_ok [.iload_n 1] (pc' := 1) (ls' := [(0, .ref 0), (1, .int l1), (2, .int l2)]) (st' := [.int l1]) (h' := h) (g := true) (by decide +kernel) rfl rfl rfl ?_
  refine Xbr hX (.ifCond .lt (19)) (tgt := 20) (P := l1 < (0 : Int32)) (r := []) (by decide +kernel) rfl (by decide) (fun hc_1 => ?_) (fun hc_1 => ?_)
  · replace hf := xif_t hc_1 hf
    refine Xblk hX pkX4_ok [.iconst (-1)] (pc' := 21) (ls' := [(0, .ref 0), (1, .int l1), (2, .int l2)]) (st' := [.int (-1 : Int32)]) (h' := h) (g := true) (by decide +kernel) rfl rfl rfl ?_
    exact XrI2 hX hR hf (by decide +kernel)
  · replace hf := xif_f hc_1 hf
    refine Xblk hX pkX4_ok [.iload_n 1, .iconst 3] (pc' := 6) (ls' := [(0, .ref 0), (1, .int l1), (2, .int l2)]) (st' := [.int (3 : Int32), .int l1]) (h' := h) (g := true) (by decide +kernel) rfl rfl rfl ?_
    refine Xbr hX (.if_icmp .gt (14)) (tgt := 20) (P := (3 : Int32) < l1) (r := []) (by decide +kernel) rfl (by decide) (fun hc_2 => ?_) (fun hc_2 => ?_)
    · replace hf := xif_t hc_2 hf
      refine Xblk hX pkX4_ok [.iconst (-1)] (pc' := 21) (ls' := [(0, .ref 0), (1, .int l1), (2, .int l2)]) (st' := [.int (-1 : Int32)]) (h' := h) (g := true) (by decide +kernel) rfl rfl rfl ?_
      exact XrI2 hX hR hf (by decide +kernel)
    · replace hf := xif_f hc_2 hf
      refine Xblk hX pkX4_ok [.aload_n 0, .getfield 16, .iload_n 2] (pc' := 14) (ls' := [(0, .ref 0), (1, .int l1), (2, .int l2)]) (st' := [.int l2, .ref 2]) (h' := h) (g := true) (by decide +kernel) rfl rfl rfl ?_
      refine XcallV hX (mt_hall_has l2 h) (rest := []) (by decide) (by decide) xm_X1_has xi_X1_has xs_X1_has xl_RX4_76 (by decide) (xsh_2) rfl rfl rfl (Nat.le_of_ble_eq_true rfl) (by decide +kernel) ?_
      show XW X 17 [(0, .ref 0), (1, .int l1), (2, .int l2)] [.int (f_hall_has l2 h)] h
      refine XbrN hX (.ifCond .ne (5)) (tgt := 22) (P := (f_hall_has l2 h) = (0 : Int32)) (r := []) (by decide +kernel) rfl (by decide) (fun hc_3 => ?_) (fun hc_3 => ?_)
      · replace hf := xif_t hc_3 hf
        refine Xblk hX pkX4_ok [.iconst (-1)] (pc' := 21) (ls' := [(0, .ref 0), (1, .int l1), (2, .int l2)]) (st' := [.int (-1 : Int32)]) (h' := h) (g := true) (by decide +kernel) rfl rfl rfl ?_
        exact XrI2 hX hR hf (by decide +kernel)
      · replace hf := xif_f hc_3 hf
        refine Xblk hX pkX4_ok [.aload_n 0, .getfield 16, .iload_n 2] (pc' := 27) (ls' := [(0, .ref 0), (1, .int l1), (2, .int l2)]) (st' := [.int l2, .ref 2]) (h' := h) (g := true) (by decide +kernel) rfl rfl rfl ?_
        refine XcallV hX (mt_hall_isFree l2 h) (rest := []) (by decide) (by decide) xm_X1_isFree xi_X1_isFree xs_X1_isFree xl_RX4_111 (by decide) (xsh_2) rfl rfl rfl (Nat.le_of_ble_eq_true rfl) (by decide +kernel) ?_
        show XW X 30 [(0, .ref 0), (1, .int l1), (2, .int l2)] [.int (f_hall_isFree l2 h)] h
        refine XbrN hX (.ifCond .ne (6)) (tgt := 36) (P := (f_hall_isFree l2 h) = (0 : Int32)) (r := []) (by decide +kernel) rfl (by decide) (fun hc_4 => ?_) (fun hc_4 => ?_)
        · replace hf := xif_t hc_4 hf
          refine Xblk hX pkX4_ok [.bipush (-2)] (pc' := 35) (ls' := [(0, .ref 0), (1, .int l1), (2, .int l2)]) (st' := [.int (-2 : Int32)]) (h' := h) (g := true) (by decide +kernel) rfl rfl rfl ?_
          exact XrI2 hX hR hf (by decide +kernel)
        · replace hf := xif_f hc_4 hf
          refine Xblk hX pkX4_ok [.aload_n 0, .getfield 23, .getfield 114, .bipush 6] (pc' := 45) (ls' := [(0, .ref 0), (1, .int l1), (2, .int l2)]) (st' := [.int (6 : Int32), .int (h.1 6 6)]) (h' := h) (g := true) (by decide +kernel) rfl rfl rfl ?_
          refine Xbr hX (.if_icmp .ge (15)) (tgt := 60) (P := (6 : Int32) ≤ (h.1 6 6)) (r := []) (by decide +kernel) rfl (by decide) (fun hc_6 => ?_) (fun hc_6 => ?_)
          · replace hf := xif_t hc_6 hf
            refine Xblk hX pkX4_ok [.bipush (-3)] (pc' := 62) (ls' := [(0, .ref 0), (1, .int l1), (2, .int l2)]) (st' := [.int (-3 : Int32)]) (h' := h) (g := true) (by decide +kernel) rfl rfl rfl ?_
            exact XrI2 hX hR hf (by decide +kernel)
          · replace hf := xif_f hc_6 hf
            refine Xblk hX pkX4_ok [.aload_n 0, .getfield 23, .iload_n 1, .iload_n 2] (pc' := 54) (ls' := [(0, .ref 0), (1, .int l1), (2, .int l2)]) (st' := [.int l2, .int l1, .ref 6]) (h' := h) (g := true) (by decide +kernel) rfl rfl rfl ?_
            obtain ⟨v_9, h_8, hc_7, hf⟩ := xbd2_inv hf
            refine XcallV hX (mt_scene_addPerson_6 l1 l2 h hc_7) (rest := []) (by decide) (by decide) xm_X3_addPerson xi_X3_addPerson xs_X3_addPerson xl_RX4_117 (by decide) (xsh_6) rfl rfl rfl (Nat.le_of_ble_eq_true rfl) (by decide +kernel) ?_
            show XW X 57 [(0, .ref 0), (1, .int l1), (2, .int l2)] [.int v_9] h_8
            refine Xgoto hX (5) 62 (by decide +kernel) (by decide) ?_
            exact XrI2 hX hR hf (by decide +kernel)
def f_scene_addCarrier_6_L_1    (k : Int32 → Hp → Option (Int32 × Hp)) : Nat → Int32 → Hp → Option (Int32 × Hp)
  | 0, _, _ => none
  | n + 1, l3, h =>
    if (64 : Int32) ≤ l3 then
      k l3 h
    else
      xgd (xin (((64 : Int32) * (h.1 6 7)) + l3) 128 && true) <|
      (f_scene_addCarrier_6_L_1 k n) (l3 + (1 : Int32)) (xI h 11 (((64 : Int32) * (h.1 6 7)) + l3).toNatClampNeg (-1 : Int32))
def f_scene_addCarrier_6 (l1 : Int32) (l2 : Int32) (h : Hp) : Option (Int32 × Hp) :=
  xgd (xin (h.1 6 7) 2 && (xin (h.1 6 7) 2 && true)) <|
  f_scene_addCarrier_6_L_1 (fun l3_3 h_4 =>
    some ((((h_4.1 6 7) + (1 : Int32)) - (1 : Int32)), (xI h_4 6 7 ((h_4.1 6 7) + (1 : Int32))))
    ) 1000 (0 : Int32) (xI (xI h 9 (h.1 6 7).toNatClampNeg l1) 10 (h.1 6 7).toNatClampNeg l2)
set_option maxRecDepth 100000 in
set_option maxHeartbeats 4000000 in
theorem f_scene_addCarrier_6_L_1_ok {X : XCtx} (hX : XOk X RX3 cX3_addCarrier 4 0 39) {r : Int32} {h' : Hp} (hR : XR X (some .int) (some (.int r)) h')    (k : Int32 → Hp → Option (Int32 × Hp))  (hk : ∀ (l3 : Int32) (h : Hp), k l3 h = some (r, h') → XW X 49 [(0, .ref 6)] [] h) : ∀ (n : Nat) (l3 : Int32) (h : Hp), f_scene_addCarrier_6_L_1 k n l3 h = some (r, h') → XW X 22 [(0, .ref 6), (3, .int l3)] [] h := by
  intro n
  induction n with
  | zero => intro l3 h hf; cases hf
  | succ n ih =>
    intro l3 h hf
    rw [f_scene_addCarrier_6_L_1] at hf
    refine Xblk hX pkX3_ok [.iload_n 3, .bipush 64] (pc' := 25) (ls' := [(0, .ref 6), (3, .int l3)]) (st' := [.int (64 : Int32), .int l3]) (h' := h) (g := true) (by decide +kernel) rfl rfl rfl ?_
    refine Xbr hX (.if_icmp .ge (24)) (tgt := 49) (P := (64 : Int32) ≤ l3) (r := []) (by decide +kernel) rfl (by decide) (fun hc_2 => ?_) (fun hc_2 => ?_)
    · replace hf := xif_t hc_2 hf
      refine XW.pick [0] (ls' := [(0, .ref 6)]) rfl ?_
      exact hk l3 h hf
    · replace hf := xif_f hc_2 hf
      obtain ⟨hg, hf⟩ := xgd_inv hf
      refine Xblk hX pkX3_ok [.aload_n 0, .getfield 24, .bipush 64, .aload_n 0, .getfield 34, .imul, .iload_n 3, .iadd, .iconst (-1), .iastore, .iinc 3 1] (pc' := 46) (ls' := [(3, .int (l3 + (1 : Int32))), (0, .ref 6)]) (st' := []) (h' := (xI h 11 (((64 : Int32) * (h.1 6 7)) + l3).toNatClampNeg (-1 : Int32))) (g := (xin (((64 : Int32) * (h.1 6 7)) + l3) 128 && true)) (by decide +kernel) rfl rfl hg ?_
      refine Xgoto hX (-24) 22 (by decide +kernel) (by decide) ?_
      refine XW.pick [1, 0] (ls' := [(0, .ref 6), (3, .int (l3 + (1 : Int32)))]) rfl ?_
      exact ih (l3 + (1 : Int32)) (xI h 11 (((64 : Int32) * (h.1 6 7)) + l3).toNatClampNeg (-1 : Int32)) hf
set_option maxRecDepth 100000 in
set_option maxHeartbeats 4000000 in
theorem mt_scene_addCarrier_6 (l1 : Int32) (l2 : Int32) (h : Hp) {r : Int32} {h' : Hp} (hf : f_scene_addCarrier_6 l1 l2 h = some (r, h')) : MT 0 39 yX3_addCarrier cX3_addCarrier 4 (some .int) [.ref 6, .int l1, .int l2] h (some (.int r)) h' := by
  refine MT.of (by decide +kernel) (Nat.le_of_ble_eq_true rfl) fun X hX hR => ?_
  unfold f_scene_addCarrier_6 at hf
  obtain ⟨hg, hf⟩ := xgd_inv hf
  refine Xblk hX pkX3_ok [.aload_n 0, .getfield 18, .aload_n 0, .getfield 34, .iload_n 1, .iastore, .aload_n 0, .getfield 21, .aload_n 0, .getfield 34, .iload_n 2, .iastore, .iconst 0, .istore_n 3] (pc' := 22) (ls' := [(3, .int (0 : Int32)), (0, .ref 6), (1, .int l1), (2, .int l2)]) (st' := []) (h' := (xI (xI h 9 (h.1 6 7).toNatClampNeg l1) 10 (h.1 6 7).toNatClampNeg l2)) (g := (xin (h.1 6 7) 2 && (xin (h.1 6 7) 2 && true))) (by decide +kernel) rfl rfl hg ?_
  refine XW.pick [1, 0] (ls' := [(0, .ref 6), (3, .int (0 : Int32))]) rfl ?_
  refine f_scene_addCarrier_6_L_1_ok hX hR  _  (fun l3_3 h_4 hf => ?_) 1000 (0 : Int32) (xI (xI h 9 (h.1 6 7).toNatClampNeg l1) 10 (h.1 6 7).toNatClampNeg l2) hf
  refine Xblk hX pkX3_ok [.aload_n 0, .dup, .getfield 34, .iconst 1, .iadd, .putfield 34, .aload_n 0, .getfield 34, .iconst 1, .isub] (pc' := 65) (ls' := [(0, .ref 6)]) (st' := [.int (((h_4.1 6 7) + (1 : Int32)) - (1 : Int32))]) (h' := (xI h_4 6 7 ((h_4.1 6 7) + (1 : Int32)))) (g := true) (by decide +kernel) rfl rfl rfl ?_
  exact XrI2 hX hR hf (by decide +kernel)
def f_x_seenBy (l1 : Int32) (h : Hp) : Option (Int64) :=
  xgd (xin l1 2 && true) <|
  xbd1 (f_hall_seenFrom (h.1 9 l1.toNatClampNeg) h) fun v_2 =>
  some v_2
set_option maxRecDepth 100000 in
set_option maxHeartbeats 4000000 in
theorem mt_x_seenBy (l1 : Int32) (h : Hp) {r : Int64} (hf : f_x_seenBy l1 h = some r) : MT 2 39 yX4_seenBy cX4_seenBy 2 (some .long) [.ref 0, .int l1] h (some (.long r)) h := by
  refine MT.of (by decide +kernel) (Nat.le_of_ble_eq_true rfl) fun X hX hR => ?_
  unfold f_x_seenBy at hf
  obtain ⟨hg, hf⟩ := xgd_inv hf
  refine Xblk hX pkX4_ok [.aload_n 0, .getfield 16, .aload_n 0, .getfield 23, .getfield 146, .iload_n 1, .iaload] (pc' := 13) (ls' := [(0, .ref 0), (1, .int l1)]) (st' := [.int (h.1 9 l1.toNatClampNeg), .ref 2]) (h' := h) (g := (xin l1 2 && true)) (by decide +kernel) rfl rfl hg ?_
  obtain ⟨v_2, hc_1, hf⟩ := xbd1_inv hf
  refine XcallV hX (mt_hall_seenFrom (h.1 9 l1.toNatClampNeg) h hc_1) (rest := []) (by decide) (by decide) xm_X1_seenFrom xi_X1_seenFrom xs_X1_seenFrom xl_RX4_107 (by decide) (xsh_2) rfl rfl rfl (Nat.le_of_ble_eq_true rfl) (by decide +kernel) ?_
  show XW X 16 [(0, .ref 0), (1, .int l1)] [.long v_2] h
  exact XrL1 hX hR hf (by decide +kernel)
def f_x_lookAround_L_3  (l1 : Int32) (l2 : Int64)  (k : Int32 → Hp → Option (Hp)) : Nat → Int32 → Hp → Option (Hp)
  | 0, _, _ => none
  | n + 1, l4, h =>
    if (64 : Int32) ≤ l4 then
      k l4 h
    else
      if (lg_cmp ((jushrL l2 l4) &&& (1 : Int64)) (0 : Int64)) = (0 : Int32) then
        (f_x_lookAround_L_3 l1 l2 k n) (l4 + (1 : Int32)) h
      else
        xgd (xin (((64 : Int32) * l1) + l4) 128 && true) <|
        (f_x_lookAround_L_3 l1 l2 k n) (l4 + (1 : Int32)) (xI h 11 (((64 : Int32) * l1) + l4).toNatClampNeg (h.1 6 9))
def f_x_lookAround (l1 : Int32) (h : Hp) : Option (Hp) :=
  xbd1 (f_x_seenBy l1 h) fun v_2 =>
  f_x_lookAround_L_3 l1 v_2 (fun l4_7 h_8 =>
    some h_8
    ) 1000 (0 : Int32) h
set_option maxRecDepth 100000 in
set_option maxHeartbeats 4000000 in
theorem f_x_lookAround_L_3_ok {X : XCtx} (hX : XOk X RX4 cX4_lookAround 5 3 39) {h' : Hp} (hR : XR X none none h')  (l1 : Int32) (l2 : Int64)  (k : Int32 → Hp → Option (Hp))  (hk : ∀ (l4 : Int32) (h : Hp), k l4 h = some h' → XW X 55 [] [] h) : ∀ (n : Nat) (l4 : Int32) (h : Hp), f_x_lookAround_L_3 l1 l2 k n l4 h = some h' → XW X 9 [(0, .ref 0), (1, .int l1), (2, .long l2), (4, .int l4)] [] h := by
  intro n
  induction n with
  | zero => intro l4 h hf; cases hf
  | succ n ih =>
    intro l4 h hf
    rw [f_x_lookAround_L_3] at hf
    refine Xblk hX pkX4_ok [.iload 4, .bipush 64] (pc' := 13) (ls' := [(0, .ref 0), (1, .int l1), (2, .long l2), (4, .int l4)]) (st' := [.int (64 : Int32), .int l4]) (h' := h) (g := true) (by decide +kernel) rfl rfl rfl ?_
    refine Xbr hX (.if_icmp .ge (42)) (tgt := 55) (P := (64 : Int32) ≤ l4) (r := []) (by decide +kernel) rfl (by decide) (fun hc_4 => ?_) (fun hc_4 => ?_)
    · replace hf := xif_t hc_4 hf
      refine XW.pick [] (ls' := []) rfl ?_
      exact hk l4 h hf
    · replace hf := xif_f hc_4 hf
      refine Xblk hX pkX4_ok [.lload_n 2, .iload 4, .lushr, .lconst 1, .land, .lconst 0, .lcmp] (pc' := 24) (ls' := [(0, .ref 0), (1, .int l1), (2, .long l2), (4, .int l4)]) (st' := [.int (lg_cmp ((jushrL l2 l4) &&& (1 : Int64)) (0 : Int64))]) (h' := h) (g := true) (by decide +kernel) rfl rfl rfl ?_
      refine Xbr hX (.ifCond .eq (25)) (tgt := 49) (P := (lg_cmp ((jushrL l2 l4) &&& (1 : Int64)) (0 : Int64)) = (0 : Int32)) (r := []) (by decide +kernel) rfl (by decide) (fun hc_6 => ?_) (fun hc_6 => ?_)
      · replace hf := xif_t hc_6 hf
        refine Xblk hX pkX4_ok [.iinc 4 1] (pc' := 52) (ls' := [(4, .int (l4 + (1 : Int32))), (0, .ref 0), (1, .int l1), (2, .long l2)]) (st' := []) (h' := h) (g := true) (by decide +kernel) rfl rfl rfl ?_
        refine Xgoto hX (-43) 9 (by decide +kernel) (by decide) ?_
        refine XW.pick [1, 2, 3, 0] (ls' := [(0, .ref 0), (1, .int l1), (2, .long l2), (4, .int (l4 + (1 : Int32)))]) rfl ?_
        exact ih (l4 + (1 : Int32)) h hf
      · replace hf := xif_f hc_6 hf
        obtain ⟨hg, hf⟩ := xgd_inv hf
        refine Xblk hX pkX4_ok [.aload_n 0, .getfield 23, .getfield 186, .bipush 64, .iload_n 1, .imul, .iload 4, .iadd, .aload_n 0, .getfield 23, .getfield 180, .iastore, .iinc 4 1] (pc' := 52) (ls' := [(4, .int (l4 + (1 : Int32))), (0, .ref 0), (1, .int l1), (2, .long l2)]) (st' := []) (h' := (xI h 11 (((64 : Int32) * l1) + l4).toNatClampNeg (h.1 6 9))) (g := (xin (((64 : Int32) * l1) + l4) 128 && true)) (by decide +kernel) rfl rfl hg ?_
        refine Xgoto hX (-43) 9 (by decide +kernel) (by decide) ?_
        refine XW.pick [1, 2, 3, 0] (ls' := [(0, .ref 0), (1, .int l1), (2, .long l2), (4, .int (l4 + (1 : Int32)))]) rfl ?_
        exact ih (l4 + (1 : Int32)) (xI h 11 (((64 : Int32) * l1) + l4).toNatClampNeg (h.1 6 9)) hf
set_option maxRecDepth 100000 in
set_option maxHeartbeats 4000000 in
theorem mt_x_lookAround (l1 : Int32) (h : Hp) {h' : Hp} (hf : f_x_lookAround l1 h = some h') : MT 3 39 yX4_lookAround cX4_lookAround 5 none [.ref 0, .int l1] h none h' := by
  refine MT.of (by decide +kernel) (Nat.le_of_ble_eq_true rfl) fun X hX hR => ?_
  unfold f_x_lookAround at hf
  refine Xblk hX pkX4_ok [.aload_n 0, .iload_n 1] (pc' := 2) (ls' := [(0, .ref 0), (1, .int l1)]) (st' := [.int l1, .ref 0]) (h' := h) (g := true) (by decide +kernel) rfl rfl rfl ?_
  obtain ⟨v_2, hc_1, hf⟩ := xbd1_inv hf
  refine XcallV hX (mt_x_seenBy l1 h hc_1) (rest := []) (by decide) (by decide) xm_X4_seenBy xi_X4_seenBy xs_X4_seenBy xl_RX4_272 (by decide) (xsh_0) rfl rfl rfl (Nat.le_of_ble_eq_true rfl) (by decide +kernel) ?_
  show XW X 5 [(0, .ref 0), (1, .int l1)] [.long v_2] h
  refine Xblk hX pkX4_ok [.lstore_n 2, .iconst 0, .istore 4] (pc' := 9) (ls' := [(4, .int (0 : Int32)), (2, .long v_2), (0, .ref 0), (1, .int l1)]) (st' := []) (h' := h) (g := true) (by decide +kernel) rfl rfl rfl ?_
  refine XW.pick [2, 3, 1, 0] (ls' := [(0, .ref 0), (1, .int l1), (2, .long v_2), (4, .int (0 : Int32))]) rfl ?_
  refine f_x_lookAround_L_3_ok hX hR l1 v_2 _  (fun l4_7 h_8 hf => ?_) 1000 (0 : Int32) h hf
  exact XrV2 hX hR hf (by decide +kernel)
def f_x_carrier (l1 : Int32) (l2 : Int32) (h : Hp) : Option (Int32 × Hp) :=
  if (f_hall_has l1 h) = (0 : Int32) then
    some ((-1 : Int32), h)
  else
    if l2 < (0 : Int32) then
      some ((-1 : Int32), h)
    else
      if l2 ≤ (9 : Int32) then
        if (f_hall_isFree l1 h) = (0 : Int32) then
          some ((-2 : Int32), h)
        else
          xbd1 (f_scene_carriersTaken_6 h) fun v_6 =>
          if (lg_cmp (v_6 &&& (jshlL (1 : Int64) l1)) (0 : Int64)) = (0 : Int32) then
            if (h.1 6 7) < (2 : Int32) then
              xbd2 (f_scene_addCarrier_6 l1 l2 h) fun v_11 h_10 =>
              xbd1 (f_x_lookAround v_11 h_10) fun h_13 =>
              some (v_11, (f_orders_forgetPlan h_13))
            else
              some ((-3 : Int32), h)
          else
            some ((-2 : Int32), h)
      else
        some ((-1 : Int32), h)
set_option maxRecDepth 100000 in
set_option maxHeartbeats 4000000 in
theorem mt_x_carrier (l1 : Int32) (l2 : Int32) (h : Hp) {r : Int32} {h' : Hp} (hf : f_x_carrier l1 l2 h = some (r, h')) : MT 4 39 yX4_carrier cX4_carrier 4 (some .int) [.ref 0, .int l1, .int l2] h (some (.int r)) h' := by
  refine MT.of (by decide +kernel) (Nat.le_of_ble_eq_true rfl) fun X hX hR => ?_
  unfold f_x_carrier at hf
  refine Xblk hX pkX4_ok [.aload_n 0, .getfield 16, .iload_n 1] (pc' := 5) (ls' := [(0, .ref 0), (1, .int l1), (2, .int l2)]) (st' := [.int l1, .ref 2]) (h' := h) (g := true) (by decide +kernel) rfl rfl rfl ?_
  refine XcallV hX (mt_hall_has l1 h) (rest := []) (by decide) (by decide) xm_X1_has xi_X1_has xs_X1_has xl_RX4_76 (by decide) (xsh_2) rfl rfl rfl (Nat.le_of_ble_eq_true rfl) (by decide +kernel) ?_
  show XW X 8 [(0, .ref 0), (1, .int l1), (2, .int l2)] [.int (f_hall_has l1 h)] h
  refine Xbr hX (.ifCond .eq (13)) (tgt := 21) (P := (f_hall_has l1 h) = (0 : Int32)) (r := []) (by decide +kernel) rfl (by decide) (fun hc_1 => ?_) (fun hc_1 => ?_)
  · replace hf := xif_t hc_1 hf
    refine Xblk hX pkX4_ok [.iconst (-1)] (pc' := 22) (ls' := [(0, .ref 0), (1, .int l1), (2, .int l2)]) (st' := [.int (-1 : Int32)]) (h' := h) (g := true) (by decide +kernel) rfl rfl rfl ?_
    exact XrI2 hX hR hf (by decide +kernel)
  · replace hf := xif_f hc_1 hf
    refine Xblk hX pkX4_ok [.iload_n 2] (pc' := 12) (ls' := [(0, .ref 0), (1, .int l1), (2, .int l2)]) (st' := [.int l2]) (h' := h) (g := true) (by decide +kernel) rfl rfl rfl ?_
    refine Xbr hX (.ifCond .lt (9)) (tgt := 21) (P := l2 < (0 : Int32)) (r := []) (by decide +kernel) rfl (by decide) (fun hc_2 => ?_) (fun hc_2 => ?_)
    · replace hf := xif_t hc_2 hf
      refine Xblk hX pkX4_ok [.iconst (-1)] (pc' := 22) (ls' := [(0, .ref 0), (1, .int l1), (2, .int l2)]) (st' := [.int (-1 : Int32)]) (h' := h) (g := true) (by decide +kernel) rfl rfl rfl ?_
      exact XrI2 hX hR hf (by decide +kernel)
    · replace hf := xif_f hc_2 hf
      refine Xblk hX pkX4_ok [.iload_n 2, .bipush 9] (pc' := 18) (ls' := [(0, .ref 0), (1, .int l1), (2, .int l2)]) (st' := [.int (9 : Int32), .int l2]) (h' := h) (g := true) (by decide +kernel) rfl rfl rfl ?_
      refine Xbr hX (.if_icmp .le (5)) (tgt := 23) (P := l2 ≤ (9 : Int32)) (r := []) (by decide +kernel) rfl (by decide) (fun hc_3 => ?_) (fun hc_3 => ?_)
      · replace hf := xif_t hc_3 hf
        refine Xblk hX pkX4_ok [.aload_n 0, .getfield 16, .iload_n 1] (pc' := 28) (ls' := [(0, .ref 0), (1, .int l1), (2, .int l2)]) (st' := [.int l1, .ref 2]) (h' := h) (g := true) (by decide +kernel) rfl rfl rfl ?_
        refine XcallV hX (mt_hall_isFree l1 h) (rest := []) (by decide) (by decide) xm_X1_isFree xi_X1_isFree xs_X1_isFree xl_RX4_111 (by decide) (xsh_2) rfl rfl rfl (Nat.le_of_ble_eq_true rfl) (by decide +kernel) ?_
        show XW X 31 [(0, .ref 0), (1, .int l1), (2, .int l2)] [.int (f_hall_isFree l1 h)] h
        refine Xbr hX (.ifCond .eq (19)) (tgt := 50) (P := (f_hall_isFree l1 h) = (0 : Int32)) (r := []) (by decide +kernel) rfl (by decide) (fun hc_4 => ?_) (fun hc_4 => ?_)
        · replace hf := xif_t hc_4 hf
          refine Xblk hX pkX4_ok [.bipush (-2)] (pc' := 52) (ls' := [(0, .ref 0), (1, .int l1), (2, .int l2)]) (st' := [.int (-2 : Int32)]) (h' := h) (g := true) (by decide +kernel) rfl rfl rfl ?_
          exact XrI2 hX hR hf (by decide +kernel)
        · replace hf := xif_f hc_4 hf
          refine Xblk hX pkX4_ok [.aload_n 0, .getfield 23] (pc' := 38) (ls' := [(0, .ref 0), (1, .int l1), (2, .int l2)]) (st' := [.ref 6]) (h' := h) (g := true) (by decide +kernel) rfl rfl rfl ?_
          obtain ⟨v_6, hc_5, hf⟩ := xbd1_inv hf
          refine XcallV hX (mt_scene_carriersTaken_6  h hc_5) (rest := []) (by decide) (by decide) xm_X3_carriersTaken xi_X3_carriersTaken xs_X3_carriersTaken xl_RX4_121 (by decide) (xsh_6) rfl rfl rfl (Nat.le_of_ble_eq_true rfl) (by decide +kernel) ?_
          show XW X 41 [(0, .ref 0), (1, .int l1), (2, .int l2)] [.long v_6] h
          refine Xblk hX pkX4_ok [.lconst 1, .iload_n 1, .lshl, .land, .lconst 0, .lcmp] (pc' := 47) (ls' := [(0, .ref 0), (1, .int l1), (2, .int l2)]) (st' := [.int (lg_cmp (v_6 &&& (jshlL (1 : Int64) l1)) (0 : Int64))]) (h' := h) (g := true) (by decide +kernel) rfl rfl rfl ?_
          refine Xbr hX (.ifCond .eq (6)) (tgt := 53) (P := (lg_cmp (v_6 &&& (jshlL (1 : Int64) l1)) (0 : Int64)) = (0 : Int32)) (r := []) (by decide +kernel) rfl (by decide) (fun hc_7 => ?_) (fun hc_7 => ?_)
          · replace hf := xif_t hc_7 hf
            refine Xblk hX pkX4_ok [.aload_n 0, .getfield 23, .getfield 124, .iconst 2] (pc' := 61) (ls' := [(0, .ref 0), (1, .int l1), (2, .int l2)]) (st' := [.int (2 : Int32), .int (h.1 6 7)]) (h' := h) (g := true) (by decide +kernel) rfl rfl rfl ?_
            refine Xbr hX (.if_icmp .lt (6)) (tgt := 67) (P := (h.1 6 7) < (2 : Int32)) (r := []) (by decide +kernel) rfl (by decide) (fun hc_8 => ?_) (fun hc_8 => ?_)
            · replace hf := xif_t hc_8 hf
              refine Xblk hX pkX4_ok [.aload_n 0, .getfield 23, .iload_n 1, .iload_n 2] (pc' := 73) (ls' := [(0, .ref 0), (1, .int l1), (2, .int l2)]) (st' := [.int l2, .int l1, .ref 6]) (h' := h) (g := true) (by decide +kernel) rfl rfl rfl ?_
              obtain ⟨v_11, h_10, hc_9, hf⟩ := xbd2_inv hf
              refine XcallV hX (mt_scene_addCarrier_6 l1 l2 h hc_9) (rest := []) (by decide) (by decide) xm_X3_addCarrier xi_X3_addCarrier xs_X3_addCarrier xl_RX4_127 (by decide) (xsh_6) rfl rfl rfl (Nat.le_of_ble_eq_true rfl) (by decide +kernel) ?_
              show XW X 76 [(0, .ref 0), (1, .int l1), (2, .int l2)] [.int v_11] h_10
              refine Xblk hX pkX4_ok [.istore_n 3, .aload_n 0, .iload_n 3] (pc' := 79) (ls' := [(3, .int v_11), (0, .ref 0), (1, .int l1), (2, .int l2)]) (st' := [.int v_11, .ref 0]) (h' := h_10) (g := true) (by decide +kernel) rfl rfl rfl ?_
              obtain ⟨h_13, hc_12, hf⟩ := xbd1_inv hf
              refine XcallV hX (mt_x_lookAround v_11 h_10 hc_12) (rest := []) (by decide) (by decide) xm_X4_lookAround xi_X4_lookAround xs_X4_lookAround xl_RX4_130 (by decide) (xsh_0) rfl rfl rfl (Nat.le_of_ble_eq_true rfl) (by decide +kernel) ?_
              show XW X 82 [(3, .int v_11), (0, .ref 0), (1, .int l1), (2, .int l2)] [] h_13
              refine Xblk hX pkX4_ok [.aload_n 0, .getfield 41] (pc' := 86) (ls' := [(3, .int v_11), (0, .ref 0), (1, .int l1), (2, .int l2)]) (st' := [.ref 30]) (h' := h_13) (g := true) (by decide +kernel) rfl rfl rfl ?_
              refine XcallV hX (mt_orders_forgetPlan  h_13) (rest := []) (by decide) (by decide) xm_X2_forgetPlan xi_X2_forgetPlan xs_X2_forgetPlan xl_RX4_104 (by decide) (xsh_30) rfl rfl rfl (Nat.le_of_ble_eq_true rfl) (by decide +kernel) ?_
              show XW X 89 [(3, .int v_11), (0, .ref 0), (1, .int l1), (2, .int l2)] [] (f_orders_forgetPlan h_13)
              refine Xblk hX pkX4_ok [.iload_n 3] (pc' := 90) (ls' := [(3, .int v_11), (0, .ref 0), (1, .int l1), (2, .int l2)]) (st' := [.int v_11]) (h' := (f_orders_forgetPlan h_13)) (g := true) (by decide +kernel) rfl rfl rfl ?_
              exact XrI2 hX hR hf (by decide +kernel)
            · replace hf := xif_f hc_8 hf
              refine Xblk hX pkX4_ok [.bipush (-3)] (pc' := 66) (ls' := [(0, .ref 0), (1, .int l1), (2, .int l2)]) (st' := [.int (-3 : Int32)]) (h' := h) (g := true) (by decide +kernel) rfl rfl rfl ?_
              exact XrI2 hX hR hf (by decide +kernel)
          · replace hf := xif_f hc_7 hf
            refine Xblk hX pkX4_ok [.bipush (-2)] (pc' := 52) (ls' := [(0, .ref 0), (1, .int l1), (2, .int l2)]) (st' := [.int (-2 : Int32)]) (h' := h) (g := true) (by decide +kernel) rfl rfl rfl ?_
            exact XrI2 hX hR hf (by decide +kernel)
      · replace hf := xif_f hc_3 hf
        refine Xblk hX pkX4_ok [.iconst (-1)] (pc' := 22) (ls' := [(0, .ref 0), (1, .int l1), (2, .int l2)]) (st' := [.int (-1 : Int32)]) (h' := h) (g := true) (by decide +kernel) rfl rfl rfl ?_
        exact XrI2 hX hR hf (by decide +kernel)
def f_x_isCarrier (l1 : Int32) (h : Hp) : Int32 :=
  if l1 < (0 : Int32) then
    (0 : Int32)
  else
    if (h.1 6 7) ≤ l1 then
      (0 : Int32)
    else
      (1 : Int32)
theorem xb_x_isCarrier (l1 : Int32) (h : Hp) : xbool (f_x_isCarrier l1 h) = true := by
  unfold f_x_isCarrier
  (repeat' split) <;> first | rfl | exact xb_m_in _ _ _
set_option maxRecDepth 100000 in
set_option maxHeartbeats 4000000 in
theorem mt_x_isCarrier (l1 : Int32) (h : Hp) : MT 0 39 yX4_isCarrier cX4_isCarrier 2 (some .boolean) [.ref 0, .int l1] h (some (.int (f_x_isCarrier l1 h))) h := by
  obtain ⟨o, hf⟩ : ∃ o, f_x_isCarrier l1 h = o := ⟨_, rfl⟩
  rw [hf]
  refine MT.of (by decide +kernel) (Nat.le_of_ble_eq_true rfl) fun X hX hR => ?_
  unfold f_x_isCarrier at hf
  refine Xblk hX pkX4_ok [.iload_n 1] (pc' := 1) (ls' := [(0, .ref 0), (1, .int l1)]) (st' := [.int l1]) (h' := h) (g := true) (by decide +kernel) rfl rfl rfl ?_
  refine Xbr hX (.ifCond .lt (18)) (tgt := 19) (P := l1 < (0 : Int32)) (r := []) (by decide +kernel) rfl (by decide) (fun hc_1 => ?_) (fun hc_1 => ?_)
  · replace hf := xif_t hc_1 hf
    refine Xblk hX pkX4_ok [.iconst 0] (pc' := 20) (ls' := [(0, .ref 0), (1, .int l1)]) (st' := [.int (0 : Int32)]) (h' := h) (g := true) (by decide +kernel) rfl rfl rfl ?_
    subst hf
    exact XretZ hX hR (by decide) (by decide +kernel)
  · replace hf := xif_f hc_1 hf
    refine Xblk hX pkX4_ok [.iload_n 1, .aload_n 0, .getfield 23, .getfield 124] (pc' := 12) (ls' := [(0, .ref 0), (1, .int l1)]) (st' := [.int (h.1 6 7), .int l1]) (h' := h) (g := true) (by decide +kernel) rfl rfl rfl ?_
    refine Xbr hX (.if_icmp .ge (7)) (tgt := 19) (P := (h.1 6 7) ≤ l1) (r := []) (by decide +kernel) rfl (by decide) (fun hc_2 => ?_) (fun hc_2 => ?_)
    · replace hf := xif_t hc_2 hf
      refine Xblk hX pkX4_ok [.iconst 0] (pc' := 20) (ls' := [(0, .ref 0), (1, .int l1)]) (st' := [.int (0 : Int32)]) (h' := h) (g := true) (by decide +kernel) rfl rfl rfl ?_
      subst hf
      exact XretZ hX hR (by decide) (by decide +kernel)
    · replace hf := xif_f hc_2 hf
      refine Xblk hX pkX4_ok [.iconst 1] (pc' := 16) (ls' := [(0, .ref 0), (1, .int l1)]) (st' := [.int (1 : Int32)]) (h' := h) (g := true) (by decide +kernel) rfl rfl rfl ?_
      refine Xgoto hX (4) 20 (by decide +kernel) (by decide) ?_
      subst hf
      exact XretZ hX hR (by decide) (by decide +kernel)
def f_x_isPerson (l1 : Int32) (h : Hp) : Int32 :=
  if l1 < (0 : Int32) then
    (0 : Int32)
  else
    if (h.1 6 6) ≤ l1 then
      (0 : Int32)
    else
      (1 : Int32)
theorem xb_x_isPerson (l1 : Int32) (h : Hp) : xbool (f_x_isPerson l1 h) = true := by
  unfold f_x_isPerson
  (repeat' split) <;> first | rfl | exact xb_m_in _ _ _
set_option maxRecDepth 100000 in
set_option maxHeartbeats 4000000 in
theorem mt_x_isPerson (l1 : Int32) (h : Hp) : MT 0 39 yX4_isPerson cX4_isPerson 2 (some .boolean) [.ref 0, .int l1] h (some (.int (f_x_isPerson l1 h))) h := by
  obtain ⟨o, hf⟩ : ∃ o, f_x_isPerson l1 h = o := ⟨_, rfl⟩
  rw [hf]
  refine MT.of (by decide +kernel) (Nat.le_of_ble_eq_true rfl) fun X hX hR => ?_
  unfold f_x_isPerson at hf
  refine Xblk hX pkX4_ok [.iload_n 1] (pc' := 1) (ls' := [(0, .ref 0), (1, .int l1)]) (st' := [.int l1]) (h' := h) (g := true) (by decide +kernel) rfl rfl rfl ?_
  refine Xbr hX (.ifCond .lt (18)) (tgt := 19) (P := l1 < (0 : Int32)) (r := []) (by decide +kernel) rfl (by decide) (fun hc_1 => ?_) (fun hc_1 => ?_)
  · replace hf := xif_t hc_1 hf
    refine Xblk hX pkX4_ok [.iconst 0] (pc' := 20) (ls' := [(0, .ref 0), (1, .int l1)]) (st' := [.int (0 : Int32)]) (h' := h) (g := true) (by decide +kernel) rfl rfl rfl ?_
    subst hf
    exact XretZ hX hR (by decide) (by decide +kernel)
  · replace hf := xif_f hc_1 hf
    refine Xblk hX pkX4_ok [.iload_n 1, .aload_n 0, .getfield 23, .getfield 114] (pc' := 12) (ls' := [(0, .ref 0), (1, .int l1)]) (st' := [.int (h.1 6 6), .int l1]) (h' := h) (g := true) (by decide +kernel) rfl rfl rfl ?_
    refine Xbr hX (.if_icmp .ge (7)) (tgt := 19) (P := (h.1 6 6) ≤ l1) (r := []) (by decide +kernel) rfl (by decide) (fun hc_2 => ?_) (fun hc_2 => ?_)
    · replace hf := xif_t hc_2 hf
      refine Xblk hX pkX4_ok [.iconst 0] (pc' := 20) (ls' := [(0, .ref 0), (1, .int l1)]) (st' := [.int (0 : Int32)]) (h' := h) (g := true) (by decide +kernel) rfl rfl rfl ?_
      subst hf
      exact XretZ hX hR (by decide) (by decide +kernel)
    · replace hf := xif_f hc_2 hf
      refine Xblk hX pkX4_ok [.iconst 1] (pc' := 16) (ls' := [(0, .ref 0), (1, .int l1)]) (st' := [.int (1 : Int32)]) (h' := h) (g := true) (by decide +kernel) rfl rfl rfl ?_
      refine Xgoto hX (4) 20 (by decide +kernel) (by decide) ?_
      subst hf
      exact XretZ hX hR (by decide) (by decide +kernel)
def f_x_at_j_8  (l1 : Int32) (l2 : Int32) (l4 : Int32) (h : Hp) : Option (Int32) :=
  if l4 = (0 : Int32) then
    some (-1 : Int32)
  else
    if (f_x_isCarrier l1 h) = (0 : Int32) then
      some (-1 : Int32)
    else
      if l2 = (1 : Int32) then
        xgd (xin l1 2 && true) <|
        some (h.1 9 l1.toNatClampNeg)
      else
        xgd (xin l1 2 && true) <|
        some (h.1 10 l1.toNatClampNeg)
def f_x_at (l1 : Int32) (l2 : Int32) (h : Hp) : Option (Int32) :=
  if (if l2 = (0 : Int32) then (1 : Int32) else (if l2 = (2 : Int32) then (1 : Int32) else (0 : Int32))) = (0 : Int32) then
    f_x_at_j_8 l1 l2 (if l2 = (1 : Int32) then (1 : Int32) else (if l2 = (3 : Int32) then (1 : Int32) else (0 : Int32))) h
  else
    if (f_x_isPerson l1 h) = (0 : Int32) then
      f_x_at_j_8 l1 l2 (if l2 = (1 : Int32) then (1 : Int32) else (if l2 = (3 : Int32) then (1 : Int32) else (0 : Int32))) h
    else
      if l2 = (0 : Int32) then
        xgd (xin l1 6 && true) <|
        some (h.1 7 l1.toNatClampNeg)
      else
        xgd (xin l1 6 && true) <|
        some (h.1 8 l1.toNatClampNeg)
set_option maxRecDepth 100000 in
set_option maxHeartbeats 4000000 in
theorem f_x_at_j_8_ok {X : XCtx} (hX : XOk X RX4 cX4_at 5 1 39) {r : Int32} {h : Hp} (hR : XR X (some .int) (some (.int r)) h)   (l1 : Int32) (l2 : Int32) (l4 : Int32)  (hf : f_x_at_j_8 l1 l2 l4 h = some r) : XW X 70 [(0, .ref 0), (1, .int l1), (2, .int l2), (4, .int l4)] [] h := by
  unfold f_x_at_j_8 at hf
  refine Xblk hX pkX4_ok [.iload 4] (pc' := 72) (ls' := [(0, .ref 0), (1, .int l1), (2, .int l2), (4, .int l4)]) (st' := [.int l4]) (h' := h) (g := true) (by decide +kernel) rfl rfl rfl ?_
  refine Xbr hX (.ifCond .eq (38)) (tgt := 110) (P := l4 = (0 : Int32)) (r := []) (by decide +kernel) rfl (by decide) (fun hc_9 => ?_) (fun hc_9 => ?_)
  · replace hf := xif_t hc_9 hf
    refine Xblk hX pkX4_ok [.iconst (-1)] (pc' := 111) (ls' := [(0, .ref 0), (1, .int l1), (2, .int l2), (4, .int l4)]) (st' := [.int (-1 : Int32)]) (h' := h) (g := true) (by decide +kernel) rfl rfl rfl ?_
    exact XrI1 hX hR hf (by decide +kernel)
  · replace hf := xif_f hc_9 hf
    refine Xblk hX pkX4_ok [.aload_n 0, .iload_n 1] (pc' := 77) (ls' := [(0, .ref 0), (1, .int l1), (2, .int l2), (4, .int l4)]) (st' := [.int l1, .ref 0]) (h' := h) (g := true) (by decide +kernel) rfl rfl rfl ?_
    refine XcallV hX (mt_x_isCarrier l1 h) (rest := []) (by decide) (by decide) xm_X4_isCarrier xi_X4_isCarrier xs_X4_isCarrier xl_RX4_143 (by decide) (xsh_0) rfl rfl rfl (Nat.le_of_ble_eq_true rfl) (by decide +kernel) ?_
    show XW X 80 [(0, .ref 0), (1, .int l1), (2, .int l2), (4, .int l4)] [.int (f_x_isCarrier l1 h)] h
    refine Xbr hX (.ifCond .eq (30)) (tgt := 110) (P := (f_x_isCarrier l1 h) = (0 : Int32)) (r := []) (by decide +kernel) rfl (by decide) (fun hc_10 => ?_) (fun hc_10 => ?_)
    · replace hf := xif_t hc_10 hf
      refine Xblk hX pkX4_ok [.iconst (-1)] (pc' := 111) (ls' := [(0, .ref 0), (1, .int l1), (2, .int l2), (4, .int l4)]) (st' := [.int (-1 : Int32)]) (h' := h) (g := true) (by decide +kernel) rfl rfl rfl ?_
      exact XrI1 hX hR hf (by decide +kernel)
    · replace hf := xif_f hc_10 hf
      refine Xblk hX pkX4_ok [.iload_n 2, .iconst 1] (pc' := 85) (ls' := [(0, .ref 0), (1, .int l1), (2, .int l2), (4, .int l4)]) (st' := [.int (1 : Int32), .int l2]) (h' := h) (g := true) (by decide +kernel) rfl rfl rfl ?_
      refine XbrN hX (.if_icmp .ne (15)) (tgt := 100) (P := l2 = (1 : Int32)) (r := []) (by decide +kernel) rfl (by decide) (fun hc_12 => ?_) (fun hc_12 => ?_)
      · replace hf := xif_t hc_12 hf
        obtain ⟨hg, hf⟩ := xgd_inv hf
        refine Xblk hX pkX4_ok [.aload_n 0, .getfield 23, .getfield 146, .iload_n 1, .iaload] (pc' := 97) (ls' := [(0, .ref 0), (1, .int l1), (2, .int l2), (4, .int l4)]) (st' := [.int (h.1 9 l1.toNatClampNeg)]) (h' := h) (g := (xin l1 2 && true)) (by decide +kernel) rfl rfl hg ?_
        refine Xgoto hX (12) 109 (by decide +kernel) (by decide) ?_
        exact XrI1 hX hR hf (by decide +kernel)
      · replace hf := xif_f hc_12 hf
        obtain ⟨hg, hf⟩ := xgd_inv hf
        refine Xblk hX pkX4_ok [.aload_n 0, .getfield 23, .getfield 149, .iload_n 1, .iaload] (pc' := 109) (ls' := [(0, .ref 0), (1, .int l1), (2, .int l2), (4, .int l4)]) (st' := [.int (h.1 10 l1.toNatClampNeg)]) (h' := h) (g := (xin l1 2 && true)) (by decide +kernel) rfl rfl hg ?_
        exact XrI1 hX hR hf (by decide +kernel)
set_option maxRecDepth 100000 in
set_option maxHeartbeats 4000000 in
theorem mt_x_at (l1 : Int32) (l2 : Int32) (h : Hp) {r : Int32} (hf : f_x_at l1 l2 h = some r) : MT 1 39 yX4_at cX4_at 5 (some .int) [.ref 0, .int l1, .int l2] h (some (.int r)) h := by
  refine MT.of (by decide +kernel) (Nat.le_of_ble_eq_true rfl) fun X hX hR => ?_
  unfold f_x_at at hf
  refine Xblk hX pkX4_ok [.iload_n 2] (pc' := 1) (ls' := [(0, .ref 0), (1, .int l1), (2, .int l2)]) (st' := [.int l2]) (h' := h) (g := true) (by decide +kernel) rfl rfl rfl ?_
  have kJ_17 : ∀ (w_3 : Int32), w_3 = (if l2 = (0 : Int32) then (1 : Int32) else (if l2 = (2 : Int32) then (1 : Int32) else (0 : Int32))) → XW X 14 [(0, .ref 0), (1, .int l1), (2, .int l2)] [.int w_3] h := by
    intro w_3 ew_3
    subst ew_3
    refine Xblk hX pkX4_ok [.istore_n 3, .iload_n 2, .iconst 1] (pc' := 17) (ls' := [(3, .int (if l2 = (0 : Int32) then (1 : Int32) else (if l2 = (2 : Int32) then (1 : Int32) else (0 : Int32)))), (0, .ref 0), (1, .int l1), (2, .int l2)]) (st' := [.int (1 : Int32), .int l2]) (h' := h) (g := true) (by decide +kernel) rfl rfl rfl ?_
    have kJ_16 : ∀ (w_6 : Int32), w_6 = (if l2 = (1 : Int32) then (1 : Int32) else (if l2 = (3 : Int32) then (1 : Int32) else (0 : Int32))) → XW X 30 [(0, .ref 0), (1, .int l1), (2, .int l2), (3, .int (if l2 = (0 : Int32) then (1 : Int32) else (if l2 = (2 : Int32) then (1 : Int32) else (0 : Int32))))] [.int w_6] h := by
      intro w_6 ew_6
      subst ew_6
      refine Xblk hX pkX4_ok [.istore 4, .iload_n 3] (pc' := 33) (ls' := [(4, .int (if l2 = (1 : Int32) then (1 : Int32) else (if l2 = (3 : Int32) then (1 : Int32) else (0 : Int32)))), (0, .ref 0), (1, .int l1), (2, .int l2), (3, .int (if l2 = (0 : Int32) then (1 : Int32) else (if l2 = (2 : Int32) then (1 : Int32) else (0 : Int32))))]) (st' := [.int (if l2 = (0 : Int32) then (1 : Int32) else (if l2 = (2 : Int32) then (1 : Int32) else (0 : Int32)))]) (h' := h) (g := true) (by decide +kernel) rfl rfl rfl ?_
      refine Xbr hX (.ifCond .eq (37)) (tgt := 70) (P := (if l2 = (0 : Int32) then (1 : Int32) else (if l2 = (2 : Int32) then (1 : Int32) else (0 : Int32))) = (0 : Int32)) (r := []) (by decide +kernel) rfl (by decide) (fun hc_7 => ?_) (fun hc_7 => ?_)
      · replace hf := xif_t hc_7 hf
        refine XW.pick [1, 2, 3, 0] (ls' := [(0, .ref 0), (1, .int l1), (2, .int l2), (4, .int (if l2 = (1 : Int32) then (1 : Int32) else (if l2 = (3 : Int32) then (1 : Int32) else (0 : Int32))))]) rfl ?_
        exact f_x_at_j_8_ok hX hR l1 l2 (if l2 = (1 : Int32) then (1 : Int32) else (if l2 = (3 : Int32) then (1 : Int32) else (0 : Int32))) hf
      · replace hf := xif_f hc_7 hf
        refine Xblk hX pkX4_ok [.aload_n 0, .iload_n 1] (pc' := 38) (ls' := [(4, .int (if l2 = (1 : Int32) then (1 : Int32) else (if l2 = (3 : Int32) then (1 : Int32) else (0 : Int32)))), (0, .ref 0), (1, .int l1), (2, .int l2), (3, .int (if l2 = (0 : Int32) then (1 : Int32) else (if l2 = (2 : Int32) then (1 : Int32) else (0 : Int32))))]) (st' := [.int l1, .ref 0]) (h' := h) (g := true) (by decide +kernel) rfl rfl rfl ?_
        refine XcallV hX (mt_x_isPerson l1 h) (rest := []) (by decide) (by decide) xm_X4_isPerson xi_X4_isPerson xs_X4_isPerson xl_RX4_134 (by decide) (xsh_0) rfl rfl rfl (Nat.le_of_ble_eq_true rfl) (by decide +kernel) ?_
        show XW X 41 [(4, .int (if l2 = (1 : Int32) then (1 : Int32) else (if l2 = (3 : Int32) then (1 : Int32) else (0 : Int32)))), (0, .ref 0), (1, .int l1), (2, .int l2), (3, .int (if l2 = (0 : Int32) then (1 : Int32) else (if l2 = (2 : Int32) then (1 : Int32) else (0 : Int32))))] [.int (f_x_isPerson l1 h)] h
        refine Xbr hX (.ifCond .eq (29)) (tgt := 70) (P := (f_x_isPerson l1 h) = (0 : Int32)) (r := []) (by decide +kernel) rfl (by decide) (fun hc_13 => ?_) (fun hc_13 => ?_)
        · replace hf := xif_t hc_13 hf
          refine XW.pick [1, 2, 3, 0] (ls' := [(0, .ref 0), (1, .int l1), (2, .int l2), (4, .int (if l2 = (1 : Int32) then (1 : Int32) else (if l2 = (3 : Int32) then (1 : Int32) else (0 : Int32))))]) rfl ?_
          exact f_x_at_j_8_ok hX hR l1 l2 (if l2 = (1 : Int32) then (1 : Int32) else (if l2 = (3 : Int32) then (1 : Int32) else (0 : Int32))) hf
        · replace hf := xif_f hc_13 hf
          refine Xblk hX pkX4_ok [.iload_n 2] (pc' := 45) (ls' := [(4, .int (if l2 = (1 : Int32) then (1 : Int32) else (if l2 = (3 : Int32) then (1 : Int32) else (0 : Int32)))), (0, .ref 0), (1, .int l1), (2, .int l2), (3, .int (if l2 = (0 : Int32) then (1 : Int32) else (if l2 = (2 : Int32) then (1 : Int32) else (0 : Int32))))]) (st' := [.int l2]) (h' := h) (g := true) (by decide +kernel) rfl rfl rfl ?_
          refine XbrN hX (.ifCond .ne (15)) (tgt := 60) (P := l2 = (0 : Int32)) (r := []) (by decide +kernel) rfl (by decide) (fun hc_15 => ?_) (fun hc_15 => ?_)
          · replace hf := xif_t hc_15 hf
            obtain ⟨hg, hf⟩ := xgd_inv hf
            refine Xblk hX pkX4_ok [.aload_n 0, .getfield 23, .getfield 137, .iload_n 1, .iaload] (pc' := 57) (ls' := [(4, .int (if l2 = (1 : Int32) then (1 : Int32) else (if l2 = (3 : Int32) then (1 : Int32) else (0 : Int32)))), (0, .ref 0), (1, .int l1), (2, .int l2), (3, .int (if l2 = (0 : Int32) then (1 : Int32) else (if l2 = (2 : Int32) then (1 : Int32) else (0 : Int32))))]) (st' := [.int (h.1 7 l1.toNatClampNeg)]) (h' := h) (g := (xin l1 6 && true)) (by decide +kernel) rfl rfl hg ?_
            refine Xgoto hX (12) 69 (by decide +kernel) (by decide) ?_
            exact XrI1 hX hR hf (by decide +kernel)
          · replace hf := xif_f hc_15 hf
            obtain ⟨hg, hf⟩ := xgd_inv hf
            refine Xblk hX pkX4_ok [.aload_n 0, .getfield 23, .getfield 140, .iload_n 1, .iaload] (pc' := 69) (ls' := [(4, .int (if l2 = (1 : Int32) then (1 : Int32) else (if l2 = (3 : Int32) then (1 : Int32) else (0 : Int32)))), (0, .ref 0), (1, .int l1), (2, .int l2), (3, .int (if l2 = (0 : Int32) then (1 : Int32) else (if l2 = (2 : Int32) then (1 : Int32) else (0 : Int32))))]) (st' := [.int (h.1 8 l1.toNatClampNeg)]) (h' := h) (g := (xin l1 6 && true)) (by decide +kernel) rfl rfl hg ?_
            exact XrI1 hX hR hf (by decide +kernel)
    refine Xbr hX (.if_icmp .eq (8)) (tgt := 25) (P := l2 = (1 : Int32)) (r := []) (by decide +kernel) rfl (by decide) (fun hc_4 => ?_) (fun hc_4 => ?_)
    · refine Xblk hX pkX4_ok [.iconst 1] (pc' := 26) (ls' := [(3, .int (if l2 = (0 : Int32) then (1 : Int32) else (if l2 = (2 : Int32) then (1 : Int32) else (0 : Int32)))), (0, .ref 0), (1, .int l1), (2, .int l2)]) (st' := [.int (1 : Int32)]) (h' := h) (g := true) (by decide +kernel) rfl rfl rfl ?_
      refine Xgoto hX (4) 30 (by decide +kernel) (by decide) ?_
      refine XW.pick [1, 2, 3, 0] (ls' := [(0, .ref 0), (1, .int l1), (2, .int l2), (3, .int (if l2 = (0 : Int32) then (1 : Int32) else (if l2 = (2 : Int32) then (1 : Int32) else (0 : Int32))))]) rfl ?_
      exact kJ_16 _ (by rw [if_pos hc_4])
    · refine Xblk hX pkX4_ok [.iload_n 2, .iconst 3] (pc' := 22) (ls' := [(3, .int (if l2 = (0 : Int32) then (1 : Int32) else (if l2 = (2 : Int32) then (1 : Int32) else (0 : Int32)))), (0, .ref 0), (1, .int l1), (2, .int l2)]) (st' := [.int (3 : Int32), .int l2]) (h' := h) (g := true) (by decide +kernel) rfl rfl rfl ?_
      refine XbrN hX (.if_icmp .ne (7)) (tgt := 29) (P := l2 = (3 : Int32)) (r := []) (by decide +kernel) rfl (by decide) (fun hc_5 => ?_) (fun hc_5 => ?_)
      · refine Xblk hX pkX4_ok [.iconst 1] (pc' := 26) (ls' := [(3, .int (if l2 = (0 : Int32) then (1 : Int32) else (if l2 = (2 : Int32) then (1 : Int32) else (0 : Int32)))), (0, .ref 0), (1, .int l1), (2, .int l2)]) (st' := [.int (1 : Int32)]) (h' := h) (g := true) (by decide +kernel) rfl rfl rfl ?_
        refine Xgoto hX (4) 30 (by decide +kernel) (by decide) ?_
        refine XW.pick [1, 2, 3, 0] (ls' := [(0, .ref 0), (1, .int l1), (2, .int l2), (3, .int (if l2 = (0 : Int32) then (1 : Int32) else (if l2 = (2 : Int32) then (1 : Int32) else (0 : Int32))))]) rfl ?_
        exact kJ_16 _ (by rw [if_neg hc_4, if_pos hc_5])
      · refine Xblk hX pkX4_ok [.iconst 0] (pc' := 30) (ls' := [(3, .int (if l2 = (0 : Int32) then (1 : Int32) else (if l2 = (2 : Int32) then (1 : Int32) else (0 : Int32)))), (0, .ref 0), (1, .int l1), (2, .int l2)]) (st' := [.int (0 : Int32)]) (h' := h) (g := true) (by decide +kernel) rfl rfl rfl ?_
        refine XW.pick [1, 2, 3, 0] (ls' := [(0, .ref 0), (1, .int l1), (2, .int l2), (3, .int (if l2 = (0 : Int32) then (1 : Int32) else (if l2 = (2 : Int32) then (1 : Int32) else (0 : Int32))))]) rfl ?_
        exact kJ_16 _ (by rw [if_neg hc_4, if_neg hc_5])
  refine Xbr hX (.ifCond .eq (8)) (tgt := 9) (P := l2 = (0 : Int32)) (r := []) (by decide +kernel) rfl (by decide) (fun hc_1 => ?_) (fun hc_1 => ?_)
  · refine Xblk hX pkX4_ok [.iconst 1] (pc' := 10) (ls' := [(0, .ref 0), (1, .int l1), (2, .int l2)]) (st' := [.int (1 : Int32)]) (h' := h) (g := true) (by decide +kernel) rfl rfl rfl ?_
    refine Xgoto hX (4) 14 (by decide +kernel) (by decide) ?_
    refine XW.pick [0, 1, 2] (ls' := [(0, .ref 0), (1, .int l1), (2, .int l2)]) rfl ?_
    exact kJ_17 _ (by rw [if_pos hc_1])
  · refine Xblk hX pkX4_ok [.iload_n 2, .iconst 2] (pc' := 6) (ls' := [(0, .ref 0), (1, .int l1), (2, .int l2)]) (st' := [.int (2 : Int32), .int l2]) (h' := h) (g := true) (by decide +kernel) rfl rfl rfl ?_
    refine XbrN hX (.if_icmp .ne (7)) (tgt := 13) (P := l2 = (2 : Int32)) (r := []) (by decide +kernel) rfl (by decide) (fun hc_2 => ?_) (fun hc_2 => ?_)
    · refine Xblk hX pkX4_ok [.iconst 1] (pc' := 10) (ls' := [(0, .ref 0), (1, .int l1), (2, .int l2)]) (st' := [.int (1 : Int32)]) (h' := h) (g := true) (by decide +kernel) rfl rfl rfl ?_
      refine Xgoto hX (4) 14 (by decide +kernel) (by decide) ?_
      refine XW.pick [0, 1, 2] (ls' := [(0, .ref 0), (1, .int l1), (2, .int l2)]) rfl ?_
      exact kJ_17 _ (by rw [if_neg hc_1, if_pos hc_2])
    · refine Xblk hX pkX4_ok [.iconst 0] (pc' := 14) (ls' := [(0, .ref 0), (1, .int l1), (2, .int l2)]) (st' := [.int (0 : Int32)]) (h' := h) (g := true) (by decide +kernel) rfl rfl rfl ?_
      refine XW.pick [0, 1, 2] (ls' := [(0, .ref 0), (1, .int l1), (2, .int l2)]) rfl ?_
      exact kJ_17 _ (by rw [if_neg hc_1, if_neg hc_2])
def f_x_behind (l0 : Int32) (l1 : Int32) : Int64 :=
  if l1 = (0 : Int32) then
    (jshlL (jshlL (-1 : Int64) ((8 : Int32) * (jshr l0 (3 : Int32)))) (8 : Int32))
  else
    if l1 = (1 : Int32) then
      ((72340172838076673 : Int64) * ((jshl (1 : Int32) (l0 &&& (7 : Int32))) - (1 : Int32)).toInt64)
    else
      if l1 = (2 : Int32) then
        ((jshlL (1 : Int64) ((8 : Int32) * (jshr l0 (3 : Int32)))) - (1 : Int64))
      else
        ((72340172838076673 : Int64) * ((jshl (254 : Int32) (l0 &&& (7 : Int32))) &&& (255 : Int32)).toInt64)
set_option maxRecDepth 100000 in
set_option maxHeartbeats 4000000 in
theorem mt_x_behind (l0 : Int32) (l1 : Int32) (h : Hp) : MT 0 39 yX4_behind cX4_behind 4 (some .long) [.int l0, .int l1] h (some (.long (f_x_behind l0 l1))) h := by
  obtain ⟨o, hf⟩ : ∃ o, f_x_behind l0 l1 = o := ⟨_, rfl⟩
  rw [hf]
  refine MT.of (by decide +kernel) (Nat.le_of_ble_eq_true rfl) fun X hX hR => ?_
  unfold f_x_behind at hf
  refine Xblk hX pkX4_ok [.iload_n 0, .bipush 7, .iand, .istore_n 2, .iload_n 0, .iconst 3, .ishr, .istore_n 3, .iload_n 1] (pc' := 10) (ls' := [(3, .int (jshr l0 (3 : Int32))), (2, .int (l0 &&& (7 : Int32))), (0, .int l0), (1, .int l1)]) (st' := [.int l1]) (h' := h) (g := true) (by decide +kernel) rfl rfl rfl ?_
  by_cases hc_1 : l1 = (0 : Int32)
  · replace hf := xif_t hc_1 hf
    refine XswAt hX 36 hc_1 (show decode _ _ = .ok (.tableswitch (58) (0) (2) #[26, 38, 49], 26) by decide +kernel) (by decide) (by decide) (o := 26) (by decide) (by decide) ?_
    refine Xblk hX pkX4_ok [.ldc2_w 99, .bipush 8, .iload_n 3, .imul, .lshl, .bipush 8, .lshl] (pc' := 47) (ls' := [(3, .int (jshr l0 (3 : Int32))), (2, .int (l0 &&& (7 : Int32))), (0, .int l0), (1, .int l1)]) (st' := [.long (jshlL (jshlL (-1 : Int64) ((8 : Int32) * (jshr l0 (3 : Int32)))) (8 : Int32))]) (h' := h) (g := true) (by decide +kernel) rfl rfl rfl ?_
    subst hf
    exact XretL hX hR (by decide +kernel)
  · replace hf := xif_f hc_1 hf
    by_cases hc_2 : l1 = (1 : Int32)
    · replace hf := xif_t hc_2 hf
      refine XswAt hX 48 hc_2 (show decode _ _ = .ok (.tableswitch (58) (0) (2) #[26, 38, 49], 26) by decide +kernel) (by decide) (by decide) (o := 38) (by decide) (by decide) ?_
      refine Xblk hX pkX4_ok [.ldc2_w 308, .iconst 1, .iload_n 2, .ishl, .iconst 1, .isub, .i2l, .lmul] (pc' := 58) (ls' := [(3, .int (jshr l0 (3 : Int32))), (2, .int (l0 &&& (7 : Int32))), (0, .int l0), (1, .int l1)]) (st' := [.long ((72340172838076673 : Int64) * ((jshl (1 : Int32) (l0 &&& (7 : Int32))) - (1 : Int32)).toInt64)]) (h' := h) (g := true) (by decide +kernel) rfl rfl rfl ?_
      subst hf
      exact XretL hX hR (by decide +kernel)
    · replace hf := xif_f hc_2 hf
      by_cases hc_3 : l1 = (2 : Int32)
      · replace hf := xif_t hc_3 hf
        refine XswAt hX 59 hc_3 (show decode _ _ = .ok (.tableswitch (58) (0) (2) #[26, 38, 49], 26) by decide +kernel) (by decide) (by decide) (o := 49) (by decide) (by decide) ?_
        refine Xblk hX pkX4_ok [.lconst 1, .bipush 8, .iload_n 3, .imul, .lshl, .lconst 1, .lsub] (pc' := 67) (ls' := [(3, .int (jshr l0 (3 : Int32))), (2, .int (l0 &&& (7 : Int32))), (0, .int l0), (1, .int l1)]) (st' := [.long ((jshlL (1 : Int64) ((8 : Int32) * (jshr l0 (3 : Int32)))) - (1 : Int64))]) (h' := h) (g := true) (by decide +kernel) rfl rfl rfl ?_
        subst hf
        exact XretL hX hR (by decide +kernel)
      · replace hf := xif_f hc_3 hf
        refine XswOut hX 68 (show decode _ _ = .ok (.tableswitch (58) (0) (2) #[26, 38, 49], 26) by decide +kernel) (by have a0 := lv_neT (a := 0) hc_1 (by decide); have a1 := lv_neT (a := 1) hc_2 (by decide); have a2 := lv_neT (a := 2) hc_3 (by decide); omega) (by decide) ?_
        refine Xblk hX pkX4_ok [.ldc2_w 308, .sipush 254, .iload_n 2, .ishl, .sipush 255, .iand, .i2l, .lmul] (pc' := 82) (ls' := [(3, .int (jshr l0 (3 : Int32))), (2, .int (l0 &&& (7 : Int32))), (0, .int l0), (1, .int l1)]) (st' := [.long ((72340172838076673 : Int64) * ((jshl (254 : Int32) (l0 &&& (7 : Int32))) &&& (255 : Int32)).toInt64)]) (h' := h) (g := true) (by decide +kernel) rfl rfl rfl ?_
        subst hf
        exact XretL hX hR (by decide +kernel)
def f_crowd_empty_6_L_3  (l2 : Int32)  (k : Int32 → Hp → Option (Hp)) : Nat → Int32 → Hp → Option (Hp)
  | 0, _, _ => none
  | n + 1, l3, h =>
    if (h.1 6 7) ≤ l3 then
      k l3 h
    else
      xgd (xin l3 2 && (xin l2 4 && true)) <|
      xgd (xin l2 4 && true) <|
      (f_crowd_empty_6_L_3 l2 k n) (l3 + (1 : Int32)) (xL h 29 l2.toNatClampNeg ((h.2 29 l2.toNatClampNeg) ||| (f_x_behind (h.1 9 l3.toNatClampNeg) l2)))
def f_crowd_empty_6_L_1    (k : Int32 → Hp → Option (Hp)) : Nat → Int32 → Hp → Option (Hp)
  | 0, _, _ => none
  | n + 1, l2, h =>
    if (4 : Int32) ≤ l2 then
      k l2 h
    else
      xgd (xin l2 4 && true) <|
      f_crowd_empty_6_L_3 l2 (fun l3_5 h_6 =>
        (f_crowd_empty_6_L_1 k n) (l2 + (1 : Int32)) h_6
        ) 1000 (0 : Int32) (xL h 29 l2.toNatClampNeg (0 : Int64))
def f_crowd_empty_6  (h : Hp) : Option (Hp) :=
  f_crowd_empty_6_L_1 (fun l2_7 h_8 =>
    some h_8
    ) 1000 (0 : Int32) (xL (xL (xL (xL h 28 1 (0 : Int64)) 28 2 (0 : Int64)) 28 3 (0 : Int64)) 28 4 (0 : Int64))
set_option maxRecDepth 100000 in
set_option maxHeartbeats 4000000 in
theorem f_crowd_empty_6_L_3_ok {X : XCtx} (hX : XOk X RX0 cX0_empty 4 1 39) {h' : Hp} (hR : XR X none none h')  (l2 : Int32)  (k : Int32 → Hp → Option (Hp))  (hk : ∀ (l3 : Int32) (h : Hp), k l3 h = some h' → XW X 69 [(0, .ref 28), (1, .ref 6), (2, .int l2)] [] h) : ∀ (n : Nat) (l3 : Int32) (h : Hp), f_crowd_empty_6_L_3 l2 k n l3 h = some h' → XW X 36 [(0, .ref 28), (1, .ref 6), (2, .int l2), (3, .int l3)] [] h := by
  intro n
  induction n with
  | zero => intro l3 h hf; cases hf
  | succ n ih =>
    intro l3 h hf
    rw [f_crowd_empty_6_L_3] at hf
    refine Xblk hX pkX0_ok [.iload_n 3, .aload_n 1, .getfield 28] (pc' := 41) (ls' := [(0, .ref 28), (1, .ref 6), (2, .int l2), (3, .int l3)]) (st' := [.int (h.1 6 7), .int l3]) (h' := h) (g := true) (by decide +kernel) rfl rfl rfl ?_
    refine Xbr hX (.if_icmp .ge (28)) (tgt := 69) (P := (h.1 6 7) ≤ l3) (r := []) (by decide +kernel) rfl (by decide) (fun hc_4 => ?_) (fun hc_4 => ?_)
    · replace hf := xif_t hc_4 hf
      refine XW.pick [0, 1, 2] (ls' := [(0, .ref 28), (1, .ref 6), (2, .int l2)]) rfl ?_
      exact hk l3 h hf
    · replace hf := xif_f hc_4 hf
      obtain ⟨hg, hf⟩ := xgd_inv hf
      refine Xblk hX pkX0_ok [.aload_n 0, .getfield 9, .iload_n 2, .dup2, .laload, .aload_n 1, .getfield 34, .iload_n 3, .iaload, .iload_n 2] (pc' := 58) (ls' := [(0, .ref 28), (1, .ref 6), (2, .int l2), (3, .int l3)]) (st' := [.int l2, .int (h.1 9 l3.toNatClampNeg), .long (h.2 29 l2.toNatClampNeg), .int l2, .ref 29]) (h' := h) (g := (xin l3 2 && (xin l2 4 && true))) (by decide +kernel) rfl rfl hg ?_
      refine XcallS hX (mt_x_behind (h.1 9 l3.toNatClampNeg) l2 h) (rest := [.long (h.2 29 l2.toNatClampNeg), .int l2, .ref 29]) (by decide) (by decide) xm_X4_behind xi_X4_behind xl_RX0_38 rfl (Nat.le_of_ble_eq_true rfl) (by decide +kernel) ?_
      show XW X 61 [(0, .ref 28), (1, .ref 6), (2, .int l2), (3, .int l3)] [.long (f_x_behind (h.1 9 l3.toNatClampNeg) l2), .long (h.2 29 l2.toNatClampNeg), .int l2, .ref 29] h
      obtain ⟨hg, hf⟩ := xgd_inv hf
      refine Xblk hX pkX0_ok [.lor, .lastore, .iinc 3 1] (pc' := 66) (ls' := [(3, .int (l3 + (1 : Int32))), (0, .ref 28), (1, .ref 6), (2, .int l2)]) (st' := []) (h' := (xL h 29 l2.toNatClampNeg ((h.2 29 l2.toNatClampNeg) ||| (f_x_behind (h.1 9 l3.toNatClampNeg) l2)))) (g := (xin l2 4 && true)) (by decide +kernel) rfl rfl hg ?_
      refine Xgoto hX (-30) 36 (by decide +kernel) (by decide) ?_
      refine XW.pick [1, 2, 3, 0] (ls' := [(0, .ref 28), (1, .ref 6), (2, .int l2), (3, .int (l3 + (1 : Int32)))]) rfl ?_
      exact ih (l3 + (1 : Int32)) (xL h 29 l2.toNatClampNeg ((h.2 29 l2.toNatClampNeg) ||| (f_x_behind (h.1 9 l3.toNatClampNeg) l2))) hf
set_option maxRecDepth 100000 in
set_option maxHeartbeats 4000000 in
theorem f_crowd_empty_6_L_1_ok {X : XCtx} (hX : XOk X RX0 cX0_empty 4 1 39) {h' : Hp} (hR : XR X none none h')    (k : Int32 → Hp → Option (Hp))  (hk : ∀ (l2 : Int32) (h : Hp), k l2 h = some h' → XW X 75 [] [] h) : ∀ (n : Nat) (l2 : Int32) (h : Hp), f_crowd_empty_6_L_1 k n l2 h = some h' → XW X 22 [(0, .ref 28), (1, .ref 6), (2, .int l2)] [] h := by
  intro n
  induction n with
  | zero => intro l2 h hf; cases hf
  | succ n ih =>
    intro l2 h hf
    rw [f_crowd_empty_6_L_1] at hf
    refine Xblk hX pkX0_ok [.iload_n 2, .iconst 4] (pc' := 24) (ls' := [(0, .ref 28), (1, .ref 6), (2, .int l2)]) (st' := [.int (4 : Int32), .int l2]) (h' := h) (g := true) (by decide +kernel) rfl rfl rfl ?_
    refine Xbr hX (.if_icmp .ge (51)) (tgt := 75) (P := (4 : Int32) ≤ l2) (r := []) (by decide +kernel) rfl (by decide) (fun hc_2 => ?_) (fun hc_2 => ?_)
    · replace hf := xif_t hc_2 hf
      refine XW.pick [] (ls' := []) rfl ?_
      exact hk l2 h hf
    · replace hf := xif_f hc_2 hf
      obtain ⟨hg, hf⟩ := xgd_inv hf
      refine Xblk hX pkX0_ok [.aload_n 0, .getfield 9, .iload_n 2, .lconst 0, .lastore, .iconst 0, .istore_n 3] (pc' := 36) (ls' := [(3, .int (0 : Int32)), (0, .ref 28), (1, .ref 6), (2, .int l2)]) (st' := []) (h' := (xL h 29 l2.toNatClampNeg (0 : Int64))) (g := (xin l2 4 && true)) (by decide +kernel) rfl rfl hg ?_
      refine XW.pick [1, 2, 3, 0] (ls' := [(0, .ref 28), (1, .ref 6), (2, .int l2), (3, .int (0 : Int32))]) rfl ?_
      refine f_crowd_empty_6_L_3_ok hX hR l2 _  (fun l3_5 h_6 hf => ?_) 1000 (0 : Int32) (xL h 29 l2.toNatClampNeg (0 : Int64)) hf
      refine Xblk hX pkX0_ok [.iinc 2 1] (pc' := 72) (ls' := [(2, .int (l2 + (1 : Int32))), (0, .ref 28), (1, .ref 6)]) (st' := []) (h' := h_6) (g := true) (by decide +kernel) rfl rfl rfl ?_
      refine Xgoto hX (-50) 22 (by decide +kernel) (by decide) ?_
      refine XW.pick [1, 2, 0] (ls' := [(0, .ref 28), (1, .ref 6), (2, .int (l2 + (1 : Int32)))]) rfl ?_
      exact ih (l2 + (1 : Int32)) h_6 hf
set_option maxRecDepth 100000 in
set_option maxHeartbeats 4000000 in
theorem mt_crowd_empty_6  (h : Hp) {h' : Hp} (hf : f_crowd_empty_6 h = some h') : MT 1 39 yX0_empty cX0_empty 4 none [.ref 28, .ref 6] h none h' := by
  refine MT.of (by decide +kernel) (Nat.le_of_ble_eq_true rfl) fun X hX hR => ?_
  unfold f_crowd_empty_6 at hf
  refine Xblk hX pkX0_ok [.aload_n 0, .lconst 0, .putfield 15, .aload_n 0, .lconst 0, .putfield 19, .aload_n 0, .lconst 0, .putfield 22, .aload_n 0, .lconst 0, .putfield 25, .iconst 0, .istore_n 2] (pc' := 22) (ls' := [(2, .int (0 : Int32)), (0, .ref 28), (1, .ref 6)]) (st' := []) (h' := (xL (xL (xL (xL h 28 1 (0 : Int64)) 28 2 (0 : Int64)) 28 3 (0 : Int64)) 28 4 (0 : Int64))) (g := true) (by decide +kernel) rfl rfl rfl ?_
  refine XW.pick [1, 2, 0] (ls' := [(0, .ref 28), (1, .ref 6), (2, .int (0 : Int32))]) rfl ?_
  refine f_crowd_empty_6_L_1_ok hX hR  _  (fun l2_7 h_8 hf => ?_) 1000 (0 : Int32) (xL (xL (xL (xL h 28 1 (0 : Int64)) 28 2 (0 : Int64)) 28 3 (0 : Int64)) 28 4 (0 : Int64)) hf
  exact XrV2 hX hR hf (by decide +kernel)
def f_crowd_join (l1 : Int32) (l2 : Int64) (h : Hp) : Hp :=
  if l1 = (0 : Int32) then
    (xL h 28 1 ((h.2 28 1) ||| l2))
  else
    if l1 = (1 : Int32) then
      (xL h 28 2 ((h.2 28 2) ||| l2))
    else
      if l1 = (2 : Int32) then
        (xL h 28 3 ((h.2 28 3) ||| l2))
      else
        (xL h 28 4 ((h.2 28 4) ||| l2))
set_option maxRecDepth 100000 in
set_option maxHeartbeats 4000000 in
theorem mt_crowd_join (l1 : Int32) (l2 : Int64) (h : Hp) : MT 0 39 yX0_join cX0_join 4 none [.ref 28, .int l1, .long l2] h none (f_crowd_join l1 l2 h) := by
  obtain ⟨o, hf⟩ : ∃ o, f_crowd_join l1 l2 h = o := ⟨_, rfl⟩
  rw [hf]
  refine MT.of (by decide +kernel) (Nat.le_of_ble_eq_true rfl) fun X hX hR => ?_
  unfold f_crowd_join at hf
  refine Xblk hX pkX0_ok [.iload_n 1] (pc' := 1) (ls' := [(0, .ref 28), (1, .int l1), (2, .long l2)]) (st' := [.int l1]) (h' := h) (g := true) (by decide +kernel) rfl rfl rfl ?_
  by_cases hc_1 : l1 = (0 : Int32)
  · replace hf := xif_t hc_1 hf
    refine XswAt hX 28 hc_1 (show decode _ _ = .ok (.tableswitch (66) (0) (2) #[27, 40, 53], 27) by decide +kernel) (by decide) (by decide) (o := 27) (by decide) (by decide) ?_
    refine Xblk hX pkX0_ok [.aload_n 0, .dup, .getfield 15, .lload_n 2, .lor, .putfield 15] (pc' := 38) (ls' := [(0, .ref 28), (1, .int l1), (2, .long l2)]) (st' := []) (h' := (xL h 28 1 ((h.2 28 1) ||| l2))) (g := true) (by decide +kernel) rfl rfl rfl ?_
    refine Xgoto hX (39) 77 (by decide +kernel) (by decide) ?_
    subst hf
    exact XretV hX hR (by decide +kernel)
  · replace hf := xif_f hc_1 hf
    by_cases hc_2 : l1 = (1 : Int32)
    · replace hf := xif_t hc_2 hf
      refine XswAt hX 41 hc_2 (show decode _ _ = .ok (.tableswitch (66) (0) (2) #[27, 40, 53], 27) by decide +kernel) (by decide) (by decide) (o := 40) (by decide) (by decide) ?_
      refine Xblk hX pkX0_ok [.aload_n 0, .dup, .getfield 19, .lload_n 2, .lor, .putfield 19] (pc' := 51) (ls' := [(0, .ref 28), (1, .int l1), (2, .long l2)]) (st' := []) (h' := (xL h 28 2 ((h.2 28 2) ||| l2))) (g := true) (by decide +kernel) rfl rfl rfl ?_
      refine Xgoto hX (26) 77 (by decide +kernel) (by decide) ?_
      subst hf
      exact XretV hX hR (by decide +kernel)
    · replace hf := xif_f hc_2 hf
      by_cases hc_3 : l1 = (2 : Int32)
      · replace hf := xif_t hc_3 hf
        refine XswAt hX 54 hc_3 (show decode _ _ = .ok (.tableswitch (66) (0) (2) #[27, 40, 53], 27) by decide +kernel) (by decide) (by decide) (o := 53) (by decide) (by decide) ?_
        refine Xblk hX pkX0_ok [.aload_n 0, .dup, .getfield 22, .lload_n 2, .lor, .putfield 22] (pc' := 64) (ls' := [(0, .ref 28), (1, .int l1), (2, .long l2)]) (st' := []) (h' := (xL h 28 3 ((h.2 28 3) ||| l2))) (g := true) (by decide +kernel) rfl rfl rfl ?_
        refine Xgoto hX (13) 77 (by decide +kernel) (by decide) ?_
        subst hf
        exact XretV hX hR (by decide +kernel)
      · replace hf := xif_f hc_3 hf
        refine XswOut hX 67 (show decode _ _ = .ok (.tableswitch (66) (0) (2) #[27, 40, 53], 27) by decide +kernel) (by have a0 := lv_neT (a := 0) hc_1 (by decide); have a1 := lv_neT (a := 1) hc_2 (by decide); have a2 := lv_neT (a := 2) hc_3 (by decide); omega) (by decide) ?_
        refine Xblk hX pkX0_ok [.aload_n 0, .dup, .getfield 25, .lload_n 2, .lor, .putfield 25] (pc' := 77) (ls' := [(0, .ref 28), (1, .int l1), (2, .long l2)]) (st' := []) (h' := (xL h 28 4 ((h.2 28 4) ||| l2))) (g := true) (by decide +kernel) rfl rfl rfl ?_
        subst hf
        exact XretV hX hR (by decide +kernel)
def f_x_widened (l0 : Int64) (l2 : Int64) : Int64 :=
  (l0 ||| (((((jushrL l0 (8 : Int32)) ||| (jshlL l0 (8 : Int32))) ||| (jshlL (l0 &&& (9187201950435737471 : Int64)) (1 : Int32))) ||| (jushrL (l0 &&& (-72340172838076674 : Int64)) (1 : Int32))) &&& l2))
set_option maxRecDepth 100000 in
set_option maxHeartbeats 4000000 in
theorem mt_x_widened (l0 : Int64) (l2 : Int64) (h : Hp) : MT 0 39 yX4_widened cX4_widened 6 (some .long) [.long l0, .long l2] h (some (.long (f_x_widened l0 l2))) h := by
  obtain ⟨o, hf⟩ : ∃ o, f_x_widened l0 l2 = o := ⟨_, rfl⟩
  rw [hf]
  refine MT.of (by decide +kernel) (Nat.le_of_ble_eq_true rfl) fun X hX hR => ?_
  unfold f_x_widened at hf
  refine Xblk hX pkX4_ok [.lload_n 0, .bipush 8, .lushr, .lload_n 0, .bipush 8, .lshl, .lor, .lload_n 0, .ldc2_w 304, .land, .iconst 1, .lshl, .lor, .lload_n 0, .ldc2_w 306, .land, .iconst 1, .lushr, .lor, .lstore 4, .lload_n 0, .lload 4, .lload_n 2, .land, .lor] (pc' := 33) (ls' := [(4, .long ((((jushrL l0 (8 : Int32)) ||| (jshlL l0 (8 : Int32))) ||| (jshlL (l0 &&& (9187201950435737471 : Int64)) (1 : Int32))) ||| (jushrL (l0 &&& (-72340172838076674 : Int64)) (1 : Int32)))), (0, .long l0), (2, .long l2)]) (st' := [.long (l0 ||| (((((jushrL l0 (8 : Int32)) ||| (jshlL l0 (8 : Int32))) ||| (jshlL (l0 &&& (9187201950435737471 : Int64)) (1 : Int32))) ||| (jushrL (l0 &&& (-72340172838076674 : Int64)) (1 : Int32))) &&& l2))]) (h' := h) (g := true) (by decide +kernel) rfl rfl rfl ?_
  subst hf
  exact XretL hX hR (by decide +kernel)
def f_crowd_nearer_L_1  (l1 : Int64) (h : Hp) (k : Int64 → Int32 → Option (Int64)) : Nat → Int64 → Int32 → Option (Int64)
  | 0, _, _ => none
  | n + 1, l3, l5 =>
    if (4 : Int32) ≤ l5 then
      k l3 l5
    else
      xgd (xin l5 4 && true) <|
      (f_crowd_nearer_L_1 l1 h k n) (l3 ||| ((f_x_shifted ((h.2 28 4) &&& (h.2 29 l5.toNatClampNeg)) l5) &&& l1)) (l5 + (1 : Int32))
def f_crowd_nearer (l1 : Int64) (h : Hp) : Option (Int64) :=
  f_crowd_nearer_L_1 l1 h (fun l3_3 l5_4 =>
    some l3_3
    ) 1000 (h.2 28 4) (0 : Int32)
set_option maxRecDepth 100000 in
set_option maxHeartbeats 4000000 in
theorem f_crowd_nearer_L_1_ok {X : XCtx} (hX : XOk X RX0 cX0_nearer 6 1 39) {r : Int64} {h : Hp} (hR : XR X (some .long) (some (.long r)) h)  (l1 : Int64)  (k : Int64 → Int32 → Option (Int64))  (hk : ∀ (l3 : Int64) (l5 : Int32), k l3 l5 = some r → XW X 42 [(3, .long l3)] [] h) : ∀ (n : Nat) (l3 : Int64) (l5 : Int32), f_crowd_nearer_L_1 l1 h k n l3 l5 = some r → XW X 8 [(0, .ref 28), (1, .long l1), (3, .long l3), (5, .int l5)] [] h := by
  intro n
  induction n with
  | zero => intro l3 l5 hf; cases hf
  | succ n ih =>
    intro l3 l5 hf
    rw [f_crowd_nearer_L_1] at hf
    refine Xblk hX pkX0_ok [.iload 5, .iconst 4] (pc' := 11) (ls' := [(0, .ref 28), (1, .long l1), (3, .long l3), (5, .int l5)]) (st' := [.int (4 : Int32), .int l5]) (h' := h) (g := true) (by decide +kernel) rfl rfl rfl ?_
    refine Xbr hX (.if_icmp .ge (31)) (tgt := 42) (P := (4 : Int32) ≤ l5) (r := []) (by decide +kernel) rfl (by decide) (fun hc_2 => ?_) (fun hc_2 => ?_)
    · replace hf := xif_t hc_2 hf
      refine XW.pick [2] (ls' := [(3, .long l3)]) rfl ?_
      exact hk l3 l5 hf
    · replace hf := xif_f hc_2 hf
      obtain ⟨hg, hf⟩ := xgd_inv hf
      refine Xblk hX pkX0_ok [.lload_n 3, .aload_n 0, .getfield 25, .aload_n 0, .getfield 9, .iload 5, .laload, .land, .iload 5] (pc' := 29) (ls' := [(0, .ref 28), (1, .long l1), (3, .long l3), (5, .int l5)]) (st' := [.int l5, .long ((h.2 28 4) &&& (h.2 29 l5.toNatClampNeg)), .long l3]) (h' := h) (g := (xin l5 4 && true)) (by decide +kernel) rfl rfl hg ?_
      refine XcallS hX (mt_x_shifted ((h.2 28 4) &&& (h.2 29 l5.toNatClampNeg)) l5 h) (rest := [.long l3]) (by decide) (by decide) xm_X4_shifted xi_X4_shifted xl_RX0_50 rfl (Nat.le_of_ble_eq_true rfl) (by decide +kernel) ?_
      show XW X 32 [(0, .ref 28), (1, .long l1), (3, .long l3), (5, .int l5)] [.long (f_x_shifted ((h.2 28 4) &&& (h.2 29 l5.toNatClampNeg)) l5), .long l3] h
      refine Xblk hX pkX0_ok [.lload_n 1, .land, .lor, .lstore_n 3, .iinc 5 1] (pc' := 39) (ls' := [(5, .int (l5 + (1 : Int32))), (3, .long (l3 ||| ((f_x_shifted ((h.2 28 4) &&& (h.2 29 l5.toNatClampNeg)) l5) &&& l1))), (0, .ref 28), (1, .long l1)]) (st' := []) (h' := h) (g := true) (by decide +kernel) rfl rfl rfl ?_
      refine Xgoto hX (-31) 8 (by decide +kernel) (by decide) ?_
      refine XW.pick [2, 3, 1, 0] (ls' := [(0, .ref 28), (1, .long l1), (3, .long (l3 ||| ((f_x_shifted ((h.2 28 4) &&& (h.2 29 l5.toNatClampNeg)) l5) &&& l1))), (5, .int (l5 + (1 : Int32)))]) rfl ?_
      exact ih (l3 ||| ((f_x_shifted ((h.2 28 4) &&& (h.2 29 l5.toNatClampNeg)) l5) &&& l1)) (l5 + (1 : Int32)) hf
set_option maxRecDepth 100000 in
set_option maxHeartbeats 4000000 in
theorem mt_crowd_nearer (l1 : Int64) (h : Hp) {r : Int64} (hf : f_crowd_nearer l1 h = some r) : MT 1 39 yX0_nearer cX0_nearer 6 (some .long) [.ref 28, .long l1] h (some (.long r)) h := by
  refine MT.of (by decide +kernel) (Nat.le_of_ble_eq_true rfl) fun X hX hR => ?_
  unfold f_crowd_nearer at hf
  refine Xblk hX pkX0_ok [.aload_n 0, .getfield 25, .lstore_n 3, .iconst 0, .istore 5] (pc' := 8) (ls' := [(5, .int (0 : Int32)), (3, .long (h.2 28 4)), (0, .ref 28), (1, .long l1)]) (st' := []) (h' := h) (g := true) (by decide +kernel) rfl rfl rfl ?_
  refine XW.pick [2, 3, 1, 0] (ls' := [(0, .ref 28), (1, .long l1), (3, .long (h.2 28 4)), (5, .int (0 : Int32))]) rfl ?_
  refine f_crowd_nearer_L_1_ok hX hR l1 _  (fun l3_3 l5_4 hf => ?_) 1000 (h.2 28 4) (0 : Int32) hf
  refine Xblk hX pkX0_ok [.lload_n 3] (pc' := 43) (ls' := [(3, .long l3_3)]) (st' := [.long l3_3]) (h' := h) (g := true) (by decide +kernel) rfl rfl rfl ?_
  exact XrL1 hX hR hf (by decide +kernel)
def f_crowd_afterTicks_L_1  (l1 : Int32) (l2 : Int64)  (k : Int32 → Hp → Option (Int64 × Hp)) : Nat → Int32 → Hp → Option (Int64 × Hp)
  | 0, _, _ => none
  | n + 1, l4, h =>
    if l1 ≤ l4 then
      k l4 h
    else
      xbd1 (f_crowd_nearer l2 (xL (xL h 28 2 (f_x_widened (h.2 28 2) l2)) 28 3 (f_x_widened (f_x_widened (h.2 28 3) l2) l2))) fun v_4 =>
      (f_crowd_afterTicks_L_1 l1 l2 k n) (l4 + (1 : Int32)) (xL (xL (xL h 28 2 (f_x_widened (h.2 28 2) l2)) 28 3 (f_x_widened (f_x_widened (h.2 28 3) l2) l2)) 28 4 v_4)
def f_crowd_afterTicks (l1 : Int32) (l2 : Int64) (h : Hp) : Option (Int64 × Hp) :=
  f_crowd_afterTicks_L_1 l1 l2 (fun l4_5 h_6 =>
    some (((((h_6.2 28 1) ||| (h_6.2 28 2)) ||| (h_6.2 28 3)) ||| (h_6.2 28 4)), h_6)
    ) 1000 (0 : Int32) h
set_option maxRecDepth 100000 in
set_option maxHeartbeats 4000000 in
theorem f_crowd_afterTicks_L_1_ok {X : XCtx} (hX : XOk X RX0 cX0_afterTicks 5 2 39) {r : Int64} {h' : Hp} (hR : XR X (some .long) (some (.long r)) h')  (l1 : Int32) (l2 : Int64)  (k : Int32 → Hp → Option (Int64 × Hp))  (hk : ∀ (l4 : Int32) (h : Hp), k l4 h = some (r, h') → XW X 52 [(0, .ref 28)] [] h) : ∀ (n : Nat) (l4 : Int32) (h : Hp), f_crowd_afterTicks_L_1 l1 l2 k n l4 h = some (r, h') → XW X 3 [(0, .ref 28), (1, .int l1), (2, .long l2), (4, .int l4)] [] h := by
  intro n
  induction n with
  | zero => intro l4 h hf; cases hf
  | succ n ih =>
    intro l4 h hf
    rw [f_crowd_afterTicks_L_1] at hf
    refine Xblk hX pkX0_ok [.iload 4, .iload_n 1] (pc' := 6) (ls' := [(0, .ref 28), (1, .int l1), (2, .long l2), (4, .int l4)]) (st' := [.int l1, .int l4]) (h' := h) (g := true) (by decide +kernel) rfl rfl rfl ?_
    refine Xbr hX (.if_icmp .ge (46)) (tgt := 52) (P := l1 ≤ l4) (r := []) (by decide +kernel) rfl (by decide) (fun hc_2 => ?_) (fun hc_2 => ?_)
    · replace hf := xif_t hc_2 hf
      refine XW.pick [0] (ls' := [(0, .ref 28)]) rfl ?_
      exact hk l4 h hf
    · replace hf := xif_f hc_2 hf
      refine Xblk hX pkX0_ok [.aload_n 0, .aload_n 0, .getfield 19, .lload_n 2] (pc' := 15) (ls' := [(0, .ref 28), (1, .int l1), (2, .long l2), (4, .int l4)]) (st' := [.long l2, .long (h.2 28 2), .ref 28]) (h' := h) (g := true) (by decide +kernel) rfl rfl rfl ?_
      refine XcallS hX (mt_x_widened (h.2 28 2) l2 h) (rest := [.ref 28]) (by decide) (by decide) xm_X4_widened xi_X4_widened xl_RX0_42 rfl (Nat.le_of_ble_eq_true rfl) (by decide +kernel) ?_
      show XW X 18 [(0, .ref 28), (1, .int l1), (2, .long l2), (4, .int l4)] [.long (f_x_widened (h.2 28 2) l2), .ref 28] h
      refine Xblk hX pkX0_ok [.putfield 19, .aload_n 0, .aload_n 0, .getfield 22, .lload_n 2] (pc' := 27) (ls' := [(0, .ref 28), (1, .int l1), (2, .long l2), (4, .int l4)]) (st' := [.long l2, .long (h.2 28 3), .ref 28]) (h' := (xL h 28 2 (f_x_widened (h.2 28 2) l2))) (g := true) (by decide +kernel) rfl rfl rfl ?_
      refine XcallS hX (mt_x_widened (h.2 28 3) l2 (xL h 28 2 (f_x_widened (h.2 28 2) l2))) (rest := [.ref 28]) (by decide) (by decide) xm_X4_widened xi_X4_widened xl_RX0_42 rfl (Nat.le_of_ble_eq_true rfl) (by decide +kernel) ?_
      show XW X 30 [(0, .ref 28), (1, .int l1), (2, .long l2), (4, .int l4)] [.long (f_x_widened (h.2 28 3) l2), .ref 28] (xL h 28 2 (f_x_widened (h.2 28 2) l2))
      refine Xblk hX pkX0_ok [.lload_n 2] (pc' := 31) (ls' := [(0, .ref 28), (1, .int l1), (2, .long l2), (4, .int l4)]) (st' := [.long l2, .long (f_x_widened (h.2 28 3) l2), .ref 28]) (h' := (xL h 28 2 (f_x_widened (h.2 28 2) l2))) (g := true) (by decide +kernel) rfl rfl rfl ?_
      refine XcallS hX (mt_x_widened (f_x_widened (h.2 28 3) l2) l2 (xL h 28 2 (f_x_widened (h.2 28 2) l2))) (rest := [.ref 28]) (by decide) (by decide) xm_X4_widened xi_X4_widened xl_RX0_42 rfl (Nat.le_of_ble_eq_true rfl) (by decide +kernel) ?_
      show XW X 34 [(0, .ref 28), (1, .int l1), (2, .long l2), (4, .int l4)] [.long (f_x_widened (f_x_widened (h.2 28 3) l2) l2), .ref 28] (xL h 28 2 (f_x_widened (h.2 28 2) l2))
      refine Xblk hX pkX0_ok [.putfield 22, .aload_n 0, .aload_n 0, .lload_n 2] (pc' := 40) (ls' := [(0, .ref 28), (1, .int l1), (2, .long l2), (4, .int l4)]) (st' := [.long l2, .ref 28, .ref 28]) (h' := (xL (xL h 28 2 (f_x_widened (h.2 28 2) l2)) 28 3 (f_x_widened (f_x_widened (h.2 28 3) l2) l2))) (g := true) (by decide +kernel) rfl rfl rfl ?_
      obtain ⟨v_4, hc_3, hf⟩ := xbd1_inv hf
      refine XcallV hX (mt_crowd_nearer l2 (xL (xL h 28 2 (f_x_widened (h.2 28 2) l2)) 28 3 (f_x_widened (f_x_widened (h.2 28 3) l2) l2)) hc_3) (rest := [.ref 28]) (by decide) (by decide) xm_X0_nearer xi_X0_nearer xs_X0_nearer xl_RX0_46 (by decide) (xsh_28) rfl rfl rfl (Nat.le_of_ble_eq_true rfl) (by decide +kernel) ?_
      show XW X 43 [(0, .ref 28), (1, .int l1), (2, .long l2), (4, .int l4)] [.long v_4, .ref 28] (xL (xL h 28 2 (f_x_widened (h.2 28 2) l2)) 28 3 (f_x_widened (f_x_widened (h.2 28 3) l2) l2))
      refine Xblk hX pkX0_ok [.putfield 25, .iinc 4 1] (pc' := 49) (ls' := [(4, .int (l4 + (1 : Int32))), (0, .ref 28), (1, .int l1), (2, .long l2)]) (st' := []) (h' := (xL (xL (xL h 28 2 (f_x_widened (h.2 28 2) l2)) 28 3 (f_x_widened (f_x_widened (h.2 28 3) l2) l2)) 28 4 v_4)) (g := true) (by decide +kernel) rfl rfl rfl ?_
      refine Xgoto hX (-46) 3 (by decide +kernel) (by decide) ?_
      refine XW.pick [1, 2, 3, 0] (ls' := [(0, .ref 28), (1, .int l1), (2, .long l2), (4, .int (l4 + (1 : Int32)))]) rfl ?_
      exact ih (l4 + (1 : Int32)) (xL (xL (xL h 28 2 (f_x_widened (h.2 28 2) l2)) 28 3 (f_x_widened (f_x_widened (h.2 28 3) l2) l2)) 28 4 v_4) hf
set_option maxRecDepth 100000 in
set_option maxHeartbeats 4000000 in
theorem mt_crowd_afterTicks (l1 : Int32) (l2 : Int64) (h : Hp) {r : Int64} {h' : Hp} (hf : f_crowd_afterTicks l1 l2 h = some (r, h')) : MT 2 39 yX0_afterTicks cX0_afterTicks 5 (some .long) [.ref 28, .int l1, .long l2] h (some (.long r)) h' := by
  refine MT.of (by decide +kernel) (Nat.le_of_ble_eq_true rfl) fun X hX hR => ?_
  unfold f_crowd_afterTicks at hf
  refine Xblk hX pkX0_ok [.iconst 0, .istore 4] (pc' := 3) (ls' := [(4, .int (0 : Int32)), (0, .ref 28), (1, .int l1), (2, .long l2)]) (st' := []) (h' := h) (g := true) (by decide +kernel) rfl rfl rfl ?_
  refine XW.pick [1, 2, 3, 0] (ls' := [(0, .ref 28), (1, .int l1), (2, .long l2), (4, .int (0 : Int32))]) rfl ?_
  refine f_crowd_afterTicks_L_1_ok hX hR l1 l2 _  (fun l4_5 h_6 hf => ?_) 1000 (0 : Int32) h hf
  refine Xblk hX pkX0_ok [.aload_n 0, .getfield 15, .aload_n 0, .getfield 19, .lor, .aload_n 0, .getfield 22, .lor, .aload_n 0, .getfield 25, .lor] (pc' := 71) (ls' := [(0, .ref 28)]) (st' := [.long ((((h_6.2 28 1) ||| (h_6.2 28 2)) ||| (h_6.2 28 3)) ||| (h_6.2 28 4))]) (h' := h_6) (g := true) (by decide +kernel) rfl rfl rfl ?_
  exact XrL2 hX hR hf (by decide +kernel)
def f_x_couldBe (l1 : Int32) (l2 : Int32) (h : Hp) : Option (Int64 × Hp) :=
  xbd1 (f_crowd_empty_6 h) fun h_2 =>
  xgd (xin l1 6 && (xin l1 6 && true)) <|
  xbd2 (f_crowd_afterTicks l2 ((f_crowd_join (h_2.1 8 l1.toNatClampNeg) (jshlL (1 : Int64) (h_2.1 7 l1.toNatClampNeg)) h_2).2 2 5) (f_crowd_join (h_2.1 8 l1.toNatClampNeg) (jshlL (1 : Int64) (h_2.1 7 l1.toNatClampNeg)) h_2)) fun v_5 h_4 =>
  some (v_5, h_4)
set_option maxRecDepth 100000 in
set_option maxHeartbeats 4000000 in
theorem mt_x_couldBe (l1 : Int32) (l2 : Int32) (h : Hp) {r : Int64} {h' : Hp} (hf : f_x_couldBe l1 l2 h = some (r, h')) : MT 3 39 yX4_couldBe cX4_couldBe 3 (some .long) [.ref 0, .int l1, .int l2] h (some (.long r)) h' := by
  refine MT.of (by decide +kernel) (Nat.le_of_ble_eq_true rfl) fun X hX hR => ?_
  unfold f_x_couldBe at hf
  refine Xblk hX pkX4_ok [.aload_n 0, .getfield 34, .aload_n 0, .getfield 23] (pc' := 8) (ls' := [(0, .ref 0), (1, .int l1), (2, .int l2)]) (st' := [.ref 6, .ref 28]) (h' := h) (g := true) (by decide +kernel) rfl rfl rfl ?_
  obtain ⟨h_2, hc_1, hf⟩ := xbd1_inv hf
  refine XcallV hX (mt_crowd_empty_6  h hc_1) (rest := []) (by decide) (by decide) xm_X0_empty xi_X0_empty xs_X0_empty xl_RX4_275 (by decide) (xsh_28) rfl rfl rfl (Nat.le_of_ble_eq_true rfl) (by decide +kernel) ?_
  show XW X 11 [(0, .ref 0), (1, .int l1), (2, .int l2)] [] h_2
  obtain ⟨hg, hf⟩ := xgd_inv hf
  refine Xblk hX pkX4_ok [.aload_n 0, .getfield 34, .aload_n 0, .getfield 23, .getfield 140, .iload_n 1, .iaload, .lconst 1, .aload_n 0, .getfield 23, .getfield 137, .iload_n 1, .iaload, .lshl] (pc' := 35) (ls' := [(0, .ref 0), (1, .int l1), (2, .int l2)]) (st' := [.long (jshlL (1 : Int64) (h_2.1 7 l1.toNatClampNeg)), .int (h_2.1 8 l1.toNatClampNeg), .ref 28]) (h' := h_2) (g := (xin l1 6 && (xin l1 6 && true))) (by decide +kernel) rfl rfl hg ?_
  refine XcallV hX (mt_crowd_join (h_2.1 8 l1.toNatClampNeg) (jshlL (1 : Int64) (h_2.1 7 l1.toNatClampNeg)) h_2) (rest := []) (by decide) (by decide) xm_X0_join xi_X0_join xs_X0_join xl_RX4_277 (by decide) (xsh_28) rfl rfl rfl (Nat.le_of_ble_eq_true rfl) (by decide +kernel) ?_
  show XW X 38 [(0, .ref 0), (1, .int l1), (2, .int l2)] [] (f_crowd_join (h_2.1 8 l1.toNatClampNeg) (jshlL (1 : Int64) (h_2.1 7 l1.toNatClampNeg)) h_2)
  refine Xblk hX pkX4_ok [.aload_n 0, .getfield 34, .iload_n 2, .aload_n 0, .getfield 16, .getfield 96] (pc' := 50) (ls' := [(0, .ref 0), (1, .int l1), (2, .int l2)]) (st' := [.long ((f_crowd_join (h_2.1 8 l1.toNatClampNeg) (jshlL (1 : Int64) (h_2.1 7 l1.toNatClampNeg)) h_2).2 2 5), .int l2, .ref 28]) (h' := (f_crowd_join (h_2.1 8 l1.toNatClampNeg) (jshlL (1 : Int64) (h_2.1 7 l1.toNatClampNeg)) h_2)) (g := true) (by decide +kernel) rfl rfl rfl ?_
  obtain ⟨v_5, h_4, hc_3, hf⟩ := xbd2_inv hf
  refine XcallV hX (mt_crowd_afterTicks l2 ((f_crowd_join (h_2.1 8 l1.toNatClampNeg) (jshlL (1 : Int64) (h_2.1 7 l1.toNatClampNeg)) h_2).2 2 5) (f_crowd_join (h_2.1 8 l1.toNatClampNeg) (jshlL (1 : Int64) (h_2.1 7 l1.toNatClampNeg)) h_2) hc_3) (rest := []) (by decide) (by decide) xm_X0_afterTicks xi_X0_afterTicks xs_X0_afterTicks xl_RX4_159 (by decide) (xsh_28) rfl rfl rfl (Nat.le_of_ble_eq_true rfl) (by decide +kernel) ?_
  show XW X 53 [(0, .ref 0), (1, .int l1), (2, .int l2)] [.long v_5] h_4
  exact XrL2 hX hR hf (by decide +kernel)
def f_x_could (l1 : Int32) (l2 : Int32) (h : Hp) : Option (Int64 × Hp) :=
  if (f_x_isPerson l1 h) = (0 : Int32) then
    some ((-1 : Int64), h)
  else
    if l2 < (0 : Int32) then
      some ((-1 : Int64), h)
    else
      if l2 ≤ (20 : Int32) then
        xbd2 (f_x_couldBe l1 l2 h) fun v_6 h_5 =>
        some (v_6, h_5)
      else
        some ((-1 : Int64), h)
set_option maxRecDepth 100000 in
set_option maxHeartbeats 4000000 in
theorem mt_x_could (l1 : Int32) (l2 : Int32) (h : Hp) {r : Int64} {h' : Hp} (hf : f_x_could l1 l2 h = some (r, h')) : MT 4 39 yX4_could cX4_could 3 (some .long) [.ref 0, .int l1, .int l2] h (some (.long r)) h' := by
  refine MT.of (by decide +kernel) (Nat.le_of_ble_eq_true rfl) fun X hX hR => ?_
  unfold f_x_could at hf
  refine Xblk hX pkX4_ok [.aload_n 0, .iload_n 1] (pc' := 2) (ls' := [(0, .ref 0), (1, .int l1), (2, .int l2)]) (st' := [.int l1, .ref 0]) (h' := h) (g := true) (by decide +kernel) rfl rfl rfl ?_
  refine XcallV hX (mt_x_isPerson l1 h) (rest := []) (by decide) (by decide) xm_X4_isPerson xi_X4_isPerson xs_X4_isPerson xl_RX4_134 (by decide) (xsh_0) rfl rfl rfl (Nat.le_of_ble_eq_true rfl) (by decide +kernel) ?_
  show XW X 5 [(0, .ref 0), (1, .int l1), (2, .int l2)] [.int (f_x_isPerson l1 h)] h
  refine Xbr hX (.ifCond .eq (13)) (tgt := 18) (P := (f_x_isPerson l1 h) = (0 : Int32)) (r := []) (by decide +kernel) rfl (by decide) (fun hc_1 => ?_) (fun hc_1 => ?_)
  · replace hf := xif_t hc_1 hf
    refine Xblk hX pkX4_ok [.ldc2_w 99] (pc' := 21) (ls' := [(0, .ref 0), (1, .int l1), (2, .int l2)]) (st' := [.long (-1 : Int64)]) (h' := h) (g := true) (by decide +kernel) rfl rfl rfl ?_
    exact XrL2 hX hR hf (by decide +kernel)
  · replace hf := xif_f hc_1 hf
    refine Xblk hX pkX4_ok [.iload_n 2] (pc' := 9) (ls' := [(0, .ref 0), (1, .int l1), (2, .int l2)]) (st' := [.int l2]) (h' := h) (g := true) (by decide +kernel) rfl rfl rfl ?_
    refine Xbr hX (.ifCond .lt (9)) (tgt := 18) (P := l2 < (0 : Int32)) (r := []) (by decide +kernel) rfl (by decide) (fun hc_2 => ?_) (fun hc_2 => ?_)
    · replace hf := xif_t hc_2 hf
      refine Xblk hX pkX4_ok [.ldc2_w 99] (pc' := 21) (ls' := [(0, .ref 0), (1, .int l1), (2, .int l2)]) (st' := [.long (-1 : Int64)]) (h' := h) (g := true) (by decide +kernel) rfl rfl rfl ?_
      exact XrL2 hX hR hf (by decide +kernel)
    · replace hf := xif_f hc_2 hf
      refine Xblk hX pkX4_ok [.iload_n 2, .bipush 20] (pc' := 15) (ls' := [(0, .ref 0), (1, .int l1), (2, .int l2)]) (st' := [.int (20 : Int32), .int l2]) (h' := h) (g := true) (by decide +kernel) rfl rfl rfl ?_
      refine Xbr hX (.if_icmp .le (7)) (tgt := 22) (P := l2 ≤ (20 : Int32)) (r := []) (by decide +kernel) rfl (by decide) (fun hc_3 => ?_) (fun hc_3 => ?_)
      · replace hf := xif_t hc_3 hf
        refine Xblk hX pkX4_ok [.aload_n 0, .iload_n 1, .iload_n 2] (pc' := 25) (ls' := [(0, .ref 0), (1, .int l1), (2, .int l2)]) (st' := [.int l2, .int l1, .ref 0]) (h' := h) (g := true) (by decide +kernel) rfl rfl rfl ?_
        obtain ⟨v_6, h_5, hc_4, hf⟩ := xbd2_inv hf
        refine XcallV hX (mt_x_couldBe l1 l2 h hc_4) (rest := []) (by decide) (by decide) xm_X4_couldBe xi_X4_couldBe xs_X4_couldBe xl_RX4_152 (by decide) (xsh_0) rfl rfl rfl (Nat.le_of_ble_eq_true rfl) (by decide +kernel) ?_
        show XW X 28 [(0, .ref 0), (1, .int l1), (2, .int l2)] [.long v_6] h_5
        exact XrL2 hX hR hf (by decide +kernel)
      · replace hf := xif_f hc_3 hf
        refine Xblk hX pkX4_ok [.ldc2_w 99] (pc' := 21) (ls' := [(0, .ref 0), (1, .int l1), (2, .int l2)]) (st' := [.long (-1 : Int64)]) (h' := h) (g := true) (by decide +kernel) rfl rfl rfl ?_
        exact XrL2 hX hR hf (by decide +kernel)
def f_x_gatherSeen_L_3  (l1 : Int64)  (k : Int32 → Hp → Option (Hp)) : Nat → Int32 → Hp → Option (Hp)
  | 0, _, _ => none
  | n + 1, l3, h =>
    if (h.1 6 6) ≤ l3 then
      k l3 h
    else
      xgd (xin l3 6 && (xin l3 6 && true)) <|
      (f_x_gatherSeen_L_3 l1 k n) (l3 + (1 : Int32)) (f_crowd_join (h.1 8 l3.toNatClampNeg) (l1 &&& (jshlL (1 : Int64) (h.1 7 l3.toNatClampNeg))) h)
def f_x_gatherSeen (l1 : Int64) (h : Hp) : Option (Hp) :=
  xbd1 (f_crowd_empty_6 h) fun h_2 =>
  f_x_gatherSeen_L_3 l1 (fun l3_5 h_6 =>
    some h_6
    ) 1000 (0 : Int32) h_2
set_option maxRecDepth 100000 in
set_option maxHeartbeats 4000000 in
theorem f_x_gatherSeen_L_3_ok {X : XCtx} (hX : XOk X RX4 cX4_gatherSeen 4 2 39) {h' : Hp} (hR : XR X none none h')  (l1 : Int64)  (k : Int32 → Hp → Option (Hp))  (hk : ∀ (l3 : Int32) (h : Hp), k l3 h = some h' → XW X 59 [] [] h) : ∀ (n : Nat) (l3 : Int32) (h : Hp), f_x_gatherSeen_L_3 l1 k n l3 h = some h' → XW X 13 [(0, .ref 0), (1, .long l1), (3, .int l3)] [] h := by
  intro n
  induction n with
  | zero => intro l3 h hf; cases hf
  | succ n ih =>
    intro l3 h hf
    rw [f_x_gatherSeen_L_3] at hf
    refine Xblk hX pkX4_ok [.iload_n 3, .aload_n 0, .getfield 23, .getfield 114] (pc' := 21) (ls' := [(0, .ref 0), (1, .long l1), (3, .int l3)]) (st' := [.int (h.1 6 6), .int l3]) (h' := h) (g := true) (by decide +kernel) rfl rfl rfl ?_
    refine Xbr hX (.if_icmp .ge (38)) (tgt := 59) (P := (h.1 6 6) ≤ l3) (r := []) (by decide +kernel) rfl (by decide) (fun hc_4 => ?_) (fun hc_4 => ?_)
    · replace hf := xif_t hc_4 hf
      refine XW.pick [] (ls' := []) rfl ?_
      exact hk l3 h hf
    · replace hf := xif_f hc_4 hf
      obtain ⟨hg, hf⟩ := xgd_inv hf
      refine Xblk hX pkX4_ok [.aload_n 0, .getfield 34, .aload_n 0, .getfield 23, .getfield 140, .iload_n 3, .iaload, .lload_n 1, .lconst 1, .aload_n 0, .getfield 23, .getfield 137, .iload_n 3, .iaload, .lshl, .land] (pc' := 50) (ls' := [(0, .ref 0), (1, .long l1), (3, .int l3)]) (st' := [.long (l1 &&& (jshlL (1 : Int64) (h.1 7 l3.toNatClampNeg))), .int (h.1 8 l3.toNatClampNeg), .ref 28]) (h' := h) (g := (xin l3 6 && (xin l3 6 && true))) (by decide +kernel) rfl rfl hg ?_
      refine XcallV hX (mt_crowd_join (h.1 8 l3.toNatClampNeg) (l1 &&& (jshlL (1 : Int64) (h.1 7 l3.toNatClampNeg))) h) (rest := []) (by decide) (by decide) xm_X0_join xi_X0_join xs_X0_join xl_RX4_277 (by decide) (xsh_28) rfl rfl rfl (Nat.le_of_ble_eq_true rfl) (by decide +kernel) ?_
      show XW X 53 [(0, .ref 0), (1, .long l1), (3, .int l3)] [] (f_crowd_join (h.1 8 l3.toNatClampNeg) (l1 &&& (jshlL (1 : Int64) (h.1 7 l3.toNatClampNeg))) h)
      refine Xblk hX pkX4_ok [.iinc 3 1] (pc' := 56) (ls' := [(3, .int (l3 + (1 : Int32))), (0, .ref 0), (1, .long l1)]) (st' := []) (h' := (f_crowd_join (h.1 8 l3.toNatClampNeg) (l1 &&& (jshlL (1 : Int64) (h.1 7 l3.toNatClampNeg))) h)) (g := true) (by decide +kernel) rfl rfl rfl ?_
      refine Xgoto hX (-43) 13 (by decide +kernel) (by decide) ?_
      refine XW.pick [1, 2, 0] (ls' := [(0, .ref 0), (1, .long l1), (3, .int (l3 + (1 : Int32)))]) rfl ?_
      exact ih (l3 + (1 : Int32)) (f_crowd_join (h.1 8 l3.toNatClampNeg) (l1 &&& (jshlL (1 : Int64) (h.1 7 l3.toNatClampNeg))) h) hf
set_option maxRecDepth 100000 in
set_option maxHeartbeats 4000000 in
theorem mt_x_gatherSeen (l1 : Int64) (h : Hp) {h' : Hp} (hf : f_x_gatherSeen l1 h = some h') : MT 2 39 yX4_gatherSeen cX4_gatherSeen 4 none [.ref 0, .long l1] h none h' := by
  refine MT.of (by decide +kernel) (Nat.le_of_ble_eq_true rfl) fun X hX hR => ?_
  unfold f_x_gatherSeen at hf
  refine Xblk hX pkX4_ok [.aload_n 0, .getfield 34, .aload_n 0, .getfield 23] (pc' := 8) (ls' := [(0, .ref 0), (1, .long l1)]) (st' := [.ref 6, .ref 28]) (h' := h) (g := true) (by decide +kernel) rfl rfl rfl ?_
  obtain ⟨h_2, hc_1, hf⟩ := xbd1_inv hf
  refine XcallV hX (mt_crowd_empty_6  h hc_1) (rest := []) (by decide) (by decide) xm_X0_empty xi_X0_empty xs_X0_empty xl_RX4_275 (by decide) (xsh_28) rfl rfl rfl (Nat.le_of_ble_eq_true rfl) (by decide +kernel) ?_
  show XW X 11 [(0, .ref 0), (1, .long l1)] [] h_2
  refine Xblk hX pkX4_ok [.iconst 0, .istore_n 3] (pc' := 13) (ls' := [(3, .int (0 : Int32)), (0, .ref 0), (1, .long l1)]) (st' := []) (h' := h_2) (g := true) (by decide +kernel) rfl rfl rfl ?_
  refine XW.pick [1, 2, 0] (ls' := [(0, .ref 0), (1, .long l1), (3, .int (0 : Int32))]) rfl ?_
  refine f_x_gatherSeen_L_3_ok hX hR l1 _  (fun l3_5 h_6 hf => ?_) 1000 (0 : Int32) h_2 hf
  exact XrV2 hX hR hf (by decide +kernel)
def f_x_gatherAnybody (l1 : Int32) (h : Hp) : Option (Hp) :=
  xbd1 (f_x_seenBy l1 h) fun v_2 =>
  xbd1 (f_x_gatherSeen v_2 h) fun h_4 =>
  some (f_crowd_join (1 : Int32) ((h_4.2 2 5) &&& (v_2 ^^^ (-1 : Int64))) h_4)
set_option maxRecDepth 100000 in
set_option maxHeartbeats 4000000 in
theorem mt_x_gatherAnybody (l1 : Int32) (h : Hp) {h' : Hp} (hf : f_x_gatherAnybody l1 h = some h') : MT 3 39 yX4_gatherAnybody cX4_gatherAnybody 4 none [.ref 0, .int l1] h none h' := by
  refine MT.of (by decide +kernel) (Nat.le_of_ble_eq_true rfl) fun X hX hR => ?_
  unfold f_x_gatherAnybody at hf
  refine Xblk hX pkX4_ok [.aload_n 0, .iload_n 1] (pc' := 2) (ls' := [(0, .ref 0), (1, .int l1)]) (st' := [.int l1, .ref 0]) (h' := h) (g := true) (by decide +kernel) rfl rfl rfl ?_
  obtain ⟨v_2, hc_1, hf⟩ := xbd1_inv hf
  refine XcallV hX (mt_x_seenBy l1 h hc_1) (rest := []) (by decide) (by decide) xm_X4_seenBy xi_X4_seenBy xs_X4_seenBy xl_RX4_272 (by decide) (xsh_0) rfl rfl rfl (Nat.le_of_ble_eq_true rfl) (by decide +kernel) ?_
  show XW X 5 [(0, .ref 0), (1, .int l1)] [.long v_2] h
  refine Xblk hX pkX4_ok [.lstore_n 2, .aload_n 0, .lload_n 2] (pc' := 8) (ls' := [(2, .long v_2), (0, .ref 0), (1, .int l1)]) (st' := [.long v_2, .ref 0]) (h' := h) (g := true) (by decide +kernel) rfl rfl rfl ?_
  obtain ⟨h_4, hc_3, hf⟩ := xbd1_inv hf
  refine XcallV hX (mt_x_gatherSeen v_2 h hc_3) (rest := []) (by decide) (by decide) xm_X4_gatherSeen xi_X4_gatherSeen xs_X4_gatherSeen xl_RX4_281 (by decide) (xsh_0) rfl rfl rfl (Nat.le_of_ble_eq_true rfl) (by decide +kernel) ?_
  show XW X 11 [(2, .long v_2), (0, .ref 0), (1, .int l1)] [] h_4
  refine Xblk hX pkX4_ok [.aload_n 0, .getfield 34, .iconst 1, .aload_n 0, .getfield 16, .getfield 96, .lload_n 2, .ldc2_w 99, .lxor, .land] (pc' := 29) (ls' := [(2, .long v_2), (0, .ref 0), (1, .int l1)]) (st' := [.long ((h_4.2 2 5) &&& (v_2 ^^^ (-1 : Int64))), .int (1 : Int32), .ref 28]) (h' := h_4) (g := true) (by decide +kernel) rfl rfl rfl ?_
  refine XcallV hX (mt_crowd_join (1 : Int32) ((h_4.2 2 5) &&& (v_2 ^^^ (-1 : Int64))) h_4) (rest := []) (by decide) (by decide) xm_X0_join xi_X0_join xs_X0_join xl_RX4_277 (by decide) (xsh_28) rfl rfl rfl (Nat.le_of_ble_eq_true rfl) (by decide +kernel) ?_
  show XW X 32 [(2, .long v_2), (0, .ref 0), (1, .int l1)] [] (f_crowd_join (1 : Int32) ((h_4.2 2 5) &&& (v_2 ^^^ (-1 : Int64))) h_4)
  exact XrV2 hX hR hf (by decide +kernel)
