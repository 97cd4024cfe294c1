def f_x_anybody (l1 : Int32) (l2 : Int32) (h : Hp) : Option (Int64 × Hp) :=
  if (f_x_isCarrier l1 h) = (0 : Int32) then
    some ((-1 : Int64), h)
  else
    if l2 < (0 : Int32) then
      some ((-1 : Int64), h)
    else
      if l2 ≤ (20 : Int32) then
        xbd1 (f_x_gatherAnybody l1 h) fun h_5 =>
        xbd2 (f_crowd_afterTicks l2 (h_5.2 2 5) h_5) fun v_8 h_7 =>
        some (v_8, h_7)
      else
        some ((-1 : Int64), h)
set_option maxRecDepth 100000 in
set_option maxHeartbeats 4000000 in
theorem mt_x_anybody (l1 : Int32) (l2 : Int32) (h : Hp) {r : Int64} {h' : Hp} (hf : f_x_anybody l1 l2 h = some (r, h')) : MT 4 39 yX4_anybody cX4_anybody 3 (some .long) [.ref 0, .int l1, .int l2] h (some (.long r)) h' := by
  refine MT.of (by decide +kernel) (Nat.le_of_ble_eq_true rfl) fun X hX hR => ?_
  unfold f_x_anybody at hf
  refine Xblk hX pkX4_ok [.aload_n 0, .iload_n 1] (pc' := 2) (ls' := [(0, .ref 0), (1, .int l1), (2, .int l2)]) (st' := [.int l1, .ref 0]) (h' := h) (g := true) (by decide +kernel) rfl rfl rfl ?_
  refine XcallV hX (mt_x_isCarrier l1 h) (rest := []) (by decide) (by decide) xm_X4_isCarrier xi_X4_isCarrier xs_X4_isCarrier xl_RX4_143 (by decide) (xsh_0) rfl rfl rfl (Nat.le_of_ble_eq_true rfl) (by decide +kernel) ?_
  show XW X 5 [(0, .ref 0), (1, .int l1), (2, .int l2)] [.int (f_x_isCarrier l1 h)] h
  refine Xbr hX (.ifCond .eq (13)) (tgt := 18) (P := (f_x_isCarrier l1 h) = (0 : Int32)) (r := []) (by decide +kernel) rfl (by decide) (fun hc_1 => ?_) (fun hc_1 => ?_)
  · replace hf := xif_t hc_1 hf
    refine Xblk hX pkX4_ok [.ldc2_w 99] (pc' := 21) (ls' := [(0, .ref 0), (1, .int l1), (2, .int l2)]) (st' := [.long (-1 : Int64)]) (h' := h) (g := true) (by decide +kernel) rfl rfl rfl ?_
    exact XrL2 hX hR hf (by decide +kernel)
  · replace hf := xif_f hc_1 hf
    refine Xblk hX pkX4_ok [.iload_n 2] (pc' := 9) (ls' := [(0, .ref 0), (1, .int l1), (2, .int l2)]) (st' := [.int l2]) (h' := h) (g := true) (by decide +kernel) rfl rfl rfl ?_
    refine Xbr hX (.ifCond .lt (9)) (tgt := 18) (P := l2 < (0 : Int32)) (r := []) (by decide +kernel) rfl (by decide) (fun hc_2 => ?_) (fun hc_2 => ?_)
    · replace hf := xif_t hc_2 hf
      refine Xblk hX pkX4_ok [.ldc2_w 99] (pc' := 21) (ls' := [(0, .ref 0), (1, .int l1), (2, .int l2)]) (st' := [.long (-1 : Int64)]) (h' := h) (g := true) (by decide +kernel) rfl rfl rfl ?_
      exact XrL2 hX hR hf (by decide +kernel)
    · replace hf := xif_f hc_2 hf
      refine Xblk hX pkX4_ok [.iload_n 2, .bipush 20] (pc' := 15) (ls' := [(0, .ref 0), (1, .int l1), (2, .int l2)]) (st' := [.int (20 : Int32), .int l2]) (h' := h) (g := true) (by decide +kernel) rfl rfl rfl ?_
      refine Xbr hX (.if_icmp .le (7)) (tgt := 22) (P := l2 ≤ (20 : Int32)) (r := []) (by decide +kernel) rfl (by decide) (fun hc_3 => ?_) (fun hc_3 => ?_)
      · replace hf := xif_t hc_3 hf
        refine Xblk hX pkX4_ok [.aload_n 0, .iload_n 1] (pc' := 24) (ls' := [(0, .ref 0), (1, .int l1), (2, .int l2)]) (st' := [.int l1, .ref 0]) (h' := h) (g := true) (by decide +kernel) rfl rfl rfl ?_
        obtain ⟨h_5, hc_4, hf⟩ := xbd1_inv hf
        refine XcallV hX (mt_x_gatherAnybody l1 h hc_4) (rest := []) (by decide) (by decide) xm_X4_gatherAnybody xi_X4_gatherAnybody xs_X4_gatherAnybody xl_RX4_156 (by decide) (xsh_0) rfl rfl rfl (Nat.le_of_ble_eq_true rfl) (by decide +kernel) ?_
        show XW X 27 [(0, .ref 0), (1, .int l1), (2, .int l2)] [] h_5
        refine Xblk hX pkX4_ok [.aload_n 0, .getfield 34, .iload_n 2, .aload_n 0, .getfield 16, .getfield 96] (pc' := 39) (ls' := [(0, .ref 0), (1, .int l1), (2, .int l2)]) (st' := [.long (h_5.2 2 5), .int l2, .ref 28]) (h' := h_5) (g := true) (by decide +kernel) rfl rfl rfl ?_
        obtain ⟨v_8, h_7, hc_6, hf⟩ := xbd2_inv hf
        refine XcallV hX (mt_crowd_afterTicks l2 (h_5.2 2 5) h_5 hc_6) (rest := []) (by decide) (by decide) xm_X0_afterTicks xi_X0_afterTicks xs_X0_afterTicks xl_RX4_159 (by decide) (xsh_28) rfl rfl rfl (Nat.le_of_ble_eq_true rfl) (by decide +kernel) ?_
        show XW X 42 [(0, .ref 0), (1, .int l1), (2, .int l2)] [.long v_8] h_7
        exact XrL2 hX hR hf (by decide +kernel)
      · replace hf := xif_f hc_3 hf
        refine Xblk hX pkX4_ok [.ldc2_w 99] (pc' := 21) (ls' := [(0, .ref 0), (1, .int l1), (2, .int l2)]) (st' := [.long (-1 : Int64)]) (h' := h) (g := true) (by decide +kernel) rfl rfl rfl ?_
        exact XrL2 hX hR hf (by decide +kernel)
def f_x_whyNot (l1 : Int32) (l2 : Int32) (h : Hp) : Option (Int32 × Hp) :=
  if l2 = (4 : Int32) then
    some ((0 : Int32), h)
  else
    xgd (xin l1 2 && true) <|
    if (lg_cmp ((f_x_shifted (jshlL (1 : Int64) (h.1 9 l1.toNatClampNeg)) l2) &&& (h.2 2 5)) (0 : Int64)) = (0 : Int32) then
      some ((1 : Int32), h)
    else
      xbd1 (f_scene_carriersTaken_6 h) fun v_4 =>
      if (lg_cmp (((f_x_shifted (jshlL (1 : Int64) (h.1 9 l1.toNatClampNeg)) l2) &&& (h.2 2 5)) &&& v_4) (0 : Int64)) = (0 : Int32) then
        xbd1 (f_x_seenBy l1 h) fun v_7 =>
        xbd1 (f_x_gatherSeen v_7 h) fun h_9 =>
        xbd2 (f_crowd_afterTicks (1 : Int32) (h_9.2 2 5) h_9) fun v_12 h_11 =>
        if (lg_cmp (((f_x_shifted (jshlL (1 : Int64) (h.1 9 l1.toNatClampNeg)) l2) &&& (h.2 2 5)) &&& v_12) (0 : Int64)) = (0 : Int32) then
          xbd1 (f_x_gatherAnybody l1 h_11) fun h_15 =>
          xbd2 (f_crowd_afterTicks (1 : Int32) (h_15.2 2 5) h_15) fun v_18 h_17 =>
          some ((if (lg_cmp (((f_x_shifted (jshlL (1 : Int64) (h.1 9 l1.toNatClampNeg)) l2) &&& (h.2 2 5)) &&& v_18) (0 : Int64)) = (0 : Int32) then (0 : Int32) else (4 : Int32)), h_17)
        else
          some ((3 : Int32), h_11)
      else
        some ((2 : Int32), h)
set_option maxRecDepth 100000 in
set_option maxHeartbeats 4000000 in
theorem mt_x_whyNot (l1 : Int32) (l2 : Int32) (h : Hp) {r : Int32} {h' : Hp} (hf : f_x_whyNot l1 l2 h = some (r, h')) : MT 4 39 yX4_whyNot cX4_whyNot 5 (some .int) [.ref 0, .int l1, .int l2] h (some (.int r)) h' := by
  refine MT.of (by decide +kernel) (Nat.le_of_ble_eq_true rfl) fun X hX hR => ?_
  unfold f_x_whyNot at hf
  refine Xblk hX pkX4_ok [.iload_n 2, .iconst 4] (pc' := 2) (ls' := [(0, .ref 0), (1, .int l1), (2, .int l2)]) (st' := [.int (4 : Int32), .int l2]) (h' := h) (g := true) (by decide +kernel) rfl rfl rfl ?_
  refine XbrN hX (.if_icmp .ne (5)) (tgt := 7) (P := l2 = (4 : Int32)) (r := []) (by decide +kernel) rfl (by decide) (fun hc_1 => ?_) (fun hc_1 => ?_)
  · replace hf := xif_t hc_1 hf
    refine Xblk hX pkX4_ok [.iconst 0] (pc' := 6) (ls' := [(0, .ref 0), (1, .int l1), (2, .int l2)]) (st' := [.int (0 : Int32)]) (h' := h) (g := true) (by decide +kernel) rfl rfl rfl ?_
    exact XrI2 hX hR hf (by decide +kernel)
  · replace hf := xif_f hc_1 hf
    obtain ⟨hg, hf⟩ := xgd_inv hf
    refine Xblk hX pkX4_ok [.lconst 1, .aload_n 0, .getfield 23, .getfield 146, .iload_n 1, .iaload, .lshl, .iload_n 2] (pc' := 19) (ls' := [(0, .ref 0), (1, .int l1), (2, .int l2)]) (st' := [.int l2, .long (jshlL (1 : Int64) (h.1 9 l1.toNatClampNeg))]) (h' := h) (g := (xin l1 2 && true)) (by decide +kernel) rfl rfl hg ?_
    refine XcallS hX (mt_x_shifted (jshlL (1 : Int64) (h.1 9 l1.toNatClampNeg)) l2 h) (rest := []) (by decide) (by decide) xm_X4_shifted xi_X4_shifted xl_RX4_285 rfl (Nat.le_of_ble_eq_true rfl) (by decide +kernel) ?_
    show XW X 22 [(0, .ref 0), (1, .int l1), (2, .int l2)] [.long (f_x_shifted (jshlL (1 : Int64) (h.1 9 l1.toNatClampNeg)) l2)] h
    refine Xblk hX pkX4_ok [.aload_n 0, .getfield 16, .getfield 96, .land, .lstore_n 3, .lload_n 3, .lconst 0, .lcmp] (pc' := 34) (ls' := [(3, .long ((f_x_shifted (jshlL (1 : Int64) (h.1 9 l1.toNatClampNeg)) l2) &&& (h.2 2 5))), (0, .ref 0), (1, .int l1), (2, .int l2)]) (st' := [.int (lg_cmp ((f_x_shifted (jshlL (1 : Int64) (h.1 9 l1.toNatClampNeg)) l2) &&& (h.2 2 5)) (0 : Int64))]) (h' := h) (g := true) (by decide +kernel) rfl rfl rfl ?_
    refine XbrN hX (.ifCond .ne (5)) (tgt := 39) (P := (lg_cmp ((f_x_shifted (jshlL (1 : Int64) (h.1 9 l1.toNatClampNeg)) l2) &&& (h.2 2 5)) (0 : Int64)) = (0 : Int32)) (r := []) (by decide +kernel) rfl (by decide) (fun hc_2 => ?_) (fun hc_2 => ?_)
    · replace hf := xif_t hc_2 hf
      refine Xblk hX pkX4_ok [.iconst 1] (pc' := 38) (ls' := [(3, .long ((f_x_shifted (jshlL (1 : Int64) (h.1 9 l1.toNatClampNeg)) l2) &&& (h.2 2 5))), (0, .ref 0), (1, .int l1), (2, .int l2)]) (st' := [.int (1 : Int32)]) (h' := h) (g := true) (by decide +kernel) rfl rfl rfl ?_
      exact XrI2 hX hR hf (by decide +kernel)
    · replace hf := xif_f hc_2 hf
      refine Xblk hX pkX4_ok [.lload_n 3, .aload_n 0, .getfield 23] (pc' := 44) (ls' := [(3, .long ((f_x_shifted (jshlL (1 : Int64) (h.1 9 l1.toNatClampNeg)) l2) &&& (h.2 2 5))), (0, .ref 0), (1, .int l1), (2, .int l2)]) (st' := [.ref 6, .long ((f_x_shifted (jshlL (1 : Int64) (h.1 9 l1.toNatClampNeg)) l2) &&& (h.2 2 5))]) (h' := h) (g := true) (by decide +kernel) rfl rfl rfl ?_
      obtain ⟨v_4, hc_3, hf⟩ := xbd1_inv hf
      refine XcallV hX (mt_scene_carriersTaken_6  h hc_3) (rest := [.long ((f_x_shifted (jshlL (1 : Int64) (h.1 9 l1.toNatClampNeg)) l2) &&& (h.2 2 5))]) (by decide) (by decide) xm_X3_carriersTaken xi_X3_carriersTaken xs_X3_carriersTaken xl_RX4_121 (by decide) (xsh_6) rfl rfl rfl (Nat.le_of_ble_eq_true rfl) (by decide +kernel) ?_
      show XW X 47 [(3, .long ((f_x_shifted (jshlL (1 : Int64) (h.1 9 l1.toNatClampNeg)) l2) &&& (h.2 2 5))), (0, .ref 0), (1, .int l1), (2, .int l2)] [.long v_4, .long ((f_x_shifted (jshlL (1 : Int64) (h.1 9 l1.toNatClampNeg)) l2) &&& (h.2 2 5))] h
      refine Xblk hX pkX4_ok [.land, .lconst 0, .lcmp] (pc' := 50) (ls' := [(3, .long ((f_x_shifted (jshlL (1 : Int64) (h.1 9 l1.toNatClampNeg)) l2) &&& (h.2 2 5))), (0, .ref 0), (1, .int l1), (2, .int l2)]) (st' := [.int (lg_cmp (((f_x_shifted (jshlL (1 : Int64) (h.1 9 l1.toNatClampNeg)) l2) &&& (h.2 2 5)) &&& v_4) (0 : Int64))]) (h' := h) (g := true) (by decide +kernel) rfl rfl rfl ?_
      refine Xbr hX (.ifCond .eq (5)) (tgt := 55) (P := (lg_cmp (((f_x_shifted (jshlL (1 : Int64) (h.1 9 l1.toNatClampNeg)) l2) &&& (h.2 2 5)) &&& v_4) (0 : Int64)) = (0 : Int32)) (r := []) (by decide +kernel) rfl (by decide) (fun hc_5 => ?_) (fun hc_5 => ?_)
      · replace hf := xif_t hc_5 hf
        refine Xblk hX pkX4_ok [.aload_n 0, .aload_n 0, .iload_n 1] (pc' := 58) (ls' := [(3, .long ((f_x_shifted (jshlL (1 : Int64) (h.1 9 l1.toNatClampNeg)) l2) &&& (h.2 2 5))), (0, .ref 0), (1, .int l1), (2, .int l2)]) (st' := [.int l1, .ref 0, .ref 0]) (h' := h) (g := true) (by decide +kernel) rfl rfl rfl ?_
        obtain ⟨v_7, hc_6, hf⟩ := xbd1_inv hf
        refine XcallV hX (mt_x_seenBy l1 h hc_6) (rest := [.ref 0]) (by decide) (by decide) xm_X4_seenBy xi_X4_seenBy xs_X4_seenBy xl_RX4_272 (by decide) (xsh_0) rfl rfl rfl (Nat.le_of_ble_eq_true rfl) (by decide +kernel) ?_
        show XW X 61 [(3, .long ((f_x_shifted (jshlL (1 : Int64) (h.1 9 l1.toNatClampNeg)) l2) &&& (h.2 2 5))), (0, .ref 0), (1, .int l1), (2, .int l2)] [.long v_7, .ref 0] h
        obtain ⟨h_9, hc_8, hf⟩ := xbd1_inv hf
        refine XcallV hX (mt_x_gatherSeen v_7 h hc_8) (rest := []) (by decide) (by decide) xm_X4_gatherSeen xi_X4_gatherSeen xs_X4_gatherSeen xl_RX4_281 (by decide) (xsh_0) rfl rfl rfl (Nat.le_of_ble_eq_true rfl) (by decide +kernel) ?_
        show XW X 64 [(3, .long ((f_x_shifted (jshlL (1 : Int64) (h.1 9 l1.toNatClampNeg)) l2) &&& (h.2 2 5))), (0, .ref 0), (1, .int l1), (2, .int l2)] [] h_9
        refine Xblk hX pkX4_ok [.lload_n 3, .aload_n 0, .getfield 34, .iconst 1, .aload_n 0, .getfield 16, .getfield 96] (pc' := 77) (ls' := [(3, .long ((f_x_shifted (jshlL (1 : Int64) (h.1 9 l1.toNatClampNeg)) l2) &&& (h.2 2 5))), (0, .ref 0), (1, .int l1), (2, .int l2)]) (st' := [.long (h_9.2 2 5), .int (1 : Int32), .ref 28, .long ((f_x_shifted (jshlL (1 : Int64) (h.1 9 l1.toNatClampNeg)) l2) &&& (h.2 2 5))]) (h' := h_9) (g := true) (by decide +kernel) rfl rfl rfl ?_
        obtain ⟨v_12, h_11, hc_10, hf⟩ := xbd2_inv hf
        refine XcallV hX (mt_crowd_afterTicks (1 : Int32) (h_9.2 2 5) h_9 hc_10) (rest := [.long ((f_x_shifted (jshlL (1 : Int64) (h.1 9 l1.toNatClampNeg)) l2) &&& (h.2 2 5))]) (by decide) (by decide) xm_X0_afterTicks xi_X0_afterTicks xs_X0_afterTicks xl_RX4_159 (by decide) (xsh_28) rfl rfl rfl (Nat.le_of_ble_eq_true rfl) (by decide +kernel) ?_
        show XW X 80 [(3, .long ((f_x_shifted (jshlL (1 : Int64) (h.1 9 l1.toNatClampNeg)) l2) &&& (h.2 2 5))), (0, .ref 0), (1, .int l1), (2, .int l2)] [.long v_12, .long ((f_x_shifted (jshlL (1 : Int64) (h.1 9 l1.toNatClampNeg)) l2) &&& (h.2 2 5))] h_11
        refine Xblk hX pkX4_ok [.land, .lconst 0, .lcmp] (pc' := 83) (ls' := [(3, .long ((f_x_shifted (jshlL (1 : Int64) (h.1 9 l1.toNatClampNeg)) l2) &&& (h.2 2 5))), (0, .ref 0), (1, .int l1), (2, .int l2)]) (st' := [.int (lg_cmp (((f_x_shifted (jshlL (1 : Int64) (h.1 9 l1.toNatClampNeg)) l2) &&& (h.2 2 5)) &&& v_12) (0 : Int64))]) (h' := h_11) (g := true) (by decide +kernel) rfl rfl rfl ?_
        refine Xbr hX (.ifCond .eq (5)) (tgt := 88) (P := (lg_cmp (((f_x_shifted (jshlL (1 : Int64) (h.1 9 l1.toNatClampNeg)) l2) &&& (h.2 2 5)) &&& v_12) (0 : Int64)) = (0 : Int32)) (r := []) (by decide +kernel) rfl (by decide) (fun hc_13 => ?_) (fun hc_13 => ?_)
        · replace hf := xif_t hc_13 hf
          refine Xblk hX pkX4_ok [.aload_n 0, .iload_n 1] (pc' := 90) (ls' := [(3, .long ((f_x_shifted (jshlL (1 : Int64) (h.1 9 l1.toNatClampNeg)) l2) &&& (h.2 2 5))), (0, .ref 0), (1, .int l1), (2, .int l2)]) (st' := [.int l1, .ref 0]) (h' := h_11) (g := true) (by decide +kernel) rfl rfl rfl ?_
          obtain ⟨h_15, hc_14, hf⟩ := xbd1_inv hf
          refine XcallV hX (mt_x_gatherAnybody l1 h_11 hc_14) (rest := []) (by decide) (by decide) xm_X4_gatherAnybody xi_X4_gatherAnybody xs_X4_gatherAnybody xl_RX4_156 (by decide) (xsh_0) rfl rfl rfl (Nat.le_of_ble_eq_true rfl) (by decide +kernel) ?_
          show XW X 93 [(3, .long ((f_x_shifted (jshlL (1 : Int64) (h.1 9 l1.toNatClampNeg)) l2) &&& (h.2 2 5))), (0, .ref 0), (1, .int l1), (2, .int l2)] [] h_15
          refine Xblk hX pkX4_ok [.lload_n 3, .aload_n 0, .getfield 34, .iconst 1, .aload_n 0, .getfield 16, .getfield 96] (pc' := 106) (ls' := [(3, .long ((f_x_shifted (jshlL (1 : Int64) (h.1 9 l1.toNatClampNeg)) l2) &&& (h.2 2 5))), (0, .ref 0), (1, .int l1), (2, .int l2)]) (st' := [.long (h_15.2 2 5), .int (1 : Int32), .ref 28, .long ((f_x_shifted (jshlL (1 : Int64) (h.1 9 l1.toNatClampNeg)) l2) &&& (h.2 2 5))]) (h' := h_15) (g := true) (by decide +kernel) rfl rfl rfl ?_
          obtain ⟨v_18, h_17, hc_16, hf⟩ := xbd2_inv hf
          refine XcallV hX (mt_crowd_afterTicks (1 : Int32) (h_15.2 2 5) h_15 hc_16) (rest := [.long ((f_x_shifted (jshlL (1 : Int64) (h.1 9 l1.toNatClampNeg)) l2) &&& (h.2 2 5))]) (by decide) (by decide) xm_X0_afterTicks xi_X0_afterTicks xs_X0_afterTicks xl_RX4_159 (by decide) (xsh_28) rfl rfl rfl (Nat.le_of_ble_eq_true rfl) (by decide +kernel) ?_
          show XW X 109 [(3, .long ((f_x_shifted (jshlL (1 : Int64) (h.1 9 l1.toNatClampNeg)) l2) &&& (h.2 2 5))), (0, .ref 0), (1, .int l1), (2, .int l2)] [.long v_18, .long ((f_x_shifted (jshlL (1 : Int64) (h.1 9 l1.toNatClampNeg)) l2) &&& (h.2 2 5))] h_17
          refine Xblk hX pkX4_ok [.land, .lconst 0, .lcmp] (pc' := 112) (ls' := [(3, .long ((f_x_shifted (jshlL (1 : Int64) (h.1 9 l1.toNatClampNeg)) l2) &&& (h.2 2 5))), (0, .ref 0), (1, .int l1), (2, .int l2)]) (st' := [.int (lg_cmp (((f_x_shifted (jshlL (1 : Int64) (h.1 9 l1.toNatClampNeg)) l2) &&& (h.2 2 5)) &&& v_18) (0 : Int64))]) (h' := h_17) (g := true) (by decide +kernel) rfl rfl rfl ?_
          have kJ_21 : ∀ (w_20 : Int32), w_20 = (if (lg_cmp (((f_x_shifted (jshlL (1 : Int64) (h.1 9 l1.toNatClampNeg)) l2) &&& (h.2 2 5)) &&& v_18) (0 : Int64)) = (0 : Int32) then (0 : Int32) else (4 : Int32)) → XW X 120 [] [.int w_20] h_17 := by
            intro w_20 ew_20
            subst ew_20
            exact XrI2 hX hR hf (by decide +kernel)
          refine Xbr hX (.ifCond .eq (7)) (tgt := 119) (P := (lg_cmp (((f_x_shifted (jshlL (1 : Int64) (h.1 9 l1.toNatClampNeg)) l2) &&& (h.2 2 5)) &&& v_18) (0 : Int64)) = (0 : Int32)) (r := []) (by decide +kernel) rfl (by decide) (fun hc_19 => ?_) (fun hc_19 => ?_)
          · refine Xblk hX pkX4_ok [.iconst 0] (pc' := 120) (ls' := [(3, .long ((f_x_shifted (jshlL (1 : Int64) (h.1 9 l1.toNatClampNeg)) l2) &&& (h.2 2 5))), (0, .ref 0), (1, .int l1), (2, .int l2)]) (st' := [.int (0 : Int32)]) (h' := h_17) (g := true) (by decide +kernel) rfl rfl rfl ?_
            refine XW.pick [] (ls' := []) rfl ?_
            exact kJ_21 _ (by rw [if_pos hc_19])
          · refine Xblk hX pkX4_ok [.iconst 4] (pc' := 116) (ls' := [(3, .long ((f_x_shifted (jshlL (1 : Int64) (h.1 9 l1.toNatClampNeg)) l2) &&& (h.2 2 5))), (0, .ref 0), (1, .int l1), (2, .int l2)]) (st' := [.int (4 : Int32)]) (h' := h_17) (g := true) (by decide +kernel) rfl rfl rfl ?_
            refine Xgoto hX (4) 120 (by decide +kernel) (by decide) ?_
            refine XW.pick [] (ls' := []) rfl ?_
            exact kJ_21 _ (by rw [if_neg hc_19])
        · replace hf := xif_f hc_13 hf
          refine Xblk hX pkX4_ok [.iconst 3] (pc' := 87) (ls' := [(3, .long ((f_x_shifted (jshlL (1 : Int64) (h.1 9 l1.toNatClampNeg)) l2) &&& (h.2 2 5))), (0, .ref 0), (1, .int l1), (2, .int l2)]) (st' := [.int (3 : Int32)]) (h' := h_11) (g := true) (by decide +kernel) rfl rfl rfl ?_
          exact XrI2 hX hR hf (by decide +kernel)
      · replace hf := xif_f hc_5 hf
        refine Xblk hX pkX4_ok [.iconst 2] (pc' := 54) (ls' := [(3, .long ((f_x_shifted (jshlL (1 : Int64) (h.1 9 l1.toNatClampNeg)) l2) &&& (h.2 2 5))), (0, .ref 0), (1, .int l1), (2, .int l2)]) (st' := [.int (2 : Int32)]) (h' := h) (g := true) (by decide +kernel) rfl rfl rfl ?_
        exact XrI2 hX hR hf (by decide +kernel)
def f_x_let_L_2  (l1 : Int32)  (k : Int32 → Int32 → Hp → Option (Int32 × Hp)) : Nat → Int32 → Int32 → Hp → Option (Int32 × Hp)
  | 0, _, _, _ => none
  | n + 1, l2, l3, h =>
    if (4 : Int32) < l3 then
      k l2 l3 h
    else
      xbd2 (f_x_whyNot l1 l3 h) fun v_6 h_5 =>
      (f_x_let_L_2 l1 k n) (if v_6 = (0 : Int32) then (l2 ||| (jshl (1 : Int32) l3)) else l2) (l3 + (1 : Int32)) h_5
def f_x_let (l1 : Int32) (h : Hp) : Option (Int32 × Hp) :=
  if (f_x_isCarrier l1 h) = (0 : Int32) then
    some ((-1 : Int32), h)
  else
    f_x_let_L_2 l1 (fun l2_10 l3_11 h_12 =>
      some (l2_10, h_12)
      ) 1000 (0 : Int32) (0 : Int32) h
set_option maxRecDepth 100000 in
set_option maxHeartbeats 4000000 in
theorem f_x_let_L_2_ok {X : XCtx} (hX : XOk X RX4 cX4_let 4 5 39) {r : Int32} {h' : Hp} (hR : XR X (some .int) (some (.int r)) h')  (l1 : Int32)  (k : Int32 → Int32 → Hp → Option (Int32 × Hp))  (hk : ∀ (l2 : Int32) (l3 : Int32) (h : Hp), k l2 l3 h = some (r, h') → XW X 40 [(2, .int l2)] [] h) : ∀ (n : Nat) (l2 : Int32) (l3 : Int32) (h : Hp), f_x_let_L_2 l1 k n l2 l3 h = some (r, h') → XW X 14 [(0, .ref 0), (1, .int l1), (2, .int l2), (3, .int l3)] [] h := by
  intro n
  induction n with
  | zero => intro l2 l3 h hf; cases hf
  | succ n ih =>
    intro l2 l3 h hf
    rw [f_x_let_L_2] at hf
    refine Xblk hX pkX4_ok [.iload_n 3, .iconst 4] (pc' := 16) (ls' := [(0, .ref 0), (1, .int l1), (2, .int l2), (3, .int l3)]) (st' := [.int (4 : Int32), .int l3]) (h' := h) (g := true) (by decide +kernel) rfl rfl rfl ?_
    refine Xbr hX (.if_icmp .gt (24)) (tgt := 40) (P := (4 : Int32) < l3) (r := []) (by decide +kernel) rfl (by decide) (fun hc_3 => ?_) (fun hc_3 => ?_)
    · replace hf := xif_t hc_3 hf
      refine XW.pick [2] (ls' := [(2, .int l2)]) rfl ?_
      exact hk l2 l3 h hf
    · replace hf := xif_f hc_3 hf
      refine Xblk hX pkX4_ok [.aload_n 0, .iload_n 1, .iload_n 3] (pc' := 22) (ls' := [(0, .ref 0), (1, .int l1), (2, .int l2), (3, .int l3)]) (st' := [.int l3, .int l1, .ref 0]) (h' := h) (g := true) (by decide +kernel) rfl rfl rfl ?_
      obtain ⟨v_6, h_5, hc_4, hf⟩ := xbd2_inv hf
      refine XcallV hX (mt_x_whyNot l1 l3 h hc_4) (rest := []) (by decide) (by decide) xm_X4_whyNot xi_X4_whyNot xs_X4_whyNot xl_RX4_163 (by decide) (xsh_0) rfl rfl rfl (Nat.le_of_ble_eq_true rfl) (by decide +kernel) ?_
      show XW X 25 [(0, .ref 0), (1, .int l1), (2, .int l2), (3, .int l3)] [.int v_6] h_5
      have kJ_9 : ∀ (w_8 : Int32), w_8 = (if v_6 = (0 : Int32) then (l2 ||| (jshl (1 : Int32) l3)) else l2) → XW X 34 [(0, .ref 0), (1, .int l1), (2, .int w_8), (3, .int l3)] [] h_5 := by
        intro w_8 ew_8
        subst ew_8
        refine Xblk hX pkX4_ok [.iinc 3 1] (pc' := 37) (ls' := [(3, .int (l3 + (1 : Int32))), (0, .ref 0), (1, .int l1), (2, .int (if v_6 = (0 : Int32) then (l2 ||| (jshl (1 : Int32) l3)) else l2))]) (st' := []) (h' := h_5) (g := true) (by decide +kernel) rfl rfl rfl ?_
        refine Xgoto hX (-23) 14 (by decide +kernel) (by decide) ?_
        refine XW.pick [1, 2, 3, 0] (ls' := [(0, .ref 0), (1, .int l1), (2, .int (if v_6 = (0 : Int32) then (l2 ||| (jshl (1 : Int32) l3)) else l2)), (3, .int (l3 + (1 : Int32)))]) rfl ?_
        exact ih (if v_6 = (0 : Int32) then (l2 ||| (jshl (1 : Int32) l3)) else l2) (l3 + (1 : Int32)) h_5 hf
      refine XbrN hX (.ifCond .ne (9)) (tgt := 34) (P := v_6 = (0 : Int32)) (r := []) (by decide +kernel) rfl (by decide) (fun hc_7 => ?_) (fun hc_7 => ?_)
      · refine Xblk hX pkX4_ok [.iload_n 2, .iconst 1, .iload_n 3, .ishl, .ior, .istore_n 2] (pc' := 34) (ls' := [(2, .int (l2 ||| (jshl (1 : Int32) l3))), (0, .ref 0), (1, .int l1), (3, .int l3)]) (st' := []) (h' := h_5) (g := true) (by decide +kernel) rfl rfl rfl ?_
        refine XW.pick [1, 2, 0, 3] (ls' := [(0, .ref 0), (1, .int l1), (2, .int (l2 ||| (jshl (1 : Int32) l3))), (3, .int l3)]) rfl ?_
        exact kJ_9 _ (by rw [if_pos hc_7])
      · refine XW.pick [0, 1, 2, 3] (ls' := [(0, .ref 0), (1, .int l1), (2, .int l2), (3, .int l3)]) rfl ?_
        exact kJ_9 _ (by rw [if_neg hc_7])
set_option maxRecDepth 100000 in
set_option maxHeartbeats 4000000 in
theorem mt_x_let (l1 : Int32) (h : Hp) {r : Int32} {h' : Hp} (hf : f_x_let l1 h = some (r, h')) : MT 5 39 yX4_let cX4_let 4 (some .int) [.ref 0, .int l1] h (some (.int r)) h' := by
  refine MT.of (by decide +kernel) (Nat.le_of_ble_eq_true rfl) fun X hX hR => ?_
  unfold f_x_let at hf
  refine Xblk hX pkX4_ok [.aload_n 0, .iload_n 1] (pc' := 2) (ls' := [(0, .ref 0), (1, .int l1)]) (st' := [.int l1, .ref 0]) (h' := h) (g := true) (by decide +kernel) rfl rfl rfl ?_
  refine XcallV hX (mt_x_isCarrier l1 h) (rest := []) (by decide) (by decide) xm_X4_isCarrier xi_X4_isCarrier xs_X4_isCarrier xl_RX4_143 (by decide) (xsh_0) rfl rfl rfl (Nat.le_of_ble_eq_true rfl) (by decide +kernel) ?_
  show XW X 5 [(0, .ref 0), (1, .int l1)] [.int (f_x_isCarrier l1 h)] h
  refine XbrN hX (.ifCond .ne (5)) (tgt := 10) (P := (f_x_isCarrier l1 h) = (0 : Int32)) (r := []) (by decide +kernel) rfl (by decide) (fun hc_1 => ?_) (fun hc_1 => ?_)
  · replace hf := xif_t hc_1 hf
    refine Xblk hX pkX4_ok [.iconst (-1)] (pc' := 9) (ls' := [(0, .ref 0), (1, .int l1)]) (st' := [.int (-1 : Int32)]) (h' := h) (g := true) (by decide +kernel) rfl rfl rfl ?_
    exact XrI2 hX hR hf (by decide +kernel)
  · replace hf := xif_f hc_1 hf
    refine Xblk hX pkX4_ok [.iconst 0, .istore_n 2, .iconst 0, .istore_n 3] (pc' := 14) (ls' := [(3, .int (0 : Int32)), (2, .int (0 : Int32)), (0, .ref 0), (1, .int l1)]) (st' := []) (h' := h) (g := true) (by decide +kernel) rfl rfl rfl ?_
    refine XW.pick [2, 3, 1, 0] (ls' := [(0, .ref 0), (1, .int l1), (2, .int (0 : Int32)), (3, .int (0 : Int32))]) rfl ?_
    refine f_x_let_L_2_ok hX hR l1 _  (fun l2_10 l3_11 h_12 hf => ?_) 1000 (0 : Int32) (0 : Int32) h hf
    refine Xblk hX pkX4_ok [.iload_n 2] (pc' := 41) (ls' := [(2, .int l2_10)]) (st' := [.int l2_10]) (h' := h_12) (g := true) (by decide +kernel) rfl rfl rfl ?_
    exact XrI2 hX hR hf (by decide +kernel)
def f_x_soonestRow_j_17  (k79 : Int32 → Hp → Option (Int32 × Hp)) (k174 : Int32 → Hp → Option (Int32 × Hp)) (l2 : Int64) (l4 : Int32) (l5 : Int64) (l7 : Int64) (l9 : Int32) (l10 : Int64) (l12 : Int32) (h : Hp) : Option (Int32 × Hp) :=
  xgd (xin l12 5 && true) <|
  if (lg_cmp ((h.2 38 l12.toNatClampNeg) &&& l2) (0 : Int64)) = (0 : Int32) then
    k79 (l12 + (1 : Int32)) h
  else
    some ((if l4 = (0 : Int32) then l9 else l12), h)
def f_x_soonestRow_L_10  (l2 : Int64) (l4 : Int32) (l5 : Int64) (l7 : Int64) (l9 : Int32) (l10 : Int64)  (k : Int32 → Hp → Option (Int32 × Hp)) : Nat → Int32 → Hp → Option (Int32 × Hp)
  | 0, _, _ => none
  | n + 1, l12, h =>
    if (4 : Int32) < l12 then
      k l12 h
    else
      if l9 ≤ (1 : Int32) then
        xgd (xin l12 5 && true) <|
        f_x_soonestRow_j_17 (f_x_soonestRow_L_10 l2 l4 l5 l7 l9 l10 k n) k l2 l4 l5 l7 l9 l10 l12 (xL h 38 l12.toNatClampNeg (if l12 = (4 : Int32) then l5 else ((f_x_shifted l5 l12) &&& l10)))
      else
        xgd (xin l12 5 && true) <|
        xgd (xin l12 5 && true) <|
        f_x_soonestRow_j_17 (f_x_soonestRow_L_10 l2 l4 l5 l7 l9 l10 k n) k l2 l4 l5 l7 l9 l10 l12 (xL h 38 l12.toNatClampNeg (f_x_widened (h.2 38 l12.toNatClampNeg) l10))
def f_x_soonestRow_L_5  (l2 : Int64) (l4 : Int32) (l5 : Int64) (l7 : Int64)  (k : Int32 → Hp → Option (Int32 × Hp)) : Nat → Int32 → Hp → Option (Int32 × Hp)
  | 0, _, _ => none
  | n + 1, l9, h =>
    if (20 : Int32) < l9 then
      k l9 h
    else
      xbd2 (f_crowd_afterTicks (1 : Int32) (h.2 2 5) h) fun v_9 h_8 =>
      f_x_soonestRow_L_10 l2 l4 l5 l7 l9 (l7 &&& (v_9 ^^^ (-1 : Int64))) (fun l12_23 h_24 =>
        (f_x_soonestRow_L_5 l2 l4 l5 l7 k n) (l9 + (1 : Int32)) h_24
        ) 1000 (0 : Int32) h_8
def f_x_soonestRow (l1 : Int32) (l2 : Int64) (l4 : Int32) (h : Hp) : Option (Int32 × Hp) :=
  xgd (xin l1 2 && true) <|
  xbd1 (f_scene_carriersTaken_6 h) fun v_2 =>
  xbd1 (f_x_gatherAnybody l1 h) fun h_4 =>
  f_x_soonestRow_L_5 l2 l4 (jshlL (1 : Int64) (h.1 9 l1.toNatClampNeg)) ((h.2 2 5) &&& ((v_2 ^^^ (-1 : Int64)) ||| (jshlL (1 : Int64) (h.1 9 l1.toNatClampNeg)))) (fun l9_25 h_26 =>
    some ((-9 : Int32), h_26)
    ) 1000 (1 : Int32) h_4
set_option maxRecDepth 100000 in
set_option maxHeartbeats 4000000 in
theorem f_x_soonestRow_j_17_ok {X : XCtx} (hX : XOk X RX4 cX4_soonestRow 13 4 39) {r : Int32} {h' : Hp} (hR : XR X (some .int) (some (.int r)) h')   (l2 : Int64) (l4 : Int32) (l5 : Int64) (l7 : Int64) (l9 : Int32) (l10 : Int64) (l12 : Int32) (h : Hp) (k79 : Int32 → Hp → Option (Int32 × Hp)) (k174 : Int32 → Hp → Option (Int32 × Hp))  (hk79 : ∀ (l12 : Int32) (h : Hp), k79 l12 h = some (r, h') → XW X 79 [(0, .ref 0), (2, .long l2), (4, .int l4), (5, .long l5), (7, .long l7), (9, .int l9), (10, .long l10), (12, .int l12)] [] h) (hk174 : ∀ (l12 : Int32) (h : Hp), k174 l12 h = some (r, h') → XW X 174 [(0, .ref 0), (2, .long l2), (4, .int l4), (5, .long l5), (7, .long l7), (9, .int l9)] [] h) (hf : f_x_soonestRow_j_17 k79 k174 l2 l4 l5 l7 l9 l10 l12 h = some (r, h')) : XW X 141 [(0, .ref 0), (2, .long l2), (4, .int l4), (5, .long l5), (7, .long l7), (9, .int l9), (10, .long l10), (12, .int l12)] [] h := by
  unfold f_x_soonestRow_j_17 at hf
  obtain ⟨hg, hf⟩ := xgd_inv hf
  refine Xblk hX pkX4_ok [.aload_n 0, .getfield 45, .iload 12, .laload, .lload_n 2, .land, .lconst 0, .lcmp] (pc' := 152) (ls' := [(0, .ref 0), (2, .long l2), (4, .int l4), (5, .long l5), (7, .long l7), (9, .int l9), (10, .long l10), (12, .int l12)]) (st' := [.int (lg_cmp ((h.2 38 l12.toNatClampNeg) &&& l2) (0 : Int64))]) (h' := h) (g := (xin l12 5 && true)) (by decide +kernel) rfl rfl hg ?_
  refine Xbr hX (.ifCond .eq (16)) (tgt := 168) (P := (lg_cmp ((h.2 38 l12.toNatClampNeg) &&& l2) (0 : Int64)) = (0 : Int32)) (r := []) (by decide +kernel) rfl (by decide) (fun hc_18 => ?_) (fun hc_18 => ?_)
  · replace hf := xif_t hc_18 hf
    refine Xblk hX pkX4_ok [.iinc 12 1] (pc' := 171) (ls' := [(12, .int (l12 + (1 : Int32))), (0, .ref 0), (2, .long l2), (4, .int l4), (5, .long l5), (7, .long l7), (9, .int l9), (10, .long l10)]) (st' := []) (h' := h) (g := true) (by decide +kernel) rfl rfl rfl ?_
    refine Xgoto hX (-92) 79 (by decide +kernel) (by decide) ?_
    refine XW.pick [1, 2, 3, 4, 5, 6, 7, 0] (ls' := [(0, .ref 0), (2, .long l2), (4, .int l4), (5, .long l5), (7, .long l7), (9, .int l9), (10, .long l10), (12, .int (l12 + (1 : Int32)))]) rfl ?_
    exact hk79 (l12 + (1 : Int32)) h hf
  · replace hf := xif_f hc_18 hf
    refine Xblk hX pkX4_ok [.iload 4] (pc' := 157) (ls' := [(0, .ref 0), (2, .long l2), (4, .int l4), (5, .long l5), (7, .long l7), (9, .int l9), (10, .long l10), (12, .int l12)]) (st' := [.int l4]) (h' := h) (g := true) (by decide +kernel) rfl rfl rfl ?_
    have kJ_21 : ∀ (w_20 : Int32), w_20 = (if l4 = (0 : Int32) then l9 else l12) → XW X 167 [] [.int w_20] h := by
      intro w_20 ew_20
      subst ew_20
      exact XrI2 hX hR hf (by decide +kernel)
    refine XbrN hX (.ifCond .ne (8)) (tgt := 165) (P := l4 = (0 : Int32)) (r := []) (by decide +kernel) rfl (by decide) (fun hc_19 => ?_) (fun hc_19 => ?_)
    · refine Xblk hX pkX4_ok [.iload 9] (pc' := 162) (ls' := [(0, .ref 0), (2, .long l2), (4, .int l4), (5, .long l5), (7, .long l7), (9, .int l9), (10, .long l10), (12, .int l12)]) (st' := [.int l9]) (h' := h) (g := true) (by decide +kernel) rfl rfl rfl ?_
      refine Xgoto hX (5) 167 (by decide +kernel) (by decide) ?_
      refine XW.pick [] (ls' := []) rfl ?_
      exact kJ_21 _ (by rw [if_pos hc_19])
    · refine Xblk hX pkX4_ok [.iload 12] (pc' := 167) (ls' := [(0, .ref 0), (2, .long l2), (4, .int l4), (5, .long l5), (7, .long l7), (9, .int l9), (10, .long l10), (12, .int l12)]) (st' := [.int l12]) (h' := h) (g := true) (by decide +kernel) rfl rfl rfl ?_
      refine XW.pick [] (ls' := []) rfl ?_
      exact kJ_21 _ (by rw [if_neg hc_19])
set_option maxRecDepth 100000 in
set_option maxHeartbeats 4000000 in
theorem f_x_soonestRow_L_10_ok {X : XCtx} (hX : XOk X RX4 cX4_soonestRow 13 4 39) {r : Int32} {h' : Hp} (hR : XR X (some .int) (some (.int r)) h')  (l2 : Int64) (l4 : Int32) (l5 : Int64) (l7 : Int64) (l9 : Int32) (l10 : Int64)  (k : Int32 → Hp → Option (Int32 × Hp))  (hk : ∀ (l12 : Int32) (h : Hp), k l12 h = some (r, h') → XW X 174 [(0, .ref 0), (2, .long l2), (4, .int l4), (5, .long l5), (7, .long l7), (9, .int l9)] [] h) : ∀ (n : Nat) (l12 : Int32) (h : Hp), f_x_soonestRow_L_10 l2 l4 l5 l7 l9 l10 k n l12 h = some (r, h') → XW X 79 [(0, .ref 0), (2, .long l2), (4, .int l4), (5, .long l5), (7, .long l7), (9, .int l9), (10, .long l10), (12, .int l12)] [] h := by
  intro n
  induction n with
  | zero => intro l12 h hf; cases hf
  | succ n ih =>
    intro l12 h hf
    rw [f_x_soonestRow_L_10] at hf
    refine Xblk hX pkX4_ok [.iload 12, .iconst 4] (pc' := 82) (ls' := [(0, .ref 0), (2, .long l2), (4, .int l4), (5, .long l5), (7, .long l7), (9, .int l9), (10, .long l10), (12, .int l12)]) (st' := [.int (4 : Int32), .int l12]) (h' := h) (g := true) (by decide +kernel) rfl rfl rfl ?_
    refine Xbr hX (.if_icmp .gt (92)) (tgt := 174) (P := (4 : Int32) < l12) (r := []) (by decide +kernel) rfl (by decide) (fun hc_11 => ?_) (fun hc_11 => ?_)
    · replace hf := xif_t hc_11 hf
      refine XW.pick [0, 1, 2, 3, 4, 5] (ls' := [(0, .ref 0), (2, .long l2), (4, .int l4), (5, .long l5), (7, .long l7), (9, .int l9)]) rfl ?_
      exact hk l12 h hf
    · replace hf := xif_f hc_11 hf
      refine Xblk hX pkX4_ok [.iload 9, .iconst 1] (pc' := 88) (ls' := [(0, .ref 0), (2, .long l2), (4, .int l4), (5, .long l5), (7, .long l7), (9, .int l9), (10, .long l10), (12, .int l12)]) (st' := [.int (1 : Int32), .int l9]) (h' := h) (g := true) (by decide +kernel) rfl rfl rfl ?_
      refine Xbr hX (.if_icmp .le (25)) (tgt := 113) (P := l9 ≤ (1 : Int32)) (r := []) (by decide +kernel) rfl (by decide) (fun hc_14 => ?_) (fun hc_14 => ?_)
      · replace hf := xif_t hc_14 hf
        refine Xblk hX pkX4_ok [.aload_n 0, .getfield 45, .iload 12, .iload 12, .iconst 4] (pc' := 122) (ls' := [(0, .ref 0), (2, .long l2), (4, .int l4), (5, .long l5), (7, .long l7), (9, .int l9), (10, .long l10), (12, .int l12)]) (st' := [.int (4 : Int32), .int l12, .int l12, .ref 38]) (h' := h) (g := true) (by decide +kernel) rfl rfl rfl ?_
        have kJ_22 : ∀ (w_16 : Int64), w_16 = (if l12 = (4 : Int32) then l5 else ((f_x_shifted l5 l12) &&& l10)) → XW X 140 [(0, .ref 0), (2, .long l2), (4, .int l4), (5, .long l5), (7, .long l7), (9, .int l9), (10, .long l10), (12, .int l12)] [.long w_16, .int l12, .ref 38] h := by
          intro w_16 ew_16
          subst ew_16
          obtain ⟨hg, hf⟩ := xgd_inv hf
          refine Xblk hX pkX4_ok [.lastore] (pc' := 141) (ls' := [(0, .ref 0), (2, .long l2), (4, .int l4), (5, .long l5), (7, .long l7), (9, .int l9), (10, .long l10), (12, .int l12)]) (st' := []) (h' := (xL h 38 l12.toNatClampNeg (if l12 = (4 : Int32) then l5 else ((f_x_shifted l5 l12) &&& l10)))) (g := (xin l12 5 && true)) (by decide +kernel) rfl rfl hg ?_
          refine XW.pick [0, 1, 2, 3, 4, 5, 6, 7] (ls' := [(0, .ref 0), (2, .long l2), (4, .int l4), (5, .long l5), (7, .long l7), (9, .int l9), (10, .long l10), (12, .int l12)]) rfl ?_
          exact f_x_soonestRow_j_17_ok hX hR l2 l4 l5 l7 l9 l10 l12 (xL h 38 l12.toNatClampNeg (if l12 = (4 : Int32) then l5 else ((f_x_shifted l5 l12) &&& l10))) _ _ ih hk hf
        refine XbrN hX (.if_icmp .ne (8)) (tgt := 130) (P := l12 = (4 : Int32)) (r := [.int l12, .ref 38]) (by decide +kernel) rfl (by decide) (fun hc_15 => ?_) (fun hc_15 => ?_)
        · refine Xblk hX pkX4_ok [.lload 5] (pc' := 127) (ls' := [(0, .ref 0), (2, .long l2), (4, .int l4), (5, .long l5), (7, .long l7), (9, .int l9), (10, .long l10), (12, .int l12)]) (st' := [.long l5, .int l12, .ref 38]) (h' := h) (g := true) (by decide +kernel) rfl rfl rfl ?_
          refine Xgoto hX (13) 140 (by decide +kernel) (by decide) ?_
          refine XW.pick [0, 1, 2, 3, 4, 5, 6, 7] (ls' := [(0, .ref 0), (2, .long l2), (4, .int l4), (5, .long l5), (7, .long l7), (9, .int l9), (10, .long l10), (12, .int l12)]) rfl ?_
          exact kJ_22 _ (by rw [if_pos hc_15])
        · refine Xblk hX pkX4_ok [.lload 5, .iload 12] (pc' := 134) (ls' := [(0, .ref 0), (2, .long l2), (4, .int l4), (5, .long l5), (7, .long l7), (9, .int l9), (10, .long l10), (12, .int l12)]) (st' := [.int l12, .long l5, .int l12, .ref 38]) (h' := h) (g := true) (by decide +kernel) rfl rfl rfl ?_
          refine XcallS hX (mt_x_shifted l5 l12 h) (rest := [.int l12, .ref 38]) (by decide) (by decide) xm_X4_shifted xi_X4_shifted xl_RX4_285 rfl (Nat.le_of_ble_eq_true rfl) (by decide +kernel) ?_
          show XW X 137 [(0, .ref 0), (2, .long l2), (4, .int l4), (5, .long l5), (7, .long l7), (9, .int l9), (10, .long l10), (12, .int l12)] [.long (f_x_shifted l5 l12), .int l12, .ref 38] h
          refine Xblk hX pkX4_ok [.lload 10, .land] (pc' := 140) (ls' := [(0, .ref 0), (2, .long l2), (4, .int l4), (5, .long l5), (7, .long l7), (9, .int l9), (10, .long l10), (12, .int l12)]) (st' := [.long ((f_x_shifted l5 l12) &&& l10), .int l12, .ref 38]) (h' := h) (g := true) (by decide +kernel) rfl rfl rfl ?_
          refine XW.pick [0, 1, 2, 3, 4, 5, 6, 7] (ls' := [(0, .ref 0), (2, .long l2), (4, .int l4), (5, .long l5), (7, .long l7), (9, .int l9), (10, .long l10), (12, .int l12)]) rfl ?_
          exact kJ_22 _ (by rw [if_neg hc_15])
      · replace hf := xif_f hc_14 hf
        obtain ⟨hg, hf⟩ := xgd_inv hf
        refine Xblk hX pkX4_ok [.aload_n 0, .getfield 45, .iload 12, .aload_n 0, .getfield 45, .iload 12, .laload, .lload 10] (pc' := 106) (ls' := [(0, .ref 0), (2, .long l2), (4, .int l4), (5, .long l5), (7, .long l7), (9, .int l9), (10, .long l10), (12, .int l12)]) (st' := [.long l10, .long (h.2 38 l12.toNatClampNeg), .int l12, .ref 38]) (h' := h) (g := (xin l12 5 && true)) (by decide +kernel) rfl rfl hg ?_
        refine XcallS hX (mt_x_widened (h.2 38 l12.toNatClampNeg) l10 h) (rest := [.int l12, .ref 38]) (by decide) (by decide) xm_X4_widened xi_X4_widened xl_RX4_288 rfl (Nat.le_of_ble_eq_true rfl) (by decide +kernel) ?_
        show XW X 109 [(0, .ref 0), (2, .long l2), (4, .int l4), (5, .long l5), (7, .long l7), (9, .int l9), (10, .long l10), (12, .int l12)] [.long (f_x_widened (h.2 38 l12.toNatClampNeg) l10), .int l12, .ref 38] h
        obtain ⟨hg, hf⟩ := xgd_inv hf
        refine Xblk hX pkX4_ok [.lastore] (pc' := 110) (ls' := [(0, .ref 0), (2, .long l2), (4, .int l4), (5, .long l5), (7, .long l7), (9, .int l9), (10, .long l10), (12, .int l12)]) (st' := []) (h' := (xL h 38 l12.toNatClampNeg (f_x_widened (h.2 38 l12.toNatClampNeg) l10))) (g := (xin l12 5 && true)) (by decide +kernel) rfl rfl hg ?_
        refine Xgoto hX (31) 141 (by decide +kernel) (by decide) ?_
        refine XW.pick [0, 1, 2, 3, 4, 5, 6, 7] (ls' := [(0, .ref 0), (2, .long l2), (4, .int l4), (5, .long l5), (7, .long l7), (9, .int l9), (10, .long l10), (12, .int l12)]) rfl ?_
        exact f_x_soonestRow_j_17_ok hX hR l2 l4 l5 l7 l9 l10 l12 (xL h 38 l12.toNatClampNeg (f_x_widened (h.2 38 l12.toNatClampNeg) l10)) _ _ ih hk hf
set_option maxRecDepth 100000 in
set_option maxHeartbeats 4000000 in
theorem f_x_soonestRow_L_5_ok {X : XCtx} (hX : XOk X RX4 cX4_soonestRow 13 4 39) {r : Int32} {h' : Hp} (hR : XR X (some .int) (some (.int r)) h')  (l2 : Int64) (l4 : Int32) (l5 : Int64) (l7 : Int64)  (k : Int32 → Hp → Option (Int32 × Hp))  (hk : ∀ (l9 : Int32) (h : Hp), k l9 h = some (r, h') → XW X 180 [] [] h) : ∀ (n : Nat) (l9 : Int32) (h : Hp), f_x_soonestRow_L_5 l2 l4 l5 l7 k n l9 h = some (r, h') → XW X 45 [(0, .ref 0), (2, .long l2), (4, .int l4), (5, .long l5), (7, .long l7), (9, .int l9)] [] h := by
  intro n
  induction n with
  | zero => intro l9 h hf; cases hf
  | succ n ih =>
    intro l9 h hf
    rw [f_x_soonestRow_L_5] at hf
    refine Xblk hX pkX4_ok [.iload 9, .bipush 20] (pc' := 49) (ls' := [(0, .ref 0), (2, .long l2), (4, .int l4), (5, .long l5), (7, .long l7), (9, .int l9)]) (st' := [.int (20 : Int32), .int l9]) (h' := h) (g := true) (by decide +kernel) rfl rfl rfl ?_
    refine Xbr hX (.if_icmp .gt (131)) (tgt := 180) (P := (20 : Int32) < l9) (r := []) (by decide +kernel) rfl (by decide) (fun hc_6 => ?_) (fun hc_6 => ?_)
    · replace hf := xif_t hc_6 hf
      refine XW.pick [] (ls' := []) rfl ?_
      exact hk l9 h hf
    · replace hf := xif_f hc_6 hf
      refine Xblk hX pkX4_ok [.lload 7, .aload_n 0, .getfield 34, .iconst 1, .aload_n 0, .getfield 16, .getfield 96] (pc' := 66) (ls' := [(0, .ref 0), (2, .long l2), (4, .int l4), (5, .long l5), (7, .long l7), (9, .int l9)]) (st' := [.long (h.2 2 5), .int (1 : Int32), .ref 28, .long l7]) (h' := h) (g := true) (by decide +kernel) rfl rfl rfl ?_
      obtain ⟨v_9, h_8, hc_7, hf⟩ := xbd2_inv hf
      refine XcallV hX (mt_crowd_afterTicks (1 : Int32) (h.2 2 5) h hc_7) (rest := [.long l7]) (by decide) (by decide) xm_X0_afterTicks xi_X0_afterTicks xs_X0_afterTicks xl_RX4_159 (by decide) (xsh_28) rfl rfl rfl (Nat.le_of_ble_eq_true rfl) (by decide +kernel) ?_
      show XW X 69 [(0, .ref 0), (2, .long l2), (4, .int l4), (5, .long l5), (7, .long l7), (9, .int l9)] [.long v_9, .long l7] h_8
      refine Xblk hX pkX4_ok [.ldc2_w 99, .lxor, .land, .lstore 10, .iconst 0, .istore 12] (pc' := 79) (ls' := [(12, .int (0 : Int32)), (10, .long (l7 &&& (v_9 ^^^ (-1 : Int64)))), (0, .ref 0), (2, .long l2), (4, .int l4), (5, .long l5), (7, .long l7), (9, .int l9)]) (st' := []) (h' := h_8) (g := true) (by decide +kernel) rfl rfl rfl ?_
      refine XW.pick [2, 3, 4, 5, 6, 7, 1, 0] (ls' := [(0, .ref 0), (2, .long l2), (4, .int l4), (5, .long l5), (7, .long l7), (9, .int l9), (10, .long (l7 &&& (v_9 ^^^ (-1 : Int64)))), (12, .int (0 : Int32))]) rfl ?_
      refine f_x_soonestRow_L_10_ok hX hR l2 l4 l5 l7 l9 (l7 &&& (v_9 ^^^ (-1 : Int64))) _  (fun l12_23 h_24 hf => ?_) 1000 (0 : Int32) h_8 hf
      refine Xblk hX pkX4_ok [.iinc 9 1] (pc' := 177) (ls' := [(9, .int (l9 + (1 : Int32))), (0, .ref 0), (2, .long l2), (4, .int l4), (5, .long l5), (7, .long l7)]) (st' := []) (h' := h_24) (g := true) (by decide +kernel) rfl rfl rfl ?_
      refine Xgoto hX (-132) 45 (by decide +kernel) (by decide) ?_
      refine XW.pick [1, 2, 3, 4, 5, 0] (ls' := [(0, .ref 0), (2, .long l2), (4, .int l4), (5, .long l5), (7, .long l7), (9, .int (l9 + (1 : Int32)))]) rfl ?_
      exact ih (l9 + (1 : Int32)) h_24 hf
set_option maxRecDepth 100000 in
set_option maxHeartbeats 4000000 in
theorem mt_x_soonestRow (l1 : Int32) (l2 : Int64) (l4 : Int32) (h : Hp) {r : Int32} {h' : Hp} (hf : f_x_soonestRow l1 l2 l4 h = some (r, h')) : MT 4 39 yX4_soonestRow cX4_soonestRow 13 (some .int) [.ref 0, .int l1, .long l2, .int l4] h (some (.int r)) h' := by
  refine MT.of (by decide +kernel) (Nat.le_of_ble_eq_true rfl) fun X hX hR => ?_
  unfold f_x_soonestRow at hf
  obtain ⟨hg, hf⟩ := xgd_inv hf
  refine Xblk hX pkX4_ok [.lconst 1, .aload_n 0, .getfield 23, .getfield 146, .iload_n 1, .iaload, .lshl, .lstore 5, .aload_n 0, .getfield 16, .getfield 96, .aload_n 0, .getfield 23] (pc' := 24) (ls' := [(5, .long (jshlL (1 : Int64) (h.1 9 l1.toNatClampNeg))), (0, .ref 0), (1, .int l1), (2, .long l2), (4, .int l4)]) (st' := [.ref 6, .long (h.2 2 5)]) (h' := h) (g := (xin l1 2 && true)) (by decide +kernel) rfl rfl hg ?_
  obtain ⟨v_2, hc_1, hf⟩ := xbd1_inv hf
  refine XcallV hX (mt_scene_carriersTaken_6  h hc_1) (rest := [.long (h.2 2 5)]) (by decide) (by decide) xm_X3_carriersTaken xi_X3_carriersTaken xs_X3_carriersTaken xl_RX4_121 (by decide) (xsh_6) rfl rfl rfl (Nat.le_of_ble_eq_true rfl) (by decide +kernel) ?_
  show XW X 27 [(5, .long (jshlL (1 : Int64) (h.1 9 l1.toNatClampNeg))), (0, .ref 0), (1, .int l1), (2, .long l2), (4, .int l4)] [.long v_2, .long (h.2 2 5)] h
  refine Xblk hX pkX4_ok [.ldc2_w 99, .lxor, .lload 5, .lor, .land, .lstore 7, .aload_n 0, .iload_n 1] (pc' := 39) (ls' := [(7, .long ((h.2 2 5) &&& ((v_2 ^^^ (-1 : Int64)) ||| (jshlL (1 : Int64) (h.1 9 l1.toNatClampNeg))))), (5, .long (jshlL (1 : Int64) (h.1 9 l1.toNatClampNeg))), (0, .ref 0), (1, .int l1), (2, .long l2), (4, .int l4)]) (st' := [.int l1, .ref 0]) (h' := h) (g := true) (by decide +kernel) rfl rfl rfl ?_
  obtain ⟨h_4, hc_3, hf⟩ := xbd1_inv hf
  refine XcallV hX (mt_x_gatherAnybody l1 h hc_3) (rest := []) (by decide) (by decide) xm_X4_gatherAnybody xi_X4_gatherAnybody xs_X4_gatherAnybody xl_RX4_156 (by decide) (xsh_0) rfl rfl rfl (Nat.le_of_ble_eq_true rfl) (by decide +kernel) ?_
  show XW X 42 [(7, .long ((h.2 2 5) &&& ((v_2 ^^^ (-1 : Int64)) ||| (jshlL (1 : Int64) (h.1 9 l1.toNatClampNeg))))), (5, .long (jshlL (1 : Int64) (h.1 9 l1.toNatClampNeg))), (0, .ref 0), (1, .int l1), (2, .long l2), (4, .int l4)] [] h_4
  refine Xblk hX pkX4_ok [.iconst 1, .istore 9] (pc' := 45) (ls' := [(9, .int (1 : Int32)), (7, .long ((h.2 2 5) &&& ((v_2 ^^^ (-1 : Int64)) ||| (jshlL (1 : Int64) (h.1 9 l1.toNatClampNeg))))), (5, .long (jshlL (1 : Int64) (h.1 9 l1.toNatClampNeg))), (0, .ref 0), (1, .int l1), (2, .long l2), (4, .int l4)]) (st' := []) (h' := h_4) (g := true) (by decide +kernel) rfl rfl rfl ?_
  refine XW.pick [3, 5, 6, 2, 1, 0] (ls' := [(0, .ref 0), (2, .long l2), (4, .int l4), (5, .long (jshlL (1 : Int64) (h.1 9 l1.toNatClampNeg))), (7, .long ((h.2 2 5) &&& ((v_2 ^^^ (-1 : Int64)) ||| (jshlL (1 : Int64) (h.1 9 l1.toNatClampNeg))))), (9, .int (1 : Int32))]) rfl ?_
  refine f_x_soonestRow_L_5_ok hX hR l2 l4 (jshlL (1 : Int64) (h.1 9 l1.toNatClampNeg)) ((h.2 2 5) &&& ((v_2 ^^^ (-1 : Int64)) ||| (jshlL (1 : Int64) (h.1 9 l1.toNatClampNeg)))) _  (fun l9_25 h_26 hf => ?_) 1000 (1 : Int32) h_4 hf
  refine Xblk hX pkX4_ok [.bipush (-9)] (pc' := 182) (ls' := []) (st' := [.int (-9 : Int32)]) (h' := h_26) (g := true) (by decide +kernel) rfl rfl rfl ?_
  exact XrI2 hX hR hf (by decide +kernel)
def f_x_soonest (l1 : Int32) (l2 : Int32) (l3 : Int32) (h : Hp) : Option (Int32 × Hp) :=
  if (f_x_isCarrier l1 h) = (0 : Int32) then
    some ((-1 : Int32), h)
  else
    if (f_hall_has l2 h) = (0 : Int32) then
      some ((-1 : Int32), h)
    else
      if l3 < (0 : Int32) then
        some ((-1 : Int32), h)
      else
        if l3 ≤ (1 : Int32) then
          if (f_hall_isFree l2 h) = (0 : Int32) then
            some ((-2 : Int32), h)
          else
            xgd (xin l1 2 && true) <|
            if (h.1 9 l1.toNatClampNeg) = l2 then
              some ((if l3 = (0 : Int32) then (0 : Int32) else (-9 : Int32)), h)
            else
              xbd2 (f_x_soonestRow l1 (jshlL (1 : Int64) l2) l3 h) fun v_12 h_11 =>
              some (v_12, h_11)
        else
          some ((-1 : Int32), h)
set_option maxRecDepth 100000 in
set_option maxHeartbeats 4000000 in
theorem mt_x_soonest (l1 : Int32) (l2 : Int32) (l3 : Int32) (h : Hp) {r : Int32} {h' : Hp} (hf : f_x_soonest l1 l2 l3 h = some (r, h')) : MT 5 39 yX4_soonest cX4_soonest 4 (some .int) [.ref 0, .int l1, .int l2, .int l3] h (some (.int r)) h' := by
  refine MT.of (by decide +kernel) (Nat.le_of_ble_eq_true rfl) fun X hX hR => ?_
  unfold f_x_soonest at hf
  refine Xblk hX pkX4_ok [.aload_n 0, .iload_n 1] (pc' := 2) (ls' := [(0, .ref 0), (1, .int l1), (2, .int l2), (3, .int l3)]) (st' := [.int l1, .ref 0]) (h' := h) (g := true) (by decide +kernel) rfl rfl rfl ?_
  refine XcallV hX (mt_x_isCarrier l1 h) (rest := []) (by decide) (by decide) xm_X4_isCarrier xi_X4_isCarrier xs_X4_isCarrier xl_RX4_143 (by decide) (xsh_0) rfl rfl rfl (Nat.le_of_ble_eq_true rfl) (by decide +kernel) ?_
  show XW X 5 [(0, .ref 0), (1, .int l1), (2, .int l2), (3, .int l3)] [.int (f_x_isCarrier l1 h)] h
  refine Xbr hX (.ifCond .eq (23)) (tgt := 28) (P := (f_x_isCarrier l1 h) = (0 : Int32)) (r := []) (by decide +kernel) rfl (by decide) (fun hc_1 => ?_) (fun hc_1 => ?_)
  · replace hf := xif_t hc_1 hf
    refine Xblk hX pkX4_ok [.iconst (-1)] (pc' := 29) (ls' := [(0, .ref 0), (1, .int l1), (2, .int l2), (3, .int l3)]) (st' := [.int (-1 : Int32)]) (h' := h) (g := true) (by decide +kernel) rfl rfl rfl ?_
    exact XrI2 hX hR hf (by decide +kernel)
  · replace hf := xif_f hc_1 hf
    refine Xblk hX pkX4_ok [.aload_n 0, .getfield 16, .iload_n 2] (pc' := 13) (ls' := [(0, .ref 0), (1, .int l1), (2, .int l2), (3, .int l3)]) (st' := [.int l2, .ref 2]) (h' := h) (g := true) (by decide +kernel) rfl rfl rfl ?_
    refine XcallV hX (mt_hall_has l2 h) (rest := []) (by decide) (by decide) xm_X1_has xi_X1_has xs_X1_has xl_RX4_76 (by decide) (xsh_2) rfl rfl rfl (Nat.le_of_ble_eq_true rfl) (by decide +kernel) ?_
    show XW X 16 [(0, .ref 0), (1, .int l1), (2, .int l2), (3, .int l3)] [.int (f_hall_has l2 h)] h
    refine Xbr hX (.ifCond .eq (12)) (tgt := 28) (P := (f_hall_has l2 h) = (0 : Int32)) (r := []) (by decide +kernel) rfl (by decide) (fun hc_2 => ?_) (fun hc_2 => ?_)
    · replace hf := xif_t hc_2 hf
      refine Xblk hX pkX4_ok [.iconst (-1)] (pc' := 29) (ls' := [(0, .ref 0), (1, .int l1), (2, .int l2), (3, .int l3)]) (st' := [.int (-1 : Int32)]) (h' := h) (g := true) (by decide +kernel) rfl rfl rfl ?_
      exact XrI2 hX hR hf (by decide +kernel)
    · replace hf := xif_f hc_2 hf
      refine Xblk hX pkX4_ok [.iload_n 3] (pc' := 20) (ls' := [(0, .ref 0), (1, .int l1), (2, .int l2), (3, .int l3)]) (st' := [.int l3]) (h' := h) (g := true) (by decide +kernel) rfl rfl rfl ?_
      refine Xbr hX (.ifCond .lt (8)) (tgt := 28) (P := l3 < (0 : Int32)) (r := []) (by decide +kernel) rfl (by decide) (fun hc_3 => ?_) (fun hc_3 => ?_)
      · replace hf := xif_t hc_3 hf
        refine Xblk hX pkX4_ok [.iconst (-1)] (pc' := 29) (ls' := [(0, .ref 0), (1, .int l1), (2, .int l2), (3, .int l3)]) (st' := [.int (-1 : Int32)]) (h' := h) (g := true) (by decide +kernel) rfl rfl rfl ?_
        exact XrI2 hX hR hf (by decide +kernel)
      · replace hf := xif_f hc_3 hf
        refine Xblk hX pkX4_ok [.iload_n 3, .iconst 1] (pc' := 25) (ls' := [(0, .ref 0), (1, .int l1), (2, .int l2), (3, .int l3)]) (st' := [.int (1 : Int32), .int l3]) (h' := h) (g := true) (by decide +kernel) rfl rfl rfl ?_
        refine Xbr hX (.if_icmp .le (5)) (tgt := 30) (P := l3 ≤ (1 : Int32)) (r := []) (by decide +kernel) rfl (by decide) (fun hc_4 => ?_) (fun hc_4 => ?_)
        · replace hf := xif_t hc_4 hf
          refine Xblk hX pkX4_ok [.aload_n 0, .getfield 16, .iload_n 2] (pc' := 35) (ls' := [(0, .ref 0), (1, .int l1), (2, .int l2), (3, .int l3)]) (st' := [.int l2, .ref 2]) (h' := h) (g := true) (by decide +kernel) rfl rfl rfl ?_
          refine XcallV hX (mt_hall_isFree l2 h) (rest := []) (by decide) (by decide) xm_X1_isFree xi_X1_isFree xs_X1_isFree xl_RX4_111 (by decide) (xsh_2) rfl rfl rfl (Nat.le_of_ble_eq_true rfl) (by decide +kernel) ?_
          show XW X 38 [(0, .ref 0), (1, .int l1), (2, .int l2), (3, .int l3)] [.int (f_hall_isFree l2 h)] h
          refine XbrN hX (.ifCond .ne (6)) (tgt := 44) (P := (f_hall_isFree l2 h) = (0 : Int32)) (r := []) (by decide +kernel) rfl (by decide) (fun hc_5 => ?_) (fun hc_5 => ?_)
          · replace hf := xif_t hc_5 hf
            refine Xblk hX pkX4_ok [.bipush (-2)] (pc' := 43) (ls' := [(0, .ref 0), (1, .int l1), (2, .int l2), (3, .int l3)]) (st' := [.int (-2 : Int32)]) (h' := h) (g := true) (by decide +kernel) rfl rfl rfl ?_
            exact XrI2 hX hR hf (by decide +kernel)
          · replace hf := xif_f hc_5 hf
            obtain ⟨hg, hf⟩ := xgd_inv hf
            refine Xblk hX pkX4_ok [.aload_n 0, .getfield 23, .getfield 146, .iload_n 1, .iaload, .iload_n 2] (pc' := 54) (ls' := [(0, .ref 0), (1, .int l1), (2, .int l2), (3, .int l3)]) (st' := [.int l2, .int (h.1 9 l1.toNatClampNeg)]) (h' := h) (g := (xin l1 2 && true)) (by decide +kernel) rfl rfl hg ?_
            refine XbrN hX (.if_icmp .ne (14)) (tgt := 68) (P := (h.1 9 l1.toNatClampNeg) = l2) (r := []) (by decide +kernel) rfl (by decide) (fun hc_6 => ?_) (fun hc_6 => ?_)
            · replace hf := xif_t hc_6 hf
              refine Xblk hX pkX4_ok [.iload_n 3] (pc' := 58) (ls' := [(0, .ref 0), (1, .int l1), (2, .int l2), (3, .int l3)]) (st' := [.int l3]) (h' := h) (g := true) (by decide +kernel) rfl rfl rfl ?_
              have kJ_9 : ∀ (w_8 : Int32), w_8 = (if l3 = (0 : Int32) then (0 : Int32) else (-9 : Int32)) → XW X 67 [] [.int w_8] h := by
                intro w_8 ew_8
                subst ew_8
                exact XrI2 hX hR hf (by decide +kernel)
              refine XbrN hX (.ifCond .ne (7)) (tgt := 65) (P := l3 = (0 : Int32)) (r := []) (by decide +kernel) rfl (by decide) (fun hc_7 => ?_) (fun hc_7 => ?_)
              · refine Xblk hX pkX4_ok [.iconst 0] (pc' := 62) (ls' := [(0, .ref 0), (1, .int l1), (2, .int l2), (3, .int l3)]) (st' := [.int (0 : Int32)]) (h' := h) (g := true) (by decide +kernel) rfl rfl rfl ?_
                refine Xgoto hX (5) 67 (by decide +kernel) (by decide) ?_
                refine XW.pick [] (ls' := []) rfl ?_
                exact kJ_9 _ (by rw [if_pos hc_7])
              · refine Xblk hX pkX4_ok [.bipush (-9)] (pc' := 67) (ls' := [(0, .ref 0), (1, .int l1), (2, .int l2), (3, .int l3)]) (st' := [.int (-9 : Int32)]) (h' := h) (g := true) (by decide +kernel) rfl rfl rfl ?_
                refine XW.pick [] (ls' := []) rfl ?_
                exact kJ_9 _ (by rw [if_neg hc_7])
            · replace hf := xif_f hc_6 hf
              refine Xblk hX pkX4_ok [.aload_n 0, .iload_n 1, .lconst 1, .iload_n 2, .lshl, .iload_n 3] (pc' := 74) (ls' := [(0, .ref 0), (1, .int l1), (2, .int l2), (3, .int l3)]) (st' := [.int l3, .long (jshlL (1 : Int64) l2), .int l1, .ref 0]) (h' := h) (g := true) (by decide +kernel) rfl rfl rfl ?_
              obtain ⟨v_12, h_11, hc_10, hf⟩ := xbd2_inv hf
              refine XcallV hX (mt_x_soonestRow l1 (jshlL (1 : Int64) l2) l3 h hc_10) (rest := []) (by decide) (by decide) xm_X4_soonestRow xi_X4_soonestRow xs_X4_soonestRow xl_RX4_166 (by decide) (xsh_0) rfl rfl rfl (Nat.le_of_ble_eq_true rfl) (by decide +kernel) ?_
              show XW X 77 [(0, .ref 0), (1, .int l1), (2, .int l2), (3, .int l3)] [.int v_12] h_11
              exact XrI2 hX hR hf (by decide +kernel)
        · replace hf := xif_f hc_4 hf
          refine Xblk hX pkX4_ok [.iconst (-1)] (pc' := 29) (ls' := [(0, .ref 0), (1, .int l1), (2, .int l2), (3, .int l3)]) (st' := [.int (-1 : Int32)]) (h' := h) (g := true) (by decide +kernel) rfl rfl rfl ?_
          exact XrI2 hX hR hf (by decide +kernel)
def f_scene_addLine_6 (l1 : Int32) (l2 : Int32) (l3 : Int32) (h : Hp) : Option (Hp) :=
  xgd (xin (((5 : Int32) * (h.1 6 8)) + (4 : Int32)) 500 && (xin (((5 : Int32) * (h.1 6 8)) + (3 : Int32)) 500 && (xin l1 2 && (xin (((5 : Int32) * (h.1 6 8)) + (2 : Int32)) 500 && (xin (((5 : Int32) * (h.1 6 8)) + (1 : Int32)) 500 && (xin ((5 : Int32) * (h.1 6 8)) 500 && true)))))) <|
  some (xI (xI (xI (xI (xI (xI h 12 ((5 : Int32) * (h.1 6 8)).toNatClampNeg (h.1 6 9)) 12 (((5 : Int32) * (h.1 6 8)) + (1 : Int32)).toNatClampNeg l1) 12 (((5 : Int32) * (h.1 6 8)) + (2 : Int32)).toNatClampNeg l2) 12 (((5 : Int32) * (h.1 6 8)) + (3 : Int32)).toNatClampNeg (h.1 9 l1.toNatClampNeg)) 12 (((5 : Int32) * (h.1 6 8)) + (4 : Int32)).toNatClampNeg l3) 6 8 ((h.1 6 8) + (1 : Int32)))
set_option maxRecDepth 100000 in
set_option maxHeartbeats 4000000 in
theorem mt_scene_addLine_6 (l1 : Int32) (l2 : Int32) (l3 : Int32) (h : Hp) {h' : Hp} (hf : f_scene_addLine_6 l1 l2 l3 h = some h') : MT 0 39 yX3_addLine cX3_addLine 5 none [.ref 6, .int l1, .int l2, .int l3] h none h' := by
  refine MT.of (by decide +kernel) (Nat.le_of_ble_eq_true rfl) fun X hX hR => ?_
  unfold f_scene_addLine_6 at hf
  obtain ⟨hg, hf⟩ := xgd_inv hf
  refine Xblk hX pkX3_ok [.iconst 5, .aload_n 0, .getfield 37, .imul, .istore 4, .aload_n 0, .getfield 27, .iload 4, .aload_n 0, .getfield 40, .iastore, .aload_n 0, .getfield 27, .iload 4, .iconst 1, .iadd, .iload_n 1, .iastore, .aload_n 0, .getfield 27, .iload 4, .iconst 2, .iadd, .iload_n 2, .iastore, .aload_n 0, .getfield 27, .iload 4, .iconst 3, .iadd, .aload_n 0, .getfield 18, .iload_n 1, .iaload, .iastore, .aload_n 0, .getfield 27, .iload 4, .iconst 4, .iadd, .iload_n 3, .iastore, .aload_n 0, .dup, .getfield 37, .iconst 1, .iadd, .putfield 37] (pc' := 74) (ls' := [(4, .int ((5 : Int32) * (h.1 6 8))), (0, .ref 6), (1, .int l1), (2, .int l2), (3, .int l3)]) (st' := []) (h' := (xI (xI (xI (xI (xI (xI h 12 ((5 : Int32) * (h.1 6 8)).toNatClampNeg (h.1 6 9)) 12 (((5 : Int32) * (h.1 6 8)) + (1 : Int32)).toNatClampNeg l1) 12 (((5 : Int32) * (h.1 6 8)) + (2 : Int32)).toNatClampNeg l2) 12 (((5 : Int32) * (h.1 6 8)) + (3 : Int32)).toNatClampNeg (h.1 9 l1.toNatClampNeg)) 12 (((5 : Int32) * (h.1 6 8)) + (4 : Int32)).toNatClampNeg l3) 6 8 ((h.1 6 8) + (1 : Int32)))) (g := (xin (((5 : Int32) * (h.1 6 8)) + (4 : Int32)) 500 && (xin (((5 : Int32) * (h.1 6 8)) + (3 : Int32)) 500 && (xin l1 2 && (xin (((5 : Int32) * (h.1 6 8)) + (2 : Int32)) 500 && (xin (((5 : Int32) * (h.1 6 8)) + (1 : Int32)) 500 && (xin ((5 : Int32) * (h.1 6 8)) 500 && true))))))) (by decide +kernel) rfl rfl hg ?_
  exact XrV2 hX hR hf (by decide +kernel)
def f_x_act_j_13  (l1 : Int32) (l2 : Int32) (l3 : Int32) (h : Hp) : Option (Int32 × Hp) :=
  xbd1 (f_scene_addLine_6 l1 l2 l3 h) fun h_15 =>
  xbd1 (f_x_lookAround l1 h_15) fun h_17 =>
  some (l3, h_17)
def f_x_act (l1 : Int32) (l2 : Int32) (h : Hp) : Option (Int32 × Hp) :=
  if (f_x_isCarrier l1 h) = (0 : Int32) then
    some ((-1 : Int32), h)
  else
    if l2 < (0 : Int32) then
      some ((-1 : Int32), h)
    else
      if l2 ≤ (4 : Int32) then
        if (h.1 6 8) < (100 : Int32) then
          xbd2 (f_x_whyNot l1 l2 h) fun v_7 h_6 =>
          if v_7 = (0 : Int32) then
            if (4 : Int32) ≤ l2 then
              f_x_act_j_13 l1 l2 v_7 h_6
            else
              xgd (xin l1 2 && true) <|
              xgd (xin l2 4 && true) <|
              xgd (xin l1 2 && true) <|
              f_x_act_j_13 l1 l2 v_7 (f_orders_forgetPlan (xI h_6 9 l1.toNatClampNeg ((h_6.1 9 l1.toNatClampNeg) + (xstep l2))))
          else
            f_x_act_j_13 l1 l2 v_7 h_6
        else
          some ((-3 : Int32), h)
      else
        some ((-1 : Int32), h)
set_option maxRecDepth 100000 in
set_option maxHeartbeats 4000000 in
theorem f_x_act_j_13_ok {X : XCtx} (hX : XOk X RX4 cX4_act 4 5 39) {r : Int32} {h' : Hp} (hR : XR X (some .int) (some (.int r)) h')   (l1 : Int32) (l2 : Int32) (l3 : Int32) (h : Hp)  (hf : f_x_act_j_13 l1 l2 l3 h = some (r, h')) : XW X 74 [(0, .ref 0), (1, .int l1), (2, .int l2), (3, .int l3)] [] h := by
  unfold f_x_act_j_13 at hf
  refine Xblk hX pkX4_ok [.aload_n 0, .getfield 23, .iload_n 1, .iload_n 2, .iload_n 3] (pc' := 81) (ls' := [(0, .ref 0), (1, .int l1), (2, .int l2), (3, .int l3)]) (st' := [.int l3, .int l2, .int l1, .ref 6]) (h' := h) (g := true) (by decide +kernel) rfl rfl rfl ?_
  obtain ⟨h_15, hc_14, hf⟩ := xbd1_inv hf
  refine XcallV hX (mt_scene_addLine_6 l1 l2 l3 h hc_14) (rest := []) (by decide) (by decide) xm_X3_addLine xi_X3_addLine xs_X3_addLine xl_RX4_176 (by decide) (xsh_6) rfl rfl rfl (Nat.le_of_ble_eq_true rfl) (by decide +kernel) ?_
  show XW X 84 [(0, .ref 0), (1, .int l1), (2, .int l2), (3, .int l3)] [] h_15
  refine Xblk hX pkX4_ok [.aload_n 0, .iload_n 1] (pc' := 86) (ls' := [(0, .ref 0), (1, .int l1), (2, .int l2), (3, .int l3)]) (st' := [.int l1, .ref 0]) (h' := h_15) (g := true) (by decide +kernel) rfl rfl rfl ?_
  obtain ⟨h_17, hc_16, hf⟩ := xbd1_inv hf
  refine XcallV hX (mt_x_lookAround l1 h_15 hc_16) (rest := []) (by decide) (by decide) xm_X4_lookAround xi_X4_lookAround xs_X4_lookAround xl_RX4_130 (by decide) (xsh_0) rfl rfl rfl (Nat.le_of_ble_eq_true rfl) (by decide +kernel) ?_
  show XW X 89 [(0, .ref 0), (1, .int l1), (2, .int l2), (3, .int l3)] [] h_17
  refine Xblk hX pkX4_ok [.iload_n 3] (pc' := 90) (ls' := [(0, .ref 0), (1, .int l1), (2, .int l2), (3, .int l3)]) (st' := [.int l3]) (h' := h_17) (g := true) (by decide +kernel) rfl rfl rfl ?_
  exact XrI2 hX hR hf (by decide +kernel)
set_option maxRecDepth 100000 in
set_option maxHeartbeats 4000000 in
theorem mt_x_act (l1 : Int32) (l2 : Int32) (h : Hp) {r : Int32} {h' : Hp} (hf : f_x_act l1 l2 h = some (r, h')) : MTS 5 39 yX4_act cX4_act 4 (some .int) [.ref 0, .int l1, .int l2] h (some (.int r)) h' := by
  refine MTS.of (by decide +kernel) (Nat.le_of_ble_eq_true rfl) fun X hX hZ hR => ?_
  unfold f_x_act at hf
  refine Xblk hX pkX4_ok [.aload_n 0, .iload_n 1] (pc' := 2) (ls' := [(0, .ref 0), (1, .int l1), (2, .int l2)]) (st' := [.int l1, .ref 0]) (h' := h) (g := true) (by decide +kernel) rfl rfl rfl ?_
  refine XcallV hX (mt_x_isCarrier l1 h) (rest := []) (by decide) (by decide) xm_X4_isCarrier xi_X4_isCarrier xs_X4_isCarrier xl_RX4_143 (by decide) (xsh_0) rfl rfl rfl (Nat.le_of_ble_eq_true rfl) (by decide +kernel) ?_
  show XW X 5 [(0, .ref 0), (1, .int l1), (2, .int l2)] [.int (f_x_isCarrier l1 h)] h
  refine Xbr hX (.ifCond .eq (12)) (tgt := 17) (P := (f_x_isCarrier l1 h) = (0 : Int32)) (r := []) (by decide +kernel) rfl (by decide) (fun hc_1 => ?_) (fun hc_1 => ?_)
  · replace hf := xif_t hc_1 hf
    refine Xblk hX pkX4_ok [.iconst (-1)] (pc' := 18) (ls' := [(0, .ref 0), (1, .int l1), (2, .int l2)]) (st' := [.int (-1 : Int32)]) (h' := h) (g := true) (by decide +kernel) rfl rfl rfl ?_
    exact XrI2 hX hR hf (by decide +kernel)
  · replace hf := xif_f hc_1 hf
    refine Xblk hX pkX4_ok [.iload_n 2] (pc' := 9) (ls' := [(0, .ref 0), (1, .int l1), (2, .int l2)]) (st' := [.int l2]) (h' := h) (g := true) (by decide +kernel) rfl rfl rfl ?_
    refine Xbr hX (.ifCond .lt (8)) (tgt := 17) (P := l2 < (0 : Int32)) (r := []) (by decide +kernel) rfl (by decide) (fun hc_2 => ?_) (fun hc_2 => ?_)
    · replace hf := xif_t hc_2 hf
      refine Xblk hX pkX4_ok [.iconst (-1)] (pc' := 18) (ls' := [(0, .ref 0), (1, .int l1), (2, .int l2)]) (st' := [.int (-1 : Int32)]) (h' := h) (g := true) (by decide +kernel) rfl rfl rfl ?_
      exact XrI2 hX hR hf (by decide +kernel)
    · replace hf := xif_f hc_2 hf
      refine Xblk hX pkX4_ok [.iload_n 2, .iconst 4] (pc' := 14) (ls' := [(0, .ref 0), (1, .int l1), (2, .int l2)]) (st' := [.int (4 : Int32), .int l2]) (h' := h) (g := true) (by decide +kernel) rfl rfl rfl ?_
      refine Xbr hX (.if_icmp .le (5)) (tgt := 19) (P := l2 ≤ (4 : Int32)) (r := []) (by decide +kernel) rfl (by decide) (fun hc_3 => ?_) (fun hc_3 => ?_)
      · replace hf := xif_t hc_3 hf
        refine Xblk hX pkX4_ok [.aload_n 0, .getfield 23, .getfield 170, .bipush 100] (pc' := 28) (ls' := [(0, .ref 0), (1, .int l1), (2, .int l2)]) (st' := [.int (100 : Int32), .int (h.1 6 8)]) (h' := h) (g := true) (by decide +kernel) rfl rfl rfl ?_
        refine Xbr hX (.if_icmp .lt (6)) (tgt := 34) (P := (h.1 6 8) < (100 : Int32)) (r := []) (by decide +kernel) rfl (by decide) (fun hc_4 => ?_) (fun hc_4 => ?_)
        · replace hf := xif_t hc_4 hf
          refine Xblk hX pkX4_ok [.aload_n 0, .iload_n 1, .iload_n 2] (pc' := 37) (ls' := [(0, .ref 0), (1, .int l1), (2, .int l2)]) (st' := [.int l2, .int l1, .ref 0]) (h' := h) (g := true) (by decide +kernel) rfl rfl rfl ?_
          obtain ⟨v_7, h_6, hc_5, hf⟩ := xbd2_inv hf
          refine XcallV hX (mt_x_whyNot l1 l2 h hc_5) (rest := []) (by decide) (by decide) xm_X4_whyNot xi_X4_whyNot xs_X4_whyNot xl_RX4_163 (by decide) (xsh_0) rfl rfl rfl (Nat.le_of_ble_eq_true rfl) (by decide +kernel) ?_
          show XW X 40 [(0, .ref 0), (1, .int l1), (2, .int l2)] [.int v_7] h_6
          refine Xblk hX pkX4_ok [.istore_n 3, .iload_n 3] (pc' := 42) (ls' := [(3, .int v_7), (0, .ref 0), (1, .int l1), (2, .int l2)]) (st' := [.int v_7]) (h' := h_6) (g := true) (by decide +kernel) rfl rfl rfl ?_
          refine XbrN hX (.ifCond .ne (32)) (tgt := 74) (P := v_7 = (0 : Int32)) (r := []) (by decide +kernel) rfl (by decide) (fun hc_10 => ?_) (fun hc_10 => ?_)
          · replace hf := xif_t hc_10 hf
            refine Xblk hX pkX4_ok [.iload_n 2, .iconst 4] (pc' := 47) (ls' := [(3, .int v_7), (0, .ref 0), (1, .int l1), (2, .int l2)]) (st' := [.int (4 : Int32), .int l2]) (h' := h_6) (g := true) (by decide +kernel) rfl rfl rfl ?_
            refine Xbr hX (.if_icmp .ge (27)) (tgt := 74) (P := (4 : Int32) ≤ l2) (r := []) (by decide +kernel) rfl (by decide) (fun hc_12 => ?_) (fun hc_12 => ?_)
            · replace hf := xif_t hc_12 hf
              refine XW.pick [1, 2, 3, 0] (ls' := [(0, .ref 0), (1, .int l1), (2, .int l2), (3, .int v_7)]) rfl ?_
              exact f_x_act_j_13_ok hX hR l1 l2 v_7 h_6 hf
            · replace hf := xif_f hc_12 hf
              obtain ⟨hg, hf⟩ := xgd_inv hf
              refine Xblk hX pkX4_ok [.aload_n 0, .getfield 23, .getfield 146, .iload_n 1, .dup2, .iaload] (pc' := 60) (ls' := [(3, .int v_7), (0, .ref 0), (1, .int l1), (2, .int l2)]) (st' := [.int (h_6.1 9 l1.toNatClampNeg), .int l1, .ref 9]) (h' := h_6) (g := (xin l1 2 && true)) (by decide +kernel) rfl rfl hg ?_
              obtain ⟨hg, hf⟩ := xgd_inv hf
              rw [Bool.and_true] at hg
              refine Xstep hX hZ (k := 2) (j := l2) xstep_w (by decide +kernel) (by decide +kernel) (by decide +kernel) rfl hg ?_
              obtain ⟨hg, hf⟩ := xgd_inv hf
              refine Xblk hX pkX4_ok [.iadd, .iastore, .aload_n 0, .getfield 41] (pc' := 71) (ls' := [(3, .int v_7), (0, .ref 0), (1, .int l1), (2, .int l2)]) (st' := [.ref 30]) (h' := (xI h_6 9 l1.toNatClampNeg ((h_6.1 9 l1.toNatClampNeg) + (xstep l2)))) (g := (xin l1 2 && true)) (by decide +kernel) rfl rfl hg ?_
              refine XcallV hX (mt_orders_forgetPlan  (xI h_6 9 l1.toNatClampNeg ((h_6.1 9 l1.toNatClampNeg) + (xstep l2)))) (rest := []) (by decide) (by decide) xm_X2_forgetPlan xi_X2_forgetPlan xs_X2_forgetPlan xl_RX4_104 (by decide) (xsh_30) rfl rfl rfl (Nat.le_of_ble_eq_true rfl) (by decide +kernel) ?_
              show XW X 74 [(3, .int v_7), (0, .ref 0), (1, .int l1), (2, .int l2)] [] (f_orders_forgetPlan (xI h_6 9 l1.toNatClampNeg ((h_6.1 9 l1.toNatClampNeg) + (xstep l2))))
              refine XW.pick [1, 2, 3, 0] (ls' := [(0, .ref 0), (1, .int l1), (2, .int l2), (3, .int v_7)]) rfl ?_
              exact f_x_act_j_13_ok hX hR l1 l2 v_7 (f_orders_forgetPlan (xI h_6 9 l1.toNatClampNeg ((h_6.1 9 l1.toNatClampNeg) + (xstep l2)))) hf
          · replace hf := xif_f hc_10 hf
            refine XW.pick [1, 2, 3, 0] (ls' := [(0, .ref 0), (1, .int l1), (2, .int l2), (3, .int v_7)]) rfl ?_
            exact f_x_act_j_13_ok hX hR l1 l2 v_7 h_6 hf
        · replace hf := xif_f hc_4 hf
          refine Xblk hX pkX4_ok [.bipush (-3)] (pc' := 33) (ls' := [(0, .ref 0), (1, .int l1), (2, .int l2)]) (st' := [.int (-3 : Int32)]) (h' := h) (g := true) (by decide +kernel) rfl rfl rfl ?_
          exact XrI2 hX hR hf (by decide +kernel)
      · replace hf := xif_f hc_3 hf
        refine Xblk hX pkX4_ok [.iconst (-1)] (pc' := 18) (ls' := [(0, .ref 0), (1, .int l1), (2, .int l2)]) (st' := [.int (-1 : Int32)]) (h' := h) (g := true) (by decide +kernel) rfl rfl rfl ?_
        exact XrI2 hX hR hf (by decide +kernel)
def f_x_walk (l1 : Int32) (l2 : Int32) (h : Hp) : Option (Int32 × Hp) :=
  if (f_x_isPerson l1 h) = (0 : Int32) then
    some ((-1 : Int32), h)
  else
    if (f_hall_has l2 h) = (0 : Int32) then
      some ((-1 : Int32), h)
    else
      xbd2 (f_x_couldBe l1 (1 : Int32) h) fun v_5 h_4 =>
      xbd1 (f_scene_carriersTaken_6 h_4) fun v_7 =>
      if (lg_cmp ((v_5 &&& (v_7 ^^^ (-1 : Int64))) &&& (jshlL (1 : Int64) l2)) (0 : Int64)) = (0 : Int32) then
        some ((-2 : Int32), h_4)
      else
        xgd (xin l1 6 && (xin l1 6 && true)) <|
        some ((h_4.1 7 l1.toNatClampNeg), (xI h_4 7 l1.toNatClampNeg l2))
set_option maxRecDepth 100000 in
set_option maxHeartbeats 4000000 in
theorem mt_x_walk (l1 : Int32) (l2 : Int32) (h : Hp) {r : Int32} {h' : Hp} (hf : f_x_walk l1 l2 h = some (r, h')) : MT 4 39 yX4_walk cX4_walk 4 (some .int) [.ref 0, .int l1, .int l2] h (some (.int r)) h' := by
  refine MT.of (by decide +kernel) (Nat.le_of_ble_eq_true rfl) fun X hX hR => ?_
  unfold f_x_walk at hf
  refine Xblk hX pkX4_ok [.aload_n 0, .iload_n 1] (pc' := 2) (ls' := [(0, .ref 0), (1, .int l1), (2, .int l2)]) (st' := [.int l1, .ref 0]) (h' := h) (g := true) (by decide +kernel) rfl rfl rfl ?_
  refine XcallV hX (mt_x_isPerson l1 h) (rest := []) (by decide) (by decide) xm_X4_isPerson xi_X4_isPerson xs_X4_isPerson xl_RX4_134 (by decide) (xsh_0) rfl rfl rfl (Nat.le_of_ble_eq_true rfl) (by decide +kernel) ?_
  show XW X 5 [(0, .ref 0), (1, .int l1), (2, .int l2)] [.int (f_x_isPerson l1 h)] h
  refine Xbr hX (.ifCond .eq (14)) (tgt := 19) (P := (f_x_isPerson l1 h) = (0 : Int32)) (r := []) (by decide +kernel) rfl (by decide) (fun hc_1 => ?_) (fun hc_1 => ?_)
  · replace hf := xif_t hc_1 hf
    refine Xblk hX pkX4_ok [.iconst (-1)] (pc' := 20) (ls' := [(0, .ref 0), (1, .int l1), (2, .int l2)]) (st' := [.int (-1 : Int32)]) (h' := h) (g := true) (by decide +kernel) rfl rfl rfl ?_
    exact XrI2 hX hR hf (by decide +kernel)
  · replace hf := xif_f hc_1 hf
    refine Xblk hX pkX4_ok [.aload_n 0, .getfield 16, .iload_n 2] (pc' := 13) (ls' := [(0, .ref 0), (1, .int l1), (2, .int l2)]) (st' := [.int l2, .ref 2]) (h' := h) (g := true) (by decide +kernel) rfl rfl rfl ?_
    refine XcallV hX (mt_hall_has l2 h) (rest := []) (by decide) (by decide) xm_X1_has xi_X1_has xs_X1_has xl_RX4_76 (by decide) (xsh_2) rfl rfl rfl (Nat.le_of_ble_eq_true rfl) (by decide +kernel) ?_
    show XW X 16 [(0, .ref 0), (1, .int l1), (2, .int l2)] [.int (f_hall_has l2 h)] h
    refine XbrN hX (.ifCond .ne (5)) (tgt := 21) (P := (f_hall_has l2 h) = (0 : Int32)) (r := []) (by decide +kernel) rfl (by decide) (fun hc_2 => ?_) (fun hc_2 => ?_)
    · replace hf := xif_t hc_2 hf
      refine Xblk hX pkX4_ok [.iconst (-1)] (pc' := 20) (ls' := [(0, .ref 0), (1, .int l1), (2, .int l2)]) (st' := [.int (-1 : Int32)]) (h' := h) (g := true) (by decide +kernel) rfl rfl rfl ?_
      exact XrI2 hX hR hf (by decide +kernel)
    · replace hf := xif_f hc_2 hf
      refine Xblk hX pkX4_ok [.aload_n 0, .iload_n 1, .iconst 1] (pc' := 24) (ls' := [(0, .ref 0), (1, .int l1), (2, .int l2)]) (st' := [.int (1 : Int32), .int l1, .ref 0]) (h' := h) (g := true) (by decide +kernel) rfl rfl rfl ?_
      obtain ⟨v_5, h_4, hc_3, hf⟩ := xbd2_inv hf
      refine XcallV hX (mt_x_couldBe l1 (1 : Int32) h hc_3) (rest := []) (by decide) (by decide) xm_X4_couldBe xi_X4_couldBe xs_X4_couldBe xl_RX4_152 (by decide) (xsh_0) rfl rfl rfl (Nat.le_of_ble_eq_true rfl) (by decide +kernel) ?_
      show XW X 27 [(0, .ref 0), (1, .int l1), (2, .int l2)] [.long v_5] h_4
      refine Xblk hX pkX4_ok [.aload_n 0, .getfield 23] (pc' := 31) (ls' := [(0, .ref 0), (1, .int l1), (2, .int l2)]) (st' := [.ref 6, .long v_5]) (h' := h_4) (g := true) (by decide +kernel) rfl rfl rfl ?_
      obtain ⟨v_7, hc_6, hf⟩ := xbd1_inv hf
      refine XcallV hX (mt_scene_carriersTaken_6  h_4 hc_6) (rest := [.long v_5]) (by decide) (by decide) xm_X3_carriersTaken xi_X3_carriersTaken xs_X3_carriersTaken xl_RX4_121 (by decide) (xsh_6) rfl rfl rfl (Nat.le_of_ble_eq_true rfl) (by decide +kernel) ?_
      show XW X 34 [(0, .ref 0), (1, .int l1), (2, .int l2)] [.long v_7, .long v_5] h_4
      refine Xblk hX pkX4_ok [.ldc2_w 99, .lxor, .land, .lconst 1, .iload_n 2, .lshl, .land, .lconst 0, .lcmp] (pc' := 45) (ls' := [(0, .ref 0), (1, .int l1), (2, .int l2)]) (st' := [.int (lg_cmp ((v_5 &&& (v_7 ^^^ (-1 : Int64))) &&& (jshlL (1 : Int64) l2)) (0 : Int64))]) (h' := h_4) (g := true) (by decide +kernel) rfl rfl rfl ?_
      refine XbrN hX (.ifCond .ne (6)) (tgt := 51) (P := (lg_cmp ((v_5 &&& (v_7 ^^^ (-1 : Int64))) &&& (jshlL (1 : Int64) l2)) (0 : Int64)) = (0 : Int32)) (r := []) (by decide +kernel) rfl (by decide) (fun hc_8 => ?_) (fun hc_8 => ?_)
      · replace hf := xif_t hc_8 hf
        refine Xblk hX pkX4_ok [.bipush (-2)] (pc' := 50) (ls' := [(0, .ref 0), (1, .int l1), (2, .int l2)]) (st' := [.int (-2 : Int32)]) (h' := h_4) (g := true) (by decide +kernel) rfl rfl rfl ?_
        exact XrI2 hX hR hf (by decide +kernel)
      · replace hf := xif_f hc_8 hf
        obtain ⟨hg, hf⟩ := xgd_inv hf
        refine Xblk hX pkX4_ok [.aload_n 0, .getfield 23, .getfield 137, .iload_n 1, .iaload, .istore_n 3, .aload_n 0, .getfield 23, .getfield 137, .iload_n 1, .iload_n 2, .iastore, .iload_n 3] (pc' := 72) (ls' := [(3, .int (h_4.1 7 l1.toNatClampNeg)), (0, .ref 0), (1, .int l1), (2, .int l2)]) (st' := [.int (h_4.1 7 l1.toNatClampNeg)]) (h' := (xI h_4 7 l1.toNatClampNeg l2)) (g := (xin l1 6 && (xin l1 6 && true))) (by decide +kernel) rfl rfl hg ?_
        exact XrI2 hX hR hf (by decide +kernel)
def f_x_tick_L_4    (k : Int32 → Hp → Option (Int32 × Hp)) : Nat → Int32 → Hp → Option (Int32 × Hp)
  | 0, _, _ => none
  | n + 1, l2, h =>
    if (h.1 6 7) ≤ l2 then
      k l2 h
    else
      xbd1 (f_x_lookAround l2 h) fun h_7 =>
      (f_x_tick_L_4 k n) (l2 + (1 : Int32)) h_7
def f_x_tick (l1 : Int32) (h : Hp) : Option (Int32 × Hp) :=
  if l1 < (1 : Int32) then
    some ((-1 : Int32), h)
  else
    if l1 ≤ (50 : Int32) then
      if ((h.1 6 9) + l1) ≤ (1000 : Int32) then
        f_x_tick_L_4 (fun l2_8 h_9 =>
          some (((f_orders_forgetPlan h_9).1 6 9), (f_orders_forgetPlan h_9))
          ) 1000 (0 : Int32) (xI h 6 9 ((h.1 6 9) + l1))
      else
        some ((-2 : Int32), h)
    else
      some ((-1 : Int32), h)
set_option maxRecDepth 100000 in
set_option maxHeartbeats 4000000 in
theorem f_x_tick_L_4_ok {X : XCtx} (hX : XOk X RX4 cX4_tick 3 4 39) {r : Int32} {h' : Hp} (hR : XR X (some .int) (some (.int r)) h')    (k : Int32 → Hp → Option (Int32 × Hp))  (hk : ∀ (l2 : Int32) (h : Hp), k l2 h = some (r, h') → XW X 68 [(0, .ref 0)] [] h) : ∀ (n : Nat) (l2 : Int32) (h : Hp), f_x_tick_L_4 k n l2 h = some (r, h') → XW X 46 [(0, .ref 0), (2, .int l2)] [] h := by
  intro n
  induction n with
  | zero => intro l2 h hf; cases hf
  | succ n ih =>
    intro l2 h hf
    rw [f_x_tick_L_4] at hf
    refine Xblk hX pkX4_ok [.iload_n 2, .aload_n 0, .getfield 23, .getfield 124] (pc' := 54) (ls' := [(0, .ref 0), (2, .int l2)]) (st' := [.int (h.1 6 7), .int l2]) (h' := h) (g := true) (by decide +kernel) rfl rfl rfl ?_
    refine Xbr hX (.if_icmp .ge (14)) (tgt := 68) (P := (h.1 6 7) ≤ l2) (r := []) (by decide +kernel) rfl (by decide) (fun hc_5 => ?_) (fun hc_5 => ?_)
    · replace hf := xif_t hc_5 hf
      refine XW.pick [0] (ls' := [(0, .ref 0)]) rfl ?_
      exact hk l2 h hf
    · replace hf := xif_f hc_5 hf
      refine Xblk hX pkX4_ok [.aload_n 0, .iload_n 2] (pc' := 59) (ls' := [(0, .ref 0), (2, .int l2)]) (st' := [.int l2, .ref 0]) (h' := h) (g := true) (by decide +kernel) rfl rfl rfl ?_
      obtain ⟨h_7, hc_6, hf⟩ := xbd1_inv hf
      refine XcallV hX (mt_x_lookAround l2 h hc_6) (rest := []) (by decide) (by decide) xm_X4_lookAround xi_X4_lookAround xs_X4_lookAround xl_RX4_130 (by decide) (xsh_0) rfl rfl rfl (Nat.le_of_ble_eq_true rfl) (by decide +kernel) ?_
      show XW X 62 [(0, .ref 0), (2, .int l2)] [] h_7
      refine Xblk hX pkX4_ok [.iinc 2 1] (pc' := 65) (ls' := [(2, .int (l2 + (1 : Int32))), (0, .ref 0)]) (st' := []) (h' := h_7) (g := true) (by decide +kernel) rfl rfl rfl ?_
      refine Xgoto hX (-19) 46 (by decide +kernel) (by decide) ?_
      refine XW.pick [1, 0] (ls' := [(0, .ref 0), (2, .int (l2 + (1 : Int32)))]) rfl ?_
      exact ih (l2 + (1 : Int32)) h_7 hf
set_option maxRecDepth 100000 in
set_option maxHeartbeats 4000000 in
theorem mt_x_tick (l1 : Int32) (h : Hp) {r : Int32} {h' : Hp} (hf : f_x_tick l1 h = some (r, h')) : MT 4 39 yX4_tick cX4_tick 3 (some .int) [.ref 0, .int l1] h (some (.int r)) h' := by
  refine MT.of (by decide +kernel) (Nat.le_of_ble_eq_true rfl) fun X hX hR => ?_
  unfold f_x_tick at hf
  refine Xblk hX pkX4_ok [.iload_n 1, .iconst 1] (pc' := 2) (ls' := [(0, .ref 0), (1, .int l1)]) (st' := [.int (1 : Int32), .int l1]) (h' := h) (g := true) (by decide +kernel) rfl rfl rfl ?_
  refine Xbr hX (.if_icmp .lt (9)) (tgt := 11) (P := l1 < (1 : Int32)) (r := []) (by decide +kernel) rfl (by decide) (fun hc_1 => ?_) (fun hc_1 => ?_)
  · replace hf := xif_t hc_1 hf
    refine Xblk hX pkX4_ok [.iconst (-1)] (pc' := 12) (ls' := [(0, .ref 0), (1, .int l1)]) (st' := [.int (-1 : Int32)]) (h' := h) (g := true) (by decide +kernel) rfl rfl rfl ?_
    exact XrI2 hX hR hf (by decide +kernel)
  · replace hf := xif_f hc_1 hf
    refine Xblk hX pkX4_ok [.iload_n 1, .bipush 50] (pc' := 8) (ls' := [(0, .ref 0), (1, .int l1)]) (st' := [.int (50 : Int32), .int l1]) (h' := h) (g := true) (by decide +kernel) rfl rfl rfl ?_
    refine Xbr hX (.if_icmp .le (5)) (tgt := 13) (P := l1 ≤ (50 : Int32)) (r := []) (by decide +kernel) rfl (by decide) (fun hc_2 => ?_) (fun hc_2 => ?_)
    · replace hf := xif_t hc_2 hf
      refine Xblk hX pkX4_ok [.aload_n 0, .getfield 23, .getfield 180, .iload_n 1, .iadd, .sipush 1000] (pc' := 25) (ls' := [(0, .ref 0), (1, .int l1)]) (st' := [.int (1000 : Int32), .int ((h.1 6 9) + l1)]) (h' := h) (g := true) (by decide +kernel) rfl rfl rfl ?_
      refine Xbr hX (.if_icmp .le (6)) (tgt := 31) (P := ((h.1 6 9) + l1) ≤ (1000 : Int32)) (r := []) (by decide +kernel) rfl (by decide) (fun hc_3 => ?_) (fun hc_3 => ?_)
      · replace hf := xif_t hc_3 hf
        refine Xblk hX pkX4_ok [.aload_n 0, .getfield 23, .dup, .getfield 180, .iload_n 1, .iadd, .putfield 180, .iconst 0, .istore_n 2] (pc' := 46) (ls' := [(2, .int (0 : Int32)), (0, .ref 0), (1, .int l1)]) (st' := []) (h' := (xI h 6 9 ((h.1 6 9) + l1))) (g := true) (by decide +kernel) rfl rfl rfl ?_
        refine XW.pick [1, 0] (ls' := [(0, .ref 0), (2, .int (0 : Int32))]) rfl ?_
        refine f_x_tick_L_4_ok hX hR  _  (fun l2_8 h_9 hf => ?_) 1000 (0 : Int32) (xI h 6 9 ((h.1 6 9) + l1)) hf
        refine Xblk hX pkX4_ok [.aload_n 0, .getfield 41] (pc' := 72) (ls' := [(0, .ref 0)]) (st' := [.ref 30]) (h' := h_9) (g := true) (by decide +kernel) rfl rfl rfl ?_
        refine XcallV hX (mt_orders_forgetPlan  h_9) (rest := []) (by decide) (by decide) xm_X2_forgetPlan xi_X2_forgetPlan xs_X2_forgetPlan xl_RX4_104 (by decide) (xsh_30) rfl rfl rfl (Nat.le_of_ble_eq_true rfl) (by decide +kernel) ?_
        show XW X 75 [(0, .ref 0)] [] (f_orders_forgetPlan h_9)
        refine Xblk hX pkX4_ok [.aload_n 0, .getfield 23, .getfield 180] (pc' := 82) (ls' := [(0, .ref 0)]) (st' := [.int ((f_orders_forgetPlan h_9).1 6 9)]) (h' := (f_orders_forgetPlan h_9)) (g := true) (by decide +kernel) rfl rfl rfl ?_
        exact XrI2 hX hR hf (by decide +kernel)
      · replace hf := xif_f hc_3 hf
        refine Xblk hX pkX4_ok [.bipush (-2)] (pc' := 30) (ls' := [(0, .ref 0), (1, .int l1)]) (st' := [.int (-2 : Int32)]) (h' := h) (g := true) (by decide +kernel) rfl rfl rfl ?_
        exact XrI2 hX hR hf (by decide +kernel)
    · replace hf := xif_f hc_2 hf
      refine Xblk hX pkX4_ok [.iconst (-1)] (pc' := 12) (ls' := [(0, .ref 0), (1, .int l1)]) (st' := [.int (-1 : Int32)]) (h' := h) (g := true) (by decide +kernel) rfl rfl rfl ?_
      exact XrI2 hX hR hf (by decide +kernel)
def f_x_line (l1 : Int32) (l2 : Int32) (h : Hp) : Option (Int32) :=
  if l1 < (0 : Int32) then
    some (-1 : Int32)
  else
    if (h.1 6 8) ≤ l1 then
      some (-1 : Int32)
    else
      if l2 < (0 : Int32) then
        some (-1 : Int32)
      else
        if l2 < (5 : Int32) then
          xgd (xin (((5 : Int32) * l1) + l2) 500 && true) <|
          some (h.1 12 (((5 : Int32) * l1) + l2).toNatClampNeg)
        else
          some (-1 : Int32)
set_option maxRecDepth 100000 in
set_option maxHeartbeats 4000000 in
theorem mt_x_line (l1 : Int32) (l2 : Int32) (h : Hp) {r : Int32} (hf : f_x_line l1 l2 h = some r) : MT 0 39 yX4_line cX4_line 3 (some .int) [.ref 0, .int l1, .int l2] h (some (.int r)) h := by
  refine MT.of (by decide +kernel) (Nat.le_of_ble_eq_true rfl) fun X hX hR => ?_
  unfold f_x_line at hf
  refine Xblk hX pkX4_ok [.iload_n 1] (pc' := 1) (ls' := [(0, .ref 0), (1, .int l1), (2, .int l2)]) (st' := [.int l1]) (h' := h) (g := true) (by decide +kernel) rfl rfl rfl ?_
  refine Xbr hX (.ifCond .lt (23)) (tgt := 24) (P := l1 < (0 : Int32)) (r := []) (by decide +kernel) rfl (by decide) (fun hc_1 => ?_) (fun hc_1 => ?_)
  · replace hf := xif_t hc_1 hf
    refine Xblk hX pkX4_ok [.iconst (-1)] (pc' := 25) (ls' := [(0, .ref 0), (1, .int l1), (2, .int l2)]) (st' := [.int (-1 : Int32)]) (h' := h) (g := true) (by decide +kernel) rfl rfl rfl ?_
    exact XrI1 hX hR hf (by decide +kernel)
  · replace hf := xif_f hc_1 hf
    refine Xblk hX pkX4_ok [.iload_n 1, .aload_n 0, .getfield 23, .getfield 170] (pc' := 12) (ls' := [(0, .ref 0), (1, .int l1), (2, .int l2)]) (st' := [.int (h.1 6 8), .int l1]) (h' := h) (g := true) (by decide +kernel) rfl rfl rfl ?_
    refine Xbr hX (.if_icmp .ge (12)) (tgt := 24) (P := (h.1 6 8) ≤ l1) (r := []) (by decide +kernel) rfl (by decide) (fun hc_2 => ?_) (fun hc_2 => ?_)
    · replace hf := xif_t hc_2 hf
      refine Xblk hX pkX4_ok [.iconst (-1)] (pc' := 25) (ls' := [(0, .ref 0), (1, .int l1), (2, .int l2)]) (st' := [.int (-1 : Int32)]) (h' := h) (g := true) (by decide +kernel) rfl rfl rfl ?_
      exact XrI1 hX hR hf (by decide +kernel)
    · replace hf := xif_f hc_2 hf
      refine Xblk hX pkX4_ok [.iload_n 2] (pc' := 16) (ls' := [(0, .ref 0), (1, .int l1), (2, .int l2)]) (st' := [.int l2]) (h' := h) (g := true) (by decide +kernel) rfl rfl rfl ?_
      refine Xbr hX (.ifCond .lt (8)) (tgt := 24) (P := l2 < (0 : Int32)) (r := []) (by decide +kernel) rfl (by decide) (fun hc_3 => ?_) (fun hc_3 => ?_)
      · replace hf := xif_t hc_3 hf
        refine Xblk hX pkX4_ok [.iconst (-1)] (pc' := 25) (ls' := [(0, .ref 0), (1, .int l1), (2, .int l2)]) (st' := [.int (-1 : Int32)]) (h' := h) (g := true) (by decide +kernel) rfl rfl rfl ?_
        exact XrI1 hX hR hf (by decide +kernel)
      · replace hf := xif_f hc_3 hf
        refine Xblk hX pkX4_ok [.iload_n 2, .iconst 5] (pc' := 21) (ls' := [(0, .ref 0), (1, .int l1), (2, .int l2)]) (st' := [.int (5 : Int32), .int l2]) (h' := h) (g := true) (by decide +kernel) rfl rfl rfl ?_
        refine Xbr hX (.if_icmp .lt (5)) (tgt := 26) (P := l2 < (5 : Int32)) (r := []) (by decide +kernel) rfl (by decide) (fun hc_4 => ?_) (fun hc_4 => ?_)
        · replace hf := xif_t hc_4 hf
          obtain ⟨hg, hf⟩ := xgd_inv hf
          refine Xblk hX pkX4_ok [.aload_n 0, .getfield 23, .getfield 183, .iconst 5, .iload_n 1, .imul, .iload_n 2, .iadd, .iaload] (pc' := 39) (ls' := [(0, .ref 0), (1, .int l1), (2, .int l2)]) (st' := [.int (h.1 12 (((5 : Int32) * l1) + l2).toNatClampNeg)]) (h' := h) (g := (xin (((5 : Int32) * l1) + l2) 500 && true)) (by decide +kernel) rfl rfl hg ?_
          exact XrI1 hX hR hf (by decide +kernel)
        · replace hf := xif_f hc_4 hf
          refine Xblk hX pkX4_ok [.iconst (-1)] (pc' := 25) (ls' := [(0, .ref 0), (1, .int l1), (2, .int l2)]) (st' := [.int (-1 : Int32)]) (h' := h) (g := true) (by decide +kernel) rfl rfl rfl ?_
          exact XrI1 hX hR hf (by decide +kernel)
def f_x_age (l1 : Int32) (l2 : Int32) (h : Hp) : Option (Int32) :=
  if (f_x_isCarrier l1 h) = (0 : Int32) then
    some (-1 : Int32)
  else
    if (f_hall_has l2 h) = (0 : Int32) then
      some (-1 : Int32)
    else
      xgd (xin (((64 : Int32) * l1) + l2) 128 && true) <|
      some (if (h.1 11 (((64 : Int32) * l1) + l2).toNatClampNeg) = (-1 : Int32) then (-9 : Int32) else ((h.1 6 9) - (h.1 11 (((64 : Int32) * l1) + l2).toNatClampNeg)))
set_option maxRecDepth 100000 in
set_option maxHeartbeats 4000000 in
theorem mt_x_age (l1 : Int32) (l2 : Int32) (h : Hp) {r : Int32} (hf : f_x_age l1 l2 h = some r) : MT 1 39 yX4_age cX4_age 4 (some .int) [.ref 0, .int l1, .int l2] h (some (.int r)) h := by
  refine MT.of (by decide +kernel) (Nat.le_of_ble_eq_true rfl) fun X hX hR => ?_
  unfold f_x_age at hf
  refine Xblk hX pkX4_ok [.aload_n 0, .iload_n 1] (pc' := 2) (ls' := [(0, .ref 0), (1, .int l1), (2, .int l2)]) (st' := [.int l1, .ref 0]) (h' := h) (g := true) (by decide +kernel) rfl rfl rfl ?_
  refine XcallV hX (mt_x_isCarrier l1 h) (rest := []) (by decide) (by decide) xm_X4_isCarrier xi_X4_isCarrier xs_X4_isCarrier xl_RX4_143 (by decide) (xsh_0) rfl rfl rfl (Nat.le_of_ble_eq_true rfl) (by decide +kernel) ?_
  show XW X 5 [(0, .ref 0), (1, .int l1), (2, .int l2)] [.int (f_x_isCarrier l1 h)] h
  refine Xbr hX (.ifCond .eq (14)) (tgt := 19) (P := (f_x_isCarrier l1 h) = (0 : Int32)) (r := []) (by decide +kernel) rfl (by decide) (fun hc_1 => ?_) (fun hc_1 => ?_)
  · replace hf := xif_t hc_1 hf
    refine Xblk hX pkX4_ok [.iconst (-1)] (pc' := 20) (ls' := [(0, .ref 0), (1, .int l1), (2, .int l2)]) (st' := [.int (-1 : Int32)]) (h' := h) (g := true) (by decide +kernel) rfl rfl rfl ?_
    exact XrI1 hX hR hf (by decide +kernel)
  · replace hf := xif_f hc_1 hf
    refine Xblk hX pkX4_ok [.aload_n 0, .getfield 16, .iload_n 2] (pc' := 13) (ls' := [(0, .ref 0), (1, .int l1), (2, .int l2)]) (st' := [.int l2, .ref 2]) (h' := h) (g := true) (by decide +kernel) rfl rfl rfl ?_
    refine XcallV hX (mt_hall_has l2 h) (rest := []) (by decide) (by decide) xm_X1_has xi_X1_has xs_X1_has xl_RX4_76 (by decide) (xsh_2) rfl rfl rfl (Nat.le_of_ble_eq_true rfl) (by decide +kernel) ?_
    show XW X 16 [(0, .ref 0), (1, .int l1), (2, .int l2)] [.int (f_hall_has l2 h)] h
    refine XbrN hX (.ifCond .ne (5)) (tgt := 21) (P := (f_hall_has l2 h) = (0 : Int32)) (r := []) (by decide +kernel) rfl (by decide) (fun hc_2 => ?_) (fun hc_2 => ?_)
    · replace hf := xif_t hc_2 hf
      refine Xblk hX pkX4_ok [.iconst (-1)] (pc' := 20) (ls' := [(0, .ref 0), (1, .int l1), (2, .int l2)]) (st' := [.int (-1 : Int32)]) (h' := h) (g := true) (by decide +kernel) rfl rfl rfl ?_
      exact XrI1 hX hR hf (by decide +kernel)
    · replace hf := xif_f hc_2 hf
      obtain ⟨hg, hf⟩ := xgd_inv hf
      refine Xblk hX pkX4_ok [.aload_n 0, .getfield 23, .getfield 186, .bipush 64, .iload_n 1, .imul, .iload_n 2, .iadd, .iaload, .istore_n 3, .iload_n 3, .iconst (-1)] (pc' := 38) (ls' := [(3, .int (h.1 11 (((64 : Int32) * l1) + l2).toNatClampNeg)), (0, .ref 0), (1, .int l1), (2, .int l2)]) (st' := [.int (-1 : Int32), .int (h.1 11 (((64 : Int32) * l1) + l2).toNatClampNeg)]) (h' := h) (g := (xin (((64 : Int32) * l1) + l2) 128 && true)) (by decide +kernel) rfl rfl hg ?_
      have kJ_5 : ∀ (w_4 : Int32), w_4 = (if (h.1 11 (((64 : Int32) * l1) + l2).toNatClampNeg) = (-1 : Int32) then (-9 : Int32) else ((h.1 6 9) - (h.1 11 (((64 : Int32) * l1) + l2).toNatClampNeg))) → XW X 55 [] [.int w_4] h := by
        intro w_4 ew_4
        subst ew_4
        exact XrI1 hX hR hf (by decide +kernel)
      refine XbrN hX (.if_icmp .ne (8)) (tgt := 46) (P := (h.1 11 (((64 : Int32) * l1) + l2).toNatClampNeg) = (-1 : Int32)) (r := []) (by decide +kernel) rfl (by decide) (fun hc_3 => ?_) (fun hc_3 => ?_)
      · refine Xblk hX pkX4_ok [.bipush (-9)] (pc' := 43) (ls' := [(3, .int (h.1 11 (((64 : Int32) * l1) + l2).toNatClampNeg)), (0, .ref 0), (1, .int l1), (2, .int l2)]) (st' := [.int (-9 : Int32)]) (h' := h) (g := true) (by decide +kernel) rfl rfl rfl ?_
        refine Xgoto hX (12) 55 (by decide +kernel) (by decide) ?_
        refine XW.pick [] (ls' := []) rfl ?_
        exact kJ_5 _ (by rw [if_pos hc_3])
      · refine Xblk hX pkX4_ok [.aload_n 0, .getfield 23, .getfield 180, .iload_n 3, .isub] (pc' := 55) (ls' := [(3, .int (h.1 11 (((64 : Int32) * l1) + l2).toNatClampNeg)), (0, .ref 0), (1, .int l1), (2, .int l2)]) (st' := [.int ((h.1 6 9) - (h.1 11 (((64 : Int32) * l1) + l2).toNatClampNeg))]) (h' := h) (g := true) (by decide +kernel) rfl rfl rfl ?_
        refine XW.pick [] (ls' := []) rfl ?_
        exact kJ_5 _ (by rw [if_neg hc_3])
def f_x_chargeMove  (h : Hp) : Int32 × Hp :=
  ((1 : Int32), (xL h 0 9 ((h.2 0 9) + (1 : Int64))))
set_option maxRecDepth 100000 in
set_option maxHeartbeats 4000000 in
theorem mt_x_chargeMove  (h : Hp) : MT 0 39 yX4_chargeMove cX4_chargeMove 1 (some .int) [.ref 0] h (some (.int (f_x_chargeMove h).1)) (f_x_chargeMove h).2 := by
  obtain ⟨o, hf⟩ : ∃ o, f_x_chargeMove h = o := ⟨_, rfl⟩
  rw [hf]
  refine MT.of (by decide +kernel) (Nat.le_of_ble_eq_true rfl) fun X hX hR => ?_
  unfold f_x_chargeMove at hf
  refine Xblk hX pkX4_ok [.aload_n 0, .dup, .getfield 252, .lconst 1, .ladd, .putfield 252, .iconst 1] (pc' := 11) (ls' := [(0, .ref 0)]) (st' := [.int (1 : Int32)]) (h' := (xL h 0 9 ((h.2 0 9) + (1 : Int64)))) (g := true) (by decide +kernel) rfl rfl rfl ?_
  subst hf
  exact XretI hX hR (by decide +kernel)
def f_x_chargeGo (l1 : Int32) (h : Hp) : Option (Int32 × Hp) :=
  xgd (xin l1 2 && true) <|
  some (((f_x_chargeMove (xL h 0 9 ((h.2 0 9) + (10 : Int64)))).1 + ((2 : Int32) * ((f_x_chargeMove (xL h 0 9 ((h.2 0 9) + (10 : Int64)))).2.1 10 l1.toNatClampNeg))), (f_x_chargeMove (xL h 0 9 ((h.2 0 9) + (10 : Int64)))).2)
set_option maxRecDepth 100000 in
set_option maxHeartbeats 4000000 in
theorem mt_x_chargeGo (l1 : Int32) (h : Hp) {r : Int32} {h' : Hp} (hf : f_x_chargeGo l1 h = some (r, h')) : MT 1 39 yX4_chargeGo cX4_chargeGo 2 (some .int) [.ref 0, .int l1] h (some (.int r)) h' := by
  refine MT.of (by decide +kernel) (Nat.le_of_ble_eq_true rfl) fun X hX hR => ?_
  unfold f_x_chargeGo at hf
  refine Xblk hX pkX4_ok [.aload_n 0, .dup, .getfield 252, .ldc2_w 292, .ladd, .putfield 252, .aload_n 0] (pc' := 13) (ls' := [(0, .ref 0), (1, .int l1)]) (st' := [.ref 0]) (h' := (xL h 0 9 ((h.2 0 9) + (10 : Int64)))) (g := true) (by decide +kernel) rfl rfl rfl ?_
  refine XcallV hX (mt_x_chargeMove  (xL h 0 9 ((h.2 0 9) + (10 : Int64)))) (rest := []) (by decide) (by decide) xm_X4_chargeMove xi_X4_chargeMove xs_X4_chargeMove xl_RX4_189 (by decide) (xsh_0) rfl rfl rfl (Nat.le_of_ble_eq_true rfl) (by decide +kernel) ?_
  show XW X 16 [(0, .ref 0), (1, .int l1)] [.int (f_x_chargeMove (xL h 0 9 ((h.2 0 9) + (10 : Int64)))).1] (f_x_chargeMove (xL h 0 9 ((h.2 0 9) + (10 : Int64)))).2
  obtain ⟨hg, hf⟩ := xgd_inv hf
  refine Xblk hX pkX4_ok [.iconst 2, .aload_n 0, .getfield 23, .getfield 149, .iload_n 1, .iaload, .imul, .iadd] (pc' := 28) (ls' := [(0, .ref 0), (1, .int l1)]) (st' := [.int ((f_x_chargeMove (xL h 0 9 ((h.2 0 9) + (10 : Int64)))).1 + ((2 : Int32) * ((f_x_chargeMove (xL h 0 9 ((h.2 0 9) + (10 : Int64)))).2.1 10 l1.toNatClampNeg)))]) (h' := (f_x_chargeMove (xL h 0 9 ((h.2 0 9) + (10 : Int64)))).2) (g := (xin l1 2 && true)) (by decide +kernel) rfl rfl hg ?_
  exact XrI2 hX hR hf (by decide +kernel)
def f_x_chargeWait (l1 : Int32) (h : Hp) : Option (Int32 × Hp) :=
  xgd (xin l1 2 && true) <|
  some (((f_x_chargeMove (xL h 0 9 ((h.2 0 9) + (100 : Int64)))).1 + (if ((f_x_chargeMove (xL h 0 9 ((h.2 0 9) + (100 : Int64)))).2.1 10 l1.toNatClampNeg) ≤ (0 : Int32) then (0 : Int32) else (1 : Int32))), (f_x_chargeMove (xL h 0 9 ((h.2 0 9) + (100 : Int64)))).2)
set_option maxRecDepth 100000 in
set_option maxHeartbeats 4000000 in
theorem mt_x_chargeWait (l1 : Int32) (h : Hp) {r : Int32} {h' : Hp} (hf : f_x_chargeWait l1 h = some (r, h')) : MT 1 39 yX4_chargeWait cX4_chargeWait 2 (some .int) [.ref 0, .int l1] h (some (.int r)) h' := by
  refine MT.of (by decide +kernel) (Nat.le_of_ble_eq_true rfl) fun X hX hR => ?_
  unfold f_x_chargeWait at hf
  refine Xblk hX pkX4_ok [.aload_n 0, .dup, .getfield 252, .ldc2_w 294, .ladd, .putfield 252, .aload_n 0] (pc' := 13) (ls' := [(0, .ref 0), (1, .int l1)]) (st' := [.ref 0]) (h' := (xL h 0 9 ((h.2 0 9) + (100 : Int64)))) (g := true) (by decide +kernel) rfl rfl rfl ?_
  refine XcallV hX (mt_x_chargeMove  (xL h 0 9 ((h.2 0 9) + (100 : Int64)))) (rest := []) (by decide) (by decide) xm_X4_chargeMove xi_X4_chargeMove xs_X4_chargeMove xl_RX4_189 (by decide) (xsh_0) rfl rfl rfl (Nat.le_of_ble_eq_true rfl) (by decide +kernel) ?_
  show XW X 16 [(0, .ref 0), (1, .int l1)] [.int (f_x_chargeMove (xL h 0 9 ((h.2 0 9) + (100 : Int64)))).1] (f_x_chargeMove (xL h 0 9 ((h.2 0 9) + (100 : Int64)))).2
  obtain ⟨hg, hf⟩ := xgd_inv hf
  refine Xblk hX pkX4_ok [.aload_n 0, .getfield 23, .getfield 149, .iload_n 1, .iaload] (pc' := 25) (ls' := [(0, .ref 0), (1, .int l1)]) (st' := [.int ((f_x_chargeMove (xL h 0 9 ((h.2 0 9) + (100 : Int64)))).2.1 10 l1.toNatClampNeg), .int (f_x_chargeMove (xL h 0 9 ((h.2 0 9) + (100 : Int64)))).1]) (h' := (f_x_chargeMove (xL h 0 9 ((h.2 0 9) + (100 : Int64)))).2) (g := (xin l1 2 && true)) (by decide +kernel) rfl rfl hg ?_
  have kJ_3 : ∀ (w_2 : Int32), w_2 = (if ((f_x_chargeMove (xL h 0 9 ((h.2 0 9) + (100 : Int64)))).2.1 10 l1.toNatClampNeg) ≤ (0 : Int32) then (0 : Int32) else (1 : Int32)) → XW X 33 [] [.int w_2, .int (f_x_chargeMove (xL h 0 9 ((h.2 0 9) + (100 : Int64)))).1] (f_x_chargeMove (xL h 0 9 ((h.2 0 9) + (100 : Int64)))).2 := by
    intro w_2 ew_2
    subst ew_2
    refine Xblk hX pkX4_ok [.iadd] (pc' := 34) (ls' := []) (st' := [.int ((f_x_chargeMove (xL h 0 9 ((h.2 0 9) + (100 : Int64)))).1 + (if ((f_x_chargeMove (xL h 0 9 ((h.2 0 9) + (100 : Int64)))).2.1 10 l1.toNatClampNeg) ≤ (0 : Int32) then (0 : Int32) else (1 : Int32)))]) (h' := (f_x_chargeMove (xL h 0 9 ((h.2 0 9) + (100 : Int64)))).2) (g := true) (by decide +kernel) rfl rfl rfl ?_
    exact XrI2 hX hR hf (by decide +kernel)
  refine Xbr hX (.ifCond .le (7)) (tgt := 32) (P := ((f_x_chargeMove (xL h 0 9 ((h.2 0 9) + (100 : Int64)))).2.1 10 l1.toNatClampNeg) ≤ (0 : Int32)) (r := [.int (f_x_chargeMove (xL h 0 9 ((h.2 0 9) + (100 : Int64)))).1]) (by decide +kernel) rfl (by decide) (fun hc_1 => ?_) (fun hc_1 => ?_)
  · refine Xblk hX pkX4_ok [.iconst 0] (pc' := 33) (ls' := [(0, .ref 0), (1, .int l1)]) (st' := [.int (0 : Int32), .int (f_x_chargeMove (xL h 0 9 ((h.2 0 9) + (100 : Int64)))).1]) (h' := (f_x_chargeMove (xL h 0 9 ((h.2 0 9) + (100 : Int64)))).2) (g := true) (by decide +kernel) rfl rfl rfl ?_
    refine XW.pick [] (ls' := []) rfl ?_
    exact kJ_3 _ (by rw [if_pos hc_1])
  · refine Xblk hX pkX4_ok [.iconst 1] (pc' := 29) (ls' := [(0, .ref 0), (1, .int l1)]) (st' := [.int (1 : Int32), .int (f_x_chargeMove (xL h 0 9 ((h.2 0 9) + (100 : Int64)))).1]) (h' := (f_x_chargeMove (xL h 0 9 ((h.2 0 9) + (100 : Int64)))).2) (g := true) (by decide +kernel) rfl rfl rfl ?_
    refine Xgoto hX (4) 33 (by decide +kernel) (by decide) ?_
    refine XW.pick [] (ls' := []) rfl ?_
    exact kJ_3 _ (by rw [if_neg hc_1])
def f_x_chargeYield (l1 : Int32) (h : Hp) : Option (Int32 × Hp) :=
  xbd2 (f_x_chargeWait l1 (xL h 0 9 ((h.2 0 9) + (1000 : Int64)))) fun v_3 h_2 =>
  some (((2 : Int32) * v_3), h_2)
set_option maxRecDepth 100000 in
set_option maxHeartbeats 4000000 in
theorem mt_x_chargeYield (l1 : Int32) (h : Hp) {r : Int32} {h' : Hp} (hf : f_x_chargeYield l1 h = some (r, h')) : MT 2 39 yX4_chargeYield cX4_chargeYield 2 (some .int) [.ref 0, .int l1] h (some (.int r)) h' := by
  refine MT.of (by decide +kernel) (Nat.le_of_ble_eq_true rfl) fun X hX hR => ?_
  unfold f_x_chargeYield at hf
  refine Xblk hX pkX4_ok [.aload_n 0, .dup, .getfield 252, .ldc2_w 296, .ladd, .putfield 252, .iconst 2, .aload_n 0, .iload_n 1] (pc' := 15) (ls' := [(0, .ref 0), (1, .int l1)]) (st' := [.int l1, .ref 0, .int (2 : Int32)]) (h' := (xL h 0 9 ((h.2 0 9) + (1000 : Int64)))) (g := true) (by decide +kernel) rfl rfl rfl ?_
  obtain ⟨v_3, h_2, hc_1, hf⟩ := xbd2_inv hf
  refine XcallV hX (mt_x_chargeWait l1 (xL h 0 9 ((h.2 0 9) + (1000 : Int64))) hc_1) (rest := [.int (2 : Int32)]) (by decide) (by decide) xm_X4_chargeWait xi_X4_chargeWait xs_X4_chargeWait xl_RX4_196 (by decide) (xsh_0) rfl rfl rfl (Nat.le_of_ble_eq_true rfl) (by decide +kernel) ?_
  show XW X 18 [(0, .ref 0), (1, .int l1)] [.int v_3, .int (2 : Int32)] h_2
  refine Xblk hX pkX4_ok [.imul] (pc' := 19) (ls' := [(0, .ref 0), (1, .int l1)]) (st' := [.int ((2 : Int32) * v_3)]) (h' := h_2) (g := true) (by decide +kernel) rfl rfl rfl ?_
  exact XrI2 hX hR hf (by decide +kernel)
def f_x_chargeBack (l1 : Int32) (h : Hp) : Option (Int32 × Hp) :=
  xbd2 (f_x_chargeGo l1 (xL h 0 9 ((h.2 0 9) + (10000 : Int64)))) fun v_3 h_2 =>
  some ((v_3 + (3 : Int32)), h_2)
set_option maxRecDepth 100000 in
set_option maxHeartbeats 4000000 in
theorem mt_x_chargeBack (l1 : Int32) (h : Hp) {r : Int32} {h' : Hp} (hf : f_x_chargeBack l1 h = some (r, h')) : MT 2 39 yX4_chargeBack cX4_chargeBack 2 (some .int) [.ref 0, .int l1] h (some (.int r)) h' := by
  refine MT.of (by decide +kernel) (Nat.le_of_ble_eq_true rfl) fun X hX hR => ?_
  unfold f_x_chargeBack at hf
  refine Xblk hX pkX4_ok [.aload_n 0, .dup, .getfield 252, .ldc2_w 298, .ladd, .putfield 252, .aload_n 0, .iload_n 1] (pc' := 14) (ls' := [(0, .ref 0), (1, .int l1)]) (st' := [.int l1, .ref 0]) (h' := (xL h 0 9 ((h.2 0 9) + (10000 : Int64)))) (g := true) (by decide +kernel) rfl rfl rfl ?_
  obtain ⟨v_3, h_2, hc_1, hf⟩ := xbd2_inv hf
  refine XcallV hX (mt_x_chargeGo l1 (xL h 0 9 ((h.2 0 9) + (10000 : Int64))) hc_1) (rest := []) (by decide) (by decide) xm_X4_chargeGo xi_X4_chargeGo xs_X4_chargeGo xl_RX4_192 (by decide) (xsh_0) rfl rfl rfl (Nat.le_of_ble_eq_true rfl) (by decide +kernel) ?_
  show XW X 17 [(0, .ref 0), (1, .int l1)] [.int v_3] h_2
  refine Xblk hX pkX4_ok [.iconst 3, .iadd] (pc' := 19) (ls' := [(0, .ref 0), (1, .int l1)]) (st' := [.int (v_3 + (3 : Int32))]) (h' := h_2) (g := true) (by decide +kernel) rfl rfl rfl ?_
  exact XrI2 hX hR hf (by decide +kernel)
