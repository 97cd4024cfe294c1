def f_x_chargeRide (l1 : Int32) (h : Hp) : Option (Int32 × Hp) :=
  xgd (xin l1 2 && true) <|
  some ((((f_x_chargeMove (xL h 0 9 ((h.2 0 9) + (100000 : Int64)))).1 + (4 : Int32)) + ((f_x_chargeMove (xL h 0 9 ((h.2 0 9) + (100000 : Int64)))).2.1 10 l1.toNatClampNeg)), (f_x_chargeMove (xL h 0 9 ((h.2 0 9) + (100000 : Int64)))).2)
set_option maxRecDepth 100000 in
set_option maxHeartbeats 4000000 in
theorem mt_x_chargeRide (l1 : Int32) (h : Hp) {r : Int32} {h' : Hp} (hf : f_x_chargeRide l1 h = some (r, h')) : MT 1 39 yX4_chargeRide cX4_chargeRide 2 (some .int) [.ref 0, .int l1] h (some (.int r)) h' := by
  refine MT.of (by decide +kernel) (Nat.le_of_ble_eq_true rfl) fun X hX hR => ?_
  unfold f_x_chargeRide at hf
  refine Xblk hX pkX4_ok [.aload_n 0, .dup, .getfield 252, .ldc2_w 300, .ladd, .putfield 252, .aload_n 0] (pc' := 13) (ls' := [(0, .ref 0), (1, .int l1)]) (st' := [.ref 0]) (h' := (xL h 0 9 ((h.2 0 9) + (100000 : Int64)))) (g := true) (by decide +kernel) rfl rfl rfl ?_
  refine XcallV hX (mt_x_chargeMove  (xL h 0 9 ((h.2 0 9) + (100000 : Int64)))) (rest := []) (by decide) (by decide) xm_X4_chargeMove xi_X4_chargeMove xs_X4_chargeMove xl_RX4_189 (by decide) (xsh_0) rfl rfl rfl (Nat.le_of_ble_eq_true rfl) (by decide +kernel) ?_
  show XW X 16 [(0, .ref 0), (1, .int l1)] [.int (f_x_chargeMove (xL h 0 9 ((h.2 0 9) + (100000 : Int64)))).1] (f_x_chargeMove (xL h 0 9 ((h.2 0 9) + (100000 : Int64)))).2
  obtain ⟨hg, hf⟩ := xgd_inv hf
  refine Xblk hX pkX4_ok [.iconst 4, .iadd, .aload_n 0, .getfield 23, .getfield 149, .iload_n 1, .iaload, .iadd] (pc' := 28) (ls' := [(0, .ref 0), (1, .int l1)]) (st' := [.int (((f_x_chargeMove (xL h 0 9 ((h.2 0 9) + (100000 : Int64)))).1 + (4 : Int32)) + ((f_x_chargeMove (xL h 0 9 ((h.2 0 9) + (100000 : Int64)))).2.1 10 l1.toNatClampNeg))]) (h' := (f_x_chargeMove (xL h 0 9 ((h.2 0 9) + (100000 : Int64)))).2) (g := (xin l1 2 && true)) (by decide +kernel) rfl rfl hg ?_
  exact XrI2 hX hR hf (by decide +kernel)
def f_x_chargeAsk_L_3  (l1 : Int32) (l2 : Int64) (h : Hp) (k : Int32 → Int32 → Option (Int32 × Hp)) : Nat → Int32 → Int32 → Option (Int32 × Hp)
  | 0, _, _ => none
  | n + 1, l4, l5 =>
    if (h.1 6 6) ≤ l5 then
      k l4 l5
    else
      xgd (xin l5 6 && true) <|
      (f_x_chargeAsk_L_3 l1 l2 h k n) (l4 + ((jushrL l2 (h.1 7 l5.toNatClampNeg)) &&& (1 : Int64)).toInt32) (l5 + (1 : Int32))
def f_x_chargeAsk (l1 : Int32) (h : Hp) : Option (Int32 × Hp) :=
  xbd1 (f_x_seenBy l1 (xL h 0 9 ((h.2 0 9) + (1000000 : Int64)))) fun v_2 =>
  f_x_chargeAsk_L_3 l1 v_2 (xL h 0 9 ((h.2 0 9) + (1000000 : Int64))) (fun l4_5 l5_6 =>
    xbd2 (f_x_chargeWait l1 (xL h 0 9 ((h.2 0 9) + (1000000 : Int64)))) fun v_9 h_8 =>
    some ((v_9 + l4_5), h_8)
    ) 1000 (0 : Int32) (0 : Int32)
set_option maxRecDepth 100000 in
set_option maxHeartbeats 4000000 in
theorem f_x_chargeAsk_L_3_ok {X : XCtx} (hX : XOk X RX4 cX4_chargeAsk 6 3 39) {r : Int32} {h' : Hp} (hR : XR X (some .int) (some (.int r)) h')  (l1 : Int32) (l2 : Int64) (h : Hp) (k : Int32 → Int32 → Option (Int32 × Hp))  (hk : ∀ (l4 : Int32) (l5 : Int32), k l4 l5 = some (r, h') → XW X 62 [(0, .ref 0), (1, .int l1), (4, .int l4)] [] h) : ∀ (n : Nat) (l4 : Int32) (l5 : Int32), f_x_chargeAsk_L_3 l1 l2 h k n l4 l5 = some (r, h') → XW X 24 [(0, .ref 0), (1, .int l1), (2, .long l2), (4, .int l4), (5, .int l5)] [] h := by
  intro n
  induction n with
  | zero => intro l4 l5 hf; cases hf
  | succ n ih =>
    intro l4 l5 hf
    rw [f_x_chargeAsk_L_3] at hf
    refine Xblk hX pkX4_ok [.iload 5, .aload_n 0, .getfield 23, .getfield 114] (pc' := 33) (ls' := [(0, .ref 0), (1, .int l1), (2, .long l2), (4, .int l4), (5, .int l5)]) (st' := [.int (h.1 6 6), .int l5]) (h' := h) (g := true) (by decide +kernel) rfl rfl rfl ?_
    refine Xbr hX (.if_icmp .ge (29)) (tgt := 62) (P := (h.1 6 6) ≤ l5) (r := []) (by decide +kernel) rfl (by decide) (fun hc_4 => ?_) (fun hc_4 => ?_)
    · replace hf := xif_t hc_4 hf
      refine XW.pick [0, 1, 3] (ls' := [(0, .ref 0), (1, .int l1), (4, .int l4)]) rfl ?_
      exact hk l4 l5 hf
    · replace hf := xif_f hc_4 hf
      obtain ⟨hg, hf⟩ := xgd_inv hf
      refine Xblk hX pkX4_ok [.iload 4, .lload_n 2, .aload_n 0, .getfield 23, .getfield 137, .iload 5, .iaload, .lushr, .lconst 1, .land, .l2i, .iadd, .istore 4, .iinc 5 1] (pc' := 59) (ls' := [(5, .int (l5 + (1 : Int32))), (4, .int (l4 + ((jushrL l2 (h.1 7 l5.toNatClampNeg)) &&& (1 : Int64)).toInt32)), (0, .ref 0), (1, .int l1), (2, .long l2)]) (st' := []) (h' := h) (g := (xin l5 6 && true)) (by decide +kernel) rfl rfl hg ?_
      refine Xgoto hX (-35) 24 (by decide +kernel) (by decide) ?_
      refine XW.pick [2, 3, 4, 1, 0] (ls' := [(0, .ref 0), (1, .int l1), (2, .long l2), (4, .int (l4 + ((jushrL l2 (h.1 7 l5.toNatClampNeg)) &&& (1 : Int64)).toInt32)), (5, .int (l5 + (1 : Int32)))]) rfl ?_
      exact ih (l4 + ((jushrL l2 (h.1 7 l5.toNatClampNeg)) &&& (1 : Int64)).toInt32) (l5 + (1 : Int32)) hf
set_option maxRecDepth 100000 in
set_option maxHeartbeats 4000000 in
theorem mt_x_chargeAsk (l1 : Int32) (h : Hp) {r : Int32} {h' : Hp} (hf : f_x_chargeAsk l1 h = some (r, h')) : MT 3 39 yX4_chargeAsk cX4_chargeAsk 6 (some .int) [.ref 0, .int l1] h (some (.int r)) h' := by
  refine MT.of (by decide +kernel) (Nat.le_of_ble_eq_true rfl) fun X hX hR => ?_
  unfold f_x_chargeAsk at hf
  refine Xblk hX pkX4_ok [.aload_n 0, .dup, .getfield 252, .ldc2_w 302, .ladd, .putfield 252, .aload_n 0, .iload_n 1] (pc' := 14) (ls' := [(0, .ref 0), (1, .int l1)]) (st' := [.int l1, .ref 0]) (h' := (xL h 0 9 ((h.2 0 9) + (1000000 : Int64)))) (g := true) (by decide +kernel) rfl rfl rfl ?_
  obtain ⟨v_2, hc_1, hf⟩ := xbd1_inv hf
  refine XcallV hX (mt_x_seenBy l1 (xL h 0 9 ((h.2 0 9) + (1000000 : Int64))) hc_1) (rest := []) (by decide) (by decide) xm_X4_seenBy xi_X4_seenBy xs_X4_seenBy xl_RX4_272 (by decide) (xsh_0) rfl rfl rfl (Nat.le_of_ble_eq_true rfl) (by decide +kernel) ?_
  show XW X 17 [(0, .ref 0), (1, .int l1)] [.long v_2] (xL h 0 9 ((h.2 0 9) + (1000000 : Int64)))
  refine Xblk hX pkX4_ok [.lstore_n 2, .iconst 0, .istore 4, .iconst 0, .istore 5] (pc' := 24) (ls' := [(5, .int (0 : Int32)), (4, .int (0 : Int32)), (2, .long v_2), (0, .ref 0), (1, .int l1)]) (st' := []) (h' := (xL h 0 9 ((h.2 0 9) + (1000000 : Int64)))) (g := true) (by decide +kernel) rfl rfl rfl ?_
  refine XW.pick [3, 4, 2, 1, 0] (ls' := [(0, .ref 0), (1, .int l1), (2, .long v_2), (4, .int (0 : Int32)), (5, .int (0 : Int32))]) rfl ?_
  refine f_x_chargeAsk_L_3_ok hX hR l1 v_2 (xL h 0 9 ((h.2 0 9) + (1000000 : Int64))) _  (fun l4_5 l5_6 hf => ?_) 1000 (0 : Int32) (0 : Int32) hf
  refine Xblk hX pkX4_ok [.aload_n 0, .iload_n 1] (pc' := 64) (ls' := [(0, .ref 0), (1, .int l1), (4, .int l4_5)]) (st' := [.int l1, .ref 0]) (h' := (xL h 0 9 ((h.2 0 9) + (1000000 : Int64)))) (g := true) (by decide +kernel) rfl rfl rfl ?_
  obtain ⟨v_9, h_8, hc_7, hf⟩ := xbd2_inv hf
  refine XcallV hX (mt_x_chargeWait l1 (xL h 0 9 ((h.2 0 9) + (1000000 : Int64))) hc_7) (rest := []) (by decide) (by decide) xm_X4_chargeWait xi_X4_chargeWait xs_X4_chargeWait xl_RX4_196 (by decide) (xsh_0) rfl rfl rfl (Nat.le_of_ble_eq_true rfl) (by decide +kernel) ?_
  show XW X 67 [(0, .ref 0), (1, .int l1), (4, .int l4_5)] [.int v_9] h_8
  refine Xblk hX pkX4_ok [.iload 4, .iadd] (pc' := 70) (ls' := [(0, .ref 0), (1, .int l1), (4, .int l4_5)]) (st' := [.int (v_9 + l4_5)]) (h' := h_8) (g := true) (by decide +kernel) rfl rfl rfl ?_
  exact XrI2 hX hR hf (by decide +kernel)
def f_x_charge (l1 : Int32) (l2 : Int32) (h : Hp) : Option (Int32 × Hp) :=
  if (f_x_isCarrier l2 h) = (0 : Int32) then
    some ((-1 : Int32), h)
  else
    if l1 = (0 : Int32) then
      some ((f_x_chargeMove h).1, (f_x_chargeMove h).2)
    else
      if l1 = (1 : Int32) then
        xbd2 (f_x_chargeGo l2 h) fun v_6 h_5 =>
        some (v_6, h_5)
      else
        if l1 = (2 : Int32) then
          xbd2 (f_x_chargeWait l2 h) fun v_10 h_9 =>
          some (v_10, h_9)
        else
          if l1 = (3 : Int32) then
            xbd2 (f_x_chargeYield l2 h) fun v_14 h_13 =>
            some (v_14, h_13)
          else
            if l1 = (4 : Int32) then
              xbd2 (f_x_chargeBack l2 h) fun v_18 h_17 =>
              some (v_18, h_17)
            else
              if l1 = (5 : Int32) then
                xbd2 (f_x_chargeRide l2 h) fun v_22 h_21 =>
                some (v_22, h_21)
              else
                if l1 = (6 : Int32) then
                  xbd2 (f_x_chargeAsk l2 h) fun v_26 h_25 =>
                  some (v_26, h_25)
                else
                  some ((-1 : Int32), h)
set_option maxRecDepth 100000 in
set_option maxHeartbeats 4000000 in
theorem mt_x_charge (l1 : Int32) (l2 : Int32) (h : Hp) {r : Int32} {h' : Hp} (hf : f_x_charge l1 l2 h = some (r, h')) : MT 4 39 yX4_charge cX4_charge 3 (some .int) [.ref 0, .int l1, .int l2] h (some (.int r)) h' := by
  refine MT.of (by decide +kernel) (Nat.le_of_ble_eq_true rfl) fun X hX hR => ?_
  unfold f_x_charge at hf
  refine Xblk hX pkX4_ok [.aload_n 0, .iload_n 2] (pc' := 2) (ls' := [(0, .ref 0), (1, .int l1), (2, .int l2)]) (st' := [.int l2, .ref 0]) (h' := h) (g := true) (by decide +kernel) rfl rfl rfl ?_
  refine XcallV hX (mt_x_isCarrier l2 h) (rest := []) (by decide) (by decide) xm_X4_isCarrier xi_X4_isCarrier xs_X4_isCarrier xl_RX4_143 (by decide) (xsh_0) rfl rfl rfl (Nat.le_of_ble_eq_true rfl) (by decide +kernel) ?_
  show XW X 5 [(0, .ref 0), (1, .int l1), (2, .int l2)] [.int (f_x_isCarrier l2 h)] h
  refine XbrN hX (.ifCond .ne (5)) (tgt := 10) (P := (f_x_isCarrier l2 h) = (0 : Int32)) (r := []) (by decide +kernel) rfl (by decide) (fun hc_1 => ?_) (fun hc_1 => ?_)
  · replace hf := xif_t hc_1 hf
    refine Xblk hX pkX4_ok [.iconst (-1)] (pc' := 9) (ls' := [(0, .ref 0), (1, .int l1), (2, .int l2)]) (st' := [.int (-1 : Int32)]) (h' := h) (g := true) (by decide +kernel) rfl rfl rfl ?_
    exact XrI2 hX hR hf (by decide +kernel)
  · replace hf := xif_f hc_1 hf
    refine Xblk hX pkX4_ok [.iload_n 1] (pc' := 11) (ls' := [(0, .ref 0), (1, .int l1), (2, .int l2)]) (st' := [.int l1]) (h' := h) (g := true) (by decide +kernel) rfl rfl rfl ?_
    by_cases hc_2 : l1 = (0 : Int32)
    · replace hf := xif_t hc_2 hf
      refine XswAt hX 52 hc_2 (show decode _ _ = .ok (.tableswitch (82) (0) (6) #[41, 46, 52, 58, 64, 70, 76], 41) by decide +kernel) (by decide) (by decide) (o := 41) (by decide) (by decide) ?_
      refine Xblk hX pkX4_ok [.aload_n 0] (pc' := 53) (ls' := [(0, .ref 0), (1, .int l1), (2, .int l2)]) (st' := [.ref 0]) (h' := h) (g := true) (by decide +kernel) rfl rfl rfl ?_
      refine XcallV hX (mt_x_chargeMove  h) (rest := []) (by decide) (by decide) xm_X4_chargeMove xi_X4_chargeMove xs_X4_chargeMove xl_RX4_189 (by decide) (xsh_0) rfl rfl rfl (Nat.le_of_ble_eq_true rfl) (by decide +kernel) ?_
      show XW X 56 [(0, .ref 0), (1, .int l1), (2, .int l2)] [.int (f_x_chargeMove h).1] (f_x_chargeMove h).2
      exact XrI2 hX hR hf (by decide +kernel)
    · replace hf := xif_f hc_2 hf
      by_cases hc_3 : l1 = (1 : Int32)
      · replace hf := xif_t hc_3 hf
        refine XswAt hX 57 hc_3 (show decode _ _ = .ok (.tableswitch (82) (0) (6) #[41, 46, 52, 58, 64, 70, 76], 41) by decide +kernel) (by decide) (by decide) (o := 46) (by decide) (by decide) ?_
        refine Xblk hX pkX4_ok [.aload_n 0, .iload_n 2] (pc' := 59) (ls' := [(0, .ref 0), (1, .int l1), (2, .int l2)]) (st' := [.int l2, .ref 0]) (h' := h) (g := true) (by decide +kernel) rfl rfl rfl ?_
        obtain ⟨v_6, h_5, hc_4, hf⟩ := xbd2_inv hf
        refine XcallV hX (mt_x_chargeGo l2 h hc_4) (rest := []) (by decide) (by decide) xm_X4_chargeGo xi_X4_chargeGo xs_X4_chargeGo xl_RX4_192 (by decide) (xsh_0) rfl rfl rfl (Nat.le_of_ble_eq_true rfl) (by decide +kernel) ?_
        show XW X 62 [(0, .ref 0), (1, .int l1), (2, .int l2)] [.int v_6] h_5
        exact XrI2 hX hR hf (by decide +kernel)
      · replace hf := xif_f hc_3 hf
        by_cases hc_7 : l1 = (2 : Int32)
        · replace hf := xif_t hc_7 hf
          refine XswAt hX 63 hc_7 (show decode _ _ = .ok (.tableswitch (82) (0) (6) #[41, 46, 52, 58, 64, 70, 76], 41) by decide +kernel) (by decide) (by decide) (o := 52) (by decide) (by decide) ?_
          refine Xblk hX pkX4_ok [.aload_n 0, .iload_n 2] (pc' := 65) (ls' := [(0, .ref 0), (1, .int l1), (2, .int l2)]) (st' := [.int l2, .ref 0]) (h' := h) (g := true) (by decide +kernel) rfl rfl rfl ?_
          obtain ⟨v_10, h_9, hc_8, hf⟩ := xbd2_inv hf
          refine XcallV hX (mt_x_chargeWait l2 h hc_8) (rest := []) (by decide) (by decide) xm_X4_chargeWait xi_X4_chargeWait xs_X4_chargeWait xl_RX4_196 (by decide) (xsh_0) rfl rfl rfl (Nat.le_of_ble_eq_true rfl) (by decide +kernel) ?_
          show XW X 68 [(0, .ref 0), (1, .int l1), (2, .int l2)] [.int v_10] h_9
          exact XrI2 hX hR hf (by decide +kernel)
        · replace hf := xif_f hc_7 hf
          by_cases hc_11 : l1 = (3 : Int32)
          · replace hf := xif_t hc_11 hf
            refine XswAt hX 69 hc_11 (show decode _ _ = .ok (.tableswitch (82) (0) (6) #[41, 46, 52, 58, 64, 70, 76], 41) by decide +kernel) (by decide) (by decide) (o := 58) (by decide) (by decide) ?_
            refine Xblk hX pkX4_ok [.aload_n 0, .iload_n 2] (pc' := 71) (ls' := [(0, .ref 0), (1, .int l1), (2, .int l2)]) (st' := [.int l2, .ref 0]) (h' := h) (g := true) (by decide +kernel) rfl rfl rfl ?_
            obtain ⟨v_14, h_13, hc_12, hf⟩ := xbd2_inv hf
            refine XcallV hX (mt_x_chargeYield l2 h hc_12) (rest := []) (by decide) (by decide) xm_X4_chargeYield xi_X4_chargeYield xs_X4_chargeYield xl_RX4_199 (by decide) (xsh_0) rfl rfl rfl (Nat.le_of_ble_eq_true rfl) (by decide +kernel) ?_
            show XW X 74 [(0, .ref 0), (1, .int l1), (2, .int l2)] [.int v_14] h_13
            exact XrI2 hX hR hf (by decide +kernel)
          · replace hf := xif_f hc_11 hf
            by_cases hc_15 : l1 = (4 : Int32)
            · replace hf := xif_t hc_15 hf
              refine XswAt hX 75 hc_15 (show decode _ _ = .ok (.tableswitch (82) (0) (6) #[41, 46, 52, 58, 64, 70, 76], 41) by decide +kernel) (by decide) (by decide) (o := 64) (by decide) (by decide) ?_
              refine Xblk hX pkX4_ok [.aload_n 0, .iload_n 2] (pc' := 77) (ls' := [(0, .ref 0), (1, .int l1), (2, .int l2)]) (st' := [.int l2, .ref 0]) (h' := h) (g := true) (by decide +kernel) rfl rfl rfl ?_
              obtain ⟨v_18, h_17, hc_16, hf⟩ := xbd2_inv hf
              refine XcallV hX (mt_x_chargeBack l2 h hc_16) (rest := []) (by decide) (by decide) xm_X4_chargeBack xi_X4_chargeBack xs_X4_chargeBack xl_RX4_202 (by decide) (xsh_0) rfl rfl rfl (Nat.le_of_ble_eq_true rfl) (by decide +kernel) ?_
              show XW X 80 [(0, .ref 0), (1, .int l1), (2, .int l2)] [.int v_18] h_17
              exact XrI2 hX hR hf (by decide +kernel)
            · replace hf := xif_f hc_15 hf
              by_cases hc_19 : l1 = (5 : Int32)
              · replace hf := xif_t hc_19 hf
                refine XswAt hX 81 hc_19 (show decode _ _ = .ok (.tableswitch (82) (0) (6) #[41, 46, 52, 58, 64, 70, 76], 41) by decide +kernel) (by decide) (by decide) (o := 70) (by decide) (by decide) ?_
                refine Xblk hX pkX4_ok [.aload_n 0, .iload_n 2] (pc' := 83) (ls' := [(0, .ref 0), (1, .int l1), (2, .int l2)]) (st' := [.int l2, .ref 0]) (h' := h) (g := true) (by decide +kernel) rfl rfl rfl ?_
                obtain ⟨v_22, h_21, hc_20, hf⟩ := xbd2_inv hf
                refine XcallV hX (mt_x_chargeRide l2 h hc_20) (rest := []) (by decide) (by decide) xm_X4_chargeRide xi_X4_chargeRide xs_X4_chargeRide xl_RX4_205 (by decide) (xsh_0) rfl rfl rfl (Nat.le_of_ble_eq_true rfl) (by decide +kernel) ?_
                show XW X 86 [(0, .ref 0), (1, .int l1), (2, .int l2)] [.int v_22] h_21
                exact XrI2 hX hR hf (by decide +kernel)
              · replace hf := xif_f hc_19 hf
                by_cases hc_23 : l1 = (6 : Int32)
                · replace hf := xif_t hc_23 hf
                  refine XswAt hX 87 hc_23 (show decode _ _ = .ok (.tableswitch (82) (0) (6) #[41, 46, 52, 58, 64, 70, 76], 41) by decide +kernel) (by decide) (by decide) (o := 76) (by decide) (by decide) ?_
                  refine Xblk hX pkX4_ok [.aload_n 0, .iload_n 2] (pc' := 89) (ls' := [(0, .ref 0), (1, .int l1), (2, .int l2)]) (st' := [.int l2, .ref 0]) (h' := h) (g := true) (by decide +kernel) rfl rfl rfl ?_
                  obtain ⟨v_26, h_25, hc_24, hf⟩ := xbd2_inv hf
                  refine XcallV hX (mt_x_chargeAsk l2 h hc_24) (rest := []) (by decide) (by decide) xm_X4_chargeAsk xi_X4_chargeAsk xs_X4_chargeAsk xl_RX4_208 (by decide) (xsh_0) rfl rfl rfl (Nat.le_of_ble_eq_true rfl) (by decide +kernel) ?_
                  show XW X 92 [(0, .ref 0), (1, .int l1), (2, .int l2)] [.int v_26] h_25
                  exact XrI2 hX hR hf (by decide +kernel)
                · replace hf := xif_f hc_23 hf
                  refine XswOut hX 93 (show decode _ _ = .ok (.tableswitch (82) (0) (6) #[41, 46, 52, 58, 64, 70, 76], 41) by decide +kernel) (by have a0 := lv_neT (a := 0) hc_2 (by decide); have a1 := lv_neT (a := 1) hc_3 (by decide); have a2 := lv_neT (a := 2) hc_7 (by decide); have a3 := lv_neT (a := 3) hc_11 (by decide); have a4 := lv_neT (a := 4) hc_15 (by decide); have a5 := lv_neT (a := 5) hc_19 (by decide); have a6 := lv_neT (a := 6) hc_23 (by decide); omega) (by decide) ?_
                  refine Xblk hX pkX4_ok [.iconst (-1)] (pc' := 94) (ls' := [(0, .ref 0), (1, .int l1), (2, .int l2)]) (st' := [.int (-1 : Int32)]) (h' := h) (g := true) (by decide +kernel) rfl rfl rfl ?_
                  exact XrI2 hX hR hf (by decide +kernel)
def f_x_lost  (h : Hp) : Int32 × Hp :=
  ((f_j_bitCount (h.2 2 5)), (xL h 0 8 (h.2 2 5)))
set_option maxRecDepth 100000 in
set_option maxHeartbeats 4000000 in
theorem mt_x_lost  (h : Hp) : MT 1 39 yX4_lost cX4_lost 1 (some .int) [.ref 0] h (some (.int (f_x_lost h).1)) (f_x_lost h).2 := by
  obtain ⟨o, hf⟩ : ∃ o, f_x_lost h = o := ⟨_, rfl⟩
  rw [hf]
  refine MT.of (by decide +kernel) (Nat.le_of_ble_eq_true rfl) fun X hX hR => ?_
  unfold f_x_lost at hf
  refine Xblk hX pkX4_ok [.aload_n 0, .aload_n 0, .getfield 16, .getfield 96, .putfield 101, .aload_n 0, .getfield 101] (pc' := 15) (ls' := [(0, .ref 0)]) (st' := [.long (h.2 2 5)]) (h' := (xL h 0 8 (h.2 2 5))) (g := true) (by decide +kernel) rfl rfl rfl ?_
  refine XcallS hX (mt_j_bitCount (h.2 2 5) (xL h 0 8 (h.2 2 5))) (rest := []) (by decide) (by decide) xm_J13_bitCount_95d88 xi_J13_bitCount_95d88 xl_RX4_70 rfl (Nat.le_of_ble_eq_true rfl) (by decide +kernel) ?_
  show XW X 18 [(0, .ref 0)] [.int (f_j_bitCount (h.2 2 5))] (xL h 0 8 (h.2 2 5))
  subst hf
  exact XretI hX hR (by decide +kernel)
def f_hall_canStep (l1 : Int32) (h : Hp) : Int64 :=
  (f_x_shifted (h.2 2 5) (l1 ^^^ (2 : Int32)))
set_option maxRecDepth 100000 in
set_option maxHeartbeats 4000000 in
theorem mt_hall_canStep (l1 : Int32) (h : Hp) : MT 1 39 yX1_canStep cX1_canStep 2 (some .long) [.ref 2, .int l1] h (some (.long (f_hall_canStep l1 h))) h := by
  obtain ⟨o, hf⟩ : ∃ o, f_hall_canStep l1 h = o := ⟨_, rfl⟩
  rw [hf]
  refine MT.of (by decide +kernel) (Nat.le_of_ble_eq_true rfl) fun X hX hR => ?_
  unfold f_hall_canStep at hf
  refine Xblk hX pkX1_ok [.aload_n 0, .getfield 36, .iload_n 1, .iconst 2, .ixor] (pc' := 7) (ls' := [(0, .ref 2), (1, .int l1)]) (st' := [.int (l1 ^^^ (2 : Int32)), .long (h.2 2 5)]) (h' := h) (g := true) (by decide +kernel) rfl rfl rfl ?_
  refine XcallS hX (mt_x_shifted (h.2 2 5) (l1 ^^^ (2 : Int32)) h) (rest := []) (by decide) (by decide) xm_X4_shifted xi_X4_shifted xl_RX1_43 rfl (Nat.le_of_ble_eq_true rfl) (by decide +kernel) ?_
  show XW X 10 [(0, .ref 2), (1, .int l1)] [.long (f_x_shifted (h.2 2 5) (l1 ^^^ (2 : Int32)))] h
  subst hf
  exact XretL hX hR (by decide +kernel)
def f_hall_looksLike_L_1  (l1 : Int32) (h : Hp) (k : Int64 → Int32 → Option (Int64)) : Nat → Int64 → Int32 → Option (Int64)
  | 0, _, _ => none
  | n + 1, l2, l4 =>
    if (4 : Int32) ≤ l4 then
      k l2 l4
    else
      (f_hall_looksLike_L_1 l1 h k n) (l2 &&& (if ((jshr l1 l4) &&& (1 : Int32)) = (0 : Int32) then ((f_hall_canStep l4 h) ^^^ (-1 : Int64)) else (f_hall_canStep l4 h))) (l4 + (1 : Int32))
def f_hall_looksLike (l1 : Int32) (h : Hp) : Option (Int64) :=
  f_hall_looksLike_L_1 l1 h (fun l2_6 l4_7 =>
    some l2_6
    ) 1000 (h.2 2 5) (0 : Int32)
set_option maxRecDepth 100000 in
set_option maxHeartbeats 4000000 in
theorem f_hall_looksLike_L_1_ok {X : XCtx} (hX : XOk X RX1 cX1_looksLike 5 2 39) {r : Int64} {h : Hp} (hR : XR X (some .long) (some (.long r)) h)  (l1 : Int32)  (k : Int64 → Int32 → Option (Int64))  (hk : ∀ (l2 : Int64) (l4 : Int32), k l2 l4 = some r → XW X 51 [(2, .long l2)] [] h) : ∀ (n : Nat) (l2 : Int64) (l4 : Int32), f_hall_looksLike_L_1 l1 h k n l2 l4 = some r → XW X 8 [(0, .ref 2), (1, .int l1), (2, .long l2), (4, .int l4)] [] h := by
  intro n
  induction n with
  | zero => intro l2 l4 hf; cases hf
  | succ n ih =>
    intro l2 l4 hf
    rw [f_hall_looksLike_L_1] at hf
    refine Xblk hX pkX1_ok [.iload 4, .iconst 4] (pc' := 11) (ls' := [(0, .ref 2), (1, .int l1), (2, .long l2), (4, .int l4)]) (st' := [.int (4 : Int32), .int l4]) (h' := h) (g := true) (by decide +kernel) rfl rfl rfl ?_
    refine Xbr hX (.if_icmp .ge (40)) (tgt := 51) (P := (4 : Int32) ≤ l4) (r := []) (by decide +kernel) rfl (by decide) (fun hc_2 => ?_) (fun hc_2 => ?_)
    · replace hf := xif_t hc_2 hf
      refine XW.pick [2] (ls' := [(2, .long l2)]) rfl ?_
      exact hk l2 l4 hf
    · replace hf := xif_f hc_2 hf
      refine Xblk hX pkX1_ok [.lload_n 2, .iload_n 1, .iload 4, .ishr, .iconst 1, .iand] (pc' := 21) (ls' := [(0, .ref 2), (1, .int l1), (2, .long l2), (4, .int l4)]) (st' := [.int ((jshr l1 l4) &&& (1 : Int32)), .long l2]) (h' := h) (g := true) (by decide +kernel) rfl rfl rfl ?_
      have kJ_5 : ∀ (w_4 : Int64), w_4 = (if ((jshr l1 l4) &&& (1 : Int32)) = (0 : Int32) then ((f_hall_canStep l4 h) ^^^ (-1 : Int64)) else (f_hall_canStep l4 h)) → XW X 43 [(0, .ref 2), (1, .int l1), (4, .int l4)] [.long w_4, .long l2] h := by
        intro w_4 ew_4
        subst ew_4
        refine Xblk hX pkX1_ok [.land, .lstore_n 2, .iinc 4 1] (pc' := 48) (ls' := [(4, .int (l4 + (1 : Int32))), (2, .long (l2 &&& (if ((jshr l1 l4) &&& (1 : Int32)) = (0 : Int32) then ((f_hall_canStep l4 h) ^^^ (-1 : Int64)) else (f_hall_canStep l4 h)))), (0, .ref 2), (1, .int l1)]) (st' := []) (h' := h) (g := true) (by decide +kernel) rfl rfl rfl ?_
        refine Xgoto hX (-40) 8 (by decide +kernel) (by decide) ?_
        refine XW.pick [2, 3, 1, 0] (ls' := [(0, .ref 2), (1, .int l1), (2, .long (l2 &&& (if ((jshr l1 l4) &&& (1 : Int32)) = (0 : Int32) then ((f_hall_canStep l4 h) ^^^ (-1 : Int64)) else (f_hall_canStep l4 h)))), (4, .int (l4 + (1 : Int32)))]) rfl ?_
        exact ih (l2 &&& (if ((jshr l1 l4) &&& (1 : Int32)) = (0 : Int32) then ((f_hall_canStep l4 h) ^^^ (-1 : Int64)) else (f_hall_canStep l4 h))) (l4 + (1 : Int32)) hf
      refine Xbr hX (.ifCond .eq (12)) (tgt := 33) (P := ((jshr l1 l4) &&& (1 : Int32)) = (0 : Int32)) (r := [.long l2]) (by decide +kernel) rfl (by decide) (fun hc_3 => ?_) (fun hc_3 => ?_)
      · refine Xblk hX pkX1_ok [.aload_n 0, .iload 4] (pc' := 36) (ls' := [(0, .ref 2), (1, .int l1), (2, .long l2), (4, .int l4)]) (st' := [.int l4, .ref 2, .long l2]) (h' := h) (g := true) (by decide +kernel) rfl rfl rfl ?_
        refine XcallV hX (mt_hall_canStep l4 h) (rest := [.long l2]) (by decide) (by decide) xm_X1_canStep xi_X1_canStep xs_X1_canStep xl_RX1_47 (by decide) (xsh_2) rfl rfl rfl (Nat.le_of_ble_eq_true rfl) (by decide +kernel) ?_
        show XW X 39 [(0, .ref 2), (1, .int l1), (2, .long l2), (4, .int l4)] [.long (f_hall_canStep l4 h), .long l2] h
        refine Xblk hX pkX1_ok [.ldc2_w 51, .lxor] (pc' := 43) (ls' := [(0, .ref 2), (1, .int l1), (2, .long l2), (4, .int l4)]) (st' := [.long ((f_hall_canStep l4 h) ^^^ (-1 : Int64)), .long l2]) (h' := h) (g := true) (by decide +kernel) rfl rfl rfl ?_
        refine XW.pick [0, 1, 3] (ls' := [(0, .ref 2), (1, .int l1), (4, .int l4)]) rfl ?_
        exact kJ_5 _ (by rw [if_pos hc_3])
      · refine Xblk hX pkX1_ok [.aload_n 0, .iload 4] (pc' := 27) (ls' := [(0, .ref 2), (1, .int l1), (2, .long l2), (4, .int l4)]) (st' := [.int l4, .ref 2, .long l2]) (h' := h) (g := true) (by decide +kernel) rfl rfl rfl ?_
        refine XcallV hX (mt_hall_canStep l4 h) (rest := [.long l2]) (by decide) (by decide) xm_X1_canStep xi_X1_canStep xs_X1_canStep xl_RX1_47 (by decide) (xsh_2) rfl rfl rfl (Nat.le_of_ble_eq_true rfl) (by decide +kernel) ?_
        show XW X 30 [(0, .ref 2), (1, .int l1), (2, .long l2), (4, .int l4)] [.long (f_hall_canStep l4 h), .long l2] h
        refine Xgoto hX (13) 43 (by decide +kernel) (by decide) ?_
        refine XW.pick [0, 1, 3] (ls' := [(0, .ref 2), (1, .int l1), (4, .int l4)]) rfl ?_
        exact kJ_5 _ (by rw [if_neg hc_3])
set_option maxRecDepth 100000 in
set_option maxHeartbeats 4000000 in
theorem mt_hall_looksLike (l1 : Int32) (h : Hp) {r : Int64} (hf : f_hall_looksLike l1 h = some r) : MT 2 39 yX1_looksLike cX1_looksLike 5 (some .long) [.ref 2, .int l1] h (some (.long r)) h := by
  refine MT.of (by decide +kernel) (Nat.le_of_ble_eq_true rfl) fun X hX hR => ?_
  unfold f_hall_looksLike at hf
  refine Xblk hX pkX1_ok [.aload_n 0, .getfield 36, .lstore_n 2, .iconst 0, .istore 4] (pc' := 8) (ls' := [(4, .int (0 : Int32)), (2, .long (h.2 2 5)), (0, .ref 2), (1, .int l1)]) (st' := []) (h' := h) (g := true) (by decide +kernel) rfl rfl rfl ?_
  refine XW.pick [2, 3, 1, 0] (ls' := [(0, .ref 2), (1, .int l1), (2, .long (h.2 2 5)), (4, .int (0 : Int32))]) rfl ?_
  refine f_hall_looksLike_L_1_ok hX hR l1 _  (fun l2_6 l4_7 hf => ?_) 1000 (h.2 2 5) (0 : Int32) hf
  refine Xblk hX pkX1_ok [.lload_n 2] (pc' := 52) (ls' := [(2, .long l2_6)]) (st' := [.long l2_6]) (h' := h) (g := true) (by decide +kernel) rfl rfl rfl ?_
  exact XrL1 hX hR hf (by decide +kernel)
def f_x_look (l1 : Int32) (l2 : Int32) (h : Hp) : Option (Int32 × Hp) :=
  if l1 < (0 : Int32) then
    some ((-1 : Int32), h)
  else
    if (16 : Int32) ≤ l1 then
      some ((-1 : Int32), h)
    else
      if l2 < (0 : Int32) then
        some ((-1 : Int32), h)
      else
        if l2 ≤ (9 : Int32) then
          xbd1 (f_hall_looksLike l1 h) fun v_6 =>
          xgd (xin l2 10 && true) <|
          some ((f_j_bitCount ((h.2 0 8) &&& (v_6 &&& (h.2 5 l2.toNatClampNeg)))), (xL h 0 8 ((h.2 0 8) &&& (v_6 &&& (h.2 5 l2.toNatClampNeg)))))
        else
          some ((-1 : Int32), h)
set_option maxRecDepth 100000 in
set_option maxHeartbeats 4000000 in
theorem mt_x_look (l1 : Int32) (l2 : Int32) (h : Hp) {r : Int32} {h' : Hp} (hf : f_x_look l1 l2 h = some (r, h')) : MT 3 39 yX4_look cX4_look 3 (some .int) [.ref 0, .int l1, .int l2] h (some (.int r)) h' := by
  refine MT.of (by decide +kernel) (Nat.le_of_ble_eq_true rfl) fun X hX hR => ?_
  unfold f_x_look at hf
  refine Xblk hX pkX4_ok [.iload_n 1] (pc' := 1) (ls' := [(0, .ref 0), (1, .int l1), (2, .int l2)]) (st' := [.int l1]) (h' := h) (g := true) (by decide +kernel) rfl rfl rfl ?_
  refine Xbr hX (.ifCond .lt (19)) (tgt := 20) (P := l1 < (0 : Int32)) (r := []) (by decide +kernel) rfl (by decide) (fun hc_1 => ?_) (fun hc_1 => ?_)
  · replace hf := xif_t hc_1 hf
    refine Xblk hX pkX4_ok [.iconst (-1)] (pc' := 21) (ls' := [(0, .ref 0), (1, .int l1), (2, .int l2)]) (st' := [.int (-1 : Int32)]) (h' := h) (g := true) (by decide +kernel) rfl rfl rfl ?_
    exact XrI2 hX hR hf (by decide +kernel)
  · replace hf := xif_f hc_1 hf
    refine Xblk hX pkX4_ok [.iload_n 1, .bipush 16] (pc' := 7) (ls' := [(0, .ref 0), (1, .int l1), (2, .int l2)]) (st' := [.int (16 : Int32), .int l1]) (h' := h) (g := true) (by decide +kernel) rfl rfl rfl ?_
    refine Xbr hX (.if_icmp .ge (13)) (tgt := 20) (P := (16 : Int32) ≤ l1) (r := []) (by decide +kernel) rfl (by decide) (fun hc_2 => ?_) (fun hc_2 => ?_)
    · replace hf := xif_t hc_2 hf
      refine Xblk hX pkX4_ok [.iconst (-1)] (pc' := 21) (ls' := [(0, .ref 0), (1, .int l1), (2, .int l2)]) (st' := [.int (-1 : Int32)]) (h' := h) (g := true) (by decide +kernel) rfl rfl rfl ?_
      exact XrI2 hX hR hf (by decide +kernel)
    · replace hf := xif_f hc_2 hf
      refine Xblk hX pkX4_ok [.iload_n 2] (pc' := 11) (ls' := [(0, .ref 0), (1, .int l1), (2, .int l2)]) (st' := [.int l2]) (h' := h) (g := true) (by decide +kernel) rfl rfl rfl ?_
      refine Xbr hX (.ifCond .lt (9)) (tgt := 20) (P := l2 < (0 : Int32)) (r := []) (by decide +kernel) rfl (by decide) (fun hc_3 => ?_) (fun hc_3 => ?_)
      · replace hf := xif_t hc_3 hf
        refine Xblk hX pkX4_ok [.iconst (-1)] (pc' := 21) (ls' := [(0, .ref 0), (1, .int l1), (2, .int l2)]) (st' := [.int (-1 : Int32)]) (h' := h) (g := true) (by decide +kernel) rfl rfl rfl ?_
        exact XrI2 hX hR hf (by decide +kernel)
      · replace hf := xif_f hc_3 hf
        refine Xblk hX pkX4_ok [.iload_n 2, .bipush 9] (pc' := 17) (ls' := [(0, .ref 0), (1, .int l1), (2, .int l2)]) (st' := [.int (9 : Int32), .int l2]) (h' := h) (g := true) (by decide +kernel) rfl rfl rfl ?_
        refine Xbr hX (.if_icmp .le (5)) (tgt := 22) (P := l2 ≤ (9 : Int32)) (r := []) (by decide +kernel) rfl (by decide) (fun hc_4 => ?_) (fun hc_4 => ?_)
        · replace hf := xif_t hc_4 hf
          refine Xblk hX pkX4_ok [.aload_n 0, .dup, .getfield 101, .aload_n 0, .getfield 16, .iload_n 1] (pc' := 32) (ls' := [(0, .ref 0), (1, .int l1), (2, .int l2)]) (st' := [.int l1, .ref 2, .long (h.2 0 8), .ref 0]) (h' := h) (g := true) (by decide +kernel) rfl rfl rfl ?_
          obtain ⟨v_6, hc_5, hf⟩ := xbd1_inv hf
          refine XcallV hX (mt_hall_looksLike l1 h hc_5) (rest := [.long (h.2 0 8), .ref 0]) (by decide) (by decide) xm_X1_looksLike xi_X1_looksLike xs_X1_looksLike xl_RX4_211 (by decide) (xsh_2) rfl rfl rfl (Nat.le_of_ble_eq_true rfl) (by decide +kernel) ?_
          show XW X 35 [(0, .ref 0), (1, .int l1), (2, .int l2)] [.long v_6, .long (h.2 0 8), .ref 0] h
          obtain ⟨hg, hf⟩ := xgd_inv hf
          refine Xblk hX pkX4_ok [.aload_n 0, .getfield 16, .getfield 214, .iload_n 2, .laload, .land, .land, .putfield 101, .aload_n 0, .getfield 101] (pc' := 53) (ls' := [(0, .ref 0), (1, .int l1), (2, .int l2)]) (st' := [.long ((h.2 0 8) &&& (v_6 &&& (h.2 5 l2.toNatClampNeg)))]) (h' := (xL h 0 8 ((h.2 0 8) &&& (v_6 &&& (h.2 5 l2.toNatClampNeg))))) (g := (xin l2 10 && true)) (by decide +kernel) rfl rfl hg ?_
          refine XcallS hX (mt_j_bitCount ((h.2 0 8) &&& (v_6 &&& (h.2 5 l2.toNatClampNeg))) (xL h 0 8 ((h.2 0 8) &&& (v_6 &&& (h.2 5 l2.toNatClampNeg))))) (rest := []) (by decide) (by decide) xm_J13_bitCount_95d88 xi_J13_bitCount_95d88 xl_RX4_70 rfl (Nat.le_of_ble_eq_true rfl) (by decide +kernel) ?_
          show XW X 56 [(0, .ref 0), (1, .int l1), (2, .int l2)] [.int (f_j_bitCount ((h.2 0 8) &&& (v_6 &&& (h.2 5 l2.toNatClampNeg))))] (xL h 0 8 ((h.2 0 8) &&& (v_6 &&& (h.2 5 l2.toNatClampNeg))))
          exact XrI2 hX hR hf (by decide +kernel)
        · replace hf := xif_f hc_4 hf
          refine Xblk hX pkX4_ok [.iconst (-1)] (pc' := 21) (ls' := [(0, .ref 0), (1, .int l1), (2, .int l2)]) (st' := [.int (-1 : Int32)]) (h' := h) (g := true) (by decide +kernel) rfl rfl rfl ?_
          exact XrI2 hX hR hf (by decide +kernel)
def f_hall_stepped (l1 : Int64) (l3 : Int32) (h : Hp) : Int64 :=
  (((f_x_shifted l1 l3) &&& (h.2 2 5)) ||| (l1 &&& ((f_hall_canStep l3 h) ^^^ (-1 : Int64))))
set_option maxRecDepth 100000 in
set_option maxHeartbeats 4000000 in
theorem mt_hall_stepped (l1 : Int64) (l3 : Int32) (h : Hp) : MT 2 39 yX1_stepped cX1_stepped 4 (some .long) [.ref 2, .long l1, .int l3] h (some (.long (f_hall_stepped l1 l3 h))) h := by
  obtain ⟨o, hf⟩ : ∃ o, f_hall_stepped l1 l3 h = o := ⟨_, rfl⟩
  rw [hf]
  refine MT.of (by decide +kernel) (Nat.le_of_ble_eq_true rfl) fun X hX hR => ?_
  unfold f_hall_stepped at hf
  refine Xblk hX pkX1_ok [.lload_n 1, .iload_n 3] (pc' := 2) (ls' := [(0, .ref 2), (1, .long l1), (3, .int l3)]) (st' := [.int l3, .long l1]) (h' := h) (g := true) (by decide +kernel) rfl rfl rfl ?_
  refine XcallS hX (mt_x_shifted l1 l3 h) (rest := []) (by decide) (by decide) xm_X4_shifted xi_X4_shifted xl_RX1_43 rfl (Nat.le_of_ble_eq_true rfl) (by decide +kernel) ?_
  show XW X 5 [(0, .ref 2), (1, .long l1), (3, .int l3)] [.long (f_x_shifted l1 l3)] h
  refine Xblk hX pkX1_ok [.aload_n 0, .getfield 36, .land, .lload_n 1, .aload_n 0, .iload_n 3] (pc' := 13) (ls' := [(0, .ref 2), (1, .long l1), (3, .int l3)]) (st' := [.int l3, .ref 2, .long l1, .long ((f_x_shifted l1 l3) &&& (h.2 2 5))]) (h' := h) (g := true) (by decide +kernel) rfl rfl rfl ?_
  refine XcallV hX (mt_hall_canStep l3 h) (rest := [.long l1, .long ((f_x_shifted l1 l3) &&& (h.2 2 5))]) (by decide) (by decide) xm_X1_canStep xi_X1_canStep xs_X1_canStep xl_RX1_47 (by decide) (xsh_2) rfl rfl rfl (Nat.le_of_ble_eq_true rfl) (by decide +kernel) ?_
  show XW X 16 [(0, .ref 2), (1, .long l1), (3, .int l3)] [.long (f_hall_canStep l3 h), .long l1, .long ((f_x_shifted l1 l3) &&& (h.2 2 5))] h
  refine Xblk hX pkX1_ok [.ldc2_w 51, .lxor, .land, .lor] (pc' := 22) (ls' := [(0, .ref 2), (1, .long l1), (3, .int l3)]) (st' := [.long (((f_x_shifted l1 l3) &&& (h.2 2 5)) ||| (l1 &&& ((f_hall_canStep l3 h) ^^^ (-1 : Int64))))]) (h' := h) (g := true) (by decide +kernel) rfl rfl rfl ?_
  subst hf
  exact XretL hX hR (by decide +kernel)
def f_x_step (l1 : Int32) (h : Hp) : Int32 × Hp :=
  if l1 < (0 : Int32) then
    ((-1 : Int32), h)
  else
    if l1 < (4 : Int32) then
      ((f_j_bitCount (f_hall_stepped (h.2 0 8) l1 h)), (xL h 0 8 (f_hall_stepped (h.2 0 8) l1 h)))
    else
      ((-1 : Int32), h)
set_option maxRecDepth 100000 in
set_option maxHeartbeats 4000000 in
theorem mt_x_step (l1 : Int32) (h : Hp) : MT 3 39 yX4_step cX4_step 2 (some .int) [.ref 0, .int l1] h (some (.int (f_x_step l1 h).1)) (f_x_step l1 h).2 := by
  obtain ⟨o, hf⟩ : ∃ o, f_x_step l1 h = o := ⟨_, rfl⟩
  rw [hf]
  refine MT.of (by decide +kernel) (Nat.le_of_ble_eq_true rfl) fun X hX hR => ?_
  unfold f_x_step at hf
  refine Xblk hX pkX4_ok [.iload_n 1] (pc' := 1) (ls' := [(0, .ref 0), (1, .int l1)]) (st' := [.int l1]) (h' := h) (g := true) (by decide +kernel) rfl rfl rfl ?_
  refine Xbr hX (.ifCond .lt (8)) (tgt := 9) (P := l1 < (0 : Int32)) (r := []) (by decide +kernel) rfl (by decide) (fun hc_1 => ?_) (fun hc_1 => ?_)
  · replace hf := xif_t hc_1 hf
    refine Xblk hX pkX4_ok [.iconst (-1)] (pc' := 10) (ls' := [(0, .ref 0), (1, .int l1)]) (st' := [.int (-1 : Int32)]) (h' := h) (g := true) (by decide +kernel) rfl rfl rfl ?_
    subst hf
    exact XretI hX hR (by decide +kernel)
  · replace hf := xif_f hc_1 hf
    refine Xblk hX pkX4_ok [.iload_n 1, .iconst 4] (pc' := 6) (ls' := [(0, .ref 0), (1, .int l1)]) (st' := [.int (4 : Int32), .int l1]) (h' := h) (g := true) (by decide +kernel) rfl rfl rfl ?_
    refine Xbr hX (.if_icmp .lt (5)) (tgt := 11) (P := l1 < (4 : Int32)) (r := []) (by decide +kernel) rfl (by decide) (fun hc_2 => ?_) (fun hc_2 => ?_)
    · replace hf := xif_t hc_2 hf
      refine Xblk hX pkX4_ok [.aload_n 0, .aload_n 0, .getfield 16, .aload_n 0, .getfield 101, .iload_n 1] (pc' := 21) (ls' := [(0, .ref 0), (1, .int l1)]) (st' := [.int l1, .long (h.2 0 8), .ref 2, .ref 0]) (h' := h) (g := true) (by decide +kernel) rfl rfl rfl ?_
      refine XcallV hX (mt_hall_stepped (h.2 0 8) l1 h) (rest := [.ref 0]) (by decide) (by decide) xm_X1_stepped xi_X1_stepped xs_X1_stepped xl_RX4_217 (by decide) (xsh_2) rfl rfl rfl (Nat.le_of_ble_eq_true rfl) (by decide +kernel) ?_
      show XW X 24 [(0, .ref 0), (1, .int l1)] [.long (f_hall_stepped (h.2 0 8) l1 h), .ref 0] h
      refine Xblk hX pkX4_ok [.putfield 101, .aload_n 0, .getfield 101] (pc' := 31) (ls' := [(0, .ref 0), (1, .int l1)]) (st' := [.long (f_hall_stepped (h.2 0 8) l1 h)]) (h' := (xL h 0 8 (f_hall_stepped (h.2 0 8) l1 h))) (g := true) (by decide +kernel) rfl rfl rfl ?_
      refine XcallS hX (mt_j_bitCount (f_hall_stepped (h.2 0 8) l1 h) (xL h 0 8 (f_hall_stepped (h.2 0 8) l1 h))) (rest := []) (by decide) (by decide) xm_J13_bitCount_95d88 xi_J13_bitCount_95d88 xl_RX4_70 rfl (Nat.le_of_ble_eq_true rfl) (by decide +kernel) ?_
      show XW X 34 [(0, .ref 0), (1, .int l1)] [.int (f_j_bitCount (f_hall_stepped (h.2 0 8) l1 h))] (xL h 0 8 (f_hall_stepped (h.2 0 8) l1 h))
      subst hf
      exact XretI hX hR (by decide +kernel)
    · replace hf := xif_f hc_2 hf
      refine Xblk hX pkX4_ok [.iconst (-1)] (pc' := 10) (ls' := [(0, .ref 0), (1, .int l1)]) (st' := [.int (-1 : Int32)]) (h' := h) (g := true) (by decide +kernel) rfl rfl rfl ?_
      subst hf
      exact XretI hX hR (by decide +kernel)
def f_x_where  (h : Hp) : Int64 :=
  (h.2 0 8)
set_option maxRecDepth 100000 in
set_option maxHeartbeats 4000000 in
theorem mt_x_where  (h : Hp) : MT 0 39 yX4_where cX4_where 1 (some .long) [.ref 0] h (some (.long (f_x_where h))) h := by
  obtain ⟨o, hf⟩ : ∃ o, f_x_where h = o := ⟨_, rfl⟩
  rw [hf]
  refine MT.of (by decide +kernel) (Nat.le_of_ble_eq_true rfl) fun X hX hR => ?_
  unfold f_x_where at hf
  refine Xblk hX pkX4_ok [.aload_n 0, .getfield 101] (pc' := 4) (ls' := [(0, .ref 0)]) (st' := [.long (h.2 0 8)]) (h' := h) (g := true) (by decide +kernel) rfl rfl rfl ?_
  subst hf
  exact XretL hX hR (by decide +kernel)
def f_hall_unlikeLooks_L_1  (l1 : Int64) (h : Hp) (k : Int32 → Int32 → Option (Int32)) : Nat → Int32 → Int32 → Option (Int32)
  | 0, _, _ => none
  | n + 1, l3, l4 =>
    if (16 : Int32) ≤ l4 then
      k l3 l4
    else
      xbd1 (f_hall_looksLike l4 h) fun v_4 =>
      (f_hall_unlikeLooks_L_1 l1 h k n) (if (lg_cmp ((l1 &&& (h.2 5 0)) &&& v_4) (0 : Int64)) = (0 : Int32) then l3 else (l3 + (1 : Int32))) (l4 + (1 : Int32))
def f_hall_unlikeLooks (l1 : Int64) (h : Hp) : Option (Int32) :=
  f_hall_unlikeLooks_L_1 l1 h (fun l3_8 l4_9 =>
    some l3_8
    ) 1000 (f_j_bitCount (l1 &&& ((h.2 5 0) ^^^ (-1 : Int64)))) (0 : Int32)
set_option maxRecDepth 100000 in
set_option maxHeartbeats 4000000 in
theorem f_hall_unlikeLooks_L_1_ok {X : XCtx} (hX : XOk X RX1 cX1_unlikeLooks 5 3 39) {r : Int32} {h : Hp} (hR : XR X (some .int) (some (.int r)) h)  (l1 : Int64)  (k : Int32 → Int32 → Option (Int32))  (hk : ∀ (l3 : Int32) (l4 : Int32), k l3 l4 = some r → XW X 55 [(3, .int l3)] [] h) : ∀ (n : Nat) (l3 : Int32) (l4 : Int32), f_hall_unlikeLooks_L_1 l1 h k n l3 l4 = some r → XW X 19 [(0, .ref 2), (1, .long l1), (3, .int l3), (4, .int l4)] [] h := by
  intro n
  induction n with
  | zero => intro l3 l4 hf; cases hf
  | succ n ih =>
    intro l3 l4 hf
    rw [f_hall_unlikeLooks_L_1] at hf
    refine Xblk hX pkX1_ok [.iload 4, .bipush 16] (pc' := 23) (ls' := [(0, .ref 2), (1, .long l1), (3, .int l3), (4, .int l4)]) (st' := [.int (16 : Int32), .int l4]) (h' := h) (g := true) (by decide +kernel) rfl rfl rfl ?_
    refine Xbr hX (.if_icmp .ge (32)) (tgt := 55) (P := (16 : Int32) ≤ l4) (r := []) (by decide +kernel) rfl (by decide) (fun hc_2 => ?_) (fun hc_2 => ?_)
    · replace hf := xif_t hc_2 hf
      refine XW.pick [2] (ls' := [(3, .int l3)]) rfl ?_
      exact hk l3 l4 hf
    · replace hf := xif_f hc_2 hf
      refine Xblk hX pkX1_ok [.lload_n 1, .aload_n 0, .getfield 18, .iconst 0, .laload, .land, .aload_n 0, .iload 4] (pc' := 37) (ls' := [(0, .ref 2), (1, .long l1), (3, .int l3), (4, .int l4)]) (st' := [.int l4, .ref 2, .long (l1 &&& (h.2 5 0))]) (h' := h) (g := true) (by decide +kernel) rfl rfl rfl ?_
      obtain ⟨v_4, hc_3, hf⟩ := xbd1_inv hf
      refine XcallV hX (mt_hall_looksLike l4 h hc_3) (rest := [.long (l1 &&& (h.2 5 0))]) (by decide) (by decide) xm_X1_looksLike xi_X1_looksLike xs_X1_looksLike xl_RX1_59 (by decide) (xsh_2) rfl rfl rfl (Nat.le_of_ble_eq_true rfl) (by decide +kernel) ?_
      show XW X 40 [(0, .ref 2), (1, .long l1), (3, .int l3), (4, .int l4)] [.long v_4, .long (l1 &&& (h.2 5 0))] h
      refine Xblk hX pkX1_ok [.land, .lconst 0, .lcmp] (pc' := 43) (ls' := [(0, .ref 2), (1, .long l1), (3, .int l3), (4, .int l4)]) (st' := [.int (lg_cmp ((l1 &&& (h.2 5 0)) &&& v_4) (0 : Int64))]) (h' := h) (g := true) (by decide +kernel) rfl rfl rfl ?_
      have kJ_7 : ∀ (w_6 : Int32), w_6 = (if (lg_cmp ((l1 &&& (h.2 5 0)) &&& v_4) (0 : Int64)) = (0 : Int32) then l3 else (l3 + (1 : Int32))) → XW X 49 [(0, .ref 2), (1, .long l1), (3, .int w_6), (4, .int l4)] [] h := by
        intro w_6 ew_6
        subst ew_6
        refine Xblk hX pkX1_ok [.iinc 4 1] (pc' := 52) (ls' := [(4, .int (l4 + (1 : Int32))), (0, .ref 2), (1, .long l1), (3, .int (if (lg_cmp ((l1 &&& (h.2 5 0)) &&& v_4) (0 : Int64)) = (0 : Int32) then l3 else (l3 + (1 : Int32))))]) (st' := []) (h' := h) (g := true) (by decide +kernel) rfl rfl rfl ?_
        refine Xgoto hX (-33) 19 (by decide +kernel) (by decide) ?_
        refine XW.pick [1, 2, 3, 0] (ls' := [(0, .ref 2), (1, .long l1), (3, .int (if (lg_cmp ((l1 &&& (h.2 5 0)) &&& v_4) (0 : Int64)) = (0 : Int32) then l3 else (l3 + (1 : Int32)))), (4, .int (l4 + (1 : Int32)))]) rfl ?_
        exact ih (if (lg_cmp ((l1 &&& (h.2 5 0)) &&& v_4) (0 : Int64)) = (0 : Int32) then l3 else (l3 + (1 : Int32))) (l4 + (1 : Int32)) hf
      refine Xbr hX (.ifCond .eq (6)) (tgt := 49) (P := (lg_cmp ((l1 &&& (h.2 5 0)) &&& v_4) (0 : Int64)) = (0 : Int32)) (r := []) (by decide +kernel) rfl (by decide) (fun hc_5 => ?_) (fun hc_5 => ?_)
      · refine XW.pick [0, 1, 2, 3] (ls' := [(0, .ref 2), (1, .long l1), (3, .int l3), (4, .int l4)]) rfl ?_
        exact kJ_7 _ (by rw [if_pos hc_5])
      · refine Xblk hX pkX1_ok [.iinc 3 1] (pc' := 49) (ls' := [(3, .int (l3 + (1 : Int32))), (0, .ref 2), (1, .long l1), (4, .int l4)]) (st' := []) (h' := h) (g := true) (by decide +kernel) rfl rfl rfl ?_
        refine XW.pick [1, 2, 0, 3] (ls' := [(0, .ref 2), (1, .long l1), (3, .int (l3 + (1 : Int32))), (4, .int l4)]) rfl ?_
        exact kJ_7 _ (by rw [if_neg hc_5])
set_option maxRecDepth 100000 in
set_option maxHeartbeats 4000000 in
theorem mt_hall_unlikeLooks (l1 : Int64) (h : Hp) {r : Int32} (hf : f_hall_unlikeLooks l1 h = some r) : MT 3 39 yX1_unlikeLooks cX1_unlikeLooks 5 (some .int) [.ref 2, .long l1] h (some (.int r)) h := by
  refine MT.of (by decide +kernel) (Nat.le_of_ble_eq_true rfl) fun X hX hR => ?_
  unfold f_hall_unlikeLooks at hf
  refine Xblk hX pkX1_ok [.lload_n 1, .aload_n 0, .getfield 18, .iconst 0, .laload, .ldc2_w 51, .lxor, .land] (pc' := 12) (ls' := [(0, .ref 2), (1, .long l1)]) (st' := [.long (l1 &&& ((h.2 5 0) ^^^ (-1 : Int64)))]) (h' := h) (g := true) (by decide +kernel) rfl rfl rfl ?_
  refine XcallS hX (mt_j_bitCount (l1 &&& ((h.2 5 0) ^^^ (-1 : Int64))) h) (rest := []) (by decide) (by decide) xm_J13_bitCount_95d88 xi_J13_bitCount_95d88 xl_RX1_53 rfl (Nat.le_of_ble_eq_true rfl) (by decide +kernel) ?_
  show XW X 15 [(0, .ref 2), (1, .long l1)] [.int (f_j_bitCount (l1 &&& ((h.2 5 0) ^^^ (-1 : Int64))))] h
  refine Xblk hX pkX1_ok [.istore_n 3, .iconst 0, .istore 4] (pc' := 19) (ls' := [(4, .int (0 : Int32)), (3, .int (f_j_bitCount (l1 &&& ((h.2 5 0) ^^^ (-1 : Int64))))), (0, .ref 2), (1, .long l1)]) (st' := []) (h' := h) (g := true) (by decide +kernel) rfl rfl rfl ?_
  refine XW.pick [2, 3, 1, 0] (ls' := [(0, .ref 2), (1, .long l1), (3, .int (f_j_bitCount (l1 &&& ((h.2 5 0) ^^^ (-1 : Int64))))), (4, .int (0 : Int32))]) rfl ?_
  refine f_hall_unlikeLooks_L_1_ok hX hR l1 _  (fun l3_8 l4_9 hf => ?_) 1000 (f_j_bitCount (l1 &&& ((h.2 5 0) ^^^ (-1 : Int64)))) (0 : Int32) hf
  refine Xblk hX pkX1_ok [.iload_n 3] (pc' := 56) (ls' := [(3, .int l3_8)]) (st' := [.int l3_8]) (h' := h) (g := true) (by decide +kernel) rfl rfl rfl ?_
  exact XrI1 hX hR hf (by decide +kernel)
def f_x_tells_L_3  (l1 : Int32) (h : Hp) (k : Int32 → Int32 → Int32 → Option (Int32)) : Nat → Int32 → Int32 → Int32 → Option (Int32)
  | 0, _, _, _ => none
  | n + 1, l2, l3, l4 =>
    if (4 : Int32) ≤ l4 then
      k l2 l3 l4
    else
      xbd1 (f_hall_unlikeLooks (f_hall_stepped (h.2 0 8) l4 h) h) fun v_6 =>
      (f_x_tells_L_3 l1 h k n) (if v_6 ≤ l3 then l2 else l4) (if v_6 ≤ l3 then l3 else v_6) (l4 + (1 : Int32))
def f_x_tells (l1 : Int32) (h : Hp) : Option (Int32) :=
  if l1 < (0 : Int32) then
    some (-1 : Int32)
  else
    if l1 ≤ (1 : Int32) then
      f_x_tells_L_3 l1 h (fun l2_11 l3_12 l4_13 =>
        some (if l1 = (0 : Int32) then l2_11 else l3_12)
        ) 1000 (0 : Int32) (0 : Int32) (0 : Int32)
    else
      some (-1 : Int32)
set_option maxRecDepth 100000 in
set_option maxHeartbeats 4000000 in
theorem f_x_tells_L_3_ok {X : XCtx} (hX : XOk X RX4 cX4_tells 6 4 39) {r : Int32} {h : Hp} (hR : XR X (some .int) (some (.int r)) h)  (l1 : Int32)  (k : Int32 → Int32 → Int32 → Option (Int32))  (hk : ∀ (l2 : Int32) (l3 : Int32) (l4 : Int32), k l2 l3 l4 = some r → XW X 64 [(1, .int l1), (2, .int l2), (3, .int l3)] [] h) : ∀ (n : Nat) (l2 : Int32) (l3 : Int32) (l4 : Int32), f_x_tells_L_3 l1 h k n l2 l3 l4 = some r → XW X 18 [(0, .ref 0), (1, .int l1), (2, .int l2), (3, .int l3), (4, .int l4)] [] h := by
  intro n
  induction n with
  | zero => intro l2 l3 l4 hf; cases hf
  | succ n ih =>
    intro l2 l3 l4 hf
    rw [f_x_tells_L_3] at hf
    refine Xblk hX pkX4_ok [.iload 4, .iconst 4] (pc' := 21) (ls' := [(0, .ref 0), (1, .int l1), (2, .int l2), (3, .int l3), (4, .int l4)]) (st' := [.int (4 : Int32), .int l4]) (h' := h) (g := true) (by decide +kernel) rfl rfl rfl ?_
    refine Xbr hX (.if_icmp .ge (43)) (tgt := 64) (P := (4 : Int32) ≤ l4) (r := []) (by decide +kernel) rfl (by decide) (fun hc_4 => ?_) (fun hc_4 => ?_)
    · replace hf := xif_t hc_4 hf
      refine XW.pick [1, 2, 3] (ls' := [(1, .int l1), (2, .int l2), (3, .int l3)]) rfl ?_
      exact hk l2 l3 l4 hf
    · replace hf := xif_f hc_4 hf
      refine Xblk hX pkX4_ok [.aload_n 0, .getfield 16, .aload_n 0, .getfield 16, .aload_n 0, .getfield 101, .iload 4] (pc' := 38) (ls' := [(0, .ref 0), (1, .int l1), (2, .int l2), (3, .int l3), (4, .int l4)]) (st' := [.int l4, .long (h.2 0 8), .ref 2, .ref 2]) (h' := h) (g := true) (by decide +kernel) rfl rfl rfl ?_
      refine XcallV hX (mt_hall_stepped (h.2 0 8) l4 h) (rest := [.ref 2]) (by decide) (by decide) xm_X1_stepped xi_X1_stepped xs_X1_stepped xl_RX4_217 (by decide) (xsh_2) rfl rfl rfl (Nat.le_of_ble_eq_true rfl) (by decide +kernel) ?_
      show XW X 41 [(0, .ref 0), (1, .int l1), (2, .int l2), (3, .int l3), (4, .int l4)] [.long (f_hall_stepped (h.2 0 8) l4 h), .ref 2] h
      obtain ⟨v_6, hc_5, hf⟩ := xbd1_inv hf
      refine XcallV hX (mt_hall_unlikeLooks (f_hall_stepped (h.2 0 8) l4 h) h hc_5) (rest := []) (by decide) (by decide) xm_X1_unlikeLooks xi_X1_unlikeLooks xs_X1_unlikeLooks xl_RX4_221 (by decide) (xsh_2) rfl rfl rfl (Nat.le_of_ble_eq_true rfl) (by decide +kernel) ?_
      show XW X 44 [(0, .ref 0), (1, .int l1), (2, .int l2), (3, .int l3), (4, .int l4)] [.int v_6] h
      refine Xblk hX pkX4_ok [.istore 5, .iload 5, .iload_n 3] (pc' := 49) (ls' := [(5, .int v_6), (0, .ref 0), (1, .int l1), (2, .int l2), (3, .int l3), (4, .int l4)]) (st' := [.int l3, .int v_6]) (h' := h) (g := true) (by decide +kernel) rfl rfl rfl ?_
      have kJ_10 : ∀ (w_8 : Int32), w_8 = (if v_6 ≤ l3 then l2 else l4) → ∀ (w_9 : Int32), w_9 = (if v_6 ≤ l3 then l3 else v_6) → XW X 58 [(0, .ref 0), (1, .int l1), (2, .int w_8), (3, .int w_9), (4, .int l4)] [] h := by
        intro w_8 ew_8 w_9 ew_9
        subst ew_8
        subst ew_9
        refine Xblk hX pkX4_ok [.iinc 4 1] (pc' := 61) (ls' := [(4, .int (l4 + (1 : Int32))), (0, .ref 0), (1, .int l1), (2, .int (if v_6 ≤ l3 then l2 else l4)), (3, .int (if v_6 ≤ l3 then l3 else v_6))]) (st' := []) (h' := h) (g := true) (by decide +kernel) rfl rfl rfl ?_
        refine Xgoto hX (-43) 18 (by decide +kernel) (by decide) ?_
        refine XW.pick [1, 2, 3, 4, 0] (ls' := [(0, .ref 0), (1, .int l1), (2, .int (if v_6 ≤ l3 then l2 else l4)), (3, .int (if v_6 ≤ l3 then l3 else v_6)), (4, .int (l4 + (1 : Int32)))]) rfl ?_
        exact ih (if v_6 ≤ l3 then l2 else l4) (if v_6 ≤ l3 then l3 else v_6) (l4 + (1 : Int32)) hf
      refine Xbr hX (.if_icmp .le (9)) (tgt := 58) (P := v_6 ≤ l3) (r := []) (by decide +kernel) rfl (by decide) (fun hc_7 => ?_) (fun hc_7 => ?_)
      · refine XW.pick [1, 2, 3, 4, 5] (ls' := [(0, .ref 0), (1, .int l1), (2, .int l2), (3, .int l3), (4, .int l4)]) rfl ?_
        exact kJ_10 _ (by rw [if_pos hc_7]) _ (by rw [if_pos hc_7])
      · refine Xblk hX pkX4_ok [.iload 4, .istore_n 2, .iload 5, .istore_n 3] (pc' := 58) (ls' := [(3, .int v_6), (2, .int l4), (5, .int v_6), (0, .ref 0), (1, .int l1), (4, .int l4)]) (st' := []) (h' := h) (g := true) (by decide +kernel) rfl rfl rfl ?_
        refine XW.pick [3, 4, 1, 0, 5] (ls' := [(0, .ref 0), (1, .int l1), (2, .int l4), (3, .int v_6), (4, .int l4)]) rfl ?_
        exact kJ_10 _ (by rw [if_neg hc_7]) _ (by rw [if_neg hc_7])
set_option maxRecDepth 100000 in
set_option maxHeartbeats 4000000 in
theorem mt_x_tells (l1 : Int32) (h : Hp) {r : Int32} (hf : f_x_tells l1 h = some r) : MT 4 39 yX4_tells cX4_tells 6 (some .int) [.ref 0, .int l1] h (some (.int r)) h := by
  refine MT.of (by decide +kernel) (Nat.le_of_ble_eq_true rfl) fun X hX hR => ?_
  unfold f_x_tells at hf
  refine Xblk hX pkX4_ok [.iload_n 1] (pc' := 1) (ls' := [(0, .ref 0), (1, .int l1)]) (st' := [.int l1]) (h' := h) (g := true) (by decide +kernel) rfl rfl rfl ?_
  refine Xbr hX (.ifCond .lt (8)) (tgt := 9) (P := l1 < (0 : Int32)) (r := []) (by decide +kernel) rfl (by decide) (fun hc_1 => ?_) (fun hc_1 => ?_)
  · replace hf := xif_t hc_1 hf
    refine Xblk hX pkX4_ok [.iconst (-1)] (pc' := 10) (ls' := [(0, .ref 0), (1, .int l1)]) (st' := [.int (-1 : Int32)]) (h' := h) (g := true) (by decide +kernel) rfl rfl rfl ?_
    exact XrI1 hX hR hf (by decide +kernel)
  · replace hf := xif_f hc_1 hf
    refine Xblk hX pkX4_ok [.iload_n 1, .iconst 1] (pc' := 6) (ls' := [(0, .ref 0), (1, .int l1)]) (st' := [.int (1 : Int32), .int l1]) (h' := h) (g := true) (by decide +kernel) rfl rfl rfl ?_
    refine Xbr hX (.if_icmp .le (5)) (tgt := 11) (P := l1 ≤ (1 : Int32)) (r := []) (by decide +kernel) rfl (by decide) (fun hc_2 => ?_) (fun hc_2 => ?_)
    · replace hf := xif_t hc_2 hf
      refine Xblk hX pkX4_ok [.iconst 0, .istore_n 2, .iconst 0, .istore_n 3, .iconst 0, .istore 4] (pc' := 18) (ls' := [(4, .int (0 : Int32)), (3, .int (0 : Int32)), (2, .int (0 : Int32)), (0, .ref 0), (1, .int l1)]) (st' := []) (h' := h) (g := true) (by decide +kernel) rfl rfl rfl ?_
      refine XW.pick [3, 4, 2, 1, 0] (ls' := [(0, .ref 0), (1, .int l1), (2, .int (0 : Int32)), (3, .int (0 : Int32)), (4, .int (0 : Int32))]) rfl ?_
      refine f_x_tells_L_3_ok hX hR l1 _  (fun l2_11 l3_12 l4_13 hf => ?_) 1000 (0 : Int32) (0 : Int32) (0 : Int32) hf
      refine Xblk hX pkX4_ok [.iload_n 1] (pc' := 65) (ls' := [(1, .int l1), (2, .int l2_11), (3, .int l3_12)]) (st' := [.int l1]) (h' := h) (g := true) (by decide +kernel) rfl rfl rfl ?_
      have kJ_16 : ∀ (w_15 : Int32), w_15 = (if l1 = (0 : Int32) then l2_11 else l3_12) → XW X 73 [] [.int w_15] h := by
        intro w_15 ew_15
        subst ew_15
        exact XrI1 hX hR hf (by decide +kernel)
      refine XbrN hX (.ifCond .ne (7)) (tgt := 72) (P := l1 = (0 : Int32)) (r := []) (by decide +kernel) rfl (by decide) (fun hc_14 => ?_) (fun hc_14 => ?_)
      · refine Xblk hX pkX4_ok [.iload_n 2] (pc' := 69) (ls' := [(1, .int l1), (2, .int l2_11), (3, .int l3_12)]) (st' := [.int l2_11]) (h' := h) (g := true) (by decide +kernel) rfl rfl rfl ?_
        refine Xgoto hX (4) 73 (by decide +kernel) (by decide) ?_
        refine XW.pick [] (ls' := []) rfl ?_
        exact kJ_16 _ (by rw [if_pos hc_14])
      · refine Xblk hX pkX4_ok [.iload_n 3] (pc' := 73) (ls' := [(1, .int l1), (2, .int l2_11), (3, .int l3_12)]) (st' := [.int l3_12]) (h' := h) (g := true) (by decide +kernel) rfl rfl rfl ?_
        refine XW.pick [] (ls' := []) rfl ?_
        exact kJ_16 _ (by rw [if_neg hc_14])
    · replace hf := xif_f hc_2 hf
      refine Xblk hX pkX4_ok [.iconst (-1)] (pc' := 10) (ls' := [(0, .ref 0), (1, .int l1)]) (st' := [.int (-1 : Int32)]) (h' := h) (g := true) (by decide +kernel) rfl rfl rfl ?_
      exact XrI1 hX hR hf (by decide +kernel)
def f_orders_add (l1 : Int32) (l2 : Int32) (l3 : Int32) (h : Hp) : Option (Int32 × Hp) :=
  xgd (xin (h.1 30 7) 6 && (xin (h.1 30 7) 6 && (xin (h.1 30 7) 6 && true))) <|
  some ((((h.1 30 7) + (1 : Int32)) - (1 : Int32)), (xI (xI (xI (xI (xI h 31 (h.1 30 7).toNatClampNeg l1) 32 (h.1 30 7).toNatClampNeg l2) 33 (h.1 30 7).toNatClampNeg l3) 30 7 ((h.1 30 7) + (1 : Int32))) 30 10 (0 : Int32)))
set_option maxRecDepth 100000 in
set_option maxHeartbeats 4000000 in
theorem mt_orders_add (l1 : Int32) (l2 : Int32) (l3 : Int32) (h : Hp) {r : Int32} {h' : Hp} (hf : f_orders_add l1 l2 l3 h = some (r, h')) : MT 0 39 yX2_add cX2_add 4 (some .int) [.ref 30, .int l1, .int l2, .int l3] h (some (.int r)) h' := by
  refine MT.of (by decide +kernel) (Nat.le_of_ble_eq_true rfl) fun X hX hR => ?_
  unfold f_orders_add at hf
  obtain ⟨hg, hf⟩ := xgd_inv hf
  refine Xblk hX pkX2_ok [.aload_n 0, .getfield 9, .aload_n 0, .getfield 33, .iload_n 1, .iastore, .aload_n 0, .getfield 15, .aload_n 0, .getfield 33, .iload_n 2, .iastore, .aload_n 0, .getfield 18, .aload_n 0, .getfield 33, .iload_n 3, .iastore, .aload_n 0, .dup, .getfield 33, .iconst 1, .iadd, .putfield 33, .aload_n 0, .iconst 0, .putfield 37, .aload_n 0, .getfield 33, .iconst 1, .isub] (pc' := 51) (ls' := [(0, .ref 30), (1, .int l1), (2, .int l2), (3, .int l3)]) (st' := [.int (((h.1 30 7) + (1 : Int32)) - (1 : Int32))]) (h' := (xI (xI (xI (xI (xI h 31 (h.1 30 7).toNatClampNeg l1) 32 (h.1 30 7).toNatClampNeg l2) 33 (h.1 30 7).toNatClampNeg l3) 30 7 ((h.1 30 7) + (1 : Int32))) 30 10 (0 : Int32))) (g := (xin (h.1 30 7) 6 && (xin (h.1 30 7) 6 && (xin (h.1 30 7) 6 && true)))) (by decide +kernel) rfl rfl hg ?_
  exact XrI2 hX hR hf (by decide +kernel)
def f_x_order (l1 : Int32) (l2 : Int32) (l3 : Int32) (h : Hp) : Option (Int32 × Hp) :=
  if (f_hall_has l1 h) = (0 : Int32) then
    some ((-1 : Int32), h)
  else
    if (f_hall_has l2 h) = (0 : Int32) then
      some ((-1 : Int32), h)
    else
      if l3 < (0 : Int32) then
        some ((-1 : Int32), h)
      else
        if l3 ≤ (200 : Int32) then
          if (f_hall_isFree l1 h) = (0 : Int32) then
            some ((-2 : Int32), h)
          else
            if (f_hall_isFree l2 h) = (0 : Int32) then
              some ((-2 : Int32), h)
            else
              if (6 : Int32) ≤ (h.1 30 7) then
                some ((-3 : Int32), h)
              else
                xbd2 (f_orders_add l1 l2 l3 h) fun v_11 h_10 =>
                some (v_11, h_10)
        else
          some ((-1 : Int32), h)
set_option maxRecDepth 100000 in
set_option maxHeartbeats 4000000 in
theorem mt_x_order (l1 : Int32) (l2 : Int32) (l3 : Int32) (h : Hp) {r : Int32} {h' : Hp} (hf : f_x_order l1 l2 l3 h = some (r, h')) : MT 1 39 yX4_order cX4_order 4 (some .int) [.ref 0, .int l1, .int l2, .int l3] h (some (.int r)) h' := by
  refine MT.of (by decide +kernel) (Nat.le_of_ble_eq_true rfl) fun X hX hR => ?_
  unfold f_x_order at hf
  refine Xblk hX pkX4_ok [.aload_n 0, .getfield 16, .iload_n 1] (pc' := 5) (ls' := [(0, .ref 0), (1, .int l1), (2, .int l2), (3, .int l3)]) (st' := [.int l1, .ref 2]) (h' := h) (g := true) (by decide +kernel) rfl rfl rfl ?_
  refine XcallV hX (mt_hall_has l1 h) (rest := []) (by decide) (by decide) xm_X1_has xi_X1_has xs_X1_has xl_RX4_76 (by decide) (xsh_2) rfl rfl rfl (Nat.le_of_ble_eq_true rfl) (by decide +kernel) ?_
  show XW X 8 [(0, .ref 0), (1, .int l1), (2, .int l2), (3, .int l3)] [.int (f_hall_has l1 h)] h
  refine Xbr hX (.ifCond .eq (25)) (tgt := 33) (P := (f_hall_has l1 h) = (0 : Int32)) (r := []) (by decide +kernel) rfl (by decide) (fun hc_1 => ?_) (fun hc_1 => ?_)
  · replace hf := xif_t hc_1 hf
    refine Xblk hX pkX4_ok [.iconst (-1)] (pc' := 34) (ls' := [(0, .ref 0), (1, .int l1), (2, .int l2), (3, .int l3)]) (st' := [.int (-1 : Int32)]) (h' := h) (g := true) (by decide +kernel) rfl rfl rfl ?_
    exact XrI2 hX hR hf (by decide +kernel)
  · replace hf := xif_f hc_1 hf
    refine Xblk hX pkX4_ok [.aload_n 0, .getfield 16, .iload_n 2] (pc' := 16) (ls' := [(0, .ref 0), (1, .int l1), (2, .int l2), (3, .int l3)]) (st' := [.int l2, .ref 2]) (h' := h) (g := true) (by decide +kernel) rfl rfl rfl ?_
    refine XcallV hX (mt_hall_has l2 h) (rest := []) (by decide) (by decide) xm_X1_has xi_X1_has xs_X1_has xl_RX4_76 (by decide) (xsh_2) rfl rfl rfl (Nat.le_of_ble_eq_true rfl) (by decide +kernel) ?_
    show XW X 19 [(0, .ref 0), (1, .int l1), (2, .int l2), (3, .int l3)] [.int (f_hall_has l2 h)] h
    refine Xbr hX (.ifCond .eq (14)) (tgt := 33) (P := (f_hall_has l2 h) = (0 : Int32)) (r := []) (by decide +kernel) rfl (by decide) (fun hc_2 => ?_) (fun hc_2 => ?_)
    · replace hf := xif_t hc_2 hf
      refine Xblk hX pkX4_ok [.iconst (-1)] (pc' := 34) (ls' := [(0, .ref 0), (1, .int l1), (2, .int l2), (3, .int l3)]) (st' := [.int (-1 : Int32)]) (h' := h) (g := true) (by decide +kernel) rfl rfl rfl ?_
      exact XrI2 hX hR hf (by decide +kernel)
    · replace hf := xif_f hc_2 hf
      refine Xblk hX pkX4_ok [.iload_n 3] (pc' := 23) (ls' := [(0, .ref 0), (1, .int l1), (2, .int l2), (3, .int l3)]) (st' := [.int l3]) (h' := h) (g := true) (by decide +kernel) rfl rfl rfl ?_
      refine Xbr hX (.ifCond .lt (10)) (tgt := 33) (P := l3 < (0 : Int32)) (r := []) (by decide +kernel) rfl (by decide) (fun hc_3 => ?_) (fun hc_3 => ?_)
      · replace hf := xif_t hc_3 hf
        refine Xblk hX pkX4_ok [.iconst (-1)] (pc' := 34) (ls' := [(0, .ref 0), (1, .int l1), (2, .int l2), (3, .int l3)]) (st' := [.int (-1 : Int32)]) (h' := h) (g := true) (by decide +kernel) rfl rfl rfl ?_
        exact XrI2 hX hR hf (by decide +kernel)
      · replace hf := xif_f hc_3 hf
        refine Xblk hX pkX4_ok [.iload_n 3, .sipush 200] (pc' := 30) (ls' := [(0, .ref 0), (1, .int l1), (2, .int l2), (3, .int l3)]) (st' := [.int (200 : Int32), .int l3]) (h' := h) (g := true) (by decide +kernel) rfl rfl rfl ?_
        refine Xbr hX (.if_icmp .le (5)) (tgt := 35) (P := l3 ≤ (200 : Int32)) (r := []) (by decide +kernel) rfl (by decide) (fun hc_4 => ?_) (fun hc_4 => ?_)
        · replace hf := xif_t hc_4 hf
          refine Xblk hX pkX4_ok [.aload_n 0, .getfield 16, .iload_n 1] (pc' := 40) (ls' := [(0, .ref 0), (1, .int l1), (2, .int l2), (3, .int l3)]) (st' := [.int l1, .ref 2]) (h' := h) (g := true) (by decide +kernel) rfl rfl rfl ?_
          refine XcallV hX (mt_hall_isFree l1 h) (rest := []) (by decide) (by decide) xm_X1_isFree xi_X1_isFree xs_X1_isFree xl_RX4_111 (by decide) (xsh_2) rfl rfl rfl (Nat.le_of_ble_eq_true rfl) (by decide +kernel) ?_
          show XW X 43 [(0, .ref 0), (1, .int l1), (2, .int l2), (3, .int l3)] [.int (f_hall_isFree l1 h)] h
          refine Xbr hX (.ifCond .eq (14)) (tgt := 57) (P := (f_hall_isFree l1 h) = (0 : Int32)) (r := []) (by decide +kernel) rfl (by decide) (fun hc_5 => ?_) (fun hc_5 => ?_)
          · replace hf := xif_t hc_5 hf
            refine Xblk hX pkX4_ok [.bipush (-2)] (pc' := 59) (ls' := [(0, .ref 0), (1, .int l1), (2, .int l2), (3, .int l3)]) (st' := [.int (-2 : Int32)]) (h' := h) (g := true) (by decide +kernel) rfl rfl rfl ?_
            exact XrI2 hX hR hf (by decide +kernel)
          · replace hf := xif_f hc_5 hf
            refine Xblk hX pkX4_ok [.aload_n 0, .getfield 16, .iload_n 2] (pc' := 51) (ls' := [(0, .ref 0), (1, .int l1), (2, .int l2), (3, .int l3)]) (st' := [.int l2, .ref 2]) (h' := h) (g := true) (by decide +kernel) rfl rfl rfl ?_
            refine XcallV hX (mt_hall_isFree l2 h) (rest := []) (by decide) (by decide) xm_X1_isFree xi_X1_isFree xs_X1_isFree xl_RX4_111 (by decide) (xsh_2) rfl rfl rfl (Nat.le_of_ble_eq_true rfl) (by decide +kernel) ?_
            show XW X 54 [(0, .ref 0), (1, .int l1), (2, .int l2), (3, .int l3)] [.int (f_hall_isFree l2 h)] h
            refine XbrN hX (.ifCond .ne (6)) (tgt := 60) (P := (f_hall_isFree l2 h) = (0 : Int32)) (r := []) (by decide +kernel) rfl (by decide) (fun hc_6 => ?_) (fun hc_6 => ?_)
            · replace hf := xif_t hc_6 hf
              refine Xblk hX pkX4_ok [.bipush (-2)] (pc' := 59) (ls' := [(0, .ref 0), (1, .int l1), (2, .int l2), (3, .int l3)]) (st' := [.int (-2 : Int32)]) (h' := h) (g := true) (by decide +kernel) rfl rfl rfl ?_
              exact XrI2 hX hR hf (by decide +kernel)
            · replace hf := xif_f hc_6 hf
              refine Xblk hX pkX4_ok [.aload_n 0, .getfield 41, .getfield 224, .bipush 6] (pc' := 69) (ls' := [(0, .ref 0), (1, .int l1), (2, .int l2), (3, .int l3)]) (st' := [.int (6 : Int32), .int (h.1 30 7)]) (h' := h) (g := true) (by decide +kernel) rfl rfl rfl ?_
              refine Xbr hX (.if_icmp .ge (16)) (tgt := 85) (P := (6 : Int32) ≤ (h.1 30 7)) (r := []) (by decide +kernel) rfl (by decide) (fun hc_8 => ?_) (fun hc_8 => ?_)
              · replace hf := xif_t hc_8 hf
                refine Xblk hX pkX4_ok [.bipush (-3)] (pc' := 87) (ls' := [(0, .ref 0), (1, .int l1), (2, .int l2), (3, .int l3)]) (st' := [.int (-3 : Int32)]) (h' := h) (g := true) (by decide +kernel) rfl rfl rfl ?_
                exact XrI2 hX hR hf (by decide +kernel)
              · replace hf := xif_f hc_8 hf
                refine Xblk hX pkX4_ok [.aload_n 0, .getfield 41, .iload_n 1, .iload_n 2, .iload_n 3] (pc' := 79) (ls' := [(0, .ref 0), (1, .int l1), (2, .int l2), (3, .int l3)]) (st' := [.int l3, .int l2, .int l1, .ref 30]) (h' := h) (g := true) (by decide +kernel) rfl rfl rfl ?_
                obtain ⟨v_11, h_10, hc_9, hf⟩ := xbd2_inv hf
                refine XcallV hX (mt_orders_add l1 l2 l3 h hc_9) (rest := []) (by decide) (by decide) xm_X2_add xi_X2_add xs_X2_add xl_RX4_227 (by decide) (xsh_30) rfl rfl rfl (Nat.le_of_ble_eq_true rfl) (by decide +kernel) ?_
                show XW X 82 [(0, .ref 0), (1, .int l1), (2, .int l2), (3, .int l3)] [.int v_11] h_10
                refine Xgoto hX (5) 87 (by decide +kernel) (by decide) ?_
                exact XrI2 hX hR hf (by decide +kernel)
        · replace hf := xif_f hc_4 hf
          refine Xblk hX pkX4_ok [.iconst (-1)] (pc' := 34) (ls' := [(0, .ref 0), (1, .int l1), (2, .int l2), (3, .int l3)]) (st' := [.int (-1 : Int32)]) (h' := h) (g := true) (by decide +kernel) rfl rfl rfl ?_
          exact XrI2 hX hR hf (by decide +kernel)
def f_j_fill_35_L_1  (l1 : Int32) (l3 : Int32)  (k : Int32 → Hp → Option (Hp)) : Nat → Int32 → Hp → Option (Hp)
  | 0, _, _ => none
  | n + 1, l2, h =>
    if l3 ≤ l2 then
      k l2 h
    else
      xgd (xin l2 128 && true) <|
      (f_j_fill_35_L_1 l1 l3 k n) (l2 + (1 : Int32)) (xI h 35 l2.toNatClampNeg l1)
def f_j_fill_35 (l1 : Int32) (h : Hp) : Option (Hp) :=
  f_j_fill_35_L_1 l1 (Int32.ofNat 128) (fun l2_3 h_4 =>
    some h_4
    ) 1000 (0 : Int32) h
set_option maxRecDepth 100000 in
set_option maxHeartbeats 4000000 in
theorem f_j_fill_35_L_1_ok {X : XCtx} (hX : XOk X RJ7 cJ7_fill_53178 4 0 39) {h' : Hp} (hR : XR X none none h')  (l1 : Int32) (l3 : Int32)  (k : Int32 → Hp → Option (Hp))  (hk : ∀ (l2 : Int32) (h : Hp), k l2 h = some h' → XW X 20 [] [] h) : ∀ (n : Nat) (l2 : Int32) (h : Hp), f_j_fill_35_L_1 l1 l3 k n l2 h = some h' → XW X 5 [(0, .ref 35), (1, .int l1), (2, .int l2), (3, .int l3)] [] h := by
  intro n
  induction n with
  | zero => intro l2 h hf; cases hf
  | succ n ih =>
    intro l2 h hf
    rw [f_j_fill_35_L_1] at hf
    refine Xblk hX pkJ7_ok [.iload_n 2, .iload_n 3] (pc' := 7) (ls' := [(0, .ref 35), (1, .int l1), (2, .int l2), (3, .int l3)]) (st' := [.int l3, .int l2]) (h' := h) (g := true) (by decide +kernel) rfl rfl rfl ?_
    refine Xbr hX (.if_icmp .ge (13)) (tgt := 20) (P := l3 ≤ l2) (r := []) (by decide +kernel) rfl (by decide) (fun hc_2 => ?_) (fun hc_2 => ?_)
    · replace hf := xif_t hc_2 hf
      refine XW.pick [] (ls' := []) rfl ?_
      exact hk l2 h hf
    · replace hf := xif_f hc_2 hf
      obtain ⟨hg, hf⟩ := xgd_inv hf
      refine Xblk hX pkJ7_ok [.aload_n 0, .iload_n 2, .iload_n 1, .iastore, .iinc 2 1] (pc' := 17) (ls' := [(2, .int (l2 + (1 : Int32))), (0, .ref 35), (1, .int l1), (3, .int l3)]) (st' := []) (h' := (xI h 35 l2.toNatClampNeg l1)) (g := (xin l2 128 && true)) (by decide +kernel) rfl rfl hg ?_
      refine Xgoto hX (-12) 5 (by decide +kernel) (by decide) ?_
      refine XW.pick [1, 2, 0, 3] (ls' := [(0, .ref 35), (1, .int l1), (2, .int (l2 + (1 : Int32))), (3, .int l3)]) rfl ?_
      exact ih (l2 + (1 : Int32)) (xI h 35 l2.toNatClampNeg l1) hf
set_option maxRecDepth 100000 in
set_option maxHeartbeats 4000000 in
theorem mt_j_fill_35 (l1 : Int32) (h : Hp) {h' : Hp} (hf : f_j_fill_35 l1 h = some h') : MT 0 39 yJ7_fill_53178 cJ7_fill_53178 4 none [.ref 35, .int l1] h none h' := by
  refine MT.of (by decide +kernel) (Nat.le_of_ble_eq_true rfl) fun X hX hR => ?_
  unfold f_j_fill_35 at hf
  refine Xblk hX pkJ7_ok [.iconst 0, .istore_n 2, .aload_n 0, .arraylength, .istore_n 3] (pc' := 5) (ls' := [(3, .int (Int32.ofNat 128)), (2, .int (0 : Int32)), (0, .ref 35), (1, .int l1)]) (st' := []) (h' := h) (g := true) (by decide +kernel) rfl rfl rfl ?_
  refine XW.pick [2, 3, 1, 0] (ls' := [(0, .ref 35), (1, .int l1), (2, .int (0 : Int32)), (3, .int (Int32.ofNat 128))]) rfl ?_
  refine f_j_fill_35_L_1_ok hX hR l1 (Int32.ofNat 128) _  (fun l2_3 h_4 hf => ?_) 1000 (0 : Int32) h hf
  exact XrV2 hX hR hf (by decide +kernel)
def f_orders_tryRows_L_6 (slf : Int32 → Int32 → Int32 → Int32 → Int32 → Int32 → Int32 → Hp → Option (Hp)) (l1 : Int32) (l2 : Int32) (l3 : Int32) (l4 : Int32) (l5 : Int32) (l6 : Int32) (l7 : Int32)  (k : Int32 → Hp → Option (Hp)) : Nat → Int32 → Hp → Option (Hp)
  | 0, _, _ => none
  | n + 1, l9, h =>
    if (h.1 30 7) ≤ l9 then
      k l9 h
    else
      if ((jshr l3 l9) &&& (1 : Int32)) = (0 : Int32) then
        xgd (xin l9 6 && (xin (((6 : Int32) * l9) + l9) 48 && (xin (((6 : Int32) * l2) + l9) 48 && true))) <|
        xbd1 (slf l1 l9 (l3 ||| (jshl (1 : Int32) l9)) (l4 ||| (jshl (l9 + (1 : Int32)) ((4 : Int32) * l7))) ((l5 + (h.1 34 (((6 : Int32) * l2) + l9).toNatClampNeg)) + (h.1 34 (((6 : Int32) * l9) + l9).toNatClampNeg)) (l6 + (jmax (0 : Int32) (((l5 + (h.1 34 (((6 : Int32) * l2) + l9).toNatClampNeg)) + (h.1 34 (((6 : Int32) * l9) + l9).toNatClampNeg)) - (h.1 33 l9.toNatClampNeg)))) (l7 + (1 : Int32)) h) fun h_11 =>
        (f_orders_tryRows_L_6 slf l1 l2 l3 l4 l5 l6 l7 k n) (l9 + (1 : Int32)) h_11
      else
        (f_orders_tryRows_L_6 slf l1 l2 l3 l4 l5 l6 l7 k n) (l9 + (1 : Int32)) h
def f_orders_tryRows_j_4 (slf : Int32 → Int32 → Int32 → Int32 → Int32 → Int32 → Int32 → Hp → Option (Hp)) (l1 : Int32) (l2 : Int32) (l3 : Int32) (l4 : Int32) (l5 : Int32) (l6 : Int32) (l7 : Int32) (h : Hp) : Option (Hp) :=
  if l7 < (6 : Int32) then
    f_orders_tryRows_L_6 slf l1 l2 l3 l4 l5 l6 l7 (fun l9_12 h_13 =>
      some h_13
      ) 1000 (0 : Int32) h
  else
    some h
def f_orders_tryRows : Nat → Int32 → Int32 → Int32 → Int32 → Int32 → Int32 → Int32 → Hp → Option (Hp)
  | 0, _, _, _, _, _, _, _, _ => none
  | n + 1, l1, l2, l3, l4, l5, l6, l7, h =>
    xgd (xin ((jshl (1 : Int32) (h.1 30 7)) - (1 : Int32)) 128 && true) <|
    if l6 < (h.1 35 ((jshl (1 : Int32) (h.1 30 7)) - (1 : Int32)).toNatClampNeg) then
      xgd (xin (((64 : Int32) * l1) + l3) 128 && true) <|
      if (h.1 35 (((64 : Int32) * l1) + l3).toNatClampNeg) ≤ l6 then
        f_orders_tryRows_j_4 (f_orders_tryRows n) l1 l2 l3 l4 l5 l6 l7 h
      else
        xgd (xin (((64 : Int32) * l1) + l3) 128 && (xin (((64 : Int32) * l1) + l3) 128 && true)) <|
        f_orders_tryRows_j_4 (f_orders_tryRows n) l1 l2 l3 l4 l5 l6 l7 (xI (xI h 35 (((64 : Int32) * l1) + l3).toNatClampNeg l6) 36 (((64 : Int32) * l1) + l3).toNatClampNeg l4)
    else
      some h
set_option maxRecDepth 100000 in
set_option maxHeartbeats 4000000 in
theorem f_orders_tryRows_L_6_ok {X : XCtx} {dd : Nat} (hdd : 0 ≤ dd) (hX : XOk X RX2 cX2_tryRows 13 (dd + 1) 39) {h' : Hp} (hR : XR X none none h') (slf : Int32 → Int32 → Int32 → Int32 → Int32 → Int32 → Int32 → Hp → Option (Hp)) (l1 : Int32) (l2 : Int32) (l3 : Int32) (l4 : Int32) (l5 : Int32) (l6 : Int32) (l7 : Int32)  (k : Int32 → Hp → Option (Hp)) (hself : ∀ (l1 : Int32) (l2 : Int32) (l3 : Int32) (l4 : Int32) (l5 : Int32) (l6 : Int32) (l7 : Int32) (h : Hp) (h' : Hp), slf l1 l2 l3 l4 l5 l6 l7 h = some h' → MT dd 39 yX2_tryRows cX2_tryRows 13 none [.ref 30, .int l1, .int l2, .int l3, .int l4, .int l5, .int l6, .int l7] h none h' ∧ True) (hk : ∀ (l9 : Int32) (h : Hp), k l9 h = some h' → XW X 179 [] [] h) : ∀ (n : Nat) (l9 : Int32) (h : Hp), f_orders_tryRows_L_6 slf l1 l2 l3 l4 l5 l6 l7 k n l9 h = some h' → XW X 68 [(0, .ref 30), (1, .int l1), (2, .int l2), (3, .int l3), (4, .int l4), (5, .int l5), (6, .int l6), (7, .int l7), (9, .int l9)] [] h := by
  intro n
  induction n with
  | zero => intro l9 h hf; cases hf
  | succ n ih =>
    intro l9 h hf
    rw [f_orders_tryRows_L_6] at hf
    refine Xblk hX pkX2_ok [.iload 9, .aload_n 0, .getfield 33] (pc' := 74) (ls' := [(0, .ref 30), (1, .int l1), (2, .int l2), (3, .int l3), (4, .int l4), (5, .int l5), (6, .int l6), (7, .int l7), (9, .int l9)]) (st' := [.int (h.1 30 7), .int l9]) (h' := h) (g := true) (by decide +kernel) rfl rfl rfl ?_
    refine Xbr hX (.if_icmp .ge (105)) (tgt := 179) (P := (h.1 30 7) ≤ l9) (r := []) (by decide +kernel) rfl (by decide) (fun hc_7 => ?_) (fun hc_7 => ?_)
    · replace hf := xif_t hc_7 hf
      refine XW.pick [] (ls' := []) rfl ?_
      exact hk l9 h hf
    · replace hf := xif_f hc_7 hf
      refine Xblk hX pkX2_ok [.iload_n 3, .iload 9, .ishr, .iconst 1, .iand] (pc' := 83) (ls' := [(0, .ref 30), (1, .int l1), (2, .int l2), (3, .int l3), (4, .int l4), (5, .int l5), (6, .int l6), (7, .int l7), (9, .int l9)]) (st' := [.int ((jshr l3 l9) &&& (1 : Int32))]) (h' := h) (g := true) (by decide +kernel) rfl rfl rfl ?_
      refine XbrN hX (.ifCond .ne (90)) (tgt := 173) (P := ((jshr l3 l9) &&& (1 : Int32)) = (0 : Int32)) (r := []) (by decide +kernel) rfl (by decide) (fun hc_9 => ?_) (fun hc_9 => ?_)
      · replace hf := xif_t hc_9 hf
        obtain ⟨hg, hf⟩ := xgd_inv hf
        refine Xblk hX pkX2_ok [.iload 5, .aload_n 0, .getfield 21, .bipush 6, .iload_n 2, .imul, .iload 9, .iadd, .iaload, .iadd, .aload_n 0, .getfield 21, .bipush 6, .iload 9, .imul, .iload 9, .iadd, .iaload, .iadd, .istore 10, .iload 4, .iload 9, .iconst 1, .iadd, .iconst 4, .iload 7, .imul, .ishl, .ior, .istore 11, .iconst 0, .iload 10, .aload_n 0, .getfield 18, .iload 9, .iaload, .isub] (pc' := 142) (ls' := [(11, .int (l4 ||| (jshl (l9 + (1 : Int32)) ((4 : Int32) * l7)))), (10, .int ((l5 + (h.1 34 (((6 : Int32) * l2) + l9).toNatClampNeg)) + (h.1 34 (((6 : Int32) * l9) + l9).toNatClampNeg))), (0, .ref 30), (1, .int l1), (2, .int l2), (3, .int l3), (4, .int l4), (5, .int l5), (6, .int l6), (7, .int l7), (9, .int l9)]) (st' := [.int (((l5 + (h.1 34 (((6 : Int32) * l2) + l9).toNatClampNeg)) + (h.1 34 (((6 : Int32) * l9) + l9).toNatClampNeg)) - (h.1 33 l9.toNatClampNeg)), .int (0 : Int32)]) (h' := h) (g := (xin l9 6 && (xin (((6 : Int32) * l9) + l9) 48 && (xin (((6 : Int32) * l2) + l9) 48 && true)))) (by decide +kernel) rfl rfl hg ?_
        refine Xmax hX xl_RX2_84 (by omega) (Nat.le_of_ble_eq_true rfl) (by decide +kernel) ?_
        refine Xblk hX pkX2_ok [.istore 12, .aload_n 0, .iload_n 1, .iload 9, .iload_n 3, .iconst 1, .iload 9, .ishl, .ior, .iload 11, .iload 10, .iload 6, .iload 12, .iadd, .iload 7, .iconst 1, .iadd] (pc' := 170) (ls' := [(12, .int (jmax (0 : Int32) (((l5 + (h.1 34 (((6 : Int32) * l2) + l9).toNatClampNeg)) + (h.1 34 (((6 : Int32) * l9) + l9).toNatClampNeg)) - (h.1 33 l9.toNatClampNeg)))), (11, .int (l4 ||| (jshl (l9 + (1 : Int32)) ((4 : Int32) * l7)))), (10, .int ((l5 + (h.1 34 (((6 : Int32) * l2) + l9).toNatClampNeg)) + (h.1 34 (((6 : Int32) * l9) + l9).toNatClampNeg))), (0, .ref 30), (1, .int l1), (2, .int l2), (3, .int l3), (4, .int l4), (5, .int l5), (6, .int l6), (7, .int l7), (9, .int l9)]) (st' := [.int (l7 + (1 : Int32)), .int (l6 + (jmax (0 : Int32) (((l5 + (h.1 34 (((6 : Int32) * l2) + l9).toNatClampNeg)) + (h.1 34 (((6 : Int32) * l9) + l9).toNatClampNeg)) - (h.1 33 l9.toNatClampNeg)))), .int ((l5 + (h.1 34 (((6 : Int32) * l2) + l9).toNatClampNeg)) + (h.1 34 (((6 : Int32) * l9) + l9).toNatClampNeg)), .int (l4 ||| (jshl (l9 + (1 : Int32)) ((4 : Int32) * l7))), .int (l3 ||| (jshl (1 : Int32) l9)), .int l9, .int l1, .ref 30]) (h' := h) (g := true) (by decide +kernel) rfl rfl rfl ?_
        obtain ⟨h_11, hc_10, hf⟩ := xbd1_inv hf
        refine XcallV hX (hself l1 l9 (l3 ||| (jshl (1 : Int32) l9)) (l4 ||| (jshl (l9 + (1 : Int32)) ((4 : Int32) * l7))) ((l5 + (h.1 34 (((6 : Int32) * l2) + l9).toNatClampNeg)) + (h.1 34 (((6 : Int32) * l9) + l9).toNatClampNeg)) (l6 + (jmax (0 : Int32) (((l5 + (h.1 34 (((6 : Int32) * l2) + l9).toNatClampNeg)) + (h.1 34 (((6 : Int32) * l9) + l9).toNatClampNeg)) - (h.1 33 l9.toNatClampNeg)))) (l7 + (1 : Int32)) h _ hc_10).1 (rest := []) (by decide) (Nat.le_refl _) xm_X2_tryRows xi_X2_tryRows xs_X2_tryRows xl_RX2_63 (by decide) (xsh_30) rfl rfl rfl (Nat.le_of_ble_eq_true rfl) (by decide +kernel) ?_
        show XW X 173 [(12, .int (jmax (0 : Int32) (((l5 + (h.1 34 (((6 : Int32) * l2) + l9).toNatClampNeg)) + (h.1 34 (((6 : Int32) * l9) + l9).toNatClampNeg)) - (h.1 33 l9.toNatClampNeg)))), (11, .int (l4 ||| (jshl (l9 + (1 : Int32)) ((4 : Int32) * l7)))), (10, .int ((l5 + (h.1 34 (((6 : Int32) * l2) + l9).toNatClampNeg)) + (h.1 34 (((6 : Int32) * l9) + l9).toNatClampNeg))), (0, .ref 30), (1, .int l1), (2, .int l2), (3, .int l3), (4, .int l4), (5, .int l5), (6, .int l6), (7, .int l7), (9, .int l9)] [] h_11
        refine Xblk hX pkX2_ok [.iinc 9 1] (pc' := 176) (ls' := [(9, .int (l9 + (1 : Int32))), (12, .int (jmax (0 : Int32) (((l5 + (h.1 34 (((6 : Int32) * l2) + l9).toNatClampNeg)) + (h.1 34 (((6 : Int32) * l9) + l9).toNatClampNeg)) - (h.1 33 l9.toNatClampNeg)))), (11, .int (l4 ||| (jshl (l9 + (1 : Int32)) ((4 : Int32) * l7)))), (10, .int ((l5 + (h.1 34 (((6 : Int32) * l2) + l9).toNatClampNeg)) + (h.1 34 (((6 : Int32) * l9) + l9).toNatClampNeg))), (0, .ref 30), (1, .int l1), (2, .int l2), (3, .int l3), (4, .int l4), (5, .int l5), (6, .int l6), (7, .int l7)]) (st' := []) (h' := h_11) (g := true) (by decide +kernel) rfl rfl rfl ?_
        refine Xgoto hX (-108) 68 (by decide +kernel) (by decide) ?_
        refine XW.pick [4, 5, 6, 7, 8, 9, 10, 11, 0] (ls' := [(0, .ref 30), (1, .int l1), (2, .int l2), (3, .int l3), (4, .int l4), (5, .int l5), (6, .int l6), (7, .int l7), (9, .int (l9 + (1 : Int32)))]) rfl ?_
        exact ih (l9 + (1 : Int32)) h_11 hf
      · replace hf := xif_f hc_9 hf
        refine Xblk hX pkX2_ok [.iinc 9 1] (pc' := 176) (ls' := [(9, .int (l9 + (1 : Int32))), (0, .ref 30), (1, .int l1), (2, .int l2), (3, .int l3), (4, .int l4), (5, .int l5), (6, .int l6), (7, .int l7)]) (st' := []) (h' := h) (g := true) (by decide +kernel) rfl rfl rfl ?_
        refine Xgoto hX (-108) 68 (by decide +kernel) (by decide) ?_
        refine XW.pick [1, 2, 3, 4, 5, 6, 7, 8, 0] (ls' := [(0, .ref 30), (1, .int l1), (2, .int l2), (3, .int l3), (4, .int l4), (5, .int l5), (6, .int l6), (7, .int l7), (9, .int (l9 + (1 : Int32)))]) rfl ?_
        exact ih (l9 + (1 : Int32)) h hf
set_option maxRecDepth 100000 in
set_option maxHeartbeats 4000000 in
theorem f_orders_tryRows_j_4_ok {X : XCtx} {dd : Nat} (hdd : 0 ≤ dd) (hX : XOk X RX2 cX2_tryRows 13 (dd + 1) 39) {h' : Hp} (hR : XR X none none h') (slf : Int32 → Int32 → Int32 → Int32 → Int32 → Int32 → Int32 → Hp → Option (Hp))  (l1 : Int32) (l2 : Int32) (l3 : Int32) (l4 : Int32) (l5 : Int32) (l6 : Int32) (l7 : Int32) (h : Hp) (hself : ∀ (l1 : Int32) (l2 : Int32) (l3 : Int32) (l4 : Int32) (l5 : Int32) (l6 : Int32) (l7 : Int32) (h : Hp) (h' : Hp), slf l1 l2 l3 l4 l5 l6 l7 h = some h' → MT dd 39 yX2_tryRows cX2_tryRows 13 none [.ref 30, .int l1, .int l2, .int l3, .int l4, .int l5, .int l6, .int l7] h none h' ∧ True) (hf : f_orders_tryRows_j_4 slf l1 l2 l3 l4 l5 l6 l7 h = some h') : XW X 57 [(0, .ref 30), (1, .int l1), (2, .int l2), (3, .int l3), (4, .int l4), (5, .int l5), (6, .int l6), (7, .int l7)] [] h := by
  unfold f_orders_tryRows_j_4 at hf
  refine Xblk hX pkX2_ok [.iload 7, .bipush 6] (pc' := 61) (ls' := [(0, .ref 30), (1, .int l1), (2, .int l2), (3, .int l3), (4, .int l4), (5, .int l5), (6, .int l6), (7, .int l7)]) (st' := [.int (6 : Int32), .int l7]) (h' := h) (g := true) (by decide +kernel) rfl rfl rfl ?_
  refine Xbr hX (.if_icmp .lt (4)) (tgt := 65) (P := l7 < (6 : Int32)) (r := []) (by decide +kernel) rfl (by decide) (fun hc_5 => ?_) (fun hc_5 => ?_)
  · replace hf := xif_t hc_5 hf
    refine Xblk hX pkX2_ok [.iconst 0, .istore 9] (pc' := 68) (ls' := [(9, .int (0 : Int32)), (0, .ref 30), (1, .int l1), (2, .int l2), (3, .int l3), (4, .int l4), (5, .int l5), (6, .int l6), (7, .int l7)]) (st' := []) (h' := h) (g := true) (by decide +kernel) rfl rfl rfl ?_
    refine XW.pick [1, 2, 3, 4, 5, 6, 7, 8, 0] (ls' := [(0, .ref 30), (1, .int l1), (2, .int l2), (3, .int l3), (4, .int l4), (5, .int l5), (6, .int l6), (7, .int l7), (9, .int (0 : Int32))]) rfl ?_
    refine f_orders_tryRows_L_6_ok (by omega) hX hR slf l1 l2 l3 l4 l5 l6 l7 _ hself (fun l9_12 h_13 hf => ?_) 1000 (0 : Int32) h hf
    exact XrV2 hX hR hf (by decide +kernel)
  · replace hf := xif_f hc_5 hf
    exact XrV2 hX hR hf (by decide +kernel)
set_option maxRecDepth 100000 in
set_option maxHeartbeats 4000000 in
theorem mt_orders_tryRows : ∀ (n : Nat) (l1 : Int32) (l2 : Int32) (l3 : Int32) (l4 : Int32) (l5 : Int32) (l6 : Int32) (l7 : Int32) (h : Hp) (h' : Hp), f_orders_tryRows n l1 l2 l3 l4 l5 l6 l7 h = some h' → MT (n + 1) 39 yX2_tryRows cX2_tryRows 13 none [.ref 30, .int l1, .int l2, .int l3, .int l4, .int l5, .int l6, .int l7] h none h' := by
  intro n
  induction n with
  | zero => intro l1 l2 l3 l4 l5 l6 l7 h h' hf; cases hf
  | succ n ihn =>
    intro l1 l2 l3 l4 l5 l6 l7 h h' hf
    have hself : ∀ (l1 : Int32) (l2 : Int32) (l3 : Int32) (l4 : Int32) (l5 : Int32) (l6 : Int32) (l7 : Int32) (h : Hp) (h' : Hp), f_orders_tryRows n l1 l2 l3 l4 l5 l6 l7 h = some h' → MT (n + 1) 39 yX2_tryRows cX2_tryRows 13 none [.ref 30, .int l1, .int l2, .int l3, .int l4, .int l5, .int l6, .int l7] h none h' ∧ True := fun l1 l2 l3 l4 l5 l6 l7 h h' q => ⟨ihn l1 l2 l3 l4 l5 l6 l7 h h' q, trivial⟩
    refine MT.of (by decide +kernel) (Nat.le_of_ble_eq_true rfl) fun X hX hR => ?_
    rw [f_orders_tryRows] at hf
    obtain ⟨hg, hf⟩ := xgd_inv hf
    refine Xblk hX pkX2_ok [.iload 6, .aload_n 0, .getfield 24, .iconst 1, .aload_n 0, .getfield 33, .ishl, .iconst 1, .isub, .iaload] (pc' := 15) (ls' := [(0, .ref 30), (1, .int l1), (2, .int l2), (3, .int l3), (4, .int l4), (5, .int l5), (6, .int l6), (7, .int l7)]) (st' := [.int (h.1 35 ((jshl (1 : Int32) (h.1 30 7)) - (1 : Int32)).toNatClampNeg), .int l6]) (h' := h) (g := (xin ((jshl (1 : Int32) (h.1 30 7)) - (1 : Int32)) 128 && true)) (by decide +kernel) rfl rfl hg ?_
    refine Xbr hX (.if_icmp .lt (4)) (tgt := 19) (P := l6 < (h.1 35 ((jshl (1 : Int32) (h.1 30 7)) - (1 : Int32)).toNatClampNeg)) (r := []) (by decide +kernel) rfl (by decide) (fun hc_1 => ?_) (fun hc_1 => ?_)
    · replace hf := xif_t hc_1 hf
      obtain ⟨hg, hf⟩ := xgd_inv hf
      refine Xblk hX pkX2_ok [.bipush 64, .iload_n 1, .imul, .iload_n 3, .iadd, .istore 8, .iload 6, .aload_n 0, .getfield 24, .iload 8, .iaload] (pc' := 36) (ls' := [(8, .int (((64 : Int32) * l1) + l3)), (0, .ref 30), (1, .int l1), (2, .int l2), (3, .int l3), (4, .int l4), (5, .int l5), (6, .int l6), (7, .int l7)]) (st' := [.int (h.1 35 (((64 : Int32) * l1) + l3).toNatClampNeg), .int l6]) (h' := h) (g := (xin (((64 : Int32) * l1) + l3) 128 && true)) (by decide +kernel) rfl rfl hg ?_
      refine Xbr hX (.if_icmp .ge (21)) (tgt := 57) (P := (h.1 35 (((64 : Int32) * l1) + l3).toNatClampNeg) ≤ l6) (r := []) (by decide +kernel) rfl (by decide) (fun hc_3 => ?_) (fun hc_3 => ?_)
      · replace hf := xif_t hc_3 hf
        refine XW.pick [1, 2, 3, 4, 5, 6, 7, 8] (ls' := [(0, .ref 30), (1, .int l1), (2, .int l2), (3, .int l3), (4, .int l4), (5, .int l5), (6, .int l6), (7, .int l7)]) rfl ?_
        exact f_orders_tryRows_j_4_ok (by omega) hX hR (f_orders_tryRows n) l1 l2 l3 l4 l5 l6 l7 h hself hf
      · replace hf := xif_f hc_3 hf
        obtain ⟨hg, hf⟩ := xgd_inv hf
        refine Xblk hX pkX2_ok [.aload_n 0, .getfield 24, .iload 8, .iload 6, .iastore, .aload_n 0, .getfield 27, .iload 8, .iload 4, .iastore] (pc' := 57) (ls' := [(8, .int (((64 : Int32) * l1) + l3)), (0, .ref 30), (1, .int l1), (2, .int l2), (3, .int l3), (4, .int l4), (5, .int l5), (6, .int l6), (7, .int l7)]) (st' := []) (h' := (xI (xI h 35 (((64 : Int32) * l1) + l3).toNatClampNeg l6) 36 (((64 : Int32) * l1) + l3).toNatClampNeg l4)) (g := (xin (((64 : Int32) * l1) + l3) 128 && (xin (((64 : Int32) * l1) + l3) 128 && true))) (by decide +kernel) rfl rfl hg ?_
        refine XW.pick [1, 2, 3, 4, 5, 6, 7, 8] (ls' := [(0, .ref 30), (1, .int l1), (2, .int l2), (3, .int l3), (4, .int l4), (5, .int l5), (6, .int l6), (7, .int l7)]) rfl ?_
        exact f_orders_tryRows_j_4_ok (by omega) hX hR (f_orders_tryRows n) l1 l2 l3 l4 l5 l6 l7 (xI (xI h 35 (((64 : Int32) * l1) + l3).toNatClampNeg l6) 36 (((64 : Int32) * l1) + l3).toNatClampNeg l4) hself hf
    · replace hf := xif_f hc_1 hf
      exact XrV2 hX hR hf (by decide +kernel)
def f_orders_chooseSets_L_1  (l1 : Int32) (l2 : Int32)  (k : Int32 → Hp → Option (Hp)) : Nat → Int32 → Hp → Option (Hp)
  | 0, _, _ => none
  | n + 1, l3, h =>
    if l2 < l3 then
      k l3 h
    else
      if l1 ≤ (1 : Int32) then
        k l3 h
      else
        xgd (xin ((64 : Int32) + l3) 128 && (xin (l2 ^^^ l3) 128 && true)) <|
        if (h.1 30 8) ≤ ((h.1 35 (l2 ^^^ l3).toNatClampNeg) + (h.1 35 ((64 : Int32) + l3).toNatClampNeg)) then
          (f_orders_chooseSets_L_1 l1 l2 k n) (l3 + (1 : Int32)) h
        else
          xgd (xin ((64 : Int32) + l3) 128 && (xin (l2 ^^^ l3) 128 && true)) <|
          (f_orders_chooseSets_L_1 l1 l2 k n) (l3 + (1 : Int32)) (xI (xI (xI h 30 8 ((h.1 35 (l2 ^^^ l3).toNatClampNeg) + (h.1 35 ((64 : Int32) + l3).toNatClampNeg))) 37 0 (h.1 36 (l2 ^^^ l3).toNatClampNeg)) 37 1 (h.1 36 ((64 : Int32) + l3).toNatClampNeg))
def f_orders_chooseSets (l1 : Int32) (h : Hp) : Option (Hp) :=
  xgd (xin ((jshl (1 : Int32) (h.1 30 7)) - (1 : Int32)) 128 && (xin ((jshl (1 : Int32) (h.1 30 7)) - (1 : Int32)) 128 && true)) <|
  f_orders_chooseSets_L_1 l1 ((jshl (1 : Int32) (h.1 30 7)) - (1 : Int32)) (fun l3_6 h_7 =>
    some h_7
    ) 1000 (1 : Int32) (xI (xI (xI h 30 8 (h.1 35 ((jshl (1 : Int32) (h.1 30 7)) - (1 : Int32)).toNatClampNeg)) 37 0 (h.1 36 ((jshl (1 : Int32) (h.1 30 7)) - (1 : Int32)).toNatClampNeg)) 37 1 (0 : Int32))
set_option maxRecDepth 100000 in
set_option maxHeartbeats 4000000 in
theorem f_orders_chooseSets_L_1_ok {X : XCtx} (hX : XOk X RX2 cX2_chooseSets 5 0 39) {h' : Hp} (hR : XR X none none h')  (l1 : Int32) (l2 : Int32)  (k : Int32 → Hp → Option (Hp))  (hk : ∀ (l3 : Int32) (h : Hp), k l3 h = some h' → XW X 120 [] [] h) : ∀ (n : Nat) (l3 : Int32) (h : Hp), f_orders_chooseSets_L_1 l1 l2 k n l3 h = some h' → XW X 40 [(0, .ref 30), (1, .int l1), (2, .int l2), (3, .int l3)] [] h := by
  intro n
  induction n with
  | zero => intro l3 h hf; cases hf
  | succ n ih =>
    intro l3 h hf
    rw [f_orders_chooseSets_L_1] at hf
    refine Xblk hX pkX2_ok [.iload_n 3, .iload_n 2] (pc' := 42) (ls' := [(0, .ref 30), (1, .int l1), (2, .int l2), (3, .int l3)]) (st' := [.int l2, .int l3]) (h' := h) (g := true) (by decide +kernel) rfl rfl rfl ?_
    refine Xbr hX (.if_icmp .gt (78)) (tgt := 120) (P := l2 < l3) (r := []) (by decide +kernel) rfl (by decide) (fun hc_2 => ?_) (fun hc_2 => ?_)
    · replace hf := xif_t hc_2 hf
      refine XW.pick [] (ls' := []) rfl ?_
      exact hk l3 h hf
    · replace hf := xif_f hc_2 hf
      refine Xblk hX pkX2_ok [.iload_n 1, .iconst 1] (pc' := 47) (ls' := [(0, .ref 30), (1, .int l1), (2, .int l2), (3, .int l3)]) (st' := [.int (1 : Int32), .int l1]) (h' := h) (g := true) (by decide +kernel) rfl rfl rfl ?_
      refine Xbr hX (.if_icmp .le (73)) (tgt := 120) (P := l1 ≤ (1 : Int32)) (r := []) (by decide +kernel) rfl (by decide) (fun hc_3 => ?_) (fun hc_3 => ?_)
      · replace hf := xif_t hc_3 hf
        refine XW.pick [] (ls' := []) rfl ?_
        exact hk l3 h hf
      · replace hf := xif_f hc_3 hf
        obtain ⟨hg, hf⟩ := xgd_inv hf
        refine Xblk hX pkX2_ok [.aload_n 0, .getfield 24, .iload_n 2, .iload_n 3, .ixor, .iaload, .aload_n 0, .getfield 24, .bipush 64, .iload_n 3, .iadd, .iaload, .iadd, .istore 4, .iload 4, .aload_n 0, .getfield 90] (pc' := 76) (ls' := [(4, .int ((h.1 35 (l2 ^^^ l3).toNatClampNeg) + (h.1 35 ((64 : Int32) + l3).toNatClampNeg))), (0, .ref 30), (1, .int l1), (2, .int l2), (3, .int l3)]) (st' := [.int (h.1 30 8), .int ((h.1 35 (l2 ^^^ l3).toNatClampNeg) + (h.1 35 ((64 : Int32) + l3).toNatClampNeg))]) (h' := h) (g := (xin ((64 : Int32) + l3) 128 && (xin (l2 ^^^ l3) 128 && true))) (by decide +kernel) rfl rfl hg ?_
        refine Xbr hX (.if_icmp .ge (38)) (tgt := 114) (P := (h.1 30 8) ≤ ((h.1 35 (l2 ^^^ l3).toNatClampNeg) + (h.1 35 ((64 : Int32) + l3).toNatClampNeg))) (r := []) (by decide +kernel) rfl (by decide) (fun hc_5 => ?_) (fun hc_5 => ?_)
        · replace hf := xif_t hc_5 hf
          refine Xblk hX pkX2_ok [.iinc 3 1] (pc' := 117) (ls' := [(3, .int (l3 + (1 : Int32))), (4, .int ((h.1 35 (l2 ^^^ l3).toNatClampNeg) + (h.1 35 ((64 : Int32) + l3).toNatClampNeg))), (0, .ref 30), (1, .int l1), (2, .int l2)]) (st' := []) (h' := h) (g := true) (by decide +kernel) rfl rfl rfl ?_
          refine Xgoto hX (-77) 40 (by decide +kernel) (by decide) ?_
          refine XW.pick [2, 3, 4, 0] (ls' := [(0, .ref 30), (1, .int l1), (2, .int l2), (3, .int (l3 + (1 : Int32)))]) rfl ?_
          exact ih (l3 + (1 : Int32)) h hf
        · replace hf := xif_f hc_5 hf
          obtain ⟨hg, hf⟩ := xgd_inv hf
          refine Xblk hX pkX2_ok [.aload_n 0, .iload 4, .putfield 90, .aload_n 0, .getfield 30, .iconst 0, .aload_n 0, .getfield 27, .iload_n 2, .iload_n 3, .ixor, .iaload, .iastore, .aload_n 0, .getfield 30, .iconst 1, .aload_n 0, .getfield 27, .bipush 64, .iload_n 3, .iadd, .iaload, .iastore, .iinc 3 1] (pc' := 117) (ls' := [(3, .int (l3 + (1 : Int32))), (4, .int ((h.1 35 (l2 ^^^ l3).toNatClampNeg) + (h.1 35 ((64 : Int32) + l3).toNatClampNeg))), (0, .ref 30), (1, .int l1), (2, .int l2)]) (st' := []) (h' := (xI (xI (xI h 30 8 ((h.1 35 (l2 ^^^ l3).toNatClampNeg) + (h.1 35 ((64 : Int32) + l3).toNatClampNeg))) 37 0 (h.1 36 (l2 ^^^ l3).toNatClampNeg)) 37 1 (h.1 36 ((64 : Int32) + l3).toNatClampNeg))) (g := (xin ((64 : Int32) + l3) 128 && (xin (l2 ^^^ l3) 128 && true))) (by decide +kernel) rfl rfl hg ?_
          refine Xgoto hX (-77) 40 (by decide +kernel) (by decide) ?_
          refine XW.pick [2, 3, 4, 0] (ls' := [(0, .ref 30), (1, .int l1), (2, .int l2), (3, .int (l3 + (1 : Int32)))]) rfl ?_
          exact ih (l3 + (1 : Int32)) (xI (xI (xI h 30 8 ((h.1 35 (l2 ^^^ l3).toNatClampNeg) + (h.1 35 ((64 : Int32) + l3).toNatClampNeg))) 37 0 (h.1 36 (l2 ^^^ l3).toNatClampNeg)) 37 1 (h.1 36 ((64 : Int32) + l3).toNatClampNeg)) hf
set_option maxRecDepth 100000 in
set_option maxHeartbeats 4000000 in
theorem mt_orders_chooseSets (l1 : Int32) (h : Hp) {h' : Hp} (hf : f_orders_chooseSets l1 h = some h') : MT 0 39 yX2_chooseSets cX2_chooseSets 5 none [.ref 30, .int l1] h none h' := by
  refine MT.of (by decide +kernel) (Nat.le_of_ble_eq_true rfl) fun X hX hR => ?_
  unfold f_orders_chooseSets at hf
  obtain ⟨hg, hf⟩ := xgd_inv hf
  refine Xblk hX pkX2_ok [.iconst 1, .aload_n 0, .getfield 33, .ishl, .iconst 1, .isub, .istore_n 2, .aload_n 0, .aload_n 0, .getfield 24, .iload_n 2, .iaload, .putfield 90, .aload_n 0, .getfield 30, .iconst 0, .aload_n 0, .getfield 27, .iload_n 2, .iaload, .iastore, .aload_n 0, .getfield 30, .iconst 1, .iconst 0, .iastore, .iconst 1, .istore_n 3] (pc' := 40) (ls' := [(3, .int (1 : Int32)), (2, .int ((jshl (1 : Int32) (h.1 30 7)) - (1 : Int32))), (0, .ref 30), (1, .int l1)]) (st' := []) (h' := (xI (xI (xI h 30 8 (h.1 35 ((jshl (1 : Int32) (h.1 30 7)) - (1 : Int32)).toNatClampNeg)) 37 0 (h.1 36 ((jshl (1 : Int32) (h.1 30 7)) - (1 : Int32)).toNatClampNeg)) 37 1 (0 : Int32))) (g := (xin ((jshl (1 : Int32) (h.1 30 7)) - (1 : Int32)) 128 && (xin ((jshl (1 : Int32) (h.1 30 7)) - (1 : Int32)) 128 && true))) (by decide +kernel) rfl rfl hg ?_
  refine XW.pick [2, 3, 1, 0] (ls' := [(0, .ref 30), (1, .int l1), (2, .int ((jshl (1 : Int32) (h.1 30 7)) - (1 : Int32))), (3, .int (1 : Int32))]) rfl ?_
  refine f_orders_chooseSets_L_1_ok hX hR l1 ((jshl (1 : Int32) (h.1 30 7)) - (1 : Int32)) _  (fun l3_6 h_7 hf => ?_) 1000 (1 : Int32) (xI (xI (xI h 30 8 (h.1 35 ((jshl (1 : Int32) (h.1 30 7)) - (1 : Int32)).toNatClampNeg)) 37 0 (h.1 36 ((jshl (1 : Int32) (h.1 30 7)) - (1 : Int32)).toNatClampNeg)) 37 1 (0 : Int32)) hf
  exact XrV2 hX hR hf (by decide +kernel)
def f_orders_measureFrom_L_1  (l2 : Int32) (l3 : Int64) (l5 : Int32)  (k : Int32 → Hp → Option (Hp)) : Nat → Int32 → Hp → Option (Hp)
  | 0, _, _ => none
  | n + 1, l6, h =>
    if (h.1 30 7) ≤ l6 then
      k l6 h
    else
      xgd (xin (l5 + l6) 48 && true) <|
      (f_orders_measureFrom_L_1 l2 l3 l5 k n) (l6 + (1 : Int32)) (xI h 34 (l5 + l6).toNatClampNeg (-1 : Int32))
def f_orders_measureFrom_L_8  (l3 : Int64) (l5 : Int32) (l6 : Int64) (l8 : Int64) (l10 : Int32)  (k : Int32 → Hp → Option (Hp)) : Nat → Int32 → Hp → Option (Hp)
  | 0, _, _ => none
  | n + 1, l11, h =>
    if (h.1 30 7) ≤ l11 then
      k l11 h
    else
      xgd (xin l11 6 && true) <|
      if (lg_cmp ((jushrL (l6 &&& (l8 ^^^ (-1 : Int64))) (h.1 31 l11.toNatClampNeg)) &&& (1 : Int64)) (0 : Int64)) = (0 : Int32) then
        (f_orders_measureFrom_L_8 l3 l5 l6 l8 l10 k n) (l11 + (1 : Int32)) h
      else
        xgd (xin (l5 + l11) 48 && true) <|
        (f_orders_measureFrom_L_8 l3 l5 l6 l8 l10 k n) (l11 + (1 : Int32)) (xI h 34 (l5 + l11).toNatClampNeg l10)
def f_orders_measureFrom_L_5  (l3 : Int64) (l5 : Int32)  (k : Int64 → Int64 → Int32 → Hp → Option (Hp)) : Nat → Int64 → Int64 → Int32 → Hp → Option (Hp)
  | 0, _, _, _, _ => none
  | n + 1, l6, l8, l10, h =>
    if (64 : Int32) ≤ l10 then
      k l6 l8 l10 h
    else
      if (lg_cmp l6 l8) = (0 : Int32) then
        k l6 l8 l10 h
      else
        f_orders_measureFrom_L_8 l3 l5 l6 l8 l10 (fun l11_12 h_13 =>
          (f_orders_measureFrom_L_5 l3 l5 k n) (f_x_widened l6 l3) l6 (l10 + (1 : Int32)) h_13
          ) 1000 (0 : Int32) h
def f_orders_measureFrom (l1 : Int32) (l2 : Int32) (l3 : Int64) (h : Hp) : Option (Hp) :=
  f_orders_measureFrom_L_1 l2 l3 ((6 : Int32) * l1) (fun l6_3 h_4 =>
    f_orders_measureFrom_L_5 l3 ((6 : Int32) * l1) (fun l6_14 l8_15 l10_16 h_17 =>
      some h_17
      ) 1000 (jshlL (1 : Int64) l2) (0 : Int64) (0 : Int32) h_4
    ) 1000 (0 : Int32) h
set_option maxRecDepth 100000 in
set_option maxHeartbeats 4000000 in
theorem f_orders_measureFrom_L_1_ok {X : XCtx} (hX : XOk X RX2 cX2_measureFrom 12 1 39) {h' : Hp} (hR : XR X none none h')  (l2 : Int32) (l3 : Int64) (l5 : Int32)  (k : Int32 → Hp → Option (Hp))  (hk : ∀ (l6 : Int32) (h : Hp), k l6 h = some h' → XW X 35 [(0, .ref 30), (2, .int l2), (3, .long l3), (5, .int l5)] [] h) : ∀ (n : Nat) (l6 : Int32) (h : Hp), f_orders_measureFrom_L_1 l2 l3 l5 k n l6 h = some h' → XW X 9 [(0, .ref 30), (2, .int l2), (3, .long l3), (5, .int l5), (6, .int l6)] [] h := by
  intro n
  induction n with
  | zero => intro l6 h hf; cases hf
  | succ n ih =>
    intro l6 h hf
    rw [f_orders_measureFrom_L_1] at hf
    refine Xblk hX pkX2_ok [.iload 6, .aload_n 0, .getfield 33] (pc' := 15) (ls' := [(0, .ref 30), (2, .int l2), (3, .long l3), (5, .int l5), (6, .int l6)]) (st' := [.int (h.1 30 7), .int l6]) (h' := h) (g := true) (by decide +kernel) rfl rfl rfl ?_
    refine Xbr hX (.if_icmp .ge (20)) (tgt := 35) (P := (h.1 30 7) ≤ l6) (r := []) (by decide +kernel) rfl (by decide) (fun hc_2 => ?_) (fun hc_2 => ?_)
    · replace hf := xif_t hc_2 hf
      refine XW.pick [0, 1, 2, 3] (ls' := [(0, .ref 30), (2, .int l2), (3, .long l3), (5, .int l5)]) rfl ?_
      exact hk l6 h hf
    · replace hf := xif_f hc_2 hf
      obtain ⟨hg, hf⟩ := xgd_inv hf
      refine Xblk hX pkX2_ok [.aload_n 0, .getfield 21, .iload 5, .iload 6, .iadd, .iconst (-1), .iastore, .iinc 6 1] (pc' := 32) (ls' := [(6, .int (l6 + (1 : Int32))), (0, .ref 30), (2, .int l2), (3, .long l3), (5, .int l5)]) (st' := []) (h' := (xI h 34 (l5 + l6).toNatClampNeg (-1 : Int32))) (g := (xin (l5 + l6) 48 && true)) (by decide +kernel) rfl rfl hg ?_
      refine Xgoto hX (-23) 9 (by decide +kernel) (by decide) ?_
      refine XW.pick [1, 2, 3, 4, 0] (ls' := [(0, .ref 30), (2, .int l2), (3, .long l3), (5, .int l5), (6, .int (l6 + (1 : Int32)))]) rfl ?_
      exact ih (l6 + (1 : Int32)) (xI h 34 (l5 + l6).toNatClampNeg (-1 : Int32)) hf
set_option maxRecDepth 100000 in
set_option maxHeartbeats 4000000 in
theorem f_orders_measureFrom_L_8_ok {X : XCtx} (hX : XOk X RX2 cX2_measureFrom 12 1 39) {h' : Hp} (hR : XR X none none h')  (l3 : Int64) (l5 : Int32) (l6 : Int64) (l8 : Int64) (l10 : Int32)  (k : Int32 → Hp → Option (Hp))  (hk : ∀ (l11 : Int32) (h : Hp), k l11 h = some h' → XW X 115 [(0, .ref 30), (3, .long l3), (5, .int l5), (6, .long l6), (10, .int l10)] [] h) : ∀ (n : Nat) (l11 : Int32) (h : Hp), f_orders_measureFrom_L_8 l3 l5 l6 l8 l10 k n l11 h = some h' → XW X 64 [(0, .ref 30), (3, .long l3), (5, .int l5), (6, .long l6), (8, .long l8), (10, .int l10), (11, .int l11)] [] h := by
  intro n
  induction n with
  | zero => intro l11 h hf; cases hf
  | succ n ih =>
    intro l11 h hf
    rw [f_orders_measureFrom_L_8] at hf
    refine Xblk hX pkX2_ok [.iload 11, .aload_n 0, .getfield 33] (pc' := 70) (ls' := [(0, .ref 30), (3, .long l3), (5, .int l5), (6, .long l6), (8, .long l8), (10, .int l10), (11, .int l11)]) (st' := [.int (h.1 30 7), .int l11]) (h' := h) (g := true) (by decide +kernel) rfl rfl rfl ?_
    refine Xbr hX (.if_icmp .ge (45)) (tgt := 115) (P := (h.1 30 7) ≤ l11) (r := []) (by decide +kernel) rfl (by decide) (fun hc_9 => ?_) (fun hc_9 => ?_)
    · replace hf := xif_t hc_9 hf
      refine XW.pick [0, 1, 2, 3, 5] (ls' := [(0, .ref 30), (3, .long l3), (5, .int l5), (6, .long l6), (10, .int l10)]) rfl ?_
      exact hk l11 h hf
    · replace hf := xif_f hc_9 hf
      obtain ⟨hg, hf⟩ := xgd_inv hf
      refine Xblk hX pkX2_ok [.lload 6, .lload 8, .ldc2_w 78, .lxor, .land, .aload_n 0, .getfield 9, .iload 11, .iaload, .lushr, .lconst 1, .land, .lconst 0, .lcmp] (pc' := 94) (ls' := [(0, .ref 30), (3, .long l3), (5, .int l5), (6, .long l6), (8, .long l8), (10, .int l10), (11, .int l11)]) (st' := [.int (lg_cmp ((jushrL (l6 &&& (l8 ^^^ (-1 : Int64))) (h.1 31 l11.toNatClampNeg)) &&& (1 : Int64)) (0 : Int64))]) (h' := h) (g := (xin l11 6 && true)) (by decide +kernel) rfl rfl hg ?_
      refine Xbr hX (.ifCond .eq (15)) (tgt := 109) (P := (lg_cmp ((jushrL (l6 &&& (l8 ^^^ (-1 : Int64))) (h.1 31 l11.toNatClampNeg)) &&& (1 : Int64)) (0 : Int64)) = (0 : Int32)) (r := []) (by decide +kernel) rfl (by decide) (fun hc_11 => ?_) (fun hc_11 => ?_)
      · replace hf := xif_t hc_11 hf
        refine Xblk hX pkX2_ok [.iinc 11 1] (pc' := 112) (ls' := [(11, .int (l11 + (1 : Int32))), (0, .ref 30), (3, .long l3), (5, .int l5), (6, .long l6), (8, .long l8), (10, .int l10)]) (st' := []) (h' := h) (g := true) (by decide +kernel) rfl rfl rfl ?_
        refine Xgoto hX (-48) 64 (by decide +kernel) (by decide) ?_
        refine XW.pick [1, 2, 3, 4, 5, 6, 0] (ls' := [(0, .ref 30), (3, .long l3), (5, .int l5), (6, .long l6), (8, .long l8), (10, .int l10), (11, .int (l11 + (1 : Int32)))]) rfl ?_
        exact ih (l11 + (1 : Int32)) h hf
      · replace hf := xif_f hc_11 hf
        obtain ⟨hg, hf⟩ := xgd_inv hf
        refine Xblk hX pkX2_ok [.aload_n 0, .getfield 21, .iload 5, .iload 11, .iadd, .iload 10, .iastore, .iinc 11 1] (pc' := 112) (ls' := [(11, .int (l11 + (1 : Int32))), (0, .ref 30), (3, .long l3), (5, .int l5), (6, .long l6), (8, .long l8), (10, .int l10)]) (st' := []) (h' := (xI h 34 (l5 + l11).toNatClampNeg l10)) (g := (xin (l5 + l11) 48 && true)) (by decide +kernel) rfl rfl hg ?_
        refine Xgoto hX (-48) 64 (by decide +kernel) (by decide) ?_
        refine XW.pick [1, 2, 3, 4, 5, 6, 0] (ls' := [(0, .ref 30), (3, .long l3), (5, .int l5), (6, .long l6), (8, .long l8), (10, .int l10), (11, .int (l11 + (1 : Int32)))]) rfl ?_
        exact ih (l11 + (1 : Int32)) (xI h 34 (l5 + l11).toNatClampNeg l10) hf
set_option maxRecDepth 100000 in
set_option maxHeartbeats 4000000 in
theorem f_orders_measureFrom_L_5_ok {X : XCtx} (hX : XOk X RX2 cX2_measureFrom 12 1 39) {h' : Hp} (hR : XR X none none h')  (l3 : Int64) (l5 : Int32)  (k : Int64 → Int64 → Int32 → Hp → Option (Hp))  (hk : ∀ (l6 : Int64) (l8 : Int64) (l10 : Int32) (h : Hp), k l6 l8 l10 h = some h' → XW X 133 [] [] h) : ∀ (n : Nat) (l6 : Int64) (l8 : Int64) (l10 : Int32) (h : Hp), f_orders_measureFrom_L_5 l3 l5 k n l6 l8 l10 h = some h' → XW X 46 [(0, .ref 30), (3, .long l3), (5, .int l5), (6, .long l6), (8, .long l8), (10, .int l10)] [] h := by
  intro n
  induction n with
  | zero => intro l6 l8 l10 h hf; cases hf
  | succ n ih =>
    intro l6 l8 l10 h hf
    rw [f_orders_measureFrom_L_5] at hf
    refine Xblk hX pkX2_ok [.iload 10, .bipush 64] (pc' := 50) (ls' := [(0, .ref 30), (3, .long l3), (5, .int l5), (6, .long l6), (8, .long l8), (10, .int l10)]) (st' := [.int (64 : Int32), .int l10]) (h' := h) (g := true) (by decide +kernel) rfl rfl rfl ?_
    refine Xbr hX (.if_icmp .ge (83)) (tgt := 133) (P := (64 : Int32) ≤ l10) (r := []) (by decide +kernel) rfl (by decide) (fun hc_6 => ?_) (fun hc_6 => ?_)
    · replace hf := xif_t hc_6 hf
      refine XW.pick [] (ls' := []) rfl ?_
      exact hk l6 l8 l10 h hf
    · replace hf := xif_f hc_6 hf
      refine Xblk hX pkX2_ok [.lload 6, .lload 8, .lcmp] (pc' := 58) (ls' := [(0, .ref 30), (3, .long l3), (5, .int l5), (6, .long l6), (8, .long l8), (10, .int l10)]) (st' := [.int (lg_cmp l6 l8)]) (h' := h) (g := true) (by decide +kernel) rfl rfl rfl ?_
      refine Xbr hX (.ifCond .eq (75)) (tgt := 133) (P := (lg_cmp l6 l8) = (0 : Int32)) (r := []) (by decide +kernel) rfl (by decide) (fun hc_7 => ?_) (fun hc_7 => ?_)
      · replace hf := xif_t hc_7 hf
        refine XW.pick [] (ls' := []) rfl ?_
        exact hk l6 l8 l10 h hf
      · replace hf := xif_f hc_7 hf
        refine Xblk hX pkX2_ok [.iconst 0, .istore 11] (pc' := 64) (ls' := [(11, .int (0 : Int32)), (0, .ref 30), (3, .long l3), (5, .int l5), (6, .long l6), (8, .long l8), (10, .int l10)]) (st' := []) (h' := h) (g := true) (by decide +kernel) rfl rfl rfl ?_
        refine XW.pick [1, 2, 3, 4, 5, 6, 0] (ls' := [(0, .ref 30), (3, .long l3), (5, .int l5), (6, .long l6), (8, .long l8), (10, .int l10), (11, .int (0 : Int32))]) rfl ?_
        refine f_orders_measureFrom_L_8_ok hX hR l3 l5 l6 l8 l10 _  (fun l11_12 h_13 hf => ?_) 1000 (0 : Int32) h hf
        refine Xblk hX pkX2_ok [.lload 6, .lstore 8, .lload 6, .lload_n 3] (pc' := 122) (ls' := [(8, .long l6), (0, .ref 30), (3, .long l3), (5, .int l5), (6, .long l6), (10, .int l10)]) (st' := [.long l3, .long l6]) (h' := h_13) (g := true) (by decide +kernel) rfl rfl rfl ?_
        refine XcallS hX (mt_x_widened l6 l3 h_13) (rest := []) (by decide) (by decide) xm_X4_widened xi_X4_widened xl_RX2_80 rfl (Nat.le_of_ble_eq_true rfl) (by decide +kernel) ?_
        show XW X 125 [(8, .long l6), (0, .ref 30), (3, .long l3), (5, .int l5), (6, .long l6), (10, .int l10)] [.long (f_x_widened l6 l3)] h_13
        refine Xblk hX pkX2_ok [.lstore 6, .iinc 10 1] (pc' := 130) (ls' := [(10, .int (l10 + (1 : Int32))), (6, .long (f_x_widened l6 l3)), (8, .long l6), (0, .ref 30), (3, .long l3), (5, .int l5)]) (st' := []) (h' := h_13) (g := true) (by decide +kernel) rfl rfl rfl ?_
        refine Xgoto hX (-84) 46 (by decide +kernel) (by decide) ?_
        refine XW.pick [3, 4, 5, 1, 2, 0] (ls' := [(0, .ref 30), (3, .long l3), (5, .int l5), (6, .long (f_x_widened l6 l3)), (8, .long l6), (10, .int (l10 + (1 : Int32)))]) rfl ?_
        exact ih (f_x_widened l6 l3) l6 (l10 + (1 : Int32)) h_13 hf
set_option maxRecDepth 100000 in
set_option maxHeartbeats 4000000 in
theorem mt_orders_measureFrom (l1 : Int32) (l2 : Int32) (l3 : Int64) (h : Hp) {h' : Hp} (hf : f_orders_measureFrom l1 l2 l3 h = some h') : MT 1 39 yX2_measureFrom cX2_measureFrom 12 none [.ref 30, .int l1, .int l2, .long l3] h none h' := by
  refine MT.of (by decide +kernel) (Nat.le_of_ble_eq_true rfl) fun X hX hR => ?_
  unfold f_orders_measureFrom at hf
  refine Xblk hX pkX2_ok [.bipush 6, .iload_n 1, .imul, .istore 5, .iconst 0, .istore 6] (pc' := 9) (ls' := [(6, .int (0 : Int32)), (5, .int ((6 : Int32) * l1)), (0, .ref 30), (1, .int l1), (2, .int l2), (3, .long l3)]) (st' := []) (h' := h) (g := true) (by decide +kernel) rfl rfl rfl ?_
  refine XW.pick [2, 4, 5, 1, 0] (ls' := [(0, .ref 30), (2, .int l2), (3, .long l3), (5, .int ((6 : Int32) * l1)), (6, .int (0 : Int32))]) rfl ?_
  refine f_orders_measureFrom_L_1_ok hX hR l2 l3 ((6 : Int32) * l1) _  (fun l6_3 h_4 hf => ?_) 1000 (0 : Int32) h hf
  refine Xblk hX pkX2_ok [.lconst 1, .iload_n 2, .lshl, .lstore 6, .lconst 0, .lstore 8, .iconst 0, .istore 10] (pc' := 46) (ls' := [(10, .int (0 : Int32)), (8, .long (0 : Int64)), (6, .long (jshlL (1 : Int64) l2)), (0, .ref 30), (2, .int l2), (3, .long l3), (5, .int ((6 : Int32) * l1))]) (st' := []) (h' := h_4) (g := true) (by decide +kernel) rfl rfl rfl ?_
  refine XW.pick [3, 5, 6, 2, 1, 0] (ls' := [(0, .ref 30), (3, .long l3), (5, .int ((6 : Int32) * l1)), (6, .long (jshlL (1 : Int64) l2)), (8, .long (0 : Int64)), (10, .int (0 : Int32))]) rfl ?_
  refine f_orders_measureFrom_L_5_ok hX hR l3 ((6 : Int32) * l1) _  (fun l6_14 l8_15 l10_16 h_17 hf => ?_) 1000 (jshlL (1 : Int64) l2) (0 : Int64) (0 : Int32) h_4 hf
  exact XrV2 hX hR hf (by decide +kernel)
def f_orders_measure_6_L_1  (l1 : Int64)  (k : Int32 → Int32 → Hp → Option (Int32 × Hp)) : Nat → Int32 → Int32 → Hp → Option (Int32 × Hp)
  | 0, _, _, _ => none
  | n + 1, l4, l5, h =>
    if (h.1 30 7) ≤ l5 then
      k l4 l5 h
    else
      xgd (xin l5 6 && true) <|
      xbd1 (f_orders_measureFrom l5 (h.1 32 l5.toNatClampNeg) l1 h) fun h_4 =>
      if l4 = (0 : Int32) then
        (f_orders_measure_6_L_1 l1 k n) (0 : Int32) (l5 + (1 : Int32)) h_4
      else
        xgd (xin (((6 : Int32) * l5) + l5) 48 && true) <|
        (f_orders_measure_6_L_1 l1 k n) (if (h_4.1 34 (((6 : Int32) * l5) + l5).toNatClampNeg) = (-1 : Int32) then (0 : Int32) else (1 : Int32)) (l5 + (1 : Int32)) h_4
def f_orders_measure_6_L_17  (l1 : Int64) (l5 : Int32) (h : Hp) (k : Int32 → Int32 → Option (Int32 × Hp)) : Nat → Int32 → Int32 → Option (Int32 × Hp)
  | 0, _, _ => none
  | n + 1, l4, l6 =>
    if (h.1 30 7) ≤ l6 then
      k l4 l6
    else
      if l4 = (0 : Int32) then
        (f_orders_measure_6_L_17 l1 l5 h k n) (0 : Int32) (l6 + (1 : Int32))
      else
        xgd (xin (((6 : Int32) * ((6 : Int32) + l5)) + l6) 48 && true) <|
        (f_orders_measure_6_L_17 l1 l5 h k n) (if (h.1 34 (((6 : Int32) * ((6 : Int32) + l5)) + l6).toNatClampNeg) = (-1 : Int32) then (0 : Int32) else (1 : Int32)) (l6 + (1 : Int32))
def f_orders_measure_6_L_13  (l1 : Int64)  (k : Int32 → Int32 → Hp → Option (Int32 × Hp)) : Nat → Int32 → Int32 → Hp → Option (Int32 × Hp)
  | 0, _, _, _ => none
  | n + 1, l4, l5, h =>
    if (h.1 6 7) ≤ l5 then
      k l4 l5 h
    else
      xgd (xin l5 2 && true) <|
      xbd1 (f_orders_measureFrom ((6 : Int32) + l5) (h.1 9 l5.toNatClampNeg) l1 h) fun h_16 =>
      f_orders_measure_6_L_17 l1 l5 h_16 (fun l4_24 l6_25 =>
        (f_orders_measure_6_L_13 l1 k n) l4_24 (l5 + (1 : Int32)) h_16
        ) 1000 l4 (0 : Int32)
def f_orders_measure_6 (l1 : Int64) (h : Hp) : Option (Int32 × Hp) :=
  f_orders_measure_6_L_1 l1 (fun l4_10 l5_11 h_12 =>
    f_orders_measure_6_L_13 l1 (fun l4_26 l5_27 h_28 =>
      xgd (xbool l4_26 && true) <|
      some (l4_26, h_28)
      ) 1000 l4_10 (0 : Int32) h_12
    ) 1000 (1 : Int32) (0 : Int32) h
set_option maxRecDepth 100000 in
set_option maxHeartbeats 4000000 in
theorem f_orders_measure_6_L_1_ok {X : XCtx} (hX : XOk X RX2 cX2_measure 7 2 39) {r : Int32} {h' : Hp} (hR : XR X (some .boolean) (some (.int r)) h')  (l1 : Int64)  (k : Int32 → Int32 → Hp → Option (Int32 × Hp))  (hk : ∀ (l4 : Int32) (l5 : Int32) (h : Hp), k l4 l5 h = some (r, h') → XW X 64 [(0, .ref 30), (1, .long l1), (3, .ref 6), (4, .int l4)] [] h) : ∀ (n : Nat) (l4 : Int32) (l5 : Int32) (h : Hp), f_orders_measure_6_L_1 l1 k n l4 l5 h = some (r, h') → XW X 6 [(0, .ref 30), (1, .long l1), (3, .ref 6), (4, .int l4), (5, .int l5)] [] h := by
  intro n
  induction n with
  | zero => intro l4 l5 h hf; cases hf
  | succ n ih =>
    intro l4 l5 h hf
    rw [f_orders_measure_6_L_1] at hf
    refine Xblk hX pkX2_ok [.iload 5, .aload_n 0, .getfield 33] (pc' := 12) (ls' := [(0, .ref 30), (1, .long l1), (3, .ref 6), (4, .int l4), (5, .int l5)]) (st' := [.int (h.1 30 7), .int l5]) (h' := h) (g := true) (by decide +kernel) rfl rfl rfl ?_
    refine Xbr hX (.if_icmp .ge (52)) (tgt := 64) (P := (h.1 30 7) ≤ l5) (r := []) (by decide +kernel) rfl (by decide) (fun hc_2 => ?_) (fun hc_2 => ?_)
    · replace hf := xif_t hc_2 hf
      refine XW.pick [0, 1, 2, 3] (ls' := [(0, .ref 30), (1, .long l1), (3, .ref 6), (4, .int l4)]) rfl ?_
      exact hk l4 l5 h hf
    · replace hf := xif_f hc_2 hf
      obtain ⟨hg, hf⟩ := xgd_inv hf
      refine Xblk hX pkX2_ok [.aload_n 0, .iload 5, .aload_n 0, .getfield 15, .iload 5, .iaload, .lload_n 1] (pc' := 26) (ls' := [(0, .ref 30), (1, .long l1), (3, .ref 6), (4, .int l4), (5, .int l5)]) (st' := [.long l1, .int (h.1 32 l5.toNatClampNeg), .int l5, .ref 30]) (h' := h) (g := (xin l5 6 && true)) (by decide +kernel) rfl rfl hg ?_
      obtain ⟨h_4, hc_3, hf⟩ := xbd1_inv hf
      refine XcallV hX (mt_orders_measureFrom l5 (h.1 32 l5.toNatClampNeg) l1 h hc_3) (rest := []) (by decide) (by decide) xm_X2_measureFrom xi_X2_measureFrom xs_X2_measureFrom xl_RX2_71 (by decide) (xsh_30) rfl rfl rfl (Nat.le_of_ble_eq_true rfl) (by decide +kernel) ?_
      show XW X 29 [(0, .ref 30), (1, .long l1), (3, .ref 6), (4, .int l4), (5, .int l5)] [] h_4
      refine Xblk hX pkX2_ok [.iload 4] (pc' := 31) (ls' := [(0, .ref 30), (1, .long l1), (3, .ref 6), (4, .int l4), (5, .int l5)]) (st' := [.int l4]) (h' := h_4) (g := true) (by decide +kernel) rfl rfl rfl ?_
      refine Xbr hX (.ifCond .eq (24)) (tgt := 55) (P := l4 = (0 : Int32)) (r := []) (by decide +kernel) rfl (by decide) (fun hc_6 => ?_) (fun hc_6 => ?_)
      · replace hf := xif_t hc_6 hf
        refine Xblk hX pkX2_ok [.iconst 0, .istore 4, .iinc 5 1] (pc' := 61) (ls' := [(5, .int (l5 + (1 : Int32))), (4, .int (0 : Int32)), (0, .ref 30), (1, .long l1), (3, .ref 6)]) (st' := []) (h' := h_4) (g := true) (by decide +kernel) rfl rfl rfl ?_
        refine Xgoto hX (-55) 6 (by decide +kernel) (by decide) ?_
        refine XW.pick [2, 3, 4, 1, 0] (ls' := [(0, .ref 30), (1, .long l1), (3, .ref 6), (4, .int (0 : Int32)), (5, .int (l5 + (1 : Int32)))]) rfl ?_
        exact ih (0 : Int32) (l5 + (1 : Int32)) h_4 hf
      · replace hf := xif_f hc_6 hf
        obtain ⟨hg, hf⟩ := xgd_inv hf
        refine Xblk hX pkX2_ok [.aload_n 0, .getfield 21, .bipush 6, .iload 5, .imul, .iload 5, .iadd, .iaload, .iconst (-1)] (pc' := 48) (ls' := [(0, .ref 30), (1, .long l1), (3, .ref 6), (4, .int l4), (5, .int l5)]) (st' := [.int (-1 : Int32), .int (h_4.1 34 (((6 : Int32) * l5) + l5).toNatClampNeg)]) (h' := h_4) (g := (xin (((6 : Int32) * l5) + l5) 48 && true)) (by decide +kernel) rfl rfl hg ?_
        have kJ_9 : ∀ (w_8 : Int32), w_8 = (if (h_4.1 34 (((6 : Int32) * l5) + l5).toNatClampNeg) = (-1 : Int32) then (0 : Int32) else (1 : Int32)) → XW X 56 [(0, .ref 30), (1, .long l1), (3, .ref 6), (5, .int l5)] [.int w_8] h_4 := by
          intro w_8 ew_8
          subst ew_8
          refine Xblk hX pkX2_ok [.istore 4, .iinc 5 1] (pc' := 61) (ls' := [(5, .int (l5 + (1 : Int32))), (4, .int (if (h_4.1 34 (((6 : Int32) * l5) + l5).toNatClampNeg) = (-1 : Int32) then (0 : Int32) else (1 : Int32))), (0, .ref 30), (1, .long l1), (3, .ref 6)]) (st' := []) (h' := h_4) (g := true) (by decide +kernel) rfl rfl rfl ?_
          refine Xgoto hX (-55) 6 (by decide +kernel) (by decide) ?_
          refine XW.pick [2, 3, 4, 1, 0] (ls' := [(0, .ref 30), (1, .long l1), (3, .ref 6), (4, .int (if (h_4.1 34 (((6 : Int32) * l5) + l5).toNatClampNeg) = (-1 : Int32) then (0 : Int32) else (1 : Int32))), (5, .int (l5 + (1 : Int32)))]) rfl ?_
          exact ih (if (h_4.1 34 (((6 : Int32) * l5) + l5).toNatClampNeg) = (-1 : Int32) then (0 : Int32) else (1 : Int32)) (l5 + (1 : Int32)) h_4 hf
        refine Xbr hX (.if_icmp .eq (7)) (tgt := 55) (P := (h_4.1 34 (((6 : Int32) * l5) + l5).toNatClampNeg) = (-1 : Int32)) (r := []) (by decide +kernel) rfl (by decide) (fun hc_7 => ?_) (fun hc_7 => ?_)
        · refine Xblk hX pkX2_ok [.iconst 0] (pc' := 56) (ls' := [(0, .ref 30), (1, .long l1), (3, .ref 6), (4, .int l4), (5, .int l5)]) (st' := [.int (0 : Int32)]) (h' := h_4) (g := true) (by decide +kernel) rfl rfl rfl ?_
          refine XW.pick [0, 1, 2, 4] (ls' := [(0, .ref 30), (1, .long l1), (3, .ref 6), (5, .int l5)]) rfl ?_
          exact kJ_9 _ (by rw [if_pos hc_7])
        · refine Xblk hX pkX2_ok [.iconst 1] (pc' := 52) (ls' := [(0, .ref 30), (1, .long l1), (3, .ref 6), (4, .int l4), (5, .int l5)]) (st' := [.int (1 : Int32)]) (h' := h_4) (g := true) (by decide +kernel) rfl rfl rfl ?_
          refine Xgoto hX (4) 56 (by decide +kernel) (by decide) ?_
          refine XW.pick [0, 1, 2, 4] (ls' := [(0, .ref 30), (1, .long l1), (3, .ref 6), (5, .int l5)]) rfl ?_
          exact kJ_9 _ (by rw [if_neg hc_7])
set_option maxRecDepth 100000 in
set_option maxHeartbeats 4000000 in
theorem f_orders_measure_6_L_17_ok {X : XCtx} (hX : XOk X RX2 cX2_measure 7 2 39) {r : Int32} {h' : Hp} (hR : XR X (some .boolean) (some (.int r)) h')  (l1 : Int64) (l5 : Int32) (h : Hp) (k : Int32 → Int32 → Option (Int32 × Hp))  (hk : ∀ (l4 : Int32) (l6 : Int32), k l4 l6 = some (r, h') → XW X 143 [(0, .ref 30), (1, .long l1), (3, .ref 6), (4, .int l4), (5, .int l5)] [] h) : ∀ (n : Nat) (l4 : Int32) (l6 : Int32), f_orders_measure_6_L_17 l1 l5 h k n l4 l6 = some (r, h') → XW X 96 [(0, .ref 30), (1, .long l1), (3, .ref 6), (4, .int l4), (5, .int l5), (6, .int l6)] [] h := by
  intro n
  induction n with
  | zero => intro l4 l6 hf; cases hf
  | succ n ih =>
    intro l4 l6 hf
    rw [f_orders_measure_6_L_17] at hf
    refine Xblk hX pkX2_ok [.iload 6, .aload_n 0, .getfield 33] (pc' := 102) (ls' := [(0, .ref 30), (1, .long l1), (3, .ref 6), (4, .int l4), (5, .int l5), (6, .int l6)]) (st' := [.int (h.1 30 7), .int l6]) (h' := h) (g := true) (by decide +kernel) rfl rfl rfl ?_
    refine Xbr hX (.if_icmp .ge (41)) (tgt := 143) (P := (h.1 30 7) ≤ l6) (r := []) (by decide +kernel) rfl (by decide) (fun hc_18 => ?_) (fun hc_18 => ?_)
    · replace hf := xif_t hc_18 hf
      refine XW.pick [0, 1, 2, 3, 4] (ls' := [(0, .ref 30), (1, .long l1), (3, .ref 6), (4, .int l4), (5, .int l5)]) rfl ?_
      exact hk l4 l6 hf
    · replace hf := xif_f hc_18 hf
      refine Xblk hX pkX2_ok [.iload 4] (pc' := 107) (ls' := [(0, .ref 30), (1, .long l1), (3, .ref 6), (4, .int l4), (5, .int l5), (6, .int l6)]) (st' := [.int l4]) (h' := h) (g := true) (by decide +kernel) rfl rfl rfl ?_
      refine Xbr hX (.ifCond .eq (27)) (tgt := 134) (P := l4 = (0 : Int32)) (r := []) (by decide +kernel) rfl (by decide) (fun hc_20 => ?_) (fun hc_20 => ?_)
      · replace hf := xif_t hc_20 hf
        refine Xblk hX pkX2_ok [.iconst 0, .istore 4, .iinc 6 1] (pc' := 140) (ls' := [(6, .int (l6 + (1 : Int32))), (4, .int (0 : Int32)), (0, .ref 30), (1, .long l1), (3, .ref 6), (5, .int l5)]) (st' := []) (h' := h) (g := true) (by decide +kernel) rfl rfl rfl ?_
        refine Xgoto hX (-44) 96 (by decide +kernel) (by decide) ?_
        refine XW.pick [2, 3, 4, 1, 5, 0] (ls' := [(0, .ref 30), (1, .long l1), (3, .ref 6), (4, .int (0 : Int32)), (5, .int l5), (6, .int (l6 + (1 : Int32)))]) rfl ?_
        exact ih (0 : Int32) (l6 + (1 : Int32)) hf
      · replace hf := xif_f hc_20 hf
        obtain ⟨hg, hf⟩ := xgd_inv hf
        refine Xblk hX pkX2_ok [.aload_n 0, .getfield 21, .bipush 6, .bipush 6, .iload 5, .iadd, .imul, .iload 6, .iadd, .iaload, .iconst (-1)] (pc' := 127) (ls' := [(0, .ref 30), (1, .long l1), (3, .ref 6), (4, .int l4), (5, .int l5), (6, .int l6)]) (st' := [.int (-1 : Int32), .int (h.1 34 (((6 : Int32) * ((6 : Int32) + l5)) + l6).toNatClampNeg)]) (h' := h) (g := (xin (((6 : Int32) * ((6 : Int32) + l5)) + l6) 48 && true)) (by decide +kernel) rfl rfl hg ?_
        have kJ_23 : ∀ (w_22 : Int32), w_22 = (if (h.1 34 (((6 : Int32) * ((6 : Int32) + l5)) + l6).toNatClampNeg) = (-1 : Int32) then (0 : Int32) else (1 : Int32)) → XW X 135 [(0, .ref 30), (1, .long l1), (3, .ref 6), (5, .int l5), (6, .int l6)] [.int w_22] h := by
          intro w_22 ew_22
          subst ew_22
          refine Xblk hX pkX2_ok [.istore 4, .iinc 6 1] (pc' := 140) (ls' := [(6, .int (l6 + (1 : Int32))), (4, .int (if (h.1 34 (((6 : Int32) * ((6 : Int32) + l5)) + l6).toNatClampNeg) = (-1 : Int32) then (0 : Int32) else (1 : Int32))), (0, .ref 30), (1, .long l1), (3, .ref 6), (5, .int l5)]) (st' := []) (h' := h) (g := true) (by decide +kernel) rfl rfl rfl ?_
          refine Xgoto hX (-44) 96 (by decide +kernel) (by decide) ?_
          refine XW.pick [2, 3, 4, 1, 5, 0] (ls' := [(0, .ref 30), (1, .long l1), (3, .ref 6), (4, .int (if (h.1 34 (((6 : Int32) * ((6 : Int32) + l5)) + l6).toNatClampNeg) = (-1 : Int32) then (0 : Int32) else (1 : Int32))), (5, .int l5), (6, .int (l6 + (1 : Int32)))]) rfl ?_
          exact ih (if (h.1 34 (((6 : Int32) * ((6 : Int32) + l5)) + l6).toNatClampNeg) = (-1 : Int32) then (0 : Int32) else (1 : Int32)) (l6 + (1 : Int32)) hf
        refine Xbr hX (.if_icmp .eq (7)) (tgt := 134) (P := (h.1 34 (((6 : Int32) * ((6 : Int32) + l5)) + l6).toNatClampNeg) = (-1 : Int32)) (r := []) (by decide +kernel) rfl (by decide) (fun hc_21 => ?_) (fun hc_21 => ?_)
        · refine Xblk hX pkX2_ok [.iconst 0] (pc' := 135) (ls' := [(0, .ref 30), (1, .long l1), (3, .ref 6), (4, .int l4), (5, .int l5), (6, .int l6)]) (st' := [.int (0 : Int32)]) (h' := h) (g := true) (by decide +kernel) rfl rfl rfl ?_
          refine XW.pick [0, 1, 2, 4, 5] (ls' := [(0, .ref 30), (1, .long l1), (3, .ref 6), (5, .int l5), (6, .int l6)]) rfl ?_
          exact kJ_23 _ (by rw [if_pos hc_21])
        · refine Xblk hX pkX2_ok [.iconst 1] (pc' := 131) (ls' := [(0, .ref 30), (1, .long l1), (3, .ref 6), (4, .int l4), (5, .int l5), (6, .int l6)]) (st' := [.int (1 : Int32)]) (h' := h) (g := true) (by decide +kernel) rfl rfl rfl ?_
          refine Xgoto hX (4) 135 (by decide +kernel) (by decide) ?_
          refine XW.pick [0, 1, 2, 4, 5] (ls' := [(0, .ref 30), (1, .long l1), (3, .ref 6), (5, .int l5), (6, .int l6)]) rfl ?_
          exact kJ_23 _ (by rw [if_neg hc_21])
set_option maxRecDepth 100000 in
set_option maxHeartbeats 4000000 in
theorem f_orders_measure_6_L_13_ok {X : XCtx} (hX : XOk X RX2 cX2_measure 7 2 39) {r : Int32} {h' : Hp} (hR : XR X (some .boolean) (some (.int r)) h')  (l1 : Int64)  (k : Int32 → Int32 → Hp → Option (Int32 × Hp))  (hk : ∀ (l4 : Int32) (l5 : Int32) (h : Hp), k l4 l5 h = some (r, h') → XW X 149 [(4, .int l4)] [] h) : ∀ (n : Nat) (l4 : Int32) (l5 : Int32) (h : Hp), f_orders_measure_6_L_13 l1 k n l4 l5 h = some (r, h') → XW X 67 [(0, .ref 30), (1, .long l1), (3, .ref 6), (4, .int l4), (5, .int l5)] [] h := by
  intro n
  induction n with
  | zero => intro l4 l5 h hf; cases hf
  | succ n ih =>
    intro l4 l5 h hf
    rw [f_orders_measure_6_L_13] at hf
    refine Xblk hX pkX2_ok [.iload 5, .aload_n 3, .getfield 41] (pc' := 73) (ls' := [(0, .ref 30), (1, .long l1), (3, .ref 6), (4, .int l4), (5, .int l5)]) (st' := [.int (h.1 6 7), .int l5]) (h' := h) (g := true) (by decide +kernel) rfl rfl rfl ?_
    refine Xbr hX (.if_icmp .ge (76)) (tgt := 149) (P := (h.1 6 7) ≤ l5) (r := []) (by decide +kernel) rfl (by decide) (fun hc_14 => ?_) (fun hc_14 => ?_)
    · replace hf := xif_t hc_14 hf
      refine XW.pick [3] (ls' := [(4, .int l4)]) rfl ?_
      exact hk l4 l5 h hf
    · replace hf := xif_f hc_14 hf
      obtain ⟨hg, hf⟩ := xgd_inv hf
      refine Xblk hX pkX2_ok [.aload_n 0, .bipush 6, .iload 5, .iadd, .aload_n 3, .getfield 75, .iload 5, .iaload, .lload_n 1] (pc' := 90) (ls' := [(0, .ref 30), (1, .long l1), (3, .ref 6), (4, .int l4), (5, .int l5)]) (st' := [.long l1, .int (h.1 9 l5.toNatClampNeg), .int ((6 : Int32) + l5), .ref 30]) (h' := h) (g := (xin l5 2 && true)) (by decide +kernel) rfl rfl hg ?_
      obtain ⟨h_16, hc_15, hf⟩ := xbd1_inv hf
      refine XcallV hX (mt_orders_measureFrom ((6 : Int32) + l5) (h.1 9 l5.toNatClampNeg) l1 h hc_15) (rest := []) (by decide) (by decide) xm_X2_measureFrom xi_X2_measureFrom xs_X2_measureFrom xl_RX2_71 (by decide) (xsh_30) rfl rfl rfl (Nat.le_of_ble_eq_true rfl) (by decide +kernel) ?_
      show XW X 93 [(0, .ref 30), (1, .long l1), (3, .ref 6), (4, .int l4), (5, .int l5)] [] h_16
      refine Xblk hX pkX2_ok [.iconst 0, .istore 6] (pc' := 96) (ls' := [(6, .int (0 : Int32)), (0, .ref 30), (1, .long l1), (3, .ref 6), (4, .int l4), (5, .int l5)]) (st' := []) (h' := h_16) (g := true) (by decide +kernel) rfl rfl rfl ?_
      refine XW.pick [1, 2, 3, 4, 5, 0] (ls' := [(0, .ref 30), (1, .long l1), (3, .ref 6), (4, .int l4), (5, .int l5), (6, .int (0 : Int32))]) rfl ?_
      refine f_orders_measure_6_L_17_ok hX hR l1 l5 h_16 _  (fun l4_24 l6_25 hf => ?_) 1000 l4 (0 : Int32) hf
      refine Xblk hX pkX2_ok [.iinc 5 1] (pc' := 146) (ls' := [(5, .int (l5 + (1 : Int32))), (0, .ref 30), (1, .long l1), (3, .ref 6), (4, .int l4_24)]) (st' := []) (h' := h_16) (g := true) (by decide +kernel) rfl rfl rfl ?_
      refine Xgoto hX (-79) 67 (by decide +kernel) (by decide) ?_
      refine XW.pick [1, 2, 3, 4, 0] (ls' := [(0, .ref 30), (1, .long l1), (3, .ref 6), (4, .int l4_24), (5, .int (l5 + (1 : Int32)))]) rfl ?_
      exact ih l4_24 (l5 + (1 : Int32)) h_16 hf
set_option maxRecDepth 100000 in
set_option maxHeartbeats 4000000 in
theorem mt_orders_measure_6 (l1 : Int64) (h : Hp) {r : Int32} {h' : Hp} (hf : f_orders_measure_6 l1 h = some (r, h')) : MT 2 39 yX2_measure cX2_measure 7 (some .boolean) [.ref 30, .long l1, .ref 6] h (some (.int r)) h' := by
  refine MT.of (by decide +kernel) (Nat.le_of_ble_eq_true rfl) fun X hX hR => ?_
  unfold f_orders_measure_6 at hf
  refine Xblk hX pkX2_ok [.iconst 1, .istore 4, .iconst 0, .istore 5] (pc' := 6) (ls' := [(5, .int (0 : Int32)), (4, .int (1 : Int32)), (0, .ref 30), (1, .long l1), (3, .ref 6)]) (st' := []) (h' := h) (g := true) (by decide +kernel) rfl rfl rfl ?_
  refine XW.pick [2, 3, 4, 1, 0] (ls' := [(0, .ref 30), (1, .long l1), (3, .ref 6), (4, .int (1 : Int32)), (5, .int (0 : Int32))]) rfl ?_
  refine f_orders_measure_6_L_1_ok hX hR l1 _  (fun l4_10 l5_11 h_12 hf => ?_) 1000 (1 : Int32) (0 : Int32) h hf
  refine Xblk hX pkX2_ok [.iconst 0, .istore 5] (pc' := 67) (ls' := [(5, .int (0 : Int32)), (0, .ref 30), (1, .long l1), (3, .ref 6), (4, .int l4_10)]) (st' := []) (h' := h_12) (g := true) (by decide +kernel) rfl rfl rfl ?_
  refine XW.pick [1, 2, 3, 4, 0] (ls' := [(0, .ref 30), (1, .long l1), (3, .ref 6), (4, .int l4_10), (5, .int (0 : Int32))]) rfl ?_
  refine f_orders_measure_6_L_13_ok hX hR l1 _  (fun l4_26 l5_27 h_28 hf => ?_) 1000 l4_10 (0 : Int32) h_12 hf
  refine Xblk hX pkX2_ok [.iload 4] (pc' := 151) (ls' := [(4, .int l4_26)]) (st' := [.int l4_26]) (h' := h_28) (g := true) (by decide +kernel) rfl rfl rfl ?_
  obtain ⟨hg, hf⟩ := xgd_inv hf
  rw [Bool.and_true] at hg
  exact XrZ2 hX hR hf hg (by decide +kernel)
def f_orders_makePlan_6_L_8    (k : Int32 → Hp → Option (Hp)) : Nat → Int32 → Hp → Option (Hp)
  | 0, _, _ => none
  | n + 1, l4, h =>
    if (h.1 6 7) ≤ l4 then
      k l4 h
    else
      xbd1 (f_orders_tryRows 8 l4 ((6 : Int32) + l4) (0 : Int32) (0 : Int32) (h.1 6 9) (0 : Int32) (0 : Int32) h) fun h_11 =>
      (f_orders_makePlan_6_L_8 k n) (l4 + (1 : Int32)) h_11
def f_orders_makePlan_6_j_4  (s0 : Int32) (h : Hp) : Option (Hp) :=
  xgd (xbool s0 && true) <|
  if s0 = (0 : Int32) then
    some (xI h 30 9 s0)
  else
    xbd1 (f_j_fill_35 (1000000 : Int32) (xI h 30 9 s0)) fun h_7 =>
    f_orders_makePlan_6_L_8 (fun l4_12 h_13 =>
      xbd1 (f_orders_chooseSets (h_13.1 6 7) h_13) fun h_15 =>
      some h_15
      ) 1000 (0 : Int32) h_7
def f_orders_makePlan_6_j_3   (h : Hp) : Option (Hp) :=
  f_orders_makePlan_6_j_4 (0 : Int32) h
def f_orders_makePlan_6 (l1 : Int64) (h : Hp) : Option (Hp) :=
  if (h.1 30 10) = (0 : Int32) then
    if (h.1 6 7) ≤ (0 : Int32) then
      f_orders_makePlan_6_j_3 (xI h 30 10 (1 : Int32))
    else
      xbd2 (f_orders_measure_6 l1 (xI h 30 10 (1 : Int32))) fun v_18 h_17 =>
      if v_18 = (0 : Int32) then
        f_orders_makePlan_6_j_3 h_17
      else
        f_orders_makePlan_6_j_4 (1 : Int32) h_17
  else
    some h
set_option maxRecDepth 100000 in
set_option maxHeartbeats 4000000 in
theorem f_orders_makePlan_6_L_8_ok {X : XCtx} (hX : XOk X RX2 cX2_makePlan 5 11 39) {h' : Hp} (hR : XR X none none h')    (k : Int32 → Hp → Option (Hp))  (hk : ∀ (l4 : Int32) (h : Hp), k l4 h = some h' → XW X 91 [(0, .ref 30), (3, .ref 6)] [] h) : ∀ (n : Nat) (l4 : Int32) (h : Hp), f_orders_makePlan_6_L_8 k n l4 h = some h' → XW X 57 [(0, .ref 30), (3, .ref 6), (4, .int l4)] [] h := by
  intro n
  induction n with
  | zero => intro l4 h hf; cases hf
  | succ n ih =>
    intro l4 h hf
    rw [f_orders_makePlan_6_L_8] at hf
    refine Xblk hX pkX2_ok [.iload 4, .aload_n 3, .getfield 41] (pc' := 63) (ls' := [(0, .ref 30), (3, .ref 6), (4, .int l4)]) (st' := [.int (h.1 6 7), .int l4]) (h' := h) (g := true) (by decide +kernel) rfl rfl rfl ?_
    refine Xbr hX (.if_icmp .ge (28)) (tgt := 91) (P := (h.1 6 7) ≤ l4) (r := []) (by decide +kernel) rfl (by decide) (fun hc_9 => ?_) (fun hc_9 => ?_)
    · replace hf := xif_t hc_9 hf
      refine XW.pick [0, 1] (ls' := [(0, .ref 30), (3, .ref 6)]) rfl ?_
      exact hk l4 h hf
    · replace hf := xif_f hc_9 hf
      refine Xblk hX pkX2_ok [.aload_n 0, .iload 4, .bipush 6, .iload 4, .iadd, .iconst 0, .iconst 0, .aload_n 3, .getfield 60, .iconst 0, .iconst 0] (pc' := 82) (ls' := [(0, .ref 30), (3, .ref 6), (4, .int l4)]) (st' := [.int (0 : Int32), .int (0 : Int32), .int (h.1 6 9), .int (0 : Int32), .int (0 : Int32), .int ((6 : Int32) + l4), .int l4, .ref 30]) (h' := h) (g := true) (by decide +kernel) rfl rfl rfl ?_
      obtain ⟨h_11, hc_10, hf⟩ := xbd1_inv hf
      refine XcallV hX (mt_orders_tryRows 8 l4 ((6 : Int32) + l4) (0 : Int32) (0 : Int32) (h.1 6 9) (0 : Int32) (0 : Int32) h _ hc_10) (rest := []) (by decide) (by decide) xm_X2_tryRows xi_X2_tryRows xs_X2_tryRows xl_RX2_63 (by decide) (xsh_30) rfl rfl rfl (Nat.le_of_ble_eq_true rfl) (by decide +kernel) ?_
      show XW X 85 [(0, .ref 30), (3, .ref 6), (4, .int l4)] [] h_11
      refine Xblk hX pkX2_ok [.iinc 4 1] (pc' := 88) (ls' := [(4, .int (l4 + (1 : Int32))), (0, .ref 30), (3, .ref 6)]) (st' := []) (h' := h_11) (g := true) (by decide +kernel) rfl rfl rfl ?_
      refine Xgoto hX (-31) 57 (by decide +kernel) (by decide) ?_
      refine XW.pick [1, 2, 0] (ls' := [(0, .ref 30), (3, .ref 6), (4, .int (l4 + (1 : Int32)))]) rfl ?_
      exact ih (l4 + (1 : Int32)) h_11 hf
set_option maxRecDepth 100000 in
set_option maxHeartbeats 4000000 in
theorem f_orders_makePlan_6_j_4_ok {X : XCtx} (hX : XOk X RX2 cX2_makePlan 5 11 39) {h' : Hp} (hR : XR X none none h')   (s0 : Int32) (h : Hp)  (hf : f_orders_makePlan_6_j_4 s0 h = some h') : XW X 35 [(0, .ref 30), (3, .ref 6)] [.int s0, .ref 30] h := by
  unfold f_orders_makePlan_6_j_4 at hf
  obtain ⟨hg, hf⟩ := xgd_inv hf
  refine Xblk hX pkX2_ok [.putfield 50, .aload_n 0, .getfield 50] (pc' := 42) (ls' := [(0, .ref 30), (3, .ref 6)]) (st' := [.int s0]) (h' := (xI h 30 9 s0)) (g := (xbool s0 && true)) (by decide +kernel) rfl rfl hg ?_
  refine Xbr hX (.ifCond .eq (57)) (tgt := 99) (P := s0 = (0 : Int32)) (r := []) (by decide +kernel) rfl (by decide) (fun hc_5 => ?_) (fun hc_5 => ?_)
  · replace hf := xif_t hc_5 hf
    exact XrV2 hX hR hf (by decide +kernel)
  · replace hf := xif_f hc_5 hf
    refine Xblk hX pkX2_ok [.aload_n 0, .getfield 24, .ldc 53] (pc' := 51) (ls' := [(0, .ref 30), (3, .ref 6)]) (st' := [.int (1000000 : Int32), .ref 35]) (h' := (xI h 30 9 s0)) (g := true) (by decide +kernel) rfl rfl rfl ?_
    obtain ⟨h_7, hc_6, hf⟩ := xbd1_inv hf
    refine XcallS hX (mt_j_fill_35 (1000000 : Int32) (xI h 30 9 s0) hc_6) (rest := []) (by decide) (by decide) xm_J7_fill_53178 xi_J7_fill_53178 xl_RX2_54 rfl (Nat.le_of_ble_eq_true rfl) (by decide +kernel) ?_
    show XW X 54 [(0, .ref 30), (3, .ref 6)] [] h_7
    refine Xblk hX pkX2_ok [.iconst 0, .istore 4] (pc' := 57) (ls' := [(4, .int (0 : Int32)), (0, .ref 30), (3, .ref 6)]) (st' := []) (h' := h_7) (g := true) (by decide +kernel) rfl rfl rfl ?_
    refine XW.pick [1, 2, 0] (ls' := [(0, .ref 30), (3, .ref 6), (4, .int (0 : Int32))]) rfl ?_
    refine f_orders_makePlan_6_L_8_ok hX hR  _  (fun l4_12 h_13 hf => ?_) 1000 (0 : Int32) h_7 hf
    refine Xblk hX pkX2_ok [.aload_n 0, .aload_n 3, .getfield 41] (pc' := 96) (ls' := [(0, .ref 30), (3, .ref 6)]) (st' := [.int (h_13.1 6 7), .ref 30]) (h' := h_13) (g := true) (by decide +kernel) rfl rfl rfl ?_
    obtain ⟨h_15, hc_14, hf⟩ := xbd1_inv hf
    refine XcallV hX (mt_orders_chooseSets (h_13.1 6 7) h_13 hc_14) (rest := []) (by decide) (by decide) xm_X2_chooseSets xi_X2_chooseSets xs_X2_chooseSets xl_RX2_67 (by decide) (xsh_30) rfl rfl rfl (Nat.le_of_ble_eq_true rfl) (by decide +kernel) ?_
    show XW X 99 [(0, .ref 30), (3, .ref 6)] [] h_15
    exact XrV2 hX hR hf (by decide +kernel)
set_option maxRecDepth 100000 in
set_option maxHeartbeats 4000000 in
theorem f_orders_makePlan_6_j_3_ok {X : XCtx} (hX : XOk X RX2 cX2_makePlan 5 11 39) {h' : Hp} (hR : XR X none none h')    (h : Hp)  (hf : f_orders_makePlan_6_j_3 h = some h') : XW X 34 [(0, .ref 30), (3, .ref 6)] [.ref 30] h := by
  unfold f_orders_makePlan_6_j_3 at hf
  refine Xblk hX pkX2_ok [.iconst 0] (pc' := 35) (ls' := [(0, .ref 30), (3, .ref 6)]) (st' := [.int (0 : Int32), .ref 30]) (h' := h) (g := true) (by decide +kernel) rfl rfl rfl ?_
  refine XW.pick [0, 1] (ls' := [(0, .ref 30), (3, .ref 6)]) rfl ?_
  exact f_orders_makePlan_6_j_4_ok hX hR (0 : Int32) h hf
set_option maxRecDepth 100000 in
set_option maxHeartbeats 4000000 in
theorem mt_orders_makePlan_6 (l1 : Int64) (h : Hp) {h' : Hp} (hf : f_orders_makePlan_6 l1 h = some h') : MT 11 39 yX2_makePlan cX2_makePlan 5 none [.ref 30, .long l1, .ref 6] h none h' := by
  refine MT.of (by decide +kernel) (Nat.le_of_ble_eq_true rfl) fun X hX hR => ?_
  unfold f_orders_makePlan_6 at hf
  refine Xblk hX pkX2_ok [.aload_n 0, .getfield 37] (pc' := 4) (ls' := [(0, .ref 30), (1, .long l1), (3, .ref 6)]) (st' := [.int (h.1 30 10)]) (h' := h) (g := true) (by decide +kernel) rfl rfl rfl ?_
  refine Xbr hX (.ifCond .eq (4)) (tgt := 8) (P := (h.1 30 10) = (0 : Int32)) (r := []) (by decide +kernel) rfl (by decide) (fun hc_1 => ?_) (fun hc_1 => ?_)
  · replace hf := xif_t hc_1 hf
    refine Xblk hX pkX2_ok [.aload_n 0, .iconst 1, .putfield 37, .aload_n 0, .aload_n 3, .getfield 41] (pc' := 18) (ls' := [(0, .ref 30), (1, .long l1), (3, .ref 6)]) (st' := [.int (h.1 6 7), .ref 30]) (h' := (xI h 30 10 (1 : Int32))) (g := true) (by decide +kernel) rfl rfl rfl ?_
    refine Xbr hX (.ifCond .le (16)) (tgt := 34) (P := (h.1 6 7) ≤ (0 : Int32)) (r := [.ref 30]) (by decide +kernel) rfl (by decide) (fun hc_2 => ?_) (fun hc_2 => ?_)
    · replace hf := xif_t hc_2 hf
      refine XW.pick [0, 2] (ls' := [(0, .ref 30), (3, .ref 6)]) rfl ?_
      exact f_orders_makePlan_6_j_3_ok hX hR (xI h 30 10 (1 : Int32)) hf
    · replace hf := xif_f hc_2 hf
      refine Xblk hX pkX2_ok [.aload_n 0, .lload_n 1, .aload_n 3] (pc' := 24) (ls' := [(0, .ref 30), (1, .long l1), (3, .ref 6)]) (st' := [.ref 6, .long l1, .ref 30, .ref 30]) (h' := (xI h 30 10 (1 : Int32))) (g := true) (by decide +kernel) rfl rfl rfl ?_
      obtain ⟨v_18, h_17, hc_16, hf⟩ := xbd2_inv hf
      refine XcallV hX (mt_orders_measure_6 l1 (xI h 30 10 (1 : Int32)) hc_16) (rest := [.ref 30]) (by decide) (by decide) xm_X2_measure xi_X2_measure xs_X2_measure xl_RX2_46 (by decide) (xsh_30) rfl rfl rfl (Nat.le_of_ble_eq_true rfl) (by decide +kernel) ?_
      show XW X 27 [(0, .ref 30), (1, .long l1), (3, .ref 6)] [.int v_18, .ref 30] h_17
      refine Xbr hX (.ifCond .eq (7)) (tgt := 34) (P := v_18 = (0 : Int32)) (r := [.ref 30]) (by decide +kernel) rfl (by decide) (fun hc_19 => ?_) (fun hc_19 => ?_)
      · replace hf := xif_t hc_19 hf
        refine XW.pick [0, 2] (ls' := [(0, .ref 30), (3, .ref 6)]) rfl ?_
        exact f_orders_makePlan_6_j_3_ok hX hR h_17 hf
      · replace hf := xif_f hc_19 hf
        refine Xblk hX pkX2_ok [.iconst 1] (pc' := 31) (ls' := [(0, .ref 30), (1, .long l1), (3, .ref 6)]) (st' := [.int (1 : Int32), .ref 30]) (h' := h_17) (g := true) (by decide +kernel) rfl rfl rfl ?_
        refine Xgoto hX (4) 35 (by decide +kernel) (by decide) ?_
        refine XW.pick [0, 2] (ls' := [(0, .ref 30), (3, .ref 6)]) rfl ?_
        exact f_orders_makePlan_6_j_4_ok hX hR (1 : Int32) h_17 hf
  · replace hf := xif_f hc_1 hf
    exact XrV2 hX hR hf (by decide +kernel)
