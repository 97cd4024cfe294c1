def f_x_late  (h : Hp) : Option (Int32 × Hp) :=
  if (h.1 30 7) = (0 : Int32) then
    some ((0 : Int32), h)
  else
    xbd1 (f_orders_makePlan_6 (h.2 2 5) h) fun h_3 =>
    some ((if (h_3.1 30 9) = (0 : Int32) then (-2 : Int32) else (h_3.1 30 8)), h_3)
set_option maxRecDepth 100000 in
set_option maxHeartbeats 4000000 in
theorem mt_x_late  (h : Hp) {r : Int32} {h' : Hp} (hf : f_x_late h = some (r, h')) : MT 12 39 yX4_late cX4_late 1 (some .int) [.ref 0] h (some (.int r)) h' := by
  refine MT.of (by decide +kernel) (Nat.le_of_ble_eq_true rfl) fun X hX hR => ?_
  unfold f_x_late at hf
  refine Xblk hX pkX4_ok [.aload_n 0, .getfield 41, .getfield 224] (pc' := 7) (ls' := [(0, .ref 0)]) (st' := [.int (h.1 30 7)]) (h' := h) (g := true) (by decide +kernel) rfl rfl rfl ?_
  refine XbrN hX (.ifCond .ne (5)) (tgt := 12) (P := (h.1 30 7) = (0 : Int32)) (r := []) (by decide +kernel) rfl (by decide) (fun hc_1 => ?_) (fun hc_1 => ?_)
  · replace hf := xif_t hc_1 hf
    refine Xblk hX pkX4_ok [.iconst 0] (pc' := 11) (ls' := [(0, .ref 0)]) (st' := [.int (0 : Int32)]) (h' := h) (g := true) (by decide +kernel) rfl rfl rfl ?_
    exact XrI2 hX hR hf (by decide +kernel)
  · replace hf := xif_f hc_1 hf
    refine Xblk hX pkX4_ok [.aload_n 0, .getfield 41, .aload_n 0, .getfield 16, .getfield 96, .aload_n 0, .getfield 23] (pc' := 27) (ls' := [(0, .ref 0)]) (st' := [.ref 6, .long (h.2 2 5), .ref 30]) (h' := h) (g := true) (by decide +kernel) rfl rfl rfl ?_
    obtain ⟨h_3, hc_2, hf⟩ := xbd1_inv hf
    refine XcallV hX (mt_orders_makePlan_6 (h.2 2 5) h hc_2) (rest := []) (by decide) (by decide) xm_X2_makePlan xi_X2_makePlan xs_X2_makePlan xl_RX4_231 (by decide) (xsh_30) rfl rfl rfl (Nat.le_of_ble_eq_true rfl) (by decide +kernel) ?_
    show XW X 30 [(0, .ref 0)] [] h_3
    refine Xblk hX pkX4_ok [.aload_n 0, .getfield 41, .getfield 235] (pc' := 37) (ls' := [(0, .ref 0)]) (st' := [.int (h_3.1 30 9)]) (h' := h_3) (g := true) (by decide +kernel) rfl rfl rfl ?_
    have kJ_6 : ∀ (w_5 : Int32), w_5 = (if (h_3.1 30 9) = (0 : Int32) then (-2 : Int32) else (h_3.1 30 8)) → XW X 52 [] [.int w_5] h_3 := by
      intro w_5 ew_5
      subst ew_5
      exact XrI2 hX hR hf (by decide +kernel)
    refine Xbr hX (.ifCond .eq (13)) (tgt := 50) (P := (h_3.1 30 9) = (0 : Int32)) (r := []) (by decide +kernel) rfl (by decide) (fun hc_4 => ?_) (fun hc_4 => ?_)
    · refine Xblk hX pkX4_ok [.bipush (-2)] (pc' := 52) (ls' := [(0, .ref 0)]) (st' := [.int (-2 : Int32)]) (h' := h_3) (g := true) (by decide +kernel) rfl rfl rfl ?_
      refine XW.pick [] (ls' := []) rfl ?_
      exact kJ_6 _ (by rw [if_pos hc_4])
    · refine Xblk hX pkX4_ok [.aload_n 0, .getfield 41, .getfield 239] (pc' := 47) (ls' := [(0, .ref 0)]) (st' := [.int (h_3.1 30 8)]) (h' := h_3) (g := true) (by decide +kernel) rfl rfl rfl ?_
      refine Xgoto hX (5) 52 (by decide +kernel) (by decide) ?_
      refine XW.pick [] (ls' := []) rfl ?_
      exact kJ_6 _ (by rw [if_neg hc_4])
def f_orders_planned_j_3  (s0 : Int32) (h : Hp) : Option (Int32) :=
  some (if s0 = (0 : Int32) then (-9 : Int32) else (s0 - (1 : Int32)))
def f_orders_planned (l1 : Int32) (l2 : Int32) (h : Hp) : Option (Int32) :=
  if (6 : Int32) ≤ l2 then
    f_orders_planned_j_3 (0 : Int32) h
  else
    xgd (xin l1 2 && true) <|
    f_orders_planned_j_3 ((jushr (h.1 37 l1.toNatClampNeg) ((4 : Int32) * l2)) &&& (15 : Int32)) h
set_option maxRecDepth 100000 in
set_option maxHeartbeats 4000000 in
theorem f_orders_planned_j_3_ok {X : XCtx} (hX : XOk X RX2 cX2_planned 4 0 39) {r : Int32} {h : Hp} (hR : XR X (some .int) (some (.int r)) h)   (s0 : Int32)  (hf : f_orders_planned_j_3 s0 h = some r) : XW X 23 [] [.int s0] h := by
  unfold f_orders_planned_j_3 at hf
  refine Xblk hX pkX2_ok [.istore_n 3, .iload_n 3] (pc' := 25) (ls' := [(3, .int s0)]) (st' := [.int s0]) (h' := h) (g := true) (by decide +kernel) rfl rfl rfl ?_
  have kJ_6 : ∀ (w_5 : Int32), w_5 = (if s0 = (0 : Int32) then (-9 : Int32) else (s0 - (1 : Int32))) → XW X 36 [] [.int w_5] h := by
    intro w_5 ew_5
    subst ew_5
    exact XrI1 hX hR hf (by decide +kernel)
  refine XbrN hX (.ifCond .ne (8)) (tgt := 33) (P := s0 = (0 : Int32)) (r := []) (by decide +kernel) rfl (by decide) (fun hc_4 => ?_) (fun hc_4 => ?_)
  · refine Xblk hX pkX2_ok [.bipush (-9)] (pc' := 30) (ls' := [(3, .int s0)]) (st' := [.int (-9 : Int32)]) (h' := h) (g := true) (by decide +kernel) rfl rfl rfl ?_
    refine Xgoto hX (6) 36 (by decide +kernel) (by decide) ?_
    refine XW.pick [] (ls' := []) rfl ?_
    exact kJ_6 _ (by rw [if_pos hc_4])
  · refine Xblk hX pkX2_ok [.iload_n 3, .iconst 1, .isub] (pc' := 36) (ls' := [(3, .int s0)]) (st' := [.int (s0 - (1 : Int32))]) (h' := h) (g := true) (by decide +kernel) rfl rfl rfl ?_
    refine XW.pick [] (ls' := []) rfl ?_
    exact kJ_6 _ (by rw [if_neg hc_4])
set_option maxRecDepth 100000 in
set_option maxHeartbeats 4000000 in
theorem mt_orders_planned (l1 : Int32) (l2 : Int32) (h : Hp) {r : Int32} (hf : f_orders_planned l1 l2 h = some r) : MT 0 39 yX2_planned cX2_planned 4 (some .int) [.ref 30, .int l1, .int l2] h (some (.int r)) h := by
  refine MT.of (by decide +kernel) (Nat.le_of_ble_eq_true rfl) fun X hX hR => ?_
  unfold f_orders_planned at hf
  refine Xblk hX pkX2_ok [.iload_n 2, .bipush 6] (pc' := 3) (ls' := [(0, .ref 30), (1, .int l1), (2, .int l2)]) (st' := [.int (6 : Int32), .int l2]) (h' := h) (g := true) (by decide +kernel) rfl rfl rfl ?_
  refine Xbr hX (.if_icmp .ge (19)) (tgt := 22) (P := (6 : Int32) ≤ l2) (r := []) (by decide +kernel) rfl (by decide) (fun hc_2 => ?_) (fun hc_2 => ?_)
  · replace hf := xif_t hc_2 hf
    refine Xblk hX pkX2_ok [.iconst 0] (pc' := 23) (ls' := [(0, .ref 30), (1, .int l1), (2, .int l2)]) (st' := [.int (0 : Int32)]) (h' := h) (g := true) (by decide +kernel) rfl rfl rfl ?_
    refine XW.pick [] (ls' := []) rfl ?_
    exact f_orders_planned_j_3_ok hX hR (0 : Int32) hf
  · replace hf := xif_f hc_2 hf
    obtain ⟨hg, hf⟩ := xgd_inv hf
    refine Xblk hX pkX2_ok [.aload_n 0, .getfield 30, .iload_n 1, .iaload, .iconst 4, .iload_n 2, .imul, .iushr, .bipush 15, .iand] (pc' := 19) (ls' := [(0, .ref 30), (1, .int l1), (2, .int l2)]) (st' := [.int ((jushr (h.1 37 l1.toNatClampNeg) ((4 : Int32) * l2)) &&& (15 : Int32))]) (h' := h) (g := (xin l1 2 && true)) (by decide +kernel) rfl rfl hg ?_
    refine Xgoto hX (4) 23 (by decide +kernel) (by decide) ?_
    refine XW.pick [] (ls' := []) rfl ?_
    exact f_orders_planned_j_3_ok hX hR ((jushr (h.1 37 l1.toNatClampNeg) ((4 : Int32) * l2)) &&& (15 : Int32)) hf
def f_x_served (l1 : Int32) (l2 : Int32) (h : Hp) : Option (Int32 × Hp) :=
  if (f_x_isCarrier l1 h) = (0 : Int32) then
    some ((-1 : Int32), h)
  else
    if (0 : Int32) ≤ l2 then
      if (h.1 30 7) = (0 : Int32) then
        some ((-9 : Int32), h)
      else
        xbd1 (f_orders_makePlan_6 (h.2 2 5) h) fun h_5 =>
        if (h_5.1 30 9) = (0 : Int32) then
          some ((-2 : Int32), h_5)
        else
          xbd1 (f_orders_planned l1 l2 h_5) fun v_9 =>
          some (v_9, h_5)
    else
      some ((-1 : Int32), h)
set_option maxRecDepth 100000 in
set_option maxHeartbeats 4000000 in
theorem mt_x_served (l1 : Int32) (l2 : Int32) (h : Hp) {r : Int32} {h' : Hp} (hf : f_x_served l1 l2 h = some (r, h')) : MT 12 39 yX4_served cX4_served 3 (some .int) [.ref 0, .int l1, .int l2] h (some (.int r)) h' := by
  refine MT.of (by decide +kernel) (Nat.le_of_ble_eq_true rfl) fun X hX hR => ?_
  unfold f_x_served at hf
  refine Xblk hX pkX4_ok [.aload_n 0, .iload_n 1] (pc' := 2) (ls' := [(0, .ref 0), (1, .int l1), (2, .int l2)]) (st' := [.int l1, .ref 0]) (h' := h) (g := true) (by decide +kernel) rfl rfl rfl ?_
  refine XcallV hX (mt_x_isCarrier l1 h) (rest := []) (by decide) (by decide) xm_X4_isCarrier xi_X4_isCarrier xs_X4_isCarrier xl_RX4_143 (by decide) (xsh_0) rfl rfl rfl (Nat.le_of_ble_eq_true rfl) (by decide +kernel) ?_
  show XW X 5 [(0, .ref 0), (1, .int l1), (2, .int l2)] [.int (f_x_isCarrier l1 h)] h
  refine Xbr hX (.ifCond .eq (7)) (tgt := 12) (P := (f_x_isCarrier l1 h) = (0 : Int32)) (r := []) (by decide +kernel) rfl (by decide) (fun hc_1 => ?_) (fun hc_1 => ?_)
  · replace hf := xif_t hc_1 hf
    refine Xblk hX pkX4_ok [.iconst (-1)] (pc' := 13) (ls' := [(0, .ref 0), (1, .int l1), (2, .int l2)]) (st' := [.int (-1 : Int32)]) (h' := h) (g := true) (by decide +kernel) rfl rfl rfl ?_
    exact XrI2 hX hR hf (by decide +kernel)
  · replace hf := xif_f hc_1 hf
    refine Xblk hX pkX4_ok [.iload_n 2] (pc' := 9) (ls' := [(0, .ref 0), (1, .int l1), (2, .int l2)]) (st' := [.int l2]) (h' := h) (g := true) (by decide +kernel) rfl rfl rfl ?_
    refine Xbr hX (.ifCond .ge (5)) (tgt := 14) (P := (0 : Int32) ≤ l2) (r := []) (by decide +kernel) rfl (by decide) (fun hc_2 => ?_) (fun hc_2 => ?_)
    · replace hf := xif_t hc_2 hf
      refine Xblk hX pkX4_ok [.aload_n 0, .getfield 41, .getfield 224] (pc' := 21) (ls' := [(0, .ref 0), (1, .int l1), (2, .int l2)]) (st' := [.int (h.1 30 7)]) (h' := h) (g := true) (by decide +kernel) rfl rfl rfl ?_
      refine XbrN hX (.ifCond .ne (6)) (tgt := 27) (P := (h.1 30 7) = (0 : Int32)) (r := []) (by decide +kernel) rfl (by decide) (fun hc_3 => ?_) (fun hc_3 => ?_)
      · replace hf := xif_t hc_3 hf
        refine Xblk hX pkX4_ok [.bipush (-9)] (pc' := 26) (ls' := [(0, .ref 0), (1, .int l1), (2, .int l2)]) (st' := [.int (-9 : Int32)]) (h' := h) (g := true) (by decide +kernel) rfl rfl rfl ?_
        exact XrI2 hX hR hf (by decide +kernel)
      · replace hf := xif_f hc_3 hf
        refine Xblk hX pkX4_ok [.aload_n 0, .getfield 41, .aload_n 0, .getfield 16, .getfield 96, .aload_n 0, .getfield 23] (pc' := 42) (ls' := [(0, .ref 0), (1, .int l1), (2, .int l2)]) (st' := [.ref 6, .long (h.2 2 5), .ref 30]) (h' := h) (g := true) (by decide +kernel) rfl rfl rfl ?_
        obtain ⟨h_5, hc_4, hf⟩ := xbd1_inv hf
        refine XcallV hX (mt_orders_makePlan_6 (h.2 2 5) h hc_4) (rest := []) (by decide) (by decide) xm_X2_makePlan xi_X2_makePlan xs_X2_makePlan xl_RX4_231 (by decide) (xsh_30) rfl rfl rfl (Nat.le_of_ble_eq_true rfl) (by decide +kernel) ?_
        show XW X 45 [(0, .ref 0), (1, .int l1), (2, .int l2)] [] h_5
        refine Xblk hX pkX4_ok [.aload_n 0, .getfield 41, .getfield 235] (pc' := 52) (ls' := [(0, .ref 0), (1, .int l1), (2, .int l2)]) (st' := [.int (h_5.1 30 9)]) (h' := h_5) (g := true) (by decide +kernel) rfl rfl rfl ?_
        refine Xbr hX (.ifCond .eq (15)) (tgt := 67) (P := (h_5.1 30 9) = (0 : Int32)) (r := []) (by decide +kernel) rfl (by decide) (fun hc_7 => ?_) (fun hc_7 => ?_)
        · replace hf := xif_t hc_7 hf
          refine Xblk hX pkX4_ok [.bipush (-2)] (pc' := 69) (ls' := [(0, .ref 0), (1, .int l1), (2, .int l2)]) (st' := [.int (-2 : Int32)]) (h' := h_5) (g := true) (by decide +kernel) rfl rfl rfl ?_
          exact XrI2 hX hR hf (by decide +kernel)
        · replace hf := xif_f hc_7 hf
          refine Xblk hX pkX4_ok [.aload_n 0, .getfield 41, .iload_n 1, .iload_n 2] (pc' := 61) (ls' := [(0, .ref 0), (1, .int l1), (2, .int l2)]) (st' := [.int l2, .int l1, .ref 30]) (h' := h_5) (g := true) (by decide +kernel) rfl rfl rfl ?_
          obtain ⟨v_9, hc_8, hf⟩ := xbd1_inv hf
          refine XcallV hX (mt_orders_planned l1 l2 h_5 hc_8) (rest := []) (by decide) (by decide) xm_X2_planned xi_X2_planned xs_X2_planned xl_RX4_242 (by decide) (xsh_30) rfl rfl rfl (Nat.le_of_ble_eq_true rfl) (by decide +kernel) ?_
          show XW X 64 [(0, .ref 0), (1, .int l1), (2, .int l2)] [.int v_9] h_5
          refine Xgoto hX (5) 69 (by decide +kernel) (by decide) ?_
          exact XrI2 hX hR hf (by decide +kernel)
    · replace hf := xif_f hc_2 hf
      refine Xblk hX pkX4_ok [.iconst (-1)] (pc' := 13) (ls' := [(0, .ref 0), (1, .int l1), (2, .int l2)]) (st' := [.int (-1 : Int32)]) (h' := h) (g := true) (by decide +kernel) rfl rfl rfl ?_
      exact XrI2 hX hR hf (by decide +kernel)
def f_scene_copyFrom_14_6  (h : Hp) : Hp :=
  (xI (xI (xI (xI (xCp (xCp (xCp (xCp (xCp (xCp h 7 15 0 0 6) 8 16 0 0 6) 9 17 0 0 2) 10 18 0 0 2) 11 19 0 0 128) 12 20 0 0 500) 14 6 (h.1 6 6)) 14 7 (h.1 6 7)) 14 8 (h.1 6 8)) 14 9 (h.1 6 9))
set_option maxRecDepth 100000 in
set_option maxHeartbeats 4000000 in
theorem mt_scene_copyFrom_14_6  (h : Hp) : MT 1 39 yX3_copyFrom cX3_copyFrom 2 none [.ref 14, .ref 6] h none (f_scene_copyFrom_14_6 h) := by
  obtain ⟨o, hf⟩ : ∃ o, f_scene_copyFrom_14_6 h = o := ⟨_, rfl⟩
  rw [hf]
  refine MT.of (by decide +kernel) (Nat.le_of_ble_eq_true rfl) fun X hX hR => ?_
  unfold f_scene_copyFrom_14_6 at hf
  refine Xblk hX pkX3_ok [.aload_n 1, .getfield 9, .iconst 0, .aload_n 0, .getfield 9, .iconst 0, .bipush 6] (pc' := 12) (ls' := [(0, .ref 14), (1, .ref 6)]) (st' := [.int (6 : Int32), .int (0 : Int32), .ref 15, .int (0 : Int32), .ref 7]) (h' := h) (g := true) (by decide +kernel) rfl rfl rfl ?_
  refine Xcopy hX xl_RX3_47 xnative xstatic_ac xinit_sys (xsh_7) (xsh_15) (by decide) (by decide) (by decide) (by decide) (Nat.le_of_ble_eq_true rfl) (by decide +kernel) ?_
  show XW X 15 [(0, .ref 14), (1, .ref 6)] [] (xCp h 7 15 0 0 6)
  refine Xblk hX pkX3_ok [.aload_n 1, .getfield 15, .iconst 0, .aload_n 0, .getfield 15, .iconst 0, .bipush 6] (pc' := 27) (ls' := [(0, .ref 14), (1, .ref 6)]) (st' := [.int (6 : Int32), .int (0 : Int32), .ref 16, .int (0 : Int32), .ref 8]) (h' := (xCp h 7 15 0 0 6)) (g := true) (by decide +kernel) rfl rfl rfl ?_
  refine Xcopy hX xl_RX3_47 xnative xstatic_ac xinit_sys (xsh_8) (xsh_16) (by decide) (by decide) (by decide) (by decide) (Nat.le_of_ble_eq_true rfl) (by decide +kernel) ?_
  show XW X 30 [(0, .ref 14), (1, .ref 6)] [] (xCp (xCp h 7 15 0 0 6) 8 16 0 0 6)
  refine Xblk hX pkX3_ok [.aload_n 1, .getfield 18, .iconst 0, .aload_n 0, .getfield 18, .iconst 0, .iconst 2] (pc' := 41) (ls' := [(0, .ref 14), (1, .ref 6)]) (st' := [.int (2 : Int32), .int (0 : Int32), .ref 17, .int (0 : Int32), .ref 9]) (h' := (xCp (xCp h 7 15 0 0 6) 8 16 0 0 6)) (g := true) (by decide +kernel) rfl rfl rfl ?_
  refine Xcopy hX xl_RX3_47 xnative xstatic_ac xinit_sys (xsh_9) (xsh_17) (by decide) (by decide) (by decide) (by decide) (Nat.le_of_ble_eq_true rfl) (by decide +kernel) ?_
  show XW X 44 [(0, .ref 14), (1, .ref 6)] [] (xCp (xCp (xCp h 7 15 0 0 6) 8 16 0 0 6) 9 17 0 0 2)
  refine Xblk hX pkX3_ok [.aload_n 1, .getfield 21, .iconst 0, .aload_n 0, .getfield 21, .iconst 0, .iconst 2] (pc' := 55) (ls' := [(0, .ref 14), (1, .ref 6)]) (st' := [.int (2 : Int32), .int (0 : Int32), .ref 18, .int (0 : Int32), .ref 10]) (h' := (xCp (xCp (xCp h 7 15 0 0 6) 8 16 0 0 6) 9 17 0 0 2)) (g := true) (by decide +kernel) rfl rfl rfl ?_
  refine Xcopy hX xl_RX3_47 xnative xstatic_ac xinit_sys (xsh_10) (xsh_18) (by decide) (by decide) (by decide) (by decide) (Nat.le_of_ble_eq_true rfl) (by decide +kernel) ?_
  show XW X 58 [(0, .ref 14), (1, .ref 6)] [] (xCp (xCp (xCp (xCp h 7 15 0 0 6) 8 16 0 0 6) 9 17 0 0 2) 10 18 0 0 2)
  refine Xblk hX pkX3_ok [.aload_n 1, .getfield 24, .iconst 0, .aload_n 0, .getfield 24, .iconst 0, .sipush 128] (pc' := 71) (ls' := [(0, .ref 14), (1, .ref 6)]) (st' := [.int (128 : Int32), .int (0 : Int32), .ref 19, .int (0 : Int32), .ref 11]) (h' := (xCp (xCp (xCp (xCp h 7 15 0 0 6) 8 16 0 0 6) 9 17 0 0 2) 10 18 0 0 2)) (g := true) (by decide +kernel) rfl rfl rfl ?_
  refine Xcopy hX xl_RX3_47 xnative xstatic_ac xinit_sys (xsh_11) (xsh_19) (by decide) (by decide) (by decide) (by decide) (Nat.le_of_ble_eq_true rfl) (by decide +kernel) ?_
  show XW X 74 [(0, .ref 14), (1, .ref 6)] [] (xCp (xCp (xCp (xCp (xCp h 7 15 0 0 6) 8 16 0 0 6) 9 17 0 0 2) 10 18 0 0 2) 11 19 0 0 128)
  refine Xblk hX pkX3_ok [.aload_n 1, .getfield 27, .iconst 0, .aload_n 0, .getfield 27, .iconst 0, .sipush 500] (pc' := 87) (ls' := [(0, .ref 14), (1, .ref 6)]) (st' := [.int (500 : Int32), .int (0 : Int32), .ref 20, .int (0 : Int32), .ref 12]) (h' := (xCp (xCp (xCp (xCp (xCp h 7 15 0 0 6) 8 16 0 0 6) 9 17 0 0 2) 10 18 0 0 2) 11 19 0 0 128)) (g := true) (by decide +kernel) rfl rfl rfl ?_
  refine Xcopy hX xl_RX3_47 xnative xstatic_ac xinit_sys (xsh_12) (xsh_20) (by decide) (by decide) (by decide) (by decide) (Nat.le_of_ble_eq_true rfl) (by decide +kernel) ?_
  show XW X 90 [(0, .ref 14), (1, .ref 6)] [] (xCp (xCp (xCp (xCp (xCp (xCp h 7 15 0 0 6) 8 16 0 0 6) 9 17 0 0 2) 10 18 0 0 2) 11 19 0 0 128) 12 20 0 0 500)
  refine Xblk hX pkX3_ok [.aload_n 0, .aload_n 1, .getfield 30, .putfield 30, .aload_n 0, .aload_n 1, .getfield 34, .putfield 34, .aload_n 0, .aload_n 1, .getfield 37, .putfield 37, .aload_n 0, .aload_n 1, .getfield 40, .putfield 40] (pc' := 122) (ls' := [(0, .ref 14), (1, .ref 6)]) (st' := []) (h' := (xI (xI (xI (xI (xCp (xCp (xCp (xCp (xCp (xCp h 7 15 0 0 6) 8 16 0 0 6) 9 17 0 0 2) 10 18 0 0 2) 11 19 0 0 128) 12 20 0 0 500) 14 6 (h.1 6 6)) 14 7 (h.1 6 7)) 14 8 (h.1 6 8)) 14 9 (h.1 6 9))) (g := true) (by decide +kernel) rfl rfl rfl ?_
  subst hf
  exact XretV hX hR (by decide +kernel)
def f_scene_copyFrom_21_6  (h : Hp) : Hp :=
  (xI (xI (xI (xI (xCp (xCp (xCp (xCp (xCp (xCp h 7 22 0 0 6) 8 23 0 0 6) 9 24 0 0 2) 10 25 0 0 2) 11 26 0 0 128) 12 27 0 0 500) 21 6 (h.1 6 6)) 21 7 (h.1 6 7)) 21 8 (h.1 6 8)) 21 9 (h.1 6 9))
set_option maxRecDepth 100000 in
set_option maxHeartbeats 4000000 in
theorem mt_scene_copyFrom_21_6  (h : Hp) : MT 1 39 yX3_copyFrom cX3_copyFrom 2 none [.ref 21, .ref 6] h none (f_scene_copyFrom_21_6 h) := by
  obtain ⟨o, hf⟩ : ∃ o, f_scene_copyFrom_21_6 h = o := ⟨_, rfl⟩
  rw [hf]
  refine MT.of (by decide +kernel) (Nat.le_of_ble_eq_true rfl) fun X hX hR => ?_
  unfold f_scene_copyFrom_21_6 at hf
  refine Xblk hX pkX3_ok [.aload_n 1, .getfield 9, .iconst 0, .aload_n 0, .getfield 9, .iconst 0, .bipush 6] (pc' := 12) (ls' := [(0, .ref 21), (1, .ref 6)]) (st' := [.int (6 : Int32), .int (0 : Int32), .ref 22, .int (0 : Int32), .ref 7]) (h' := h) (g := true) (by decide +kernel) rfl rfl rfl ?_
  refine Xcopy hX xl_RX3_47 xnative xstatic_ac xinit_sys (xsh_7) (xsh_22) (by decide) (by decide) (by decide) (by decide) (Nat.le_of_ble_eq_true rfl) (by decide +kernel) ?_
  show XW X 15 [(0, .ref 21), (1, .ref 6)] [] (xCp h 7 22 0 0 6)
  refine Xblk hX pkX3_ok [.aload_n 1, .getfield 15, .iconst 0, .aload_n 0, .getfield 15, .iconst 0, .bipush 6] (pc' := 27) (ls' := [(0, .ref 21), (1, .ref 6)]) (st' := [.int (6 : Int32), .int (0 : Int32), .ref 23, .int (0 : Int32), .ref 8]) (h' := (xCp h 7 22 0 0 6)) (g := true) (by decide +kernel) rfl rfl rfl ?_
  refine Xcopy hX xl_RX3_47 xnative xstatic_ac xinit_sys (xsh_8) (xsh_23) (by decide) (by decide) (by decide) (by decide) (Nat.le_of_ble_eq_true rfl) (by decide +kernel) ?_
  show XW X 30 [(0, .ref 21), (1, .ref 6)] [] (xCp (xCp h 7 22 0 0 6) 8 23 0 0 6)
  refine Xblk hX pkX3_ok [.aload_n 1, .getfield 18, .iconst 0, .aload_n 0, .getfield 18, .iconst 0, .iconst 2] (pc' := 41) (ls' := [(0, .ref 21), (1, .ref 6)]) (st' := [.int (2 : Int32), .int (0 : Int32), .ref 24, .int (0 : Int32), .ref 9]) (h' := (xCp (xCp h 7 22 0 0 6) 8 23 0 0 6)) (g := true) (by decide +kernel) rfl rfl rfl ?_
  refine Xcopy hX xl_RX3_47 xnative xstatic_ac xinit_sys (xsh_9) (xsh_24) (by decide) (by decide) (by decide) (by decide) (Nat.le_of_ble_eq_true rfl) (by decide +kernel) ?_
  show XW X 44 [(0, .ref 21), (1, .ref 6)] [] (xCp (xCp (xCp h 7 22 0 0 6) 8 23 0 0 6) 9 24 0 0 2)
  refine Xblk hX pkX3_ok [.aload_n 1, .getfield 21, .iconst 0, .aload_n 0, .getfield 21, .iconst 0, .iconst 2] (pc' := 55) (ls' := [(0, .ref 21), (1, .ref 6)]) (st' := [.int (2 : Int32), .int (0 : Int32), .ref 25, .int (0 : Int32), .ref 10]) (h' := (xCp (xCp (xCp h 7 22 0 0 6) 8 23 0 0 6) 9 24 0 0 2)) (g := true) (by decide +kernel) rfl rfl rfl ?_
  refine Xcopy hX xl_RX3_47 xnative xstatic_ac xinit_sys (xsh_10) (xsh_25) (by decide) (by decide) (by decide) (by decide) (Nat.le_of_ble_eq_true rfl) (by decide +kernel) ?_
  show XW X 58 [(0, .ref 21), (1, .ref 6)] [] (xCp (xCp (xCp (xCp h 7 22 0 0 6) 8 23 0 0 6) 9 24 0 0 2) 10 25 0 0 2)
  refine Xblk hX pkX3_ok [.aload_n 1, .getfield 24, .iconst 0, .aload_n 0, .getfield 24, .iconst 0, .sipush 128] (pc' := 71) (ls' := [(0, .ref 21), (1, .ref 6)]) (st' := [.int (128 : Int32), .int (0 : Int32), .ref 26, .int (0 : Int32), .ref 11]) (h' := (xCp (xCp (xCp (xCp h 7 22 0 0 6) 8 23 0 0 6) 9 24 0 0 2) 10 25 0 0 2)) (g := true) (by decide +kernel) rfl rfl rfl ?_
  refine Xcopy hX xl_RX3_47 xnative xstatic_ac xinit_sys (xsh_11) (xsh_26) (by decide) (by decide) (by decide) (by decide) (Nat.le_of_ble_eq_true rfl) (by decide +kernel) ?_
  show XW X 74 [(0, .ref 21), (1, .ref 6)] [] (xCp (xCp (xCp (xCp (xCp h 7 22 0 0 6) 8 23 0 0 6) 9 24 0 0 2) 10 25 0 0 2) 11 26 0 0 128)
  refine Xblk hX pkX3_ok [.aload_n 1, .getfield 27, .iconst 0, .aload_n 0, .getfield 27, .iconst 0, .sipush 500] (pc' := 87) (ls' := [(0, .ref 21), (1, .ref 6)]) (st' := [.int (500 : Int32), .int (0 : Int32), .ref 27, .int (0 : Int32), .ref 12]) (h' := (xCp (xCp (xCp (xCp (xCp h 7 22 0 0 6) 8 23 0 0 6) 9 24 0 0 2) 10 25 0 0 2) 11 26 0 0 128)) (g := true) (by decide +kernel) rfl rfl rfl ?_
  refine Xcopy hX xl_RX3_47 xnative xstatic_ac xinit_sys (xsh_12) (xsh_27) (by decide) (by decide) (by decide) (by decide) (Nat.le_of_ble_eq_true rfl) (by decide +kernel) ?_
  show XW X 90 [(0, .ref 21), (1, .ref 6)] [] (xCp (xCp (xCp (xCp (xCp (xCp h 7 22 0 0 6) 8 23 0 0 6) 9 24 0 0 2) 10 25 0 0 2) 11 26 0 0 128) 12 27 0 0 500)
  refine Xblk hX pkX3_ok [.aload_n 0, .aload_n 1, .getfield 30, .putfield 30, .aload_n 0, .aload_n 1, .getfield 34, .putfield 34, .aload_n 0, .aload_n 1, .getfield 37, .putfield 37, .aload_n 0, .aload_n 1, .getfield 40, .putfield 40] (pc' := 122) (ls' := [(0, .ref 21), (1, .ref 6)]) (st' := []) (h' := (xI (xI (xI (xI (xCp (xCp (xCp (xCp (xCp (xCp h 7 22 0 0 6) 8 23 0 0 6) 9 24 0 0 2) 10 25 0 0 2) 11 26 0 0 128) 12 27 0 0 500) 21 6 (h.1 6 6)) 21 7 (h.1 6 7)) 21 8 (h.1 6 8)) 21 9 (h.1 6 9))) (g := true) (by decide +kernel) rfl rfl rfl ?_
  subst hf
  exact XretV hX hR (by decide +kernel)
def f_x_keep (l1 : Int32) (h : Hp) : Option (Int32 × Hp) :=
  if l1 < (0 : Int32) then
    some ((-1 : Int32), h)
  else
    if l1 < (2 : Int32) then
      if l1 = (0 : Int32) then
        some (((f_scene_copyFrom_14_6 h).1 6 9), (xI (f_scene_copyFrom_14_6 h) 14 10 (1 : Int32)))
      else if l1 = (1 : Int32) then
        some (((f_scene_copyFrom_21_6 h).1 6 9), (xI (f_scene_copyFrom_21_6 h) 21 10 (1 : Int32)))
      else none
    else
      some ((-1 : Int32), h)
set_option maxRecDepth 100000 in
set_option maxHeartbeats 4000000 in
theorem mt_x_keep (l1 : Int32) (h : Hp) {r : Int32} {h' : Hp} (hf : f_x_keep l1 h = some (r, h')) : MT 2 39 yX4_keep cX4_keep 2 (some .int) [.ref 0, .int l1] h (some (.int r)) h' := by
  refine MT.of (by decide +kernel) (Nat.le_of_ble_eq_true rfl) fun X hX hR => ?_
  unfold f_x_keep at hf
  refine Xblk hX pkX4_ok [.iload_n 1] (pc' := 1) (ls' := [(0, .ref 0), (1, .int l1)]) (st' := [.int l1]) (h' := h) (g := true) (by decide +kernel) rfl rfl rfl ?_
  refine Xbr hX (.ifCond .lt (8)) (tgt := 9) (P := l1 < (0 : Int32)) (r := []) (by decide +kernel) rfl (by decide) (fun hc_1 => ?_) (fun hc_1 => ?_)
  · replace hf := xif_t hc_1 hf
    refine Xblk hX pkX4_ok [.iconst (-1)] (pc' := 10) (ls' := [(0, .ref 0), (1, .int l1)]) (st' := [.int (-1 : Int32)]) (h' := h) (g := true) (by decide +kernel) rfl rfl rfl ?_
    exact XrI2 hX hR hf (by decide +kernel)
  · replace hf := xif_f hc_1 hf
    refine Xblk hX pkX4_ok [.iload_n 1, .iconst 2] (pc' := 6) (ls' := [(0, .ref 0), (1, .int l1)]) (st' := [.int (2 : Int32), .int l1]) (h' := h) (g := true) (by decide +kernel) rfl rfl rfl ?_
    refine Xbr hX (.if_icmp .lt (5)) (tgt := 11) (P := l1 < (2 : Int32)) (r := []) (by decide +kernel) rfl (by decide) (fun hc_2 => ?_) (fun hc_2 => ?_)
    · replace hf := xif_t hc_2 hf
      refine Xblk hX pkX4_ok [.aload_n 0, .getfield 27, .iload_n 1] (pc' := 16) (ls' := [(0, .ref 0), (1, .int l1)]) (st' := [.int l1, .ref 13]) (h' := h) (g := true) (by decide +kernel) rfl rfl rfl ?_
      by_cases hc_3 : l1 = (0 : Int32)
      · replace hf := xif_t hc_3 hf
        refine Xaald hX (by decide +kernel) (xsh_13) (by decide) (by rw [hc_3]; decide) (t := 14) (by rw [hc_3]; rfl) ?_
        refine Xblk hX pkX4_ok [.aload_n 0, .getfield 23] (pc' := 21) (ls' := [(0, .ref 0), (1, .int l1)]) (st' := [.ref 6, .ref 14]) (h' := h) (g := true) (by decide +kernel) rfl rfl rfl ?_
        refine XcallV hX (mt_scene_copyFrom_14_6  h) (rest := []) (by decide) (by decide) xm_X3_copyFrom xi_X3_copyFrom xs_X3_copyFrom xl_RX4_245 (by decide) (xsh_14) rfl rfl rfl (Nat.le_of_ble_eq_true rfl) (by decide +kernel) ?_
        show XW X 24 [(0, .ref 0), (1, .int l1)] [] (f_scene_copyFrom_14_6 h)
        refine Xblk hX pkX4_ok [.aload_n 0, .getfield 27, .iload_n 1] (pc' := 29) (ls' := [(0, .ref 0), (1, .int l1)]) (st' := [.int l1, .ref 13]) (h' := (f_scene_copyFrom_14_6 h)) (g := true) (by decide +kernel) rfl rfl rfl ?_
        refine Xaald hX (by decide +kernel) (xsh_13) (by decide) (by rw [hc_3]; decide) (t := 14) (by rw [hc_3]; rfl) ?_
        refine Xblk hX pkX4_ok [.iconst 1, .putfield 249, .aload_n 0, .getfield 23, .getfield 180] (pc' := 41) (ls' := [(0, .ref 0), (1, .int l1)]) (st' := [.int ((f_scene_copyFrom_14_6 h).1 6 9)]) (h' := (xI (f_scene_copyFrom_14_6 h) 14 10 (1 : Int32))) (g := true) (by decide +kernel) rfl rfl rfl ?_
        exact XrI2 hX hR hf (by decide +kernel)
      · replace hf := xif_f hc_3 hf
        by_cases hc_4 : l1 = (1 : Int32)
        · replace hf := xif_t hc_4 hf
          refine Xaald hX (by decide +kernel) (xsh_13) (by decide) (by rw [hc_4]; decide) (t := 21) (by rw [hc_4]; rfl) ?_
          refine Xblk hX pkX4_ok [.aload_n 0, .getfield 23] (pc' := 21) (ls' := [(0, .ref 0), (1, .int l1)]) (st' := [.ref 6, .ref 21]) (h' := h) (g := true) (by decide +kernel) rfl rfl rfl ?_
          refine XcallV hX (mt_scene_copyFrom_21_6  h) (rest := []) (by decide) (by decide) xm_X3_copyFrom xi_X3_copyFrom xs_X3_copyFrom xl_RX4_245 (by decide) (xsh_21) rfl rfl rfl (Nat.le_of_ble_eq_true rfl) (by decide +kernel) ?_
          show XW X 24 [(0, .ref 0), (1, .int l1)] [] (f_scene_copyFrom_21_6 h)
          refine Xblk hX pkX4_ok [.aload_n 0, .getfield 27, .iload_n 1] (pc' := 29) (ls' := [(0, .ref 0), (1, .int l1)]) (st' := [.int l1, .ref 13]) (h' := (f_scene_copyFrom_21_6 h)) (g := true) (by decide +kernel) rfl rfl rfl ?_
          refine Xaald hX (by decide +kernel) (xsh_13) (by decide) (by rw [hc_4]; decide) (t := 21) (by rw [hc_4]; rfl) ?_
          refine Xblk hX pkX4_ok [.iconst 1, .putfield 249, .aload_n 0, .getfield 23, .getfield 180] (pc' := 41) (ls' := [(0, .ref 0), (1, .int l1)]) (st' := [.int ((f_scene_copyFrom_21_6 h).1 6 9)]) (h' := (xI (f_scene_copyFrom_21_6 h) 21 10 (1 : Int32))) (g := true) (by decide +kernel) rfl rfl rfl ?_
          exact XrI2 hX hR hf (by decide +kernel)
        · replace hf := xif_f hc_4 hf
          cases hf
    · replace hf := xif_f hc_2 hf
      refine Xblk hX pkX4_ok [.iconst (-1)] (pc' := 10) (ls' := [(0, .ref 0), (1, .int l1)]) (st' := [.int (-1 : Int32)]) (h' := h) (g := true) (by decide +kernel) rfl rfl rfl ?_
      exact XrI2 hX hR hf (by decide +kernel)
def f_scene_carriersTaken_14_L_1   (h : Hp) (k : Int64 → Int32 → Option (Int64)) : Nat → Int64 → Int32 → Option (Int64)
  | 0, _, _ => none
  | n + 1, l1, l3 =>
    if (h.1 14 7) ≤ l3 then
      k l1 l3
    else
      xgd (xin l3 2 && true) <|
      (f_scene_carriersTaken_14_L_1 h k n) (l1 ||| (jshlL (1 : Int64) (h.1 17 l3.toNatClampNeg))) (l3 + (1 : Int32))
def f_scene_carriersTaken_14  (h : Hp) : Option (Int64) :=
  f_scene_carriersTaken_14_L_1 h (fun l1_3 l3_4 =>
    some l1_3
    ) 1000 (0 : Int64) (0 : Int32)
set_option maxRecDepth 100000 in
set_option maxHeartbeats 4000000 in
theorem f_scene_carriersTaken_14_L_1_ok {X : XCtx} (hX : XOk X RX3 cX3_carriersTaken 4 0 39) {r : Int64} {h : Hp} (hR : XR X (some .long) (some (.long r)) h)    (k : Int64 → Int32 → Option (Int64))  (hk : ∀ (l1 : Int64) (l3 : Int32), k l1 l3 = some r → XW X 29 [(1, .long l1)] [] h) : ∀ (n : Nat) (l1 : Int64) (l3 : Int32), f_scene_carriersTaken_14_L_1 h k n l1 l3 = some r → XW X 4 [(0, .ref 14), (1, .long l1), (3, .int l3)] [] h := by
  intro n
  induction n with
  | zero => intro l1 l3 hf; cases hf
  | succ n ih =>
    intro l1 l3 hf
    rw [f_scene_carriersTaken_14_L_1] at hf
    refine Xblk hX pkX3_ok [.iload_n 3, .aload_n 0, .getfield 34] (pc' := 9) (ls' := [(0, .ref 14), (1, .long l1), (3, .int l3)]) (st' := [.int (h.1 14 7), .int l3]) (h' := h) (g := true) (by decide +kernel) rfl rfl rfl ?_
    refine Xbr hX (.if_icmp .ge (20)) (tgt := 29) (P := (h.1 14 7) ≤ l3) (r := []) (by decide +kernel) rfl (by decide) (fun hc_2 => ?_) (fun hc_2 => ?_)
    · replace hf := xif_t hc_2 hf
      refine XW.pick [1] (ls' := [(1, .long l1)]) rfl ?_
      exact hk l1 l3 hf
    · replace hf := xif_f hc_2 hf
      obtain ⟨hg, hf⟩ := xgd_inv hf
      refine Xblk hX pkX3_ok [.lload_n 1, .lconst 1, .aload_n 0, .getfield 18, .iload_n 3, .iaload, .lshl, .lor, .lstore_n 1, .iinc 3 1] (pc' := 26) (ls' := [(3, .int (l3 + (1 : Int32))), (1, .long (l1 ||| (jshlL (1 : Int64) (h.1 17 l3.toNatClampNeg)))), (0, .ref 14)]) (st' := []) (h' := h) (g := (xin l3 2 && true)) (by decide +kernel) rfl rfl hg ?_
      refine Xgoto hX (-22) 4 (by decide +kernel) (by decide) ?_
      refine XW.pick [2, 1, 0] (ls' := [(0, .ref 14), (1, .long (l1 ||| (jshlL (1 : Int64) (h.1 17 l3.toNatClampNeg)))), (3, .int (l3 + (1 : Int32)))]) rfl ?_
      exact ih (l1 ||| (jshlL (1 : Int64) (h.1 17 l3.toNatClampNeg))) (l3 + (1 : Int32)) hf
set_option maxRecDepth 100000 in
set_option maxHeartbeats 4000000 in
theorem mt_scene_carriersTaken_14  (h : Hp) {r : Int64} (hf : f_scene_carriersTaken_14 h = some r) : MT 0 39 yX3_carriersTaken cX3_carriersTaken 4 (some .long) [.ref 14] h (some (.long r)) h := by
  refine MT.of (by decide +kernel) (Nat.le_of_ble_eq_true rfl) fun X hX hR => ?_
  unfold f_scene_carriersTaken_14 at hf
  refine Xblk hX pkX3_ok [.lconst 0, .lstore_n 1, .iconst 0, .istore_n 3] (pc' := 4) (ls' := [(3, .int (0 : Int32)), (1, .long (0 : Int64)), (0, .ref 14)]) (st' := []) (h' := h) (g := true) (by decide +kernel) rfl rfl rfl ?_
  refine XW.pick [2, 1, 0] (ls' := [(0, .ref 14), (1, .long (0 : Int64)), (3, .int (0 : Int32))]) rfl ?_
  refine f_scene_carriersTaken_14_L_1_ok hX hR  _  (fun l1_3 l3_4 hf => ?_) 1000 (0 : Int64) (0 : Int32) hf
  refine Xblk hX pkX3_ok [.lload_n 1] (pc' := 30) (ls' := [(1, .long l1_3)]) (st' := [.long l1_3]) (h' := h) (g := true) (by decide +kernel) rfl rfl rfl ?_
  exact XrL1 hX hR hf (by decide +kernel)
def f_scene_taken_14_L_3   (h : Hp) (k : Int64 → Int32 → Option (Int64)) : Nat → Int64 → Int32 → Option (Int64)
  | 0, _, _ => none
  | n + 1, l1, l3 =>
    if (h.1 14 6) ≤ l3 then
      k l1 l3
    else
      xgd (xin l3 6 && true) <|
      (f_scene_taken_14_L_3 h k n) (l1 ||| (jshlL (1 : Int64) (h.1 15 l3.toNatClampNeg))) (l3 + (1 : Int32))
def f_scene_taken_14  (h : Hp) : Option (Int64) :=
  xbd1 (f_scene_carriersTaken_14 h) fun v_2 =>
  f_scene_taken_14_L_3 h (fun l1_5 l3_6 =>
    some l1_5
    ) 1000 v_2 (0 : Int32)
set_option maxRecDepth 100000 in
set_option maxHeartbeats 4000000 in
theorem f_scene_taken_14_L_3_ok {X : XCtx} (hX : XOk X RX3 cX3_taken 4 1 39) {r : Int64} {h : Hp} (hR : XR X (some .long) (some (.long r)) h)    (k : Int64 → Int32 → Option (Int64))  (hk : ∀ (l1 : Int64) (l3 : Int32), k l1 l3 = some r → XW X 32 [(1, .long l1)] [] h) : ∀ (n : Nat) (l1 : Int64) (l3 : Int32), f_scene_taken_14_L_3 h k n l1 l3 = some r → XW X 7 [(0, .ref 14), (1, .long l1), (3, .int l3)] [] h := by
  intro n
  induction n with
  | zero => intro l1 l3 hf; cases hf
  | succ n ih =>
    intro l1 l3 hf
    rw [f_scene_taken_14_L_3] at hf
    refine Xblk hX pkX3_ok [.iload_n 3, .aload_n 0, .getfield 30] (pc' := 12) (ls' := [(0, .ref 14), (1, .long l1), (3, .int l3)]) (st' := [.int (h.1 14 6), .int l3]) (h' := h) (g := true) (by decide +kernel) rfl rfl rfl ?_
    refine Xbr hX (.if_icmp .ge (20)) (tgt := 32) (P := (h.1 14 6) ≤ l3) (r := []) (by decide +kernel) rfl (by decide) (fun hc_4 => ?_) (fun hc_4 => ?_)
    · replace hf := xif_t hc_4 hf
      refine XW.pick [1] (ls' := [(1, .long l1)]) rfl ?_
      exact hk l1 l3 hf
    · replace hf := xif_f hc_4 hf
      obtain ⟨hg, hf⟩ := xgd_inv hf
      refine Xblk hX pkX3_ok [.lload_n 1, .lconst 1, .aload_n 0, .getfield 9, .iload_n 3, .iaload, .lshl, .lor, .lstore_n 1, .iinc 3 1] (pc' := 29) (ls' := [(3, .int (l3 + (1 : Int32))), (1, .long (l1 ||| (jshlL (1 : Int64) (h.1 15 l3.toNatClampNeg)))), (0, .ref 14)]) (st' := []) (h' := h) (g := (xin l3 6 && true)) (by decide +kernel) rfl rfl hg ?_
      refine Xgoto hX (-22) 7 (by decide +kernel) (by decide) ?_
      refine XW.pick [2, 1, 0] (ls' := [(0, .ref 14), (1, .long (l1 ||| (jshlL (1 : Int64) (h.1 15 l3.toNatClampNeg)))), (3, .int (l3 + (1 : Int32)))]) rfl ?_
      exact ih (l1 ||| (jshlL (1 : Int64) (h.1 15 l3.toNatClampNeg))) (l3 + (1 : Int32)) hf
set_option maxRecDepth 100000 in
set_option maxHeartbeats 4000000 in
theorem mt_scene_taken_14  (h : Hp) {r : Int64} (hf : f_scene_taken_14 h = some r) : MT 1 39 yX3_taken cX3_taken 4 (some .long) [.ref 14] h (some (.long r)) h := by
  refine MT.of (by decide +kernel) (Nat.le_of_ble_eq_true rfl) fun X hX hR => ?_
  unfold f_scene_taken_14 at hf
  refine Xblk hX pkX3_ok [.aload_n 0] (pc' := 1) (ls' := [(0, .ref 14)]) (st' := [.ref 14]) (h' := h) (g := true) (by decide +kernel) rfl rfl rfl ?_
  obtain ⟨v_2, hc_1, hf⟩ := xbd1_inv hf
  refine XcallV hX (mt_scene_carriersTaken_14  h hc_1) (rest := []) (by decide) (by decide) xm_X3_carriersTaken xi_X3_carriersTaken xs_X3_carriersTaken xl_RX3_43 (by decide) (xsh_14) rfl rfl rfl (Nat.le_of_ble_eq_true rfl) (by decide +kernel) ?_
  show XW X 4 [(0, .ref 14)] [.long v_2] h
  refine Xblk hX pkX3_ok [.lstore_n 1, .iconst 0, .istore_n 3] (pc' := 7) (ls' := [(3, .int (0 : Int32)), (1, .long v_2), (0, .ref 14)]) (st' := []) (h' := h) (g := true) (by decide +kernel) rfl rfl rfl ?_
  refine XW.pick [2, 1, 0] (ls' := [(0, .ref 14), (1, .long v_2), (3, .int (0 : Int32))]) rfl ?_
  refine f_scene_taken_14_L_3_ok hX hR  _  (fun l1_5 l3_6 hf => ?_) 1000 v_2 (0 : Int32) hf
  refine Xblk hX pkX3_ok [.lload_n 1] (pc' := 33) (ls' := [(1, .long l1_5)]) (st' := [.long l1_5]) (h' := h) (g := true) (by decide +kernel) rfl rfl rfl ?_
  exact XrL1 hX hR hf (by decide +kernel)
def f_scene_copyFrom_6_14  (h : Hp) : Hp :=
  (xI (xI (xI (xI (xCp (xCp (xCp (xCp (xCp (xCp h 15 7 0 0 6) 16 8 0 0 6) 17 9 0 0 2) 18 10 0 0 2) 19 11 0 0 128) 20 12 0 0 500) 6 6 (h.1 14 6)) 6 7 (h.1 14 7)) 6 8 (h.1 14 8)) 6 9 (h.1 14 9))
set_option maxRecDepth 100000 in
set_option maxHeartbeats 4000000 in
theorem mt_scene_copyFrom_6_14  (h : Hp) : MT 1 39 yX3_copyFrom cX3_copyFrom 2 none [.ref 6, .ref 14] h none (f_scene_copyFrom_6_14 h) := by
  obtain ⟨o, hf⟩ : ∃ o, f_scene_copyFrom_6_14 h = o := ⟨_, rfl⟩
  rw [hf]
  refine MT.of (by decide +kernel) (Nat.le_of_ble_eq_true rfl) fun X hX hR => ?_
  unfold f_scene_copyFrom_6_14 at hf
  refine Xblk hX pkX3_ok [.aload_n 1, .getfield 9, .iconst 0, .aload_n 0, .getfield 9, .iconst 0, .bipush 6] (pc' := 12) (ls' := [(0, .ref 6), (1, .ref 14)]) (st' := [.int (6 : Int32), .int (0 : Int32), .ref 7, .int (0 : Int32), .ref 15]) (h' := h) (g := true) (by decide +kernel) rfl rfl rfl ?_
  refine Xcopy hX xl_RX3_47 xnative xstatic_ac xinit_sys (xsh_15) (xsh_7) (by decide) (by decide) (by decide) (by decide) (Nat.le_of_ble_eq_true rfl) (by decide +kernel) ?_
  show XW X 15 [(0, .ref 6), (1, .ref 14)] [] (xCp h 15 7 0 0 6)
  refine Xblk hX pkX3_ok [.aload_n 1, .getfield 15, .iconst 0, .aload_n 0, .getfield 15, .iconst 0, .bipush 6] (pc' := 27) (ls' := [(0, .ref 6), (1, .ref 14)]) (st' := [.int (6 : Int32), .int (0 : Int32), .ref 8, .int (0 : Int32), .ref 16]) (h' := (xCp h 15 7 0 0 6)) (g := true) (by decide +kernel) rfl rfl rfl ?_
  refine Xcopy hX xl_RX3_47 xnative xstatic_ac xinit_sys (xsh_16) (xsh_8) (by decide) (by decide) (by decide) (by decide) (Nat.le_of_ble_eq_true rfl) (by decide +kernel) ?_
  show XW X 30 [(0, .ref 6), (1, .ref 14)] [] (xCp (xCp h 15 7 0 0 6) 16 8 0 0 6)
  refine Xblk hX pkX3_ok [.aload_n 1, .getfield 18, .iconst 0, .aload_n 0, .getfield 18, .iconst 0, .iconst 2] (pc' := 41) (ls' := [(0, .ref 6), (1, .ref 14)]) (st' := [.int (2 : Int32), .int (0 : Int32), .ref 9, .int (0 : Int32), .ref 17]) (h' := (xCp (xCp h 15 7 0 0 6) 16 8 0 0 6)) (g := true) (by decide +kernel) rfl rfl rfl ?_
  refine Xcopy hX xl_RX3_47 xnative xstatic_ac xinit_sys (xsh_17) (xsh_9) (by decide) (by decide) (by decide) (by decide) (Nat.le_of_ble_eq_true rfl) (by decide +kernel) ?_
  show XW X 44 [(0, .ref 6), (1, .ref 14)] [] (xCp (xCp (xCp h 15 7 0 0 6) 16 8 0 0 6) 17 9 0 0 2)
  refine Xblk hX pkX3_ok [.aload_n 1, .getfield 21, .iconst 0, .aload_n 0, .getfield 21, .iconst 0, .iconst 2] (pc' := 55) (ls' := [(0, .ref 6), (1, .ref 14)]) (st' := [.int (2 : Int32), .int (0 : Int32), .ref 10, .int (0 : Int32), .ref 18]) (h' := (xCp (xCp (xCp h 15 7 0 0 6) 16 8 0 0 6) 17 9 0 0 2)) (g := true) (by decide +kernel) rfl rfl rfl ?_
  refine Xcopy hX xl_RX3_47 xnative xstatic_ac xinit_sys (xsh_18) (xsh_10) (by decide) (by decide) (by decide) (by decide) (Nat.le_of_ble_eq_true rfl) (by decide +kernel) ?_
  show XW X 58 [(0, .ref 6), (1, .ref 14)] [] (xCp (xCp (xCp (xCp h 15 7 0 0 6) 16 8 0 0 6) 17 9 0 0 2) 18 10 0 0 2)
  refine Xblk hX pkX3_ok [.aload_n 1, .getfield 24, .iconst 0, .aload_n 0, .getfield 24, .iconst 0, .sipush 128] (pc' := 71) (ls' := [(0, .ref 6), (1, .ref 14)]) (st' := [.int (128 : Int32), .int (0 : Int32), .ref 11, .int (0 : Int32), .ref 19]) (h' := (xCp (xCp (xCp (xCp h 15 7 0 0 6) 16 8 0 0 6) 17 9 0 0 2) 18 10 0 0 2)) (g := true) (by decide +kernel) rfl rfl rfl ?_
  refine Xcopy hX xl_RX3_47 xnative xstatic_ac xinit_sys (xsh_19) (xsh_11) (by decide) (by decide) (by decide) (by decide) (Nat.le_of_ble_eq_true rfl) (by decide +kernel) ?_
  show XW X 74 [(0, .ref 6), (1, .ref 14)] [] (xCp (xCp (xCp (xCp (xCp h 15 7 0 0 6) 16 8 0 0 6) 17 9 0 0 2) 18 10 0 0 2) 19 11 0 0 128)
  refine Xblk hX pkX3_ok [.aload_n 1, .getfield 27, .iconst 0, .aload_n 0, .getfield 27, .iconst 0, .sipush 500] (pc' := 87) (ls' := [(0, .ref 6), (1, .ref 14)]) (st' := [.int (500 : Int32), .int (0 : Int32), .ref 12, .int (0 : Int32), .ref 20]) (h' := (xCp (xCp (xCp (xCp (xCp h 15 7 0 0 6) 16 8 0 0 6) 17 9 0 0 2) 18 10 0 0 2) 19 11 0 0 128)) (g := true) (by decide +kernel) rfl rfl rfl ?_
  refine Xcopy hX xl_RX3_47 xnative xstatic_ac xinit_sys (xsh_20) (xsh_12) (by decide) (by decide) (by decide) (by decide) (Nat.le_of_ble_eq_true rfl) (by decide +kernel) ?_
  show XW X 90 [(0, .ref 6), (1, .ref 14)] [] (xCp (xCp (xCp (xCp (xCp (xCp h 15 7 0 0 6) 16 8 0 0 6) 17 9 0 0 2) 18 10 0 0 2) 19 11 0 0 128) 20 12 0 0 500)
  refine Xblk hX pkX3_ok [.aload_n 0, .aload_n 1, .getfield 30, .putfield 30, .aload_n 0, .aload_n 1, .getfield 34, .putfield 34, .aload_n 0, .aload_n 1, .getfield 37, .putfield 37, .aload_n 0, .aload_n 1, .getfield 40, .putfield 40] (pc' := 122) (ls' := [(0, .ref 6), (1, .ref 14)]) (st' := []) (h' := (xI (xI (xI (xI (xCp (xCp (xCp (xCp (xCp (xCp h 15 7 0 0 6) 16 8 0 0 6) 17 9 0 0 2) 18 10 0 0 2) 19 11 0 0 128) 20 12 0 0 500) 6 6 (h.1 14 6)) 6 7 (h.1 14 7)) 6 8 (h.1 14 8)) 6 9 (h.1 14 9))) (g := true) (by decide +kernel) rfl rfl rfl ?_
  subst hf
  exact XretV hX hR (by decide +kernel)
def f_scene_carriersTaken_21_L_1   (h : Hp) (k : Int64 → Int32 → Option (Int64)) : Nat → Int64 → Int32 → Option (Int64)
  | 0, _, _ => none
  | n + 1, l1, l3 =>
    if (h.1 21 7) ≤ l3 then
      k l1 l3
    else
      xgd (xin l3 2 && true) <|
      (f_scene_carriersTaken_21_L_1 h k n) (l1 ||| (jshlL (1 : Int64) (h.1 24 l3.toNatClampNeg))) (l3 + (1 : Int32))
def f_scene_carriersTaken_21  (h : Hp) : Option (Int64) :=
  f_scene_carriersTaken_21_L_1 h (fun l1_3 l3_4 =>
    some l1_3
    ) 1000 (0 : Int64) (0 : Int32)
set_option maxRecDepth 100000 in
set_option maxHeartbeats 4000000 in
theorem f_scene_carriersTaken_21_L_1_ok {X : XCtx} (hX : XOk X RX3 cX3_carriersTaken 4 0 39) {r : Int64} {h : Hp} (hR : XR X (some .long) (some (.long r)) h)    (k : Int64 → Int32 → Option (Int64))  (hk : ∀ (l1 : Int64) (l3 : Int32), k l1 l3 = some r → XW X 29 [(1, .long l1)] [] h) : ∀ (n : Nat) (l1 : Int64) (l3 : Int32), f_scene_carriersTaken_21_L_1 h k n l1 l3 = some r → XW X 4 [(0, .ref 21), (1, .long l1), (3, .int l3)] [] h := by
  intro n
  induction n with
  | zero => intro l1 l3 hf; cases hf
  | succ n ih =>
    intro l1 l3 hf
    rw [f_scene_carriersTaken_21_L_1] at hf
    refine Xblk hX pkX3_ok [.iload_n 3, .aload_n 0, .getfield 34] (pc' := 9) (ls' := [(0, .ref 21), (1, .long l1), (3, .int l3)]) (st' := [.int (h.1 21 7), .int l3]) (h' := h) (g := true) (by decide +kernel) rfl rfl rfl ?_
    refine Xbr hX (.if_icmp .ge (20)) (tgt := 29) (P := (h.1 21 7) ≤ l3) (r := []) (by decide +kernel) rfl (by decide) (fun hc_2 => ?_) (fun hc_2 => ?_)
    · replace hf := xif_t hc_2 hf
      refine XW.pick [1] (ls' := [(1, .long l1)]) rfl ?_
      exact hk l1 l3 hf
    · replace hf := xif_f hc_2 hf
      obtain ⟨hg, hf⟩ := xgd_inv hf
      refine Xblk hX pkX3_ok [.lload_n 1, .lconst 1, .aload_n 0, .getfield 18, .iload_n 3, .iaload, .lshl, .lor, .lstore_n 1, .iinc 3 1] (pc' := 26) (ls' := [(3, .int (l3 + (1 : Int32))), (1, .long (l1 ||| (jshlL (1 : Int64) (h.1 24 l3.toNatClampNeg)))), (0, .ref 21)]) (st' := []) (h' := h) (g := (xin l3 2 && true)) (by decide +kernel) rfl rfl hg ?_
      refine Xgoto hX (-22) 4 (by decide +kernel) (by decide) ?_
      refine XW.pick [2, 1, 0] (ls' := [(0, .ref 21), (1, .long (l1 ||| (jshlL (1 : Int64) (h.1 24 l3.toNatClampNeg)))), (3, .int (l3 + (1 : Int32)))]) rfl ?_
      exact ih (l1 ||| (jshlL (1 : Int64) (h.1 24 l3.toNatClampNeg))) (l3 + (1 : Int32)) hf
set_option maxRecDepth 100000 in
set_option maxHeartbeats 4000000 in
theorem mt_scene_carriersTaken_21  (h : Hp) {r : Int64} (hf : f_scene_carriersTaken_21 h = some r) : MT 0 39 yX3_carriersTaken cX3_carriersTaken 4 (some .long) [.ref 21] h (some (.long r)) h := by
  refine MT.of (by decide +kernel) (Nat.le_of_ble_eq_true rfl) fun X hX hR => ?_
  unfold f_scene_carriersTaken_21 at hf
  refine Xblk hX pkX3_ok [.lconst 0, .lstore_n 1, .iconst 0, .istore_n 3] (pc' := 4) (ls' := [(3, .int (0 : Int32)), (1, .long (0 : Int64)), (0, .ref 21)]) (st' := []) (h' := h) (g := true) (by decide +kernel) rfl rfl rfl ?_
  refine XW.pick [2, 1, 0] (ls' := [(0, .ref 21), (1, .long (0 : Int64)), (3, .int (0 : Int32))]) rfl ?_
  refine f_scene_carriersTaken_21_L_1_ok hX hR  _  (fun l1_3 l3_4 hf => ?_) 1000 (0 : Int64) (0 : Int32) hf
  refine Xblk hX pkX3_ok [.lload_n 1] (pc' := 30) (ls' := [(1, .long l1_3)]) (st' := [.long l1_3]) (h' := h) (g := true) (by decide +kernel) rfl rfl rfl ?_
  exact XrL1 hX hR hf (by decide +kernel)
def f_scene_taken_21_L_3   (h : Hp) (k : Int64 → Int32 → Option (Int64)) : Nat → Int64 → Int32 → Option (Int64)
  | 0, _, _ => none
  | n + 1, l1, l3 =>
    if (h.1 21 6) ≤ l3 then
      k l1 l3
    else
      xgd (xin l3 6 && true) <|
      (f_scene_taken_21_L_3 h k n) (l1 ||| (jshlL (1 : Int64) (h.1 22 l3.toNatClampNeg))) (l3 + (1 : Int32))
def f_scene_taken_21  (h : Hp) : Option (Int64) :=
  xbd1 (f_scene_carriersTaken_21 h) fun v_2 =>
  f_scene_taken_21_L_3 h (fun l1_5 l3_6 =>
    some l1_5
    ) 1000 v_2 (0 : Int32)
set_option maxRecDepth 100000 in
set_option maxHeartbeats 4000000 in
theorem f_scene_taken_21_L_3_ok {X : XCtx} (hX : XOk X RX3 cX3_taken 4 1 39) {r : Int64} {h : Hp} (hR : XR X (some .long) (some (.long r)) h)    (k : Int64 → Int32 → Option (Int64))  (hk : ∀ (l1 : Int64) (l3 : Int32), k l1 l3 = some r → XW X 32 [(1, .long l1)] [] h) : ∀ (n : Nat) (l1 : Int64) (l3 : Int32), f_scene_taken_21_L_3 h k n l1 l3 = some r → XW X 7 [(0, .ref 21), (1, .long l1), (3, .int l3)] [] h := by
  intro n
  induction n with
  | zero => intro l1 l3 hf; cases hf
  | succ n ih =>
    intro l1 l3 hf
    rw [f_scene_taken_21_L_3] at hf
    refine Xblk hX pkX3_ok [.iload_n 3, .aload_n 0, .getfield 30] (pc' := 12) (ls' := [(0, .ref 21), (1, .long l1), (3, .int l3)]) (st' := [.int (h.1 21 6), .int l3]) (h' := h) (g := true) (by decide +kernel) rfl rfl rfl ?_
    refine Xbr hX (.if_icmp .ge (20)) (tgt := 32) (P := (h.1 21 6) ≤ l3) (r := []) (by decide +kernel) rfl (by decide) (fun hc_4 => ?_) (fun hc_4 => ?_)
    · replace hf := xif_t hc_4 hf
      refine XW.pick [1] (ls' := [(1, .long l1)]) rfl ?_
      exact hk l1 l3 hf
    · replace hf := xif_f hc_4 hf
      obtain ⟨hg, hf⟩ := xgd_inv hf
      refine Xblk hX pkX3_ok [.lload_n 1, .lconst 1, .aload_n 0, .getfield 9, .iload_n 3, .iaload, .lshl, .lor, .lstore_n 1, .iinc 3 1] (pc' := 29) (ls' := [(3, .int (l3 + (1 : Int32))), (1, .long (l1 ||| (jshlL (1 : Int64) (h.1 22 l3.toNatClampNeg)))), (0, .ref 21)]) (st' := []) (h' := h) (g := (xin l3 6 && true)) (by decide +kernel) rfl rfl hg ?_
      refine Xgoto hX (-22) 7 (by decide +kernel) (by decide) ?_
      refine XW.pick [2, 1, 0] (ls' := [(0, .ref 21), (1, .long (l1 ||| (jshlL (1 : Int64) (h.1 22 l3.toNatClampNeg)))), (3, .int (l3 + (1 : Int32)))]) rfl ?_
      exact ih (l1 ||| (jshlL (1 : Int64) (h.1 22 l3.toNatClampNeg))) (l3 + (1 : Int32)) hf
set_option maxRecDepth 100000 in
set_option maxHeartbeats 4000000 in
theorem mt_scene_taken_21  (h : Hp) {r : Int64} (hf : f_scene_taken_21 h = some r) : MT 1 39 yX3_taken cX3_taken 4 (some .long) [.ref 21] h (some (.long r)) h := by
  refine MT.of (by decide +kernel) (Nat.le_of_ble_eq_true rfl) fun X hX hR => ?_
  unfold f_scene_taken_21 at hf
  refine Xblk hX pkX3_ok [.aload_n 0] (pc' := 1) (ls' := [(0, .ref 21)]) (st' := [.ref 21]) (h' := h) (g := true) (by decide +kernel) rfl rfl rfl ?_
  obtain ⟨v_2, hc_1, hf⟩ := xbd1_inv hf
  refine XcallV hX (mt_scene_carriersTaken_21  h hc_1) (rest := []) (by decide) (by decide) xm_X3_carriersTaken xi_X3_carriersTaken xs_X3_carriersTaken xl_RX3_43 (by decide) (xsh_21) rfl rfl rfl (Nat.le_of_ble_eq_true rfl) (by decide +kernel) ?_
  show XW X 4 [(0, .ref 21)] [.long v_2] h
  refine Xblk hX pkX3_ok [.lstore_n 1, .iconst 0, .istore_n 3] (pc' := 7) (ls' := [(3, .int (0 : Int32)), (1, .long v_2), (0, .ref 21)]) (st' := []) (h' := h) (g := true) (by decide +kernel) rfl rfl rfl ?_
  refine XW.pick [2, 1, 0] (ls' := [(0, .ref 21), (1, .long v_2), (3, .int (0 : Int32))]) rfl ?_
  refine f_scene_taken_21_L_3_ok hX hR  _  (fun l1_5 l3_6 hf => ?_) 1000 v_2 (0 : Int32) hf
  refine Xblk hX pkX3_ok [.lload_n 1] (pc' := 33) (ls' := [(1, .long l1_5)]) (st' := [.long l1_5]) (h' := h) (g := true) (by decide +kernel) rfl rfl rfl ?_
  exact XrL1 hX hR hf (by decide +kernel)
def f_scene_copyFrom_6_21  (h : Hp) : Hp :=
  (xI (xI (xI (xI (xCp (xCp (xCp (xCp (xCp (xCp h 22 7 0 0 6) 23 8 0 0 6) 24 9 0 0 2) 25 10 0 0 2) 26 11 0 0 128) 27 12 0 0 500) 6 6 (h.1 21 6)) 6 7 (h.1 21 7)) 6 8 (h.1 21 8)) 6 9 (h.1 21 9))
set_option maxRecDepth 100000 in
set_option maxHeartbeats 4000000 in
theorem mt_scene_copyFrom_6_21  (h : Hp) : MT 1 39 yX3_copyFrom cX3_copyFrom 2 none [.ref 6, .ref 21] h none (f_scene_copyFrom_6_21 h) := by
  obtain ⟨o, hf⟩ : ∃ o, f_scene_copyFrom_6_21 h = o := ⟨_, rfl⟩
  rw [hf]
  refine MT.of (by decide +kernel) (Nat.le_of_ble_eq_true rfl) fun X hX hR => ?_
  unfold f_scene_copyFrom_6_21 at hf
  refine Xblk hX pkX3_ok [.aload_n 1, .getfield 9, .iconst 0, .aload_n 0, .getfield 9, .iconst 0, .bipush 6] (pc' := 12) (ls' := [(0, .ref 6), (1, .ref 21)]) (st' := [.int (6 : Int32), .int (0 : Int32), .ref 7, .int (0 : Int32), .ref 22]) (h' := h) (g := true) (by decide +kernel) rfl rfl rfl ?_
  refine Xcopy hX xl_RX3_47 xnative xstatic_ac xinit_sys (xsh_22) (xsh_7) (by decide) (by decide) (by decide) (by decide) (Nat.le_of_ble_eq_true rfl) (by decide +kernel) ?_
  show XW X 15 [(0, .ref 6), (1, .ref 21)] [] (xCp h 22 7 0 0 6)
  refine Xblk hX pkX3_ok [.aload_n 1, .getfield 15, .iconst 0, .aload_n 0, .getfield 15, .iconst 0, .bipush 6] (pc' := 27) (ls' := [(0, .ref 6), (1, .ref 21)]) (st' := [.int (6 : Int32), .int (0 : Int32), .ref 8, .int (0 : Int32), .ref 23]) (h' := (xCp h 22 7 0 0 6)) (g := true) (by decide +kernel) rfl rfl rfl ?_
  refine Xcopy hX xl_RX3_47 xnative xstatic_ac xinit_sys (xsh_23) (xsh_8) (by decide) (by decide) (by decide) (by decide) (Nat.le_of_ble_eq_true rfl) (by decide +kernel) ?_
  show XW X 30 [(0, .ref 6), (1, .ref 21)] [] (xCp (xCp h 22 7 0 0 6) 23 8 0 0 6)
  refine Xblk hX pkX3_ok [.aload_n 1, .getfield 18, .iconst 0, .aload_n 0, .getfield 18, .iconst 0, .iconst 2] (pc' := 41) (ls' := [(0, .ref 6), (1, .ref 21)]) (st' := [.int (2 : Int32), .int (0 : Int32), .ref 9, .int (0 : Int32), .ref 24]) (h' := (xCp (xCp h 22 7 0 0 6) 23 8 0 0 6)) (g := true) (by decide +kernel) rfl rfl rfl ?_
  refine Xcopy hX xl_RX3_47 xnative xstatic_ac xinit_sys (xsh_24) (xsh_9) (by decide) (by decide) (by decide) (by decide) (Nat.le_of_ble_eq_true rfl) (by decide +kernel) ?_
  show XW X 44 [(0, .ref 6), (1, .ref 21)] [] (xCp (xCp (xCp h 22 7 0 0 6) 23 8 0 0 6) 24 9 0 0 2)
  refine Xblk hX pkX3_ok [.aload_n 1, .getfield 21, .iconst 0, .aload_n 0, .getfield 21, .iconst 0, .iconst 2] (pc' := 55) (ls' := [(0, .ref 6), (1, .ref 21)]) (st' := [.int (2 : Int32), .int (0 : Int32), .ref 10, .int (0 : Int32), .ref 25]) (h' := (xCp (xCp (xCp h 22 7 0 0 6) 23 8 0 0 6) 24 9 0 0 2)) (g := true) (by decide +kernel) rfl rfl rfl ?_
  refine Xcopy hX xl_RX3_47 xnative xstatic_ac xinit_sys (xsh_25) (xsh_10) (by decide) (by decide) (by decide) (by decide) (Nat.le_of_ble_eq_true rfl) (by decide +kernel) ?_
  show XW X 58 [(0, .ref 6), (1, .ref 21)] [] (xCp (xCp (xCp (xCp h 22 7 0 0 6) 23 8 0 0 6) 24 9 0 0 2) 25 10 0 0 2)
  refine Xblk hX pkX3_ok [.aload_n 1, .getfield 24, .iconst 0, .aload_n 0, .getfield 24, .iconst 0, .sipush 128] (pc' := 71) (ls' := [(0, .ref 6), (1, .ref 21)]) (st' := [.int (128 : Int32), .int (0 : Int32), .ref 11, .int (0 : Int32), .ref 26]) (h' := (xCp (xCp (xCp (xCp h 22 7 0 0 6) 23 8 0 0 6) 24 9 0 0 2) 25 10 0 0 2)) (g := true) (by decide +kernel) rfl rfl rfl ?_
  refine Xcopy hX xl_RX3_47 xnative xstatic_ac xinit_sys (xsh_26) (xsh_11) (by decide) (by decide) (by decide) (by decide) (Nat.le_of_ble_eq_true rfl) (by decide +kernel) ?_
  show XW X 74 [(0, .ref 6), (1, .ref 21)] [] (xCp (xCp (xCp (xCp (xCp h 22 7 0 0 6) 23 8 0 0 6) 24 9 0 0 2) 25 10 0 0 2) 26 11 0 0 128)
  refine Xblk hX pkX3_ok [.aload_n 1, .getfield 27, .iconst 0, .aload_n 0, .getfield 27, .iconst 0, .sipush 500] (pc' := 87) (ls' := [(0, .ref 6), (1, .ref 21)]) (st' := [.int (500 : Int32), .int (0 : Int32), .ref 12, .int (0 : Int32), .ref 27]) (h' := (xCp (xCp (xCp (xCp (xCp h 22 7 0 0 6) 23 8 0 0 6) 24 9 0 0 2) 25 10 0 0 2) 26 11 0 0 128)) (g := true) (by decide +kernel) rfl rfl rfl ?_
  refine Xcopy hX xl_RX3_47 xnative xstatic_ac xinit_sys (xsh_27) (xsh_12) (by decide) (by decide) (by decide) (by decide) (Nat.le_of_ble_eq_true rfl) (by decide +kernel) ?_
  show XW X 90 [(0, .ref 6), (1, .ref 21)] [] (xCp (xCp (xCp (xCp (xCp (xCp h 22 7 0 0 6) 23 8 0 0 6) 24 9 0 0 2) 25 10 0 0 2) 26 11 0 0 128) 27 12 0 0 500)
  refine Xblk hX pkX3_ok [.aload_n 0, .aload_n 1, .getfield 30, .putfield 30, .aload_n 0, .aload_n 1, .getfield 34, .putfield 34, .aload_n 0, .aload_n 1, .getfield 37, .putfield 37, .aload_n 0, .aload_n 1, .getfield 40, .putfield 40] (pc' := 122) (ls' := [(0, .ref 6), (1, .ref 21)]) (st' := []) (h' := (xI (xI (xI (xI (xCp (xCp (xCp (xCp (xCp (xCp h 22 7 0 0 6) 23 8 0 0 6) 24 9 0 0 2) 25 10 0 0 2) 26 11 0 0 128) 27 12 0 0 500) 6 6 (h.1 21 6)) 6 7 (h.1 21 7)) 6 8 (h.1 21 8)) 6 9 (h.1 21 9))) (g := true) (by decide +kernel) rfl rfl rfl ?_
  subst hf
  exact XretV hX hR (by decide +kernel)
def f_x_back (l1 : Int32) (h : Hp) : Option (Int32 × Hp) :=
  if l1 < (0 : Int32) then
    some ((-1 : Int32), h)
  else
    if l1 < (2 : Int32) then
      if l1 = (0 : Int32) then
        if (h.1 14 10) = (0 : Int32) then
          some ((-2 : Int32), h)
        else
          xbd1 (f_scene_taken_14 h) fun v_7 =>
          if (lg_cmp (v_7 &&& ((h.2 2 5) ^^^ (-1 : Int64))) (0 : Int64)) = (0 : Int32) then
            some (((f_orders_forgetPlan (f_scene_copyFrom_6_14 h)).1 6 9), (f_orders_forgetPlan (f_scene_copyFrom_6_14 h)))
          else
            some ((-2 : Int32), h)
      else if l1 = (1 : Int32) then
        if (h.1 21 10) = (0 : Int32) then
          some ((-2 : Int32), h)
        else
          xbd1 (f_scene_taken_21 h) fun v_11 =>
          if (lg_cmp (v_11 &&& ((h.2 2 5) ^^^ (-1 : Int64))) (0 : Int64)) = (0 : Int32) then
            some (((f_orders_forgetPlan (f_scene_copyFrom_6_21 h)).1 6 9), (f_orders_forgetPlan (f_scene_copyFrom_6_21 h)))
          else
            some ((-2 : Int32), h)
      else none
    else
      some ((-1 : Int32), h)
set_option maxRecDepth 100000 in
set_option maxHeartbeats 4000000 in
theorem mt_x_back (l1 : Int32) (h : Hp) {r : Int32} {h' : Hp} (hf : f_x_back l1 h = some (r, h')) : MT 2 39 yX4_back cX4_back 2 (some .int) [.ref 0, .int l1] h (some (.int r)) h' := by
  refine MT.of (by decide +kernel) (Nat.le_of_ble_eq_true rfl) fun X hX hR => ?_
  unfold f_x_back at hf
  refine Xblk hX pkX4_ok [.iload_n 1] (pc' := 1) (ls' := [(0, .ref 0), (1, .int l1)]) (st' := [.int l1]) (h' := h) (g := true) (by decide +kernel) rfl rfl rfl ?_
  refine Xbr hX (.ifCond .lt (8)) (tgt := 9) (P := l1 < (0 : Int32)) (r := []) (by decide +kernel) rfl (by decide) (fun hc_1 => ?_) (fun hc_1 => ?_)
  · replace hf := xif_t hc_1 hf
    refine Xblk hX pkX4_ok [.iconst (-1)] (pc' := 10) (ls' := [(0, .ref 0), (1, .int l1)]) (st' := [.int (-1 : Int32)]) (h' := h) (g := true) (by decide +kernel) rfl rfl rfl ?_
    exact XrI2 hX hR hf (by decide +kernel)
  · replace hf := xif_f hc_1 hf
    refine Xblk hX pkX4_ok [.iload_n 1, .iconst 2] (pc' := 6) (ls' := [(0, .ref 0), (1, .int l1)]) (st' := [.int (2 : Int32), .int l1]) (h' := h) (g := true) (by decide +kernel) rfl rfl rfl ?_
    refine Xbr hX (.if_icmp .lt (5)) (tgt := 11) (P := l1 < (2 : Int32)) (r := []) (by decide +kernel) rfl (by decide) (fun hc_2 => ?_) (fun hc_2 => ?_)
    · replace hf := xif_t hc_2 hf
      refine Xblk hX pkX4_ok [.aload_n 0, .getfield 27, .iload_n 1] (pc' := 16) (ls' := [(0, .ref 0), (1, .int l1)]) (st' := [.int l1, .ref 13]) (h' := h) (g := true) (by decide +kernel) rfl rfl rfl ?_
      by_cases hc_3 : l1 = (0 : Int32)
      · replace hf := xif_t hc_3 hf
        refine Xaald hX (by decide +kernel) (xsh_13) (by decide) (by rw [hc_3]; decide) (t := 14) (by rw [hc_3]; rfl) ?_
        refine Xblk hX pkX4_ok [.getfield 249] (pc' := 20) (ls' := [(0, .ref 0), (1, .int l1)]) (st' := [.int (h.1 14 10)]) (h' := h) (g := true) (by decide +kernel) rfl rfl rfl ?_
        refine Xbr hX (.ifCond .eq (29)) (tgt := 49) (P := (h.1 14 10) = (0 : Int32)) (r := []) (by decide +kernel) rfl (by decide) (fun hc_5 => ?_) (fun hc_5 => ?_)
        · replace hf := xif_t hc_5 hf
          refine Xblk hX pkX4_ok [.bipush (-2)] (pc' := 51) (ls' := [(0, .ref 0), (1, .int l1)]) (st' := [.int (-2 : Int32)]) (h' := h) (g := true) (by decide +kernel) rfl rfl rfl ?_
          exact XrI2 hX hR hf (by decide +kernel)
        · replace hf := xif_f hc_5 hf
          refine Xblk hX pkX4_ok [.aload_n 0, .getfield 27, .iload_n 1] (pc' := 28) (ls' := [(0, .ref 0), (1, .int l1)]) (st' := [.int l1, .ref 13]) (h' := h) (g := true) (by decide +kernel) rfl rfl rfl ?_
          refine Xaald hX (by decide +kernel) (xsh_13) (by decide) (by rw [hc_3]; decide) (t := 14) (by rw [hc_3]; rfl) ?_
          obtain ⟨v_7, hc_6, hf⟩ := xbd1_inv hf
          refine XcallV hX (mt_scene_taken_14  h hc_6) (rest := []) (by decide) (by decide) xm_X3_taken xi_X3_taken xs_X3_taken xl_RX4_89 (by decide) (xsh_14) rfl rfl rfl (Nat.le_of_ble_eq_true rfl) (by decide +kernel) ?_
          show XW X 32 [(0, .ref 0), (1, .int l1)] [.long v_7] h
          refine Xblk hX pkX4_ok [.aload_n 0, .getfield 16, .getfield 96, .ldc2_w 99, .lxor, .land, .lconst 0, .lcmp] (pc' := 46) (ls' := [(0, .ref 0), (1, .int l1)]) (st' := [.int (lg_cmp (v_7 &&& ((h.2 2 5) ^^^ (-1 : Int64))) (0 : Int64))]) (h' := h) (g := true) (by decide +kernel) rfl rfl rfl ?_
          refine Xbr hX (.ifCond .eq (6)) (tgt := 52) (P := (lg_cmp (v_7 &&& ((h.2 2 5) ^^^ (-1 : Int64))) (0 : Int64)) = (0 : Int32)) (r := []) (by decide +kernel) rfl (by decide) (fun hc_8 => ?_) (fun hc_8 => ?_)
          · replace hf := xif_t hc_8 hf
            refine Xblk hX pkX4_ok [.aload_n 0, .getfield 23, .aload_n 0, .getfield 27, .iload_n 1] (pc' := 61) (ls' := [(0, .ref 0), (1, .int l1)]) (st' := [.int l1, .ref 13, .ref 6]) (h' := h) (g := true) (by decide +kernel) rfl rfl rfl ?_
            refine Xaald hX (by decide +kernel) (xsh_13) (by decide) (by rw [hc_3]; decide) (t := 14) (by rw [hc_3]; rfl) ?_
            refine XcallV hX (mt_scene_copyFrom_6_14  h) (rest := []) (by decide) (by decide) xm_X3_copyFrom xi_X3_copyFrom xs_X3_copyFrom xl_RX4_245 (by decide) (xsh_6) rfl rfl rfl (Nat.le_of_ble_eq_true rfl) (by decide +kernel) ?_
            show XW X 65 [(0, .ref 0), (1, .int l1)] [] (f_scene_copyFrom_6_14 h)
            refine Xblk hX pkX4_ok [.aload_n 0, .getfield 41] (pc' := 69) (ls' := [(0, .ref 0), (1, .int l1)]) (st' := [.ref 30]) (h' := (f_scene_copyFrom_6_14 h)) (g := true) (by decide +kernel) rfl rfl rfl ?_
            refine XcallV hX (mt_orders_forgetPlan  (f_scene_copyFrom_6_14 h)) (rest := []) (by decide) (by decide) xm_X2_forgetPlan xi_X2_forgetPlan xs_X2_forgetPlan xl_RX4_104 (by decide) (xsh_30) rfl rfl rfl (Nat.le_of_ble_eq_true rfl) (by decide +kernel) ?_
            show XW X 72 [(0, .ref 0), (1, .int l1)] [] (f_orders_forgetPlan (f_scene_copyFrom_6_14 h))
            refine Xblk hX pkX4_ok [.aload_n 0, .getfield 23, .getfield 180] (pc' := 79) (ls' := [(0, .ref 0), (1, .int l1)]) (st' := [.int ((f_orders_forgetPlan (f_scene_copyFrom_6_14 h)).1 6 9)]) (h' := (f_orders_forgetPlan (f_scene_copyFrom_6_14 h))) (g := true) (by decide +kernel) rfl rfl rfl ?_
            exact XrI2 hX hR hf (by decide +kernel)
          · replace hf := xif_f hc_8 hf
            refine Xblk hX pkX4_ok [.bipush (-2)] (pc' := 51) (ls' := [(0, .ref 0), (1, .int l1)]) (st' := [.int (-2 : Int32)]) (h' := h) (g := true) (by decide +kernel) rfl rfl rfl ?_
            exact XrI2 hX hR hf (by decide +kernel)
      · replace hf := xif_f hc_3 hf
        by_cases hc_4 : l1 = (1 : Int32)
        · replace hf := xif_t hc_4 hf
          refine Xaald hX (by decide +kernel) (xsh_13) (by decide) (by rw [hc_4]; decide) (t := 21) (by rw [hc_4]; rfl) ?_
          refine Xblk hX pkX4_ok [.getfield 249] (pc' := 20) (ls' := [(0, .ref 0), (1, .int l1)]) (st' := [.int (h.1 21 10)]) (h' := h) (g := true) (by decide +kernel) rfl rfl rfl ?_
          refine Xbr hX (.ifCond .eq (29)) (tgt := 49) (P := (h.1 21 10) = (0 : Int32)) (r := []) (by decide +kernel) rfl (by decide) (fun hc_9 => ?_) (fun hc_9 => ?_)
          · replace hf := xif_t hc_9 hf
            refine Xblk hX pkX4_ok [.bipush (-2)] (pc' := 51) (ls' := [(0, .ref 0), (1, .int l1)]) (st' := [.int (-2 : Int32)]) (h' := h) (g := true) (by decide +kernel) rfl rfl rfl ?_
            exact XrI2 hX hR hf (by decide +kernel)
          · replace hf := xif_f hc_9 hf
            refine Xblk hX pkX4_ok [.aload_n 0, .getfield 27, .iload_n 1] (pc' := 28) (ls' := [(0, .ref 0), (1, .int l1)]) (st' := [.int l1, .ref 13]) (h' := h) (g := true) (by decide +kernel) rfl rfl rfl ?_
            refine Xaald hX (by decide +kernel) (xsh_13) (by decide) (by rw [hc_4]; decide) (t := 21) (by rw [hc_4]; rfl) ?_
            obtain ⟨v_11, hc_10, hf⟩ := xbd1_inv hf
            refine XcallV hX (mt_scene_taken_21  h hc_10) (rest := []) (by decide) (by decide) xm_X3_taken xi_X3_taken xs_X3_taken xl_RX4_89 (by decide) (xsh_21) rfl rfl rfl (Nat.le_of_ble_eq_true rfl) (by decide +kernel) ?_
            show XW X 32 [(0, .ref 0), (1, .int l1)] [.long v_11] h
            refine Xblk hX pkX4_ok [.aload_n 0, .getfield 16, .getfield 96, .ldc2_w 99, .lxor, .land, .lconst 0, .lcmp] (pc' := 46) (ls' := [(0, .ref 0), (1, .int l1)]) (st' := [.int (lg_cmp (v_11 &&& ((h.2 2 5) ^^^ (-1 : Int64))) (0 : Int64))]) (h' := h) (g := true) (by decide +kernel) rfl rfl rfl ?_
            refine Xbr hX (.ifCond .eq (6)) (tgt := 52) (P := (lg_cmp (v_11 &&& ((h.2 2 5) ^^^ (-1 : Int64))) (0 : Int64)) = (0 : Int32)) (r := []) (by decide +kernel) rfl (by decide) (fun hc_12 => ?_) (fun hc_12 => ?_)
            · replace hf := xif_t hc_12 hf
              refine Xblk hX pkX4_ok [.aload_n 0, .getfield 23, .aload_n 0, .getfield 27, .iload_n 1] (pc' := 61) (ls' := [(0, .ref 0), (1, .int l1)]) (st' := [.int l1, .ref 13, .ref 6]) (h' := h) (g := true) (by decide +kernel) rfl rfl rfl ?_
              refine Xaald hX (by decide +kernel) (xsh_13) (by decide) (by rw [hc_4]; decide) (t := 21) (by rw [hc_4]; rfl) ?_
              refine XcallV hX (mt_scene_copyFrom_6_21  h) (rest := []) (by decide) (by decide) xm_X3_copyFrom xi_X3_copyFrom xs_X3_copyFrom xl_RX4_245 (by decide) (xsh_6) rfl rfl rfl (Nat.le_of_ble_eq_true rfl) (by decide +kernel) ?_
              show XW X 65 [(0, .ref 0), (1, .int l1)] [] (f_scene_copyFrom_6_21 h)
              refine Xblk hX pkX4_ok [.aload_n 0, .getfield 41] (pc' := 69) (ls' := [(0, .ref 0), (1, .int l1)]) (st' := [.ref 30]) (h' := (f_scene_copyFrom_6_21 h)) (g := true) (by decide +kernel) rfl rfl rfl ?_
              refine XcallV hX (mt_orders_forgetPlan  (f_scene_copyFrom_6_21 h)) (rest := []) (by decide) (by decide) xm_X2_forgetPlan xi_X2_forgetPlan xs_X2_forgetPlan xl_RX4_104 (by decide) (xsh_30) rfl rfl rfl (Nat.le_of_ble_eq_true rfl) (by decide +kernel) ?_
              show XW X 72 [(0, .ref 0), (1, .int l1)] [] (f_orders_forgetPlan (f_scene_copyFrom_6_21 h))
              refine Xblk hX pkX4_ok [.aload_n 0, .getfield 23, .getfield 180] (pc' := 79) (ls' := [(0, .ref 0), (1, .int l1)]) (st' := [.int ((f_orders_forgetPlan (f_scene_copyFrom_6_21 h)).1 6 9)]) (h' := (f_orders_forgetPlan (f_scene_copyFrom_6_21 h))) (g := true) (by decide +kernel) rfl rfl rfl ?_
              exact XrI2 hX hR hf (by decide +kernel)
            · replace hf := xif_f hc_12 hf
              refine Xblk hX pkX4_ok [.bipush (-2)] (pc' := 51) (ls' := [(0, .ref 0), (1, .int l1)]) (st' := [.int (-2 : Int32)]) (h' := h) (g := true) (by decide +kernel) rfl rfl rfl ?_
              exact XrI2 hX hR hf (by decide +kernel)
        · replace hf := xif_f hc_4 hf
          cases hf
    · replace hf := xif_f hc_2 hf
      refine Xblk hX pkX4_ok [.iconst (-1)] (pc' := 10) (ls' := [(0, .ref 0), (1, .int l1)]) (st' := [.int (-1 : Int32)]) (h' := h) (g := true) (by decide +kernel) rfl rfl rfl ?_
      exact XrI2 hX hR hf (by decide +kernel)
def f_x_count (l1 : Int32) (h : Hp) : Int32 :=
  if l1 = (0 : Int32) then
    (f_j_bitCount (h.2 2 4))
  else
    if l1 = (1 : Int32) then
      (h.1 2 3)
    else
      if l1 = (2 : Int32) then
        (h.1 6 6)
      else
        if l1 = (3 : Int32) then
          (h.1 6 7)
        else
          if l1 = (4 : Int32) then
            (h.1 30 7)
          else
            if l1 = (5 : Int32) then
              (h.1 6 8)
            else
              if l1 = (6 : Int32) then
                (h.1 6 9)
              else
                if l1 = (7 : Int32) then
                  (h.1 0 1)
                else
                  if l1 = (8 : Int32) then
                    (f_j_bitCount (h.2 2 5))
                  else
                    (-1 : Int32)
set_option maxRecDepth 100000 in
set_option maxHeartbeats 4000000 in
theorem mt_x_count (l1 : Int32) (h : Hp) : MT 1 39 yX4_count cX4_count 2 (some .int) [.ref 0, .int l1] h (some (.int (f_x_count l1 h))) h := by
  obtain ⟨o, hf⟩ : ∃ o, f_x_count l1 h = o := ⟨_, rfl⟩
  rw [hf]
  refine MT.of (by decide +kernel) (Nat.le_of_ble_eq_true rfl) fun X hX hR => ?_
  unfold f_x_count at hf
  refine Xblk hX pkX4_ok [.iload_n 1] (pc' := 1) (ls' := [(0, .ref 0), (1, .int l1)]) (st' := [.int l1]) (h' := h) (g := true) (by decide +kernel) rfl rfl rfl ?_
  by_cases hc_1 : l1 = (0 : Int32)
  · replace hf := xif_t hc_1 hf
    refine XswAt hX 52 hc_1 (show decode _ _ = .ok (.tableswitch (126) (0) (8) #[51, 62, 70, 78, 86, 94, 102, 110, 115], 51) by decide +kernel) (by decide) (by decide) (o := 51) (by decide) (by decide) ?_
    refine Xblk hX pkX4_ok [.aload_n 0, .getfield 16, .getfield 66] (pc' := 59) (ls' := [(0, .ref 0), (1, .int l1)]) (st' := [.long (h.2 2 4)]) (h' := h) (g := true) (by decide +kernel) rfl rfl rfl ?_
    refine XcallS hX (mt_j_bitCount (h.2 2 4) h) (rest := []) (by decide) (by decide) xm_J13_bitCount_95d88 xi_J13_bitCount_95d88 xl_RX4_70 rfl (Nat.le_of_ble_eq_true rfl) (by decide +kernel) ?_
    show XW X 62 [(0, .ref 0), (1, .int l1)] [.int (f_j_bitCount (h.2 2 4))] h
    subst hf
    exact XretI hX hR (by decide +kernel)
  · replace hf := xif_f hc_1 hf
    by_cases hc_2 : l1 = (1 : Int32)
    · replace hf := xif_t hc_2 hf
      refine XswAt hX 63 hc_2 (show decode _ _ = .ok (.tableswitch (126) (0) (8) #[51, 62, 70, 78, 86, 94, 102, 110, 115], 51) by decide +kernel) (by decide) (by decide) (o := 62) (by decide) (by decide) ?_
      refine Xblk hX pkX4_ok [.aload_n 0, .getfield 16, .getfield 83] (pc' := 70) (ls' := [(0, .ref 0), (1, .int l1)]) (st' := [.int (h.1 2 3)]) (h' := h) (g := true) (by decide +kernel) rfl rfl rfl ?_
      subst hf
      exact XretI hX hR (by decide +kernel)
    · replace hf := xif_f hc_2 hf
      by_cases hc_3 : l1 = (2 : Int32)
      · replace hf := xif_t hc_3 hf
        refine XswAt hX 71 hc_3 (show decode _ _ = .ok (.tableswitch (126) (0) (8) #[51, 62, 70, 78, 86, 94, 102, 110, 115], 51) by decide +kernel) (by decide) (by decide) (o := 70) (by decide) (by decide) ?_
        refine Xblk hX pkX4_ok [.aload_n 0, .getfield 23, .getfield 114] (pc' := 78) (ls' := [(0, .ref 0), (1, .int l1)]) (st' := [.int (h.1 6 6)]) (h' := h) (g := true) (by decide +kernel) rfl rfl rfl ?_
        subst hf
        exact XretI hX hR (by decide +kernel)
      · replace hf := xif_f hc_3 hf
        by_cases hc_4 : l1 = (3 : Int32)
        · replace hf := xif_t hc_4 hf
          refine XswAt hX 79 hc_4 (show decode _ _ = .ok (.tableswitch (126) (0) (8) #[51, 62, 70, 78, 86, 94, 102, 110, 115], 51) by decide +kernel) (by decide) (by decide) (o := 78) (by decide) (by decide) ?_
          refine Xblk hX pkX4_ok [.aload_n 0, .getfield 23, .getfield 124] (pc' := 86) (ls' := [(0, .ref 0), (1, .int l1)]) (st' := [.int (h.1 6 7)]) (h' := h) (g := true) (by decide +kernel) rfl rfl rfl ?_
          subst hf
          exact XretI hX hR (by decide +kernel)
        · replace hf := xif_f hc_4 hf
          by_cases hc_5 : l1 = (4 : Int32)
          · replace hf := xif_t hc_5 hf
            refine XswAt hX 87 hc_5 (show decode _ _ = .ok (.tableswitch (126) (0) (8) #[51, 62, 70, 78, 86, 94, 102, 110, 115], 51) by decide +kernel) (by decide) (by decide) (o := 86) (by decide) (by decide) ?_
            refine Xblk hX pkX4_ok [.aload_n 0, .getfield 41, .getfield 224] (pc' := 94) (ls' := [(0, .ref 0), (1, .int l1)]) (st' := [.int (h.1 30 7)]) (h' := h) (g := true) (by decide +kernel) rfl rfl rfl ?_
            subst hf
            exact XretI hX hR (by decide +kernel)
          · replace hf := xif_f hc_5 hf
            by_cases hc_6 : l1 = (5 : Int32)
            · replace hf := xif_t hc_6 hf
              refine XswAt hX 95 hc_6 (show decode _ _ = .ok (.tableswitch (126) (0) (8) #[51, 62, 70, 78, 86, 94, 102, 110, 115], 51) by decide +kernel) (by decide) (by decide) (o := 94) (by decide) (by decide) ?_
              refine Xblk hX pkX4_ok [.aload_n 0, .getfield 23, .getfield 170] (pc' := 102) (ls' := [(0, .ref 0), (1, .int l1)]) (st' := [.int (h.1 6 8)]) (h' := h) (g := true) (by decide +kernel) rfl rfl rfl ?_
              subst hf
              exact XretI hX hR (by decide +kernel)
            · replace hf := xif_f hc_6 hf
              by_cases hc_7 : l1 = (6 : Int32)
              · replace hf := xif_t hc_7 hf
                refine XswAt hX 103 hc_7 (show decode _ _ = .ok (.tableswitch (126) (0) (8) #[51, 62, 70, 78, 86, 94, 102, 110, 115], 51) by decide +kernel) (by decide) (by decide) (o := 102) (by decide) (by decide) ?_
                refine Xblk hX pkX4_ok [.aload_n 0, .getfield 23, .getfield 180] (pc' := 110) (ls' := [(0, .ref 0), (1, .int l1)]) (st' := [.int (h.1 6 9)]) (h' := h) (g := true) (by decide +kernel) rfl rfl rfl ?_
                subst hf
                exact XretI hX hR (by decide +kernel)
              · replace hf := xif_f hc_7 hf
                by_cases hc_8 : l1 = (7 : Int32)
                · replace hf := xif_t hc_8 hf
                  refine XswAt hX 111 hc_8 (show decode _ _ = .ok (.tableswitch (126) (0) (8) #[51, 62, 70, 78, 86, 94, 102, 110, 115], 51) by decide +kernel) (by decide) (by decide) (o := 110) (by decide) (by decide) ?_
                  refine Xblk hX pkX4_ok [.aload_n 0, .getfield 58] (pc' := 115) (ls' := [(0, .ref 0), (1, .int l1)]) (st' := [.int (h.1 0 1)]) (h' := h) (g := true) (by decide +kernel) rfl rfl rfl ?_
                  subst hf
                  exact XretI hX hR (by decide +kernel)
                · replace hf := xif_f hc_8 hf
                  by_cases hc_9 : l1 = (8 : Int32)
                  · replace hf := xif_t hc_9 hf
                    refine XswAt hX 116 hc_9 (show decode _ _ = .ok (.tableswitch (126) (0) (8) #[51, 62, 70, 78, 86, 94, 102, 110, 115], 51) by decide +kernel) (by decide) (by decide) (o := 115) (by decide) (by decide) ?_
                    refine Xblk hX pkX4_ok [.aload_n 0, .getfield 16, .getfield 96] (pc' := 123) (ls' := [(0, .ref 0), (1, .int l1)]) (st' := [.long (h.2 2 5)]) (h' := h) (g := true) (by decide +kernel) rfl rfl rfl ?_
                    refine XcallS hX (mt_j_bitCount (h.2 2 5) h) (rest := []) (by decide) (by decide) xm_J13_bitCount_95d88 xi_J13_bitCount_95d88 xl_RX4_70 rfl (Nat.le_of_ble_eq_true rfl) (by decide +kernel) ?_
                    show XW X 126 [(0, .ref 0), (1, .int l1)] [.int (f_j_bitCount (h.2 2 5))] h
                    subst hf
                    exact XretI hX hR (by decide +kernel)
                  · replace hf := xif_f hc_9 hf
                    refine XswOut hX 127 (show decode _ _ = .ok (.tableswitch (126) (0) (8) #[51, 62, 70, 78, 86, 94, 102, 110, 115], 51) by decide +kernel) (by have a0 := lv_neT (a := 0) hc_1 (by decide); have a1 := lv_neT (a := 1) hc_2 (by decide); have a2 := lv_neT (a := 2) hc_3 (by decide); have a3 := lv_neT (a := 3) hc_4 (by decide); have a4 := lv_neT (a := 4) hc_5 (by decide); have a5 := lv_neT (a := 5) hc_6 (by decide); have a6 := lv_neT (a := 6) hc_7 (by decide); have a7 := lv_neT (a := 7) hc_8 (by decide); have a8 := lv_neT (a := 8) hc_9 (by decide); omega) (by decide) ?_
                    refine Xblk hX pkX4_ok [.iconst (-1)] (pc' := 128) (ls' := [(0, .ref 0), (1, .int l1)]) (st' := [.int (-1 : Int32)]) (h' := h) (g := true) (by decide +kernel) rfl rfl rfl ?_
                    subst hf
                    exact XretI hX hR (by decide +kernel)
def f_x_trace  (h : Hp) : Int64 :=
  (h.2 0 9)
set_option maxRecDepth 100000 in
set_option maxHeartbeats 4000000 in
theorem mt_x_trace  (h : Hp) : MT 0 39 yX4_trace cX4_trace 1 (some .long) [.ref 0] h (some (.long (f_x_trace h))) h := by
  obtain ⟨o, hf⟩ : ∃ o, f_x_trace h = o := ⟨_, rfl⟩
  rw [hf]
  refine MT.of (by decide +kernel) (Nat.le_of_ble_eq_true rfl) fun X hX hR => ?_
  unfold f_x_trace at hf
  refine Xblk hX pkX4_ok [.aload_n 0, .getfield 252] (pc' := 4) (ls' := [(0, .ref 0)]) (st' := [.long (h.2 0 9)]) (h' := h) (g := true) (by decide +kernel) rfl rfl rfl ?_
  subst hf
  exact XretL hX hR (by decide +kernel)
def f_m_in (l0 : Int32) (l1 : Int32) (l2 : Int32) : Int32 :=
  if l0 < l1 then
    (0 : Int32)
  else
    if l2 < l0 then
      (0 : Int32)
    else
      (1 : Int32)
theorem xb_m_in (l0 : Int32) (l1 : Int32) (l2 : Int32) : xbool (f_m_in l0 l1 l2) = true := by
  unfold f_m_in
  (repeat' split) <;> first | rfl | exact xb_m_in _ _ _
set_option maxRecDepth 100000 in
set_option maxHeartbeats 4000000 in
theorem mt_m_in (l0 : Int32) (l1 : Int32) (l2 : Int32) (h : Hp) : MT 0 66 yX5_in cX5_in 3 (some .boolean) [.int l0, .int l1, .int l2] h (some (.int (f_m_in l0 l1 l2))) h := by
  obtain ⟨o, hf⟩ : ∃ o, f_m_in l0 l1 l2 = o := ⟨_, rfl⟩
  rw [hf]
  refine MT.of (by decide +kernel) (Nat.le_of_ble_eq_true rfl) fun X hX hR => ?_
  unfold f_m_in at hf
  refine Xblk hX pkX5_ok [.iload_n 0, .iload_n 1] (pc' := 2) (ls' := [(0, .int l0), (1, .int l1), (2, .int l2)]) (st' := [.int l1, .int l0]) (h' := h) (g := true) (by decide +kernel) rfl rfl rfl ?_
  refine Xbr hX (.if_icmp .lt (12)) (tgt := 14) (P := l0 < l1) (r := []) (by decide +kernel) rfl (by decide) (fun hc_1 => ?_) (fun hc_1 => ?_)
  · replace hf := xif_t hc_1 hf
    refine Xblk hX pkX5_ok [.iconst 0] (pc' := 15) (ls' := [(0, .int l0), (1, .int l1), (2, .int l2)]) (st' := [.int (0 : Int32)]) (h' := h) (g := true) (by decide +kernel) rfl rfl rfl ?_
    subst hf
    exact XretZ hX hR (by decide) (by decide +kernel)
  · replace hf := xif_f hc_1 hf
    refine Xblk hX pkX5_ok [.iload_n 0, .iload_n 2] (pc' := 7) (ls' := [(0, .int l0), (1, .int l1), (2, .int l2)]) (st' := [.int l2, .int l0]) (h' := h) (g := true) (by decide +kernel) rfl rfl rfl ?_
    refine Xbr hX (.if_icmp .gt (7)) (tgt := 14) (P := l2 < l0) (r := []) (by decide +kernel) rfl (by decide) (fun hc_2 => ?_) (fun hc_2 => ?_)
    · replace hf := xif_t hc_2 hf
      refine Xblk hX pkX5_ok [.iconst 0] (pc' := 15) (ls' := [(0, .int l0), (1, .int l1), (2, .int l2)]) (st' := [.int (0 : Int32)]) (h' := h) (g := true) (by decide +kernel) rfl rfl rfl ?_
      subst hf
      exact XretZ hX hR (by decide) (by decide +kernel)
    · replace hf := xif_f hc_2 hf
      refine Xblk hX pkX5_ok [.iconst 1] (pc' := 11) (ls' := [(0, .int l0), (1, .int l1), (2, .int l2)]) (st' := [.int (1 : Int32)]) (h' := h) (g := true) (by decide +kernel) rfl rfl rfl ?_
      refine Xgoto hX (4) 15 (by decide +kernel) (by decide) ?_
      subst hf
      exact XretZ hX hR (by decide) (by decide +kernel)
def f_m_type_L_3  (l1 : Int64)  (k : Int32 → Hp → Option (Int32 × Hp)) : Nat → Int32 → Hp → Option (Int32 × Hp)
  | 0, _, _ => none
  | n + 1, l4, h =>
    if l4 < (0 : Int32) then
      k l4 h
    else
      xgd (xin (h.1 39 2) 80 && true) <|
      (f_m_type_L_3 l1 k n) (l4 + (-1 : Int32)) (xI (xI h 40 (h.1 39 2).toNatClampNeg (vp_nar .byte (ji2b ((jshrL l1 ((8 : Int32) * l4)) &&& (255 : Int64)).toInt32))) 39 2 ((h.1 39 2) + (1 : Int32)))
def f_m_type (l1 : Int64) (l3 : Int32) (h : Hp) : Option (Int32 × Hp) :=
  if (f_m_in l3 (1 : Int32) (8 : Int32)) = (0 : Int32) then
    some ((-1 : Int32), h)
  else
    if ((h.1 39 2) + l3) ≤ (80 : Int32) then
      f_m_type_L_3 l1 (fun l4_5 h_6 =>
        some ((h_6.1 39 2), h_6)
        ) 1000 (l3 - (1 : Int32)) h
    else
      some ((-3 : Int32), h)
set_option maxRecDepth 100000 in
set_option maxHeartbeats 4000000 in
theorem f_m_type_L_3_ok {X : XCtx} (hX : XOk X RX5 cX5_type 5 1 66) {r : Int32} {h' : Hp} (hR : XR X (some .int) (some (.int r)) h')  (l1 : Int64)  (k : Int32 → Hp → Option (Int32 × Hp))  (hk : ∀ (l4 : Int32) (h : Hp), k l4 h = some (r, h') → XW X 74 [(0, .ref 39)] [] h) : ∀ (n : Nat) (l4 : Int32) (h : Hp), f_m_type_L_3 l1 k n l4 h = some (r, h') → XW X 31 [(0, .ref 39), (1, .long l1), (4, .int l4)] [] h := by
  intro n
  induction n with
  | zero => intro l4 h hf; cases hf
  | succ n ih =>
    intro l4 h hf
    rw [f_m_type_L_3] at hf
    refine Xblk hX pkX5_ok [.iload 4] (pc' := 33) (ls' := [(0, .ref 39), (1, .long l1), (4, .int l4)]) (st' := [.int l4]) (h' := h) (g := true) (by decide +kernel) rfl rfl rfl ?_
    refine Xbr hX (.ifCond .lt (41)) (tgt := 74) (P := l4 < (0 : Int32)) (r := []) (by decide +kernel) rfl (by decide) (fun hc_4 => ?_) (fun hc_4 => ?_)
    · replace hf := xif_t hc_4 hf
      refine XW.pick [0] (ls' := [(0, .ref 39)]) rfl ?_
      exact hk l4 h hf
    · replace hf := xif_f hc_4 hf
      obtain ⟨hg, hf⟩ := xgd_inv hf
      refine Xblk hX pkX5_ok [.aload_n 0, .getfield 7, .aload_n 0, .getfield 111, .lload_n 1, .bipush 8, .iload 4, .imul, .lshr, .ldc2_w 114, .land, .l2i, .i2b, .bastore, .aload_n 0, .dup, .getfield 111, .iconst 1, .iadd, .putfield 111, .iinc 4 (-1)] (pc' := 71) (ls' := [(4, .int (l4 + (-1 : Int32))), (0, .ref 39), (1, .long l1)]) (st' := []) (h' := (xI (xI h 40 (h.1 39 2).toNatClampNeg (vp_nar .byte (ji2b ((jshrL l1 ((8 : Int32) * l4)) &&& (255 : Int64)).toInt32))) 39 2 ((h.1 39 2) + (1 : Int32)))) (g := (xin (h.1 39 2) 80 && true)) (by decide +kernel) rfl rfl hg ?_
      refine Xgoto hX (-40) 31 (by decide +kernel) (by decide) ?_
      refine XW.pick [1, 2, 0] (ls' := [(0, .ref 39), (1, .long l1), (4, .int (l4 + (-1 : Int32)))]) rfl ?_
      exact ih (l4 + (-1 : Int32)) (xI (xI h 40 (h.1 39 2).toNatClampNeg (vp_nar .byte (ji2b ((jshrL l1 ((8 : Int32) * l4)) &&& (255 : Int64)).toInt32))) 39 2 ((h.1 39 2) + (1 : Int32))) hf
set_option maxRecDepth 100000 in
set_option maxHeartbeats 4000000 in
theorem mt_m_type (l1 : Int64) (l3 : Int32) (h : Hp) {r : Int32} {h' : Hp} (hf : f_m_type l1 l3 h = some (r, h')) : MT 1 66 yX5_type cX5_type 5 (some .int) [.ref 39, .long l1, .int l3] h (some (.int r)) h' := by
  refine MT.of (by decide +kernel) (Nat.le_of_ble_eq_true rfl) fun X hX hR => ?_
  unfold f_m_type at hf
  refine Xblk hX pkX5_ok [.iload_n 3, .iconst 1, .bipush 8] (pc' := 4) (ls' := [(0, .ref 39), (1, .long l1), (3, .int l3)]) (st' := [.int (8 : Int32), .int (1 : Int32), .int l3]) (h' := h) (g := true) (by decide +kernel) rfl rfl rfl ?_
  refine XcallS hX (mt_m_in l3 (1 : Int32) (8 : Int32) h) (rest := []) (by decide) (by decide) xm_X5_in xi_X5_in xl_RX5_107 rfl (Nat.le_of_ble_eq_true rfl) (by decide +kernel) ?_
  show XW X 7 [(0, .ref 39), (1, .long l1), (3, .int l3)] [.int (f_m_in l3 (1 : Int32) (8 : Int32))] h
  refine XbrN hX (.ifCond .ne (5)) (tgt := 12) (P := (f_m_in l3 (1 : Int32) (8 : Int32)) = (0 : Int32)) (r := []) (by decide +kernel) rfl (by decide) (fun hc_1 => ?_) (fun hc_1 => ?_)
  · replace hf := xif_t hc_1 hf
    refine Xblk hX pkX5_ok [.iconst (-1)] (pc' := 11) (ls' := [(0, .ref 39), (1, .long l1), (3, .int l3)]) (st' := [.int (-1 : Int32)]) (h' := h) (g := true) (by decide +kernel) rfl rfl rfl ?_
    exact XrI2 hX hR hf (by decide +kernel)
  · replace hf := xif_f hc_1 hf
    refine Xblk hX pkX5_ok [.aload_n 0, .getfield 111, .iload_n 3, .iadd, .bipush 80] (pc' := 20) (ls' := [(0, .ref 39), (1, .long l1), (3, .int l3)]) (st' := [.int (80 : Int32), .int ((h.1 39 2) + l3)]) (h' := h) (g := true) (by decide +kernel) rfl rfl rfl ?_
    refine Xbr hX (.if_icmp .le (6)) (tgt := 26) (P := ((h.1 39 2) + l3) ≤ (80 : Int32)) (r := []) (by decide +kernel) rfl (by decide) (fun hc_2 => ?_) (fun hc_2 => ?_)
    · replace hf := xif_t hc_2 hf
      refine Xblk hX pkX5_ok [.iload_n 3, .iconst 1, .isub, .istore 4] (pc' := 31) (ls' := [(4, .int (l3 - (1 : Int32))), (0, .ref 39), (1, .long l1), (3, .int l3)]) (st' := []) (h' := h) (g := true) (by decide +kernel) rfl rfl rfl ?_
      refine XW.pick [1, 2, 0] (ls' := [(0, .ref 39), (1, .long l1), (4, .int (l3 - (1 : Int32)))]) rfl ?_
      refine f_m_type_L_3_ok hX hR l1 _  (fun l4_5 h_6 hf => ?_) 1000 (l3 - (1 : Int32)) h hf
      refine Xblk hX pkX5_ok [.aload_n 0, .getfield 111] (pc' := 78) (ls' := [(0, .ref 39)]) (st' := [.int (h_6.1 39 2)]) (h' := h_6) (g := true) (by decide +kernel) rfl rfl rfl ?_
      exact XrI2 hX hR hf (by decide +kernel)
    · replace hf := xif_f hc_2 hf
      refine Xblk hX pkX5_ok [.bipush (-3)] (pc' := 25) (ls' := [(0, .ref 39), (1, .long l1), (3, .int l3)]) (st' := [.int (-3 : Int32)]) (h' := h) (g := true) (by decide +kernel) rfl rfl rfl ?_
      exact XrI2 hX hR hf (by decide +kernel)
def f_m_clear  (h : Hp) : Int32 × Hp :=
  ((h.1 39 2), (xI h 39 2 (0 : Int32)))
set_option maxRecDepth 100000 in
set_option maxHeartbeats 4000000 in
theorem mt_m_clear  (h : Hp) : MT 0 66 yX5_clear cX5_clear 2 (some .int) [.ref 39] h (some (.int (f_m_clear h).1)) (f_m_clear h).2 := by
  obtain ⟨o, hf⟩ : ∃ o, f_m_clear h = o := ⟨_, rfl⟩
  rw [hf]
  refine MT.of (by decide +kernel) (Nat.le_of_ble_eq_true rfl) fun X hX hR => ?_
  unfold f_m_clear at hf
  refine Xblk hX pkX5_ok [.aload_n 0, .getfield 111, .istore_n 1, .aload_n 0, .iconst 0, .putfield 111, .iload_n 1] (pc' := 11) (ls' := [(1, .int (h.1 39 2)), (0, .ref 39)]) (st' := [.int (h.1 39 2)]) (h' := (xI h 39 2 (0 : Int32))) (g := true) (by decide +kernel) rfl rfl rfl ?_
  subst hf
  exact XretI hX hR (by decide +kernel)
def f_m_fault_L_1    (k : Int32 → Int32 → Int32 → Int32 → Hp → Option (Int32 × Hp)) : Nat → Int32 → Int32 → Int32 → Int32 → Hp → Option (Int32 × Hp)
  | 0, _, _, _, _, _ => none
  | n + 1, l1, l2, l3, l4, h =>
    if (h.1 39 2) ≤ l4 then
      k l1 l2 l3 l4 h
    else
      xgd (xin l4 80 && true) <|
      if (h.1 40 l4.toNatClampNeg) = (47 : Int32) then
        if l1 < (if (h.1 39 10) = (0 : Int32) then (2 : Int32) else (h.1 39 11)) then
          some (l4, h)
        else
          if (h.1 39 10) = (7 : Int32) then
            some (l4, h)
          else
            (f_m_fault_L_1 k n) (0 : Int32) l2 l3 (l4 + (1 : Int32)) (xI (xI h 39 11 (if (h.1 39 10) = (0 : Int32) then l1 else (h.1 39 11))) 39 10 ((h.1 39 10) + (1 : Int32)))
      else
        if (if (if (h.1 40 l4.toNatClampNeg) = (46 : Int32) then (if (h.1 39 11) ≤ l1 then (0 : Int32) else (1 : Int32)) else (if (h.1 40 l4.toNatClampNeg) = (35 : Int32) then (if (h.1 39 11) ≤ l1 then (0 : Int32) else (1 : Int32)) else (if (h.1 40 l4.toNatClampNeg) = (68 : Int32) then (if (h.1 39 11) ≤ l1 then (0 : Int32) else (1 : Int32)) else (if (f_m_in (h.1 40 l4.toNatClampNeg) (49 : Int32) (57 : Int32)) = (0 : Int32) then (0 : Int32) else (if (h.1 39 11) ≤ l1 then (0 : Int32) else (1 : Int32)))))) = (0 : Int32) then (0 : Int32) else (if (h.1 40 l4.toNatClampNeg) = (68 : Int32) then (if (8 : Int32) ≤ l3 then (0 : Int32) else (if (f_m_in (h.1 40 l4.toNatClampNeg) (49 : Int32) (57 : Int32)) = (0 : Int32) then (1 : Int32) else (if ((jshr l2 ((h.1 40 l4.toNatClampNeg) - (48 : Int32))) &&& (1 : Int32)) = (0 : Int32) then (1 : Int32) else (0 : Int32)))) else (if (f_m_in (h.1 40 l4.toNatClampNeg) (49 : Int32) (57 : Int32)) = (0 : Int32) then (1 : Int32) else (if ((jshr l2 ((h.1 40 l4.toNatClampNeg) - (48 : Int32))) &&& (1 : Int32)) = (0 : Int32) then (1 : Int32) else (0 : Int32))))) = (0 : Int32) then
          some (l4, h)
        else
          (f_m_fault_L_1 k n) (l1 + (1 : Int32)) (l2 ||| (if (f_m_in (h.1 40 l4.toNatClampNeg) (49 : Int32) (57 : Int32)) = (0 : Int32) then (0 : Int32) else (jshl (1 : Int32) ((h.1 40 l4.toNatClampNeg) - (48 : Int32))))) (l3 + (if (h.1 40 l4.toNatClampNeg) = (68 : Int32) then (1 : Int32) else (0 : Int32))) (l4 + (1 : Int32)) h
def f_m_fault  (h : Hp) : Option (Int32 × Hp) :=
  f_m_fault_L_1 (fun l1_38 l2_39 l3_40 l4_41 h_42 =>
    some ((if ((h_42.1 39 10) + (1 : Int32)) < (2 : Int32) then (h_42.1 39 2) else (if (h_42.1 39 11) ≤ l1_38 then (-9 : Int32) else (h_42.1 39 2))), (xI h_42 39 10 ((h_42.1 39 10) + (1 : Int32))))
    ) 1000 (0 : Int32) (0 : Int32) (0 : Int32) (0 : Int32) (xI (xI h 39 10 (0 : Int32)) 39 11 (8 : Int32))
set_option maxRecDepth 100000 in
set_option maxHeartbeats 4000000 in
theorem f_m_fault_L_1_ok {X : XCtx} (hX : XOk X RX5 cX5_fault 8 1 66) {r : Int32} {h' : Hp} (hR : XR X (some .int) (some (.int r)) h')    (k : Int32 → Int32 → Int32 → Int32 → Hp → Option (Int32 × Hp))  (hk : ∀ (l1 : Int32) (l2 : Int32) (l3 : Int32) (l4 : Int32) (h : Hp), k l1 l2 l3 l4 h = some (r, h') → XW X 255 [(0, .ref 39), (1, .int l1)] [] h) : ∀ (n : Nat) (l1 : Int32) (l2 : Int32) (l3 : Int32) (l4 : Int32) (h : Hp), f_m_fault_L_1 k n l1 l2 l3 l4 h = some (r, h') → XW X 20 [(0, .ref 39), (1, .int l1), (2, .int l2), (3, .int l3), (4, .int l4)] [] h := by
  intro n
  induction n with
  | zero => intro l1 l2 l3 l4 h hf; cases hf
  | succ n ih =>
    intro l1 l2 l3 l4 h hf
    rw [f_m_fault_L_1] at hf
    refine Xblk hX pkX5_ok [.iload 4, .aload_n 0, .getfield 111] (pc' := 26) (ls' := [(0, .ref 39), (1, .int l1), (2, .int l2), (3, .int l3), (4, .int l4)]) (st' := [.int (h.1 39 2), .int l4]) (h' := h) (g := true) (by decide +kernel) rfl rfl rfl ?_
    refine Xbr hX (.if_icmp .ge (229)) (tgt := 255) (P := (h.1 39 2) ≤ l4) (r := []) (by decide +kernel) rfl (by decide) (fun hc_2 => ?_) (fun hc_2 => ?_)
    · replace hf := xif_t hc_2 hf
      refine XW.pick [0, 1] (ls' := [(0, .ref 39), (1, .int l1)]) rfl ?_
      exact hk l1 l2 l3 l4 h hf
    · replace hf := xif_f hc_2 hf
      obtain ⟨hg, hf⟩ := xgd_inv hf
      refine Xblk hX pkX5_ok [.aload_n 0, .getfield 7, .iload 4, .baload, .istore 5, .iload 5, .bipush 47] (pc' := 42) (ls' := [(5, .int (h.1 40 l4.toNatClampNeg)), (0, .ref 39), (1, .int l1), (2, .int l2), (3, .int l3), (4, .int l4)]) (st' := [.int (47 : Int32), .int (h.1 40 l4.toNatClampNeg)]) (h' := h) (g := (xin l4 80 && true)) (by decide +kernel) rfl rfl hg ?_
      refine XbrN hX (.if_icmp .ne (68)) (tgt := 110) (P := (h.1 40 l4.toNatClampNeg) = (47 : Int32)) (r := []) (by decide +kernel) rfl (by decide) (fun hc_3 => ?_) (fun hc_3 => ?_)
      · replace hf := xif_t hc_3 hf
        refine Xblk hX pkX5_ok [.iload_n 1, .aload_n 0, .getfield 116] (pc' := 50) (ls' := [(5, .int (h.1 40 l4.toNatClampNeg)), (0, .ref 39), (1, .int l1), (2, .int l2), (3, .int l3), (4, .int l4)]) (st' := [.int (h.1 39 10), .int l1]) (h' := h) (g := true) (by decide +kernel) rfl rfl rfl ?_
        have kJ_11 : ∀ (w_5 : Int32), w_5 = (if (h.1 39 10) = (0 : Int32) then (2 : Int32) else (h.1 39 11)) → XW X 61 [(0, .ref 39), (1, .int l1), (2, .int l2), (3, .int l3), (4, .int l4)] [.int w_5, .int l1] h := by
          intro w_5 ew_5
          subst ew_5
          refine Xbr hX (.if_icmp .lt (12)) (tgt := 73) (P := l1 < (if (h.1 39 10) = (0 : Int32) then (2 : Int32) else (h.1 39 11))) (r := []) (by decide +kernel) rfl (by decide) (fun hc_6 => ?_) (fun hc_6 => ?_)
          · replace hf := xif_t hc_6 hf
            refine Xblk hX pkX5_ok [.iload 4] (pc' := 75) (ls' := [(0, .ref 39), (1, .int l1), (2, .int l2), (3, .int l3), (4, .int l4)]) (st' := [.int l4]) (h' := h) (g := true) (by decide +kernel) rfl rfl rfl ?_
            exact XrI2 hX hR hf (by decide +kernel)
          · replace hf := xif_f hc_6 hf
            refine Xblk hX pkX5_ok [.aload_n 0, .getfield 116, .bipush 7] (pc' := 70) (ls' := [(0, .ref 39), (1, .int l1), (2, .int l2), (3, .int l3), (4, .int l4)]) (st' := [.int (7 : Int32), .int (h.1 39 10)]) (h' := h) (g := true) (by decide +kernel) rfl rfl rfl ?_
            refine XbrN hX (.if_icmp .ne (6)) (tgt := 76) (P := (h.1 39 10) = (7 : Int32)) (r := []) (by decide +kernel) rfl (by decide) (fun hc_7 => ?_) (fun hc_7 => ?_)
            · replace hf := xif_t hc_7 hf
              refine Xblk hX pkX5_ok [.iload 4] (pc' := 75) (ls' := [(0, .ref 39), (1, .int l1), (2, .int l2), (3, .int l3), (4, .int l4)]) (st' := [.int l4]) (h' := h) (g := true) (by decide +kernel) rfl rfl rfl ?_
              exact XrI2 hX hR hf (by decide +kernel)
            · replace hf := xif_f hc_7 hf
              refine Xblk hX pkX5_ok [.aload_n 0, .aload_n 0, .getfield 116] (pc' := 81) (ls' := [(0, .ref 39), (1, .int l1), (2, .int l2), (3, .int l3), (4, .int l4)]) (st' := [.int (h.1 39 10), .ref 39]) (h' := h) (g := true) (by decide +kernel) rfl rfl rfl ?_
              have kJ_10 : ∀ (w_9 : Int32), w_9 = (if (h.1 39 10) = (0 : Int32) then l1 else (h.1 39 11)) → XW X 92 [(0, .ref 39), (2, .int l2), (3, .int l3), (4, .int l4)] [.int w_9, .ref 39] h := by
                intro w_9 ew_9
                subst ew_9
                refine Xblk hX pkX5_ok [.putfield 119, .aload_n 0, .dup, .getfield 116, .iconst 1, .iadd, .putfield 116, .iconst 0, .istore_n 1] (pc' := 107) (ls' := [(1, .int (0 : Int32)), (0, .ref 39), (2, .int l2), (3, .int l3), (4, .int l4)]) (st' := []) (h' := (xI (xI h 39 11 (if (h.1 39 10) = (0 : Int32) then l1 else (h.1 39 11))) 39 10 ((h.1 39 10) + (1 : Int32)))) (g := true) (by decide +kernel) rfl rfl rfl ?_
                refine Xgoto hX (142) 249 (by decide +kernel) (by decide) ?_
                refine Xblk hX pkX5_ok [.iinc 4 1] (pc' := 252) (ls' := [(4, .int (l4 + (1 : Int32))), (1, .int (0 : Int32)), (0, .ref 39), (2, .int l2), (3, .int l3)]) (st' := []) (h' := (xI (xI h 39 11 (if (h.1 39 10) = (0 : Int32) then l1 else (h.1 39 11))) 39 10 ((h.1 39 10) + (1 : Int32)))) (g := true) (by decide +kernel) rfl rfl rfl ?_
                refine Xgoto hX (-232) 20 (by decide +kernel) (by decide) ?_
                refine XW.pick [2, 1, 3, 4, 0] (ls' := [(0, .ref 39), (1, .int (0 : Int32)), (2, .int l2), (3, .int l3), (4, .int (l4 + (1 : Int32)))]) rfl ?_
                exact ih (0 : Int32) l2 l3 (l4 + (1 : Int32)) (xI (xI h 39 11 (if (h.1 39 10) = (0 : Int32) then l1 else (h.1 39 11))) 39 10 ((h.1 39 10) + (1 : Int32))) hf
              refine XbrN hX (.ifCond .ne (7)) (tgt := 88) (P := (h.1 39 10) = (0 : Int32)) (r := [.ref 39]) (by decide +kernel) rfl (by decide) (fun hc_8 => ?_) (fun hc_8 => ?_)
              · refine Xblk hX pkX5_ok [.iload_n 1] (pc' := 85) (ls' := [(0, .ref 39), (1, .int l1), (2, .int l2), (3, .int l3), (4, .int l4)]) (st' := [.int l1, .ref 39]) (h' := h) (g := true) (by decide +kernel) rfl rfl rfl ?_
                refine Xgoto hX (7) 92 (by decide +kernel) (by decide) ?_
                refine XW.pick [0, 2, 3, 4] (ls' := [(0, .ref 39), (2, .int l2), (3, .int l3), (4, .int l4)]) rfl ?_
                exact kJ_10 _ (by rw [if_pos hc_8])
              · refine Xblk hX pkX5_ok [.aload_n 0, .getfield 119] (pc' := 92) (ls' := [(0, .ref 39), (1, .int l1), (2, .int l2), (3, .int l3), (4, .int l4)]) (st' := [.int (h.1 39 11), .ref 39]) (h' := h) (g := true) (by decide +kernel) rfl rfl rfl ?_
                refine XW.pick [0, 2, 3, 4] (ls' := [(0, .ref 39), (2, .int l2), (3, .int l3), (4, .int l4)]) rfl ?_
                exact kJ_10 _ (by rw [if_neg hc_8])
        refine XbrN hX (.ifCond .ne (7)) (tgt := 57) (P := (h.1 39 10) = (0 : Int32)) (r := [.int l1]) (by decide +kernel) rfl (by decide) (fun hc_4 => ?_) (fun hc_4 => ?_)
        · refine Xblk hX pkX5_ok [.iconst 2] (pc' := 54) (ls' := [(5, .int (h.1 40 l4.toNatClampNeg)), (0, .ref 39), (1, .int l1), (2, .int l2), (3, .int l3), (4, .int l4)]) (st' := [.int (2 : Int32), .int l1]) (h' := h) (g := true) (by decide +kernel) rfl rfl rfl ?_
          refine Xgoto hX (7) 61 (by decide +kernel) (by decide) ?_
          refine XW.pick [1, 2, 3, 4, 5] (ls' := [(0, .ref 39), (1, .int l1), (2, .int l2), (3, .int l3), (4, .int l4)]) rfl ?_
          exact kJ_11 _ (by rw [if_pos hc_4])
        · refine Xblk hX pkX5_ok [.aload_n 0, .getfield 119] (pc' := 61) (ls' := [(5, .int (h.1 40 l4.toNatClampNeg)), (0, .ref 39), (1, .int l1), (2, .int l2), (3, .int l3), (4, .int l4)]) (st' := [.int (h.1 39 11), .int l1]) (h' := h) (g := true) (by decide +kernel) rfl rfl rfl ?_
          refine XW.pick [1, 2, 3, 4, 5] (ls' := [(0, .ref 39), (1, .int l1), (2, .int l2), (3, .int l3), (4, .int l4)]) rfl ?_
          exact kJ_11 _ (by rw [if_neg hc_4])
      · replace hf := xif_f hc_3 hf
        refine Xblk hX pkX5_ok [.iload 5, .bipush 49, .bipush 57] (pc' := 116) (ls' := [(5, .int (h.1 40 l4.toNatClampNeg)), (0, .ref 39), (1, .int l1), (2, .int l2), (3, .int l3), (4, .int l4)]) (st' := [.int (57 : Int32), .int (49 : Int32), .int (h.1 40 l4.toNatClampNeg)]) (h' := h) (g := true) (by decide +kernel) rfl rfl rfl ?_
        refine XcallS hX (mt_m_in (h.1 40 l4.toNatClampNeg) (49 : Int32) (57 : Int32) h) (rest := []) (by decide) (by decide) xm_X5_in xi_X5_in xl_RX5_107 rfl (Nat.le_of_ble_eq_true rfl) (by decide +kernel) ?_
        show XW X 119 [(5, .int (h.1 40 l4.toNatClampNeg)), (0, .ref 39), (1, .int l1), (2, .int l2), (3, .int l3), (4, .int l4)] [.int (f_m_in (h.1 40 l4.toNatClampNeg) (49 : Int32) (57 : Int32))] h
        refine Xblk hX pkX5_ok [.istore 6, .iload 5, .bipush 46] (pc' := 125) (ls' := [(6, .int (f_m_in (h.1 40 l4.toNatClampNeg) (49 : Int32) (57 : Int32))), (5, .int (h.1 40 l4.toNatClampNeg)), (0, .ref 39), (1, .int l1), (2, .int l2), (3, .int l3), (4, .int l4)]) (st' := [.int (46 : Int32), .int (h.1 40 l4.toNatClampNeg)]) (h' := h) (g := true) (by decide +kernel) rfl rfl rfl ?_
        have kJ_37 : ∀ (w_20 : Int32), w_20 = (if (h.1 40 l4.toNatClampNeg) = (46 : Int32) then (if (h.1 39 11) ≤ l1 then (0 : Int32) else (1 : Int32)) else (if (h.1 40 l4.toNatClampNeg) = (35 : Int32) then (if (h.1 39 11) ≤ l1 then (0 : Int32) else (1 : Int32)) else (if (h.1 40 l4.toNatClampNeg) = (68 : Int32) then (if (h.1 39 11) ≤ l1 then (0 : Int32) else (1 : Int32)) else (if (f_m_in (h.1 40 l4.toNatClampNeg) (49 : Int32) (57 : Int32)) = (0 : Int32) then (0 : Int32) else (if (h.1 39 11) ≤ l1 then (0 : Int32) else (1 : Int32)))))) → XW X 160 [(0, .ref 39), (1, .int l1), (2, .int l2), (3, .int l3), (4, .int l4), (5, .int (h.1 40 l4.toNatClampNeg)), (6, .int (f_m_in (h.1 40 l4.toNatClampNeg) (49 : Int32) (57 : Int32)))] [.int w_20] h := by
          intro w_20 ew_20
          subst ew_20
          refine Xblk hX pkX5_ok [.istore 7, .iload 7] (pc' := 164) (ls' := [(7, .int (if (h.1 40 l4.toNatClampNeg) = (46 : Int32) then (if (h.1 39 11) ≤ l1 then (0 : Int32) else (1 : Int32)) else (if (h.1 40 l4.toNatClampNeg) = (35 : Int32) then (if (h.1 39 11) ≤ l1 then (0 : Int32) else (1 : Int32)) else (if (h.1 40 l4.toNatClampNeg) = (68 : Int32) then (if (h.1 39 11) ≤ l1 then (0 : Int32) else (1 : Int32)) else (if (f_m_in (h.1 40 l4.toNatClampNeg) (49 : Int32) (57 : Int32)) = (0 : Int32) then (0 : Int32) else (if (h.1 39 11) ≤ l1 then (0 : Int32) else (1 : Int32))))))), (0, .ref 39), (1, .int l1), (2, .int l2), (3, .int l3), (4, .int l4), (5, .int (h.1 40 l4.toNatClampNeg)), (6, .int (f_m_in (h.1 40 l4.toNatClampNeg) (49 : Int32) (57 : Int32)))]) (st' := [.int (if (h.1 40 l4.toNatClampNeg) = (46 : Int32) then (if (h.1 39 11) ≤ l1 then (0 : Int32) else (1 : Int32)) else (if (h.1 40 l4.toNatClampNeg) = (35 : Int32) then (if (h.1 39 11) ≤ l1 then (0 : Int32) else (1 : Int32)) else (if (h.1 40 l4.toNatClampNeg) = (68 : Int32) then (if (h.1 39 11) ≤ l1 then (0 : Int32) else (1 : Int32)) else (if (f_m_in (h.1 40 l4.toNatClampNeg) (49 : Int32) (57 : Int32)) = (0 : Int32) then (0 : Int32) else (if (h.1 39 11) ≤ l1 then (0 : Int32) else (1 : Int32))))))]) (h' := h) (g := true) (by decide +kernel) rfl rfl rfl ?_
          have kJ_36 : ∀ (w_28 : Int32), w_28 = (if (if (h.1 40 l4.toNatClampNeg) = (46 : Int32) then (if (h.1 39 11) ≤ l1 then (0 : Int32) else (1 : Int32)) else (if (h.1 40 l4.toNatClampNeg) = (35 : Int32) then (if (h.1 39 11) ≤ l1 then (0 : Int32) else (1 : Int32)) else (if (h.1 40 l4.toNatClampNeg) = (68 : Int32) then (if (h.1 39 11) ≤ l1 then (0 : Int32) else (1 : Int32)) else (if (f_m_in (h.1 40 l4.toNatClampNeg) (49 : Int32) (57 : Int32)) = (0 : Int32) then (0 : Int32) else (if (h.1 39 11) ≤ l1 then (0 : Int32) else (1 : Int32)))))) = (0 : Int32) then (0 : Int32) else (if (h.1 40 l4.toNatClampNeg) = (68 : Int32) then (if (8 : Int32) ≤ l3 then (0 : Int32) else (if (f_m_in (h.1 40 l4.toNatClampNeg) (49 : Int32) (57 : Int32)) = (0 : Int32) then (1 : Int32) else (if ((jshr l2 ((h.1 40 l4.toNatClampNeg) - (48 : Int32))) &&& (1 : Int32)) = (0 : Int32) then (1 : Int32) else (0 : Int32)))) else (if (f_m_in (h.1 40 l4.toNatClampNeg) (49 : Int32) (57 : Int32)) = (0 : Int32) then (1 : Int32) else (if ((jshr l2 ((h.1 40 l4.toNatClampNeg) - (48 : Int32))) &&& (1 : Int32)) = (0 : Int32) then (1 : Int32) else (0 : Int32))))) → XW X 202 [(0, .ref 39), (1, .int l1), (2, .int l2), (3, .int l3), (4, .int l4), (5, .int (h.1 40 l4.toNatClampNeg)), (6, .int (f_m_in (h.1 40 l4.toNatClampNeg) (49 : Int32) (57 : Int32)))] [.int w_28] h := by
            intro w_28 ew_28
            subst ew_28
            refine Xblk hX pkX5_ok [.istore 7, .iload 7] (pc' := 206) (ls' := [(7, .int (if (if (h.1 40 l4.toNatClampNeg) = (46 : Int32) then (if (h.1 39 11) ≤ l1 then (0 : Int32) else (1 : Int32)) else (if (h.1 40 l4.toNatClampNeg) = (35 : Int32) then (if (h.1 39 11) ≤ l1 then (0 : Int32) else (1 : Int32)) else (if (h.1 40 l4.toNatClampNeg) = (68 : Int32) then (if (h.1 39 11) ≤ l1 then (0 : Int32) else (1 : Int32)) else (if (f_m_in (h.1 40 l4.toNatClampNeg) (49 : Int32) (57 : Int32)) = (0 : Int32) then (0 : Int32) else (if (h.1 39 11) ≤ l1 then (0 : Int32) else (1 : Int32)))))) = (0 : Int32) then (0 : Int32) else (if (h.1 40 l4.toNatClampNeg) = (68 : Int32) then (if (8 : Int32) ≤ l3 then (0 : Int32) else (if (f_m_in (h.1 40 l4.toNatClampNeg) (49 : Int32) (57 : Int32)) = (0 : Int32) then (1 : Int32) else (if ((jshr l2 ((h.1 40 l4.toNatClampNeg) - (48 : Int32))) &&& (1 : Int32)) = (0 : Int32) then (1 : Int32) else (0 : Int32)))) else (if (f_m_in (h.1 40 l4.toNatClampNeg) (49 : Int32) (57 : Int32)) = (0 : Int32) then (1 : Int32) else (if ((jshr l2 ((h.1 40 l4.toNatClampNeg) - (48 : Int32))) &&& (1 : Int32)) = (0 : Int32) then (1 : Int32) else (0 : Int32)))))), (0, .ref 39), (1, .int l1), (2, .int l2), (3, .int l3), (4, .int l4), (5, .int (h.1 40 l4.toNatClampNeg)), (6, .int (f_m_in (h.1 40 l4.toNatClampNeg) (49 : Int32) (57 : Int32)))]) (st' := [.int (if (if (h.1 40 l4.toNatClampNeg) = (46 : Int32) then (if (h.1 39 11) ≤ l1 then (0 : Int32) else (1 : Int32)) else (if (h.1 40 l4.toNatClampNeg) = (35 : Int32) then (if (h.1 39 11) ≤ l1 then (0 : Int32) else (1 : Int32)) else (if (h.1 40 l4.toNatClampNeg) = (68 : Int32) then (if (h.1 39 11) ≤ l1 then (0 : Int32) else (1 : Int32)) else (if (f_m_in (h.1 40 l4.toNatClampNeg) (49 : Int32) (57 : Int32)) = (0 : Int32) then (0 : Int32) else (if (h.1 39 11) ≤ l1 then (0 : Int32) else (1 : Int32)))))) = (0 : Int32) then (0 : Int32) else (if (h.1 40 l4.toNatClampNeg) = (68 : Int32) then (if (8 : Int32) ≤ l3 then (0 : Int32) else (if (f_m_in (h.1 40 l4.toNatClampNeg) (49 : Int32) (57 : Int32)) = (0 : Int32) then (1 : Int32) else (if ((jshr l2 ((h.1 40 l4.toNatClampNeg) - (48 : Int32))) &&& (1 : Int32)) = (0 : Int32) then (1 : Int32) else (0 : Int32)))) else (if (f_m_in (h.1 40 l4.toNatClampNeg) (49 : Int32) (57 : Int32)) = (0 : Int32) then (1 : Int32) else (if ((jshr l2 ((h.1 40 l4.toNatClampNeg) - (48 : Int32))) &&& (1 : Int32)) = (0 : Int32) then (1 : Int32) else (0 : Int32)))))]) (h' := h) (g := true) (by decide +kernel) rfl rfl rfl ?_
            refine XbrN hX (.ifCond .ne (6)) (tgt := 212) (P := (if (if (h.1 40 l4.toNatClampNeg) = (46 : Int32) then (if (h.1 39 11) ≤ l1 then (0 : Int32) else (1 : Int32)) else (if (h.1 40 l4.toNatClampNeg) = (35 : Int32) then (if (h.1 39 11) ≤ l1 then (0 : Int32) else (1 : Int32)) else (if (h.1 40 l4.toNatClampNeg) = (68 : Int32) then (if (h.1 39 11) ≤ l1 then (0 : Int32) else (1 : Int32)) else (if (f_m_in (h.1 40 l4.toNatClampNeg) (49 : Int32) (57 : Int32)) = (0 : Int32) then (0 : Int32) else (if (h.1 39 11) ≤ l1 then (0 : Int32) else (1 : Int32)))))) = (0 : Int32) then (0 : Int32) else (if (h.1 40 l4.toNatClampNeg) = (68 : Int32) then (if (8 : Int32) ≤ l3 then (0 : Int32) else (if (f_m_in (h.1 40 l4.toNatClampNeg) (49 : Int32) (57 : Int32)) = (0 : Int32) then (1 : Int32) else (if ((jshr l2 ((h.1 40 l4.toNatClampNeg) - (48 : Int32))) &&& (1 : Int32)) = (0 : Int32) then (1 : Int32) else (0 : Int32)))) else (if (f_m_in (h.1 40 l4.toNatClampNeg) (49 : Int32) (57 : Int32)) = (0 : Int32) then (1 : Int32) else (if ((jshr l2 ((h.1 40 l4.toNatClampNeg) - (48 : Int32))) &&& (1 : Int32)) = (0 : Int32) then (1 : Int32) else (0 : Int32))))) = (0 : Int32)) (r := []) (by decide +kernel) rfl (by decide) (fun hc_29 => ?_) (fun hc_29 => ?_)
            · replace hf := xif_t hc_29 hf
              refine Xblk hX pkX5_ok [.iload 4] (pc' := 211) (ls' := [(7, .int (if (if (h.1 40 l4.toNatClampNeg) = (46 : Int32) then (if (h.1 39 11) ≤ l1 then (0 : Int32) else (1 : Int32)) else (if (h.1 40 l4.toNatClampNeg) = (35 : Int32) then (if (h.1 39 11) ≤ l1 then (0 : Int32) else (1 : Int32)) else (if (h.1 40 l4.toNatClampNeg) = (68 : Int32) then (if (h.1 39 11) ≤ l1 then (0 : Int32) else (1 : Int32)) else (if (f_m_in (h.1 40 l4.toNatClampNeg) (49 : Int32) (57 : Int32)) = (0 : Int32) then (0 : Int32) else (if (h.1 39 11) ≤ l1 then (0 : Int32) else (1 : Int32)))))) = (0 : Int32) then (0 : Int32) else (if (h.1 40 l4.toNatClampNeg) = (68 : Int32) then (if (8 : Int32) ≤ l3 then (0 : Int32) else (if (f_m_in (h.1 40 l4.toNatClampNeg) (49 : Int32) (57 : Int32)) = (0 : Int32) then (1 : Int32) else (if ((jshr l2 ((h.1 40 l4.toNatClampNeg) - (48 : Int32))) &&& (1 : Int32)) = (0 : Int32) then (1 : Int32) else (0 : Int32)))) else (if (f_m_in (h.1 40 l4.toNatClampNeg) (49 : Int32) (57 : Int32)) = (0 : Int32) then (1 : Int32) else (if ((jshr l2 ((h.1 40 l4.toNatClampNeg) - (48 : Int32))) &&& (1 : Int32)) = (0 : Int32) then (1 : Int32) else (0 : Int32)))))), (0, .ref 39), (1, .int l1), (2, .int l2), (3, .int l3), (4, .int l4), (5, .int (h.1 40 l4.toNatClampNeg)), (6, .int (f_m_in (h.1 40 l4.toNatClampNeg) (49 : Int32) (57 : Int32)))]) (st' := [.int l4]) (h' := h) (g := true) (by decide +kernel) rfl rfl rfl ?_
              exact XrI2 hX hR hf (by decide +kernel)
            · replace hf := xif_f hc_29 hf
              refine Xblk hX pkX5_ok [.iload_n 3, .iload 5, .bipush 68] (pc' := 217) (ls' := [(7, .int (if (if (h.1 40 l4.toNatClampNeg) = (46 : Int32) then (if (h.1 39 11) ≤ l1 then (0 : Int32) else (1 : Int32)) else (if (h.1 40 l4.toNatClampNeg) = (35 : Int32) then (if (h.1 39 11) ≤ l1 then (0 : Int32) else (1 : Int32)) else (if (h.1 40 l4.toNatClampNeg) = (68 : Int32) then (if (h.1 39 11) ≤ l1 then (0 : Int32) else (1 : Int32)) else (if (f_m_in (h.1 40 l4.toNatClampNeg) (49 : Int32) (57 : Int32)) = (0 : Int32) then (0 : Int32) else (if (h.1 39 11) ≤ l1 then (0 : Int32) else (1 : Int32)))))) = (0 : Int32) then (0 : Int32) else (if (h.1 40 l4.toNatClampNeg) = (68 : Int32) then (if (8 : Int32) ≤ l3 then (0 : Int32) else (if (f_m_in (h.1 40 l4.toNatClampNeg) (49 : Int32) (57 : Int32)) = (0 : Int32) then (1 : Int32) else (if ((jshr l2 ((h.1 40 l4.toNatClampNeg) - (48 : Int32))) &&& (1 : Int32)) = (0 : Int32) then (1 : Int32) else (0 : Int32)))) else (if (f_m_in (h.1 40 l4.toNatClampNeg) (49 : Int32) (57 : Int32)) = (0 : Int32) then (1 : Int32) else (if ((jshr l2 ((h.1 40 l4.toNatClampNeg) - (48 : Int32))) &&& (1 : Int32)) = (0 : Int32) then (1 : Int32) else (0 : Int32)))))), (0, .ref 39), (1, .int l1), (2, .int l2), (3, .int l3), (4, .int l4), (5, .int (h.1 40 l4.toNatClampNeg)), (6, .int (f_m_in (h.1 40 l4.toNatClampNeg) (49 : Int32) (57 : Int32)))]) (st' := [.int (68 : Int32), .int (h.1 40 l4.toNatClampNeg), .int l3]) (h' := h) (g := true) (by decide +kernel) rfl rfl rfl ?_
              have kJ_35 : ∀ (w_31 : Int32), w_31 = (if (h.1 40 l4.toNatClampNeg) = (68 : Int32) then (1 : Int32) else (0 : Int32)) → XW X 225 [(0, .ref 39), (1, .int l1), (2, .int l2), (4, .int l4), (5, .int (h.1 40 l4.toNatClampNeg)), (6, .int (f_m_in (h.1 40 l4.toNatClampNeg) (49 : Int32) (57 : Int32)))] [.int w_31, .int l3] h := by
                intro w_31 ew_31
                subst ew_31
                refine Xblk hX pkX5_ok [.iadd, .istore_n 3, .iload_n 2, .iload 6] (pc' := 230) (ls' := [(3, .int (l3 + (if (h.1 40 l4.toNatClampNeg) = (68 : Int32) then (1 : Int32) else (0 : Int32)))), (0, .ref 39), (1, .int l1), (2, .int l2), (4, .int l4), (5, .int (h.1 40 l4.toNatClampNeg)), (6, .int (f_m_in (h.1 40 l4.toNatClampNeg) (49 : Int32) (57 : Int32)))]) (st' := [.int (f_m_in (h.1 40 l4.toNatClampNeg) (49 : Int32) (57 : Int32)), .int l2]) (h' := h) (g := true) (by decide +kernel) rfl rfl rfl ?_
                have kJ_34 : ∀ (w_33 : Int32), w_33 = (if (f_m_in (h.1 40 l4.toNatClampNeg) (49 : Int32) (57 : Int32)) = (0 : Int32) then (0 : Int32) else (jshl (1 : Int32) ((h.1 40 l4.toNatClampNeg) - (48 : Int32)))) → XW X 244 [(0, .ref 39), (1, .int l1), (3, .int (l3 + (if (h.1 40 l4.toNatClampNeg) = (68 : Int32) then (1 : Int32) else (0 : Int32)))), (4, .int l4)] [.int w_33, .int l2] h := by
                  intro w_33 ew_33
                  subst ew_33
                  refine Xblk hX pkX5_ok [.ior, .istore_n 2, .iinc 1 1, .iinc 4 1] (pc' := 252) (ls' := [(4, .int (l4 + (1 : Int32))), (1, .int (l1 + (1 : Int32))), (2, .int (l2 ||| (if (f_m_in (h.1 40 l4.toNatClampNeg) (49 : Int32) (57 : Int32)) = (0 : Int32) then (0 : Int32) else (jshl (1 : Int32) ((h.1 40 l4.toNatClampNeg) - (48 : Int32)))))), (0, .ref 39), (3, .int (l3 + (if (h.1 40 l4.toNatClampNeg) = (68 : Int32) then (1 : Int32) else (0 : Int32))))]) (st' := []) (h' := h) (g := true) (by decide +kernel) rfl rfl rfl ?_
                  refine Xgoto hX (-232) 20 (by decide +kernel) (by decide) ?_
                  refine XW.pick [3, 1, 2, 4, 0] (ls' := [(0, .ref 39), (1, .int (l1 + (1 : Int32))), (2, .int (l2 ||| (if (f_m_in (h.1 40 l4.toNatClampNeg) (49 : Int32) (57 : Int32)) = (0 : Int32) then (0 : Int32) else (jshl (1 : Int32) ((h.1 40 l4.toNatClampNeg) - (48 : Int32)))))), (3, .int (l3 + (if (h.1 40 l4.toNatClampNeg) = (68 : Int32) then (1 : Int32) else (0 : Int32)))), (4, .int (l4 + (1 : Int32)))]) rfl ?_
                  exact ih (l1 + (1 : Int32)) (l2 ||| (if (f_m_in (h.1 40 l4.toNatClampNeg) (49 : Int32) (57 : Int32)) = (0 : Int32) then (0 : Int32) else (jshl (1 : Int32) ((h.1 40 l4.toNatClampNeg) - (48 : Int32))))) (l3 + (if (h.1 40 l4.toNatClampNeg) = (68 : Int32) then (1 : Int32) else (0 : Int32))) (l4 + (1 : Int32)) h hf
                refine Xbr hX (.ifCond .eq (13)) (tgt := 243) (P := (f_m_in (h.1 40 l4.toNatClampNeg) (49 : Int32) (57 : Int32)) = (0 : Int32)) (r := [.int l2]) (by decide +kernel) rfl (by decide) (fun hc_32 => ?_) (fun hc_32 => ?_)
                · refine Xblk hX pkX5_ok [.iconst 0] (pc' := 244) (ls' := [(3, .int (l3 + (if (h.1 40 l4.toNatClampNeg) = (68 : Int32) then (1 : Int32) else (0 : Int32)))), (0, .ref 39), (1, .int l1), (2, .int l2), (4, .int l4), (5, .int (h.1 40 l4.toNatClampNeg)), (6, .int (f_m_in (h.1 40 l4.toNatClampNeg) (49 : Int32) (57 : Int32)))]) (st' := [.int (0 : Int32), .int l2]) (h' := h) (g := true) (by decide +kernel) rfl rfl rfl ?_
                  refine XW.pick [1, 2, 0, 4] (ls' := [(0, .ref 39), (1, .int l1), (3, .int (l3 + (if (h.1 40 l4.toNatClampNeg) = (68 : Int32) then (1 : Int32) else (0 : Int32)))), (4, .int l4)]) rfl ?_
                  exact kJ_34 _ (by rw [if_pos hc_32])
                · refine Xblk hX pkX5_ok [.iconst 1, .iload 5, .bipush 48, .isub, .ishl] (pc' := 240) (ls' := [(3, .int (l3 + (if (h.1 40 l4.toNatClampNeg) = (68 : Int32) then (1 : Int32) else (0 : Int32)))), (0, .ref 39), (1, .int l1), (2, .int l2), (4, .int l4), (5, .int (h.1 40 l4.toNatClampNeg)), (6, .int (f_m_in (h.1 40 l4.toNatClampNeg) (49 : Int32) (57 : Int32)))]) (st' := [.int (jshl (1 : Int32) ((h.1 40 l4.toNatClampNeg) - (48 : Int32))), .int l2]) (h' := h) (g := true) (by decide +kernel) rfl rfl rfl ?_
                  refine Xgoto hX (4) 244 (by decide +kernel) (by decide) ?_
                  refine XW.pick [1, 2, 0, 4] (ls' := [(0, .ref 39), (1, .int l1), (3, .int (l3 + (if (h.1 40 l4.toNatClampNeg) = (68 : Int32) then (1 : Int32) else (0 : Int32)))), (4, .int l4)]) rfl ?_
                  exact kJ_34 _ (by rw [if_neg hc_32])
              refine XbrN hX (.if_icmp .ne (7)) (tgt := 224) (P := (h.1 40 l4.toNatClampNeg) = (68 : Int32)) (r := [.int l3]) (by decide +kernel) rfl (by decide) (fun hc_30 => ?_) (fun hc_30 => ?_)
              · refine Xblk hX pkX5_ok [.iconst 1] (pc' := 221) (ls' := [(7, .int (if (if (h.1 40 l4.toNatClampNeg) = (46 : Int32) then (if (h.1 39 11) ≤ l1 then (0 : Int32) else (1 : Int32)) else (if (h.1 40 l4.toNatClampNeg) = (35 : Int32) then (if (h.1 39 11) ≤ l1 then (0 : Int32) else (1 : Int32)) else (if (h.1 40 l4.toNatClampNeg) = (68 : Int32) then (if (h.1 39 11) ≤ l1 then (0 : Int32) else (1 : Int32)) else (if (f_m_in (h.1 40 l4.toNatClampNeg) (49 : Int32) (57 : Int32)) = (0 : Int32) then (0 : Int32) else (if (h.1 39 11) ≤ l1 then (0 : Int32) else (1 : Int32)))))) = (0 : Int32) then (0 : Int32) else (if (h.1 40 l4.toNatClampNeg) = (68 : Int32) then (if (8 : Int32) ≤ l3 then (0 : Int32) else (if (f_m_in (h.1 40 l4.toNatClampNeg) (49 : Int32) (57 : Int32)) = (0 : Int32) then (1 : Int32) else (if ((jshr l2 ((h.1 40 l4.toNatClampNeg) - (48 : Int32))) &&& (1 : Int32)) = (0 : Int32) then (1 : Int32) else (0 : Int32)))) else (if (f_m_in (h.1 40 l4.toNatClampNeg) (49 : Int32) (57 : Int32)) = (0 : Int32) then (1 : Int32) else (if ((jshr l2 ((h.1 40 l4.toNatClampNeg) - (48 : Int32))) &&& (1 : Int32)) = (0 : Int32) then (1 : Int32) else (0 : Int32)))))), (0, .ref 39), (1, .int l1), (2, .int l2), (3, .int l3), (4, .int l4), (5, .int (h.1 40 l4.toNatClampNeg)), (6, .int (f_m_in (h.1 40 l4.toNatClampNeg) (49 : Int32) (57 : Int32)))]) (st' := [.int (1 : Int32), .int l3]) (h' := h) (g := true) (by decide +kernel) rfl rfl rfl ?_
                refine Xgoto hX (4) 225 (by decide +kernel) (by decide) ?_
                refine XW.pick [1, 2, 3, 5, 6, 7] (ls' := [(0, .ref 39), (1, .int l1), (2, .int l2), (4, .int l4), (5, .int (h.1 40 l4.toNatClampNeg)), (6, .int (f_m_in (h.1 40 l4.toNatClampNeg) (49 : Int32) (57 : Int32)))]) rfl ?_
                exact kJ_35 _ (by rw [if_pos hc_30])
              · refine Xblk hX pkX5_ok [.iconst 0] (pc' := 225) (ls' := [(7, .int (if (if (h.1 40 l4.toNatClampNeg) = (46 : Int32) then (if (h.1 39 11) ≤ l1 then (0 : Int32) else (1 : Int32)) else (if (h.1 40 l4.toNatClampNeg) = (35 : Int32) then (if (h.1 39 11) ≤ l1 then (0 : Int32) else (1 : Int32)) else (if (h.1 40 l4.toNatClampNeg) = (68 : Int32) then (if (h.1 39 11) ≤ l1 then (0 : Int32) else (1 : Int32)) else (if (f_m_in (h.1 40 l4.toNatClampNeg) (49 : Int32) (57 : Int32)) = (0 : Int32) then (0 : Int32) else (if (h.1 39 11) ≤ l1 then (0 : Int32) else (1 : Int32)))))) = (0 : Int32) then (0 : Int32) else (if (h.1 40 l4.toNatClampNeg) = (68 : Int32) then (if (8 : Int32) ≤ l3 then (0 : Int32) else (if (f_m_in (h.1 40 l4.toNatClampNeg) (49 : Int32) (57 : Int32)) = (0 : Int32) then (1 : Int32) else (if ((jshr l2 ((h.1 40 l4.toNatClampNeg) - (48 : Int32))) &&& (1 : Int32)) = (0 : Int32) then (1 : Int32) else (0 : Int32)))) else (if (f_m_in (h.1 40 l4.toNatClampNeg) (49 : Int32) (57 : Int32)) = (0 : Int32) then (1 : Int32) else (if ((jshr l2 ((h.1 40 l4.toNatClampNeg) - (48 : Int32))) &&& (1 : Int32)) = (0 : Int32) then (1 : Int32) else (0 : Int32)))))), (0, .ref 39), (1, .int l1), (2, .int l2), (3, .int l3), (4, .int l4), (5, .int (h.1 40 l4.toNatClampNeg)), (6, .int (f_m_in (h.1 40 l4.toNatClampNeg) (49 : Int32) (57 : Int32)))]) (st' := [.int (0 : Int32), .int l3]) (h' := h) (g := true) (by decide +kernel) rfl rfl rfl ?_
                refine XW.pick [1, 2, 3, 5, 6, 7] (ls' := [(0, .ref 39), (1, .int l1), (2, .int l2), (4, .int l4), (5, .int (h.1 40 l4.toNatClampNeg)), (6, .int (f_m_in (h.1 40 l4.toNatClampNeg) (49 : Int32) (57 : Int32)))]) rfl ?_
                exact kJ_35 _ (by rw [if_neg hc_30])
          refine Xbr hX (.ifCond .eq (37)) (tgt := 201) (P := (if (h.1 40 l4.toNatClampNeg) = (46 : Int32) then (if (h.1 39 11) ≤ l1 then (0 : Int32) else (1 : Int32)) else (if (h.1 40 l4.toNatClampNeg) = (35 : Int32) then (if (h.1 39 11) ≤ l1 then (0 : Int32) else (1 : Int32)) else (if (h.1 40 l4.toNatClampNeg) = (68 : Int32) then (if (h.1 39 11) ≤ l1 then (0 : Int32) else (1 : Int32)) else (if (f_m_in (h.1 40 l4.toNatClampNeg) (49 : Int32) (57 : Int32)) = (0 : Int32) then (0 : Int32) else (if (h.1 39 11) ≤ l1 then (0 : Int32) else (1 : Int32)))))) = (0 : Int32)) (r := []) (by decide +kernel) rfl (by decide) (fun hc_21 => ?_) (fun hc_21 => ?_)
          · refine Xblk hX pkX5_ok [.iconst 0] (pc' := 202) (ls' := [(7, .int (if (h.1 40 l4.toNatClampNeg) = (46 : Int32) then (if (h.1 39 11) ≤ l1 then (0 : Int32) else (1 : Int32)) else (if (h.1 40 l4.toNatClampNeg) = (35 : Int32) then (if (h.1 39 11) ≤ l1 then (0 : Int32) else (1 : Int32)) else (if (h.1 40 l4.toNatClampNeg) = (68 : Int32) then (if (h.1 39 11) ≤ l1 then (0 : Int32) else (1 : Int32)) else (if (f_m_in (h.1 40 l4.toNatClampNeg) (49 : Int32) (57 : Int32)) = (0 : Int32) then (0 : Int32) else (if (h.1 39 11) ≤ l1 then (0 : Int32) else (1 : Int32))))))), (0, .ref 39), (1, .int l1), (2, .int l2), (3, .int l3), (4, .int l4), (5, .int (h.1 40 l4.toNatClampNeg)), (6, .int (f_m_in (h.1 40 l4.toNatClampNeg) (49 : Int32) (57 : Int32)))]) (st' := [.int (0 : Int32)]) (h' := h) (g := true) (by decide +kernel) rfl rfl rfl ?_
            refine XW.pick [1, 2, 3, 4, 5, 6, 7] (ls' := [(0, .ref 39), (1, .int l1), (2, .int l2), (3, .int l3), (4, .int l4), (5, .int (h.1 40 l4.toNatClampNeg)), (6, .int (f_m_in (h.1 40 l4.toNatClampNeg) (49 : Int32) (57 : Int32)))]) rfl ?_
            exact kJ_36 _ (by rw [if_pos hc_21])
          · refine Xblk hX pkX5_ok [.iload 5, .bipush 68] (pc' := 171) (ls' := [(7, .int (if (h.1 40 l4.toNatClampNeg) = (46 : Int32) then (if (h.1 39 11) ≤ l1 then (0 : Int32) else (1 : Int32)) else (if (h.1 40 l4.toNatClampNeg) = (35 : Int32) then (if (h.1 39 11) ≤ l1 then (0 : Int32) else (1 : Int32)) else (if (h.1 40 l4.toNatClampNeg) = (68 : Int32) then (if (h.1 39 11) ≤ l1 then (0 : Int32) else (1 : Int32)) else (if (f_m_in (h.1 40 l4.toNatClampNeg) (49 : Int32) (57 : Int32)) = (0 : Int32) then (0 : Int32) else (if (h.1 39 11) ≤ l1 then (0 : Int32) else (1 : Int32))))))), (0, .ref 39), (1, .int l1), (2, .int l2), (3, .int l3), (4, .int l4), (5, .int (h.1 40 l4.toNatClampNeg)), (6, .int (f_m_in (h.1 40 l4.toNatClampNeg) (49 : Int32) (57 : Int32)))]) (st' := [.int (68 : Int32), .int (h.1 40 l4.toNatClampNeg)]) (h' := h) (g := true) (by decide +kernel) rfl rfl rfl ?_
            refine XbrN hX (.if_icmp .ne (9)) (tgt := 180) (P := (h.1 40 l4.toNatClampNeg) = (68 : Int32)) (r := []) (by decide +kernel) rfl (by decide) (fun hc_22 => ?_) (fun hc_22 => ?_)
            · refine Xblk hX pkX5_ok [.iload_n 3, .bipush 8] (pc' := 177) (ls' := [(7, .int (if (h.1 40 l4.toNatClampNeg) = (46 : Int32) then (if (h.1 39 11) ≤ l1 then (0 : Int32) else (1 : Int32)) else (if (h.1 40 l4.toNatClampNeg) = (35 : Int32) then (if (h.1 39 11) ≤ l1 then (0 : Int32) else (1 : Int32)) else (if (h.1 40 l4.toNatClampNeg) = (68 : Int32) then (if (h.1 39 11) ≤ l1 then (0 : Int32) else (1 : Int32)) else (if (f_m_in (h.1 40 l4.toNatClampNeg) (49 : Int32) (57 : Int32)) = (0 : Int32) then (0 : Int32) else (if (h.1 39 11) ≤ l1 then (0 : Int32) else (1 : Int32))))))), (0, .ref 39), (1, .int l1), (2, .int l2), (3, .int l3), (4, .int l4), (5, .int (h.1 40 l4.toNatClampNeg)), (6, .int (f_m_in (h.1 40 l4.toNatClampNeg) (49 : Int32) (57 : Int32)))]) (st' := [.int (8 : Int32), .int l3]) (h' := h) (g := true) (by decide +kernel) rfl rfl rfl ?_
              refine Xbr hX (.if_icmp .ge (24)) (tgt := 201) (P := (8 : Int32) ≤ l3) (r := []) (by decide +kernel) rfl (by decide) (fun hc_23 => ?_) (fun hc_23 => ?_)
              · refine Xblk hX pkX5_ok [.iconst 0] (pc' := 202) (ls' := [(7, .int (if (h.1 40 l4.toNatClampNeg) = (46 : Int32) then (if (h.1 39 11) ≤ l1 then (0 : Int32) else (1 : Int32)) else (if (h.1 40 l4.toNatClampNeg) = (35 : Int32) then (if (h.1 39 11) ≤ l1 then (0 : Int32) else (1 : Int32)) else (if (h.1 40 l4.toNatClampNeg) = (68 : Int32) then (if (h.1 39 11) ≤ l1 then (0 : Int32) else (1 : Int32)) else (if (f_m_in (h.1 40 l4.toNatClampNeg) (49 : Int32) (57 : Int32)) = (0 : Int32) then (0 : Int32) else (if (h.1 39 11) ≤ l1 then (0 : Int32) else (1 : Int32))))))), (0, .ref 39), (1, .int l1), (2, .int l2), (3, .int l3), (4, .int l4), (5, .int (h.1 40 l4.toNatClampNeg)), (6, .int (f_m_in (h.1 40 l4.toNatClampNeg) (49 : Int32) (57 : Int32)))]) (st' := [.int (0 : Int32)]) (h' := h) (g := true) (by decide +kernel) rfl rfl rfl ?_
                refine XW.pick [1, 2, 3, 4, 5, 6, 7] (ls' := [(0, .ref 39), (1, .int l1), (2, .int l2), (3, .int l3), (4, .int l4), (5, .int (h.1 40 l4.toNatClampNeg)), (6, .int (f_m_in (h.1 40 l4.toNatClampNeg) (49 : Int32) (57 : Int32)))]) rfl ?_
                exact kJ_36 _ (by rw [if_neg hc_21, if_pos hc_22, if_pos hc_23])
              · refine Xblk hX pkX5_ok [.iload 6] (pc' := 182) (ls' := [(7, .int (if (h.1 40 l4.toNatClampNeg) = (46 : Int32) then (if (h.1 39 11) ≤ l1 then (0 : Int32) else (1 : Int32)) else (if (h.1 40 l4.toNatClampNeg) = (35 : Int32) then (if (h.1 39 11) ≤ l1 then (0 : Int32) else (1 : Int32)) else (if (h.1 40 l4.toNatClampNeg) = (68 : Int32) then (if (h.1 39 11) ≤ l1 then (0 : Int32) else (1 : Int32)) else (if (f_m_in (h.1 40 l4.toNatClampNeg) (49 : Int32) (57 : Int32)) = (0 : Int32) then (0 : Int32) else (if (h.1 39 11) ≤ l1 then (0 : Int32) else (1 : Int32))))))), (0, .ref 39), (1, .int l1), (2, .int l2), (3, .int l3), (4, .int l4), (5, .int (h.1 40 l4.toNatClampNeg)), (6, .int (f_m_in (h.1 40 l4.toNatClampNeg) (49 : Int32) (57 : Int32)))]) (st' := [.int (f_m_in (h.1 40 l4.toNatClampNeg) (49 : Int32) (57 : Int32))]) (h' := h) (g := true) (by decide +kernel) rfl rfl rfl ?_
                refine Xbr hX (.ifCond .eq (15)) (tgt := 197) (P := (f_m_in (h.1 40 l4.toNatClampNeg) (49 : Int32) (57 : Int32)) = (0 : Int32)) (r := []) (by decide +kernel) rfl (by decide) (fun hc_24 => ?_) (fun hc_24 => ?_)
                · refine Xblk hX pkX5_ok [.iconst 1] (pc' := 198) (ls' := [(7, .int (if (h.1 40 l4.toNatClampNeg) = (46 : Int32) then (if (h.1 39 11) ≤ l1 then (0 : Int32) else (1 : Int32)) else (if (h.1 40 l4.toNatClampNeg) = (35 : Int32) then (if (h.1 39 11) ≤ l1 then (0 : Int32) else (1 : Int32)) else (if (h.1 40 l4.toNatClampNeg) = (68 : Int32) then (if (h.1 39 11) ≤ l1 then (0 : Int32) else (1 : Int32)) else (if (f_m_in (h.1 40 l4.toNatClampNeg) (49 : Int32) (57 : Int32)) = (0 : Int32) then (0 : Int32) else (if (h.1 39 11) ≤ l1 then (0 : Int32) else (1 : Int32))))))), (0, .ref 39), (1, .int l1), (2, .int l2), (3, .int l3), (4, .int l4), (5, .int (h.1 40 l4.toNatClampNeg)), (6, .int (f_m_in (h.1 40 l4.toNatClampNeg) (49 : Int32) (57 : Int32)))]) (st' := [.int (1 : Int32)]) (h' := h) (g := true) (by decide +kernel) rfl rfl rfl ?_
                  refine Xgoto hX (4) 202 (by decide +kernel) (by decide) ?_
                  refine XW.pick [1, 2, 3, 4, 5, 6, 7] (ls' := [(0, .ref 39), (1, .int l1), (2, .int l2), (3, .int l3), (4, .int l4), (5, .int (h.1 40 l4.toNatClampNeg)), (6, .int (f_m_in (h.1 40 l4.toNatClampNeg) (49 : Int32) (57 : Int32)))]) rfl ?_
                  exact kJ_36 _ (by rw [if_neg hc_21, if_pos hc_22, if_neg hc_23, if_pos hc_24])
                · refine Xblk hX pkX5_ok [.iload_n 2, .iload 5, .bipush 48, .isub, .ishr, .iconst 1, .iand] (pc' := 194) (ls' := [(7, .int (if (h.1 40 l4.toNatClampNeg) = (46 : Int32) then (if (h.1 39 11) ≤ l1 then (0 : Int32) else (1 : Int32)) else (if (h.1 40 l4.toNatClampNeg) = (35 : Int32) then (if (h.1 39 11) ≤ l1 then (0 : Int32) else (1 : Int32)) else (if (h.1 40 l4.toNatClampNeg) = (68 : Int32) then (if (h.1 39 11) ≤ l1 then (0 : Int32) else (1 : Int32)) else (if (f_m_in (h.1 40 l4.toNatClampNeg) (49 : Int32) (57 : Int32)) = (0 : Int32) then (0 : Int32) else (if (h.1 39 11) ≤ l1 then (0 : Int32) else (1 : Int32))))))), (0, .ref 39), (1, .int l1), (2, .int l2), (3, .int l3), (4, .int l4), (5, .int (h.1 40 l4.toNatClampNeg)), (6, .int (f_m_in (h.1 40 l4.toNatClampNeg) (49 : Int32) (57 : Int32)))]) (st' := [.int ((jshr l2 ((h.1 40 l4.toNatClampNeg) - (48 : Int32))) &&& (1 : Int32))]) (h' := h) (g := true) (by decide +kernel) rfl rfl rfl ?_
                  refine XbrN hX (.ifCond .ne (7)) (tgt := 201) (P := ((jshr l2 ((h.1 40 l4.toNatClampNeg) - (48 : Int32))) &&& (1 : Int32)) = (0 : Int32)) (r := []) (by decide +kernel) rfl (by decide) (fun hc_25 => ?_) (fun hc_25 => ?_)
                  · refine Xblk hX pkX5_ok [.iconst 1] (pc' := 198) (ls' := [(7, .int (if (h.1 40 l4.toNatClampNeg) = (46 : Int32) then (if (h.1 39 11) ≤ l1 then (0 : Int32) else (1 : Int32)) else (if (h.1 40 l4.toNatClampNeg) = (35 : Int32) then (if (h.1 39 11) ≤ l1 then (0 : Int32) else (1 : Int32)) else (if (h.1 40 l4.toNatClampNeg) = (68 : Int32) then (if (h.1 39 11) ≤ l1 then (0 : Int32) else (1 : Int32)) else (if (f_m_in (h.1 40 l4.toNatClampNeg) (49 : Int32) (57 : Int32)) = (0 : Int32) then (0 : Int32) else (if (h.1 39 11) ≤ l1 then (0 : Int32) else (1 : Int32))))))), (0, .ref 39), (1, .int l1), (2, .int l2), (3, .int l3), (4, .int l4), (5, .int (h.1 40 l4.toNatClampNeg)), (6, .int (f_m_in (h.1 40 l4.toNatClampNeg) (49 : Int32) (57 : Int32)))]) (st' := [.int (1 : Int32)]) (h' := h) (g := true) (by decide +kernel) rfl rfl rfl ?_
                    refine Xgoto hX (4) 202 (by decide +kernel) (by decide) ?_
                    refine XW.pick [1, 2, 3, 4, 5, 6, 7] (ls' := [(0, .ref 39), (1, .int l1), (2, .int l2), (3, .int l3), (4, .int l4), (5, .int (h.1 40 l4.toNatClampNeg)), (6, .int (f_m_in (h.1 40 l4.toNatClampNeg) (49 : Int32) (57 : Int32)))]) rfl ?_
                    exact kJ_36 _ (by rw [if_neg hc_21, if_pos hc_22, if_neg hc_23, if_neg hc_24, if_pos hc_25])
                  · refine Xblk hX pkX5_ok [.iconst 0] (pc' := 202) (ls' := [(7, .int (if (h.1 40 l4.toNatClampNeg) = (46 : Int32) then (if (h.1 39 11) ≤ l1 then (0 : Int32) else (1 : Int32)) else (if (h.1 40 l4.toNatClampNeg) = (35 : Int32) then (if (h.1 39 11) ≤ l1 then (0 : Int32) else (1 : Int32)) else (if (h.1 40 l4.toNatClampNeg) = (68 : Int32) then (if (h.1 39 11) ≤ l1 then (0 : Int32) else (1 : Int32)) else (if (f_m_in (h.1 40 l4.toNatClampNeg) (49 : Int32) (57 : Int32)) = (0 : Int32) then (0 : Int32) else (if (h.1 39 11) ≤ l1 then (0 : Int32) else (1 : Int32))))))), (0, .ref 39), (1, .int l1), (2, .int l2), (3, .int l3), (4, .int l4), (5, .int (h.1 40 l4.toNatClampNeg)), (6, .int (f_m_in (h.1 40 l4.toNatClampNeg) (49 : Int32) (57 : Int32)))]) (st' := [.int (0 : Int32)]) (h' := h) (g := true) (by decide +kernel) rfl rfl rfl ?_
                    refine XW.pick [1, 2, 3, 4, 5, 6, 7] (ls' := [(0, .ref 39), (1, .int l1), (2, .int l2), (3, .int l3), (4, .int l4), (5, .int (h.1 40 l4.toNatClampNeg)), (6, .int (f_m_in (h.1 40 l4.toNatClampNeg) (49 : Int32) (57 : Int32)))]) rfl ?_
                    exact kJ_36 _ (by rw [if_neg hc_21, if_pos hc_22, if_neg hc_23, if_neg hc_24, if_neg hc_25])
            · refine Xblk hX pkX5_ok [.iload 6] (pc' := 182) (ls' := [(7, .int (if (h.1 40 l4.toNatClampNeg) = (46 : Int32) then (if (h.1 39 11) ≤ l1 then (0 : Int32) else (1 : Int32)) else (if (h.1 40 l4.toNatClampNeg) = (35 : Int32) then (if (h.1 39 11) ≤ l1 then (0 : Int32) else (1 : Int32)) else (if (h.1 40 l4.toNatClampNeg) = (68 : Int32) then (if (h.1 39 11) ≤ l1 then (0 : Int32) else (1 : Int32)) else (if (f_m_in (h.1 40 l4.toNatClampNeg) (49 : Int32) (57 : Int32)) = (0 : Int32) then (0 : Int32) else (if (h.1 39 11) ≤ l1 then (0 : Int32) else (1 : Int32))))))), (0, .ref 39), (1, .int l1), (2, .int l2), (3, .int l3), (4, .int l4), (5, .int (h.1 40 l4.toNatClampNeg)), (6, .int (f_m_in (h.1 40 l4.toNatClampNeg) (49 : Int32) (57 : Int32)))]) (st' := [.int (f_m_in (h.1 40 l4.toNatClampNeg) (49 : Int32) (57 : Int32))]) (h' := h) (g := true) (by decide +kernel) rfl rfl rfl ?_
              refine Xbr hX (.ifCond .eq (15)) (tgt := 197) (P := (f_m_in (h.1 40 l4.toNatClampNeg) (49 : Int32) (57 : Int32)) = (0 : Int32)) (r := []) (by decide +kernel) rfl (by decide) (fun hc_26 => ?_) (fun hc_26 => ?_)
              · refine Xblk hX pkX5_ok [.iconst 1] (pc' := 198) (ls' := [(7, .int (if (h.1 40 l4.toNatClampNeg) = (46 : Int32) then (if (h.1 39 11) ≤ l1 then (0 : Int32) else (1 : Int32)) else (if (h.1 40 l4.toNatClampNeg) = (35 : Int32) then (if (h.1 39 11) ≤ l1 then (0 : Int32) else (1 : Int32)) else (if (h.1 40 l4.toNatClampNeg) = (68 : Int32) then (if (h.1 39 11) ≤ l1 then (0 : Int32) else (1 : Int32)) else (if (f_m_in (h.1 40 l4.toNatClampNeg) (49 : Int32) (57 : Int32)) = (0 : Int32) then (0 : Int32) else (if (h.1 39 11) ≤ l1 then (0 : Int32) else (1 : Int32))))))), (0, .ref 39), (1, .int l1), (2, .int l2), (3, .int l3), (4, .int l4), (5, .int (h.1 40 l4.toNatClampNeg)), (6, .int (f_m_in (h.1 40 l4.toNatClampNeg) (49 : Int32) (57 : Int32)))]) (st' := [.int (1 : Int32)]) (h' := h) (g := true) (by decide +kernel) rfl rfl rfl ?_
                refine Xgoto hX (4) 202 (by decide +kernel) (by decide) ?_
                refine XW.pick [1, 2, 3, 4, 5, 6, 7] (ls' := [(0, .ref 39), (1, .int l1), (2, .int l2), (3, .int l3), (4, .int l4), (5, .int (h.1 40 l4.toNatClampNeg)), (6, .int (f_m_in (h.1 40 l4.toNatClampNeg) (49 : Int32) (57 : Int32)))]) rfl ?_
                exact kJ_36 _ (by rw [if_neg hc_21, if_neg hc_22, if_pos hc_26])
              · refine Xblk hX pkX5_ok [.iload_n 2, .iload 5, .bipush 48, .isub, .ishr, .iconst 1, .iand] (pc' := 194) (ls' := [(7, .int (if (h.1 40 l4.toNatClampNeg) = (46 : Int32) then (if (h.1 39 11) ≤ l1 then (0 : Int32) else (1 : Int32)) else (if (h.1 40 l4.toNatClampNeg) = (35 : Int32) then (if (h.1 39 11) ≤ l1 then (0 : Int32) else (1 : Int32)) else (if (h.1 40 l4.toNatClampNeg) = (68 : Int32) then (if (h.1 39 11) ≤ l1 then (0 : Int32) else (1 : Int32)) else (if (f_m_in (h.1 40 l4.toNatClampNeg) (49 : Int32) (57 : Int32)) = (0 : Int32) then (0 : Int32) else (if (h.1 39 11) ≤ l1 then (0 : Int32) else (1 : Int32))))))), (0, .ref 39), (1, .int l1), (2, .int l2), (3, .int l3), (4, .int l4), (5, .int (h.1 40 l4.toNatClampNeg)), (6, .int (f_m_in (h.1 40 l4.toNatClampNeg) (49 : Int32) (57 : Int32)))]) (st' := [.int ((jshr l2 ((h.1 40 l4.toNatClampNeg) - (48 : Int32))) &&& (1 : Int32))]) (h' := h) (g := true) (by decide +kernel) rfl rfl rfl ?_
                refine XbrN hX (.ifCond .ne (7)) (tgt := 201) (P := ((jshr l2 ((h.1 40 l4.toNatClampNeg) - (48 : Int32))) &&& (1 : Int32)) = (0 : Int32)) (r := []) (by decide +kernel) rfl (by decide) (fun hc_27 => ?_) (fun hc_27 => ?_)
                · refine Xblk hX pkX5_ok [.iconst 1] (pc' := 198) (ls' := [(7, .int (if (h.1 40 l4.toNatClampNeg) = (46 : Int32) then (if (h.1 39 11) ≤ l1 then (0 : Int32) else (1 : Int32)) else (if (h.1 40 l4.toNatClampNeg) = (35 : Int32) then (if (h.1 39 11) ≤ l1 then (0 : Int32) else (1 : Int32)) else (if (h.1 40 l4.toNatClampNeg) = (68 : Int32) then (if (h.1 39 11) ≤ l1 then (0 : Int32) else (1 : Int32)) else (if (f_m_in (h.1 40 l4.toNatClampNeg) (49 : Int32) (57 : Int32)) = (0 : Int32) then (0 : Int32) else (if (h.1 39 11) ≤ l1 then (0 : Int32) else (1 : Int32))))))), (0, .ref 39), (1, .int l1), (2, .int l2), (3, .int l3), (4, .int l4), (5, .int (h.1 40 l4.toNatClampNeg)), (6, .int (f_m_in (h.1 40 l4.toNatClampNeg) (49 : Int32) (57 : Int32)))]) (st' := [.int (1 : Int32)]) (h' := h) (g := true) (by decide +kernel) rfl rfl rfl ?_
                  refine Xgoto hX (4) 202 (by decide +kernel) (by decide) ?_
                  refine XW.pick [1, 2, 3, 4, 5, 6, 7] (ls' := [(0, .ref 39), (1, .int l1), (2, .int l2), (3, .int l3), (4, .int l4), (5, .int (h.1 40 l4.toNatClampNeg)), (6, .int (f_m_in (h.1 40 l4.toNatClampNeg) (49 : Int32) (57 : Int32)))]) rfl ?_
                  exact kJ_36 _ (by rw [if_neg hc_21, if_neg hc_22, if_neg hc_26, if_pos hc_27])
                · refine Xblk hX pkX5_ok [.iconst 0] (pc' := 202) (ls' := [(7, .int (if (h.1 40 l4.toNatClampNeg) = (46 : Int32) then (if (h.1 39 11) ≤ l1 then (0 : Int32) else (1 : Int32)) else (if (h.1 40 l4.toNatClampNeg) = (35 : Int32) then (if (h.1 39 11) ≤ l1 then (0 : Int32) else (1 : Int32)) else (if (h.1 40 l4.toNatClampNeg) = (68 : Int32) then (if (h.1 39 11) ≤ l1 then (0 : Int32) else (1 : Int32)) else (if (f_m_in (h.1 40 l4.toNatClampNeg) (49 : Int32) (57 : Int32)) = (0 : Int32) then (0 : Int32) else (if (h.1 39 11) ≤ l1 then (0 : Int32) else (1 : Int32))))))), (0, .ref 39), (1, .int l1), (2, .int l2), (3, .int l3), (4, .int l4), (5, .int (h.1 40 l4.toNatClampNeg)), (6, .int (f_m_in (h.1 40 l4.toNatClampNeg) (49 : Int32) (57 : Int32)))]) (st' := [.int (0 : Int32)]) (h' := h) (g := true) (by decide +kernel) rfl rfl rfl ?_
                  refine XW.pick [1, 2, 3, 4, 5, 6, 7] (ls' := [(0, .ref 39), (1, .int l1), (2, .int l2), (3, .int l3), (4, .int l4), (5, .int (h.1 40 l4.toNatClampNeg)), (6, .int (f_m_in (h.1 40 l4.toNatClampNeg) (49 : Int32) (57 : Int32)))]) rfl ?_
                  exact kJ_36 _ (by rw [if_neg hc_21, if_neg hc_22, if_neg hc_26, if_neg hc_27])
        refine Xbr hX (.if_icmp .eq (22)) (tgt := 147) (P := (h.1 40 l4.toNatClampNeg) = (46 : Int32)) (r := []) (by decide +kernel) rfl (by decide) (fun hc_12 => ?_) (fun hc_12 => ?_)
        · refine Xblk hX pkX5_ok [.iload_n 1, .aload_n 0, .getfield 119] (pc' := 152) (ls' := [(6, .int (f_m_in (h.1 40 l4.toNatClampNeg) (49 : Int32) (57 : Int32))), (5, .int (h.1 40 l4.toNatClampNeg)), (0, .ref 39), (1, .int l1), (2, .int l2), (3, .int l3), (4, .int l4)]) (st' := [.int (h.1 39 11), .int l1]) (h' := h) (g := true) (by decide +kernel) rfl rfl rfl ?_
          refine Xbr hX (.if_icmp .ge (7)) (tgt := 159) (P := (h.1 39 11) ≤ l1) (r := []) (by decide +kernel) rfl (by decide) (fun hc_13 => ?_) (fun hc_13 => ?_)
          · refine Xblk hX pkX5_ok [.iconst 0] (pc' := 160) (ls' := [(6, .int (f_m_in (h.1 40 l4.toNatClampNeg) (49 : Int32) (57 : Int32))), (5, .int (h.1 40 l4.toNatClampNeg)), (0, .ref 39), (1, .int l1), (2, .int l2), (3, .int l3), (4, .int l4)]) (st' := [.int (0 : Int32)]) (h' := h) (g := true) (by decide +kernel) rfl rfl rfl ?_
            refine XW.pick [2, 3, 4, 5, 6, 1, 0] (ls' := [(0, .ref 39), (1, .int l1), (2, .int l2), (3, .int l3), (4, .int l4), (5, .int (h.1 40 l4.toNatClampNeg)), (6, .int (f_m_in (h.1 40 l4.toNatClampNeg) (49 : Int32) (57 : Int32)))]) rfl ?_
            exact kJ_37 _ (by rw [if_pos hc_12, if_pos hc_13])
          · refine Xblk hX pkX5_ok [.iconst 1] (pc' := 156) (ls' := [(6, .int (f_m_in (h.1 40 l4.toNatClampNeg) (49 : Int32) (57 : Int32))), (5, .int (h.1 40 l4.toNatClampNeg)), (0, .ref 39), (1, .int l1), (2, .int l2), (3, .int l3), (4, .int l4)]) (st' := [.int (1 : Int32)]) (h' := h) (g := true) (by decide +kernel) rfl rfl rfl ?_
            refine Xgoto hX (4) 160 (by decide +kernel) (by decide) ?_
            refine XW.pick [2, 3, 4, 5, 6, 1, 0] (ls' := [(0, .ref 39), (1, .int l1), (2, .int l2), (3, .int l3), (4, .int l4), (5, .int (h.1 40 l4.toNatClampNeg)), (6, .int (f_m_in (h.1 40 l4.toNatClampNeg) (49 : Int32) (57 : Int32)))]) rfl ?_
            exact kJ_37 _ (by rw [if_pos hc_12, if_neg hc_13])
        · refine Xblk hX pkX5_ok [.iload 5, .bipush 35] (pc' := 132) (ls' := [(6, .int (f_m_in (h.1 40 l4.toNatClampNeg) (49 : Int32) (57 : Int32))), (5, .int (h.1 40 l4.toNatClampNeg)), (0, .ref 39), (1, .int l1), (2, .int l2), (3, .int l3), (4, .int l4)]) (st' := [.int (35 : Int32), .int (h.1 40 l4.toNatClampNeg)]) (h' := h) (g := true) (by decide +kernel) rfl rfl rfl ?_
          refine Xbr hX (.if_icmp .eq (15)) (tgt := 147) (P := (h.1 40 l4.toNatClampNeg) = (35 : Int32)) (r := []) (by decide +kernel) rfl (by decide) (fun hc_14 => ?_) (fun hc_14 => ?_)
          · refine Xblk hX pkX5_ok [.iload_n 1, .aload_n 0, .getfield 119] (pc' := 152) (ls' := [(6, .int (f_m_in (h.1 40 l4.toNatClampNeg) (49 : Int32) (57 : Int32))), (5, .int (h.1 40 l4.toNatClampNeg)), (0, .ref 39), (1, .int l1), (2, .int l2), (3, .int l3), (4, .int l4)]) (st' := [.int (h.1 39 11), .int l1]) (h' := h) (g := true) (by decide +kernel) rfl rfl rfl ?_
            refine Xbr hX (.if_icmp .ge (7)) (tgt := 159) (P := (h.1 39 11) ≤ l1) (r := []) (by decide +kernel) rfl (by decide) (fun hc_15 => ?_) (fun hc_15 => ?_)
            · refine Xblk hX pkX5_ok [.iconst 0] (pc' := 160) (ls' := [(6, .int (f_m_in (h.1 40 l4.toNatClampNeg) (49 : Int32) (57 : Int32))), (5, .int (h.1 40 l4.toNatClampNeg)), (0, .ref 39), (1, .int l1), (2, .int l2), (3, .int l3), (4, .int l4)]) (st' := [.int (0 : Int32)]) (h' := h) (g := true) (by decide +kernel) rfl rfl rfl ?_
              refine XW.pick [2, 3, 4, 5, 6, 1, 0] (ls' := [(0, .ref 39), (1, .int l1), (2, .int l2), (3, .int l3), (4, .int l4), (5, .int (h.1 40 l4.toNatClampNeg)), (6, .int (f_m_in (h.1 40 l4.toNatClampNeg) (49 : Int32) (57 : Int32)))]) rfl ?_
              exact kJ_37 _ (by rw [if_neg hc_12, if_pos hc_14, if_pos hc_15])
            · refine Xblk hX pkX5_ok [.iconst 1] (pc' := 156) (ls' := [(6, .int (f_m_in (h.1 40 l4.toNatClampNeg) (49 : Int32) (57 : Int32))), (5, .int (h.1 40 l4.toNatClampNeg)), (0, .ref 39), (1, .int l1), (2, .int l2), (3, .int l3), (4, .int l4)]) (st' := [.int (1 : Int32)]) (h' := h) (g := true) (by decide +kernel) rfl rfl rfl ?_
              refine Xgoto hX (4) 160 (by decide +kernel) (by decide) ?_
              refine XW.pick [2, 3, 4, 5, 6, 1, 0] (ls' := [(0, .ref 39), (1, .int l1), (2, .int l2), (3, .int l3), (4, .int l4), (5, .int (h.1 40 l4.toNatClampNeg)), (6, .int (f_m_in (h.1 40 l4.toNatClampNeg) (49 : Int32) (57 : Int32)))]) rfl ?_
              exact kJ_37 _ (by rw [if_neg hc_12, if_pos hc_14, if_neg hc_15])
          · refine Xblk hX pkX5_ok [.iload 5, .bipush 68] (pc' := 139) (ls' := [(6, .int (f_m_in (h.1 40 l4.toNatClampNeg) (49 : Int32) (57 : Int32))), (5, .int (h.1 40 l4.toNatClampNeg)), (0, .ref 39), (1, .int l1), (2, .int l2), (3, .int l3), (4, .int l4)]) (st' := [.int (68 : Int32), .int (h.1 40 l4.toNatClampNeg)]) (h' := h) (g := true) (by decide +kernel) rfl rfl rfl ?_
            refine Xbr hX (.if_icmp .eq (8)) (tgt := 147) (P := (h.1 40 l4.toNatClampNeg) = (68 : Int32)) (r := []) (by decide +kernel) rfl (by decide) (fun hc_16 => ?_) (fun hc_16 => ?_)
            · refine Xblk hX pkX5_ok [.iload_n 1, .aload_n 0, .getfield 119] (pc' := 152) (ls' := [(6, .int (f_m_in (h.1 40 l4.toNatClampNeg) (49 : Int32) (57 : Int32))), (5, .int (h.1 40 l4.toNatClampNeg)), (0, .ref 39), (1, .int l1), (2, .int l2), (3, .int l3), (4, .int l4)]) (st' := [.int (h.1 39 11), .int l1]) (h' := h) (g := true) (by decide +kernel) rfl rfl rfl ?_
              refine Xbr hX (.if_icmp .ge (7)) (tgt := 159) (P := (h.1 39 11) ≤ l1) (r := []) (by decide +kernel) rfl (by decide) (fun hc_17 => ?_) (fun hc_17 => ?_)
              · refine Xblk hX pkX5_ok [.iconst 0] (pc' := 160) (ls' := [(6, .int (f_m_in (h.1 40 l4.toNatClampNeg) (49 : Int32) (57 : Int32))), (5, .int (h.1 40 l4.toNatClampNeg)), (0, .ref 39), (1, .int l1), (2, .int l2), (3, .int l3), (4, .int l4)]) (st' := [.int (0 : Int32)]) (h' := h) (g := true) (by decide +kernel) rfl rfl rfl ?_
                refine XW.pick [2, 3, 4, 5, 6, 1, 0] (ls' := [(0, .ref 39), (1, .int l1), (2, .int l2), (3, .int l3), (4, .int l4), (5, .int (h.1 40 l4.toNatClampNeg)), (6, .int (f_m_in (h.1 40 l4.toNatClampNeg) (49 : Int32) (57 : Int32)))]) rfl ?_
                exact kJ_37 _ (by rw [if_neg hc_12, if_neg hc_14, if_pos hc_16, if_pos hc_17])
              · refine Xblk hX pkX5_ok [.iconst 1] (pc' := 156) (ls' := [(6, .int (f_m_in (h.1 40 l4.toNatClampNeg) (49 : Int32) (57 : Int32))), (5, .int (h.1 40 l4.toNatClampNeg)), (0, .ref 39), (1, .int l1), (2, .int l2), (3, .int l3), (4, .int l4)]) (st' := [.int (1 : Int32)]) (h' := h) (g := true) (by decide +kernel) rfl rfl rfl ?_
                refine Xgoto hX (4) 160 (by decide +kernel) (by decide) ?_
                refine XW.pick [2, 3, 4, 5, 6, 1, 0] (ls' := [(0, .ref 39), (1, .int l1), (2, .int l2), (3, .int l3), (4, .int l4), (5, .int (h.1 40 l4.toNatClampNeg)), (6, .int (f_m_in (h.1 40 l4.toNatClampNeg) (49 : Int32) (57 : Int32)))]) rfl ?_
                exact kJ_37 _ (by rw [if_neg hc_12, if_neg hc_14, if_pos hc_16, if_neg hc_17])
            · refine Xblk hX pkX5_ok [.iload 6] (pc' := 144) (ls' := [(6, .int (f_m_in (h.1 40 l4.toNatClampNeg) (49 : Int32) (57 : Int32))), (5, .int (h.1 40 l4.toNatClampNeg)), (0, .ref 39), (1, .int l1), (2, .int l2), (3, .int l3), (4, .int l4)]) (st' := [.int (f_m_in (h.1 40 l4.toNatClampNeg) (49 : Int32) (57 : Int32))]) (h' := h) (g := true) (by decide +kernel) rfl rfl rfl ?_
              refine Xbr hX (.ifCond .eq (15)) (tgt := 159) (P := (f_m_in (h.1 40 l4.toNatClampNeg) (49 : Int32) (57 : Int32)) = (0 : Int32)) (r := []) (by decide +kernel) rfl (by decide) (fun hc_18 => ?_) (fun hc_18 => ?_)
              · refine Xblk hX pkX5_ok [.iconst 0] (pc' := 160) (ls' := [(6, .int (f_m_in (h.1 40 l4.toNatClampNeg) (49 : Int32) (57 : Int32))), (5, .int (h.1 40 l4.toNatClampNeg)), (0, .ref 39), (1, .int l1), (2, .int l2), (3, .int l3), (4, .int l4)]) (st' := [.int (0 : Int32)]) (h' := h) (g := true) (by decide +kernel) rfl rfl rfl ?_
                refine XW.pick [2, 3, 4, 5, 6, 1, 0] (ls' := [(0, .ref 39), (1, .int l1), (2, .int l2), (3, .int l3), (4, .int l4), (5, .int (h.1 40 l4.toNatClampNeg)), (6, .int (f_m_in (h.1 40 l4.toNatClampNeg) (49 : Int32) (57 : Int32)))]) rfl ?_
                exact kJ_37 _ (by rw [if_neg hc_12, if_neg hc_14, if_neg hc_16, if_pos hc_18])
              · refine Xblk hX pkX5_ok [.iload_n 1, .aload_n 0, .getfield 119] (pc' := 152) (ls' := [(6, .int (f_m_in (h.1 40 l4.toNatClampNeg) (49 : Int32) (57 : Int32))), (5, .int (h.1 40 l4.toNatClampNeg)), (0, .ref 39), (1, .int l1), (2, .int l2), (3, .int l3), (4, .int l4)]) (st' := [.int (h.1 39 11), .int l1]) (h' := h) (g := true) (by decide +kernel) rfl rfl rfl ?_
                refine Xbr hX (.if_icmp .ge (7)) (tgt := 159) (P := (h.1 39 11) ≤ l1) (r := []) (by decide +kernel) rfl (by decide) (fun hc_19 => ?_) (fun hc_19 => ?_)
                · refine Xblk hX pkX5_ok [.iconst 0] (pc' := 160) (ls' := [(6, .int (f_m_in (h.1 40 l4.toNatClampNeg) (49 : Int32) (57 : Int32))), (5, .int (h.1 40 l4.toNatClampNeg)), (0, .ref 39), (1, .int l1), (2, .int l2), (3, .int l3), (4, .int l4)]) (st' := [.int (0 : Int32)]) (h' := h) (g := true) (by decide +kernel) rfl rfl rfl ?_
                  refine XW.pick [2, 3, 4, 5, 6, 1, 0] (ls' := [(0, .ref 39), (1, .int l1), (2, .int l2), (3, .int l3), (4, .int l4), (5, .int (h.1 40 l4.toNatClampNeg)), (6, .int (f_m_in (h.1 40 l4.toNatClampNeg) (49 : Int32) (57 : Int32)))]) rfl ?_
                  exact kJ_37 _ (by rw [if_neg hc_12, if_neg hc_14, if_neg hc_16, if_neg hc_18, if_pos hc_19])
                · refine Xblk hX pkX5_ok [.iconst 1] (pc' := 156) (ls' := [(6, .int (f_m_in (h.1 40 l4.toNatClampNeg) (49 : Int32) (57 : Int32))), (5, .int (h.1 40 l4.toNatClampNeg)), (0, .ref 39), (1, .int l1), (2, .int l2), (3, .int l3), (4, .int l4)]) (st' := [.int (1 : Int32)]) (h' := h) (g := true) (by decide +kernel) rfl rfl rfl ?_
                  refine Xgoto hX (4) 160 (by decide +kernel) (by decide) ?_
                  refine XW.pick [2, 3, 4, 5, 6, 1, 0] (ls' := [(0, .ref 39), (1, .int l1), (2, .int l2), (3, .int l3), (4, .int l4), (5, .int (h.1 40 l4.toNatClampNeg)), (6, .int (f_m_in (h.1 40 l4.toNatClampNeg) (49 : Int32) (57 : Int32)))]) rfl ?_
                  exact kJ_37 _ (by rw [if_neg hc_12, if_neg hc_14, if_neg hc_16, if_neg hc_18, if_neg hc_19])
set_option maxRecDepth 100000 in
set_option maxHeartbeats 4000000 in
theorem mt_m_fault  (h : Hp) {r : Int32} {h' : Hp} (hf : f_m_fault h = some (r, h')) : MT 1 66 yX5_fault cX5_fault 8 (some .int) [.ref 39] h (some (.int r)) h' := by
  refine MT.of (by decide +kernel) (Nat.le_of_ble_eq_true rfl) fun X hX hR => ?_
  unfold f_m_fault at hf
  refine Xblk hX pkX5_ok [.iconst 0, .istore_n 1, .iconst 0, .istore_n 2, .iconst 0, .istore_n 3, .aload_n 0, .iconst 0, .putfield 116, .aload_n 0, .bipush 8, .putfield 119, .iconst 0, .istore 4] (pc' := 20) (ls' := [(4, .int (0 : Int32)), (3, .int (0 : Int32)), (2, .int (0 : Int32)), (1, .int (0 : Int32)), (0, .ref 39)]) (st' := []) (h' := (xI (xI h 39 10 (0 : Int32)) 39 11 (8 : Int32))) (g := true) (by decide +kernel) rfl rfl rfl ?_
  refine XW.pick [4, 3, 2, 1, 0] (ls' := [(0, .ref 39), (1, .int (0 : Int32)), (2, .int (0 : Int32)), (3, .int (0 : Int32)), (4, .int (0 : Int32))]) rfl ?_
  refine f_m_fault_L_1_ok hX hR  _  (fun l1_38 l2_39 l3_40 l4_41 h_42 hf => ?_) 1000 (0 : Int32) (0 : Int32) (0 : Int32) (0 : Int32) (xI (xI h 39 10 (0 : Int32)) 39 11 (8 : Int32)) hf
  refine Xblk hX pkX5_ok [.aload_n 0, .dup, .getfield 116, .iconst 1, .iadd, .putfield 116, .aload_n 0, .getfield 116, .iconst 2] (pc' := 270) (ls' := [(0, .ref 39), (1, .int l1_38)]) (st' := [.int (2 : Int32), .int ((h_42.1 39 10) + (1 : Int32))]) (h' := (xI h_42 39 10 ((h_42.1 39 10) + (1 : Int32)))) (g := true) (by decide +kernel) rfl rfl rfl ?_
  have kJ_46 : ∀ (w_45 : Int32), w_45 = (if ((h_42.1 39 10) + (1 : Int32)) < (2 : Int32) then (h_42.1 39 2) else (if (h_42.1 39 11) ≤ l1_38 then (-9 : Int32) else (h_42.1 39 2))) → XW X 290 [] [.int w_45] (xI h_42 39 10 ((h_42.1 39 10) + (1 : Int32))) := by
    intro w_45 ew_45
    subst ew_45
    exact XrI2 hX hR hf (by decide +kernel)
  refine Xbr hX (.if_icmp .lt (11)) (tgt := 281) (P := ((h_42.1 39 10) + (1 : Int32)) < (2 : Int32)) (r := []) (by decide +kernel) rfl (by decide) (fun hc_43 => ?_) (fun hc_43 => ?_)
  · refine Xblk hX pkX5_ok [.aload_n 0, .getfield 111] (pc' := 285) (ls' := [(0, .ref 39), (1, .int l1_38)]) (st' := [.int (h_42.1 39 2)]) (h' := (xI h_42 39 10 ((h_42.1 39 10) + (1 : Int32)))) (g := true) (by decide +kernel) rfl rfl rfl ?_
    refine Xgoto hX (5) 290 (by decide +kernel) (by decide) ?_
    refine XW.pick [] (ls' := []) rfl ?_
    exact kJ_46 _ (by rw [if_pos hc_43])
  · refine Xblk hX pkX5_ok [.iload_n 1, .aload_n 0, .getfield 119] (pc' := 278) (ls' := [(0, .ref 39), (1, .int l1_38)]) (st' := [.int (h_42.1 39 11), .int l1_38]) (h' := (xI h_42 39 10 ((h_42.1 39 10) + (1 : Int32)))) (g := true) (by decide +kernel) rfl rfl rfl ?_
    refine Xbr hX (.if_icmp .ge (10)) (tgt := 288) (P := (h_42.1 39 11) ≤ l1_38) (r := []) (by decide +kernel) rfl (by decide) (fun hc_44 => ?_) (fun hc_44 => ?_)
    · refine Xblk hX pkX5_ok [.bipush (-9)] (pc' := 290) (ls' := [(0, .ref 39), (1, .int l1_38)]) (st' := [.int (-9 : Int32)]) (h' := (xI h_42 39 10 ((h_42.1 39 10) + (1 : Int32)))) (g := true) (by decide +kernel) rfl rfl rfl ?_
      refine XW.pick [] (ls' := []) rfl ?_
      exact kJ_46 _ (by rw [if_neg hc_43, if_pos hc_44])
    · refine Xblk hX pkX5_ok [.aload_n 0, .getfield 111] (pc' := 285) (ls' := [(0, .ref 39), (1, .int l1_38)]) (st' := [.int (h_42.1 39 2)]) (h' := (xI h_42 39 10 ((h_42.1 39 10) + (1 : Int32)))) (g := true) (by decide +kernel) rfl rfl rfl ?_
      refine Xgoto hX (5) 290 (by decide +kernel) (by decide) ?_
      refine XW.pick [] (ls' := []) rfl ?_
      exact kJ_46 _ (by rw [if_neg hc_43, if_neg hc_44])
def f_m_hall_L_5    (k : Int32 → Int32 → Hp → Option (Int32 × Hp)) : Nat → Int32 → Int32 → Hp → Option (Int32 × Hp)
  | 0, _, _, _ => none
  | n + 1, l2, l3, h =>
    if (h.1 39 2) ≤ l3 then
      k l2 l3 h
    else
      xgd (xin l3 80 && true) <|
      if (h.1 40 l3.toNatClampNeg) = (47 : Int32) then
        (f_m_hall_L_5 k n) (((l2 + (7 : Int32)) / (8 : Int32)) * (8 : Int32)) (l3 + (1 : Int32)) h
      else
        xgd (xin l3 80 && (xin l2 64 && (xin l3 80 && true))) <|
        if (h.1 40 l3.toNatClampNeg) = (68 : Int32) then
          xgd (xin (h.1 39 7) 8 && true) <|
          (f_m_hall_L_5 k n) (l2 + (1 : Int32)) (l3 + (1 : Int32)) (xI (xI (xI h 41 l2.toNatClampNeg (h.1 40 l3.toNatClampNeg)) 42 (h.1 39 7).toNatClampNeg l2) 39 7 ((h.1 39 7) + (1 : Int32)))
        else
          xgd (xin l3 80 && true) <|
          if (h.1 40 l3.toNatClampNeg) = (35 : Int32) then
            (f_m_hall_L_5 k n) (l2 + (1 : Int32)) (l3 + (1 : Int32)) (xI h 41 l2.toNatClampNeg (h.1 40 l3.toNatClampNeg))
          else
            (f_m_hall_L_5 k n) (l2 + (1 : Int32)) (l3 + (1 : Int32)) (xL (xI h 41 l2.toNatClampNeg (h.1 40 l3.toNatClampNeg)) 39 8 ((h.2 39 8) ||| (jshlL (1 : Int64) l2)))
def f_m_hall  (h : Hp) : Option (Int32 × Hp) :=
  xbd2 (f_m_fault h) fun v_3 h_2 =>
  if v_3 = (-9 : Int32) then
    f_m_hall_L_5 (fun l2_13 l3_14 h_15 =>
      some (((h_15.1 39 3) * (h_15.1 39 4)), (xI (xL (xI (xI (xI (xI (xI (xI (xI h_15 39 12 (0 : Int32)) 39 15 (0 : Int32)) 39 25 (0 : Int32)) 39 20 (0 : Int32)) 39 19 (0 : Int32)) 61 0 (vp_nar .boolean (0 : Int32))) 61 1 (vp_nar .boolean (0 : Int32))) 39 9 (h_15.2 39 8)) 39 2 (0 : Int32)))
      ) 1000 (0 : Int32) (0 : Int32) (xL (xI (xI (xI h_2 39 3 (h_2.1 39 11)) 39 4 (h_2.1 39 10)) 39 7 (0 : Int32)) 39 8 (0 : Int64))
  else
    some (((-10 : Int32) - v_3), h_2)
set_option maxRecDepth 100000 in
set_option maxHeartbeats 4000000 in
theorem f_m_hall_L_5_ok {X : XCtx} (hX : XOk X RX5 cX5_hall 4 2 66) {r : Int32} {h' : Hp} (hR : XR X (some .int) (some (.int r)) h')    (k : Int32 → Int32 → Hp → Option (Int32 × Hp))  (hk : ∀ (l2 : Int32) (l3 : Int32) (h : Hp), k l2 l3 h = some (r, h') → XW X 157 [(0, .ref 39)] [] h) : ∀ (n : Nat) (l2 : Int32) (l3 : Int32) (h : Hp), f_m_hall_L_5 k n l2 l3 h = some (r, h') → XW X 46 [(0, .ref 39), (2, .int l2), (3, .int l3)] [] h := by
  intro n
  induction n with
  | zero => intro l2 l3 h hf; cases hf
  | succ n ih =>
    intro l2 l3 h hf
    rw [f_m_hall_L_5] at hf
    refine Xblk hX pkX5_ok [.iload_n 3, .aload_n 0, .getfield 111] (pc' := 51) (ls' := [(0, .ref 39), (2, .int l2), (3, .int l3)]) (st' := [.int (h.1 39 2), .int l3]) (h' := h) (g := true) (by decide +kernel) rfl rfl rfl ?_
    refine Xbr hX (.if_icmp .ge (106)) (tgt := 157) (P := (h.1 39 2) ≤ l3) (r := []) (by decide +kernel) rfl (by decide) (fun hc_6 => ?_) (fun hc_6 => ?_)
    · replace hf := xif_t hc_6 hf
      refine XW.pick [0] (ls' := [(0, .ref 39)]) rfl ?_
      exact hk l2 l3 h hf
    · replace hf := xif_f hc_6 hf
      obtain ⟨hg, hf⟩ := xgd_inv hf
      refine Xblk hX pkX5_ok [.aload_n 0, .getfield 7, .iload_n 3, .baload, .bipush 47] (pc' := 62) (ls' := [(0, .ref 39), (2, .int l2), (3, .int l3)]) (st' := [.int (47 : Int32), .int (h.1 40 l3.toNatClampNeg)]) (h' := h) (g := (xin l3 80 && true)) (by decide +kernel) rfl rfl hg ?_
      refine XbrN hX (.if_icmp .ne (17)) (tgt := 79) (P := (h.1 40 l3.toNatClampNeg) = (47 : Int32)) (r := []) (by decide +kernel) rfl (by decide) (fun hc_8 => ?_) (fun hc_8 => ?_)
      · replace hf := xif_t hc_8 hf
        refine Xblk hX pkX5_ok [.iload_n 2, .bipush 7, .iadd, .bipush 8, .idiv, .bipush 8, .imul, .istore_n 2] (pc' := 76) (ls' := [(2, .int (((l2 + (7 : Int32)) / (8 : Int32)) * (8 : Int32))), (0, .ref 39), (3, .int l3)]) (st' := []) (h' := h) (g := true) (by decide +kernel) rfl rfl rfl ?_
        refine Xgoto hX (75) 151 (by decide +kernel) (by decide) ?_
        refine Xblk hX pkX5_ok [.iinc 3 1] (pc' := 154) (ls' := [(3, .int (l3 + (1 : Int32))), (2, .int (((l2 + (7 : Int32)) / (8 : Int32)) * (8 : Int32))), (0, .ref 39)]) (st' := []) (h' := h) (g := true) (by decide +kernel) rfl rfl rfl ?_
        refine Xgoto hX (-108) 46 (by decide +kernel) (by decide) ?_
        refine XW.pick [2, 1, 0] (ls' := [(0, .ref 39), (2, .int (((l2 + (7 : Int32)) / (8 : Int32)) * (8 : Int32))), (3, .int (l3 + (1 : Int32)))]) rfl ?_
        exact ih (((l2 + (7 : Int32)) / (8 : Int32)) * (8 : Int32)) (l3 + (1 : Int32)) h hf
      · replace hf := xif_f hc_8 hf
        obtain ⟨hg, hf⟩ := xgd_inv hf
        refine Xblk hX pkX5_ok [.aload_n 0, .getfield 13, .iload_n 2, .aload_n 0, .getfield 7, .iload_n 3, .baload, .iastore, .aload_n 0, .getfield 7, .iload_n 3, .baload, .bipush 68] (pc' := 99) (ls' := [(0, .ref 39), (2, .int l2), (3, .int l3)]) (st' := [.int (68 : Int32), .int (h.1 40 l3.toNatClampNeg)]) (h' := (xI h 41 l2.toNatClampNeg (h.1 40 l3.toNatClampNeg))) (g := (xin l3 80 && (xin l2 64 && (xin l3 80 && true)))) (by decide +kernel) rfl rfl hg ?_
        refine XbrN hX (.if_icmp .ne (26)) (tgt := 125) (P := (h.1 40 l3.toNatClampNeg) = (68 : Int32)) (r := []) (by decide +kernel) rfl (by decide) (fun hc_10 => ?_) (fun hc_10 => ?_)
        · replace hf := xif_t hc_10 hf
          obtain ⟨hg, hf⟩ := xgd_inv hf
          refine Xblk hX pkX5_ok [.aload_n 0, .getfield 17, .aload_n 0, .getfield 126, .iload_n 2, .iastore, .aload_n 0, .dup, .getfield 126, .iconst 1, .iadd, .putfield 126] (pc' := 122) (ls' := [(0, .ref 39), (2, .int l2), (3, .int l3)]) (st' := []) (h' := (xI (xI (xI h 41 l2.toNatClampNeg (h.1 40 l3.toNatClampNeg)) 42 (h.1 39 7).toNatClampNeg l2) 39 7 ((h.1 39 7) + (1 : Int32)))) (g := (xin (h.1 39 7) 8 && true)) (by decide +kernel) rfl rfl hg ?_
          refine Xgoto hX (26) 148 (by decide +kernel) (by decide) ?_
          refine Xblk hX pkX5_ok [.iinc 2 1, .iinc 3 1] (pc' := 154) (ls' := [(3, .int (l3 + (1 : Int32))), (2, .int (l2 + (1 : Int32))), (0, .ref 39)]) (st' := []) (h' := (xI (xI (xI h 41 l2.toNatClampNeg (h.1 40 l3.toNatClampNeg)) 42 (h.1 39 7).toNatClampNeg l2) 39 7 ((h.1 39 7) + (1 : Int32)))) (g := true) (by decide +kernel) rfl rfl rfl ?_
          refine Xgoto hX (-108) 46 (by decide +kernel) (by decide) ?_
          refine XW.pick [2, 1, 0] (ls' := [(0, .ref 39), (2, .int (l2 + (1 : Int32))), (3, .int (l3 + (1 : Int32)))]) rfl ?_
          exact ih (l2 + (1 : Int32)) (l3 + (1 : Int32)) (xI (xI (xI h 41 l2.toNatClampNeg (h.1 40 l3.toNatClampNeg)) 42 (h.1 39 7).toNatClampNeg l2) 39 7 ((h.1 39 7) + (1 : Int32))) hf
        · replace hf := xif_f hc_10 hf
          obtain ⟨hg, hf⟩ := xgd_inv hf
          refine Xblk hX pkX5_ok [.aload_n 0, .getfield 7, .iload_n 3, .baload, .bipush 35] (pc' := 133) (ls' := [(0, .ref 39), (2, .int l2), (3, .int l3)]) (st' := [.int (35 : Int32), .int (h.1 40 l3.toNatClampNeg)]) (h' := (xI h 41 l2.toNatClampNeg (h.1 40 l3.toNatClampNeg))) (g := (xin l3 80 && true)) (by decide +kernel) rfl rfl hg ?_
          refine Xbr hX (.if_icmp .eq (15)) (tgt := 148) (P := (h.1 40 l3.toNatClampNeg) = (35 : Int32)) (r := []) (by decide +kernel) rfl (by decide) (fun hc_12 => ?_) (fun hc_12 => ?_)
          · replace hf := xif_t hc_12 hf
            refine Xblk hX pkX5_ok [.iinc 2 1, .iinc 3 1] (pc' := 154) (ls' := [(3, .int (l3 + (1 : Int32))), (2, .int (l2 + (1 : Int32))), (0, .ref 39)]) (st' := []) (h' := (xI h 41 l2.toNatClampNeg (h.1 40 l3.toNatClampNeg))) (g := true) (by decide +kernel) rfl rfl rfl ?_
            refine Xgoto hX (-108) 46 (by decide +kernel) (by decide) ?_
            refine XW.pick [2, 1, 0] (ls' := [(0, .ref 39), (2, .int (l2 + (1 : Int32))), (3, .int (l3 + (1 : Int32)))]) rfl ?_
            exact ih (l2 + (1 : Int32)) (l3 + (1 : Int32)) (xI h 41 l2.toNatClampNeg (h.1 40 l3.toNatClampNeg)) hf
          · replace hf := xif_f hc_12 hf
            refine Xblk hX pkX5_ok [.aload_n 0, .dup, .getfield 100, .lconst 1, .iload_n 2, .lshl, .lor, .putfield 100, .iinc 2 1, .iinc 3 1] (pc' := 154) (ls' := [(3, .int (l3 + (1 : Int32))), (2, .int (l2 + (1 : Int32))), (0, .ref 39)]) (st' := []) (h' := (xL (xI h 41 l2.toNatClampNeg (h.1 40 l3.toNatClampNeg)) 39 8 ((h.2 39 8) ||| (jshlL (1 : Int64) l2)))) (g := true) (by decide +kernel) rfl rfl rfl ?_
            refine Xgoto hX (-108) 46 (by decide +kernel) (by decide) ?_
            refine XW.pick [2, 1, 0] (ls' := [(0, .ref 39), (2, .int (l2 + (1 : Int32))), (3, .int (l3 + (1 : Int32)))]) rfl ?_
            exact ih (l2 + (1 : Int32)) (l3 + (1 : Int32)) (xL (xI h 41 l2.toNatClampNeg (h.1 40 l3.toNatClampNeg)) 39 8 ((h.2 39 8) ||| (jshlL (1 : Int64) l2))) hf
set_option maxRecDepth 100000 in
set_option maxHeartbeats 4000000 in
theorem mt_m_hall  (h : Hp) {r : Int32} {h' : Hp} (hf : f_m_hall h = some (r, h')) : MT 2 66 yX5_hall cX5_hall 4 (some .int) [.ref 39] h (some (.int r)) h' := by
  refine MT.of (by decide +kernel) (Nat.le_of_ble_eq_true rfl) fun X hX hR => ?_
  unfold f_m_hall at hf
  refine Xblk hX pkX5_ok [.aload_n 0] (pc' := 1) (ls' := [(0, .ref 39)]) (st' := [.ref 39]) (h' := h) (g := true) (by decide +kernel) rfl rfl rfl ?_
  obtain ⟨v_3, h_2, hc_1, hf⟩ := xbd2_inv hf
  refine XcallV hX (mt_m_fault  h hc_1) (rest := []) (by decide) (by decide) xm_X5_fault xi_X5_fault xs_X5_fault xl_RX5_122 (by decide) (xsh_39) rfl rfl rfl (Nat.le_of_ble_eq_true rfl) (by decide +kernel) ?_
  show XW X 4 [(0, .ref 39)] [.int v_3] h_2
  refine Xblk hX pkX5_ok [.istore_n 1, .iload_n 1, .bipush (-9)] (pc' := 8) (ls' := [(1, .int v_3), (0, .ref 39)]) (st' := [.int (-9 : Int32), .int v_3]) (h' := h_2) (g := true) (by decide +kernel) rfl rfl rfl ?_
  refine Xbr hX (.if_icmp .eq (8)) (tgt := 16) (P := v_3 = (-9 : Int32)) (r := []) (by decide +kernel) rfl (by decide) (fun hc_4 => ?_) (fun hc_4 => ?_)
  · replace hf := xif_t hc_4 hf
    refine Xblk hX pkX5_ok [.aload_n 0, .aload_n 0, .getfield 119, .putfield 91, .aload_n 0, .aload_n 0, .getfield 116, .putfield 95, .aload_n 0, .iconst 0, .putfield 126, .aload_n 0, .lconst 0, .putfield 100, .iconst 0, .istore_n 2, .iconst 0, .istore_n 3] (pc' := 46) (ls' := [(3, .int (0 : Int32)), (2, .int (0 : Int32)), (1, .int v_3), (0, .ref 39)]) (st' := []) (h' := (xL (xI (xI (xI h_2 39 3 (h_2.1 39 11)) 39 4 (h_2.1 39 10)) 39 7 (0 : Int32)) 39 8 (0 : Int64))) (g := true) (by decide +kernel) rfl rfl rfl ?_
    refine XW.pick [3, 1, 0] (ls' := [(0, .ref 39), (2, .int (0 : Int32)), (3, .int (0 : Int32))]) rfl ?_
    refine f_m_hall_L_5_ok hX hR  _  (fun l2_13 l3_14 h_15 hf => ?_) 1000 (0 : Int32) (0 : Int32) (xL (xI (xI (xI h_2 39 3 (h_2.1 39 11)) 39 4 (h_2.1 39 10)) 39 7 (0 : Int32)) 39 8 (0 : Int64)) hf
    refine Xblk hX pkX5_ok [.aload_n 0, .iconst 0, .putfield 129, .aload_n 0, .iconst 0, .putfield 132, .aload_n 0, .iconst 0, .putfield 135, .aload_n 0, .iconst 0, .putfield 138, .aload_n 0, .iconst 0, .putfield 141, .aload_n 0, .getfield 76, .iconst 0, .iconst 0, .bastore, .aload_n 0, .getfield 76, .iconst 1, .iconst 0, .bastore, .aload_n 0, .aload_n 0, .getfield 100, .putfield 104, .aload_n 0, .iconst 0, .putfield 111, .aload_n 0, .getfield 91, .aload_n 0, .getfield 95, .imul] (pc' := 218) (ls' := [(0, .ref 39)]) (st' := [.int ((h_15.1 39 3) * (h_15.1 39 4))]) (h' := (xI (xL (xI (xI (xI (xI (xI (xI (xI h_15 39 12 (0 : Int32)) 39 15 (0 : Int32)) 39 25 (0 : Int32)) 39 20 (0 : Int32)) 39 19 (0 : Int32)) 61 0 (vp_nar .boolean (0 : Int32))) 61 1 (vp_nar .boolean (0 : Int32))) 39 9 (h_15.2 39 8)) 39 2 (0 : Int32))) (g := true) (by decide +kernel) rfl rfl rfl ?_
    exact XrI2 hX hR hf (by decide +kernel)
  · replace hf := xif_f hc_4 hf
    refine Xblk hX pkX5_ok [.bipush (-10), .iload_n 1, .isub] (pc' := 15) (ls' := [(1, .int v_3), (0, .ref 39)]) (st' := [.int ((-10 : Int32) - v_3)]) (h' := h_2) (g := true) (by decide +kernel) rfl rfl rfl ?_
    exact XrI2 hX hR hf (by decide +kernel)
