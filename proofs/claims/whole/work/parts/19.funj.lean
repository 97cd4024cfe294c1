def f_m_leastOf_L_15  (l1 : Int32) (l2 : Int32) (l3 : Int32) (l4 : Int32) (l5 : Int32) (l6 : Int32)  (k : Int32 → Hp → Option (Int32 × Hp)) : Nat → Int32 → Hp → Option (Int32 × Hp)
  | 0, _, _ => none
  | n + 1, l8, h =>
    if l4 ≤ l8 then
      k l8 h
    else
      if l3 = (0 : Int32) then
        k l8 h
      else
        xgd (xin (((6 : Int32) * l1) + l8) 12 && (xin l8 6 && true)) <|
        (f_m_leastOf_L_15 l1 l2 l3 l4 l5 l6 k n) (l8 + (1 : Int32)) (xI h 58 (((6 : Int32) * l1) + l8).toNatClampNeg (h.1 57 l8.toNatClampNeg))
def f_m_leastOf_j_14  (k15 : Int32 → Int32 → Hp → Option (Int32 × Hp)) (k105 : Int32 → Int32 → Hp → Option (Int32 × Hp)) (l1 : Int32) (l2 : Int32) (l3 : Int32) (l4 : Int32) (l6 : Int32) (l7 : Int32) (h : Hp) : Option (Int32 × Hp) :=
  f_m_leastOf_L_15 l1 l2 l3 l4 l7 l6 (fun l8_18 h_19 =>
    k15 l7 (l6 + (1 : Int32)) h_19
    ) 1000 (0 : Int32) h
def f_m_leastOf_L_4  (l1 : Int32) (l2 : Int32) (l3 : Int32) (l4 : Int32)  (k : Int32 → Int32 → Hp → Option (Int32 × Hp)) : Nat → Int32 → Int32 → Hp → Option (Int32 × Hp)
  | 0, _, _, _ => none
  | n + 1, l5, l6, h =>
    xbd1 (f_m_rowsOf l4) fun v_6 =>
    if v_6 ≤ l6 then
      k l5 l6 h
    else
      xbd2 (f_m_tellRow l2 l6 h) fun v_10 h_9 =>
      xbd1 (f_m_lateOf l1 l4 h_9) fun v_12 =>
      if l5 = (-9 : Int32) then
        f_m_leastOf_j_14 (f_m_leastOf_L_4 l1 l2 l3 l4 k n) k l1 l2 l3 l4 l6 v_12 h_9
      else
        if l5 ≤ v_12 then
          (f_m_leastOf_L_4 l1 l2 l3 l4 k n) l5 (l6 + (1 : Int32)) h_9
        else
          f_m_leastOf_j_14 (f_m_leastOf_L_4 l1 l2 l3 l4 k n) k l1 l2 l3 l4 l6 v_12 h_9
def f_m_leastOf (l1 : Int32) (l2 : Int32) (l3 : Int32) (h : Hp) : Option (Int32 × Hp) :=
  xbd2 (f_m_tellRow l2 (0 : Int32) h) fun v_3 h_2 =>
  f_m_leastOf_L_4 l1 l2 l3 v_3 (fun l5_21 l6_22 h_23 =>
    if l3 = (0 : Int32) then
      xgd (xin l1 2 && (xin l1 2 && true)) <|
      some (l5_21, (xI h_23 59 l1.toNatClampNeg (h_23.1 59 l1.toNatClampNeg)))
    else
      xgd (xin l1 2 && true) <|
      some (l5_21, (xI h_23 59 l1.toNatClampNeg v_3))
    ) 1000 (-9 : Int32) (0 : Int32) h_2
set_option maxRecDepth 100000 in
set_option maxHeartbeats 4000000 in
theorem f_m_leastOf_L_15_ok {X : XCtx} (hX : XOk X RX5 cX5_leastOf 9 2 66) {r : Int32} {h' : Hp} (hR : XR X (some .int) (some (.int r)) h')  (l1 : Int32) (l2 : Int32) (l3 : Int32) (l4 : Int32) (l5 : Int32) (l6 : Int32)  (k : Int32 → Hp → Option (Int32 × Hp))  (hk : ∀ (l8 : Int32) (h : Hp), k l8 h = some (r, h') → XW X 99 [(0, .ref 39), (1, .int l1), (2, .int l2), (3, .int l3), (4, .int l4), (5, .int l5), (6, .int l6)] [] h) : ∀ (n : Nat) (l8 : Int32) (h : Hp), f_m_leastOf_L_15 l1 l2 l3 l4 l5 l6 k n l8 h = some (r, h') → XW X 63 [(0, .ref 39), (1, .int l1), (2, .int l2), (3, .int l3), (4, .int l4), (5, .int l5), (6, .int l6), (8, .int l8)] [] h := by
  intro n
  induction n with
  | zero => intro l8 h hf; cases hf
  | succ n ih =>
    intro l8 h hf
    rw [f_m_leastOf_L_15] at hf
    refine Xblk hX pkX5_ok [.iload 8, .iload 4] (pc' := 67) (ls' := [(0, .ref 39), (1, .int l1), (2, .int l2), (3, .int l3), (4, .int l4), (5, .int l5), (6, .int l6), (8, .int l8)]) (st' := [.int l4, .int l8]) (h' := h) (g := true) (by decide +kernel) rfl rfl rfl ?_
    refine Xbr hX (.if_icmp .ge (32)) (tgt := 99) (P := l4 ≤ l8) (r := []) (by decide +kernel) rfl (by decide) (fun hc_16 => ?_) (fun hc_16 => ?_)
    · replace hf := xif_t hc_16 hf
      refine XW.pick [0, 1, 2, 3, 4, 5, 6] (ls' := [(0, .ref 39), (1, .int l1), (2, .int l2), (3, .int l3), (4, .int l4), (5, .int l5), (6, .int l6)]) rfl ?_
      exact hk l8 h hf
    · replace hf := xif_f hc_16 hf
      refine Xblk hX pkX5_ok [.iload_n 3] (pc' := 71) (ls' := [(0, .ref 39), (1, .int l1), (2, .int l2), (3, .int l3), (4, .int l4), (5, .int l5), (6, .int l6), (8, .int l8)]) (st' := [.int l3]) (h' := h) (g := true) (by decide +kernel) rfl rfl rfl ?_
      refine Xbr hX (.ifCond .eq (28)) (tgt := 99) (P := l3 = (0 : Int32)) (r := []) (by decide +kernel) rfl (by decide) (fun hc_17 => ?_) (fun hc_17 => ?_)
      · replace hf := xif_t hc_17 hf
        refine XW.pick [0, 1, 2, 3, 4, 5, 6] (ls' := [(0, .ref 39), (1, .int l1), (2, .int l2), (3, .int l3), (4, .int l4), (5, .int l5), (6, .int l6)]) rfl ?_
        exact hk l8 h hf
      · replace hf := xif_f hc_17 hf
        obtain ⟨hg, hf⟩ := xgd_inv hf
        refine Xblk hX pkX5_ok [.aload_n 0, .getfield 67, .bipush 6, .iload_n 1, .imul, .iload 8, .iadd, .aload_n 0, .getfield 64, .iload 8, .iaload, .iastore, .iinc 8 1] (pc' := 96) (ls' := [(8, .int (l8 + (1 : Int32))), (0, .ref 39), (1, .int l1), (2, .int l2), (3, .int l3), (4, .int l4), (5, .int l5), (6, .int l6)]) (st' := []) (h' := (xI h 58 (((6 : Int32) * l1) + l8).toNatClampNeg (h.1 57 l8.toNatClampNeg))) (g := (xin (((6 : Int32) * l1) + l8) 12 && (xin l8 6 && true))) (by decide +kernel) rfl rfl hg ?_
        refine Xgoto hX (-33) 63 (by decide +kernel) (by decide) ?_
        refine XW.pick [1, 2, 3, 4, 5, 6, 7, 0] (ls' := [(0, .ref 39), (1, .int l1), (2, .int l2), (3, .int l3), (4, .int l4), (5, .int l5), (6, .int l6), (8, .int (l8 + (1 : Int32)))]) rfl ?_
        exact ih (l8 + (1 : Int32)) (xI h 58 (((6 : Int32) * l1) + l8).toNatClampNeg (h.1 57 l8.toNatClampNeg)) hf
set_option maxRecDepth 100000 in
set_option maxHeartbeats 4000000 in
theorem f_m_leastOf_j_14_ok {X : XCtx} (hX : XOk X RX5 cX5_leastOf 9 2 66) {r : Int32} {h' : Hp} (hR : XR X (some .int) (some (.int r)) h')   (l1 : Int32) (l2 : Int32) (l3 : Int32) (l4 : Int32) (l6 : Int32) (l7 : Int32) (h : Hp) (k15 : Int32 → Int32 → Hp → Option (Int32 × Hp)) (k105 : Int32 → Int32 → Hp → Option (Int32 × Hp))  (hk15 : ∀ (l5 : Int32) (l6 : Int32) (h : Hp), k15 l5 l6 h = some (r, h') → XW X 15 [(0, .ref 39), (1, .int l1), (2, .int l2), (3, .int l3), (4, .int l4), (5, .int l5), (6, .int l6)] [] h) (hk105 : ∀ (l5 : Int32) (l6 : Int32) (h : Hp), k105 l5 l6 h = some (r, h') → XW X 105 [(0, .ref 39), (1, .int l1), (3, .int l3), (4, .int l4), (5, .int l5)] [] h) (hf : f_m_leastOf_j_14 k15 k105 l1 l2 l3 l4 l6 l7 h = some (r, h')) : XW X 56 [(0, .ref 39), (1, .int l1), (2, .int l2), (3, .int l3), (4, .int l4), (6, .int l6), (7, .int l7)] [] h := by
  unfold f_m_leastOf_j_14 at hf
  refine Xblk hX pkX5_ok [.iload 7, .istore 5, .iconst 0, .istore 8] (pc' := 63) (ls' := [(8, .int (0 : Int32)), (5, .int l7), (0, .ref 39), (1, .int l1), (2, .int l2), (3, .int l3), (4, .int l4), (6, .int l6), (7, .int l7)]) (st' := []) (h' := h) (g := true) (by decide +kernel) rfl rfl rfl ?_
  refine XW.pick [2, 3, 4, 5, 6, 1, 7, 0] (ls' := [(0, .ref 39), (1, .int l1), (2, .int l2), (3, .int l3), (4, .int l4), (5, .int l7), (6, .int l6), (8, .int (0 : Int32))]) rfl ?_
  refine f_m_leastOf_L_15_ok hX hR l1 l2 l3 l4 l7 l6 _  (fun l8_18 h_19 hf => ?_) 1000 (0 : Int32) h hf
  refine Xblk hX pkX5_ok [.iinc 6 1] (pc' := 102) (ls' := [(6, .int (l6 + (1 : Int32))), (0, .ref 39), (1, .int l1), (2, .int l2), (3, .int l3), (4, .int l4), (5, .int l7)]) (st' := []) (h' := h_19) (g := true) (by decide +kernel) rfl rfl rfl ?_
  refine Xgoto hX (-87) 15 (by decide +kernel) (by decide) ?_
  refine XW.pick [1, 2, 3, 4, 5, 6, 0] (ls' := [(0, .ref 39), (1, .int l1), (2, .int l2), (3, .int l3), (4, .int l4), (5, .int l7), (6, .int (l6 + (1 : Int32)))]) rfl ?_
  exact hk15 l7 (l6 + (1 : Int32)) h_19 hf
set_option maxRecDepth 100000 in
set_option maxHeartbeats 4000000 in
theorem f_m_leastOf_L_4_ok {X : XCtx} (hX : XOk X RX5 cX5_leastOf 9 2 66) {r : Int32} {h' : Hp} (hR : XR X (some .int) (some (.int r)) h')  (l1 : Int32) (l2 : Int32) (l3 : Int32) (l4 : Int32)  (k : Int32 → Int32 → Hp → Option (Int32 × Hp))  (hk : ∀ (l5 : Int32) (l6 : Int32) (h : Hp), k l5 l6 h = some (r, h') → XW X 105 [(0, .ref 39), (1, .int l1), (3, .int l3), (4, .int l4), (5, .int l5)] [] h) : ∀ (n : Nat) (l5 : Int32) (l6 : Int32) (h : Hp), f_m_leastOf_L_4 l1 l2 l3 l4 k n l5 l6 h = some (r, h') → XW X 15 [(0, .ref 39), (1, .int l1), (2, .int l2), (3, .int l3), (4, .int l4), (5, .int l5), (6, .int l6)] [] h := by
  intro n
  induction n with
  | zero => intro l5 l6 h hf; cases hf
  | succ n ih =>
    intro l5 l6 h hf
    rw [f_m_leastOf_L_4] at hf
    refine Xblk hX pkX5_ok [.iload 6, .iload 4] (pc' := 19) (ls' := [(0, .ref 39), (1, .int l1), (2, .int l2), (3, .int l3), (4, .int l4), (5, .int l5), (6, .int l6)]) (st' := [.int l4, .int l6]) (h' := h) (g := true) (by decide +kernel) rfl rfl rfl ?_
    obtain ⟨v_6, hc_5, hf⟩ := xbd1_inv hf
    refine XcallS hX (mt_m_rowsOf l4 h hc_5) (rest := [.int l6]) (by decide) (by decide) xm_X5_rowsOf xi_X5_rowsOf xl_RX5_241 rfl (Nat.le_of_ble_eq_true rfl) (by decide +kernel) ?_
    show XW X 22 [(0, .ref 39), (1, .int l1), (2, .int l2), (3, .int l3), (4, .int l4), (5, .int l5), (6, .int l6)] [.int v_6, .int l6] h
    refine Xbr hX (.if_icmp .ge (83)) (tgt := 105) (P := v_6 ≤ l6) (r := []) (by decide +kernel) rfl (by decide) (fun hc_7 => ?_) (fun hc_7 => ?_)
    · replace hf := xif_t hc_7 hf
      refine XW.pick [0, 1, 3, 4, 5] (ls' := [(0, .ref 39), (1, .int l1), (3, .int l3), (4, .int l4), (5, .int l5)]) rfl ?_
      exact hk l5 l6 h hf
    · replace hf := xif_f hc_7 hf
      refine Xblk hX pkX5_ok [.aload_n 0, .iload_n 2, .iload 6] (pc' := 29) (ls' := [(0, .ref 39), (1, .int l1), (2, .int l2), (3, .int l3), (4, .int l4), (5, .int l5), (6, .int l6)]) (st' := [.int l6, .int l2, .ref 39]) (h' := h) (g := true) (by decide +kernel) rfl rfl rfl ?_
      obtain ⟨v_10, h_9, hc_8, hf⟩ := xbd2_inv hf
      refine XcallV hX (mt_m_tellRow l2 l6 h hc_8) (rest := []) (by decide) (by decide) xm_X5_tellRow xi_X5_tellRow xs_X5_tellRow xl_RX5_244 (by decide) (xsh_39) rfl rfl rfl (Nat.le_of_ble_eq_true rfl) (by decide +kernel) ?_
      show XW X 32 [(0, .ref 39), (1, .int l1), (2, .int l2), (3, .int l3), (4, .int l4), (5, .int l5), (6, .int l6)] [.int v_10] h_9
      refine Xblk hX pkX5_ok [.pop, .aload_n 0, .iload_n 1, .iload 4] (pc' := 37) (ls' := [(0, .ref 39), (1, .int l1), (2, .int l2), (3, .int l3), (4, .int l4), (5, .int l5), (6, .int l6)]) (st' := [.int l4, .int l1, .ref 39]) (h' := h_9) (g := true) (by decide +kernel) rfl rfl rfl ?_
      obtain ⟨v_12, hc_11, hf⟩ := xbd1_inv hf
      refine XcallV hX (mt_m_lateOf l1 l4 h_9 hc_11) (rest := []) (by decide) (by decide) xm_X5_lateOf xi_X5_lateOf xs_X5_lateOf xl_RX5_247 (by decide) (xsh_39) rfl rfl rfl (Nat.le_of_ble_eq_true rfl) (by decide +kernel) ?_
      show XW X 40 [(0, .ref 39), (1, .int l1), (2, .int l2), (3, .int l3), (4, .int l4), (5, .int l5), (6, .int l6)] [.int v_12] h_9
      refine Xblk hX pkX5_ok [.istore 7, .iload 5, .bipush (-9)] (pc' := 46) (ls' := [(7, .int v_12), (0, .ref 39), (1, .int l1), (2, .int l2), (3, .int l3), (4, .int l4), (5, .int l5), (6, .int l6)]) (st' := [.int (-9 : Int32), .int l5]) (h' := h_9) (g := true) (by decide +kernel) rfl rfl rfl ?_
      refine Xbr hX (.if_icmp .eq (10)) (tgt := 56) (P := l5 = (-9 : Int32)) (r := []) (by decide +kernel) rfl (by decide) (fun hc_13 => ?_) (fun hc_13 => ?_)
      · replace hf := xif_t hc_13 hf
        refine XW.pick [1, 2, 3, 4, 5, 7, 0] (ls' := [(0, .ref 39), (1, .int l1), (2, .int l2), (3, .int l3), (4, .int l4), (6, .int l6), (7, .int v_12)]) rfl ?_
        exact f_m_leastOf_j_14_ok hX hR l1 l2 l3 l4 l6 v_12 h_9 _ _ ih hk hf
      · replace hf := xif_f hc_13 hf
        refine Xblk hX pkX5_ok [.iload 7, .iload 5] (pc' := 53) (ls' := [(7, .int v_12), (0, .ref 39), (1, .int l1), (2, .int l2), (3, .int l3), (4, .int l4), (5, .int l5), (6, .int l6)]) (st' := [.int l5, .int v_12]) (h' := h_9) (g := true) (by decide +kernel) rfl rfl rfl ?_
        refine Xbr hX (.if_icmp .ge (46)) (tgt := 99) (P := l5 ≤ v_12) (r := []) (by decide +kernel) rfl (by decide) (fun hc_20 => ?_) (fun hc_20 => ?_)
        · replace hf := xif_t hc_20 hf
          refine Xblk hX pkX5_ok [.iinc 6 1] (pc' := 102) (ls' := [(6, .int (l6 + (1 : Int32))), (7, .int v_12), (0, .ref 39), (1, .int l1), (2, .int l2), (3, .int l3), (4, .int l4), (5, .int l5)]) (st' := []) (h' := h_9) (g := true) (by decide +kernel) rfl rfl rfl ?_
          refine Xgoto hX (-87) 15 (by decide +kernel) (by decide) ?_
          refine XW.pick [2, 3, 4, 5, 6, 7, 0] (ls' := [(0, .ref 39), (1, .int l1), (2, .int l2), (3, .int l3), (4, .int l4), (5, .int l5), (6, .int (l6 + (1 : Int32)))]) rfl ?_
          exact ih l5 (l6 + (1 : Int32)) h_9 hf
        · replace hf := xif_f hc_20 hf
          refine XW.pick [1, 2, 3, 4, 5, 7, 0] (ls' := [(0, .ref 39), (1, .int l1), (2, .int l2), (3, .int l3), (4, .int l4), (6, .int l6), (7, .int v_12)]) rfl ?_
          exact f_m_leastOf_j_14_ok hX hR l1 l2 l3 l4 l6 v_12 h_9 _ _ ih hk hf
set_option maxRecDepth 100000 in
set_option maxHeartbeats 4000000 in
theorem mt_m_leastOf (l1 : Int32) (l2 : Int32) (l3 : Int32) (h : Hp) {r : Int32} {h' : Hp} (hf : f_m_leastOf l1 l2 l3 h = some (r, h')) : MT 2 66 yX5_leastOf cX5_leastOf 9 (some .int) [.ref 39, .int l1, .int l2, .int l3] h (some (.int r)) h' := by
  refine MT.of (by decide +kernel) (Nat.le_of_ble_eq_true rfl) fun X hX hR => ?_
  unfold f_m_leastOf at hf
  refine Xblk hX pkX5_ok [.aload_n 0, .iload_n 2, .iconst 0] (pc' := 3) (ls' := [(0, .ref 39), (1, .int l1), (2, .int l2), (3, .int l3)]) (st' := [.int (0 : Int32), .int l2, .ref 39]) (h' := h) (g := true) (by decide +kernel) rfl rfl rfl ?_
  obtain ⟨v_3, h_2, hc_1, hf⟩ := xbd2_inv hf
  refine XcallV hX (mt_m_tellRow l2 (0 : Int32) h hc_1) (rest := []) (by decide) (by decide) xm_X5_tellRow xi_X5_tellRow xs_X5_tellRow xl_RX5_244 (by decide) (xsh_39) rfl rfl rfl (Nat.le_of_ble_eq_true rfl) (by decide +kernel) ?_
  show XW X 6 [(0, .ref 39), (1, .int l1), (2, .int l2), (3, .int l3)] [.int v_3] h_2
  refine Xblk hX pkX5_ok [.istore 4, .bipush (-9), .istore 5, .iconst 0, .istore 6] (pc' := 15) (ls' := [(6, .int (0 : Int32)), (5, .int (-9 : Int32)), (4, .int v_3), (0, .ref 39), (1, .int l1), (2, .int l2), (3, .int l3)]) (st' := []) (h' := h_2) (g := true) (by decide +kernel) rfl rfl rfl ?_
  refine XW.pick [3, 4, 5, 6, 2, 1, 0] (ls' := [(0, .ref 39), (1, .int l1), (2, .int l2), (3, .int l3), (4, .int v_3), (5, .int (-9 : Int32)), (6, .int (0 : Int32))]) rfl ?_
  refine f_m_leastOf_L_4_ok hX hR l1 l2 l3 v_3 _  (fun l5_21 l6_22 h_23 hf => ?_) 1000 (-9 : Int32) (0 : Int32) h_2 hf
  refine Xblk hX pkX5_ok [.aload_n 0, .getfield 70, .iload_n 1, .iload_n 3] (pc' := 111) (ls' := [(0, .ref 39), (1, .int l1), (3, .int l3), (4, .int v_3), (5, .int l5_21)]) (st' := [.int l3, .int l1, .ref 59]) (h' := h_23) (g := true) (by decide +kernel) rfl rfl rfl ?_
  refine Xbr hX (.ifCond .eq (8)) (tgt := 119) (P := l3 = (0 : Int32)) (r := [.int l1, .ref 59]) (by decide +kernel) rfl (by decide) (fun hc_25 => ?_) (fun hc_25 => ?_)
  · replace hf := xif_t hc_25 hf
    obtain ⟨hg, hf⟩ := xgd_inv hf
    refine Xblk hX pkX5_ok [.aload_n 0, .getfield 70, .iload_n 1, .iaload, .iastore, .iload 5] (pc' := 128) (ls' := [(0, .ref 39), (1, .int l1), (3, .int l3), (4, .int v_3), (5, .int l5_21)]) (st' := [.int l5_21]) (h' := (xI h_23 59 l1.toNatClampNeg (h_23.1 59 l1.toNatClampNeg))) (g := (xin l1 2 && (xin l1 2 && true))) (by decide +kernel) rfl rfl hg ?_
    exact XrI2 hX hR hf (by decide +kernel)
  · replace hf := xif_f hc_25 hf
    refine Xblk hX pkX5_ok [.iload 4] (pc' := 116) (ls' := [(0, .ref 39), (1, .int l1), (3, .int l3), (4, .int v_3), (5, .int l5_21)]) (st' := [.int v_3, .int l1, .ref 59]) (h' := h_23) (g := true) (by decide +kernel) rfl rfl rfl ?_
    refine Xgoto hX (9) 125 (by decide +kernel) (by decide) ?_
    obtain ⟨hg, hf⟩ := xgd_inv hf
    refine Xblk hX pkX5_ok [.iastore, .iload 5] (pc' := 128) (ls' := [(0, .ref 39), (1, .int l1), (3, .int l3), (4, .int v_3), (5, .int l5_21)]) (st' := [.int l5_21]) (h' := (xI h_23 59 l1.toNatClampNeg v_3)) (g := (xin l1 2 && true)) (by decide +kernel) rfl rfl hg ?_
    exact XrI2 hX hR hf (by decide +kernel)
def f_m_findLate_j_10  (k17 : Int32 → Int32 → Int32 → Hp → Option (Int32 × Hp)) (k114 : Int32 → Int32 → Int32 → Hp → Option (Int32 × Hp)) (l1 : Int32) (l2 : Int32) (l3 : Int32) (l4 : Int32) (s0 : Int32) (s1 : Int32) (h : Hp) : Option (Int32 × Hp) :=
  k17 (if l2 = (-9 : Int32) then (s1 + s0) else (if l2 ≤ (s1 + s0) then l2 else (s1 + s0))) (if l2 = (-9 : Int32) then l4 else (if l2 ≤ (s1 + s0) then l3 else l4)) (l4 + (1 : Int32)) h
def f_m_findLate_L_1  (l1 : Int32)  (k : Int32 → Int32 → Int32 → Hp → Option (Int32 × Hp)) : Nat → Int32 → Int32 → Int32 → Hp → Option (Int32 × Hp)
  | 0, _, _, _, _ => none
  | n + 1, l2, l3, l4, h =>
    if (if (h.1 39 15) ≤ (1 : Int32) then (0 : Int32) else l1) < l4 then
      k l2 l3 l4 h
    else
      xbd2 (f_m_leastOf (0 : Int32) (l1 &&& (l4 ^^^ (-1 : Int32))) (0 : Int32) h) fun v_7 h_6 =>
      if (h_6.1 39 15) ≤ (1 : Int32) then
        f_m_findLate_j_10 (f_m_findLate_L_1 l1 k n) k l1 l2 l3 l4 (0 : Int32) v_7 h_6
      else
        xbd2 (f_m_leastOf (1 : Int32) l4 (0 : Int32) h_6) fun v_21 h_20 =>
        f_m_findLate_j_10 (f_m_findLate_L_1 l1 k n) k l1 l2 l3 l4 v_21 v_7 h_20
def f_m_findLate  (h : Hp) : Option (Int32 × Hp) :=
  f_m_findLate_L_1 ((jshl (1 : Int32) (h.1 39 25)) - (1 : Int32)) (fun l2_23 l3_24 l4_25 h_26 =>
    xbd2 (f_m_leastOf (0 : Int32) (((jshl (1 : Int32) (h.1 39 25)) - (1 : Int32)) &&& (l3_24 ^^^ (-1 : Int32))) (1 : Int32) h_26) fun v_29 h_28 =>
    if (h_28.1 39 15) ≤ (1 : Int32) then
      some (l2_23, h_28)
    else
      xbd2 (f_m_leastOf (1 : Int32) l3_24 (1 : Int32) h_28) fun v_34 h_33 =>
      some (l2_23, h_33)
    ) 1000 (-9 : Int32) (0 : Int32) (0 : Int32) h
set_option maxRecDepth 100000 in
set_option maxHeartbeats 4000000 in
theorem f_m_findLate_j_10_ok {X : XCtx} (hX : XOk X RX5 cX5_findLate 6 3 66) {r : Int32} {h' : Hp} (hR : XR X (some .int) (some (.int r)) h')   (l1 : Int32) (l2 : Int32) (l3 : Int32) (l4 : Int32) (s0 : Int32) (s1 : Int32) (h : Hp) (k17 : Int32 → Int32 → Int32 → Hp → Option (Int32 × Hp)) (k114 : Int32 → Int32 → Int32 → Hp → Option (Int32 × Hp))  (hk17 : ∀ (l2 : Int32) (l3 : Int32) (l4 : Int32) (h : Hp), k17 l2 l3 l4 h = some (r, h') → XW X 17 [(0, .ref 39), (1, .int l1), (2, .int l2), (3, .int l3), (4, .int l4)] [] h) (hk114 : ∀ (l2 : Int32) (l3 : Int32) (l4 : Int32) (h : Hp), k114 l2 l3 l4 h = some (r, h') → XW X 114 [(0, .ref 39), (1, .int l1), (2, .int l2), (3, .int l3)] [] h) (hf : f_m_findLate_j_10 k17 k114 l1 l2 l3 l4 s0 s1 h = some (r, h')) : XW X 67 [(0, .ref 39), (1, .int l1), (2, .int l2), (3, .int l3), (4, .int l4)] [.int s0, .int s1] h := by
  unfold f_m_findLate_j_10 at hf
  refine Xblk hX pkX5_ok [.iadd, .istore 5, .iload_n 2, .bipush (-9)] (pc' := 73) (ls' := [(5, .int (s1 + s0)), (0, .ref 39), (1, .int l1), (2, .int l2), (3, .int l3), (4, .int l4)]) (st' := [.int (-9 : Int32), .int l2]) (h' := h) (g := true) (by decide +kernel) rfl rfl rfl ?_
  have kJ_18 : ∀ (w_13 : Int32), w_13 = (if l2 = (-9 : Int32) then l4 else (if l2 ≤ (s1 + s0) then l3 else l4)) → XW X 88 [(0, .ref 39), (1, .int l1), (2, .int l2), (4, .int l4), (5, .int (s1 + s0))] [.int w_13] h := by
    intro w_13 ew_13
    subst ew_13
    refine Xblk hX pkX5_ok [.istore_n 3, .iload_n 2, .bipush (-9)] (pc' := 92) (ls' := [(3, .int (if l2 = (-9 : Int32) then l4 else (if l2 ≤ (s1 + s0) then l3 else l4))), (0, .ref 39), (1, .int l1), (2, .int l2), (4, .int l4), (5, .int (s1 + s0))]) (st' := [.int (-9 : Int32), .int l2]) (h' := h) (g := true) (by decide +kernel) rfl rfl rfl ?_
    have kJ_17 : ∀ (w_16 : Int32), w_16 = (if l2 = (-9 : Int32) then (s1 + s0) else (if l2 ≤ (s1 + s0) then l2 else (s1 + s0))) → XW X 107 [(0, .ref 39), (1, .int l1), (3, .int (if l2 = (-9 : Int32) then l4 else (if l2 ≤ (s1 + s0) then l3 else l4))), (4, .int l4)] [.int w_16] h := by
      intro w_16 ew_16
      subst ew_16
      refine Xblk hX pkX5_ok [.istore_n 2, .iinc 4 1] (pc' := 111) (ls' := [(4, .int (l4 + (1 : Int32))), (2, .int (if l2 = (-9 : Int32) then (s1 + s0) else (if l2 ≤ (s1 + s0) then l2 else (s1 + s0)))), (0, .ref 39), (1, .int l1), (3, .int (if l2 = (-9 : Int32) then l4 else (if l2 ≤ (s1 + s0) then l3 else l4)))]) (st' := []) (h' := h) (g := true) (by decide +kernel) rfl rfl rfl ?_
      refine Xgoto hX (-94) 17 (by decide +kernel) (by decide) ?_
      refine XW.pick [2, 3, 1, 4, 0] (ls' := [(0, .ref 39), (1, .int l1), (2, .int (if l2 = (-9 : Int32) then (s1 + s0) else (if l2 ≤ (s1 + s0) then l2 else (s1 + s0)))), (3, .int (if l2 = (-9 : Int32) then l4 else (if l2 ≤ (s1 + s0) then l3 else l4))), (4, .int (l4 + (1 : Int32)))]) rfl ?_
      exact hk17 (if l2 = (-9 : Int32) then (s1 + s0) else (if l2 ≤ (s1 + s0) then l2 else (s1 + s0))) (if l2 = (-9 : Int32) then l4 else (if l2 ≤ (s1 + s0) then l3 else l4)) (l4 + (1 : Int32)) h hf
    refine Xbr hX (.if_icmp .eq (9)) (tgt := 101) (P := l2 = (-9 : Int32)) (r := []) (by decide +kernel) rfl (by decide) (fun hc_14 => ?_) (fun hc_14 => ?_)
    · refine Xblk hX pkX5_ok [.iload 5] (pc' := 103) (ls' := [(3, .int (if l2 = (-9 : Int32) then l4 else (if l2 ≤ (s1 + s0) then l3 else l4))), (0, .ref 39), (1, .int l1), (2, .int l2), (4, .int l4), (5, .int (s1 + s0))]) (st' := [.int (s1 + s0)]) (h' := h) (g := true) (by decide +kernel) rfl rfl rfl ?_
      refine Xgoto hX (4) 107 (by decide +kernel) (by decide) ?_
      refine XW.pick [1, 2, 0, 4] (ls' := [(0, .ref 39), (1, .int l1), (3, .int (if l2 = (-9 : Int32) then l4 else (if l2 ≤ (s1 + s0) then l3 else l4))), (4, .int l4)]) rfl ?_
      exact kJ_17 _ (by rw [if_pos hc_14])
    · refine Xblk hX pkX5_ok [.iload 5, .iload_n 2] (pc' := 98) (ls' := [(3, .int (if l2 = (-9 : Int32) then l4 else (if l2 ≤ (s1 + s0) then l3 else l4))), (0, .ref 39), (1, .int l1), (2, .int l2), (4, .int l4), (5, .int (s1 + s0))]) (st' := [.int l2, .int (s1 + s0)]) (h' := h) (g := true) (by decide +kernel) rfl rfl rfl ?_
      refine Xbr hX (.if_icmp .ge (8)) (tgt := 106) (P := l2 ≤ (s1 + s0)) (r := []) (by decide +kernel) rfl (by decide) (fun hc_15 => ?_) (fun hc_15 => ?_)
      · refine Xblk hX pkX5_ok [.iload_n 2] (pc' := 107) (ls' := [(3, .int (if l2 = (-9 : Int32) then l4 else (if l2 ≤ (s1 + s0) then l3 else l4))), (0, .ref 39), (1, .int l1), (2, .int l2), (4, .int l4), (5, .int (s1 + s0))]) (st' := [.int l2]) (h' := h) (g := true) (by decide +kernel) rfl rfl rfl ?_
        refine XW.pick [1, 2, 0, 4] (ls' := [(0, .ref 39), (1, .int l1), (3, .int (if l2 = (-9 : Int32) then l4 else (if l2 ≤ (s1 + s0) then l3 else l4))), (4, .int l4)]) rfl ?_
        exact kJ_17 _ (by rw [if_neg hc_14, if_pos hc_15])
      · refine Xblk hX pkX5_ok [.iload 5] (pc' := 103) (ls' := [(3, .int (if l2 = (-9 : Int32) then l4 else (if l2 ≤ (s1 + s0) then l3 else l4))), (0, .ref 39), (1, .int l1), (2, .int l2), (4, .int l4), (5, .int (s1 + s0))]) (st' := [.int (s1 + s0)]) (h' := h) (g := true) (by decide +kernel) rfl rfl rfl ?_
        refine Xgoto hX (4) 107 (by decide +kernel) (by decide) ?_
        refine XW.pick [1, 2, 0, 4] (ls' := [(0, .ref 39), (1, .int l1), (3, .int (if l2 = (-9 : Int32) then l4 else (if l2 ≤ (s1 + s0) then l3 else l4))), (4, .int l4)]) rfl ?_
        exact kJ_17 _ (by rw [if_neg hc_14, if_neg hc_15])
  refine Xbr hX (.if_icmp .eq (9)) (tgt := 82) (P := l2 = (-9 : Int32)) (r := []) (by decide +kernel) rfl (by decide) (fun hc_11 => ?_) (fun hc_11 => ?_)
  · refine Xblk hX pkX5_ok [.iload 4] (pc' := 84) (ls' := [(5, .int (s1 + s0)), (0, .ref 39), (1, .int l1), (2, .int l2), (3, .int l3), (4, .int l4)]) (st' := [.int l4]) (h' := h) (g := true) (by decide +kernel) rfl rfl rfl ?_
    refine Xgoto hX (4) 88 (by decide +kernel) (by decide) ?_
    refine XW.pick [1, 2, 3, 5, 0] (ls' := [(0, .ref 39), (1, .int l1), (2, .int l2), (4, .int l4), (5, .int (s1 + s0))]) rfl ?_
    exact kJ_18 _ (by rw [if_pos hc_11])
  · refine Xblk hX pkX5_ok [.iload 5, .iload_n 2] (pc' := 79) (ls' := [(5, .int (s1 + s0)), (0, .ref 39), (1, .int l1), (2, .int l2), (3, .int l3), (4, .int l4)]) (st' := [.int l2, .int (s1 + s0)]) (h' := h) (g := true) (by decide +kernel) rfl rfl rfl ?_
    refine Xbr hX (.if_icmp .ge (8)) (tgt := 87) (P := l2 ≤ (s1 + s0)) (r := []) (by decide +kernel) rfl (by decide) (fun hc_12 => ?_) (fun hc_12 => ?_)
    · refine Xblk hX pkX5_ok [.iload_n 3] (pc' := 88) (ls' := [(5, .int (s1 + s0)), (0, .ref 39), (1, .int l1), (2, .int l2), (3, .int l3), (4, .int l4)]) (st' := [.int l3]) (h' := h) (g := true) (by decide +kernel) rfl rfl rfl ?_
      refine XW.pick [1, 2, 3, 5, 0] (ls' := [(0, .ref 39), (1, .int l1), (2, .int l2), (4, .int l4), (5, .int (s1 + s0))]) rfl ?_
      exact kJ_18 _ (by rw [if_neg hc_11, if_pos hc_12])
    · refine Xblk hX pkX5_ok [.iload 4] (pc' := 84) (ls' := [(5, .int (s1 + s0)), (0, .ref 39), (1, .int l1), (2, .int l2), (3, .int l3), (4, .int l4)]) (st' := [.int l4]) (h' := h) (g := true) (by decide +kernel) rfl rfl rfl ?_
      refine Xgoto hX (4) 88 (by decide +kernel) (by decide) ?_
      refine XW.pick [1, 2, 3, 5, 0] (ls' := [(0, .ref 39), (1, .int l1), (2, .int l2), (4, .int l4), (5, .int (s1 + s0))]) rfl ?_
      exact kJ_18 _ (by rw [if_neg hc_11, if_neg hc_12])
set_option maxRecDepth 100000 in
set_option maxHeartbeats 4000000 in
theorem f_m_findLate_L_1_ok {X : XCtx} (hX : XOk X RX5 cX5_findLate 6 3 66) {r : Int32} {h' : Hp} (hR : XR X (some .int) (some (.int r)) h')  (l1 : Int32)  (k : Int32 → Int32 → Int32 → Hp → Option (Int32 × Hp))  (hk : ∀ (l2 : Int32) (l3 : Int32) (l4 : Int32) (h : Hp), k l2 l3 l4 h = some (r, h') → XW X 114 [(0, .ref 39), (1, .int l1), (2, .int l2), (3, .int l3)] [] h) : ∀ (n : Nat) (l2 : Int32) (l3 : Int32) (l4 : Int32) (h : Hp), f_m_findLate_L_1 l1 k n l2 l3 l4 h = some (r, h') → XW X 17 [(0, .ref 39), (1, .int l1), (2, .int l2), (3, .int l3), (4, .int l4)] [] h := by
  intro n
  induction n with
  | zero => intro l2 l3 l4 h hf; cases hf
  | succ n ih =>
    intro l2 l3 l4 h hf
    rw [f_m_findLate_L_1] at hf
    refine Xblk hX pkX5_ok [.iload 4, .aload_n 0, .getfield 132, .iconst 1] (pc' := 24) (ls' := [(0, .ref 39), (1, .int l1), (2, .int l2), (3, .int l3), (4, .int l4)]) (st' := [.int (1 : Int32), .int (h.1 39 15), .int l4]) (h' := h) (g := true) (by decide +kernel) rfl rfl rfl ?_
    have kJ_22 : ∀ (w_3 : Int32), w_3 = (if (h.1 39 15) ≤ (1 : Int32) then (0 : Int32) else l1) → XW X 32 [(0, .ref 39), (1, .int l1), (2, .int l2), (3, .int l3), (4, .int l4)] [.int w_3, .int l4] h := by
      intro w_3 ew_3
      subst ew_3
      refine Xbr hX (.if_icmp .gt (82)) (tgt := 114) (P := (if (h.1 39 15) ≤ (1 : Int32) then (0 : Int32) else l1) < l4) (r := []) (by decide +kernel) rfl (by decide) (fun hc_4 => ?_) (fun hc_4 => ?_)
      · replace hf := xif_t hc_4 hf
        refine XW.pick [0, 1, 2, 3] (ls' := [(0, .ref 39), (1, .int l1), (2, .int l2), (3, .int l3)]) rfl ?_
        exact hk l2 l3 l4 h hf
      · replace hf := xif_f hc_4 hf
        refine Xblk hX pkX5_ok [.aload_n 0, .iconst 0, .iload_n 1, .iload 4, .iconst (-1), .ixor, .iand, .iconst 0] (pc' := 44) (ls' := [(0, .ref 39), (1, .int l1), (2, .int l2), (3, .int l3), (4, .int l4)]) (st' := [.int (0 : Int32), .int (l1 &&& (l4 ^^^ (-1 : Int32))), .int (0 : Int32), .ref 39]) (h' := h) (g := true) (by decide +kernel) rfl rfl rfl ?_
        obtain ⟨v_7, h_6, hc_5, hf⟩ := xbd2_inv hf
        refine XcallV hX (mt_m_leastOf (0 : Int32) (l1 &&& (l4 ^^^ (-1 : Int32))) (0 : Int32) h hc_5) (rest := []) (by decide) (by decide) xm_X5_leastOf xi_X5_leastOf xs_X5_leastOf xl_RX5_250 (by decide) (xsh_39) rfl rfl rfl (Nat.le_of_ble_eq_true rfl) (by decide +kernel) ?_
        show XW X 47 [(0, .ref 39), (1, .int l1), (2, .int l2), (3, .int l3), (4, .int l4)] [.int v_7] h_6
        refine Xblk hX pkX5_ok [.aload_n 0, .getfield 132, .iconst 1] (pc' := 52) (ls' := [(0, .ref 39), (1, .int l1), (2, .int l2), (3, .int l3), (4, .int l4)]) (st' := [.int (1 : Int32), .int (h_6.1 39 15), .int v_7]) (h' := h_6) (g := true) (by decide +kernel) rfl rfl rfl ?_
        refine Xbr hX (.if_icmp .le (14)) (tgt := 66) (P := (h_6.1 39 15) ≤ (1 : Int32)) (r := [.int v_7]) (by decide +kernel) rfl (by decide) (fun hc_9 => ?_) (fun hc_9 => ?_)
        · replace hf := xif_t hc_9 hf
          refine Xblk hX pkX5_ok [.iconst 0] (pc' := 67) (ls' := [(0, .ref 39), (1, .int l1), (2, .int l2), (3, .int l3), (4, .int l4)]) (st' := [.int (0 : Int32), .int v_7]) (h' := h_6) (g := true) (by decide +kernel) rfl rfl rfl ?_
          refine XW.pick [0, 1, 2, 3, 4] (ls' := [(0, .ref 39), (1, .int l1), (2, .int l2), (3, .int l3), (4, .int l4)]) rfl ?_
          exact f_m_findLate_j_10_ok hX hR l1 l2 l3 l4 (0 : Int32) v_7 h_6 _ _ ih hk hf
        · replace hf := xif_f hc_9 hf
          refine Xblk hX pkX5_ok [.aload_n 0, .iconst 1, .iload 4, .iconst 0] (pc' := 60) (ls' := [(0, .ref 39), (1, .int l1), (2, .int l2), (3, .int l3), (4, .int l4)]) (st' := [.int (0 : Int32), .int l4, .int (1 : Int32), .ref 39, .int v_7]) (h' := h_6) (g := true) (by decide +kernel) rfl rfl rfl ?_
          obtain ⟨v_21, h_20, hc_19, hf⟩ := xbd2_inv hf
          refine XcallV hX (mt_m_leastOf (1 : Int32) l4 (0 : Int32) h_6 hc_19) (rest := [.int v_7]) (by decide) (by decide) xm_X5_leastOf xi_X5_leastOf xs_X5_leastOf xl_RX5_250 (by decide) (xsh_39) rfl rfl rfl (Nat.le_of_ble_eq_true rfl) (by decide +kernel) ?_
          show XW X 63 [(0, .ref 39), (1, .int l1), (2, .int l2), (3, .int l3), (4, .int l4)] [.int v_21, .int v_7] h_20
          refine Xgoto hX (4) 67 (by decide +kernel) (by decide) ?_
          refine XW.pick [0, 1, 2, 3, 4] (ls' := [(0, .ref 39), (1, .int l1), (2, .int l2), (3, .int l3), (4, .int l4)]) rfl ?_
          exact f_m_findLate_j_10_ok hX hR l1 l2 l3 l4 v_21 v_7 h_20 _ _ ih hk hf
    refine Xbr hX (.if_icmp .le (7)) (tgt := 31) (P := (h.1 39 15) ≤ (1 : Int32)) (r := [.int l4]) (by decide +kernel) rfl (by decide) (fun hc_2 => ?_) (fun hc_2 => ?_)
    · refine Xblk hX pkX5_ok [.iconst 0] (pc' := 32) (ls' := [(0, .ref 39), (1, .int l1), (2, .int l2), (3, .int l3), (4, .int l4)]) (st' := [.int (0 : Int32), .int l4]) (h' := h) (g := true) (by decide +kernel) rfl rfl rfl ?_
      refine XW.pick [0, 1, 2, 3, 4] (ls' := [(0, .ref 39), (1, .int l1), (2, .int l2), (3, .int l3), (4, .int l4)]) rfl ?_
      exact kJ_22 _ (by rw [if_pos hc_2])
    · refine Xblk hX pkX5_ok [.iload_n 1] (pc' := 28) (ls' := [(0, .ref 39), (1, .int l1), (2, .int l2), (3, .int l3), (4, .int l4)]) (st' := [.int l1, .int l4]) (h' := h) (g := true) (by decide +kernel) rfl rfl rfl ?_
      refine Xgoto hX (4) 32 (by decide +kernel) (by decide) ?_
      refine XW.pick [0, 1, 2, 3, 4] (ls' := [(0, .ref 39), (1, .int l1), (2, .int l2), (3, .int l3), (4, .int l4)]) rfl ?_
      exact kJ_22 _ (by rw [if_neg hc_2])
set_option maxRecDepth 100000 in
set_option maxHeartbeats 4000000 in
theorem mt_m_findLate  (h : Hp) {r : Int32} {h' : Hp} (hf : f_m_findLate h = some (r, h')) : MT 3 66 yX5_findLate cX5_findLate 6 (some .int) [.ref 39] h (some (.int r)) h' := by
  refine MT.of (by decide +kernel) (Nat.le_of_ble_eq_true rfl) fun X hX hR => ?_
  unfold f_m_findLate at hf
  refine Xblk hX pkX5_ok [.iconst 1, .aload_n 0, .getfield 135, .ishl, .iconst 1, .isub, .istore_n 1, .bipush (-9), .istore_n 2, .iconst 0, .istore_n 3, .iconst 0, .istore 4] (pc' := 17) (ls' := [(4, .int (0 : Int32)), (3, .int (0 : Int32)), (2, .int (-9 : Int32)), (1, .int ((jshl (1 : Int32) (h.1 39 25)) - (1 : Int32))), (0, .ref 39)]) (st' := []) (h' := h) (g := true) (by decide +kernel) rfl rfl rfl ?_
  refine XW.pick [4, 3, 2, 1, 0] (ls' := [(0, .ref 39), (1, .int ((jshl (1 : Int32) (h.1 39 25)) - (1 : Int32))), (2, .int (-9 : Int32)), (3, .int (0 : Int32)), (4, .int (0 : Int32))]) rfl ?_
  refine f_m_findLate_L_1_ok hX hR ((jshl (1 : Int32) (h.1 39 25)) - (1 : Int32)) _  (fun l2_23 l3_24 l4_25 h_26 hf => ?_) 1000 (-9 : Int32) (0 : Int32) (0 : Int32) h hf
  refine Xblk hX pkX5_ok [.aload_n 0, .iconst 0, .iload_n 1, .iload_n 3, .iconst (-1), .ixor, .iand, .iconst 1] (pc' := 122) (ls' := [(0, .ref 39), (1, .int ((jshl (1 : Int32) (h.1 39 25)) - (1 : Int32))), (2, .int l2_23), (3, .int l3_24)]) (st' := [.int (1 : Int32), .int (((jshl (1 : Int32) (h.1 39 25)) - (1 : Int32)) &&& (l3_24 ^^^ (-1 : Int32))), .int (0 : Int32), .ref 39]) (h' := h_26) (g := true) (by decide +kernel) rfl rfl rfl ?_
  obtain ⟨v_29, h_28, hc_27, hf⟩ := xbd2_inv hf
  refine XcallV hX (mt_m_leastOf (0 : Int32) (((jshl (1 : Int32) (h.1 39 25)) - (1 : Int32)) &&& (l3_24 ^^^ (-1 : Int32))) (1 : Int32) h_26 hc_27) (rest := []) (by decide) (by decide) xm_X5_leastOf xi_X5_leastOf xs_X5_leastOf xl_RX5_250 (by decide) (xsh_39) rfl rfl rfl (Nat.le_of_ble_eq_true rfl) (by decide +kernel) ?_
  show XW X 125 [(0, .ref 39), (1, .int ((jshl (1 : Int32) (h.1 39 25)) - (1 : Int32))), (2, .int l2_23), (3, .int l3_24)] [.int v_29] h_28
  refine Xblk hX pkX5_ok [.pop, .aload_n 0, .getfield 132, .iconst 1] (pc' := 131) (ls' := [(0, .ref 39), (1, .int ((jshl (1 : Int32) (h.1 39 25)) - (1 : Int32))), (2, .int l2_23), (3, .int l3_24)]) (st' := [.int (1 : Int32), .int (h_28.1 39 15)]) (h' := h_28) (g := true) (by decide +kernel) rfl rfl rfl ?_
  refine Xbr hX (.if_icmp .le (11)) (tgt := 142) (P := (h_28.1 39 15) ≤ (1 : Int32)) (r := []) (by decide +kernel) rfl (by decide) (fun hc_31 => ?_) (fun hc_31 => ?_)
  · replace hf := xif_t hc_31 hf
    refine Xblk hX pkX5_ok [.iload_n 2] (pc' := 143) (ls' := [(0, .ref 39), (1, .int ((jshl (1 : Int32) (h.1 39 25)) - (1 : Int32))), (2, .int l2_23), (3, .int l3_24)]) (st' := [.int l2_23]) (h' := h_28) (g := true) (by decide +kernel) rfl rfl rfl ?_
    exact XrI2 hX hR hf (by decide +kernel)
  · replace hf := xif_f hc_31 hf
    refine Xblk hX pkX5_ok [.aload_n 0, .iconst 1, .iload_n 3, .iconst 1] (pc' := 138) (ls' := [(0, .ref 39), (1, .int ((jshl (1 : Int32) (h.1 39 25)) - (1 : Int32))), (2, .int l2_23), (3, .int l3_24)]) (st' := [.int (1 : Int32), .int l3_24, .int (1 : Int32), .ref 39]) (h' := h_28) (g := true) (by decide +kernel) rfl rfl rfl ?_
    obtain ⟨v_34, h_33, hc_32, hf⟩ := xbd2_inv hf
    refine XcallV hX (mt_m_leastOf (1 : Int32) l3_24 (1 : Int32) h_28 hc_32) (rest := []) (by decide) (by decide) xm_X5_leastOf xi_X5_leastOf xs_X5_leastOf xl_RX5_250 (by decide) (xsh_39) rfl rfl rfl (Nat.le_of_ble_eq_true rfl) (by decide +kernel) ?_
    show XW X 141 [(0, .ref 39), (1, .int ((jshl (1 : Int32) (h.1 39 25)) - (1 : Int32))), (2, .int l2_23), (3, .int l3_24)] [.int v_34] h_33
    refine Xblk hX pkX5_ok [.pop, .iload_n 2] (pc' := 143) (ls' := [(0, .ref 39), (1, .int ((jshl (1 : Int32) (h.1 39 25)) - (1 : Int32))), (2, .int l2_23), (3, .int l3_24)]) (st' := [.int l2_23]) (h' := h_33) (g := true) (by decide +kernel) rfl rfl rfl ?_
    exact XrI2 hX hR hf (by decide +kernel)
def f_m_late  (h : Hp) : Option (Int32 × Hp) :=
  if (h.1 39 25) = (0 : Int32) then
    some ((0 : Int32), h)
  else
    xbd2 (f_m_measure h) fun v_5 h_4 =>
    if v_5 = (0 : Int32) then
      some ((-2 : Int32), h_4)
    else
      xbd2 (f_m_findLate h_4) fun v_10 h_9 =>
      some (v_10, h_9)
set_option maxRecDepth 100000 in
set_option maxHeartbeats 4000000 in
theorem mt_m_late  (h : Hp) {r : Int32} {h' : Hp} (hf : f_m_late h = some (r, h')) : MT 4 66 yX5_late cX5_late 1 (some .int) [.ref 39] h (some (.int r)) h' := by
  refine MT.of (by decide +kernel) (Nat.le_of_ble_eq_true rfl) fun X hX hR => ?_
  unfold f_m_late at hf
  refine Xblk hX pkX5_ok [.aload_n 0, .getfield 135] (pc' := 4) (ls' := [(0, .ref 39)]) (st' := [.int (h.1 39 25)]) (h' := h) (g := true) (by decide +kernel) rfl rfl rfl ?_
  refine XbrN hX (.ifCond .ne (7)) (tgt := 11) (P := (h.1 39 25) = (0 : Int32)) (r := []) (by decide +kernel) rfl (by decide) (fun hc_2 => ?_) (fun hc_2 => ?_)
  · replace hf := xif_t hc_2 hf
    refine Xblk hX pkX5_ok [.iconst 0] (pc' := 8) (ls' := [(0, .ref 39)]) (st' := [.int (0 : Int32)]) (h' := h) (g := true) (by decide +kernel) rfl rfl rfl ?_
    refine Xgoto hX (19) 27 (by decide +kernel) (by decide) ?_
    exact XrI2 hX hR hf (by decide +kernel)
  · replace hf := xif_f hc_2 hf
    refine Xblk hX pkX5_ok [.aload_n 0] (pc' := 12) (ls' := [(0, .ref 39)]) (st' := [.ref 39]) (h' := h) (g := true) (by decide +kernel) rfl rfl rfl ?_
    obtain ⟨v_5, h_4, hc_3, hf⟩ := xbd2_inv hf
    refine XcallV hX (mt_m_measure  h hc_3) (rest := []) (by decide) (by decide) xm_X5_measure xi_X5_measure xs_X5_measure xl_RX5_254 (by decide) (xsh_39) rfl rfl rfl (Nat.le_of_ble_eq_true rfl) (by decide +kernel) ?_
    show XW X 15 [(0, .ref 39)] [.int v_5] h_4
    refine Xbr hX (.ifCond .eq (10)) (tgt := 25) (P := v_5 = (0 : Int32)) (r := []) (by decide +kernel) rfl (by decide) (fun hc_7 => ?_) (fun hc_7 => ?_)
    · replace hf := xif_t hc_7 hf
      refine Xblk hX pkX5_ok [.bipush (-2)] (pc' := 27) (ls' := [(0, .ref 39)]) (st' := [.int (-2 : Int32)]) (h' := h_4) (g := true) (by decide +kernel) rfl rfl rfl ?_
      exact XrI2 hX hR hf (by decide +kernel)
    · replace hf := xif_f hc_7 hf
      refine Xblk hX pkX5_ok [.aload_n 0] (pc' := 19) (ls' := [(0, .ref 39)]) (st' := [.ref 39]) (h' := h_4) (g := true) (by decide +kernel) rfl rfl rfl ?_
      obtain ⟨v_10, h_9, hc_8, hf⟩ := xbd2_inv hf
      refine XcallV hX (mt_m_findLate  h_4 hc_8) (rest := []) (by decide) (by decide) xm_X5_findLate xi_X5_findLate xs_X5_findLate xl_RX5_258 (by decide) (xsh_39) rfl rfl rfl (Nat.le_of_ble_eq_true rfl) (by decide +kernel) ?_
      show XW X 22 [(0, .ref 39)] [.int v_10] h_9
      refine Xgoto hX (5) 27 (by decide +kernel) (by decide) ?_
      exact XrI2 hX hR hf (by decide +kernel)
def f_m_served (l1 : Int32) (l2 : Int32) (h : Hp) : Option (Int32 × Hp) :=
  if (f_m_isCarrier l1 h) = (0 : Int32) then
    some ((-1 : Int32), h)
  else
    if (0 : Int32) ≤ l2 then
      if (h.1 39 25) = (0 : Int32) then
        some ((-9 : Int32), h)
      else
        xbd2 (f_m_measure h) fun v_6 h_5 =>
        if v_6 = (0 : Int32) then
          some ((-2 : Int32), h_5)
        else
          xbd2 (f_m_findLate h_5) fun v_10 h_9 =>
          xgd (xin l1 2 && true) <|
          if (h_9.1 59 l1.toNatClampNeg) ≤ l2 then
            some ((-9 : Int32), h_9)
          else
            xgd (xin (((6 : Int32) * l1) + l2) 12 && true) <|
            some ((h_9.1 58 (((6 : Int32) * l1) + l2).toNatClampNeg), h_9)
    else
      some ((-1 : Int32), h)
set_option maxRecDepth 100000 in
set_option maxHeartbeats 4000000 in
theorem mt_m_served (l1 : Int32) (l2 : Int32) (h : Hp) {r : Int32} {h' : Hp} (hf : f_m_served l1 l2 h = some (r, h')) : MT 4 66 yX5_served cX5_served 3 (some .int) [.ref 39, .int l1, .int l2] h (some (.int r)) h' := by
  refine MT.of (by decide +kernel) (Nat.le_of_ble_eq_true rfl) fun X hX hR => ?_
  unfold f_m_served at hf
  refine Xblk hX pkX5_ok [.aload_n 0, .iload_n 1] (pc' := 2) (ls' := [(0, .ref 39), (1, .int l1), (2, .int l2)]) (st' := [.int l1, .ref 39]) (h' := h) (g := true) (by decide +kernel) rfl rfl rfl ?_
  refine XcallV hX (mt_m_isCarrier l1 h) (rest := []) (by decide) (by decide) xm_X5_isCarrier xi_X5_isCarrier xs_X5_isCarrier xl_RX5_175 (by decide) (xsh_39) rfl rfl rfl (Nat.le_of_ble_eq_true rfl) (by decide +kernel) ?_
  show XW X 5 [(0, .ref 39), (1, .int l1), (2, .int l2)] [.int (f_m_isCarrier l1 h)] h
  refine Xbr hX (.ifCond .eq (7)) (tgt := 12) (P := (f_m_isCarrier l1 h) = (0 : Int32)) (r := []) (by decide +kernel) rfl (by decide) (fun hc_1 => ?_) (fun hc_1 => ?_)
  · replace hf := xif_t hc_1 hf
    refine Xblk hX pkX5_ok [.iconst (-1)] (pc' := 13) (ls' := [(0, .ref 39), (1, .int l1), (2, .int l2)]) (st' := [.int (-1 : Int32)]) (h' := h) (g := true) (by decide +kernel) rfl rfl rfl ?_
    exact XrI2 hX hR hf (by decide +kernel)
  · replace hf := xif_f hc_1 hf
    refine Xblk hX pkX5_ok [.iload_n 2] (pc' := 9) (ls' := [(0, .ref 39), (1, .int l1), (2, .int l2)]) (st' := [.int l2]) (h' := h) (g := true) (by decide +kernel) rfl rfl rfl ?_
    refine Xbr hX (.ifCond .ge (5)) (tgt := 14) (P := (0 : Int32) ≤ l2) (r := []) (by decide +kernel) rfl (by decide) (fun hc_2 => ?_) (fun hc_2 => ?_)
    · replace hf := xif_t hc_2 hf
      refine Xblk hX pkX5_ok [.aload_n 0, .getfield 135] (pc' := 18) (ls' := [(0, .ref 39), (1, .int l1), (2, .int l2)]) (st' := [.int (h.1 39 25)]) (h' := h) (g := true) (by decide +kernel) rfl rfl rfl ?_
      refine XbrN hX (.ifCond .ne (6)) (tgt := 24) (P := (h.1 39 25) = (0 : Int32)) (r := []) (by decide +kernel) rfl (by decide) (fun hc_3 => ?_) (fun hc_3 => ?_)
      · replace hf := xif_t hc_3 hf
        refine Xblk hX pkX5_ok [.bipush (-9)] (pc' := 23) (ls' := [(0, .ref 39), (1, .int l1), (2, .int l2)]) (st' := [.int (-9 : Int32)]) (h' := h) (g := true) (by decide +kernel) rfl rfl rfl ?_
        exact XrI2 hX hR hf (by decide +kernel)
      · replace hf := xif_f hc_3 hf
        refine Xblk hX pkX5_ok [.aload_n 0] (pc' := 25) (ls' := [(0, .ref 39), (1, .int l1), (2, .int l2)]) (st' := [.ref 39]) (h' := h) (g := true) (by decide +kernel) rfl rfl rfl ?_
        obtain ⟨v_6, h_5, hc_4, hf⟩ := xbd2_inv hf
        refine XcallV hX (mt_m_measure  h hc_4) (rest := []) (by decide) (by decide) xm_X5_measure xi_X5_measure xs_X5_measure xl_RX5_254 (by decide) (xsh_39) rfl rfl rfl (Nat.le_of_ble_eq_true rfl) (by decide +kernel) ?_
        show XW X 28 [(0, .ref 39), (1, .int l1), (2, .int l2)] [.int v_6] h_5
        refine XbrN hX (.ifCond .ne (6)) (tgt := 34) (P := v_6 = (0 : Int32)) (r := []) (by decide +kernel) rfl (by decide) (fun hc_7 => ?_) (fun hc_7 => ?_)
        · replace hf := xif_t hc_7 hf
          refine Xblk hX pkX5_ok [.bipush (-2)] (pc' := 33) (ls' := [(0, .ref 39), (1, .int l1), (2, .int l2)]) (st' := [.int (-2 : Int32)]) (h' := h_5) (g := true) (by decide +kernel) rfl rfl rfl ?_
          exact XrI2 hX hR hf (by decide +kernel)
        · replace hf := xif_f hc_7 hf
          refine Xblk hX pkX5_ok [.aload_n 0] (pc' := 35) (ls' := [(0, .ref 39), (1, .int l1), (2, .int l2)]) (st' := [.ref 39]) (h' := h_5) (g := true) (by decide +kernel) rfl rfl rfl ?_
          obtain ⟨v_10, h_9, hc_8, hf⟩ := xbd2_inv hf
          refine XcallV hX (mt_m_findLate  h_5 hc_8) (rest := []) (by decide) (by decide) xm_X5_findLate xi_X5_findLate xs_X5_findLate xl_RX5_258 (by decide) (xsh_39) rfl rfl rfl (Nat.le_of_ble_eq_true rfl) (by decide +kernel) ?_
          show XW X 38 [(0, .ref 39), (1, .int l1), (2, .int l2)] [.int v_10] h_9
          obtain ⟨hg, hf⟩ := xgd_inv hf
          refine Xblk hX pkX5_ok [.pop, .iload_n 2, .aload_n 0, .getfield 70, .iload_n 1, .iaload] (pc' := 46) (ls' := [(0, .ref 39), (1, .int l1), (2, .int l2)]) (st' := [.int (h_9.1 59 l1.toNatClampNeg), .int l2]) (h' := h_9) (g := (xin l1 2 && true)) (by decide +kernel) rfl rfl hg ?_
          refine Xbr hX (.if_icmp .ge (17)) (tgt := 63) (P := (h_9.1 59 l1.toNatClampNeg) ≤ l2) (r := []) (by decide +kernel) rfl (by decide) (fun hc_12 => ?_) (fun hc_12 => ?_)
          · replace hf := xif_t hc_12 hf
            refine Xblk hX pkX5_ok [.bipush (-9)] (pc' := 65) (ls' := [(0, .ref 39), (1, .int l1), (2, .int l2)]) (st' := [.int (-9 : Int32)]) (h' := h_9) (g := true) (by decide +kernel) rfl rfl rfl ?_
            exact XrI2 hX hR hf (by decide +kernel)
          · replace hf := xif_f hc_12 hf
            obtain ⟨hg, hf⟩ := xgd_inv hf
            refine Xblk hX pkX5_ok [.aload_n 0, .getfield 67, .bipush 6, .iload_n 1, .imul, .iload_n 2, .iadd, .iaload] (pc' := 60) (ls' := [(0, .ref 39), (1, .int l1), (2, .int l2)]) (st' := [.int (h_9.1 58 (((6 : Int32) * l1) + l2).toNatClampNeg)]) (h' := h_9) (g := (xin (((6 : Int32) * l1) + l2) 12 && true)) (by decide +kernel) rfl rfl hg ?_
            refine Xgoto hX (5) 65 (by decide +kernel) (by decide) ?_
            exact XrI2 hX hR hf (by decide +kernel)
    · replace hf := xif_f hc_2 hf
      refine Xblk hX pkX5_ok [.iconst (-1)] (pc' := 13) (ls' := [(0, .ref 39), (1, .int l1), (2, .int l2)]) (st' := [.int (-1 : Int32)]) (h' := h) (g := true) (by decide +kernel) rfl rfl rfl ?_
      exact XrI2 hX hR hf (by decide +kernel)
def f_m_move_43_L_1  (l1 : Int32) (l2 : Int32) (l3 : Int32)  (k : Int32 → Hp → Option (Hp)) : Nat → Int32 → Hp → Option (Hp)
  | 0, _, _ => none
  | n + 1, l4, h =>
    if l1 ≤ l4 then
      k l4 h
    else
      xgd (xin ((l1 * l3) + l4) 18 && (xin ((l1 * l2) + l4) 18 && true)) <|
      (f_m_move_43_L_1 l1 l2 l3 k n) (l4 + (1 : Int32)) (xI h 43 ((l1 * l3) + l4).toNatClampNeg (h.1 43 ((l1 * l2) + l4).toNatClampNeg))
def f_m_move_43 (l1 : Int32) (l2 : Int32) (l3 : Int32) (h : Hp) : Option (Hp) :=
  f_m_move_43_L_1 l1 l2 l3 (fun l4_3 h_4 =>
    some h_4
    ) 1000 (0 : Int32) h
set_option maxRecDepth 100000 in
set_option maxHeartbeats 4000000 in
theorem f_m_move_43_L_1_ok {X : XCtx} (hX : XOk X RX5 cX5_move 5 0 66) {h' : Hp} (hR : XR X none none h')  (l1 : Int32) (l2 : Int32) (l3 : Int32)  (k : Int32 → Hp → Option (Hp))  (hk : ∀ (l4 : Int32) (h : Hp), k l4 h = some h' → XW X 31 [] [] h) : ∀ (n : Nat) (l4 : Int32) (h : Hp), f_m_move_43_L_1 l1 l2 l3 k n l4 h = some h' → XW X 3 [(0, .ref 43), (1, .int l1), (2, .int l2), (3, .int l3), (4, .int l4)] [] h := by
  intro n
  induction n with
  | zero => intro l4 h hf; cases hf
  | succ n ih =>
    intro l4 h hf
    rw [f_m_move_43_L_1] at hf
    refine Xblk hX pkX5_ok [.iload 4, .iload_n 1] (pc' := 6) (ls' := [(0, .ref 43), (1, .int l1), (2, .int l2), (3, .int l3), (4, .int l4)]) (st' := [.int l1, .int l4]) (h' := h) (g := true) (by decide +kernel) rfl rfl rfl ?_
    refine Xbr hX (.if_icmp .ge (25)) (tgt := 31) (P := l1 ≤ l4) (r := []) (by decide +kernel) rfl (by decide) (fun hc_2 => ?_) (fun hc_2 => ?_)
    · replace hf := xif_t hc_2 hf
      refine XW.pick [] (ls' := []) rfl ?_
      exact hk l4 h hf
    · replace hf := xif_f hc_2 hf
      obtain ⟨hg, hf⟩ := xgd_inv hf
      refine Xblk hX pkX5_ok [.aload_n 0, .iload_n 1, .iload_n 3, .imul, .iload 4, .iadd, .aload_n 0, .iload_n 1, .iload_n 2, .imul, .iload 4, .iadd, .iaload, .iastore, .iinc 4 1] (pc' := 28) (ls' := [(4, .int (l4 + (1 : Int32))), (0, .ref 43), (1, .int l1), (2, .int l2), (3, .int l3)]) (st' := []) (h' := (xI h 43 ((l1 * l3) + l4).toNatClampNeg (h.1 43 ((l1 * l2) + l4).toNatClampNeg))) (g := (xin ((l1 * l3) + l4) 18 && (xin ((l1 * l2) + l4) 18 && true))) (by decide +kernel) rfl rfl hg ?_
      refine Xgoto hX (-25) 3 (by decide +kernel) (by decide) ?_
      refine XW.pick [1, 2, 3, 4, 0] (ls' := [(0, .ref 43), (1, .int l1), (2, .int l2), (3, .int l3), (4, .int (l4 + (1 : Int32)))]) rfl ?_
      exact ih (l4 + (1 : Int32)) (xI h 43 ((l1 * l3) + l4).toNatClampNeg (h.1 43 ((l1 * l2) + l4).toNatClampNeg)) hf
set_option maxRecDepth 100000 in
set_option maxHeartbeats 4000000 in
theorem mt_m_move_43 (l1 : Int32) (l2 : Int32) (l3 : Int32) (h : Hp) {h' : Hp} (hf : f_m_move_43 l1 l2 l3 h = some h') : MT 0 66 yX5_move cX5_move 5 none [.ref 43, .int l1, .int l2, .int l3] h none h' := by
  refine MT.of (by decide +kernel) (Nat.le_of_ble_eq_true rfl) fun X hX hR => ?_
  unfold f_m_move_43 at hf
  refine Xblk hX pkX5_ok [.iconst 0, .istore 4] (pc' := 3) (ls' := [(4, .int (0 : Int32)), (0, .ref 43), (1, .int l1), (2, .int l2), (3, .int l3)]) (st' := []) (h' := h) (g := true) (by decide +kernel) rfl rfl rfl ?_
  refine XW.pick [1, 2, 3, 4, 0] (ls' := [(0, .ref 43), (1, .int l1), (2, .int l2), (3, .int l3), (4, .int (0 : Int32))]) rfl ?_
  refine f_m_move_43_L_1_ok hX hR l1 l2 l3 _  (fun l4_3 h_4 hf => ?_) 1000 (0 : Int32) h hf
  exact XrV2 hX hR hf (by decide +kernel)
def f_m_move_44_L_1  (l1 : Int32) (l2 : Int32) (l3 : Int32)  (k : Int32 → Hp → Option (Hp)) : Nat → Int32 → Hp → Option (Hp)
  | 0, _, _ => none
  | n + 1, l4, h =>
    if l1 ≤ l4 then
      k l4 h
    else
      xgd (xin ((l1 * l3) + l4) 18 && (xin ((l1 * l2) + l4) 18 && true)) <|
      (f_m_move_44_L_1 l1 l2 l3 k n) (l4 + (1 : Int32)) (xI h 44 ((l1 * l3) + l4).toNatClampNeg (h.1 44 ((l1 * l2) + l4).toNatClampNeg))
def f_m_move_44 (l1 : Int32) (l2 : Int32) (l3 : Int32) (h : Hp) : Option (Hp) :=
  f_m_move_44_L_1 l1 l2 l3 (fun l4_3 h_4 =>
    some h_4
    ) 1000 (0 : Int32) h
set_option maxRecDepth 100000 in
set_option maxHeartbeats 4000000 in
theorem f_m_move_44_L_1_ok {X : XCtx} (hX : XOk X RX5 cX5_move 5 0 66) {h' : Hp} (hR : XR X none none h')  (l1 : Int32) (l2 : Int32) (l3 : Int32)  (k : Int32 → Hp → Option (Hp))  (hk : ∀ (l4 : Int32) (h : Hp), k l4 h = some h' → XW X 31 [] [] h) : ∀ (n : Nat) (l4 : Int32) (h : Hp), f_m_move_44_L_1 l1 l2 l3 k n l4 h = some h' → XW X 3 [(0, .ref 44), (1, .int l1), (2, .int l2), (3, .int l3), (4, .int l4)] [] h := by
  intro n
  induction n with
  | zero => intro l4 h hf; cases hf
  | succ n ih =>
    intro l4 h hf
    rw [f_m_move_44_L_1] at hf
    refine Xblk hX pkX5_ok [.iload 4, .iload_n 1] (pc' := 6) (ls' := [(0, .ref 44), (1, .int l1), (2, .int l2), (3, .int l3), (4, .int l4)]) (st' := [.int l1, .int l4]) (h' := h) (g := true) (by decide +kernel) rfl rfl rfl ?_
    refine Xbr hX (.if_icmp .ge (25)) (tgt := 31) (P := l1 ≤ l4) (r := []) (by decide +kernel) rfl (by decide) (fun hc_2 => ?_) (fun hc_2 => ?_)
    · replace hf := xif_t hc_2 hf
      refine XW.pick [] (ls' := []) rfl ?_
      exact hk l4 h hf
    · replace hf := xif_f hc_2 hf
      obtain ⟨hg, hf⟩ := xgd_inv hf
      refine Xblk hX pkX5_ok [.aload_n 0, .iload_n 1, .iload_n 3, .imul, .iload 4, .iadd, .aload_n 0, .iload_n 1, .iload_n 2, .imul, .iload 4, .iadd, .iaload, .iastore, .iinc 4 1] (pc' := 28) (ls' := [(4, .int (l4 + (1 : Int32))), (0, .ref 44), (1, .int l1), (2, .int l2), (3, .int l3)]) (st' := []) (h' := (xI h 44 ((l1 * l3) + l4).toNatClampNeg (h.1 44 ((l1 * l2) + l4).toNatClampNeg))) (g := (xin ((l1 * l3) + l4) 18 && (xin ((l1 * l2) + l4) 18 && true))) (by decide +kernel) rfl rfl hg ?_
      refine Xgoto hX (-25) 3 (by decide +kernel) (by decide) ?_
      refine XW.pick [1, 2, 3, 4, 0] (ls' := [(0, .ref 44), (1, .int l1), (2, .int l2), (3, .int l3), (4, .int (l4 + (1 : Int32)))]) rfl ?_
      exact ih (l4 + (1 : Int32)) (xI h 44 ((l1 * l3) + l4).toNatClampNeg (h.1 44 ((l1 * l2) + l4).toNatClampNeg)) hf
set_option maxRecDepth 100000 in
set_option maxHeartbeats 4000000 in
theorem mt_m_move_44 (l1 : Int32) (l2 : Int32) (l3 : Int32) (h : Hp) {h' : Hp} (hf : f_m_move_44 l1 l2 l3 h = some h') : MT 0 66 yX5_move cX5_move 5 none [.ref 44, .int l1, .int l2, .int l3] h none h' := by
  refine MT.of (by decide +kernel) (Nat.le_of_ble_eq_true rfl) fun X hX hR => ?_
  unfold f_m_move_44 at hf
  refine Xblk hX pkX5_ok [.iconst 0, .istore 4] (pc' := 3) (ls' := [(4, .int (0 : Int32)), (0, .ref 44), (1, .int l1), (2, .int l2), (3, .int l3)]) (st' := []) (h' := h) (g := true) (by decide +kernel) rfl rfl rfl ?_
  refine XW.pick [1, 2, 3, 4, 0] (ls' := [(0, .ref 44), (1, .int l1), (2, .int l2), (3, .int l3), (4, .int (0 : Int32))]) rfl ?_
  refine f_m_move_44_L_1_ok hX hR l1 l2 l3 _  (fun l4_3 h_4 hf => ?_) 1000 (0 : Int32) h hf
  exact XrV2 hX hR hf (by decide +kernel)
def f_m_move_45_L_1  (l1 : Int32) (l2 : Int32) (l3 : Int32)  (k : Int32 → Hp → Option (Hp)) : Nat → Int32 → Hp → Option (Hp)
  | 0, _, _ => none
  | n + 1, l4, h =>
    if l1 ≤ l4 then
      k l4 h
    else
      xgd (xin ((l1 * l3) + l4) 6 && (xin ((l1 * l2) + l4) 6 && true)) <|
      (f_m_move_45_L_1 l1 l2 l3 k n) (l4 + (1 : Int32)) (xI h 45 ((l1 * l3) + l4).toNatClampNeg (h.1 45 ((l1 * l2) + l4).toNatClampNeg))
def f_m_move_45 (l1 : Int32) (l2 : Int32) (l3 : Int32) (h : Hp) : Option (Hp) :=
  f_m_move_45_L_1 l1 l2 l3 (fun l4_3 h_4 =>
    some h_4
    ) 1000 (0 : Int32) h
set_option maxRecDepth 100000 in
set_option maxHeartbeats 4000000 in
theorem f_m_move_45_L_1_ok {X : XCtx} (hX : XOk X RX5 cX5_move 5 0 66) {h' : Hp} (hR : XR X none none h')  (l1 : Int32) (l2 : Int32) (l3 : Int32)  (k : Int32 → Hp → Option (Hp))  (hk : ∀ (l4 : Int32) (h : Hp), k l4 h = some h' → XW X 31 [] [] h) : ∀ (n : Nat) (l4 : Int32) (h : Hp), f_m_move_45_L_1 l1 l2 l3 k n l4 h = some h' → XW X 3 [(0, .ref 45), (1, .int l1), (2, .int l2), (3, .int l3), (4, .int l4)] [] h := by
  intro n
  induction n with
  | zero => intro l4 h hf; cases hf
  | succ n ih =>
    intro l4 h hf
    rw [f_m_move_45_L_1] at hf
    refine Xblk hX pkX5_ok [.iload 4, .iload_n 1] (pc' := 6) (ls' := [(0, .ref 45), (1, .int l1), (2, .int l2), (3, .int l3), (4, .int l4)]) (st' := [.int l1, .int l4]) (h' := h) (g := true) (by decide +kernel) rfl rfl rfl ?_
    refine Xbr hX (.if_icmp .ge (25)) (tgt := 31) (P := l1 ≤ l4) (r := []) (by decide +kernel) rfl (by decide) (fun hc_2 => ?_) (fun hc_2 => ?_)
    · replace hf := xif_t hc_2 hf
      refine XW.pick [] (ls' := []) rfl ?_
      exact hk l4 h hf
    · replace hf := xif_f hc_2 hf
      obtain ⟨hg, hf⟩ := xgd_inv hf
      refine Xblk hX pkX5_ok [.aload_n 0, .iload_n 1, .iload_n 3, .imul, .iload 4, .iadd, .aload_n 0, .iload_n 1, .iload_n 2, .imul, .iload 4, .iadd, .iaload, .iastore, .iinc 4 1] (pc' := 28) (ls' := [(4, .int (l4 + (1 : Int32))), (0, .ref 45), (1, .int l1), (2, .int l2), (3, .int l3)]) (st' := []) (h' := (xI h 45 ((l1 * l3) + l4).toNatClampNeg (h.1 45 ((l1 * l2) + l4).toNatClampNeg))) (g := (xin ((l1 * l3) + l4) 6 && (xin ((l1 * l2) + l4) 6 && true))) (by decide +kernel) rfl rfl hg ?_
      refine Xgoto hX (-25) 3 (by decide +kernel) (by decide) ?_
      refine XW.pick [1, 2, 3, 4, 0] (ls' := [(0, .ref 45), (1, .int l1), (2, .int l2), (3, .int l3), (4, .int (l4 + (1 : Int32)))]) rfl ?_
      exact ih (l4 + (1 : Int32)) (xI h 45 ((l1 * l3) + l4).toNatClampNeg (h.1 45 ((l1 * l2) + l4).toNatClampNeg)) hf
set_option maxRecDepth 100000 in
set_option maxHeartbeats 4000000 in
theorem mt_m_move_45 (l1 : Int32) (l2 : Int32) (l3 : Int32) (h : Hp) {h' : Hp} (hf : f_m_move_45 l1 l2 l3 h = some h') : MT 0 66 yX5_move cX5_move 5 none [.ref 45, .int l1, .int l2, .int l3] h none h' := by
  refine MT.of (by decide +kernel) (Nat.le_of_ble_eq_true rfl) fun X hX hR => ?_
  unfold f_m_move_45 at hf
  refine Xblk hX pkX5_ok [.iconst 0, .istore 4] (pc' := 3) (ls' := [(4, .int (0 : Int32)), (0, .ref 45), (1, .int l1), (2, .int l2), (3, .int l3)]) (st' := []) (h' := h) (g := true) (by decide +kernel) rfl rfl rfl ?_
  refine XW.pick [1, 2, 3, 4, 0] (ls' := [(0, .ref 45), (1, .int l1), (2, .int l2), (3, .int l3), (4, .int (0 : Int32))]) rfl ?_
  refine f_m_move_45_L_1_ok hX hR l1 l2 l3 _  (fun l4_3 h_4 hf => ?_) 1000 (0 : Int32) h hf
  exact XrV2 hX hR hf (by decide +kernel)
def f_m_move_46_L_1  (l1 : Int32) (l2 : Int32) (l3 : Int32)  (k : Int32 → Hp → Option (Hp)) : Nat → Int32 → Hp → Option (Hp)
  | 0, _, _ => none
  | n + 1, l4, h =>
    if l1 ≤ l4 then
      k l4 h
    else
      xgd (xin ((l1 * l3) + l4) 6 && (xin ((l1 * l2) + l4) 6 && true)) <|
      (f_m_move_46_L_1 l1 l2 l3 k n) (l4 + (1 : Int32)) (xI h 46 ((l1 * l3) + l4).toNatClampNeg (h.1 46 ((l1 * l2) + l4).toNatClampNeg))
def f_m_move_46 (l1 : Int32) (l2 : Int32) (l3 : Int32) (h : Hp) : Option (Hp) :=
  f_m_move_46_L_1 l1 l2 l3 (fun l4_3 h_4 =>
    some h_4
    ) 1000 (0 : Int32) h
set_option maxRecDepth 100000 in
set_option maxHeartbeats 4000000 in
theorem f_m_move_46_L_1_ok {X : XCtx} (hX : XOk X RX5 cX5_move 5 0 66) {h' : Hp} (hR : XR X none none h')  (l1 : Int32) (l2 : Int32) (l3 : Int32)  (k : Int32 → Hp → Option (Hp))  (hk : ∀ (l4 : Int32) (h : Hp), k l4 h = some h' → XW X 31 [] [] h) : ∀ (n : Nat) (l4 : Int32) (h : Hp), f_m_move_46_L_1 l1 l2 l3 k n l4 h = some h' → XW X 3 [(0, .ref 46), (1, .int l1), (2, .int l2), (3, .int l3), (4, .int l4)] [] h := by
  intro n
  induction n with
  | zero => intro l4 h hf; cases hf
  | succ n ih =>
    intro l4 h hf
    rw [f_m_move_46_L_1] at hf
    refine Xblk hX pkX5_ok [.iload 4, .iload_n 1] (pc' := 6) (ls' := [(0, .ref 46), (1, .int l1), (2, .int l2), (3, .int l3), (4, .int l4)]) (st' := [.int l1, .int l4]) (h' := h) (g := true) (by decide +kernel) rfl rfl rfl ?_
    refine Xbr hX (.if_icmp .ge (25)) (tgt := 31) (P := l1 ≤ l4) (r := []) (by decide +kernel) rfl (by decide) (fun hc_2 => ?_) (fun hc_2 => ?_)
    · replace hf := xif_t hc_2 hf
      refine XW.pick [] (ls' := []) rfl ?_
      exact hk l4 h hf
    · replace hf := xif_f hc_2 hf
      obtain ⟨hg, hf⟩ := xgd_inv hf
      refine Xblk hX pkX5_ok [.aload_n 0, .iload_n 1, .iload_n 3, .imul, .iload 4, .iadd, .aload_n 0, .iload_n 1, .iload_n 2, .imul, .iload 4, .iadd, .iaload, .iastore, .iinc 4 1] (pc' := 28) (ls' := [(4, .int (l4 + (1 : Int32))), (0, .ref 46), (1, .int l1), (2, .int l2), (3, .int l3)]) (st' := []) (h' := (xI h 46 ((l1 * l3) + l4).toNatClampNeg (h.1 46 ((l1 * l2) + l4).toNatClampNeg))) (g := (xin ((l1 * l3) + l4) 6 && (xin ((l1 * l2) + l4) 6 && true))) (by decide +kernel) rfl rfl hg ?_
      refine Xgoto hX (-25) 3 (by decide +kernel) (by decide) ?_
      refine XW.pick [1, 2, 3, 4, 0] (ls' := [(0, .ref 46), (1, .int l1), (2, .int l2), (3, .int l3), (4, .int (l4 + (1 : Int32)))]) rfl ?_
      exact ih (l4 + (1 : Int32)) (xI h 46 ((l1 * l3) + l4).toNatClampNeg (h.1 46 ((l1 * l2) + l4).toNatClampNeg)) hf
set_option maxRecDepth 100000 in
set_option maxHeartbeats 4000000 in
theorem mt_m_move_46 (l1 : Int32) (l2 : Int32) (l3 : Int32) (h : Hp) {h' : Hp} (hf : f_m_move_46 l1 l2 l3 h = some h') : MT 0 66 yX5_move cX5_move 5 none [.ref 46, .int l1, .int l2, .int l3] h none h' := by
  refine MT.of (by decide +kernel) (Nat.le_of_ble_eq_true rfl) fun X hX hR => ?_
  unfold f_m_move_46 at hf
  refine Xblk hX pkX5_ok [.iconst 0, .istore 4] (pc' := 3) (ls' := [(4, .int (0 : Int32)), (0, .ref 46), (1, .int l1), (2, .int l2), (3, .int l3)]) (st' := []) (h' := h) (g := true) (by decide +kernel) rfl rfl rfl ?_
  refine XW.pick [1, 2, 3, 4, 0] (ls' := [(0, .ref 46), (1, .int l1), (2, .int l2), (3, .int l3), (4, .int (0 : Int32))]) rfl ?_
  refine f_m_move_46_L_1_ok hX hR l1 l2 l3 _  (fun l4_3 h_4 hf => ?_) 1000 (0 : Int32) h hf
  exact XrV2 hX hR hf (by decide +kernel)
def f_m_move_47_L_1  (l1 : Int32) (l2 : Int32) (l3 : Int32)  (k : Int32 → Hp → Option (Hp)) : Nat → Int32 → Hp → Option (Hp)
  | 0, _, _ => none
  | n + 1, l4, h =>
    if l1 ≤ l4 then
      k l4 h
    else
      xgd (xin ((l1 * l3) + l4) 384 && (xin ((l1 * l2) + l4) 384 && true)) <|
      (f_m_move_47_L_1 l1 l2 l3 k n) (l4 + (1 : Int32)) (xI h 47 ((l1 * l3) + l4).toNatClampNeg (h.1 47 ((l1 * l2) + l4).toNatClampNeg))
def f_m_move_47 (l1 : Int32) (l2 : Int32) (l3 : Int32) (h : Hp) : Option (Hp) :=
  f_m_move_47_L_1 l1 l2 l3 (fun l4_3 h_4 =>
    some h_4
    ) 1000 (0 : Int32) h
set_option maxRecDepth 100000 in
set_option maxHeartbeats 4000000 in
theorem f_m_move_47_L_1_ok {X : XCtx} (hX : XOk X RX5 cX5_move 5 0 66) {h' : Hp} (hR : XR X none none h')  (l1 : Int32) (l2 : Int32) (l3 : Int32)  (k : Int32 → Hp → Option (Hp))  (hk : ∀ (l4 : Int32) (h : Hp), k l4 h = some h' → XW X 31 [] [] h) : ∀ (n : Nat) (l4 : Int32) (h : Hp), f_m_move_47_L_1 l1 l2 l3 k n l4 h = some h' → XW X 3 [(0, .ref 47), (1, .int l1), (2, .int l2), (3, .int l3), (4, .int l4)] [] h := by
  intro n
  induction n with
  | zero => intro l4 h hf; cases hf
  | succ n ih =>
    intro l4 h hf
    rw [f_m_move_47_L_1] at hf
    refine Xblk hX pkX5_ok [.iload 4, .iload_n 1] (pc' := 6) (ls' := [(0, .ref 47), (1, .int l1), (2, .int l2), (3, .int l3), (4, .int l4)]) (st' := [.int l1, .int l4]) (h' := h) (g := true) (by decide +kernel) rfl rfl rfl ?_
    refine Xbr hX (.if_icmp .ge (25)) (tgt := 31) (P := l1 ≤ l4) (r := []) (by decide +kernel) rfl (by decide) (fun hc_2 => ?_) (fun hc_2 => ?_)
    · replace hf := xif_t hc_2 hf
      refine XW.pick [] (ls' := []) rfl ?_
      exact hk l4 h hf
    · replace hf := xif_f hc_2 hf
      obtain ⟨hg, hf⟩ := xgd_inv hf
      refine Xblk hX pkX5_ok [.aload_n 0, .iload_n 1, .iload_n 3, .imul, .iload 4, .iadd, .aload_n 0, .iload_n 1, .iload_n 2, .imul, .iload 4, .iadd, .iaload, .iastore, .iinc 4 1] (pc' := 28) (ls' := [(4, .int (l4 + (1 : Int32))), (0, .ref 47), (1, .int l1), (2, .int l2), (3, .int l3)]) (st' := []) (h' := (xI h 47 ((l1 * l3) + l4).toNatClampNeg (h.1 47 ((l1 * l2) + l4).toNatClampNeg))) (g := (xin ((l1 * l3) + l4) 384 && (xin ((l1 * l2) + l4) 384 && true))) (by decide +kernel) rfl rfl hg ?_
      refine Xgoto hX (-25) 3 (by decide +kernel) (by decide) ?_
      refine XW.pick [1, 2, 3, 4, 0] (ls' := [(0, .ref 47), (1, .int l1), (2, .int l2), (3, .int l3), (4, .int (l4 + (1 : Int32)))]) rfl ?_
      exact ih (l4 + (1 : Int32)) (xI h 47 ((l1 * l3) + l4).toNatClampNeg (h.1 47 ((l1 * l2) + l4).toNatClampNeg)) hf
set_option maxRecDepth 100000 in
set_option maxHeartbeats 4000000 in
theorem mt_m_move_47 (l1 : Int32) (l2 : Int32) (l3 : Int32) (h : Hp) {h' : Hp} (hf : f_m_move_47 l1 l2 l3 h = some h') : MT 0 66 yX5_move cX5_move 5 none [.ref 47, .int l1, .int l2, .int l3] h none h' := by
  refine MT.of (by decide +kernel) (Nat.le_of_ble_eq_true rfl) fun X hX hR => ?_
  unfold f_m_move_47 at hf
  refine Xblk hX pkX5_ok [.iconst 0, .istore 4] (pc' := 3) (ls' := [(4, .int (0 : Int32)), (0, .ref 47), (1, .int l1), (2, .int l2), (3, .int l3)]) (st' := []) (h' := h) (g := true) (by decide +kernel) rfl rfl rfl ?_
  refine XW.pick [1, 2, 3, 4, 0] (ls' := [(0, .ref 47), (1, .int l1), (2, .int l2), (3, .int l3), (4, .int (0 : Int32))]) rfl ?_
  refine f_m_move_47_L_1_ok hX hR l1 l2 l3 _  (fun l4_3 h_4 hf => ?_) 1000 (0 : Int32) h hf
  exact XrV2 hX hR hf (by decide +kernel)
def f_m_move_48_L_1  (l1 : Int32) (l2 : Int32) (l3 : Int32)  (k : Int32 → Hp → Option (Hp)) : Nat → Int32 → Hp → Option (Hp)
  | 0, _, _ => none
  | n + 1, l4, h =>
    if l1 ≤ l4 then
      k l4 h
    else
      xgd (xin ((l1 * l3) + l4) 1500 && (xin ((l1 * l2) + l4) 1500 && true)) <|
      (f_m_move_48_L_1 l1 l2 l3 k n) (l4 + (1 : Int32)) (xI h 48 ((l1 * l3) + l4).toNatClampNeg (h.1 48 ((l1 * l2) + l4).toNatClampNeg))
def f_m_move_48 (l1 : Int32) (l2 : Int32) (l3 : Int32) (h : Hp) : Option (Hp) :=
  f_m_move_48_L_1 l1 l2 l3 (fun l4_3 h_4 =>
    some h_4
    ) 1000 (0 : Int32) h
set_option maxRecDepth 100000 in
set_option maxHeartbeats 4000000 in
theorem f_m_move_48_L_1_ok {X : XCtx} (hX : XOk X RX5 cX5_move 5 0 66) {h' : Hp} (hR : XR X none none h')  (l1 : Int32) (l2 : Int32) (l3 : Int32)  (k : Int32 → Hp → Option (Hp))  (hk : ∀ (l4 : Int32) (h : Hp), k l4 h = some h' → XW X 31 [] [] h) : ∀ (n : Nat) (l4 : Int32) (h : Hp), f_m_move_48_L_1 l1 l2 l3 k n l4 h = some h' → XW X 3 [(0, .ref 48), (1, .int l1), (2, .int l2), (3, .int l3), (4, .int l4)] [] h := by
  intro n
  induction n with
  | zero => intro l4 h hf; cases hf
  | succ n ih =>
    intro l4 h hf
    rw [f_m_move_48_L_1] at hf
    refine Xblk hX pkX5_ok [.iload 4, .iload_n 1] (pc' := 6) (ls' := [(0, .ref 48), (1, .int l1), (2, .int l2), (3, .int l3), (4, .int l4)]) (st' := [.int l1, .int l4]) (h' := h) (g := true) (by decide +kernel) rfl rfl rfl ?_
    refine Xbr hX (.if_icmp .ge (25)) (tgt := 31) (P := l1 ≤ l4) (r := []) (by decide +kernel) rfl (by decide) (fun hc_2 => ?_) (fun hc_2 => ?_)
    · replace hf := xif_t hc_2 hf
      refine XW.pick [] (ls' := []) rfl ?_
      exact hk l4 h hf
    · replace hf := xif_f hc_2 hf
      obtain ⟨hg, hf⟩ := xgd_inv hf
      refine Xblk hX pkX5_ok [.aload_n 0, .iload_n 1, .iload_n 3, .imul, .iload 4, .iadd, .aload_n 0, .iload_n 1, .iload_n 2, .imul, .iload 4, .iadd, .iaload, .iastore, .iinc 4 1] (pc' := 28) (ls' := [(4, .int (l4 + (1 : Int32))), (0, .ref 48), (1, .int l1), (2, .int l2), (3, .int l3)]) (st' := []) (h' := (xI h 48 ((l1 * l3) + l4).toNatClampNeg (h.1 48 ((l1 * l2) + l4).toNatClampNeg))) (g := (xin ((l1 * l3) + l4) 1500 && (xin ((l1 * l2) + l4) 1500 && true))) (by decide +kernel) rfl rfl hg ?_
      refine Xgoto hX (-25) 3 (by decide +kernel) (by decide) ?_
      refine XW.pick [1, 2, 3, 4, 0] (ls' := [(0, .ref 48), (1, .int l1), (2, .int l2), (3, .int l3), (4, .int (l4 + (1 : Int32)))]) rfl ?_
      exact ih (l4 + (1 : Int32)) (xI h 48 ((l1 * l3) + l4).toNatClampNeg (h.1 48 ((l1 * l2) + l4).toNatClampNeg)) hf
set_option maxRecDepth 100000 in
set_option maxHeartbeats 4000000 in
theorem mt_m_move_48 (l1 : Int32) (l2 : Int32) (l3 : Int32) (h : Hp) {h' : Hp} (hf : f_m_move_48 l1 l2 l3 h = some h') : MT 0 66 yX5_move cX5_move 5 none [.ref 48, .int l1, .int l2, .int l3] h none h' := by
  refine MT.of (by decide +kernel) (Nat.le_of_ble_eq_true rfl) fun X hX hR => ?_
  unfold f_m_move_48 at hf
  refine Xblk hX pkX5_ok [.iconst 0, .istore 4] (pc' := 3) (ls' := [(4, .int (0 : Int32)), (0, .ref 48), (1, .int l1), (2, .int l2), (3, .int l3)]) (st' := []) (h' := h) (g := true) (by decide +kernel) rfl rfl rfl ?_
  refine XW.pick [1, 2, 3, 4, 0] (ls' := [(0, .ref 48), (1, .int l1), (2, .int l2), (3, .int l3), (4, .int (0 : Int32))]) rfl ?_
  refine f_m_move_48_L_1_ok hX hR l1 l2 l3 _  (fun l4_3 h_4 hf => ?_) 1000 (0 : Int32) h hf
  exact XrV2 hX hR hf (by decide +kernel)
def f_m_moveAll (l1 : Int32) (l2 : Int32) (h : Hp) : Option (Hp) :=
  xbd1 (f_m_move_43 (6 : Int32) l1 l2 h) fun h_2 =>
  xbd1 (f_m_move_44 (6 : Int32) l1 l2 h_2) fun h_4 =>
  xbd1 (f_m_move_45 (2 : Int32) l1 l2 h_4) fun h_6 =>
  xbd1 (f_m_move_46 (2 : Int32) l1 l2 h_6) fun h_8 =>
  xbd1 (f_m_move_47 (128 : Int32) l1 l2 h_8) fun h_10 =>
  xbd1 (f_m_move_48 (500 : Int32) l1 l2 h_10) fun h_12 =>
  some h_12
set_option maxRecDepth 100000 in
set_option maxHeartbeats 4000000 in
theorem mt_m_moveAll (l1 : Int32) (l2 : Int32) (h : Hp) {h' : Hp} (hf : f_m_moveAll l1 l2 h = some h') : MT 1 66 yX5_moveAll cX5_moveAll 3 none [.ref 39, .int l1, .int l2] h none h' := by
  refine MT.of (by decide +kernel) (Nat.le_of_ble_eq_true rfl) fun X hX hR => ?_
  unfold f_m_moveAll at hf
  refine Xblk hX pkX5_ok [.aload_n 0, .getfield 20, .bipush 6, .iload_n 1, .iload_n 2] (pc' := 8) (ls' := [(0, .ref 39), (1, .int l1), (2, .int l2)]) (st' := [.int l2, .int l1, .int (6 : Int32), .ref 43]) (h' := h) (g := true) (by decide +kernel) rfl rfl rfl ?_
  obtain ⟨h_2, hc_1, hf⟩ := xbd1_inv hf
  refine XcallS hX (mt_m_move_43 (6 : Int32) l1 l2 h hc_1) (rest := []) (by decide) (by decide) xm_X5_move xi_X5_move xl_RX5_261 rfl (Nat.le_of_ble_eq_true rfl) (by decide +kernel) ?_
  show XW X 11 [(0, .ref 39), (1, .int l1), (2, .int l2)] [] h_2
  refine Xblk hX pkX5_ok [.aload_n 0, .getfield 23, .bipush 6, .iload_n 1, .iload_n 2] (pc' := 19) (ls' := [(0, .ref 39), (1, .int l1), (2, .int l2)]) (st' := [.int l2, .int l1, .int (6 : Int32), .ref 44]) (h' := h_2) (g := true) (by decide +kernel) rfl rfl rfl ?_
  obtain ⟨h_4, hc_3, hf⟩ := xbd1_inv hf
  refine XcallS hX (mt_m_move_44 (6 : Int32) l1 l2 h_2 hc_3) (rest := []) (by decide) (by decide) xm_X5_move xi_X5_move xl_RX5_261 rfl (Nat.le_of_ble_eq_true rfl) (by decide +kernel) ?_
  show XW X 22 [(0, .ref 39), (1, .int l1), (2, .int l2)] [] h_4
  refine Xblk hX pkX5_ok [.aload_n 0, .getfield 26, .iconst 2, .iload_n 1, .iload_n 2] (pc' := 29) (ls' := [(0, .ref 39), (1, .int l1), (2, .int l2)]) (st' := [.int l2, .int l1, .int (2 : Int32), .ref 45]) (h' := h_4) (g := true) (by decide +kernel) rfl rfl rfl ?_
  obtain ⟨h_6, hc_5, hf⟩ := xbd1_inv hf
  refine XcallS hX (mt_m_move_45 (2 : Int32) l1 l2 h_4 hc_5) (rest := []) (by decide) (by decide) xm_X5_move xi_X5_move xl_RX5_261 rfl (Nat.le_of_ble_eq_true rfl) (by decide +kernel) ?_
  show XW X 32 [(0, .ref 39), (1, .int l1), (2, .int l2)] [] h_6
  refine Xblk hX pkX5_ok [.aload_n 0, .getfield 29, .iconst 2, .iload_n 1, .iload_n 2] (pc' := 39) (ls' := [(0, .ref 39), (1, .int l1), (2, .int l2)]) (st' := [.int l2, .int l1, .int (2 : Int32), .ref 46]) (h' := h_6) (g := true) (by decide +kernel) rfl rfl rfl ?_
  obtain ⟨h_8, hc_7, hf⟩ := xbd1_inv hf
  refine XcallS hX (mt_m_move_46 (2 : Int32) l1 l2 h_6 hc_7) (rest := []) (by decide) (by decide) xm_X5_move xi_X5_move xl_RX5_261 rfl (Nat.le_of_ble_eq_true rfl) (by decide +kernel) ?_
  show XW X 42 [(0, .ref 39), (1, .int l1), (2, .int l2)] [] h_8
  refine Xblk hX pkX5_ok [.aload_n 0, .getfield 32, .sipush 128, .iload_n 1, .iload_n 2] (pc' := 51) (ls' := [(0, .ref 39), (1, .int l1), (2, .int l2)]) (st' := [.int l2, .int l1, .int (128 : Int32), .ref 47]) (h' := h_8) (g := true) (by decide +kernel) rfl rfl rfl ?_
  obtain ⟨h_10, hc_9, hf⟩ := xbd1_inv hf
  refine XcallS hX (mt_m_move_47 (128 : Int32) l1 l2 h_8 hc_9) (rest := []) (by decide) (by decide) xm_X5_move xi_X5_move xl_RX5_261 rfl (Nat.le_of_ble_eq_true rfl) (by decide +kernel) ?_
  show XW X 54 [(0, .ref 39), (1, .int l1), (2, .int l2)] [] h_10
  refine Xblk hX pkX5_ok [.aload_n 0, .getfield 35, .sipush 500, .iload_n 1, .iload_n 2] (pc' := 63) (ls' := [(0, .ref 39), (1, .int l1), (2, .int l2)]) (st' := [.int l2, .int l1, .int (500 : Int32), .ref 48]) (h' := h_10) (g := true) (by decide +kernel) rfl rfl rfl ?_
  obtain ⟨h_12, hc_11, hf⟩ := xbd1_inv hf
  refine XcallS hX (mt_m_move_48 (500 : Int32) l1 l2 h_10 hc_11) (rest := []) (by decide) (by decide) xm_X5_move xi_X5_move xl_RX5_261 rfl (Nat.le_of_ble_eq_true rfl) (by decide +kernel) ?_
  show XW X 66 [(0, .ref 39), (1, .int l1), (2, .int l2)] [] h_12
  exact XrV2 hX hR hf (by decide +kernel)
def f_m_keep (l1 : Int32) (h : Hp) : Option (Int32 × Hp) :=
  if (f_m_in l1 (0 : Int32) (1 : Int32)) = (0 : Int32) then
    some ((-1 : Int32), h)
  else
    xbd1 (f_m_moveAll (0 : Int32) ((1 : Int32) + l1) h) fun h_3 =>
    xgd (xin l1 2 && (xin l1 2 && (xin l1 2 && (xin l1 2 && (xin l1 2 && true))))) <|
    some ((h_3.1 39 19), (xI (xI (xI (xI (xI h_3 62 l1.toNatClampNeg (h_3.1 39 12)) 63 l1.toNatClampNeg (h_3.1 39 15)) 64 l1.toNatClampNeg (h_3.1 39 19)) 65 l1.toNatClampNeg (h_3.1 39 20)) 61 l1.toNatClampNeg (vp_nar .boolean (1 : Int32))))
set_option maxRecDepth 100000 in
set_option maxHeartbeats 4000000 in
theorem mt_m_keep (l1 : Int32) (h : Hp) {r : Int32} {h' : Hp} (hf : f_m_keep l1 h = some (r, h')) : MT 2 66 yX5_keep cX5_keep 2 (some .int) [.ref 39, .int l1] h (some (.int r)) h' := by
  refine MT.of (by decide +kernel) (Nat.le_of_ble_eq_true rfl) fun X hX hR => ?_
  unfold f_m_keep at hf
  refine Xblk hX pkX5_ok [.iload_n 1, .iconst 0, .iconst 1] (pc' := 3) (ls' := [(0, .ref 39), (1, .int l1)]) (st' := [.int (1 : Int32), .int (0 : Int32), .int l1]) (h' := h) (g := true) (by decide +kernel) rfl rfl rfl ?_
  refine XcallS hX (mt_m_in l1 (0 : Int32) (1 : Int32) h) (rest := []) (by decide) (by decide) xm_X5_in xi_X5_in xl_RX5_107 rfl (Nat.le_of_ble_eq_true rfl) (by decide +kernel) ?_
  show XW X 6 [(0, .ref 39), (1, .int l1)] [.int (f_m_in l1 (0 : Int32) (1 : Int32))] h
  refine XbrN hX (.ifCond .ne (5)) (tgt := 11) (P := (f_m_in l1 (0 : Int32) (1 : Int32)) = (0 : Int32)) (r := []) (by decide +kernel) rfl (by decide) (fun hc_1 => ?_) (fun hc_1 => ?_)
  · replace hf := xif_t hc_1 hf
    refine Xblk hX pkX5_ok [.iconst (-1)] (pc' := 10) (ls' := [(0, .ref 39), (1, .int l1)]) (st' := [.int (-1 : Int32)]) (h' := h) (g := true) (by decide +kernel) rfl rfl rfl ?_
    exact XrI2 hX hR hf (by decide +kernel)
  · replace hf := xif_f hc_1 hf
    refine Xblk hX pkX5_ok [.aload_n 0, .iconst 0, .iconst 1, .iload_n 1, .iadd] (pc' := 16) (ls' := [(0, .ref 39), (1, .int l1)]) (st' := [.int ((1 : Int32) + l1), .int (0 : Int32), .ref 39]) (h' := h) (g := true) (by decide +kernel) rfl rfl rfl ?_
    obtain ⟨h_3, hc_2, hf⟩ := xbd1_inv hf
    refine XcallV hX (mt_m_moveAll (0 : Int32) ((1 : Int32) + l1) h hc_2) (rest := []) (by decide) (by decide) xm_X5_moveAll xi_X5_moveAll xs_X5_moveAll xl_RX5_265 (by decide) (xsh_39) rfl rfl rfl (Nat.le_of_ble_eq_true rfl) (by decide +kernel) ?_
    show XW X 19 [(0, .ref 39), (1, .int l1)] [] h_3
    obtain ⟨hg, hf⟩ := xgd_inv hf
    refine Xblk hX pkX5_ok [.aload_n 0, .getfield 79, .iload_n 1, .aload_n 0, .getfield 129, .iastore, .aload_n 0, .getfield 82, .iload_n 1, .aload_n 0, .getfield 132, .iastore, .aload_n 0, .getfield 85, .iload_n 1, .aload_n 0, .getfield 141, .iastore, .aload_n 0, .getfield 88, .iload_n 1, .aload_n 0, .getfield 138, .iastore, .aload_n 0, .getfield 76, .iload_n 1, .iconst 1, .bastore, .aload_n 0, .getfield 141] (pc' := 70) (ls' := [(0, .ref 39), (1, .int l1)]) (st' := [.int (h_3.1 39 19)]) (h' := (xI (xI (xI (xI (xI h_3 62 l1.toNatClampNeg (h_3.1 39 12)) 63 l1.toNatClampNeg (h_3.1 39 15)) 64 l1.toNatClampNeg (h_3.1 39 19)) 65 l1.toNatClampNeg (h_3.1 39 20)) 61 l1.toNatClampNeg (vp_nar .boolean (1 : Int32)))) (g := (xin l1 2 && (xin l1 2 && (xin l1 2 && (xin l1 2 && (xin l1 2 && true)))))) (by decide +kernel) rfl rfl hg ?_
    exact XrI2 hX hR hf (by decide +kernel)
def f_m_back_L_2  (l1 : Int32) (h : Hp) (k : Int32 → Int32 → Option (Int32 × Hp)) : Nat → Int32 → Int32 → Option (Int32 × Hp)
  | 0, _, _ => none
  | n + 1, l2, l3 =>
    xgd (xin l1 2 && true) <|
    if (h.1 62 l1.toNatClampNeg) ≤ l3 then
      k l2 l3
    else
      if l2 = (0 : Int32) then
        k l2 l3
      else
        xgd (xin (((6 : Int32) * ((1 : Int32) + l1)) + l3) 18 && true) <|
        (f_m_back_L_2 l1 h k n) (f_m_isFree (h.1 43 (((6 : Int32) * ((1 : Int32) + l1)) + l3).toNatClampNeg) h) (l3 + (1 : Int32))
def f_m_back_L_8  (l1 : Int32) (h : Hp) (k : Int32 → Int32 → Option (Int32 × Hp)) : Nat → Int32 → Int32 → Option (Int32 × Hp)
  | 0, _, _ => none
  | n + 1, l2, l3 =>
    xgd (xin l1 2 && true) <|
    if (h.1 63 l1.toNatClampNeg) ≤ l3 then
      k l2 l3
    else
      if l2 = (0 : Int32) then
        k l2 l3
      else
        xgd (xin (((2 : Int32) * ((1 : Int32) + l1)) + l3) 6 && true) <|
        (f_m_back_L_8 l1 h k n) (f_m_isFree (h.1 45 (((2 : Int32) * ((1 : Int32) + l1)) + l3).toNatClampNeg) h) (l3 + (1 : Int32))
def f_m_back_j_13  (l1 : Int32) (l2 : Int32) (h : Hp) : Option (Int32 × Hp) :=
  if l2 = (0 : Int32) then
    some ((-2 : Int32), h)
  else
    xbd1 (f_m_moveAll ((1 : Int32) + l1) (0 : Int32) h) fun h_16 =>
    xgd (xin l1 2 && (xin l1 2 && (xin l1 2 && (xin l1 2 && true)))) <|
    some ((h_16.1 64 l1.toNatClampNeg), (xI (xI (xI (xI h_16 39 12 (h_16.1 62 l1.toNatClampNeg)) 39 15 (h_16.1 63 l1.toNatClampNeg)) 39 19 (h_16.1 64 l1.toNatClampNeg)) 39 20 (h_16.1 65 l1.toNatClampNeg)))
def f_m_back_j_7  (l1 : Int32) (l2 : Int32) (h : Hp) : Option (Int32 × Hp) :=
  f_m_back_L_8 l1 h (fun l2_11 l3_12 =>
    f_m_back_j_13 l1 l2_11 h
    ) 1000 l2 (0 : Int32)
def f_m_back (l1 : Int32) (h : Hp) : Option (Int32 × Hp) :=
  if (f_m_in l1 (0 : Int32) (1 : Int32)) = (0 : Int32) then
    some ((-1 : Int32), h)
  else
    xgd (xin l1 2 && true) <|
    f_m_back_L_2 l1 h (fun l2_5 l3_6 =>
      f_m_back_j_7 l1 l2_5 h
      ) 1000 (h.1 61 l1.toNatClampNeg) (0 : Int32)
set_option maxRecDepth 100000 in
set_option maxHeartbeats 4000000 in
theorem f_m_back_L_2_ok {X : XCtx} (hX : XOk X RX5 cX5_back 4 2 66) {r : Int32} {h' : Hp} (hR : XR X (some .int) (some (.int r)) h')  (l1 : Int32) (h : Hp) (k : Int32 → Int32 → Option (Int32 × Hp))  (hk : ∀ (l2 : Int32) (l3 : Int32), k l2 l3 = some (r, h') → XW X 58 [(0, .ref 39), (1, .int l1), (2, .int l2)] [] h) : ∀ (n : Nat) (l2 : Int32) (l3 : Int32), f_m_back_L_2 l1 h k n l2 l3 = some (r, h') → XW X 20 [(0, .ref 39), (1, .int l1), (2, .int l2), (3, .int l3)] [] h := by
  intro n
  induction n with
  | zero => intro l2 l3 hf; cases hf
  | succ n ih =>
    intro l2 l3 hf
    rw [f_m_back_L_2] at hf
    obtain ⟨hg, hf⟩ := xgd_inv hf
    refine Xblk hX pkX5_ok [.iload_n 3, .aload_n 0, .getfield 79, .iload_n 1, .iaload] (pc' := 27) (ls' := [(0, .ref 39), (1, .int l1), (2, .int l2), (3, .int l3)]) (st' := [.int (h.1 62 l1.toNatClampNeg), .int l3]) (h' := h) (g := (xin l1 2 && true)) (by decide +kernel) rfl rfl hg ?_
    refine Xbr hX (.if_icmp .ge (31)) (tgt := 58) (P := (h.1 62 l1.toNatClampNeg) ≤ l3) (r := []) (by decide +kernel) rfl (by decide) (fun hc_3 => ?_) (fun hc_3 => ?_)
    · replace hf := xif_t hc_3 hf
      refine XW.pick [0, 1, 2] (ls' := [(0, .ref 39), (1, .int l1), (2, .int l2)]) rfl ?_
      exact hk l2 l3 hf
    · replace hf := xif_f hc_3 hf
      refine Xblk hX pkX5_ok [.iload_n 2] (pc' := 31) (ls' := [(0, .ref 39), (1, .int l1), (2, .int l2), (3, .int l3)]) (st' := [.int l2]) (h' := h) (g := true) (by decide +kernel) rfl rfl rfl ?_
      refine Xbr hX (.ifCond .eq (27)) (tgt := 58) (P := l2 = (0 : Int32)) (r := []) (by decide +kernel) rfl (by decide) (fun hc_4 => ?_) (fun hc_4 => ?_)
      · replace hf := xif_t hc_4 hf
        refine XW.pick [0, 1, 2] (ls' := [(0, .ref 39), (1, .int l1), (2, .int l2)]) rfl ?_
        exact hk l2 l3 hf
      · replace hf := xif_f hc_4 hf
        obtain ⟨hg, hf⟩ := xgd_inv hf
        refine Xblk hX pkX5_ok [.aload_n 0, .aload_n 0, .getfield 20, .bipush 6, .iconst 1, .iload_n 1, .iadd, .imul, .iload_n 3, .iadd, .iaload] (pc' := 48) (ls' := [(0, .ref 39), (1, .int l1), (2, .int l2), (3, .int l3)]) (st' := [.int (h.1 43 (((6 : Int32) * ((1 : Int32) + l1)) + l3).toNatClampNeg), .ref 39]) (h' := h) (g := (xin (((6 : Int32) * ((1 : Int32) + l1)) + l3) 18 && true)) (by decide +kernel) rfl rfl hg ?_
        refine XcallV hX (mt_m_isFree (h.1 43 (((6 : Int32) * ((1 : Int32) + l1)) + l3).toNatClampNeg) h) (rest := []) (by decide) (by decide) xm_X5_isFree xi_X5_isFree xs_X5_isFree xl_RX5_151 (by decide) (xsh_39) rfl rfl rfl (Nat.le_of_ble_eq_true rfl) (by decide +kernel) ?_
        show XW X 51 [(0, .ref 39), (1, .int l1), (2, .int l2), (3, .int l3)] [.int (f_m_isFree (h.1 43 (((6 : Int32) * ((1 : Int32) + l1)) + l3).toNatClampNeg) h)] h
        refine Xblk hX pkX5_ok [.istore_n 2, .iinc 3 1] (pc' := 55) (ls' := [(3, .int (l3 + (1 : Int32))), (2, .int (f_m_isFree (h.1 43 (((6 : Int32) * ((1 : Int32) + l1)) + l3).toNatClampNeg) h)), (0, .ref 39), (1, .int l1)]) (st' := []) (h' := h) (g := true) (by decide +kernel) rfl rfl rfl ?_
        refine Xgoto hX (-35) 20 (by decide +kernel) (by decide) ?_
        refine XW.pick [2, 3, 1, 0] (ls' := [(0, .ref 39), (1, .int l1), (2, .int (f_m_isFree (h.1 43 (((6 : Int32) * ((1 : Int32) + l1)) + l3).toNatClampNeg) h)), (3, .int (l3 + (1 : Int32)))]) rfl ?_
        exact ih (f_m_isFree (h.1 43 (((6 : Int32) * ((1 : Int32) + l1)) + l3).toNatClampNeg) h) (l3 + (1 : Int32)) hf
set_option maxRecDepth 100000 in
set_option maxHeartbeats 4000000 in
theorem f_m_back_L_8_ok {X : XCtx} (hX : XOk X RX5 cX5_back 4 2 66) {r : Int32} {h' : Hp} (hR : XR X (some .int) (some (.int r)) h')  (l1 : Int32) (h : Hp) (k : Int32 → Int32 → Option (Int32 × Hp))  (hk : ∀ (l2 : Int32) (l3 : Int32), k l2 l3 = some (r, h') → XW X 97 [(0, .ref 39), (1, .int l1), (2, .int l2)] [] h) : ∀ (n : Nat) (l2 : Int32) (l3 : Int32), f_m_back_L_8 l1 h k n l2 l3 = some (r, h') → XW X 60 [(0, .ref 39), (1, .int l1), (2, .int l2), (3, .int l3)] [] h := by
  intro n
  induction n with
  | zero => intro l2 l3 hf; cases hf
  | succ n ih =>
    intro l2 l3 hf
    rw [f_m_back_L_8] at hf
    obtain ⟨hg, hf⟩ := xgd_inv hf
    refine Xblk hX pkX5_ok [.iload_n 3, .aload_n 0, .getfield 82, .iload_n 1, .iaload] (pc' := 67) (ls' := [(0, .ref 39), (1, .int l1), (2, .int l2), (3, .int l3)]) (st' := [.int (h.1 63 l1.toNatClampNeg), .int l3]) (h' := h) (g := (xin l1 2 && true)) (by decide +kernel) rfl rfl hg ?_
    refine Xbr hX (.if_icmp .ge (30)) (tgt := 97) (P := (h.1 63 l1.toNatClampNeg) ≤ l3) (r := []) (by decide +kernel) rfl (by decide) (fun hc_9 => ?_) (fun hc_9 => ?_)
    · replace hf := xif_t hc_9 hf
      refine XW.pick [0, 1, 2] (ls' := [(0, .ref 39), (1, .int l1), (2, .int l2)]) rfl ?_
      exact hk l2 l3 hf
    · replace hf := xif_f hc_9 hf
      refine Xblk hX pkX5_ok [.iload_n 2] (pc' := 71) (ls' := [(0, .ref 39), (1, .int l1), (2, .int l2), (3, .int l3)]) (st' := [.int l2]) (h' := h) (g := true) (by decide +kernel) rfl rfl rfl ?_
      refine Xbr hX (.ifCond .eq (26)) (tgt := 97) (P := l2 = (0 : Int32)) (r := []) (by decide +kernel) rfl (by decide) (fun hc_10 => ?_) (fun hc_10 => ?_)
      · replace hf := xif_t hc_10 hf
        refine XW.pick [0, 1, 2] (ls' := [(0, .ref 39), (1, .int l1), (2, .int l2)]) rfl ?_
        exact hk l2 l3 hf
      · replace hf := xif_f hc_10 hf
        obtain ⟨hg, hf⟩ := xgd_inv hf
        refine Xblk hX pkX5_ok [.aload_n 0, .aload_n 0, .getfield 26, .iconst 2, .iconst 1, .iload_n 1, .iadd, .imul, .iload_n 3, .iadd, .iaload] (pc' := 87) (ls' := [(0, .ref 39), (1, .int l1), (2, .int l2), (3, .int l3)]) (st' := [.int (h.1 45 (((2 : Int32) * ((1 : Int32) + l1)) + l3).toNatClampNeg), .ref 39]) (h' := h) (g := (xin (((2 : Int32) * ((1 : Int32) + l1)) + l3) 6 && true)) (by decide +kernel) rfl rfl hg ?_
        refine XcallV hX (mt_m_isFree (h.1 45 (((2 : Int32) * ((1 : Int32) + l1)) + l3).toNatClampNeg) h) (rest := []) (by decide) (by decide) xm_X5_isFree xi_X5_isFree xs_X5_isFree xl_RX5_151 (by decide) (xsh_39) rfl rfl rfl (Nat.le_of_ble_eq_true rfl) (by decide +kernel) ?_
        show XW X 90 [(0, .ref 39), (1, .int l1), (2, .int l2), (3, .int l3)] [.int (f_m_isFree (h.1 45 (((2 : Int32) * ((1 : Int32) + l1)) + l3).toNatClampNeg) h)] h
        refine Xblk hX pkX5_ok [.istore_n 2, .iinc 3 1] (pc' := 94) (ls' := [(3, .int (l3 + (1 : Int32))), (2, .int (f_m_isFree (h.1 45 (((2 : Int32) * ((1 : Int32) + l1)) + l3).toNatClampNeg) h)), (0, .ref 39), (1, .int l1)]) (st' := []) (h' := h) (g := true) (by decide +kernel) rfl rfl rfl ?_
        refine Xgoto hX (-34) 60 (by decide +kernel) (by decide) ?_
        refine XW.pick [2, 3, 1, 0] (ls' := [(0, .ref 39), (1, .int l1), (2, .int (f_m_isFree (h.1 45 (((2 : Int32) * ((1 : Int32) + l1)) + l3).toNatClampNeg) h)), (3, .int (l3 + (1 : Int32)))]) rfl ?_
        exact ih (f_m_isFree (h.1 45 (((2 : Int32) * ((1 : Int32) + l1)) + l3).toNatClampNeg) h) (l3 + (1 : Int32)) hf
set_option maxRecDepth 100000 in
set_option maxHeartbeats 4000000 in
theorem f_m_back_j_13_ok {X : XCtx} (hX : XOk X RX5 cX5_back 4 2 66) {r : Int32} {h' : Hp} (hR : XR X (some .int) (some (.int r)) h')   (l1 : Int32) (l2 : Int32) (h : Hp)  (hf : f_m_back_j_13 l1 l2 h = some (r, h')) : XW X 97 [(0, .ref 39), (1, .int l1), (2, .int l2)] [] h := by
  unfold f_m_back_j_13 at hf
  refine Xblk hX pkX5_ok [.iload_n 2] (pc' := 98) (ls' := [(0, .ref 39), (1, .int l1), (2, .int l2)]) (st' := [.int l2]) (h' := h) (g := true) (by decide +kernel) rfl rfl rfl ?_
  refine XbrN hX (.ifCond .ne (6)) (tgt := 104) (P := l2 = (0 : Int32)) (r := []) (by decide +kernel) rfl (by decide) (fun hc_14 => ?_) (fun hc_14 => ?_)
  · replace hf := xif_t hc_14 hf
    refine Xblk hX pkX5_ok [.bipush (-2)] (pc' := 103) (ls' := [(0, .ref 39), (1, .int l1), (2, .int l2)]) (st' := [.int (-2 : Int32)]) (h' := h) (g := true) (by decide +kernel) rfl rfl rfl ?_
    exact XrI2 hX hR hf (by decide +kernel)
  · replace hf := xif_f hc_14 hf
    refine Xblk hX pkX5_ok [.aload_n 0, .iconst 1, .iload_n 1, .iadd, .iconst 0] (pc' := 109) (ls' := [(0, .ref 39), (1, .int l1), (2, .int l2)]) (st' := [.int (0 : Int32), .int ((1 : Int32) + l1), .ref 39]) (h' := h) (g := true) (by decide +kernel) rfl rfl rfl ?_
    obtain ⟨h_16, hc_15, hf⟩ := xbd1_inv hf
    refine XcallV hX (mt_m_moveAll ((1 : Int32) + l1) (0 : Int32) h hc_15) (rest := []) (by decide) (by decide) xm_X5_moveAll xi_X5_moveAll xs_X5_moveAll xl_RX5_265 (by decide) (xsh_39) rfl rfl rfl (Nat.le_of_ble_eq_true rfl) (by decide +kernel) ?_
    show XW X 112 [(0, .ref 39), (1, .int l1), (2, .int l2)] [] h_16
    obtain ⟨hg, hf⟩ := xgd_inv hf
    refine Xblk hX pkX5_ok [.aload_n 0, .aload_n 0, .getfield 79, .iload_n 1, .iaload, .putfield 129, .aload_n 0, .aload_n 0, .getfield 82, .iload_n 1, .iaload, .putfield 132, .aload_n 0, .aload_n 0, .getfield 85, .iload_n 1, .iaload, .putfield 141, .aload_n 0, .aload_n 0, .getfield 88, .iload_n 1, .iaload, .putfield 138, .aload_n 0, .getfield 141] (pc' := 156) (ls' := [(0, .ref 39), (1, .int l1), (2, .int l2)]) (st' := [.int (h_16.1 64 l1.toNatClampNeg)]) (h' := (xI (xI (xI (xI h_16 39 12 (h_16.1 62 l1.toNatClampNeg)) 39 15 (h_16.1 63 l1.toNatClampNeg)) 39 19 (h_16.1 64 l1.toNatClampNeg)) 39 20 (h_16.1 65 l1.toNatClampNeg))) (g := (xin l1 2 && (xin l1 2 && (xin l1 2 && (xin l1 2 && true))))) (by decide +kernel) rfl rfl hg ?_
    exact XrI2 hX hR hf (by decide +kernel)
set_option maxRecDepth 100000 in
set_option maxHeartbeats 4000000 in
theorem f_m_back_j_7_ok {X : XCtx} (hX : XOk X RX5 cX5_back 4 2 66) {r : Int32} {h' : Hp} (hR : XR X (some .int) (some (.int r)) h')   (l1 : Int32) (l2 : Int32) (h : Hp)  (hf : f_m_back_j_7 l1 l2 h = some (r, h')) : XW X 58 [(0, .ref 39), (1, .int l1), (2, .int l2)] [] h := by
  unfold f_m_back_j_7 at hf
  refine Xblk hX pkX5_ok [.iconst 0, .istore_n 3] (pc' := 60) (ls' := [(3, .int (0 : Int32)), (0, .ref 39), (1, .int l1), (2, .int l2)]) (st' := []) (h' := h) (g := true) (by decide +kernel) rfl rfl rfl ?_
  refine XW.pick [1, 2, 3, 0] (ls' := [(0, .ref 39), (1, .int l1), (2, .int l2), (3, .int (0 : Int32))]) rfl ?_
  refine f_m_back_L_8_ok hX hR l1 h _  (fun l2_11 l3_12 hf => ?_) 1000 l2 (0 : Int32) hf
  refine XW.pick [0, 1, 2] (ls' := [(0, .ref 39), (1, .int l1), (2, .int l2_11)]) rfl ?_
  exact f_m_back_j_13_ok hX hR l1 l2_11 h hf
set_option maxRecDepth 100000 in
set_option maxHeartbeats 4000000 in
theorem mt_m_back (l1 : Int32) (h : Hp) {r : Int32} {h' : Hp} (hf : f_m_back l1 h = some (r, h')) : MT 2 66 yX5_back cX5_back 4 (some .int) [.ref 39, .int l1] h (some (.int r)) h' := by
  refine MT.of (by decide +kernel) (Nat.le_of_ble_eq_true rfl) fun X hX hR => ?_
  unfold f_m_back at hf
  refine Xblk hX pkX5_ok [.iload_n 1, .iconst 0, .iconst 1] (pc' := 3) (ls' := [(0, .ref 39), (1, .int l1)]) (st' := [.int (1 : Int32), .int (0 : Int32), .int l1]) (h' := h) (g := true) (by decide +kernel) rfl rfl rfl ?_
  refine XcallS hX (mt_m_in l1 (0 : Int32) (1 : Int32) h) (rest := []) (by decide) (by decide) xm_X5_in xi_X5_in xl_RX5_107 rfl (Nat.le_of_ble_eq_true rfl) (by decide +kernel) ?_
  show XW X 6 [(0, .ref 39), (1, .int l1)] [.int (f_m_in l1 (0 : Int32) (1 : Int32))] h
  refine XbrN hX (.ifCond .ne (5)) (tgt := 11) (P := (f_m_in l1 (0 : Int32) (1 : Int32)) = (0 : Int32)) (r := []) (by decide +kernel) rfl (by decide) (fun hc_1 => ?_) (fun hc_1 => ?_)
  · replace hf := xif_t hc_1 hf
    refine Xblk hX pkX5_ok [.iconst (-1)] (pc' := 10) (ls' := [(0, .ref 39), (1, .int l1)]) (st' := [.int (-1 : Int32)]) (h' := h) (g := true) (by decide +kernel) rfl rfl rfl ?_
    exact XrI2 hX hR hf (by decide +kernel)
  · replace hf := xif_f hc_1 hf
    obtain ⟨hg, hf⟩ := xgd_inv hf
    refine Xblk hX pkX5_ok [.aload_n 0, .getfield 76, .iload_n 1, .baload, .istore_n 2, .iconst 0, .istore_n 3] (pc' := 20) (ls' := [(3, .int (0 : Int32)), (2, .int (h.1 61 l1.toNatClampNeg)), (0, .ref 39), (1, .int l1)]) (st' := []) (h' := h) (g := (xin l1 2 && true)) (by decide +kernel) rfl rfl hg ?_
    refine XW.pick [2, 3, 1, 0] (ls' := [(0, .ref 39), (1, .int l1), (2, .int (h.1 61 l1.toNatClampNeg)), (3, .int (0 : Int32))]) rfl ?_
    refine f_m_back_L_2_ok hX hR l1 h _  (fun l2_5 l3_6 hf => ?_) 1000 (h.1 61 l1.toNatClampNeg) (0 : Int32) hf
    refine XW.pick [0, 1, 2] (ls' := [(0, .ref 39), (1, .int l1), (2, .int l2_5)]) rfl ?_
    exact f_m_back_j_7_ok hX hR l1 l2_5 h hf
def f_m_count (l1 : Int32) (h : Hp) : Option (Int32) :=
  if l1 = (0 : Int32) then
    some ((h.1 39 3) * (h.1 39 4))
  else
    if l1 = (1 : Int32) then
      some (h.1 39 7)
    else
      if l1 = (2 : Int32) then
        some (h.1 39 12)
      else
        if l1 = (3 : Int32) then
          some (h.1 39 15)
        else
          if l1 = (4 : Int32) then
            some (h.1 39 25)
          else
            if l1 = (5 : Int32) then
              some (h.1 39 20)
            else
              if l1 = (6 : Int32) then
                some (h.1 39 19)
              else
                if l1 = (7 : Int32) then
                  some (h.1 39 2)
                else
                  if l1 = (8 : Int32) then
                    xbd1 (f_m_bitsIn (h.2 39 8)) fun v_11 =>
                    some v_11
                  else
                    some (-1 : Int32)
set_option maxRecDepth 100000 in
set_option maxHeartbeats 4000000 in
theorem mt_m_count (l1 : Int32) (h : Hp) {r : Int32} (hf : f_m_count l1 h = some r) : MT 1 66 yX5_count cX5_count 2 (some .int) [.ref 39, .int l1] h (some (.int r)) h := by
  refine MT.of (by decide +kernel) (Nat.le_of_ble_eq_true rfl) fun X hX hR => ?_
  unfold f_m_count at hf
  refine Xblk hX pkX5_ok [.iload_n 1] (pc' := 1) (ls' := [(0, .ref 39), (1, .int l1)]) (st' := [.int l1]) (h' := h) (g := true) (by decide +kernel) rfl rfl rfl ?_
  by_cases hc_1 : l1 = (0 : Int32)
  · replace hf := xif_t hc_1 hf
    refine XswAt hX 52 hc_1 (show decode _ _ = .ok (.tableswitch (104) (0) (8) #[51, 61, 66, 71, 76, 81, 86, 91, 96], 51) by decide +kernel) (by decide) (by decide) (o := 51) (by decide) (by decide) ?_
    refine Xblk hX pkX5_ok [.aload_n 0, .getfield 91, .aload_n 0, .getfield 95, .imul] (pc' := 61) (ls' := [(0, .ref 39), (1, .int l1)]) (st' := [.int ((h.1 39 3) * (h.1 39 4))]) (h' := h) (g := true) (by decide +kernel) rfl rfl rfl ?_
    exact XrI1 hX hR hf (by decide +kernel)
  · replace hf := xif_f hc_1 hf
    by_cases hc_2 : l1 = (1 : Int32)
    · replace hf := xif_t hc_2 hf
      refine XswAt hX 62 hc_2 (show decode _ _ = .ok (.tableswitch (104) (0) (8) #[51, 61, 66, 71, 76, 81, 86, 91, 96], 51) by decide +kernel) (by decide) (by decide) (o := 61) (by decide) (by decide) ?_
      refine Xblk hX pkX5_ok [.aload_n 0, .getfield 126] (pc' := 66) (ls' := [(0, .ref 39), (1, .int l1)]) (st' := [.int (h.1 39 7)]) (h' := h) (g := true) (by decide +kernel) rfl rfl rfl ?_
      exact XrI1 hX hR hf (by decide +kernel)
    · replace hf := xif_f hc_2 hf
      by_cases hc_3 : l1 = (2 : Int32)
      · replace hf := xif_t hc_3 hf
        refine XswAt hX 67 hc_3 (show decode _ _ = .ok (.tableswitch (104) (0) (8) #[51, 61, 66, 71, 76, 81, 86, 91, 96], 51) by decide +kernel) (by decide) (by decide) (o := 66) (by decide) (by decide) ?_
        refine Xblk hX pkX5_ok [.aload_n 0, .getfield 129] (pc' := 71) (ls' := [(0, .ref 39), (1, .int l1)]) (st' := [.int (h.1 39 12)]) (h' := h) (g := true) (by decide +kernel) rfl rfl rfl ?_
        exact XrI1 hX hR hf (by decide +kernel)
      · replace hf := xif_f hc_3 hf
        by_cases hc_4 : l1 = (3 : Int32)
        · replace hf := xif_t hc_4 hf
          refine XswAt hX 72 hc_4 (show decode _ _ = .ok (.tableswitch (104) (0) (8) #[51, 61, 66, 71, 76, 81, 86, 91, 96], 51) by decide +kernel) (by decide) (by decide) (o := 71) (by decide) (by decide) ?_
          refine Xblk hX pkX5_ok [.aload_n 0, .getfield 132] (pc' := 76) (ls' := [(0, .ref 39), (1, .int l1)]) (st' := [.int (h.1 39 15)]) (h' := h) (g := true) (by decide +kernel) rfl rfl rfl ?_
          exact XrI1 hX hR hf (by decide +kernel)
        · replace hf := xif_f hc_4 hf
          by_cases hc_5 : l1 = (4 : Int32)
          · replace hf := xif_t hc_5 hf
            refine XswAt hX 77 hc_5 (show decode _ _ = .ok (.tableswitch (104) (0) (8) #[51, 61, 66, 71, 76, 81, 86, 91, 96], 51) by decide +kernel) (by decide) (by decide) (o := 76) (by decide) (by decide) ?_
            refine Xblk hX pkX5_ok [.aload_n 0, .getfield 135] (pc' := 81) (ls' := [(0, .ref 39), (1, .int l1)]) (st' := [.int (h.1 39 25)]) (h' := h) (g := true) (by decide +kernel) rfl rfl rfl ?_
            exact XrI1 hX hR hf (by decide +kernel)
          · replace hf := xif_f hc_5 hf
            by_cases hc_6 : l1 = (5 : Int32)
            · replace hf := xif_t hc_6 hf
              refine XswAt hX 82 hc_6 (show decode _ _ = .ok (.tableswitch (104) (0) (8) #[51, 61, 66, 71, 76, 81, 86, 91, 96], 51) by decide +kernel) (by decide) (by decide) (o := 81) (by decide) (by decide) ?_
              refine Xblk hX pkX5_ok [.aload_n 0, .getfield 138] (pc' := 86) (ls' := [(0, .ref 39), (1, .int l1)]) (st' := [.int (h.1 39 20)]) (h' := h) (g := true) (by decide +kernel) rfl rfl rfl ?_
              exact XrI1 hX hR hf (by decide +kernel)
            · replace hf := xif_f hc_6 hf
              by_cases hc_7 : l1 = (6 : Int32)
              · replace hf := xif_t hc_7 hf
                refine XswAt hX 87 hc_7 (show decode _ _ = .ok (.tableswitch (104) (0) (8) #[51, 61, 66, 71, 76, 81, 86, 91, 96], 51) by decide +kernel) (by decide) (by decide) (o := 86) (by decide) (by decide) ?_
                refine Xblk hX pkX5_ok [.aload_n 0, .getfield 141] (pc' := 91) (ls' := [(0, .ref 39), (1, .int l1)]) (st' := [.int (h.1 39 19)]) (h' := h) (g := true) (by decide +kernel) rfl rfl rfl ?_
                exact XrI1 hX hR hf (by decide +kernel)
              · replace hf := xif_f hc_7 hf
                by_cases hc_8 : l1 = (7 : Int32)
                · replace hf := xif_t hc_8 hf
                  refine XswAt hX 92 hc_8 (show decode _ _ = .ok (.tableswitch (104) (0) (8) #[51, 61, 66, 71, 76, 81, 86, 91, 96], 51) by decide +kernel) (by decide) (by decide) (o := 91) (by decide) (by decide) ?_
                  refine Xblk hX pkX5_ok [.aload_n 0, .getfield 111] (pc' := 96) (ls' := [(0, .ref 39), (1, .int l1)]) (st' := [.int (h.1 39 2)]) (h' := h) (g := true) (by decide +kernel) rfl rfl rfl ?_
                  exact XrI1 hX hR hf (by decide +kernel)
                · replace hf := xif_f hc_8 hf
                  by_cases hc_9 : l1 = (8 : Int32)
                  · replace hf := xif_t hc_9 hf
                    refine XswAt hX 97 hc_9 (show decode _ _ = .ok (.tableswitch (104) (0) (8) #[51, 61, 66, 71, 76, 81, 86, 91, 96], 51) by decide +kernel) (by decide) (by decide) (o := 96) (by decide) (by decide) ?_
                    refine Xblk hX pkX5_ok [.aload_n 0, .getfield 100] (pc' := 101) (ls' := [(0, .ref 39), (1, .int l1)]) (st' := [.long (h.2 39 8)]) (h' := h) (g := true) (by decide +kernel) rfl rfl rfl ?_
                    obtain ⟨v_11, hc_10, hf⟩ := xbd1_inv hf
                    refine XcallS hX (mt_m_bitsIn (h.2 39 8) h hc_10) (rest := []) (by decide) (by decide) xm_X5_bitsIn xi_X5_bitsIn xl_RX5_225 rfl (Nat.le_of_ble_eq_true rfl) (by decide +kernel) ?_
                    show XW X 104 [(0, .ref 39), (1, .int l1)] [.int v_11] h
                    exact XrI1 hX hR hf (by decide +kernel)
                  · replace hf := xif_f hc_9 hf
                    refine XswOut hX 105 (show decode _ _ = .ok (.tableswitch (104) (0) (8) #[51, 61, 66, 71, 76, 81, 86, 91, 96], 51) by decide +kernel) (by have a0 := lv_neT (a := 0) hc_1 (by decide); have a1 := lv_neT (a := 1) hc_2 (by decide); have a2 := lv_neT (a := 2) hc_3 (by decide); have a3 := lv_neT (a := 3) hc_4 (by decide); have a4 := lv_neT (a := 4) hc_5 (by decide); have a5 := lv_neT (a := 5) hc_6 (by decide); have a6 := lv_neT (a := 6) hc_7 (by decide); have a7 := lv_neT (a := 7) hc_8 (by decide); have a8 := lv_neT (a := 8) hc_9 (by decide); omega) (by decide) ?_
                    refine Xblk hX pkX5_ok [.iconst (-1)] (pc' := 106) (ls' := [(0, .ref 39), (1, .int l1)]) (st' := [.int (-1 : Int32)]) (h' := h) (g := true) (by decide +kernel) rfl rfl rfl ?_
                    exact XrI1 hX hR hf (by decide +kernel)
def f_m_trace  (h : Hp) : Int64 :=
  (h.2 39 0)
set_option maxRecDepth 100000 in
set_option maxHeartbeats 4000000 in
theorem mt_m_trace  (h : Hp) : MT 0 66 yX5_trace cX5_trace 1 (some .long) [.ref 39] h (some (.long (f_m_trace h))) h := by
  obtain ⟨o, hf⟩ : ∃ o, f_m_trace h = o := ⟨_, rfl⟩
  rw [hf]
  refine MT.of (by decide +kernel) (Nat.le_of_ble_eq_true rfl) fun X hX hR => ?_
  unfold f_m_trace at hf
  refine Xblk hX pkX5_ok [.aload_n 0, .getfield 210] (pc' := 4) (ls' := [(0, .ref 39)]) (st' := [.long (h.2 39 0)]) (h' := h) (g := true) (by decide +kernel) rfl rfl rfl ?_
  subst hf
  exact XretL hX hR (by decide +kernel)
