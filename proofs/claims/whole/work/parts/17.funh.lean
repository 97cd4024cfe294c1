def f_m_let_L_2  (l1 : Int32) (h : Hp) (k : Int32 → Int32 → Option (Int32)) : Nat → Int32 → Int32 → Option (Int32)
  | 0, _, _ => none
  | n + 1, l2, l3 =>
    if (5 : Int32) ≤ l3 then
      k l2 l3
    else
      xbd1 (f_m_why l1 l3 h) fun v_5 =>
      (f_m_let_L_2 l1 h k n) (l2 ||| (if v_5 = (0 : Int32) then (jshl (1 : Int32) l3) else (0 : Int32))) (l3 + (1 : Int32))
def f_m_let (l1 : Int32) (h : Hp) : Option (Int32) :=
  if (f_m_isCarrier l1 h) = (0 : Int32) then
    some (-1 : Int32)
  else
    f_m_let_L_2 l1 h (fun l2_9 l3_10 =>
      some l2_9
      ) 1000 (0 : Int32) (0 : Int32)
set_option maxRecDepth 100000 in
set_option maxHeartbeats 4000000 in
theorem f_m_let_L_2_ok {X : XCtx} (hX : XOk X RX5 cX5_let 4 6 66) {r : Int32} {h : Hp} (hR : XR X (some .int) (some (.int r)) h)  (l1 : Int32)  (k : Int32 → Int32 → Option (Int32))  (hk : ∀ (l2 : Int32) (l3 : Int32), k l2 l3 = some r → XW X 44 [(2, .int l2)] [] h) : ∀ (n : Nat) (l2 : Int32) (l3 : Int32), f_m_let_L_2 l1 h k n l2 l3 = some r → XW X 14 [(0, .ref 39), (1, .int l1), (2, .int l2), (3, .int l3)] [] h := by
  intro n
  induction n with
  | zero => intro l2 l3 hf; cases hf
  | succ n ih =>
    intro l2 l3 hf
    rw [f_m_let_L_2] at hf
    refine Xblk hX pkX5_ok [.iload_n 3, .iconst 5] (pc' := 16) (ls' := [(0, .ref 39), (1, .int l1), (2, .int l2), (3, .int l3)]) (st' := [.int (5 : Int32), .int l3]) (h' := h) (g := true) (by decide +kernel) rfl rfl rfl ?_
    refine Xbr hX (.if_icmp .ge (28)) (tgt := 44) (P := (5 : Int32) ≤ l3) (r := []) (by decide +kernel) rfl (by decide) (fun hc_3 => ?_) (fun hc_3 => ?_)
    · replace hf := xif_t hc_3 hf
      refine XW.pick [2] (ls' := [(2, .int l2)]) rfl ?_
      exact hk l2 l3 hf
    · replace hf := xif_f hc_3 hf
      refine Xblk hX pkX5_ok [.iload_n 2, .aload_n 0, .iload_n 1, .iload_n 3] (pc' := 23) (ls' := [(0, .ref 39), (1, .int l1), (2, .int l2), (3, .int l3)]) (st' := [.int l3, .int l1, .ref 39, .int l2]) (h' := h) (g := true) (by decide +kernel) rfl rfl rfl ?_
      obtain ⟨v_5, hc_4, hf⟩ := xbd1_inv hf
      refine XcallV hX (mt_m_why l1 l3 h hc_4) (rest := [.int l2]) (by decide) (by decide) xm_X5_why xi_X5_why xs_X5_why xl_RX5_203 (by decide) (xsh_39) rfl rfl rfl (Nat.le_of_ble_eq_true rfl) (by decide +kernel) ?_
      show XW X 26 [(0, .ref 39), (1, .int l1), (2, .int l2), (3, .int l3)] [.int v_5, .int l2] h
      have kJ_8 : ∀ (w_7 : Int32), w_7 = (if v_5 = (0 : Int32) then (jshl (1 : Int32) l3) else (0 : Int32)) → XW X 36 [(0, .ref 39), (1, .int l1), (3, .int l3)] [.int w_7, .int l2] h := by
        intro w_7 ew_7
        subst ew_7
        refine Xblk hX pkX5_ok [.ior, .istore_n 2, .iinc 3 1] (pc' := 41) (ls' := [(3, .int (l3 + (1 : Int32))), (2, .int (l2 ||| (if v_5 = (0 : Int32) then (jshl (1 : Int32) l3) else (0 : Int32)))), (0, .ref 39), (1, .int l1)]) (st' := []) (h' := h) (g := true) (by decide +kernel) rfl rfl rfl ?_
        refine Xgoto hX (-27) 14 (by decide +kernel) (by decide) ?_
        refine XW.pick [2, 3, 1, 0] (ls' := [(0, .ref 39), (1, .int l1), (2, .int (l2 ||| (if v_5 = (0 : Int32) then (jshl (1 : Int32) l3) else (0 : Int32)))), (3, .int (l3 + (1 : Int32)))]) rfl ?_
        exact ih (l2 ||| (if v_5 = (0 : Int32) then (jshl (1 : Int32) l3) else (0 : Int32))) (l3 + (1 : Int32)) hf
      refine XbrN hX (.ifCond .ne (9)) (tgt := 35) (P := v_5 = (0 : Int32)) (r := [.int l2]) (by decide +kernel) rfl (by decide) (fun hc_6 => ?_) (fun hc_6 => ?_)
      · refine Xblk hX pkX5_ok [.iconst 1, .iload_n 3, .ishl] (pc' := 32) (ls' := [(0, .ref 39), (1, .int l1), (2, .int l2), (3, .int l3)]) (st' := [.int (jshl (1 : Int32) l3), .int l2]) (h' := h) (g := true) (by decide +kernel) rfl rfl rfl ?_
        refine Xgoto hX (4) 36 (by decide +kernel) (by decide) ?_
        refine XW.pick [0, 1, 3] (ls' := [(0, .ref 39), (1, .int l1), (3, .int l3)]) rfl ?_
        exact kJ_8 _ (by rw [if_pos hc_6])
      · refine Xblk hX pkX5_ok [.iconst 0] (pc' := 36) (ls' := [(0, .ref 39), (1, .int l1), (2, .int l2), (3, .int l3)]) (st' := [.int (0 : Int32), .int l2]) (h' := h) (g := true) (by decide +kernel) rfl rfl rfl ?_
        refine XW.pick [0, 1, 3] (ls' := [(0, .ref 39), (1, .int l1), (3, .int l3)]) rfl ?_
        exact kJ_8 _ (by rw [if_neg hc_6])
set_option maxRecDepth 100000 in
set_option maxHeartbeats 4000000 in
theorem mt_m_let (l1 : Int32) (h : Hp) {r : Int32} (hf : f_m_let l1 h = some r) : MT 6 66 yX5_let cX5_let 4 (some .int) [.ref 39, .int l1] h (some (.int r)) h := by
  refine MT.of (by decide +kernel) (Nat.le_of_ble_eq_true rfl) fun X hX hR => ?_
  unfold f_m_let at hf
  refine Xblk hX pkX5_ok [.aload_n 0, .iload_n 1] (pc' := 2) (ls' := [(0, .ref 39), (1, .int l1)]) (st' := [.int l1, .ref 39]) (h' := h) (g := true) (by decide +kernel) rfl rfl rfl ?_
  refine XcallV hX (mt_m_isCarrier l1 h) (rest := []) (by decide) (by decide) xm_X5_isCarrier xi_X5_isCarrier xs_X5_isCarrier xl_RX5_175 (by decide) (xsh_39) rfl rfl rfl (Nat.le_of_ble_eq_true rfl) (by decide +kernel) ?_
  show XW X 5 [(0, .ref 39), (1, .int l1)] [.int (f_m_isCarrier l1 h)] h
  refine XbrN hX (.ifCond .ne (5)) (tgt := 10) (P := (f_m_isCarrier l1 h) = (0 : Int32)) (r := []) (by decide +kernel) rfl (by decide) (fun hc_1 => ?_) (fun hc_1 => ?_)
  · replace hf := xif_t hc_1 hf
    refine Xblk hX pkX5_ok [.iconst (-1)] (pc' := 9) (ls' := [(0, .ref 39), (1, .int l1)]) (st' := [.int (-1 : Int32)]) (h' := h) (g := true) (by decide +kernel) rfl rfl rfl ?_
    exact XrI1 hX hR hf (by decide +kernel)
  · replace hf := xif_f hc_1 hf
    refine Xblk hX pkX5_ok [.iconst 0, .istore_n 2, .iconst 0, .istore_n 3] (pc' := 14) (ls' := [(3, .int (0 : Int32)), (2, .int (0 : Int32)), (0, .ref 39), (1, .int l1)]) (st' := []) (h' := h) (g := true) (by decide +kernel) rfl rfl rfl ?_
    refine XW.pick [2, 3, 1, 0] (ls' := [(0, .ref 39), (1, .int l1), (2, .int (0 : Int32)), (3, .int (0 : Int32))]) rfl ?_
    refine f_m_let_L_2_ok hX hR l1 _  (fun l2_9 l3_10 hf => ?_) 1000 (0 : Int32) (0 : Int32) hf
    refine Xblk hX pkX5_ok [.iload_n 2] (pc' := 45) (ls' := [(2, .int l2_9)]) (st' := [.int l2_9]) (h' := h) (g := true) (by decide +kernel) rfl rfl rfl ?_
    exact XrI1 hX hR hf (by decide +kernel)
def f_m_goOn (l1 : Int64) (l3 : Int32) (h : Hp) : Option (Int64) :=
  xgd (xin l3 21 && true) <|
  some (l1 ||| ((f_m_spread l1 h) &&& (h.2 49 l3.toNatClampNeg)))
set_option maxRecDepth 100000 in
set_option maxHeartbeats 4000000 in
theorem mt_m_goOn (l1 : Int64) (l3 : Int32) (h : Hp) {r : Int64} (hf : f_m_goOn l1 l3 h = some r) : MT 1 66 yX5_goOn cX5_goOn 4 (some .long) [.ref 39, .long l1, .int l3] h (some (.long r)) h := by
  refine MT.of (by decide +kernel) (Nat.le_of_ble_eq_true rfl) fun X hX hR => ?_
  unfold f_m_goOn at hf
  refine Xblk hX pkX5_ok [.lload_n 1, .aload_n 0, .lload_n 1] (pc' := 3) (ls' := [(0, .ref 39), (1, .long l1), (3, .int l3)]) (st' := [.long l1, .ref 39, .long l1]) (h' := h) (g := true) (by decide +kernel) rfl rfl rfl ?_
  refine XcallV hX (mt_m_spread l1 h) (rest := [.long l1]) (by decide) (by decide) xm_X5_spread xi_X5_spread xs_X5_spread xl_RX5_185 (by decide) (xsh_39) rfl rfl rfl (Nat.le_of_ble_eq_true rfl) (by decide +kernel) ?_
  show XW X 6 [(0, .ref 39), (1, .long l1), (3, .int l3)] [.long (f_m_spread l1 h), .long l1] h
  obtain ⟨hg, hf⟩ := xgd_inv hf
  refine Xblk hX pkX5_ok [.aload_n 0, .getfield 38, .iload_n 3, .laload, .land, .lor] (pc' := 14) (ls' := [(0, .ref 39), (1, .long l1), (3, .int l3)]) (st' := [.long (l1 ||| ((f_m_spread l1 h) &&& (h.2 49 l3.toNatClampNeg)))]) (h' := h) (g := (xin l3 21 && true)) (by decide +kernel) rfl rfl hg ?_
  exact XrL1 hX hR hf (by decide +kernel)
def f_m_soonest_L_5  (l1 : Int32) (l2 : Int32) (l3 : Int32) (h : Hp) (k : Int64 → Int32 → Option (Int32 × Hp)) : Nat → Int64 → Int32 → Option (Int32 × Hp)
  | 0, _, _ => none
  | n + 1, l4, l6 =>
    if (h.1 39 15) ≤ l6 then
      k l4 l6
    else
      if l6 = l1 then
        (f_m_soonest_L_5 l1 l2 l3 h k n) (l4 ||| (0 : Int64)) (l6 + (1 : Int32))
      else
        xgd (xin l6 6 && true) <|
        (f_m_soonest_L_5 l1 l2 l3 h k n) (l4 ||| (jshlL (1 : Int64) (h.1 45 l6.toNatClampNeg))) (l6 + (1 : Int32))
def f_m_soonest_L_13  (l1 : Int32) (l2 : Int32) (l3 : Int32) (l4 : Int64)  (k : Int32 → Int32 → Hp → Option (Int32 × Hp)) : Nat → Int32 → Int32 → Hp → Option (Int32 × Hp)
  | 0, _, _, _ => none
  | n + 1, l6, l7, h =>
    if (20 : Int32) < l7 then
      k l6 l7 h
    else
      if l6 = (-9 : Int32) then
        xbd1 (f_m_seenCould l1 l7 h) fun v_17 =>
        xbd1 (f_m_unseenCould l1 l7 h) fun v_19 =>
        xgd (xin (l7 - (1 : Int32)) 21 && (xin l7 21 && true)) <|
        xbd1 (f_m_goOn (h.2 50 (l7 - (1 : Int32)).toNatClampNeg) l7 (xL h 49 l7.toNatClampNeg (((h.2 39 8) &&& (l4 ^^^ (-1 : Int64))) &&& ((v_17 ||| v_19) ^^^ (-1 : Int64))))) fun v_21 =>
        xgd (xin l7 21 && (xin l7 21 && true)) <|
        (f_m_soonest_L_13 l1 l2 l3 l4 k n) (if (lg_cmp ((jshrL ((xL (xL h 49 l7.toNatClampNeg (((h.2 39 8) &&& (l4 ^^^ (-1 : Int64))) &&& ((v_17 ||| v_19) ^^^ (-1 : Int64)))) 50 l7.toNatClampNeg v_21).2 50 l7.toNatClampNeg) l2) &&& (1 : Int64)) (1 : Int64)) = (0 : Int32) then l7 else (-9 : Int32)) (l7 + (1 : Int32)) (xL (xL h 49 l7.toNatClampNeg (((h.2 39 8) &&& (l4 ^^^ (-1 : Int64))) &&& ((v_17 ||| v_19) ^^^ (-1 : Int64)))) 50 l7.toNatClampNeg v_21)
      else
        k l6 l7 h
def f_m_soonest_L_32  (l1 : Int32) (h : Hp) (k : Int64 → Int32 → Option (Int32 × Hp)) : Nat → Int64 → Int32 → Option (Int32 × Hp)
  | 0, _, _ => none
  | n + 1, l7, l9 =>
    if l9 ≤ (1 : Int32) then
      k l7 l9
    else
      xgd (xin l9 21 && true) <|
      (f_m_soonest_L_32 l1 h k n) (l7 ||| (f_m_spread (l7 &&& (h.2 49 l9.toNatClampNeg)) h)) (l9 + (-1 : Int32))
def f_m_soonest_L_36  (l1 : Int32) (l7 : Int64) (h : Hp) (k : Int32 → Option (Int32 × Hp)) : Nat → Int32 → Option (Int32 × Hp)
  | 0, _ => none
  | n + 1, l9 =>
    if (4 : Int32) ≤ l9 then
      k l9
    else
      xgd (xin l1 6 && true) <|
      if (f_m_beside (h.1 45 l1.toNatClampNeg) l9 h) = (-9 : Int32) then
        (f_m_soonest_L_36 l1 l7 h k n) (l9 + (1 : Int32))
      else
        if (lg_cmp ((jshrL (l7 &&& (h.2 49 1)) (f_m_beside (h.1 45 l1.toNatClampNeg) l9 h)) &&& (1 : Int64)) (1 : Int64)) = (0 : Int32) then
          some (l9, h)
        else
          (f_m_soonest_L_36 l1 l7 h k n) (l9 + (1 : Int32))
def f_m_soonest_j_28  (l1 : Int32) (l2 : Int32) (l3 : Int32) (l6 : Int32) (h : Hp) : Option (Int32 × Hp) :=
  if l3 = (0 : Int32) then
    some (l6, h)
  else
    if l6 = (-9 : Int32) then
      some ((-9 : Int32), h)
    else
      if l6 = (0 : Int32) then
        some ((-9 : Int32), h)
      else
        f_m_soonest_L_32 l1 h (fun l7_34 l9_35 =>
          f_m_soonest_L_36 l1 l7_34 h (fun l9_40 =>
            some ((4 : Int32), h)
            ) 1000 (0 : Int32)
          ) 1000 (jshlL (1 : Int64) l2) l6
def f_m_soonest (l1 : Int32) (l2 : Int32) (l3 : Int32) (h : Hp) : Option (Int32 × Hp) :=
  if (f_m_isCarrier l1 h) = (0 : Int32) then
    some ((-1 : Int32), h)
  else
    if (f_m_isCell l2 h) = (0 : Int32) then
      some ((-1 : Int32), h)
    else
      if (f_m_in l3 (0 : Int32) (1 : Int32)) = (0 : Int32) then
        some ((-1 : Int32), h)
      else
        if (f_m_isFree l2 h) = (0 : Int32) then
          some ((-2 : Int32), h)
        else
          f_m_soonest_L_5 l1 l2 l3 h (fun l4_9 l6_10 =>
            xgd (xin l1 6 && true) <|
            f_m_soonest_L_13 l1 l2 l3 l4_9 (fun l6_25 l7_26 h_27 =>
              f_m_soonest_j_28 l1 l2 l3 l6_25 h_27
              ) 1000 (if (lg_cmp ((jshrL (jshlL (1 : Int64) (h.1 45 l1.toNatClampNeg)) l2) &&& (1 : Int64)) (1 : Int64)) = (0 : Int32) then (0 : Int32) else (-9 : Int32)) (1 : Int32) (xL h 50 0 (jshlL (1 : Int64) (h.1 45 l1.toNatClampNeg)))
            ) 1000 (0 : Int64) (0 : Int32)
set_option maxRecDepth 100000 in
set_option maxHeartbeats 4000000 in
theorem f_m_soonest_L_5_ok {X : XCtx} (hX : XOk X RX5 cX5_soonest 11 5 66) {r : Int32} {h' : Hp} (hR : XR X (some .int) (some (.int r)) h')  (l1 : Int32) (l2 : Int32) (l3 : Int32) (h : Hp) (k : Int64 → Int32 → Option (Int32 × Hp))  (hk : ∀ (l4 : Int64) (l6 : Int32), k l4 l6 = some (r, h') → XW X 83 [(0, .ref 39), (1, .int l1), (2, .int l2), (3, .int l3), (4, .long l4)] [] h) : ∀ (n : Nat) (l4 : Int64) (l6 : Int32), f_m_soonest_L_5 l1 l2 l3 h k n l4 l6 = some (r, h') → XW X 44 [(0, .ref 39), (1, .int l1), (2, .int l2), (3, .int l3), (4, .long l4), (6, .int l6)] [] h := by
  intro n
  induction n with
  | zero => intro l4 l6 hf; cases hf
  | succ n ih =>
    intro l4 l6 hf
    rw [f_m_soonest_L_5] at hf
    refine Xblk hX pkX5_ok [.iload 6, .aload_n 0, .getfield 132] (pc' := 50) (ls' := [(0, .ref 39), (1, .int l1), (2, .int l2), (3, .int l3), (4, .long l4), (6, .int l6)]) (st' := [.int (h.1 39 15), .int l6]) (h' := h) (g := true) (by decide +kernel) rfl rfl rfl ?_
    refine Xbr hX (.if_icmp .ge (33)) (tgt := 83) (P := (h.1 39 15) ≤ l6) (r := []) (by decide +kernel) rfl (by decide) (fun hc_6 => ?_) (fun hc_6 => ?_)
    · replace hf := xif_t hc_6 hf
      refine XW.pick [0, 1, 2, 3, 4] (ls' := [(0, .ref 39), (1, .int l1), (2, .int l2), (3, .int l3), (4, .long l4)]) rfl ?_
      exact hk l4 l6 hf
    · replace hf := xif_f hc_6 hf
      refine Xblk hX pkX5_ok [.lload 4, .iload 6, .iload_n 1] (pc' := 58) (ls' := [(0, .ref 39), (1, .int l1), (2, .int l2), (3, .int l3), (4, .long l4), (6, .int l6)]) (st' := [.int l1, .int l6, .long l4]) (h' := h) (g := true) (by decide +kernel) rfl rfl rfl ?_
      refine XbrN hX (.if_icmp .ne (7)) (tgt := 65) (P := l6 = l1) (r := [.long l4]) (by decide +kernel) rfl (by decide) (fun hc_8 => ?_) (fun hc_8 => ?_)
      · replace hf := xif_t hc_8 hf
        refine Xblk hX pkX5_ok [.lconst 0] (pc' := 62) (ls' := [(0, .ref 39), (1, .int l1), (2, .int l2), (3, .int l3), (4, .long l4), (6, .int l6)]) (st' := [.long (0 : Int64), .long l4]) (h' := h) (g := true) (by decide +kernel) rfl rfl rfl ?_
        refine Xgoto hX (12) 74 (by decide +kernel) (by decide) ?_
        refine Xblk hX pkX5_ok [.lor, .lstore 4, .iinc 6 1] (pc' := 80) (ls' := [(6, .int (l6 + (1 : Int32))), (4, .long (l4 ||| (0 : Int64))), (0, .ref 39), (1, .int l1), (2, .int l2), (3, .int l3)]) (st' := []) (h' := h) (g := true) (by decide +kernel) rfl rfl rfl ?_
        refine Xgoto hX (-36) 44 (by decide +kernel) (by decide) ?_
        refine XW.pick [2, 3, 4, 5, 1, 0] (ls' := [(0, .ref 39), (1, .int l1), (2, .int l2), (3, .int l3), (4, .long (l4 ||| (0 : Int64))), (6, .int (l6 + (1 : Int32)))]) rfl ?_
        exact ih (l4 ||| (0 : Int64)) (l6 + (1 : Int32)) hf
      · replace hf := xif_f hc_8 hf
        obtain ⟨hg, hf⟩ := xgd_inv hf
        refine Xblk hX pkX5_ok [.lconst 1, .aload_n 0, .getfield 26, .iload 6, .iaload, .lshl, .lor, .lstore 4, .iinc 6 1] (pc' := 80) (ls' := [(6, .int (l6 + (1 : Int32))), (4, .long (l4 ||| (jshlL (1 : Int64) (h.1 45 l6.toNatClampNeg)))), (0, .ref 39), (1, .int l1), (2, .int l2), (3, .int l3)]) (st' := []) (h' := h) (g := (xin l6 6 && true)) (by decide +kernel) rfl rfl hg ?_
        refine Xgoto hX (-36) 44 (by decide +kernel) (by decide) ?_
        refine XW.pick [2, 3, 4, 5, 1, 0] (ls' := [(0, .ref 39), (1, .int l1), (2, .int l2), (3, .int l3), (4, .long (l4 ||| (jshlL (1 : Int64) (h.1 45 l6.toNatClampNeg)))), (6, .int (l6 + (1 : Int32)))]) rfl ?_
        exact ih (l4 ||| (jshlL (1 : Int64) (h.1 45 l6.toNatClampNeg))) (l6 + (1 : Int32)) hf
set_option maxRecDepth 100000 in
set_option maxHeartbeats 4000000 in
theorem f_m_soonest_L_13_ok {X : XCtx} (hX : XOk X RX5 cX5_soonest 11 5 66) {r : Int32} {h' : Hp} (hR : XR X (some .int) (some (.int r)) h')  (l1 : Int32) (l2 : Int32) (l3 : Int32) (l4 : Int64)  (k : Int32 → Int32 → Hp → Option (Int32 × Hp))  (hk : ∀ (l6 : Int32) (l7 : Int32) (h : Hp), k l6 l7 h = some (r, h') → XW X 228 [(0, .ref 39), (1, .int l1), (2, .int l2), (3, .int l3), (6, .int l6)] [] h) : ∀ (n : Nat) (l6 : Int32) (l7 : Int32) (h : Hp), f_m_soonest_L_13 l1 l2 l3 l4 k n l6 l7 h = some (r, h') → XW X 123 [(0, .ref 39), (1, .int l1), (2, .int l2), (3, .int l3), (4, .long l4), (6, .int l6), (7, .int l7)] [] h := by
  intro n
  induction n with
  | zero => intro l6 l7 h hf; cases hf
  | succ n ih =>
    intro l6 l7 h hf
    rw [f_m_soonest_L_13] at hf
    refine Xblk hX pkX5_ok [.iload 7, .bipush 20] (pc' := 127) (ls' := [(0, .ref 39), (1, .int l1), (2, .int l2), (3, .int l3), (4, .long l4), (6, .int l6), (7, .int l7)]) (st' := [.int (20 : Int32), .int l7]) (h' := h) (g := true) (by decide +kernel) rfl rfl rfl ?_
    refine Xbr hX (.if_icmp .gt (101)) (tgt := 228) (P := (20 : Int32) < l7) (r := []) (by decide +kernel) rfl (by decide) (fun hc_14 => ?_) (fun hc_14 => ?_)
    · replace hf := xif_t hc_14 hf
      refine XW.pick [0, 1, 2, 3, 5] (ls' := [(0, .ref 39), (1, .int l1), (2, .int l2), (3, .int l3), (6, .int l6)]) rfl ?_
      exact hk l6 l7 h hf
    · replace hf := xif_f hc_14 hf
      refine Xblk hX pkX5_ok [.iload 6, .bipush (-9)] (pc' := 134) (ls' := [(0, .ref 39), (1, .int l1), (2, .int l2), (3, .int l3), (4, .long l4), (6, .int l6), (7, .int l7)]) (st' := [.int (-9 : Int32), .int l6]) (h' := h) (g := true) (by decide +kernel) rfl rfl rfl ?_
      refine XbrN hX (.if_icmp .ne (94)) (tgt := 228) (P := l6 = (-9 : Int32)) (r := []) (by decide +kernel) rfl (by decide) (fun hc_15 => ?_) (fun hc_15 => ?_)
      · replace hf := xif_t hc_15 hf
        refine Xblk hX pkX5_ok [.aload_n 0, .getfield 38, .iload 7, .aload_n 0, .getfield 100, .lload 4, .ldc2_w 154, .lxor, .land, .aload_n 0, .iload_n 1, .iload 7] (pc' := 158) (ls' := [(0, .ref 39), (1, .int l1), (2, .int l2), (3, .int l3), (4, .long l4), (6, .int l6), (7, .int l7)]) (st' := [.int l7, .int l1, .ref 39, .long ((h.2 39 8) &&& (l4 ^^^ (-1 : Int64))), .int l7, .ref 49]) (h' := h) (g := true) (by decide +kernel) rfl rfl rfl ?_
        obtain ⟨v_17, hc_16, hf⟩ := xbd1_inv hf
        refine XcallV hX (mt_m_seenCould l1 l7 h hc_16) (rest := [.long ((h.2 39 8) &&& (l4 ^^^ (-1 : Int64))), .int l7, .ref 49]) (by decide) (by decide) xm_X5_seenCould xi_X5_seenCould xs_X5_seenCould xl_RX5_196 (by decide) (xsh_39) rfl rfl rfl (Nat.le_of_ble_eq_true rfl) (by decide +kernel) ?_
        show XW X 161 [(0, .ref 39), (1, .int l1), (2, .int l2), (3, .int l3), (4, .long l4), (6, .int l6), (7, .int l7)] [.long v_17, .long ((h.2 39 8) &&& (l4 ^^^ (-1 : Int64))), .int l7, .ref 49] h
        refine Xblk hX pkX5_ok [.aload_n 0, .iload_n 1, .iload 7] (pc' := 165) (ls' := [(0, .ref 39), (1, .int l1), (2, .int l2), (3, .int l3), (4, .long l4), (6, .int l6), (7, .int l7)]) (st' := [.int l7, .int l1, .ref 39, .long v_17, .long ((h.2 39 8) &&& (l4 ^^^ (-1 : Int64))), .int l7, .ref 49]) (h' := h) (g := true) (by decide +kernel) rfl rfl rfl ?_
        obtain ⟨v_19, hc_18, hf⟩ := xbd1_inv hf
        refine XcallV hX (mt_m_unseenCould l1 l7 h hc_18) (rest := [.long v_17, .long ((h.2 39 8) &&& (l4 ^^^ (-1 : Int64))), .int l7, .ref 49]) (by decide) (by decide) xm_X5_unseenCould xi_X5_unseenCould xs_X5_unseenCould xl_RX5_200 (by decide) (xsh_39) rfl rfl rfl (Nat.le_of_ble_eq_true rfl) (by decide +kernel) ?_
        show XW X 168 [(0, .ref 39), (1, .int l1), (2, .int l2), (3, .int l3), (4, .long l4), (6, .int l6), (7, .int l7)] [.long v_19, .long v_17, .long ((h.2 39 8) &&& (l4 ^^^ (-1 : Int64))), .int l7, .ref 49] h
        obtain ⟨hg, hf⟩ := xgd_inv hf
        refine Xblk hX pkX5_ok [.lor, .ldc2_w 154, .lxor, .land, .lastore, .aload_n 0, .getfield 42, .iload 7, .aload_n 0, .aload_n 0, .getfield 42, .iload 7, .iconst 1, .isub, .laload, .iload 7] (pc' := 193) (ls' := [(0, .ref 39), (1, .int l1), (2, .int l2), (3, .int l3), (4, .long l4), (6, .int l6), (7, .int l7)]) (st' := [.int l7, .long (h.2 50 (l7 - (1 : Int32)).toNatClampNeg), .ref 39, .int l7, .ref 50]) (h' := (xL h 49 l7.toNatClampNeg (((h.2 39 8) &&& (l4 ^^^ (-1 : Int64))) &&& ((v_17 ||| v_19) ^^^ (-1 : Int64))))) (g := (xin (l7 - (1 : Int32)) 21 && (xin l7 21 && true))) (by decide +kernel) rfl rfl hg ?_
        obtain ⟨v_21, hc_20, hf⟩ := xbd1_inv hf
        refine XcallV hX (mt_m_goOn (h.2 50 (l7 - (1 : Int32)).toNatClampNeg) l7 (xL h 49 l7.toNatClampNeg (((h.2 39 8) &&& (l4 ^^^ (-1 : Int64))) &&& ((v_17 ||| v_19) ^^^ (-1 : Int64)))) hc_20) (rest := [.int l7, .ref 50]) (by decide) (by decide) xm_X5_goOn xi_X5_goOn xs_X5_goOn xl_RX5_206 (by decide) (xsh_39) rfl rfl rfl (Nat.le_of_ble_eq_true rfl) (by decide +kernel) ?_
        show XW X 196 [(0, .ref 39), (1, .int l1), (2, .int l2), (3, .int l3), (4, .long l4), (6, .int l6), (7, .int l7)] [.long v_21, .int l7, .ref 50] (xL h 49 l7.toNatClampNeg (((h.2 39 8) &&& (l4 ^^^ (-1 : Int64))) &&& ((v_17 ||| v_19) ^^^ (-1 : Int64))))
        obtain ⟨hg, hf⟩ := xgd_inv hf
        refine Xblk hX pkX5_ok [.lastore, .aload_n 0, .getfield 42, .iload 7, .laload, .iload_n 2, .lshr, .lconst 1, .land, .lconst 1, .lcmp] (pc' := 210) (ls' := [(0, .ref 39), (1, .int l1), (2, .int l2), (3, .int l3), (4, .long l4), (6, .int l6), (7, .int l7)]) (st' := [.int (lg_cmp ((jshrL ((xL (xL h 49 l7.toNatClampNeg (((h.2 39 8) &&& (l4 ^^^ (-1 : Int64))) &&& ((v_17 ||| v_19) ^^^ (-1 : Int64)))) 50 l7.toNatClampNeg v_21).2 50 l7.toNatClampNeg) l2) &&& (1 : Int64)) (1 : Int64))]) (h' := (xL (xL h 49 l7.toNatClampNeg (((h.2 39 8) &&& (l4 ^^^ (-1 : Int64))) &&& ((v_17 ||| v_19) ^^^ (-1 : Int64)))) 50 l7.toNatClampNeg v_21)) (g := (xin l7 21 && (xin l7 21 && true))) (by decide +kernel) rfl rfl hg ?_
        have kJ_24 : ∀ (w_23 : Int32), w_23 = (if (lg_cmp ((jshrL ((xL (xL h 49 l7.toNatClampNeg (((h.2 39 8) &&& (l4 ^^^ (-1 : Int64))) &&& ((v_17 ||| v_19) ^^^ (-1 : Int64)))) 50 l7.toNatClampNeg v_21).2 50 l7.toNatClampNeg) l2) &&& (1 : Int64)) (1 : Int64)) = (0 : Int32) then l7 else (-9 : Int32)) → XW X 220 [(0, .ref 39), (1, .int l1), (2, .int l2), (3, .int l3), (4, .long l4), (7, .int l7)] [.int w_23] (xL (xL h 49 l7.toNatClampNeg (((h.2 39 8) &&& (l4 ^^^ (-1 : Int64))) &&& ((v_17 ||| v_19) ^^^ (-1 : Int64)))) 50 l7.toNatClampNeg v_21) := by
          intro w_23 ew_23
          subst ew_23
          refine Xblk hX pkX5_ok [.istore 6, .iinc 7 1] (pc' := 225) (ls' := [(7, .int (l7 + (1 : Int32))), (6, .int (if (lg_cmp ((jshrL ((xL (xL h 49 l7.toNatClampNeg (((h.2 39 8) &&& (l4 ^^^ (-1 : Int64))) &&& ((v_17 ||| v_19) ^^^ (-1 : Int64)))) 50 l7.toNatClampNeg v_21).2 50 l7.toNatClampNeg) l2) &&& (1 : Int64)) (1 : Int64)) = (0 : Int32) then l7 else (-9 : Int32))), (0, .ref 39), (1, .int l1), (2, .int l2), (3, .int l3), (4, .long l4)]) (st' := []) (h' := (xL (xL h 49 l7.toNatClampNeg (((h.2 39 8) &&& (l4 ^^^ (-1 : Int64))) &&& ((v_17 ||| v_19) ^^^ (-1 : Int64)))) 50 l7.toNatClampNeg v_21)) (g := true) (by decide +kernel) rfl rfl rfl ?_
          refine Xgoto hX (-102) 123 (by decide +kernel) (by decide) ?_
          refine XW.pick [2, 3, 4, 5, 6, 1, 0] (ls' := [(0, .ref 39), (1, .int l1), (2, .int l2), (3, .int l3), (4, .long l4), (6, .int (if (lg_cmp ((jshrL ((xL (xL h 49 l7.toNatClampNeg (((h.2 39 8) &&& (l4 ^^^ (-1 : Int64))) &&& ((v_17 ||| v_19) ^^^ (-1 : Int64)))) 50 l7.toNatClampNeg v_21).2 50 l7.toNatClampNeg) l2) &&& (1 : Int64)) (1 : Int64)) = (0 : Int32) then l7 else (-9 : Int32))), (7, .int (l7 + (1 : Int32)))]) rfl ?_
          exact ih (if (lg_cmp ((jshrL ((xL (xL h 49 l7.toNatClampNeg (((h.2 39 8) &&& (l4 ^^^ (-1 : Int64))) &&& ((v_17 ||| v_19) ^^^ (-1 : Int64)))) 50 l7.toNatClampNeg v_21).2 50 l7.toNatClampNeg) l2) &&& (1 : Int64)) (1 : Int64)) = (0 : Int32) then l7 else (-9 : Int32)) (l7 + (1 : Int32)) (xL (xL h 49 l7.toNatClampNeg (((h.2 39 8) &&& (l4 ^^^ (-1 : Int64))) &&& ((v_17 ||| v_19) ^^^ (-1 : Int64)))) 50 l7.toNatClampNeg v_21) hf
        refine XbrN hX (.ifCond .ne (8)) (tgt := 218) (P := (lg_cmp ((jshrL ((xL (xL h 49 l7.toNatClampNeg (((h.2 39 8) &&& (l4 ^^^ (-1 : Int64))) &&& ((v_17 ||| v_19) ^^^ (-1 : Int64)))) 50 l7.toNatClampNeg v_21).2 50 l7.toNatClampNeg) l2) &&& (1 : Int64)) (1 : Int64)) = (0 : Int32)) (r := []) (by decide +kernel) rfl (by decide) (fun hc_22 => ?_) (fun hc_22 => ?_)
        · refine Xblk hX pkX5_ok [.iload 7] (pc' := 215) (ls' := [(0, .ref 39), (1, .int l1), (2, .int l2), (3, .int l3), (4, .long l4), (6, .int l6), (7, .int l7)]) (st' := [.int l7]) (h' := (xL (xL h 49 l7.toNatClampNeg (((h.2 39 8) &&& (l4 ^^^ (-1 : Int64))) &&& ((v_17 ||| v_19) ^^^ (-1 : Int64)))) 50 l7.toNatClampNeg v_21)) (g := true) (by decide +kernel) rfl rfl rfl ?_
          refine Xgoto hX (5) 220 (by decide +kernel) (by decide) ?_
          refine XW.pick [0, 1, 2, 3, 4, 6] (ls' := [(0, .ref 39), (1, .int l1), (2, .int l2), (3, .int l3), (4, .long l4), (7, .int l7)]) rfl ?_
          exact kJ_24 _ (by rw [if_pos hc_22])
        · refine Xblk hX pkX5_ok [.bipush (-9)] (pc' := 220) (ls' := [(0, .ref 39), (1, .int l1), (2, .int l2), (3, .int l3), (4, .long l4), (6, .int l6), (7, .int l7)]) (st' := [.int (-9 : Int32)]) (h' := (xL (xL h 49 l7.toNatClampNeg (((h.2 39 8) &&& (l4 ^^^ (-1 : Int64))) &&& ((v_17 ||| v_19) ^^^ (-1 : Int64)))) 50 l7.toNatClampNeg v_21)) (g := true) (by decide +kernel) rfl rfl rfl ?_
          refine XW.pick [0, 1, 2, 3, 4, 6] (ls' := [(0, .ref 39), (1, .int l1), (2, .int l2), (3, .int l3), (4, .long l4), (7, .int l7)]) rfl ?_
          exact kJ_24 _ (by rw [if_neg hc_22])
      · replace hf := xif_f hc_15 hf
        refine XW.pick [0, 1, 2, 3, 5] (ls' := [(0, .ref 39), (1, .int l1), (2, .int l2), (3, .int l3), (6, .int l6)]) rfl ?_
        exact hk l6 l7 h hf
set_option maxRecDepth 100000 in
set_option maxHeartbeats 4000000 in
theorem f_m_soonest_L_32_ok {X : XCtx} (hX : XOk X RX5 cX5_soonest 11 5 66) {r : Int32} {h' : Hp} (hR : XR X (some .int) (some (.int r)) h')  (l1 : Int32) (h : Hp) (k : Int64 → Int32 → Option (Int32 × Hp))  (hk : ∀ (l7 : Int64) (l9 : Int32), k l7 l9 = some (r, h') → XW X 296 [(0, .ref 39), (1, .int l1), (7, .long l7)] [] h) : ∀ (n : Nat) (l7 : Int64) (l9 : Int32), f_m_soonest_L_32 l1 h k n l7 l9 = some (r, h') → XW X 265 [(0, .ref 39), (1, .int l1), (7, .long l7), (9, .int l9)] [] h := by
  intro n
  induction n with
  | zero => intro l7 l9 hf; cases hf
  | succ n ih =>
    intro l7 l9 hf
    rw [f_m_soonest_L_32] at hf
    refine Xblk hX pkX5_ok [.iload 9, .iconst 1] (pc' := 268) (ls' := [(0, .ref 39), (1, .int l1), (7, .long l7), (9, .int l9)]) (st' := [.int (1 : Int32), .int l9]) (h' := h) (g := true) (by decide +kernel) rfl rfl rfl ?_
    refine Xbr hX (.if_icmp .le (28)) (tgt := 296) (P := l9 ≤ (1 : Int32)) (r := []) (by decide +kernel) rfl (by decide) (fun hc_33 => ?_) (fun hc_33 => ?_)
    · replace hf := xif_t hc_33 hf
      refine XW.pick [0, 1, 2] (ls' := [(0, .ref 39), (1, .int l1), (7, .long l7)]) rfl ?_
      exact hk l7 l9 hf
    · replace hf := xif_f hc_33 hf
      obtain ⟨hg, hf⟩ := xgd_inv hf
      refine Xblk hX pkX5_ok [.lload 7, .aload_n 0, .lload 7, .aload_n 0, .getfield 38, .iload 9, .laload, .land] (pc' := 284) (ls' := [(0, .ref 39), (1, .int l1), (7, .long l7), (9, .int l9)]) (st' := [.long (l7 &&& (h.2 49 l9.toNatClampNeg)), .ref 39, .long l7]) (h' := h) (g := (xin l9 21 && true)) (by decide +kernel) rfl rfl hg ?_
      refine XcallV hX (mt_m_spread (l7 &&& (h.2 49 l9.toNatClampNeg)) h) (rest := [.long l7]) (by decide) (by decide) xm_X5_spread xi_X5_spread xs_X5_spread xl_RX5_185 (by decide) (xsh_39) rfl rfl rfl (Nat.le_of_ble_eq_true rfl) (by decide +kernel) ?_
      show XW X 287 [(0, .ref 39), (1, .int l1), (7, .long l7), (9, .int l9)] [.long (f_m_spread (l7 &&& (h.2 49 l9.toNatClampNeg)) h), .long l7] h
      refine Xblk hX pkX5_ok [.lor, .lstore 7, .iinc 9 (-1)] (pc' := 293) (ls' := [(9, .int (l9 + (-1 : Int32))), (7, .long (l7 ||| (f_m_spread (l7 &&& (h.2 49 l9.toNatClampNeg)) h))), (0, .ref 39), (1, .int l1)]) (st' := []) (h' := h) (g := true) (by decide +kernel) rfl rfl rfl ?_
      refine Xgoto hX (-28) 265 (by decide +kernel) (by decide) ?_
      refine XW.pick [2, 3, 1, 0] (ls' := [(0, .ref 39), (1, .int l1), (7, .long (l7 ||| (f_m_spread (l7 &&& (h.2 49 l9.toNatClampNeg)) h))), (9, .int (l9 + (-1 : Int32)))]) rfl ?_
      exact ih (l7 ||| (f_m_spread (l7 &&& (h.2 49 l9.toNatClampNeg)) h)) (l9 + (-1 : Int32)) hf
set_option maxRecDepth 100000 in
set_option maxHeartbeats 4000000 in
theorem f_m_soonest_L_36_ok {X : XCtx} (hX : XOk X RX5 cX5_soonest 11 5 66) {r : Int32} {h' : Hp} (hR : XR X (some .int) (some (.int r)) h')  (l1 : Int32) (l7 : Int64) (h : Hp) (k : Int32 → Option (Int32 × Hp))  (hk : ∀ (l9 : Int32), k l9 = some (r, h') → XW X 354 [] [] h) : ∀ (n : Nat) (l9 : Int32), f_m_soonest_L_36 l1 l7 h k n l9 = some (r, h') → XW X 299 [(0, .ref 39), (1, .int l1), (7, .long l7), (9, .int l9)] [] h := by
  intro n
  induction n with
  | zero => intro l9 hf; cases hf
  | succ n ih =>
    intro l9 hf
    rw [f_m_soonest_L_36] at hf
    refine Xblk hX pkX5_ok [.iload 9, .iconst 4] (pc' := 302) (ls' := [(0, .ref 39), (1, .int l1), (7, .long l7), (9, .int l9)]) (st' := [.int (4 : Int32), .int l9]) (h' := h) (g := true) (by decide +kernel) rfl rfl rfl ?_
    refine Xbr hX (.if_icmp .ge (52)) (tgt := 354) (P := (4 : Int32) ≤ l9) (r := []) (by decide +kernel) rfl (by decide) (fun hc_37 => ?_) (fun hc_37 => ?_)
    · replace hf := xif_t hc_37 hf
      refine XW.pick [] (ls' := []) rfl ?_
      exact hk l9 hf
    · replace hf := xif_f hc_37 hf
      obtain ⟨hg, hf⟩ := xgd_inv hf
      refine Xblk hX pkX5_ok [.aload_n 0, .aload_n 0, .getfield 26, .iload_n 1, .iaload, .iload 9] (pc' := 314) (ls' := [(0, .ref 39), (1, .int l1), (7, .long l7), (9, .int l9)]) (st' := [.int l9, .int (h.1 45 l1.toNatClampNeg), .ref 39]) (h' := h) (g := (xin l1 6 && true)) (by decide +kernel) rfl rfl hg ?_
      refine XcallV hX (mt_m_beside (h.1 45 l1.toNatClampNeg) l9 h) (rest := []) (by decide) (by decide) xm_X5_beside xi_X5_beside xs_X5_beside xl_RX5_156 (by decide) (xsh_39) rfl rfl rfl (Nat.le_of_ble_eq_true rfl) (by decide +kernel) ?_
      show XW X 317 [(0, .ref 39), (1, .int l1), (7, .long l7), (9, .int l9)] [.int (f_m_beside (h.1 45 l1.toNatClampNeg) l9 h)] h
      refine Xblk hX pkX5_ok [.istore 10, .iload 10, .bipush (-9)] (pc' := 323) (ls' := [(10, .int (f_m_beside (h.1 45 l1.toNatClampNeg) l9 h)), (0, .ref 39), (1, .int l1), (7, .long l7), (9, .int l9)]) (st' := [.int (-9 : Int32), .int (f_m_beside (h.1 45 l1.toNatClampNeg) l9 h)]) (h' := h) (g := true) (by decide +kernel) rfl rfl rfl ?_
      refine Xbr hX (.if_icmp .eq (25)) (tgt := 348) (P := (f_m_beside (h.1 45 l1.toNatClampNeg) l9 h) = (-9 : Int32)) (r := []) (by decide +kernel) rfl (by decide) (fun hc_38 => ?_) (fun hc_38 => ?_)
      · replace hf := xif_t hc_38 hf
        refine Xblk hX pkX5_ok [.iinc 9 1] (pc' := 351) (ls' := [(9, .int (l9 + (1 : Int32))), (10, .int (f_m_beside (h.1 45 l1.toNatClampNeg) l9 h)), (0, .ref 39), (1, .int l1), (7, .long l7)]) (st' := []) (h' := h) (g := true) (by decide +kernel) rfl rfl rfl ?_
        refine Xgoto hX (-52) 299 (by decide +kernel) (by decide) ?_
        refine XW.pick [2, 3, 4, 0] (ls' := [(0, .ref 39), (1, .int l1), (7, .long l7), (9, .int (l9 + (1 : Int32)))]) rfl ?_
        exact ih (l9 + (1 : Int32)) hf
      · replace hf := xif_f hc_38 hf
        refine Xblk hX pkX5_ok [.lload 7, .aload_n 0, .getfield 38, .iconst 1, .laload, .land, .iload 10, .lshr, .lconst 1, .land, .lconst 1, .lcmp] (pc' := 342) (ls' := [(10, .int (f_m_beside (h.1 45 l1.toNatClampNeg) l9 h)), (0, .ref 39), (1, .int l1), (7, .long l7), (9, .int l9)]) (st' := [.int (lg_cmp ((jshrL (l7 &&& (h.2 49 1)) (f_m_beside (h.1 45 l1.toNatClampNeg) l9 h)) &&& (1 : Int64)) (1 : Int64))]) (h' := h) (g := true) (by decide +kernel) rfl rfl rfl ?_
        refine XbrN hX (.ifCond .ne (6)) (tgt := 348) (P := (lg_cmp ((jshrL (l7 &&& (h.2 49 1)) (f_m_beside (h.1 45 l1.toNatClampNeg) l9 h)) &&& (1 : Int64)) (1 : Int64)) = (0 : Int32)) (r := []) (by decide +kernel) rfl (by decide) (fun hc_39 => ?_) (fun hc_39 => ?_)
        · replace hf := xif_t hc_39 hf
          refine Xblk hX pkX5_ok [.iload 9] (pc' := 347) (ls' := [(10, .int (f_m_beside (h.1 45 l1.toNatClampNeg) l9 h)), (0, .ref 39), (1, .int l1), (7, .long l7), (9, .int l9)]) (st' := [.int l9]) (h' := h) (g := true) (by decide +kernel) rfl rfl rfl ?_
          exact XrI2 hX hR hf (by decide +kernel)
        · replace hf := xif_f hc_39 hf
          refine Xblk hX pkX5_ok [.iinc 9 1] (pc' := 351) (ls' := [(9, .int (l9 + (1 : Int32))), (10, .int (f_m_beside (h.1 45 l1.toNatClampNeg) l9 h)), (0, .ref 39), (1, .int l1), (7, .long l7)]) (st' := []) (h' := h) (g := true) (by decide +kernel) rfl rfl rfl ?_
          refine Xgoto hX (-52) 299 (by decide +kernel) (by decide) ?_
          refine XW.pick [2, 3, 4, 0] (ls' := [(0, .ref 39), (1, .int l1), (7, .long l7), (9, .int (l9 + (1 : Int32)))]) rfl ?_
          exact ih (l9 + (1 : Int32)) hf
set_option maxRecDepth 100000 in
set_option maxHeartbeats 4000000 in
theorem f_m_soonest_j_28_ok {X : XCtx} (hX : XOk X RX5 cX5_soonest 11 5 66) {r : Int32} {h' : Hp} (hR : XR X (some .int) (some (.int r)) h')   (l1 : Int32) (l2 : Int32) (l3 : Int32) (l6 : Int32) (h : Hp)  (hf : f_m_soonest_j_28 l1 l2 l3 l6 h = some (r, h')) : XW X 228 [(0, .ref 39), (1, .int l1), (2, .int l2), (3, .int l3), (6, .int l6)] [] h := by
  unfold f_m_soonest_j_28 at hf
  refine Xblk hX pkX5_ok [.iload_n 3] (pc' := 229) (ls' := [(0, .ref 39), (1, .int l1), (2, .int l2), (3, .int l3), (6, .int l6)]) (st' := [.int l3]) (h' := h) (g := true) (by decide +kernel) rfl rfl rfl ?_
  refine Xbr hX (.ifCond .eq (15)) (tgt := 244) (P := l3 = (0 : Int32)) (r := []) (by decide +kernel) rfl (by decide) (fun hc_29 => ?_) (fun hc_29 => ?_)
  · replace hf := xif_t hc_29 hf
    refine Xblk hX pkX5_ok [.iload_n 3] (pc' := 245) (ls' := [(0, .ref 39), (1, .int l1), (2, .int l2), (3, .int l3), (6, .int l6)]) (st' := [.int l3]) (h' := h) (g := true) (by decide +kernel) rfl rfl rfl ?_
    refine XbrN hX (.ifCond .ne (8)) (tgt := 253) (P := l3 = (0 : Int32)) (r := []) (by decide +kernel) rfl (by decide) (fun _ => ?_) (fun hn => absurd hc_29 hn)
    refine Xblk hX pkX5_ok [.iload 6] (pc' := 250) (ls' := [(0, .ref 39), (1, .int l1), (2, .int l2), (3, .int l3), (6, .int l6)]) (st' := [.int l6]) (h' := h) (g := true) (by decide +kernel) rfl rfl rfl ?_
    refine Xgoto hX (5) 255 (by decide +kernel) (by decide) ?_
    exact XrI2 hX hR hf (by decide +kernel)
  · replace hf := xif_f hc_29 hf
    refine Xblk hX pkX5_ok [.iload 6, .bipush (-9)] (pc' := 236) (ls' := [(0, .ref 39), (1, .int l1), (2, .int l2), (3, .int l3), (6, .int l6)]) (st' := [.int (-9 : Int32), .int l6]) (h' := h) (g := true) (by decide +kernel) rfl rfl rfl ?_
    refine Xbr hX (.if_icmp .eq (8)) (tgt := 244) (P := l6 = (-9 : Int32)) (r := []) (by decide +kernel) rfl (by decide) (fun hc_30 => ?_) (fun hc_30 => ?_)
    · replace hf := xif_t hc_30 hf
      refine Xblk hX pkX5_ok [.iload_n 3] (pc' := 245) (ls' := [(0, .ref 39), (1, .int l1), (2, .int l2), (3, .int l3), (6, .int l6)]) (st' := [.int l3]) (h' := h) (g := true) (by decide +kernel) rfl rfl rfl ?_
      refine XbrN hX (.ifCond .ne (8)) (tgt := 253) (P := l3 = (0 : Int32)) (r := []) (by decide +kernel) rfl (by decide) (fun hn => absurd hn hc_29) (fun _ => ?_)
      refine Xblk hX pkX5_ok [.bipush (-9)] (pc' := 255) (ls' := [(0, .ref 39), (1, .int l1), (2, .int l2), (3, .int l3), (6, .int l6)]) (st' := [.int (-9 : Int32)]) (h' := h) (g := true) (by decide +kernel) rfl rfl rfl ?_
      exact XrI2 hX hR hf (by decide +kernel)
    · replace hf := xif_f hc_30 hf
      refine Xblk hX pkX5_ok [.iload 6] (pc' := 241) (ls' := [(0, .ref 39), (1, .int l1), (2, .int l2), (3, .int l3), (6, .int l6)]) (st' := [.int l6]) (h' := h) (g := true) (by decide +kernel) rfl rfl rfl ?_
      refine XbrN hX (.ifCond .ne (15)) (tgt := 256) (P := l6 = (0 : Int32)) (r := []) (by decide +kernel) rfl (by decide) (fun hc_31 => ?_) (fun hc_31 => ?_)
      · replace hf := xif_t hc_31 hf
        refine Xblk hX pkX5_ok [.iload_n 3] (pc' := 245) (ls' := [(0, .ref 39), (1, .int l1), (2, .int l2), (3, .int l3), (6, .int l6)]) (st' := [.int l3]) (h' := h) (g := true) (by decide +kernel) rfl rfl rfl ?_
        refine XbrN hX (.ifCond .ne (8)) (tgt := 253) (P := l3 = (0 : Int32)) (r := []) (by decide +kernel) rfl (by decide) (fun hn => absurd hn hc_29) (fun _ => ?_)
        refine Xblk hX pkX5_ok [.bipush (-9)] (pc' := 255) (ls' := [(0, .ref 39), (1, .int l1), (2, .int l2), (3, .int l3), (6, .int l6)]) (st' := [.int (-9 : Int32)]) (h' := h) (g := true) (by decide +kernel) rfl rfl rfl ?_
        exact XrI2 hX hR hf (by decide +kernel)
      · replace hf := xif_f hc_31 hf
        refine Xblk hX pkX5_ok [.lconst 1, .iload_n 2, .lshl, .lstore 7, .iload 6, .istore 9] (pc' := 265) (ls' := [(9, .int l6), (7, .long (jshlL (1 : Int64) l2)), (0, .ref 39), (1, .int l1), (2, .int l2), (3, .int l3), (6, .int l6)]) (st' := []) (h' := h) (g := true) (by decide +kernel) rfl rfl rfl ?_
        refine XW.pick [2, 3, 1, 0] (ls' := [(0, .ref 39), (1, .int l1), (7, .long (jshlL (1 : Int64) l2)), (9, .int l6)]) rfl ?_
        refine f_m_soonest_L_32_ok hX hR l1 h _  (fun l7_34 l9_35 hf => ?_) 1000 (jshlL (1 : Int64) l2) l6 hf
        refine Xblk hX pkX5_ok [.iconst 0, .istore 9] (pc' := 299) (ls' := [(9, .int (0 : Int32)), (0, .ref 39), (1, .int l1), (7, .long l7_34)]) (st' := []) (h' := h) (g := true) (by decide +kernel) rfl rfl rfl ?_
        refine XW.pick [1, 2, 3, 0] (ls' := [(0, .ref 39), (1, .int l1), (7, .long l7_34), (9, .int (0 : Int32))]) rfl ?_
        refine f_m_soonest_L_36_ok hX hR l1 l7_34 h _  (fun l9_40 hf => ?_) 1000 (0 : Int32) hf
        refine Xblk hX pkX5_ok [.iconst 4] (pc' := 355) (ls' := []) (st' := [.int (4 : Int32)]) (h' := h) (g := true) (by decide +kernel) rfl rfl rfl ?_
        exact XrI2 hX hR hf (by decide +kernel)
set_option maxRecDepth 100000 in
set_option maxHeartbeats 4000000 in
theorem mt_m_soonest (l1 : Int32) (l2 : Int32) (l3 : Int32) (h : Hp) {r : Int32} {h' : Hp} (hf : f_m_soonest l1 l2 l3 h = some (r, h')) : MT 5 66 yX5_soonest cX5_soonest 11 (some .int) [.ref 39, .int l1, .int l2, .int l3] h (some (.int r)) h' := by
  refine MT.of (by decide +kernel) (Nat.le_of_ble_eq_true rfl) fun X hX hR => ?_
  unfold f_m_soonest at hf
  refine Xblk hX pkX5_ok [.aload_n 0, .iload_n 1] (pc' := 2) (ls' := [(0, .ref 39), (1, .int l1), (2, .int l2), (3, .int l3)]) (st' := [.int l1, .ref 39]) (h' := h) (g := true) (by decide +kernel) rfl rfl rfl ?_
  refine XcallV hX (mt_m_isCarrier l1 h) (rest := []) (by decide) (by decide) xm_X5_isCarrier xi_X5_isCarrier xs_X5_isCarrier xl_RX5_175 (by decide) (xsh_39) rfl rfl rfl (Nat.le_of_ble_eq_true rfl) (by decide +kernel) ?_
  show XW X 5 [(0, .ref 39), (1, .int l1), (2, .int l2), (3, .int l3)] [.int (f_m_isCarrier l1 h)] h
  refine Xbr hX (.ifCond .eq (20)) (tgt := 25) (P := (f_m_isCarrier l1 h) = (0 : Int32)) (r := []) (by decide +kernel) rfl (by decide) (fun hc_1 => ?_) (fun hc_1 => ?_)
  · replace hf := xif_t hc_1 hf
    refine Xblk hX pkX5_ok [.iconst (-1)] (pc' := 26) (ls' := [(0, .ref 39), (1, .int l1), (2, .int l2), (3, .int l3)]) (st' := [.int (-1 : Int32)]) (h' := h) (g := true) (by decide +kernel) rfl rfl rfl ?_
    exact XrI2 hX hR hf (by decide +kernel)
  · replace hf := xif_f hc_1 hf
    refine Xblk hX pkX5_ok [.aload_n 0, .iload_n 2] (pc' := 10) (ls' := [(0, .ref 39), (1, .int l1), (2, .int l2), (3, .int l3)]) (st' := [.int l2, .ref 39]) (h' := h) (g := true) (by decide +kernel) rfl rfl rfl ?_
    refine XcallV hX (mt_m_isCell l2 h) (rest := []) (by decide) (by decide) xm_X5_isCell xi_X5_isCell xs_X5_isCell xl_RX5_144 (by decide) (xsh_39) rfl rfl rfl (Nat.le_of_ble_eq_true rfl) (by decide +kernel) ?_
    show XW X 13 [(0, .ref 39), (1, .int l1), (2, .int l2), (3, .int l3)] [.int (f_m_isCell l2 h)] h
    refine Xbr hX (.ifCond .eq (12)) (tgt := 25) (P := (f_m_isCell l2 h) = (0 : Int32)) (r := []) (by decide +kernel) rfl (by decide) (fun hc_2 => ?_) (fun hc_2 => ?_)
    · replace hf := xif_t hc_2 hf
      refine Xblk hX pkX5_ok [.iconst (-1)] (pc' := 26) (ls' := [(0, .ref 39), (1, .int l1), (2, .int l2), (3, .int l3)]) (st' := [.int (-1 : Int32)]) (h' := h) (g := true) (by decide +kernel) rfl rfl rfl ?_
      exact XrI2 hX hR hf (by decide +kernel)
    · replace hf := xif_f hc_2 hf
      refine Xblk hX pkX5_ok [.iload_n 3, .iconst 0, .iconst 1] (pc' := 19) (ls' := [(0, .ref 39), (1, .int l1), (2, .int l2), (3, .int l3)]) (st' := [.int (1 : Int32), .int (0 : Int32), .int l3]) (h' := h) (g := true) (by decide +kernel) rfl rfl rfl ?_
      refine XcallS hX (mt_m_in l3 (0 : Int32) (1 : Int32) h) (rest := []) (by decide) (by decide) xm_X5_in xi_X5_in xl_RX5_107 rfl (Nat.le_of_ble_eq_true rfl) (by decide +kernel) ?_
      show XW X 22 [(0, .ref 39), (1, .int l1), (2, .int l2), (3, .int l3)] [.int (f_m_in l3 (0 : Int32) (1 : Int32))] h
      refine XbrN hX (.ifCond .ne (5)) (tgt := 27) (P := (f_m_in l3 (0 : Int32) (1 : Int32)) = (0 : Int32)) (r := []) (by decide +kernel) rfl (by decide) (fun hc_3 => ?_) (fun hc_3 => ?_)
      · replace hf := xif_t hc_3 hf
        refine Xblk hX pkX5_ok [.iconst (-1)] (pc' := 26) (ls' := [(0, .ref 39), (1, .int l1), (2, .int l2), (3, .int l3)]) (st' := [.int (-1 : Int32)]) (h' := h) (g := true) (by decide +kernel) rfl rfl rfl ?_
        exact XrI2 hX hR hf (by decide +kernel)
      · replace hf := xif_f hc_3 hf
        refine Xblk hX pkX5_ok [.aload_n 0, .iload_n 2] (pc' := 29) (ls' := [(0, .ref 39), (1, .int l1), (2, .int l2), (3, .int l3)]) (st' := [.int l2, .ref 39]) (h' := h) (g := true) (by decide +kernel) rfl rfl rfl ?_
        refine XcallV hX (mt_m_isFree l2 h) (rest := []) (by decide) (by decide) xm_X5_isFree xi_X5_isFree xs_X5_isFree xl_RX5_151 (by decide) (xsh_39) rfl rfl rfl (Nat.le_of_ble_eq_true rfl) (by decide +kernel) ?_
        show XW X 32 [(0, .ref 39), (1, .int l1), (2, .int l2), (3, .int l3)] [.int (f_m_isFree l2 h)] h
        refine XbrN hX (.ifCond .ne (6)) (tgt := 38) (P := (f_m_isFree l2 h) = (0 : Int32)) (r := []) (by decide +kernel) rfl (by decide) (fun hc_4 => ?_) (fun hc_4 => ?_)
        · replace hf := xif_t hc_4 hf
          refine Xblk hX pkX5_ok [.bipush (-2)] (pc' := 37) (ls' := [(0, .ref 39), (1, .int l1), (2, .int l2), (3, .int l3)]) (st' := [.int (-2 : Int32)]) (h' := h) (g := true) (by decide +kernel) rfl rfl rfl ?_
          exact XrI2 hX hR hf (by decide +kernel)
        · replace hf := xif_f hc_4 hf
          refine Xblk hX pkX5_ok [.lconst 0, .lstore 4, .iconst 0, .istore 6] (pc' := 44) (ls' := [(6, .int (0 : Int32)), (4, .long (0 : Int64)), (0, .ref 39), (1, .int l1), (2, .int l2), (3, .int l3)]) (st' := []) (h' := h) (g := true) (by decide +kernel) rfl rfl rfl ?_
          refine XW.pick [2, 3, 4, 5, 1, 0] (ls' := [(0, .ref 39), (1, .int l1), (2, .int l2), (3, .int l3), (4, .long (0 : Int64)), (6, .int (0 : Int32))]) rfl ?_
          refine f_m_soonest_L_5_ok hX hR l1 l2 l3 h _  (fun l4_9 l6_10 hf => ?_) 1000 (0 : Int64) (0 : Int32) hf
          obtain ⟨hg, hf⟩ := xgd_inv hf
          refine Xblk hX pkX5_ok [.aload_n 0, .getfield 42, .iconst 0, .lconst 1, .aload_n 0, .getfield 26, .iload_n 1, .iaload, .lshl, .lastore, .aload_n 0, .getfield 42, .iconst 0, .laload, .iload_n 2, .lshr, .lconst 1, .land, .lconst 1, .lcmp] (pc' := 109) (ls' := [(0, .ref 39), (1, .int l1), (2, .int l2), (3, .int l3), (4, .long l4_9)]) (st' := [.int (lg_cmp ((jshrL (jshlL (1 : Int64) (h.1 45 l1.toNatClampNeg)) l2) &&& (1 : Int64)) (1 : Int64))]) (h' := (xL h 50 0 (jshlL (1 : Int64) (h.1 45 l1.toNatClampNeg)))) (g := (xin l1 6 && true)) (by decide +kernel) rfl rfl hg ?_
          have kJ_41 : ∀ (w_12 : Int32), w_12 = (if (lg_cmp ((jshrL (jshlL (1 : Int64) (h.1 45 l1.toNatClampNeg)) l2) &&& (1 : Int64)) (1 : Int64)) = (0 : Int32) then (0 : Int32) else (-9 : Int32)) → XW X 118 [(0, .ref 39), (1, .int l1), (2, .int l2), (3, .int l3), (4, .long l4_9)] [.int w_12] (xL h 50 0 (jshlL (1 : Int64) (h.1 45 l1.toNatClampNeg))) := by
            intro w_12 ew_12
            subst ew_12
            refine Xblk hX pkX5_ok [.istore 6, .iconst 1, .istore 7] (pc' := 123) (ls' := [(7, .int (1 : Int32)), (6, .int (if (lg_cmp ((jshrL (jshlL (1 : Int64) (h.1 45 l1.toNatClampNeg)) l2) &&& (1 : Int64)) (1 : Int64)) = (0 : Int32) then (0 : Int32) else (-9 : Int32))), (0, .ref 39), (1, .int l1), (2, .int l2), (3, .int l3), (4, .long l4_9)]) (st' := []) (h' := (xL h 50 0 (jshlL (1 : Int64) (h.1 45 l1.toNatClampNeg)))) (g := true) (by decide +kernel) rfl rfl rfl ?_
            refine XW.pick [2, 3, 4, 5, 6, 1, 0] (ls' := [(0, .ref 39), (1, .int l1), (2, .int l2), (3, .int l3), (4, .long l4_9), (6, .int (if (lg_cmp ((jshrL (jshlL (1 : Int64) (h.1 45 l1.toNatClampNeg)) l2) &&& (1 : Int64)) (1 : Int64)) = (0 : Int32) then (0 : Int32) else (-9 : Int32))), (7, .int (1 : Int32))]) rfl ?_
            refine f_m_soonest_L_13_ok hX hR l1 l2 l3 l4_9 _  (fun l6_25 l7_26 h_27 hf => ?_) 1000 (if (lg_cmp ((jshrL (jshlL (1 : Int64) (h.1 45 l1.toNatClampNeg)) l2) &&& (1 : Int64)) (1 : Int64)) = (0 : Int32) then (0 : Int32) else (-9 : Int32)) (1 : Int32) (xL h 50 0 (jshlL (1 : Int64) (h.1 45 l1.toNatClampNeg))) hf
            refine XW.pick [0, 1, 2, 3, 4] (ls' := [(0, .ref 39), (1, .int l1), (2, .int l2), (3, .int l3), (6, .int l6_25)]) rfl ?_
            exact f_m_soonest_j_28_ok hX hR l1 l2 l3 l6_25 h_27 hf
          refine XbrN hX (.ifCond .ne (7)) (tgt := 116) (P := (lg_cmp ((jshrL (jshlL (1 : Int64) (h.1 45 l1.toNatClampNeg)) l2) &&& (1 : Int64)) (1 : Int64)) = (0 : Int32)) (r := []) (by decide +kernel) rfl (by decide) (fun hc_11 => ?_) (fun hc_11 => ?_)
          · refine Xblk hX pkX5_ok [.iconst 0] (pc' := 113) (ls' := [(0, .ref 39), (1, .int l1), (2, .int l2), (3, .int l3), (4, .long l4_9)]) (st' := [.int (0 : Int32)]) (h' := (xL h 50 0 (jshlL (1 : Int64) (h.1 45 l1.toNatClampNeg)))) (g := true) (by decide +kernel) rfl rfl rfl ?_
            refine Xgoto hX (5) 118 (by decide +kernel) (by decide) ?_
            refine XW.pick [0, 1, 2, 3, 4] (ls' := [(0, .ref 39), (1, .int l1), (2, .int l2), (3, .int l3), (4, .long l4_9)]) rfl ?_
            exact kJ_41 _ (by rw [if_pos hc_11])
          · refine Xblk hX pkX5_ok [.bipush (-9)] (pc' := 118) (ls' := [(0, .ref 39), (1, .int l1), (2, .int l2), (3, .int l3), (4, .long l4_9)]) (st' := [.int (-9 : Int32)]) (h' := (xL h 50 0 (jshlL (1 : Int64) (h.1 45 l1.toNatClampNeg)))) (g := true) (by decide +kernel) rfl rfl rfl ?_
            refine XW.pick [0, 1, 2, 3, 4] (ls' := [(0, .ref 39), (1, .int l1), (2, .int l2), (3, .int l3), (4, .long l4_9)]) rfl ?_
            exact kJ_41 _ (by rw [if_neg hc_11])
def f_m_act_j_12  (l1 : Int32) (l2 : Int32) (l3 : Int32) (s0 : Int32) (s1 : Int32) (h : Hp) : Option (Int32 × Hp) :=
  xgd (xin (((5 : Int32) * (h.1 39 20)) + (4 : Int32)) 1500 && (xin (((5 : Int32) * (h.1 39 20)) + (3 : Int32)) 1500 && (xin l1 6 && (xin (((5 : Int32) * (h.1 39 20)) + (2 : Int32)) 1500 && (xin (((5 : Int32) * (h.1 39 20)) + (1 : Int32)) 1500 && (xin ((5 : Int32) * (h.1 39 20)) 1500 && (xin s1 6 && true))))))) <|
  xbd1 (f_m_lookAbout l1 (xI (xI (xI (xI (xI (xI (xI h 45 s1.toNatClampNeg s0) 48 ((5 : Int32) * (h.1 39 20)).toNatClampNeg (h.1 39 19)) 48 (((5 : Int32) * (h.1 39 20)) + (1 : Int32)).toNatClampNeg l1) 48 (((5 : Int32) * (h.1 39 20)) + (2 : Int32)).toNatClampNeg l2) 48 (((5 : Int32) * (h.1 39 20)) + (3 : Int32)).toNatClampNeg ((xI h 45 s1.toNatClampNeg s0).1 45 l1.toNatClampNeg)) 48 (((5 : Int32) * (h.1 39 20)) + (4 : Int32)).toNatClampNeg l3) 39 20 ((h.1 39 20) + (1 : Int32)))) fun h_14 =>
  some (l3, h_14)
def f_m_act_j_11  (l1 : Int32) (l2 : Int32) (l3 : Int32) (s0 : Int32) (h : Hp) : Option (Int32 × Hp) :=
  xgd (xin l1 6 && true) <|
  f_m_act_j_12 l1 l2 l3 (h.1 45 l1.toNatClampNeg) s0 h
def f_m_act (l1 : Int32) (l2 : Int32) (h : Hp) : Option (Int32 × Hp) :=
  if (f_m_isCarrier l1 h) = (0 : Int32) then
    some ((-1 : Int32), h)
  else
    if (f_m_in l2 (0 : Int32) (4 : Int32)) = (0 : Int32) then
      some ((-1 : Int32), h)
    else
      if (h.1 39 20) = (100 : Int32) then
        some ((-3 : Int32), h)
      else
        xbd1 (f_m_why l1 l2 h) fun v_5 =>
        if v_5 = (0 : Int32) then
          if (4 : Int32) ≤ l2 then
            f_m_act_j_11 l1 l2 v_5 l1 h
          else
            xgd (xin l1 6 && true) <|
            f_m_act_j_12 l1 l2 v_5 (f_m_beside (h.1 45 l1.toNatClampNeg) l2 h) l1 h
        else
          f_m_act_j_11 l1 l2 v_5 l1 h
set_option maxRecDepth 100000 in
set_option maxHeartbeats 4000000 in
theorem f_m_act_j_12_ok {X : XCtx} (hX : XOk X RX5 cX5_act 4 6 66) {r : Int32} {h' : Hp} (hR : XR X (some .int) (some (.int r)) h')   (l1 : Int32) (l2 : Int32) (l3 : Int32) (s0 : Int32) (s1 : Int32) (h : Hp)  (hf : f_m_act_j_12 l1 l2 l3 s0 s1 h = some (r, h')) : XW X 72 [(0, .ref 39), (1, .int l1), (2, .int l2), (3, .int l3)] [.int s0, .int s1, .ref 45] h := by
  unfold f_m_act_j_12 at hf
  obtain ⟨hg, hf⟩ := xgd_inv hf
  refine Xblk hX pkX5_ok [.iastore, .aload_n 0, .getfield 35, .iconst 5, .aload_n 0, .getfield 138, .imul, .aload_n 0, .getfield 141, .iastore, .aload_n 0, .getfield 35, .iconst 5, .aload_n 0, .getfield 138, .imul, .iconst 1, .iadd, .iload_n 1, .iastore, .aload_n 0, .getfield 35, .iconst 5, .aload_n 0, .getfield 138, .imul, .iconst 2, .iadd, .iload_n 2, .iastore, .aload_n 0, .getfield 35, .iconst 5, .aload_n 0, .getfield 138, .imul, .iconst 3, .iadd, .aload_n 0, .getfield 26, .iload_n 1, .iaload, .iastore, .aload_n 0, .getfield 35, .iconst 5, .aload_n 0, .getfield 138, .imul, .iconst 4, .iadd, .iload_n 3, .iastore, .aload_n 0, .dup, .getfield 138, .iconst 1, .iadd, .putfield 138, .aload_n 0, .iload_n 1] (pc' := 161) (ls' := [(0, .ref 39), (1, .int l1), (2, .int l2), (3, .int l3)]) (st' := [.int l1, .ref 39]) (h' := (xI (xI (xI (xI (xI (xI (xI h 45 s1.toNatClampNeg s0) 48 ((5 : Int32) * (h.1 39 20)).toNatClampNeg (h.1 39 19)) 48 (((5 : Int32) * (h.1 39 20)) + (1 : Int32)).toNatClampNeg l1) 48 (((5 : Int32) * (h.1 39 20)) + (2 : Int32)).toNatClampNeg l2) 48 (((5 : Int32) * (h.1 39 20)) + (3 : Int32)).toNatClampNeg ((xI h 45 s1.toNatClampNeg s0).1 45 l1.toNatClampNeg)) 48 (((5 : Int32) * (h.1 39 20)) + (4 : Int32)).toNatClampNeg l3) 39 20 ((h.1 39 20) + (1 : Int32)))) (g := (xin (((5 : Int32) * (h.1 39 20)) + (4 : Int32)) 1500 && (xin (((5 : Int32) * (h.1 39 20)) + (3 : Int32)) 1500 && (xin l1 6 && (xin (((5 : Int32) * (h.1 39 20)) + (2 : Int32)) 1500 && (xin (((5 : Int32) * (h.1 39 20)) + (1 : Int32)) 1500 && (xin ((5 : Int32) * (h.1 39 20)) 1500 && (xin s1 6 && true)))))))) (by decide +kernel) rfl rfl hg ?_
  obtain ⟨h_14, hc_13, hf⟩ := xbd1_inv hf
  refine XcallV hX (mt_m_lookAbout l1 (xI (xI (xI (xI (xI (xI (xI h 45 s1.toNatClampNeg s0) 48 ((5 : Int32) * (h.1 39 20)).toNatClampNeg (h.1 39 19)) 48 (((5 : Int32) * (h.1 39 20)) + (1 : Int32)).toNatClampNeg l1) 48 (((5 : Int32) * (h.1 39 20)) + (2 : Int32)).toNatClampNeg l2) 48 (((5 : Int32) * (h.1 39 20)) + (3 : Int32)).toNatClampNeg ((xI h 45 s1.toNatClampNeg s0).1 45 l1.toNatClampNeg)) 48 (((5 : Int32) * (h.1 39 20)) + (4 : Int32)).toNatClampNeg l3) 39 20 ((h.1 39 20) + (1 : Int32))) hc_13) (rest := []) (by decide) (by decide) xm_X5_lookAbout xi_X5_lookAbout xs_X5_lookAbout xl_RX5_168 (by decide) (xsh_39) rfl rfl rfl (Nat.le_of_ble_eq_true rfl) (by decide +kernel) ?_
  show XW X 164 [(0, .ref 39), (1, .int l1), (2, .int l2), (3, .int l3)] [] h_14
  refine Xblk hX pkX5_ok [.iload_n 3] (pc' := 165) (ls' := [(0, .ref 39), (1, .int l1), (2, .int l2), (3, .int l3)]) (st' := [.int l3]) (h' := h_14) (g := true) (by decide +kernel) rfl rfl rfl ?_
  exact XrI2 hX hR hf (by decide +kernel)
set_option maxRecDepth 100000 in
set_option maxHeartbeats 4000000 in
theorem f_m_act_j_11_ok {X : XCtx} (hX : XOk X RX5 cX5_act 4 6 66) {r : Int32} {h' : Hp} (hR : XR X (some .int) (some (.int r)) h')   (l1 : Int32) (l2 : Int32) (l3 : Int32) (s0 : Int32) (h : Hp)  (hf : f_m_act_j_11 l1 l2 l3 s0 h = some (r, h')) : XW X 66 [(0, .ref 39), (1, .int l1), (2, .int l2), (3, .int l3)] [.int s0, .ref 45] h := by
  unfold f_m_act_j_11 at hf
  obtain ⟨hg, hf⟩ := xgd_inv hf
  refine Xblk hX pkX5_ok [.aload_n 0, .getfield 26, .iload_n 1, .iaload] (pc' := 72) (ls' := [(0, .ref 39), (1, .int l1), (2, .int l2), (3, .int l3)]) (st' := [.int (h.1 45 l1.toNatClampNeg), .int s0, .ref 45]) (h' := h) (g := (xin l1 6 && true)) (by decide +kernel) rfl rfl hg ?_
  refine XW.pick [0, 1, 2, 3] (ls' := [(0, .ref 39), (1, .int l1), (2, .int l2), (3, .int l3)]) rfl ?_
  exact f_m_act_j_12_ok hX hR l1 l2 l3 (h.1 45 l1.toNatClampNeg) s0 h hf
set_option maxRecDepth 100000 in
set_option maxHeartbeats 4000000 in
theorem mt_m_act (l1 : Int32) (l2 : Int32) (h : Hp) {r : Int32} {h' : Hp} (hf : f_m_act l1 l2 h = some (r, h')) : MT 6 66 yX5_act cX5_act 4 (some .int) [.ref 39, .int l1, .int l2] h (some (.int r)) h' := by
  refine MT.of (by decide +kernel) (Nat.le_of_ble_eq_true rfl) fun X hX hR => ?_
  unfold f_m_act at hf
  refine Xblk hX pkX5_ok [.aload_n 0, .iload_n 1] (pc' := 2) (ls' := [(0, .ref 39), (1, .int l1), (2, .int l2)]) (st' := [.int l1, .ref 39]) (h' := h) (g := true) (by decide +kernel) rfl rfl rfl ?_
  refine XcallV hX (mt_m_isCarrier l1 h) (rest := []) (by decide) (by decide) xm_X5_isCarrier xi_X5_isCarrier xs_X5_isCarrier xl_RX5_175 (by decide) (xsh_39) rfl rfl rfl (Nat.le_of_ble_eq_true rfl) (by decide +kernel) ?_
  show XW X 5 [(0, .ref 39), (1, .int l1), (2, .int l2)] [.int (f_m_isCarrier l1 h)] h
  refine Xbr hX (.ifCond .eq (12)) (tgt := 17) (P := (f_m_isCarrier l1 h) = (0 : Int32)) (r := []) (by decide +kernel) rfl (by decide) (fun hc_1 => ?_) (fun hc_1 => ?_)
  · replace hf := xif_t hc_1 hf
    refine Xblk hX pkX5_ok [.iconst (-1)] (pc' := 18) (ls' := [(0, .ref 39), (1, .int l1), (2, .int l2)]) (st' := [.int (-1 : Int32)]) (h' := h) (g := true) (by decide +kernel) rfl rfl rfl ?_
    exact XrI2 hX hR hf (by decide +kernel)
  · replace hf := xif_f hc_1 hf
    refine Xblk hX pkX5_ok [.iload_n 2, .iconst 0, .iconst 4] (pc' := 11) (ls' := [(0, .ref 39), (1, .int l1), (2, .int l2)]) (st' := [.int (4 : Int32), .int (0 : Int32), .int l2]) (h' := h) (g := true) (by decide +kernel) rfl rfl rfl ?_
    refine XcallS hX (mt_m_in l2 (0 : Int32) (4 : Int32) h) (rest := []) (by decide) (by decide) xm_X5_in xi_X5_in xl_RX5_107 rfl (Nat.le_of_ble_eq_true rfl) (by decide +kernel) ?_
    show XW X 14 [(0, .ref 39), (1, .int l1), (2, .int l2)] [.int (f_m_in l2 (0 : Int32) (4 : Int32))] h
    refine XbrN hX (.ifCond .ne (5)) (tgt := 19) (P := (f_m_in l2 (0 : Int32) (4 : Int32)) = (0 : Int32)) (r := []) (by decide +kernel) rfl (by decide) (fun hc_2 => ?_) (fun hc_2 => ?_)
    · replace hf := xif_t hc_2 hf
      refine Xblk hX pkX5_ok [.iconst (-1)] (pc' := 18) (ls' := [(0, .ref 39), (1, .int l1), (2, .int l2)]) (st' := [.int (-1 : Int32)]) (h' := h) (g := true) (by decide +kernel) rfl rfl rfl ?_
      exact XrI2 hX hR hf (by decide +kernel)
    · replace hf := xif_f hc_2 hf
      refine Xblk hX pkX5_ok [.aload_n 0, .getfield 138, .bipush 100] (pc' := 25) (ls' := [(0, .ref 39), (1, .int l1), (2, .int l2)]) (st' := [.int (100 : Int32), .int (h.1 39 20)]) (h' := h) (g := true) (by decide +kernel) rfl rfl rfl ?_
      refine XbrN hX (.if_icmp .ne (6)) (tgt := 31) (P := (h.1 39 20) = (100 : Int32)) (r := []) (by decide +kernel) rfl (by decide) (fun hc_3 => ?_) (fun hc_3 => ?_)
      · replace hf := xif_t hc_3 hf
        refine Xblk hX pkX5_ok [.bipush (-3)] (pc' := 30) (ls' := [(0, .ref 39), (1, .int l1), (2, .int l2)]) (st' := [.int (-3 : Int32)]) (h' := h) (g := true) (by decide +kernel) rfl rfl rfl ?_
        exact XrI2 hX hR hf (by decide +kernel)
      · replace hf := xif_f hc_3 hf
        refine Xblk hX pkX5_ok [.aload_n 0, .iload_n 1, .iload_n 2] (pc' := 34) (ls' := [(0, .ref 39), (1, .int l1), (2, .int l2)]) (st' := [.int l2, .int l1, .ref 39]) (h' := h) (g := true) (by decide +kernel) rfl rfl rfl ?_
        obtain ⟨v_5, hc_4, hf⟩ := xbd1_inv hf
        refine XcallV hX (mt_m_why l1 l2 h hc_4) (rest := []) (by decide) (by decide) xm_X5_why xi_X5_why xs_X5_why xl_RX5_203 (by decide) (xsh_39) rfl rfl rfl (Nat.le_of_ble_eq_true rfl) (by decide +kernel) ?_
        show XW X 37 [(0, .ref 39), (1, .int l1), (2, .int l2)] [.int v_5] h
        refine Xblk hX pkX5_ok [.istore_n 3, .aload_n 0, .getfield 26, .iload_n 1, .iload_n 3] (pc' := 44) (ls' := [(3, .int v_5), (0, .ref 39), (1, .int l1), (2, .int l2)]) (st' := [.int v_5, .int l1, .ref 45]) (h' := h) (g := true) (by decide +kernel) rfl rfl rfl ?_
        refine XbrN hX (.ifCond .ne (22)) (tgt := 66) (P := v_5 = (0 : Int32)) (r := [.int l1, .ref 45]) (by decide +kernel) rfl (by decide) (fun hc_8 => ?_) (fun hc_8 => ?_)
        · replace hf := xif_t hc_8 hf
          refine Xblk hX pkX5_ok [.iload_n 2, .iconst 4] (pc' := 49) (ls' := [(3, .int v_5), (0, .ref 39), (1, .int l1), (2, .int l2)]) (st' := [.int (4 : Int32), .int l2, .int l1, .ref 45]) (h' := h) (g := true) (by decide +kernel) rfl rfl rfl ?_
          refine Xbr hX (.if_icmp .ge (17)) (tgt := 66) (P := (4 : Int32) ≤ l2) (r := [.int l1, .ref 45]) (by decide +kernel) rfl (by decide) (fun hc_10 => ?_) (fun hc_10 => ?_)
          · replace hf := xif_t hc_10 hf
            refine XW.pick [1, 2, 3, 0] (ls' := [(0, .ref 39), (1, .int l1), (2, .int l2), (3, .int v_5)]) rfl ?_
            exact f_m_act_j_11_ok hX hR l1 l2 v_5 l1 h hf
          · replace hf := xif_f hc_10 hf
            obtain ⟨hg, hf⟩ := xgd_inv hf
            refine Xblk hX pkX5_ok [.aload_n 0, .aload_n 0, .getfield 26, .iload_n 1, .iaload, .iload_n 2] (pc' := 60) (ls' := [(3, .int v_5), (0, .ref 39), (1, .int l1), (2, .int l2)]) (st' := [.int l2, .int (h.1 45 l1.toNatClampNeg), .ref 39, .int l1, .ref 45]) (h' := h) (g := (xin l1 6 && true)) (by decide +kernel) rfl rfl hg ?_
            refine XcallV hX (mt_m_beside (h.1 45 l1.toNatClampNeg) l2 h) (rest := [.int l1, .ref 45]) (by decide) (by decide) xm_X5_beside xi_X5_beside xs_X5_beside xl_RX5_156 (by decide) (xsh_39) rfl rfl rfl (Nat.le_of_ble_eq_true rfl) (by decide +kernel) ?_
            show XW X 63 [(3, .int v_5), (0, .ref 39), (1, .int l1), (2, .int l2)] [.int (f_m_beside (h.1 45 l1.toNatClampNeg) l2 h), .int l1, .ref 45] h
            refine Xgoto hX (9) 72 (by decide +kernel) (by decide) ?_
            refine XW.pick [1, 2, 3, 0] (ls' := [(0, .ref 39), (1, .int l1), (2, .int l2), (3, .int v_5)]) rfl ?_
            exact f_m_act_j_12_ok hX hR l1 l2 v_5 (f_m_beside (h.1 45 l1.toNatClampNeg) l2 h) l1 h hf
        · replace hf := xif_f hc_8 hf
          refine XW.pick [1, 2, 3, 0] (ls' := [(0, .ref 39), (1, .int l1), (2, .int l2), (3, .int v_5)]) rfl ?_
          exact f_m_act_j_11_ok hX hR l1 l2 v_5 l1 h hf
def f_m_walk (l1 : Int32) (l2 : Int32) (h : Hp) : Option (Int32 × Hp) :=
  if (f_m_isPerson l1 h) = (0 : Int32) then
    some ((-1 : Int32), h)
  else
    if (f_m_isCell l2 h) = (0 : Int32) then
      some ((-1 : Int32), h)
    else
      xgd (xin l1 18 && (xin l1 18 && true)) <|
      xbd1 (f_m_couldBe (h.1 44 l1.toNatClampNeg) (jshlL (1 : Int64) (h.1 43 l1.toNatClampNeg)) (1 : Int32) h) fun v_4 =>
      if (lg_cmp ((jshrL v_4 l2) &&& (1 : Int64)) (0 : Int64)) = (0 : Int32) then
        some ((-2 : Int32), h)
      else
        xbd1 (f_m_carrierOn l2 h) fun v_7 =>
        if v_7 = (-9 : Int32) then
          xgd (xin l1 18 && (xin l1 18 && true)) <|
          some ((h.1 43 l1.toNatClampNeg), (xI h 43 l1.toNatClampNeg l2))
        else
          some ((-2 : Int32), h)
set_option maxRecDepth 100000 in
set_option maxHeartbeats 4000000 in
theorem mt_m_walk (l1 : Int32) (l2 : Int32) (h : Hp) {r : Int32} {h' : Hp} (hf : f_m_walk l1 l2 h = some (r, h')) : MT 4 66 yX5_walk cX5_walk 4 (some .int) [.ref 39, .int l1, .int l2] h (some (.int r)) h' := by
  refine MT.of (by decide +kernel) (Nat.le_of_ble_eq_true rfl) fun X hX hR => ?_
  unfold f_m_walk at hf
  refine Xblk hX pkX5_ok [.aload_n 0, .iload_n 1] (pc' := 2) (ls' := [(0, .ref 39), (1, .int l1), (2, .int l2)]) (st' := [.int l1, .ref 39]) (h' := h) (g := true) (by decide +kernel) rfl rfl rfl ?_
  refine XcallV hX (mt_m_isPerson l1 h) (rest := []) (by decide) (by decide) xm_X5_isPerson xi_X5_isPerson xs_X5_isPerson xl_RX5_172 (by decide) (xsh_39) rfl rfl rfl (Nat.le_of_ble_eq_true rfl) (by decide +kernel) ?_
  show XW X 5 [(0, .ref 39), (1, .int l1), (2, .int l2)] [.int (f_m_isPerson l1 h)] h
  refine Xbr hX (.ifCond .eq (11)) (tgt := 16) (P := (f_m_isPerson l1 h) = (0 : Int32)) (r := []) (by decide +kernel) rfl (by decide) (fun hc_1 => ?_) (fun hc_1 => ?_)
  · replace hf := xif_t hc_1 hf
    refine Xblk hX pkX5_ok [.iconst (-1)] (pc' := 17) (ls' := [(0, .ref 39), (1, .int l1), (2, .int l2)]) (st' := [.int (-1 : Int32)]) (h' := h) (g := true) (by decide +kernel) rfl rfl rfl ?_
    exact XrI2 hX hR hf (by decide +kernel)
  · replace hf := xif_f hc_1 hf
    refine Xblk hX pkX5_ok [.aload_n 0, .iload_n 2] (pc' := 10) (ls' := [(0, .ref 39), (1, .int l1), (2, .int l2)]) (st' := [.int l2, .ref 39]) (h' := h) (g := true) (by decide +kernel) rfl rfl rfl ?_
    refine XcallV hX (mt_m_isCell l2 h) (rest := []) (by decide) (by decide) xm_X5_isCell xi_X5_isCell xs_X5_isCell xl_RX5_144 (by decide) (xsh_39) rfl rfl rfl (Nat.le_of_ble_eq_true rfl) (by decide +kernel) ?_
    show XW X 13 [(0, .ref 39), (1, .int l1), (2, .int l2)] [.int (f_m_isCell l2 h)] h
    refine XbrN hX (.ifCond .ne (5)) (tgt := 18) (P := (f_m_isCell l2 h) = (0 : Int32)) (r := []) (by decide +kernel) rfl (by decide) (fun hc_2 => ?_) (fun hc_2 => ?_)
    · replace hf := xif_t hc_2 hf
      refine Xblk hX pkX5_ok [.iconst (-1)] (pc' := 17) (ls' := [(0, .ref 39), (1, .int l1), (2, .int l2)]) (st' := [.int (-1 : Int32)]) (h' := h) (g := true) (by decide +kernel) rfl rfl rfl ?_
      exact XrI2 hX hR hf (by decide +kernel)
    · replace hf := xif_f hc_2 hf
      obtain ⟨hg, hf⟩ := xgd_inv hf
      refine Xblk hX pkX5_ok [.aload_n 0, .aload_n 0, .getfield 23, .iload_n 1, .iaload, .lconst 1, .aload_n 0, .getfield 20, .iload_n 1, .iaload, .lshl, .iconst 1] (pc' := 34) (ls' := [(0, .ref 39), (1, .int l1), (2, .int l2)]) (st' := [.int (1 : Int32), .long (jshlL (1 : Int64) (h.1 43 l1.toNatClampNeg)), .int (h.1 44 l1.toNatClampNeg), .ref 39]) (h' := h) (g := (xin l1 18 && (xin l1 18 && true))) (by decide +kernel) rfl rfl hg ?_
      obtain ⟨v_4, hc_3, hf⟩ := xbd1_inv hf
      refine XcallV hX (mt_m_couldBe (h.1 44 l1.toNatClampNeg) (jshlL (1 : Int64) (h.1 43 l1.toNatClampNeg)) (1 : Int32) h hc_3) (rest := []) (by decide) (by decide) xm_X5_couldBe xi_X5_couldBe xs_X5_couldBe xl_RX5_192 (by decide) (xsh_39) rfl rfl rfl (Nat.le_of_ble_eq_true rfl) (by decide +kernel) ?_
      show XW X 37 [(0, .ref 39), (1, .int l1), (2, .int l2)] [.long v_4] h
      refine Xblk hX pkX5_ok [.iload_n 2, .lshr, .lconst 1, .land, .lconst 0, .lcmp] (pc' := 43) (ls' := [(0, .ref 39), (1, .int l1), (2, .int l2)]) (st' := [.int (lg_cmp ((jshrL v_4 l2) &&& (1 : Int64)) (0 : Int64))]) (h' := h) (g := true) (by decide +kernel) rfl rfl rfl ?_
      refine Xbr hX (.ifCond .eq (13)) (tgt := 56) (P := (lg_cmp ((jshrL v_4 l2) &&& (1 : Int64)) (0 : Int64)) = (0 : Int32)) (r := []) (by decide +kernel) rfl (by decide) (fun hc_5 => ?_) (fun hc_5 => ?_)
      · replace hf := xif_t hc_5 hf
        refine Xblk hX pkX5_ok [.bipush (-2)] (pc' := 58) (ls' := [(0, .ref 39), (1, .int l1), (2, .int l2)]) (st' := [.int (-2 : Int32)]) (h' := h) (g := true) (by decide +kernel) rfl rfl rfl ?_
        exact XrI2 hX hR hf (by decide +kernel)
      · replace hf := xif_f hc_5 hf
        refine Xblk hX pkX5_ok [.aload_n 0, .iload_n 2] (pc' := 48) (ls' := [(0, .ref 39), (1, .int l1), (2, .int l2)]) (st' := [.int l2, .ref 39]) (h' := h) (g := true) (by decide +kernel) rfl rfl rfl ?_
        obtain ⟨v_7, hc_6, hf⟩ := xbd1_inv hf
        refine XcallV hX (mt_m_carrierOn l2 h hc_6) (rest := []) (by decide) (by decide) xm_X5_carrierOn xi_X5_carrierOn xs_X5_carrierOn xl_RX5_164 (by decide) (xsh_39) rfl rfl rfl (Nat.le_of_ble_eq_true rfl) (by decide +kernel) ?_
        show XW X 51 [(0, .ref 39), (1, .int l1), (2, .int l2)] [.int v_7] h
        refine Xblk hX pkX5_ok [.bipush (-9)] (pc' := 53) (ls' := [(0, .ref 39), (1, .int l1), (2, .int l2)]) (st' := [.int (-9 : Int32), .int v_7]) (h' := h) (g := true) (by decide +kernel) rfl rfl rfl ?_
        refine Xbr hX (.if_icmp .eq (6)) (tgt := 59) (P := v_7 = (-9 : Int32)) (r := []) (by decide +kernel) rfl (by decide) (fun hc_8 => ?_) (fun hc_8 => ?_)
        · replace hf := xif_t hc_8 hf
          obtain ⟨hg, hf⟩ := xgd_inv hf
          refine Xblk hX pkX5_ok [.aload_n 0, .getfield 20, .iload_n 1, .iaload, .istore_n 3, .aload_n 0, .getfield 20, .iload_n 1, .iload_n 2, .iastore, .iload_n 3] (pc' := 74) (ls' := [(3, .int (h.1 43 l1.toNatClampNeg)), (0, .ref 39), (1, .int l1), (2, .int l2)]) (st' := [.int (h.1 43 l1.toNatClampNeg)]) (h' := (xI h 43 l1.toNatClampNeg l2)) (g := (xin l1 18 && (xin l1 18 && true))) (by decide +kernel) rfl rfl hg ?_
          exact XrI2 hX hR hf (by decide +kernel)
        · replace hf := xif_f hc_8 hf
          refine Xblk hX pkX5_ok [.bipush (-2)] (pc' := 58) (ls' := [(0, .ref 39), (1, .int l1), (2, .int l2)]) (st' := [.int (-2 : Int32)]) (h' := h) (g := true) (by decide +kernel) rfl rfl rfl ?_
          exact XrI2 hX hR hf (by decide +kernel)
def f_m_tick_L_3    (k : Int32 → Hp → Option (Int32 × Hp)) : Nat → Int32 → Hp → Option (Int32 × Hp)
  | 0, _, _ => none
  | n + 1, l2, h =>
    if (h.1 39 15) ≤ l2 then
      k l2 h
    else
      xbd1 (f_m_lookAbout l2 h) fun h_6 =>
      (f_m_tick_L_3 k n) (l2 + (1 : Int32)) h_6
def f_m_tick (l1 : Int32) (h : Hp) : Option (Int32 × Hp) :=
  if (f_m_in l1 (1 : Int32) (50 : Int32)) = (0 : Int32) then
    some ((-1 : Int32), h)
  else
    if ((h.1 39 19) + l1) ≤ (1000 : Int32) then
      f_m_tick_L_3 (fun l2_7 h_8 =>
        some ((h_8.1 39 19), h_8)
        ) 1000 (0 : Int32) (xI h 39 19 ((h.1 39 19) + l1))
    else
      some ((-2 : Int32), h)
set_option maxRecDepth 100000 in
set_option maxHeartbeats 4000000 in
theorem f_m_tick_L_3_ok {X : XCtx} (hX : XOk X RX5 cX5_tick 3 4 66) {r : Int32} {h' : Hp} (hR : XR X (some .int) (some (.int r)) h')    (k : Int32 → Hp → Option (Int32 × Hp))  (hk : ∀ (l2 : Int32) (h : Hp), k l2 h = some (r, h') → XW X 58 [(0, .ref 39)] [] h) : ∀ (n : Nat) (l2 : Int32) (h : Hp), f_m_tick_L_3 k n l2 h = some (r, h') → XW X 39 [(0, .ref 39), (2, .int l2)] [] h := by
  intro n
  induction n with
  | zero => intro l2 h hf; cases hf
  | succ n ih =>
    intro l2 h hf
    rw [f_m_tick_L_3] at hf
    refine Xblk hX pkX5_ok [.iload_n 2, .aload_n 0, .getfield 132] (pc' := 44) (ls' := [(0, .ref 39), (2, .int l2)]) (st' := [.int (h.1 39 15), .int l2]) (h' := h) (g := true) (by decide +kernel) rfl rfl rfl ?_
    refine Xbr hX (.if_icmp .ge (14)) (tgt := 58) (P := (h.1 39 15) ≤ l2) (r := []) (by decide +kernel) rfl (by decide) (fun hc_4 => ?_) (fun hc_4 => ?_)
    · replace hf := xif_t hc_4 hf
      refine XW.pick [0] (ls' := [(0, .ref 39)]) rfl ?_
      exact hk l2 h hf
    · replace hf := xif_f hc_4 hf
      refine Xblk hX pkX5_ok [.aload_n 0, .iload_n 2] (pc' := 49) (ls' := [(0, .ref 39), (2, .int l2)]) (st' := [.int l2, .ref 39]) (h' := h) (g := true) (by decide +kernel) rfl rfl rfl ?_
      obtain ⟨h_6, hc_5, hf⟩ := xbd1_inv hf
      refine XcallV hX (mt_m_lookAbout l2 h hc_5) (rest := []) (by decide) (by decide) xm_X5_lookAbout xi_X5_lookAbout xs_X5_lookAbout xl_RX5_168 (by decide) (xsh_39) rfl rfl rfl (Nat.le_of_ble_eq_true rfl) (by decide +kernel) ?_
      show XW X 52 [(0, .ref 39), (2, .int l2)] [] h_6
      refine Xblk hX pkX5_ok [.iinc 2 1] (pc' := 55) (ls' := [(2, .int (l2 + (1 : Int32))), (0, .ref 39)]) (st' := []) (h' := h_6) (g := true) (by decide +kernel) rfl rfl rfl ?_
      refine Xgoto hX (-16) 39 (by decide +kernel) (by decide) ?_
      refine XW.pick [1, 0] (ls' := [(0, .ref 39), (2, .int (l2 + (1 : Int32)))]) rfl ?_
      exact ih (l2 + (1 : Int32)) h_6 hf
set_option maxRecDepth 100000 in
set_option maxHeartbeats 4000000 in
theorem mt_m_tick (l1 : Int32) (h : Hp) {r : Int32} {h' : Hp} (hf : f_m_tick l1 h = some (r, h')) : MT 4 66 yX5_tick cX5_tick 3 (some .int) [.ref 39, .int l1] h (some (.int r)) h' := by
  refine MT.of (by decide +kernel) (Nat.le_of_ble_eq_true rfl) fun X hX hR => ?_
  unfold f_m_tick at hf
  refine Xblk hX pkX5_ok [.iload_n 1, .iconst 1, .bipush 50] (pc' := 4) (ls' := [(0, .ref 39), (1, .int l1)]) (st' := [.int (50 : Int32), .int (1 : Int32), .int l1]) (h' := h) (g := true) (by decide +kernel) rfl rfl rfl ?_
  refine XcallS hX (mt_m_in l1 (1 : Int32) (50 : Int32) h) (rest := []) (by decide) (by decide) xm_X5_in xi_X5_in xl_RX5_107 rfl (Nat.le_of_ble_eq_true rfl) (by decide +kernel) ?_
  show XW X 7 [(0, .ref 39), (1, .int l1)] [.int (f_m_in l1 (1 : Int32) (50 : Int32))] h
  refine XbrN hX (.ifCond .ne (5)) (tgt := 12) (P := (f_m_in l1 (1 : Int32) (50 : Int32)) = (0 : Int32)) (r := []) (by decide +kernel) rfl (by decide) (fun hc_1 => ?_) (fun hc_1 => ?_)
  · replace hf := xif_t hc_1 hf
    refine Xblk hX pkX5_ok [.iconst (-1)] (pc' := 11) (ls' := [(0, .ref 39), (1, .int l1)]) (st' := [.int (-1 : Int32)]) (h' := h) (g := true) (by decide +kernel) rfl rfl rfl ?_
    exact XrI2 hX hR hf (by decide +kernel)
  · replace hf := xif_f hc_1 hf
    refine Xblk hX pkX5_ok [.aload_n 0, .getfield 141, .iload_n 1, .iadd, .sipush 1000] (pc' := 21) (ls' := [(0, .ref 39), (1, .int l1)]) (st' := [.int (1000 : Int32), .int ((h.1 39 19) + l1)]) (h' := h) (g := true) (by decide +kernel) rfl rfl rfl ?_
    refine Xbr hX (.if_icmp .le (6)) (tgt := 27) (P := ((h.1 39 19) + l1) ≤ (1000 : Int32)) (r := []) (by decide +kernel) rfl (by decide) (fun hc_2 => ?_) (fun hc_2 => ?_)
    · replace hf := xif_t hc_2 hf
      refine Xblk hX pkX5_ok [.aload_n 0, .dup, .getfield 141, .iload_n 1, .iadd, .putfield 141, .iconst 0, .istore_n 2] (pc' := 39) (ls' := [(2, .int (0 : Int32)), (0, .ref 39), (1, .int l1)]) (st' := []) (h' := (xI h 39 19 ((h.1 39 19) + l1))) (g := true) (by decide +kernel) rfl rfl rfl ?_
      refine XW.pick [1, 0] (ls' := [(0, .ref 39), (2, .int (0 : Int32))]) rfl ?_
      refine f_m_tick_L_3_ok hX hR  _  (fun l2_7 h_8 hf => ?_) 1000 (0 : Int32) (xI h 39 19 ((h.1 39 19) + l1)) hf
      refine Xblk hX pkX5_ok [.aload_n 0, .getfield 141] (pc' := 62) (ls' := [(0, .ref 39)]) (st' := [.int (h_8.1 39 19)]) (h' := h_8) (g := true) (by decide +kernel) rfl rfl rfl ?_
      exact XrI2 hX hR hf (by decide +kernel)
    · replace hf := xif_f hc_2 hf
      refine Xblk hX pkX5_ok [.bipush (-2)] (pc' := 26) (ls' := [(0, .ref 39), (1, .int l1)]) (st' := [.int (-2 : Int32)]) (h' := h) (g := true) (by decide +kernel) rfl rfl rfl ?_
      exact XrI2 hX hR hf (by decide +kernel)
def f_m_line (l1 : Int32) (l2 : Int32) (h : Hp) : Option (Int32) :=
  if (f_m_in l1 (0 : Int32) ((h.1 39 20) - (1 : Int32))) = (0 : Int32) then
    some (-1 : Int32)
  else
    if (f_m_in l2 (0 : Int32) (4 : Int32)) = (0 : Int32) then
      some (-1 : Int32)
    else
      xgd (xin (((5 : Int32) * l1) + l2) 1500 && true) <|
      some (h.1 48 (((5 : Int32) * l1) + l2).toNatClampNeg)
set_option maxRecDepth 100000 in
set_option maxHeartbeats 4000000 in
theorem mt_m_line (l1 : Int32) (l2 : Int32) (h : Hp) {r : Int32} (hf : f_m_line l1 l2 h = some r) : MT 1 66 yX5_line cX5_line 3 (some .int) [.ref 39, .int l1, .int l2] h (some (.int r)) h := by
  refine MT.of (by decide +kernel) (Nat.le_of_ble_eq_true rfl) fun X hX hR => ?_
  unfold f_m_line at hf
  refine Xblk hX pkX5_ok [.iload_n 1, .iconst 0, .aload_n 0, .getfield 138, .iconst 1, .isub] (pc' := 8) (ls' := [(0, .ref 39), (1, .int l1), (2, .int l2)]) (st' := [.int ((h.1 39 20) - (1 : Int32)), .int (0 : Int32), .int l1]) (h' := h) (g := true) (by decide +kernel) rfl rfl rfl ?_
  refine XcallS hX (mt_m_in l1 (0 : Int32) ((h.1 39 20) - (1 : Int32)) h) (rest := []) (by decide) (by decide) xm_X5_in xi_X5_in xl_RX5_107 rfl (Nat.le_of_ble_eq_true rfl) (by decide +kernel) ?_
  show XW X 11 [(0, .ref 39), (1, .int l1), (2, .int l2)] [.int (f_m_in l1 (0 : Int32) ((h.1 39 20) - (1 : Int32)))] h
  refine Xbr hX (.ifCond .eq (25)) (tgt := 36) (P := (f_m_in l1 (0 : Int32) ((h.1 39 20) - (1 : Int32))) = (0 : Int32)) (r := []) (by decide +kernel) rfl (by decide) (fun hc_3 => ?_) (fun hc_3 => ?_)
  · replace hf := xif_t hc_3 hf
    refine Xblk hX pkX5_ok [.iconst (-1)] (pc' := 37) (ls' := [(0, .ref 39), (1, .int l1), (2, .int l2)]) (st' := [.int (-1 : Int32)]) (h' := h) (g := true) (by decide +kernel) rfl rfl rfl ?_
    exact XrI1 hX hR hf (by decide +kernel)
  · replace hf := xif_f hc_3 hf
    refine Xblk hX pkX5_ok [.iload_n 2, .iconst 0, .iconst 4] (pc' := 17) (ls' := [(0, .ref 39), (1, .int l1), (2, .int l2)]) (st' := [.int (4 : Int32), .int (0 : Int32), .int l2]) (h' := h) (g := true) (by decide +kernel) rfl rfl rfl ?_
    refine XcallS hX (mt_m_in l2 (0 : Int32) (4 : Int32) h) (rest := []) (by decide) (by decide) xm_X5_in xi_X5_in xl_RX5_107 rfl (Nat.le_of_ble_eq_true rfl) (by decide +kernel) ?_
    show XW X 20 [(0, .ref 39), (1, .int l1), (2, .int l2)] [.int (f_m_in l2 (0 : Int32) (4 : Int32))] h
    refine Xbr hX (.ifCond .eq (16)) (tgt := 36) (P := (f_m_in l2 (0 : Int32) (4 : Int32)) = (0 : Int32)) (r := []) (by decide +kernel) rfl (by decide) (fun hc_5 => ?_) (fun hc_5 => ?_)
    · replace hf := xif_t hc_5 hf
      refine Xblk hX pkX5_ok [.iconst (-1)] (pc' := 37) (ls' := [(0, .ref 39), (1, .int l1), (2, .int l2)]) (st' := [.int (-1 : Int32)]) (h' := h) (g := true) (by decide +kernel) rfl rfl rfl ?_
      exact XrI1 hX hR hf (by decide +kernel)
    · replace hf := xif_f hc_5 hf
      obtain ⟨hg, hf⟩ := xgd_inv hf
      refine Xblk hX pkX5_ok [.aload_n 0, .getfield 35, .iconst 5, .iload_n 1, .imul, .iload_n 2, .iadd, .iaload] (pc' := 33) (ls' := [(0, .ref 39), (1, .int l1), (2, .int l2)]) (st' := [.int (h.1 48 (((5 : Int32) * l1) + l2).toNatClampNeg)]) (h' := h) (g := (xin (((5 : Int32) * l1) + l2) 1500 && true)) (by decide +kernel) rfl rfl hg ?_
      refine Xgoto hX (4) 37 (by decide +kernel) (by decide) ?_
      exact XrI1 hX hR hf (by decide +kernel)
def f_m_age (l1 : Int32) (l2 : Int32) (h : Hp) : Option (Int32) :=
  if (f_m_isCarrier l1 h) = (0 : Int32) then
    some (-1 : Int32)
  else
    if (f_m_isCell l2 h) = (0 : Int32) then
      some (-1 : Int32)
    else
      xgd (xin (((64 : Int32) * l1) + l2) 384 && true) <|
      if (h.1 47 (((64 : Int32) * l1) + l2).toNatClampNeg) = (0 : Int32) then
        some (-9 : Int32)
      else
        xgd (xin (((64 : Int32) * l1) + l2) 384 && true) <|
        some (((h.1 39 19) + (1 : Int32)) - (h.1 47 (((64 : Int32) * l1) + l2).toNatClampNeg))
set_option maxRecDepth 100000 in
set_option maxHeartbeats 4000000 in
theorem mt_m_age (l1 : Int32) (l2 : Int32) (h : Hp) {r : Int32} (hf : f_m_age l1 l2 h = some r) : MT 2 66 yX5_age cX5_age 3 (some .int) [.ref 39, .int l1, .int l2] h (some (.int r)) h := by
  refine MT.of (by decide +kernel) (Nat.le_of_ble_eq_true rfl) fun X hX hR => ?_
  unfold f_m_age at hf
  refine Xblk hX pkX5_ok [.aload_n 0, .iload_n 1] (pc' := 2) (ls' := [(0, .ref 39), (1, .int l1), (2, .int l2)]) (st' := [.int l1, .ref 39]) (h' := h) (g := true) (by decide +kernel) rfl rfl rfl ?_
  refine XcallV hX (mt_m_isCarrier l1 h) (rest := []) (by decide) (by decide) xm_X5_isCarrier xi_X5_isCarrier xs_X5_isCarrier xl_RX5_175 (by decide) (xsh_39) rfl rfl rfl (Nat.le_of_ble_eq_true rfl) (by decide +kernel) ?_
  show XW X 5 [(0, .ref 39), (1, .int l1), (2, .int l2)] [.int (f_m_isCarrier l1 h)] h
  refine Xbr hX (.ifCond .eq (11)) (tgt := 16) (P := (f_m_isCarrier l1 h) = (0 : Int32)) (r := []) (by decide +kernel) rfl (by decide) (fun hc_1 => ?_) (fun hc_1 => ?_)
  · replace hf := xif_t hc_1 hf
    refine Xblk hX pkX5_ok [.iconst (-1)] (pc' := 17) (ls' := [(0, .ref 39), (1, .int l1), (2, .int l2)]) (st' := [.int (-1 : Int32)]) (h' := h) (g := true) (by decide +kernel) rfl rfl rfl ?_
    exact XrI1 hX hR hf (by decide +kernel)
  · replace hf := xif_f hc_1 hf
    refine Xblk hX pkX5_ok [.aload_n 0, .iload_n 2] (pc' := 10) (ls' := [(0, .ref 39), (1, .int l1), (2, .int l2)]) (st' := [.int l2, .ref 39]) (h' := h) (g := true) (by decide +kernel) rfl rfl rfl ?_
    refine XcallV hX (mt_m_isCell l2 h) (rest := []) (by decide) (by decide) xm_X5_isCell xi_X5_isCell xs_X5_isCell xl_RX5_144 (by decide) (xsh_39) rfl rfl rfl (Nat.le_of_ble_eq_true rfl) (by decide +kernel) ?_
    show XW X 13 [(0, .ref 39), (1, .int l1), (2, .int l2)] [.int (f_m_isCell l2 h)] h
    refine XbrN hX (.ifCond .ne (5)) (tgt := 18) (P := (f_m_isCell l2 h) = (0 : Int32)) (r := []) (by decide +kernel) rfl (by decide) (fun hc_2 => ?_) (fun hc_2 => ?_)
    · replace hf := xif_t hc_2 hf
      refine Xblk hX pkX5_ok [.iconst (-1)] (pc' := 17) (ls' := [(0, .ref 39), (1, .int l1), (2, .int l2)]) (st' := [.int (-1 : Int32)]) (h' := h) (g := true) (by decide +kernel) rfl rfl rfl ?_
      exact XrI1 hX hR hf (by decide +kernel)
    · replace hf := xif_f hc_2 hf
      obtain ⟨hg, hf⟩ := xgd_inv hf
      refine Xblk hX pkX5_ok [.aload_n 0, .getfield 32, .bipush 64, .iload_n 1, .imul, .iload_n 2, .iadd, .iaload] (pc' := 29) (ls' := [(0, .ref 39), (1, .int l1), (2, .int l2)]) (st' := [.int (h.1 47 (((64 : Int32) * l1) + l2).toNatClampNeg)]) (h' := h) (g := (xin (((64 : Int32) * l1) + l2) 384 && true)) (by decide +kernel) rfl rfl hg ?_
      refine XbrN hX (.ifCond .ne (8)) (tgt := 37) (P := (h.1 47 (((64 : Int32) * l1) + l2).toNatClampNeg) = (0 : Int32)) (r := []) (by decide +kernel) rfl (by decide) (fun hc_4 => ?_) (fun hc_4 => ?_)
      · replace hf := xif_t hc_4 hf
        refine Xblk hX pkX5_ok [.bipush (-9)] (pc' := 34) (ls' := [(0, .ref 39), (1, .int l1), (2, .int l2)]) (st' := [.int (-9 : Int32)]) (h' := h) (g := true) (by decide +kernel) rfl rfl rfl ?_
        refine Xgoto hX (21) 55 (by decide +kernel) (by decide) ?_
        exact XrI1 hX hR hf (by decide +kernel)
      · replace hf := xif_f hc_4 hf
        obtain ⟨hg, hf⟩ := xgd_inv hf
        refine Xblk hX pkX5_ok [.aload_n 0, .getfield 141, .iconst 1, .iadd, .aload_n 0, .getfield 32, .bipush 64, .iload_n 1, .imul, .iload_n 2, .iadd, .iaload, .isub] (pc' := 55) (ls' := [(0, .ref 39), (1, .int l1), (2, .int l2)]) (st' := [.int (((h.1 39 19) + (1 : Int32)) - (h.1 47 (((64 : Int32) * l1) + l2).toNatClampNeg))]) (h' := h) (g := (xin (((64 : Int32) * l1) + l2) 384 && true)) (by decide +kernel) rfl rfl hg ?_
        exact XrI1 hX hR hf (by decide +kernel)
def f_m_charge_L_5  (l1 : Int32) (l2 : Int32) (l3 : Int32) (l4 : Int32) (h : Hp) (k : Int32 → Int32 → Option (Int32 × Hp)) : Nat → Int32 → Int32 → Option (Int32 × Hp)
  | 0, _, _ => none
  | n + 1, l5, l6 =>
    if (h.1 39 12) ≤ l6 then
      k l5 l6
    else
      xgd (xin l2 6 && true) <|
      xbd1 (f_m_seenFrom (h.1 45 l2.toNatClampNeg) h) fun v_8 =>
      xgd (xin l6 18 && true) <|
      (f_m_charge_L_5 l1 l2 l3 l4 h k n) (l5 + ((jshrL v_8 (h.1 43 l6.toNatClampNeg)) &&& (1 : Int64)).toInt32) (l6 + (1 : Int32))
def f_m_charge (l1 : Int32) (l2 : Int32) (h : Hp) : Option (Int32 × Hp) :=
  if (f_m_in l1 (0 : Int32) (6 : Int32)) = (0 : Int32) then
    some ((-1 : Int32), h)
  else
    if (f_m_isCarrier l2 h) = (0 : Int32) then
      some ((-1 : Int32), h)
    else
      xgd (xin l2 6 && (xin l2 6 && true)) <|
      f_m_charge_L_5 l1 l2 ((1 : Int32) + ((2 : Int32) * (h.1 46 l2.toNatClampNeg))) (if (h.1 46 l2.toNatClampNeg) ≤ (0 : Int32) then (1 : Int32) else (2 : Int32)) h (fun l5_9 l6_10 =>
        if l1 = (0 : Int32) then
          some ((1 : Int32), (xL h 39 0 ((h.2 39 0) + (1 : Int64))))
        else
          if l1 = (1 : Int32) then
            some (((1 : Int32) + ((2 : Int32) * (h.1 46 l2.toNatClampNeg))), (xL h 39 0 ((h.2 39 0) + (11 : Int64))))
          else
            if l1 = (2 : Int32) then
              some ((if (h.1 46 l2.toNatClampNeg) ≤ (0 : Int32) then (1 : Int32) else (2 : Int32)), (xL h 39 0 ((h.2 39 0) + (101 : Int64))))
            else
              if l1 = (3 : Int32) then
                some (((2 : Int32) * (if (h.1 46 l2.toNatClampNeg) ≤ (0 : Int32) then (1 : Int32) else (2 : Int32))), (xL h 39 0 ((h.2 39 0) + (1101 : Int64))))
              else
                if l1 = (4 : Int32) then
                  some ((((1 : Int32) + ((2 : Int32) * (h.1 46 l2.toNatClampNeg))) + (3 : Int32)), (xL h 39 0 ((h.2 39 0) + (10011 : Int64))))
                else
                  if l1 = (5 : Int32) then
                    xgd (xin l2 6 && true) <|
                    some (((5 : Int32) + (h.1 46 l2.toNatClampNeg)), (xL h 39 0 ((h.2 39 0) + (100001 : Int64))))
                  else
                    some (((if (h.1 46 l2.toNatClampNeg) ≤ (0 : Int32) then (1 : Int32) else (2 : Int32)) + l5_9), (xL h 39 0 ((h.2 39 0) + (1000101 : Int64))))
        ) 1000 (0 : Int32) (0 : Int32)
set_option maxRecDepth 100000 in
set_option maxHeartbeats 4000000 in
theorem f_m_charge_L_5_ok {X : XCtx} (hX : XOk X RX5 cX5_charge 7 3 66) {r : Int32} {h' : Hp} (hR : XR X (some .int) (some (.int r)) h')  (l1 : Int32) (l2 : Int32) (l3 : Int32) (l4 : Int32) (h : Hp) (k : Int32 → Int32 → Option (Int32 × Hp))  (hk : ∀ (l5 : Int32) (l6 : Int32), k l5 l6 = some (r, h') → XW X 94 [(0, .ref 39), (1, .int l1), (2, .int l2), (3, .int l3), (4, .int l4), (5, .int l5)] [] h) : ∀ (n : Nat) (l5 : Int32) (l6 : Int32), f_m_charge_L_5 l1 l2 l3 l4 h k n l5 l6 = some (r, h') → XW X 53 [(0, .ref 39), (1, .int l1), (2, .int l2), (3, .int l3), (4, .int l4), (5, .int l5), (6, .int l6)] [] h := by
  intro n
  induction n with
  | zero => intro l5 l6 hf; cases hf
  | succ n ih =>
    intro l5 l6 hf
    rw [f_m_charge_L_5] at hf
    refine Xblk hX pkX5_ok [.iload 6, .aload_n 0, .getfield 129] (pc' := 59) (ls' := [(0, .ref 39), (1, .int l1), (2, .int l2), (3, .int l3), (4, .int l4), (5, .int l5), (6, .int l6)]) (st' := [.int (h.1 39 12), .int l6]) (h' := h) (g := true) (by decide +kernel) rfl rfl rfl ?_
    refine Xbr hX (.if_icmp .ge (35)) (tgt := 94) (P := (h.1 39 12) ≤ l6) (r := []) (by decide +kernel) rfl (by decide) (fun hc_6 => ?_) (fun hc_6 => ?_)
    · replace hf := xif_t hc_6 hf
      refine XW.pick [0, 1, 2, 3, 4, 5] (ls' := [(0, .ref 39), (1, .int l1), (2, .int l2), (3, .int l3), (4, .int l4), (5, .int l5)]) rfl ?_
      exact hk l5 l6 hf
    · replace hf := xif_f hc_6 hf
      obtain ⟨hg, hf⟩ := xgd_inv hf
      refine Xblk hX pkX5_ok [.iload 5, .aload_n 0, .aload_n 0, .getfield 26, .iload_n 2, .iaload] (pc' := 71) (ls' := [(0, .ref 39), (1, .int l1), (2, .int l2), (3, .int l3), (4, .int l4), (5, .int l5), (6, .int l6)]) (st' := [.int (h.1 45 l2.toNatClampNeg), .ref 39, .int l5]) (h' := h) (g := (xin l2 6 && true)) (by decide +kernel) rfl rfl hg ?_
      obtain ⟨v_8, hc_7, hf⟩ := xbd1_inv hf
      refine XcallV hX (mt_m_seenFrom (h.1 45 l2.toNatClampNeg) h hc_7) (rest := [.int l5]) (by decide) (by decide) xm_X5_seenFrom xi_X5_seenFrom xs_X5_seenFrom xl_RX5_160 (by decide) (xsh_39) rfl rfl rfl (Nat.le_of_ble_eq_true rfl) (by decide +kernel) ?_
      show XW X 74 [(0, .ref 39), (1, .int l1), (2, .int l2), (3, .int l3), (4, .int l4), (5, .int l5), (6, .int l6)] [.long v_8, .int l5] h
      obtain ⟨hg, hf⟩ := xgd_inv hf
      refine Xblk hX pkX5_ok [.aload_n 0, .getfield 20, .iload 6, .iaload, .lshr, .lconst 1, .land, .l2i, .iadd, .istore 5, .iinc 6 1] (pc' := 91) (ls' := [(6, .int (l6 + (1 : Int32))), (5, .int (l5 + ((jshrL v_8 (h.1 43 l6.toNatClampNeg)) &&& (1 : Int64)).toInt32)), (0, .ref 39), (1, .int l1), (2, .int l2), (3, .int l3), (4, .int l4)]) (st' := []) (h' := h) (g := (xin l6 18 && true)) (by decide +kernel) rfl rfl hg ?_
      refine Xgoto hX (-38) 53 (by decide +kernel) (by decide) ?_
      refine XW.pick [2, 3, 4, 5, 6, 1, 0] (ls' := [(0, .ref 39), (1, .int l1), (2, .int l2), (3, .int l3), (4, .int l4), (5, .int (l5 + ((jshrL v_8 (h.1 43 l6.toNatClampNeg)) &&& (1 : Int64)).toInt32)), (6, .int (l6 + (1 : Int32)))]) rfl ?_
      exact ih (l5 + ((jshrL v_8 (h.1 43 l6.toNatClampNeg)) &&& (1 : Int64)).toInt32) (l6 + (1 : Int32)) hf
set_option maxRecDepth 100000 in
set_option maxHeartbeats 4000000 in
theorem mt_m_charge (l1 : Int32) (l2 : Int32) (h : Hp) {r : Int32} {h' : Hp} (hf : f_m_charge l1 l2 h = some (r, h')) : MT 3 66 yX5_charge cX5_charge 7 (some .int) [.ref 39, .int l1, .int l2] h (some (.int r)) h' := by
  refine MT.of (by decide +kernel) (Nat.le_of_ble_eq_true rfl) fun X hX hR => ?_
  unfold f_m_charge at hf
  refine Xblk hX pkX5_ok [.iload_n 1, .iconst 0, .bipush 6] (pc' := 4) (ls' := [(0, .ref 39), (1, .int l1), (2, .int l2)]) (st' := [.int (6 : Int32), .int (0 : Int32), .int l1]) (h' := h) (g := true) (by decide +kernel) rfl rfl rfl ?_
  refine XcallS hX (mt_m_in l1 (0 : Int32) (6 : Int32) h) (rest := []) (by decide) (by decide) xm_X5_in xi_X5_in xl_RX5_107 rfl (Nat.le_of_ble_eq_true rfl) (by decide +kernel) ?_
  show XW X 7 [(0, .ref 39), (1, .int l1), (2, .int l2)] [.int (f_m_in l1 (0 : Int32) (6 : Int32))] h
  refine Xbr hX (.ifCond .eq (11)) (tgt := 18) (P := (f_m_in l1 (0 : Int32) (6 : Int32)) = (0 : Int32)) (r := []) (by decide +kernel) rfl (by decide) (fun hc_1 => ?_) (fun hc_1 => ?_)
  · replace hf := xif_t hc_1 hf
    refine Xblk hX pkX5_ok [.iconst (-1)] (pc' := 19) (ls' := [(0, .ref 39), (1, .int l1), (2, .int l2)]) (st' := [.int (-1 : Int32)]) (h' := h) (g := true) (by decide +kernel) rfl rfl rfl ?_
    exact XrI2 hX hR hf (by decide +kernel)
  · replace hf := xif_f hc_1 hf
    refine Xblk hX pkX5_ok [.aload_n 0, .iload_n 2] (pc' := 12) (ls' := [(0, .ref 39), (1, .int l1), (2, .int l2)]) (st' := [.int l2, .ref 39]) (h' := h) (g := true) (by decide +kernel) rfl rfl rfl ?_
    refine XcallV hX (mt_m_isCarrier l2 h) (rest := []) (by decide) (by decide) xm_X5_isCarrier xi_X5_isCarrier xs_X5_isCarrier xl_RX5_175 (by decide) (xsh_39) rfl rfl rfl (Nat.le_of_ble_eq_true rfl) (by decide +kernel) ?_
    show XW X 15 [(0, .ref 39), (1, .int l1), (2, .int l2)] [.int (f_m_isCarrier l2 h)] h
    refine XbrN hX (.ifCond .ne (5)) (tgt := 20) (P := (f_m_isCarrier l2 h) = (0 : Int32)) (r := []) (by decide +kernel) rfl (by decide) (fun hc_2 => ?_) (fun hc_2 => ?_)
    · replace hf := xif_t hc_2 hf
      refine Xblk hX pkX5_ok [.iconst (-1)] (pc' := 19) (ls' := [(0, .ref 39), (1, .int l1), (2, .int l2)]) (st' := [.int (-1 : Int32)]) (h' := h) (g := true) (by decide +kernel) rfl rfl rfl ?_
      exact XrI2 hX hR hf (by decide +kernel)
    · replace hf := xif_f hc_2 hf
      obtain ⟨hg, hf⟩ := xgd_inv hf
      refine Xblk hX pkX5_ok [.iconst 1, .iconst 2, .aload_n 0, .getfield 29, .iload_n 2, .iaload, .imul, .iadd, .istore_n 3, .aload_n 0, .getfield 29, .iload_n 2, .iaload] (pc' := 37) (ls' := [(3, .int ((1 : Int32) + ((2 : Int32) * (h.1 46 l2.toNatClampNeg)))), (0, .ref 39), (1, .int l1), (2, .int l2)]) (st' := [.int (h.1 46 l2.toNatClampNeg)]) (h' := h) (g := (xin l2 6 && (xin l2 6 && true))) (by decide +kernel) rfl rfl hg ?_
      have kJ_17 : ∀ (w_4 : Int32), w_4 = (if (h.1 46 l2.toNatClampNeg) ≤ (0 : Int32) then (1 : Int32) else (2 : Int32)) → XW X 45 [(0, .ref 39), (1, .int l1), (2, .int l2), (3, .int ((1 : Int32) + ((2 : Int32) * (h.1 46 l2.toNatClampNeg))))] [.int w_4] h := by
        intro w_4 ew_4
        subst ew_4
        refine Xblk hX pkX5_ok [.istore 4, .iconst 0, .istore 5, .iconst 0, .istore 6] (pc' := 53) (ls' := [(6, .int (0 : Int32)), (5, .int (0 : Int32)), (4, .int (if (h.1 46 l2.toNatClampNeg) ≤ (0 : Int32) then (1 : Int32) else (2 : Int32))), (0, .ref 39), (1, .int l1), (2, .int l2), (3, .int ((1 : Int32) + ((2 : Int32) * (h.1 46 l2.toNatClampNeg))))]) (st' := []) (h' := h) (g := true) (by decide +kernel) rfl rfl rfl ?_
        refine XW.pick [3, 4, 5, 6, 2, 1, 0] (ls' := [(0, .ref 39), (1, .int l1), (2, .int l2), (3, .int ((1 : Int32) + ((2 : Int32) * (h.1 46 l2.toNatClampNeg)))), (4, .int (if (h.1 46 l2.toNatClampNeg) ≤ (0 : Int32) then (1 : Int32) else (2 : Int32))), (5, .int (0 : Int32)), (6, .int (0 : Int32))]) rfl ?_
        refine f_m_charge_L_5_ok hX hR l1 l2 ((1 : Int32) + ((2 : Int32) * (h.1 46 l2.toNatClampNeg))) (if (h.1 46 l2.toNatClampNeg) ≤ (0 : Int32) then (1 : Int32) else (2 : Int32)) h _  (fun l5_9 l6_10 hf => ?_) 1000 (0 : Int32) (0 : Int32) hf
        refine Xblk hX pkX5_ok [.iload_n 1] (pc' := 95) (ls' := [(0, .ref 39), (1, .int l1), (2, .int l2), (3, .int ((1 : Int32) + ((2 : Int32) * (h.1 46 l2.toNatClampNeg)))), (4, .int (if (h.1 46 l2.toNatClampNeg) ≤ (0 : Int32) then (1 : Int32) else (2 : Int32))), (5, .int l5_9)]) (st' := [.int l1]) (h' := h) (g := true) (by decide +kernel) rfl rfl rfl ?_
        by_cases hc_11 : l1 = (0 : Int32)
        · replace hf := xif_t hc_11 hf
          refine XswAt hX 132 hc_11 (show decode _ _ = .ok (.tableswitch (132) (0) (5) #[37, 49, 63, 78, 95, 111], 37) by decide +kernel) (by decide) (by decide) (o := 37) (by decide) (by decide) ?_
          refine Xblk hX pkX5_ok [.aload_n 0, .dup, .getfield 210, .lconst 1, .ladd, .putfield 210, .iconst 1] (pc' := 143) (ls' := [(0, .ref 39), (1, .int l1), (2, .int l2), (3, .int ((1 : Int32) + ((2 : Int32) * (h.1 46 l2.toNatClampNeg)))), (4, .int (if (h.1 46 l2.toNatClampNeg) ≤ (0 : Int32) then (1 : Int32) else (2 : Int32))), (5, .int l5_9)]) (st' := [.int (1 : Int32)]) (h' := (xL h 39 0 ((h.2 39 0) + (1 : Int64)))) (g := true) (by decide +kernel) rfl rfl rfl ?_
          exact XrI2 hX hR hf (by decide +kernel)
        · replace hf := xif_f hc_11 hf
          by_cases hc_12 : l1 = (1 : Int32)
          · replace hf := xif_t hc_12 hf
            refine XswAt hX 144 hc_12 (show decode _ _ = .ok (.tableswitch (132) (0) (5) #[37, 49, 63, 78, 95, 111], 37) by decide +kernel) (by decide) (by decide) (o := 49) (by decide) (by decide) ?_
            refine Xblk hX pkX5_ok [.aload_n 0, .dup, .getfield 210, .ldc2_w 213, .ladd, .putfield 210, .iload_n 3] (pc' := 157) (ls' := [(0, .ref 39), (1, .int l1), (2, .int l2), (3, .int ((1 : Int32) + ((2 : Int32) * (h.1 46 l2.toNatClampNeg)))), (4, .int (if (h.1 46 l2.toNatClampNeg) ≤ (0 : Int32) then (1 : Int32) else (2 : Int32))), (5, .int l5_9)]) (st' := [.int ((1 : Int32) + ((2 : Int32) * (h.1 46 l2.toNatClampNeg)))]) (h' := (xL h 39 0 ((h.2 39 0) + (11 : Int64)))) (g := true) (by decide +kernel) rfl rfl rfl ?_
            exact XrI2 hX hR hf (by decide +kernel)
          · replace hf := xif_f hc_12 hf
            by_cases hc_13 : l1 = (2 : Int32)
            · replace hf := xif_t hc_13 hf
              refine XswAt hX 158 hc_13 (show decode _ _ = .ok (.tableswitch (132) (0) (5) #[37, 49, 63, 78, 95, 111], 37) by decide +kernel) (by decide) (by decide) (o := 63) (by decide) (by decide) ?_
              refine Xblk hX pkX5_ok [.aload_n 0, .dup, .getfield 210, .ldc2_w 215, .ladd, .putfield 210, .iload 4] (pc' := 172) (ls' := [(0, .ref 39), (1, .int l1), (2, .int l2), (3, .int ((1 : Int32) + ((2 : Int32) * (h.1 46 l2.toNatClampNeg)))), (4, .int (if (h.1 46 l2.toNatClampNeg) ≤ (0 : Int32) then (1 : Int32) else (2 : Int32))), (5, .int l5_9)]) (st' := [.int (if (h.1 46 l2.toNatClampNeg) ≤ (0 : Int32) then (1 : Int32) else (2 : Int32))]) (h' := (xL h 39 0 ((h.2 39 0) + (101 : Int64)))) (g := true) (by decide +kernel) rfl rfl rfl ?_
              exact XrI2 hX hR hf (by decide +kernel)
            · replace hf := xif_f hc_13 hf
              by_cases hc_14 : l1 = (3 : Int32)
              · replace hf := xif_t hc_14 hf
                refine XswAt hX 173 hc_14 (show decode _ _ = .ok (.tableswitch (132) (0) (5) #[37, 49, 63, 78, 95, 111], 37) by decide +kernel) (by decide) (by decide) (o := 78) (by decide) (by decide) ?_
                refine Xblk hX pkX5_ok [.aload_n 0, .dup, .getfield 210, .ldc2_w 217, .ladd, .putfield 210, .iconst 2, .iload 4, .imul] (pc' := 189) (ls' := [(0, .ref 39), (1, .int l1), (2, .int l2), (3, .int ((1 : Int32) + ((2 : Int32) * (h.1 46 l2.toNatClampNeg)))), (4, .int (if (h.1 46 l2.toNatClampNeg) ≤ (0 : Int32) then (1 : Int32) else (2 : Int32))), (5, .int l5_9)]) (st' := [.int ((2 : Int32) * (if (h.1 46 l2.toNatClampNeg) ≤ (0 : Int32) then (1 : Int32) else (2 : Int32)))]) (h' := (xL h 39 0 ((h.2 39 0) + (1101 : Int64)))) (g := true) (by decide +kernel) rfl rfl rfl ?_
                exact XrI2 hX hR hf (by decide +kernel)
              · replace hf := xif_f hc_14 hf
                by_cases hc_15 : l1 = (4 : Int32)
                · replace hf := xif_t hc_15 hf
                  refine XswAt hX 190 hc_15 (show decode _ _ = .ok (.tableswitch (132) (0) (5) #[37, 49, 63, 78, 95, 111], 37) by decide +kernel) (by decide) (by decide) (o := 95) (by decide) (by decide) ?_
                  refine Xblk hX pkX5_ok [.aload_n 0, .dup, .getfield 210, .ldc2_w 219, .ladd, .putfield 210, .iload_n 3, .iconst 3, .iadd] (pc' := 205) (ls' := [(0, .ref 39), (1, .int l1), (2, .int l2), (3, .int ((1 : Int32) + ((2 : Int32) * (h.1 46 l2.toNatClampNeg)))), (4, .int (if (h.1 46 l2.toNatClampNeg) ≤ (0 : Int32) then (1 : Int32) else (2 : Int32))), (5, .int l5_9)]) (st' := [.int (((1 : Int32) + ((2 : Int32) * (h.1 46 l2.toNatClampNeg))) + (3 : Int32))]) (h' := (xL h 39 0 ((h.2 39 0) + (10011 : Int64)))) (g := true) (by decide +kernel) rfl rfl rfl ?_
                  exact XrI2 hX hR hf (by decide +kernel)
                · replace hf := xif_f hc_15 hf
                  by_cases hc_16 : l1 = (5 : Int32)
                  · replace hf := xif_t hc_16 hf
                    refine XswAt hX 206 hc_16 (show decode _ _ = .ok (.tableswitch (132) (0) (5) #[37, 49, 63, 78, 95, 111], 37) by decide +kernel) (by decide) (by decide) (o := 111) (by decide) (by decide) ?_
                    obtain ⟨hg, hf⟩ := xgd_inv hf
                    refine Xblk hX pkX5_ok [.aload_n 0, .dup, .getfield 210, .ldc2_w 221, .ladd, .putfield 210, .iconst 5, .aload_n 0, .getfield 29, .iload_n 2, .iaload, .iadd] (pc' := 226) (ls' := [(0, .ref 39), (1, .int l1), (2, .int l2), (3, .int ((1 : Int32) + ((2 : Int32) * (h.1 46 l2.toNatClampNeg)))), (4, .int (if (h.1 46 l2.toNatClampNeg) ≤ (0 : Int32) then (1 : Int32) else (2 : Int32))), (5, .int l5_9)]) (st' := [.int ((5 : Int32) + (h.1 46 l2.toNatClampNeg))]) (h' := (xL h 39 0 ((h.2 39 0) + (100001 : Int64)))) (g := (xin l2 6 && true)) (by decide +kernel) rfl rfl hg ?_
                    exact XrI2 hX hR hf (by decide +kernel)
                  · replace hf := xif_f hc_16 hf
                    refine XswOut hX 227 (show decode _ _ = .ok (.tableswitch (132) (0) (5) #[37, 49, 63, 78, 95, 111], 37) by decide +kernel) (by have a0 := lv_neT (a := 0) hc_11 (by decide); have a1 := lv_neT (a := 1) hc_12 (by decide); have a2 := lv_neT (a := 2) hc_13 (by decide); have a3 := lv_neT (a := 3) hc_14 (by decide); have a4 := lv_neT (a := 4) hc_15 (by decide); have a5 := lv_neT (a := 5) hc_16 (by decide); omega) (by decide) ?_
                    refine Xblk hX pkX5_ok [.aload_n 0, .dup, .getfield 210, .ldc2_w 223, .ladd, .putfield 210, .iload 4, .iload 5, .iadd] (pc' := 244) (ls' := [(0, .ref 39), (1, .int l1), (2, .int l2), (3, .int ((1 : Int32) + ((2 : Int32) * (h.1 46 l2.toNatClampNeg)))), (4, .int (if (h.1 46 l2.toNatClampNeg) ≤ (0 : Int32) then (1 : Int32) else (2 : Int32))), (5, .int l5_9)]) (st' := [.int ((if (h.1 46 l2.toNatClampNeg) ≤ (0 : Int32) then (1 : Int32) else (2 : Int32)) + l5_9)]) (h' := (xL h 39 0 ((h.2 39 0) + (1000101 : Int64)))) (g := true) (by decide +kernel) rfl rfl rfl ?_
                    exact XrI2 hX hR hf (by decide +kernel)
      refine Xbr hX (.ifCond .le (7)) (tgt := 44) (P := (h.1 46 l2.toNatClampNeg) ≤ (0 : Int32)) (r := []) (by decide +kernel) rfl (by decide) (fun hc_3 => ?_) (fun hc_3 => ?_)
      · refine Xblk hX pkX5_ok [.iconst 1] (pc' := 45) (ls' := [(3, .int ((1 : Int32) + ((2 : Int32) * (h.1 46 l2.toNatClampNeg)))), (0, .ref 39), (1, .int l1), (2, .int l2)]) (st' := [.int (1 : Int32)]) (h' := h) (g := true) (by decide +kernel) rfl rfl rfl ?_
        refine XW.pick [1, 2, 3, 0] (ls' := [(0, .ref 39), (1, .int l1), (2, .int l2), (3, .int ((1 : Int32) + ((2 : Int32) * (h.1 46 l2.toNatClampNeg))))]) rfl ?_
        exact kJ_17 _ (by rw [if_pos hc_3])
      · refine Xblk hX pkX5_ok [.iconst 2] (pc' := 41) (ls' := [(3, .int ((1 : Int32) + ((2 : Int32) * (h.1 46 l2.toNatClampNeg)))), (0, .ref 39), (1, .int l1), (2, .int l2)]) (st' := [.int (2 : Int32)]) (h' := h) (g := true) (by decide +kernel) rfl rfl rfl ?_
        refine Xgoto hX (4) 45 (by decide +kernel) (by decide) ?_
        refine XW.pick [1, 2, 3, 0] (ls' := [(0, .ref 39), (1, .int l1), (2, .int l2), (3, .int ((1 : Int32) + ((2 : Int32) * (h.1 46 l2.toNatClampNeg))))]) rfl ?_
        exact kJ_17 _ (by rw [if_neg hc_3])
def f_m_bitsIn_L_1  (l0 : Int64)  (k : Int32 → Int32 → Option (Int32)) : Nat → Int32 → Int32 → Option (Int32)
  | 0, _, _ => none
  | n + 1, l2, l3 =>
    if (64 : Int32) ≤ l3 then
      k l2 l3
    else
      (f_m_bitsIn_L_1 l0 k n) (l2 + ((jshrL l0 l3) &&& (1 : Int64)).toInt32) (l3 + (1 : Int32))
def f_m_bitsIn (l0 : Int64) : Option (Int32) :=
  f_m_bitsIn_L_1 l0 (fun l2_3 l3_4 =>
    some l2_3
    ) 1000 (0 : Int32) (0 : Int32)
set_option maxRecDepth 100000 in
set_option maxHeartbeats 4000000 in
theorem f_m_bitsIn_L_1_ok {X : XCtx} (hX : XOk X RX5 cX5_bitsIn 4 0 66) {r : Int32} {h : Hp} (hR : XR X (some .int) (some (.int r)) h)  (l0 : Int64)  (k : Int32 → Int32 → Option (Int32))  (hk : ∀ (l2 : Int32) (l3 : Int32), k l2 l3 = some r → XW X 25 [(2, .int l2)] [] h) : ∀ (n : Nat) (l2 : Int32) (l3 : Int32), f_m_bitsIn_L_1 l0 k n l2 l3 = some r → XW X 4 [(0, .long l0), (2, .int l2), (3, .int l3)] [] h := by
  intro n
  induction n with
  | zero => intro l2 l3 hf; cases hf
  | succ n ih =>
    intro l2 l3 hf
    rw [f_m_bitsIn_L_1] at hf
    refine Xblk hX pkX5_ok [.iload_n 3, .bipush 64] (pc' := 7) (ls' := [(0, .long l0), (2, .int l2), (3, .int l3)]) (st' := [.int (64 : Int32), .int l3]) (h' := h) (g := true) (by decide +kernel) rfl rfl rfl ?_
    refine Xbr hX (.if_icmp .ge (18)) (tgt := 25) (P := (64 : Int32) ≤ l3) (r := []) (by decide +kernel) rfl (by decide) (fun hc_2 => ?_) (fun hc_2 => ?_)
    · replace hf := xif_t hc_2 hf
      refine XW.pick [1] (ls' := [(2, .int l2)]) rfl ?_
      exact hk l2 l3 hf
    · replace hf := xif_f hc_2 hf
      refine Xblk hX pkX5_ok [.iload_n 2, .lload_n 0, .iload_n 3, .lshr, .lconst 1, .land, .l2i, .iadd, .istore_n 2, .iinc 3 1] (pc' := 22) (ls' := [(3, .int (l3 + (1 : Int32))), (2, .int (l2 + ((jshrL l0 l3) &&& (1 : Int64)).toInt32)), (0, .long l0)]) (st' := []) (h' := h) (g := true) (by decide +kernel) rfl rfl rfl ?_
      refine Xgoto hX (-18) 4 (by decide +kernel) (by decide) ?_
      refine XW.pick [2, 1, 0] (ls' := [(0, .long l0), (2, .int (l2 + ((jshrL l0 l3) &&& (1 : Int64)).toInt32)), (3, .int (l3 + (1 : Int32)))]) rfl ?_
      exact ih (l2 + ((jshrL l0 l3) &&& (1 : Int64)).toInt32) (l3 + (1 : Int32)) hf
set_option maxRecDepth 100000 in
set_option maxHeartbeats 4000000 in
theorem mt_m_bitsIn (l0 : Int64) (h : Hp) {r : Int32} (hf : f_m_bitsIn l0 = some r) : MT 0 66 yX5_bitsIn cX5_bitsIn 4 (some .int) [.long l0] h (some (.int r)) h := by
  refine MT.of (by decide +kernel) (Nat.le_of_ble_eq_true rfl) fun X hX hR => ?_
  unfold f_m_bitsIn at hf
  refine Xblk hX pkX5_ok [.iconst 0, .istore_n 2, .iconst 0, .istore_n 3] (pc' := 4) (ls' := [(3, .int (0 : Int32)), (2, .int (0 : Int32)), (0, .long l0)]) (st' := []) (h' := h) (g := true) (by decide +kernel) rfl rfl rfl ?_
  refine XW.pick [2, 1, 0] (ls' := [(0, .long l0), (2, .int (0 : Int32)), (3, .int (0 : Int32))]) rfl ?_
  refine f_m_bitsIn_L_1_ok hX hR l0 _  (fun l2_3 l3_4 hf => ?_) 1000 (0 : Int32) (0 : Int32) hf
  refine Xblk hX pkX5_ok [.iload_n 2] (pc' := 26) (ls' := [(2, .int l2_3)]) (st' := [.int l2_3]) (h' := h) (g := true) (by decide +kernel) rfl rfl rfl ?_
  exact XrI1 hX hR hf (by decide +kernel)
def f_m_lost  (h : Hp) : Option (Int32 × Hp) :=
  xbd1 (f_m_bitsIn (h.2 39 8)) fun v_2 =>
  some (v_2, (xL h 39 9 (h.2 39 8)))
set_option maxRecDepth 100000 in
set_option maxHeartbeats 4000000 in
theorem mt_m_lost  (h : Hp) {r : Int32} {h' : Hp} (hf : f_m_lost h = some (r, h')) : MT 1 66 yX5_lost cX5_lost 1 (some .int) [.ref 39] h (some (.int r)) h' := by
  refine MT.of (by decide +kernel) (Nat.le_of_ble_eq_true rfl) fun X hX hR => ?_
  unfold f_m_lost at hf
  refine Xblk hX pkX5_ok [.aload_n 0, .aload_n 0, .getfield 100, .putfield 104, .aload_n 0, .getfield 104] (pc' := 12) (ls' := [(0, .ref 39)]) (st' := [.long (h.2 39 8)]) (h' := (xL h 39 9 (h.2 39 8))) (g := true) (by decide +kernel) rfl rfl rfl ?_
  obtain ⟨v_2, hc_1, hf⟩ := xbd1_inv hf
  refine XcallS hX (mt_m_bitsIn (h.2 39 8) (xL h 39 9 (h.2 39 8)) hc_1) (rest := []) (by decide) (by decide) xm_X5_bitsIn xi_X5_bitsIn xl_RX5_225 rfl (Nat.le_of_ble_eq_true rfl) (by decide +kernel) ?_
  show XW X 15 [(0, .ref 39)] [.int v_2] (xL h 39 9 (h.2 39 8))
  exact XrI2 hX hR hf (by decide +kernel)
def f_m_looks_L_1  (l1 : Int32) (h : Hp) (k : Int32 → Int32 → Option (Int32)) : Nat → Int32 → Int32 → Option (Int32)
  | 0, _, _ => none
  | n + 1, l2, l3 =>
    if (4 : Int32) ≤ l3 then
      k l2 l3
    else
      (f_m_looks_L_1 l1 h k n) (l2 ||| (if (f_m_beside l1 l3 h) = (-9 : Int32) then (0 : Int32) else (if (f_m_isFree (f_m_beside l1 l3 h) h) = (0 : Int32) then (0 : Int32) else (jshl (1 : Int32) l3)))) (l3 + (1 : Int32))
def f_m_looks (l1 : Int32) (h : Hp) : Option (Int32) :=
  f_m_looks_L_1 l1 h (fun l2_7 l3_8 =>
    xgd (xin l1 64 && true) <|
    if (f_m_in (h.1 41 l1.toNatClampNeg) (49 : Int32) (57 : Int32)) = (0 : Int32) then
      some (l2_7 + ((16 : Int32) * (0 : Int32)))
    else
      xgd (xin l1 64 && true) <|
      some (l2_7 + ((16 : Int32) * ((h.1 41 l1.toNatClampNeg) - (48 : Int32))))
    ) 1000 (0 : Int32) (0 : Int32)
set_option maxRecDepth 100000 in
set_option maxHeartbeats 4000000 in
theorem f_m_looks_L_1_ok {X : XCtx} (hX : XOk X RX5 cX5_looks 5 2 66) {r : Int32} {h : Hp} (hR : XR X (some .int) (some (.int r)) h)  (l1 : Int32)  (k : Int32 → Int32 → Option (Int32))  (hk : ∀ (l2 : Int32) (l3 : Int32), k l2 l3 = some r → XW X 49 [(0, .ref 39), (1, .int l1), (2, .int l2)] [] h) : ∀ (n : Nat) (l2 : Int32) (l3 : Int32), f_m_looks_L_1 l1 h k n l2 l3 = some r → XW X 4 [(0, .ref 39), (1, .int l1), (2, .int l2), (3, .int l3)] [] h := by
  intro n
  induction n with
  | zero => intro l2 l3 hf; cases hf
  | succ n ih =>
    intro l2 l3 hf
    rw [f_m_looks_L_1] at hf
    refine Xblk hX pkX5_ok [.iload_n 3, .iconst 4] (pc' := 6) (ls' := [(0, .ref 39), (1, .int l1), (2, .int l2), (3, .int l3)]) (st' := [.int (4 : Int32), .int l3]) (h' := h) (g := true) (by decide +kernel) rfl rfl rfl ?_
    refine Xbr hX (.if_icmp .ge (43)) (tgt := 49) (P := (4 : Int32) ≤ l3) (r := []) (by decide +kernel) rfl (by decide) (fun hc_2 => ?_) (fun hc_2 => ?_)
    · replace hf := xif_t hc_2 hf
      refine XW.pick [0, 1, 2] (ls' := [(0, .ref 39), (1, .int l1), (2, .int l2)]) rfl ?_
      exact hk l2 l3 hf
    · replace hf := xif_f hc_2 hf
      refine Xblk hX pkX5_ok [.aload_n 0, .iload_n 1, .iload_n 3] (pc' := 12) (ls' := [(0, .ref 39), (1, .int l1), (2, .int l2), (3, .int l3)]) (st' := [.int l3, .int l1, .ref 39]) (h' := h) (g := true) (by decide +kernel) rfl rfl rfl ?_
      refine XcallV hX (mt_m_beside l1 l3 h) (rest := []) (by decide) (by decide) xm_X5_beside xi_X5_beside xs_X5_beside xl_RX5_156 (by decide) (xsh_39) rfl rfl rfl (Nat.le_of_ble_eq_true rfl) (by decide +kernel) ?_
      show XW X 15 [(0, .ref 39), (1, .int l1), (2, .int l2), (3, .int l3)] [.int (f_m_beside l1 l3 h)] h
      refine Xblk hX pkX5_ok [.istore 4, .iload_n 2, .iload 4, .bipush (-9)] (pc' := 22) (ls' := [(4, .int (f_m_beside l1 l3 h)), (0, .ref 39), (1, .int l1), (2, .int l2), (3, .int l3)]) (st' := [.int (-9 : Int32), .int (f_m_beside l1 l3 h), .int l2]) (h' := h) (g := true) (by decide +kernel) rfl rfl rfl ?_
      have kJ_6 : ∀ (w_5 : Int32), w_5 = (if (f_m_beside l1 l3 h) = (-9 : Int32) then (0 : Int32) else (if (f_m_isFree (f_m_beside l1 l3 h) h) = (0 : Int32) then (0 : Int32) else (jshl (1 : Int32) l3))) → XW X 41 [(0, .ref 39), (1, .int l1), (3, .int l3)] [.int w_5, .int l2] h := by
        intro w_5 ew_5
        subst ew_5
        refine Xblk hX pkX5_ok [.ior, .istore_n 2, .iinc 3 1] (pc' := 46) (ls' := [(3, .int (l3 + (1 : Int32))), (2, .int (l2 ||| (if (f_m_beside l1 l3 h) = (-9 : Int32) then (0 : Int32) else (if (f_m_isFree (f_m_beside l1 l3 h) h) = (0 : Int32) then (0 : Int32) else (jshl (1 : Int32) l3))))), (0, .ref 39), (1, .int l1)]) (st' := []) (h' := h) (g := true) (by decide +kernel) rfl rfl rfl ?_
        refine Xgoto hX (-42) 4 (by decide +kernel) (by decide) ?_
        refine XW.pick [2, 3, 1, 0] (ls' := [(0, .ref 39), (1, .int l1), (2, .int (l2 ||| (if (f_m_beside l1 l3 h) = (-9 : Int32) then (0 : Int32) else (if (f_m_isFree (f_m_beside l1 l3 h) h) = (0 : Int32) then (0 : Int32) else (jshl (1 : Int32) l3))))), (3, .int (l3 + (1 : Int32)))]) rfl ?_
        exact ih (l2 ||| (if (f_m_beside l1 l3 h) = (-9 : Int32) then (0 : Int32) else (if (f_m_isFree (f_m_beside l1 l3 h) h) = (0 : Int32) then (0 : Int32) else (jshl (1 : Int32) l3)))) (l3 + (1 : Int32)) hf
      refine Xbr hX (.if_icmp .eq (18)) (tgt := 40) (P := (f_m_beside l1 l3 h) = (-9 : Int32)) (r := [.int l2]) (by decide +kernel) rfl (by decide) (fun hc_3 => ?_) (fun hc_3 => ?_)
      · refine Xblk hX pkX5_ok [.iconst 0] (pc' := 41) (ls' := [(4, .int (f_m_beside l1 l3 h)), (0, .ref 39), (1, .int l1), (2, .int l2), (3, .int l3)]) (st' := [.int (0 : Int32), .int l2]) (h' := h) (g := true) (by decide +kernel) rfl rfl rfl ?_
        refine XW.pick [1, 2, 4] (ls' := [(0, .ref 39), (1, .int l1), (3, .int l3)]) rfl ?_
        exact kJ_6 _ (by rw [if_pos hc_3])
      · refine Xblk hX pkX5_ok [.aload_n 0, .iload 4] (pc' := 28) (ls' := [(4, .int (f_m_beside l1 l3 h)), (0, .ref 39), (1, .int l1), (2, .int l2), (3, .int l3)]) (st' := [.int (f_m_beside l1 l3 h), .ref 39, .int l2]) (h' := h) (g := true) (by decide +kernel) rfl rfl rfl ?_
        refine XcallV hX (mt_m_isFree (f_m_beside l1 l3 h) h) (rest := [.int l2]) (by decide) (by decide) xm_X5_isFree xi_X5_isFree xs_X5_isFree xl_RX5_151 (by decide) (xsh_39) rfl rfl rfl (Nat.le_of_ble_eq_true rfl) (by decide +kernel) ?_
        show XW X 31 [(4, .int (f_m_beside l1 l3 h)), (0, .ref 39), (1, .int l1), (2, .int l2), (3, .int l3)] [.int (f_m_isFree (f_m_beside l1 l3 h) h), .int l2] h
        refine Xbr hX (.ifCond .eq (9)) (tgt := 40) (P := (f_m_isFree (f_m_beside l1 l3 h) h) = (0 : Int32)) (r := [.int l2]) (by decide +kernel) rfl (by decide) (fun hc_4 => ?_) (fun hc_4 => ?_)
        · refine Xblk hX pkX5_ok [.iconst 0] (pc' := 41) (ls' := [(4, .int (f_m_beside l1 l3 h)), (0, .ref 39), (1, .int l1), (2, .int l2), (3, .int l3)]) (st' := [.int (0 : Int32), .int l2]) (h' := h) (g := true) (by decide +kernel) rfl rfl rfl ?_
          refine XW.pick [1, 2, 4] (ls' := [(0, .ref 39), (1, .int l1), (3, .int l3)]) rfl ?_
          exact kJ_6 _ (by rw [if_neg hc_3, if_pos hc_4])
        · refine Xblk hX pkX5_ok [.iconst 1, .iload_n 3, .ishl] (pc' := 37) (ls' := [(4, .int (f_m_beside l1 l3 h)), (0, .ref 39), (1, .int l1), (2, .int l2), (3, .int l3)]) (st' := [.int (jshl (1 : Int32) l3), .int l2]) (h' := h) (g := true) (by decide +kernel) rfl rfl rfl ?_
          refine Xgoto hX (4) 41 (by decide +kernel) (by decide) ?_
          refine XW.pick [1, 2, 4] (ls' := [(0, .ref 39), (1, .int l1), (3, .int l3)]) rfl ?_
          exact kJ_6 _ (by rw [if_neg hc_3, if_neg hc_4])
set_option maxRecDepth 100000 in
set_option maxHeartbeats 4000000 in
theorem mt_m_looks (l1 : Int32) (h : Hp) {r : Int32} (hf : f_m_looks l1 h = some r) : MT 2 66 yX5_looks cX5_looks 5 (some .int) [.ref 39, .int l1] h (some (.int r)) h := by
  refine MT.of (by decide +kernel) (Nat.le_of_ble_eq_true rfl) fun X hX hR => ?_
  unfold f_m_looks at hf
  refine Xblk hX pkX5_ok [.iconst 0, .istore_n 2, .iconst 0, .istore_n 3] (pc' := 4) (ls' := [(3, .int (0 : Int32)), (2, .int (0 : Int32)), (0, .ref 39), (1, .int l1)]) (st' := []) (h' := h) (g := true) (by decide +kernel) rfl rfl rfl ?_
  refine XW.pick [2, 3, 1, 0] (ls' := [(0, .ref 39), (1, .int l1), (2, .int (0 : Int32)), (3, .int (0 : Int32))]) rfl ?_
  refine f_m_looks_L_1_ok hX hR l1 _  (fun l2_7 l3_8 hf => ?_) 1000 (0 : Int32) (0 : Int32) hf
  obtain ⟨hg, hf⟩ := xgd_inv hf
  refine Xblk hX pkX5_ok [.iload_n 2, .bipush 16, .aload_n 0, .getfield 13, .iload_n 1, .iaload, .bipush 49, .bipush 57] (pc' := 62) (ls' := [(0, .ref 39), (1, .int l1), (2, .int l2_7)]) (st' := [.int (57 : Int32), .int (49 : Int32), .int (h.1 41 l1.toNatClampNeg), .int (16 : Int32), .int l2_7]) (h' := h) (g := (xin l1 64 && true)) (by decide +kernel) rfl rfl hg ?_
  refine XcallS hX (mt_m_in (h.1 41 l1.toNatClampNeg) (49 : Int32) (57 : Int32) h) (rest := [.int (16 : Int32), .int l2_7]) (by decide) (by decide) xm_X5_in xi_X5_in xl_RX5_107 rfl (Nat.le_of_ble_eq_true rfl) (by decide +kernel) ?_
  show XW X 65 [(0, .ref 39), (1, .int l1), (2, .int l2_7)] [.int (f_m_in (h.1 41 l1.toNatClampNeg) (49 : Int32) (57 : Int32)), .int (16 : Int32), .int l2_7] h
  refine Xbr hX (.ifCond .eq (15)) (tgt := 80) (P := (f_m_in (h.1 41 l1.toNatClampNeg) (49 : Int32) (57 : Int32)) = (0 : Int32)) (r := [.int (16 : Int32), .int l2_7]) (by decide +kernel) rfl (by decide) (fun hc_10 => ?_) (fun hc_10 => ?_)
  · replace hf := xif_t hc_10 hf
    refine Xblk hX pkX5_ok [.iconst 0, .imul, .iadd] (pc' := 83) (ls' := [(0, .ref 39), (1, .int l1), (2, .int l2_7)]) (st' := [.int (l2_7 + ((16 : Int32) * (0 : Int32)))]) (h' := h) (g := true) (by decide +kernel) rfl rfl rfl ?_
    exact XrI1 hX hR hf (by decide +kernel)
  · replace hf := xif_f hc_10 hf
    obtain ⟨hg, hf⟩ := xgd_inv hf
    refine Xblk hX pkX5_ok [.aload_n 0, .getfield 13, .iload_n 1, .iaload, .bipush 48, .isub] (pc' := 77) (ls' := [(0, .ref 39), (1, .int l1), (2, .int l2_7)]) (st' := [.int ((h.1 41 l1.toNatClampNeg) - (48 : Int32)), .int (16 : Int32), .int l2_7]) (h' := h) (g := (xin l1 64 && true)) (by decide +kernel) rfl rfl hg ?_
    refine Xgoto hX (4) 81 (by decide +kernel) (by decide) ?_
    refine Xblk hX pkX5_ok [.imul, .iadd] (pc' := 83) (ls' := [(0, .ref 39), (1, .int l1), (2, .int l2_7)]) (st' := [.int (l2_7 + ((16 : Int32) * ((h.1 41 l1.toNatClampNeg) - (48 : Int32))))]) (h' := h) (g := true) (by decide +kernel) rfl rfl rfl ?_
    exact XrI1 hX hR hf (by decide +kernel)
