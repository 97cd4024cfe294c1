def f_m_isCell (l1 : Int32) (h : Hp) : Int32 :=
  if (f_m_in l1 (0 : Int32) (63 : Int32)) = (0 : Int32) then
    (0 : Int32)
  else
    if (h.1 39 3) ≤ (jrem l1 (8 : Int32)) then
      (0 : Int32)
    else
      if (h.1 39 4) ≤ (l1 / (8 : Int32)) then
        (0 : Int32)
      else
        (1 : Int32)
theorem xb_m_isCell (l1 : Int32) (h : Hp) : xbool (f_m_isCell l1 h) = true := by
  unfold f_m_isCell
  (repeat' split) <;> first | rfl | exact xb_m_in _ _ _
set_option maxRecDepth 100000 in
set_option maxHeartbeats 4000000 in
theorem mt_m_isCell (l1 : Int32) (h : Hp) : MT 1 66 yX5_isCell cX5_isCell 2 (some .boolean) [.ref 39, .int l1] h (some (.int (f_m_isCell l1 h))) h := by
  obtain ⟨o, hf⟩ : ∃ o, f_m_isCell l1 h = o := ⟨_, rfl⟩
  rw [hf]
  refine MT.of (by decide +kernel) (Nat.le_of_ble_eq_true rfl) fun X hX hR => ?_
  unfold f_m_isCell at hf
  refine Xblk hX pkX5_ok [.iload_n 1, .iconst 0, .bipush 63] (pc' := 4) (ls' := [(0, .ref 39), (1, .int l1)]) (st' := [.int (63 : Int32), .int (0 : Int32), .int l1]) (h' := h) (g := true) (by decide +kernel) rfl rfl rfl ?_
  refine XcallS hX (mt_m_in l1 (0 : Int32) (63 : Int32) h) (rest := []) (by decide) (by decide) xm_X5_in xi_X5_in xl_RX5_107 rfl (Nat.le_of_ble_eq_true rfl) (by decide +kernel) ?_
  show XW X 7 [(0, .ref 39), (1, .int l1)] [.int (f_m_in l1 (0 : Int32) (63 : Int32))] h
  refine Xbr hX (.ifCond .eq (29)) (tgt := 36) (P := (f_m_in l1 (0 : Int32) (63 : Int32)) = (0 : Int32)) (r := []) (by decide +kernel) rfl (by decide) (fun hc_1 => ?_) (fun hc_1 => ?_)
  · replace hf := xif_t hc_1 hf
    refine Xblk hX pkX5_ok [.iconst 0] (pc' := 37) (ls' := [(0, .ref 39), (1, .int l1)]) (st' := [.int (0 : Int32)]) (h' := h) (g := true) (by decide +kernel) rfl rfl rfl ?_
    subst hf
    exact XretZ hX hR (by decide) (by decide +kernel)
  · replace hf := xif_f hc_1 hf
    refine Xblk hX pkX5_ok [.iload_n 1, .bipush 8, .irem, .aload_n 0, .getfield 91] (pc' := 18) (ls' := [(0, .ref 39), (1, .int l1)]) (st' := [.int (h.1 39 3), .int (jrem l1 (8 : Int32))]) (h' := h) (g := true) (by decide +kernel) rfl rfl rfl ?_
    refine Xbr hX (.if_icmp .ge (18)) (tgt := 36) (P := (h.1 39 3) ≤ (jrem l1 (8 : Int32))) (r := []) (by decide +kernel) rfl (by decide) (fun hc_2 => ?_) (fun hc_2 => ?_)
    · replace hf := xif_t hc_2 hf
      refine Xblk hX pkX5_ok [.iconst 0] (pc' := 37) (ls' := [(0, .ref 39), (1, .int l1)]) (st' := [.int (0 : Int32)]) (h' := h) (g := true) (by decide +kernel) rfl rfl rfl ?_
      subst hf
      exact XretZ hX hR (by decide) (by decide +kernel)
    · replace hf := xif_f hc_2 hf
      refine Xblk hX pkX5_ok [.iload_n 1, .bipush 8, .idiv, .aload_n 0, .getfield 95] (pc' := 29) (ls' := [(0, .ref 39), (1, .int l1)]) (st' := [.int (h.1 39 4), .int (l1 / (8 : Int32))]) (h' := h) (g := true) (by decide +kernel) rfl rfl rfl ?_
      refine Xbr hX (.if_icmp .ge (7)) (tgt := 36) (P := (h.1 39 4) ≤ (l1 / (8 : Int32))) (r := []) (by decide +kernel) rfl (by decide) (fun hc_3 => ?_) (fun hc_3 => ?_)
      · replace hf := xif_t hc_3 hf
        refine Xblk hX pkX5_ok [.iconst 0] (pc' := 37) (ls' := [(0, .ref 39), (1, .int l1)]) (st' := [.int (0 : Int32)]) (h' := h) (g := true) (by decide +kernel) rfl rfl rfl ?_
        subst hf
        exact XretZ hX hR (by decide) (by decide +kernel)
      · replace hf := xif_f hc_3 hf
        refine Xblk hX pkX5_ok [.iconst 1] (pc' := 33) (ls' := [(0, .ref 39), (1, .int l1)]) (st' := [.int (1 : Int32)]) (h' := h) (g := true) (by decide +kernel) rfl rfl rfl ?_
        refine Xgoto hX (4) 37 (by decide +kernel) (by decide) ?_
        subst hf
        exact XretZ hX hR (by decide) (by decide +kernel)
def f_m_sign (l1 : Int32) (h : Hp) : Option (Int32) :=
  if (f_m_isCell l1 h) = (0 : Int32) then
    some (-1 : Int32)
  else
    xgd (xin l1 64 && true) <|
    some (h.1 41 l1.toNatClampNeg)
set_option maxRecDepth 100000 in
set_option maxHeartbeats 4000000 in
theorem mt_m_sign (l1 : Int32) (h : Hp) {r : Int32} (hf : f_m_sign l1 h = some r) : MT 2 66 yX5_sign cX5_sign 2 (some .int) [.ref 39, .int l1] h (some (.int r)) h := by
  refine MT.of (by decide +kernel) (Nat.le_of_ble_eq_true rfl) fun X hX hR => ?_
  unfold f_m_sign at hf
  refine Xblk hX pkX5_ok [.aload_n 0, .iload_n 1] (pc' := 2) (ls' := [(0, .ref 39), (1, .int l1)]) (st' := [.int l1, .ref 39]) (h' := h) (g := true) (by decide +kernel) rfl rfl rfl ?_
  refine XcallV hX (mt_m_isCell l1 h) (rest := []) (by decide) (by decide) xm_X5_isCell xi_X5_isCell xs_X5_isCell xl_RX5_144 (by decide) (xsh_39) rfl rfl rfl (Nat.le_of_ble_eq_true rfl) (by decide +kernel) ?_
  show XW X 5 [(0, .ref 39), (1, .int l1)] [.int (f_m_isCell l1 h)] h
  refine Xbr hX (.ifCond .eq (12)) (tgt := 17) (P := (f_m_isCell l1 h) = (0 : Int32)) (r := []) (by decide +kernel) rfl (by decide) (fun hc_2 => ?_) (fun hc_2 => ?_)
  · replace hf := xif_t hc_2 hf
    refine Xblk hX pkX5_ok [.iconst (-1)] (pc' := 18) (ls' := [(0, .ref 39), (1, .int l1)]) (st' := [.int (-1 : Int32)]) (h' := h) (g := true) (by decide +kernel) rfl rfl rfl ?_
    exact XrI1 hX hR hf (by decide +kernel)
  · replace hf := xif_f hc_2 hf
    obtain ⟨hg, hf⟩ := xgd_inv hf
    refine Xblk hX pkX5_ok [.aload_n 0, .getfield 13, .iload_n 1, .iaload] (pc' := 14) (ls' := [(0, .ref 39), (1, .int l1)]) (st' := [.int (h.1 41 l1.toNatClampNeg)]) (h' := h) (g := (xin l1 64 && true)) (by decide +kernel) rfl rfl hg ?_
    refine Xgoto hX (4) 18 (by decide +kernel) (by decide) ?_
    exact XrI1 hX hR hf (by decide +kernel)
def f_m_isEnd_L_1  (l1 : Int32) (h : Hp) (k : Int32 → Int32 → Option (Int32)) : Nat → Int32 → Int32 → Option (Int32)
  | 0, _, _ => none
  | n + 1, l2, l3 =>
    if (h.1 39 25) ≤ l3 then
      k l2 l3
    else
      if l2 = (0 : Int32) then
        xgd (xin l3 6 && true) <|
        if (h.1 52 l3.toNatClampNeg) = l1 then
          (f_m_isEnd_L_1 l1 h k n) (1 : Int32) (l3 + (1 : Int32))
        else
          xgd (xin l3 6 && true) <|
          (f_m_isEnd_L_1 l1 h k n) (if (h.1 53 l3.toNatClampNeg) = l1 then (1 : Int32) else (0 : Int32)) (l3 + (1 : Int32))
      else
        (f_m_isEnd_L_1 l1 h k n) (1 : Int32) (l3 + (1 : Int32))
def f_m_isEnd_L_12  (l1 : Int32) (h : Hp) (k : Int32 → Int32 → Option (Int32)) : Nat → Int32 → Int32 → Option (Int32)
  | 0, _, _ => none
  | n + 1, l2, l3 =>
    if (h.1 39 12) ≤ l3 then
      k l2 l3
    else
      if l2 = (0 : Int32) then
        xgd (xin l3 18 && true) <|
        (f_m_isEnd_L_12 l1 h k n) (if (h.1 43 l3.toNatClampNeg) = l1 then (1 : Int32) else (0 : Int32)) (l3 + (1 : Int32))
      else
        (f_m_isEnd_L_12 l1 h k n) (1 : Int32) (l3 + (1 : Int32))
def f_m_isEnd_L_21  (l1 : Int32) (h : Hp) (k : Int32 → Int32 → Option (Int32)) : Nat → Int32 → Int32 → Option (Int32)
  | 0, _, _ => none
  | n + 1, l2, l3 =>
    if (h.1 39 15) ≤ l3 then
      k l2 l3
    else
      if l2 = (0 : Int32) then
        xgd (xin l3 6 && true) <|
        (f_m_isEnd_L_21 l1 h k n) (if (h.1 45 l3.toNatClampNeg) = l1 then (1 : Int32) else (0 : Int32)) (l3 + (1 : Int32))
      else
        (f_m_isEnd_L_21 l1 h k n) (1 : Int32) (l3 + (1 : Int32))
def f_m_isEnd (l1 : Int32) (h : Hp) : Option (Int32) :=
  f_m_isEnd_L_1 l1 h (fun l2_10 l3_11 =>
    f_m_isEnd_L_12 l1 h (fun l2_19 l3_20 =>
      f_m_isEnd_L_21 l1 h (fun l2_28 l3_29 =>
        xgd (xbool l2_28 && true) <|
        some l2_28
        ) 1000 l2_19 (0 : Int32)
      ) 1000 l2_10 (0 : Int32)
    ) 1000 (0 : Int32) (0 : Int32)
set_option maxRecDepth 100000 in
set_option maxHeartbeats 4000000 in
theorem f_m_isEnd_L_1_ok {X : XCtx} (hX : XOk X RX5 cX5_isEnd 4 0 66) {r : Int32} {h : Hp} (hR : XR X (some .boolean) (some (.int r)) h)  (l1 : Int32)  (k : Int32 → Int32 → Option (Int32))  (hk : ∀ (l2 : Int32) (l3 : Int32), k l2 l3 = some r → XW X 48 [(0, .ref 39), (1, .int l1), (2, .int l2)] [] h) : ∀ (n : Nat) (l2 : Int32) (l3 : Int32), f_m_isEnd_L_1 l1 h k n l2 l3 = some r → XW X 4 [(0, .ref 39), (1, .int l1), (2, .int l2), (3, .int l3)] [] h := by
  intro n
  induction n with
  | zero => intro l2 l3 hf; cases hf
  | succ n ih =>
    intro l2 l3 hf
    rw [f_m_isEnd_L_1] at hf
    refine Xblk hX pkX5_ok [.iload_n 3, .aload_n 0, .getfield 135] (pc' := 9) (ls' := [(0, .ref 39), (1, .int l1), (2, .int l2), (3, .int l3)]) (st' := [.int (h.1 39 25), .int l3]) (h' := h) (g := true) (by decide +kernel) rfl rfl rfl ?_
    refine Xbr hX (.if_icmp .ge (39)) (tgt := 48) (P := (h.1 39 25) ≤ l3) (r := []) (by decide +kernel) rfl (by decide) (fun hc_2 => ?_) (fun hc_2 => ?_)
    · replace hf := xif_t hc_2 hf
      refine XW.pick [0, 1, 2] (ls' := [(0, .ref 39), (1, .int l1), (2, .int l2)]) rfl ?_
      exact hk l2 l3 hf
    · replace hf := xif_f hc_2 hf
      refine Xblk hX pkX5_ok [.iload_n 2] (pc' := 13) (ls' := [(0, .ref 39), (1, .int l1), (2, .int l2), (3, .int l3)]) (st' := [.int l2]) (h' := h) (g := true) (by decide +kernel) rfl rfl rfl ?_
      refine XbrN hX (.ifCond .ne (23)) (tgt := 36) (P := l2 = (0 : Int32)) (r := []) (by decide +kernel) rfl (by decide) (fun hc_4 => ?_) (fun hc_4 => ?_)
      · replace hf := xif_t hc_4 hf
        obtain ⟨hg, hf⟩ := xgd_inv hf
        refine Xblk hX pkX5_ok [.aload_n 0, .getfield 49, .iload_n 3, .iaload, .iload_n 1] (pc' := 23) (ls' := [(0, .ref 39), (1, .int l1), (2, .int l2), (3, .int l3)]) (st' := [.int l1, .int (h.1 52 l3.toNatClampNeg)]) (h' := h) (g := (xin l3 6 && true)) (by decide +kernel) rfl rfl hg ?_
        refine Xbr hX (.if_icmp .eq (13)) (tgt := 36) (P := (h.1 52 l3.toNatClampNeg) = l1) (r := []) (by decide +kernel) rfl (by decide) (fun hc_6 => ?_) (fun hc_6 => ?_)
        · replace hf := xif_t hc_6 hf
          refine Xblk hX pkX5_ok [.iconst 1] (pc' := 37) (ls' := [(0, .ref 39), (1, .int l1), (2, .int l2), (3, .int l3)]) (st' := [.int (1 : Int32)]) (h' := h) (g := true) (by decide +kernel) rfl rfl rfl ?_
          refine Xgoto hX (4) 41 (by decide +kernel) (by decide) ?_
          refine Xblk hX pkX5_ok [.istore_n 2, .iinc 3 1] (pc' := 45) (ls' := [(3, .int (l3 + (1 : Int32))), (2, .int (1 : Int32)), (0, .ref 39), (1, .int l1)]) (st' := []) (h' := h) (g := true) (by decide +kernel) rfl rfl rfl ?_
          refine Xgoto hX (-41) 4 (by decide +kernel) (by decide) ?_
          refine XW.pick [2, 3, 1, 0] (ls' := [(0, .ref 39), (1, .int l1), (2, .int (1 : Int32)), (3, .int (l3 + (1 : Int32)))]) rfl ?_
          exact ih (1 : Int32) (l3 + (1 : Int32)) hf
        · replace hf := xif_f hc_6 hf
          obtain ⟨hg, hf⟩ := xgd_inv hf
          refine Xblk hX pkX5_ok [.aload_n 0, .getfield 52, .iload_n 3, .iaload, .iload_n 1] (pc' := 33) (ls' := [(0, .ref 39), (1, .int l1), (2, .int l2), (3, .int l3)]) (st' := [.int l1, .int (h.1 53 l3.toNatClampNeg)]) (h' := h) (g := (xin l3 6 && true)) (by decide +kernel) rfl rfl hg ?_
          have kJ_9 : ∀ (w_8 : Int32), w_8 = (if (h.1 53 l3.toNatClampNeg) = l1 then (1 : Int32) else (0 : Int32)) → XW X 41 [(0, .ref 39), (1, .int l1), (3, .int l3)] [.int w_8] h := by
            intro w_8 ew_8
            subst ew_8
            refine Xblk hX pkX5_ok [.istore_n 2, .iinc 3 1] (pc' := 45) (ls' := [(3, .int (l3 + (1 : Int32))), (2, .int (if (h.1 53 l3.toNatClampNeg) = l1 then (1 : Int32) else (0 : Int32))), (0, .ref 39), (1, .int l1)]) (st' := []) (h' := h) (g := true) (by decide +kernel) rfl rfl rfl ?_
            refine Xgoto hX (-41) 4 (by decide +kernel) (by decide) ?_
            refine XW.pick [2, 3, 1, 0] (ls' := [(0, .ref 39), (1, .int l1), (2, .int (if (h.1 53 l3.toNatClampNeg) = l1 then (1 : Int32) else (0 : Int32))), (3, .int (l3 + (1 : Int32)))]) rfl ?_
            exact ih (if (h.1 53 l3.toNatClampNeg) = l1 then (1 : Int32) else (0 : Int32)) (l3 + (1 : Int32)) hf
          refine XbrN hX (.if_icmp .ne (7)) (tgt := 40) (P := (h.1 53 l3.toNatClampNeg) = l1) (r := []) (by decide +kernel) rfl (by decide) (fun hc_7 => ?_) (fun hc_7 => ?_)
          · refine Xblk hX pkX5_ok [.iconst 1] (pc' := 37) (ls' := [(0, .ref 39), (1, .int l1), (2, .int l2), (3, .int l3)]) (st' := [.int (1 : Int32)]) (h' := h) (g := true) (by decide +kernel) rfl rfl rfl ?_
            refine Xgoto hX (4) 41 (by decide +kernel) (by decide) ?_
            refine XW.pick [0, 1, 3] (ls' := [(0, .ref 39), (1, .int l1), (3, .int l3)]) rfl ?_
            exact kJ_9 _ (by rw [if_pos hc_7])
          · refine Xblk hX pkX5_ok [.iconst 0] (pc' := 41) (ls' := [(0, .ref 39), (1, .int l1), (2, .int l2), (3, .int l3)]) (st' := [.int (0 : Int32)]) (h' := h) (g := true) (by decide +kernel) rfl rfl rfl ?_
            refine XW.pick [0, 1, 3] (ls' := [(0, .ref 39), (1, .int l1), (3, .int l3)]) rfl ?_
            exact kJ_9 _ (by rw [if_neg hc_7])
      · replace hf := xif_f hc_4 hf
        refine Xblk hX pkX5_ok [.iconst 1] (pc' := 37) (ls' := [(0, .ref 39), (1, .int l1), (2, .int l2), (3, .int l3)]) (st' := [.int (1 : Int32)]) (h' := h) (g := true) (by decide +kernel) rfl rfl rfl ?_
        refine Xgoto hX (4) 41 (by decide +kernel) (by decide) ?_
        refine Xblk hX pkX5_ok [.istore_n 2, .iinc 3 1] (pc' := 45) (ls' := [(3, .int (l3 + (1 : Int32))), (2, .int (1 : Int32)), (0, .ref 39), (1, .int l1)]) (st' := []) (h' := h) (g := true) (by decide +kernel) rfl rfl rfl ?_
        refine Xgoto hX (-41) 4 (by decide +kernel) (by decide) ?_
        refine XW.pick [2, 3, 1, 0] (ls' := [(0, .ref 39), (1, .int l1), (2, .int (1 : Int32)), (3, .int (l3 + (1 : Int32)))]) rfl ?_
        exact ih (1 : Int32) (l3 + (1 : Int32)) hf
set_option maxRecDepth 100000 in
set_option maxHeartbeats 4000000 in
theorem f_m_isEnd_L_12_ok {X : XCtx} (hX : XOk X RX5 cX5_isEnd 4 0 66) {r : Int32} {h : Hp} (hR : XR X (some .boolean) (some (.int r)) h)  (l1 : Int32)  (k : Int32 → Int32 → Option (Int32))  (hk : ∀ (l2 : Int32) (l3 : Int32), k l2 l3 = some r → XW X 84 [(0, .ref 39), (1, .int l1), (2, .int l2)] [] h) : ∀ (n : Nat) (l2 : Int32) (l3 : Int32), f_m_isEnd_L_12 l1 h k n l2 l3 = some r → XW X 50 [(0, .ref 39), (1, .int l1), (2, .int l2), (3, .int l3)] [] h := by
  intro n
  induction n with
  | zero => intro l2 l3 hf; cases hf
  | succ n ih =>
    intro l2 l3 hf
    rw [f_m_isEnd_L_12] at hf
    refine Xblk hX pkX5_ok [.iload_n 3, .aload_n 0, .getfield 129] (pc' := 55) (ls' := [(0, .ref 39), (1, .int l1), (2, .int l2), (3, .int l3)]) (st' := [.int (h.1 39 12), .int l3]) (h' := h) (g := true) (by decide +kernel) rfl rfl rfl ?_
    refine Xbr hX (.if_icmp .ge (29)) (tgt := 84) (P := (h.1 39 12) ≤ l3) (r := []) (by decide +kernel) rfl (by decide) (fun hc_13 => ?_) (fun hc_13 => ?_)
    · replace hf := xif_t hc_13 hf
      refine XW.pick [0, 1, 2] (ls' := [(0, .ref 39), (1, .int l1), (2, .int l2)]) rfl ?_
      exact hk l2 l3 hf
    · replace hf := xif_f hc_13 hf
      refine Xblk hX pkX5_ok [.iload_n 2] (pc' := 59) (ls' := [(0, .ref 39), (1, .int l1), (2, .int l2), (3, .int l3)]) (st' := [.int l2]) (h' := h) (g := true) (by decide +kernel) rfl rfl rfl ?_
      refine XbrN hX (.ifCond .ne (13)) (tgt := 72) (P := l2 = (0 : Int32)) (r := []) (by decide +kernel) rfl (by decide) (fun hc_15 => ?_) (fun hc_15 => ?_)
      · replace hf := xif_t hc_15 hf
        obtain ⟨hg, hf⟩ := xgd_inv hf
        refine Xblk hX pkX5_ok [.aload_n 0, .getfield 20, .iload_n 3, .iaload, .iload_n 1] (pc' := 69) (ls' := [(0, .ref 39), (1, .int l1), (2, .int l2), (3, .int l3)]) (st' := [.int l1, .int (h.1 43 l3.toNatClampNeg)]) (h' := h) (g := (xin l3 18 && true)) (by decide +kernel) rfl rfl hg ?_
        have kJ_18 : ∀ (w_17 : Int32), w_17 = (if (h.1 43 l3.toNatClampNeg) = l1 then (1 : Int32) else (0 : Int32)) → XW X 77 [(0, .ref 39), (1, .int l1), (3, .int l3)] [.int w_17] h := by
          intro w_17 ew_17
          subst ew_17
          refine Xblk hX pkX5_ok [.istore_n 2, .iinc 3 1] (pc' := 81) (ls' := [(3, .int (l3 + (1 : Int32))), (2, .int (if (h.1 43 l3.toNatClampNeg) = l1 then (1 : Int32) else (0 : Int32))), (0, .ref 39), (1, .int l1)]) (st' := []) (h' := h) (g := true) (by decide +kernel) rfl rfl rfl ?_
          refine Xgoto hX (-31) 50 (by decide +kernel) (by decide) ?_
          refine XW.pick [2, 3, 1, 0] (ls' := [(0, .ref 39), (1, .int l1), (2, .int (if (h.1 43 l3.toNatClampNeg) = l1 then (1 : Int32) else (0 : Int32))), (3, .int (l3 + (1 : Int32)))]) rfl ?_
          exact ih (if (h.1 43 l3.toNatClampNeg) = l1 then (1 : Int32) else (0 : Int32)) (l3 + (1 : Int32)) hf
        refine XbrN hX (.if_icmp .ne (7)) (tgt := 76) (P := (h.1 43 l3.toNatClampNeg) = l1) (r := []) (by decide +kernel) rfl (by decide) (fun hc_16 => ?_) (fun hc_16 => ?_)
        · refine Xblk hX pkX5_ok [.iconst 1] (pc' := 73) (ls' := [(0, .ref 39), (1, .int l1), (2, .int l2), (3, .int l3)]) (st' := [.int (1 : Int32)]) (h' := h) (g := true) (by decide +kernel) rfl rfl rfl ?_
          refine Xgoto hX (4) 77 (by decide +kernel) (by decide) ?_
          refine XW.pick [0, 1, 3] (ls' := [(0, .ref 39), (1, .int l1), (3, .int l3)]) rfl ?_
          exact kJ_18 _ (by rw [if_pos hc_16])
        · refine Xblk hX pkX5_ok [.iconst 0] (pc' := 77) (ls' := [(0, .ref 39), (1, .int l1), (2, .int l2), (3, .int l3)]) (st' := [.int (0 : Int32)]) (h' := h) (g := true) (by decide +kernel) rfl rfl rfl ?_
          refine XW.pick [0, 1, 3] (ls' := [(0, .ref 39), (1, .int l1), (3, .int l3)]) rfl ?_
          exact kJ_18 _ (by rw [if_neg hc_16])
      · replace hf := xif_f hc_15 hf
        refine Xblk hX pkX5_ok [.iconst 1] (pc' := 73) (ls' := [(0, .ref 39), (1, .int l1), (2, .int l2), (3, .int l3)]) (st' := [.int (1 : Int32)]) (h' := h) (g := true) (by decide +kernel) rfl rfl rfl ?_
        refine Xgoto hX (4) 77 (by decide +kernel) (by decide) ?_
        refine Xblk hX pkX5_ok [.istore_n 2, .iinc 3 1] (pc' := 81) (ls' := [(3, .int (l3 + (1 : Int32))), (2, .int (1 : Int32)), (0, .ref 39), (1, .int l1)]) (st' := []) (h' := h) (g := true) (by decide +kernel) rfl rfl rfl ?_
        refine Xgoto hX (-31) 50 (by decide +kernel) (by decide) ?_
        refine XW.pick [2, 3, 1, 0] (ls' := [(0, .ref 39), (1, .int l1), (2, .int (1 : Int32)), (3, .int (l3 + (1 : Int32)))]) rfl ?_
        exact ih (1 : Int32) (l3 + (1 : Int32)) hf
set_option maxRecDepth 100000 in
set_option maxHeartbeats 4000000 in
theorem f_m_isEnd_L_21_ok {X : XCtx} (hX : XOk X RX5 cX5_isEnd 4 0 66) {r : Int32} {h : Hp} (hR : XR X (some .boolean) (some (.int r)) h)  (l1 : Int32)  (k : Int32 → Int32 → Option (Int32))  (hk : ∀ (l2 : Int32) (l3 : Int32), k l2 l3 = some r → XW X 120 [(2, .int l2)] [] h) : ∀ (n : Nat) (l2 : Int32) (l3 : Int32), f_m_isEnd_L_21 l1 h k n l2 l3 = some r → XW X 86 [(0, .ref 39), (1, .int l1), (2, .int l2), (3, .int l3)] [] h := by
  intro n
  induction n with
  | zero => intro l2 l3 hf; cases hf
  | succ n ih =>
    intro l2 l3 hf
    rw [f_m_isEnd_L_21] at hf
    refine Xblk hX pkX5_ok [.iload_n 3, .aload_n 0, .getfield 132] (pc' := 91) (ls' := [(0, .ref 39), (1, .int l1), (2, .int l2), (3, .int l3)]) (st' := [.int (h.1 39 15), .int l3]) (h' := h) (g := true) (by decide +kernel) rfl rfl rfl ?_
    refine Xbr hX (.if_icmp .ge (29)) (tgt := 120) (P := (h.1 39 15) ≤ l3) (r := []) (by decide +kernel) rfl (by decide) (fun hc_22 => ?_) (fun hc_22 => ?_)
    · replace hf := xif_t hc_22 hf
      refine XW.pick [2] (ls' := [(2, .int l2)]) rfl ?_
      exact hk l2 l3 hf
    · replace hf := xif_f hc_22 hf
      refine Xblk hX pkX5_ok [.iload_n 2] (pc' := 95) (ls' := [(0, .ref 39), (1, .int l1), (2, .int l2), (3, .int l3)]) (st' := [.int l2]) (h' := h) (g := true) (by decide +kernel) rfl rfl rfl ?_
      refine XbrN hX (.ifCond .ne (13)) (tgt := 108) (P := l2 = (0 : Int32)) (r := []) (by decide +kernel) rfl (by decide) (fun hc_24 => ?_) (fun hc_24 => ?_)
      · replace hf := xif_t hc_24 hf
        obtain ⟨hg, hf⟩ := xgd_inv hf
        refine Xblk hX pkX5_ok [.aload_n 0, .getfield 26, .iload_n 3, .iaload, .iload_n 1] (pc' := 105) (ls' := [(0, .ref 39), (1, .int l1), (2, .int l2), (3, .int l3)]) (st' := [.int l1, .int (h.1 45 l3.toNatClampNeg)]) (h' := h) (g := (xin l3 6 && true)) (by decide +kernel) rfl rfl hg ?_
        have kJ_27 : ∀ (w_26 : Int32), w_26 = (if (h.1 45 l3.toNatClampNeg) = l1 then (1 : Int32) else (0 : Int32)) → XW X 113 [(0, .ref 39), (1, .int l1), (3, .int l3)] [.int w_26] h := by
          intro w_26 ew_26
          subst ew_26
          refine Xblk hX pkX5_ok [.istore_n 2, .iinc 3 1] (pc' := 117) (ls' := [(3, .int (l3 + (1 : Int32))), (2, .int (if (h.1 45 l3.toNatClampNeg) = l1 then (1 : Int32) else (0 : Int32))), (0, .ref 39), (1, .int l1)]) (st' := []) (h' := h) (g := true) (by decide +kernel) rfl rfl rfl ?_
          refine Xgoto hX (-31) 86 (by decide +kernel) (by decide) ?_
          refine XW.pick [2, 3, 1, 0] (ls' := [(0, .ref 39), (1, .int l1), (2, .int (if (h.1 45 l3.toNatClampNeg) = l1 then (1 : Int32) else (0 : Int32))), (3, .int (l3 + (1 : Int32)))]) rfl ?_
          exact ih (if (h.1 45 l3.toNatClampNeg) = l1 then (1 : Int32) else (0 : Int32)) (l3 + (1 : Int32)) hf
        refine XbrN hX (.if_icmp .ne (7)) (tgt := 112) (P := (h.1 45 l3.toNatClampNeg) = l1) (r := []) (by decide +kernel) rfl (by decide) (fun hc_25 => ?_) (fun hc_25 => ?_)
        · refine Xblk hX pkX5_ok [.iconst 1] (pc' := 109) (ls' := [(0, .ref 39), (1, .int l1), (2, .int l2), (3, .int l3)]) (st' := [.int (1 : Int32)]) (h' := h) (g := true) (by decide +kernel) rfl rfl rfl ?_
          refine Xgoto hX (4) 113 (by decide +kernel) (by decide) ?_
          refine XW.pick [0, 1, 3] (ls' := [(0, .ref 39), (1, .int l1), (3, .int l3)]) rfl ?_
          exact kJ_27 _ (by rw [if_pos hc_25])
        · refine Xblk hX pkX5_ok [.iconst 0] (pc' := 113) (ls' := [(0, .ref 39), (1, .int l1), (2, .int l2), (3, .int l3)]) (st' := [.int (0 : Int32)]) (h' := h) (g := true) (by decide +kernel) rfl rfl rfl ?_
          refine XW.pick [0, 1, 3] (ls' := [(0, .ref 39), (1, .int l1), (3, .int l3)]) rfl ?_
          exact kJ_27 _ (by rw [if_neg hc_25])
      · replace hf := xif_f hc_24 hf
        refine Xblk hX pkX5_ok [.iconst 1] (pc' := 109) (ls' := [(0, .ref 39), (1, .int l1), (2, .int l2), (3, .int l3)]) (st' := [.int (1 : Int32)]) (h' := h) (g := true) (by decide +kernel) rfl rfl rfl ?_
        refine Xgoto hX (4) 113 (by decide +kernel) (by decide) ?_
        refine Xblk hX pkX5_ok [.istore_n 2, .iinc 3 1] (pc' := 117) (ls' := [(3, .int (l3 + (1 : Int32))), (2, .int (1 : Int32)), (0, .ref 39), (1, .int l1)]) (st' := []) (h' := h) (g := true) (by decide +kernel) rfl rfl rfl ?_
        refine Xgoto hX (-31) 86 (by decide +kernel) (by decide) ?_
        refine XW.pick [2, 3, 1, 0] (ls' := [(0, .ref 39), (1, .int l1), (2, .int (1 : Int32)), (3, .int (l3 + (1 : Int32)))]) rfl ?_
        exact ih (1 : Int32) (l3 + (1 : Int32)) hf
set_option maxRecDepth 100000 in
set_option maxHeartbeats 4000000 in
theorem mt_m_isEnd (l1 : Int32) (h : Hp) {r : Int32} (hf : f_m_isEnd l1 h = some r) : MT 0 66 yX5_isEnd cX5_isEnd 4 (some .boolean) [.ref 39, .int l1] h (some (.int r)) h := by
  refine MT.of (by decide +kernel) (Nat.le_of_ble_eq_true rfl) fun X hX hR => ?_
  unfold f_m_isEnd at hf
  refine Xblk hX pkX5_ok [.iconst 0, .istore_n 2, .iconst 0, .istore_n 3] (pc' := 4) (ls' := [(3, .int (0 : Int32)), (2, .int (0 : Int32)), (0, .ref 39), (1, .int l1)]) (st' := []) (h' := h) (g := true) (by decide +kernel) rfl rfl rfl ?_
  refine XW.pick [2, 3, 1, 0] (ls' := [(0, .ref 39), (1, .int l1), (2, .int (0 : Int32)), (3, .int (0 : Int32))]) rfl ?_
  refine f_m_isEnd_L_1_ok hX hR l1 _  (fun l2_10 l3_11 hf => ?_) 1000 (0 : Int32) (0 : Int32) hf
  refine Xblk hX pkX5_ok [.iconst 0, .istore_n 3] (pc' := 50) (ls' := [(3, .int (0 : Int32)), (0, .ref 39), (1, .int l1), (2, .int l2_10)]) (st' := []) (h' := h) (g := true) (by decide +kernel) rfl rfl rfl ?_
  refine XW.pick [1, 2, 3, 0] (ls' := [(0, .ref 39), (1, .int l1), (2, .int l2_10), (3, .int (0 : Int32))]) rfl ?_
  refine f_m_isEnd_L_12_ok hX hR l1 _  (fun l2_19 l3_20 hf => ?_) 1000 l2_10 (0 : Int32) hf
  refine Xblk hX pkX5_ok [.iconst 0, .istore_n 3] (pc' := 86) (ls' := [(3, .int (0 : Int32)), (0, .ref 39), (1, .int l1), (2, .int l2_19)]) (st' := []) (h' := h) (g := true) (by decide +kernel) rfl rfl rfl ?_
  refine XW.pick [1, 2, 3, 0] (ls' := [(0, .ref 39), (1, .int l1), (2, .int l2_19), (3, .int (0 : Int32))]) rfl ?_
  refine f_m_isEnd_L_21_ok hX hR l1 _  (fun l2_28 l3_29 hf => ?_) 1000 l2_19 (0 : Int32) hf
  refine Xblk hX pkX5_ok [.iload_n 2] (pc' := 121) (ls' := [(2, .int l2_28)]) (st' := [.int l2_28]) (h' := h) (g := true) (by decide +kernel) rfl rfl rfl ?_
  obtain ⟨hg, hf⟩ := xgd_inv hf
  rw [Bool.and_true] at hg
  exact XrZ1 hX hR hf hg (by decide +kernel)
def f_m_isFree (l1 : Int32) (h : Hp) : Int32 :=
  if (lg_cmp ((jshrL (h.2 39 8) l1) &&& (1 : Int64)) (1 : Int64)) = (0 : Int32) then
    (1 : Int32)
  else
    (0 : Int32)
theorem xb_m_isFree (l1 : Int32) (h : Hp) : xbool (f_m_isFree l1 h) = true := by
  unfold f_m_isFree
  (repeat' split) <;> first | rfl | exact xb_m_in _ _ _
set_option maxRecDepth 100000 in
set_option maxHeartbeats 4000000 in
theorem mt_m_isFree (l1 : Int32) (h : Hp) : MT 0 66 yX5_isFree cX5_isFree 2 (some .boolean) [.ref 39, .int l1] h (some (.int (f_m_isFree l1 h))) h := by
  obtain ⟨o, hf⟩ : ∃ o, f_m_isFree l1 h = o := ⟨_, rfl⟩
  rw [hf]
  refine MT.of (by decide +kernel) (Nat.le_of_ble_eq_true rfl) fun X hX hR => ?_
  unfold f_m_isFree at hf
  refine Xblk hX pkX5_ok [.aload_n 0, .getfield 100, .iload_n 1, .lshr, .lconst 1, .land, .lconst 1, .lcmp] (pc' := 10) (ls' := [(0, .ref 39), (1, .int l1)]) (st' := [.int (lg_cmp ((jshrL (h.2 39 8) l1) &&& (1 : Int64)) (1 : Int64))]) (h' := h) (g := true) (by decide +kernel) rfl rfl rfl ?_
  refine XbrN hX (.ifCond .ne (7)) (tgt := 17) (P := (lg_cmp ((jshrL (h.2 39 8) l1) &&& (1 : Int64)) (1 : Int64)) = (0 : Int32)) (r := []) (by decide +kernel) rfl (by decide) (fun hc_1 => ?_) (fun hc_1 => ?_)
  · replace hf := xif_t hc_1 hf
    refine Xblk hX pkX5_ok [.iconst 1] (pc' := 14) (ls' := [(0, .ref 39), (1, .int l1)]) (st' := [.int (1 : Int32)]) (h' := h) (g := true) (by decide +kernel) rfl rfl rfl ?_
    refine Xgoto hX (4) 18 (by decide +kernel) (by decide) ?_
    subst hf
    exact XretZ hX hR (by decide) (by decide +kernel)
  · replace hf := xif_f hc_1 hf
    refine Xblk hX pkX5_ok [.iconst 0] (pc' := 18) (ls' := [(0, .ref 39), (1, .int l1)]) (st' := [.int (0 : Int32)]) (h' := h) (g := true) (by decide +kernel) rfl rfl rfl ?_
    subst hf
    exact XretZ hX hR (by decide) (by decide +kernel)
def f_m_door_j_7  (l2 : Int32) (l3 : Int32) (h : Hp) : Option (Int32 × Hp) :=
  some ((if (f_m_isFree l3 h) = (0 : Int32) then (0 : Int32) else (1 : Int32)), (xL (xL h 39 8 (if l2 = (1 : Int32) then ((h.2 39 8) ||| (jshlL (1 : Int64) l3)) else ((h.2 39 8) &&& ((jshlL (1 : Int64) l3) ^^^ (-1 : Int64))))) 39 9 (if l2 = (1 : Int32) then ((h.2 39 8) ||| (jshlL (1 : Int64) l3)) else ((h.2 39 8) &&& ((jshlL (1 : Int64) l3) ^^^ (-1 : Int64))))))
def f_m_door (l1 : Int32) (l2 : Int32) (h : Hp) : Option (Int32 × Hp) :=
  if (f_m_in l1 (0 : Int32) ((h.1 39 7) - (1 : Int32))) = (0 : Int32) then
    some ((-1 : Int32), h)
  else
    if (f_m_in l2 (0 : Int32) (1 : Int32)) = (0 : Int32) then
      some ((-1 : Int32), h)
    else
      xgd (xin l1 8 && true) <|
      if l2 = (0 : Int32) then
        xbd1 (f_m_isEnd (h.1 42 l1.toNatClampNeg) h) fun v_5 =>
        if v_5 = (0 : Int32) then
          f_m_door_j_7 l2 (h.1 42 l1.toNatClampNeg) h
        else
          some ((-2 : Int32), h)
      else
        f_m_door_j_7 l2 (h.1 42 l1.toNatClampNeg) h
set_option maxRecDepth 100000 in
set_option maxHeartbeats 4000000 in
theorem f_m_door_j_7_ok {X : XCtx} (hX : XOk X RX5 cX5_door 5 1 66) {r : Int32} {h' : Hp} (hR : XR X (some .int) (some (.int r)) h')   (l2 : Int32) (l3 : Int32) (h : Hp)  (hf : f_m_door_j_7 l2 l3 h = some (r, h')) : XW X 47 [(0, .ref 39), (2, .int l2), (3, .int l3)] [] h := by
  unfold f_m_door_j_7 at hf
  refine Xblk hX pkX5_ok [.aload_n 0, .iload_n 3] (pc' := 49) (ls' := [(0, .ref 39), (2, .int l2), (3, .int l3)]) (st' := [.int l3, .ref 39]) (h' := h) (g := true) (by decide +kernel) rfl rfl rfl ?_
  refine XcallV hX (mt_m_isFree l3 h) (rest := []) (by decide) (by decide) xm_X5_isFree xi_X5_isFree xs_X5_isFree xl_RX5_151 (by decide) (xsh_39) rfl rfl rfl (Nat.le_of_ble_eq_true rfl) (by decide +kernel) ?_
  show XW X 52 [(0, .ref 39), (2, .int l2), (3, .int l3)] [.int (f_m_isFree l3 h)] h
  have kJ_13 : ∀ (w_9 : Int32), w_9 = (if (f_m_isFree l3 h) = (0 : Int32) then (0 : Int32) else (1 : Int32)) → XW X 60 [(0, .ref 39), (2, .int l2), (3, .int l3)] [.int w_9] h := by
    intro w_9 ew_9
    subst ew_9
    refine Xblk hX pkX5_ok [.istore 4, .aload_n 0, .iload_n 2, .iconst 1] (pc' := 65) (ls' := [(4, .int (if (f_m_isFree l3 h) = (0 : Int32) then (0 : Int32) else (1 : Int32))), (0, .ref 39), (2, .int l2), (3, .int l3)]) (st' := [.int (1 : Int32), .int l2, .ref 39]) (h' := h) (g := true) (by decide +kernel) rfl rfl rfl ?_
    have kJ_12 : ∀ (w_11 : Int64), w_11 = (if l2 = (1 : Int32) then ((h.2 39 8) ||| (jshlL (1 : Int64) l3)) else ((h.2 39 8) &&& ((jshlL (1 : Int64) l3) ^^^ (-1 : Int64)))) → XW X 91 [(0, .ref 39), (4, .int (if (f_m_isFree l3 h) = (0 : Int32) then (0 : Int32) else (1 : Int32)))] [.long w_11, .ref 39] h := by
      intro w_11 ew_11
      subst ew_11
      refine Xblk hX pkX5_ok [.putfield 100, .aload_n 0, .aload_n 0, .getfield 100, .putfield 104, .iload 4] (pc' := 104) (ls' := [(0, .ref 39), (4, .int (if (f_m_isFree l3 h) = (0 : Int32) then (0 : Int32) else (1 : Int32)))]) (st' := [.int (if (f_m_isFree l3 h) = (0 : Int32) then (0 : Int32) else (1 : Int32))]) (h' := (xL (xL h 39 8 (if l2 = (1 : Int32) then ((h.2 39 8) ||| (jshlL (1 : Int64) l3)) else ((h.2 39 8) &&& ((jshlL (1 : Int64) l3) ^^^ (-1 : Int64))))) 39 9 (if l2 = (1 : Int32) then ((h.2 39 8) ||| (jshlL (1 : Int64) l3)) else ((h.2 39 8) &&& ((jshlL (1 : Int64) l3) ^^^ (-1 : Int64)))))) (g := true) (by decide +kernel) rfl rfl rfl ?_
      exact XrI2 hX hR hf (by decide +kernel)
    refine XbrN hX (.if_icmp .ne (14)) (tgt := 79) (P := l2 = (1 : Int32)) (r := [.ref 39]) (by decide +kernel) rfl (by decide) (fun hc_10 => ?_) (fun hc_10 => ?_)
    · refine Xblk hX pkX5_ok [.aload_n 0, .getfield 100, .lconst 1, .iload_n 3, .lshl, .lor] (pc' := 76) (ls' := [(4, .int (if (f_m_isFree l3 h) = (0 : Int32) then (0 : Int32) else (1 : Int32))), (0, .ref 39), (2, .int l2), (3, .int l3)]) (st' := [.long ((h.2 39 8) ||| (jshlL (1 : Int64) l3)), .ref 39]) (h' := h) (g := true) (by decide +kernel) rfl rfl rfl ?_
      refine Xgoto hX (15) 91 (by decide +kernel) (by decide) ?_
      refine XW.pick [1, 0] (ls' := [(0, .ref 39), (4, .int (if (f_m_isFree l3 h) = (0 : Int32) then (0 : Int32) else (1 : Int32)))]) rfl ?_
      exact kJ_12 _ (by rw [if_pos hc_10])
    · refine Xblk hX pkX5_ok [.aload_n 0, .getfield 100, .lconst 1, .iload_n 3, .lshl, .ldc2_w 154, .lxor, .land] (pc' := 91) (ls' := [(4, .int (if (f_m_isFree l3 h) = (0 : Int32) then (0 : Int32) else (1 : Int32))), (0, .ref 39), (2, .int l2), (3, .int l3)]) (st' := [.long ((h.2 39 8) &&& ((jshlL (1 : Int64) l3) ^^^ (-1 : Int64))), .ref 39]) (h' := h) (g := true) (by decide +kernel) rfl rfl rfl ?_
      refine XW.pick [1, 0] (ls' := [(0, .ref 39), (4, .int (if (f_m_isFree l3 h) = (0 : Int32) then (0 : Int32) else (1 : Int32)))]) rfl ?_
      exact kJ_12 _ (by rw [if_neg hc_10])
  refine Xbr hX (.ifCond .eq (7)) (tgt := 59) (P := (f_m_isFree l3 h) = (0 : Int32)) (r := []) (by decide +kernel) rfl (by decide) (fun hc_8 => ?_) (fun hc_8 => ?_)
  · refine Xblk hX pkX5_ok [.iconst 0] (pc' := 60) (ls' := [(0, .ref 39), (2, .int l2), (3, .int l3)]) (st' := [.int (0 : Int32)]) (h' := h) (g := true) (by decide +kernel) rfl rfl rfl ?_
    refine XW.pick [0, 1, 2] (ls' := [(0, .ref 39), (2, .int l2), (3, .int l3)]) rfl ?_
    exact kJ_13 _ (by rw [if_pos hc_8])
  · refine Xblk hX pkX5_ok [.iconst 1] (pc' := 56) (ls' := [(0, .ref 39), (2, .int l2), (3, .int l3)]) (st' := [.int (1 : Int32)]) (h' := h) (g := true) (by decide +kernel) rfl rfl rfl ?_
    refine Xgoto hX (4) 60 (by decide +kernel) (by decide) ?_
    refine XW.pick [0, 1, 2] (ls' := [(0, .ref 39), (2, .int l2), (3, .int l3)]) rfl ?_
    exact kJ_13 _ (by rw [if_neg hc_8])
set_option maxRecDepth 100000 in
set_option maxHeartbeats 4000000 in
theorem mt_m_door (l1 : Int32) (l2 : Int32) (h : Hp) {r : Int32} {h' : Hp} (hf : f_m_door l1 l2 h = some (r, h')) : MT 1 66 yX5_door cX5_door 5 (some .int) [.ref 39, .int l1, .int l2] h (some (.int r)) h' := by
  refine MT.of (by decide +kernel) (Nat.le_of_ble_eq_true rfl) fun X hX hR => ?_
  unfold f_m_door at hf
  refine Xblk hX pkX5_ok [.iload_n 1, .iconst 0, .aload_n 0, .getfield 126, .iconst 1, .isub] (pc' := 8) (ls' := [(0, .ref 39), (1, .int l1), (2, .int l2)]) (st' := [.int ((h.1 39 7) - (1 : Int32)), .int (0 : Int32), .int l1]) (h' := h) (g := true) (by decide +kernel) rfl rfl rfl ?_
  refine XcallS hX (mt_m_in l1 (0 : Int32) ((h.1 39 7) - (1 : Int32)) h) (rest := []) (by decide) (by decide) xm_X5_in xi_X5_in xl_RX5_107 rfl (Nat.le_of_ble_eq_true rfl) (by decide +kernel) ?_
  show XW X 11 [(0, .ref 39), (1, .int l1), (2, .int l2)] [.int (f_m_in l1 (0 : Int32) ((h.1 39 7) - (1 : Int32)))] h
  refine Xbr hX (.ifCond .eq (12)) (tgt := 23) (P := (f_m_in l1 (0 : Int32) ((h.1 39 7) - (1 : Int32))) = (0 : Int32)) (r := []) (by decide +kernel) rfl (by decide) (fun hc_1 => ?_) (fun hc_1 => ?_)
  · replace hf := xif_t hc_1 hf
    refine Xblk hX pkX5_ok [.iconst (-1)] (pc' := 24) (ls' := [(0, .ref 39), (1, .int l1), (2, .int l2)]) (st' := [.int (-1 : Int32)]) (h' := h) (g := true) (by decide +kernel) rfl rfl rfl ?_
    exact XrI2 hX hR hf (by decide +kernel)
  · replace hf := xif_f hc_1 hf
    refine Xblk hX pkX5_ok [.iload_n 2, .iconst 0, .iconst 1] (pc' := 17) (ls' := [(0, .ref 39), (1, .int l1), (2, .int l2)]) (st' := [.int (1 : Int32), .int (0 : Int32), .int l2]) (h' := h) (g := true) (by decide +kernel) rfl rfl rfl ?_
    refine XcallS hX (mt_m_in l2 (0 : Int32) (1 : Int32) h) (rest := []) (by decide) (by decide) xm_X5_in xi_X5_in xl_RX5_107 rfl (Nat.le_of_ble_eq_true rfl) (by decide +kernel) ?_
    show XW X 20 [(0, .ref 39), (1, .int l1), (2, .int l2)] [.int (f_m_in l2 (0 : Int32) (1 : Int32))] h
    refine XbrN hX (.ifCond .ne (5)) (tgt := 25) (P := (f_m_in l2 (0 : Int32) (1 : Int32)) = (0 : Int32)) (r := []) (by decide +kernel) rfl (by decide) (fun hc_2 => ?_) (fun hc_2 => ?_)
    · replace hf := xif_t hc_2 hf
      refine Xblk hX pkX5_ok [.iconst (-1)] (pc' := 24) (ls' := [(0, .ref 39), (1, .int l1), (2, .int l2)]) (st' := [.int (-1 : Int32)]) (h' := h) (g := true) (by decide +kernel) rfl rfl rfl ?_
      exact XrI2 hX hR hf (by decide +kernel)
    · replace hf := xif_f hc_2 hf
      obtain ⟨hg, hf⟩ := xgd_inv hf
      refine Xblk hX pkX5_ok [.aload_n 0, .getfield 17, .iload_n 1, .iaload, .istore_n 3, .iload_n 2] (pc' := 33) (ls' := [(3, .int (h.1 42 l1.toNatClampNeg)), (0, .ref 39), (1, .int l1), (2, .int l2)]) (st' := [.int l2]) (h' := h) (g := (xin l1 8 && true)) (by decide +kernel) rfl rfl hg ?_
      refine XbrN hX (.ifCond .ne (14)) (tgt := 47) (P := l2 = (0 : Int32)) (r := []) (by decide +kernel) rfl (by decide) (fun hc_3 => ?_) (fun hc_3 => ?_)
      · replace hf := xif_t hc_3 hf
        refine Xblk hX pkX5_ok [.aload_n 0, .iload_n 3] (pc' := 38) (ls' := [(3, .int (h.1 42 l1.toNatClampNeg)), (0, .ref 39), (1, .int l1), (2, .int l2)]) (st' := [.int (h.1 42 l1.toNatClampNeg), .ref 39]) (h' := h) (g := true) (by decide +kernel) rfl rfl rfl ?_
        obtain ⟨v_5, hc_4, hf⟩ := xbd1_inv hf
        refine XcallV hX (mt_m_isEnd (h.1 42 l1.toNatClampNeg) h hc_4) (rest := []) (by decide) (by decide) xm_X5_isEnd xi_X5_isEnd xs_X5_isEnd xl_RX5_148 (by decide) (xsh_39) rfl rfl rfl (Nat.le_of_ble_eq_true rfl) (by decide +kernel) ?_
        show XW X 41 [(3, .int (h.1 42 l1.toNatClampNeg)), (0, .ref 39), (1, .int l1), (2, .int l2)] [.int v_5] h
        refine Xbr hX (.ifCond .eq (6)) (tgt := 47) (P := v_5 = (0 : Int32)) (r := []) (by decide +kernel) rfl (by decide) (fun hc_6 => ?_) (fun hc_6 => ?_)
        · replace hf := xif_t hc_6 hf
          refine XW.pick [1, 3, 0] (ls' := [(0, .ref 39), (2, .int l2), (3, .int (h.1 42 l1.toNatClampNeg))]) rfl ?_
          exact f_m_door_j_7_ok hX hR l2 (h.1 42 l1.toNatClampNeg) h hf
        · replace hf := xif_f hc_6 hf
          refine Xblk hX pkX5_ok [.bipush (-2)] (pc' := 46) (ls' := [(3, .int (h.1 42 l1.toNatClampNeg)), (0, .ref 39), (1, .int l1), (2, .int l2)]) (st' := [.int (-2 : Int32)]) (h' := h) (g := true) (by decide +kernel) rfl rfl rfl ?_
          exact XrI2 hX hR hf (by decide +kernel)
      · replace hf := xif_f hc_3 hf
        refine XW.pick [1, 3, 0] (ls' := [(0, .ref 39), (2, .int l2), (3, .int (h.1 42 l1.toNatClampNeg))]) rfl ?_
        exact f_m_door_j_7_ok hX hR l2 (h.1 42 l1.toNatClampNeg) h hf
def f_m_beside (l1 : Int32) (l2 : Int32) (h : Hp) : Int32 :=
  (if (f_m_in ((jrem l1 (8 : Int32)) + (if l2 = (1 : Int32) then (1 : Int32) else (if l2 = (3 : Int32) then (-1 : Int32) else (0 : Int32)))) (0 : Int32) ((h.1 39 3) - (1 : Int32))) = (0 : Int32) then (-9 : Int32) else (if (f_m_in ((l1 / (8 : Int32)) + (if l2 = (2 : Int32) then (1 : Int32) else (if l2 = (0 : Int32) then (-1 : Int32) else (0 : Int32)))) (0 : Int32) ((h.1 39 4) - (1 : Int32))) = (0 : Int32) then (-9 : Int32) else (((8 : Int32) * ((l1 / (8 : Int32)) + (if l2 = (2 : Int32) then (1 : Int32) else (if l2 = (0 : Int32) then (-1 : Int32) else (0 : Int32))))) + ((jrem l1 (8 : Int32)) + (if l2 = (1 : Int32) then (1 : Int32) else (if l2 = (3 : Int32) then (-1 : Int32) else (0 : Int32)))))))
set_option maxRecDepth 100000 in
set_option maxHeartbeats 4000000 in
theorem mt_m_beside (l1 : Int32) (l2 : Int32) (h : Hp) : MT 1 66 yX5_beside cX5_beside 5 (some .int) [.ref 39, .int l1, .int l2] h (some (.int (f_m_beside l1 l2 h))) h := by
  obtain ⟨o, hf⟩ : ∃ o, f_m_beside l1 l2 h = o := ⟨_, rfl⟩
  rw [hf]
  refine MT.of (by decide +kernel) (Nat.le_of_ble_eq_true rfl) fun X hX hR => ?_
  unfold f_m_beside at hf
  refine Xblk hX pkX5_ok [.iload_n 1, .bipush 8, .irem, .iload_n 2, .iconst 1] (pc' := 6) (ls' := [(0, .ref 39), (1, .int l1), (2, .int l2)]) (st' := [.int (1 : Int32), .int l2, .int (jrem l1 (8 : Int32))]) (h' := h) (g := true) (by decide +kernel) rfl rfl rfl ?_
  have kJ_12 : ∀ (w_3 : Int32), w_3 = (if l2 = (1 : Int32) then (1 : Int32) else (if l2 = (3 : Int32) then (-1 : Int32) else (0 : Int32))) → XW X 23 [(0, .ref 39), (1, .int l1), (2, .int l2)] [.int w_3, .int (jrem l1 (8 : Int32))] h := by
    intro w_3 ew_3
    subst ew_3
    refine Xblk hX pkX5_ok [.iadd, .istore_n 3, .iload_n 1, .bipush 8, .idiv, .iload_n 2, .iconst 2] (pc' := 31) (ls' := [(3, .int ((jrem l1 (8 : Int32)) + (if l2 = (1 : Int32) then (1 : Int32) else (if l2 = (3 : Int32) then (-1 : Int32) else (0 : Int32))))), (0, .ref 39), (1, .int l1), (2, .int l2)]) (st' := [.int (2 : Int32), .int l2, .int (l1 / (8 : Int32))]) (h' := h) (g := true) (by decide +kernel) rfl rfl rfl ?_
    have kJ_11 : ∀ (w_6 : Int32), w_6 = (if l2 = (2 : Int32) then (1 : Int32) else (if l2 = (0 : Int32) then (-1 : Int32) else (0 : Int32))) → XW X 47 [(0, .ref 39), (3, .int ((jrem l1 (8 : Int32)) + (if l2 = (1 : Int32) then (1 : Int32) else (if l2 = (3 : Int32) then (-1 : Int32) else (0 : Int32)))))] [.int w_6, .int (l1 / (8 : Int32))] h := by
      intro w_6 ew_6
      subst ew_6
      refine Xblk hX pkX5_ok [.iadd, .istore 4, .iload_n 3, .iconst 0, .aload_n 0, .getfield 91, .iconst 1, .isub] (pc' := 58) (ls' := [(4, .int ((l1 / (8 : Int32)) + (if l2 = (2 : Int32) then (1 : Int32) else (if l2 = (0 : Int32) then (-1 : Int32) else (0 : Int32))))), (0, .ref 39), (3, .int ((jrem l1 (8 : Int32)) + (if l2 = (1 : Int32) then (1 : Int32) else (if l2 = (3 : Int32) then (-1 : Int32) else (0 : Int32)))))]) (st' := [.int ((h.1 39 3) - (1 : Int32)), .int (0 : Int32), .int ((jrem l1 (8 : Int32)) + (if l2 = (1 : Int32) then (1 : Int32) else (if l2 = (3 : Int32) then (-1 : Int32) else (0 : Int32))))]) (h' := h) (g := true) (by decide +kernel) rfl rfl rfl ?_
      refine XcallS hX (mt_m_in ((jrem l1 (8 : Int32)) + (if l2 = (1 : Int32) then (1 : Int32) else (if l2 = (3 : Int32) then (-1 : Int32) else (0 : Int32)))) (0 : Int32) ((h.1 39 3) - (1 : Int32)) h) (rest := []) (by decide) (by decide) xm_X5_in xi_X5_in xl_RX5_107 rfl (Nat.le_of_ble_eq_true rfl) (by decide +kernel) ?_
      show XW X 61 [(4, .int ((l1 / (8 : Int32)) + (if l2 = (2 : Int32) then (1 : Int32) else (if l2 = (0 : Int32) then (-1 : Int32) else (0 : Int32))))), (0, .ref 39), (3, .int ((jrem l1 (8 : Int32)) + (if l2 = (1 : Int32) then (1 : Int32) else (if l2 = (3 : Int32) then (-1 : Int32) else (0 : Int32)))))] [.int (f_m_in ((jrem l1 (8 : Int32)) + (if l2 = (1 : Int32) then (1 : Int32) else (if l2 = (3 : Int32) then (-1 : Int32) else (0 : Int32)))) (0 : Int32) ((h.1 39 3) - (1 : Int32)))] h
      have kJ_10 : ∀ (w_9 : Int32), w_9 = (if (f_m_in ((jrem l1 (8 : Int32)) + (if l2 = (1 : Int32) then (1 : Int32) else (if l2 = (3 : Int32) then (-1 : Int32) else (0 : Int32)))) (0 : Int32) ((h.1 39 3) - (1 : Int32))) = (0 : Int32) then (-9 : Int32) else (if (f_m_in ((l1 / (8 : Int32)) + (if l2 = (2 : Int32) then (1 : Int32) else (if l2 = (0 : Int32) then (-1 : Int32) else (0 : Int32)))) (0 : Int32) ((h.1 39 4) - (1 : Int32))) = (0 : Int32) then (-9 : Int32) else (((8 : Int32) * ((l1 / (8 : Int32)) + (if l2 = (2 : Int32) then (1 : Int32) else (if l2 = (0 : Int32) then (-1 : Int32) else (0 : Int32))))) + ((jrem l1 (8 : Int32)) + (if l2 = (1 : Int32) then (1 : Int32) else (if l2 = (3 : Int32) then (-1 : Int32) else (0 : Int32))))))) → XW X 91 [] [.int w_9] h := by
        intro w_9 ew_9
        subst ew_9
        subst hf
        exact XretI hX hR (by decide +kernel)
      refine Xbr hX (.ifCond .eq (28)) (tgt := 89) (P := (f_m_in ((jrem l1 (8 : Int32)) + (if l2 = (1 : Int32) then (1 : Int32) else (if l2 = (3 : Int32) then (-1 : Int32) else (0 : Int32)))) (0 : Int32) ((h.1 39 3) - (1 : Int32))) = (0 : Int32)) (r := []) (by decide +kernel) rfl (by decide) (fun hc_7 => ?_) (fun hc_7 => ?_)
      · refine Xblk hX pkX5_ok [.bipush (-9)] (pc' := 91) (ls' := [(4, .int ((l1 / (8 : Int32)) + (if l2 = (2 : Int32) then (1 : Int32) else (if l2 = (0 : Int32) then (-1 : Int32) else (0 : Int32))))), (0, .ref 39), (3, .int ((jrem l1 (8 : Int32)) + (if l2 = (1 : Int32) then (1 : Int32) else (if l2 = (3 : Int32) then (-1 : Int32) else (0 : Int32)))))]) (st' := [.int (-9 : Int32)]) (h' := h) (g := true) (by decide +kernel) rfl rfl rfl ?_
        refine XW.pick [] (ls' := []) rfl ?_
        exact kJ_10 _ (by rw [if_pos hc_7])
      · refine Xblk hX pkX5_ok [.iload 4, .iconst 0, .aload_n 0, .getfield 95, .iconst 1, .isub] (pc' := 73) (ls' := [(4, .int ((l1 / (8 : Int32)) + (if l2 = (2 : Int32) then (1 : Int32) else (if l2 = (0 : Int32) then (-1 : Int32) else (0 : Int32))))), (0, .ref 39), (3, .int ((jrem l1 (8 : Int32)) + (if l2 = (1 : Int32) then (1 : Int32) else (if l2 = (3 : Int32) then (-1 : Int32) else (0 : Int32)))))]) (st' := [.int ((h.1 39 4) - (1 : Int32)), .int (0 : Int32), .int ((l1 / (8 : Int32)) + (if l2 = (2 : Int32) then (1 : Int32) else (if l2 = (0 : Int32) then (-1 : Int32) else (0 : Int32))))]) (h' := h) (g := true) (by decide +kernel) rfl rfl rfl ?_
        refine XcallS hX (mt_m_in ((l1 / (8 : Int32)) + (if l2 = (2 : Int32) then (1 : Int32) else (if l2 = (0 : Int32) then (-1 : Int32) else (0 : Int32)))) (0 : Int32) ((h.1 39 4) - (1 : Int32)) h) (rest := []) (by decide) (by decide) xm_X5_in xi_X5_in xl_RX5_107 rfl (Nat.le_of_ble_eq_true rfl) (by decide +kernel) ?_
        show XW X 76 [(4, .int ((l1 / (8 : Int32)) + (if l2 = (2 : Int32) then (1 : Int32) else (if l2 = (0 : Int32) then (-1 : Int32) else (0 : Int32))))), (0, .ref 39), (3, .int ((jrem l1 (8 : Int32)) + (if l2 = (1 : Int32) then (1 : Int32) else (if l2 = (3 : Int32) then (-1 : Int32) else (0 : Int32)))))] [.int (f_m_in ((l1 / (8 : Int32)) + (if l2 = (2 : Int32) then (1 : Int32) else (if l2 = (0 : Int32) then (-1 : Int32) else (0 : Int32)))) (0 : Int32) ((h.1 39 4) - (1 : Int32)))] h
        refine Xbr hX (.ifCond .eq (13)) (tgt := 89) (P := (f_m_in ((l1 / (8 : Int32)) + (if l2 = (2 : Int32) then (1 : Int32) else (if l2 = (0 : Int32) then (-1 : Int32) else (0 : Int32)))) (0 : Int32) ((h.1 39 4) - (1 : Int32))) = (0 : Int32)) (r := []) (by decide +kernel) rfl (by decide) (fun hc_8 => ?_) (fun hc_8 => ?_)
        · refine Xblk hX pkX5_ok [.bipush (-9)] (pc' := 91) (ls' := [(4, .int ((l1 / (8 : Int32)) + (if l2 = (2 : Int32) then (1 : Int32) else (if l2 = (0 : Int32) then (-1 : Int32) else (0 : Int32))))), (0, .ref 39), (3, .int ((jrem l1 (8 : Int32)) + (if l2 = (1 : Int32) then (1 : Int32) else (if l2 = (3 : Int32) then (-1 : Int32) else (0 : Int32)))))]) (st' := [.int (-9 : Int32)]) (h' := h) (g := true) (by decide +kernel) rfl rfl rfl ?_
          refine XW.pick [] (ls' := []) rfl ?_
          exact kJ_10 _ (by rw [if_neg hc_7, if_pos hc_8])
        · refine Xblk hX pkX5_ok [.bipush 8, .iload 4, .imul, .iload_n 3, .iadd] (pc' := 86) (ls' := [(4, .int ((l1 / (8 : Int32)) + (if l2 = (2 : Int32) then (1 : Int32) else (if l2 = (0 : Int32) then (-1 : Int32) else (0 : Int32))))), (0, .ref 39), (3, .int ((jrem l1 (8 : Int32)) + (if l2 = (1 : Int32) then (1 : Int32) else (if l2 = (3 : Int32) then (-1 : Int32) else (0 : Int32)))))]) (st' := [.int (((8 : Int32) * ((l1 / (8 : Int32)) + (if l2 = (2 : Int32) then (1 : Int32) else (if l2 = (0 : Int32) then (-1 : Int32) else (0 : Int32))))) + ((jrem l1 (8 : Int32)) + (if l2 = (1 : Int32) then (1 : Int32) else (if l2 = (3 : Int32) then (-1 : Int32) else (0 : Int32)))))]) (h' := h) (g := true) (by decide +kernel) rfl rfl rfl ?_
          refine Xgoto hX (5) 91 (by decide +kernel) (by decide) ?_
          refine XW.pick [] (ls' := []) rfl ?_
          exact kJ_10 _ (by rw [if_neg hc_7, if_neg hc_8])
    refine XbrN hX (.if_icmp .ne (7)) (tgt := 38) (P := l2 = (2 : Int32)) (r := [.int (l1 / (8 : Int32))]) (by decide +kernel) rfl (by decide) (fun hc_4 => ?_) (fun hc_4 => ?_)
    · refine Xblk hX pkX5_ok [.iconst 1] (pc' := 35) (ls' := [(3, .int ((jrem l1 (8 : Int32)) + (if l2 = (1 : Int32) then (1 : Int32) else (if l2 = (3 : Int32) then (-1 : Int32) else (0 : Int32))))), (0, .ref 39), (1, .int l1), (2, .int l2)]) (st' := [.int (1 : Int32), .int (l1 / (8 : Int32))]) (h' := h) (g := true) (by decide +kernel) rfl rfl rfl ?_
      refine Xgoto hX (12) 47 (by decide +kernel) (by decide) ?_
      refine XW.pick [1, 0] (ls' := [(0, .ref 39), (3, .int ((jrem l1 (8 : Int32)) + (if l2 = (1 : Int32) then (1 : Int32) else (if l2 = (3 : Int32) then (-1 : Int32) else (0 : Int32)))))]) rfl ?_
      exact kJ_11 _ (by rw [if_pos hc_4])
    · refine Xblk hX pkX5_ok [.iload_n 2] (pc' := 39) (ls' := [(3, .int ((jrem l1 (8 : Int32)) + (if l2 = (1 : Int32) then (1 : Int32) else (if l2 = (3 : Int32) then (-1 : Int32) else (0 : Int32))))), (0, .ref 39), (1, .int l1), (2, .int l2)]) (st' := [.int l2, .int (l1 / (8 : Int32))]) (h' := h) (g := true) (by decide +kernel) rfl rfl rfl ?_
      refine XbrN hX (.ifCond .ne (7)) (tgt := 46) (P := l2 = (0 : Int32)) (r := [.int (l1 / (8 : Int32))]) (by decide +kernel) rfl (by decide) (fun hc_5 => ?_) (fun hc_5 => ?_)
      · refine Xblk hX pkX5_ok [.iconst (-1)] (pc' := 43) (ls' := [(3, .int ((jrem l1 (8 : Int32)) + (if l2 = (1 : Int32) then (1 : Int32) else (if l2 = (3 : Int32) then (-1 : Int32) else (0 : Int32))))), (0, .ref 39), (1, .int l1), (2, .int l2)]) (st' := [.int (-1 : Int32), .int (l1 / (8 : Int32))]) (h' := h) (g := true) (by decide +kernel) rfl rfl rfl ?_
        refine Xgoto hX (4) 47 (by decide +kernel) (by decide) ?_
        refine XW.pick [1, 0] (ls' := [(0, .ref 39), (3, .int ((jrem l1 (8 : Int32)) + (if l2 = (1 : Int32) then (1 : Int32) else (if l2 = (3 : Int32) then (-1 : Int32) else (0 : Int32)))))]) rfl ?_
        exact kJ_11 _ (by rw [if_neg hc_4, if_pos hc_5])
      · refine Xblk hX pkX5_ok [.iconst 0] (pc' := 47) (ls' := [(3, .int ((jrem l1 (8 : Int32)) + (if l2 = (1 : Int32) then (1 : Int32) else (if l2 = (3 : Int32) then (-1 : Int32) else (0 : Int32))))), (0, .ref 39), (1, .int l1), (2, .int l2)]) (st' := [.int (0 : Int32), .int (l1 / (8 : Int32))]) (h' := h) (g := true) (by decide +kernel) rfl rfl rfl ?_
        refine XW.pick [1, 0] (ls' := [(0, .ref 39), (3, .int ((jrem l1 (8 : Int32)) + (if l2 = (1 : Int32) then (1 : Int32) else (if l2 = (3 : Int32) then (-1 : Int32) else (0 : Int32)))))]) rfl ?_
        exact kJ_11 _ (by rw [if_neg hc_4, if_neg hc_5])
  refine XbrN hX (.if_icmp .ne (7)) (tgt := 13) (P := l2 = (1 : Int32)) (r := [.int (jrem l1 (8 : Int32))]) (by decide +kernel) rfl (by decide) (fun hc_1 => ?_) (fun hc_1 => ?_)
  · refine Xblk hX pkX5_ok [.iconst 1] (pc' := 10) (ls' := [(0, .ref 39), (1, .int l1), (2, .int l2)]) (st' := [.int (1 : Int32), .int (jrem l1 (8 : Int32))]) (h' := h) (g := true) (by decide +kernel) rfl rfl rfl ?_
    refine Xgoto hX (13) 23 (by decide +kernel) (by decide) ?_
    refine XW.pick [0, 1, 2] (ls' := [(0, .ref 39), (1, .int l1), (2, .int l2)]) rfl ?_
    exact kJ_12 _ (by rw [if_pos hc_1])
  · refine Xblk hX pkX5_ok [.iload_n 2, .iconst 3] (pc' := 15) (ls' := [(0, .ref 39), (1, .int l1), (2, .int l2)]) (st' := [.int (3 : Int32), .int l2, .int (jrem l1 (8 : Int32))]) (h' := h) (g := true) (by decide +kernel) rfl rfl rfl ?_
    refine XbrN hX (.if_icmp .ne (7)) (tgt := 22) (P := l2 = (3 : Int32)) (r := [.int (jrem l1 (8 : Int32))]) (by decide +kernel) rfl (by decide) (fun hc_2 => ?_) (fun hc_2 => ?_)
    · refine Xblk hX pkX5_ok [.iconst (-1)] (pc' := 19) (ls' := [(0, .ref 39), (1, .int l1), (2, .int l2)]) (st' := [.int (-1 : Int32), .int (jrem l1 (8 : Int32))]) (h' := h) (g := true) (by decide +kernel) rfl rfl rfl ?_
      refine Xgoto hX (4) 23 (by decide +kernel) (by decide) ?_
      refine XW.pick [0, 1, 2] (ls' := [(0, .ref 39), (1, .int l1), (2, .int l2)]) rfl ?_
      exact kJ_12 _ (by rw [if_neg hc_1, if_pos hc_2])
    · refine Xblk hX pkX5_ok [.iconst 0] (pc' := 23) (ls' := [(0, .ref 39), (1, .int l1), (2, .int l2)]) (st' := [.int (0 : Int32), .int (jrem l1 (8 : Int32))]) (h' := h) (g := true) (by decide +kernel) rfl rfl rfl ?_
      refine XW.pick [0, 1, 2] (ls' := [(0, .ref 39), (1, .int l1), (2, .int l2)]) rfl ?_
      exact kJ_12 _ (by rw [if_neg hc_1, if_neg hc_2])
def f_m_seenFrom_L_5  (l1 : Int32) (l4 : Int32) (h : Hp) (k : Int64 → Int32 → Int32 → Option (Int64)) : Nat → Int64 → Int32 → Int32 → Option (Int64)
  | 0, _, _, _ => none
  | n + 1, l2, l5, l6 =>
    if l6 = (0 : Int32) then
      k l2 l5 l6
    else
      (f_m_seenFrom_L_5 l1 l4 h k n) (l2 ||| (jshlL (1 : Int64) l5)) (f_m_beside l5 l4 h) (if (f_m_isFree l5 h) = (0 : Int32) then (0 : Int32) else (if (f_m_beside l5 l4 h) = (-9 : Int32) then (0 : Int32) else (1 : Int32)))
def f_m_seenFrom_L_1  (l1 : Int32) (h : Hp) (k : Int64 → Int32 → Option (Int64)) : Nat → Int64 → Int32 → Option (Int64)
  | 0, _, _ => none
  | n + 1, l2, l4 =>
    if (4 : Int32) ≤ l4 then
      k l2 l4
    else
      f_m_seenFrom_L_5 l1 l4 h (fun l2_11 l5_12 l6_13 =>
        (f_m_seenFrom_L_1 l1 h k n) l2_11 (l4 + (1 : Int32))
        ) 1000 l2 (f_m_beside l1 l4 h) (if (f_m_beside l1 l4 h) = (-9 : Int32) then (0 : Int32) else (1 : Int32))
def f_m_seenFrom_L_17  (l1 : Int32) (h : Hp) (k : Int64 → Int32 → Option (Int64)) : Nat → Int64 → Int32 → Option (Int64)
  | 0, _, _ => none
  | n + 1, l2, l4 =>
    if (4 : Int32) ≤ l4 then
      k l2 l4
    else
      (f_m_seenFrom_L_17 l1 h k n) (l2 ||| (if (f_m_in ((jrem l1 (8 : Int32)) + (if (2 : Int32) ≤ l4 then (-1 : Int32) else (1 : Int32))) (0 : Int32) ((h.1 39 3) - (1 : Int32))) = (0 : Int32) then (0 : Int64) else (if (f_m_in ((l1 / (8 : Int32)) + (if (jrem l4 (2 : Int32)) = (0 : Int32) then (1 : Int32) else (-1 : Int32))) (0 : Int32) ((h.1 39 4) - (1 : Int32))) = (0 : Int32) then (0 : Int64) else (jshlL (1 : Int64) (((8 : Int32) * ((l1 / (8 : Int32)) + (if (jrem l4 (2 : Int32)) = (0 : Int32) then (1 : Int32) else (-1 : Int32)))) + ((jrem l1 (8 : Int32)) + (if (2 : Int32) ≤ l4 then (-1 : Int32) else (1 : Int32)))))))) (l4 + (1 : Int32))
def f_m_seenFrom (l1 : Int32) (h : Hp) : Option (Int64) :=
  f_m_seenFrom_L_1 l1 h (fun l2_15 l4_16 =>
    f_m_seenFrom_L_17 l1 h (fun l2_29 l4_30 =>
      some l2_29
      ) 1000 l2_15 (0 : Int32)
    ) 1000 (jshlL (1 : Int64) l1) (0 : Int32)
set_option maxRecDepth 100000 in
set_option maxHeartbeats 4000000 in
theorem f_m_seenFrom_L_5_ok {X : XCtx} (hX : XOk X RX5 cX5_seenFrom 8 2 66) {r : Int64} {h : Hp} (hR : XR X (some .long) (some (.long r)) h)  (l1 : Int32) (l4 : Int32)  (k : Int64 → Int32 → Int32 → Option (Int64))  (hk : ∀ (l2 : Int64) (l5 : Int32) (l6 : Int32), k l2 l5 l6 = some r → XW X 88 [(0, .ref 39), (1, .int l1), (2, .long l2), (4, .int l4)] [] h) : ∀ (n : Nat) (l2 : Int64) (l5 : Int32) (l6 : Int32), f_m_seenFrom_L_5 l1 l4 h k n l2 l5 l6 = some r → XW X 36 [(0, .ref 39), (1, .int l1), (2, .long l2), (4, .int l4), (5, .int l5), (6, .int l6)] [] h := by
  intro n
  induction n with
  | zero => intro l2 l5 l6 hf; cases hf
  | succ n ih =>
    intro l2 l5 l6 hf
    rw [f_m_seenFrom_L_5] at hf
    refine Xblk hX pkX5_ok [.iload 6] (pc' := 38) (ls' := [(0, .ref 39), (1, .int l1), (2, .long l2), (4, .int l4), (5, .int l5), (6, .int l6)]) (st' := [.int l6]) (h' := h) (g := true) (by decide +kernel) rfl rfl rfl ?_
    refine Xbr hX (.ifCond .eq (50)) (tgt := 88) (P := l6 = (0 : Int32)) (r := []) (by decide +kernel) rfl (by decide) (fun hc_6 => ?_) (fun hc_6 => ?_)
    · replace hf := xif_t hc_6 hf
      refine XW.pick [0, 1, 2, 3] (ls' := [(0, .ref 39), (1, .int l1), (2, .long l2), (4, .int l4)]) rfl ?_
      exact hk l2 l5 l6 hf
    · replace hf := xif_f hc_6 hf
      refine Xblk hX pkX5_ok [.lload_n 2, .lconst 1, .iload 5, .lshl, .lor, .lstore_n 2, .aload_n 0, .iload 5, .iload 4] (pc' := 53) (ls' := [(2, .long (l2 ||| (jshlL (1 : Int64) l5))), (0, .ref 39), (1, .int l1), (4, .int l4), (5, .int l5), (6, .int l6)]) (st' := [.int l4, .int l5, .ref 39]) (h' := h) (g := true) (by decide +kernel) rfl rfl rfl ?_
      refine XcallV hX (mt_m_beside l5 l4 h) (rest := []) (by decide) (by decide) xm_X5_beside xi_X5_beside xs_X5_beside xl_RX5_156 (by decide) (xsh_39) rfl rfl rfl (Nat.le_of_ble_eq_true rfl) (by decide +kernel) ?_
      show XW X 56 [(2, .long (l2 ||| (jshlL (1 : Int64) l5))), (0, .ref 39), (1, .int l1), (4, .int l4), (5, .int l5), (6, .int l6)] [.int (f_m_beside l5 l4 h)] h
      refine Xblk hX pkX5_ok [.istore 7, .aload_n 0, .iload 5] (pc' := 61) (ls' := [(7, .int (f_m_beside l5 l4 h)), (2, .long (l2 ||| (jshlL (1 : Int64) l5))), (0, .ref 39), (1, .int l1), (4, .int l4), (5, .int l5), (6, .int l6)]) (st' := [.int l5, .ref 39]) (h' := h) (g := true) (by decide +kernel) rfl rfl rfl ?_
      refine XcallV hX (mt_m_isFree l5 h) (rest := []) (by decide) (by decide) xm_X5_isFree xi_X5_isFree xs_X5_isFree xl_RX5_151 (by decide) (xsh_39) rfl rfl rfl (Nat.le_of_ble_eq_true rfl) (by decide +kernel) ?_
      show XW X 64 [(7, .int (f_m_beside l5 l4 h)), (2, .long (l2 ||| (jshlL (1 : Int64) l5))), (0, .ref 39), (1, .int l1), (4, .int l4), (5, .int l5), (6, .int l6)] [.int (f_m_isFree l5 h)] h
      have kJ_10 : ∀ (w_9 : Int32), w_9 = (if (f_m_isFree l5 h) = (0 : Int32) then (0 : Int32) else (if (f_m_beside l5 l4 h) = (-9 : Int32) then (0 : Int32) else (1 : Int32))) → XW X 79 [(0, .ref 39), (1, .int l1), (2, .long (l2 ||| (jshlL (1 : Int64) l5))), (4, .int l4), (7, .int (f_m_beside l5 l4 h))] [.int w_9] h := by
        intro w_9 ew_9
        subst ew_9
        refine Xblk hX pkX5_ok [.istore 6, .iload 7, .istore 5] (pc' := 85) (ls' := [(5, .int (f_m_beside l5 l4 h)), (6, .int (if (f_m_isFree l5 h) = (0 : Int32) then (0 : Int32) else (if (f_m_beside l5 l4 h) = (-9 : Int32) then (0 : Int32) else (1 : Int32)))), (0, .ref 39), (1, .int l1), (2, .long (l2 ||| (jshlL (1 : Int64) l5))), (4, .int l4), (7, .int (f_m_beside l5 l4 h))]) (st' := []) (h' := h) (g := true) (by decide +kernel) rfl rfl rfl ?_
        refine Xgoto hX (-49) 36 (by decide +kernel) (by decide) ?_
        refine XW.pick [2, 3, 4, 5, 0, 1] (ls' := [(0, .ref 39), (1, .int l1), (2, .long (l2 ||| (jshlL (1 : Int64) l5))), (4, .int l4), (5, .int (f_m_beside l5 l4 h)), (6, .int (if (f_m_isFree l5 h) = (0 : Int32) then (0 : Int32) else (if (f_m_beside l5 l4 h) = (-9 : Int32) then (0 : Int32) else (1 : Int32))))]) rfl ?_
        exact ih (l2 ||| (jshlL (1 : Int64) l5)) (f_m_beside l5 l4 h) (if (f_m_isFree l5 h) = (0 : Int32) then (0 : Int32) else (if (f_m_beside l5 l4 h) = (-9 : Int32) then (0 : Int32) else (1 : Int32))) hf
      refine Xbr hX (.ifCond .eq (14)) (tgt := 78) (P := (f_m_isFree l5 h) = (0 : Int32)) (r := []) (by decide +kernel) rfl (by decide) (fun hc_7 => ?_) (fun hc_7 => ?_)
      · refine Xblk hX pkX5_ok [.iconst 0] (pc' := 79) (ls' := [(7, .int (f_m_beside l5 l4 h)), (2, .long (l2 ||| (jshlL (1 : Int64) l5))), (0, .ref 39), (1, .int l1), (4, .int l4), (5, .int l5), (6, .int l6)]) (st' := [.int (0 : Int32)]) (h' := h) (g := true) (by decide +kernel) rfl rfl rfl ?_
        refine XW.pick [2, 3, 1, 4, 0] (ls' := [(0, .ref 39), (1, .int l1), (2, .long (l2 ||| (jshlL (1 : Int64) l5))), (4, .int l4), (7, .int (f_m_beside l5 l4 h))]) rfl ?_
        exact kJ_10 _ (by rw [if_pos hc_7])
      · refine Xblk hX pkX5_ok [.iload 7, .bipush (-9)] (pc' := 71) (ls' := [(7, .int (f_m_beside l5 l4 h)), (2, .long (l2 ||| (jshlL (1 : Int64) l5))), (0, .ref 39), (1, .int l1), (4, .int l4), (5, .int l5), (6, .int l6)]) (st' := [.int (-9 : Int32), .int (f_m_beside l5 l4 h)]) (h' := h) (g := true) (by decide +kernel) rfl rfl rfl ?_
        refine Xbr hX (.if_icmp .eq (7)) (tgt := 78) (P := (f_m_beside l5 l4 h) = (-9 : Int32)) (r := []) (by decide +kernel) rfl (by decide) (fun hc_8 => ?_) (fun hc_8 => ?_)
        · refine Xblk hX pkX5_ok [.iconst 0] (pc' := 79) (ls' := [(7, .int (f_m_beside l5 l4 h)), (2, .long (l2 ||| (jshlL (1 : Int64) l5))), (0, .ref 39), (1, .int l1), (4, .int l4), (5, .int l5), (6, .int l6)]) (st' := [.int (0 : Int32)]) (h' := h) (g := true) (by decide +kernel) rfl rfl rfl ?_
          refine XW.pick [2, 3, 1, 4, 0] (ls' := [(0, .ref 39), (1, .int l1), (2, .long (l2 ||| (jshlL (1 : Int64) l5))), (4, .int l4), (7, .int (f_m_beside l5 l4 h))]) rfl ?_
          exact kJ_10 _ (by rw [if_neg hc_7, if_pos hc_8])
        · refine Xblk hX pkX5_ok [.iconst 1] (pc' := 75) (ls' := [(7, .int (f_m_beside l5 l4 h)), (2, .long (l2 ||| (jshlL (1 : Int64) l5))), (0, .ref 39), (1, .int l1), (4, .int l4), (5, .int l5), (6, .int l6)]) (st' := [.int (1 : Int32)]) (h' := h) (g := true) (by decide +kernel) rfl rfl rfl ?_
          refine Xgoto hX (4) 79 (by decide +kernel) (by decide) ?_
          refine XW.pick [2, 3, 1, 4, 0] (ls' := [(0, .ref 39), (1, .int l1), (2, .long (l2 ||| (jshlL (1 : Int64) l5))), (4, .int l4), (7, .int (f_m_beside l5 l4 h))]) rfl ?_
          exact kJ_10 _ (by rw [if_neg hc_7, if_neg hc_8])
set_option maxRecDepth 100000 in
set_option maxHeartbeats 4000000 in
theorem f_m_seenFrom_L_1_ok {X : XCtx} (hX : XOk X RX5 cX5_seenFrom 8 2 66) {r : Int64} {h : Hp} (hR : XR X (some .long) (some (.long r)) h)  (l1 : Int32)  (k : Int64 → Int32 → Option (Int64))  (hk : ∀ (l2 : Int64) (l4 : Int32), k l2 l4 = some r → XW X 94 [(0, .ref 39), (1, .int l1), (2, .long l2)] [] h) : ∀ (n : Nat) (l2 : Int64) (l4 : Int32), f_m_seenFrom_L_1 l1 h k n l2 l4 = some r → XW X 7 [(0, .ref 39), (1, .int l1), (2, .long l2), (4, .int l4)] [] h := by
  intro n
  induction n with
  | zero => intro l2 l4 hf; cases hf
  | succ n ih =>
    intro l2 l4 hf
    rw [f_m_seenFrom_L_1] at hf
    refine Xblk hX pkX5_ok [.iload 4, .iconst 4] (pc' := 10) (ls' := [(0, .ref 39), (1, .int l1), (2, .long l2), (4, .int l4)]) (st' := [.int (4 : Int32), .int l4]) (h' := h) (g := true) (by decide +kernel) rfl rfl rfl ?_
    refine Xbr hX (.if_icmp .ge (84)) (tgt := 94) (P := (4 : Int32) ≤ l4) (r := []) (by decide +kernel) rfl (by decide) (fun hc_2 => ?_) (fun hc_2 => ?_)
    · replace hf := xif_t hc_2 hf
      refine XW.pick [0, 1, 2] (ls' := [(0, .ref 39), (1, .int l1), (2, .long l2)]) rfl ?_
      exact hk l2 l4 hf
    · replace hf := xif_f hc_2 hf
      refine Xblk hX pkX5_ok [.aload_n 0, .iload_n 1, .iload 4] (pc' := 17) (ls' := [(0, .ref 39), (1, .int l1), (2, .long l2), (4, .int l4)]) (st' := [.int l4, .int l1, .ref 39]) (h' := h) (g := true) (by decide +kernel) rfl rfl rfl ?_
      refine XcallV hX (mt_m_beside l1 l4 h) (rest := []) (by decide) (by decide) xm_X5_beside xi_X5_beside xs_X5_beside xl_RX5_156 (by decide) (xsh_39) rfl rfl rfl (Nat.le_of_ble_eq_true rfl) (by decide +kernel) ?_
      show XW X 20 [(0, .ref 39), (1, .int l1), (2, .long l2), (4, .int l4)] [.int (f_m_beside l1 l4 h)] h
      refine Xblk hX pkX5_ok [.istore 5, .iload 5, .bipush (-9)] (pc' := 26) (ls' := [(5, .int (f_m_beside l1 l4 h)), (0, .ref 39), (1, .int l1), (2, .long l2), (4, .int l4)]) (st' := [.int (-9 : Int32), .int (f_m_beside l1 l4 h)]) (h' := h) (g := true) (by decide +kernel) rfl rfl rfl ?_
      have kJ_14 : ∀ (w_4 : Int32), w_4 = (if (f_m_beside l1 l4 h) = (-9 : Int32) then (0 : Int32) else (1 : Int32)) → XW X 34 [(0, .ref 39), (1, .int l1), (2, .long l2), (4, .int l4), (5, .int (f_m_beside l1 l4 h))] [.int w_4] h := by
        intro w_4 ew_4
        subst ew_4
        refine Xblk hX pkX5_ok [.istore 6] (pc' := 36) (ls' := [(6, .int (if (f_m_beside l1 l4 h) = (-9 : Int32) then (0 : Int32) else (1 : Int32))), (0, .ref 39), (1, .int l1), (2, .long l2), (4, .int l4), (5, .int (f_m_beside l1 l4 h))]) (st' := []) (h' := h) (g := true) (by decide +kernel) rfl rfl rfl ?_
        refine XW.pick [1, 2, 3, 4, 5, 0] (ls' := [(0, .ref 39), (1, .int l1), (2, .long l2), (4, .int l4), (5, .int (f_m_beside l1 l4 h)), (6, .int (if (f_m_beside l1 l4 h) = (-9 : Int32) then (0 : Int32) else (1 : Int32)))]) rfl ?_
        refine f_m_seenFrom_L_5_ok hX hR l1 l4 _  (fun l2_11 l5_12 l6_13 hf => ?_) 1000 l2 (f_m_beside l1 l4 h) (if (f_m_beside l1 l4 h) = (-9 : Int32) then (0 : Int32) else (1 : Int32)) hf
        refine Xblk hX pkX5_ok [.iinc 4 1] (pc' := 91) (ls' := [(4, .int (l4 + (1 : Int32))), (0, .ref 39), (1, .int l1), (2, .long l2_11)]) (st' := []) (h' := h) (g := true) (by decide +kernel) rfl rfl rfl ?_
        refine Xgoto hX (-84) 7 (by decide +kernel) (by decide) ?_
        refine XW.pick [1, 2, 3, 0] (ls' := [(0, .ref 39), (1, .int l1), (2, .long l2_11), (4, .int (l4 + (1 : Int32)))]) rfl ?_
        exact ih l2_11 (l4 + (1 : Int32)) hf
      refine Xbr hX (.if_icmp .eq (7)) (tgt := 33) (P := (f_m_beside l1 l4 h) = (-9 : Int32)) (r := []) (by decide +kernel) rfl (by decide) (fun hc_3 => ?_) (fun hc_3 => ?_)
      · refine Xblk hX pkX5_ok [.iconst 0] (pc' := 34) (ls' := [(5, .int (f_m_beside l1 l4 h)), (0, .ref 39), (1, .int l1), (2, .long l2), (4, .int l4)]) (st' := [.int (0 : Int32)]) (h' := h) (g := true) (by decide +kernel) rfl rfl rfl ?_
        refine XW.pick [1, 2, 3, 4, 0] (ls' := [(0, .ref 39), (1, .int l1), (2, .long l2), (4, .int l4), (5, .int (f_m_beside l1 l4 h))]) rfl ?_
        exact kJ_14 _ (by rw [if_pos hc_3])
      · refine Xblk hX pkX5_ok [.iconst 1] (pc' := 30) (ls' := [(5, .int (f_m_beside l1 l4 h)), (0, .ref 39), (1, .int l1), (2, .long l2), (4, .int l4)]) (st' := [.int (1 : Int32)]) (h' := h) (g := true) (by decide +kernel) rfl rfl rfl ?_
        refine Xgoto hX (4) 34 (by decide +kernel) (by decide) ?_
        refine XW.pick [1, 2, 3, 4, 0] (ls' := [(0, .ref 39), (1, .int l1), (2, .long l2), (4, .int l4), (5, .int (f_m_beside l1 l4 h))]) rfl ?_
        exact kJ_14 _ (by rw [if_neg hc_3])
set_option maxRecDepth 100000 in
set_option maxHeartbeats 4000000 in
theorem f_m_seenFrom_L_17_ok {X : XCtx} (hX : XOk X RX5 cX5_seenFrom 8 2 66) {r : Int64} {h : Hp} (hR : XR X (some .long) (some (.long r)) h)  (l1 : Int32)  (k : Int64 → Int32 → Option (Int64))  (hk : ∀ (l2 : Int64) (l4 : Int32), k l2 l4 = some r → XW X 193 [(2, .long l2)] [] h) : ∀ (n : Nat) (l2 : Int64) (l4 : Int32), f_m_seenFrom_L_17 l1 h k n l2 l4 = some r → XW X 97 [(0, .ref 39), (1, .int l1), (2, .long l2), (4, .int l4)] [] h := by
  intro n
  induction n with
  | zero => intro l2 l4 hf; cases hf
  | succ n ih =>
    intro l2 l4 hf
    rw [f_m_seenFrom_L_17] at hf
    refine Xblk hX pkX5_ok [.iload 4, .iconst 4] (pc' := 100) (ls' := [(0, .ref 39), (1, .int l1), (2, .long l2), (4, .int l4)]) (st' := [.int (4 : Int32), .int l4]) (h' := h) (g := true) (by decide +kernel) rfl rfl rfl ?_
    refine Xbr hX (.if_icmp .ge (93)) (tgt := 193) (P := (4 : Int32) ≤ l4) (r := []) (by decide +kernel) rfl (by decide) (fun hc_18 => ?_) (fun hc_18 => ?_)
    · replace hf := xif_t hc_18 hf
      refine XW.pick [2] (ls' := [(2, .long l2)]) rfl ?_
      exact hk l2 l4 hf
    · replace hf := xif_f hc_18 hf
      refine Xblk hX pkX5_ok [.iload_n 1, .bipush 8, .irem, .iload 4, .iconst 2] (pc' := 110) (ls' := [(0, .ref 39), (1, .int l1), (2, .long l2), (4, .int l4)]) (st' := [.int (2 : Int32), .int l4, .int (jrem l1 (8 : Int32))]) (h' := h) (g := true) (by decide +kernel) rfl rfl rfl ?_
      have kJ_28 : ∀ (w_20 : Int32), w_20 = (if (2 : Int32) ≤ l4 then (-1 : Int32) else (1 : Int32)) → XW X 118 [(0, .ref 39), (1, .int l1), (2, .long l2), (4, .int l4)] [.int w_20, .int (jrem l1 (8 : Int32))] h := by
        intro w_20 ew_20
        subst ew_20
        refine Xblk hX pkX5_ok [.iadd, .istore 5, .iload_n 1, .bipush 8, .idiv, .iload 4, .iconst 2, .irem] (pc' := 129) (ls' := [(5, .int ((jrem l1 (8 : Int32)) + (if (2 : Int32) ≤ l4 then (-1 : Int32) else (1 : Int32)))), (0, .ref 39), (1, .int l1), (2, .long l2), (4, .int l4)]) (st' := [.int (jrem l4 (2 : Int32)), .int (l1 / (8 : Int32))]) (h' := h) (g := true) (by decide +kernel) rfl rfl rfl ?_
        have kJ_27 : ∀ (w_22 : Int32), w_22 = (if (jrem l4 (2 : Int32)) = (0 : Int32) then (1 : Int32) else (-1 : Int32)) → XW X 137 [(0, .ref 39), (1, .int l1), (2, .long l2), (4, .int l4), (5, .int ((jrem l1 (8 : Int32)) + (if (2 : Int32) ≤ l4 then (-1 : Int32) else (1 : Int32))))] [.int w_22, .int (l1 / (8 : Int32))] h := by
          intro w_22 ew_22
          subst ew_22
          refine Xblk hX pkX5_ok [.iadd, .istore 6, .lload_n 2, .iload 5, .iconst 0, .aload_n 0, .getfield 91, .iconst 1, .isub] (pc' := 150) (ls' := [(6, .int ((l1 / (8 : Int32)) + (if (jrem l4 (2 : Int32)) = (0 : Int32) then (1 : Int32) else (-1 : Int32)))), (0, .ref 39), (1, .int l1), (2, .long l2), (4, .int l4), (5, .int ((jrem l1 (8 : Int32)) + (if (2 : Int32) ≤ l4 then (-1 : Int32) else (1 : Int32))))]) (st' := [.int ((h.1 39 3) - (1 : Int32)), .int (0 : Int32), .int ((jrem l1 (8 : Int32)) + (if (2 : Int32) ≤ l4 then (-1 : Int32) else (1 : Int32))), .long l2]) (h' := h) (g := true) (by decide +kernel) rfl rfl rfl ?_
          refine XcallS hX (mt_m_in ((jrem l1 (8 : Int32)) + (if (2 : Int32) ≤ l4 then (-1 : Int32) else (1 : Int32))) (0 : Int32) ((h.1 39 3) - (1 : Int32)) h) (rest := [.long l2]) (by decide) (by decide) xm_X5_in xi_X5_in xl_RX5_107 rfl (Nat.le_of_ble_eq_true rfl) (by decide +kernel) ?_
          show XW X 153 [(6, .int ((l1 / (8 : Int32)) + (if (jrem l4 (2 : Int32)) = (0 : Int32) then (1 : Int32) else (-1 : Int32)))), (0, .ref 39), (1, .int l1), (2, .long l2), (4, .int l4), (5, .int ((jrem l1 (8 : Int32)) + (if (2 : Int32) ≤ l4 then (-1 : Int32) else (1 : Int32))))] [.int (f_m_in ((jrem l1 (8 : Int32)) + (if (2 : Int32) ≤ l4 then (-1 : Int32) else (1 : Int32))) (0 : Int32) ((h.1 39 3) - (1 : Int32))), .long l2] h
          have kJ_26 : ∀ (w_25 : Int64), w_25 = (if (f_m_in ((jrem l1 (8 : Int32)) + (if (2 : Int32) ≤ l4 then (-1 : Int32) else (1 : Int32))) (0 : Int32) ((h.1 39 3) - (1 : Int32))) = (0 : Int32) then (0 : Int64) else (if (f_m_in ((l1 / (8 : Int32)) + (if (jrem l4 (2 : Int32)) = (0 : Int32) then (1 : Int32) else (-1 : Int32))) (0 : Int32) ((h.1 39 4) - (1 : Int32))) = (0 : Int32) then (0 : Int64) else (jshlL (1 : Int64) (((8 : Int32) * ((l1 / (8 : Int32)) + (if (jrem l4 (2 : Int32)) = (0 : Int32) then (1 : Int32) else (-1 : Int32)))) + ((jrem l1 (8 : Int32)) + (if (2 : Int32) ≤ l4 then (-1 : Int32) else (1 : Int32))))))) → XW X 185 [(0, .ref 39), (1, .int l1), (4, .int l4)] [.long w_25, .long l2] h := by
            intro w_25 ew_25
            subst ew_25
            refine Xblk hX pkX5_ok [.lor, .lstore_n 2, .iinc 4 1] (pc' := 190) (ls' := [(4, .int (l4 + (1 : Int32))), (2, .long (l2 ||| (if (f_m_in ((jrem l1 (8 : Int32)) + (if (2 : Int32) ≤ l4 then (-1 : Int32) else (1 : Int32))) (0 : Int32) ((h.1 39 3) - (1 : Int32))) = (0 : Int32) then (0 : Int64) else (if (f_m_in ((l1 / (8 : Int32)) + (if (jrem l4 (2 : Int32)) = (0 : Int32) then (1 : Int32) else (-1 : Int32))) (0 : Int32) ((h.1 39 4) - (1 : Int32))) = (0 : Int32) then (0 : Int64) else (jshlL (1 : Int64) (((8 : Int32) * ((l1 / (8 : Int32)) + (if (jrem l4 (2 : Int32)) = (0 : Int32) then (1 : Int32) else (-1 : Int32)))) + ((jrem l1 (8 : Int32)) + (if (2 : Int32) ≤ l4 then (-1 : Int32) else (1 : Int32))))))))), (0, .ref 39), (1, .int l1)]) (st' := []) (h' := h) (g := true) (by decide +kernel) rfl rfl rfl ?_
            refine Xgoto hX (-93) 97 (by decide +kernel) (by decide) ?_
            refine XW.pick [2, 3, 1, 0] (ls' := [(0, .ref 39), (1, .int l1), (2, .long (l2 ||| (if (f_m_in ((jrem l1 (8 : Int32)) + (if (2 : Int32) ≤ l4 then (-1 : Int32) else (1 : Int32))) (0 : Int32) ((h.1 39 3) - (1 : Int32))) = (0 : Int32) then (0 : Int64) else (if (f_m_in ((l1 / (8 : Int32)) + (if (jrem l4 (2 : Int32)) = (0 : Int32) then (1 : Int32) else (-1 : Int32))) (0 : Int32) ((h.1 39 4) - (1 : Int32))) = (0 : Int32) then (0 : Int64) else (jshlL (1 : Int64) (((8 : Int32) * ((l1 / (8 : Int32)) + (if (jrem l4 (2 : Int32)) = (0 : Int32) then (1 : Int32) else (-1 : Int32)))) + ((jrem l1 (8 : Int32)) + (if (2 : Int32) ≤ l4 then (-1 : Int32) else (1 : Int32))))))))), (4, .int (l4 + (1 : Int32)))]) rfl ?_
            exact ih (l2 ||| (if (f_m_in ((jrem l1 (8 : Int32)) + (if (2 : Int32) ≤ l4 then (-1 : Int32) else (1 : Int32))) (0 : Int32) ((h.1 39 3) - (1 : Int32))) = (0 : Int32) then (0 : Int64) else (if (f_m_in ((l1 / (8 : Int32)) + (if (jrem l4 (2 : Int32)) = (0 : Int32) then (1 : Int32) else (-1 : Int32))) (0 : Int32) ((h.1 39 4) - (1 : Int32))) = (0 : Int32) then (0 : Int64) else (jshlL (1 : Int64) (((8 : Int32) * ((l1 / (8 : Int32)) + (if (jrem l4 (2 : Int32)) = (0 : Int32) then (1 : Int32) else (-1 : Int32)))) + ((jrem l1 (8 : Int32)) + (if (2 : Int32) ≤ l4 then (-1 : Int32) else (1 : Int32)))))))) (l4 + (1 : Int32)) hf
          refine Xbr hX (.ifCond .eq (31)) (tgt := 184) (P := (f_m_in ((jrem l1 (8 : Int32)) + (if (2 : Int32) ≤ l4 then (-1 : Int32) else (1 : Int32))) (0 : Int32) ((h.1 39 3) - (1 : Int32))) = (0 : Int32)) (r := [.long l2]) (by decide +kernel) rfl (by decide) (fun hc_23 => ?_) (fun hc_23 => ?_)
          · refine Xblk hX pkX5_ok [.lconst 0] (pc' := 185) (ls' := [(6, .int ((l1 / (8 : Int32)) + (if (jrem l4 (2 : Int32)) = (0 : Int32) then (1 : Int32) else (-1 : Int32)))), (0, .ref 39), (1, .int l1), (2, .long l2), (4, .int l4), (5, .int ((jrem l1 (8 : Int32)) + (if (2 : Int32) ≤ l4 then (-1 : Int32) else (1 : Int32))))]) (st' := [.long (0 : Int64), .long l2]) (h' := h) (g := true) (by decide +kernel) rfl rfl rfl ?_
            refine XW.pick [1, 2, 4] (ls' := [(0, .ref 39), (1, .int l1), (4, .int l4)]) rfl ?_
            exact kJ_26 _ (by rw [if_pos hc_23])
          · refine Xblk hX pkX5_ok [.iload 6, .iconst 0, .aload_n 0, .getfield 95, .iconst 1, .isub] (pc' := 165) (ls' := [(6, .int ((l1 / (8 : Int32)) + (if (jrem l4 (2 : Int32)) = (0 : Int32) then (1 : Int32) else (-1 : Int32)))), (0, .ref 39), (1, .int l1), (2, .long l2), (4, .int l4), (5, .int ((jrem l1 (8 : Int32)) + (if (2 : Int32) ≤ l4 then (-1 : Int32) else (1 : Int32))))]) (st' := [.int ((h.1 39 4) - (1 : Int32)), .int (0 : Int32), .int ((l1 / (8 : Int32)) + (if (jrem l4 (2 : Int32)) = (0 : Int32) then (1 : Int32) else (-1 : Int32))), .long l2]) (h' := h) (g := true) (by decide +kernel) rfl rfl rfl ?_
            refine XcallS hX (mt_m_in ((l1 / (8 : Int32)) + (if (jrem l4 (2 : Int32)) = (0 : Int32) then (1 : Int32) else (-1 : Int32))) (0 : Int32) ((h.1 39 4) - (1 : Int32)) h) (rest := [.long l2]) (by decide) (by decide) xm_X5_in xi_X5_in xl_RX5_107 rfl (Nat.le_of_ble_eq_true rfl) (by decide +kernel) ?_
            show XW X 168 [(6, .int ((l1 / (8 : Int32)) + (if (jrem l4 (2 : Int32)) = (0 : Int32) then (1 : Int32) else (-1 : Int32)))), (0, .ref 39), (1, .int l1), (2, .long l2), (4, .int l4), (5, .int ((jrem l1 (8 : Int32)) + (if (2 : Int32) ≤ l4 then (-1 : Int32) else (1 : Int32))))] [.int (f_m_in ((l1 / (8 : Int32)) + (if (jrem l4 (2 : Int32)) = (0 : Int32) then (1 : Int32) else (-1 : Int32))) (0 : Int32) ((h.1 39 4) - (1 : Int32))), .long l2] h
            refine Xbr hX (.ifCond .eq (16)) (tgt := 184) (P := (f_m_in ((l1 / (8 : Int32)) + (if (jrem l4 (2 : Int32)) = (0 : Int32) then (1 : Int32) else (-1 : Int32))) (0 : Int32) ((h.1 39 4) - (1 : Int32))) = (0 : Int32)) (r := [.long l2]) (by decide +kernel) rfl (by decide) (fun hc_24 => ?_) (fun hc_24 => ?_)
            · refine Xblk hX pkX5_ok [.lconst 0] (pc' := 185) (ls' := [(6, .int ((l1 / (8 : Int32)) + (if (jrem l4 (2 : Int32)) = (0 : Int32) then (1 : Int32) else (-1 : Int32)))), (0, .ref 39), (1, .int l1), (2, .long l2), (4, .int l4), (5, .int ((jrem l1 (8 : Int32)) + (if (2 : Int32) ≤ l4 then (-1 : Int32) else (1 : Int32))))]) (st' := [.long (0 : Int64), .long l2]) (h' := h) (g := true) (by decide +kernel) rfl rfl rfl ?_
              refine XW.pick [1, 2, 4] (ls' := [(0, .ref 39), (1, .int l1), (4, .int l4)]) rfl ?_
              exact kJ_26 _ (by rw [if_neg hc_23, if_pos hc_24])
            · refine Xblk hX pkX5_ok [.lconst 1, .bipush 8, .iload 6, .imul, .iload 5, .iadd, .lshl] (pc' := 181) (ls' := [(6, .int ((l1 / (8 : Int32)) + (if (jrem l4 (2 : Int32)) = (0 : Int32) then (1 : Int32) else (-1 : Int32)))), (0, .ref 39), (1, .int l1), (2, .long l2), (4, .int l4), (5, .int ((jrem l1 (8 : Int32)) + (if (2 : Int32) ≤ l4 then (-1 : Int32) else (1 : Int32))))]) (st' := [.long (jshlL (1 : Int64) (((8 : Int32) * ((l1 / (8 : Int32)) + (if (jrem l4 (2 : Int32)) = (0 : Int32) then (1 : Int32) else (-1 : Int32)))) + ((jrem l1 (8 : Int32)) + (if (2 : Int32) ≤ l4 then (-1 : Int32) else (1 : Int32))))), .long l2]) (h' := h) (g := true) (by decide +kernel) rfl rfl rfl ?_
              refine Xgoto hX (4) 185 (by decide +kernel) (by decide) ?_
              refine XW.pick [1, 2, 4] (ls' := [(0, .ref 39), (1, .int l1), (4, .int l4)]) rfl ?_
              exact kJ_26 _ (by rw [if_neg hc_23, if_neg hc_24])
        refine XbrN hX (.ifCond .ne (7)) (tgt := 136) (P := (jrem l4 (2 : Int32)) = (0 : Int32)) (r := [.int (l1 / (8 : Int32))]) (by decide +kernel) rfl (by decide) (fun hc_21 => ?_) (fun hc_21 => ?_)
        · refine Xblk hX pkX5_ok [.iconst 1] (pc' := 133) (ls' := [(5, .int ((jrem l1 (8 : Int32)) + (if (2 : Int32) ≤ l4 then (-1 : Int32) else (1 : Int32)))), (0, .ref 39), (1, .int l1), (2, .long l2), (4, .int l4)]) (st' := [.int (1 : Int32), .int (l1 / (8 : Int32))]) (h' := h) (g := true) (by decide +kernel) rfl rfl rfl ?_
          refine Xgoto hX (4) 137 (by decide +kernel) (by decide) ?_
          refine XW.pick [1, 2, 3, 4, 0] (ls' := [(0, .ref 39), (1, .int l1), (2, .long l2), (4, .int l4), (5, .int ((jrem l1 (8 : Int32)) + (if (2 : Int32) ≤ l4 then (-1 : Int32) else (1 : Int32))))]) rfl ?_
          exact kJ_27 _ (by rw [if_pos hc_21])
        · refine Xblk hX pkX5_ok [.iconst (-1)] (pc' := 137) (ls' := [(5, .int ((jrem l1 (8 : Int32)) + (if (2 : Int32) ≤ l4 then (-1 : Int32) else (1 : Int32)))), (0, .ref 39), (1, .int l1), (2, .long l2), (4, .int l4)]) (st' := [.int (-1 : Int32), .int (l1 / (8 : Int32))]) (h' := h) (g := true) (by decide +kernel) rfl rfl rfl ?_
          refine XW.pick [1, 2, 3, 4, 0] (ls' := [(0, .ref 39), (1, .int l1), (2, .long l2), (4, .int l4), (5, .int ((jrem l1 (8 : Int32)) + (if (2 : Int32) ≤ l4 then (-1 : Int32) else (1 : Int32))))]) rfl ?_
          exact kJ_27 _ (by rw [if_neg hc_21])
      refine Xbr hX (.if_icmp .ge (7)) (tgt := 117) (P := (2 : Int32) ≤ l4) (r := [.int (jrem l1 (8 : Int32))]) (by decide +kernel) rfl (by decide) (fun hc_19 => ?_) (fun hc_19 => ?_)
      · refine Xblk hX pkX5_ok [.iconst (-1)] (pc' := 118) (ls' := [(0, .ref 39), (1, .int l1), (2, .long l2), (4, .int l4)]) (st' := [.int (-1 : Int32), .int (jrem l1 (8 : Int32))]) (h' := h) (g := true) (by decide +kernel) rfl rfl rfl ?_
        refine XW.pick [0, 1, 2, 3] (ls' := [(0, .ref 39), (1, .int l1), (2, .long l2), (4, .int l4)]) rfl ?_
        exact kJ_28 _ (by rw [if_pos hc_19])
      · refine Xblk hX pkX5_ok [.iconst 1] (pc' := 114) (ls' := [(0, .ref 39), (1, .int l1), (2, .long l2), (4, .int l4)]) (st' := [.int (1 : Int32), .int (jrem l1 (8 : Int32))]) (h' := h) (g := true) (by decide +kernel) rfl rfl rfl ?_
        refine Xgoto hX (4) 118 (by decide +kernel) (by decide) ?_
        refine XW.pick [0, 1, 2, 3] (ls' := [(0, .ref 39), (1, .int l1), (2, .long l2), (4, .int l4)]) rfl ?_
        exact kJ_28 _ (by rw [if_neg hc_19])
set_option maxRecDepth 100000 in
set_option maxHeartbeats 4000000 in
theorem mt_m_seenFrom (l1 : Int32) (h : Hp) {r : Int64} (hf : f_m_seenFrom l1 h = some r) : MT 2 66 yX5_seenFrom cX5_seenFrom 8 (some .long) [.ref 39, .int l1] h (some (.long r)) h := by
  refine MT.of (by decide +kernel) (Nat.le_of_ble_eq_true rfl) fun X hX hR => ?_
  unfold f_m_seenFrom at hf
  refine Xblk hX pkX5_ok [.lconst 1, .iload_n 1, .lshl, .lstore_n 2, .iconst 0, .istore 4] (pc' := 7) (ls' := [(4, .int (0 : Int32)), (2, .long (jshlL (1 : Int64) l1)), (0, .ref 39), (1, .int l1)]) (st' := []) (h' := h) (g := true) (by decide +kernel) rfl rfl rfl ?_
  refine XW.pick [2, 3, 1, 0] (ls' := [(0, .ref 39), (1, .int l1), (2, .long (jshlL (1 : Int64) l1)), (4, .int (0 : Int32))]) rfl ?_
  refine f_m_seenFrom_L_1_ok hX hR l1 _  (fun l2_15 l4_16 hf => ?_) 1000 (jshlL (1 : Int64) l1) (0 : Int32) hf
  refine Xblk hX pkX5_ok [.iconst 0, .istore 4] (pc' := 97) (ls' := [(4, .int (0 : Int32)), (0, .ref 39), (1, .int l1), (2, .long l2_15)]) (st' := []) (h' := h) (g := true) (by decide +kernel) rfl rfl rfl ?_
  refine XW.pick [1, 2, 3, 0] (ls' := [(0, .ref 39), (1, .int l1), (2, .long l2_15), (4, .int (0 : Int32))]) rfl ?_
  refine f_m_seenFrom_L_17_ok hX hR l1 _  (fun l2_29 l4_30 hf => ?_) 1000 l2_15 (0 : Int32) hf
  refine Xblk hX pkX5_ok [.lload_n 2] (pc' := 194) (ls' := [(2, .long l2_29)]) (st' := [.long l2_29]) (h' := h) (g := true) (by decide +kernel) rfl rfl rfl ?_
  exact XrL1 hX hR hf (by decide +kernel)
def f_m_sees (l1 : Int32) (h : Hp) : Option (Int64) :=
  if (f_m_isCell l1 h) = (0 : Int32) then
    some (-1 : Int64)
  else
    xbd1 (f_m_seenFrom l1 h) fun v_4 =>
    some v_4
set_option maxRecDepth 100000 in
set_option maxHeartbeats 4000000 in
theorem mt_m_sees (l1 : Int32) (h : Hp) {r : Int64} (hf : f_m_sees l1 h = some r) : MT 3 66 yX5_sees cX5_sees 2 (some .long) [.ref 39, .int l1] h (some (.long r)) h := by
  refine MT.of (by decide +kernel) (Nat.le_of_ble_eq_true rfl) fun X hX hR => ?_
  unfold f_m_sees at hf
  refine Xblk hX pkX5_ok [.aload_n 0, .iload_n 1] (pc' := 2) (ls' := [(0, .ref 39), (1, .int l1)]) (st' := [.int l1, .ref 39]) (h' := h) (g := true) (by decide +kernel) rfl rfl rfl ?_
  refine XcallV hX (mt_m_isCell l1 h) (rest := []) (by decide) (by decide) xm_X5_isCell xi_X5_isCell xs_X5_isCell xl_RX5_144 (by decide) (xsh_39) rfl rfl rfl (Nat.le_of_ble_eq_true rfl) (by decide +kernel) ?_
  show XW X 5 [(0, .ref 39), (1, .int l1)] [.int (f_m_isCell l1 h)] h
  refine Xbr hX (.ifCond .eq (11)) (tgt := 16) (P := (f_m_isCell l1 h) = (0 : Int32)) (r := []) (by decide +kernel) rfl (by decide) (fun hc_2 => ?_) (fun hc_2 => ?_)
  · replace hf := xif_t hc_2 hf
    refine Xblk hX pkX5_ok [.ldc2_w 154] (pc' := 19) (ls' := [(0, .ref 39), (1, .int l1)]) (st' := [.long (-1 : Int64)]) (h' := h) (g := true) (by decide +kernel) rfl rfl rfl ?_
    exact XrL1 hX hR hf (by decide +kernel)
  · replace hf := xif_f hc_2 hf
    refine Xblk hX pkX5_ok [.aload_n 0, .iload_n 1] (pc' := 10) (ls' := [(0, .ref 39), (1, .int l1)]) (st' := [.int l1, .ref 39]) (h' := h) (g := true) (by decide +kernel) rfl rfl rfl ?_
    obtain ⟨v_4, hc_3, hf⟩ := xbd1_inv hf
    refine XcallV hX (mt_m_seenFrom l1 h hc_3) (rest := []) (by decide) (by decide) xm_X5_seenFrom xi_X5_seenFrom xs_X5_seenFrom xl_RX5_160 (by decide) (xsh_39) rfl rfl rfl (Nat.le_of_ble_eq_true rfl) (by decide +kernel) ?_
    show XW X 13 [(0, .ref 39), (1, .int l1)] [.long v_4] h
    refine Xgoto hX (6) 19 (by decide +kernel) (by decide) ?_
    exact XrL1 hX hR hf (by decide +kernel)
def f_m_person (l1 : Int32) (l2 : Int32) (h : Hp) : Option (Int32 × Hp) :=
  if (f_m_in l1 (0 : Int32) (3 : Int32)) = (0 : Int32) then
    some ((-1 : Int32), h)
  else
    if (f_m_isCell l2 h) = (0 : Int32) then
      some ((-1 : Int32), h)
    else
      if (f_m_isFree l2 h) = (0 : Int32) then
        some ((-2 : Int32), h)
      else
        if (h.1 39 12) = (6 : Int32) then
          some ((-3 : Int32), h)
        else
          xgd (xin (h.1 39 12) 18 && (xin (h.1 39 12) 18 && true)) <|
          some ((((h.1 39 12) + (1 : Int32)) - (1 : Int32)), (xI (xI (xI h 43 (h.1 39 12).toNatClampNeg l2) 44 (h.1 39 12).toNatClampNeg l1) 39 12 ((h.1 39 12) + (1 : Int32))))
set_option maxRecDepth 100000 in
set_option maxHeartbeats 4000000 in
theorem mt_m_person (l1 : Int32) (l2 : Int32) (h : Hp) {r : Int32} {h' : Hp} (hf : f_m_person l1 l2 h = some (r, h')) : MT 2 66 yX5_person cX5_person 3 (some .int) [.ref 39, .int l1, .int l2] h (some (.int r)) h' := by
  refine MT.of (by decide +kernel) (Nat.le_of_ble_eq_true rfl) fun X hX hR => ?_
  unfold f_m_person at hf
  refine Xblk hX pkX5_ok [.iload_n 1, .iconst 0, .iconst 3] (pc' := 3) (ls' := [(0, .ref 39), (1, .int l1), (2, .int l2)]) (st' := [.int (3 : Int32), .int (0 : Int32), .int l1]) (h' := h) (g := true) (by decide +kernel) rfl rfl rfl ?_
  refine XcallS hX (mt_m_in l1 (0 : Int32) (3 : Int32) h) (rest := []) (by decide) (by decide) xm_X5_in xi_X5_in xl_RX5_107 rfl (Nat.le_of_ble_eq_true rfl) (by decide +kernel) ?_
  show XW X 6 [(0, .ref 39), (1, .int l1), (2, .int l2)] [.int (f_m_in l1 (0 : Int32) (3 : Int32))] h
  refine Xbr hX (.ifCond .eq (11)) (tgt := 17) (P := (f_m_in l1 (0 : Int32) (3 : Int32)) = (0 : Int32)) (r := []) (by decide +kernel) rfl (by decide) (fun hc_1 => ?_) (fun hc_1 => ?_)
  · replace hf := xif_t hc_1 hf
    refine Xblk hX pkX5_ok [.iconst (-1)] (pc' := 18) (ls' := [(0, .ref 39), (1, .int l1), (2, .int l2)]) (st' := [.int (-1 : Int32)]) (h' := h) (g := true) (by decide +kernel) rfl rfl rfl ?_
    exact XrI2 hX hR hf (by decide +kernel)
  · replace hf := xif_f hc_1 hf
    refine Xblk hX pkX5_ok [.aload_n 0, .iload_n 2] (pc' := 11) (ls' := [(0, .ref 39), (1, .int l1), (2, .int l2)]) (st' := [.int l2, .ref 39]) (h' := h) (g := true) (by decide +kernel) rfl rfl rfl ?_
    refine XcallV hX (mt_m_isCell l2 h) (rest := []) (by decide) (by decide) xm_X5_isCell xi_X5_isCell xs_X5_isCell xl_RX5_144 (by decide) (xsh_39) rfl rfl rfl (Nat.le_of_ble_eq_true rfl) (by decide +kernel) ?_
    show XW X 14 [(0, .ref 39), (1, .int l1), (2, .int l2)] [.int (f_m_isCell l2 h)] h
    refine XbrN hX (.ifCond .ne (5)) (tgt := 19) (P := (f_m_isCell l2 h) = (0 : Int32)) (r := []) (by decide +kernel) rfl (by decide) (fun hc_2 => ?_) (fun hc_2 => ?_)
    · replace hf := xif_t hc_2 hf
      refine Xblk hX pkX5_ok [.iconst (-1)] (pc' := 18) (ls' := [(0, .ref 39), (1, .int l1), (2, .int l2)]) (st' := [.int (-1 : Int32)]) (h' := h) (g := true) (by decide +kernel) rfl rfl rfl ?_
      exact XrI2 hX hR hf (by decide +kernel)
    · replace hf := xif_f hc_2 hf
      refine Xblk hX pkX5_ok [.aload_n 0, .iload_n 2] (pc' := 21) (ls' := [(0, .ref 39), (1, .int l1), (2, .int l2)]) (st' := [.int l2, .ref 39]) (h' := h) (g := true) (by decide +kernel) rfl rfl rfl ?_
      refine XcallV hX (mt_m_isFree l2 h) (rest := []) (by decide) (by decide) xm_X5_isFree xi_X5_isFree xs_X5_isFree xl_RX5_151 (by decide) (xsh_39) rfl rfl rfl (Nat.le_of_ble_eq_true rfl) (by decide +kernel) ?_
      show XW X 24 [(0, .ref 39), (1, .int l1), (2, .int l2)] [.int (f_m_isFree l2 h)] h
      refine XbrN hX (.ifCond .ne (6)) (tgt := 30) (P := (f_m_isFree l2 h) = (0 : Int32)) (r := []) (by decide +kernel) rfl (by decide) (fun hc_3 => ?_) (fun hc_3 => ?_)
      · replace hf := xif_t hc_3 hf
        refine Xblk hX pkX5_ok [.bipush (-2)] (pc' := 29) (ls' := [(0, .ref 39), (1, .int l1), (2, .int l2)]) (st' := [.int (-2 : Int32)]) (h' := h) (g := true) (by decide +kernel) rfl rfl rfl ?_
        exact XrI2 hX hR hf (by decide +kernel)
      · replace hf := xif_f hc_3 hf
        refine Xblk hX pkX5_ok [.aload_n 0, .getfield 129, .bipush 6] (pc' := 36) (ls' := [(0, .ref 39), (1, .int l1), (2, .int l2)]) (st' := [.int (6 : Int32), .int (h.1 39 12)]) (h' := h) (g := true) (by decide +kernel) rfl rfl rfl ?_
        refine XbrN hX (.if_icmp .ne (6)) (tgt := 42) (P := (h.1 39 12) = (6 : Int32)) (r := []) (by decide +kernel) rfl (by decide) (fun hc_4 => ?_) (fun hc_4 => ?_)
        · replace hf := xif_t hc_4 hf
          refine Xblk hX pkX5_ok [.bipush (-3)] (pc' := 41) (ls' := [(0, .ref 39), (1, .int l1), (2, .int l2)]) (st' := [.int (-3 : Int32)]) (h' := h) (g := true) (by decide +kernel) rfl rfl rfl ?_
          exact XrI2 hX hR hf (by decide +kernel)
        · replace hf := xif_f hc_4 hf
          obtain ⟨hg, hf⟩ := xgd_inv hf
          refine Xblk hX pkX5_ok [.aload_n 0, .getfield 20, .aload_n 0, .getfield 129, .iload_n 2, .iastore, .aload_n 0, .getfield 23, .aload_n 0, .getfield 129, .iload_n 1, .iastore, .aload_n 0, .dup, .getfield 129, .iconst 1, .iadd, .putfield 129, .aload_n 0, .getfield 129, .iconst 1, .isub] (pc' := 78) (ls' := [(0, .ref 39), (1, .int l1), (2, .int l2)]) (st' := [.int (((h.1 39 12) + (1 : Int32)) - (1 : Int32))]) (h' := (xI (xI (xI h 43 (h.1 39 12).toNatClampNeg l2) 44 (h.1 39 12).toNatClampNeg l1) 39 12 ((h.1 39 12) + (1 : Int32)))) (g := (xin (h.1 39 12) 18 && (xin (h.1 39 12) 18 && true))) (by decide +kernel) rfl rfl hg ?_
          exact XrI2 hX hR hf (by decide +kernel)
def f_m_carrierOn_L_1  (l1 : Int32) (h : Hp) (k : Int32 → Option (Int32)) : Nat → Int32 → Option (Int32)
  | 0, _ => none
  | n + 1, l2 =>
    if (h.1 39 15) ≤ l2 then
      k l2
    else
      xgd (xin l2 6 && true) <|
      if (h.1 45 l2.toNatClampNeg) = l1 then
        some l2
      else
        (f_m_carrierOn_L_1 l1 h k n) (l2 + (1 : Int32))
def f_m_carrierOn (l1 : Int32) (h : Hp) : Option (Int32) :=
  f_m_carrierOn_L_1 l1 h (fun l2_4 =>
    some (-9 : Int32)
    ) 1000 (0 : Int32)
set_option maxRecDepth 100000 in
set_option maxHeartbeats 4000000 in
theorem f_m_carrierOn_L_1_ok {X : XCtx} (hX : XOk X RX5 cX5_carrierOn 3 0 66) {r : Int32} {h : Hp} (hR : XR X (some .int) (some (.int r)) h)  (l1 : Int32)  (k : Int32 → Option (Int32))  (hk : ∀ (l2 : Int32), k l2 = some r → XW X 28 [] [] h) : ∀ (n : Nat) (l2 : Int32), f_m_carrierOn_L_1 l1 h k n l2 = some r → XW X 2 [(0, .ref 39), (1, .int l1), (2, .int l2)] [] h := by
  intro n
  induction n with
  | zero => intro l2 hf; cases hf
  | succ n ih =>
    intro l2 hf
    rw [f_m_carrierOn_L_1] at hf
    refine Xblk hX pkX5_ok [.iload_n 2, .aload_n 0, .getfield 132] (pc' := 7) (ls' := [(0, .ref 39), (1, .int l1), (2, .int l2)]) (st' := [.int (h.1 39 15), .int l2]) (h' := h) (g := true) (by decide +kernel) rfl rfl rfl ?_
    refine Xbr hX (.if_icmp .ge (21)) (tgt := 28) (P := (h.1 39 15) ≤ l2) (r := []) (by decide +kernel) rfl (by decide) (fun hc_2 => ?_) (fun hc_2 => ?_)
    · replace hf := xif_t hc_2 hf
      refine XW.pick [] (ls' := []) rfl ?_
      exact hk l2 hf
    · replace hf := xif_f hc_2 hf
      obtain ⟨hg, hf⟩ := xgd_inv hf
      refine Xblk hX pkX5_ok [.aload_n 0, .getfield 26, .iload_n 2, .iaload, .iload_n 1] (pc' := 17) (ls' := [(0, .ref 39), (1, .int l1), (2, .int l2)]) (st' := [.int l1, .int (h.1 45 l2.toNatClampNeg)]) (h' := h) (g := (xin l2 6 && true)) (by decide +kernel) rfl rfl hg ?_
      refine XbrN hX (.if_icmp .ne (5)) (tgt := 22) (P := (h.1 45 l2.toNatClampNeg) = l1) (r := []) (by decide +kernel) rfl (by decide) (fun hc_3 => ?_) (fun hc_3 => ?_)
      · replace hf := xif_t hc_3 hf
        refine Xblk hX pkX5_ok [.iload_n 2] (pc' := 21) (ls' := [(0, .ref 39), (1, .int l1), (2, .int l2)]) (st' := [.int l2]) (h' := h) (g := true) (by decide +kernel) rfl rfl rfl ?_
        exact XrI1 hX hR hf (by decide +kernel)
      · replace hf := xif_f hc_3 hf
        refine Xblk hX pkX5_ok [.iinc 2 1] (pc' := 25) (ls' := [(2, .int (l2 + (1 : Int32))), (0, .ref 39), (1, .int l1)]) (st' := []) (h' := h) (g := true) (by decide +kernel) rfl rfl rfl ?_
        refine Xgoto hX (-23) 2 (by decide +kernel) (by decide) ?_
        refine XW.pick [1, 2, 0] (ls' := [(0, .ref 39), (1, .int l1), (2, .int (l2 + (1 : Int32)))]) rfl ?_
        exact ih (l2 + (1 : Int32)) hf
set_option maxRecDepth 100000 in
set_option maxHeartbeats 4000000 in
theorem mt_m_carrierOn (l1 : Int32) (h : Hp) {r : Int32} (hf : f_m_carrierOn l1 h = some r) : MT 0 66 yX5_carrierOn cX5_carrierOn 3 (some .int) [.ref 39, .int l1] h (some (.int r)) h := by
  refine MT.of (by decide +kernel) (Nat.le_of_ble_eq_true rfl) fun X hX hR => ?_
  unfold f_m_carrierOn at hf
  refine Xblk hX pkX5_ok [.iconst 0, .istore_n 2] (pc' := 2) (ls' := [(2, .int (0 : Int32)), (0, .ref 39), (1, .int l1)]) (st' := []) (h' := h) (g := true) (by decide +kernel) rfl rfl rfl ?_
  refine XW.pick [1, 2, 0] (ls' := [(0, .ref 39), (1, .int l1), (2, .int (0 : Int32))]) rfl ?_
  refine f_m_carrierOn_L_1_ok hX hR l1 _  (fun l2_4 hf => ?_) 1000 (0 : Int32) hf
  refine Xblk hX pkX5_ok [.bipush (-9)] (pc' := 30) (ls' := []) (st' := [.int (-9 : Int32)]) (h' := h) (g := true) (by decide +kernel) rfl rfl rfl ?_
  exact XrI1 hX hR hf (by decide +kernel)
def f_m_lookAbout_L_3  (l1 : Int32) (l2 : Int64)  (k : Int32 → Hp → Option (Hp)) : Nat → Int32 → Hp → Option (Hp)
  | 0, _, _ => none
  | n + 1, l4, h =>
    if (64 : Int32) ≤ l4 then
      k l4 h
    else
      if (lg_cmp ((jshrL l2 l4) &&& (1 : Int64)) (1 : Int64)) = (0 : Int32) then
        xgd (xin (((64 : Int32) * l1) + l4) 384 && true) <|
        (f_m_lookAbout_L_3 l1 l2 k n) (l4 + (1 : Int32)) (xI h 47 (((64 : Int32) * l1) + l4).toNatClampNeg ((h.1 39 19) + (1 : Int32)))
      else
        xgd (xin (((64 : Int32) * l1) + l4) 384 && (xin (((64 : Int32) * l1) + l4) 384 && true)) <|
        (f_m_lookAbout_L_3 l1 l2 k n) (l4 + (1 : Int32)) (xI h 47 (((64 : Int32) * l1) + l4).toNatClampNeg (h.1 47 (((64 : Int32) * l1) + l4).toNatClampNeg))
def f_m_lookAbout (l1 : Int32) (h : Hp) : Option (Hp) :=
  xgd (xin l1 6 && true) <|
  xbd1 (f_m_seenFrom (h.1 45 l1.toNatClampNeg) h) fun v_2 =>
  f_m_lookAbout_L_3 l1 v_2 (fun l4_7 h_8 =>
    some h_8
    ) 1000 (0 : Int32) h
set_option maxRecDepth 100000 in
set_option maxHeartbeats 4000000 in
theorem f_m_lookAbout_L_3_ok {X : XCtx} (hX : XOk X RX5 cX5_lookAbout 5 3 66) {h' : Hp} (hR : XR X none none h')  (l1 : Int32) (l2 : Int64)  (k : Int32 → Hp → Option (Hp))  (hk : ∀ (l4 : Int32) (h : Hp), k l4 h = some h' → XW X 71 [] [] h) : ∀ (n : Nat) (l4 : Int32) (h : Hp), f_m_lookAbout_L_3 l1 l2 k n l4 h = some h' → XW X 14 [(0, .ref 39), (1, .int l1), (2, .long l2), (4, .int l4)] [] h := by
  intro n
  induction n with
  | zero => intro l4 h hf; cases hf
  | succ n ih =>
    intro l4 h hf
    rw [f_m_lookAbout_L_3] at hf
    refine Xblk hX pkX5_ok [.iload 4, .bipush 64] (pc' := 18) (ls' := [(0, .ref 39), (1, .int l1), (2, .long l2), (4, .int l4)]) (st' := [.int (64 : Int32), .int l4]) (h' := h) (g := true) (by decide +kernel) rfl rfl rfl ?_
    refine Xbr hX (.if_icmp .ge (53)) (tgt := 71) (P := (64 : Int32) ≤ l4) (r := []) (by decide +kernel) rfl (by decide) (fun hc_4 => ?_) (fun hc_4 => ?_)
    · replace hf := xif_t hc_4 hf
      refine XW.pick [] (ls' := []) rfl ?_
      exact hk l4 h hf
    · replace hf := xif_f hc_4 hf
      refine Xblk hX pkX5_ok [.aload_n 0, .getfield 32, .bipush 64, .iload_n 1, .imul, .iload 4, .iadd, .lload_n 2, .iload 4, .lshr, .lconst 1, .land, .lconst 1, .lcmp] (pc' := 40) (ls' := [(0, .ref 39), (1, .int l1), (2, .long l2), (4, .int l4)]) (st' := [.int (lg_cmp ((jshrL l2 l4) &&& (1 : Int64)) (1 : Int64)), .int (((64 : Int32) * l1) + l4), .ref 47]) (h' := h) (g := true) (by decide +kernel) rfl rfl rfl ?_
      refine XbrN hX (.ifCond .ne (12)) (tgt := 52) (P := (lg_cmp ((jshrL l2 l4) &&& (1 : Int64)) (1 : Int64)) = (0 : Int32)) (r := [.int (((64 : Int32) * l1) + l4), .ref 47]) (by decide +kernel) rfl (by decide) (fun hc_6 => ?_) (fun hc_6 => ?_)
      · replace hf := xif_t hc_6 hf
        refine Xblk hX pkX5_ok [.aload_n 0, .getfield 141, .iconst 1, .iadd] (pc' := 49) (ls' := [(0, .ref 39), (1, .int l1), (2, .long l2), (4, .int l4)]) (st' := [.int ((h.1 39 19) + (1 : Int32)), .int (((64 : Int32) * l1) + l4), .ref 47]) (h' := h) (g := true) (by decide +kernel) rfl rfl rfl ?_
        refine Xgoto hX (15) 64 (by decide +kernel) (by decide) ?_
        obtain ⟨hg, hf⟩ := xgd_inv hf
        refine Xblk hX pkX5_ok [.iastore, .iinc 4 1] (pc' := 68) (ls' := [(4, .int (l4 + (1 : Int32))), (0, .ref 39), (1, .int l1), (2, .long l2)]) (st' := []) (h' := (xI h 47 (((64 : Int32) * l1) + l4).toNatClampNeg ((h.1 39 19) + (1 : Int32)))) (g := (xin (((64 : Int32) * l1) + l4) 384 && true)) (by decide +kernel) rfl rfl hg ?_
        refine Xgoto hX (-54) 14 (by decide +kernel) (by decide) ?_
        refine XW.pick [1, 2, 3, 0] (ls' := [(0, .ref 39), (1, .int l1), (2, .long l2), (4, .int (l4 + (1 : Int32)))]) rfl ?_
        exact ih (l4 + (1 : Int32)) (xI h 47 (((64 : Int32) * l1) + l4).toNatClampNeg ((h.1 39 19) + (1 : Int32))) hf
      · replace hf := xif_f hc_6 hf
        obtain ⟨hg, hf⟩ := xgd_inv hf
        refine Xblk hX pkX5_ok [.aload_n 0, .getfield 32, .bipush 64, .iload_n 1, .imul, .iload 4, .iadd, .iaload, .iastore, .iinc 4 1] (pc' := 68) (ls' := [(4, .int (l4 + (1 : Int32))), (0, .ref 39), (1, .int l1), (2, .long l2)]) (st' := []) (h' := (xI h 47 (((64 : Int32) * l1) + l4).toNatClampNeg (h.1 47 (((64 : Int32) * l1) + l4).toNatClampNeg))) (g := (xin (((64 : Int32) * l1) + l4) 384 && (xin (((64 : Int32) * l1) + l4) 384 && true))) (by decide +kernel) rfl rfl hg ?_
        refine Xgoto hX (-54) 14 (by decide +kernel) (by decide) ?_
        refine XW.pick [1, 2, 3, 0] (ls' := [(0, .ref 39), (1, .int l1), (2, .long l2), (4, .int (l4 + (1 : Int32)))]) rfl ?_
        exact ih (l4 + (1 : Int32)) (xI h 47 (((64 : Int32) * l1) + l4).toNatClampNeg (h.1 47 (((64 : Int32) * l1) + l4).toNatClampNeg)) hf
set_option maxRecDepth 100000 in
set_option maxHeartbeats 4000000 in
theorem mt_m_lookAbout (l1 : Int32) (h : Hp) {h' : Hp} (hf : f_m_lookAbout l1 h = some h') : MT 3 66 yX5_lookAbout cX5_lookAbout 5 none [.ref 39, .int l1] h none h' := by
  refine MT.of (by decide +kernel) (Nat.le_of_ble_eq_true rfl) fun X hX hR => ?_
  unfold f_m_lookAbout at hf
  obtain ⟨hg, hf⟩ := xgd_inv hf
  refine Xblk hX pkX5_ok [.aload_n 0, .aload_n 0, .getfield 26, .iload_n 1, .iaload] (pc' := 7) (ls' := [(0, .ref 39), (1, .int l1)]) (st' := [.int (h.1 45 l1.toNatClampNeg), .ref 39]) (h' := h) (g := (xin l1 6 && true)) (by decide +kernel) rfl rfl hg ?_
  obtain ⟨v_2, hc_1, hf⟩ := xbd1_inv hf
  refine XcallV hX (mt_m_seenFrom (h.1 45 l1.toNatClampNeg) h hc_1) (rest := []) (by decide) (by decide) xm_X5_seenFrom xi_X5_seenFrom xs_X5_seenFrom xl_RX5_160 (by decide) (xsh_39) rfl rfl rfl (Nat.le_of_ble_eq_true rfl) (by decide +kernel) ?_
  show XW X 10 [(0, .ref 39), (1, .int l1)] [.long v_2] h
  refine Xblk hX pkX5_ok [.lstore_n 2, .iconst 0, .istore 4] (pc' := 14) (ls' := [(4, .int (0 : Int32)), (2, .long v_2), (0, .ref 39), (1, .int l1)]) (st' := []) (h' := h) (g := true) (by decide +kernel) rfl rfl rfl ?_
  refine XW.pick [2, 3, 1, 0] (ls' := [(0, .ref 39), (1, .int l1), (2, .long v_2), (4, .int (0 : Int32))]) rfl ?_
  refine f_m_lookAbout_L_3_ok hX hR l1 v_2 _  (fun l4_7 h_8 hf => ?_) 1000 (0 : Int32) h hf
  exact XrV2 hX hR hf (by decide +kernel)
def f_m_carrier_L_8    (k : Int32 → Hp → Option (Int32 × Hp)) : Nat → Int32 → Hp → Option (Int32 × Hp)
  | 0, _, _ => none
  | n + 1, l3, h =>
    if (64 : Int32) ≤ l3 then
      k l3 h
    else
      xgd (xin (((64 : Int32) * (h.1 39 15)) + l3) 384 && true) <|
      (f_m_carrier_L_8 k n) (l3 + (1 : Int32)) (xI h 47 (((64 : Int32) * (h.1 39 15)) + l3).toNatClampNeg (0 : Int32))
def f_m_carrier (l1 : Int32) (l2 : Int32) (h : Hp) : Option (Int32 × Hp) :=
  if (f_m_isCell l1 h) = (0 : Int32) then
    some ((-1 : Int32), h)
  else
    if (f_m_in l2 (0 : Int32) (9 : Int32)) = (0 : Int32) then
      some ((-1 : Int32), h)
    else
      if (f_m_isFree l1 h) = (0 : Int32) then
        some ((-2 : Int32), h)
      else
        xbd1 (f_m_carrierOn l1 h) fun v_5 =>
        if v_5 = (-9 : Int32) then
          if (h.1 39 15) = (2 : Int32) then
            some ((-3 : Int32), h)
          else
            xgd (xin (h.1 39 15) 6 && (xin (h.1 39 15) 6 && true)) <|
            f_m_carrier_L_8 (fun l3_10 h_11 =>
              xbd1 (f_m_lookAbout (h_11.1 39 15) h_11) fun h_13 =>
              some ((((h_13.1 39 15) + (1 : Int32)) - (1 : Int32)), (xI h_13 39 15 ((h_13.1 39 15) + (1 : Int32))))
              ) 1000 (0 : Int32) (xI (xI h 45 (h.1 39 15).toNatClampNeg l1) 46 (h.1 39 15).toNatClampNeg l2)
        else
          some ((-2 : Int32), h)
set_option maxRecDepth 100000 in
set_option maxHeartbeats 4000000 in
theorem f_m_carrier_L_8_ok {X : XCtx} (hX : XOk X RX5 cX5_carrier 4 4 66) {r : Int32} {h' : Hp} (hR : XR X (some .int) (some (.int r)) h')    (k : Int32 → Hp → Option (Int32 × Hp))  (hk : ∀ (l3 : Int32) (h : Hp), k l3 h = some (r, h') → XW X 101 [(0, .ref 39)] [] h) : ∀ (n : Nat) (l3 : Int32) (h : Hp), f_m_carrier_L_8 k n l3 h = some (r, h') → XW X 74 [(0, .ref 39), (3, .int l3)] [] h := by
  intro n
  induction n with
  | zero => intro l3 h hf; cases hf
  | succ n ih =>
    intro l3 h hf
    rw [f_m_carrier_L_8] at hf
    refine Xblk hX pkX5_ok [.iload_n 3, .bipush 64] (pc' := 77) (ls' := [(0, .ref 39), (3, .int l3)]) (st' := [.int (64 : Int32), .int l3]) (h' := h) (g := true) (by decide +kernel) rfl rfl rfl ?_
    refine Xbr hX (.if_icmp .ge (24)) (tgt := 101) (P := (64 : Int32) ≤ l3) (r := []) (by decide +kernel) rfl (by decide) (fun hc_9 => ?_) (fun hc_9 => ?_)
    · replace hf := xif_t hc_9 hf
      refine XW.pick [0] (ls' := [(0, .ref 39)]) rfl ?_
      exact hk l3 h hf
    · replace hf := xif_f hc_9 hf
      obtain ⟨hg, hf⟩ := xgd_inv hf
      refine Xblk hX pkX5_ok [.aload_n 0, .getfield 32, .bipush 64, .aload_n 0, .getfield 132, .imul, .iload_n 3, .iadd, .iconst 0, .iastore, .iinc 3 1] (pc' := 98) (ls' := [(3, .int (l3 + (1 : Int32))), (0, .ref 39)]) (st' := []) (h' := (xI h 47 (((64 : Int32) * (h.1 39 15)) + l3).toNatClampNeg (0 : Int32))) (g := (xin (((64 : Int32) * (h.1 39 15)) + l3) 384 && true)) (by decide +kernel) rfl rfl hg ?_
      refine Xgoto hX (-24) 74 (by decide +kernel) (by decide) ?_
      refine XW.pick [1, 0] (ls' := [(0, .ref 39), (3, .int (l3 + (1 : Int32)))]) rfl ?_
      exact ih (l3 + (1 : Int32)) (xI h 47 (((64 : Int32) * (h.1 39 15)) + l3).toNatClampNeg (0 : Int32)) hf
set_option maxRecDepth 100000 in
set_option maxHeartbeats 4000000 in
theorem mt_m_carrier (l1 : Int32) (l2 : Int32) (h : Hp) {r : Int32} {h' : Hp} (hf : f_m_carrier l1 l2 h = some (r, h')) : MT 4 66 yX5_carrier cX5_carrier 4 (some .int) [.ref 39, .int l1, .int l2] h (some (.int r)) h' := by
  refine MT.of (by decide +kernel) (Nat.le_of_ble_eq_true rfl) fun X hX hR => ?_
  unfold f_m_carrier at hf
  refine Xblk hX pkX5_ok [.aload_n 0, .iload_n 1] (pc' := 2) (ls' := [(0, .ref 39), (1, .int l1), (2, .int l2)]) (st' := [.int l1, .ref 39]) (h' := h) (g := true) (by decide +kernel) rfl rfl rfl ?_
  refine XcallV hX (mt_m_isCell l1 h) (rest := []) (by decide) (by decide) xm_X5_isCell xi_X5_isCell xs_X5_isCell xl_RX5_144 (by decide) (xsh_39) rfl rfl rfl (Nat.le_of_ble_eq_true rfl) (by decide +kernel) ?_
  show XW X 5 [(0, .ref 39), (1, .int l1), (2, .int l2)] [.int (f_m_isCell l1 h)] h
  refine Xbr hX (.ifCond .eq (13)) (tgt := 18) (P := (f_m_isCell l1 h) = (0 : Int32)) (r := []) (by decide +kernel) rfl (by decide) (fun hc_1 => ?_) (fun hc_1 => ?_)
  · replace hf := xif_t hc_1 hf
    refine Xblk hX pkX5_ok [.iconst (-1)] (pc' := 19) (ls' := [(0, .ref 39), (1, .int l1), (2, .int l2)]) (st' := [.int (-1 : Int32)]) (h' := h) (g := true) (by decide +kernel) rfl rfl rfl ?_
    exact XrI2 hX hR hf (by decide +kernel)
  · replace hf := xif_f hc_1 hf
    refine Xblk hX pkX5_ok [.iload_n 2, .iconst 0, .bipush 9] (pc' := 12) (ls' := [(0, .ref 39), (1, .int l1), (2, .int l2)]) (st' := [.int (9 : Int32), .int (0 : Int32), .int l2]) (h' := h) (g := true) (by decide +kernel) rfl rfl rfl ?_
    refine XcallS hX (mt_m_in l2 (0 : Int32) (9 : Int32) h) (rest := []) (by decide) (by decide) xm_X5_in xi_X5_in xl_RX5_107 rfl (Nat.le_of_ble_eq_true rfl) (by decide +kernel) ?_
    show XW X 15 [(0, .ref 39), (1, .int l1), (2, .int l2)] [.int (f_m_in l2 (0 : Int32) (9 : Int32))] h
    refine XbrN hX (.ifCond .ne (5)) (tgt := 20) (P := (f_m_in l2 (0 : Int32) (9 : Int32)) = (0 : Int32)) (r := []) (by decide +kernel) rfl (by decide) (fun hc_2 => ?_) (fun hc_2 => ?_)
    · replace hf := xif_t hc_2 hf
      refine Xblk hX pkX5_ok [.iconst (-1)] (pc' := 19) (ls' := [(0, .ref 39), (1, .int l1), (2, .int l2)]) (st' := [.int (-1 : Int32)]) (h' := h) (g := true) (by decide +kernel) rfl rfl rfl ?_
      exact XrI2 hX hR hf (by decide +kernel)
    · replace hf := xif_f hc_2 hf
      refine Xblk hX pkX5_ok [.aload_n 0, .iload_n 1] (pc' := 22) (ls' := [(0, .ref 39), (1, .int l1), (2, .int l2)]) (st' := [.int l1, .ref 39]) (h' := h) (g := true) (by decide +kernel) rfl rfl rfl ?_
      refine XcallV hX (mt_m_isFree l1 h) (rest := []) (by decide) (by decide) xm_X5_isFree xi_X5_isFree xs_X5_isFree xl_RX5_151 (by decide) (xsh_39) rfl rfl rfl (Nat.le_of_ble_eq_true rfl) (by decide +kernel) ?_
      show XW X 25 [(0, .ref 39), (1, .int l1), (2, .int l2)] [.int (f_m_isFree l1 h)] h
      refine Xbr hX (.ifCond .eq (13)) (tgt := 38) (P := (f_m_isFree l1 h) = (0 : Int32)) (r := []) (by decide +kernel) rfl (by decide) (fun hc_3 => ?_) (fun hc_3 => ?_)
      · replace hf := xif_t hc_3 hf
        refine Xblk hX pkX5_ok [.bipush (-2)] (pc' := 40) (ls' := [(0, .ref 39), (1, .int l1), (2, .int l2)]) (st' := [.int (-2 : Int32)]) (h' := h) (g := true) (by decide +kernel) rfl rfl rfl ?_
        exact XrI2 hX hR hf (by decide +kernel)
      · replace hf := xif_f hc_3 hf
        refine Xblk hX pkX5_ok [.aload_n 0, .iload_n 1] (pc' := 30) (ls' := [(0, .ref 39), (1, .int l1), (2, .int l2)]) (st' := [.int l1, .ref 39]) (h' := h) (g := true) (by decide +kernel) rfl rfl rfl ?_
        obtain ⟨v_5, hc_4, hf⟩ := xbd1_inv hf
        refine XcallV hX (mt_m_carrierOn l1 h hc_4) (rest := []) (by decide) (by decide) xm_X5_carrierOn xi_X5_carrierOn xs_X5_carrierOn xl_RX5_164 (by decide) (xsh_39) rfl rfl rfl (Nat.le_of_ble_eq_true rfl) (by decide +kernel) ?_
        show XW X 33 [(0, .ref 39), (1, .int l1), (2, .int l2)] [.int v_5] h
        refine Xblk hX pkX5_ok [.bipush (-9)] (pc' := 35) (ls' := [(0, .ref 39), (1, .int l1), (2, .int l2)]) (st' := [.int (-9 : Int32), .int v_5]) (h' := h) (g := true) (by decide +kernel) rfl rfl rfl ?_
        refine Xbr hX (.if_icmp .eq (6)) (tgt := 41) (P := v_5 = (-9 : Int32)) (r := []) (by decide +kernel) rfl (by decide) (fun hc_6 => ?_) (fun hc_6 => ?_)
        · replace hf := xif_t hc_6 hf
          refine Xblk hX pkX5_ok [.aload_n 0, .getfield 132, .iconst 2] (pc' := 46) (ls' := [(0, .ref 39), (1, .int l1), (2, .int l2)]) (st' := [.int (2 : Int32), .int (h.1 39 15)]) (h' := h) (g := true) (by decide +kernel) rfl rfl rfl ?_
          refine XbrN hX (.if_icmp .ne (6)) (tgt := 52) (P := (h.1 39 15) = (2 : Int32)) (r := []) (by decide +kernel) rfl (by decide) (fun hc_7 => ?_) (fun hc_7 => ?_)
          · replace hf := xif_t hc_7 hf
            refine Xblk hX pkX5_ok [.bipush (-3)] (pc' := 51) (ls' := [(0, .ref 39), (1, .int l1), (2, .int l2)]) (st' := [.int (-3 : Int32)]) (h' := h) (g := true) (by decide +kernel) rfl rfl rfl ?_
            exact XrI2 hX hR hf (by decide +kernel)
          · replace hf := xif_f hc_7 hf
            obtain ⟨hg, hf⟩ := xgd_inv hf
            refine Xblk hX pkX5_ok [.aload_n 0, .getfield 26, .aload_n 0, .getfield 132, .iload_n 1, .iastore, .aload_n 0, .getfield 29, .aload_n 0, .getfield 132, .iload_n 2, .iastore, .iconst 0, .istore_n 3] (pc' := 74) (ls' := [(3, .int (0 : Int32)), (0, .ref 39), (1, .int l1), (2, .int l2)]) (st' := []) (h' := (xI (xI h 45 (h.1 39 15).toNatClampNeg l1) 46 (h.1 39 15).toNatClampNeg l2)) (g := (xin (h.1 39 15) 6 && (xin (h.1 39 15) 6 && true))) (by decide +kernel) rfl rfl hg ?_
            refine XW.pick [1, 0] (ls' := [(0, .ref 39), (3, .int (0 : Int32))]) rfl ?_
            refine f_m_carrier_L_8_ok hX hR  _  (fun l3_10 h_11 hf => ?_) 1000 (0 : Int32) (xI (xI h 45 (h.1 39 15).toNatClampNeg l1) 46 (h.1 39 15).toNatClampNeg l2) hf
            refine Xblk hX pkX5_ok [.aload_n 0, .aload_n 0, .getfield 132] (pc' := 106) (ls' := [(0, .ref 39)]) (st' := [.int (h_11.1 39 15), .ref 39]) (h' := h_11) (g := true) (by decide +kernel) rfl rfl rfl ?_
            obtain ⟨h_13, hc_12, hf⟩ := xbd1_inv hf
            refine XcallV hX (mt_m_lookAbout (h_11.1 39 15) h_11 hc_12) (rest := []) (by decide) (by decide) xm_X5_lookAbout xi_X5_lookAbout xs_X5_lookAbout xl_RX5_168 (by decide) (xsh_39) rfl rfl rfl (Nat.le_of_ble_eq_true rfl) (by decide +kernel) ?_
            show XW X 109 [(0, .ref 39)] [] h_13
            refine Xblk hX pkX5_ok [.aload_n 0, .dup, .getfield 132, .iconst 1, .iadd, .putfield 132, .aload_n 0, .getfield 132, .iconst 1, .isub] (pc' := 125) (ls' := [(0, .ref 39)]) (st' := [.int (((h_13.1 39 15) + (1 : Int32)) - (1 : Int32))]) (h' := (xI h_13 39 15 ((h_13.1 39 15) + (1 : Int32)))) (g := true) (by decide +kernel) rfl rfl rfl ?_
            exact XrI2 hX hR hf (by decide +kernel)
        · replace hf := xif_f hc_6 hf
          refine Xblk hX pkX5_ok [.bipush (-2)] (pc' := 40) (ls' := [(0, .ref 39), (1, .int l1), (2, .int l2)]) (st' := [.int (-2 : Int32)]) (h' := h) (g := true) (by decide +kernel) rfl rfl rfl ?_
          exact XrI2 hX hR hf (by decide +kernel)
