def f_m_look_j_16  (k24 : Int32 → Hp → Option (Int32 × Hp)) (k98 : Int32 → Hp → Option (Int32 × Hp)) (l1 : Int32) (l2 : Int32) (l3 : Int32) (s0 : Int32) (h : Hp) : Option (Int32 × Hp) :=
  k24 (l3 + (1 : Int32)) (xL h 39 9 (if s0 = (0 : Int32) then ((h.2 39 9) &&& ((jshlL (1 : Int64) l3) ^^^ (-1 : Int64))) else (h.2 39 9)))
def f_m_look_j_15  (k24 : Int32 → Hp → Option (Int32 × Hp)) (k98 : Int32 → Hp → Option (Int32 × Hp)) (l1 : Int32) (l2 : Int32) (l3 : Int32) (h : Hp) : Option (Int32 × Hp) :=
  f_m_look_j_16 k24 k98 l1 l2 l3 (0 : Int32) h
def f_m_look_L_3  (l1 : Int32) (l2 : Int32)  (k : Int32 → Hp → Option (Int32 × Hp)) : Nat → Int32 → Hp → Option (Int32 × Hp)
  | 0, _, _ => none
  | n + 1, l3, h =>
    if (64 : Int32) ≤ l3 then
      k l3 h
    else
      if (lg_cmp ((jshrL (h.2 39 9) l3) &&& (1 : Int64)) (1 : Int64)) = (0 : Int32) then
        xbd1 (f_m_looks l3 h) fun v_8 =>
        (f_m_look_L_3 l1 l2 k n) (l3 + (1 : Int32)) (xL h 39 9 (if (if v_8 = (l1 + ((16 : Int32) * l2)) then (1 : Int32) else (0 : Int32)) = (0 : Int32) then ((h.2 39 9) &&& ((jshlL (1 : Int64) l3) ^^^ (-1 : Int64))) else (h.2 39 9)))
      else
        f_m_look_j_15 (f_m_look_L_3 l1 l2 k n) k l1 l2 l3 h
def f_m_look (l1 : Int32) (l2 : Int32) (h : Hp) : Option (Int32 × Hp) :=
  if (f_m_in l1 (0 : Int32) (15 : Int32)) = (0 : Int32) then
    some ((-1 : Int32), h)
  else
    if (f_m_in l2 (0 : Int32) (9 : Int32)) = (0 : Int32) then
      some ((-1 : Int32), h)
    else
      f_m_look_L_3 l1 l2 (fun l3_20 h_21 =>
        xbd1 (f_m_bitsIn (h_21.2 39 9)) fun v_23 =>
        some (v_23, h_21)
        ) 1000 (0 : Int32) h
set_option maxRecDepth 100000 in
set_option maxHeartbeats 4000000 in
theorem f_m_look_j_16_ok {X : XCtx} (hX : XOk X RX5 cX5_look 5 3 66) {r : Int32} {h' : Hp} (hR : XR X (some .int) (some (.int r)) h')   (l1 : Int32) (l2 : Int32) (l3 : Int32) (s0 : Int32) (h : Hp) (k24 : Int32 → Hp → Option (Int32 × Hp)) (k98 : Int32 → Hp → Option (Int32 × Hp))  (hk24 : ∀ (l3 : Int32) (h : Hp), k24 l3 h = some (r, h') → XW X 24 [(0, .ref 39), (1, .int l1), (2, .int l2), (3, .int l3)] [] h) (hk98 : ∀ (l3 : Int32) (h : Hp), k98 l3 h = some (r, h') → XW X 98 [(0, .ref 39)] [] h) (hf : f_m_look_j_16 k24 k98 l1 l2 l3 s0 h = some (r, h')) : XW X 62 [(0, .ref 39), (1, .int l1), (2, .int l2), (3, .int l3)] [.int s0] h := by
  unfold f_m_look_j_16 at hf
  refine Xblk hX pkX5_ok [.istore 4, .aload_n 0, .iload 4] (pc' := 67) (ls' := [(4, .int s0), (0, .ref 39), (1, .int l1), (2, .int l2), (3, .int l3)]) (st' := [.int s0, .ref 39]) (h' := h) (g := true) (by decide +kernel) rfl rfl rfl ?_
  have kJ_19 : ∀ (w_18 : Int64), w_18 = (if s0 = (0 : Int32) then ((h.2 39 9) &&& ((jshlL (1 : Int64) l3) ^^^ (-1 : Int64))) else (h.2 39 9)) → XW X 89 [(0, .ref 39), (1, .int l1), (2, .int l2), (3, .int l3)] [.long w_18, .ref 39] h := by
    intro w_18 ew_18
    subst ew_18
    refine Xblk hX pkX5_ok [.putfield 104, .iinc 3 1] (pc' := 95) (ls' := [(3, .int (l3 + (1 : Int32))), (0, .ref 39), (1, .int l1), (2, .int l2)]) (st' := []) (h' := (xL h 39 9 (if s0 = (0 : Int32) then ((h.2 39 9) &&& ((jshlL (1 : Int64) l3) ^^^ (-1 : Int64))) else (h.2 39 9)))) (g := true) (by decide +kernel) rfl rfl rfl ?_
    refine Xgoto hX (-71) 24 (by decide +kernel) (by decide) ?_
    refine XW.pick [1, 2, 3, 0] (ls' := [(0, .ref 39), (1, .int l1), (2, .int l2), (3, .int (l3 + (1 : Int32)))]) rfl ?_
    exact hk24 (l3 + (1 : Int32)) (xL h 39 9 (if s0 = (0 : Int32) then ((h.2 39 9) &&& ((jshlL (1 : Int64) l3) ^^^ (-1 : Int64))) else (h.2 39 9))) hf
  refine Xbr hX (.ifCond .eq (10)) (tgt := 77) (P := s0 = (0 : Int32)) (r := [.ref 39]) (by decide +kernel) rfl (by decide) (fun hc_17 => ?_) (fun hc_17 => ?_)
  · refine Xblk hX pkX5_ok [.aload_n 0, .getfield 104, .lconst 1, .iload_n 3, .lshl, .ldc2_w 154, .lxor, .land] (pc' := 89) (ls' := [(4, .int s0), (0, .ref 39), (1, .int l1), (2, .int l2), (3, .int l3)]) (st' := [.long ((h.2 39 9) &&& ((jshlL (1 : Int64) l3) ^^^ (-1 : Int64))), .ref 39]) (h' := h) (g := true) (by decide +kernel) rfl rfl rfl ?_
    refine XW.pick [1, 2, 3, 4] (ls' := [(0, .ref 39), (1, .int l1), (2, .int l2), (3, .int l3)]) rfl ?_
    exact kJ_19 _ (by rw [if_pos hc_17])
  · refine Xblk hX pkX5_ok [.aload_n 0, .getfield 104] (pc' := 74) (ls' := [(4, .int s0), (0, .ref 39), (1, .int l1), (2, .int l2), (3, .int l3)]) (st' := [.long (h.2 39 9), .ref 39]) (h' := h) (g := true) (by decide +kernel) rfl rfl rfl ?_
    refine Xgoto hX (15) 89 (by decide +kernel) (by decide) ?_
    refine XW.pick [1, 2, 3, 4] (ls' := [(0, .ref 39), (1, .int l1), (2, .int l2), (3, .int l3)]) rfl ?_
    exact kJ_19 _ (by rw [if_neg hc_17])
set_option maxRecDepth 100000 in
set_option maxHeartbeats 4000000 in
theorem f_m_look_j_15_ok {X : XCtx} (hX : XOk X RX5 cX5_look 5 3 66) {r : Int32} {h' : Hp} (hR : XR X (some .int) (some (.int r)) h')   (l1 : Int32) (l2 : Int32) (l3 : Int32) (h : Hp) (k24 : Int32 → Hp → Option (Int32 × Hp)) (k98 : Int32 → Hp → Option (Int32 × Hp))  (hk24 : ∀ (l3 : Int32) (h : Hp), k24 l3 h = some (r, h') → XW X 24 [(0, .ref 39), (1, .int l1), (2, .int l2), (3, .int l3)] [] h) (hk98 : ∀ (l3 : Int32) (h : Hp), k98 l3 h = some (r, h') → XW X 98 [(0, .ref 39)] [] h) (hf : f_m_look_j_15 k24 k98 l1 l2 l3 h = some (r, h')) : XW X 61 [(0, .ref 39), (1, .int l1), (2, .int l2), (3, .int l3)] [] h := by
  unfold f_m_look_j_15 at hf
  refine Xblk hX pkX5_ok [.iconst 0] (pc' := 62) (ls' := [(0, .ref 39), (1, .int l1), (2, .int l2), (3, .int l3)]) (st' := [.int (0 : Int32)]) (h' := h) (g := true) (by decide +kernel) rfl rfl rfl ?_
  refine XW.pick [0, 1, 2, 3] (ls' := [(0, .ref 39), (1, .int l1), (2, .int l2), (3, .int l3)]) rfl ?_
  exact f_m_look_j_16_ok hX hR l1 l2 l3 (0 : Int32) h _ _ hk24 hk98 hf
set_option maxRecDepth 100000 in
set_option maxHeartbeats 4000000 in
theorem f_m_look_L_3_ok {X : XCtx} (hX : XOk X RX5 cX5_look 5 3 66) {r : Int32} {h' : Hp} (hR : XR X (some .int) (some (.int r)) h')  (l1 : Int32) (l2 : Int32)  (k : Int32 → Hp → Option (Int32 × Hp))  (hk : ∀ (l3 : Int32) (h : Hp), k l3 h = some (r, h') → XW X 98 [(0, .ref 39)] [] h) : ∀ (n : Nat) (l3 : Int32) (h : Hp), f_m_look_L_3 l1 l2 k n l3 h = some (r, h') → XW X 24 [(0, .ref 39), (1, .int l1), (2, .int l2), (3, .int l3)] [] h := by
  intro n
  induction n with
  | zero => intro l3 h hf; cases hf
  | succ n ih =>
    intro l3 h hf
    rw [f_m_look_L_3] at hf
    refine Xblk hX pkX5_ok [.iload_n 3, .bipush 64] (pc' := 27) (ls' := [(0, .ref 39), (1, .int l1), (2, .int l2), (3, .int l3)]) (st' := [.int (64 : Int32), .int l3]) (h' := h) (g := true) (by decide +kernel) rfl rfl rfl ?_
    refine Xbr hX (.if_icmp .ge (71)) (tgt := 98) (P := (64 : Int32) ≤ l3) (r := []) (by decide +kernel) rfl (by decide) (fun hc_4 => ?_) (fun hc_4 => ?_)
    · replace hf := xif_t hc_4 hf
      refine XW.pick [0] (ls' := [(0, .ref 39)]) rfl ?_
      exact hk l3 h hf
    · replace hf := xif_f hc_4 hf
      refine Xblk hX pkX5_ok [.aload_n 0, .getfield 104, .iload_n 3, .lshr, .lconst 1, .land, .lconst 1, .lcmp] (pc' := 40) (ls' := [(0, .ref 39), (1, .int l1), (2, .int l2), (3, .int l3)]) (st' := [.int (lg_cmp ((jshrL (h.2 39 9) l3) &&& (1 : Int64)) (1 : Int64))]) (h' := h) (g := true) (by decide +kernel) rfl rfl rfl ?_
      refine XbrN hX (.ifCond .ne (21)) (tgt := 61) (P := (lg_cmp ((jshrL (h.2 39 9) l3) &&& (1 : Int64)) (1 : Int64)) = (0 : Int32)) (r := []) (by decide +kernel) rfl (by decide) (fun hc_6 => ?_) (fun hc_6 => ?_)
      · replace hf := xif_t hc_6 hf
        refine Xblk hX pkX5_ok [.aload_n 0, .iload_n 3] (pc' := 45) (ls' := [(0, .ref 39), (1, .int l1), (2, .int l2), (3, .int l3)]) (st' := [.int l3, .ref 39]) (h' := h) (g := true) (by decide +kernel) rfl rfl rfl ?_
        obtain ⟨v_8, hc_7, hf⟩ := xbd1_inv hf
        refine XcallV hX (mt_m_looks l3 h hc_7) (rest := []) (by decide) (by decide) xm_X5_looks xi_X5_looks xs_X5_looks xl_RX5_229 (by decide) (xsh_39) rfl rfl rfl (Nat.le_of_ble_eq_true rfl) (by decide +kernel) ?_
        show XW X 48 [(0, .ref 39), (1, .int l1), (2, .int l2), (3, .int l3)] [.int v_8] h
        refine Xblk hX pkX5_ok [.iload_n 1, .bipush 16, .iload_n 2, .imul, .iadd] (pc' := 54) (ls' := [(0, .ref 39), (1, .int l1), (2, .int l2), (3, .int l3)]) (st' := [.int (l1 + ((16 : Int32) * l2)), .int v_8]) (h' := h) (g := true) (by decide +kernel) rfl rfl rfl ?_
        have kJ_14 : ∀ (w_10 : Int32), w_10 = (if v_8 = (l1 + ((16 : Int32) * l2)) then (1 : Int32) else (0 : Int32)) → XW X 62 [(0, .ref 39), (1, .int l1), (2, .int l2), (3, .int l3)] [.int w_10] h := by
          intro w_10 ew_10
          subst ew_10
          refine Xblk hX pkX5_ok [.istore 4, .aload_n 0, .iload 4] (pc' := 67) (ls' := [(4, .int (if v_8 = (l1 + ((16 : Int32) * l2)) then (1 : Int32) else (0 : Int32))), (0, .ref 39), (1, .int l1), (2, .int l2), (3, .int l3)]) (st' := [.int (if v_8 = (l1 + ((16 : Int32) * l2)) then (1 : Int32) else (0 : Int32)), .ref 39]) (h' := h) (g := true) (by decide +kernel) rfl rfl rfl ?_
          have kJ_13 : ∀ (w_12 : Int64), w_12 = (if (if v_8 = (l1 + ((16 : Int32) * l2)) then (1 : Int32) else (0 : Int32)) = (0 : Int32) then ((h.2 39 9) &&& ((jshlL (1 : Int64) l3) ^^^ (-1 : Int64))) else (h.2 39 9)) → XW X 89 [(0, .ref 39), (1, .int l1), (2, .int l2), (3, .int l3)] [.long w_12, .ref 39] h := by
            intro w_12 ew_12
            subst ew_12
            refine Xblk hX pkX5_ok [.putfield 104, .iinc 3 1] (pc' := 95) (ls' := [(3, .int (l3 + (1 : Int32))), (0, .ref 39), (1, .int l1), (2, .int l2)]) (st' := []) (h' := (xL h 39 9 (if (if v_8 = (l1 + ((16 : Int32) * l2)) then (1 : Int32) else (0 : Int32)) = (0 : Int32) then ((h.2 39 9) &&& ((jshlL (1 : Int64) l3) ^^^ (-1 : Int64))) else (h.2 39 9)))) (g := true) (by decide +kernel) rfl rfl rfl ?_
            refine Xgoto hX (-71) 24 (by decide +kernel) (by decide) ?_
            refine XW.pick [1, 2, 3, 0] (ls' := [(0, .ref 39), (1, .int l1), (2, .int l2), (3, .int (l3 + (1 : Int32)))]) rfl ?_
            exact ih (l3 + (1 : Int32)) (xL h 39 9 (if (if v_8 = (l1 + ((16 : Int32) * l2)) then (1 : Int32) else (0 : Int32)) = (0 : Int32) then ((h.2 39 9) &&& ((jshlL (1 : Int64) l3) ^^^ (-1 : Int64))) else (h.2 39 9))) hf
          refine Xbr hX (.ifCond .eq (10)) (tgt := 77) (P := (if v_8 = (l1 + ((16 : Int32) * l2)) then (1 : Int32) else (0 : Int32)) = (0 : Int32)) (r := [.ref 39]) (by decide +kernel) rfl (by decide) (fun hc_11 => ?_) (fun hc_11 => ?_)
          · refine Xblk hX pkX5_ok [.aload_n 0, .getfield 104, .lconst 1, .iload_n 3, .lshl, .ldc2_w 154, .lxor, .land] (pc' := 89) (ls' := [(4, .int (if v_8 = (l1 + ((16 : Int32) * l2)) then (1 : Int32) else (0 : Int32))), (0, .ref 39), (1, .int l1), (2, .int l2), (3, .int l3)]) (st' := [.long ((h.2 39 9) &&& ((jshlL (1 : Int64) l3) ^^^ (-1 : Int64))), .ref 39]) (h' := h) (g := true) (by decide +kernel) rfl rfl rfl ?_
            refine XW.pick [1, 2, 3, 4] (ls' := [(0, .ref 39), (1, .int l1), (2, .int l2), (3, .int l3)]) rfl ?_
            exact kJ_13 _ (by rw [if_pos hc_11])
          · refine Xblk hX pkX5_ok [.aload_n 0, .getfield 104] (pc' := 74) (ls' := [(4, .int (if v_8 = (l1 + ((16 : Int32) * l2)) then (1 : Int32) else (0 : Int32))), (0, .ref 39), (1, .int l1), (2, .int l2), (3, .int l3)]) (st' := [.long (h.2 39 9), .ref 39]) (h' := h) (g := true) (by decide +kernel) rfl rfl rfl ?_
            refine Xgoto hX (15) 89 (by decide +kernel) (by decide) ?_
            refine XW.pick [1, 2, 3, 4] (ls' := [(0, .ref 39), (1, .int l1), (2, .int l2), (3, .int l3)]) rfl ?_
            exact kJ_13 _ (by rw [if_neg hc_11])
        refine XbrN hX (.if_icmp .ne (7)) (tgt := 61) (P := v_8 = (l1 + ((16 : Int32) * l2))) (r := []) (by decide +kernel) rfl (by decide) (fun hc_9 => ?_) (fun hc_9 => ?_)
        · refine Xblk hX pkX5_ok [.iconst 1] (pc' := 58) (ls' := [(0, .ref 39), (1, .int l1), (2, .int l2), (3, .int l3)]) (st' := [.int (1 : Int32)]) (h' := h) (g := true) (by decide +kernel) rfl rfl rfl ?_
          refine Xgoto hX (4) 62 (by decide +kernel) (by decide) ?_
          refine XW.pick [0, 1, 2, 3] (ls' := [(0, .ref 39), (1, .int l1), (2, .int l2), (3, .int l3)]) rfl ?_
          exact kJ_14 _ (by rw [if_pos hc_9])
        · refine Xblk hX pkX5_ok [.iconst 0] (pc' := 62) (ls' := [(0, .ref 39), (1, .int l1), (2, .int l2), (3, .int l3)]) (st' := [.int (0 : Int32)]) (h' := h) (g := true) (by decide +kernel) rfl rfl rfl ?_
          refine XW.pick [0, 1, 2, 3] (ls' := [(0, .ref 39), (1, .int l1), (2, .int l2), (3, .int l3)]) rfl ?_
          exact kJ_14 _ (by rw [if_neg hc_9])
      · replace hf := xif_f hc_6 hf
        refine XW.pick [0, 1, 2, 3] (ls' := [(0, .ref 39), (1, .int l1), (2, .int l2), (3, .int l3)]) rfl ?_
        exact f_m_look_j_15_ok hX hR l1 l2 l3 h _ _ ih hk hf
set_option maxRecDepth 100000 in
set_option maxHeartbeats 4000000 in
theorem mt_m_look (l1 : Int32) (l2 : Int32) (h : Hp) {r : Int32} {h' : Hp} (hf : f_m_look l1 l2 h = some (r, h')) : MT 3 66 yX5_look cX5_look 5 (some .int) [.ref 39, .int l1, .int l2] h (some (.int r)) h' := by
  refine MT.of (by decide +kernel) (Nat.le_of_ble_eq_true rfl) fun X hX hR => ?_
  unfold f_m_look at hf
  refine Xblk hX pkX5_ok [.iload_n 1, .iconst 0, .bipush 15] (pc' := 4) (ls' := [(0, .ref 39), (1, .int l1), (2, .int l2)]) (st' := [.int (15 : Int32), .int (0 : Int32), .int l1]) (h' := h) (g := true) (by decide +kernel) rfl rfl rfl ?_
  refine XcallS hX (mt_m_in l1 (0 : Int32) (15 : Int32) h) (rest := []) (by decide) (by decide) xm_X5_in xi_X5_in xl_RX5_107 rfl (Nat.le_of_ble_eq_true rfl) (by decide +kernel) ?_
  show XW X 7 [(0, .ref 39), (1, .int l1), (2, .int l2)] [.int (f_m_in l1 (0 : Int32) (15 : Int32))] h
  refine Xbr hX (.ifCond .eq (13)) (tgt := 20) (P := (f_m_in l1 (0 : Int32) (15 : Int32)) = (0 : Int32)) (r := []) (by decide +kernel) rfl (by decide) (fun hc_1 => ?_) (fun hc_1 => ?_)
  · replace hf := xif_t hc_1 hf
    refine Xblk hX pkX5_ok [.iconst (-1)] (pc' := 21) (ls' := [(0, .ref 39), (1, .int l1), (2, .int l2)]) (st' := [.int (-1 : Int32)]) (h' := h) (g := true) (by decide +kernel) rfl rfl rfl ?_
    exact XrI2 hX hR hf (by decide +kernel)
  · replace hf := xif_f hc_1 hf
    refine Xblk hX pkX5_ok [.iload_n 2, .iconst 0, .bipush 9] (pc' := 14) (ls' := [(0, .ref 39), (1, .int l1), (2, .int l2)]) (st' := [.int (9 : Int32), .int (0 : Int32), .int l2]) (h' := h) (g := true) (by decide +kernel) rfl rfl rfl ?_
    refine XcallS hX (mt_m_in l2 (0 : Int32) (9 : Int32) h) (rest := []) (by decide) (by decide) xm_X5_in xi_X5_in xl_RX5_107 rfl (Nat.le_of_ble_eq_true rfl) (by decide +kernel) ?_
    show XW X 17 [(0, .ref 39), (1, .int l1), (2, .int l2)] [.int (f_m_in l2 (0 : Int32) (9 : Int32))] h
    refine XbrN hX (.ifCond .ne (5)) (tgt := 22) (P := (f_m_in l2 (0 : Int32) (9 : Int32)) = (0 : Int32)) (r := []) (by decide +kernel) rfl (by decide) (fun hc_2 => ?_) (fun hc_2 => ?_)
    · replace hf := xif_t hc_2 hf
      refine Xblk hX pkX5_ok [.iconst (-1)] (pc' := 21) (ls' := [(0, .ref 39), (1, .int l1), (2, .int l2)]) (st' := [.int (-1 : Int32)]) (h' := h) (g := true) (by decide +kernel) rfl rfl rfl ?_
      exact XrI2 hX hR hf (by decide +kernel)
    · replace hf := xif_f hc_2 hf
      refine Xblk hX pkX5_ok [.iconst 0, .istore_n 3] (pc' := 24) (ls' := [(3, .int (0 : Int32)), (0, .ref 39), (1, .int l1), (2, .int l2)]) (st' := []) (h' := h) (g := true) (by decide +kernel) rfl rfl rfl ?_
      refine XW.pick [1, 2, 3, 0] (ls' := [(0, .ref 39), (1, .int l1), (2, .int l2), (3, .int (0 : Int32))]) rfl ?_
      refine f_m_look_L_3_ok hX hR l1 l2 _  (fun l3_20 h_21 hf => ?_) 1000 (0 : Int32) h hf
      refine Xblk hX pkX5_ok [.aload_n 0, .getfield 104] (pc' := 102) (ls' := [(0, .ref 39)]) (st' := [.long (h_21.2 39 9)]) (h' := h_21) (g := true) (by decide +kernel) rfl rfl rfl ?_
      obtain ⟨v_23, hc_22, hf⟩ := xbd1_inv hf
      refine XcallS hX (mt_m_bitsIn (h_21.2 39 9) h_21 hc_22) (rest := []) (by decide) (by decide) xm_X5_bitsIn xi_X5_bitsIn xl_RX5_225 rfl (Nat.le_of_ble_eq_true rfl) (by decide +kernel) ?_
      show XW X 105 [(0, .ref 39)] [.int v_23] h_21
      exact XrI2 hX hR hf (by decide +kernel)
def f_m_stepped_L_1  (l1 : Int32) (h : Hp) (k : Int64 → Int32 → Option (Int64)) : Nat → Int64 → Int32 → Option (Int64)
  | 0, _, _ => none
  | n + 1, l2, l4 =>
    if (64 : Int32) ≤ l4 then
      k l2 l4
    else
      (f_m_stepped_L_1 l1 h k n) (if (lg_cmp ((jshrL (h.2 39 9) l4) &&& (1 : Int64)) (1 : Int64)) = (0 : Int32) then (if (f_m_beside l4 l1 h) = (-9 : Int32) then (l2 ||| (jshlL (1 : Int64) l4)) else (if (f_m_isFree (f_m_beside l4 l1 h) h) = (0 : Int32) then (l2 ||| (jshlL (1 : Int64) l4)) else (l2 ||| (jshlL (1 : Int64) (f_m_beside l4 l1 h))))) else l2) (l4 + (1 : Int32))
def f_m_stepped (l1 : Int32) (h : Hp) : Option (Int64) :=
  f_m_stepped_L_1 l1 h (fun l2_8 l4_9 =>
    some l2_8
    ) 1000 (0 : Int64) (0 : Int32)
set_option maxRecDepth 100000 in
set_option maxHeartbeats 4000000 in
theorem f_m_stepped_L_1_ok {X : XCtx} (hX : XOk X RX5 cX5_stepped 6 2 66) {r : Int64} {h : Hp} (hR : XR X (some .long) (some (.long r)) h)  (l1 : Int32)  (k : Int64 → Int32 → Option (Int64))  (hk : ∀ (l2 : Int64) (l4 : Int32), k l2 l4 = some r → XW X 71 [(2, .long l2)] [] h) : ∀ (n : Nat) (l2 : Int64) (l4 : Int32), f_m_stepped_L_1 l1 h k n l2 l4 = some r → XW X 5 [(0, .ref 39), (1, .int l1), (2, .long l2), (4, .int l4)] [] h := by
  intro n
  induction n with
  | zero => intro l2 l4 hf; cases hf
  | succ n ih =>
    intro l2 l4 hf
    rw [f_m_stepped_L_1] at hf
    refine Xblk hX pkX5_ok [.iload 4, .bipush 64] (pc' := 9) (ls' := [(0, .ref 39), (1, .int l1), (2, .long l2), (4, .int l4)]) (st' := [.int (64 : Int32), .int l4]) (h' := h) (g := true) (by decide +kernel) rfl rfl rfl ?_
    refine Xbr hX (.if_icmp .ge (62)) (tgt := 71) (P := (64 : Int32) ≤ l4) (r := []) (by decide +kernel) rfl (by decide) (fun hc_2 => ?_) (fun hc_2 => ?_)
    · replace hf := xif_t hc_2 hf
      refine XW.pick [2] (ls' := [(2, .long l2)]) rfl ?_
      exact hk l2 l4 hf
    · replace hf := xif_f hc_2 hf
      refine Xblk hX pkX5_ok [.aload_n 0, .getfield 104, .iload 4, .lshr, .lconst 1, .land, .lconst 1, .lcmp] (pc' := 23) (ls' := [(0, .ref 39), (1, .int l1), (2, .long l2), (4, .int l4)]) (st' := [.int (lg_cmp ((jshrL (h.2 39 9) l4) &&& (1 : Int64)) (1 : Int64))]) (h' := h) (g := true) (by decide +kernel) rfl rfl rfl ?_
      have kJ_7 : ∀ (w_6 : Int64), w_6 = (if (lg_cmp ((jshrL (h.2 39 9) l4) &&& (1 : Int64)) (1 : Int64)) = (0 : Int32) then (if (f_m_beside l4 l1 h) = (-9 : Int32) then (l2 ||| (jshlL (1 : Int64) l4)) else (if (f_m_isFree (f_m_beside l4 l1 h) h) = (0 : Int32) then (l2 ||| (jshlL (1 : Int64) l4)) else (l2 ||| (jshlL (1 : Int64) (f_m_beside l4 l1 h))))) else l2) → XW X 65 [(0, .ref 39), (1, .int l1), (2, .long w_6), (4, .int l4)] [] h := by
        intro w_6 ew_6
        subst ew_6
        refine Xblk hX pkX5_ok [.iinc 4 1] (pc' := 68) (ls' := [(4, .int (l4 + (1 : Int32))), (0, .ref 39), (1, .int l1), (2, .long (if (lg_cmp ((jshrL (h.2 39 9) l4) &&& (1 : Int64)) (1 : Int64)) = (0 : Int32) then (if (f_m_beside l4 l1 h) = (-9 : Int32) then (l2 ||| (jshlL (1 : Int64) l4)) else (if (f_m_isFree (f_m_beside l4 l1 h) h) = (0 : Int32) then (l2 ||| (jshlL (1 : Int64) l4)) else (l2 ||| (jshlL (1 : Int64) (f_m_beside l4 l1 h))))) else l2))]) (st' := []) (h' := h) (g := true) (by decide +kernel) rfl rfl rfl ?_
        refine Xgoto hX (-63) 5 (by decide +kernel) (by decide) ?_
        refine XW.pick [1, 2, 3, 0] (ls' := [(0, .ref 39), (1, .int l1), (2, .long (if (lg_cmp ((jshrL (h.2 39 9) l4) &&& (1 : Int64)) (1 : Int64)) = (0 : Int32) then (if (f_m_beside l4 l1 h) = (-9 : Int32) then (l2 ||| (jshlL (1 : Int64) l4)) else (if (f_m_isFree (f_m_beside l4 l1 h) h) = (0 : Int32) then (l2 ||| (jshlL (1 : Int64) l4)) else (l2 ||| (jshlL (1 : Int64) (f_m_beside l4 l1 h))))) else l2)), (4, .int (l4 + (1 : Int32)))]) rfl ?_
        exact ih (if (lg_cmp ((jshrL (h.2 39 9) l4) &&& (1 : Int64)) (1 : Int64)) = (0 : Int32) then (if (f_m_beside l4 l1 h) = (-9 : Int32) then (l2 ||| (jshlL (1 : Int64) l4)) else (if (f_m_isFree (f_m_beside l4 l1 h) h) = (0 : Int32) then (l2 ||| (jshlL (1 : Int64) l4)) else (l2 ||| (jshlL (1 : Int64) (f_m_beside l4 l1 h))))) else l2) (l4 + (1 : Int32)) hf
      refine XbrN hX (.ifCond .ne (42)) (tgt := 65) (P := (lg_cmp ((jshrL (h.2 39 9) l4) &&& (1 : Int64)) (1 : Int64)) = (0 : Int32)) (r := []) (by decide +kernel) rfl (by decide) (fun hc_3 => ?_) (fun hc_3 => ?_)
      · refine Xblk hX pkX5_ok [.aload_n 0, .iload 4, .iload_n 1] (pc' := 30) (ls' := [(0, .ref 39), (1, .int l1), (2, .long l2), (4, .int l4)]) (st' := [.int l1, .int l4, .ref 39]) (h' := h) (g := true) (by decide +kernel) rfl rfl rfl ?_
        refine XcallV hX (mt_m_beside l4 l1 h) (rest := []) (by decide) (by decide) xm_X5_beside xi_X5_beside xs_X5_beside xl_RX5_156 (by decide) (xsh_39) rfl rfl rfl (Nat.le_of_ble_eq_true rfl) (by decide +kernel) ?_
        show XW X 33 [(0, .ref 39), (1, .int l1), (2, .long l2), (4, .int l4)] [.int (f_m_beside l4 l1 h)] h
        refine Xblk hX pkX5_ok [.istore 5, .lload_n 2, .iload 5, .bipush (-9)] (pc' := 40) (ls' := [(5, .int (f_m_beside l4 l1 h)), (0, .ref 39), (1, .int l1), (2, .long l2), (4, .int l4)]) (st' := [.int (-9 : Int32), .int (f_m_beside l4 l1 h), .long l2]) (h' := h) (g := true) (by decide +kernel) rfl rfl rfl ?_
        refine Xbr hX (.if_icmp .eq (19)) (tgt := 59) (P := (f_m_beside l4 l1 h) = (-9 : Int32)) (r := [.long l2]) (by decide +kernel) rfl (by decide) (fun hc_4 => ?_) (fun hc_4 => ?_)
        · refine Xblk hX pkX5_ok [.lconst 1, .iload 4, .lshl, .lor, .lstore_n 2] (pc' := 65) (ls' := [(2, .long (l2 ||| (jshlL (1 : Int64) l4))), (5, .int (f_m_beside l4 l1 h)), (0, .ref 39), (1, .int l1), (4, .int l4)]) (st' := []) (h' := h) (g := true) (by decide +kernel) rfl rfl rfl ?_
          refine XW.pick [2, 3, 0, 4] (ls' := [(0, .ref 39), (1, .int l1), (2, .long (l2 ||| (jshlL (1 : Int64) l4))), (4, .int l4)]) rfl ?_
          exact kJ_7 _ (by rw [if_pos hc_3, if_pos hc_4])
        · refine Xblk hX pkX5_ok [.aload_n 0, .iload 5] (pc' := 46) (ls' := [(5, .int (f_m_beside l4 l1 h)), (0, .ref 39), (1, .int l1), (2, .long l2), (4, .int l4)]) (st' := [.int (f_m_beside l4 l1 h), .ref 39, .long l2]) (h' := h) (g := true) (by decide +kernel) rfl rfl rfl ?_
          refine XcallV hX (mt_m_isFree (f_m_beside l4 l1 h) h) (rest := [.long l2]) (by decide) (by decide) xm_X5_isFree xi_X5_isFree xs_X5_isFree xl_RX5_151 (by decide) (xsh_39) rfl rfl rfl (Nat.le_of_ble_eq_true rfl) (by decide +kernel) ?_
          show XW X 49 [(5, .int (f_m_beside l4 l1 h)), (0, .ref 39), (1, .int l1), (2, .long l2), (4, .int l4)] [.int (f_m_isFree (f_m_beside l4 l1 h) h), .long l2] h
          refine Xbr hX (.ifCond .eq (10)) (tgt := 59) (P := (f_m_isFree (f_m_beside l4 l1 h) h) = (0 : Int32)) (r := [.long l2]) (by decide +kernel) rfl (by decide) (fun hc_5 => ?_) (fun hc_5 => ?_)
          · refine Xblk hX pkX5_ok [.lconst 1, .iload 4, .lshl, .lor, .lstore_n 2] (pc' := 65) (ls' := [(2, .long (l2 ||| (jshlL (1 : Int64) l4))), (5, .int (f_m_beside l4 l1 h)), (0, .ref 39), (1, .int l1), (4, .int l4)]) (st' := []) (h' := h) (g := true) (by decide +kernel) rfl rfl rfl ?_
            refine XW.pick [2, 3, 0, 4] (ls' := [(0, .ref 39), (1, .int l1), (2, .long (l2 ||| (jshlL (1 : Int64) l4))), (4, .int l4)]) rfl ?_
            exact kJ_7 _ (by rw [if_pos hc_3, if_neg hc_4, if_pos hc_5])
          · refine Xblk hX pkX5_ok [.lconst 1, .iload 5, .lshl] (pc' := 56) (ls' := [(5, .int (f_m_beside l4 l1 h)), (0, .ref 39), (1, .int l1), (2, .long l2), (4, .int l4)]) (st' := [.long (jshlL (1 : Int64) (f_m_beside l4 l1 h)), .long l2]) (h' := h) (g := true) (by decide +kernel) rfl rfl rfl ?_
            refine Xgoto hX (7) 63 (by decide +kernel) (by decide) ?_
            refine Xblk hX pkX5_ok [.lor, .lstore_n 2] (pc' := 65) (ls' := [(2, .long (l2 ||| (jshlL (1 : Int64) (f_m_beside l4 l1 h)))), (5, .int (f_m_beside l4 l1 h)), (0, .ref 39), (1, .int l1), (4, .int l4)]) (st' := []) (h' := h) (g := true) (by decide +kernel) rfl rfl rfl ?_
            refine XW.pick [2, 3, 0, 4] (ls' := [(0, .ref 39), (1, .int l1), (2, .long (l2 ||| (jshlL (1 : Int64) (f_m_beside l4 l1 h)))), (4, .int l4)]) rfl ?_
            exact kJ_7 _ (by rw [if_pos hc_3, if_neg hc_4, if_neg hc_5])
      · refine XW.pick [0, 1, 2, 3] (ls' := [(0, .ref 39), (1, .int l1), (2, .long l2), (4, .int l4)]) rfl ?_
        exact kJ_7 _ (by rw [if_neg hc_3])
set_option maxRecDepth 100000 in
set_option maxHeartbeats 4000000 in
theorem mt_m_stepped (l1 : Int32) (h : Hp) {r : Int64} (hf : f_m_stepped l1 h = some r) : MT 2 66 yX5_stepped cX5_stepped 6 (some .long) [.ref 39, .int l1] h (some (.long r)) h := by
  refine MT.of (by decide +kernel) (Nat.le_of_ble_eq_true rfl) fun X hX hR => ?_
  unfold f_m_stepped at hf
  refine Xblk hX pkX5_ok [.lconst 0, .lstore_n 2, .iconst 0, .istore 4] (pc' := 5) (ls' := [(4, .int (0 : Int32)), (2, .long (0 : Int64)), (0, .ref 39), (1, .int l1)]) (st' := []) (h' := h) (g := true) (by decide +kernel) rfl rfl rfl ?_
  refine XW.pick [2, 3, 1, 0] (ls' := [(0, .ref 39), (1, .int l1), (2, .long (0 : Int64)), (4, .int (0 : Int32))]) rfl ?_
  refine f_m_stepped_L_1_ok hX hR l1 _  (fun l2_8 l4_9 hf => ?_) 1000 (0 : Int64) (0 : Int32) hf
  refine Xblk hX pkX5_ok [.lload_n 2] (pc' := 72) (ls' := [(2, .long l2_8)]) (st' := [.long l2_8]) (h' := h) (g := true) (by decide +kernel) rfl rfl rfl ?_
  exact XrL1 hX hR hf (by decide +kernel)
def f_m_step (l1 : Int32) (h : Hp) : Option (Int32 × Hp) :=
  if (f_m_in l1 (0 : Int32) (3 : Int32)) = (0 : Int32) then
    some ((-1 : Int32), h)
  else
    xbd1 (f_m_stepped l1 h) fun v_3 =>
    xbd1 (f_m_bitsIn v_3) fun v_5 =>
    some (v_5, (xL h 39 9 v_3))
set_option maxRecDepth 100000 in
set_option maxHeartbeats 4000000 in
theorem mt_m_step (l1 : Int32) (h : Hp) {r : Int32} {h' : Hp} (hf : f_m_step l1 h = some (r, h')) : MT 3 66 yX5_step cX5_step 2 (some .int) [.ref 39, .int l1] h (some (.int r)) h' := by
  refine MT.of (by decide +kernel) (Nat.le_of_ble_eq_true rfl) fun X hX hR => ?_
  unfold f_m_step at hf
  refine Xblk hX pkX5_ok [.iload_n 1, .iconst 0, .iconst 3] (pc' := 3) (ls' := [(0, .ref 39), (1, .int l1)]) (st' := [.int (3 : Int32), .int (0 : Int32), .int l1]) (h' := h) (g := true) (by decide +kernel) rfl rfl rfl ?_
  refine XcallS hX (mt_m_in l1 (0 : Int32) (3 : Int32) h) (rest := []) (by decide) (by decide) xm_X5_in xi_X5_in xl_RX5_107 rfl (Nat.le_of_ble_eq_true rfl) (by decide +kernel) ?_
  show XW X 6 [(0, .ref 39), (1, .int l1)] [.int (f_m_in l1 (0 : Int32) (3 : Int32))] h
  refine XbrN hX (.ifCond .ne (5)) (tgt := 11) (P := (f_m_in l1 (0 : Int32) (3 : Int32)) = (0 : Int32)) (r := []) (by decide +kernel) rfl (by decide) (fun hc_1 => ?_) (fun hc_1 => ?_)
  · replace hf := xif_t hc_1 hf
    refine Xblk hX pkX5_ok [.iconst (-1)] (pc' := 10) (ls' := [(0, .ref 39), (1, .int l1)]) (st' := [.int (-1 : Int32)]) (h' := h) (g := true) (by decide +kernel) rfl rfl rfl ?_
    exact XrI2 hX hR hf (by decide +kernel)
  · replace hf := xif_f hc_1 hf
    refine Xblk hX pkX5_ok [.aload_n 0, .aload_n 0, .iload_n 1] (pc' := 14) (ls' := [(0, .ref 39), (1, .int l1)]) (st' := [.int l1, .ref 39, .ref 39]) (h' := h) (g := true) (by decide +kernel) rfl rfl rfl ?_
    obtain ⟨v_3, hc_2, hf⟩ := xbd1_inv hf
    refine XcallV hX (mt_m_stepped l1 h hc_2) (rest := [.ref 39]) (by decide) (by decide) xm_X5_stepped xi_X5_stepped xs_X5_stepped xl_RX5_232 (by decide) (xsh_39) rfl rfl rfl (Nat.le_of_ble_eq_true rfl) (by decide +kernel) ?_
    show XW X 17 [(0, .ref 39), (1, .int l1)] [.long v_3, .ref 39] h
    refine Xblk hX pkX5_ok [.putfield 104, .aload_n 0, .getfield 104] (pc' := 24) (ls' := [(0, .ref 39), (1, .int l1)]) (st' := [.long v_3]) (h' := (xL h 39 9 v_3)) (g := true) (by decide +kernel) rfl rfl rfl ?_
    obtain ⟨v_5, hc_4, hf⟩ := xbd1_inv hf
    refine XcallS hX (mt_m_bitsIn v_3 (xL h 39 9 v_3) hc_4) (rest := []) (by decide) (by decide) xm_X5_bitsIn xi_X5_bitsIn xl_RX5_225 rfl (Nat.le_of_ble_eq_true rfl) (by decide +kernel) ?_
    show XW X 27 [(0, .ref 39), (1, .int l1)] [.int v_5] (xL h 39 9 v_3)
    exact XrI2 hX hR hf (by decide +kernel)
def f_m_where  (h : Hp) : Int64 :=
  (h.2 39 9)
set_option maxRecDepth 100000 in
set_option maxHeartbeats 4000000 in
theorem mt_m_where  (h : Hp) : MT 0 66 yX5_where cX5_where 1 (some .long) [.ref 39] h (some (.long (f_m_where h))) h := by
  obtain ⟨o, hf⟩ : ∃ o, f_m_where h = o := ⟨_, rfl⟩
  rw [hf]
  refine MT.of (by decide +kernel) (Nat.le_of_ble_eq_true rfl) fun X hX hR => ?_
  unfold f_m_where at hf
  refine Xblk hX pkX5_ok [.aload_n 0, .getfield 104] (pc' := 4) (ls' := [(0, .ref 39)]) (st' := [.long (h.2 39 9)]) (h' := h) (g := true) (by decide +kernel) rfl rfl rfl ?_
  subst hf
  exact XretL hX hR (by decide +kernel)
def f_m_unlikeLooks_L_1  (l1 : Int64)  (k : Int32 → Hp → Option (Int32 × Hp)) : Nat → Int32 → Hp → Option (Int32 × Hp)
  | 0, _, _ => none
  | n + 1, l3, h =>
    if (160 : Int32) ≤ l3 then
      k l3 h
    else
      xgd (xin l3 160 && true) <|
      (f_m_unlikeLooks_L_1 l1 k n) (l3 + (1 : Int32)) (xI h 51 l3.toNatClampNeg (vp_nar .boolean (0 : Int32)))
def f_m_unlikeLooks_L_5  (l1 : Int64)  (k : Int32 → Int32 → Hp → Option (Int32 × Hp)) : Nat → Int32 → Int32 → Hp → Option (Int32 × Hp)
  | 0, _, _, _ => none
  | n + 1, l3, l4, h =>
    if (64 : Int32) ≤ l4 then
      k l3 l4 h
    else
      if (lg_cmp ((jshrL l1 l4) &&& (1 : Int64)) (1 : Int64)) = (0 : Int32) then
        xbd1 (f_m_looks l4 h) fun v_10 =>
        xgd (xin v_10 160 && true) <|
        if (h.1 51 v_10.toNatClampNeg) = (0 : Int32) then
          xbd1 (f_m_looks l4 h) fun v_14 =>
          xgd (xin v_14 160 && true) <|
          (f_m_unlikeLooks_L_5 l1 k n) (l3 + (1 : Int32)) (l4 + (1 : Int32)) (xI h 51 v_14.toNatClampNeg (vp_nar .boolean (1 : Int32)))
        else
          (f_m_unlikeLooks_L_5 l1 k n) l3 (l4 + (1 : Int32)) h
      else
        (f_m_unlikeLooks_L_5 l1 k n) l3 (l4 + (1 : Int32)) h
def f_m_unlikeLooks (l1 : Int64) (h : Hp) : Option (Int32 × Hp) :=
  f_m_unlikeLooks_L_1 l1 (fun l3_3 h_4 =>
    f_m_unlikeLooks_L_5 l1 (fun l3_15 l4_16 h_17 =>
      some (l3_15, h_17)
      ) 1000 (0 : Int32) (0 : Int32) h_4
    ) 1000 (0 : Int32) h
set_option maxRecDepth 100000 in
set_option maxHeartbeats 4000000 in
theorem f_m_unlikeLooks_L_1_ok {X : XCtx} (hX : XOk X RX5 cX5_unlikeLooks 5 3 66) {r : Int32} {h' : Hp} (hR : XR X (some .int) (some (.int r)) h')  (l1 : Int64)  (k : Int32 → Hp → Option (Int32 × Hp))  (hk : ∀ (l3 : Int32) (h : Hp), k l3 h = some (r, h') → XW X 22 [(0, .ref 39), (1, .long l1)] [] h) : ∀ (n : Nat) (l3 : Int32) (h : Hp), f_m_unlikeLooks_L_1 l1 k n l3 h = some (r, h') → XW X 2 [(0, .ref 39), (1, .long l1), (3, .int l3)] [] h := by
  intro n
  induction n with
  | zero => intro l3 h hf; cases hf
  | succ n ih =>
    intro l3 h hf
    rw [f_m_unlikeLooks_L_1] at hf
    refine Xblk hX pkX5_ok [.iload_n 3, .sipush 160] (pc' := 6) (ls' := [(0, .ref 39), (1, .long l1), (3, .int l3)]) (st' := [.int (160 : Int32), .int l3]) (h' := h) (g := true) (by decide +kernel) rfl rfl rfl ?_
    refine Xbr hX (.if_icmp .ge (16)) (tgt := 22) (P := (160 : Int32) ≤ l3) (r := []) (by decide +kernel) rfl (by decide) (fun hc_2 => ?_) (fun hc_2 => ?_)
    · replace hf := xif_t hc_2 hf
      refine XW.pick [0, 1] (ls' := [(0, .ref 39), (1, .long l1)]) rfl ?_
      exact hk l3 h hf
    · replace hf := xif_f hc_2 hf
      obtain ⟨hg, hf⟩ := xgd_inv hf
      refine Xblk hX pkX5_ok [.aload_n 0, .getfield 45, .iload_n 3, .iconst 0, .bastore, .iinc 3 1] (pc' := 19) (ls' := [(3, .int (l3 + (1 : Int32))), (0, .ref 39), (1, .long l1)]) (st' := []) (h' := (xI h 51 l3.toNatClampNeg (vp_nar .boolean (0 : Int32)))) (g := (xin l3 160 && true)) (by decide +kernel) rfl rfl hg ?_
      refine Xgoto hX (-17) 2 (by decide +kernel) (by decide) ?_
      refine XW.pick [1, 2, 0] (ls' := [(0, .ref 39), (1, .long l1), (3, .int (l3 + (1 : Int32)))]) rfl ?_
      exact ih (l3 + (1 : Int32)) (xI h 51 l3.toNatClampNeg (vp_nar .boolean (0 : Int32))) hf
set_option maxRecDepth 100000 in
set_option maxHeartbeats 4000000 in
theorem f_m_unlikeLooks_L_5_ok {X : XCtx} (hX : XOk X RX5 cX5_unlikeLooks 5 3 66) {r : Int32} {h' : Hp} (hR : XR X (some .int) (some (.int r)) h')  (l1 : Int64)  (k : Int32 → Int32 → Hp → Option (Int32 × Hp))  (hk : ∀ (l3 : Int32) (l4 : Int32) (h : Hp), k l3 l4 h = some (r, h') → XW X 80 [(3, .int l3)] [] h) : ∀ (n : Nat) (l3 : Int32) (l4 : Int32) (h : Hp), f_m_unlikeLooks_L_5 l1 k n l3 l4 h = some (r, h') → XW X 27 [(0, .ref 39), (1, .long l1), (3, .int l3), (4, .int l4)] [] h := by
  intro n
  induction n with
  | zero => intro l3 l4 h hf; cases hf
  | succ n ih =>
    intro l3 l4 h hf
    rw [f_m_unlikeLooks_L_5] at hf
    refine Xblk hX pkX5_ok [.iload 4, .bipush 64] (pc' := 31) (ls' := [(0, .ref 39), (1, .long l1), (3, .int l3), (4, .int l4)]) (st' := [.int (64 : Int32), .int l4]) (h' := h) (g := true) (by decide +kernel) rfl rfl rfl ?_
    refine Xbr hX (.if_icmp .ge (49)) (tgt := 80) (P := (64 : Int32) ≤ l4) (r := []) (by decide +kernel) rfl (by decide) (fun hc_6 => ?_) (fun hc_6 => ?_)
    · replace hf := xif_t hc_6 hf
      refine XW.pick [2] (ls' := [(3, .int l3)]) rfl ?_
      exact hk l3 l4 h hf
    · replace hf := xif_f hc_6 hf
      refine Xblk hX pkX5_ok [.lload_n 1, .iload 4, .lshr, .lconst 1, .land, .lconst 1, .lcmp] (pc' := 42) (ls' := [(0, .ref 39), (1, .long l1), (3, .int l3), (4, .int l4)]) (st' := [.int (lg_cmp ((jshrL l1 l4) &&& (1 : Int64)) (1 : Int64))]) (h' := h) (g := true) (by decide +kernel) rfl rfl rfl ?_
      refine XbrN hX (.ifCond .ne (32)) (tgt := 74) (P := (lg_cmp ((jshrL l1 l4) &&& (1 : Int64)) (1 : Int64)) = (0 : Int32)) (r := []) (by decide +kernel) rfl (by decide) (fun hc_8 => ?_) (fun hc_8 => ?_)
      · replace hf := xif_t hc_8 hf
        refine Xblk hX pkX5_ok [.aload_n 0, .getfield 45, .aload_n 0, .iload 4] (pc' := 52) (ls' := [(0, .ref 39), (1, .long l1), (3, .int l3), (4, .int l4)]) (st' := [.int l4, .ref 39, .ref 51]) (h' := h) (g := true) (by decide +kernel) rfl rfl rfl ?_
        obtain ⟨v_10, hc_9, hf⟩ := xbd1_inv hf
        refine XcallV hX (mt_m_looks l4 h hc_9) (rest := [.ref 51]) (by decide) (by decide) xm_X5_looks xi_X5_looks xs_X5_looks xl_RX5_229 (by decide) (xsh_39) rfl rfl rfl (Nat.le_of_ble_eq_true rfl) (by decide +kernel) ?_
        show XW X 55 [(0, .ref 39), (1, .long l1), (3, .int l3), (4, .int l4)] [.int v_10, .ref 51] h
        obtain ⟨hg, hf⟩ := xgd_inv hf
        refine Xblk hX pkX5_ok [.baload] (pc' := 56) (ls' := [(0, .ref 39), (1, .long l1), (3, .int l3), (4, .int l4)]) (st' := [.int (h.1 51 v_10.toNatClampNeg)]) (h' := h) (g := (xin v_10 160 && true)) (by decide +kernel) rfl rfl hg ?_
        refine XbrN hX (.ifCond .ne (18)) (tgt := 74) (P := (h.1 51 v_10.toNatClampNeg) = (0 : Int32)) (r := []) (by decide +kernel) rfl (by decide) (fun hc_12 => ?_) (fun hc_12 => ?_)
        · replace hf := xif_t hc_12 hf
          refine Xblk hX pkX5_ok [.aload_n 0, .getfield 45, .aload_n 0, .iload 4] (pc' := 66) (ls' := [(0, .ref 39), (1, .long l1), (3, .int l3), (4, .int l4)]) (st' := [.int l4, .ref 39, .ref 51]) (h' := h) (g := true) (by decide +kernel) rfl rfl rfl ?_
          obtain ⟨v_14, hc_13, hf⟩ := xbd1_inv hf
          refine XcallV hX (mt_m_looks l4 h hc_13) (rest := [.ref 51]) (by decide) (by decide) xm_X5_looks xi_X5_looks xs_X5_looks xl_RX5_229 (by decide) (xsh_39) rfl rfl rfl (Nat.le_of_ble_eq_true rfl) (by decide +kernel) ?_
          show XW X 69 [(0, .ref 39), (1, .long l1), (3, .int l3), (4, .int l4)] [.int v_14, .ref 51] h
          obtain ⟨hg, hf⟩ := xgd_inv hf
          refine Xblk hX pkX5_ok [.iconst 1, .bastore, .iinc 3 1, .iinc 4 1] (pc' := 77) (ls' := [(4, .int (l4 + (1 : Int32))), (3, .int (l3 + (1 : Int32))), (0, .ref 39), (1, .long l1)]) (st' := []) (h' := (xI h 51 v_14.toNatClampNeg (vp_nar .boolean (1 : Int32)))) (g := (xin v_14 160 && true)) (by decide +kernel) rfl rfl hg ?_
          refine Xgoto hX (-50) 27 (by decide +kernel) (by decide) ?_
          refine XW.pick [2, 3, 1, 0] (ls' := [(0, .ref 39), (1, .long l1), (3, .int (l3 + (1 : Int32))), (4, .int (l4 + (1 : Int32)))]) rfl ?_
          exact ih (l3 + (1 : Int32)) (l4 + (1 : Int32)) (xI h 51 v_14.toNatClampNeg (vp_nar .boolean (1 : Int32))) hf
        · replace hf := xif_f hc_12 hf
          refine Xblk hX pkX5_ok [.iinc 4 1] (pc' := 77) (ls' := [(4, .int (l4 + (1 : Int32))), (0, .ref 39), (1, .long l1), (3, .int l3)]) (st' := []) (h' := h) (g := true) (by decide +kernel) rfl rfl rfl ?_
          refine Xgoto hX (-50) 27 (by decide +kernel) (by decide) ?_
          refine XW.pick [1, 2, 3, 0] (ls' := [(0, .ref 39), (1, .long l1), (3, .int l3), (4, .int (l4 + (1 : Int32)))]) rfl ?_
          exact ih l3 (l4 + (1 : Int32)) h hf
      · replace hf := xif_f hc_8 hf
        refine Xblk hX pkX5_ok [.iinc 4 1] (pc' := 77) (ls' := [(4, .int (l4 + (1 : Int32))), (0, .ref 39), (1, .long l1), (3, .int l3)]) (st' := []) (h' := h) (g := true) (by decide +kernel) rfl rfl rfl ?_
        refine Xgoto hX (-50) 27 (by decide +kernel) (by decide) ?_
        refine XW.pick [1, 2, 3, 0] (ls' := [(0, .ref 39), (1, .long l1), (3, .int l3), (4, .int (l4 + (1 : Int32)))]) rfl ?_
        exact ih l3 (l4 + (1 : Int32)) h hf
set_option maxRecDepth 100000 in
set_option maxHeartbeats 4000000 in
theorem mt_m_unlikeLooks (l1 : Int64) (h : Hp) {r : Int32} {h' : Hp} (hf : f_m_unlikeLooks l1 h = some (r, h')) : MT 3 66 yX5_unlikeLooks cX5_unlikeLooks 5 (some .int) [.ref 39, .long l1] h (some (.int r)) h' := by
  refine MT.of (by decide +kernel) (Nat.le_of_ble_eq_true rfl) fun X hX hR => ?_
  unfold f_m_unlikeLooks at hf
  refine Xblk hX pkX5_ok [.iconst 0, .istore_n 3] (pc' := 2) (ls' := [(3, .int (0 : Int32)), (0, .ref 39), (1, .long l1)]) (st' := []) (h' := h) (g := true) (by decide +kernel) rfl rfl rfl ?_
  refine XW.pick [1, 2, 0] (ls' := [(0, .ref 39), (1, .long l1), (3, .int (0 : Int32))]) rfl ?_
  refine f_m_unlikeLooks_L_1_ok hX hR l1 _  (fun l3_3 h_4 hf => ?_) 1000 (0 : Int32) h hf
  refine Xblk hX pkX5_ok [.iconst 0, .istore_n 3, .iconst 0, .istore 4] (pc' := 27) (ls' := [(4, .int (0 : Int32)), (3, .int (0 : Int32)), (0, .ref 39), (1, .long l1)]) (st' := []) (h' := h_4) (g := true) (by decide +kernel) rfl rfl rfl ?_
  refine XW.pick [2, 3, 1, 0] (ls' := [(0, .ref 39), (1, .long l1), (3, .int (0 : Int32)), (4, .int (0 : Int32))]) rfl ?_
  refine f_m_unlikeLooks_L_5_ok hX hR l1 _  (fun l3_15 l4_16 h_17 hf => ?_) 1000 (0 : Int32) (0 : Int32) h_4 hf
  refine Xblk hX pkX5_ok [.iload_n 3] (pc' := 81) (ls' := [(3, .int l3_15)]) (st' := [.int l3_15]) (h' := h_17) (g := true) (by decide +kernel) rfl rfl rfl ?_
  exact XrI2 hX hR hf (by decide +kernel)
def f_m_tells_L_2  (l1 : Int32)  (k : Int32 → Int32 → Int32 → Hp → Option (Int32 × Hp)) : Nat → Int32 → Int32 → Int32 → Hp → Option (Int32 × Hp)
  | 0, _, _, _, _ => none
  | n + 1, l2, l3, l4, h =>
    if (4 : Int32) ≤ l4 then
      k l2 l3 l4 h
    else
      xbd1 (f_m_stepped l4 h) fun v_5 =>
      xbd2 (f_m_unlikeLooks v_5 h) fun v_8 h_7 =>
      (f_m_tells_L_2 l1 k n) (if v_8 ≤ l3 then l2 else l4) (if v_8 ≤ l3 then l3 else v_8) (l4 + (1 : Int32)) h_7
def f_m_tells (l1 : Int32) (h : Hp) : Option (Int32 × Hp) :=
  if (f_m_in l1 (0 : Int32) (1 : Int32)) = (0 : Int32) then
    some ((-1 : Int32), h)
  else
    f_m_tells_L_2 l1 (fun l2_15 l3_16 l4_17 h_18 =>
      some ((if l1 = (0 : Int32) then l2_15 else l3_16), h_18)
      ) 1000 (0 : Int32) (0 : Int32) (0 : Int32) h
set_option maxRecDepth 100000 in
set_option maxHeartbeats 4000000 in
theorem f_m_tells_L_2_ok {X : XCtx} (hX : XOk X RX5 cX5_tells 6 4 66) {r : Int32} {h' : Hp} (hR : XR X (some .int) (some (.int r)) h')  (l1 : Int32)  (k : Int32 → Int32 → Int32 → Hp → Option (Int32 × Hp))  (hk : ∀ (l2 : Int32) (l3 : Int32) (l4 : Int32) (h : Hp), k l2 l3 l4 h = some (r, h') → XW X 68 [(1, .int l1), (2, .int l2), (3, .int l3)] [] h) : ∀ (n : Nat) (l2 : Int32) (l3 : Int32) (l4 : Int32) (h : Hp), f_m_tells_L_2 l1 k n l2 l3 l4 h = some (r, h') → XW X 18 [(0, .ref 39), (1, .int l1), (2, .int l2), (3, .int l3), (4, .int l4)] [] h := by
  intro n
  induction n with
  | zero => intro l2 l3 l4 h hf; cases hf
  | succ n ih =>
    intro l2 l3 l4 h hf
    rw [f_m_tells_L_2] at hf
    refine Xblk hX pkX5_ok [.iload 4, .iconst 4] (pc' := 21) (ls' := [(0, .ref 39), (1, .int l1), (2, .int l2), (3, .int l3), (4, .int l4)]) (st' := [.int (4 : Int32), .int l4]) (h' := h) (g := true) (by decide +kernel) rfl rfl rfl ?_
    refine Xbr hX (.if_icmp .ge (47)) (tgt := 68) (P := (4 : Int32) ≤ l4) (r := []) (by decide +kernel) rfl (by decide) (fun hc_3 => ?_) (fun hc_3 => ?_)
    · replace hf := xif_t hc_3 hf
      refine XW.pick [1, 2, 3] (ls' := [(1, .int l1), (2, .int l2), (3, .int l3)]) rfl ?_
      exact hk l2 l3 l4 h hf
    · replace hf := xif_f hc_3 hf
      refine Xblk hX pkX5_ok [.aload_n 0, .aload_n 0, .iload 4] (pc' := 28) (ls' := [(0, .ref 39), (1, .int l1), (2, .int l2), (3, .int l3), (4, .int l4)]) (st' := [.int l4, .ref 39, .ref 39]) (h' := h) (g := true) (by decide +kernel) rfl rfl rfl ?_
      obtain ⟨v_5, hc_4, hf⟩ := xbd1_inv hf
      refine XcallV hX (mt_m_stepped l4 h hc_4) (rest := [.ref 39]) (by decide) (by decide) xm_X5_stepped xi_X5_stepped xs_X5_stepped xl_RX5_232 (by decide) (xsh_39) rfl rfl rfl (Nat.le_of_ble_eq_true rfl) (by decide +kernel) ?_
      show XW X 31 [(0, .ref 39), (1, .int l1), (2, .int l2), (3, .int l3), (4, .int l4)] [.long v_5, .ref 39] h
      obtain ⟨v_8, h_7, hc_6, hf⟩ := xbd2_inv hf
      refine XcallV hX (mt_m_unlikeLooks v_5 h hc_6) (rest := []) (by decide) (by decide) xm_X5_unlikeLooks xi_X5_unlikeLooks xs_X5_unlikeLooks xl_RX5_235 (by decide) (xsh_39) rfl rfl rfl (Nat.le_of_ble_eq_true rfl) (by decide +kernel) ?_
      show XW X 34 [(0, .ref 39), (1, .int l1), (2, .int l2), (3, .int l3), (4, .int l4)] [.int v_8] h_7
      refine Xblk hX pkX5_ok [.istore 5, .iload 5, .iload_n 3] (pc' := 39) (ls' := [(5, .int v_8), (0, .ref 39), (1, .int l1), (2, .int l2), (3, .int l3), (4, .int l4)]) (st' := [.int l3, .int v_8]) (h' := h_7) (g := true) (by decide +kernel) rfl rfl rfl ?_
      have kJ_14 : ∀ (w_10 : Int32), w_10 = (if v_8 ≤ l3 then l2 else l4) → XW X 48 [(0, .ref 39), (1, .int l1), (3, .int l3), (4, .int l4), (5, .int v_8)] [.int w_10] h_7 := by
        intro w_10 ew_10
        subst ew_10
        refine Xblk hX pkX5_ok [.istore_n 2, .iload 5, .iload_n 3] (pc' := 52) (ls' := [(2, .int (if v_8 ≤ l3 then l2 else l4)), (0, .ref 39), (1, .int l1), (3, .int l3), (4, .int l4), (5, .int v_8)]) (st' := [.int l3, .int v_8]) (h' := h_7) (g := true) (by decide +kernel) rfl rfl rfl ?_
        have kJ_13 : ∀ (w_12 : Int32), w_12 = (if v_8 ≤ l3 then l3 else v_8) → XW X 61 [(0, .ref 39), (1, .int l1), (2, .int (if v_8 ≤ l3 then l2 else l4)), (4, .int l4)] [.int w_12] h_7 := by
          intro w_12 ew_12
          subst ew_12
          refine Xblk hX pkX5_ok [.istore_n 3, .iinc 4 1] (pc' := 65) (ls' := [(4, .int (l4 + (1 : Int32))), (3, .int (if v_8 ≤ l3 then l3 else v_8)), (0, .ref 39), (1, .int l1), (2, .int (if v_8 ≤ l3 then l2 else l4))]) (st' := []) (h' := h_7) (g := true) (by decide +kernel) rfl rfl rfl ?_
          refine Xgoto hX (-47) 18 (by decide +kernel) (by decide) ?_
          refine XW.pick [2, 3, 4, 1, 0] (ls' := [(0, .ref 39), (1, .int l1), (2, .int (if v_8 ≤ l3 then l2 else l4)), (3, .int (if v_8 ≤ l3 then l3 else v_8)), (4, .int (l4 + (1 : Int32)))]) rfl ?_
          exact ih (if v_8 ≤ l3 then l2 else l4) (if v_8 ≤ l3 then l3 else v_8) (l4 + (1 : Int32)) h_7 hf
        refine Xbr hX (.if_icmp .le (8)) (tgt := 60) (P := v_8 ≤ l3) (r := []) (by decide +kernel) rfl (by decide) (fun hc_11 => ?_) (fun hc_11 => ?_)
        · refine Xblk hX pkX5_ok [.iload_n 3] (pc' := 61) (ls' := [(2, .int (if v_8 ≤ l3 then l2 else l4)), (0, .ref 39), (1, .int l1), (3, .int l3), (4, .int l4), (5, .int v_8)]) (st' := [.int l3]) (h' := h_7) (g := true) (by decide +kernel) rfl rfl rfl ?_
          refine XW.pick [1, 2, 0, 4] (ls' := [(0, .ref 39), (1, .int l1), (2, .int (if v_8 ≤ l3 then l2 else l4)), (4, .int l4)]) rfl ?_
          exact kJ_13 _ (by rw [if_pos hc_11])
        · refine Xblk hX pkX5_ok [.iload 5] (pc' := 57) (ls' := [(2, .int (if v_8 ≤ l3 then l2 else l4)), (0, .ref 39), (1, .int l1), (3, .int l3), (4, .int l4), (5, .int v_8)]) (st' := [.int v_8]) (h' := h_7) (g := true) (by decide +kernel) rfl rfl rfl ?_
          refine Xgoto hX (4) 61 (by decide +kernel) (by decide) ?_
          refine XW.pick [1, 2, 0, 4] (ls' := [(0, .ref 39), (1, .int l1), (2, .int (if v_8 ≤ l3 then l2 else l4)), (4, .int l4)]) rfl ?_
          exact kJ_13 _ (by rw [if_neg hc_11])
      refine Xbr hX (.if_icmp .le (8)) (tgt := 47) (P := v_8 ≤ l3) (r := []) (by decide +kernel) rfl (by decide) (fun hc_9 => ?_) (fun hc_9 => ?_)
      · refine Xblk hX pkX5_ok [.iload_n 2] (pc' := 48) (ls' := [(5, .int v_8), (0, .ref 39), (1, .int l1), (2, .int l2), (3, .int l3), (4, .int l4)]) (st' := [.int l2]) (h' := h_7) (g := true) (by decide +kernel) rfl rfl rfl ?_
        refine XW.pick [1, 2, 4, 5, 0] (ls' := [(0, .ref 39), (1, .int l1), (3, .int l3), (4, .int l4), (5, .int v_8)]) rfl ?_
        exact kJ_14 _ (by rw [if_pos hc_9])
      · refine Xblk hX pkX5_ok [.iload 4] (pc' := 44) (ls' := [(5, .int v_8), (0, .ref 39), (1, .int l1), (2, .int l2), (3, .int l3), (4, .int l4)]) (st' := [.int l4]) (h' := h_7) (g := true) (by decide +kernel) rfl rfl rfl ?_
        refine Xgoto hX (4) 48 (by decide +kernel) (by decide) ?_
        refine XW.pick [1, 2, 4, 5, 0] (ls' := [(0, .ref 39), (1, .int l1), (3, .int l3), (4, .int l4), (5, .int v_8)]) rfl ?_
        exact kJ_14 _ (by rw [if_neg hc_9])
set_option maxRecDepth 100000 in
set_option maxHeartbeats 4000000 in
theorem mt_m_tells (l1 : Int32) (h : Hp) {r : Int32} {h' : Hp} (hf : f_m_tells l1 h = some (r, h')) : MT 4 66 yX5_tells cX5_tells 6 (some .int) [.ref 39, .int l1] h (some (.int r)) h' := by
  refine MT.of (by decide +kernel) (Nat.le_of_ble_eq_true rfl) fun X hX hR => ?_
  unfold f_m_tells at hf
  refine Xblk hX pkX5_ok [.iload_n 1, .iconst 0, .iconst 1] (pc' := 3) (ls' := [(0, .ref 39), (1, .int l1)]) (st' := [.int (1 : Int32), .int (0 : Int32), .int l1]) (h' := h) (g := true) (by decide +kernel) rfl rfl rfl ?_
  refine XcallS hX (mt_m_in l1 (0 : Int32) (1 : Int32) h) (rest := []) (by decide) (by decide) xm_X5_in xi_X5_in xl_RX5_107 rfl (Nat.le_of_ble_eq_true rfl) (by decide +kernel) ?_
  show XW X 6 [(0, .ref 39), (1, .int l1)] [.int (f_m_in l1 (0 : Int32) (1 : Int32))] h
  refine XbrN hX (.ifCond .ne (5)) (tgt := 11) (P := (f_m_in l1 (0 : Int32) (1 : Int32)) = (0 : Int32)) (r := []) (by decide +kernel) rfl (by decide) (fun hc_1 => ?_) (fun hc_1 => ?_)
  · replace hf := xif_t hc_1 hf
    refine Xblk hX pkX5_ok [.iconst (-1)] (pc' := 10) (ls' := [(0, .ref 39), (1, .int l1)]) (st' := [.int (-1 : Int32)]) (h' := h) (g := true) (by decide +kernel) rfl rfl rfl ?_
    exact XrI2 hX hR hf (by decide +kernel)
  · replace hf := xif_f hc_1 hf
    refine Xblk hX pkX5_ok [.iconst 0, .istore_n 2, .iconst 0, .istore_n 3, .iconst 0, .istore 4] (pc' := 18) (ls' := [(4, .int (0 : Int32)), (3, .int (0 : Int32)), (2, .int (0 : Int32)), (0, .ref 39), (1, .int l1)]) (st' := []) (h' := h) (g := true) (by decide +kernel) rfl rfl rfl ?_
    refine XW.pick [3, 4, 2, 1, 0] (ls' := [(0, .ref 39), (1, .int l1), (2, .int (0 : Int32)), (3, .int (0 : Int32)), (4, .int (0 : Int32))]) rfl ?_
    refine f_m_tells_L_2_ok hX hR l1 _  (fun l2_15 l3_16 l4_17 h_18 hf => ?_) 1000 (0 : Int32) (0 : Int32) (0 : Int32) h hf
    refine Xblk hX pkX5_ok [.iload_n 1] (pc' := 69) (ls' := [(1, .int l1), (2, .int l2_15), (3, .int l3_16)]) (st' := [.int l1]) (h' := h_18) (g := true) (by decide +kernel) rfl rfl rfl ?_
    have kJ_21 : ∀ (w_20 : Int32), w_20 = (if l1 = (0 : Int32) then l2_15 else l3_16) → XW X 77 [] [.int w_20] h_18 := by
      intro w_20 ew_20
      subst ew_20
      exact XrI2 hX hR hf (by decide +kernel)
    refine XbrN hX (.ifCond .ne (7)) (tgt := 76) (P := l1 = (0 : Int32)) (r := []) (by decide +kernel) rfl (by decide) (fun hc_19 => ?_) (fun hc_19 => ?_)
    · refine Xblk hX pkX5_ok [.iload_n 2] (pc' := 73) (ls' := [(1, .int l1), (2, .int l2_15), (3, .int l3_16)]) (st' := [.int l2_15]) (h' := h_18) (g := true) (by decide +kernel) rfl rfl rfl ?_
      refine Xgoto hX (4) 77 (by decide +kernel) (by decide) ?_
      refine XW.pick [] (ls' := []) rfl ?_
      exact kJ_21 _ (by rw [if_pos hc_19])
    · refine Xblk hX pkX5_ok [.iload_n 3] (pc' := 77) (ls' := [(1, .int l1), (2, .int l2_15), (3, .int l3_16)]) (st' := [.int l3_16]) (h' := h_18) (g := true) (by decide +kernel) rfl rfl rfl ?_
      refine XW.pick [] (ls' := []) rfl ?_
      exact kJ_21 _ (by rw [if_neg hc_19])
def f_m_order (l1 : Int32) (l2 : Int32) (l3 : Int32) (h : Hp) : Option (Int32 × Hp) :=
  if (f_m_isCell l1 h) = (0 : Int32) then
    some ((-1 : Int32), h)
  else
    if (f_m_isCell l2 h) = (0 : Int32) then
      some ((-1 : Int32), h)
    else
      if (f_m_in l3 (0 : Int32) (200 : Int32)) = (0 : Int32) then
        some ((-1 : Int32), h)
      else
        if (f_m_isFree l1 h) = (0 : Int32) then
          some ((-2 : Int32), h)
        else
          if (f_m_isFree l2 h) = (0 : Int32) then
            some ((-2 : Int32), h)
          else
            if (h.1 39 25) = (6 : Int32) then
              some ((-3 : Int32), h)
            else
              xgd (xin (h.1 39 25) 6 && (xin (h.1 39 25) 6 && (xin (h.1 39 25) 6 && true))) <|
              some ((((h.1 39 25) + (1 : Int32)) - (1 : Int32)), (xI (xI (xI (xI h 52 (h.1 39 25).toNatClampNeg l1) 53 (h.1 39 25).toNatClampNeg l2) 54 (h.1 39 25).toNatClampNeg l3) 39 25 ((h.1 39 25) + (1 : Int32))))
set_option maxRecDepth 100000 in
set_option maxHeartbeats 4000000 in
theorem mt_m_order (l1 : Int32) (l2 : Int32) (l3 : Int32) (h : Hp) {r : Int32} {h' : Hp} (hf : f_m_order l1 l2 l3 h = some (r, h')) : MT 2 66 yX5_order cX5_order 4 (some .int) [.ref 39, .int l1, .int l2, .int l3] h (some (.int r)) h' := by
  refine MT.of (by decide +kernel) (Nat.le_of_ble_eq_true rfl) fun X hX hR => ?_
  unfold f_m_order at hf
  refine Xblk hX pkX5_ok [.aload_n 0, .iload_n 1] (pc' := 2) (ls' := [(0, .ref 39), (1, .int l1), (2, .int l2), (3, .int l3)]) (st' := [.int l1, .ref 39]) (h' := h) (g := true) (by decide +kernel) rfl rfl rfl ?_
  refine XcallV hX (mt_m_isCell l1 h) (rest := []) (by decide) (by decide) xm_X5_isCell xi_X5_isCell xs_X5_isCell xl_RX5_144 (by decide) (xsh_39) rfl rfl rfl (Nat.le_of_ble_eq_true rfl) (by decide +kernel) ?_
  show XW X 5 [(0, .ref 39), (1, .int l1), (2, .int l2), (3, .int l3)] [.int (f_m_isCell l1 h)] h
  refine Xbr hX (.ifCond .eq (22)) (tgt := 27) (P := (f_m_isCell l1 h) = (0 : Int32)) (r := []) (by decide +kernel) rfl (by decide) (fun hc_1 => ?_) (fun hc_1 => ?_)
  · replace hf := xif_t hc_1 hf
    refine Xblk hX pkX5_ok [.iconst (-1)] (pc' := 28) (ls' := [(0, .ref 39), (1, .int l1), (2, .int l2), (3, .int l3)]) (st' := [.int (-1 : Int32)]) (h' := h) (g := true) (by decide +kernel) rfl rfl rfl ?_
    exact XrI2 hX hR hf (by decide +kernel)
  · replace hf := xif_f hc_1 hf
    refine Xblk hX pkX5_ok [.aload_n 0, .iload_n 2] (pc' := 10) (ls' := [(0, .ref 39), (1, .int l1), (2, .int l2), (3, .int l3)]) (st' := [.int l2, .ref 39]) (h' := h) (g := true) (by decide +kernel) rfl rfl rfl ?_
    refine XcallV hX (mt_m_isCell l2 h) (rest := []) (by decide) (by decide) xm_X5_isCell xi_X5_isCell xs_X5_isCell xl_RX5_144 (by decide) (xsh_39) rfl rfl rfl (Nat.le_of_ble_eq_true rfl) (by decide +kernel) ?_
    show XW X 13 [(0, .ref 39), (1, .int l1), (2, .int l2), (3, .int l3)] [.int (f_m_isCell l2 h)] h
    refine Xbr hX (.ifCond .eq (14)) (tgt := 27) (P := (f_m_isCell l2 h) = (0 : Int32)) (r := []) (by decide +kernel) rfl (by decide) (fun hc_2 => ?_) (fun hc_2 => ?_)
    · replace hf := xif_t hc_2 hf
      refine Xblk hX pkX5_ok [.iconst (-1)] (pc' := 28) (ls' := [(0, .ref 39), (1, .int l1), (2, .int l2), (3, .int l3)]) (st' := [.int (-1 : Int32)]) (h' := h) (g := true) (by decide +kernel) rfl rfl rfl ?_
      exact XrI2 hX hR hf (by decide +kernel)
    · replace hf := xif_f hc_2 hf
      refine Xblk hX pkX5_ok [.iload_n 3, .iconst 0, .sipush 200] (pc' := 21) (ls' := [(0, .ref 39), (1, .int l1), (2, .int l2), (3, .int l3)]) (st' := [.int (200 : Int32), .int (0 : Int32), .int l3]) (h' := h) (g := true) (by decide +kernel) rfl rfl rfl ?_
      refine XcallS hX (mt_m_in l3 (0 : Int32) (200 : Int32) h) (rest := []) (by decide) (by decide) xm_X5_in xi_X5_in xl_RX5_107 rfl (Nat.le_of_ble_eq_true rfl) (by decide +kernel) ?_
      show XW X 24 [(0, .ref 39), (1, .int l1), (2, .int l2), (3, .int l3)] [.int (f_m_in l3 (0 : Int32) (200 : Int32))] h
      refine XbrN hX (.ifCond .ne (5)) (tgt := 29) (P := (f_m_in l3 (0 : Int32) (200 : Int32)) = (0 : Int32)) (r := []) (by decide +kernel) rfl (by decide) (fun hc_3 => ?_) (fun hc_3 => ?_)
      · replace hf := xif_t hc_3 hf
        refine Xblk hX pkX5_ok [.iconst (-1)] (pc' := 28) (ls' := [(0, .ref 39), (1, .int l1), (2, .int l2), (3, .int l3)]) (st' := [.int (-1 : Int32)]) (h' := h) (g := true) (by decide +kernel) rfl rfl rfl ?_
        exact XrI2 hX hR hf (by decide +kernel)
      · replace hf := xif_f hc_3 hf
        refine Xblk hX pkX5_ok [.aload_n 0, .iload_n 1] (pc' := 31) (ls' := [(0, .ref 39), (1, .int l1), (2, .int l2), (3, .int l3)]) (st' := [.int l1, .ref 39]) (h' := h) (g := true) (by decide +kernel) rfl rfl rfl ?_
        refine XcallV hX (mt_m_isFree l1 h) (rest := []) (by decide) (by decide) xm_X5_isFree xi_X5_isFree xs_X5_isFree xl_RX5_151 (by decide) (xsh_39) rfl rfl rfl (Nat.le_of_ble_eq_true rfl) (by decide +kernel) ?_
        show XW X 34 [(0, .ref 39), (1, .int l1), (2, .int l2), (3, .int l3)] [.int (f_m_isFree l1 h)] h
        refine Xbr hX (.ifCond .eq (11)) (tgt := 45) (P := (f_m_isFree l1 h) = (0 : Int32)) (r := []) (by decide +kernel) rfl (by decide) (fun hc_4 => ?_) (fun hc_4 => ?_)
        · replace hf := xif_t hc_4 hf
          refine Xblk hX pkX5_ok [.bipush (-2)] (pc' := 47) (ls' := [(0, .ref 39), (1, .int l1), (2, .int l2), (3, .int l3)]) (st' := [.int (-2 : Int32)]) (h' := h) (g := true) (by decide +kernel) rfl rfl rfl ?_
          exact XrI2 hX hR hf (by decide +kernel)
        · replace hf := xif_f hc_4 hf
          refine Xblk hX pkX5_ok [.aload_n 0, .iload_n 2] (pc' := 39) (ls' := [(0, .ref 39), (1, .int l1), (2, .int l2), (3, .int l3)]) (st' := [.int l2, .ref 39]) (h' := h) (g := true) (by decide +kernel) rfl rfl rfl ?_
          refine XcallV hX (mt_m_isFree l2 h) (rest := []) (by decide) (by decide) xm_X5_isFree xi_X5_isFree xs_X5_isFree xl_RX5_151 (by decide) (xsh_39) rfl rfl rfl (Nat.le_of_ble_eq_true rfl) (by decide +kernel) ?_
          show XW X 42 [(0, .ref 39), (1, .int l1), (2, .int l2), (3, .int l3)] [.int (f_m_isFree l2 h)] h
          refine XbrN hX (.ifCond .ne (6)) (tgt := 48) (P := (f_m_isFree l2 h) = (0 : Int32)) (r := []) (by decide +kernel) rfl (by decide) (fun hc_5 => ?_) (fun hc_5 => ?_)
          · replace hf := xif_t hc_5 hf
            refine Xblk hX pkX5_ok [.bipush (-2)] (pc' := 47) (ls' := [(0, .ref 39), (1, .int l1), (2, .int l2), (3, .int l3)]) (st' := [.int (-2 : Int32)]) (h' := h) (g := true) (by decide +kernel) rfl rfl rfl ?_
            exact XrI2 hX hR hf (by decide +kernel)
          · replace hf := xif_f hc_5 hf
            refine Xblk hX pkX5_ok [.aload_n 0, .getfield 135, .bipush 6] (pc' := 54) (ls' := [(0, .ref 39), (1, .int l1), (2, .int l2), (3, .int l3)]) (st' := [.int (6 : Int32), .int (h.1 39 25)]) (h' := h) (g := true) (by decide +kernel) rfl rfl rfl ?_
            refine XbrN hX (.if_icmp .ne (6)) (tgt := 60) (P := (h.1 39 25) = (6 : Int32)) (r := []) (by decide +kernel) rfl (by decide) (fun hc_6 => ?_) (fun hc_6 => ?_)
            · replace hf := xif_t hc_6 hf
              refine Xblk hX pkX5_ok [.bipush (-3)] (pc' := 59) (ls' := [(0, .ref 39), (1, .int l1), (2, .int l2), (3, .int l3)]) (st' := [.int (-3 : Int32)]) (h' := h) (g := true) (by decide +kernel) rfl rfl rfl ?_
              exact XrI2 hX hR hf (by decide +kernel)
            · replace hf := xif_f hc_6 hf
              obtain ⟨hg, hf⟩ := xgd_inv hf
              refine Xblk hX pkX5_ok [.aload_n 0, .getfield 49, .aload_n 0, .getfield 135, .iload_n 1, .iastore, .aload_n 0, .getfield 52, .aload_n 0, .getfield 135, .iload_n 2, .iastore, .aload_n 0, .getfield 55, .aload_n 0, .getfield 135, .iload_n 3, .iastore, .aload_n 0, .dup, .getfield 135, .iconst 1, .iadd, .putfield 135, .aload_n 0, .getfield 135, .iconst 1, .isub] (pc' := 106) (ls' := [(0, .ref 39), (1, .int l1), (2, .int l2), (3, .int l3)]) (st' := [.int (((h.1 39 25) + (1 : Int32)) - (1 : Int32))]) (h' := (xI (xI (xI (xI h 52 (h.1 39 25).toNatClampNeg l1) 53 (h.1 39 25).toNatClampNeg l2) 54 (h.1 39 25).toNatClampNeg l3) 39 25 ((h.1 39 25) + (1 : Int32)))) (g := (xin (h.1 39 25) 6 && (xin (h.1 39 25) 6 && (xin (h.1 39 25) 6 && true)))) (by decide +kernel) rfl rfl hg ?_
              exact XrI2 hX hR hf (by decide +kernel)
def f_m_steps_L_1  (l2 : Int32) (h : Hp) (k : Int64 → Int64 → Int32 → Option (Int32)) : Nat → Int64 → Int64 → Int32 → Option (Int32)
  | 0, _, _, _ => none
  | n + 1, l3, l5, l7 =>
    if (lg_cmp l3 l5) = (0 : Int32) then
      k l3 l5 l7
    else
      if (lg_cmp ((jshrL l3 l2) &&& (1 : Int64)) (1 : Int64)) = (0 : Int32) then
        some l7
      else
        (f_m_steps_L_1 l2 h k n) (f_m_spread l3 h) l3 (l7 + (1 : Int32))
def f_m_steps (l1 : Int32) (l2 : Int32) (h : Hp) : Option (Int32) :=
  f_m_steps_L_1 l2 h (fun l3_4 l5_5 l7_6 =>
    some (-9 : Int32)
    ) 1000 (jshlL (1 : Int64) l1) (0 : Int64) (0 : Int32)
set_option maxRecDepth 100000 in
set_option maxHeartbeats 4000000 in
theorem f_m_steps_L_1_ok {X : XCtx} (hX : XOk X RX5 cX5_steps 8 1 66) {r : Int32} {h : Hp} (hR : XR X (some .int) (some (.int r)) h)  (l2 : Int32)  (k : Int64 → Int64 → Int32 → Option (Int32))  (hk : ∀ (l3 : Int64) (l5 : Int64) (l7 : Int32), k l3 l5 l7 = some r → XW X 45 [] [] h) : ∀ (n : Nat) (l3 : Int64) (l5 : Int64) (l7 : Int32), f_m_steps_L_1 l2 h k n l3 l5 l7 = some r → XW X 10 [(0, .ref 39), (2, .int l2), (3, .long l3), (5, .long l5), (7, .int l7)] [] h := by
  intro n
  induction n with
  | zero => intro l3 l5 l7 hf; cases hf
  | succ n ih =>
    intro l3 l5 l7 hf
    rw [f_m_steps_L_1] at hf
    refine Xblk hX pkX5_ok [.lload_n 3, .lload 5, .lcmp] (pc' := 14) (ls' := [(0, .ref 39), (2, .int l2), (3, .long l3), (5, .long l5), (7, .int l7)]) (st' := [.int (lg_cmp l3 l5)]) (h' := h) (g := true) (by decide +kernel) rfl rfl rfl ?_
    refine Xbr hX (.ifCond .eq (31)) (tgt := 45) (P := (lg_cmp l3 l5) = (0 : Int32)) (r := []) (by decide +kernel) rfl (by decide) (fun hc_2 => ?_) (fun hc_2 => ?_)
    · replace hf := xif_t hc_2 hf
      refine XW.pick [] (ls' := []) rfl ?_
      exact hk l3 l5 l7 hf
    · replace hf := xif_f hc_2 hf
      refine Xblk hX pkX5_ok [.lload_n 3, .iload_n 2, .lshr, .lconst 1, .land, .lconst 1, .lcmp] (pc' := 24) (ls' := [(0, .ref 39), (2, .int l2), (3, .long l3), (5, .long l5), (7, .int l7)]) (st' := [.int (lg_cmp ((jshrL l3 l2) &&& (1 : Int64)) (1 : Int64))]) (h' := h) (g := true) (by decide +kernel) rfl rfl rfl ?_
      refine XbrN hX (.ifCond .ne (6)) (tgt := 30) (P := (lg_cmp ((jshrL l3 l2) &&& (1 : Int64)) (1 : Int64)) = (0 : Int32)) (r := []) (by decide +kernel) rfl (by decide) (fun hc_3 => ?_) (fun hc_3 => ?_)
      · replace hf := xif_t hc_3 hf
        refine Xblk hX pkX5_ok [.iload 7] (pc' := 29) (ls' := [(0, .ref 39), (2, .int l2), (3, .long l3), (5, .long l5), (7, .int l7)]) (st' := [.int l7]) (h' := h) (g := true) (by decide +kernel) rfl rfl rfl ?_
        exact XrI1 hX hR hf (by decide +kernel)
      · replace hf := xif_f hc_3 hf
        refine Xblk hX pkX5_ok [.lload_n 3, .lstore 5, .aload_n 0, .lload_n 3] (pc' := 35) (ls' := [(5, .long l3), (0, .ref 39), (2, .int l2), (3, .long l3), (7, .int l7)]) (st' := [.long l3, .ref 39]) (h' := h) (g := true) (by decide +kernel) rfl rfl rfl ?_
        refine XcallV hX (mt_m_spread l3 h) (rest := []) (by decide) (by decide) xm_X5_spread xi_X5_spread xs_X5_spread xl_RX5_185 (by decide) (xsh_39) rfl rfl rfl (Nat.le_of_ble_eq_true rfl) (by decide +kernel) ?_
        show XW X 38 [(5, .long l3), (0, .ref 39), (2, .int l2), (3, .long l3), (7, .int l7)] [.long (f_m_spread l3 h)] h
        refine Xblk hX pkX5_ok [.lstore_n 3, .iinc 7 1] (pc' := 42) (ls' := [(7, .int (l7 + (1 : Int32))), (3, .long (f_m_spread l3 h)), (5, .long l3), (0, .ref 39), (2, .int l2)]) (st' := []) (h' := h) (g := true) (by decide +kernel) rfl rfl rfl ?_
        refine Xgoto hX (-32) 10 (by decide +kernel) (by decide) ?_
        refine XW.pick [3, 4, 1, 2, 0] (ls' := [(0, .ref 39), (2, .int l2), (3, .long (f_m_spread l3 h)), (5, .long l3), (7, .int (l7 + (1 : Int32)))]) rfl ?_
        exact ih (f_m_spread l3 h) l3 (l7 + (1 : Int32)) hf
set_option maxRecDepth 100000 in
set_option maxHeartbeats 4000000 in
theorem mt_m_steps (l1 : Int32) (l2 : Int32) (h : Hp) {r : Int32} (hf : f_m_steps l1 l2 h = some r) : MT 1 66 yX5_steps cX5_steps 8 (some .int) [.ref 39, .int l1, .int l2] h (some (.int r)) h := by
  refine MT.of (by decide +kernel) (Nat.le_of_ble_eq_true rfl) fun X hX hR => ?_
  unfold f_m_steps at hf
  refine Xblk hX pkX5_ok [.lconst 1, .iload_n 1, .lshl, .lstore_n 3, .lconst 0, .lstore 5, .iconst 0, .istore 7] (pc' := 10) (ls' := [(7, .int (0 : Int32)), (5, .long (0 : Int64)), (3, .long (jshlL (1 : Int64) l1)), (0, .ref 39), (1, .int l1), (2, .int l2)]) (st' := []) (h' := h) (g := true) (by decide +kernel) rfl rfl rfl ?_
  refine XW.pick [3, 5, 2, 1, 0] (ls' := [(0, .ref 39), (2, .int l2), (3, .long (jshlL (1 : Int64) l1)), (5, .long (0 : Int64)), (7, .int (0 : Int32))]) rfl ?_
  refine f_m_steps_L_1_ok hX hR l2 _  (fun l3_4 l5_5 l7_6 hf => ?_) 1000 (jshlL (1 : Int64) l1) (0 : Int64) (0 : Int32) hf
  refine Xblk hX pkX5_ok [.bipush (-9)] (pc' := 47) (ls' := []) (st' := [.int (-9 : Int32)]) (h' := h) (g := true) (by decide +kernel) rfl rfl rfl ?_
  exact XrI1 hX hR hf (by decide +kernel)
def f_m_measure_L_8  (l2 : Int32)  (k : Int32 → Int32 → Hp → Option (Int32 × Hp)) : Nat → Int32 → Int32 → Hp → Option (Int32 × Hp)
  | 0, _, _, _ => none
  | n + 1, l1, l3, h =>
    if (h.1 39 15) ≤ l3 then
      k l1 l3 h
    else
      xgd (xin l2 6 && (xin l3 6 && true)) <|
      xbd1 (f_m_steps (h.1 45 l3.toNatClampNeg) (h.1 52 l2.toNatClampNeg) h) fun v_11 =>
      xgd (xin (((6 : Int32) * l3) + l2) 48 && true) <|
      if l1 = (0 : Int32) then
        (f_m_measure_L_8 l2 k n) (0 : Int32) (l3 + (1 : Int32)) (xI h 55 (((6 : Int32) * l3) + l2).toNatClampNeg v_11)
      else
        xgd (xin (((6 : Int32) * l3) + l2) 48 && true) <|
        if ((xI h 55 (((6 : Int32) * l3) + l2).toNatClampNeg v_11).1 55 (((6 : Int32) * l3) + l2).toNatClampNeg) = (-9 : Int32) then
          (f_m_measure_L_8 l2 k n) (0 : Int32) (l3 + (1 : Int32)) (xI h 55 (((6 : Int32) * l3) + l2).toNatClampNeg v_11)
        else
          xgd (xin l2 6 && true) <|
          (f_m_measure_L_8 l2 k n) (if (h.1 56 l2.toNatClampNeg) = (-9 : Int32) then (0 : Int32) else (1 : Int32)) (l3 + (1 : Int32)) (xI h 55 (((6 : Int32) * l3) + l2).toNatClampNeg v_11)
def f_m_measure_L_22  (l1 : Int32) (l2 : Int32)  (k : Int32 → Hp → Option (Int32 × Hp)) : Nat → Int32 → Hp → Option (Int32 × Hp)
  | 0, _, _ => none
  | n + 1, l3, h =>
    if (h.1 39 25) ≤ l3 then
      k l3 h
    else
      xgd (xin l2 6 && (xin l3 6 && true)) <|
      xbd1 (f_m_steps (h.1 53 l3.toNatClampNeg) (h.1 52 l2.toNatClampNeg) h) fun v_25 =>
      xgd (xin (((6 : Int32) * ((2 : Int32) + l3)) + l2) 48 && true) <|
      (f_m_measure_L_22 l1 l2 k n) (l3 + (1 : Int32)) (xI h 55 (((6 : Int32) * ((2 : Int32) + l3)) + l2).toNatClampNeg v_25)
def f_m_measure_L_3    (k : Int32 → Int32 → Hp → Option (Int32 × Hp)) : Nat → Int32 → Int32 → Hp → Option (Int32 × Hp)
  | 0, _, _, _ => none
  | n + 1, l1, l2, h =>
    if (h.1 39 25) ≤ l2 then
      k l1 l2 h
    else
      if l1 = (0 : Int32) then
        k l1 l2 h
      else
        xgd (xin l2 6 && (xin l2 6 && true)) <|
        xbd1 (f_m_steps (h.1 52 l2.toNatClampNeg) (h.1 53 l2.toNatClampNeg) h) fun v_7 =>
        xgd (xin l2 6 && true) <|
        f_m_measure_L_8 l2 (fun l1_19 l3_20 h_21 =>
          f_m_measure_L_22 l1_19 l2 (fun l3_26 h_27 =>
            (f_m_measure_L_3 k n) l1_19 (l2 + (1 : Int32)) h_27
            ) 1000 (0 : Int32) h_21
          ) 1000 l1 (0 : Int32) (xI h 56 l2.toNatClampNeg v_7)
def f_m_measure  (h : Hp) : Option (Int32 × Hp) :=
  f_m_measure_L_3 (fun l1_28 l2_29 h_30 =>
    xgd (xbool l1_28 && true) <|
    some (l1_28, h_30)
    ) 1000 (if (h.1 39 15) ≤ (0 : Int32) then (0 : Int32) else (1 : Int32)) (0 : Int32) h
set_option maxRecDepth 100000 in
set_option maxHeartbeats 4000000 in
theorem f_m_measure_L_8_ok {X : XCtx} (hX : XOk X RX5 cX5_measure 4 2 66) {r : Int32} {h' : Hp} (hR : XR X (some .boolean) (some (.int r)) h')  (l2 : Int32)  (k : Int32 → Int32 → Hp → Option (Int32 × Hp))  (hk : ∀ (l1 : Int32) (l3 : Int32) (h : Hp), k l1 l3 h = some (r, h') → XW X 129 [(0, .ref 39), (1, .int l1), (2, .int l2)] [] h) : ∀ (n : Nat) (l1 : Int32) (l3 : Int32) (h : Hp), f_m_measure_L_8 l2 k n l1 l3 h = some (r, h') → XW X 51 [(0, .ref 39), (1, .int l1), (2, .int l2), (3, .int l3)] [] h := by
  intro n
  induction n with
  | zero => intro l1 l3 h hf; cases hf
  | succ n ih =>
    intro l1 l3 h hf
    rw [f_m_measure_L_8] at hf
    refine Xblk hX pkX5_ok [.iload_n 3, .aload_n 0, .getfield 132] (pc' := 56) (ls' := [(0, .ref 39), (1, .int l1), (2, .int l2), (3, .int l3)]) (st' := [.int (h.1 39 15), .int l3]) (h' := h) (g := true) (by decide +kernel) rfl rfl rfl ?_
    refine Xbr hX (.if_icmp .ge (73)) (tgt := 129) (P := (h.1 39 15) ≤ l3) (r := []) (by decide +kernel) rfl (by decide) (fun hc_9 => ?_) (fun hc_9 => ?_)
    · replace hf := xif_t hc_9 hf
      refine XW.pick [0, 1, 2] (ls' := [(0, .ref 39), (1, .int l1), (2, .int l2)]) rfl ?_
      exact hk l1 l3 h hf
    · replace hf := xif_f hc_9 hf
      obtain ⟨hg, hf⟩ := xgd_inv hf
      refine Xblk hX pkX5_ok [.aload_n 0, .getfield 58, .bipush 6, .iload_n 3, .imul, .iload_n 2, .iadd, .aload_n 0, .aload_n 0, .getfield 26, .iload_n 3, .iaload, .aload_n 0, .getfield 49, .iload_n 2, .iaload] (pc' := 82) (ls' := [(0, .ref 39), (1, .int l1), (2, .int l2), (3, .int l3)]) (st' := [.int (h.1 52 l2.toNatClampNeg), .int (h.1 45 l3.toNatClampNeg), .ref 39, .int (((6 : Int32) * l3) + l2), .ref 55]) (h' := h) (g := (xin l2 6 && (xin l3 6 && true))) (by decide +kernel) rfl rfl hg ?_
      obtain ⟨v_11, hc_10, hf⟩ := xbd1_inv hf
      refine XcallV hX (mt_m_steps (h.1 45 l3.toNatClampNeg) (h.1 52 l2.toNatClampNeg) h hc_10) (rest := [.int (((6 : Int32) * l3) + l2), .ref 55]) (by decide) (by decide) xm_X5_steps xi_X5_steps xs_X5_steps xl_RX5_238 (by decide) (xsh_39) rfl rfl rfl (Nat.le_of_ble_eq_true rfl) (by decide +kernel) ?_
      show XW X 85 [(0, .ref 39), (1, .int l1), (2, .int l2), (3, .int l3)] [.int v_11, .int (((6 : Int32) * l3) + l2), .ref 55] h
      obtain ⟨hg, hf⟩ := xgd_inv hf
      refine Xblk hX pkX5_ok [.iastore, .iload_n 1] (pc' := 87) (ls' := [(0, .ref 39), (1, .int l1), (2, .int l2), (3, .int l3)]) (st' := [.int l1]) (h' := (xI h 55 (((6 : Int32) * l3) + l2).toNatClampNeg v_11)) (g := (xin (((6 : Int32) * l3) + l2) 48 && true)) (by decide +kernel) rfl rfl hg ?_
      refine Xbr hX (.ifCond .eq (34)) (tgt := 121) (P := l1 = (0 : Int32)) (r := []) (by decide +kernel) rfl (by decide) (fun hc_13 => ?_) (fun hc_13 => ?_)
      · replace hf := xif_t hc_13 hf
        refine Xblk hX pkX5_ok [.iconst 0, .istore_n 1, .iinc 3 1] (pc' := 126) (ls' := [(3, .int (l3 + (1 : Int32))), (1, .int (0 : Int32)), (0, .ref 39), (2, .int l2)]) (st' := []) (h' := (xI h 55 (((6 : Int32) * l3) + l2).toNatClampNeg v_11)) (g := true) (by decide +kernel) rfl rfl rfl ?_
        refine Xgoto hX (-75) 51 (by decide +kernel) (by decide) ?_
        refine XW.pick [2, 1, 3, 0] (ls' := [(0, .ref 39), (1, .int (0 : Int32)), (2, .int l2), (3, .int (l3 + (1 : Int32)))]) rfl ?_
        exact ih (0 : Int32) (l3 + (1 : Int32)) (xI h 55 (((6 : Int32) * l3) + l2).toNatClampNeg v_11) hf
      · replace hf := xif_f hc_13 hf
        obtain ⟨hg, hf⟩ := xgd_inv hf
        refine Xblk hX pkX5_ok [.aload_n 0, .getfield 58, .bipush 6, .iload_n 3, .imul, .iload_n 2, .iadd, .iaload, .bipush (-9)] (pc' := 103) (ls' := [(0, .ref 39), (1, .int l1), (2, .int l2), (3, .int l3)]) (st' := [.int (-9 : Int32), .int ((xI h 55 (((6 : Int32) * l3) + l2).toNatClampNeg v_11).1 55 (((6 : Int32) * l3) + l2).toNatClampNeg)]) (h' := (xI h 55 (((6 : Int32) * l3) + l2).toNatClampNeg v_11)) (g := (xin (((6 : Int32) * l3) + l2) 48 && true)) (by decide +kernel) rfl rfl hg ?_
        refine Xbr hX (.if_icmp .eq (18)) (tgt := 121) (P := ((xI h 55 (((6 : Int32) * l3) + l2).toNatClampNeg v_11).1 55 (((6 : Int32) * l3) + l2).toNatClampNeg) = (-9 : Int32)) (r := []) (by decide +kernel) rfl (by decide) (fun hc_15 => ?_) (fun hc_15 => ?_)
        · replace hf := xif_t hc_15 hf
          refine Xblk hX pkX5_ok [.iconst 0, .istore_n 1, .iinc 3 1] (pc' := 126) (ls' := [(3, .int (l3 + (1 : Int32))), (1, .int (0 : Int32)), (0, .ref 39), (2, .int l2)]) (st' := []) (h' := (xI h 55 (((6 : Int32) * l3) + l2).toNatClampNeg v_11)) (g := true) (by decide +kernel) rfl rfl rfl ?_
          refine Xgoto hX (-75) 51 (by decide +kernel) (by decide) ?_
          refine XW.pick [2, 1, 3, 0] (ls' := [(0, .ref 39), (1, .int (0 : Int32)), (2, .int l2), (3, .int (l3 + (1 : Int32)))]) rfl ?_
          exact ih (0 : Int32) (l3 + (1 : Int32)) (xI h 55 (((6 : Int32) * l3) + l2).toNatClampNeg v_11) hf
        · replace hf := xif_f hc_15 hf
          obtain ⟨hg, hf⟩ := xgd_inv hf
          refine Xblk hX pkX5_ok [.aload_n 0, .getfield 61, .iload_n 2, .iaload, .bipush (-9)] (pc' := 114) (ls' := [(0, .ref 39), (1, .int l1), (2, .int l2), (3, .int l3)]) (st' := [.int (-9 : Int32), .int (h.1 56 l2.toNatClampNeg)]) (h' := (xI h 55 (((6 : Int32) * l3) + l2).toNatClampNeg v_11)) (g := (xin l2 6 && true)) (by decide +kernel) rfl rfl hg ?_
          have kJ_18 : ∀ (w_17 : Int32), w_17 = (if (h.1 56 l2.toNatClampNeg) = (-9 : Int32) then (0 : Int32) else (1 : Int32)) → XW X 122 [(0, .ref 39), (2, .int l2), (3, .int l3)] [.int w_17] (xI h 55 (((6 : Int32) * l3) + l2).toNatClampNeg v_11) := by
            intro w_17 ew_17
            subst ew_17
            refine Xblk hX pkX5_ok [.istore_n 1, .iinc 3 1] (pc' := 126) (ls' := [(3, .int (l3 + (1 : Int32))), (1, .int (if (h.1 56 l2.toNatClampNeg) = (-9 : Int32) then (0 : Int32) else (1 : Int32))), (0, .ref 39), (2, .int l2)]) (st' := []) (h' := (xI h 55 (((6 : Int32) * l3) + l2).toNatClampNeg v_11)) (g := true) (by decide +kernel) rfl rfl rfl ?_
            refine Xgoto hX (-75) 51 (by decide +kernel) (by decide) ?_
            refine XW.pick [2, 1, 3, 0] (ls' := [(0, .ref 39), (1, .int (if (h.1 56 l2.toNatClampNeg) = (-9 : Int32) then (0 : Int32) else (1 : Int32))), (2, .int l2), (3, .int (l3 + (1 : Int32)))]) rfl ?_
            exact ih (if (h.1 56 l2.toNatClampNeg) = (-9 : Int32) then (0 : Int32) else (1 : Int32)) (l3 + (1 : Int32)) (xI h 55 (((6 : Int32) * l3) + l2).toNatClampNeg v_11) hf
          refine Xbr hX (.if_icmp .eq (7)) (tgt := 121) (P := (h.1 56 l2.toNatClampNeg) = (-9 : Int32)) (r := []) (by decide +kernel) rfl (by decide) (fun hc_16 => ?_) (fun hc_16 => ?_)
          · refine Xblk hX pkX5_ok [.iconst 0] (pc' := 122) (ls' := [(0, .ref 39), (1, .int l1), (2, .int l2), (3, .int l3)]) (st' := [.int (0 : Int32)]) (h' := (xI h 55 (((6 : Int32) * l3) + l2).toNatClampNeg v_11)) (g := true) (by decide +kernel) rfl rfl rfl ?_
            refine XW.pick [0, 2, 3] (ls' := [(0, .ref 39), (2, .int l2), (3, .int l3)]) rfl ?_
            exact kJ_18 _ (by rw [if_pos hc_16])
          · refine Xblk hX pkX5_ok [.iconst 1] (pc' := 118) (ls' := [(0, .ref 39), (1, .int l1), (2, .int l2), (3, .int l3)]) (st' := [.int (1 : Int32)]) (h' := (xI h 55 (((6 : Int32) * l3) + l2).toNatClampNeg v_11)) (g := true) (by decide +kernel) rfl rfl rfl ?_
            refine Xgoto hX (4) 122 (by decide +kernel) (by decide) ?_
            refine XW.pick [0, 2, 3] (ls' := [(0, .ref 39), (2, .int l2), (3, .int l3)]) rfl ?_
            exact kJ_18 _ (by rw [if_neg hc_16])
set_option maxRecDepth 100000 in
set_option maxHeartbeats 4000000 in
theorem f_m_measure_L_22_ok {X : XCtx} (hX : XOk X RX5 cX5_measure 4 2 66) {r : Int32} {h' : Hp} (hR : XR X (some .boolean) (some (.int r)) h')  (l1 : Int32) (l2 : Int32)  (k : Int32 → Hp → Option (Int32 × Hp))  (hk : ∀ (l3 : Int32) (h : Hp), k l3 h = some (r, h') → XW X 174 [(0, .ref 39), (1, .int l1), (2, .int l2)] [] h) : ∀ (n : Nat) (l3 : Int32) (h : Hp), f_m_measure_L_22 l1 l2 k n l3 h = some (r, h') → XW X 131 [(0, .ref 39), (1, .int l1), (2, .int l2), (3, .int l3)] [] h := by
  intro n
  induction n with
  | zero => intro l3 h hf; cases hf
  | succ n ih =>
    intro l3 h hf
    rw [f_m_measure_L_22] at hf
    refine Xblk hX pkX5_ok [.iload_n 3, .aload_n 0, .getfield 135] (pc' := 136) (ls' := [(0, .ref 39), (1, .int l1), (2, .int l2), (3, .int l3)]) (st' := [.int (h.1 39 25), .int l3]) (h' := h) (g := true) (by decide +kernel) rfl rfl rfl ?_
    refine Xbr hX (.if_icmp .ge (38)) (tgt := 174) (P := (h.1 39 25) ≤ l3) (r := []) (by decide +kernel) rfl (by decide) (fun hc_23 => ?_) (fun hc_23 => ?_)
    · replace hf := xif_t hc_23 hf
      refine XW.pick [0, 1, 2] (ls' := [(0, .ref 39), (1, .int l1), (2, .int l2)]) rfl ?_
      exact hk l3 h hf
    · replace hf := xif_f hc_23 hf
      obtain ⟨hg, hf⟩ := xgd_inv hf
      refine Xblk hX pkX5_ok [.aload_n 0, .getfield 58, .bipush 6, .iconst 2, .iload_n 3, .iadd, .imul, .iload_n 2, .iadd, .aload_n 0, .aload_n 0, .getfield 52, .iload_n 3, .iaload, .aload_n 0, .getfield 49, .iload_n 2, .iaload] (pc' := 164) (ls' := [(0, .ref 39), (1, .int l1), (2, .int l2), (3, .int l3)]) (st' := [.int (h.1 52 l2.toNatClampNeg), .int (h.1 53 l3.toNatClampNeg), .ref 39, .int (((6 : Int32) * ((2 : Int32) + l3)) + l2), .ref 55]) (h' := h) (g := (xin l2 6 && (xin l3 6 && true))) (by decide +kernel) rfl rfl hg ?_
      obtain ⟨v_25, hc_24, hf⟩ := xbd1_inv hf
      refine XcallV hX (mt_m_steps (h.1 53 l3.toNatClampNeg) (h.1 52 l2.toNatClampNeg) h hc_24) (rest := [.int (((6 : Int32) * ((2 : Int32) + l3)) + l2), .ref 55]) (by decide) (by decide) xm_X5_steps xi_X5_steps xs_X5_steps xl_RX5_238 (by decide) (xsh_39) rfl rfl rfl (Nat.le_of_ble_eq_true rfl) (by decide +kernel) ?_
      show XW X 167 [(0, .ref 39), (1, .int l1), (2, .int l2), (3, .int l3)] [.int v_25, .int (((6 : Int32) * ((2 : Int32) + l3)) + l2), .ref 55] h
      obtain ⟨hg, hf⟩ := xgd_inv hf
      refine Xblk hX pkX5_ok [.iastore, .iinc 3 1] (pc' := 171) (ls' := [(3, .int (l3 + (1 : Int32))), (0, .ref 39), (1, .int l1), (2, .int l2)]) (st' := []) (h' := (xI h 55 (((6 : Int32) * ((2 : Int32) + l3)) + l2).toNatClampNeg v_25)) (g := (xin (((6 : Int32) * ((2 : Int32) + l3)) + l2) 48 && true)) (by decide +kernel) rfl rfl hg ?_
      refine Xgoto hX (-40) 131 (by decide +kernel) (by decide) ?_
      refine XW.pick [1, 2, 3, 0] (ls' := [(0, .ref 39), (1, .int l1), (2, .int l2), (3, .int (l3 + (1 : Int32)))]) rfl ?_
      exact ih (l3 + (1 : Int32)) (xI h 55 (((6 : Int32) * ((2 : Int32) + l3)) + l2).toNatClampNeg v_25) hf
set_option maxRecDepth 100000 in
set_option maxHeartbeats 4000000 in
theorem f_m_measure_L_3_ok {X : XCtx} (hX : XOk X RX5 cX5_measure 4 2 66) {r : Int32} {h' : Hp} (hR : XR X (some .boolean) (some (.int r)) h')    (k : Int32 → Int32 → Hp → Option (Int32 × Hp))  (hk : ∀ (l1 : Int32) (l2 : Int32) (h : Hp), k l1 l2 h = some (r, h') → XW X 180 [(1, .int l1)] [] h) : ∀ (n : Nat) (l1 : Int32) (l2 : Int32) (h : Hp), f_m_measure_L_3 k n l1 l2 h = some (r, h') → XW X 15 [(0, .ref 39), (1, .int l1), (2, .int l2)] [] h := by
  intro n
  induction n with
  | zero => intro l1 l2 h hf; cases hf
  | succ n ih =>
    intro l1 l2 h hf
    rw [f_m_measure_L_3] at hf
    refine Xblk hX pkX5_ok [.iload_n 2, .aload_n 0, .getfield 135] (pc' := 20) (ls' := [(0, .ref 39), (1, .int l1), (2, .int l2)]) (st' := [.int (h.1 39 25), .int l2]) (h' := h) (g := true) (by decide +kernel) rfl rfl rfl ?_
    refine Xbr hX (.if_icmp .ge (160)) (tgt := 180) (P := (h.1 39 25) ≤ l2) (r := []) (by decide +kernel) rfl (by decide) (fun hc_4 => ?_) (fun hc_4 => ?_)
    · replace hf := xif_t hc_4 hf
      refine XW.pick [1] (ls' := [(1, .int l1)]) rfl ?_
      exact hk l1 l2 h hf
    · replace hf := xif_f hc_4 hf
      refine Xblk hX pkX5_ok [.iload_n 1] (pc' := 24) (ls' := [(0, .ref 39), (1, .int l1), (2, .int l2)]) (st' := [.int l1]) (h' := h) (g := true) (by decide +kernel) rfl rfl rfl ?_
      refine Xbr hX (.ifCond .eq (156)) (tgt := 180) (P := l1 = (0 : Int32)) (r := []) (by decide +kernel) rfl (by decide) (fun hc_5 => ?_) (fun hc_5 => ?_)
      · replace hf := xif_t hc_5 hf
        refine XW.pick [1] (ls' := [(1, .int l1)]) rfl ?_
        exact hk l1 l2 h hf
      · replace hf := xif_f hc_5 hf
        obtain ⟨hg, hf⟩ := xgd_inv hf
        refine Xblk hX pkX5_ok [.aload_n 0, .getfield 61, .iload_n 2, .aload_n 0, .aload_n 0, .getfield 49, .iload_n 2, .iaload, .aload_n 0, .getfield 52, .iload_n 2, .iaload] (pc' := 45) (ls' := [(0, .ref 39), (1, .int l1), (2, .int l2)]) (st' := [.int (h.1 53 l2.toNatClampNeg), .int (h.1 52 l2.toNatClampNeg), .ref 39, .int l2, .ref 56]) (h' := h) (g := (xin l2 6 && (xin l2 6 && true))) (by decide +kernel) rfl rfl hg ?_
        obtain ⟨v_7, hc_6, hf⟩ := xbd1_inv hf
        refine XcallV hX (mt_m_steps (h.1 52 l2.toNatClampNeg) (h.1 53 l2.toNatClampNeg) h hc_6) (rest := [.int l2, .ref 56]) (by decide) (by decide) xm_X5_steps xi_X5_steps xs_X5_steps xl_RX5_238 (by decide) (xsh_39) rfl rfl rfl (Nat.le_of_ble_eq_true rfl) (by decide +kernel) ?_
        show XW X 48 [(0, .ref 39), (1, .int l1), (2, .int l2)] [.int v_7, .int l2, .ref 56] h
        obtain ⟨hg, hf⟩ := xgd_inv hf
        refine Xblk hX pkX5_ok [.iastore, .iconst 0, .istore_n 3] (pc' := 51) (ls' := [(3, .int (0 : Int32)), (0, .ref 39), (1, .int l1), (2, .int l2)]) (st' := []) (h' := (xI h 56 l2.toNatClampNeg v_7)) (g := (xin l2 6 && true)) (by decide +kernel) rfl rfl hg ?_
        refine XW.pick [1, 2, 3, 0] (ls' := [(0, .ref 39), (1, .int l1), (2, .int l2), (3, .int (0 : Int32))]) rfl ?_
        refine f_m_measure_L_8_ok hX hR l2 _  (fun l1_19 l3_20 h_21 hf => ?_) 1000 l1 (0 : Int32) (xI h 56 l2.toNatClampNeg v_7) hf
        refine Xblk hX pkX5_ok [.iconst 0, .istore_n 3] (pc' := 131) (ls' := [(3, .int (0 : Int32)), (0, .ref 39), (1, .int l1_19), (2, .int l2)]) (st' := []) (h' := h_21) (g := true) (by decide +kernel) rfl rfl rfl ?_
        refine XW.pick [1, 2, 3, 0] (ls' := [(0, .ref 39), (1, .int l1_19), (2, .int l2), (3, .int (0 : Int32))]) rfl ?_
        refine f_m_measure_L_22_ok hX hR l1_19 l2 _  (fun l3_26 h_27 hf => ?_) 1000 (0 : Int32) h_21 hf
        refine Xblk hX pkX5_ok [.iinc 2 1] (pc' := 177) (ls' := [(2, .int (l2 + (1 : Int32))), (0, .ref 39), (1, .int l1_19)]) (st' := []) (h' := h_27) (g := true) (by decide +kernel) rfl rfl rfl ?_
        refine Xgoto hX (-162) 15 (by decide +kernel) (by decide) ?_
        refine XW.pick [1, 2, 0] (ls' := [(0, .ref 39), (1, .int l1_19), (2, .int (l2 + (1 : Int32)))]) rfl ?_
        exact ih l1_19 (l2 + (1 : Int32)) h_27 hf
set_option maxRecDepth 100000 in
set_option maxHeartbeats 4000000 in
theorem mt_m_measure  (h : Hp) {r : Int32} {h' : Hp} (hf : f_m_measure h = some (r, h')) : MT 2 66 yX5_measure cX5_measure 4 (some .boolean) [.ref 39] h (some (.int r)) h' := by
  refine MT.of (by decide +kernel) (Nat.le_of_ble_eq_true rfl) fun X hX hR => ?_
  unfold f_m_measure at hf
  refine Xblk hX pkX5_ok [.aload_n 0, .getfield 132] (pc' := 4) (ls' := [(0, .ref 39)]) (st' := [.int (h.1 39 15)]) (h' := h) (g := true) (by decide +kernel) rfl rfl rfl ?_
  have kJ_31 : ∀ (w_2 : Int32), w_2 = (if (h.1 39 15) ≤ (0 : Int32) then (0 : Int32) else (1 : Int32)) → XW X 12 [(0, .ref 39)] [.int w_2] h := by
    intro w_2 ew_2
    subst ew_2
    refine Xblk hX pkX5_ok [.istore_n 1, .iconst 0, .istore_n 2] (pc' := 15) (ls' := [(2, .int (0 : Int32)), (1, .int (if (h.1 39 15) ≤ (0 : Int32) then (0 : Int32) else (1 : Int32))), (0, .ref 39)]) (st' := []) (h' := h) (g := true) (by decide +kernel) rfl rfl rfl ?_
    refine XW.pick [2, 1, 0] (ls' := [(0, .ref 39), (1, .int (if (h.1 39 15) ≤ (0 : Int32) then (0 : Int32) else (1 : Int32))), (2, .int (0 : Int32))]) rfl ?_
    refine f_m_measure_L_3_ok hX hR  _  (fun l1_28 l2_29 h_30 hf => ?_) 1000 (if (h.1 39 15) ≤ (0 : Int32) then (0 : Int32) else (1 : Int32)) (0 : Int32) h hf
    refine Xblk hX pkX5_ok [.iload_n 1] (pc' := 181) (ls' := [(1, .int l1_28)]) (st' := [.int l1_28]) (h' := h_30) (g := true) (by decide +kernel) rfl rfl rfl ?_
    obtain ⟨hg, hf⟩ := xgd_inv hf
    rw [Bool.and_true] at hg
    exact XrZ2 hX hR hf hg (by decide +kernel)
  refine Xbr hX (.ifCond .le (7)) (tgt := 11) (P := (h.1 39 15) ≤ (0 : Int32)) (r := []) (by decide +kernel) rfl (by decide) (fun hc_1 => ?_) (fun hc_1 => ?_)
  · refine Xblk hX pkX5_ok [.iconst 0] (pc' := 12) (ls' := [(0, .ref 39)]) (st' := [.int (0 : Int32)]) (h' := h) (g := true) (by decide +kernel) rfl rfl rfl ?_
    refine XW.pick [0] (ls' := [(0, .ref 39)]) rfl ?_
    exact kJ_31 _ (by rw [if_pos hc_1])
  · refine Xblk hX pkX5_ok [.iconst 1] (pc' := 8) (ls' := [(0, .ref 39)]) (st' := [.int (1 : Int32)]) (h' := h) (g := true) (by decide +kernel) rfl rfl rfl ?_
    refine Xgoto hX (4) 12 (by decide +kernel) (by decide) ?_
    refine XW.pick [0] (ls' := [(0, .ref 39)]) rfl ?_
    exact kJ_31 _ (by rw [if_neg hc_1])
def f_m_rowsOf_L_1  (l0 : Int32)  (k : Int32 → Int32 → Option (Int32)) : Nat → Int32 → Int32 → Option (Int32)
  | 0, _, _ => none
  | n + 1, l1, l2 =>
    if l0 < l2 then
      k l1 l2
    else
      (f_m_rowsOf_L_1 l0 k n) (l1 * l2) (l2 + (1 : Int32))
def f_m_rowsOf (l0 : Int32) : Option (Int32) :=
  f_m_rowsOf_L_1 l0 (fun l1_3 l2_4 =>
    some l1_3
    ) 1000 (1 : Int32) (2 : Int32)
set_option maxRecDepth 100000 in
set_option maxHeartbeats 4000000 in
theorem f_m_rowsOf_L_1_ok {X : XCtx} (hX : XOk X RX5 cX5_rowsOf 3 0 66) {r : Int32} {h : Hp} (hR : XR X (some .int) (some (.int r)) h)  (l0 : Int32)  (k : Int32 → Int32 → Option (Int32))  (hk : ∀ (l1 : Int32) (l2 : Int32), k l1 l2 = some r → XW X 19 [(1, .int l1)] [] h) : ∀ (n : Nat) (l1 : Int32) (l2 : Int32), f_m_rowsOf_L_1 l0 k n l1 l2 = some r → XW X 4 [(0, .int l0), (1, .int l1), (2, .int l2)] [] h := by
  intro n
  induction n with
  | zero => intro l1 l2 hf; cases hf
  | succ n ih =>
    intro l1 l2 hf
    rw [f_m_rowsOf_L_1] at hf
    refine Xblk hX pkX5_ok [.iload_n 2, .iload_n 0] (pc' := 6) (ls' := [(0, .int l0), (1, .int l1), (2, .int l2)]) (st' := [.int l0, .int l2]) (h' := h) (g := true) (by decide +kernel) rfl rfl rfl ?_
    refine Xbr hX (.if_icmp .gt (13)) (tgt := 19) (P := l0 < l2) (r := []) (by decide +kernel) rfl (by decide) (fun hc_2 => ?_) (fun hc_2 => ?_)
    · replace hf := xif_t hc_2 hf
      refine XW.pick [1] (ls' := [(1, .int l1)]) rfl ?_
      exact hk l1 l2 hf
    · replace hf := xif_f hc_2 hf
      refine Xblk hX pkX5_ok [.iload_n 1, .iload_n 2, .imul, .istore_n 1, .iinc 2 1] (pc' := 16) (ls' := [(2, .int (l2 + (1 : Int32))), (1, .int (l1 * l2)), (0, .int l0)]) (st' := []) (h' := h) (g := true) (by decide +kernel) rfl rfl rfl ?_
      refine Xgoto hX (-12) 4 (by decide +kernel) (by decide) ?_
      refine XW.pick [2, 1, 0] (ls' := [(0, .int l0), (1, .int (l1 * l2)), (2, .int (l2 + (1 : Int32)))]) rfl ?_
      exact ih (l1 * l2) (l2 + (1 : Int32)) hf
set_option maxRecDepth 100000 in
set_option maxHeartbeats 4000000 in
theorem mt_m_rowsOf (l0 : Int32) (h : Hp) {r : Int32} (hf : f_m_rowsOf l0 = some r) : MT 0 66 yX5_rowsOf cX5_rowsOf 3 (some .int) [.int l0] h (some (.int r)) h := by
  refine MT.of (by decide +kernel) (Nat.le_of_ble_eq_true rfl) fun X hX hR => ?_
  unfold f_m_rowsOf at hf
  refine Xblk hX pkX5_ok [.iconst 1, .istore_n 1, .iconst 2, .istore_n 2] (pc' := 4) (ls' := [(2, .int (2 : Int32)), (1, .int (1 : Int32)), (0, .int l0)]) (st' := []) (h' := h) (g := true) (by decide +kernel) rfl rfl rfl ?_
  refine XW.pick [2, 1, 0] (ls' := [(0, .int l0), (1, .int (1 : Int32)), (2, .int (2 : Int32))]) rfl ?_
  refine f_m_rowsOf_L_1_ok hX hR l0 _  (fun l1_3 l2_4 hf => ?_) 1000 (1 : Int32) (2 : Int32) hf
  refine Xblk hX pkX5_ok [.iload_n 1] (pc' := 20) (ls' := [(1, .int l1_3)]) (st' := [.int l1_3]) (h' := h) (g := true) (by decide +kernel) rfl rfl rfl ?_
  exact XrI1 hX hR hf (by decide +kernel)
def f_m_tellRow_L_1  (l1 : Int32) (l2 : Int32)  (k : Int32 → Int32 → Hp → Option (Int32 × Hp)) : Nat → Int32 → Int32 → Hp → Option (Int32 × Hp)
  | 0, _, _, _ => none
  | n + 1, l3, l4, h =>
    if (h.1 39 25) ≤ l4 then
      k l3 l4 h
    else
      if ((jshr l1 l4) &&& (1 : Int32)) = (1 : Int32) then
        xgd (xin l3 6 && true) <|
        (f_m_tellRow_L_1 l1 l2 k n) (l3 + (1 : Int32)) (l4 + (1 : Int32)) (xI h 60 l3.toNatClampNeg l4)
      else
        (f_m_tellRow_L_1 l1 l2 k n) l3 (l4 + (1 : Int32)) h
def f_m_tellRow_L_12  (l3 : Int32) (l4 : Int32) (l5 : Int32)  (k : Int32 → Hp → Option (Int32 × Hp)) : Nat → Int32 → Hp → Option (Int32 × Hp)
  | 0, _, _ => none
  | n + 1, l8, h =>
    if ((l3 - (1 : Int32)) - l5) ≤ l8 then
      k l8 h
    else
      xgd (xin l8 6 && (xin (l8 + (1 : Int32)) 6 && true)) <|
      (f_m_tellRow_L_12 l3 l4 l5 k n) (l8 + (1 : Int32)) (xI h 60 l8.toNatClampNeg (h.1 60 (l8 + (1 : Int32)).toNatClampNeg))
def f_m_tellRow_L_8  (l3 : Int32)  (k : Int32 → Int32 → Hp → Option (Int32 × Hp)) : Nat → Int32 → Int32 → Hp → Option (Int32 × Hp)
  | 0, _, _, _ => none
  | n + 1, l4, l5, h =>
    if l3 ≤ l5 then
      k l4 l5 h
    else
      xbd1 (f_m_rowsOf ((l3 - (1 : Int32)) - l5)) fun v_11 =>
      xgd (xin l5 6 && (xin (l4 / v_11) 6 && (xnz v_11 && (xnz v_11 && true)))) <|
      f_m_tellRow_L_12 l3 (jrem l4 v_11) l5 (fun l8_14 h_15 =>
        (f_m_tellRow_L_8 l3 k n) (jrem l4 v_11) (l5 + (1 : Int32)) h_15
        ) 1000 (l4 / v_11) (xI h 57 l5.toNatClampNeg (h.1 60 (l4 / v_11).toNatClampNeg))
def f_m_tellRow (l1 : Int32) (l2 : Int32) (h : Hp) : Option (Int32 × Hp) :=
  f_m_tellRow_L_1 l1 l2 (fun l3_5 l4_6 h_7 =>
    f_m_tellRow_L_8 l3_5 (fun l4_16 l5_17 h_18 =>
      some (l3_5, h_18)
      ) 1000 l2 (0 : Int32) h_7
    ) 1000 (0 : Int32) (0 : Int32) h
set_option maxRecDepth 100000 in
set_option maxHeartbeats 4000000 in
theorem f_m_tellRow_L_1_ok {X : XCtx} (hX : XOk X RX5 cX5_tellRow 9 1 66) {r : Int32} {h' : Hp} (hR : XR X (some .int) (some (.int r)) h')  (l1 : Int32) (l2 : Int32)  (k : Int32 → Int32 → Hp → Option (Int32 × Hp))  (hk : ∀ (l3 : Int32) (l4 : Int32) (h : Hp), k l3 l4 h = some (r, h') → XW X 41 [(0, .ref 39), (2, .int l2), (3, .int l3)] [] h) : ∀ (n : Nat) (l3 : Int32) (l4 : Int32) (h : Hp), f_m_tellRow_L_1 l1 l2 k n l3 l4 h = some (r, h') → XW X 5 [(0, .ref 39), (1, .int l1), (2, .int l2), (3, .int l3), (4, .int l4)] [] h := by
  intro n
  induction n with
  | zero => intro l3 l4 h hf; cases hf
  | succ n ih =>
    intro l3 l4 h hf
    rw [f_m_tellRow_L_1] at hf
    refine Xblk hX pkX5_ok [.iload 4, .aload_n 0, .getfield 135] (pc' := 11) (ls' := [(0, .ref 39), (1, .int l1), (2, .int l2), (3, .int l3), (4, .int l4)]) (st' := [.int (h.1 39 25), .int l4]) (h' := h) (g := true) (by decide +kernel) rfl rfl rfl ?_
    refine Xbr hX (.if_icmp .ge (30)) (tgt := 41) (P := (h.1 39 25) ≤ l4) (r := []) (by decide +kernel) rfl (by decide) (fun hc_2 => ?_) (fun hc_2 => ?_)
    · replace hf := xif_t hc_2 hf
      refine XW.pick [0, 2, 3] (ls' := [(0, .ref 39), (2, .int l2), (3, .int l3)]) rfl ?_
      exact hk l3 l4 h hf
    · replace hf := xif_f hc_2 hf
      refine Xblk hX pkX5_ok [.iload_n 1, .iload 4, .ishr, .iconst 1, .iand, .iconst 1] (pc' := 21) (ls' := [(0, .ref 39), (1, .int l1), (2, .int l2), (3, .int l3), (4, .int l4)]) (st' := [.int (1 : Int32), .int ((jshr l1 l4) &&& (1 : Int32))]) (h' := h) (g := true) (by decide +kernel) rfl rfl rfl ?_
      refine XbrN hX (.if_icmp .ne (14)) (tgt := 35) (P := ((jshr l1 l4) &&& (1 : Int32)) = (1 : Int32)) (r := []) (by decide +kernel) rfl (by decide) (fun hc_4 => ?_) (fun hc_4 => ?_)
      · replace hf := xif_t hc_4 hf
        obtain ⟨hg, hf⟩ := xgd_inv hf
        refine Xblk hX pkX5_ok [.aload_n 0, .getfield 73, .iload_n 3, .iload 4, .iastore, .iinc 3 1, .iinc 4 1] (pc' := 38) (ls' := [(4, .int (l4 + (1 : Int32))), (3, .int (l3 + (1 : Int32))), (0, .ref 39), (1, .int l1), (2, .int l2)]) (st' := []) (h' := (xI h 60 l3.toNatClampNeg l4)) (g := (xin l3 6 && true)) (by decide +kernel) rfl rfl hg ?_
        refine Xgoto hX (-33) 5 (by decide +kernel) (by decide) ?_
        refine XW.pick [2, 3, 4, 1, 0] (ls' := [(0, .ref 39), (1, .int l1), (2, .int l2), (3, .int (l3 + (1 : Int32))), (4, .int (l4 + (1 : Int32)))]) rfl ?_
        exact ih (l3 + (1 : Int32)) (l4 + (1 : Int32)) (xI h 60 l3.toNatClampNeg l4) hf
      · replace hf := xif_f hc_4 hf
        refine Xblk hX pkX5_ok [.iinc 4 1] (pc' := 38) (ls' := [(4, .int (l4 + (1 : Int32))), (0, .ref 39), (1, .int l1), (2, .int l2), (3, .int l3)]) (st' := []) (h' := h) (g := true) (by decide +kernel) rfl rfl rfl ?_
        refine Xgoto hX (-33) 5 (by decide +kernel) (by decide) ?_
        refine XW.pick [1, 2, 3, 4, 0] (ls' := [(0, .ref 39), (1, .int l1), (2, .int l2), (3, .int l3), (4, .int (l4 + (1 : Int32)))]) rfl ?_
        exact ih l3 (l4 + (1 : Int32)) h hf
set_option maxRecDepth 100000 in
set_option maxHeartbeats 4000000 in
theorem f_m_tellRow_L_12_ok {X : XCtx} (hX : XOk X RX5 cX5_tellRow 9 1 66) {r : Int32} {h' : Hp} (hR : XR X (some .int) (some (.int r)) h')  (l3 : Int32) (l4 : Int32) (l5 : Int32)  (k : Int32 → Hp → Option (Int32 × Hp))  (hk : ∀ (l8 : Int32) (h : Hp), k l8 h = some (r, h') → XW X 129 [(0, .ref 39), (3, .int l3), (4, .int l4), (5, .int l5)] [] h) : ∀ (n : Nat) (l8 : Int32) (h : Hp), f_m_tellRow_L_12 l3 l4 l5 k n l8 h = some (r, h') → XW X 96 [(0, .ref 39), (3, .int l3), (4, .int l4), (5, .int l5), (8, .int l8)] [] h := by
  intro n
  induction n with
  | zero => intro l8 h hf; cases hf
  | succ n ih =>
    intro l8 h hf
    rw [f_m_tellRow_L_12] at hf
    refine Xblk hX pkX5_ok [.iload 8, .iload_n 3, .iconst 1, .isub, .iload 5, .isub] (pc' := 104) (ls' := [(0, .ref 39), (3, .int l3), (4, .int l4), (5, .int l5), (8, .int l8)]) (st' := [.int ((l3 - (1 : Int32)) - l5), .int l8]) (h' := h) (g := true) (by decide +kernel) rfl rfl rfl ?_
    refine Xbr hX (.if_icmp .ge (25)) (tgt := 129) (P := ((l3 - (1 : Int32)) - l5) ≤ l8) (r := []) (by decide +kernel) rfl (by decide) (fun hc_13 => ?_) (fun hc_13 => ?_)
    · replace hf := xif_t hc_13 hf
      refine XW.pick [0, 1, 2, 3] (ls' := [(0, .ref 39), (3, .int l3), (4, .int l4), (5, .int l5)]) rfl ?_
      exact hk l8 h hf
    · replace hf := xif_f hc_13 hf
      obtain ⟨hg, hf⟩ := xgd_inv hf
      refine Xblk hX pkX5_ok [.aload_n 0, .getfield 73, .iload 8, .aload_n 0, .getfield 73, .iload 8, .iconst 1, .iadd, .iaload, .iastore, .iinc 8 1] (pc' := 126) (ls' := [(8, .int (l8 + (1 : Int32))), (0, .ref 39), (3, .int l3), (4, .int l4), (5, .int l5)]) (st' := []) (h' := (xI h 60 l8.toNatClampNeg (h.1 60 (l8 + (1 : Int32)).toNatClampNeg))) (g := (xin l8 6 && (xin (l8 + (1 : Int32)) 6 && true))) (by decide +kernel) rfl rfl hg ?_
      refine Xgoto hX (-30) 96 (by decide +kernel) (by decide) ?_
      refine XW.pick [1, 2, 3, 4, 0] (ls' := [(0, .ref 39), (3, .int l3), (4, .int l4), (5, .int l5), (8, .int (l8 + (1 : Int32)))]) rfl ?_
      exact ih (l8 + (1 : Int32)) (xI h 60 l8.toNatClampNeg (h.1 60 (l8 + (1 : Int32)).toNatClampNeg)) hf
set_option maxRecDepth 100000 in
set_option maxHeartbeats 4000000 in
theorem f_m_tellRow_L_8_ok {X : XCtx} (hX : XOk X RX5 cX5_tellRow 9 1 66) {r : Int32} {h' : Hp} (hR : XR X (some .int) (some (.int r)) h')  (l3 : Int32)  (k : Int32 → Int32 → Hp → Option (Int32 × Hp))  (hk : ∀ (l4 : Int32) (l5 : Int32) (h : Hp), k l4 l5 h = some (r, h') → XW X 135 [(3, .int l3)] [] h) : ∀ (n : Nat) (l4 : Int32) (l5 : Int32) (h : Hp), f_m_tellRow_L_8 l3 k n l4 l5 h = some (r, h') → XW X 47 [(0, .ref 39), (3, .int l3), (4, .int l4), (5, .int l5)] [] h := by
  intro n
  induction n with
  | zero => intro l4 l5 h hf; cases hf
  | succ n ih =>
    intro l4 l5 h hf
    rw [f_m_tellRow_L_8] at hf
    refine Xblk hX pkX5_ok [.iload 5, .iload_n 3] (pc' := 50) (ls' := [(0, .ref 39), (3, .int l3), (4, .int l4), (5, .int l5)]) (st' := [.int l3, .int l5]) (h' := h) (g := true) (by decide +kernel) rfl rfl rfl ?_
    refine Xbr hX (.if_icmp .ge (85)) (tgt := 135) (P := l3 ≤ l5) (r := []) (by decide +kernel) rfl (by decide) (fun hc_9 => ?_) (fun hc_9 => ?_)
    · replace hf := xif_t hc_9 hf
      refine XW.pick [1] (ls' := [(3, .int l3)]) rfl ?_
      exact hk l4 l5 h hf
    · replace hf := xif_f hc_9 hf
      refine Xblk hX pkX5_ok [.iload_n 3, .iconst 1, .isub, .iload 5, .isub] (pc' := 59) (ls' := [(0, .ref 39), (3, .int l3), (4, .int l4), (5, .int l5)]) (st' := [.int ((l3 - (1 : Int32)) - l5)]) (h' := h) (g := true) (by decide +kernel) rfl rfl rfl ?_
      obtain ⟨v_11, hc_10, hf⟩ := xbd1_inv hf
      refine XcallS hX (mt_m_rowsOf ((l3 - (1 : Int32)) - l5) h hc_10) (rest := []) (by decide) (by decide) xm_X5_rowsOf xi_X5_rowsOf xl_RX5_241 rfl (Nat.le_of_ble_eq_true rfl) (by decide +kernel) ?_
      show XW X 62 [(0, .ref 39), (3, .int l3), (4, .int l4), (5, .int l5)] [.int v_11] h
      obtain ⟨hg, hf⟩ := xgd_inv hf
      refine Xblk hX pkX5_ok [.istore 6, .iload 4, .iload 6, .idiv, .istore 7, .iload 4, .iload 6, .irem, .istore 4, .aload_n 0, .getfield 64, .iload 5, .aload_n 0, .getfield 73, .iload 7, .iaload, .iastore, .iload 7, .istore 8] (pc' := 96) (ls' := [(8, .int (l4 / v_11)), (4, .int (jrem l4 v_11)), (7, .int (l4 / v_11)), (6, .int v_11), (0, .ref 39), (3, .int l3), (5, .int l5)]) (st' := []) (h' := (xI h 57 l5.toNatClampNeg (h.1 60 (l4 / v_11).toNatClampNeg))) (g := (xin l5 6 && (xin (l4 / v_11) 6 && (xnz v_11 && (xnz v_11 && true))))) (by decide +kernel) rfl rfl hg ?_
      refine XW.pick [4, 5, 1, 6, 0] (ls' := [(0, .ref 39), (3, .int l3), (4, .int (jrem l4 v_11)), (5, .int l5), (8, .int (l4 / v_11))]) rfl ?_
      refine f_m_tellRow_L_12_ok hX hR l3 (jrem l4 v_11) l5 _  (fun l8_14 h_15 hf => ?_) 1000 (l4 / v_11) (xI h 57 l5.toNatClampNeg (h.1 60 (l4 / v_11).toNatClampNeg)) hf
      refine Xblk hX pkX5_ok [.iinc 5 1] (pc' := 132) (ls' := [(5, .int (l5 + (1 : Int32))), (0, .ref 39), (3, .int l3), (4, .int (jrem l4 v_11))]) (st' := []) (h' := h_15) (g := true) (by decide +kernel) rfl rfl rfl ?_
      refine Xgoto hX (-85) 47 (by decide +kernel) (by decide) ?_
      refine XW.pick [1, 2, 3, 0] (ls' := [(0, .ref 39), (3, .int l3), (4, .int (jrem l4 v_11)), (5, .int (l5 + (1 : Int32)))]) rfl ?_
      exact ih (jrem l4 v_11) (l5 + (1 : Int32)) h_15 hf
set_option maxRecDepth 100000 in
set_option maxHeartbeats 4000000 in
theorem mt_m_tellRow (l1 : Int32) (l2 : Int32) (h : Hp) {r : Int32} {h' : Hp} (hf : f_m_tellRow l1 l2 h = some (r, h')) : MT 1 66 yX5_tellRow cX5_tellRow 9 (some .int) [.ref 39, .int l1, .int l2] h (some (.int r)) h' := by
  refine MT.of (by decide +kernel) (Nat.le_of_ble_eq_true rfl) fun X hX hR => ?_
  unfold f_m_tellRow at hf
  refine Xblk hX pkX5_ok [.iconst 0, .istore_n 3, .iconst 0, .istore 4] (pc' := 5) (ls' := [(4, .int (0 : Int32)), (3, .int (0 : Int32)), (0, .ref 39), (1, .int l1), (2, .int l2)]) (st' := []) (h' := h) (g := true) (by decide +kernel) rfl rfl rfl ?_
  refine XW.pick [2, 3, 4, 1, 0] (ls' := [(0, .ref 39), (1, .int l1), (2, .int l2), (3, .int (0 : Int32)), (4, .int (0 : Int32))]) rfl ?_
  refine f_m_tellRow_L_1_ok hX hR l1 l2 _  (fun l3_5 l4_6 h_7 hf => ?_) 1000 (0 : Int32) (0 : Int32) h hf
  refine Xblk hX pkX5_ok [.iload_n 2, .istore 4, .iconst 0, .istore 5] (pc' := 47) (ls' := [(5, .int (0 : Int32)), (4, .int l2), (0, .ref 39), (2, .int l2), (3, .int l3_5)]) (st' := []) (h' := h_7) (g := true) (by decide +kernel) rfl rfl rfl ?_
  refine XW.pick [2, 4, 1, 0] (ls' := [(0, .ref 39), (3, .int l3_5), (4, .int l2), (5, .int (0 : Int32))]) rfl ?_
  refine f_m_tellRow_L_8_ok hX hR l3_5 _  (fun l4_16 l5_17 h_18 hf => ?_) 1000 l2 (0 : Int32) h_7 hf
  refine Xblk hX pkX5_ok [.iload_n 3] (pc' := 136) (ls' := [(3, .int l3_5)]) (st' := [.int l3_5]) (h' := h_18) (g := true) (by decide +kernel) rfl rfl rfl ?_
  exact XrI2 hX hR hf (by decide +kernel)
def f_m_lateOf_j_5  (k14 : Int32 → Int32 → Int32 → Int32 → Option (Int32)) (k94 : Int32 → Int32 → Int32 → Int32 → Option (Int32)) (l2 : Int32) (l3 : Int32) (l6 : Int32) (l7 : Int32) (s0 : Int32) (s1 : Int32) (h : Hp) : Option (Int32) :=
  k14 l3 (s1 + s0) ((2 : Int32) + l7) (l6 + (1 : Int32))
def f_m_lateOf_L_1  (l2 : Int32) (h : Hp) (k : Int32 → Int32 → Int32 → Int32 → Option (Int32)) : Nat → Int32 → Int32 → Int32 → Int32 → Option (Int32)
  | 0, _, _, _, _ => none
  | n + 1, l3, l4, l5, l6 =>
    if l2 ≤ l6 then
      k l3 l4 l5 l6
    else
      xgd (xin (h.1 57 l6.toNatClampNeg) 6 && (xin (h.1 57 l6.toNatClampNeg) 6 && (xin (((6 : Int32) * l5) + (h.1 57 l6.toNatClampNeg)) 48 && (xin l6 6 && true)))) <|
      if (l3 + ((h.1 55 (((6 : Int32) * l5) + (h.1 57 l6.toNatClampNeg)).toNatClampNeg) + (h.1 56 (h.1 57 l6.toNatClampNeg).toNatClampNeg))) ≤ (h.1 54 (h.1 57 l6.toNatClampNeg).toNatClampNeg) then
        f_m_lateOf_j_5 (f_m_lateOf_L_1 l2 h k n) k l2 (l3 + ((h.1 55 (((6 : Int32) * l5) + (h.1 57 l6.toNatClampNeg)).toNatClampNeg) + (h.1 56 (h.1 57 l6.toNatClampNeg).toNatClampNeg))) l6 (h.1 57 l6.toNatClampNeg) (0 : Int32) l4 h
      else
        xgd (xin (h.1 57 l6.toNatClampNeg) 6 && true) <|
        f_m_lateOf_j_5 (f_m_lateOf_L_1 l2 h k n) k l2 (l3 + ((h.1 55 (((6 : Int32) * l5) + (h.1 57 l6.toNatClampNeg)).toNatClampNeg) + (h.1 56 (h.1 57 l6.toNatClampNeg).toNatClampNeg))) l6 (h.1 57 l6.toNatClampNeg) ((l3 + ((h.1 55 (((6 : Int32) * l5) + (h.1 57 l6.toNatClampNeg)).toNatClampNeg) + (h.1 56 (h.1 57 l6.toNatClampNeg).toNatClampNeg))) - (h.1 54 (h.1 57 l6.toNatClampNeg).toNatClampNeg)) l4 h
def f_m_lateOf (l1 : Int32) (l2 : Int32) (h : Hp) : Option (Int32) :=
  f_m_lateOf_L_1 l2 h (fun l3_6 l4_7 l5_8 l6_9 =>
    some l4_7
    ) 1000 (h.1 39 19) (0 : Int32) l1 (0 : Int32)
set_option maxRecDepth 100000 in
set_option maxHeartbeats 4000000 in
theorem f_m_lateOf_j_5_ok {X : XCtx} (hX : XOk X RX5 cX5_lateOf 8 0 66) {r : Int32} {h : Hp} (hR : XR X (some .int) (some (.int r)) h)   (l2 : Int32) (l3 : Int32) (l6 : Int32) (l7 : Int32) (s0 : Int32) (s1 : Int32) (k14 : Int32 → Int32 → Int32 → Int32 → Option (Int32)) (k94 : Int32 → Int32 → Int32 → Int32 → Option (Int32))  (hk14 : ∀ (l3 : Int32) (l4 : Int32) (l5 : Int32) (l6 : Int32), k14 l3 l4 l5 l6 = some r → XW X 14 [(0, .ref 39), (2, .int l2), (3, .int l3), (4, .int l4), (5, .int l5), (6, .int l6)] [] h) (hk94 : ∀ (l3 : Int32) (l4 : Int32) (l5 : Int32) (l6 : Int32), k94 l3 l4 l5 l6 = some r → XW X 94 [(4, .int l4)] [] h) (hf : f_m_lateOf_j_5 k14 k94 l2 l3 l6 l7 s0 s1 h = some r) : XW X 79 [(0, .ref 39), (2, .int l2), (3, .int l3), (6, .int l6), (7, .int l7)] [.int s0, .int s1] h := by
  unfold f_m_lateOf_j_5 at hf
  refine Xblk hX pkX5_ok [.iadd, .istore 4, .iconst 2, .iload 7, .iadd, .istore 5, .iinc 6 1] (pc' := 91) (ls' := [(6, .int (l6 + (1 : Int32))), (5, .int ((2 : Int32) + l7)), (4, .int (s1 + s0)), (0, .ref 39), (2, .int l2), (3, .int l3), (7, .int l7)]) (st' := []) (h' := h) (g := true) (by decide +kernel) rfl rfl rfl ?_
  refine Xgoto hX (-77) 14 (by decide +kernel) (by decide) ?_
  refine XW.pick [3, 4, 5, 2, 1, 0] (ls' := [(0, .ref 39), (2, .int l2), (3, .int l3), (4, .int (s1 + s0)), (5, .int ((2 : Int32) + l7)), (6, .int (l6 + (1 : Int32)))]) rfl ?_
  exact hk14 l3 (s1 + s0) ((2 : Int32) + l7) (l6 + (1 : Int32)) hf
set_option maxRecDepth 100000 in
set_option maxHeartbeats 4000000 in
theorem f_m_lateOf_L_1_ok {X : XCtx} (hX : XOk X RX5 cX5_lateOf 8 0 66) {r : Int32} {h : Hp} (hR : XR X (some .int) (some (.int r)) h)  (l2 : Int32)  (k : Int32 → Int32 → Int32 → Int32 → Option (Int32))  (hk : ∀ (l3 : Int32) (l4 : Int32) (l5 : Int32) (l6 : Int32), k l3 l4 l5 l6 = some r → XW X 94 [(4, .int l4)] [] h) : ∀ (n : Nat) (l3 : Int32) (l4 : Int32) (l5 : Int32) (l6 : Int32), f_m_lateOf_L_1 l2 h k n l3 l4 l5 l6 = some r → XW X 14 [(0, .ref 39), (2, .int l2), (3, .int l3), (4, .int l4), (5, .int l5), (6, .int l6)] [] h := by
  intro n
  induction n with
  | zero => intro l3 l4 l5 l6 hf; cases hf
  | succ n ih =>
    intro l3 l4 l5 l6 hf
    rw [f_m_lateOf_L_1] at hf
    refine Xblk hX pkX5_ok [.iload 6, .iload_n 2] (pc' := 17) (ls' := [(0, .ref 39), (2, .int l2), (3, .int l3), (4, .int l4), (5, .int l5), (6, .int l6)]) (st' := [.int l2, .int l6]) (h' := h) (g := true) (by decide +kernel) rfl rfl rfl ?_
    refine Xbr hX (.if_icmp .ge (77)) (tgt := 94) (P := l2 ≤ l6) (r := []) (by decide +kernel) rfl (by decide) (fun hc_2 => ?_) (fun hc_2 => ?_)
    · replace hf := xif_t hc_2 hf
      refine XW.pick [3] (ls' := [(4, .int l4)]) rfl ?_
      exact hk l3 l4 l5 l6 hf
    · replace hf := xif_f hc_2 hf
      obtain ⟨hg, hf⟩ := xgd_inv hf
      refine Xblk hX pkX5_ok [.aload_n 0, .getfield 64, .iload 6, .iaload, .istore 7, .iload_n 3, .aload_n 0, .getfield 58, .bipush 6, .iload 5, .imul, .iload 7, .iadd, .iaload, .aload_n 0, .getfield 61, .iload 7, .iaload, .iadd, .iadd, .istore_n 3, .iload 4, .iload_n 3, .aload_n 0, .getfield 55, .iload 7, .iaload] (pc' := 63) (ls' := [(3, .int (l3 + ((h.1 55 (((6 : Int32) * l5) + (h.1 57 l6.toNatClampNeg)).toNatClampNeg) + (h.1 56 (h.1 57 l6.toNatClampNeg).toNatClampNeg)))), (7, .int (h.1 57 l6.toNatClampNeg)), (0, .ref 39), (2, .int l2), (4, .int l4), (5, .int l5), (6, .int l6)]) (st' := [.int (h.1 54 (h.1 57 l6.toNatClampNeg).toNatClampNeg), .int (l3 + ((h.1 55 (((6 : Int32) * l5) + (h.1 57 l6.toNatClampNeg)).toNatClampNeg) + (h.1 56 (h.1 57 l6.toNatClampNeg).toNatClampNeg))), .int l4]) (h' := h) (g := (xin (h.1 57 l6.toNatClampNeg) 6 && (xin (h.1 57 l6.toNatClampNeg) 6 && (xin (((6 : Int32) * l5) + (h.1 57 l6.toNatClampNeg)) 48 && (xin l6 6 && true))))) (by decide +kernel) rfl rfl hg ?_
      refine Xbr hX (.if_icmp .le (15)) (tgt := 78) (P := (l3 + ((h.1 55 (((6 : Int32) * l5) + (h.1 57 l6.toNatClampNeg)).toNatClampNeg) + (h.1 56 (h.1 57 l6.toNatClampNeg).toNatClampNeg))) ≤ (h.1 54 (h.1 57 l6.toNatClampNeg).toNatClampNeg)) (r := [.int l4]) (by decide +kernel) rfl (by decide) (fun hc_4 => ?_) (fun hc_4 => ?_)
      · replace hf := xif_t hc_4 hf
        refine Xblk hX pkX5_ok [.iconst 0] (pc' := 79) (ls' := [(3, .int (l3 + ((h.1 55 (((6 : Int32) * l5) + (h.1 57 l6.toNatClampNeg)).toNatClampNeg) + (h.1 56 (h.1 57 l6.toNatClampNeg).toNatClampNeg)))), (7, .int (h.1 57 l6.toNatClampNeg)), (0, .ref 39), (2, .int l2), (4, .int l4), (5, .int l5), (6, .int l6)]) (st' := [.int (0 : Int32), .int l4]) (h' := h) (g := true) (by decide +kernel) rfl rfl rfl ?_
        refine XW.pick [2, 3, 0, 6, 1] (ls' := [(0, .ref 39), (2, .int l2), (3, .int (l3 + ((h.1 55 (((6 : Int32) * l5) + (h.1 57 l6.toNatClampNeg)).toNatClampNeg) + (h.1 56 (h.1 57 l6.toNatClampNeg).toNatClampNeg)))), (6, .int l6), (7, .int (h.1 57 l6.toNatClampNeg))]) rfl ?_
        exact f_m_lateOf_j_5_ok hX hR l2 (l3 + ((h.1 55 (((6 : Int32) * l5) + (h.1 57 l6.toNatClampNeg)).toNatClampNeg) + (h.1 56 (h.1 57 l6.toNatClampNeg).toNatClampNeg))) l6 (h.1 57 l6.toNatClampNeg) (0 : Int32) l4 _ _ ih hk hf
      · replace hf := xif_f hc_4 hf
        obtain ⟨hg, hf⟩ := xgd_inv hf
        refine Xblk hX pkX5_ok [.iload_n 3, .aload_n 0, .getfield 55, .iload 7, .iaload, .isub] (pc' := 75) (ls' := [(3, .int (l3 + ((h.1 55 (((6 : Int32) * l5) + (h.1 57 l6.toNatClampNeg)).toNatClampNeg) + (h.1 56 (h.1 57 l6.toNatClampNeg).toNatClampNeg)))), (7, .int (h.1 57 l6.toNatClampNeg)), (0, .ref 39), (2, .int l2), (4, .int l4), (5, .int l5), (6, .int l6)]) (st' := [.int ((l3 + ((h.1 55 (((6 : Int32) * l5) + (h.1 57 l6.toNatClampNeg)).toNatClampNeg) + (h.1 56 (h.1 57 l6.toNatClampNeg).toNatClampNeg))) - (h.1 54 (h.1 57 l6.toNatClampNeg).toNatClampNeg)), .int l4]) (h' := h) (g := (xin (h.1 57 l6.toNatClampNeg) 6 && true)) (by decide +kernel) rfl rfl hg ?_
        refine Xgoto hX (4) 79 (by decide +kernel) (by decide) ?_
        refine XW.pick [2, 3, 0, 6, 1] (ls' := [(0, .ref 39), (2, .int l2), (3, .int (l3 + ((h.1 55 (((6 : Int32) * l5) + (h.1 57 l6.toNatClampNeg)).toNatClampNeg) + (h.1 56 (h.1 57 l6.toNatClampNeg).toNatClampNeg)))), (6, .int l6), (7, .int (h.1 57 l6.toNatClampNeg))]) rfl ?_
        exact f_m_lateOf_j_5_ok hX hR l2 (l3 + ((h.1 55 (((6 : Int32) * l5) + (h.1 57 l6.toNatClampNeg)).toNatClampNeg) + (h.1 56 (h.1 57 l6.toNatClampNeg).toNatClampNeg))) l6 (h.1 57 l6.toNatClampNeg) ((l3 + ((h.1 55 (((6 : Int32) * l5) + (h.1 57 l6.toNatClampNeg)).toNatClampNeg) + (h.1 56 (h.1 57 l6.toNatClampNeg).toNatClampNeg))) - (h.1 54 (h.1 57 l6.toNatClampNeg).toNatClampNeg)) l4 _ _ ih hk hf
set_option maxRecDepth 100000 in
set_option maxHeartbeats 4000000 in
theorem mt_m_lateOf (l1 : Int32) (l2 : Int32) (h : Hp) {r : Int32} (hf : f_m_lateOf l1 l2 h = some r) : MT 0 66 yX5_lateOf cX5_lateOf 8 (some .int) [.ref 39, .int l1, .int l2] h (some (.int r)) h := by
  refine MT.of (by decide +kernel) (Nat.le_of_ble_eq_true rfl) fun X hX hR => ?_
  unfold f_m_lateOf at hf
  refine Xblk hX pkX5_ok [.aload_n 0, .getfield 141, .istore_n 3, .iconst 0, .istore 4, .iload_n 1, .istore 5, .iconst 0, .istore 6] (pc' := 14) (ls' := [(6, .int (0 : Int32)), (5, .int l1), (4, .int (0 : Int32)), (3, .int (h.1 39 19)), (0, .ref 39), (1, .int l1), (2, .int l2)]) (st' := []) (h' := h) (g := true) (by decide +kernel) rfl rfl rfl ?_
  refine XW.pick [4, 6, 3, 2, 1, 0] (ls' := [(0, .ref 39), (2, .int l2), (3, .int (h.1 39 19)), (4, .int (0 : Int32)), (5, .int l1), (6, .int (0 : Int32))]) rfl ?_
  refine f_m_lateOf_L_1_ok hX hR l2 _  (fun l3_6 l4_7 l5_8 l6_9 hf => ?_) 1000 (h.1 39 19) (0 : Int32) l1 (0 : Int32) hf
  refine Xblk hX pkX5_ok [.iload 4] (pc' := 96) (ls' := [(4, .int l4_7)]) (st' := [.int l4_7]) (h' := h) (g := true) (by decide +kernel) rfl rfl rfl ?_
  exact XrI1 hX hR hf (by decide +kernel)
