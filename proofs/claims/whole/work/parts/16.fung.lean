def f_m_isPerson (l1 : Int32) (h : Hp) : Int32 :=
  (f_m_in l1 (0 : Int32) ((h.1 39 12) - (1 : Int32)))
theorem xb_m_isPerson (l1 : Int32) (h : Hp) : xbool (f_m_isPerson l1 h) = true := by
  unfold f_m_isPerson
  (repeat' split) <;> first | rfl | exact xb_m_in _ _ _
set_option maxRecDepth 100000 in
set_option maxHeartbeats 4000000 in
theorem mt_m_isPerson (l1 : Int32) (h : Hp) : MT 1 66 yX5_isPerson cX5_isPerson 2 (some .boolean) [.ref 39, .int l1] h (some (.int (f_m_isPerson l1 h))) h := by
  obtain ⟨o, hf⟩ : ∃ o, f_m_isPerson l1 h = o := ⟨_, rfl⟩
  rw [hf]
  refine MT.of (by decide +kernel) (Nat.le_of_ble_eq_true rfl) fun X hX hR => ?_
  unfold f_m_isPerson at hf
  refine Xblk hX pkX5_ok [.iload_n 1, .iconst 0, .aload_n 0, .getfield 129, .iconst 1, .isub] (pc' := 8) (ls' := [(0, .ref 39), (1, .int l1)]) (st' := [.int ((h.1 39 12) - (1 : Int32)), .int (0 : Int32), .int l1]) (h' := h) (g := true) (by decide +kernel) rfl rfl rfl ?_
  refine XcallS hX (mt_m_in l1 (0 : Int32) ((h.1 39 12) - (1 : Int32)) h) (rest := []) (by decide) (by decide) xm_X5_in xi_X5_in xl_RX5_107 rfl (Nat.le_of_ble_eq_true rfl) (by decide +kernel) ?_
  show XW X 11 [(0, .ref 39), (1, .int l1)] [.int (f_m_in l1 (0 : Int32) ((h.1 39 12) - (1 : Int32)))] h
  subst hf
  exact XretZ hX hR (xb_m_in l1 (0 : Int32) ((h.1 39 12) - (1 : Int32))) (by decide +kernel)
def f_m_isCarrier (l1 : Int32) (h : Hp) : Int32 :=
  (f_m_in l1 (0 : Int32) ((h.1 39 15) - (1 : Int32)))
theorem xb_m_isCarrier (l1 : Int32) (h : Hp) : xbool (f_m_isCarrier l1 h) = true := by
  unfold f_m_isCarrier
  (repeat' split) <;> first | rfl | exact xb_m_in _ _ _
set_option maxRecDepth 100000 in
set_option maxHeartbeats 4000000 in
theorem mt_m_isCarrier (l1 : Int32) (h : Hp) : MT 1 66 yX5_isCarrier cX5_isCarrier 2 (some .boolean) [.ref 39, .int l1] h (some (.int (f_m_isCarrier l1 h))) h := by
  obtain ⟨o, hf⟩ : ∃ o, f_m_isCarrier l1 h = o := ⟨_, rfl⟩
  rw [hf]
  refine MT.of (by decide +kernel) (Nat.le_of_ble_eq_true rfl) fun X hX hR => ?_
  unfold f_m_isCarrier at hf
  refine Xblk hX pkX5_ok [.iload_n 1, .iconst 0, .aload_n 0, .getfield 132, .iconst 1, .isub] (pc' := 8) (ls' := [(0, .ref 39), (1, .int l1)]) (st' := [.int ((h.1 39 15) - (1 : Int32)), .int (0 : Int32), .int l1]) (h' := h) (g := true) (by decide +kernel) rfl rfl rfl ?_
  refine XcallS hX (mt_m_in l1 (0 : Int32) ((h.1 39 15) - (1 : Int32)) h) (rest := []) (by decide) (by decide) xm_X5_in xi_X5_in xl_RX5_107 rfl (Nat.le_of_ble_eq_true rfl) (by decide +kernel) ?_
  show XW X 11 [(0, .ref 39), (1, .int l1)] [.int (f_m_in l1 (0 : Int32) ((h.1 39 15) - (1 : Int32)))] h
  subst hf
  exact XretZ hX hR (xb_m_in l1 (0 : Int32) ((h.1 39 15) - (1 : Int32))) (by decide +kernel)
def f_m_at (l1 : Int32) (l2 : Int32) (h : Hp) : Option (Int32) :=
  if l2 = (0 : Int32) then
    if (f_m_isPerson l1 h) = (0 : Int32) then
      some (-1 : Int32)
    else
      xgd (xin l1 18 && true) <|
      some (h.1 43 l1.toNatClampNeg)
  else
    if l2 = (1 : Int32) then
      if (f_m_isCarrier l1 h) = (0 : Int32) then
        some (-1 : Int32)
      else
        xgd (xin l1 6 && true) <|
        some (h.1 45 l1.toNatClampNeg)
    else
      if l2 = (2 : Int32) then
        if (f_m_isPerson l1 h) = (0 : Int32) then
          some (-1 : Int32)
        else
          xgd (xin l1 18 && true) <|
          some (h.1 44 l1.toNatClampNeg)
      else
        if l2 = (3 : Int32) then
          if (f_m_isCarrier l1 h) = (0 : Int32) then
            some (-1 : Int32)
          else
            xgd (xin l1 6 && true) <|
            some (h.1 46 l1.toNatClampNeg)
        else
          some (-1 : Int32)
set_option maxRecDepth 100000 in
set_option maxHeartbeats 4000000 in
theorem mt_m_at (l1 : Int32) (l2 : Int32) (h : Hp) {r : Int32} (hf : f_m_at l1 l2 h = some r) : MT 2 66 yX5_at cX5_at 3 (some .int) [.ref 39, .int l1, .int l2] h (some (.int r)) h := by
  refine MT.of (by decide +kernel) (Nat.le_of_ble_eq_true rfl) fun X hX hR => ?_
  unfold f_m_at at hf
  refine Xblk hX pkX5_ok [.iload_n 2] (pc' := 1) (ls' := [(0, .ref 39), (1, .int l1), (2, .int l2)]) (st' := [.int l2]) (h' := h) (g := true) (by decide +kernel) rfl rfl rfl ?_
  by_cases hc_1 : l2 = (0 : Int32)
  · replace hf := xif_t hc_1 hf
    refine XswAt hX 32 hc_1 (show decode _ _ = .ok (.tableswitch (107) (0) (3) #[31, 50, 69, 88], 31) by decide +kernel) (by decide) (by decide) (o := 31) (by decide) (by decide) ?_
    refine Xblk hX pkX5_ok [.aload_n 0, .iload_n 1] (pc' := 34) (ls' := [(0, .ref 39), (1, .int l1), (2, .int l2)]) (st' := [.int l1, .ref 39]) (h' := h) (g := true) (by decide +kernel) rfl rfl rfl ?_
    refine XcallV hX (mt_m_isPerson l1 h) (rest := []) (by decide) (by decide) xm_X5_isPerson xi_X5_isPerson xs_X5_isPerson xl_RX5_172 (by decide) (xsh_39) rfl rfl rfl (Nat.le_of_ble_eq_true rfl) (by decide +kernel) ?_
    show XW X 37 [(0, .ref 39), (1, .int l1), (2, .int l2)] [.int (f_m_isPerson l1 h)] h
    refine Xbr hX (.ifCond .eq (12)) (tgt := 49) (P := (f_m_isPerson l1 h) = (0 : Int32)) (r := []) (by decide +kernel) rfl (by decide) (fun hc_3 => ?_) (fun hc_3 => ?_)
    · replace hf := xif_t hc_3 hf
      refine Xblk hX pkX5_ok [.iconst (-1)] (pc' := 50) (ls' := [(0, .ref 39), (1, .int l1), (2, .int l2)]) (st' := [.int (-1 : Int32)]) (h' := h) (g := true) (by decide +kernel) rfl rfl rfl ?_
      exact XrI1 hX hR hf (by decide +kernel)
    · replace hf := xif_f hc_3 hf
      obtain ⟨hg, hf⟩ := xgd_inv hf
      refine Xblk hX pkX5_ok [.aload_n 0, .getfield 20, .iload_n 1, .iaload] (pc' := 46) (ls' := [(0, .ref 39), (1, .int l1), (2, .int l2)]) (st' := [.int (h.1 43 l1.toNatClampNeg)]) (h' := h) (g := (xin l1 18 && true)) (by decide +kernel) rfl rfl hg ?_
      refine Xgoto hX (4) 50 (by decide +kernel) (by decide) ?_
      exact XrI1 hX hR hf (by decide +kernel)
  · replace hf := xif_f hc_1 hf
    by_cases hc_4 : l2 = (1 : Int32)
    · replace hf := xif_t hc_4 hf
      refine XswAt hX 51 hc_4 (show decode _ _ = .ok (.tableswitch (107) (0) (3) #[31, 50, 69, 88], 31) by decide +kernel) (by decide) (by decide) (o := 50) (by decide) (by decide) ?_
      refine Xblk hX pkX5_ok [.aload_n 0, .iload_n 1] (pc' := 53) (ls' := [(0, .ref 39), (1, .int l1), (2, .int l2)]) (st' := [.int l1, .ref 39]) (h' := h) (g := true) (by decide +kernel) rfl rfl rfl ?_
      refine XcallV hX (mt_m_isCarrier l1 h) (rest := []) (by decide) (by decide) xm_X5_isCarrier xi_X5_isCarrier xs_X5_isCarrier xl_RX5_175 (by decide) (xsh_39) rfl rfl rfl (Nat.le_of_ble_eq_true rfl) (by decide +kernel) ?_
      show XW X 56 [(0, .ref 39), (1, .int l1), (2, .int l2)] [.int (f_m_isCarrier l1 h)] h
      refine Xbr hX (.ifCond .eq (12)) (tgt := 68) (P := (f_m_isCarrier l1 h) = (0 : Int32)) (r := []) (by decide +kernel) rfl (by decide) (fun hc_6 => ?_) (fun hc_6 => ?_)
      · replace hf := xif_t hc_6 hf
        refine Xblk hX pkX5_ok [.iconst (-1)] (pc' := 69) (ls' := [(0, .ref 39), (1, .int l1), (2, .int l2)]) (st' := [.int (-1 : Int32)]) (h' := h) (g := true) (by decide +kernel) rfl rfl rfl ?_
        exact XrI1 hX hR hf (by decide +kernel)
      · replace hf := xif_f hc_6 hf
        obtain ⟨hg, hf⟩ := xgd_inv hf
        refine Xblk hX pkX5_ok [.aload_n 0, .getfield 26, .iload_n 1, .iaload] (pc' := 65) (ls' := [(0, .ref 39), (1, .int l1), (2, .int l2)]) (st' := [.int (h.1 45 l1.toNatClampNeg)]) (h' := h) (g := (xin l1 6 && true)) (by decide +kernel) rfl rfl hg ?_
        refine Xgoto hX (4) 69 (by decide +kernel) (by decide) ?_
        exact XrI1 hX hR hf (by decide +kernel)
    · replace hf := xif_f hc_4 hf
      by_cases hc_7 : l2 = (2 : Int32)
      · replace hf := xif_t hc_7 hf
        refine XswAt hX 70 hc_7 (show decode _ _ = .ok (.tableswitch (107) (0) (3) #[31, 50, 69, 88], 31) by decide +kernel) (by decide) (by decide) (o := 69) (by decide) (by decide) ?_
        refine Xblk hX pkX5_ok [.aload_n 0, .iload_n 1] (pc' := 72) (ls' := [(0, .ref 39), (1, .int l1), (2, .int l2)]) (st' := [.int l1, .ref 39]) (h' := h) (g := true) (by decide +kernel) rfl rfl rfl ?_
        refine XcallV hX (mt_m_isPerson l1 h) (rest := []) (by decide) (by decide) xm_X5_isPerson xi_X5_isPerson xs_X5_isPerson xl_RX5_172 (by decide) (xsh_39) rfl rfl rfl (Nat.le_of_ble_eq_true rfl) (by decide +kernel) ?_
        show XW X 75 [(0, .ref 39), (1, .int l1), (2, .int l2)] [.int (f_m_isPerson l1 h)] h
        refine Xbr hX (.ifCond .eq (12)) (tgt := 87) (P := (f_m_isPerson l1 h) = (0 : Int32)) (r := []) (by decide +kernel) rfl (by decide) (fun hc_9 => ?_) (fun hc_9 => ?_)
        · replace hf := xif_t hc_9 hf
          refine Xblk hX pkX5_ok [.iconst (-1)] (pc' := 88) (ls' := [(0, .ref 39), (1, .int l1), (2, .int l2)]) (st' := [.int (-1 : Int32)]) (h' := h) (g := true) (by decide +kernel) rfl rfl rfl ?_
          exact XrI1 hX hR hf (by decide +kernel)
        · replace hf := xif_f hc_9 hf
          obtain ⟨hg, hf⟩ := xgd_inv hf
          refine Xblk hX pkX5_ok [.aload_n 0, .getfield 23, .iload_n 1, .iaload] (pc' := 84) (ls' := [(0, .ref 39), (1, .int l1), (2, .int l2)]) (st' := [.int (h.1 44 l1.toNatClampNeg)]) (h' := h) (g := (xin l1 18 && true)) (by decide +kernel) rfl rfl hg ?_
          refine Xgoto hX (4) 88 (by decide +kernel) (by decide) ?_
          exact XrI1 hX hR hf (by decide +kernel)
      · replace hf := xif_f hc_7 hf
        by_cases hc_10 : l2 = (3 : Int32)
        · replace hf := xif_t hc_10 hf
          refine XswAt hX 89 hc_10 (show decode _ _ = .ok (.tableswitch (107) (0) (3) #[31, 50, 69, 88], 31) by decide +kernel) (by decide) (by decide) (o := 88) (by decide) (by decide) ?_
          refine Xblk hX pkX5_ok [.aload_n 0, .iload_n 1] (pc' := 91) (ls' := [(0, .ref 39), (1, .int l1), (2, .int l2)]) (st' := [.int l1, .ref 39]) (h' := h) (g := true) (by decide +kernel) rfl rfl rfl ?_
          refine XcallV hX (mt_m_isCarrier l1 h) (rest := []) (by decide) (by decide) xm_X5_isCarrier xi_X5_isCarrier xs_X5_isCarrier xl_RX5_175 (by decide) (xsh_39) rfl rfl rfl (Nat.le_of_ble_eq_true rfl) (by decide +kernel) ?_
          show XW X 94 [(0, .ref 39), (1, .int l1), (2, .int l2)] [.int (f_m_isCarrier l1 h)] h
          refine Xbr hX (.ifCond .eq (12)) (tgt := 106) (P := (f_m_isCarrier l1 h) = (0 : Int32)) (r := []) (by decide +kernel) rfl (by decide) (fun hc_12 => ?_) (fun hc_12 => ?_)
          · replace hf := xif_t hc_12 hf
            refine Xblk hX pkX5_ok [.iconst (-1)] (pc' := 107) (ls' := [(0, .ref 39), (1, .int l1), (2, .int l2)]) (st' := [.int (-1 : Int32)]) (h' := h) (g := true) (by decide +kernel) rfl rfl rfl ?_
            exact XrI1 hX hR hf (by decide +kernel)
          · replace hf := xif_f hc_12 hf
            obtain ⟨hg, hf⟩ := xgd_inv hf
            refine Xblk hX pkX5_ok [.aload_n 0, .getfield 29, .iload_n 1, .iaload] (pc' := 103) (ls' := [(0, .ref 39), (1, .int l1), (2, .int l2)]) (st' := [.int (h.1 46 l1.toNatClampNeg)]) (h' := h) (g := (xin l1 6 && true)) (by decide +kernel) rfl rfl hg ?_
            refine Xgoto hX (4) 107 (by decide +kernel) (by decide) ?_
            exact XrI1 hX hR hf (by decide +kernel)
        · replace hf := xif_f hc_10 hf
          refine XswOut hX 108 (show decode _ _ = .ok (.tableswitch (107) (0) (3) #[31, 50, 69, 88], 31) by decide +kernel) (by have a0 := lv_neT (a := 0) hc_1 (by decide); have a1 := lv_neT (a := 1) hc_4 (by decide); have a2 := lv_neT (a := 2) hc_7 (by decide); have a3 := lv_neT (a := 3) hc_10 (by decide); omega) (by decide) ?_
          refine Xblk hX pkX5_ok [.iconst (-1)] (pc' := 109) (ls' := [(0, .ref 39), (1, .int l1), (2, .int l2)]) (st' := [.int (-1 : Int32)]) (h' := h) (g := true) (by decide +kernel) rfl rfl rfl ?_
          exact XrI1 hX hR hf (by decide +kernel)
def f_m_spread (l1 : Int64) (h : Hp) : Int64 :=
  (((((l1 ||| (jushrL l1 (8 : Int32))) ||| (jshlL l1 (8 : Int32))) ||| ((jshlL l1 (1 : Int32)) &&& (-72340172838076674 : Int64))) ||| ((jushrL l1 (1 : Int32)) &&& (9187201950435737471 : Int64))) &&& (h.2 39 8))
set_option maxRecDepth 100000 in
set_option maxHeartbeats 4000000 in
theorem mt_m_spread (l1 : Int64) (h : Hp) : MT 0 66 yX5_spread cX5_spread 3 (some .long) [.ref 39, .long l1] h (some (.long (f_m_spread l1 h))) h := by
  obtain ⟨o, hf⟩ : ∃ o, f_m_spread l1 h = o := ⟨_, rfl⟩
  rw [hf]
  refine MT.of (by decide +kernel) (Nat.le_of_ble_eq_true rfl) fun X hX hR => ?_
  unfold f_m_spread at hf
  refine Xblk hX pkX5_ok [.lload_n 1, .lload_n 1, .bipush 8, .lushr, .lor, .lload_n 1, .bipush 8, .lshl, .lor, .lload_n 1, .iconst 1, .lshl, .ldc2_w 178, .land, .lor, .lload_n 1, .iconst 1, .lushr, .ldc2_w 180, .land, .lor, .aload_n 0, .getfield 100, .land] (pc' := 32) (ls' := [(0, .ref 39), (1, .long l1)]) (st' := [.long (((((l1 ||| (jushrL l1 (8 : Int32))) ||| (jshlL l1 (8 : Int32))) ||| ((jshlL l1 (1 : Int32)) &&& (-72340172838076674 : Int64))) ||| ((jushrL l1 (1 : Int32)) &&& (9187201950435737471 : Int64))) &&& (h.2 39 8))]) (h' := h) (g := true) (by decide +kernel) rfl rfl rfl ?_
  subst hf
  exact XretL hX hR (by decide +kernel)
def f_m_apart (l0 : Int32) (l1 : Int32) : Int32 :=
  ((if (0 : Int32) ≤ ((jrem l0 (8 : Int32)) - (jrem l1 (8 : Int32))) then ((jrem l0 (8 : Int32)) - (jrem l1 (8 : Int32))) else (-((jrem l0 (8 : Int32)) - (jrem l1 (8 : Int32))))) + (if (0 : Int32) ≤ ((l0 / (8 : Int32)) - (l1 / (8 : Int32))) then ((l0 / (8 : Int32)) - (l1 / (8 : Int32))) else (-((l0 / (8 : Int32)) - (l1 / (8 : Int32))))))
set_option maxRecDepth 100000 in
set_option maxHeartbeats 4000000 in
theorem mt_m_apart (l0 : Int32) (l1 : Int32) (h : Hp) : MT 0 66 yX5_apart cX5_apart 4 (some .int) [.int l0, .int l1] h (some (.int (f_m_apart l0 l1))) h := by
  obtain ⟨o, hf⟩ : ∃ o, f_m_apart l0 l1 = o := ⟨_, rfl⟩
  rw [hf]
  refine MT.of (by decide +kernel) (Nat.le_of_ble_eq_true rfl) fun X hX hR => ?_
  unfold f_m_apart at hf
  refine Xblk hX pkX5_ok [.iload_n 0, .bipush 8, .irem, .iload_n 1, .bipush 8, .irem, .isub, .istore_n 2, .iload_n 0, .bipush 8, .idiv, .iload_n 1, .bipush 8, .idiv, .isub, .istore_n 3, .iload_n 2] (pc' := 21) (ls' := [(3, .int ((l0 / (8 : Int32)) - (l1 / (8 : Int32)))), (2, .int ((jrem l0 (8 : Int32)) - (jrem l1 (8 : Int32)))), (0, .int l0), (1, .int l1)]) (st' := [.int ((jrem l0 (8 : Int32)) - (jrem l1 (8 : Int32)))]) (h' := h) (g := true) (by decide +kernel) rfl rfl rfl ?_
  have kJ_6 : ∀ (w_2 : Int32), w_2 = (if (0 : Int32) ≤ ((jrem l0 (8 : Int32)) - (jrem l1 (8 : Int32))) then ((jrem l0 (8 : Int32)) - (jrem l1 (8 : Int32))) else (-((jrem l0 (8 : Int32)) - (jrem l1 (8 : Int32))))) → XW X 30 [(3, .int ((l0 / (8 : Int32)) - (l1 / (8 : Int32))))] [.int w_2] h := by
    intro w_2 ew_2
    subst ew_2
    refine Xblk hX pkX5_ok [.iload_n 3] (pc' := 31) (ls' := [(3, .int ((l0 / (8 : Int32)) - (l1 / (8 : Int32))))]) (st' := [.int ((l0 / (8 : Int32)) - (l1 / (8 : Int32))), .int (if (0 : Int32) ≤ ((jrem l0 (8 : Int32)) - (jrem l1 (8 : Int32))) then ((jrem l0 (8 : Int32)) - (jrem l1 (8 : Int32))) else (-((jrem l0 (8 : Int32)) - (jrem l1 (8 : Int32)))))]) (h' := h) (g := true) (by decide +kernel) rfl rfl rfl ?_
    have kJ_5 : ∀ (w_4 : Int32), w_4 = (if (0 : Int32) ≤ ((l0 / (8 : Int32)) - (l1 / (8 : Int32))) then ((l0 / (8 : Int32)) - (l1 / (8 : Int32))) else (-((l0 / (8 : Int32)) - (l1 / (8 : Int32))))) → XW X 40 [] [.int w_4, .int (if (0 : Int32) ≤ ((jrem l0 (8 : Int32)) - (jrem l1 (8 : Int32))) then ((jrem l0 (8 : Int32)) - (jrem l1 (8 : Int32))) else (-((jrem l0 (8 : Int32)) - (jrem l1 (8 : Int32)))))] h := by
      intro w_4 ew_4
      subst ew_4
      refine Xblk hX pkX5_ok [.iadd] (pc' := 41) (ls' := []) (st' := [.int ((if (0 : Int32) ≤ ((jrem l0 (8 : Int32)) - (jrem l1 (8 : Int32))) then ((jrem l0 (8 : Int32)) - (jrem l1 (8 : Int32))) else (-((jrem l0 (8 : Int32)) - (jrem l1 (8 : Int32))))) + (if (0 : Int32) ≤ ((l0 / (8 : Int32)) - (l1 / (8 : Int32))) then ((l0 / (8 : Int32)) - (l1 / (8 : Int32))) else (-((l0 / (8 : Int32)) - (l1 / (8 : Int32))))))]) (h' := h) (g := true) (by decide +kernel) rfl rfl rfl ?_
      subst hf
      exact XretI hX hR (by decide +kernel)
    refine Xbr hX (.ifCond .ge (8)) (tgt := 39) (P := (0 : Int32) ≤ ((l0 / (8 : Int32)) - (l1 / (8 : Int32)))) (r := [.int (if (0 : Int32) ≤ ((jrem l0 (8 : Int32)) - (jrem l1 (8 : Int32))) then ((jrem l0 (8 : Int32)) - (jrem l1 (8 : Int32))) else (-((jrem l0 (8 : Int32)) - (jrem l1 (8 : Int32)))))]) (by decide +kernel) rfl (by decide) (fun hc_3 => ?_) (fun hc_3 => ?_)
    · refine Xblk hX pkX5_ok [.iload_n 3] (pc' := 40) (ls' := [(3, .int ((l0 / (8 : Int32)) - (l1 / (8 : Int32))))]) (st' := [.int ((l0 / (8 : Int32)) - (l1 / (8 : Int32))), .int (if (0 : Int32) ≤ ((jrem l0 (8 : Int32)) - (jrem l1 (8 : Int32))) then ((jrem l0 (8 : Int32)) - (jrem l1 (8 : Int32))) else (-((jrem l0 (8 : Int32)) - (jrem l1 (8 : Int32)))))]) (h' := h) (g := true) (by decide +kernel) rfl rfl rfl ?_
      refine XW.pick [] (ls' := []) rfl ?_
      exact kJ_5 _ (by rw [if_pos hc_3])
    · refine Xblk hX pkX5_ok [.iload_n 3, .ineg] (pc' := 36) (ls' := [(3, .int ((l0 / (8 : Int32)) - (l1 / (8 : Int32))))]) (st' := [.int (-((l0 / (8 : Int32)) - (l1 / (8 : Int32)))), .int (if (0 : Int32) ≤ ((jrem l0 (8 : Int32)) - (jrem l1 (8 : Int32))) then ((jrem l0 (8 : Int32)) - (jrem l1 (8 : Int32))) else (-((jrem l0 (8 : Int32)) - (jrem l1 (8 : Int32)))))]) (h' := h) (g := true) (by decide +kernel) rfl rfl rfl ?_
      refine Xgoto hX (4) 40 (by decide +kernel) (by decide) ?_
      refine XW.pick [] (ls' := []) rfl ?_
      exact kJ_5 _ (by rw [if_neg hc_3])
  refine Xbr hX (.ifCond .ge (8)) (tgt := 29) (P := (0 : Int32) ≤ ((jrem l0 (8 : Int32)) - (jrem l1 (8 : Int32)))) (r := []) (by decide +kernel) rfl (by decide) (fun hc_1 => ?_) (fun hc_1 => ?_)
  · refine Xblk hX pkX5_ok [.iload_n 2] (pc' := 30) (ls' := [(3, .int ((l0 / (8 : Int32)) - (l1 / (8 : Int32)))), (2, .int ((jrem l0 (8 : Int32)) - (jrem l1 (8 : Int32)))), (0, .int l0), (1, .int l1)]) (st' := [.int ((jrem l0 (8 : Int32)) - (jrem l1 (8 : Int32)))]) (h' := h) (g := true) (by decide +kernel) rfl rfl rfl ?_
    refine XW.pick [0] (ls' := [(3, .int ((l0 / (8 : Int32)) - (l1 / (8 : Int32))))]) rfl ?_
    exact kJ_6 _ (by rw [if_pos hc_1])
  · refine Xblk hX pkX5_ok [.iload_n 2, .ineg] (pc' := 26) (ls' := [(3, .int ((l0 / (8 : Int32)) - (l1 / (8 : Int32)))), (2, .int ((jrem l0 (8 : Int32)) - (jrem l1 (8 : Int32)))), (0, .int l0), (1, .int l1)]) (st' := [.int (-((jrem l0 (8 : Int32)) - (jrem l1 (8 : Int32))))]) (h' := h) (g := true) (by decide +kernel) rfl rfl rfl ?_
    refine Xgoto hX (4) 30 (by decide +kernel) (by decide) ?_
    refine XW.pick [0] (ls' := [(3, .int ((l0 / (8 : Int32)) - (l1 / (8 : Int32))))]) rfl ?_
    exact kJ_6 _ (by rw [if_neg hc_1])
def f_m_close_L_6  (l1 : Int64) (l3 : Int64) (l5 : Int32) (l6 : Int32) (l7 : Int32) (h : Hp) (k : Int32 → Int32 → Option (Int64)) : Nat → Int32 → Int32 → Option (Int64)
  | 0, _, _ => none
  | n + 1, l8, l9 =>
    if (h.1 39 15) ≤ l9 then
      k l8 l9
    else
      if l7 = (-9 : Int32) then
        k l8 l9
      else
        if l8 = (0 : Int32) then
          xgd (xin l9 6 && true) <|
          xgd (xin l9 6 && true) <|
          (f_m_close_L_6 l1 l3 l5 l6 l7 h k n) (if (f_m_apart l5 (h.1 45 l9.toNatClampNeg)) ≤ (f_m_apart l7 (h.1 45 l9.toNatClampNeg)) then (0 : Int32) else (1 : Int32)) (l9 + (1 : Int32))
        else
          (f_m_close_L_6 l1 l3 l5 l6 l7 h k n) (1 : Int32) (l9 + (1 : Int32))
def f_m_close_j_16  (k15 : Int64 → Int32 → Option (Int64)) (k140 : Int64 → Int32 → Option (Int64)) (l1 : Int64) (l3 : Int64) (l5 : Int32) (l6 : Int32) (l7 : Int32) (l8 : Int32) (h : Hp) : Option (Int64) :=
  k15 (l3 ||| (if l8 = (0 : Int32) then (0 : Int64) else (if (f_m_isFree l7 h) = (0 : Int32) then (0 : Int64) else (jshlL (1 : Int64) l7)))) (l6 + (1 : Int32))
def f_m_close_L_3  (l1 : Int64) (l5 : Int32) (h : Hp) (k : Int64 → Int32 → Option (Int64)) : Nat → Int64 → Int32 → Option (Int64)
  | 0, _, _ => none
  | n + 1, l3, l6 =>
    if (4 : Int32) ≤ l6 then
      k l3 l6
    else
      if (lg_cmp ((jshrL l1 l5) &&& (1 : Int64)) (1 : Int64)) = (0 : Int32) then
        f_m_close_L_6 l1 l3 l5 l6 (f_m_beside l5 l6 h) h (fun l8_14 l9_15 =>
          f_m_close_j_16 (f_m_close_L_3 l1 l5 h k n) k l1 l3 l5 l6 (f_m_beside l5 l6 h) l8_14 h
          ) 1000 (0 : Int32) (0 : Int32)
      else
        k l3 l6
def f_m_close_L_1  (l1 : Int64) (h : Hp) (k : Int64 → Int32 → Option (Int64)) : Nat → Int64 → Int32 → Option (Int64)
  | 0, _, _ => none
  | n + 1, l3, l5 =>
    if (64 : Int32) ≤ l5 then
      k l3 l5
    else
      f_m_close_L_3 l1 l5 h (fun l3_21 l6_22 =>
        (f_m_close_L_1 l1 h k n) l3_21 (l5 + (1 : Int32))
        ) 1000 l3 (0 : Int32)
def f_m_close (l1 : Int64) (h : Hp) : Option (Int64) :=
  f_m_close_L_1 l1 h (fun l3_23 l5_24 =>
    some l3_23
    ) 1000 l1 (0 : Int32)
set_option maxRecDepth 100000 in
set_option maxHeartbeats 4000000 in
theorem f_m_close_L_6_ok {X : XCtx} (hX : XOk X RX5 cX5_close 10 2 66) {r : Int64} {h : Hp} (hR : XR X (some .long) (some (.long r)) h)  (l1 : Int64) (l3 : Int64) (l5 : Int32) (l6 : Int32) (l7 : Int32)  (k : Int32 → Int32 → Option (Int64))  (hk : ∀ (l8 : Int32) (l9 : Int32), k l8 l9 = some r → XW X 109 [(0, .ref 39), (1, .long l1), (3, .long l3), (5, .int l5), (6, .int l6), (7, .int l7), (8, .int l8)] [] h) : ∀ (n : Nat) (l8 : Int32) (l9 : Int32), f_m_close_L_6 l1 l3 l5 l6 l7 h k n l8 l9 = some r → XW X 48 [(0, .ref 39), (1, .long l1), (3, .long l3), (5, .int l5), (6, .int l6), (7, .int l7), (8, .int l8), (9, .int l9)] [] h := by
  intro n
  induction n with
  | zero => intro l8 l9 hf; cases hf
  | succ n ih =>
    intro l8 l9 hf
    rw [f_m_close_L_6] at hf
    refine Xblk hX pkX5_ok [.iload 9, .aload_n 0, .getfield 132] (pc' := 54) (ls' := [(0, .ref 39), (1, .long l1), (3, .long l3), (5, .int l5), (6, .int l6), (7, .int l7), (8, .int l8), (9, .int l9)]) (st' := [.int (h.1 39 15), .int l9]) (h' := h) (g := true) (by decide +kernel) rfl rfl rfl ?_
    refine Xbr hX (.if_icmp .ge (55)) (tgt := 109) (P := (h.1 39 15) ≤ l9) (r := []) (by decide +kernel) rfl (by decide) (fun hc_7 => ?_) (fun hc_7 => ?_)
    · replace hf := xif_t hc_7 hf
      refine XW.pick [0, 1, 2, 3, 4, 5, 6] (ls' := [(0, .ref 39), (1, .long l1), (3, .long l3), (5, .int l5), (6, .int l6), (7, .int l7), (8, .int l8)]) rfl ?_
      exact hk l8 l9 hf
    · replace hf := xif_f hc_7 hf
      refine Xblk hX pkX5_ok [.iload 7, .bipush (-9)] (pc' := 61) (ls' := [(0, .ref 39), (1, .long l1), (3, .long l3), (5, .int l5), (6, .int l6), (7, .int l7), (8, .int l8), (9, .int l9)]) (st' := [.int (-9 : Int32), .int l7]) (h' := h) (g := true) (by decide +kernel) rfl rfl rfl ?_
      refine Xbr hX (.if_icmp .eq (48)) (tgt := 109) (P := l7 = (-9 : Int32)) (r := []) (by decide +kernel) rfl (by decide) (fun hc_8 => ?_) (fun hc_8 => ?_)
      · replace hf := xif_t hc_8 hf
        refine XW.pick [0, 1, 2, 3, 4, 5, 6] (ls' := [(0, .ref 39), (1, .long l1), (3, .long l3), (5, .int l5), (6, .int l6), (7, .int l7), (8, .int l8)]) rfl ?_
        exact hk l8 l9 hf
      · replace hf := xif_f hc_8 hf
        refine Xblk hX pkX5_ok [.iload 8] (pc' := 66) (ls' := [(0, .ref 39), (1, .long l1), (3, .long l3), (5, .int l5), (6, .int l6), (7, .int l7), (8, .int l8), (9, .int l9)]) (st' := [.int l8]) (h' := h) (g := true) (by decide +kernel) rfl rfl rfl ?_
        refine XbrN hX (.ifCond .ne (30)) (tgt := 96) (P := l8 = (0 : Int32)) (r := []) (by decide +kernel) rfl (by decide) (fun hc_10 => ?_) (fun hc_10 => ?_)
        · replace hf := xif_t hc_10 hf
          obtain ⟨hg, hf⟩ := xgd_inv hf
          refine Xblk hX pkX5_ok [.iload 7, .aload_n 0, .getfield 26, .iload 9, .iaload] (pc' := 78) (ls' := [(0, .ref 39), (1, .long l1), (3, .long l3), (5, .int l5), (6, .int l6), (7, .int l7), (8, .int l8), (9, .int l9)]) (st' := [.int (h.1 45 l9.toNatClampNeg), .int l7]) (h' := h) (g := (xin l9 6 && true)) (by decide +kernel) rfl rfl hg ?_
          refine XcallS hX (mt_m_apart l7 (h.1 45 l9.toNatClampNeg) h) (rest := []) (by decide) (by decide) xm_X5_apart xi_X5_apart xl_RX5_182 rfl (Nat.le_of_ble_eq_true rfl) (by decide +kernel) ?_
          show XW X 81 [(0, .ref 39), (1, .long l1), (3, .long l3), (5, .int l5), (6, .int l6), (7, .int l7), (8, .int l8), (9, .int l9)] [.int (f_m_apart l7 (h.1 45 l9.toNatClampNeg))] h
          obtain ⟨hg, hf⟩ := xgd_inv hf
          refine Xblk hX pkX5_ok [.iload 5, .aload_n 0, .getfield 26, .iload 9, .iaload] (pc' := 90) (ls' := [(0, .ref 39), (1, .long l1), (3, .long l3), (5, .int l5), (6, .int l6), (7, .int l7), (8, .int l8), (9, .int l9)]) (st' := [.int (h.1 45 l9.toNatClampNeg), .int l5, .int (f_m_apart l7 (h.1 45 l9.toNatClampNeg))]) (h' := h) (g := (xin l9 6 && true)) (by decide +kernel) rfl rfl hg ?_
          refine XcallS hX (mt_m_apart l5 (h.1 45 l9.toNatClampNeg) h) (rest := [.int (f_m_apart l7 (h.1 45 l9.toNatClampNeg))]) (by decide) (by decide) xm_X5_apart xi_X5_apart xl_RX5_182 rfl (Nat.le_of_ble_eq_true rfl) (by decide +kernel) ?_
          show XW X 93 [(0, .ref 39), (1, .long l1), (3, .long l3), (5, .int l5), (6, .int l6), (7, .int l7), (8, .int l8), (9, .int l9)] [.int (f_m_apart l5 (h.1 45 l9.toNatClampNeg)), .int (f_m_apart l7 (h.1 45 l9.toNatClampNeg))] h
          have kJ_13 : ∀ (w_12 : Int32), w_12 = (if (f_m_apart l5 (h.1 45 l9.toNatClampNeg)) ≤ (f_m_apart l7 (h.1 45 l9.toNatClampNeg)) then (0 : Int32) else (1 : Int32)) → XW X 101 [(0, .ref 39), (1, .long l1), (3, .long l3), (5, .int l5), (6, .int l6), (7, .int l7), (9, .int l9)] [.int w_12] h := by
            intro w_12 ew_12
            subst ew_12
            refine Xblk hX pkX5_ok [.istore 8, .iinc 9 1] (pc' := 106) (ls' := [(9, .int (l9 + (1 : Int32))), (8, .int (if (f_m_apart l5 (h.1 45 l9.toNatClampNeg)) ≤ (f_m_apart l7 (h.1 45 l9.toNatClampNeg)) then (0 : Int32) else (1 : Int32))), (0, .ref 39), (1, .long l1), (3, .long l3), (5, .int l5), (6, .int l6), (7, .int l7)]) (st' := []) (h' := h) (g := true) (by decide +kernel) rfl rfl rfl ?_
            refine Xgoto hX (-58) 48 (by decide +kernel) (by decide) ?_
            refine XW.pick [2, 3, 4, 5, 6, 7, 1, 0] (ls' := [(0, .ref 39), (1, .long l1), (3, .long l3), (5, .int l5), (6, .int l6), (7, .int l7), (8, .int (if (f_m_apart l5 (h.1 45 l9.toNatClampNeg)) ≤ (f_m_apart l7 (h.1 45 l9.toNatClampNeg)) then (0 : Int32) else (1 : Int32))), (9, .int (l9 + (1 : Int32)))]) rfl ?_
            exact ih (if (f_m_apart l5 (h.1 45 l9.toNatClampNeg)) ≤ (f_m_apart l7 (h.1 45 l9.toNatClampNeg)) then (0 : Int32) else (1 : Int32)) (l9 + (1 : Int32)) hf
          refine Xbr hX (.if_icmp .ge (7)) (tgt := 100) (P := (f_m_apart l5 (h.1 45 l9.toNatClampNeg)) ≤ (f_m_apart l7 (h.1 45 l9.toNatClampNeg))) (r := []) (by decide +kernel) rfl (by decide) (fun hc_11 => ?_) (fun hc_11 => ?_)
          · refine Xblk hX pkX5_ok [.iconst 0] (pc' := 101) (ls' := [(0, .ref 39), (1, .long l1), (3, .long l3), (5, .int l5), (6, .int l6), (7, .int l7), (8, .int l8), (9, .int l9)]) (st' := [.int (0 : Int32)]) (h' := h) (g := true) (by decide +kernel) rfl rfl rfl ?_
            refine XW.pick [0, 1, 2, 3, 4, 5, 7] (ls' := [(0, .ref 39), (1, .long l1), (3, .long l3), (5, .int l5), (6, .int l6), (7, .int l7), (9, .int l9)]) rfl ?_
            exact kJ_13 _ (by rw [if_pos hc_11])
          · refine Xblk hX pkX5_ok [.iconst 1] (pc' := 97) (ls' := [(0, .ref 39), (1, .long l1), (3, .long l3), (5, .int l5), (6, .int l6), (7, .int l7), (8, .int l8), (9, .int l9)]) (st' := [.int (1 : Int32)]) (h' := h) (g := true) (by decide +kernel) rfl rfl rfl ?_
            refine Xgoto hX (4) 101 (by decide +kernel) (by decide) ?_
            refine XW.pick [0, 1, 2, 3, 4, 5, 7] (ls' := [(0, .ref 39), (1, .long l1), (3, .long l3), (5, .int l5), (6, .int l6), (7, .int l7), (9, .int l9)]) rfl ?_
            exact kJ_13 _ (by rw [if_neg hc_11])
        · replace hf := xif_f hc_10 hf
          refine Xblk hX pkX5_ok [.iconst 1] (pc' := 97) (ls' := [(0, .ref 39), (1, .long l1), (3, .long l3), (5, .int l5), (6, .int l6), (7, .int l7), (8, .int l8), (9, .int l9)]) (st' := [.int (1 : Int32)]) (h' := h) (g := true) (by decide +kernel) rfl rfl rfl ?_
          refine Xgoto hX (4) 101 (by decide +kernel) (by decide) ?_
          refine Xblk hX pkX5_ok [.istore 8, .iinc 9 1] (pc' := 106) (ls' := [(9, .int (l9 + (1 : Int32))), (8, .int (1 : Int32)), (0, .ref 39), (1, .long l1), (3, .long l3), (5, .int l5), (6, .int l6), (7, .int l7)]) (st' := []) (h' := h) (g := true) (by decide +kernel) rfl rfl rfl ?_
          refine Xgoto hX (-58) 48 (by decide +kernel) (by decide) ?_
          refine XW.pick [2, 3, 4, 5, 6, 7, 1, 0] (ls' := [(0, .ref 39), (1, .long l1), (3, .long l3), (5, .int l5), (6, .int l6), (7, .int l7), (8, .int (1 : Int32)), (9, .int (l9 + (1 : Int32)))]) rfl ?_
          exact ih (1 : Int32) (l9 + (1 : Int32)) hf
set_option maxRecDepth 100000 in
set_option maxHeartbeats 4000000 in
theorem f_m_close_j_16_ok {X : XCtx} (hX : XOk X RX5 cX5_close 10 2 66) {r : Int64} {h : Hp} (hR : XR X (some .long) (some (.long r)) h)   (l1 : Int64) (l3 : Int64) (l5 : Int32) (l6 : Int32) (l7 : Int32) (l8 : Int32) (k15 : Int64 → Int32 → Option (Int64)) (k140 : Int64 → Int32 → Option (Int64))  (hk15 : ∀ (l3 : Int64) (l6 : Int32), k15 l3 l6 = some r → XW X 15 [(0, .ref 39), (1, .long l1), (3, .long l3), (5, .int l5), (6, .int l6)] [] h) (hk140 : ∀ (l3 : Int64) (l6 : Int32), k140 l3 l6 = some r → XW X 140 [(0, .ref 39), (1, .long l1), (3, .long l3), (5, .int l5)] [] h) (hf : f_m_close_j_16 k15 k140 l1 l3 l5 l6 l7 l8 h = some r) : XW X 109 [(0, .ref 39), (1, .long l1), (3, .long l3), (5, .int l5), (6, .int l6), (7, .int l7), (8, .int l8)] [] h := by
  unfold f_m_close_j_16 at hf
  refine Xblk hX pkX5_ok [.lload_n 3, .iload 8] (pc' := 112) (ls' := [(0, .ref 39), (1, .long l1), (3, .long l3), (5, .int l5), (6, .int l6), (7, .int l7), (8, .int l8)]) (st' := [.int l8, .long l3]) (h' := h) (g := true) (by decide +kernel) rfl rfl rfl ?_
  have kJ_20 : ∀ (w_19 : Int64), w_19 = (if l8 = (0 : Int32) then (0 : Int64) else (if (f_m_isFree l7 h) = (0 : Int32) then (0 : Int64) else (jshlL (1 : Int64) l7))) → XW X 132 [(0, .ref 39), (1, .long l1), (5, .int l5), (6, .int l6)] [.long w_19, .long l3] h := by
    intro w_19 ew_19
    subst ew_19
    refine Xblk hX pkX5_ok [.lor, .lstore_n 3, .iinc 6 1] (pc' := 137) (ls' := [(6, .int (l6 + (1 : Int32))), (3, .long (l3 ||| (if l8 = (0 : Int32) then (0 : Int64) else (if (f_m_isFree l7 h) = (0 : Int32) then (0 : Int64) else (jshlL (1 : Int64) l7))))), (0, .ref 39), (1, .long l1), (5, .int l5)]) (st' := []) (h' := h) (g := true) (by decide +kernel) rfl rfl rfl ?_
    refine Xgoto hX (-122) 15 (by decide +kernel) (by decide) ?_
    refine XW.pick [2, 3, 1, 4, 0] (ls' := [(0, .ref 39), (1, .long l1), (3, .long (l3 ||| (if l8 = (0 : Int32) then (0 : Int64) else (if (f_m_isFree l7 h) = (0 : Int32) then (0 : Int64) else (jshlL (1 : Int64) l7))))), (5, .int l5), (6, .int (l6 + (1 : Int32)))]) rfl ?_
    exact hk15 (l3 ||| (if l8 = (0 : Int32) then (0 : Int64) else (if (f_m_isFree l7 h) = (0 : Int32) then (0 : Int64) else (jshlL (1 : Int64) l7)))) (l6 + (1 : Int32)) hf
  refine Xbr hX (.ifCond .eq (19)) (tgt := 131) (P := l8 = (0 : Int32)) (r := [.long l3]) (by decide +kernel) rfl (by decide) (fun hc_17 => ?_) (fun hc_17 => ?_)
  · refine Xblk hX pkX5_ok [.lconst 0] (pc' := 132) (ls' := [(0, .ref 39), (1, .long l1), (3, .long l3), (5, .int l5), (6, .int l6), (7, .int l7), (8, .int l8)]) (st' := [.long (0 : Int64), .long l3]) (h' := h) (g := true) (by decide +kernel) rfl rfl rfl ?_
    refine XW.pick [0, 1, 3, 4] (ls' := [(0, .ref 39), (1, .long l1), (5, .int l5), (6, .int l6)]) rfl ?_
    exact kJ_20 _ (by rw [if_pos hc_17])
  · refine Xblk hX pkX5_ok [.aload_n 0, .iload 7] (pc' := 118) (ls' := [(0, .ref 39), (1, .long l1), (3, .long l3), (5, .int l5), (6, .int l6), (7, .int l7), (8, .int l8)]) (st' := [.int l7, .ref 39, .long l3]) (h' := h) (g := true) (by decide +kernel) rfl rfl rfl ?_
    refine XcallV hX (mt_m_isFree l7 h) (rest := [.long l3]) (by decide) (by decide) xm_X5_isFree xi_X5_isFree xs_X5_isFree xl_RX5_151 (by decide) (xsh_39) rfl rfl rfl (Nat.le_of_ble_eq_true rfl) (by decide +kernel) ?_
    show XW X 121 [(0, .ref 39), (1, .long l1), (3, .long l3), (5, .int l5), (6, .int l6), (7, .int l7), (8, .int l8)] [.int (f_m_isFree l7 h), .long l3] h
    refine Xbr hX (.ifCond .eq (10)) (tgt := 131) (P := (f_m_isFree l7 h) = (0 : Int32)) (r := [.long l3]) (by decide +kernel) rfl (by decide) (fun hc_18 => ?_) (fun hc_18 => ?_)
    · refine Xblk hX pkX5_ok [.lconst 0] (pc' := 132) (ls' := [(0, .ref 39), (1, .long l1), (3, .long l3), (5, .int l5), (6, .int l6), (7, .int l7), (8, .int l8)]) (st' := [.long (0 : Int64), .long l3]) (h' := h) (g := true) (by decide +kernel) rfl rfl rfl ?_
      refine XW.pick [0, 1, 3, 4] (ls' := [(0, .ref 39), (1, .long l1), (5, .int l5), (6, .int l6)]) rfl ?_
      exact kJ_20 _ (by rw [if_neg hc_17, if_pos hc_18])
    · refine Xblk hX pkX5_ok [.lconst 1, .iload 7, .lshl] (pc' := 128) (ls' := [(0, .ref 39), (1, .long l1), (3, .long l3), (5, .int l5), (6, .int l6), (7, .int l7), (8, .int l8)]) (st' := [.long (jshlL (1 : Int64) l7), .long l3]) (h' := h) (g := true) (by decide +kernel) rfl rfl rfl ?_
      refine Xgoto hX (4) 132 (by decide +kernel) (by decide) ?_
      refine XW.pick [0, 1, 3, 4] (ls' := [(0, .ref 39), (1, .long l1), (5, .int l5), (6, .int l6)]) rfl ?_
      exact kJ_20 _ (by rw [if_neg hc_17, if_neg hc_18])
set_option maxRecDepth 100000 in
set_option maxHeartbeats 4000000 in
theorem f_m_close_L_3_ok {X : XCtx} (hX : XOk X RX5 cX5_close 10 2 66) {r : Int64} {h : Hp} (hR : XR X (some .long) (some (.long r)) h)  (l1 : Int64) (l5 : Int32)  (k : Int64 → Int32 → Option (Int64))  (hk : ∀ (l3 : Int64) (l6 : Int32), k l3 l6 = some r → XW X 140 [(0, .ref 39), (1, .long l1), (3, .long l3), (5, .int l5)] [] h) : ∀ (n : Nat) (l3 : Int64) (l6 : Int32), f_m_close_L_3 l1 l5 h k n l3 l6 = some r → XW X 15 [(0, .ref 39), (1, .long l1), (3, .long l3), (5, .int l5), (6, .int l6)] [] h := by
  intro n
  induction n with
  | zero => intro l3 l6 hf; cases hf
  | succ n ih =>
    intro l3 l6 hf
    rw [f_m_close_L_3] at hf
    refine Xblk hX pkX5_ok [.iload 6, .iconst 4] (pc' := 18) (ls' := [(0, .ref 39), (1, .long l1), (3, .long l3), (5, .int l5), (6, .int l6)]) (st' := [.int (4 : Int32), .int l6]) (h' := h) (g := true) (by decide +kernel) rfl rfl rfl ?_
    refine Xbr hX (.if_icmp .ge (122)) (tgt := 140) (P := (4 : Int32) ≤ l6) (r := []) (by decide +kernel) rfl (by decide) (fun hc_4 => ?_) (fun hc_4 => ?_)
    · replace hf := xif_t hc_4 hf
      refine XW.pick [0, 1, 2, 3] (ls' := [(0, .ref 39), (1, .long l1), (3, .long l3), (5, .int l5)]) rfl ?_
      exact hk l3 l6 hf
    · replace hf := xif_f hc_4 hf
      refine Xblk hX pkX5_ok [.lload_n 1, .iload 5, .lshr, .lconst 1, .land, .lconst 1, .lcmp] (pc' := 29) (ls' := [(0, .ref 39), (1, .long l1), (3, .long l3), (5, .int l5), (6, .int l6)]) (st' := [.int (lg_cmp ((jshrL l1 l5) &&& (1 : Int64)) (1 : Int64))]) (h' := h) (g := true) (by decide +kernel) rfl rfl rfl ?_
      refine XbrN hX (.ifCond .ne (111)) (tgt := 140) (P := (lg_cmp ((jshrL l1 l5) &&& (1 : Int64)) (1 : Int64)) = (0 : Int32)) (r := []) (by decide +kernel) rfl (by decide) (fun hc_5 => ?_) (fun hc_5 => ?_)
      · replace hf := xif_t hc_5 hf
        refine Xblk hX pkX5_ok [.aload_n 0, .iload 5, .iload 6] (pc' := 37) (ls' := [(0, .ref 39), (1, .long l1), (3, .long l3), (5, .int l5), (6, .int l6)]) (st' := [.int l6, .int l5, .ref 39]) (h' := h) (g := true) (by decide +kernel) rfl rfl rfl ?_
        refine XcallV hX (mt_m_beside l5 l6 h) (rest := []) (by decide) (by decide) xm_X5_beside xi_X5_beside xs_X5_beside xl_RX5_156 (by decide) (xsh_39) rfl rfl rfl (Nat.le_of_ble_eq_true rfl) (by decide +kernel) ?_
        show XW X 40 [(0, .ref 39), (1, .long l1), (3, .long l3), (5, .int l5), (6, .int l6)] [.int (f_m_beside l5 l6 h)] h
        refine Xblk hX pkX5_ok [.istore 7, .iconst 0, .istore 8, .iconst 0, .istore 9] (pc' := 48) (ls' := [(9, .int (0 : Int32)), (8, .int (0 : Int32)), (7, .int (f_m_beside l5 l6 h)), (0, .ref 39), (1, .long l1), (3, .long l3), (5, .int l5), (6, .int l6)]) (st' := []) (h' := h) (g := true) (by decide +kernel) rfl rfl rfl ?_
        refine XW.pick [3, 4, 5, 6, 7, 2, 1, 0] (ls' := [(0, .ref 39), (1, .long l1), (3, .long l3), (5, .int l5), (6, .int l6), (7, .int (f_m_beside l5 l6 h)), (8, .int (0 : Int32)), (9, .int (0 : Int32))]) rfl ?_
        refine f_m_close_L_6_ok hX hR l1 l3 l5 l6 (f_m_beside l5 l6 h) _  (fun l8_14 l9_15 hf => ?_) 1000 (0 : Int32) (0 : Int32) hf
        refine XW.pick [0, 1, 2, 3, 4, 5, 6] (ls' := [(0, .ref 39), (1, .long l1), (3, .long l3), (5, .int l5), (6, .int l6), (7, .int (f_m_beside l5 l6 h)), (8, .int l8_14)]) rfl ?_
        exact f_m_close_j_16_ok hX hR l1 l3 l5 l6 (f_m_beside l5 l6 h) l8_14 _ _ ih hk hf
      · replace hf := xif_f hc_5 hf
        refine XW.pick [0, 1, 2, 3] (ls' := [(0, .ref 39), (1, .long l1), (3, .long l3), (5, .int l5)]) rfl ?_
        exact hk l3 l6 hf
set_option maxRecDepth 100000 in
set_option maxHeartbeats 4000000 in
theorem f_m_close_L_1_ok {X : XCtx} (hX : XOk X RX5 cX5_close 10 2 66) {r : Int64} {h : Hp} (hR : XR X (some .long) (some (.long r)) h)  (l1 : Int64)  (k : Int64 → Int32 → Option (Int64))  (hk : ∀ (l3 : Int64) (l5 : Int32), k l3 l5 = some r → XW X 146 [(3, .long l3)] [] h) : ∀ (n : Nat) (l3 : Int64) (l5 : Int32), f_m_close_L_1 l1 h k n l3 l5 = some r → XW X 5 [(0, .ref 39), (1, .long l1), (3, .long l3), (5, .int l5)] [] h := by
  intro n
  induction n with
  | zero => intro l3 l5 hf; cases hf
  | succ n ih =>
    intro l3 l5 hf
    rw [f_m_close_L_1] at hf
    refine Xblk hX pkX5_ok [.iload 5, .bipush 64] (pc' := 9) (ls' := [(0, .ref 39), (1, .long l1), (3, .long l3), (5, .int l5)]) (st' := [.int (64 : Int32), .int l5]) (h' := h) (g := true) (by decide +kernel) rfl rfl rfl ?_
    refine Xbr hX (.if_icmp .ge (137)) (tgt := 146) (P := (64 : Int32) ≤ l5) (r := []) (by decide +kernel) rfl (by decide) (fun hc_2 => ?_) (fun hc_2 => ?_)
    · replace hf := xif_t hc_2 hf
      refine XW.pick [2] (ls' := [(3, .long l3)]) rfl ?_
      exact hk l3 l5 hf
    · replace hf := xif_f hc_2 hf
      refine Xblk hX pkX5_ok [.iconst 0, .istore 6] (pc' := 15) (ls' := [(6, .int (0 : Int32)), (0, .ref 39), (1, .long l1), (3, .long l3), (5, .int l5)]) (st' := []) (h' := h) (g := true) (by decide +kernel) rfl rfl rfl ?_
      refine XW.pick [1, 2, 3, 4, 0] (ls' := [(0, .ref 39), (1, .long l1), (3, .long l3), (5, .int l5), (6, .int (0 : Int32))]) rfl ?_
      refine f_m_close_L_3_ok hX hR l1 l5 _  (fun l3_21 l6_22 hf => ?_) 1000 l3 (0 : Int32) hf
      refine Xblk hX pkX5_ok [.iinc 5 1] (pc' := 143) (ls' := [(5, .int (l5 + (1 : Int32))), (0, .ref 39), (1, .long l1), (3, .long l3_21)]) (st' := []) (h' := h) (g := true) (by decide +kernel) rfl rfl rfl ?_
      refine Xgoto hX (-138) 5 (by decide +kernel) (by decide) ?_
      refine XW.pick [1, 2, 3, 0] (ls' := [(0, .ref 39), (1, .long l1), (3, .long l3_21), (5, .int (l5 + (1 : Int32)))]) rfl ?_
      exact ih l3_21 (l5 + (1 : Int32)) hf
set_option maxRecDepth 100000 in
set_option maxHeartbeats 4000000 in
theorem mt_m_close (l1 : Int64) (h : Hp) {r : Int64} (hf : f_m_close l1 h = some r) : MT 2 66 yX5_close cX5_close 10 (some .long) [.ref 39, .long l1] h (some (.long r)) h := by
  refine MT.of (by decide +kernel) (Nat.le_of_ble_eq_true rfl) fun X hX hR => ?_
  unfold f_m_close at hf
  refine Xblk hX pkX5_ok [.lload_n 1, .lstore_n 3, .iconst 0, .istore 5] (pc' := 5) (ls' := [(5, .int (0 : Int32)), (3, .long l1), (0, .ref 39), (1, .long l1)]) (st' := []) (h' := h) (g := true) (by decide +kernel) rfl rfl rfl ?_
  refine XW.pick [2, 3, 1, 0] (ls' := [(0, .ref 39), (1, .long l1), (3, .long l1), (5, .int (0 : Int32))]) rfl ?_
  refine f_m_close_L_1_ok hX hR l1 _  (fun l3_23 l5_24 hf => ?_) 1000 l1 (0 : Int32) hf
  refine Xblk hX pkX5_ok [.lload_n 3] (pc' := 147) (ls' := [(3, .long l3_23)]) (st' := [.long l3_23]) (h' := h) (g := true) (by decide +kernel) rfl rfl rfl ?_
  exact XrL1 hX hR hf (by decide +kernel)
def f_m_couldBe_L_1  (l1 : Int32) (l4 : Int32) (h : Hp) (k : Int64 → Int32 → Option (Int64)) : Nat → Int64 → Int32 → Option (Int64)
  | 0, _, _ => none
  | n + 1, l5, l7 =>
    if l4 ≤ l7 then
      k l5 l7
    else
      if l1 = (0 : Int32) then
        (f_m_couldBe_L_1 l1 l4 h k n) l5 (l7 + (1 : Int32))
      else
        if l1 = (1 : Int32) then
          (f_m_couldBe_L_1 l1 l4 h k n) (f_m_spread l5 h) (l7 + (1 : Int32))
        else
          if l1 = (2 : Int32) then
            (f_m_couldBe_L_1 l1 l4 h k n) (f_m_spread (f_m_spread l5 h) h) (l7 + (1 : Int32))
          else
            xbd1 (f_m_close l5 h) fun v_13 =>
            (f_m_couldBe_L_1 l1 l4 h k n) v_13 (l7 + (1 : Int32))
def f_m_couldBe (l1 : Int32) (l2 : Int64) (l4 : Int32) (h : Hp) : Option (Int64) :=
  f_m_couldBe_L_1 l1 l4 h (fun l5_14 l7_15 =>
    some l5_14
    ) 1000 l2 (0 : Int32)
set_option maxRecDepth 100000 in
set_option maxHeartbeats 4000000 in
theorem f_m_couldBe_L_1_ok {X : XCtx} (hX : XOk X RX5 cX5_couldBe 8 3 66) {r : Int64} {h : Hp} (hR : XR X (some .long) (some (.long r)) h)  (l1 : Int32) (l4 : Int32)  (k : Int64 → Int32 → Option (Int64))  (hk : ∀ (l5 : Int64) (l7 : Int32), k l5 l7 = some r → XW X 68 [(5, .long l5)] [] h) : ∀ (n : Nat) (l5 : Int64) (l7 : Int32), f_m_couldBe_L_1 l1 l4 h k n l5 l7 = some r → XW X 6 [(0, .ref 39), (1, .int l1), (4, .int l4), (5, .long l5), (7, .int l7)] [] h := by
  intro n
  induction n with
  | zero => intro l5 l7 hf; cases hf
  | succ n ih =>
    intro l5 l7 hf
    rw [f_m_couldBe_L_1] at hf
    refine Xblk hX pkX5_ok [.iload 7, .iload 4] (pc' := 10) (ls' := [(0, .ref 39), (1, .int l1), (4, .int l4), (5, .long l5), (7, .int l7)]) (st' := [.int l4, .int l7]) (h' := h) (g := true) (by decide +kernel) rfl rfl rfl ?_
    refine Xbr hX (.if_icmp .ge (58)) (tgt := 68) (P := l4 ≤ l7) (r := []) (by decide +kernel) rfl (by decide) (fun hc_2 => ?_) (fun hc_2 => ?_)
    · replace hf := xif_t hc_2 hf
      refine XW.pick [3] (ls' := [(5, .long l5)]) rfl ?_
      exact hk l5 l7 hf
    · replace hf := xif_f hc_2 hf
      refine Xblk hX pkX5_ok [.iload_n 1] (pc' := 14) (ls' := [(0, .ref 39), (1, .int l1), (4, .int l4), (5, .long l5), (7, .int l7)]) (st' := [.int l1]) (h' := h) (g := true) (by decide +kernel) rfl rfl rfl ?_
      refine XbrN hX (.ifCond .ne (8)) (tgt := 22) (P := l1 = (0 : Int32)) (r := []) (by decide +kernel) rfl (by decide) (fun hc_6 => ?_) (fun hc_6 => ?_)
      · replace hf := xif_t hc_6 hf
        refine Xblk hX pkX5_ok [.lload 5] (pc' := 19) (ls' := [(0, .ref 39), (1, .int l1), (4, .int l4), (5, .long l5), (7, .int l7)]) (st' := [.long l5]) (h' := h) (g := true) (by decide +kernel) rfl rfl rfl ?_
        refine Xgoto hX (41) 60 (by decide +kernel) (by decide) ?_
        refine Xblk hX pkX5_ok [.lstore 5, .iinc 7 1] (pc' := 65) (ls' := [(7, .int (l7 + (1 : Int32))), (5, .long l5), (0, .ref 39), (1, .int l1), (4, .int l4)]) (st' := []) (h' := h) (g := true) (by decide +kernel) rfl rfl rfl ?_
        refine Xgoto hX (-59) 6 (by decide +kernel) (by decide) ?_
        refine XW.pick [2, 3, 4, 1, 0] (ls' := [(0, .ref 39), (1, .int l1), (4, .int l4), (5, .long l5), (7, .int (l7 + (1 : Int32)))]) rfl ?_
        exact ih l5 (l7 + (1 : Int32)) hf
      · replace hf := xif_f hc_6 hf
        refine Xblk hX pkX5_ok [.iload_n 1, .iconst 1] (pc' := 24) (ls' := [(0, .ref 39), (1, .int l1), (4, .int l4), (5, .long l5), (7, .int l7)]) (st' := [.int (1 : Int32), .int l1]) (h' := h) (g := true) (by decide +kernel) rfl rfl rfl ?_
        refine XbrN hX (.if_icmp .ne (12)) (tgt := 36) (P := l1 = (1 : Int32)) (r := []) (by decide +kernel) rfl (by decide) (fun hc_9 => ?_) (fun hc_9 => ?_)
        · replace hf := xif_t hc_9 hf
          refine Xblk hX pkX5_ok [.aload_n 0, .lload 5] (pc' := 30) (ls' := [(0, .ref 39), (1, .int l1), (4, .int l4), (5, .long l5), (7, .int l7)]) (st' := [.long l5, .ref 39]) (h' := h) (g := true) (by decide +kernel) rfl rfl rfl ?_
          refine XcallV hX (mt_m_spread l5 h) (rest := []) (by decide) (by decide) xm_X5_spread xi_X5_spread xs_X5_spread xl_RX5_185 (by decide) (xsh_39) rfl rfl rfl (Nat.le_of_ble_eq_true rfl) (by decide +kernel) ?_
          show XW X 33 [(0, .ref 39), (1, .int l1), (4, .int l4), (5, .long l5), (7, .int l7)] [.long (f_m_spread l5 h)] h
          refine Xgoto hX (27) 60 (by decide +kernel) (by decide) ?_
          refine Xblk hX pkX5_ok [.lstore 5, .iinc 7 1] (pc' := 65) (ls' := [(7, .int (l7 + (1 : Int32))), (5, .long (f_m_spread l5 h)), (0, .ref 39), (1, .int l1), (4, .int l4)]) (st' := []) (h' := h) (g := true) (by decide +kernel) rfl rfl rfl ?_
          refine Xgoto hX (-59) 6 (by decide +kernel) (by decide) ?_
          refine XW.pick [2, 3, 4, 1, 0] (ls' := [(0, .ref 39), (1, .int l1), (4, .int l4), (5, .long (f_m_spread l5 h)), (7, .int (l7 + (1 : Int32)))]) rfl ?_
          exact ih (f_m_spread l5 h) (l7 + (1 : Int32)) hf
        · replace hf := xif_f hc_9 hf
          refine Xblk hX pkX5_ok [.iload_n 1, .iconst 2] (pc' := 38) (ls' := [(0, .ref 39), (1, .int l1), (4, .int l4), (5, .long l5), (7, .int l7)]) (st' := [.int (2 : Int32), .int l1]) (h' := h) (g := true) (by decide +kernel) rfl rfl rfl ?_
          refine XbrN hX (.if_icmp .ne (16)) (tgt := 54) (P := l1 = (2 : Int32)) (r := []) (by decide +kernel) rfl (by decide) (fun hc_11 => ?_) (fun hc_11 => ?_)
          · replace hf := xif_t hc_11 hf
            refine Xblk hX pkX5_ok [.aload_n 0, .aload_n 0, .lload 5] (pc' := 45) (ls' := [(0, .ref 39), (1, .int l1), (4, .int l4), (5, .long l5), (7, .int l7)]) (st' := [.long l5, .ref 39, .ref 39]) (h' := h) (g := true) (by decide +kernel) rfl rfl rfl ?_
            refine XcallV hX (mt_m_spread l5 h) (rest := [.ref 39]) (by decide) (by decide) xm_X5_spread xi_X5_spread xs_X5_spread xl_RX5_185 (by decide) (xsh_39) rfl rfl rfl (Nat.le_of_ble_eq_true rfl) (by decide +kernel) ?_
            show XW X 48 [(0, .ref 39), (1, .int l1), (4, .int l4), (5, .long l5), (7, .int l7)] [.long (f_m_spread l5 h), .ref 39] h
            refine XcallV hX (mt_m_spread (f_m_spread l5 h) h) (rest := []) (by decide) (by decide) xm_X5_spread xi_X5_spread xs_X5_spread xl_RX5_185 (by decide) (xsh_39) rfl rfl rfl (Nat.le_of_ble_eq_true rfl) (by decide +kernel) ?_
            show XW X 51 [(0, .ref 39), (1, .int l1), (4, .int l4), (5, .long l5), (7, .int l7)] [.long (f_m_spread (f_m_spread l5 h) h)] h
            refine Xgoto hX (9) 60 (by decide +kernel) (by decide) ?_
            refine Xblk hX pkX5_ok [.lstore 5, .iinc 7 1] (pc' := 65) (ls' := [(7, .int (l7 + (1 : Int32))), (5, .long (f_m_spread (f_m_spread l5 h) h)), (0, .ref 39), (1, .int l1), (4, .int l4)]) (st' := []) (h' := h) (g := true) (by decide +kernel) rfl rfl rfl ?_
            refine Xgoto hX (-59) 6 (by decide +kernel) (by decide) ?_
            refine XW.pick [2, 3, 4, 1, 0] (ls' := [(0, .ref 39), (1, .int l1), (4, .int l4), (5, .long (f_m_spread (f_m_spread l5 h) h)), (7, .int (l7 + (1 : Int32)))]) rfl ?_
            exact ih (f_m_spread (f_m_spread l5 h) h) (l7 + (1 : Int32)) hf
          · replace hf := xif_f hc_11 hf
            refine Xblk hX pkX5_ok [.aload_n 0, .lload 5] (pc' := 57) (ls' := [(0, .ref 39), (1, .int l1), (4, .int l4), (5, .long l5), (7, .int l7)]) (st' := [.long l5, .ref 39]) (h' := h) (g := true) (by decide +kernel) rfl rfl rfl ?_
            obtain ⟨v_13, hc_12, hf⟩ := xbd1_inv hf
            refine XcallV hX (mt_m_close l5 h hc_12) (rest := []) (by decide) (by decide) xm_X5_close xi_X5_close xs_X5_close xl_RX5_189 (by decide) (xsh_39) rfl rfl rfl (Nat.le_of_ble_eq_true rfl) (by decide +kernel) ?_
            show XW X 60 [(0, .ref 39), (1, .int l1), (4, .int l4), (5, .long l5), (7, .int l7)] [.long v_13] h
            refine Xblk hX pkX5_ok [.lstore 5, .iinc 7 1] (pc' := 65) (ls' := [(7, .int (l7 + (1 : Int32))), (5, .long v_13), (0, .ref 39), (1, .int l1), (4, .int l4)]) (st' := []) (h' := h) (g := true) (by decide +kernel) rfl rfl rfl ?_
            refine Xgoto hX (-59) 6 (by decide +kernel) (by decide) ?_
            refine XW.pick [2, 3, 4, 1, 0] (ls' := [(0, .ref 39), (1, .int l1), (4, .int l4), (5, .long v_13), (7, .int (l7 + (1 : Int32)))]) rfl ?_
            exact ih v_13 (l7 + (1 : Int32)) hf
set_option maxRecDepth 100000 in
set_option maxHeartbeats 4000000 in
theorem mt_m_couldBe (l1 : Int32) (l2 : Int64) (l4 : Int32) (h : Hp) {r : Int64} (hf : f_m_couldBe l1 l2 l4 h = some r) : MT 3 66 yX5_couldBe cX5_couldBe 8 (some .long) [.ref 39, .int l1, .long l2, .int l4] h (some (.long r)) h := by
  refine MT.of (by decide +kernel) (Nat.le_of_ble_eq_true rfl) fun X hX hR => ?_
  unfold f_m_couldBe at hf
  refine Xblk hX pkX5_ok [.lload_n 2, .lstore 5, .iconst 0, .istore 7] (pc' := 6) (ls' := [(7, .int (0 : Int32)), (5, .long l2), (0, .ref 39), (1, .int l1), (2, .long l2), (4, .int l4)]) (st' := []) (h' := h) (g := true) (by decide +kernel) rfl rfl rfl ?_
  refine XW.pick [2, 3, 5, 1, 0] (ls' := [(0, .ref 39), (1, .int l1), (4, .int l4), (5, .long l2), (7, .int (0 : Int32))]) rfl ?_
  refine f_m_couldBe_L_1_ok hX hR l1 l4 _  (fun l5_14 l7_15 hf => ?_) 1000 l2 (0 : Int32) hf
  refine Xblk hX pkX5_ok [.lload 5] (pc' := 70) (ls' := [(5, .long l5_14)]) (st' := [.long l5_14]) (h' := h) (g := true) (by decide +kernel) rfl rfl rfl ?_
  exact XrL1 hX hR hf (by decide +kernel)
def f_m_could (l1 : Int32) (l2 : Int32) (h : Hp) : Option (Int64) :=
  if (f_m_isPerson l1 h) = (0 : Int32) then
    some (-1 : Int64)
  else
    if (f_m_in l2 (0 : Int32) (20 : Int32)) = (0 : Int32) then
      some (-1 : Int64)
    else
      xgd (xin l1 18 && (xin l1 18 && true)) <|
      xbd1 (f_m_couldBe (h.1 44 l1.toNatClampNeg) (jshlL (1 : Int64) (h.1 43 l1.toNatClampNeg)) l2 h) fun v_7 =>
      some v_7
set_option maxRecDepth 100000 in
set_option maxHeartbeats 4000000 in
theorem mt_m_could (l1 : Int32) (l2 : Int32) (h : Hp) {r : Int64} (hf : f_m_could l1 l2 h = some r) : MT 4 66 yX5_could cX5_could 3 (some .long) [.ref 39, .int l1, .int l2] h (some (.long r)) h := by
  refine MT.of (by decide +kernel) (Nat.le_of_ble_eq_true rfl) fun X hX hR => ?_
  unfold f_m_could at hf
  refine Xblk hX pkX5_ok [.aload_n 0, .iload_n 1] (pc' := 2) (ls' := [(0, .ref 39), (1, .int l1), (2, .int l2)]) (st' := [.int l1, .ref 39]) (h' := h) (g := true) (by decide +kernel) rfl rfl rfl ?_
  refine XcallV hX (mt_m_isPerson l1 h) (rest := []) (by decide) (by decide) xm_X5_isPerson xi_X5_isPerson xs_X5_isPerson xl_RX5_172 (by decide) (xsh_39) rfl rfl rfl (Nat.le_of_ble_eq_true rfl) (by decide +kernel) ?_
  show XW X 5 [(0, .ref 39), (1, .int l1), (2, .int l2)] [.int (f_m_isPerson l1 h)] h
  refine Xbr hX (.ifCond .eq (35)) (tgt := 40) (P := (f_m_isPerson l1 h) = (0 : Int32)) (r := []) (by decide +kernel) rfl (by decide) (fun hc_3 => ?_) (fun hc_3 => ?_)
  · replace hf := xif_t hc_3 hf
    refine Xblk hX pkX5_ok [.ldc2_w 154] (pc' := 43) (ls' := [(0, .ref 39), (1, .int l1), (2, .int l2)]) (st' := [.long (-1 : Int64)]) (h' := h) (g := true) (by decide +kernel) rfl rfl rfl ?_
    exact XrL1 hX hR hf (by decide +kernel)
  · replace hf := xif_f hc_3 hf
    refine Xblk hX pkX5_ok [.iload_n 2, .iconst 0, .bipush 20] (pc' := 12) (ls' := [(0, .ref 39), (1, .int l1), (2, .int l2)]) (st' := [.int (20 : Int32), .int (0 : Int32), .int l2]) (h' := h) (g := true) (by decide +kernel) rfl rfl rfl ?_
    refine XcallS hX (mt_m_in l2 (0 : Int32) (20 : Int32) h) (rest := []) (by decide) (by decide) xm_X5_in xi_X5_in xl_RX5_107 rfl (Nat.le_of_ble_eq_true rfl) (by decide +kernel) ?_
    show XW X 15 [(0, .ref 39), (1, .int l1), (2, .int l2)] [.int (f_m_in l2 (0 : Int32) (20 : Int32))] h
    refine Xbr hX (.ifCond .eq (25)) (tgt := 40) (P := (f_m_in l2 (0 : Int32) (20 : Int32)) = (0 : Int32)) (r := []) (by decide +kernel) rfl (by decide) (fun hc_5 => ?_) (fun hc_5 => ?_)
    · replace hf := xif_t hc_5 hf
      refine Xblk hX pkX5_ok [.ldc2_w 154] (pc' := 43) (ls' := [(0, .ref 39), (1, .int l1), (2, .int l2)]) (st' := [.long (-1 : Int64)]) (h' := h) (g := true) (by decide +kernel) rfl rfl rfl ?_
      exact XrL1 hX hR hf (by decide +kernel)
    · replace hf := xif_f hc_5 hf
      obtain ⟨hg, hf⟩ := xgd_inv hf
      refine Xblk hX pkX5_ok [.aload_n 0, .aload_n 0, .getfield 23, .iload_n 1, .iaload, .lconst 1, .aload_n 0, .getfield 20, .iload_n 1, .iaload, .lshl, .iload_n 2] (pc' := 34) (ls' := [(0, .ref 39), (1, .int l1), (2, .int l2)]) (st' := [.int l2, .long (jshlL (1 : Int64) (h.1 43 l1.toNatClampNeg)), .int (h.1 44 l1.toNatClampNeg), .ref 39]) (h' := h) (g := (xin l1 18 && (xin l1 18 && true))) (by decide +kernel) rfl rfl hg ?_
      obtain ⟨v_7, hc_6, hf⟩ := xbd1_inv hf
      refine XcallV hX (mt_m_couldBe (h.1 44 l1.toNatClampNeg) (jshlL (1 : Int64) (h.1 43 l1.toNatClampNeg)) l2 h hc_6) (rest := []) (by decide) (by decide) xm_X5_couldBe xi_X5_couldBe xs_X5_couldBe xl_RX5_192 (by decide) (xsh_39) rfl rfl rfl (Nat.le_of_ble_eq_true rfl) (by decide +kernel) ?_
      show XW X 37 [(0, .ref 39), (1, .int l1), (2, .int l2)] [.long v_7] h
      refine Xgoto hX (6) 43 (by decide +kernel) (by decide) ?_
      exact XrL1 hX hR hf (by decide +kernel)
def f_m_seenCould_L_3  (l2 : Int32) (l3 : Int64) (h : Hp) (k : Int64 → Int32 → Option (Int64)) : Nat → Int64 → Int32 → Option (Int64)
  | 0, _, _ => none
  | n + 1, l5, l7 =>
    if (h.1 39 12) ≤ l7 then
      k l5 l7
    else
      xgd (xin l7 18 && true) <|
      if (if (lg_cmp ((jshrL l3 (h.1 43 l7.toNatClampNeg)) &&& (1 : Int64)) (1 : Int64)) = (0 : Int32) then (1 : Int32) else (0 : Int32)) = (0 : Int32) then
        (f_m_seenCould_L_3 l2 l3 h k n) (l5 ||| (0 : Int64)) (l7 + (1 : Int32))
      else
        xgd (xin l7 18 && (xin l7 18 && true)) <|
        xbd1 (f_m_couldBe (h.1 44 l7.toNatClampNeg) (jshlL (1 : Int64) (h.1 43 l7.toNatClampNeg)) l2 h) fun v_10 =>
        (f_m_seenCould_L_3 l2 l3 h k n) (l5 ||| v_10) (l7 + (1 : Int32))
def f_m_seenCould (l1 : Int32) (l2 : Int32) (h : Hp) : Option (Int64) :=
  xgd (xin l1 6 && true) <|
  xbd1 (f_m_seenFrom (h.1 45 l1.toNatClampNeg) h) fun v_2 =>
  f_m_seenCould_L_3 l2 v_2 h (fun l5_12 l7_13 =>
    some l5_12
    ) 1000 (0 : Int64) (0 : Int32)
set_option maxRecDepth 100000 in
set_option maxHeartbeats 4000000 in
theorem f_m_seenCould_L_3_ok {X : XCtx} (hX : XOk X RX5 cX5_seenCould 9 4 66) {r : Int64} {h : Hp} (hR : XR X (some .long) (some (.long r)) h)  (l2 : Int32) (l3 : Int64)  (k : Int64 → Int32 → Option (Int64))  (hk : ∀ (l5 : Int64) (l7 : Int32), k l5 l7 = some r → XW X 90 [(5, .long l5)] [] h) : ∀ (n : Nat) (l5 : Int64) (l7 : Int32), f_m_seenCould_L_3 l2 l3 h k n l5 l7 = some r → XW X 17 [(0, .ref 39), (2, .int l2), (3, .long l3), (5, .long l5), (7, .int l7)] [] h := by
  intro n
  induction n with
  | zero => intro l5 l7 hf; cases hf
  | succ n ih =>
    intro l5 l7 hf
    rw [f_m_seenCould_L_3] at hf
    refine Xblk hX pkX5_ok [.iload 7, .aload_n 0, .getfield 129] (pc' := 23) (ls' := [(0, .ref 39), (2, .int l2), (3, .long l3), (5, .long l5), (7, .int l7)]) (st' := [.int (h.1 39 12), .int l7]) (h' := h) (g := true) (by decide +kernel) rfl rfl rfl ?_
    refine Xbr hX (.if_icmp .ge (67)) (tgt := 90) (P := (h.1 39 12) ≤ l7) (r := []) (by decide +kernel) rfl (by decide) (fun hc_4 => ?_) (fun hc_4 => ?_)
    · replace hf := xif_t hc_4 hf
      refine XW.pick [3] (ls' := [(5, .long l5)]) rfl ?_
      exact hk l5 l7 hf
    · replace hf := xif_f hc_4 hf
      obtain ⟨hg, hf⟩ := xgd_inv hf
      refine Xblk hX pkX5_ok [.lload_n 3, .aload_n 0, .getfield 20, .iload 7, .iaload, .lshr, .lconst 1, .land, .lconst 1, .lcmp] (pc' := 39) (ls' := [(0, .ref 39), (2, .int l2), (3, .long l3), (5, .long l5), (7, .int l7)]) (st' := [.int (lg_cmp ((jshrL l3 (h.1 43 l7.toNatClampNeg)) &&& (1 : Int64)) (1 : Int64))]) (h' := h) (g := (xin l7 18 && true)) (by decide +kernel) rfl rfl hg ?_
      have kJ_11 : ∀ (w_6 : Int32), w_6 = (if (lg_cmp ((jshrL l3 (h.1 43 l7.toNatClampNeg)) &&& (1 : Int64)) (1 : Int64)) = (0 : Int32) then (1 : Int32) else (0 : Int32)) → XW X 47 [(0, .ref 39), (2, .int l2), (3, .long l3), (5, .long l5), (7, .int l7)] [.int w_6] h := by
        intro w_6 ew_6
        subst ew_6
        refine Xblk hX pkX5_ok [.istore 8, .lload 5, .iload 8] (pc' := 53) (ls' := [(8, .int (if (lg_cmp ((jshrL l3 (h.1 43 l7.toNatClampNeg)) &&& (1 : Int64)) (1 : Int64)) = (0 : Int32) then (1 : Int32) else (0 : Int32))), (0, .ref 39), (2, .int l2), (3, .long l3), (5, .long l5), (7, .int l7)]) (st' := [.int (if (lg_cmp ((jshrL l3 (h.1 43 l7.toNatClampNeg)) &&& (1 : Int64)) (1 : Int64)) = (0 : Int32) then (1 : Int32) else (0 : Int32)), .long l5]) (h' := h) (g := true) (by decide +kernel) rfl rfl rfl ?_
        refine Xbr hX (.ifCond .eq (27)) (tgt := 80) (P := (if (lg_cmp ((jshrL l3 (h.1 43 l7.toNatClampNeg)) &&& (1 : Int64)) (1 : Int64)) = (0 : Int32) then (1 : Int32) else (0 : Int32)) = (0 : Int32)) (r := [.long l5]) (by decide +kernel) rfl (by decide) (fun hc_8 => ?_) (fun hc_8 => ?_)
        · replace hf := xif_t hc_8 hf
          refine Xblk hX pkX5_ok [.lconst 0, .lor, .lstore 5, .iinc 7 1] (pc' := 87) (ls' := [(7, .int (l7 + (1 : Int32))), (5, .long (l5 ||| (0 : Int64))), (8, .int (if (lg_cmp ((jshrL l3 (h.1 43 l7.toNatClampNeg)) &&& (1 : Int64)) (1 : Int64)) = (0 : Int32) then (1 : Int32) else (0 : Int32))), (0, .ref 39), (2, .int l2), (3, .long l3)]) (st' := []) (h' := h) (g := true) (by decide +kernel) rfl rfl rfl ?_
          refine Xgoto hX (-70) 17 (by decide +kernel) (by decide) ?_
          refine XW.pick [3, 4, 5, 1, 0] (ls' := [(0, .ref 39), (2, .int l2), (3, .long l3), (5, .long (l5 ||| (0 : Int64))), (7, .int (l7 + (1 : Int32)))]) rfl ?_
          exact ih (l5 ||| (0 : Int64)) (l7 + (1 : Int32)) hf
        · replace hf := xif_f hc_8 hf
          obtain ⟨hg, hf⟩ := xgd_inv hf
          refine Xblk hX pkX5_ok [.aload_n 0, .aload_n 0, .getfield 23, .iload 7, .iaload, .lconst 1, .aload_n 0, .getfield 20, .iload 7, .iaload, .lshl, .iload_n 2] (pc' := 74) (ls' := [(8, .int (if (lg_cmp ((jshrL l3 (h.1 43 l7.toNatClampNeg)) &&& (1 : Int64)) (1 : Int64)) = (0 : Int32) then (1 : Int32) else (0 : Int32))), (0, .ref 39), (2, .int l2), (3, .long l3), (5, .long l5), (7, .int l7)]) (st' := [.int l2, .long (jshlL (1 : Int64) (h.1 43 l7.toNatClampNeg)), .int (h.1 44 l7.toNatClampNeg), .ref 39, .long l5]) (h' := h) (g := (xin l7 18 && (xin l7 18 && true))) (by decide +kernel) rfl rfl hg ?_
          obtain ⟨v_10, hc_9, hf⟩ := xbd1_inv hf
          refine XcallV hX (mt_m_couldBe (h.1 44 l7.toNatClampNeg) (jshlL (1 : Int64) (h.1 43 l7.toNatClampNeg)) l2 h hc_9) (rest := [.long l5]) (by decide) (by decide) xm_X5_couldBe xi_X5_couldBe xs_X5_couldBe xl_RX5_192 (by decide) (xsh_39) rfl rfl rfl (Nat.le_of_ble_eq_true rfl) (by decide +kernel) ?_
          show XW X 77 [(8, .int (if (lg_cmp ((jshrL l3 (h.1 43 l7.toNatClampNeg)) &&& (1 : Int64)) (1 : Int64)) = (0 : Int32) then (1 : Int32) else (0 : Int32))), (0, .ref 39), (2, .int l2), (3, .long l3), (5, .long l5), (7, .int l7)] [.long v_10, .long l5] h
          refine Xgoto hX (4) 81 (by decide +kernel) (by decide) ?_
          refine Xblk hX pkX5_ok [.lor, .lstore 5, .iinc 7 1] (pc' := 87) (ls' := [(7, .int (l7 + (1 : Int32))), (5, .long (l5 ||| v_10)), (8, .int (if (lg_cmp ((jshrL l3 (h.1 43 l7.toNatClampNeg)) &&& (1 : Int64)) (1 : Int64)) = (0 : Int32) then (1 : Int32) else (0 : Int32))), (0, .ref 39), (2, .int l2), (3, .long l3)]) (st' := []) (h' := h) (g := true) (by decide +kernel) rfl rfl rfl ?_
          refine Xgoto hX (-70) 17 (by decide +kernel) (by decide) ?_
          refine XW.pick [3, 4, 5, 1, 0] (ls' := [(0, .ref 39), (2, .int l2), (3, .long l3), (5, .long (l5 ||| v_10)), (7, .int (l7 + (1 : Int32)))]) rfl ?_
          exact ih (l5 ||| v_10) (l7 + (1 : Int32)) hf
      refine XbrN hX (.ifCond .ne (7)) (tgt := 46) (P := (lg_cmp ((jshrL l3 (h.1 43 l7.toNatClampNeg)) &&& (1 : Int64)) (1 : Int64)) = (0 : Int32)) (r := []) (by decide +kernel) rfl (by decide) (fun hc_5 => ?_) (fun hc_5 => ?_)
      · refine Xblk hX pkX5_ok [.iconst 1] (pc' := 43) (ls' := [(0, .ref 39), (2, .int l2), (3, .long l3), (5, .long l5), (7, .int l7)]) (st' := [.int (1 : Int32)]) (h' := h) (g := true) (by decide +kernel) rfl rfl rfl ?_
        refine Xgoto hX (4) 47 (by decide +kernel) (by decide) ?_
        refine XW.pick [0, 1, 2, 3, 4] (ls' := [(0, .ref 39), (2, .int l2), (3, .long l3), (5, .long l5), (7, .int l7)]) rfl ?_
        exact kJ_11 _ (by rw [if_pos hc_5])
      · refine Xblk hX pkX5_ok [.iconst 0] (pc' := 47) (ls' := [(0, .ref 39), (2, .int l2), (3, .long l3), (5, .long l5), (7, .int l7)]) (st' := [.int (0 : Int32)]) (h' := h) (g := true) (by decide +kernel) rfl rfl rfl ?_
        refine XW.pick [0, 1, 2, 3, 4] (ls' := [(0, .ref 39), (2, .int l2), (3, .long l3), (5, .long l5), (7, .int l7)]) rfl ?_
        exact kJ_11 _ (by rw [if_neg hc_5])
set_option maxRecDepth 100000 in
set_option maxHeartbeats 4000000 in
theorem mt_m_seenCould (l1 : Int32) (l2 : Int32) (h : Hp) {r : Int64} (hf : f_m_seenCould l1 l2 h = some r) : MT 4 66 yX5_seenCould cX5_seenCould 9 (some .long) [.ref 39, .int l1, .int l2] h (some (.long r)) h := by
  refine MT.of (by decide +kernel) (Nat.le_of_ble_eq_true rfl) fun X hX hR => ?_
  unfold f_m_seenCould at hf
  obtain ⟨hg, hf⟩ := xgd_inv hf
  refine Xblk hX pkX5_ok [.aload_n 0, .aload_n 0, .getfield 26, .iload_n 1, .iaload] (pc' := 7) (ls' := [(0, .ref 39), (1, .int l1), (2, .int l2)]) (st' := [.int (h.1 45 l1.toNatClampNeg), .ref 39]) (h' := h) (g := (xin l1 6 && true)) (by decide +kernel) rfl rfl hg ?_
  obtain ⟨v_2, hc_1, hf⟩ := xbd1_inv hf
  refine XcallV hX (mt_m_seenFrom (h.1 45 l1.toNatClampNeg) h hc_1) (rest := []) (by decide) (by decide) xm_X5_seenFrom xi_X5_seenFrom xs_X5_seenFrom xl_RX5_160 (by decide) (xsh_39) rfl rfl rfl (Nat.le_of_ble_eq_true rfl) (by decide +kernel) ?_
  show XW X 10 [(0, .ref 39), (1, .int l1), (2, .int l2)] [.long v_2] h
  refine Xblk hX pkX5_ok [.lstore_n 3, .lconst 0, .lstore 5, .iconst 0, .istore 7] (pc' := 17) (ls' := [(7, .int (0 : Int32)), (5, .long (0 : Int64)), (3, .long v_2), (0, .ref 39), (1, .int l1), (2, .int l2)]) (st' := []) (h' := h) (g := true) (by decide +kernel) rfl rfl rfl ?_
  refine XW.pick [3, 5, 2, 1, 0] (ls' := [(0, .ref 39), (2, .int l2), (3, .long v_2), (5, .long (0 : Int64)), (7, .int (0 : Int32))]) rfl ?_
  refine f_m_seenCould_L_3_ok hX hR l2 v_2 _  (fun l5_12 l7_13 hf => ?_) 1000 (0 : Int64) (0 : Int32) hf
  refine Xblk hX pkX5_ok [.lload 5] (pc' := 92) (ls' := [(5, .long l5_12)]) (st' := [.long l5_12]) (h' := h) (g := true) (by decide +kernel) rfl rfl rfl ?_
  exact XrL1 hX hR hf (by decide +kernel)
def f_m_unseenCould (l1 : Int32) (l2 : Int32) (h : Hp) : Option (Int64) :=
  xgd (xin l1 6 && true) <|
  xbd1 (f_m_seenFrom (h.1 45 l1.toNatClampNeg) h) fun v_2 =>
  xbd1 (f_m_couldBe (1 : Int32) ((h.2 39 8) &&& (v_2 ^^^ (-1 : Int64))) l2 h) fun v_4 =>
  some v_4
set_option maxRecDepth 100000 in
set_option maxHeartbeats 4000000 in
theorem mt_m_unseenCould (l1 : Int32) (l2 : Int32) (h : Hp) {r : Int64} (hf : f_m_unseenCould l1 l2 h = some r) : MT 4 66 yX5_unseenCould cX5_unseenCould 3 (some .long) [.ref 39, .int l1, .int l2] h (some (.long r)) h := by
  refine MT.of (by decide +kernel) (Nat.le_of_ble_eq_true rfl) fun X hX hR => ?_
  unfold f_m_unseenCould at hf
  obtain ⟨hg, hf⟩ := xgd_inv hf
  refine Xblk hX pkX5_ok [.aload_n 0, .iconst 1, .aload_n 0, .getfield 100, .aload_n 0, .aload_n 0, .getfield 26, .iload_n 1, .iaload] (pc' := 13) (ls' := [(0, .ref 39), (1, .int l1), (2, .int l2)]) (st' := [.int (h.1 45 l1.toNatClampNeg), .ref 39, .long (h.2 39 8), .int (1 : Int32), .ref 39]) (h' := h) (g := (xin l1 6 && true)) (by decide +kernel) rfl rfl hg ?_
  obtain ⟨v_2, hc_1, hf⟩ := xbd1_inv hf
  refine XcallV hX (mt_m_seenFrom (h.1 45 l1.toNatClampNeg) h hc_1) (rest := [.long (h.2 39 8), .int (1 : Int32), .ref 39]) (by decide) (by decide) xm_X5_seenFrom xi_X5_seenFrom xs_X5_seenFrom xl_RX5_160 (by decide) (xsh_39) rfl rfl rfl (Nat.le_of_ble_eq_true rfl) (by decide +kernel) ?_
  show XW X 16 [(0, .ref 39), (1, .int l1), (2, .int l2)] [.long v_2, .long (h.2 39 8), .int (1 : Int32), .ref 39] h
  refine Xblk hX pkX5_ok [.ldc2_w 154, .lxor, .land, .iload_n 2] (pc' := 22) (ls' := [(0, .ref 39), (1, .int l1), (2, .int l2)]) (st' := [.int l2, .long ((h.2 39 8) &&& (v_2 ^^^ (-1 : Int64))), .int (1 : Int32), .ref 39]) (h' := h) (g := true) (by decide +kernel) rfl rfl rfl ?_
  obtain ⟨v_4, hc_3, hf⟩ := xbd1_inv hf
  refine XcallV hX (mt_m_couldBe (1 : Int32) ((h.2 39 8) &&& (v_2 ^^^ (-1 : Int64))) l2 h hc_3) (rest := []) (by decide) (by decide) xm_X5_couldBe xi_X5_couldBe xs_X5_couldBe xl_RX5_192 (by decide) (xsh_39) rfl rfl rfl (Nat.le_of_ble_eq_true rfl) (by decide +kernel) ?_
  show XW X 25 [(0, .ref 39), (1, .int l1), (2, .int l2)] [.long v_4] h
  exact XrL1 hX hR hf (by decide +kernel)
def f_m_anybody (l1 : Int32) (l2 : Int32) (h : Hp) : Option (Int64) :=
  if (f_m_isCarrier l1 h) = (0 : Int32) then
    some (-1 : Int64)
  else
    if (f_m_in l2 (0 : Int32) (20 : Int32)) = (0 : Int32) then
      some (-1 : Int64)
    else
      xbd1 (f_m_seenCould l1 l2 h) fun v_7 =>
      xbd1 (f_m_unseenCould l1 l2 h) fun v_9 =>
      some (v_7 ||| v_9)
set_option maxRecDepth 100000 in
set_option maxHeartbeats 4000000 in
theorem mt_m_anybody (l1 : Int32) (l2 : Int32) (h : Hp) {r : Int64} (hf : f_m_anybody l1 l2 h = some r) : MT 5 66 yX5_anybody cX5_anybody 3 (some .long) [.ref 39, .int l1, .int l2] h (some (.long r)) h := by
  refine MT.of (by decide +kernel) (Nat.le_of_ble_eq_true rfl) fun X hX hR => ?_
  unfold f_m_anybody at hf
  refine Xblk hX pkX5_ok [.aload_n 0, .iload_n 1] (pc' := 2) (ls' := [(0, .ref 39), (1, .int l1), (2, .int l2)]) (st' := [.int l1, .ref 39]) (h' := h) (g := true) (by decide +kernel) rfl rfl rfl ?_
  refine XcallV hX (mt_m_isCarrier l1 h) (rest := []) (by decide) (by decide) xm_X5_isCarrier xi_X5_isCarrier xs_X5_isCarrier xl_RX5_175 (by decide) (xsh_39) rfl rfl rfl (Nat.le_of_ble_eq_true rfl) (by decide +kernel) ?_
  show XW X 5 [(0, .ref 39), (1, .int l1), (2, .int l2)] [.int (f_m_isCarrier l1 h)] h
  refine Xbr hX (.ifCond .eq (29)) (tgt := 34) (P := (f_m_isCarrier l1 h) = (0 : Int32)) (r := []) (by decide +kernel) rfl (by decide) (fun hc_3 => ?_) (fun hc_3 => ?_)
  · replace hf := xif_t hc_3 hf
    refine Xblk hX pkX5_ok [.ldc2_w 154] (pc' := 37) (ls' := [(0, .ref 39), (1, .int l1), (2, .int l2)]) (st' := [.long (-1 : Int64)]) (h' := h) (g := true) (by decide +kernel) rfl rfl rfl ?_
    exact XrL1 hX hR hf (by decide +kernel)
  · replace hf := xif_f hc_3 hf
    refine Xblk hX pkX5_ok [.iload_n 2, .iconst 0, .bipush 20] (pc' := 12) (ls' := [(0, .ref 39), (1, .int l1), (2, .int l2)]) (st' := [.int (20 : Int32), .int (0 : Int32), .int l2]) (h' := h) (g := true) (by decide +kernel) rfl rfl rfl ?_
    refine XcallS hX (mt_m_in l2 (0 : Int32) (20 : Int32) h) (rest := []) (by decide) (by decide) xm_X5_in xi_X5_in xl_RX5_107 rfl (Nat.le_of_ble_eq_true rfl) (by decide +kernel) ?_
    show XW X 15 [(0, .ref 39), (1, .int l1), (2, .int l2)] [.int (f_m_in l2 (0 : Int32) (20 : Int32))] h
    refine Xbr hX (.ifCond .eq (19)) (tgt := 34) (P := (f_m_in l2 (0 : Int32) (20 : Int32)) = (0 : Int32)) (r := []) (by decide +kernel) rfl (by decide) (fun hc_5 => ?_) (fun hc_5 => ?_)
    · replace hf := xif_t hc_5 hf
      refine Xblk hX pkX5_ok [.ldc2_w 154] (pc' := 37) (ls' := [(0, .ref 39), (1, .int l1), (2, .int l2)]) (st' := [.long (-1 : Int64)]) (h' := h) (g := true) (by decide +kernel) rfl rfl rfl ?_
      exact XrL1 hX hR hf (by decide +kernel)
    · replace hf := xif_f hc_5 hf
      refine Xblk hX pkX5_ok [.aload_n 0, .iload_n 1, .iload_n 2] (pc' := 21) (ls' := [(0, .ref 39), (1, .int l1), (2, .int l2)]) (st' := [.int l2, .int l1, .ref 39]) (h' := h) (g := true) (by decide +kernel) rfl rfl rfl ?_
      obtain ⟨v_7, hc_6, hf⟩ := xbd1_inv hf
      refine XcallV hX (mt_m_seenCould l1 l2 h hc_6) (rest := []) (by decide) (by decide) xm_X5_seenCould xi_X5_seenCould xs_X5_seenCould xl_RX5_196 (by decide) (xsh_39) rfl rfl rfl (Nat.le_of_ble_eq_true rfl) (by decide +kernel) ?_
      show XW X 24 [(0, .ref 39), (1, .int l1), (2, .int l2)] [.long v_7] h
      refine Xblk hX pkX5_ok [.aload_n 0, .iload_n 1, .iload_n 2] (pc' := 27) (ls' := [(0, .ref 39), (1, .int l1), (2, .int l2)]) (st' := [.int l2, .int l1, .ref 39, .long v_7]) (h' := h) (g := true) (by decide +kernel) rfl rfl rfl ?_
      obtain ⟨v_9, hc_8, hf⟩ := xbd1_inv hf
      refine XcallV hX (mt_m_unseenCould l1 l2 h hc_8) (rest := [.long v_7]) (by decide) (by decide) xm_X5_unseenCould xi_X5_unseenCould xs_X5_unseenCould xl_RX5_200 (by decide) (xsh_39) rfl rfl rfl (Nat.le_of_ble_eq_true rfl) (by decide +kernel) ?_
      show XW X 30 [(0, .ref 39), (1, .int l1), (2, .int l2)] [.long v_9, .long v_7] h
      refine Xblk hX pkX5_ok [.lor] (pc' := 31) (ls' := [(0, .ref 39), (1, .int l1), (2, .int l2)]) (st' := [.long (v_7 ||| v_9)]) (h' := h) (g := true) (by decide +kernel) rfl rfl rfl ?_
      refine Xgoto hX (6) 37 (by decide +kernel) (by decide) ?_
      exact XrL1 hX hR hf (by decide +kernel)
def f_m_why (l1 : Int32) (l2 : Int32) (h : Hp) : Option (Int32) :=
  if l2 = (4 : Int32) then
    some (0 : Int32)
  else
    xgd (xin l1 6 && true) <|
    if (f_m_beside (h.1 45 l1.toNatClampNeg) l2 h) = (-9 : Int32) then
      some (1 : Int32)
    else
      if (f_m_isFree (f_m_beside (h.1 45 l1.toNatClampNeg) l2 h) h) = (0 : Int32) then
        some (1 : Int32)
      else
        xbd1 (f_m_carrierOn (f_m_beside (h.1 45 l1.toNatClampNeg) l2 h) h) fun v_5 =>
        if v_5 = (-9 : Int32) then
          xbd1 (f_m_seenCould l1 (1 : Int32) h) fun v_8 =>
          if (lg_cmp ((jshrL v_8 (f_m_beside (h.1 45 l1.toNatClampNeg) l2 h)) &&& (1 : Int64)) (1 : Int64)) = (0 : Int32) then
            some (3 : Int32)
          else
            xbd1 (f_m_unseenCould l1 (1 : Int32) h) fun v_12 =>
            some (if (lg_cmp ((jshrL v_12 (f_m_beside (h.1 45 l1.toNatClampNeg) l2 h)) &&& (1 : Int64)) (1 : Int64)) = (0 : Int32) then (4 : Int32) else (0 : Int32))
        else
          some (2 : Int32)
set_option maxRecDepth 100000 in
set_option maxHeartbeats 4000000 in
theorem mt_m_why (l1 : Int32) (l2 : Int32) (h : Hp) {r : Int32} (hf : f_m_why l1 l2 h = some r) : MT 5 66 yX5_why cX5_why 4 (some .int) [.ref 39, .int l1, .int l2] h (some (.int r)) h := by
  refine MT.of (by decide +kernel) (Nat.le_of_ble_eq_true rfl) fun X hX hR => ?_
  unfold f_m_why at hf
  refine Xblk hX pkX5_ok [.iload_n 2, .iconst 4] (pc' := 2) (ls' := [(0, .ref 39), (1, .int l1), (2, .int l2)]) (st' := [.int (4 : Int32), .int l2]) (h' := h) (g := true) (by decide +kernel) rfl rfl rfl ?_
  refine XbrN hX (.if_icmp .ne (5)) (tgt := 7) (P := l2 = (4 : Int32)) (r := []) (by decide +kernel) rfl (by decide) (fun hc_1 => ?_) (fun hc_1 => ?_)
  · replace hf := xif_t hc_1 hf
    refine Xblk hX pkX5_ok [.iconst 0] (pc' := 6) (ls' := [(0, .ref 39), (1, .int l1), (2, .int l2)]) (st' := [.int (0 : Int32)]) (h' := h) (g := true) (by decide +kernel) rfl rfl rfl ?_
    exact XrI1 hX hR hf (by decide +kernel)
  · replace hf := xif_f hc_1 hf
    obtain ⟨hg, hf⟩ := xgd_inv hf
    refine Xblk hX pkX5_ok [.aload_n 0, .aload_n 0, .getfield 26, .iload_n 1, .iaload, .iload_n 2] (pc' := 15) (ls' := [(0, .ref 39), (1, .int l1), (2, .int l2)]) (st' := [.int l2, .int (h.1 45 l1.toNatClampNeg), .ref 39]) (h' := h) (g := (xin l1 6 && true)) (by decide +kernel) rfl rfl hg ?_
    refine XcallV hX (mt_m_beside (h.1 45 l1.toNatClampNeg) l2 h) (rest := []) (by decide) (by decide) xm_X5_beside xi_X5_beside xs_X5_beside xl_RX5_156 (by decide) (xsh_39) rfl rfl rfl (Nat.le_of_ble_eq_true rfl) (by decide +kernel) ?_
    show XW X 18 [(0, .ref 39), (1, .int l1), (2, .int l2)] [.int (f_m_beside (h.1 45 l1.toNatClampNeg) l2 h)] h
    refine Xblk hX pkX5_ok [.istore_n 3, .iload_n 3, .bipush (-9)] (pc' := 22) (ls' := [(3, .int (f_m_beside (h.1 45 l1.toNatClampNeg) l2 h)), (0, .ref 39), (1, .int l1), (2, .int l2)]) (st' := [.int (-9 : Int32), .int (f_m_beside (h.1 45 l1.toNatClampNeg) l2 h)]) (h' := h) (g := true) (by decide +kernel) rfl rfl rfl ?_
    refine Xbr hX (.if_icmp .eq (11)) (tgt := 33) (P := (f_m_beside (h.1 45 l1.toNatClampNeg) l2 h) = (-9 : Int32)) (r := []) (by decide +kernel) rfl (by decide) (fun hc_2 => ?_) (fun hc_2 => ?_)
    · replace hf := xif_t hc_2 hf
      refine Xblk hX pkX5_ok [.iconst 1] (pc' := 34) (ls' := [(3, .int (f_m_beside (h.1 45 l1.toNatClampNeg) l2 h)), (0, .ref 39), (1, .int l1), (2, .int l2)]) (st' := [.int (1 : Int32)]) (h' := h) (g := true) (by decide +kernel) rfl rfl rfl ?_
      exact XrI1 hX hR hf (by decide +kernel)
    · replace hf := xif_f hc_2 hf
      refine Xblk hX pkX5_ok [.aload_n 0, .iload_n 3] (pc' := 27) (ls' := [(3, .int (f_m_beside (h.1 45 l1.toNatClampNeg) l2 h)), (0, .ref 39), (1, .int l1), (2, .int l2)]) (st' := [.int (f_m_beside (h.1 45 l1.toNatClampNeg) l2 h), .ref 39]) (h' := h) (g := true) (by decide +kernel) rfl rfl rfl ?_
      refine XcallV hX (mt_m_isFree (f_m_beside (h.1 45 l1.toNatClampNeg) l2 h) h) (rest := []) (by decide) (by decide) xm_X5_isFree xi_X5_isFree xs_X5_isFree xl_RX5_151 (by decide) (xsh_39) rfl rfl rfl (Nat.le_of_ble_eq_true rfl) (by decide +kernel) ?_
      show XW X 30 [(3, .int (f_m_beside (h.1 45 l1.toNatClampNeg) l2 h)), (0, .ref 39), (1, .int l1), (2, .int l2)] [.int (f_m_isFree (f_m_beside (h.1 45 l1.toNatClampNeg) l2 h) h)] h
      refine XbrN hX (.ifCond .ne (5)) (tgt := 35) (P := (f_m_isFree (f_m_beside (h.1 45 l1.toNatClampNeg) l2 h) h) = (0 : Int32)) (r := []) (by decide +kernel) rfl (by decide) (fun hc_3 => ?_) (fun hc_3 => ?_)
      · replace hf := xif_t hc_3 hf
        refine Xblk hX pkX5_ok [.iconst 1] (pc' := 34) (ls' := [(3, .int (f_m_beside (h.1 45 l1.toNatClampNeg) l2 h)), (0, .ref 39), (1, .int l1), (2, .int l2)]) (st' := [.int (1 : Int32)]) (h' := h) (g := true) (by decide +kernel) rfl rfl rfl ?_
        exact XrI1 hX hR hf (by decide +kernel)
      · replace hf := xif_f hc_3 hf
        refine Xblk hX pkX5_ok [.aload_n 0, .iload_n 3] (pc' := 37) (ls' := [(3, .int (f_m_beside (h.1 45 l1.toNatClampNeg) l2 h)), (0, .ref 39), (1, .int l1), (2, .int l2)]) (st' := [.int (f_m_beside (h.1 45 l1.toNatClampNeg) l2 h), .ref 39]) (h' := h) (g := true) (by decide +kernel) rfl rfl rfl ?_
        obtain ⟨v_5, hc_4, hf⟩ := xbd1_inv hf
        refine XcallV hX (mt_m_carrierOn (f_m_beside (h.1 45 l1.toNatClampNeg) l2 h) h hc_4) (rest := []) (by decide) (by decide) xm_X5_carrierOn xi_X5_carrierOn xs_X5_carrierOn xl_RX5_164 (by decide) (xsh_39) rfl rfl rfl (Nat.le_of_ble_eq_true rfl) (by decide +kernel) ?_
        show XW X 40 [(3, .int (f_m_beside (h.1 45 l1.toNatClampNeg) l2 h)), (0, .ref 39), (1, .int l1), (2, .int l2)] [.int v_5] h
        refine Xblk hX pkX5_ok [.bipush (-9)] (pc' := 42) (ls' := [(3, .int (f_m_beside (h.1 45 l1.toNatClampNeg) l2 h)), (0, .ref 39), (1, .int l1), (2, .int l2)]) (st' := [.int (-9 : Int32), .int v_5]) (h' := h) (g := true) (by decide +kernel) rfl rfl rfl ?_
        refine Xbr hX (.if_icmp .eq (5)) (tgt := 47) (P := v_5 = (-9 : Int32)) (r := []) (by decide +kernel) rfl (by decide) (fun hc_6 => ?_) (fun hc_6 => ?_)
        · replace hf := xif_t hc_6 hf
          refine Xblk hX pkX5_ok [.aload_n 0, .iload_n 1, .iconst 1] (pc' := 50) (ls' := [(3, .int (f_m_beside (h.1 45 l1.toNatClampNeg) l2 h)), (0, .ref 39), (1, .int l1), (2, .int l2)]) (st' := [.int (1 : Int32), .int l1, .ref 39]) (h' := h) (g := true) (by decide +kernel) rfl rfl rfl ?_
          obtain ⟨v_8, hc_7, hf⟩ := xbd1_inv hf
          refine XcallV hX (mt_m_seenCould l1 (1 : Int32) h hc_7) (rest := []) (by decide) (by decide) xm_X5_seenCould xi_X5_seenCould xs_X5_seenCould xl_RX5_196 (by decide) (xsh_39) rfl rfl rfl (Nat.le_of_ble_eq_true rfl) (by decide +kernel) ?_
          show XW X 53 [(3, .int (f_m_beside (h.1 45 l1.toNatClampNeg) l2 h)), (0, .ref 39), (1, .int l1), (2, .int l2)] [.long v_8] h
          refine Xblk hX pkX5_ok [.iload_n 3, .lshr, .lconst 1, .land, .lconst 1, .lcmp] (pc' := 59) (ls' := [(3, .int (f_m_beside (h.1 45 l1.toNatClampNeg) l2 h)), (0, .ref 39), (1, .int l1), (2, .int l2)]) (st' := [.int (lg_cmp ((jshrL v_8 (f_m_beside (h.1 45 l1.toNatClampNeg) l2 h)) &&& (1 : Int64)) (1 : Int64))]) (h' := h) (g := true) (by decide +kernel) rfl rfl rfl ?_
          refine XbrN hX (.ifCond .ne (7)) (tgt := 66) (P := (lg_cmp ((jshrL v_8 (f_m_beside (h.1 45 l1.toNatClampNeg) l2 h)) &&& (1 : Int64)) (1 : Int64)) = (0 : Int32)) (r := []) (by decide +kernel) rfl (by decide) (fun hc_10 => ?_) (fun hc_10 => ?_)
          · replace hf := xif_t hc_10 hf
            refine Xblk hX pkX5_ok [.iconst 3] (pc' := 63) (ls' := [(3, .int (f_m_beside (h.1 45 l1.toNatClampNeg) l2 h)), (0, .ref 39), (1, .int l1), (2, .int l2)]) (st' := [.int (3 : Int32)]) (h' := h) (g := true) (by decide +kernel) rfl rfl rfl ?_
            refine Xgoto hX (23) 86 (by decide +kernel) (by decide) ?_
            exact XrI1 hX hR hf (by decide +kernel)
          · replace hf := xif_f hc_10 hf
            refine Xblk hX pkX5_ok [.aload_n 0, .iload_n 1, .iconst 1] (pc' := 69) (ls' := [(3, .int (f_m_beside (h.1 45 l1.toNatClampNeg) l2 h)), (0, .ref 39), (1, .int l1), (2, .int l2)]) (st' := [.int (1 : Int32), .int l1, .ref 39]) (h' := h) (g := true) (by decide +kernel) rfl rfl rfl ?_
            obtain ⟨v_12, hc_11, hf⟩ := xbd1_inv hf
            refine XcallV hX (mt_m_unseenCould l1 (1 : Int32) h hc_11) (rest := []) (by decide) (by decide) xm_X5_unseenCould xi_X5_unseenCould xs_X5_unseenCould xl_RX5_200 (by decide) (xsh_39) rfl rfl rfl (Nat.le_of_ble_eq_true rfl) (by decide +kernel) ?_
            show XW X 72 [(3, .int (f_m_beside (h.1 45 l1.toNatClampNeg) l2 h)), (0, .ref 39), (1, .int l1), (2, .int l2)] [.long v_12] h
            refine Xblk hX pkX5_ok [.iload_n 3, .lshr, .lconst 1, .land, .lconst 1, .lcmp] (pc' := 78) (ls' := [(3, .int (f_m_beside (h.1 45 l1.toNatClampNeg) l2 h)), (0, .ref 39), (1, .int l1), (2, .int l2)]) (st' := [.int (lg_cmp ((jshrL v_12 (f_m_beside (h.1 45 l1.toNatClampNeg) l2 h)) &&& (1 : Int64)) (1 : Int64))]) (h' := h) (g := true) (by decide +kernel) rfl rfl rfl ?_
            have kJ_15 : ∀ (w_14 : Int32), w_14 = (if (lg_cmp ((jshrL v_12 (f_m_beside (h.1 45 l1.toNatClampNeg) l2 h)) &&& (1 : Int64)) (1 : Int64)) = (0 : Int32) then (4 : Int32) else (0 : Int32)) → XW X 86 [] [.int w_14] h := by
              intro w_14 ew_14
              subst ew_14
              exact XrI1 hX hR hf (by decide +kernel)
            refine XbrN hX (.ifCond .ne (7)) (tgt := 85) (P := (lg_cmp ((jshrL v_12 (f_m_beside (h.1 45 l1.toNatClampNeg) l2 h)) &&& (1 : Int64)) (1 : Int64)) = (0 : Int32)) (r := []) (by decide +kernel) rfl (by decide) (fun hc_13 => ?_) (fun hc_13 => ?_)
            · refine Xblk hX pkX5_ok [.iconst 4] (pc' := 82) (ls' := [(3, .int (f_m_beside (h.1 45 l1.toNatClampNeg) l2 h)), (0, .ref 39), (1, .int l1), (2, .int l2)]) (st' := [.int (4 : Int32)]) (h' := h) (g := true) (by decide +kernel) rfl rfl rfl ?_
              refine Xgoto hX (4) 86 (by decide +kernel) (by decide) ?_
              refine XW.pick [] (ls' := []) rfl ?_
              exact kJ_15 _ (by rw [if_pos hc_13])
            · refine Xblk hX pkX5_ok [.iconst 0] (pc' := 86) (ls' := [(3, .int (f_m_beside (h.1 45 l1.toNatClampNeg) l2 h)), (0, .ref 39), (1, .int l1), (2, .int l2)]) (st' := [.int (0 : Int32)]) (h' := h) (g := true) (by decide +kernel) rfl rfl rfl ?_
              refine XW.pick [] (ls' := []) rfl ?_
              exact kJ_15 _ (by rw [if_neg hc_13])
        · replace hf := xif_f hc_6 hf
          refine Xblk hX pkX5_ok [.iconst 2] (pc' := 46) (ls' := [(3, .int (f_m_beside (h.1 45 l1.toNatClampNeg) l2 h)), (0, .ref 39), (1, .int l1), (2, .int l2)]) (st' := [.int (2 : Int32)]) (h' := h) (g := true) (by decide +kernel) rfl rfl rfl ?_
          exact XrI1 hX hR hf (by decide +kernel)
