/-! ===== the constructors' step function is what the machine does ===== -/
theorem vwCl_in {ci : Nat} {q : vw_C} (h : vwCl[ci]? = some q) : ci < 6 := by
  have := (List.getElem?_eq_some_iff.mp h).1
  simpa [vwCl] using this
theorem yref_fits {T : u_T} {f : Nat} {ty : FieldType} (h : parseFieldDescriptor (T f).2.2.1 = some ty) (hfin : (T f).2.2.2 = true) {ci : Nat} {K : String} {N : Nat} (hc : vwCl[ci]? = some (K, T, N)) (hf : f < N) (v : Nat) : narrow ty (.ref v) = .ref v ∧ fits ty (.ref v) = true ∧ (T f).1 = K := by
  have key : ∀ (ty0 : Nat → FieldType), (∀ k, k < N → parseFieldDescriptor (T k).2.2.1 = some (ty0 k)) → (∀ k, k < N → (T k).2.2.2 = true → (match ty0 k with
    | .object _ => true
    | .array _ => true
    | _ => false) = true ∧ (T k).1 = K) → narrow ty (.ref v) = .ref v ∧ fits ty (.ref v) = true ∧ (T f).1 = K := by
    intro ty0 h1 h2
    have e := h1 f hf
    rw [h] at e
    have e := Option.some.inj e
    obtain ⟨h3, h4⟩ := h2 f hf hfin
    rw [← e] at h3
    refine ⟨?_, ?_, h4⟩
    · cases ty <;> first | rfl | (simp at h3)
    · cases ty <;> first | rfl | (simp at h3)
  match ci, hc with
  | 0, hc => cases hc; exact key tyX0 tyX0_ok (by decide)
  | 1, hc => cases hc; exact key tyX1 tyX1_ok (by decide)
  | 2, hc => cases hc; exact key tyX2 tyX2_ok (by decide)
  | 3, hc => cases hc; exact key tyX3 tyX3_ok (by decide)
  | 4, hc => cases hc; exact key tyX4 tyX4_ok (by decide)
  | 5, hc => cases hc; exact key tyX5 tyX5_ok (by decide +kernel)
  | n + 6, hc => simp [vwCl] at hc
theorem yarr_words {t : Nat} {a : ArrayType} (h : yat a = some t) : Cond.arrayClass (newarray.typeOf a) ∈ XG ∧ newarray.typeOf a = xty t ∧ t < 5 ∧ t ≠ 4 ∧ componentBytes (xty t) ≤ 8 := by
  cases a <;> simp [yat] at h
  all_goals subst h
  · exact ⟨xg_tab 710 (by decide +kernel) (by decide +kernel), rfl, by decide, by decide, by decide⟩
  · exact ⟨xg_tab 709 (by decide +kernel) (by decide +kernel), rfl, by decide, by decide, by decide⟩
  · exact ⟨xg_tab 50 (by decide +kernel) (by decide +kernel), rfl, by decide, by decide, by decide⟩
  · exact ⟨xg_tab 51 (by decide +kernel) (by decide +kernel), rfl, by decide, by decide, by decide⟩
set_option maxHeartbeats 4000000 in
theorem ys1_ok {X : XCtx} {own : String} {cc : ByteArray} {nL d mc ms : Nat} {P : XPool} {C : YPool} {po : Nat} {hh : Hp} {o pc : Nat} {i : Instr} {ls ls' : List (Nat × Value)} {st st' : List Value} {cs cs' : List xSh} {kc ks kc' ks' : Nat} (hX : YOk X own cc nL d mc ms) (hpo : po ≤ o) (hxo : xclo po = true) (hAO : match X with
    | (_, _, _, _, s, _) => va_AO "HallCarrier$Scene" s) (hp : xpok own P) (hF0 : ∀ q ∈ P.1, q.2.2.2 = false → ∀ (K : String) (T : u_T) (N : Nat), vwCl[q.2.1]? = some (K, T, N) → K = own) (hC : ypok own C) (hd : decode cc pc = .ok (i, ylen i)) (hs : ys1 P C o mc ms i (ls, st, cs, kc, ks) = some (ls', st', cs', kc', ks'))
    (k : YW X po hh o (pc + ylen i) ls' st' cs' kc' ks') (hoc : 0 < cs.length) : YW X po hh o pc ls st cs kc ks ∧ 0 < cs'.length := by
  obtain ⟨p, l, e, R, s, m, args, below, meth, c, D, cT, ad0, A, Q, n0, n1, n2⟩ := X
  obtain ⟨hx, hb, hml, hown, hts, hK, hA, hin, hfr, hlo, rfl, rfl⟩ := hX
  subst hml
  cases i with
  | iconst v =>
    unfold ys1 at hs; dsimp only at hs
    cases hs
    exact ⟨fun ad H locs la h0 hP hD hS hl => lv_iconst hx hb hd (xic_ok v) (k ad H locs la h0 hP hD hS hl), hoc⟩
  | bipush v =>
    unfold ys1 at hs; dsimp only at hs
    split at hs
    · next hv => cases hs; exact ⟨fun ad H locs la h0 hP hD hS hl => lv_bipush hx hb hd (xbip hv) (k ad H locs la h0 hP hD hS hl), hoc⟩
    · cases hs
  | sipush v =>
    unfold ys1 at hs; dsimp only at hs
    split at hs
    · next hv => cases hs; exact ⟨fun ad H locs la h0 hP hD hS hl => lv_sipush hx hb hd (xsip hv) (k ad H locs la h0 hP hD hS hl), hoc⟩
    · cases hs
  | aload_n v =>
    unfold ys1 at hs; dsimp only at hs
    split at hs
    · next c0 hv => cases hs; exact ⟨fun ad H locs la h0 hP hD hS hl => lv_aload_n hx hb hd rfl (xlk_at hl hv) (k ad H locs la h0 hP hD hS hl), hoc⟩
    · cases hs
  | dup =>
    unfold ys1 at hs; dsimp only at hs
    split at hs
    · cases hs; exact ⟨fun ad H locs la h0 hP hD hS hl => lv_dup hx hb hd rfl (k ad H locs la h0 hP hD hS hl), hoc⟩
    · cases hs
  | newarray a =>
    unfold ys1 at hs; dsimp only at hs
    split at hs
    · next nn r =>
      split at hs
      · next t ht =>
        split at hs
        · next hg =>
          cases hs
          simp only [Bool.and_eq_true, Bool.not_eq_true', decide_eq_false_iff_not, decide_eq_true_eq, ychk] at hg
          obtain ⟨g1, g2, g3, g4, g5, g6, g7⟩ := hg
          obtain ⟨w1, w2, w3, w4, w5⟩ := yarr_words ht
          refine ⟨fun ad H locs la h0 hP hD hS hl => ?_, by simp⟩
          refine va_newa (a0 := (nn.toNatClampNeg, if t = 1 then .inr (.inl (fun _ => 0)) else if t = 4 then .inr (.inr (.inr (.inr (fun j : Nat => (([] : List Nat)[j]?).map ad)))) else .inl (fun _ => 0))) hx hb (hts _ w1) w2 hK.1 hP hD hS hA ?_ g1 rfl ?_ g3 g4 hd (fun q cA H1 hK1 hP1 hD1 hS1 => ?_)
          · intro cA
            rcases (show t = 0 ∨ t = 1 ∨ t = 2 ∨ t = 3 by omega) with rfl | rfl | rfl | rfl <;> rfl
          · have : nn.toNatClampNeg * componentBytes (xty t) ≤ 5000 * 8 := Nat.mul_le_mul g2 w5
            omega
          · have e := xty_one w3 hK hK1
            subst e
            have e2 : yall po hh o cT ad cs ++ [(q, yce cT ad (.inl (t, nn.toNatClampNeg, [])))] = yall po hh o cT (yad ad (o + cs.length) q) (cs ++ [.inl (t, nn.toNatClampNeg, [])]) := yall_new hpo hxo g7 rfl
            have hP2 : va_P D vwCl (yall po hh o cT ad cs ++ [(q, yce cT ad (.inl (t, nn.toNatClampNeg, [])))]) H1 := hP1
            have hD2 : va_D A (yall po hh o cT ad cs ++ [(q, yce cT ad (.inl (t, nn.toNatClampNeg, [])))]) := hD1
            rw [e2] at hP2 hD2
            have kk := k (yad ad (o + cs.length) q) H1 locs la (fun j hj => by rw [yad_lt j (by omega)]; exact h0 j hj) hP2 hD2 hS1 (by rw [xcl_eq yad_lt g5]; exact hl)
            rw [List.map_cons, xst_eq yad_lt g6] at kk
            have e3 : xcv (yad ad (o + cs.length) q) (.ref (o + cs.length)) = .ref q := by simp [xcv, yad]
            rw [e3] at kk
            exact kk
        · cases hs
      · cases hs
    · cases hs
  | anewarray idx =>
    unfold ys1 at hs; dsimp only at hs
    split at hs
    · next nn r =>
      split at hs
      · next hcl =>
        split at hs
        · next hg =>
          cases hs
          simp only [Bool.and_eq_true, Bool.not_eq_true', decide_eq_false_iff_not, decide_eq_true_eq, ychk] at hg
          obtain ⟨g1, g2, g3, g4, g5, g6, g7⟩ := hg
          obtain ⟨w1, -, -⟩ := hC _ (xpC_mem hcl) RX3 TX3 11 rfl
          refine ⟨fun ad H locs la h0 hP hD hS hl => ?_, by simp⟩
          refine va_newq (C := "HallCarrier$Scene") hx hb hown (hts _ w1) hAO hK.1 hP hD hS hA g1 rfl (by omega) g3 g4 hd (fun q cA H1 hK1 hP1 hD1 hS1 => ?_)
          have e := xty_one (t := 4) (by decide) hK hK1
          subst e
          have e2 : yall po hh o cT ad cs ++ [(q, yce cT ad (.inl (4, nn.toNatClampNeg, [])))] = yall po hh o cT (yad ad (o + cs.length) q) (cs ++ [.inl (4, nn.toNatClampNeg, [])]) := yall_new hpo hxo g7 rfl
          have hP2 : va_P D vwCl (yall po hh o cT ad cs ++ [(q, yce cT ad (.inl (4, nn.toNatClampNeg, [])))]) H1 := hP1
          have hD2 : va_D A (yall po hh o cT ad cs ++ [(q, yce cT ad (.inl (4, nn.toNatClampNeg, [])))]) := hD1
          rw [e2] at hP2 hD2
          have kk := k (yad ad (o + cs.length) q) H1 locs la (fun j hj => by rw [yad_lt j (by omega)]; exact h0 j hj) hP2 hD2 hS1 (by rw [xcl_eq yad_lt g5]; exact hl)
          rw [List.map_cons, xst_eq yad_lt g6] at kk
          have e3 : xcv (yad ad (o + cs.length) q) (.ref (o + cs.length)) = .ref q := by simp [xcv, yad]
          rw [e3] at kk
          exact kk
        · cases hs
      · cases hs
    · cases hs
  | new idx =>
    unfold ys1 at hs; dsimp only at hs
    split at hs
    · next ci hcl =>
      split at hs
      · next fs hfs =>
        split at hs
        · next hg =>
          cases hs
          simp only [Bool.and_eq_true, decide_eq_true_eq, ychk] at hg
          obtain ⟨g3, g4, ⟨g5, g6, g7⟩, g8⟩ := hg
          obtain ⟨K, T, N, ty, hc, hu, hty, hlen, hdf⟩ := ydef_ok ci fs hfs
          obtain ⟨w1, w2, w3⟩ := hC _ (xpC_mem hcl) K T N hc
          refine ⟨fun ad H locs la h0 hP hD hS hl => ?_, by simp⟩
          have hmap : fs.map (xcv ad) = fs := by
            have : ∀ v ∈ fs, xcv ad v = v := fun v hv => by
              have := List.all_eq_true.mp g8 v hv
              cases v <;> first | rfl | (simp [vlt] at this)
            rw [List.map_congr_left (g := id) this, List.map_id]
          have hg8 : clt (o + cs.length) (.inr (ci, fs)) = true := by
            refine List.all_eq_true.mpr fun v hv => ?_
            have := List.all_eq_true.mp g8 v hv
            cases v <;> first | rfl | (simp [vlt] at this)
          subst hlen
          refine va_new (ci := ci) (fs := fs) hx hb hts hu ty hty hown (hts _ w1) (hts _ w2) (hts _ w3) hK.1 hP hD hS hA hc hdf g3 g4 hd (fun q H1 hP1 hD1 hS1 => ?_)
          have e2 : yall po hh o cT ad cs ++ [(q, yce cT ad (.inr (ci, fs)))] = yall po hh o cT (yad ad (o + cs.length) q) (cs ++ [.inr (ci, fs)]) := yall_new hpo hxo g7 hg8
          have e4 : yce cT ad (.inr (ci, fs)) = .inr (ci, fs) := by simp only [yce, hmap]
          have hP2 : va_P D vwCl (yall po hh o cT ad cs ++ [(q, yce cT ad (.inr (ci, fs)))]) H1 := by rw [e4]; exact hP1
          have hD2 : va_D A (yall po hh o cT ad cs ++ [(q, yce cT ad (.inr (ci, fs)))]) := by rw [e4]; exact hD1
          rw [e2] at hP2 hD2
          have kk := k (yad ad (o + cs.length) q) H1 locs la (fun j hj => by rw [yad_lt j (by omega)]; exact h0 j hj) hP2 hD2 hS1 (by rw [xcl_eq yad_lt g5]; exact hl)
          rw [List.map_cons, xst_eq yad_lt g6] at kk
          have e3 : xcv (yad ad (o + cs.length) q) (.ref (o + cs.length)) = .ref q := by simp [xcv, yad]
          rw [e3] at kk
          exact kk
        · cases hs
      · cases hs
    · cases hs
  | putfield idx =>
    unfold ys1 at hs; dsimp only at hs
    split at hs
    · next v q r =>
      split at hs
      · next ci f hF =>
        split at hs
        · next hoq =>
          split at hs
          · next c1 fs hcs =>
            split at hs
            · next hcf =>
              obtain ⟨rfl, hfl⟩ := hcf
              split at hs
              · next K T N hc =>
                split at hs
                · next hg =>
                  cases hs
                  simp only [Bool.and_eq_true, decide_eq_true_eq] at hg
                  obtain ⟨C', T', N', ty0, hc', hu, hty, hnm⟩ := xc_all hc
                  cases hc.symm.trans hc'
                  obtain ⟨hkN, hlink⟩ := hp.1 _ (xpF_mem hF) K T N hc
                  obtain ⟨f1, f2, f3⟩ := yref_fits (hty f hkN) hg.2 hc hkN 0
                  have hlk : Cond.fieldLink own idx (T f).1 (T f).2.1 (T f).2.2.1 ∈ XG := by simpa using hlink
                  refine ⟨fun ad H locs la h0 hP hD hS hl => ?_, by simpa using hoc⟩
                  have hq : o + (q - o) = q := by omega
                  have he : (yall po hh o cT ad cs)[po + (q - o)]? = some (ad q, .inr (c1, fs.map (xcv ad))) := by rw [yall_get hcs, hq]; rfl
                  obtain ⟨f1, f2, f3⟩ := yref_fits (hty f hkN) hg.2 hc hkN (ad v)
                  have hw : K = own := hF0 _ (xpF_mem hF) rfl K T N hc
                  subst hw
                  refine va_putF (ci := c1) (v := .ref (ad v)) hx hb hts hu ty0 hty hnm hown hK.1 hP hD hS (po + (q - o)) he hc f hkN (hts _ hlk) (fun _ h9 => h9) hg.2 hin f3 (hty f hkN) f1 f2 (by simpa using hfl) hd (fun H1 locs1 hP1 hD1 hS1 => ?_)
                  have e2 : (yall po hh o cT ad cs).set (po + (q - o)) (ad q, .inr (c1, (fs.map (xcv ad)).set f (.ref (ad v)))) = yall po hh o cT ad (cs.set (q - o) (.inr (c1, fs.set f (.ref v)))) := by
                    have := yall_set (po := po) (hh := hh) (o := o) (cT := cT) (ad := ad) (cs := cs) (k := q - o) (c := .inr (c1, fs.set f (.ref v)))
                    rw [hq] at this
                    rw [← this]
                    simp only [yce, List.map_set, xcv]
                  rw [e2] at hP1 hD1
                  exact k ad H1 locs1 la h0 hP1 hD1 hS1 hl
                · cases hs
              · cases hs
            · cases hs
          · cases hs
        · cases hs
      · cases hs
    · cases hs
  | aastore =>
    unfold ys1 at hs; dsimp only at hs
    split at hs
    · next v j q r =>
      split at hs
      · next hov =>
        split at hs
        · next nn rs fs hq1 hv1 =>
          split at hs
          · next hg =>
            cases hs
            simp only [Bool.and_eq_true, decide_eq_true_eq] at hg
            refine ⟨fun ad H locs la h0 hP hD hS hl => ?_, by simpa using hoc⟩
            have hqq : o + (q - o) = q := by omega
            have hvv : o + (v - o) = v := by omega
            have he : (yall po hh o cT ad cs)[po + (q - o)]? = some (ad q, .inl (cT 4, nn, .inr (.inr (.inr (.inr (fun j : Nat => (rs[j]?).map ad)))))) := by rw [yall_get hq1, hqq]; rfl
            have hev : (yall po hh o cT ad cs)[po + (v - o)]? = some (ad v, .inr (3, fs.map (xcv ad))) := by rw [yall_get hv1, hvv]; rfl
            refine va_astq (a := ad q) (v := ad v) (r := (RX3, TX3, 11)) hx hb hK.1 hP hD hS (po + (q - o)) 4 (po + (v - o)) 3 he rfl hev rfl (xin_vp hg.1) hd (fun H1 locs1 hP1 hD1 hS1 => ?_)
            have e5 : va_up (fun j : Nat => (rs[j]?).map ad) j.toNatClampNeg (some (ad v)) = (fun j : Nat => ((rs ++ [v])[j]?).map ad) := by
              funext i
              by_cases hi : i = j.toNatClampNeg
              · subst hi
                simp [va_up, ← hg.2]
              · by_cases hl2 : i < rs.length
                · simp [va_up, hi, List.getElem?_append_left hl2]
                · have h3 : rs.length < i := by omega
                  have h4 : (rs ++ [v])[i]? = none := List.getElem?_eq_none (by simp; omega)
                  have h5 : rs[i]? = none := List.getElem?_eq_none (by omega)
                  simp [va_up, hi, h4, h5]
            have e2 : (yall po hh o cT ad cs).set (po + (q - o)) (ad q, .inl (cT 4, nn, .inr (.inr (.inr (.inr (va_up (fun j : Nat => (rs[j]?).map ad) j.toNatClampNeg (some (ad v)))))))) = yall po hh o cT ad (cs.set (q - o) (.inl (4, nn, rs ++ [v]))) := by
              have := yall_set (po := po) (hh := hh) (o := o) (cT := cT) (ad := ad) (cs := cs) (k := q - o) (c := .inl (4, nn, rs ++ [v]))
              rw [hqq] at this
              rw [← this, e5]
              rfl
            rw [e2] at hP1 hD1
            exact k ad H1 locs1 la h0 hP1 hD1 hS1 hl
          · cases hs
        · cases hs
      · cases hs
    · cases hs
  | _ => unfold ys1 at hs; cases hs
theorem ys1_len {P : XPool} {C : YPool} {o RC RS : Nat} {i : Instr} {ls ls' : List (Nat × Value)} {st st' : List Value} {cs cs' : List xSh} {kc ks kc' ks' : Nat} (hs : ys1 P C o RC RS i (ls, st, cs, kc, ks) = some (ls', st', cs', kc', ks')) (h0 : 0 < cs.length) : 0 < cs'.length := by
  unfold ys1 at hs
  dsimp only at hs
  (repeat' split at hs) <;> first | (cases hs; first | exact h0 | (simp; done) | (simpa using h0)) | (cases hs)
theorem yblk_ok {X : XCtx} {own : String} {cc : ByteArray} {nL d mc ms : Nat} {P : XPool} {C : YPool} {po : Nat} {hh : Hp} {o : Nat} (hX : YOk X own cc nL d mc ms) (hpo : po ≤ o) (hxo : xclo po = true) (hAO : match X with
    | (_, _, _, _, s, _) => va_AO "HallCarrier$Scene" s) (hp : xpok own P) (hF0 : ∀ q ∈ P.1, q.2.2.2 = false → ∀ (K : String) (T : u_T) (N : Nat), vwCl[q.2.1]? = some (K, T, N) → K = own) (hC : ypok own C) : ∀ (is : List Instr) (pc : Nat) (ls ls' : List (Nat × Value)) (st st' : List Value) (cs cs' : List xSh) (kc ks kc' ks' : Nat), ydec cc pc is = true → yblk P C o mc ms is (ls, st, cs, kc, ks) = some (ls', st', cs', kc', ks') → 0 < cs.length →
    YW X po hh o (yend pc is) ls' st' cs' kc' ks' → YW X po hh o pc ls st cs kc ks
  | [], pc, ls, ls', st, st', cs, cs', kc, ks, kc', ks', _, hs, _, k => by
    cases hs; exact k
  | i :: is, pc, ls, ls', st, st', cs, cs', kc, ks, kc', ks', hd, hs, h0, k => by
    simp only [ydec, Bool.and_eq_true, decide_eq_true_eq] at hd
    unfold yblk at hs
    split at hs
    · next s1 h1 =>
      obtain ⟨ls1, st1, cs1, kc1, ks1⟩ := s1
      have h01 : 0 < cs1.length := ys1_len h1 h0
      exact (ys1_ok hX hpo hxo hAO hp hF0 hC hd.1 h1 (yblk_ok hX hpo hxo hAO hp hF0 hC is (pc + ylen i) ls1 ls' st1 st' cs1 cs' kc1 ks1 kc' ks' hd.2 hs h01 k) h0).1
    · cases hs
