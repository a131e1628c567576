/-! LogForward.get, LogForward.at: they answer, or throw and change nothing -/
set_option maxHeartbeats 1000000 in
set_option maxRecDepth 100000 in
theorem c_X3_get (l : Launch) (hst : l.stackTraces = false) (g : GG) (a r : Nat → Nat) (X : XS) (p1 : Int32) : vx_Met l yX3_get wsX3_get { frames := 6, cells := 1, slots := 6, locals := 82 } (va_Pc [.ref (a 0), .int p1] (Px g (wXc g a r X))) (va_Ql (fun rv (_ : Unit) => okC p1 ∧ rv = X.cs p1.toNatClampNeg) (fun _ _ => True) (fun _ => False)) (vx_X (fun _ : Unit => ¬ okC p1) (fun E _ _ => E = iaN) (fun _ => False)) 1 6 (fun _ => False) := by
  refine vx_ofW (ws := wsX3_get) (cc := cX3_get) (maxL := 2) (ret := (some .long)) (by decide) rfl ?_
  intro p e s m args below meth c s₁ B hml hno hv
  obtain ⟨rfl, ⟨hP, hK⟩, hXK, hXZ⟩ := hv
  have hx := B.exec
  have hb := B.bytes
  have hr := B.returns
  have htsx := atoms_spec (ws := wsX3_get) B.pre
  have hts : ∀ w ∈ wsX3_get, w.before _ s = true := htsx
  have hown : s.vm.findClass RX3 = some m.cls := findClass_of_methodNamed B.named
  have hlocks := B.notSynchronized
  have hl := lv_entry ([.ref (a 0), .int p1]) (n := 2) (Nat.le_of_ble_eq_true rfl)
  rw [lg_entry_eq]
  generalize (lg_sl ([.ref (a 0), .int p1]) ++ List.replicate (2 - (lg_sl ([.ref (a 0), .int p1])).length) Slot.unset).toArray = ls at hl ⊢
  have hl : lv_has ls 2 [(0, .ref (a 0)), (1, .int p1)] := hl
  replace hP : va_P (gD g) vwCl ([((a 0), .inr (5, [.int (nI (X.rg)), .ref (a 1), .ref (a 2), .ref (a 10), .ref (a 13), .ref (a 16)])), ((a 1), .inl (gJ g, 32, .inr (.inl X.cs))), ((a 2), .inr (3, [.ref (a 3), .ref (a 4), .ref (a 5), .ref (a 6), .ref (a 7), .ref (a 8), .ref (a 9), .int (nI (X.S.n)), .int (nI (X.S.ar))])), ((a 3), .inl (gI g, 2001, .inl X.S.kd)), ((a 4), .inl (gI g, 2001, .inl X.S.un)), ((a 5), .inl (gI g, 2001, .inl X.S.ce)), ((a 6), .inl (gJ g, 2001, .inr (.inl X.S.bf))), ((a 7), .inl (gJ g, 2001, .inr (.inl X.S.af))), ((a 8), .inl (gI g, 2001, .inl X.S.tn)), ((a 9), .inl (gZ g, 2001, .inl X.S.bk)), ((a 10), .inr (4, [.ref (a 11), .ref (a 12)])), ((a 11), .inl (gI g, 61, .inl X.U.lk)), ((a 12), .inl (gI g, 32, .inl X.U.ch)), ((a 13), .inr (4, [.ref (a 14), .ref (a 15)])), ((a 14), .inl (gI g, 61, .inl X.V.lk)), ((a 15), .inl (gI g, 32, .inl X.V.ch)), ((a 16), .inr (2, [.ref (a 17), .ref (a 18), .ref (a 19), .ref (a 20), .int (nI (X.I.k)), .int X.I.uf])), ((a 17), .inl (gI g, 21, .inl X.I.st)), ((a 18), .inl (gI g, 21, .inl X.I.en)), ((a 19), .inl (gZ g, 21, .inl X.I.sp)), ((a 20), .inl (gG g, 21, .inr (.inr (.inr (.inr (gRow r))))))]) s.heap := hP
  refine lv_iload_n hx hb dX3_get_0 rfl (lv_at hl 1 rfl) ?_
  refine vp_callSi (va_Run.run (va_runS (As := [.int p1]) (rest := []) ⟨hx, hb, hml, hown, hts⟩ (c_X3_isCell l g p1) (cwS 1 hts gX3_get_X3_isCell rfl rfl rfl (by decide +kernel) ⟨Nat.le_of_ble_eq_true rfl, Nat.le_of_ble_eq_true rfl⟩) (ps_r hK hP [] rfl) rfl rfl hl.1 rfl (lv_room (Nat.le_of_ble_eq_true rfl)) dX3_get_1 ⟨Nat.zero_le _, Nat.zero_le _⟩)) (fun r_1_1 h_1_1 => ?_)
  refine lv_if_ne (tgt := 17) hx hb dX3_get_4 (by decide) (fun c_4_1 => ?_) (fun c_4_1 => ?_)
  · have b_4 : 0 ≤ (p1).toInt ∧ (p1).toInt < 32 := bI_t h_1_1 c_4_1
    refine lv_aload_n hx hb dX3_get_17 rfl (lv_at hl 0 rfl) ?_
    refine va_get (D := gD g) (ci := 5) (v := .ref (a 1)) (C := RX3) (T := TX3) (N := 6) hx hb hts (by decide +kernel) hown hK.1 hP 0 rfl rfl 1 (by decide) (hts (.fieldLink RX3 9 "LogForward" "cells" "[J") (by decide +kernel)) (fun _ h9 => h9) rfl dX3_get_18 ?_
    refine lv_iload_n hx hb dX3_get_21 rfl (lv_at hl 1 rfl) ?_
    refine ga_lald (v := (X.cs p1.toNatClampNeg)) hx hb hK.1 hP 1 1 rfl rfl (v_p (by omega) (by omega)) rfl dX3_get_22 ?_
    refine W.widen (k := 1) (n := 6) (by decide) (by decide) (vx_ret ?_)
    exact W.lret (v := (X.cs p1.toNatClampNeg)) hx hb hr (fun tz htz hWz => ⟨⟨(X.cs p1.toNatClampNeg), (), rfl, ⟨b_4, rfl⟩, trivial⟩, va_S.rf.F htz⟩) (fun _ h => nomatch h) dX3_get_23
  · have b_4 : ¬ (0 ≤ (p1).toInt ∧ (p1).toInt < 32) := bI_f h_1_1 c_4_1
    obtain ⟨sa, hsa⟩ := hXK.2.1
    exact vx_throwS (own := RX3) (cls := iaN) (text := iaT) (names := iaS) (ik := 124) (is := 126) (ic := 128) (A := fun _ => False) hx hb hst hown (by decide +kernel) (by decide +kernel) (hts _ (by decide +kernel)) (hts _ (by decide +kernel)) hsa (vx_hat (B := xwB) (fun w h => htsx w (List.mem_cons_of_mem _ (List.mem_append_left _ (List.mem_append_right _ h)))) xb_ia hXK.use) xg_ia hXZ.1 hXZ.2 va_S.rf (hl.1.trans hml.symm) dX3_get_7 dX3_get_10 dX3_get_11 dX3_get_13 dX3_get_16 (fun x h => (hno x h).elim) (Nat.le_of_ble_eq_true rfl) (Nat.le_of_ble_eq_true rfl) (Nat.le_of_ble_eq_true rfl) (Nat.le_of_ble_eq_true rfl) hlocks (fun t _ h1 h2 => ⟨(), b_4, rfl, h1, fun q hq _ => h2 q hq⟩) (fun _ h => nomatch h) (Nat.le_of_ble_eq_true rfl) (Nat.le_of_ble_eq_true rfl)
def wsX3_atx : List Cond := wsX3_at ++ xwE
theorem okA_of {S : RS} {p1 p2 : Int32} (h : 1 ≤ p1.toInt ∧ p1.toInt ≤ (S.n : Int)) (h1 : 0 ≤ p2.toInt) (h2 : p2.toInt ≤ 6) : okA S p1 p2 := by
  unfold okA
  omega
theorem okA_not {S : RS} {p1 p2 : Int32} (h : ¬ (1 ≤ p1.toInt ∧ p1.toInt ≤ (S.n : Int)) ∨ p2.toInt < 0 ∨ 6 < p2.toInt) : ¬ okA S p1 p2 := by
  unfold okA
  omega
set_option maxHeartbeats 1000000 in
set_option maxRecDepth 100000 in
theorem c_X3_at (l : Launch) (hst : l.stackTraces = false) (g : GG) (a r : Nat → Nat) (X : XS) (p1 p2 : Int32) (hn : X.S.n ≤ 2000) : vx_Met l yX3_at wsX3_atx { frames := 7, cells := 1, slots := 6, locals := 95 } (va_Pc [.ref (a 0), .int p1, .int p2] (Px g (wXc g a r X))) (va_Qi (fun rv (_ : Unit) => okA X.S p1 p2 ∧ rv = teR X.S p1.toNatClampNeg p2.toNatClampNeg) (fun _ _ => True) (fun _ => False)) (vx_X (fun _ : Unit => ¬ okA X.S p1 p2) (fun E _ _ => E = aoN) (fun _ => False)) 1 6 (fun _ => False) := by
  refine vx_ofW (ws := wsX3_atx) (cc := cX3_at) (maxL := 3) (ret := (some .int)) (by decide) rfl ?_
  intro p e s m args below meth c s₁ B hml hno hv
  obtain ⟨rfl, ⟨hP, hK⟩, hXK, hXZ⟩ := hv
  have hx := B.exec
  have hb := B.bytes
  have hr := B.returns
  have htsx := atoms_spec (ws := wsX3_atx) B.pre
  have hts : ∀ w ∈ wsX3_at, w.before _ s = true := fun w h => htsx w (List.mem_append_left _ h)
  have hown : s.vm.findClass RX3 = some m.cls := findClass_of_methodNamed B.named
  have hlocks := B.notSynchronized
  have hl := lv_entry ([.ref (a 0), .int p1, .int p2]) (n := 3) (Nat.le_of_ble_eq_true rfl)
  rw [lg_entry_eq]
  generalize (lg_sl ([.ref (a 0), .int p1, .int p2]) ++ List.replicate (3 - (lg_sl ([.ref (a 0), .int p1, .int p2])).length) Slot.unset).toArray = ls at hl ⊢
  have hl : lv_has ls 3 [(0, .ref (a 0)), (1, .int p1), (2, .int p2)] := hl
  replace hP : va_P (gD g) vwCl ([((a 0), .inr (5, [.int (nI (X.rg)), .ref (a 1), .ref (a 2), .ref (a 10), .ref (a 13), .ref (a 16)])), ((a 1), .inl (gJ g, 32, .inr (.inl X.cs))), ((a 2), .inr (3, [.ref (a 3), .ref (a 4), .ref (a 5), .ref (a 6), .ref (a 7), .ref (a 8), .ref (a 9), .int (nI (X.S.n)), .int (nI (X.S.ar))])), ((a 3), .inl (gI g, 2001, .inl X.S.kd)), ((a 4), .inl (gI g, 2001, .inl X.S.un)), ((a 5), .inl (gI g, 2001, .inl X.S.ce)), ((a 6), .inl (gJ g, 2001, .inr (.inl X.S.bf))), ((a 7), .inl (gJ g, 2001, .inr (.inl X.S.af))), ((a 8), .inl (gI g, 2001, .inl X.S.tn)), ((a 9), .inl (gZ g, 2001, .inl X.S.bk)), ((a 10), .inr (4, [.ref (a 11), .ref (a 12)])), ((a 11), .inl (gI g, 61, .inl X.U.lk)), ((a 12), .inl (gI g, 32, .inl X.U.ch)), ((a 13), .inr (4, [.ref (a 14), .ref (a 15)])), ((a 14), .inl (gI g, 61, .inl X.V.lk)), ((a 15), .inl (gI g, 32, .inl X.V.ch)), ((a 16), .inr (2, [.ref (a 17), .ref (a 18), .ref (a 19), .ref (a 20), .int (nI (X.I.k)), .int X.I.uf])), ((a 17), .inl (gI g, 21, .inl X.I.st)), ((a 18), .inl (gI g, 21, .inl X.I.en)), ((a 19), .inl (gZ g, 21, .inl X.I.sp)), ((a 20), .inl (gG g, 21, .inr (.inr (.inr (.inr (gRow r))))))]) s.heap := hP
  refine lv_aload_n hx hb dX3_at_0 rfl (lv_at hl 0 rfl) ?_
  refine va_get (D := gD g) (ci := 5) (v := .ref (a 2)) (C := RX3) (T := TX3) (N := 6) hx hb hts (by decide +kernel) hown hK.1 hP 0 rfl rfl 2 (by decide) (hts (.fieldLink RX3 16 "LogForward" "rows" "LLogForward$Rows;") (by decide +kernel)) (fun _ h9 => h9) rfl dX3_at_1 ?_
  refine lv_iload_n hx hb dX3_at_4 rfl (lv_at hl 1 rfl) ?_
  refine vp_callSi (va_Run.run (va_runV (As := [.int p1]) (rest := []) ⟨hx, hb, hml, hown, hts⟩ (c_X1_has l g (fun i => a (i + 2)) X.S p1 (by omega)) (cwV 1 hts gX3_at_X1_has rfl rfl rfl (by decide +kernel) ⟨Nat.le_of_ble_eq_true rfl, Nat.le_of_ble_eq_true rfl⟩) (pv_r hK hP (ci := 3) (q0 := 2) rfl rfl [2, 3, 4, 5, 6, 7, 8, 9] rfl) rfl rfl hl.1 rfl (lv_room (Nat.le_of_ble_eq_true rfl)) dX3_at_5 ⟨Nat.zero_le _, Nat.zero_le _⟩)) (fun r_5_1 h_5_1 => ?_)
  refine lv_if_eq (tgt := 21) hx hb dX3_at_8 (by decide) (fun c_8_1 => ?_) (fun c_8_1 => ?_)
  · have b_8 : ¬ (1 ≤ p1.toInt ∧ p1.toInt ≤ (X.S.n : Int)) := bI_f h_5_1 c_8_1
    obtain ⟨sa, hsa⟩ := hXK.2.2
    exact vx_throwS (own := RX3) (cls := aoN) (text := aoT) (names := aoS) (ik := 158) (is := 160) (ic := 162) (A := fun _ => False) hx hb hst hown (by decide +kernel) (by decide +kernel) (hts _ (by decide +kernel)) (hts _ (by decide +kernel)) hsa (vx_hat (B := xwB) (fun w h => htsx w (List.mem_append_right _ h)) xb_ao hXK.use) xg_ao hXZ.1 hXZ.2 va_S.rf (hl.1.trans hml.symm) dX3_at_21 dX3_at_24 dX3_at_25 dX3_at_27 dX3_at_30 (fun x h => (hno x h).elim) (Nat.le_of_ble_eq_true rfl) (Nat.le_of_ble_eq_true rfl) (Nat.le_of_ble_eq_true rfl) (Nat.le_of_ble_eq_true rfl) hlocks (fun t _ h1 h2 => ⟨(), okA_not (by omega), rfl, h1, fun q hq _ => h2 q hq⟩) (fun _ h => nomatch h) (Nat.le_of_ble_eq_true rfl) (Nat.le_of_ble_eq_true rfl)
  · have b_8 : 1 ≤ p1.toInt ∧ p1.toInt ≤ (X.S.n : Int) := bI_t h_5_1 c_8_1
    refine lv_iload_n hx hb dX3_at_11 rfl (lv_at hl 2 rfl) ?_
    refine lv_if_lt (tgt := 21) hx hb dX3_at_12 (by decide) (fun c_12_2 => ?_) (fun c_12_2 => ?_)
    · have i_12 : (p2.toInt : Int) < 0 := q_lt c_12_2 rfl rfl
      obtain ⟨sa, hsa⟩ := hXK.2.2
      exact vx_throwS (own := RX3) (cls := aoN) (text := aoT) (names := aoS) (ik := 158) (is := 160) (ic := 162) (A := fun _ => False) hx hb hst hown (by decide +kernel) (by decide +kernel) (hts _ (by decide +kernel)) (hts _ (by decide +kernel)) hsa (vx_hat (B := xwB) (fun w h => htsx w (List.mem_append_right _ h)) xb_ao hXK.use) xg_ao hXZ.1 hXZ.2 va_S.rf (hl.1.trans hml.symm) dX3_at_21 dX3_at_24 dX3_at_25 dX3_at_27 dX3_at_30 (fun x h => (hno x h).elim) (Nat.le_of_ble_eq_true rfl) (Nat.le_of_ble_eq_true rfl) (Nat.le_of_ble_eq_true rfl) (Nat.le_of_ble_eq_true rfl) hlocks (fun t _ h1 h2 => ⟨(), okA_not (by omega), rfl, h1, fun q hq _ => h2 q hq⟩) (fun _ h => nomatch h) (Nat.le_of_ble_eq_true rfl) (Nat.le_of_ble_eq_true rfl)
    · have i_12 : (0 : Int) ≤ p2.toInt := q_nlt c_12_2 rfl rfl
      refine lv_iload_n hx hb dX3_at_15 rfl (lv_at hl 2 rfl) ?_
      refine lv_bipush (v := 6) hx hb dX3_at_16 (by decide) ?_
      refine lv_icmp_le (tgt := 31) hx hb dX3_at_18 (by decide) (fun c_18_3 => ?_) (fun c_18_3 => ?_)
      · have i_18 : (p2.toInt : Int) ≤ 6 := q_le c_18_3 rfl rfl
        refine lv_aload_n hx hb dX3_at_31 rfl (lv_at hl 0 rfl) ?_
        refine va_get (D := gD g) (ci := 5) (v := .ref (a 2)) (C := RX3) (T := TX3) (N := 6) hx hb hts (by decide +kernel) hown hK.1 hP 0 rfl rfl 2 (by decide) (hts (.fieldLink RX3 16 "LogForward" "rows" "LLogForward$Rows;") (by decide +kernel)) (fun _ h9 => h9) rfl dX3_at_32 ?_
        refine lv_iload_n hx hb dX3_at_35 rfl (lv_at hl 1 rfl) ?_
        refine lv_iload_n hx hb dX3_at_36 rfl (lv_at hl 2 rfl) ?_
        have hA9 := okA_of b_8 (by omega) (by omega)
        have e1 := p_nI (x := p1) (by omega)
        have e2 := p_nI (x := p2) (by omega)
        have z1 := pn_toInt (x := p1) (by omega)
        have z2 := pn_toInt (x := p2) (by omega)
        replace hl : lv_has ls 3 [(0, .ref (a 0)), (1, .int (nI p1.toNatClampNeg)), (2, .int (nI p2.toNatClampNeg))] := by rw [← e1, ← e2]; exact hl
        refine W.eq (g2 := F0 m 37 ls [.int (nI p2.toNatClampNeg), .int (nI p1.toNatClampNeg), .ref (a 2)]) (by rw [← e1, ← e2]) ?_
        refine vp_callSi (va_Run.run (va_runV (As := [.int (nI (p1.toNatClampNeg)), .int (nI (p2.toNatClampNeg))]) (rest := []) ⟨hx, hb, hml, hown, hts⟩ (c_X1_tell l g (fun i => a (i + 2)) X.S p1.toNatClampNeg (by omega) (by omega) hn p2.toNatClampNeg (by omega)) (cwV 2 hts gX3_at_X1_tell rfl rfl rfl (by decide +kernel) ⟨Nat.le_of_ble_eq_true rfl, Nat.le_of_ble_eq_true rfl⟩) (pv_r hK hP (ci := 3) (q0 := 2) rfl rfl [2, 3, 4, 5, 6, 7, 8, 9] rfl) rfl rfl hl.1 rfl (lv_room (Nat.le_of_ble_eq_true rfl)) dX3_at_37 ⟨Nat.zero_le _, Nat.zero_le _⟩)) (fun r_37_4 h_37_4 => ?_)
        subst h_37_4
        refine W.widen (k := 1) (n := 6) (by decide) (by decide) (vx_ret ?_)
        exact W.iret (v := (teR X.S p1.toNatClampNeg p2.toNatClampNeg)) hx hb hr (fun tz htz hWz => ⟨⟨(teR X.S p1.toNatClampNeg p2.toNatClampNeg), (), rfl, ⟨hA9, rfl⟩, trivial⟩, va_S.rf.F htz⟩) (fun _ h => nomatch h) dX3_at_40
      · have i_18 : (6 : Int) < p2.toInt := q_nle c_18_3 rfl rfl
        obtain ⟨sa, hsa⟩ := hXK.2.2
        exact vx_throwS (own := RX3) (cls := aoN) (text := aoT) (names := aoS) (ik := 158) (is := 160) (ic := 162) (A := fun _ => False) hx hb hst hown (by decide +kernel) (by decide +kernel) (hts _ (by decide +kernel)) (hts _ (by decide +kernel)) hsa (vx_hat (B := xwB) (fun w h => htsx w (List.mem_append_right _ h)) xb_ao hXK.use) xg_ao hXZ.1 hXZ.2 va_S.rf (hl.1.trans hml.symm) dX3_at_21 dX3_at_24 dX3_at_25 dX3_at_27 dX3_at_30 (fun x h => (hno x h).elim) (Nat.le_of_ble_eq_true rfl) (Nat.le_of_ble_eq_true rfl) (Nat.le_of_ble_eq_true rfl) (Nat.le_of_ble_eq_true rfl) hlocks (fun t _ h1 h2 => ⟨(), okA_not (by omega), rfl, h1, fun q hq _ => h2 q hq⟩) (fun _ h => nomatch h) (Nat.le_of_ble_eq_true rfl) (Nat.le_of_ble_eq_true rfl)
