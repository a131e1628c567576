set_option maxHeartbeats 4000000 in
set_option maxRecDepth 100000 in
theorem c_X1_latest (l : Launch) (g : GG) (a : Nat → Nat) (S : RS)  : Met l yX1_latest wsX1_latest { frames := 0, cells := 0, slots := 0, locals := 0 } (va_Pc [.ref (a 0)] (Pr g (wR g a S))) (vp_Si (fun r => r = nI S.n)) 0 0 (fun _ => False) := by
  refine Met.ofW (cc := cX1_latest) (maxL := 1) (ret := (some .int)) (by decide) rfl ?_
  intro p e s m args below meth c s₁ B hml hv
  obtain ⟨rfl, hP, hK⟩ := hv
  have hx := B.exec
  have hb := B.bytes
  have hr := B.returns
  have hts := atoms_spec (ws := wsX1_latest) B.pre
  have hown : s.vm.findClass RX1 = some m.cls := findClass_of_methodNamed B.named
  have hlocks := B.notSynchronized
  have hl := lv_entry ([.ref (a 0)]) (n := 1) (Nat.le_of_ble_eq_true rfl)
  rw [lg_entry_eq]
  generalize (lg_sl ([.ref (a 0)]) ++ List.replicate (1 - (lg_sl ([.ref (a 0)])).length) Slot.unset).toArray = ls at hl ⊢
  have hl : lv_has ls 1 [(0, .ref (a 0))] := hl
  refine lv_aload_n hx hb dX1_latest_0 rfl (lv_at hl 0 rfl) ?_
  refine va_get (D := gD g) (ci := 3) (v := .int (nI (S.n))) (C := RX1) (T := TX1) (N := 9) hx hb hts (by decide +kernel) hown hK.1 hP 0 rfl rfl 7 (by decide) (hts (.fieldLink RX1 35 "LogForward$Rows" "latest" "I") (by decide +kernel)) (fun _ h9 => h9) rfl dX1_latest_1 ?_
  exact W.iret (v := (nI (S.n))) hx hb hr (fun t ht hW => ⟨(nI (S.n)), rfl, rfl, ht⟩) (fun _ h => nomatch h) dX1_latest_4
set_option maxHeartbeats 4000000 in
set_option maxRecDepth 100000 in
theorem c_X1_archived (l : Launch) (g : GG) (a : Nat → Nat) (S : RS)  : Met l yX1_archived wsX1_archived { frames := 0, cells := 0, slots := 0, locals := 0 } (va_Pc [.ref (a 0)] (Pr g (wR g a S))) (vp_Si (fun r => r = nI S.ar)) 0 0 (fun _ => False) := by
  refine Met.ofW (cc := cX1_archived) (maxL := 1) (ret := (some .int)) (by decide) rfl ?_
  intro p e s m args below meth c s₁ B hml hv
  obtain ⟨rfl, hP, hK⟩ := hv
  have hx := B.exec
  have hb := B.bytes
  have hr := B.returns
  have hts := atoms_spec (ws := wsX1_archived) B.pre
  have hown : s.vm.findClass RX1 = some m.cls := findClass_of_methodNamed B.named
  have hlocks := B.notSynchronized
  have hl := lv_entry ([.ref (a 0)]) (n := 1) (Nat.le_of_ble_eq_true rfl)
  rw [lg_entry_eq]
  generalize (lg_sl ([.ref (a 0)]) ++ List.replicate (1 - (lg_sl ([.ref (a 0)])).length) Slot.unset).toArray = ls at hl ⊢
  have hl : lv_has ls 1 [(0, .ref (a 0))] := hl
  refine lv_aload_n hx hb dX1_archived_0 rfl (lv_at hl 0 rfl) ?_
  refine va_get (D := gD g) (ci := 3) (v := .int (nI (S.ar))) (C := RX1) (T := TX1) (N := 9) hx hb hts (by decide +kernel) hown hK.1 hP 0 rfl rfl 8 (by decide) (hts (.fieldLink RX1 39 "LogForward$Rows" "archived" "I") (by decide +kernel)) (fun _ h9 => h9) rfl dX1_archived_1 ?_
  exact W.iret (v := (nI (S.ar))) hx hb hr (fun t ht hW => ⟨(nI (S.ar)), rfl, rfl, ht⟩) (fun _ h => nomatch h) dX1_archived_4
set_option maxHeartbeats 4000000 in
set_option maxRecDepth 100000 in
theorem c_X1_has (l : Launch) (g : GG) (a : Nat → Nat) (S : RS) (p1 : Int32) (hn : S.n ≤ 2000) : Met l yX1_has wsX1_has { frames := 0, cells := 0, slots := 0, locals := 0 } (va_Pc [.ref (a 0), .int p1] (Pr g (wR g a S))) (vp_Si (fun r => r = bI (1 ≤ p1.toInt ∧ p1.toInt ≤ (S.n : Int)))) 0 0 (fun _ => False) := by
  refine Met.ofW (cc := cX1_has) (maxL := 2) (ret := (some .boolean)) (by decide) rfl ?_
  intro p e s m args below meth c s₁ B hml hv
  obtain ⟨rfl, hP, hK⟩ := hv
  have hx := B.exec
  have hb := B.bytes
  have hr := B.returns
  have hts := atoms_spec (ws := wsX1_has) B.pre
  have hown : s.vm.findClass RX1 = some m.cls := findClass_of_methodNamed B.named
  have hlocks := B.notSynchronized
  have hl := lv_entry ([.ref (a 0), .int p1]) (n := 2) (Nat.le_of_ble_eq_true rfl)
  rw [lg_entry_eq]
  generalize (lg_sl ([.ref (a 0), .int p1]) ++ List.replicate (2 - (lg_sl ([.ref (a 0), .int p1])).length) Slot.unset).toArray = ls at hl ⊢
  have hl : lv_has ls 2 [(0, .ref (a 0)), (1, .int p1)] := hl
  refine lv_iload_n hx hb dX1_has_0 rfl (lv_at hl 1 rfl) ?_
  refine lv_iconst (v := 1) hx hb dX1_has_1 (by decide) ?_
  refine lv_icmp_lt (tgt := 17) hx hb dX1_has_2 (by decide) (fun c_2_1 => ?_) (fun c_2_1 => ?_)
  · have i_2 : p1.toInt < 1 := q_lt c_2_1 rfl rfl
    refine lv_iconst (v := 0) hx hb dX1_has_17 (by decide) ?_
    exact W.zret (v := 0) hx hb hr rfl (fun t ht hW => ⟨0, rfl, (bI_0 (by first | omega | assumption | simp_all)), ht⟩) (fun _ h => nomatch h) dX1_has_18
  · have i_2 : 1 ≤ p1.toInt := q_nlt c_2_1 rfl rfl
    refine lv_iload_n hx hb dX1_has_5 rfl (lv_at hl 1 rfl) ?_
    refine lv_aload_n hx hb dX1_has_6 rfl (lv_at hl 0 rfl) ?_
    refine va_get (D := gD g) (ci := 3) (v := .int (nI (S.n))) (C := RX1) (T := TX1) (N := 9) hx hb hts (by decide +kernel) hown hK.1 hP 0 rfl rfl 7 (by decide) (hts (.fieldLink RX1 35 "LogForward$Rows" "latest" "I") (by decide +kernel)) (fun _ h9 => h9) rfl dX1_has_7 ?_
    refine lv_icmp_gt (tgt := 17) hx hb dX1_has_10 (by decide) (fun c_10_2 => ?_) (fun c_10_2 => ?_)
    · have i_10 : ((S.n : Nat) : Int) < p1.toInt := q_lt c_10_2 (l_nI (by omega)) rfl
      refine lv_iconst (v := 0) hx hb dX1_has_17 (by decide) ?_
      exact W.zret (v := 0) hx hb hr rfl (fun t ht hW => ⟨0, rfl, (bI_0 (by first | omega | assumption | simp_all)), ht⟩) (fun _ h => nomatch h) dX1_has_18
    · have i_10 : p1.toInt ≤ ((S.n : Nat) : Int) := q_nlt c_10_2 (l_nI (by omega)) rfl
      refine lv_iconst (v := 1) hx hb dX1_has_13 (by decide) ?_
      refine lv_goto (tgt := 18) hx hb dX1_has_14 (by decide) ?_
      exact W.zret (v := 1) hx hb hr rfl (fun t ht hW => ⟨1, rfl, (bI_1 (by first | omega | assumption | simp_all)), ht⟩) (fun _ h => nomatch h) dX1_has_18
set_option maxHeartbeats 4000000 in
set_option maxRecDepth 100000 in
theorem c_X1_has_n (l : Launch) (g : GG) (a : Nat → Nat) (S : RS) (r : Nat) (hr1 : 1 ≤ r) (hr2 : r ≤ S.n) (hn : S.n ≤ 2000) : Met l yX1_has wsX1_has { frames := 0, cells := 0, slots := 0, locals := 0 } (va_Pc [.ref (a 0), .int (nI (r))] (Pr g (wR g a S))) (vp_Si (fun r => r = 1)) 0 0 (fun _ => False) := by
  refine Met.ofW (cc := cX1_has) (maxL := 2) (ret := (some .boolean)) (by decide) rfl ?_
  intro p e s m args below meth c s₁ B hml hv
  obtain ⟨rfl, hP, hK⟩ := hv
  have hx := B.exec
  have hb := B.bytes
  have hr := B.returns
  have hts := atoms_spec (ws := wsX1_has) B.pre
  have hown : s.vm.findClass RX1 = some m.cls := findClass_of_methodNamed B.named
  have hlocks := B.notSynchronized
  have hl := lv_entry ([.ref (a 0), .int (nI (r))]) (n := 2) (Nat.le_of_ble_eq_true rfl)
  rw [lg_entry_eq]
  generalize (lg_sl ([.ref (a 0), .int (nI (r))]) ++ List.replicate (2 - (lg_sl ([.ref (a 0), .int (nI (r))])).length) Slot.unset).toArray = ls at hl ⊢
  have hl : lv_has ls 2 [(0, .ref (a 0)), (1, .int (nI (r)))] := hl
  refine lv_iload_n hx hb dX1_has_0 rfl (lv_at hl 1 rfl) ?_
  refine lv_iconst (v := 1) hx hb dX1_has_1 (by decide) ?_
  refine lv_icmp_lt (tgt := 17) hx hb dX1_has_2 (by decide) (fun c_2_1 => ?_) (fun c_2_1 => ?_)
  · have i_2 : ((r : Nat) : Int) < 1 := q_lt c_2_1 (l_nI (by omega)) rfl
    refine lv_iconst (v := 0) hx hb dX1_has_17 (by decide) ?_
    exact W.zret (v := 0) hx hb hr rfl (fun t ht hW => ⟨0, rfl, (by exfalso; omega), ht⟩) (fun _ h => nomatch h) dX1_has_18
  · have i_2 : 1 ≤ ((r : Nat) : Int) := q_nlt c_2_1 (l_nI (by omega)) rfl
    refine lv_iload_n hx hb dX1_has_5 rfl (lv_at hl 1 rfl) ?_
    refine lv_aload_n hx hb dX1_has_6 rfl (lv_at hl 0 rfl) ?_
    refine va_get (D := gD g) (ci := 3) (v := .int (nI (S.n))) (C := RX1) (T := TX1) (N := 9) hx hb hts (by decide +kernel) hown hK.1 hP 0 rfl rfl 7 (by decide) (hts (.fieldLink RX1 35 "LogForward$Rows" "latest" "I") (by decide +kernel)) (fun _ h9 => h9) rfl dX1_has_7 ?_
    refine lv_icmp_gt (tgt := 17) hx hb dX1_has_10 (by decide) (fun c_10_2 => ?_) (fun c_10_2 => ?_)
    · have i_10 : ((S.n : Nat) : Int) < ((r : Nat) : Int) := q_lt c_10_2 (l_nI (by omega)) (l_nI (by omega))
      refine lv_iconst (v := 0) hx hb dX1_has_17 (by decide) ?_
      exact W.zret (v := 0) hx hb hr rfl (fun t ht hW => ⟨0, rfl, (by exfalso; omega), ht⟩) (fun _ h => nomatch h) dX1_has_18
    · have i_10 : ((r : Nat) : Int) ≤ ((S.n : Nat) : Int) := q_nlt c_10_2 (l_nI (by omega)) (l_nI (by omega))
      refine lv_iconst (v := 1) hx hb dX1_has_13 (by decide) ?_
      refine lv_goto (tgt := 18) hx hb dX1_has_14 (by decide) ?_
      exact W.zret (v := 1) hx hb hr rfl (fun t ht hW => ⟨1, rfl, rfl, ht⟩) (fun _ h => nomatch h) dX1_has_18
set_option maxHeartbeats 4000000 in
set_option maxRecDepth 100000 in
theorem c_X1_hasRoomFor (l : Launch) (g : GG) (a : Nat → Nat) (S : RS) (k : Nat) (hk : k ≤ 1000000) (hn : S.n ≤ 2000) : Met l yX1_hasRoomFor wsX1_hasRoomFor { frames := 0, cells := 0, slots := 0, locals := 0 } (va_Pc [.ref (a 0), .int (nI (k))] (Pr g (wR g a S))) (vp_Si (fun r => r = bI (k + S.n ≤ 2000))) 0 0 (fun _ => False) := by
  refine Met.ofW (cc := cX1_hasRoomFor) (maxL := 2) (ret := (some .boolean)) (by decide) rfl ?_
  intro p e s m args below meth c s₁ B hml hv
  obtain ⟨rfl, hP, hK⟩ := hv
  have hx := B.exec
  have hb := B.bytes
  have hr := B.returns
  have hts := atoms_spec (ws := wsX1_hasRoomFor) B.pre
  have hown : s.vm.findClass RX1 = some m.cls := findClass_of_methodNamed B.named
  have hlocks := B.notSynchronized
  have hl := lv_entry ([.ref (a 0), .int (nI (k))]) (n := 2) (Nat.le_of_ble_eq_true rfl)
  rw [lg_entry_eq]
  generalize (lg_sl ([.ref (a 0), .int (nI (k))]) ++ List.replicate (2 - (lg_sl ([.ref (a 0), .int (nI (k))])).length) Slot.unset).toArray = ls at hl ⊢
  have hl : lv_has ls 2 [(0, .ref (a 0)), (1, .int (nI (k)))] := hl
  refine lv_iload_n hx hb dX1_hasRoomFor_0 rfl (lv_at hl 1 rfl) ?_
  refine lv_sipush (v := 2000) hx hb dX1_hasRoomFor_1 (by decide) ?_
  refine lv_aload_n hx hb dX1_hasRoomFor_4 rfl (lv_at hl 0 rfl) ?_
  refine va_get (D := gD g) (ci := 3) (v := .int (nI (S.n))) (C := RX1) (T := TX1) (N := 9) hx hb hts (by decide +kernel) hown hK.1 hP 0 rfl rfl 7 (by decide) (hts (.fieldLink RX1 35 "LogForward$Rows" "latest" "I") (by decide +kernel)) (fun _ h9 => h9) rfl dX1_hasRoomFor_5 ?_
  refine ga_isub (v := (nI (2000 - S.n))) hx hb (pk_sub (a := 2000) (by omega)) dX1_hasRoomFor_8 ?_
  refine lv_icmp_gt (tgt := 16) hx hb dX1_hasRoomFor_9 (by decide) (fun c_9_1 => ?_) (fun c_9_1 => ?_)
  · have i_9 : ((2000 - S.n : Nat) : Int) < ((k : Nat) : Int) := q_lt c_9_1 (l_nI (by omega)) (l_nI (by omega))
    refine lv_iconst (v := 0) hx hb dX1_hasRoomFor_16 (by decide) ?_
    exact W.zret (v := 0) hx hb hr rfl (fun t ht hW => ⟨0, rfl, (bI_0 (by first | omega | assumption | simp_all)), ht⟩) (fun _ h => nomatch h) dX1_hasRoomFor_17
  · have i_9 : ((k : Nat) : Int) ≤ ((2000 - S.n : Nat) : Int) := q_nlt c_9_1 (l_nI (by omega)) (l_nI (by omega))
    refine lv_iconst (v := 1) hx hb dX1_hasRoomFor_12 (by decide) ?_
    refine lv_goto (tgt := 17) hx hb dX1_hasRoomFor_13 (by decide) ?_
    exact W.zret (v := 1) hx hb hr rfl (fun t ht hW => ⟨1, rfl, (bI_1 (by first | omega | assumption | simp_all)), ht⟩) (fun _ h => nomatch h) dX1_hasRoomFor_17
set_option maxHeartbeats 4000000 in
set_option maxRecDepth 100000 in
theorem c_X1_isMissing (l : Launch) (g : GG) (a : Nat → Nat) (S : RS) (r : Nat) (hr1 : 1 ≤ r) (hr2 : r ≤ S.n) (hn : S.n ≤ 2000) : Met l yX1_isMissing wsX1_isMissing { frames := 1, cells := 0, slots := 0, locals := 21 } (va_Pc [.ref (a 0), .int (nI (r))] (Pr g (wR g a S))) (vp_Si (fun r => r = bI (S.tn r = 3))) 0 0 (fun _ => False) := by
  refine Met.ofW (cc := cX1_isMissing) (maxL := 2) (ret := (some .boolean)) (by decide) rfl ?_
  intro p e s m args below meth c s₁ B hml hv
  obtain ⟨rfl, hP, hK⟩ := hv
  have hx := B.exec
  have hb := B.bytes
  have hr := B.returns
  have hts := atoms_spec (ws := wsX1_isMissing) B.pre
  have hown : s.vm.findClass RX1 = some m.cls := findClass_of_methodNamed B.named
  have hlocks := B.notSynchronized
  have hl := lv_entry ([.ref (a 0), .int (nI (r))]) (n := 2) (Nat.le_of_ble_eq_true rfl)
  rw [lg_entry_eq]
  generalize (lg_sl ([.ref (a 0), .int (nI (r))]) ++ List.replicate (2 - (lg_sl ([.ref (a 0), .int (nI (r))])).length) Slot.unset).toArray = ls at hl ⊢
  have hl : lv_has ls 2 [(0, .ref (a 0)), (1, .int (nI (r)))] := hl
  refine lv_aload_n hx hb dX1_isMissing_0 rfl (lv_at hl 0 rfl) ?_
  refine lv_iload_n hx hb dX1_isMissing_1 rfl (lv_at hl 1 rfl) ?_
  refine vp_callSi (va_Run.run (va_runV (As := [.int (nI (r))]) (rest := []) ⟨hx, hb, hml, hown, hts⟩ (c_X1_has_n l g a S (r) (by omega) (by omega) (by omega)) (cwV 1 hts gX1_isMissing_X1_has rfl rfl rfl (by decide +kernel) ⟨Nat.le_of_ble_eq_true rfl, Nat.le_of_ble_eq_true rfl⟩) (pv_r hK hP (ci := 3) (q0 := 0) rfl rfl [0, 1, 2, 3, 4, 5, 6, 7] rfl) rfl rfl hl.1 rfl (lv_room (Nat.le_of_ble_eq_true rfl)) dX1_isMissing_2 ⟨Nat.zero_le _, Nat.zero_le _⟩)) (fun r_2_1 h_2_1 => ?_)
  subst h_2_1
  refine lv_if_eq (tgt := 22) hx hb dX1_isMissing_5 (by decide) (fun c_5_1 => ?_) (fun c_5_1 => ?_)
  · exact absurd c_5_1 (by decide)
  · have i_5 : 1 ≠ 0 := q_ne c_5_1 rfl rfl
    refine lv_aload_n hx hb dX1_isMissing_8 rfl (lv_at hl 0 rfl) ?_
    refine va_get (D := gD g) (ci := 3) (v := .ref (a 6)) (C := RX1) (T := TX1) (N := 9) hx hb hts (by decide +kernel) hown hK.1 hP 0 rfl rfl 5 (by decide) (hts (.fieldLink RX1 28 "LogForward$Rows" "tornCopies" "[I") (by decide +kernel)) (fun _ h9 => h9) rfl dX1_isMissing_9 ?_
    refine lv_iload_n hx hb dX1_isMissing_12 rfl (lv_at hl 1 rfl) ?_
    refine ga_iald (v := (S.tn r)) hx hb hK.1 hP 6 0 rfl rfl (v_nI (by omega) (by decide)) (by rw [(c_nI (by omega))]) dX1_isMissing_13 ?_
    refine lv_iconst (v := 3) hx hb dX1_isMissing_14 (by decide) ?_
    refine lv_icmp_ne (tgt := 22) hx hb dX1_isMissing_15 (by decide) (fun c_15_2 => ?_) (fun c_15_2 => ?_)
    · have i_15 : (S.tn r).toInt ≠ 3 := q_ne c_15_2 rfl rfl
      refine lv_iconst (v := 0) hx hb dX1_isMissing_22 (by decide) ?_
      exact W.zret (v := 0) hx hb hr rfl (fun t ht hW => ⟨0, rfl, (bI_0 (by first | omega | assumption | simp_all)), ht⟩) (fun _ h => nomatch h) dX1_isMissing_23
    · have i_15 : (S.tn r).toInt = 3 := q_eq c_15_2 rfl rfl
      refine lv_iconst (v := 1) hx hb dX1_isMissing_18 (by decide) ?_
      refine lv_goto (tgt := 23) hx hb dX1_isMissing_19 (by decide) ?_
      exact W.zret (v := 1) hx hb hr rfl (fun t ht hW => ⟨1, rfl, (bI_1 (by first | omega | assumption | simp_all)), ht⟩) (fun _ h => nomatch h) dX1_isMissing_23
set_option maxHeartbeats 4000000 in
set_option maxRecDepth 100000 in
theorem c_X1_isChange (l : Launch) (g : GG) (a : Nat → Nat) (S : RS) (r : Nat) (hr1 : 1 ≤ r) (hr2 : r ≤ S.n) (hn : S.n ≤ 2000) : Met l yX1_isChange wsX1_isChange { frames := 1, cells := 0, slots := 0, locals := 21 } (va_Pc [.ref (a 0), .int (nI (r))] (Pr g (wR g a S))) (vp_Si (fun r => r = bI (S.kd r = 0))) 0 0 (fun _ => False) := by
  refine Met.ofW (cc := cX1_isChange) (maxL := 2) (ret := (some .boolean)) (by decide) rfl ?_
  intro p e s m args below meth c s₁ B hml hv
  obtain ⟨rfl, hP, hK⟩ := hv
  have hx := B.exec
  have hb := B.bytes
  have hr := B.returns
  have hts := atoms_spec (ws := wsX1_isChange) B.pre
  have hown : s.vm.findClass RX1 = some m.cls := findClass_of_methodNamed B.named
  have hlocks := B.notSynchronized
  have hl := lv_entry ([.ref (a 0), .int (nI (r))]) (n := 2) (Nat.le_of_ble_eq_true rfl)
  rw [lg_entry_eq]
  generalize (lg_sl ([.ref (a 0), .int (nI (r))]) ++ List.replicate (2 - (lg_sl ([.ref (a 0), .int (nI (r))])).length) Slot.unset).toArray = ls at hl ⊢
  have hl : lv_has ls 2 [(0, .ref (a 0)), (1, .int (nI (r)))] := hl
  refine lv_aload_n hx hb dX1_isChange_0 rfl (lv_at hl 0 rfl) ?_
  refine lv_iload_n hx hb dX1_isChange_1 rfl (lv_at hl 1 rfl) ?_
  refine vp_callSi (va_Run.run (va_runV (As := [.int (nI (r))]) (rest := []) ⟨hx, hb, hml, hown, hts⟩ (c_X1_has_n l g a S (r) (by omega) (by omega) (by omega)) (cwV 1 hts gX1_isChange_X1_has rfl rfl rfl (by decide +kernel) ⟨Nat.le_of_ble_eq_true rfl, Nat.le_of_ble_eq_true rfl⟩) (pv_r hK hP (ci := 3) (q0 := 0) rfl rfl [0, 1, 2, 3, 4, 5, 6, 7] rfl) rfl rfl hl.1 rfl (lv_room (Nat.le_of_ble_eq_true rfl)) dX1_isChange_2 ⟨Nat.zero_le _, Nat.zero_le _⟩)) (fun r_2_1 h_2_1 => ?_)
  subst h_2_1
  refine lv_if_eq (tgt := 21) hx hb dX1_isChange_5 (by decide) (fun c_5_1 => ?_) (fun c_5_1 => ?_)
  · exact absurd c_5_1 (by decide)
  · have i_5 : 1 ≠ 0 := q_ne c_5_1 rfl rfl
    refine lv_aload_n hx hb dX1_isChange_8 rfl (lv_at hl 0 rfl) ?_
    refine va_get (D := gD g) (ci := 3) (v := .ref (a 1)) (C := RX1) (T := TX1) (N := 9) hx hb hts (by decide +kernel) hown hK.1 hP 0 rfl rfl 0 (by decide) (hts (.fieldLink RX1 9 "LogForward$Rows" "kind" "[I") (by decide +kernel)) (fun _ h9 => h9) rfl dX1_isChange_9 ?_
    refine lv_iload_n hx hb dX1_isChange_12 rfl (lv_at hl 1 rfl) ?_
    refine ga_iald (v := (S.kd r)) hx hb hK.1 hP 1 0 rfl rfl (v_nI (by omega) (by decide)) (by rw [(c_nI (by omega))]) dX1_isChange_13 ?_
    refine lv_if_ne (tgt := 21) hx hb dX1_isChange_14 (by decide) (fun c_14_2 => ?_) (fun c_14_2 => ?_)
    · have i_14 : (S.kd r).toInt ≠ 0 := q_ne c_14_2 rfl rfl
      refine lv_iconst (v := 0) hx hb dX1_isChange_21 (by decide) ?_
      exact W.zret (v := 0) hx hb hr rfl (fun t ht hW => ⟨0, rfl, (bI_0 (by first | omega | assumption | simp_all)), ht⟩) (fun _ h => nomatch h) dX1_isChange_22
    · have i_14 : (S.kd r).toInt = 0 := q_eq c_14_2 rfl rfl
      refine lv_iconst (v := 1) hx hb dX1_isChange_17 (by decide) ?_
      refine lv_goto (tgt := 22) hx hb dX1_isChange_18 (by decide) ?_
      exact W.zret (v := 1) hx hb hr rfl (fun t ht hW => ⟨1, rfl, (bI_1 (by first | omega | assumption | simp_all)), ht⟩) (fun _ h => nomatch h) dX1_isChange_22
set_option maxHeartbeats 4000000 in
set_option maxRecDepth 100000 in
theorem c_X1_isBackable (l : Launch) (g : GG) (a : Nat → Nat) (S : RS) (r : Nat) (hr1 : 1 ≤ r) (hr2 : r ≤ S.n) (hn : S.n ≤ 2000) : Met l yX1_isBackable wsX1_isBackable { frames := 2, cells := 0, slots := 0, locals := 42 } (va_Pc [.ref (a 0), .int (nI (r))] (Pr g (wR g a S))) (vp_Si (fun r => r = bI (S.kd r = 0 ∧ S.bk r = 0))) 0 0 (fun _ => False) := by
  refine Met.ofW (cc := cX1_isBackable) (maxL := 2) (ret := (some .boolean)) (by decide) rfl ?_
  intro p e s m args below meth c s₁ B hml hv
  obtain ⟨rfl, hP, hK⟩ := hv
  have hx := B.exec
  have hb := B.bytes
  have hr := B.returns
  have hts := atoms_spec (ws := wsX1_isBackable) B.pre
  have hown : s.vm.findClass RX1 = some m.cls := findClass_of_methodNamed B.named
  have hlocks := B.notSynchronized
  have hl := lv_entry ([.ref (a 0), .int (nI (r))]) (n := 2) (Nat.le_of_ble_eq_true rfl)
  rw [lg_entry_eq]
  generalize (lg_sl ([.ref (a 0), .int (nI (r))]) ++ List.replicate (2 - (lg_sl ([.ref (a 0), .int (nI (r))])).length) Slot.unset).toArray = ls at hl ⊢
  have hl : lv_has ls 2 [(0, .ref (a 0)), (1, .int (nI (r)))] := hl
  refine lv_aload_n hx hb dX1_isBackable_0 rfl (lv_at hl 0 rfl) ?_
  refine lv_iload_n hx hb dX1_isBackable_1 rfl (lv_at hl 1 rfl) ?_
  refine vp_callSi (va_Run.run (va_runV (As := [.int (nI (r))]) (rest := []) ⟨hx, hb, hml, hown, hts⟩ (c_X1_isChange l g a S (r) (by omega) (by omega) (by omega)) (cwV 1 hts gX1_isBackable_X1_isChange rfl rfl rfl (by decide +kernel) ⟨Nat.le_of_ble_eq_true rfl, Nat.le_of_ble_eq_true rfl⟩) (pv_r hK hP (ci := 3) (q0 := 0) rfl rfl [0, 1, 2, 3, 4, 5, 6, 7] rfl) rfl rfl hl.1 rfl (lv_room (Nat.le_of_ble_eq_true rfl)) dX1_isBackable_2 ⟨Nat.zero_le _, Nat.zero_le _⟩)) (fun r_2_1 h_2_1 => ?_)
  refine lv_if_eq (tgt := 21) hx hb dX1_isBackable_5 (by decide) (fun c_5_1 => ?_) (fun c_5_1 => ?_)
  · have b_5 : ¬ (S.kd (r) = 0) := bI_f h_2_1 c_5_1
    refine lv_iconst (v := 0) hx hb dX1_isBackable_21 (by decide) ?_
    exact W.zret (v := 0) hx hb hr rfl (fun t ht hW => ⟨0, rfl, (bI_0 (by first | omega | assumption | simp_all)), ht⟩) (fun _ h => nomatch h) dX1_isBackable_22
  · have b_5 : S.kd (r) = 0 := bI_t h_2_1 c_5_1
    refine lv_aload_n hx hb dX1_isBackable_8 rfl (lv_at hl 0 rfl) ?_
    refine va_get (D := gD g) (ci := 3) (v := .ref (a 7)) (C := RX1) (T := TX1) (N := 9) hx hb hts (by decide +kernel) hown hK.1 hP 0 rfl rfl 6 (by decide) (hts (.fieldLink RX1 31 "LogForward$Rows" "backingOut" "[Z") (by decide +kernel)) (fun _ h9 => h9) rfl dX1_isBackable_9 ?_
    refine lv_iload_n hx hb dX1_isBackable_12 rfl (lv_at hl 1 rfl) ?_
    refine ga_zald (v := (S.bk r)) hx hb hK.1 hP 7 2 rfl rfl (v_nI (by omega) (by decide)) (by rw [(c_nI (by omega))]) dX1_isBackable_13 ?_
    refine lv_if_ne (tgt := 21) hx hb dX1_isBackable_14 (by decide) (fun c_14_2 => ?_) (fun c_14_2 => ?_)
    · have i_14 : (S.bk r).toInt ≠ 0 := q_ne c_14_2 rfl rfl
      refine lv_iconst (v := 0) hx hb dX1_isBackable_21 (by decide) ?_
      exact W.zret (v := 0) hx hb hr rfl (fun t ht hW => ⟨0, rfl, (bI_0 (by first | omega | assumption | simp_all)), ht⟩) (fun _ h => nomatch h) dX1_isBackable_22
    · have i_14 : (S.bk r).toInt = 0 := q_eq c_14_2 rfl rfl
      refine lv_iconst (v := 1) hx hb dX1_isBackable_17 (by decide) ?_
      refine lv_goto (tgt := 22) hx hb dX1_isBackable_18 (by decide) ?_
      exact W.zret (v := 1) hx hb hr rfl (fun t ht hW => ⟨1, rfl, (bI_1 (by first | omega | assumption | simp_all)), ht⟩) (fun _ h => nomatch h) dX1_isBackable_22
set_option maxHeartbeats 4000000 in
set_option maxRecDepth 100000 in
theorem c_X1_kindOf (l : Launch) (g : GG) (a : Nat → Nat) (S : RS) (r : Nat) (hr1 : 1 ≤ r) (hr2 : r ≤ S.n) (hn : S.n ≤ 2000) : Met l yX1_kindOf wsX1_kindOf { frames := 1, cells := 0, slots := 0, locals := 21 } (va_Pc [.ref (a 0), .int (nI (r))] (Pr g (wR g a S))) (vp_Si (fun r => r = S.kd r)) 0 0 (fun _ => False) := by
  refine Met.ofW (cc := cX1_kindOf) (maxL := 2) (ret := (some .int)) (by decide) rfl ?_
  intro p e s m args below meth c s₁ B hml hv
  obtain ⟨rfl, hP, hK⟩ := hv
  have hx := B.exec
  have hb := B.bytes
  have hr := B.returns
  have hts := atoms_spec (ws := wsX1_kindOf) B.pre
  have hown : s.vm.findClass RX1 = some m.cls := findClass_of_methodNamed B.named
  have hlocks := B.notSynchronized
  have hl := lv_entry ([.ref (a 0), .int (nI (r))]) (n := 2) (Nat.le_of_ble_eq_true rfl)
  rw [lg_entry_eq]
  generalize (lg_sl ([.ref (a 0), .int (nI (r))]) ++ List.replicate (2 - (lg_sl ([.ref (a 0), .int (nI (r))])).length) Slot.unset).toArray = ls at hl ⊢
  have hl : lv_has ls 2 [(0, .ref (a 0)), (1, .int (nI (r)))] := hl
  refine lv_aload_n hx hb dX1_kindOf_0 rfl (lv_at hl 0 rfl) ?_
  refine lv_iload_n hx hb dX1_kindOf_1 rfl (lv_at hl 1 rfl) ?_
  refine vp_callSi (va_Run.run (va_runV (As := [.int (nI (r))]) (rest := []) ⟨hx, hb, hml, hown, hts⟩ (c_X1_has_n l g a S (r) (by omega) (by omega) (by omega)) (cwV 1 hts gX1_kindOf_X1_has rfl rfl rfl (by decide +kernel) ⟨Nat.le_of_ble_eq_true rfl, Nat.le_of_ble_eq_true rfl⟩) (pv_r hK hP (ci := 3) (q0 := 0) rfl rfl [0, 1, 2, 3, 4, 5, 6, 7] rfl) rfl rfl hl.1 rfl (lv_room (Nat.le_of_ble_eq_true rfl)) dX1_kindOf_2 ⟨Nat.zero_le _, Nat.zero_le _⟩)) (fun r_2_1 h_2_1 => ?_)
  subst h_2_1
  refine lv_if_eq (tgt := 17) hx hb dX1_kindOf_5 (by decide) (fun c_5_1 => ?_) (fun c_5_1 => ?_)
  · exact absurd c_5_1 (by decide)
  · have i_5 : 1 ≠ 0 := q_ne c_5_1 rfl rfl
    refine lv_aload_n hx hb dX1_kindOf_8 rfl (lv_at hl 0 rfl) ?_
    refine va_get (D := gD g) (ci := 3) (v := .ref (a 1)) (C := RX1) (T := TX1) (N := 9) hx hb hts (by decide +kernel) hown hK.1 hP 0 rfl rfl 0 (by decide) (hts (.fieldLink RX1 9 "LogForward$Rows" "kind" "[I") (by decide +kernel)) (fun _ h9 => h9) rfl dX1_kindOf_9 ?_
    refine lv_iload_n hx hb dX1_kindOf_12 rfl (lv_at hl 1 rfl) ?_
    refine ga_iald (v := (S.kd r)) hx hb hK.1 hP 1 0 rfl rfl (v_nI (by omega) (by decide)) (by rw [(c_nI (by omega))]) dX1_kindOf_13 ?_
    refine lv_goto (tgt := 18) hx hb dX1_kindOf_14 (by decide) ?_
    exact W.iret (v := (S.kd r)) hx hb hr (fun t ht hW => ⟨(S.kd r), rfl, rfl, ht⟩) (fun _ h => nomatch h) dX1_kindOf_18
set_option maxHeartbeats 4000000 in
set_option maxRecDepth 100000 in
theorem c_X1_unitOf (l : Launch) (g : GG) (a : Nat → Nat) (S : RS) (r : Nat) (hr1 : 1 ≤ r) (hr2 : r ≤ S.n) (hn : S.n ≤ 2000) : Met l yX1_unitOf wsX1_unitOf { frames := 1, cells := 0, slots := 0, locals := 21 } (va_Pc [.ref (a 0), .int (nI (r))] (Pr g (wR g a S))) (vp_Si (fun r => r = S.un r)) 0 0 (fun _ => False) := by
  refine Met.ofW (cc := cX1_unitOf) (maxL := 2) (ret := (some .int)) (by decide) rfl ?_
  intro p e s m args below meth c s₁ B hml hv
  obtain ⟨rfl, hP, hK⟩ := hv
  have hx := B.exec
  have hb := B.bytes
  have hr := B.returns
  have hts := atoms_spec (ws := wsX1_unitOf) B.pre
  have hown : s.vm.findClass RX1 = some m.cls := findClass_of_methodNamed B.named
  have hlocks := B.notSynchronized
  have hl := lv_entry ([.ref (a 0), .int (nI (r))]) (n := 2) (Nat.le_of_ble_eq_true rfl)
  rw [lg_entry_eq]
  generalize (lg_sl ([.ref (a 0), .int (nI (r))]) ++ List.replicate (2 - (lg_sl ([.ref (a 0), .int (nI (r))])).length) Slot.unset).toArray = ls at hl ⊢
  have hl : lv_has ls 2 [(0, .ref (a 0)), (1, .int (nI (r)))] := hl
  refine lv_aload_n hx hb dX1_unitOf_0 rfl (lv_at hl 0 rfl) ?_
  refine lv_iload_n hx hb dX1_unitOf_1 rfl (lv_at hl 1 rfl) ?_
  refine vp_callSi (va_Run.run (va_runV (As := [.int (nI (r))]) (rest := []) ⟨hx, hb, hml, hown, hts⟩ (c_X1_has_n l g a S (r) (by omega) (by omega) (by omega)) (cwV 1 hts gX1_unitOf_X1_has rfl rfl rfl (by decide +kernel) ⟨Nat.le_of_ble_eq_true rfl, Nat.le_of_ble_eq_true rfl⟩) (pv_r hK hP (ci := 3) (q0 := 0) rfl rfl [0, 1, 2, 3, 4, 5, 6, 7] rfl) rfl rfl hl.1 rfl (lv_room (Nat.le_of_ble_eq_true rfl)) dX1_unitOf_2 ⟨Nat.zero_le _, Nat.zero_le _⟩)) (fun r_2_1 h_2_1 => ?_)
  subst h_2_1
  refine lv_if_eq (tgt := 17) hx hb dX1_unitOf_5 (by decide) (fun c_5_1 => ?_) (fun c_5_1 => ?_)
  · exact absurd c_5_1 (by decide)
  · have i_5 : 1 ≠ 0 := q_ne c_5_1 rfl rfl
    refine lv_aload_n hx hb dX1_unitOf_8 rfl (lv_at hl 0 rfl) ?_
    refine va_get (D := gD g) (ci := 3) (v := .ref (a 2)) (C := RX1) (T := TX1) (N := 9) hx hb hts (by decide +kernel) hown hK.1 hP 0 rfl rfl 1 (by decide) (hts (.fieldLink RX1 15 "LogForward$Rows" "unit" "[I") (by decide +kernel)) (fun _ h9 => h9) rfl dX1_unitOf_9 ?_
    refine lv_iload_n hx hb dX1_unitOf_12 rfl (lv_at hl 1 rfl) ?_
    refine ga_iald (v := (S.un r)) hx hb hK.1 hP 2 0 rfl rfl (v_nI (by omega) (by decide)) (by rw [(c_nI (by omega))]) dX1_unitOf_13 ?_
    refine lv_goto (tgt := 18) hx hb dX1_unitOf_14 (by decide) ?_
    exact W.iret (v := (S.un r)) hx hb hr (fun t ht hW => ⟨(S.un r), rfl, rfl, ht⟩) (fun _ h => nomatch h) dX1_unitOf_18
set_option maxHeartbeats 4000000 in
set_option maxRecDepth 100000 in
theorem c_X1_cellOf (l : Launch) (g : GG) (a : Nat → Nat) (S : RS) (r : Nat) (hr1 : 1 ≤ r) (hr2 : r ≤ S.n) (hn : S.n ≤ 2000) : Met l yX1_cellOf wsX1_cellOf { frames := 1, cells := 0, slots := 0, locals := 21 } (va_Pc [.ref (a 0), .int (nI (r))] (Pr g (wR g a S))) (vp_Si (fun r => r = S.ce r)) 0 0 (fun _ => False) := by
  refine Met.ofW (cc := cX1_cellOf) (maxL := 2) (ret := (some .int)) (by decide) rfl ?_
  intro p e s m args below meth c s₁ B hml hv
  obtain ⟨rfl, hP, hK⟩ := hv
  have hx := B.exec
  have hb := B.bytes
  have hr := B.returns
  have hts := atoms_spec (ws := wsX1_cellOf) B.pre
  have hown : s.vm.findClass RX1 = some m.cls := findClass_of_methodNamed B.named
  have hlocks := B.notSynchronized
  have hl := lv_entry ([.ref (a 0), .int (nI (r))]) (n := 2) (Nat.le_of_ble_eq_true rfl)
  rw [lg_entry_eq]
  generalize (lg_sl ([.ref (a 0), .int (nI (r))]) ++ List.replicate (2 - (lg_sl ([.ref (a 0), .int (nI (r))])).length) Slot.unset).toArray = ls at hl ⊢
  have hl : lv_has ls 2 [(0, .ref (a 0)), (1, .int (nI (r)))] := hl
  refine lv_aload_n hx hb dX1_cellOf_0 rfl (lv_at hl 0 rfl) ?_
  refine lv_iload_n hx hb dX1_cellOf_1 rfl (lv_at hl 1 rfl) ?_
  refine vp_callSi (va_Run.run (va_runV (As := [.int (nI (r))]) (rest := []) ⟨hx, hb, hml, hown, hts⟩ (c_X1_has_n l g a S (r) (by omega) (by omega) (by omega)) (cwV 1 hts gX1_cellOf_X1_has rfl rfl rfl (by decide +kernel) ⟨Nat.le_of_ble_eq_true rfl, Nat.le_of_ble_eq_true rfl⟩) (pv_r hK hP (ci := 3) (q0 := 0) rfl rfl [0, 1, 2, 3, 4, 5, 6, 7] rfl) rfl rfl hl.1 rfl (lv_room (Nat.le_of_ble_eq_true rfl)) dX1_cellOf_2 ⟨Nat.zero_le _, Nat.zero_le _⟩)) (fun r_2_1 h_2_1 => ?_)
  subst h_2_1
  refine lv_if_eq (tgt := 17) hx hb dX1_cellOf_5 (by decide) (fun c_5_1 => ?_) (fun c_5_1 => ?_)
  · exact absurd c_5_1 (by decide)
  · have i_5 : 1 ≠ 0 := q_ne c_5_1 rfl rfl
    refine lv_aload_n hx hb dX1_cellOf_8 rfl (lv_at hl 0 rfl) ?_
    refine va_get (D := gD g) (ci := 3) (v := .ref (a 3)) (C := RX1) (T := TX1) (N := 9) hx hb hts (by decide +kernel) hown hK.1 hP 0 rfl rfl 2 (by decide) (hts (.fieldLink RX1 18 "LogForward$Rows" "cell" "[I") (by decide +kernel)) (fun _ h9 => h9) rfl dX1_cellOf_9 ?_
    refine lv_iload_n hx hb dX1_cellOf_12 rfl (lv_at hl 1 rfl) ?_
    refine ga_iald (v := (S.ce r)) hx hb hK.1 hP 3 0 rfl rfl (v_nI (by omega) (by decide)) (by rw [(c_nI (by omega))]) dX1_cellOf_13 ?_
    refine lv_goto (tgt := 18) hx hb dX1_cellOf_14 (by decide) ?_
    exact W.iret (v := (S.ce r)) hx hb hr (fun t ht hW => ⟨(S.ce r), rfl, rfl, ht⟩) (fun _ h => nomatch h) dX1_cellOf_18
set_option maxHeartbeats 4000000 in
set_option maxRecDepth 100000 in
theorem c_X1_beforeOf (l : Launch) (g : GG) (a : Nat → Nat) (S : RS) (r : Nat) (hr1 : 1 ≤ r) (hr2 : r ≤ S.n) (hn : S.n ≤ 2000) : Met l yX1_beforeOf wsX1_beforeOf { frames := 1, cells := 0, slots := 0, locals := 21 } (va_Pc [.ref (a 0), .int (nI (r))] (Pr g (wR g a S))) (vp_Sl (fun r => r = S.bf r)) 0 0 (fun _ => False) := by
  refine Met.ofW (cc := cX1_beforeOf) (maxL := 2) (ret := (some .long)) (by decide) rfl ?_
  intro p e s m args below meth c s₁ B hml hv
  obtain ⟨rfl, hP, hK⟩ := hv
  have hx := B.exec
  have hb := B.bytes
  have hr := B.returns
  have hts := atoms_spec (ws := wsX1_beforeOf) B.pre
  have hown : s.vm.findClass RX1 = some m.cls := findClass_of_methodNamed B.named
  have hlocks := B.notSynchronized
  have hl := lv_entry ([.ref (a 0), .int (nI (r))]) (n := 2) (Nat.le_of_ble_eq_true rfl)
  rw [lg_entry_eq]
  generalize (lg_sl ([.ref (a 0), .int (nI (r))]) ++ List.replicate (2 - (lg_sl ([.ref (a 0), .int (nI (r))])).length) Slot.unset).toArray = ls at hl ⊢
  have hl : lv_has ls 2 [(0, .ref (a 0)), (1, .int (nI (r)))] := hl
  refine lv_aload_n hx hb dX1_beforeOf_0 rfl (lv_at hl 0 rfl) ?_
  refine lv_iload_n hx hb dX1_beforeOf_1 rfl (lv_at hl 1 rfl) ?_
  refine vp_callSi (va_Run.run (va_runV (As := [.int (nI (r))]) (rest := []) ⟨hx, hb, hml, hown, hts⟩ (c_X1_has_n l g a S (r) (by omega) (by omega) (by omega)) (cwV 1 hts gX1_beforeOf_X1_has rfl rfl rfl (by decide +kernel) ⟨Nat.le_of_ble_eq_true rfl, Nat.le_of_ble_eq_true rfl⟩) (pv_r hK hP (ci := 3) (q0 := 0) rfl rfl [0, 1, 2, 3, 4, 5, 6, 7] rfl) rfl rfl hl.1 rfl (lv_room (Nat.le_of_ble_eq_true rfl)) dX1_beforeOf_2 ⟨Nat.zero_le _, Nat.zero_le _⟩)) (fun r_2_1 h_2_1 => ?_)
  subst h_2_1
  refine lv_if_eq (tgt := 17) hx hb dX1_beforeOf_5 (by decide) (fun c_5_1 => ?_) (fun c_5_1 => ?_)
  · exact absurd c_5_1 (by decide)
  · have i_5 : 1 ≠ 0 := q_ne c_5_1 rfl rfl
    refine lv_aload_n hx hb dX1_beforeOf_8 rfl (lv_at hl 0 rfl) ?_
    refine va_get (D := gD g) (ci := 3) (v := .ref (a 4)) (C := RX1) (T := TX1) (N := 9) hx hb hts (by decide +kernel) hown hK.1 hP 0 rfl rfl 3 (by decide) (hts (.fieldLink RX1 21 "LogForward$Rows" "before" "[J") (by decide +kernel)) (fun _ h9 => h9) rfl dX1_beforeOf_9 ?_
    refine lv_iload_n hx hb dX1_beforeOf_12 rfl (lv_at hl 1 rfl) ?_
    refine ga_lald (v := (S.bf r)) hx hb hK.1 hP 4 1 rfl rfl (v_nI (by omega) (by decide)) (by rw [(c_nI (by omega))]) dX1_beforeOf_13 ?_
    refine lv_goto (tgt := 18) hx hb dX1_beforeOf_14 (by decide) ?_
    exact W.lret (v := (S.bf r)) hx hb hr (fun t ht hW => ⟨(S.bf r), rfl, rfl, ht⟩) (fun _ h => nomatch h) dX1_beforeOf_18
set_option maxHeartbeats 4000000 in
set_option maxRecDepth 100000 in
theorem c_X1_afterOf (l : Launch) (g : GG) (a : Nat → Nat) (S : RS) (r : Nat) (hr1 : 1 ≤ r) (hr2 : r ≤ S.n) (hn : S.n ≤ 2000) : Met l yX1_afterOf wsX1_afterOf { frames := 1, cells := 0, slots := 0, locals := 21 } (va_Pc [.ref (a 0), .int (nI (r))] (Pr g (wR g a S))) (vp_Sl (fun r => r = S.af r)) 0 0 (fun _ => False) := by
  refine Met.ofW (cc := cX1_afterOf) (maxL := 2) (ret := (some .long)) (by decide) rfl ?_
  intro p e s m args below meth c s₁ B hml hv
  obtain ⟨rfl, hP, hK⟩ := hv
  have hx := B.exec
  have hb := B.bytes
  have hr := B.returns
  have hts := atoms_spec (ws := wsX1_afterOf) B.pre
  have hown : s.vm.findClass RX1 = some m.cls := findClass_of_methodNamed B.named
  have hlocks := B.notSynchronized
  have hl := lv_entry ([.ref (a 0), .int (nI (r))]) (n := 2) (Nat.le_of_ble_eq_true rfl)
  rw [lg_entry_eq]
  generalize (lg_sl ([.ref (a 0), .int (nI (r))]) ++ List.replicate (2 - (lg_sl ([.ref (a 0), .int (nI (r))])).length) Slot.unset).toArray = ls at hl ⊢
  have hl : lv_has ls 2 [(0, .ref (a 0)), (1, .int (nI (r)))] := hl
  refine lv_aload_n hx hb dX1_afterOf_0 rfl (lv_at hl 0 rfl) ?_
  refine lv_iload_n hx hb dX1_afterOf_1 rfl (lv_at hl 1 rfl) ?_
  refine vp_callSi (va_Run.run (va_runV (As := [.int (nI (r))]) (rest := []) ⟨hx, hb, hml, hown, hts⟩ (c_X1_has_n l g a S (r) (by omega) (by omega) (by omega)) (cwV 1 hts gX1_afterOf_X1_has rfl rfl rfl (by decide +kernel) ⟨Nat.le_of_ble_eq_true rfl, Nat.le_of_ble_eq_true rfl⟩) (pv_r hK hP (ci := 3) (q0 := 0) rfl rfl [0, 1, 2, 3, 4, 5, 6, 7] rfl) rfl rfl hl.1 rfl (lv_room (Nat.le_of_ble_eq_true rfl)) dX1_afterOf_2 ⟨Nat.zero_le _, Nat.zero_le _⟩)) (fun r_2_1 h_2_1 => ?_)
  subst h_2_1
  refine lv_if_eq (tgt := 17) hx hb dX1_afterOf_5 (by decide) (fun c_5_1 => ?_) (fun c_5_1 => ?_)
  · exact absurd c_5_1 (by decide)
  · have i_5 : 1 ≠ 0 := q_ne c_5_1 rfl rfl
    refine lv_aload_n hx hb dX1_afterOf_8 rfl (lv_at hl 0 rfl) ?_
    refine va_get (D := gD g) (ci := 3) (v := .ref (a 5)) (C := RX1) (T := TX1) (N := 9) hx hb hts (by decide +kernel) hown hK.1 hP 0 rfl rfl 4 (by decide) (hts (.fieldLink RX1 25 "LogForward$Rows" "after" "[J") (by decide +kernel)) (fun _ h9 => h9) rfl dX1_afterOf_9 ?_
    refine lv_iload_n hx hb dX1_afterOf_12 rfl (lv_at hl 1 rfl) ?_
    refine ga_lald (v := (S.af r)) hx hb hK.1 hP 5 1 rfl rfl (v_nI (by omega) (by decide)) (by rw [(c_nI (by omega))]) dX1_afterOf_13 ?_
    refine lv_goto (tgt := 18) hx hb dX1_afterOf_14 (by decide) ?_
    exact W.lret (v := (S.af r)) hx hb hr (fun t ht hW => ⟨(S.af r), rfl, rfl, ht⟩) (fun _ h => nomatch h) dX1_afterOf_18
