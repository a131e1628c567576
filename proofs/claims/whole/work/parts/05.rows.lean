set_option maxHeartbeats 1000000 in
set_option maxRecDepth 100000 in
theorem c_X1_latest (l : Launch) (g : GG) (a : Nat → Nat) (S : RS)  : Met l yX1_latest wsX1_latest { frames := 0, cells := 0, slots := 0, locals := 0 } (va_Pc [.ref (a 0)] (Pr g (wR g a S))) (vp_Si (fun rv => rv = nI S.n)) 0 0 (fun _ => False) := by
  refine Met.ofW (cc := cX1_latest) (maxL := 1) (ret := (some .int)) (by decide) rfl ?_
  intro p e s m args below meth c s₁ B hml hv
  obtain ⟨rfl, hP, hK⟩ := hv
  have hx := B.exec
  have hb := B.bytes
  have hr := B.returns
  have hts := atoms_spec (ws := wsX1_latest) B.pre
  have hown : s.vm.findClass RX1 = some m.cls := findClass_of_methodNamed B.named
  have hlocks := B.notSynchronized
  have hl := lv_entry ([.ref (a 0)]) (n := 1) (Nat.le_of_ble_eq_true rfl)
  rw [lg_entry_eq]
  generalize (lg_sl ([.ref (a 0)]) ++ List.replicate (1 - (lg_sl ([.ref (a 0)])).length) Slot.unset).toArray = ls at hl ⊢
  have hl : lv_has ls 1 [(0, .ref (a 0))] := hl
  refine lv_aload_n hx hb dX1_latest_0 rfl (lv_at hl 0 rfl) ?_
  refine va_get (D := gD g) (ci := 3) (v := .int (nI (S.n))) (C := RX1) (T := TX1) (N := 9) hx hb hts (by decide +kernel) hown hK.1 hP 0 rfl rfl 7 (by decide) (hts (.fieldLink RX1 35 "LogForward$Rows" "latest" "I") (by decide +kernel)) (fun _ h9 => h9) rfl dX1_latest_1 ?_
  exact W.iret (v := (nI (S.n))) hx hb hr (fun tz htz hWz => ⟨(nI (S.n)), rfl, rfl, htz⟩) (fun _ h => nomatch h) dX1_latest_4
set_option maxHeartbeats 1000000 in
set_option maxRecDepth 100000 in
theorem c_X1_archived (l : Launch) (g : GG) (a : Nat → Nat) (S : RS)  : Met l yX1_archived wsX1_archived { frames := 0, cells := 0, slots := 0, locals := 0 } (va_Pc [.ref (a 0)] (Pr g (wR g a S))) (vp_Si (fun rv => rv = nI S.ar)) 0 0 (fun _ => False) := by
  refine Met.ofW (cc := cX1_archived) (maxL := 1) (ret := (some .int)) (by decide) rfl ?_
  intro p e s m args below meth c s₁ B hml hv
  obtain ⟨rfl, hP, hK⟩ := hv
  have hx := B.exec
  have hb := B.bytes
  have hr := B.returns
  have hts := atoms_spec (ws := wsX1_archived) B.pre
  have hown : s.vm.findClass RX1 = some m.cls := findClass_of_methodNamed B.named
  have hlocks := B.notSynchronized
  have hl := lv_entry ([.ref (a 0)]) (n := 1) (Nat.le_of_ble_eq_true rfl)
  rw [lg_entry_eq]
  generalize (lg_sl ([.ref (a 0)]) ++ List.replicate (1 - (lg_sl ([.ref (a 0)])).length) Slot.unset).toArray = ls at hl ⊢
  have hl : lv_has ls 1 [(0, .ref (a 0))] := hl
  refine lv_aload_n hx hb dX1_archived_0 rfl (lv_at hl 0 rfl) ?_
  refine va_get (D := gD g) (ci := 3) (v := .int (nI (S.ar))) (C := RX1) (T := TX1) (N := 9) hx hb hts (by decide +kernel) hown hK.1 hP 0 rfl rfl 8 (by decide) (hts (.fieldLink RX1 39 "LogForward$Rows" "archived" "I") (by decide +kernel)) (fun _ h9 => h9) rfl dX1_archived_1 ?_
  exact W.iret (v := (nI (S.ar))) hx hb hr (fun tz htz hWz => ⟨(nI (S.ar)), rfl, rfl, htz⟩) (fun _ h => nomatch h) dX1_archived_4
set_option maxHeartbeats 1000000 in
set_option maxRecDepth 100000 in
theorem c_X1_has (l : Launch) (g : GG) (a : Nat → Nat) (S : RS) (p1 : Int32) (hn : S.n ≤ 2000) : Met l yX1_has wsX1_has { frames := 0, cells := 0, slots := 0, locals := 0 } (va_Pc [.ref (a 0), .int p1] (Pr g (wR g a S))) (vp_Si (fun rv => rv = bI (1 ≤ p1.toInt ∧ p1.toInt ≤ (S.n : Int)))) 0 0 (fun _ => False) := by
  refine Met.ofW (cc := cX1_has) (maxL := 2) (ret := (some .boolean)) (by decide) rfl ?_
  intro p e s m args below meth c s₁ B hml hv
  obtain ⟨rfl, hP, hK⟩ := hv
  have hx := B.exec
  have hb := B.bytes
  have hr := B.returns
  have hts := atoms_spec (ws := wsX1_has) B.pre
  have hown : s.vm.findClass RX1 = some m.cls := findClass_of_methodNamed B.named
  have hlocks := B.notSynchronized
  have hl := lv_entry ([.ref (a 0), .int p1]) (n := 2) (Nat.le_of_ble_eq_true rfl)
  rw [lg_entry_eq]
  generalize (lg_sl ([.ref (a 0), .int p1]) ++ List.replicate (2 - (lg_sl ([.ref (a 0), .int p1])).length) Slot.unset).toArray = ls at hl ⊢
  have hl : lv_has ls 2 [(0, .ref (a 0)), (1, .int p1)] := hl
  refine lv_iload_n hx hb dX1_has_0 rfl (lv_at hl 1 rfl) ?_
  refine lv_iconst (v := 1) hx hb dX1_has_1 (by decide) ?_
  refine lv_icmp_lt (tgt := 17) hx hb dX1_has_2 (by decide) (fun c_2_1 => ?_) (fun c_2_1 => ?_)
  · have i_2 : (p1.toInt : Int) < 1 := q_lt c_2_1 rfl rfl
    refine lv_iconst (v := 0) hx hb dX1_has_17 (by decide) ?_
    exact W.zret (v := 0) hx hb hr rfl (fun tz htz hWz => ⟨0, rfl, (bI_0 (by first | omega | assumption | simp_all)), htz⟩) (fun _ h => nomatch h) dX1_has_18
  · have i_2 : (1 : Int) ≤ p1.toInt := q_nlt c_2_1 rfl rfl
    refine lv_iload_n hx hb dX1_has_5 rfl (lv_at hl 1 rfl) ?_
    refine lv_aload_n hx hb dX1_has_6 rfl (lv_at hl 0 rfl) ?_
    refine va_get (D := gD g) (ci := 3) (v := .int (nI (S.n))) (C := RX1) (T := TX1) (N := 9) hx hb hts (by decide +kernel) hown hK.1 hP 0 rfl rfl 7 (by decide) (hts (.fieldLink RX1 35 "LogForward$Rows" "latest" "I") (by decide +kernel)) (fun _ h9 => h9) rfl dX1_has_7 ?_
    refine lv_icmp_gt (tgt := 17) hx hb dX1_has_10 (by decide) (fun c_10_2 => ?_) (fun c_10_2 => ?_)
    · have i_10 : (((S.n : Nat) : Int) : Int) < p1.toInt := q_lt c_10_2 (l_nI (by omega)) rfl
      refine lv_iconst (v := 0) hx hb dX1_has_17 (by decide) ?_
      exact W.zret (v := 0) hx hb hr rfl (fun tz htz hWz => ⟨0, rfl, (bI_0 (by first | omega | assumption | simp_all)), htz⟩) (fun _ h => nomatch h) dX1_has_18
    · have i_10 : (p1.toInt : Int) ≤ ((S.n : Nat) : Int) := q_nlt c_10_2 (l_nI (by omega)) rfl
      refine lv_iconst (v := 1) hx hb dX1_has_13 (by decide) ?_
      refine lv_goto (tgt := 18) hx hb dX1_has_14 (by decide) ?_
      exact W.zret (v := 1) hx hb hr rfl (fun tz htz hWz => ⟨1, rfl, (bI_1 (by first | omega | assumption | simp_all)), htz⟩) (fun _ h => nomatch h) dX1_has_18
set_option maxHeartbeats 1000000 in
set_option maxRecDepth 100000 in
theorem c_X1_has_n (l : Launch) (g : GG) (a : Nat → Nat) (S : RS) (r : Nat) (hr1 : 1 ≤ r) (hr2 : r ≤ S.n) (hn : S.n ≤ 2000) : Met l yX1_has wsX1_has { frames := 0, cells := 0, slots := 0, locals := 0 } (va_Pc [.ref (a 0), .int (nI (r))] (Pr g (wR g a S))) (vp_Si (fun rv => rv = 1)) 0 0 (fun _ => False) := by
  refine Met.ofW (cc := cX1_has) (maxL := 2) (ret := (some .boolean)) (by decide) rfl ?_
  intro p e s m args below meth c s₁ B hml hv
  obtain ⟨rfl, hP, hK⟩ := hv
  have hx := B.exec
  have hb := B.bytes
  have hr := B.returns
  have hts := atoms_spec (ws := wsX1_has) B.pre
  have hown : s.vm.findClass RX1 = some m.cls := findClass_of_methodNamed B.named
  have hlocks := B.notSynchronized
  have hl := lv_entry ([.ref (a 0), .int (nI (r))]) (n := 2) (Nat.le_of_ble_eq_true rfl)
  rw [lg_entry_eq]
  generalize (lg_sl ([.ref (a 0), .int (nI (r))]) ++ List.replicate (2 - (lg_sl ([.ref (a 0), .int (nI (r))])).length) Slot.unset).toArray = ls at hl ⊢
  have hl : lv_has ls 2 [(0, .ref (a 0)), (1, .int (nI (r)))] := hl
  refine lv_iload_n hx hb dX1_has_0 rfl (lv_at hl 1 rfl) ?_
  refine lv_iconst (v := 1) hx hb dX1_has_1 (by decide) ?_
  refine lv_icmp_lt (tgt := 17) hx hb dX1_has_2 (by decide) (fun c_2_1 => ?_) (fun c_2_1 => ?_)
  · have i_2 : (((r : Nat) : Int) : Int) < 1 := q_lt c_2_1 (l_nI (by omega)) rfl
    refine lv_iconst (v := 0) hx hb dX1_has_17 (by decide) ?_
    exact W.zret (v := 0) hx hb hr rfl (fun tz htz hWz => ⟨0, rfl, (by exfalso; omega), htz⟩) (fun _ h => nomatch h) dX1_has_18
  · have i_2 : (1 : Int) ≤ ((r : Nat) : Int) := q_nlt c_2_1 (l_nI (by omega)) rfl
    refine lv_iload_n hx hb dX1_has_5 rfl (lv_at hl 1 rfl) ?_
    refine lv_aload_n hx hb dX1_has_6 rfl (lv_at hl 0 rfl) ?_
    refine va_get (D := gD g) (ci := 3) (v := .int (nI (S.n))) (C := RX1) (T := TX1) (N := 9) hx hb hts (by decide +kernel) hown hK.1 hP 0 rfl rfl 7 (by decide) (hts (.fieldLink RX1 35 "LogForward$Rows" "latest" "I") (by decide +kernel)) (fun _ h9 => h9) rfl dX1_has_7 ?_
    refine lv_icmp_gt (tgt := 17) hx hb dX1_has_10 (by decide) (fun c_10_2 => ?_) (fun c_10_2 => ?_)
    · have i_10 : (((S.n : Nat) : Int) : Int) < ((r : Nat) : Int) := q_lt c_10_2 (l_nI (by omega)) (l_nI (by omega))
      refine lv_iconst (v := 0) hx hb dX1_has_17 (by decide) ?_
      exact W.zret (v := 0) hx hb hr rfl (fun tz htz hWz => ⟨0, rfl, (by exfalso; omega), htz⟩) (fun _ h => nomatch h) dX1_has_18
    · have i_10 : (((r : Nat) : Int) : Int) ≤ ((S.n : Nat) : Int) := q_nlt c_10_2 (l_nI (by omega)) (l_nI (by omega))
      refine lv_iconst (v := 1) hx hb dX1_has_13 (by decide) ?_
      refine lv_goto (tgt := 18) hx hb dX1_has_14 (by decide) ?_
      exact W.zret (v := 1) hx hb hr rfl (fun tz htz hWz => ⟨1, rfl, rfl, htz⟩) (fun _ h => nomatch h) dX1_has_18
set_option maxHeartbeats 1000000 in
set_option maxRecDepth 100000 in
theorem c_X1_hasRoomFor (l : Launch) (g : GG) (a : Nat → Nat) (S : RS) (k : Nat) (hk : k ≤ 1000000) (hn : S.n ≤ 2000) : Met l yX1_hasRoomFor wsX1_hasRoomFor { frames := 0, cells := 0, slots := 0, locals := 0 } (va_Pc [.ref (a 0), .int (nI (k))] (Pr g (wR g a S))) (vp_Si (fun rv => rv = bI (k + S.n ≤ 2000))) 0 0 (fun _ => False) := by
  refine Met.ofW (cc := cX1_hasRoomFor) (maxL := 2) (ret := (some .boolean)) (by decide) rfl ?_
  intro p e s m args below meth c s₁ B hml hv
  obtain ⟨rfl, hP, hK⟩ := hv
  have hx := B.exec
  have hb := B.bytes
  have hr := B.returns
  have hts := atoms_spec (ws := wsX1_hasRoomFor) B.pre
  have hown : s.vm.findClass RX1 = some m.cls := findClass_of_methodNamed B.named
  have hlocks := B.notSynchronized
  have hl := lv_entry ([.ref (a 0), .int (nI (k))]) (n := 2) (Nat.le_of_ble_eq_true rfl)
  rw [lg_entry_eq]
  generalize (lg_sl ([.ref (a 0), .int (nI (k))]) ++ List.replicate (2 - (lg_sl ([.ref (a 0), .int (nI (k))])).length) Slot.unset).toArray = ls at hl ⊢
  have hl : lv_has ls 2 [(0, .ref (a 0)), (1, .int (nI (k)))] := hl
  refine lv_iload_n hx hb dX1_hasRoomFor_0 rfl (lv_at hl 1 rfl) ?_
  refine lv_sipush (v := 2000) hx hb dX1_hasRoomFor_1 (by decide) ?_
  refine lv_aload_n hx hb dX1_hasRoomFor_4 rfl (lv_at hl 0 rfl) ?_
  refine va_get (D := gD g) (ci := 3) (v := .int (nI (S.n))) (C := RX1) (T := TX1) (N := 9) hx hb hts (by decide +kernel) hown hK.1 hP 0 rfl rfl 7 (by decide) (hts (.fieldLink RX1 35 "LogForward$Rows" "latest" "I") (by decide +kernel)) (fun _ h9 => h9) rfl dX1_hasRoomFor_5 ?_
  refine ga_isub (v := (nI (2000 - S.n))) hx hb (pk_sub (a := 2000) (by omega)) dX1_hasRoomFor_8 ?_
  refine lv_icmp_gt (tgt := 16) hx hb dX1_hasRoomFor_9 (by decide) (fun c_9_1 => ?_) (fun c_9_1 => ?_)
  · have i_9 : (((2000 - S.n : Nat) : Int) : Int) < ((k : Nat) : Int) := q_lt c_9_1 (l_nI (by omega)) (l_nI (by omega))
    refine lv_iconst (v := 0) hx hb dX1_hasRoomFor_16 (by decide) ?_
    exact W.zret (v := 0) hx hb hr rfl (fun tz htz hWz => ⟨0, rfl, (bI_0 (by first | omega | assumption | simp_all)), htz⟩) (fun _ h => nomatch h) dX1_hasRoomFor_17
  · have i_9 : (((k : Nat) : Int) : Int) ≤ ((2000 - S.n : Nat) : Int) := q_nlt c_9_1 (l_nI (by omega)) (l_nI (by omega))
    refine lv_iconst (v := 1) hx hb dX1_hasRoomFor_12 (by decide) ?_
    refine lv_goto (tgt := 17) hx hb dX1_hasRoomFor_13 (by decide) ?_
    exact W.zret (v := 1) hx hb hr rfl (fun tz htz hWz => ⟨1, rfl, (bI_1 (by first | omega | assumption | simp_all)), htz⟩) (fun _ h => nomatch h) dX1_hasRoomFor_17
set_option maxHeartbeats 1000000 in
set_option maxRecDepth 100000 in
theorem c_X1_isMissing (l : Launch) (g : GG) (a : Nat → Nat) (S : RS) (r : Nat) (hr1 : 1 ≤ r) (hr2 : r ≤ S.n) (hn : S.n ≤ 2000) : Met l yX1_isMissing wsX1_isMissing { frames := 1, cells := 0, slots := 0, locals := 21 } (va_Pc [.ref (a 0), .int (nI (r))] (Pr g (wR g a S))) (vp_Si (fun rv => rv = bI (S.tn r = 3))) 0 0 (fun _ => False) := by
  refine Met.ofW (cc := cX1_isMissing) (maxL := 2) (ret := (some .boolean)) (by decide) rfl ?_
  intro p e s m args below meth c s₁ B hml hv
  obtain ⟨rfl, hP, hK⟩ := hv
  have hx := B.exec
  have hb := B.bytes
  have hr := B.returns
  have hts := atoms_spec (ws := wsX1_isMissing) B.pre
  have hown : s.vm.findClass RX1 = some m.cls := findClass_of_methodNamed B.named
  have hlocks := B.notSynchronized
  have hl := lv_entry ([.ref (a 0), .int (nI (r))]) (n := 2) (Nat.le_of_ble_eq_true rfl)
  rw [lg_entry_eq]
  generalize (lg_sl ([.ref (a 0), .int (nI (r))]) ++ List.replicate (2 - (lg_sl ([.ref (a 0), .int (nI (r))])).length) Slot.unset).toArray = ls at hl ⊢
  have hl : lv_has ls 2 [(0, .ref (a 0)), (1, .int (nI (r)))] := hl
  refine lv_aload_n hx hb dX1_isMissing_0 rfl (lv_at hl 0 rfl) ?_
  refine lv_iload_n hx hb dX1_isMissing_1 rfl (lv_at hl 1 rfl) ?_
  refine vp_callSi (va_Run.run (va_runV (As := [.int (nI (r))]) (rest := []) ⟨hx, hb, hml, hown, hts⟩ (c_X1_has_n l g a S (r) (by omega) (by omega) (by omega)) (cwV 1 hts gX1_isMissing_X1_has rfl rfl rfl (by decide +kernel) ⟨Nat.le_of_ble_eq_true rfl, Nat.le_of_ble_eq_true rfl⟩) (pv_r hK hP (ci := 3) (q0 := 0) rfl rfl [0, 1, 2, 3, 4, 5, 6, 7] rfl) rfl rfl hl.1 rfl (lv_room (Nat.le_of_ble_eq_true rfl)) dX1_isMissing_2 ⟨Nat.zero_le _, Nat.zero_le _⟩)) (fun r_2_1 h_2_1 => ?_)
  subst h_2_1
  refine lv_if_eq (tgt := 22) hx hb dX1_isMissing_5 (by decide) (fun c_5_1 => ?_) (fun c_5_1 => ?_)
  · exact absurd c_5_1 (by decide)
  · skip
    refine lv_aload_n hx hb dX1_isMissing_8 rfl (lv_at hl 0 rfl) ?_
    refine va_get (D := gD g) (ci := 3) (v := .ref (a 6)) (C := RX1) (T := TX1) (N := 9) hx hb hts (by decide +kernel) hown hK.1 hP 0 rfl rfl 5 (by decide) (hts (.fieldLink RX1 28 "LogForward$Rows" "tornCopies" "[I") (by decide +kernel)) (fun _ h9 => h9) rfl dX1_isMissing_9 ?_
    refine lv_iload_n hx hb dX1_isMissing_12 rfl (lv_at hl 1 rfl) ?_
    refine ga_iald (v := (S.tn r)) hx hb hK.1 hP 6 0 rfl rfl (v_nI (by omega) (by omega)) (by rw [(c_nI (by omega))]) dX1_isMissing_13 ?_
    refine lv_iconst (v := 3) hx hb dX1_isMissing_14 (by decide) ?_
    refine lv_icmp_ne (tgt := 22) hx hb dX1_isMissing_15 (by decide) (fun c_15_2 => ?_) (fun c_15_2 => ?_)
    · have i_15 : ((S.tn r).toInt : Int) ≠ 3 := q_ne c_15_2 rfl rfl
      refine lv_iconst (v := 0) hx hb dX1_isMissing_22 (by decide) ?_
      exact W.zret (v := 0) hx hb hr rfl (fun tz htz hWz => ⟨0, rfl, (bI_0 (by first | omega | assumption | simp_all)), htz⟩) (fun _ h => nomatch h) dX1_isMissing_23
    · have i_15 : ((S.tn r).toInt : Int) = 3 := q_eq c_15_2 rfl rfl
      refine lv_iconst (v := 1) hx hb dX1_isMissing_18 (by decide) ?_
      refine lv_goto (tgt := 23) hx hb dX1_isMissing_19 (by decide) ?_
      exact W.zret (v := 1) hx hb hr rfl (fun tz htz hWz => ⟨1, rfl, (bI_1 (by first | omega | assumption | simp_all)), htz⟩) (fun _ h => nomatch h) dX1_isMissing_23
set_option maxHeartbeats 1000000 in
set_option maxRecDepth 100000 in
theorem c_X1_isChange (l : Launch) (g : GG) (a : Nat → Nat) (S : RS) (r : Nat) (hr1 : 1 ≤ r) (hr2 : r ≤ S.n) (hn : S.n ≤ 2000) : Met l yX1_isChange wsX1_isChange { frames := 1, cells := 0, slots := 0, locals := 21 } (va_Pc [.ref (a 0), .int (nI (r))] (Pr g (wR g a S))) (vp_Si (fun rv => rv = bI (S.kd r = 0))) 0 0 (fun _ => False) := by
  refine Met.ofW (cc := cX1_isChange) (maxL := 2) (ret := (some .boolean)) (by decide) rfl ?_
  intro p e s m args below meth c s₁ B hml hv
  obtain ⟨rfl, hP, hK⟩ := hv
  have hx := B.exec
  have hb := B.bytes
  have hr := B.returns
  have hts := atoms_spec (ws := wsX1_isChange) B.pre
  have hown : s.vm.findClass RX1 = some m.cls := findClass_of_methodNamed B.named
  have hlocks := B.notSynchronized
  have hl := lv_entry ([.ref (a 0), .int (nI (r))]) (n := 2) (Nat.le_of_ble_eq_true rfl)
  rw [lg_entry_eq]
  generalize (lg_sl ([.ref (a 0), .int (nI (r))]) ++ List.replicate (2 - (lg_sl ([.ref (a 0), .int (nI (r))])).length) Slot.unset).toArray = ls at hl ⊢
  have hl : lv_has ls 2 [(0, .ref (a 0)), (1, .int (nI (r)))] := hl
  refine lv_aload_n hx hb dX1_isChange_0 rfl (lv_at hl 0 rfl) ?_
  refine lv_iload_n hx hb dX1_isChange_1 rfl (lv_at hl 1 rfl) ?_
  refine vp_callSi (va_Run.run (va_runV (As := [.int (nI (r))]) (rest := []) ⟨hx, hb, hml, hown, hts⟩ (c_X1_has_n l g a S (r) (by omega) (by omega) (by omega)) (cwV 1 hts gX1_isChange_X1_has rfl rfl rfl (by decide +kernel) ⟨Nat.le_of_ble_eq_true rfl, Nat.le_of_ble_eq_true rfl⟩) (pv_r hK hP (ci := 3) (q0 := 0) rfl rfl [0, 1, 2, 3, 4, 5, 6, 7] rfl) rfl rfl hl.1 rfl (lv_room (Nat.le_of_ble_eq_true rfl)) dX1_isChange_2 ⟨Nat.zero_le _, Nat.zero_le _⟩)) (fun r_2_1 h_2_1 => ?_)
  subst h_2_1
  refine lv_if_eq (tgt := 21) hx hb dX1_isChange_5 (by decide) (fun c_5_1 => ?_) (fun c_5_1 => ?_)
  · exact absurd c_5_1 (by decide)
  · skip
    refine lv_aload_n hx hb dX1_isChange_8 rfl (lv_at hl 0 rfl) ?_
    refine va_get (D := gD g) (ci := 3) (v := .ref (a 1)) (C := RX1) (T := TX1) (N := 9) hx hb hts (by decide +kernel) hown hK.1 hP 0 rfl rfl 0 (by decide) (hts (.fieldLink RX1 9 "LogForward$Rows" "kind" "[I") (by decide +kernel)) (fun _ h9 => h9) rfl dX1_isChange_9 ?_
    refine lv_iload_n hx hb dX1_isChange_12 rfl (lv_at hl 1 rfl) ?_
    refine ga_iald (v := (S.kd r)) hx hb hK.1 hP 1 0 rfl rfl (v_nI (by omega) (by omega)) (by rw [(c_nI (by omega))]) dX1_isChange_13 ?_
    refine lv_if_ne (tgt := 21) hx hb dX1_isChange_14 (by decide) (fun c_14_2 => ?_) (fun c_14_2 => ?_)
    · have i_14 : ((S.kd r).toInt : Int) ≠ 0 := q_ne c_14_2 rfl rfl
      refine lv_iconst (v := 0) hx hb dX1_isChange_21 (by decide) ?_
      exact W.zret (v := 0) hx hb hr rfl (fun tz htz hWz => ⟨0, rfl, (bI_0 (by first | omega | assumption | simp_all)), htz⟩) (fun _ h => nomatch h) dX1_isChange_22
    · have i_14 : ((S.kd r).toInt : Int) = 0 := q_eq c_14_2 rfl rfl
      refine lv_iconst (v := 1) hx hb dX1_isChange_17 (by decide) ?_
      refine lv_goto (tgt := 22) hx hb dX1_isChange_18 (by decide) ?_
      exact W.zret (v := 1) hx hb hr rfl (fun tz htz hWz => ⟨1, rfl, (bI_1 (by first | omega | assumption | simp_all)), htz⟩) (fun _ h => nomatch h) dX1_isChange_22
set_option maxHeartbeats 1000000 in
set_option maxRecDepth 100000 in
theorem c_X1_isBackable (l : Launch) (g : GG) (a : Nat → Nat) (S : RS) (r : Nat) (hr1 : 1 ≤ r) (hr2 : r ≤ S.n) (hn : S.n ≤ 2000) : Met l yX1_isBackable wsX1_isBackable { frames := 2, cells := 0, slots := 0, locals := 42 } (va_Pc [.ref (a 0), .int (nI (r))] (Pr g (wR g a S))) (vp_Si (fun rv => rv = bI (S.kd r = 0 ∧ S.bk r = 0))) 0 0 (fun _ => False) := by
  refine Met.ofW (cc := cX1_isBackable) (maxL := 2) (ret := (some .boolean)) (by decide) rfl ?_
  intro p e s m args below meth c s₁ B hml hv
  obtain ⟨rfl, hP, hK⟩ := hv
  have hx := B.exec
  have hb := B.bytes
  have hr := B.returns
  have hts := atoms_spec (ws := wsX1_isBackable) B.pre
  have hown : s.vm.findClass RX1 = some m.cls := findClass_of_methodNamed B.named
  have hlocks := B.notSynchronized
  have hl := lv_entry ([.ref (a 0), .int (nI (r))]) (n := 2) (Nat.le_of_ble_eq_true rfl)
  rw [lg_entry_eq]
  generalize (lg_sl ([.ref (a 0), .int (nI (r))]) ++ List.replicate (2 - (lg_sl ([.ref (a 0), .int (nI (r))])).length) Slot.unset).toArray = ls at hl ⊢
  have hl : lv_has ls 2 [(0, .ref (a 0)), (1, .int (nI (r)))] := hl
  refine lv_aload_n hx hb dX1_isBackable_0 rfl (lv_at hl 0 rfl) ?_
  refine lv_iload_n hx hb dX1_isBackable_1 rfl (lv_at hl 1 rfl) ?_
  refine vp_callSi (va_Run.run (va_runV (As := [.int (nI (r))]) (rest := []) ⟨hx, hb, hml, hown, hts⟩ (c_X1_isChange l g a S (r) (by omega) (by omega) (by omega)) (cwV 1 hts gX1_isBackable_X1_isChange rfl rfl rfl (by decide +kernel) ⟨Nat.le_of_ble_eq_true rfl, Nat.le_of_ble_eq_true rfl⟩) (pv_r hK hP (ci := 3) (q0 := 0) rfl rfl [0, 1, 2, 3, 4, 5, 6, 7] rfl) rfl rfl hl.1 rfl (lv_room (Nat.le_of_ble_eq_true rfl)) dX1_isBackable_2 ⟨Nat.zero_le _, Nat.zero_le _⟩)) (fun r_2_1 h_2_1 => ?_)
  refine lv_if_eq (tgt := 21) hx hb dX1_isBackable_5 (by decide) (fun c_5_1 => ?_) (fun c_5_1 => ?_)
  · have b_5 : ¬ (S.kd (r) = 0) := bI_f h_2_1 c_5_1
    refine lv_iconst (v := 0) hx hb dX1_isBackable_21 (by decide) ?_
    exact W.zret (v := 0) hx hb hr rfl (fun tz htz hWz => ⟨0, rfl, (bI_0 (by first | omega | assumption | simp_all)), htz⟩) (fun _ h => nomatch h) dX1_isBackable_22
  · have b_5 : S.kd (r) = 0 := bI_t h_2_1 c_5_1
    refine lv_aload_n hx hb dX1_isBackable_8 rfl (lv_at hl 0 rfl) ?_
    refine va_get (D := gD g) (ci := 3) (v := .ref (a 7)) (C := RX1) (T := TX1) (N := 9) hx hb hts (by decide +kernel) hown hK.1 hP 0 rfl rfl 6 (by decide) (hts (.fieldLink RX1 31 "LogForward$Rows" "backingOut" "[Z") (by decide +kernel)) (fun _ h9 => h9) rfl dX1_isBackable_9 ?_
    refine lv_iload_n hx hb dX1_isBackable_12 rfl (lv_at hl 1 rfl) ?_
    refine ga_zald (v := (S.bk r)) hx hb hK.1 hP 7 2 rfl rfl (v_nI (by omega) (by omega)) (by rw [(c_nI (by omega))]) dX1_isBackable_13 ?_
    refine lv_if_ne (tgt := 21) hx hb dX1_isBackable_14 (by decide) (fun c_14_2 => ?_) (fun c_14_2 => ?_)
    · have i_14 : ((S.bk r).toInt : Int) ≠ 0 := q_ne c_14_2 rfl rfl
      refine lv_iconst (v := 0) hx hb dX1_isBackable_21 (by decide) ?_
      exact W.zret (v := 0) hx hb hr rfl (fun tz htz hWz => ⟨0, rfl, (bI_0 (by first | omega | assumption | simp_all)), htz⟩) (fun _ h => nomatch h) dX1_isBackable_22
    · have i_14 : ((S.bk r).toInt : Int) = 0 := q_eq c_14_2 rfl rfl
      refine lv_iconst (v := 1) hx hb dX1_isBackable_17 (by decide) ?_
      refine lv_goto (tgt := 22) hx hb dX1_isBackable_18 (by decide) ?_
      exact W.zret (v := 1) hx hb hr rfl (fun tz htz hWz => ⟨1, rfl, (bI_1 (by first | omega | assumption | simp_all)), htz⟩) (fun _ h => nomatch h) dX1_isBackable_22
set_option maxHeartbeats 1000000 in
set_option maxRecDepth 100000 in
theorem c_X1_kindOf (l : Launch) (g : GG) (a : Nat → Nat) (S : RS) (r : Nat) (hr1 : 1 ≤ r) (hr2 : r ≤ S.n) (hn : S.n ≤ 2000) : Met l yX1_kindOf wsX1_kindOf { frames := 1, cells := 0, slots := 0, locals := 21 } (va_Pc [.ref (a 0), .int (nI (r))] (Pr g (wR g a S))) (vp_Si (fun rv => rv = S.kd r)) 0 0 (fun _ => False) := by
  refine Met.ofW (cc := cX1_kindOf) (maxL := 2) (ret := (some .int)) (by decide) rfl ?_
  intro p e s m args below meth c s₁ B hml hv
  obtain ⟨rfl, hP, hK⟩ := hv
  have hx := B.exec
  have hb := B.bytes
  have hr := B.returns
  have hts := atoms_spec (ws := wsX1_kindOf) B.pre
  have hown : s.vm.findClass RX1 = some m.cls := findClass_of_methodNamed B.named
  have hlocks := B.notSynchronized
  have hl := lv_entry ([.ref (a 0), .int (nI (r))]) (n := 2) (Nat.le_of_ble_eq_true rfl)
  rw [lg_entry_eq]
  generalize (lg_sl ([.ref (a 0), .int (nI (r))]) ++ List.replicate (2 - (lg_sl ([.ref (a 0), .int (nI (r))])).length) Slot.unset).toArray = ls at hl ⊢
  have hl : lv_has ls 2 [(0, .ref (a 0)), (1, .int (nI (r)))] := hl
  refine lv_aload_n hx hb dX1_kindOf_0 rfl (lv_at hl 0 rfl) ?_
  refine lv_iload_n hx hb dX1_kindOf_1 rfl (lv_at hl 1 rfl) ?_
  refine vp_callSi (va_Run.run (va_runV (As := [.int (nI (r))]) (rest := []) ⟨hx, hb, hml, hown, hts⟩ (c_X1_has_n l g a S (r) (by omega) (by omega) (by omega)) (cwV 1 hts gX1_kindOf_X1_has rfl rfl rfl (by decide +kernel) ⟨Nat.le_of_ble_eq_true rfl, Nat.le_of_ble_eq_true rfl⟩) (pv_r hK hP (ci := 3) (q0 := 0) rfl rfl [0, 1, 2, 3, 4, 5, 6, 7] rfl) rfl rfl hl.1 rfl (lv_room (Nat.le_of_ble_eq_true rfl)) dX1_kindOf_2 ⟨Nat.zero_le _, Nat.zero_le _⟩)) (fun r_2_1 h_2_1 => ?_)
  subst h_2_1
  refine lv_if_eq (tgt := 17) hx hb dX1_kindOf_5 (by decide) (fun c_5_1 => ?_) (fun c_5_1 => ?_)
  · exact absurd c_5_1 (by decide)
  · skip
    refine lv_aload_n hx hb dX1_kindOf_8 rfl (lv_at hl 0 rfl) ?_
    refine va_get (D := gD g) (ci := 3) (v := .ref (a 1)) (C := RX1) (T := TX1) (N := 9) hx hb hts (by decide +kernel) hown hK.1 hP 0 rfl rfl 0 (by decide) (hts (.fieldLink RX1 9 "LogForward$Rows" "kind" "[I") (by decide +kernel)) (fun _ h9 => h9) rfl dX1_kindOf_9 ?_
    refine lv_iload_n hx hb dX1_kindOf_12 rfl (lv_at hl 1 rfl) ?_
    refine ga_iald (v := (S.kd r)) hx hb hK.1 hP 1 0 rfl rfl (v_nI (by omega) (by omega)) (by rw [(c_nI (by omega))]) dX1_kindOf_13 ?_
    refine lv_goto (tgt := 18) hx hb dX1_kindOf_14 (by decide) ?_
    exact W.iret (v := (S.kd r)) hx hb hr (fun tz htz hWz => ⟨(S.kd r), rfl, rfl, htz⟩) (fun _ h => nomatch h) dX1_kindOf_18
set_option maxHeartbeats 1000000 in
set_option maxRecDepth 100000 in
theorem c_X1_unitOf (l : Launch) (g : GG) (a : Nat → Nat) (S : RS) (r : Nat) (hr1 : 1 ≤ r) (hr2 : r ≤ S.n) (hn : S.n ≤ 2000) : Met l yX1_unitOf wsX1_unitOf { frames := 1, cells := 0, slots := 0, locals := 21 } (va_Pc [.ref (a 0), .int (nI (r))] (Pr g (wR g a S))) (vp_Si (fun rv => rv = S.un r)) 0 0 (fun _ => False) := by
  refine Met.ofW (cc := cX1_unitOf) (maxL := 2) (ret := (some .int)) (by decide) rfl ?_
  intro p e s m args below meth c s₁ B hml hv
  obtain ⟨rfl, hP, hK⟩ := hv
  have hx := B.exec
  have hb := B.bytes
  have hr := B.returns
  have hts := atoms_spec (ws := wsX1_unitOf) B.pre
  have hown : s.vm.findClass RX1 = some m.cls := findClass_of_methodNamed B.named
  have hlocks := B.notSynchronized
  have hl := lv_entry ([.ref (a 0), .int (nI (r))]) (n := 2) (Nat.le_of_ble_eq_true rfl)
  rw [lg_entry_eq]
  generalize (lg_sl ([.ref (a 0), .int (nI (r))]) ++ List.replicate (2 - (lg_sl ([.ref (a 0), .int (nI (r))])).length) Slot.unset).toArray = ls at hl ⊢
  have hl : lv_has ls 2 [(0, .ref (a 0)), (1, .int (nI (r)))] := hl
  refine lv_aload_n hx hb dX1_unitOf_0 rfl (lv_at hl 0 rfl) ?_
  refine lv_iload_n hx hb dX1_unitOf_1 rfl (lv_at hl 1 rfl) ?_
  refine vp_callSi (va_Run.run (va_runV (As := [.int (nI (r))]) (rest := []) ⟨hx, hb, hml, hown, hts⟩ (c_X1_has_n l g a S (r) (by omega) (by omega) (by omega)) (cwV 1 hts gX1_unitOf_X1_has rfl rfl rfl (by decide +kernel) ⟨Nat.le_of_ble_eq_true rfl, Nat.le_of_ble_eq_true rfl⟩) (pv_r hK hP (ci := 3) (q0 := 0) rfl rfl [0, 1, 2, 3, 4, 5, 6, 7] rfl) rfl rfl hl.1 rfl (lv_room (Nat.le_of_ble_eq_true rfl)) dX1_unitOf_2 ⟨Nat.zero_le _, Nat.zero_le _⟩)) (fun r_2_1 h_2_1 => ?_)
  subst h_2_1
  refine lv_if_eq (tgt := 17) hx hb dX1_unitOf_5 (by decide) (fun c_5_1 => ?_) (fun c_5_1 => ?_)
  · exact absurd c_5_1 (by decide)
  · skip
    refine lv_aload_n hx hb dX1_unitOf_8 rfl (lv_at hl 0 rfl) ?_
    refine va_get (D := gD g) (ci := 3) (v := .ref (a 2)) (C := RX1) (T := TX1) (N := 9) hx hb hts (by decide +kernel) hown hK.1 hP 0 rfl rfl 1 (by decide) (hts (.fieldLink RX1 15 "LogForward$Rows" "unit" "[I") (by decide +kernel)) (fun _ h9 => h9) rfl dX1_unitOf_9 ?_
    refine lv_iload_n hx hb dX1_unitOf_12 rfl (lv_at hl 1 rfl) ?_
    refine ga_iald (v := (S.un r)) hx hb hK.1 hP 2 0 rfl rfl (v_nI (by omega) (by omega)) (by rw [(c_nI (by omega))]) dX1_unitOf_13 ?_
    refine lv_goto (tgt := 18) hx hb dX1_unitOf_14 (by decide) ?_
    exact W.iret (v := (S.un r)) hx hb hr (fun tz htz hWz => ⟨(S.un r), rfl, rfl, htz⟩) (fun _ h => nomatch h) dX1_unitOf_18
set_option maxHeartbeats 1000000 in
set_option maxRecDepth 100000 in
theorem c_X1_cellOf (l : Launch) (g : GG) (a : Nat → Nat) (S : RS) (r : Nat) (hr1 : 1 ≤ r) (hr2 : r ≤ S.n) (hn : S.n ≤ 2000) : Met l yX1_cellOf wsX1_cellOf { frames := 1, cells := 0, slots := 0, locals := 21 } (va_Pc [.ref (a 0), .int (nI (r))] (Pr g (wR g a S))) (vp_Si (fun rv => rv = S.ce r)) 0 0 (fun _ => False) := by
  refine Met.ofW (cc := cX1_cellOf) (maxL := 2) (ret := (some .int)) (by decide) rfl ?_
  intro p e s m args below meth c s₁ B hml hv
  obtain ⟨rfl, hP, hK⟩ := hv
  have hx := B.exec
  have hb := B.bytes
  have hr := B.returns
  have hts := atoms_spec (ws := wsX1_cellOf) B.pre
  have hown : s.vm.findClass RX1 = some m.cls := findClass_of_methodNamed B.named
  have hlocks := B.notSynchronized
  have hl := lv_entry ([.ref (a 0), .int (nI (r))]) (n := 2) (Nat.le_of_ble_eq_true rfl)
  rw [lg_entry_eq]
  generalize (lg_sl ([.ref (a 0), .int (nI (r))]) ++ List.replicate (2 - (lg_sl ([.ref (a 0), .int (nI (r))])).length) Slot.unset).toArray = ls at hl ⊢
  have hl : lv_has ls 2 [(0, .ref (a 0)), (1, .int (nI (r)))] := hl
  refine lv_aload_n hx hb dX1_cellOf_0 rfl (lv_at hl 0 rfl) ?_
  refine lv_iload_n hx hb dX1_cellOf_1 rfl (lv_at hl 1 rfl) ?_
  refine vp_callSi (va_Run.run (va_runV (As := [.int (nI (r))]) (rest := []) ⟨hx, hb, hml, hown, hts⟩ (c_X1_has_n l g a S (r) (by omega) (by omega) (by omega)) (cwV 1 hts gX1_cellOf_X1_has rfl rfl rfl (by decide +kernel) ⟨Nat.le_of_ble_eq_true rfl, Nat.le_of_ble_eq_true rfl⟩) (pv_r hK hP (ci := 3) (q0 := 0) rfl rfl [0, 1, 2, 3, 4, 5, 6, 7] rfl) rfl rfl hl.1 rfl (lv_room (Nat.le_of_ble_eq_true rfl)) dX1_cellOf_2 ⟨Nat.zero_le _, Nat.zero_le _⟩)) (fun r_2_1 h_2_1 => ?_)
  subst h_2_1
  refine lv_if_eq (tgt := 17) hx hb dX1_cellOf_5 (by decide) (fun c_5_1 => ?_) (fun c_5_1 => ?_)
  · exact absurd c_5_1 (by decide)
  · skip
    refine lv_aload_n hx hb dX1_cellOf_8 rfl (lv_at hl 0 rfl) ?_
    refine va_get (D := gD g) (ci := 3) (v := .ref (a 3)) (C := RX1) (T := TX1) (N := 9) hx hb hts (by decide +kernel) hown hK.1 hP 0 rfl rfl 2 (by decide) (hts (.fieldLink RX1 18 "LogForward$Rows" "cell" "[I") (by decide +kernel)) (fun _ h9 => h9) rfl dX1_cellOf_9 ?_
    refine lv_iload_n hx hb dX1_cellOf_12 rfl (lv_at hl 1 rfl) ?_
    refine ga_iald (v := (S.ce r)) hx hb hK.1 hP 3 0 rfl rfl (v_nI (by omega) (by omega)) (by rw [(c_nI (by omega))]) dX1_cellOf_13 ?_
    refine lv_goto (tgt := 18) hx hb dX1_cellOf_14 (by decide) ?_
    exact W.iret (v := (S.ce r)) hx hb hr (fun tz htz hWz => ⟨(S.ce r), rfl, rfl, htz⟩) (fun _ h => nomatch h) dX1_cellOf_18
set_option maxHeartbeats 1000000 in
set_option maxRecDepth 100000 in
theorem c_X1_beforeOf (l : Launch) (g : GG) (a : Nat → Nat) (S : RS) (r : Nat) (hr1 : 1 ≤ r) (hr2 : r ≤ S.n) (hn : S.n ≤ 2000) : Met l yX1_beforeOf wsX1_beforeOf { frames := 1, cells := 0, slots := 0, locals := 21 } (va_Pc [.ref (a 0), .int (nI (r))] (Pr g (wR g a S))) (vp_Sl (fun rv => rv = S.bf r)) 0 0 (fun _ => False) := by
  refine Met.ofW (cc := cX1_beforeOf) (maxL := 2) (ret := (some .long)) (by decide) rfl ?_
  intro p e s m args below meth c s₁ B hml hv
  obtain ⟨rfl, hP, hK⟩ := hv
  have hx := B.exec
  have hb := B.bytes
  have hr := B.returns
  have hts := atoms_spec (ws := wsX1_beforeOf) B.pre
  have hown : s.vm.findClass RX1 = some m.cls := findClass_of_methodNamed B.named
  have hlocks := B.notSynchronized
  have hl := lv_entry ([.ref (a 0), .int (nI (r))]) (n := 2) (Nat.le_of_ble_eq_true rfl)
  rw [lg_entry_eq]
  generalize (lg_sl ([.ref (a 0), .int (nI (r))]) ++ List.replicate (2 - (lg_sl ([.ref (a 0), .int (nI (r))])).length) Slot.unset).toArray = ls at hl ⊢
  have hl : lv_has ls 2 [(0, .ref (a 0)), (1, .int (nI (r)))] := hl
  refine lv_aload_n hx hb dX1_beforeOf_0 rfl (lv_at hl 0 rfl) ?_
  refine lv_iload_n hx hb dX1_beforeOf_1 rfl (lv_at hl 1 rfl) ?_
  refine vp_callSi (va_Run.run (va_runV (As := [.int (nI (r))]) (rest := []) ⟨hx, hb, hml, hown, hts⟩ (c_X1_has_n l g a S (r) (by omega) (by omega) (by omega)) (cwV 1 hts gX1_beforeOf_X1_has rfl rfl rfl (by decide +kernel) ⟨Nat.le_of_ble_eq_true rfl, Nat.le_of_ble_eq_true rfl⟩) (pv_r hK hP (ci := 3) (q0 := 0) rfl rfl [0, 1, 2, 3, 4, 5, 6, 7] rfl) rfl rfl hl.1 rfl (lv_room (Nat.le_of_ble_eq_true rfl)) dX1_beforeOf_2 ⟨Nat.zero_le _, Nat.zero_le _⟩)) (fun r_2_1 h_2_1 => ?_)
  subst h_2_1
  refine lv_if_eq (tgt := 17) hx hb dX1_beforeOf_5 (by decide) (fun c_5_1 => ?_) (fun c_5_1 => ?_)
  · exact absurd c_5_1 (by decide)
  · skip
    refine lv_aload_n hx hb dX1_beforeOf_8 rfl (lv_at hl 0 rfl) ?_
    refine va_get (D := gD g) (ci := 3) (v := .ref (a 4)) (C := RX1) (T := TX1) (N := 9) hx hb hts (by decide +kernel) hown hK.1 hP 0 rfl rfl 3 (by decide) (hts (.fieldLink RX1 21 "LogForward$Rows" "before" "[J") (by decide +kernel)) (fun _ h9 => h9) rfl dX1_beforeOf_9 ?_
    refine lv_iload_n hx hb dX1_beforeOf_12 rfl (lv_at hl 1 rfl) ?_
    refine ga_lald (v := (S.bf r)) hx hb hK.1 hP 4 1 rfl rfl (v_nI (by omega) (by omega)) (by rw [(c_nI (by omega))]) dX1_beforeOf_13 ?_
    refine lv_goto (tgt := 18) hx hb dX1_beforeOf_14 (by decide) ?_
    exact W.lret (v := (S.bf r)) hx hb hr (fun tz htz hWz => ⟨(S.bf r), rfl, rfl, htz⟩) (fun _ h => nomatch h) dX1_beforeOf_18
set_option maxHeartbeats 1000000 in
set_option maxRecDepth 100000 in
theorem c_X1_afterOf (l : Launch) (g : GG) (a : Nat → Nat) (S : RS) (r : Nat) (hr1 : 1 ≤ r) (hr2 : r ≤ S.n) (hn : S.n ≤ 2000) : Met l yX1_afterOf wsX1_afterOf { frames := 1, cells := 0, slots := 0, locals := 21 } (va_Pc [.ref (a 0), .int (nI (r))] (Pr g (wR g a S))) (vp_Sl (fun rv => rv = S.af r)) 0 0 (fun _ => False) := by
  refine Met.ofW (cc := cX1_afterOf) (maxL := 2) (ret := (some .long)) (by decide) rfl ?_
  intro p e s m args below meth c s₁ B hml hv
  obtain ⟨rfl, hP, hK⟩ := hv
  have hx := B.exec
  have hb := B.bytes
  have hr := B.returns
  have hts := atoms_spec (ws := wsX1_afterOf) B.pre
  have hown : s.vm.findClass RX1 = some m.cls := findClass_of_methodNamed B.named
  have hlocks := B.notSynchronized
  have hl := lv_entry ([.ref (a 0), .int (nI (r))]) (n := 2) (Nat.le_of_ble_eq_true rfl)
  rw [lg_entry_eq]
  generalize (lg_sl ([.ref (a 0), .int (nI (r))]) ++ List.replicate (2 - (lg_sl ([.ref (a 0), .int (nI (r))])).length) Slot.unset).toArray = ls at hl ⊢
  have hl : lv_has ls 2 [(0, .ref (a 0)), (1, .int (nI (r)))] := hl
  refine lv_aload_n hx hb dX1_afterOf_0 rfl (lv_at hl 0 rfl) ?_
  refine lv_iload_n hx hb dX1_afterOf_1 rfl (lv_at hl 1 rfl) ?_
  refine vp_callSi (va_Run.run (va_runV (As := [.int (nI (r))]) (rest := []) ⟨hx, hb, hml, hown, hts⟩ (c_X1_has_n l g a S (r) (by omega) (by omega) (by omega)) (cwV 1 hts gX1_afterOf_X1_has rfl rfl rfl (by decide +kernel) ⟨Nat.le_of_ble_eq_true rfl, Nat.le_of_ble_eq_true rfl⟩) (pv_r hK hP (ci := 3) (q0 := 0) rfl rfl [0, 1, 2, 3, 4, 5, 6, 7] rfl) rfl rfl hl.1 rfl (lv_room (Nat.le_of_ble_eq_true rfl)) dX1_afterOf_2 ⟨Nat.zero_le _, Nat.zero_le _⟩)) (fun r_2_1 h_2_1 => ?_)
  subst h_2_1
  refine lv_if_eq (tgt := 17) hx hb dX1_afterOf_5 (by decide) (fun c_5_1 => ?_) (fun c_5_1 => ?_)
  · exact absurd c_5_1 (by decide)
  · skip
    refine lv_aload_n hx hb dX1_afterOf_8 rfl (lv_at hl 0 rfl) ?_
    refine va_get (D := gD g) (ci := 3) (v := .ref (a 5)) (C := RX1) (T := TX1) (N := 9) hx hb hts (by decide +kernel) hown hK.1 hP 0 rfl rfl 4 (by decide) (hts (.fieldLink RX1 25 "LogForward$Rows" "after" "[J") (by decide +kernel)) (fun _ h9 => h9) rfl dX1_afterOf_9 ?_
    refine lv_iload_n hx hb dX1_afterOf_12 rfl (lv_at hl 1 rfl) ?_
    refine ga_lald (v := (S.af r)) hx hb hK.1 hP 5 1 rfl rfl (v_nI (by omega) (by omega)) (by rw [(c_nI (by omega))]) dX1_afterOf_13 ?_
    refine lv_goto (tgt := 18) hx hb dX1_afterOf_14 (by decide) ?_
    exact W.lret (v := (S.af r)) hx hb hr (fun tz htz hWz => ⟨(S.af r), rfl, rfl, htz⟩) (fun _ h => nomatch h) dX1_afterOf_18
/-- a row written behind the latest -/
def rsW (S : RS) (k u c : Int32) (b f : Int64) (z : Int32) : RS := (upd S.kd (S.n + 1) k, upd S.un (S.n + 1) u, upd S.ce (S.n + 1) c, vp_updL S.bf (S.n + 1) b, vp_updL S.af (S.n + 1) f, upd S.tn (S.n + 1) 0, upd S.bk (S.n + 1) z, S.n + 1, S.ar)
def rsT (S : RS) (r : Nat) (x : Int32) : RS := (S.kd, S.un, S.ce, S.bf, S.af, upd S.tn r x, S.bk, S.n, S.ar)
def rsP (S : RS) (k : Nat) : RS := (S.kd, S.un, S.ce, S.bf, S.af, S.tn, S.bk, S.n, max S.ar k)
def rsD (S : RS) (k : Nat) : RS := (S.kd, S.un, S.ce, S.bf, S.af, S.tn, S.bk, min S.n k, min S.ar k)
set_option maxHeartbeats 1000000 in
set_option maxRecDepth 100000 in
theorem c_X1_write (l : Launch) (g : GG) (a : Nat → Nat) (S : RS) (sz : Nat) (p1 p2 p3 : Int32) (p4 p6 : Int64) (z : Int32) (hn : S.n < 2000) (hz : vp_nar .boolean z = z) : Met l yX1_write wsX1_write { frames := 1, cells := 0, slots := 0, locals := 21 } (va_Pc [.ref (a 0), .int p1, .int p2, .int p3, .long p4, .long p6, .int z] (Pw g (wR g a S) sz)) (va_Qi (fun rv u => rv = nI (S.n + 1) ∧ u = rsW S p1 p2 p3 p4 p6 z) (Bw g (va_A (wR g a S) sz) (wR g a)) (va_A (wR g a S) sz)) 0 0 (va_A (wR g a S) sz) := by
  refine Met.ofW (cc := cX1_write) (maxL := 9) (ret := (some .int)) (by decide) rfl ?_
  intro p e s m args below meth c s₁ B hml hv
  obtain ⟨rfl, hsz, hP, hK, hD0⟩ := hv
  have hx := B.exec
  have hb := B.bytes
  have hr := B.returns
  have hts := atoms_spec (ws := wsX1_write) B.pre
  have hown : s.vm.findClass RX1 = some m.cls := findClass_of_methodNamed B.named
  have hlocks := B.notSynchronized
  subst hsz
  have hD := hD0.self (sz := s.heap.size)
  generalize hAe : va_A (wR g a S) s.heap.size = A at hD ⊢
  have hA : ∀ q : Nat, s.heap.size ≤ q → A q := fun q h => by rw [← hAe]; exact Or.inr h
  have hS : va_S A s.heap s.heap [] := va_S.rf
  have hl := lv_entry ([.ref (a 0), .int p1, .int p2, .int p3, .long p4, .long p6, .int z]) (n := 9) (Nat.le_of_ble_eq_true rfl)
  rw [lg_entry_eq]
  generalize (lg_sl ([.ref (a 0), .int p1, .int p2, .int p3, .long p4, .long p6, .int z]) ++ List.replicate (9 - (lg_sl ([.ref (a 0), .int p1, .int p2, .int p3, .long p4, .long p6, .int z])).length) Slot.unset).toArray = ls at hl ⊢
  have hl : lv_has ls 9 [(0, .ref (a 0)), (1, .int p1), (2, .int p2), (3, .int p3), (4, .long p4), (6, .long p6), (8, .int z)] := hl
  refine lv_aload_n hx hb dX1_write_0 rfl (lv_at hl 0 rfl) ?_
  refine lv_iconst (v := 1) hx hb dX1_write_1 (by decide) ?_
  refine vp_callSi (va_Run.run (va_runV (As := [.int 1]) (rest := []) ⟨hx, hb, hml, hown, hts⟩ (c_X1_hasRoomFor l g a S (1) (by omega) (by omega)) (cwV 1 hts gX1_write_X1_hasRoomFor rfl rfl rfl (by decide +kernel) ⟨Nat.le_of_ble_eq_true rfl, Nat.le_of_ble_eq_true rfl⟩) (pv_r hK hP (ci := 3) (q0 := 0) rfl rfl [0, 1, 2, 3, 4, 5, 6, 7] rfl) rfl rfl hl.1 rfl (lv_room (Nat.le_of_ble_eq_true rfl)) dX1_write_2 ⟨Nat.zero_le _, Nat.zero_le _⟩)) (fun r_2_1 h_2_1 => ?_)
  refine lv_if_ne (tgt := 10) hx hb dX1_write_5 (by decide) (fun c_5_1 => ?_) (fun c_5_1 => ?_)
  · have b_5 : (1) + S.n ≤ 2000 := bI_t h_2_1 c_5_1
    refine lv_aload_n hx hb dX1_write_10 rfl (lv_at hl 0 rfl) ?_
    refine lv_dup hx hb dX1_write_11 rfl ?_
    refine va_get (D := gD g) (ci := 3) (v := .int (nI (S.n))) (C := RX1) (T := TX1) (N := 9) hx hb hts (by decide +kernel) hown hK.1 hP 0 rfl rfl 7 (by decide) (hts (.fieldLink RX1 35 "LogForward$Rows" "latest" "I") (by decide +kernel)) (fun _ h9 => h9) rfl dX1_write_12 ?_
    refine lv_iconst (v := 1) hx hb dX1_write_15 (by decide) ?_
    refine ga_iadd (v := (nI (S.n + 1))) hx hb (nI_1 _) dX1_write_16 ?_
    refine va_put (D := gD g) (ci := 3) (v := .int (nI (S.n + 1))) (ty := .int) (C := RX1) (T := TX1) (N := 9) hx hb hts (by decide +kernel) tyX1 tyX1_ok nmX1 hown hK.1 hP hD hS 0 rfl rfl 7 (by decide) (hts (.fieldLink RX1 35 "LogForward$Rows" "latest" "I") (by decide +kernel)) (fun _ h9 => h9) rfl (by decide +kernel) rfl rfl (Nat.le_of_ble_eq_true rfl) dX1_write_17 (fun H locs hP hD hS => ?_)
    have hP : va_P (gD g) vwCl ([((a 0), .inr (3, [.ref (a 1), .ref (a 2), .ref (a 3), .ref (a 4), .ref (a 5), .ref (a 6), .ref (a 7), .int (nI (S.n + 1)), .int (nI (S.ar))])), ((a 1), .inl (gI g, 2001, .inl S.kd)), ((a 2), .inl (gI g, 2001, .inl S.un)), ((a 3), .inl (gI g, 2001, .inl S.ce)), ((a 4), .inl (gJ g, 2001, .inr (.inl S.bf))), ((a 5), .inl (gJ g, 2001, .inr (.inl S.af))), ((a 6), .inl (gI g, 2001, .inl S.tn)), ((a 7), .inl (gZ g, 2001, .inl S.bk))]) H := hP
    have hD : va_D A ([((a 0), .inr (3, [.ref (a 1), .ref (a 2), .ref (a 3), .ref (a 4), .ref (a 5), .ref (a 6), .ref (a 7), .int (nI (S.n + 1)), .int (nI (S.ar))])), ((a 1), .inl (gI g, 2001, .inl S.kd)), ((a 2), .inl (gI g, 2001, .inl S.un)), ((a 3), .inl (gI g, 2001, .inl S.ce)), ((a 4), .inl (gJ g, 2001, .inr (.inl S.bf))), ((a 5), .inl (gJ g, 2001, .inr (.inl S.af))), ((a 6), .inl (gI g, 2001, .inl S.tn)), ((a 7), .inl (gZ g, 2001, .inl S.bk))]) := hD
    refine lv_aload_n hx hb dX1_write_20 rfl (lv_at hl 0 rfl) ?_
    refine va_get (D := gD g) (ci := 3) (v := .ref (a 1)) (C := RX1) (T := TX1) (N := 9) hx hb hts (by decide +kernel) hown hK.1 hP 0 rfl rfl 0 (by decide) (hts (.fieldLink RX1 9 "LogForward$Rows" "kind" "[I") (by decide +kernel)) (fun _ h9 => h9) rfl dX1_write_21 ?_
    refine lv_aload_n hx hb dX1_write_24 rfl (lv_at hl 0 rfl) ?_
    refine va_get (D := gD g) (ci := 3) (v := .int (nI (S.n + 1))) (C := RX1) (T := TX1) (N := 9) hx hb hts (by decide +kernel) hown hK.1 hP 0 rfl rfl 7 (by decide) (hts (.fieldLink RX1 35 "LogForward$Rows" "latest" "I") (by decide +kernel)) (fun _ h9 => h9) rfl dX1_write_25 ?_
    refine lv_iload_n hx hb dX1_write_28 rfl (lv_at hl 1 rfl) ?_
    refine ga_iast (j := S.n + 1) hx hb hK.1 hP hD hS 1 0 rfl rfl (v_nI (by omega) (by omega)) (c_nI (by omega)) dX1_write_29 (fun H locs hP hD hS => ?_)
    have hP : va_P (gD g) vwCl ([((a 0), .inr (3, [.ref (a 1), .ref (a 2), .ref (a 3), .ref (a 4), .ref (a 5), .ref (a 6), .ref (a 7), .int (nI (S.n + 1)), .int (nI (S.ar))])), ((a 1), .inl (gI g, 2001, .inl (upd S.kd (S.n + 1) p1))), ((a 2), .inl (gI g, 2001, .inl S.un)), ((a 3), .inl (gI g, 2001, .inl S.ce)), ((a 4), .inl (gJ g, 2001, .inr (.inl S.bf))), ((a 5), .inl (gJ g, 2001, .inr (.inl S.af))), ((a 6), .inl (gI g, 2001, .inl S.tn)), ((a 7), .inl (gZ g, 2001, .inl S.bk))]) H := hP
    have hD : va_D A ([((a 0), .inr (3, [.ref (a 1), .ref (a 2), .ref (a 3), .ref (a 4), .ref (a 5), .ref (a 6), .ref (a 7), .int (nI (S.n + 1)), .int (nI (S.ar))])), ((a 1), .inl (gI g, 2001, .inl (upd S.kd (S.n + 1) p1))), ((a 2), .inl (gI g, 2001, .inl S.un)), ((a 3), .inl (gI g, 2001, .inl S.ce)), ((a 4), .inl (gJ g, 2001, .inr (.inl S.bf))), ((a 5), .inl (gJ g, 2001, .inr (.inl S.af))), ((a 6), .inl (gI g, 2001, .inl S.tn)), ((a 7), .inl (gZ g, 2001, .inl S.bk))]) := hD
    refine lv_aload_n hx hb dX1_write_30 rfl (lv_at hl 0 rfl) ?_
    refine va_get (D := gD g) (ci := 3) (v := .ref (a 2)) (C := RX1) (T := TX1) (N := 9) hx hb hts (by decide +kernel) hown hK.1 hP 0 rfl rfl 1 (by decide) (hts (.fieldLink RX1 15 "LogForward$Rows" "unit" "[I") (by decide +kernel)) (fun _ h9 => h9) rfl dX1_write_31 ?_
    refine lv_aload_n hx hb dX1_write_34 rfl (lv_at hl 0 rfl) ?_
    refine va_get (D := gD g) (ci := 3) (v := .int (nI (S.n + 1))) (C := RX1) (T := TX1) (N := 9) hx hb hts (by decide +kernel) hown hK.1 hP 0 rfl rfl 7 (by decide) (hts (.fieldLink RX1 35 "LogForward$Rows" "latest" "I") (by decide +kernel)) (fun _ h9 => h9) rfl dX1_write_35 ?_
    refine lv_iload_n hx hb dX1_write_38 rfl (lv_at hl 2 rfl) ?_
    refine ga_iast (j := S.n + 1) hx hb hK.1 hP hD hS 2 0 rfl rfl (v_nI (by omega) (by omega)) (c_nI (by omega)) dX1_write_39 (fun H locs hP hD hS => ?_)
    have hP : va_P (gD g) vwCl ([((a 0), .inr (3, [.ref (a 1), .ref (a 2), .ref (a 3), .ref (a 4), .ref (a 5), .ref (a 6), .ref (a 7), .int (nI (S.n + 1)), .int (nI (S.ar))])), ((a 1), .inl (gI g, 2001, .inl (upd S.kd (S.n + 1) p1))), ((a 2), .inl (gI g, 2001, .inl (upd S.un (S.n + 1) p2))), ((a 3), .inl (gI g, 2001, .inl S.ce)), ((a 4), .inl (gJ g, 2001, .inr (.inl S.bf))), ((a 5), .inl (gJ g, 2001, .inr (.inl S.af))), ((a 6), .inl (gI g, 2001, .inl S.tn)), ((a 7), .inl (gZ g, 2001, .inl S.bk))]) H := hP
    have hD : va_D A ([((a 0), .inr (3, [.ref (a 1), .ref (a 2), .ref (a 3), .ref (a 4), .ref (a 5), .ref (a 6), .ref (a 7), .int (nI (S.n + 1)), .int (nI (S.ar))])), ((a 1), .inl (gI g, 2001, .inl (upd S.kd (S.n + 1) p1))), ((a 2), .inl (gI g, 2001, .inl (upd S.un (S.n + 1) p2))), ((a 3), .inl (gI g, 2001, .inl S.ce)), ((a 4), .inl (gJ g, 2001, .inr (.inl S.bf))), ((a 5), .inl (gJ g, 2001, .inr (.inl S.af))), ((a 6), .inl (gI g, 2001, .inl S.tn)), ((a 7), .inl (gZ g, 2001, .inl S.bk))]) := hD
    refine lv_aload_n hx hb dX1_write_40 rfl (lv_at hl 0 rfl) ?_
    refine va_get (D := gD g) (ci := 3) (v := .ref (a 3)) (C := RX1) (T := TX1) (N := 9) hx hb hts (by decide +kernel) hown hK.1 hP 0 rfl rfl 2 (by decide) (hts (.fieldLink RX1 18 "LogForward$Rows" "cell" "[I") (by decide +kernel)) (fun _ h9 => h9) rfl dX1_write_41 ?_
    refine lv_aload_n hx hb dX1_write_44 rfl (lv_at hl 0 rfl) ?_
    refine va_get (D := gD g) (ci := 3) (v := .int (nI (S.n + 1))) (C := RX1) (T := TX1) (N := 9) hx hb hts (by decide +kernel) hown hK.1 hP 0 rfl rfl 7 (by decide) (hts (.fieldLink RX1 35 "LogForward$Rows" "latest" "I") (by decide +kernel)) (fun _ h9 => h9) rfl dX1_write_45 ?_
    refine lv_iload_n hx hb dX1_write_48 rfl (lv_at hl 3 rfl) ?_
    refine ga_iast (j := S.n + 1) hx hb hK.1 hP hD hS 3 0 rfl rfl (v_nI (by omega) (by omega)) (c_nI (by omega)) dX1_write_49 (fun H locs hP hD hS => ?_)
    have hP : va_P (gD g) vwCl ([((a 0), .inr (3, [.ref (a 1), .ref (a 2), .ref (a 3), .ref (a 4), .ref (a 5), .ref (a 6), .ref (a 7), .int (nI (S.n + 1)), .int (nI (S.ar))])), ((a 1), .inl (gI g, 2001, .inl (upd S.kd (S.n + 1) p1))), ((a 2), .inl (gI g, 2001, .inl (upd S.un (S.n + 1) p2))), ((a 3), .inl (gI g, 2001, .inl (upd S.ce (S.n + 1) p3))), ((a 4), .inl (gJ g, 2001, .inr (.inl S.bf))), ((a 5), .inl (gJ g, 2001, .inr (.inl S.af))), ((a 6), .inl (gI g, 2001, .inl S.tn)), ((a 7), .inl (gZ g, 2001, .inl S.bk))]) H := hP
    have hD : va_D A ([((a 0), .inr (3, [.ref (a 1), .ref (a 2), .ref (a 3), .ref (a 4), .ref (a 5), .ref (a 6), .ref (a 7), .int (nI (S.n + 1)), .int (nI (S.ar))])), ((a 1), .inl (gI g, 2001, .inl (upd S.kd (S.n + 1) p1))), ((a 2), .inl (gI g, 2001, .inl (upd S.un (S.n + 1) p2))), ((a 3), .inl (gI g, 2001, .inl (upd S.ce (S.n + 1) p3))), ((a 4), .inl (gJ g, 2001, .inr (.inl S.bf))), ((a 5), .inl (gJ g, 2001, .inr (.inl S.af))), ((a 6), .inl (gI g, 2001, .inl S.tn)), ((a 7), .inl (gZ g, 2001, .inl S.bk))]) := hD
    refine lv_aload_n hx hb dX1_write_50 rfl (lv_at hl 0 rfl) ?_
    refine va_get (D := gD g) (ci := 3) (v := .ref (a 4)) (C := RX1) (T := TX1) (N := 9) hx hb hts (by decide +kernel) hown hK.1 hP 0 rfl rfl 3 (by decide) (hts (.fieldLink RX1 21 "LogForward$Rows" "before" "[J") (by decide +kernel)) (fun _ h9 => h9) rfl dX1_write_51 ?_
    refine lv_aload_n hx hb dX1_write_54 rfl (lv_at hl 0 rfl) ?_
    refine va_get (D := gD g) (ci := 3) (v := .int (nI (S.n + 1))) (C := RX1) (T := TX1) (N := 9) hx hb hts (by decide +kernel) hown hK.1 hP 0 rfl rfl 7 (by decide) (hts (.fieldLink RX1 35 "LogForward$Rows" "latest" "I") (by decide +kernel)) (fun _ h9 => h9) rfl dX1_write_55 ?_
    refine lv_lload hx hb dX1_write_58 (lv_at hl 4 rfl) ?_
    refine ga_last (j := S.n + 1) hx hb hK.1 hP hD hS 4 1 rfl rfl (v_nI (by omega) (by omega)) (c_nI (by omega)) dX1_write_60 (fun H locs hP hD hS => ?_)
    have hP : va_P (gD g) vwCl ([((a 0), .inr (3, [.ref (a 1), .ref (a 2), .ref (a 3), .ref (a 4), .ref (a 5), .ref (a 6), .ref (a 7), .int (nI (S.n + 1)), .int (nI (S.ar))])), ((a 1), .inl (gI g, 2001, .inl (upd S.kd (S.n + 1) p1))), ((a 2), .inl (gI g, 2001, .inl (upd S.un (S.n + 1) p2))), ((a 3), .inl (gI g, 2001, .inl (upd S.ce (S.n + 1) p3))), ((a 4), .inl (gJ g, 2001, .inr (.inl (vp_updL S.bf (S.n + 1) p4)))), ((a 5), .inl (gJ g, 2001, .inr (.inl S.af))), ((a 6), .inl (gI g, 2001, .inl S.tn)), ((a 7), .inl (gZ g, 2001, .inl S.bk))]) H := hP
    have hD : va_D A ([((a 0), .inr (3, [.ref (a 1), .ref (a 2), .ref (a 3), .ref (a 4), .ref (a 5), .ref (a 6), .ref (a 7), .int (nI (S.n + 1)), .int (nI (S.ar))])), ((a 1), .inl (gI g, 2001, .inl (upd S.kd (S.n + 1) p1))), ((a 2), .inl (gI g, 2001, .inl (upd S.un (S.n + 1) p2))), ((a 3), .inl (gI g, 2001, .inl (upd S.ce (S.n + 1) p3))), ((a 4), .inl (gJ g, 2001, .inr (.inl (vp_updL S.bf (S.n + 1) p4)))), ((a 5), .inl (gJ g, 2001, .inr (.inl S.af))), ((a 6), .inl (gI g, 2001, .inl S.tn)), ((a 7), .inl (gZ g, 2001, .inl S.bk))]) := hD
    refine lv_aload_n hx hb dX1_write_61 rfl (lv_at hl 0 rfl) ?_
    refine va_get (D := gD g) (ci := 3) (v := .ref (a 5)) (C := RX1) (T := TX1) (N := 9) hx hb hts (by decide +kernel) hown hK.1 hP 0 rfl rfl 4 (by decide) (hts (.fieldLink RX1 25 "LogForward$Rows" "after" "[J") (by decide +kernel)) (fun _ h9 => h9) rfl dX1_write_62 ?_
    refine lv_aload_n hx hb dX1_write_65 rfl (lv_at hl 0 rfl) ?_
    refine va_get (D := gD g) (ci := 3) (v := .int (nI (S.n + 1))) (C := RX1) (T := TX1) (N := 9) hx hb hts (by decide +kernel) hown hK.1 hP 0 rfl rfl 7 (by decide) (hts (.fieldLink RX1 35 "LogForward$Rows" "latest" "I") (by decide +kernel)) (fun _ h9 => h9) rfl dX1_write_66 ?_
    refine lv_lload hx hb dX1_write_69 (lv_at hl 5 rfl) ?_
    refine ga_last (j := S.n + 1) hx hb hK.1 hP hD hS 5 1 rfl rfl (v_nI (by omega) (by omega)) (c_nI (by omega)) dX1_write_71 (fun H locs hP hD hS => ?_)
    have hP : va_P (gD g) vwCl ([((a 0), .inr (3, [.ref (a 1), .ref (a 2), .ref (a 3), .ref (a 4), .ref (a 5), .ref (a 6), .ref (a 7), .int (nI (S.n + 1)), .int (nI (S.ar))])), ((a 1), .inl (gI g, 2001, .inl (upd S.kd (S.n + 1) p1))), ((a 2), .inl (gI g, 2001, .inl (upd S.un (S.n + 1) p2))), ((a 3), .inl (gI g, 2001, .inl (upd S.ce (S.n + 1) p3))), ((a 4), .inl (gJ g, 2001, .inr (.inl (vp_updL S.bf (S.n + 1) p4)))), ((a 5), .inl (gJ g, 2001, .inr (.inl (vp_updL S.af (S.n + 1) p6)))), ((a 6), .inl (gI g, 2001, .inl S.tn)), ((a 7), .inl (gZ g, 2001, .inl S.bk))]) H := hP
    have hD : va_D A ([((a 0), .inr (3, [.ref (a 1), .ref (a 2), .ref (a 3), .ref (a 4), .ref (a 5), .ref (a 6), .ref (a 7), .int (nI (S.n + 1)), .int (nI (S.ar))])), ((a 1), .inl (gI g, 2001, .inl (upd S.kd (S.n + 1) p1))), ((a 2), .inl (gI g, 2001, .inl (upd S.un (S.n + 1) p2))), ((a 3), .inl (gI g, 2001, .inl (upd S.ce (S.n + 1) p3))), ((a 4), .inl (gJ g, 2001, .inr (.inl (vp_updL S.bf (S.n + 1) p4)))), ((a 5), .inl (gJ g, 2001, .inr (.inl (vp_updL S.af (S.n + 1) p6)))), ((a 6), .inl (gI g, 2001, .inl S.tn)), ((a 7), .inl (gZ g, 2001, .inl S.bk))]) := hD
    refine lv_aload_n hx hb dX1_write_72 rfl (lv_at hl 0 rfl) ?_
    refine va_get (D := gD g) (ci := 3) (v := .ref (a 7)) (C := RX1) (T := TX1) (N := 9) hx hb hts (by decide +kernel) hown hK.1 hP 0 rfl rfl 6 (by decide) (hts (.fieldLink RX1 31 "LogForward$Rows" "backingOut" "[Z") (by decide +kernel)) (fun _ h9 => h9) rfl dX1_write_73 ?_
    refine lv_aload_n hx hb dX1_write_76 rfl (lv_at hl 0 rfl) ?_
    refine va_get (D := gD g) (ci := 3) (v := .int (nI (S.n + 1))) (C := RX1) (T := TX1) (N := 9) hx hb hts (by decide +kernel) hown hK.1 hP 0 rfl rfl 7 (by decide) (hts (.fieldLink RX1 35 "LogForward$Rows" "latest" "I") (by decide +kernel)) (fun _ h9 => h9) rfl dX1_write_77 ?_
    refine lv_iload hx hb dX1_write_80 (lv_at hl 6 rfl) ?_
    refine ga_zast (j := S.n + 1) hx hb hK.1 hP hD hS 7 2 rfl rfl (v_nI (by omega) (by omega)) (c_nI (by omega)) hz dX1_write_82 (fun H locs hP hD hS => ?_)
    have hP : va_P (gD g) vwCl ([((a 0), .inr (3, [.ref (a 1), .ref (a 2), .ref (a 3), .ref (a 4), .ref (a 5), .ref (a 6), .ref (a 7), .int (nI (S.n + 1)), .int (nI (S.ar))])), ((a 1), .inl (gI g, 2001, .inl (upd S.kd (S.n + 1) p1))), ((a 2), .inl (gI g, 2001, .inl (upd S.un (S.n + 1) p2))), ((a 3), .inl (gI g, 2001, .inl (upd S.ce (S.n + 1) p3))), ((a 4), .inl (gJ g, 2001, .inr (.inl (vp_updL S.bf (S.n + 1) p4)))), ((a 5), .inl (gJ g, 2001, .inr (.inl (vp_updL S.af (S.n + 1) p6)))), ((a 6), .inl (gI g, 2001, .inl S.tn)), ((a 7), .inl (gZ g, 2001, .inl (upd S.bk (S.n + 1) z)))]) H := hP
    have hD : va_D A ([((a 0), .inr (3, [.ref (a 1), .ref (a 2), .ref (a 3), .ref (a 4), .ref (a 5), .ref (a 6), .ref (a 7), .int (nI (S.n + 1)), .int (nI (S.ar))])), ((a 1), .inl (gI g, 2001, .inl (upd S.kd (S.n + 1) p1))), ((a 2), .inl (gI g, 2001, .inl (upd S.un (S.n + 1) p2))), ((a 3), .inl (gI g, 2001, .inl (upd S.ce (S.n + 1) p3))), ((a 4), .inl (gJ g, 2001, .inr (.inl (vp_updL S.bf (S.n + 1) p4)))), ((a 5), .inl (gJ g, 2001, .inr (.inl (vp_updL S.af (S.n + 1) p6)))), ((a 6), .inl (gI g, 2001, .inl S.tn)), ((a 7), .inl (gZ g, 2001, .inl (upd S.bk (S.n + 1) z)))]) := hD
    refine lv_aload_n hx hb dX1_write_83 rfl (lv_at hl 0 rfl) ?_
    refine va_get (D := gD g) (ci := 3) (v := .ref (a 6)) (C := RX1) (T := TX1) (N := 9) hx hb hts (by decide +kernel) hown hK.1 hP 0 rfl rfl 5 (by decide) (hts (.fieldLink RX1 28 "LogForward$Rows" "tornCopies" "[I") (by decide +kernel)) (fun _ h9 => h9) rfl dX1_write_84 ?_
    refine lv_aload_n hx hb dX1_write_87 rfl (lv_at hl 0 rfl) ?_
    refine va_get (D := gD g) (ci := 3) (v := .int (nI (S.n + 1))) (C := RX1) (T := TX1) (N := 9) hx hb hts (by decide +kernel) hown hK.1 hP 0 rfl rfl 7 (by decide) (hts (.fieldLink RX1 35 "LogForward$Rows" "latest" "I") (by decide +kernel)) (fun _ h9 => h9) rfl dX1_write_88 ?_
    refine lv_iconst (v := 0) hx hb dX1_write_91 (by decide) ?_
    refine ga_iast (j := S.n + 1) hx hb hK.1 hP hD hS 6 0 rfl rfl (v_nI (by omega) (by omega)) (c_nI (by omega)) dX1_write_92 (fun H locs hP hD hS => ?_)
    have hP : va_P (gD g) vwCl ([((a 0), .inr (3, [.ref (a 1), .ref (a 2), .ref (a 3), .ref (a 4), .ref (a 5), .ref (a 6), .ref (a 7), .int (nI (S.n + 1)), .int (nI (S.ar))])), ((a 1), .inl (gI g, 2001, .inl (upd S.kd (S.n + 1) p1))), ((a 2), .inl (gI g, 2001, .inl (upd S.un (S.n + 1) p2))), ((a 3), .inl (gI g, 2001, .inl (upd S.ce (S.n + 1) p3))), ((a 4), .inl (gJ g, 2001, .inr (.inl (vp_updL S.bf (S.n + 1) p4)))), ((a 5), .inl (gJ g, 2001, .inr (.inl (vp_updL S.af (S.n + 1) p6)))), ((a 6), .inl (gI g, 2001, .inl (upd S.tn (S.n + 1) 0))), ((a 7), .inl (gZ g, 2001, .inl (upd S.bk (S.n + 1) z)))]) H := hP
    have hD : va_D A ([((a 0), .inr (3, [.ref (a 1), .ref (a 2), .ref (a 3), .ref (a 4), .ref (a 5), .ref (a 6), .ref (a 7), .int (nI (S.n + 1)), .int (nI (S.ar))])), ((a 1), .inl (gI g, 2001, .inl (upd S.kd (S.n + 1) p1))), ((a 2), .inl (gI g, 2001, .inl (upd S.un (S.n + 1) p2))), ((a 3), .inl (gI g, 2001, .inl (upd S.ce (S.n + 1) p3))), ((a 4), .inl (gJ g, 2001, .inr (.inl (vp_updL S.bf (S.n + 1) p4)))), ((a 5), .inl (gJ g, 2001, .inr (.inl (vp_updL S.af (S.n + 1) p6)))), ((a 6), .inl (gI g, 2001, .inl (upd S.tn (S.n + 1) 0))), ((a 7), .inl (gZ g, 2001, .inl (upd S.bk (S.n + 1) z)))]) := hD
    refine lv_aload_n hx hb dX1_write_93 rfl (lv_at hl 0 rfl) ?_
    refine va_get (D := gD g) (ci := 3) (v := .int (nI (S.n + 1))) (C := RX1) (T := TX1) (N := 9) hx hb hts (by decide +kernel) hown hK.1 hP 0 rfl rfl 7 (by decide) (hts (.fieldLink RX1 35 "LogForward$Rows" "latest" "I") (by decide +kernel)) (fun _ h9 => h9) rfl dX1_write_94 ?_
    have hP9 : va_P (gD g) vwCl (wR g a ((upd S.kd (S.n + 1) p1), (upd S.un (S.n + 1) p2), (upd S.ce (S.n + 1) p3), (vp_updL S.bf (S.n + 1) p4), (vp_updL S.af (S.n + 1) p6), (upd S.tn (S.n + 1) 0), (upd S.bk (S.n + 1) z), S.n + 1, S.ar)) H := hP
    have hD9 : va_D A (wR g a ((upd S.kd (S.n + 1) p1), (upd S.un (S.n + 1) p2), (upd S.ce (S.n + 1) p3), (vp_updL S.bf (S.n + 1) p4), (vp_updL S.af (S.n + 1) p6), (upd S.tn (S.n + 1) 0), (upd S.bk (S.n + 1) z), S.n + 1, S.ar)) := hD
    exact W.iret (v := (nI (S.n + 1))) hx hb hr (fun t ht hW => ⟨⟨(nI (S.n + 1)), ((upd S.kd (S.n + 1) p1), (upd S.un (S.n + 1) p2), (upd S.ce (S.n + 1) p3), (vp_updL S.bf (S.n + 1) p4), (vp_updL S.af (S.n + 1) p6), (upd S.tn (S.n + 1) 0), (upd S.bk (S.n + 1) z), S.n + 1, S.ar), rfl, ⟨rfl, rfl⟩, by rw [ht]; exact hP9, hD9⟩, hS.F ht⟩) hS.2.2 dX1_write_97
  · have b_5 : ¬ ((1) + S.n ≤ 2000) := bI_f h_2_1 c_5_1
    exact absurd b_5 (by omega)
set_option maxHeartbeats 1000000 in
set_option maxRecDepth 100000 in
theorem c_X1_putAway (l : Launch) (g : GG) (a : Nat → Nat) (S : RS) (sz : Nat) (k : Nat) (hk : k ≤ 2000) (ha : S.ar ≤ 2000) : Met l yX1_putAway wsX1_putAway { frames := 1, cells := 0, slots := 0, locals := 21 } (va_Pc [.ref (a 0), .int (nI (k))] (Pw g (wR g a S) sz)) (va_Qv (fun u => u = rsP S k) (Bw g (va_A (wR g a S) sz) (wR g a)) (va_A (wR g a S) sz)) 0 0 (va_A (wR g a S) sz) := by
  refine Met.ofW (cc := cX1_putAway) (maxL := 2) (ret := none) (by decide) rfl ?_
  intro p e s m args below meth c s₁ B hml hv
  obtain ⟨rfl, hsz, hP, hK, hD0⟩ := hv
  have hx := B.exec
  have hb := B.bytes
  have hr := B.returns
  have hts := atoms_spec (ws := wsX1_putAway) B.pre
  have hown : s.vm.findClass RX1 = some m.cls := findClass_of_methodNamed B.named
  have hlocks := B.notSynchronized
  subst hsz
  have hD := hD0.self (sz := s.heap.size)
  generalize hAe : va_A (wR g a S) s.heap.size = A at hD ⊢
  have hA : ∀ q : Nat, s.heap.size ≤ q → A q := fun q h => by rw [← hAe]; exact Or.inr h
  have hS : va_S A s.heap s.heap [] := va_S.rf
  have hl := lv_entry ([.ref (a 0), .int (nI (k))]) (n := 2) (Nat.le_of_ble_eq_true rfl)
  rw [lg_entry_eq]
  generalize (lg_sl ([.ref (a 0), .int (nI (k))]) ++ List.replicate (2 - (lg_sl ([.ref (a 0), .int (nI (k))])).length) Slot.unset).toArray = ls at hl ⊢
  have hl : lv_has ls 2 [(0, .ref (a 0)), (1, .int (nI (k)))] := hl
  refine lv_aload_n hx hb dX1_putAway_0 rfl (lv_at hl 0 rfl) ?_
  refine lv_aload_n hx hb dX1_putAway_1 rfl (lv_at hl 0 rfl) ?_
  refine va_get (D := gD g) (ci := 3) (v := .int (nI (S.ar))) (C := RX1) (T := TX1) (N := 9) hx hb hts (by decide +kernel) hown hK.1 hP 0 rfl rfl 8 (by decide) (hts (.fieldLink RX1 39 "LogForward$Rows" "archived" "I") (by decide +kernel)) (fun _ h9 => h9) rfl dX1_putAway_2 ?_
  refine lv_iload_n hx hb dX1_putAway_5 rfl (lv_at hl 1 rfl) ?_
  refine ga_mmax (v := (nI (max (S.ar) (k)))) hx hb (hml.trans hl.1.symm) hown (hts (.methodLink RX1 49 Lib.Math.max.name) (by decide +kernel)) (hts (.static Lib.Math.max.name) (by decide +kernel)) (hts (.initialized "java/lang/Math") (by decide +kernel)) (hts (.code Lib.Math.max.name Lib.Math.max.code 2 (some .int)) (by decide +kernel)) (Nat.le_of_ble_eq_true rfl) (Nat.le_of_ble_eq_true rfl) (Nat.zero_le _) (Nat.zero_le _) (mx_nI (by omega) (by omega)) dX1_putAway_6 ?_
  refine va_put (D := gD g) (ci := 3) (v := .int (nI (max (S.ar) (k)))) (ty := .int) (C := RX1) (T := TX1) (N := 9) hx hb hts (by decide +kernel) tyX1 tyX1_ok nmX1 hown hK.1 hP hD hS 0 rfl rfl 8 (by decide) (hts (.fieldLink RX1 39 "LogForward$Rows" "archived" "I") (by decide +kernel)) (fun _ h9 => h9) rfl (by decide +kernel) rfl rfl (Nat.le_of_ble_eq_true rfl) dX1_putAway_9 (fun H locs hP hD hS => ?_)
  have hP : va_P (gD g) vwCl ([((a 0), .inr (3, [.ref (a 1), .ref (a 2), .ref (a 3), .ref (a 4), .ref (a 5), .ref (a 6), .ref (a 7), .int (nI (S.n)), .int (nI (max (S.ar) (k)))])), ((a 1), .inl (gI g, 2001, .inl S.kd)), ((a 2), .inl (gI g, 2001, .inl S.un)), ((a 3), .inl (gI g, 2001, .inl S.ce)), ((a 4), .inl (gJ g, 2001, .inr (.inl S.bf))), ((a 5), .inl (gJ g, 2001, .inr (.inl S.af))), ((a 6), .inl (gI g, 2001, .inl S.tn)), ((a 7), .inl (gZ g, 2001, .inl S.bk))]) H := hP
  have hD : va_D A ([((a 0), .inr (3, [.ref (a 1), .ref (a 2), .ref (a 3), .ref (a 4), .ref (a 5), .ref (a 6), .ref (a 7), .int (nI (S.n)), .int (nI (max (S.ar) (k)))])), ((a 1), .inl (gI g, 2001, .inl S.kd)), ((a 2), .inl (gI g, 2001, .inl S.un)), ((a 3), .inl (gI g, 2001, .inl S.ce)), ((a 4), .inl (gJ g, 2001, .inr (.inl S.bf))), ((a 5), .inl (gJ g, 2001, .inr (.inl S.af))), ((a 6), .inl (gI g, 2001, .inl S.tn)), ((a 7), .inl (gZ g, 2001, .inl S.bk))]) := hD
  have hP9 : va_P (gD g) vwCl (wR g a (S.kd, S.un, S.ce, S.bf, S.af, S.tn, S.bk, S.n, max (S.ar) (k))) H := hP
  have hD9 : va_D A (wR g a (S.kd, S.un, S.ce, S.bf, S.af, S.tn, S.bk, S.n, max (S.ar) (k))) := hD
  exact W.vret hx hb hr (fun t ht hW => ⟨⟨(S.kd, S.un, S.ce, S.bf, S.af, S.tn, S.bk, S.n, max (S.ar) (k)), rfl, rfl, by rw [ht]; exact hP9, hD9⟩, hS.F ht⟩) hS.2.2 dX1_putAway_12
set_option maxHeartbeats 1000000 in
set_option maxRecDepth 100000 in
theorem c_X1_dropBehind (l : Launch) (g : GG) (a : Nat → Nat) (S : RS) (sz : Nat) (k : Nat) (hk : k ≤ 2000) (hn : S.n ≤ 2000) (ha : S.ar ≤ 2000) : Met l yX1_dropBehind wsX1_dropBehind { frames := 1, cells := 0, slots := 0, locals := 21 } (va_Pc [.ref (a 0), .int (nI (k))] (Pw g (wR g a S) sz)) (va_Qv (fun u => u = rsD S k) (Bw g (va_A (wR g a S) sz) (wR g a)) (va_A (wR g a S) sz)) 0 0 (va_A (wR g a S) sz) := by
  refine Met.ofW (cc := cX1_dropBehind) (maxL := 2) (ret := none) (by decide) rfl ?_
  intro p e s m args below meth c s₁ B hml hv
  obtain ⟨rfl, hsz, hP, hK, hD0⟩ := hv
  have hx := B.exec
  have hb := B.bytes
  have hr := B.returns
  have hts := atoms_spec (ws := wsX1_dropBehind) B.pre
  have hown : s.vm.findClass RX1 = some m.cls := findClass_of_methodNamed B.named
  have hlocks := B.notSynchronized
  subst hsz
  have hD := hD0.self (sz := s.heap.size)
  generalize hAe : va_A (wR g a S) s.heap.size = A at hD ⊢
  have hA : ∀ q : Nat, s.heap.size ≤ q → A q := fun q h => by rw [← hAe]; exact Or.inr h
  have hS : va_S A s.heap s.heap [] := va_S.rf
  have hl := lv_entry ([.ref (a 0), .int (nI (k))]) (n := 2) (Nat.le_of_ble_eq_true rfl)
  rw [lg_entry_eq]
  generalize (lg_sl ([.ref (a 0), .int (nI (k))]) ++ List.replicate (2 - (lg_sl ([.ref (a 0), .int (nI (k))])).length) Slot.unset).toArray = ls at hl ⊢
  have hl : lv_has ls 2 [(0, .ref (a 0)), (1, .int (nI (k)))] := hl
  refine lv_aload_n hx hb dX1_dropBehind_0 rfl (lv_at hl 0 rfl) ?_
  refine lv_aload_n hx hb dX1_dropBehind_1 rfl (lv_at hl 0 rfl) ?_
  refine va_get (D := gD g) (ci := 3) (v := .int (nI (S.n))) (C := RX1) (T := TX1) (N := 9) hx hb hts (by decide +kernel) hown hK.1 hP 0 rfl rfl 7 (by decide) (hts (.fieldLink RX1 35 "LogForward$Rows" "latest" "I") (by decide +kernel)) (fun _ h9 => h9) rfl dX1_dropBehind_2 ?_
  refine lv_iload_n hx hb dX1_dropBehind_5 rfl (lv_at hl 1 rfl) ?_
  refine ga_mmin (v := (nI (min (S.n) (k)))) hx hb (hml.trans hl.1.symm) hown (hts (.methodLink RX1 55 Lib.Math.min.name) (by decide +kernel)) (hts (.static Lib.Math.min.name) (by decide +kernel)) (hts (.initialized "java/lang/Math") (by decide +kernel)) (hts (.code Lib.Math.min.name Lib.Math.min.code 2 (some .int)) (by decide +kernel)) (Nat.le_of_ble_eq_true rfl) (Nat.le_of_ble_eq_true rfl) (Nat.zero_le _) (Nat.zero_le _) (mn_nI (by omega) (by omega)) dX1_dropBehind_6 ?_
  refine va_put (D := gD g) (ci := 3) (v := .int (nI (min (S.n) (k)))) (ty := .int) (C := RX1) (T := TX1) (N := 9) hx hb hts (by decide +kernel) tyX1 tyX1_ok nmX1 hown hK.1 hP hD hS 0 rfl rfl 7 (by decide) (hts (.fieldLink RX1 35 "LogForward$Rows" "latest" "I") (by decide +kernel)) (fun _ h9 => h9) rfl (by decide +kernel) rfl rfl (Nat.le_of_ble_eq_true rfl) dX1_dropBehind_9 (fun H locs hP hD hS => ?_)
  have hP : va_P (gD g) vwCl ([((a 0), .inr (3, [.ref (a 1), .ref (a 2), .ref (a 3), .ref (a 4), .ref (a 5), .ref (a 6), .ref (a 7), .int (nI (min (S.n) (k))), .int (nI (S.ar))])), ((a 1), .inl (gI g, 2001, .inl S.kd)), ((a 2), .inl (gI g, 2001, .inl S.un)), ((a 3), .inl (gI g, 2001, .inl S.ce)), ((a 4), .inl (gJ g, 2001, .inr (.inl S.bf))), ((a 5), .inl (gJ g, 2001, .inr (.inl S.af))), ((a 6), .inl (gI g, 2001, .inl S.tn)), ((a 7), .inl (gZ g, 2001, .inl S.bk))]) H := hP
  have hD : va_D A ([((a 0), .inr (3, [.ref (a 1), .ref (a 2), .ref (a 3), .ref (a 4), .ref (a 5), .ref (a 6), .ref (a 7), .int (nI (min (S.n) (k))), .int (nI (S.ar))])), ((a 1), .inl (gI g, 2001, .inl S.kd)), ((a 2), .inl (gI g, 2001, .inl S.un)), ((a 3), .inl (gI g, 2001, .inl S.ce)), ((a 4), .inl (gJ g, 2001, .inr (.inl S.bf))), ((a 5), .inl (gJ g, 2001, .inr (.inl S.af))), ((a 6), .inl (gI g, 2001, .inl S.tn)), ((a 7), .inl (gZ g, 2001, .inl S.bk))]) := hD
  refine lv_aload_n hx hb dX1_dropBehind_12 rfl (lv_at hl 0 rfl) ?_
  refine lv_aload_n hx hb dX1_dropBehind_13 rfl (lv_at hl 0 rfl) ?_
  refine va_get (D := gD g) (ci := 3) (v := .int (nI (S.ar))) (C := RX1) (T := TX1) (N := 9) hx hb hts (by decide +kernel) hown hK.1 hP 0 rfl rfl 8 (by decide) (hts (.fieldLink RX1 39 "LogForward$Rows" "archived" "I") (by decide +kernel)) (fun _ h9 => h9) rfl dX1_dropBehind_14 ?_
  refine lv_iload_n hx hb dX1_dropBehind_17 rfl (lv_at hl 1 rfl) ?_
  refine ga_mmin (v := (nI (min (S.ar) (k)))) hx hb (hml.trans hl.1.symm) hown (hts (.methodLink RX1 55 Lib.Math.min.name) (by decide +kernel)) (hts (.static Lib.Math.min.name) (by decide +kernel)) (hts (.initialized "java/lang/Math") (by decide +kernel)) (hts (.code Lib.Math.min.name Lib.Math.min.code 2 (some .int)) (by decide +kernel)) (Nat.le_of_ble_eq_true rfl) (Nat.le_of_ble_eq_true rfl) (Nat.zero_le _) (Nat.zero_le _) (mn_nI (by omega) (by omega)) dX1_dropBehind_18 ?_
  refine va_put (D := gD g) (ci := 3) (v := .int (nI (min (S.ar) (k)))) (ty := .int) (C := RX1) (T := TX1) (N := 9) hx hb hts (by decide +kernel) tyX1 tyX1_ok nmX1 hown hK.1 hP hD hS 0 rfl rfl 8 (by decide) (hts (.fieldLink RX1 39 "LogForward$Rows" "archived" "I") (by decide +kernel)) (fun _ h9 => h9) rfl (by decide +kernel) rfl rfl (Nat.le_of_ble_eq_true rfl) dX1_dropBehind_21 (fun H locs hP hD hS => ?_)
  have hP : va_P (gD g) vwCl ([((a 0), .inr (3, [.ref (a 1), .ref (a 2), .ref (a 3), .ref (a 4), .ref (a 5), .ref (a 6), .ref (a 7), .int (nI (min (S.n) (k))), .int (nI (min (S.ar) (k)))])), ((a 1), .inl (gI g, 2001, .inl S.kd)), ((a 2), .inl (gI g, 2001, .inl S.un)), ((a 3), .inl (gI g, 2001, .inl S.ce)), ((a 4), .inl (gJ g, 2001, .inr (.inl S.bf))), ((a 5), .inl (gJ g, 2001, .inr (.inl S.af))), ((a 6), .inl (gI g, 2001, .inl S.tn)), ((a 7), .inl (gZ g, 2001, .inl S.bk))]) H := hP
  have hD : va_D A ([((a 0), .inr (3, [.ref (a 1), .ref (a 2), .ref (a 3), .ref (a 4), .ref (a 5), .ref (a 6), .ref (a 7), .int (nI (min (S.n) (k))), .int (nI (min (S.ar) (k)))])), ((a 1), .inl (gI g, 2001, .inl S.kd)), ((a 2), .inl (gI g, 2001, .inl S.un)), ((a 3), .inl (gI g, 2001, .inl S.ce)), ((a 4), .inl (gJ g, 2001, .inr (.inl S.bf))), ((a 5), .inl (gJ g, 2001, .inr (.inl S.af))), ((a 6), .inl (gI g, 2001, .inl S.tn)), ((a 7), .inl (gZ g, 2001, .inl S.bk))]) := hD
  have hP9 : va_P (gD g) vwCl (wR g a (S.kd, S.un, S.ce, S.bf, S.af, S.tn, S.bk, min (S.n) (k), min (S.ar) (k))) H := hP
  have hD9 : va_D A (wR g a (S.kd, S.un, S.ce, S.bf, S.af, S.tn, S.bk, min (S.n) (k), min (S.ar) (k))) := hD
  exact W.vret hx hb hr (fun t ht hW => ⟨⟨(S.kd, S.un, S.ce, S.bf, S.af, S.tn, S.bk, min (S.n) (k), min (S.ar) (k)), rfl, rfl, by rw [ht]; exact hP9, hD9⟩, hS.F ht⟩) hS.2.2 dX1_dropBehind_24
set_option maxHeartbeats 1000000 in
set_option maxRecDepth 100000 in
theorem c_X1_tear (l : Launch) (g : GG) (a : Nat → Nat) (S : RS) (sz : Nat) (p1 : Int32) (r : Nat) (hr1 : 1 ≤ r) (hr2 : r ≤ S.n) (hn : S.n ≤ 2000) : Met l yX1_tear wsX1_tear { frames := 1, cells := 0, slots := 0, locals := 21 } (va_Pc [.ref (a 0), .int p1, .int (nI (r))] (Pw g (wR g a S) sz)) (va_Qi (fun rv u => (rv = 0 ∧ u = S ∧ ¬ S.tn r >>> (p1 &&& 31) &&& 1 = 0) ∨ (rv = 1 ∧ u = rsT S r (S.tn r ||| 1 <<< (p1 &&& 31)) ∧ S.tn r >>> (p1 &&& 31) &&& 1 = 0)) (Bw g (va_A (wR g a S) sz) (wR g a)) (va_A (wR g a S) sz)) 0 0 (va_A (wR g a S) sz) := by
  refine Met.ofW (cc := cX1_tear) (maxL := 3) (ret := (some .boolean)) (by decide) rfl ?_
  intro p e s m args below meth c s₁ B hml hv
  obtain ⟨rfl, hsz, hP, hK, hD0⟩ := hv
  have hx := B.exec
  have hb := B.bytes
  have hr := B.returns
  have hts := atoms_spec (ws := wsX1_tear) B.pre
  have hown : s.vm.findClass RX1 = some m.cls := findClass_of_methodNamed B.named
  have hlocks := B.notSynchronized
  subst hsz
  have hD := hD0.self (sz := s.heap.size)
  generalize hAe : va_A (wR g a S) s.heap.size = A at hD ⊢
  have hA : ∀ q : Nat, s.heap.size ≤ q → A q := fun q h => by rw [← hAe]; exact Or.inr h
  have hS : va_S A s.heap s.heap [] := va_S.rf
  have hl := lv_entry ([.ref (a 0), .int p1, .int (nI (r))]) (n := 3) (Nat.le_of_ble_eq_true rfl)
  rw [lg_entry_eq]
  generalize (lg_sl ([.ref (a 0), .int p1, .int (nI (r))]) ++ List.replicate (3 - (lg_sl ([.ref (a 0), .int p1, .int (nI (r))])).length) Slot.unset).toArray = ls at hl ⊢
  have hl : lv_has ls 3 [(0, .ref (a 0)), (1, .int p1), (2, .int (nI (r)))] := hl
  refine lv_aload_n hx hb dX1_tear_0 rfl (lv_at hl 0 rfl) ?_
  refine lv_iload_n hx hb dX1_tear_1 rfl (lv_at hl 2 rfl) ?_
  refine vp_callSi (va_Run.run (va_runV (As := [.int (nI (r))]) (rest := []) ⟨hx, hb, hml, hown, hts⟩ (c_X1_has_n l g a S (r) (by omega) (by omega) (by omega)) (cwV 1 hts gX1_tear_X1_has rfl rfl rfl (by decide +kernel) ⟨Nat.le_of_ble_eq_true rfl, Nat.le_of_ble_eq_true rfl⟩) (pv_r hK hP (ci := 3) (q0 := 0) rfl rfl [0, 1, 2, 3, 4, 5, 6, 7] rfl) rfl rfl hl.1 rfl (lv_room (Nat.le_of_ble_eq_true rfl)) dX1_tear_2 ⟨Nat.zero_le _, Nat.zero_le _⟩)) (fun r_2_1 h_2_1 => ?_)
  subst h_2_1
  refine lv_if_eq (tgt := 21) hx hb dX1_tear_5 (by decide) (fun c_5_1 => ?_) (fun c_5_1 => ?_)
  · exact absurd c_5_1 (by decide)
  · skip
    refine lv_aload_n hx hb dX1_tear_8 rfl (lv_at hl 0 rfl) ?_
    refine va_get (D := gD g) (ci := 3) (v := .ref (a 6)) (C := RX1) (T := TX1) (N := 9) hx hb hts (by decide +kernel) hown hK.1 hP 0 rfl rfl 5 (by decide) (hts (.fieldLink RX1 28 "LogForward$Rows" "tornCopies" "[I") (by decide +kernel)) (fun _ h9 => h9) rfl dX1_tear_9 ?_
    refine lv_iload_n hx hb dX1_tear_12 rfl (lv_at hl 2 rfl) ?_
    refine ga_iald (v := (S.tn r)) hx hb hK.1 hP 6 0 rfl rfl (v_nI (by omega) (by omega)) (by rw [(c_nI (by omega))]) dX1_tear_13 ?_
    refine lv_iload_n hx hb dX1_tear_14 rfl (lv_at hl 1 rfl) ?_
    refine lv_ishr hx hb dX1_tear_15 ?_
    refine lv_iconst (v := 1) hx hb dX1_tear_16 (by decide) ?_
    refine lv_iand hx hb dX1_tear_17 ?_
    refine lv_if_eq (tgt := 23) hx hb dX1_tear_18 (by decide) (fun c_18_2 => ?_) (fun c_18_2 => ?_)
    · have i_18 : ((((S.tn r) >>> (p1 &&& 31)) &&& 1).toInt : Int) = 0 := q_eq c_18_2 rfl rfl
      refine lv_aload_n hx hb dX1_tear_23 rfl (lv_at hl 0 rfl) ?_
      refine va_get (D := gD g) (ci := 3) (v := .ref (a 6)) (C := RX1) (T := TX1) (N := 9) hx hb hts (by decide +kernel) hown hK.1 hP 0 rfl rfl 5 (by decide) (hts (.fieldLink RX1 28 "LogForward$Rows" "tornCopies" "[I") (by decide +kernel)) (fun _ h9 => h9) rfl dX1_tear_24 ?_
      refine lv_iload_n hx hb dX1_tear_27 rfl (lv_at hl 2 rfl) ?_
      refine lv_dup2_11 hx hb dX1_tear_28 rfl rfl ?_
      refine ga_iald (v := (S.tn r)) hx hb hK.1 hP 6 0 rfl rfl (v_nI (by omega) (by omega)) (by rw [(c_nI (by omega))]) dX1_tear_29 ?_
      refine lv_iconst (v := 1) hx hb dX1_tear_30 (by decide) ?_
      refine lv_iload_n hx hb dX1_tear_31 rfl (lv_at hl 1 rfl) ?_
      refine lv_ishl hx hb dX1_tear_32 ?_
      refine lv_ior hx hb dX1_tear_33 ?_
      refine ga_iast (j := r) hx hb hK.1 hP hD hS 6 0 rfl rfl (v_nI (by omega) (by omega)) (c_nI (by omega)) dX1_tear_34 (fun H locs hP hD hS => ?_)
      have hP : va_P (gD g) vwCl ([((a 0), .inr (3, [.ref (a 1), .ref (a 2), .ref (a 3), .ref (a 4), .ref (a 5), .ref (a 6), .ref (a 7), .int (nI (S.n)), .int (nI (S.ar))])), ((a 1), .inl (gI g, 2001, .inl S.kd)), ((a 2), .inl (gI g, 2001, .inl S.un)), ((a 3), .inl (gI g, 2001, .inl S.ce)), ((a 4), .inl (gJ g, 2001, .inr (.inl S.bf))), ((a 5), .inl (gJ g, 2001, .inr (.inl S.af))), ((a 6), .inl (gI g, 2001, .inl (upd S.tn (r) ((S.tn r) ||| (1 <<< (p1 &&& 31)))))), ((a 7), .inl (gZ g, 2001, .inl S.bk))]) H := hP
      have hD : va_D A ([((a 0), .inr (3, [.ref (a 1), .ref (a 2), .ref (a 3), .ref (a 4), .ref (a 5), .ref (a 6), .ref (a 7), .int (nI (S.n)), .int (nI (S.ar))])), ((a 1), .inl (gI g, 2001, .inl S.kd)), ((a 2), .inl (gI g, 2001, .inl S.un)), ((a 3), .inl (gI g, 2001, .inl S.ce)), ((a 4), .inl (gJ g, 2001, .inr (.inl S.bf))), ((a 5), .inl (gJ g, 2001, .inr (.inl S.af))), ((a 6), .inl (gI g, 2001, .inl (upd S.tn (r) ((S.tn r) ||| (1 <<< (p1 &&& 31)))))), ((a 7), .inl (gZ g, 2001, .inl S.bk))]) := hD
      refine lv_iconst (v := 1) hx hb dX1_tear_35 (by decide) ?_
      have hP9 : va_P (gD g) vwCl (wR g a (S.kd, S.un, S.ce, S.bf, S.af, (upd S.tn (r) ((S.tn r) ||| (1 <<< (p1 &&& 31)))), S.bk, S.n, S.ar)) H := hP
      have hD9 : va_D A (wR g a (S.kd, S.un, S.ce, S.bf, S.af, (upd S.tn (r) ((S.tn r) ||| (1 <<< (p1 &&& 31)))), S.bk, S.n, S.ar)) := hD
      exact W.zret (v := 1) hx hb hr rfl (fun t ht hW => ⟨⟨1, (S.kd, S.un, S.ce, S.bf, S.af, (upd S.tn (r) ((S.tn r) ||| (1 <<< (p1 &&& 31)))), S.bk, S.n, S.ar), rfl, Or.inr ⟨rfl, rfl, c_18_2⟩, by rw [ht]; exact hP9, hD9⟩, hS.F ht⟩) hS.2.2 dX1_tear_36
    · have i_18 : ((((S.tn r) >>> (p1 &&& 31)) &&& 1).toInt : Int) ≠ 0 := q_ne c_18_2 rfl rfl
      refine lv_iconst (v := 0) hx hb dX1_tear_21 (by decide) ?_
      have hP9 : va_P (gD g) vwCl (wR g a S) s.heap := hP
      have hD9 : va_D A (wR g a S) := hD
      exact W.zret (v := 0) hx hb hr rfl (fun t ht hW => ⟨⟨0, S, rfl, Or.inl ⟨rfl, rfl, c_18_2⟩, by rw [ht]; exact hP9, hD9⟩, hS.F ht⟩) hS.2.2 dX1_tear_22
/-- what 'at' tells of a row -/
def teR (S : RS) (r w : Nat) : Int32 := match w with
  | 0 => S.kd r
  | 1 => S.un r
  | 2 => S.ce r
  | 3 => (S.bf r).toInt32
  | 4 => (S.af r).toInt32
  | 5 => S.tn r
  | _ => bI (¬ S.bk r = 0)
set_option maxHeartbeats 1000000 in
set_option maxRecDepth 100000 in
theorem c_X1_tell (l : Launch) (g : GG) (a : Nat → Nat) (S : RS) (r : Nat) (hr1 : 1 ≤ r) (hr2 : r ≤ S.n) (hn : S.n ≤ 2000) (w : Nat) (hw : w ≤ 6) : Met l yX1_tell wsX1_tell { frames := 1, cells := 0, slots := 0, locals := 21 } (va_Pc [.ref (a 0), .int (nI (r)), .int (nI (w))] (Pr g (wR g a S))) (vp_Si (fun rv => rv = teR S r w)) 0 0 (fun _ => False) := by
  refine Met.ofW (cc := cX1_tell) (maxL := 3) (ret := (some .int)) (by decide) rfl ?_
  intro p e s m args below meth c s₁ B hml hv
  obtain ⟨rfl, hP, hK⟩ := hv
  have hx := B.exec
  have hb := B.bytes
  have hr := B.returns
  have hts := atoms_spec (ws := wsX1_tell) B.pre
  have hown : s.vm.findClass RX1 = some m.cls := findClass_of_methodNamed B.named
  have hlocks := B.notSynchronized
  have hl := lv_entry ([.ref (a 0), .int (nI (r)), .int (nI (w))]) (n := 3) (Nat.le_of_ble_eq_true rfl)
  rw [lg_entry_eq]
  generalize (lg_sl ([.ref (a 0), .int (nI (r)), .int (nI (w))]) ++ List.replicate (3 - (lg_sl ([.ref (a 0), .int (nI (r)), .int (nI (w))])).length) Slot.unset).toArray = ls at hl ⊢
  have hl : lv_has ls 3 [(0, .ref (a 0)), (1, .int (nI (r))), (2, .int (nI (w)))] := hl
  refine lv_aload_n hx hb dX1_tell_0 rfl (lv_at hl 0 rfl) ?_
  refine lv_iload_n hx hb dX1_tell_1 rfl (lv_at hl 1 rfl) ?_
  refine vp_callSi (va_Run.run (va_runV (As := [.int (nI (r))]) (rest := []) ⟨hx, hb, hml, hown, hts⟩ (c_X1_has_n l g a S (r) (by omega) (by omega) (by omega)) (cwV 1 hts gX1_tell_X1_has rfl rfl rfl (by decide +kernel) ⟨Nat.le_of_ble_eq_true rfl, Nat.le_of_ble_eq_true rfl⟩) (pv_r hK hP (ci := 3) (q0 := 0) rfl rfl [0, 1, 2, 3, 4, 5, 6, 7] rfl) rfl rfl hl.1 rfl (lv_room (Nat.le_of_ble_eq_true rfl)) dX1_tell_2 ⟨Nat.zero_le _, Nat.zero_le _⟩)) (fun r_2_1 h_2_1 => ?_)
  subst h_2_1
  refine lv_if_ne (tgt := 10) hx hb dX1_tell_5 (by decide) (fun c_5_1 => ?_) (fun c_5_1 => ?_)
  · skip
    refine lv_iload_n hx hb dX1_tell_10 rfl (lv_at hl 2 rfl) ?_
    rcases (show w = 0 ∨ w = 1 ∨ w = 2 ∨ w = 3 ∨ w = 4 ∨ w = 5 ∨ w = 6 by omega) with rfl | rfl | rfl | rfl | rfl | rfl | rfl
    · refine lv_tableIn (tgt := 48) hx hb dX1_tell_11 (by decide) (by decide) rfl (by decide) ?_
      refine lv_aload_n hx hb dX1_tell_48 rfl (lv_at hl 0 rfl) ?_
      refine va_get (D := gD g) (ci := 3) (v := .ref (a 1)) (C := RX1) (T := TX1) (N := 9) hx hb hts (by decide +kernel) hown hK.1 hP 0 rfl rfl 0 (by decide) (hts (.fieldLink RX1 9 "LogForward$Rows" "kind" "[I") (by decide +kernel)) (fun _ h9 => h9) rfl dX1_tell_49 ?_
      refine lv_iload_n hx hb dX1_tell_52 rfl (lv_at hl 1 rfl) ?_
      refine ga_iald (v := (S.kd r)) hx hb hK.1 hP 1 0 rfl rfl (v_nI (by omega) (by omega)) (by rw [(c_nI (by omega))]) dX1_tell_53 ?_
      exact W.iret (v := (S.kd r)) hx hb hr (fun tz htz hWz => ⟨(S.kd r), rfl, rfl, htz⟩) (fun _ h => nomatch h) dX1_tell_54
    · refine lv_tableIn (tgt := 55) hx hb dX1_tell_11 (by decide) (by decide) rfl (by decide) ?_
      refine lv_aload_n hx hb dX1_tell_55 rfl (lv_at hl 0 rfl) ?_
      refine va_get (D := gD g) (ci := 3) (v := .ref (a 2)) (C := RX1) (T := TX1) (N := 9) hx hb hts (by decide +kernel) hown hK.1 hP 0 rfl rfl 1 (by decide) (hts (.fieldLink RX1 15 "LogForward$Rows" "unit" "[I") (by decide +kernel)) (fun _ h9 => h9) rfl dX1_tell_56 ?_
      refine lv_iload_n hx hb dX1_tell_59 rfl (lv_at hl 1 rfl) ?_
      refine ga_iald (v := (S.un r)) hx hb hK.1 hP 2 0 rfl rfl (v_nI (by omega) (by omega)) (by rw [(c_nI (by omega))]) dX1_tell_60 ?_
      exact W.iret (v := (S.un r)) hx hb hr (fun tz htz hWz => ⟨(S.un r), rfl, rfl, htz⟩) (fun _ h => nomatch h) dX1_tell_61
    · refine lv_tableIn (tgt := 62) hx hb dX1_tell_11 (by decide) (by decide) rfl (by decide) ?_
      refine lv_aload_n hx hb dX1_tell_62 rfl (lv_at hl 0 rfl) ?_
      refine va_get (D := gD g) (ci := 3) (v := .ref (a 3)) (C := RX1) (T := TX1) (N := 9) hx hb hts (by decide +kernel) hown hK.1 hP 0 rfl rfl 2 (by decide) (hts (.fieldLink RX1 18 "LogForward$Rows" "cell" "[I") (by decide +kernel)) (fun _ h9 => h9) rfl dX1_tell_63 ?_
      refine lv_iload_n hx hb dX1_tell_66 rfl (lv_at hl 1 rfl) ?_
      refine ga_iald (v := (S.ce r)) hx hb hK.1 hP 3 0 rfl rfl (v_nI (by omega) (by omega)) (by rw [(c_nI (by omega))]) dX1_tell_67 ?_
      exact W.iret (v := (S.ce r)) hx hb hr (fun tz htz hWz => ⟨(S.ce r), rfl, rfl, htz⟩) (fun _ h => nomatch h) dX1_tell_68
    · refine lv_tableIn (tgt := 69) hx hb dX1_tell_11 (by decide) (by decide) rfl (by decide) ?_
      refine lv_aload_n hx hb dX1_tell_69 rfl (lv_at hl 0 rfl) ?_
      refine va_get (D := gD g) (ci := 3) (v := .ref (a 4)) (C := RX1) (T := TX1) (N := 9) hx hb hts (by decide +kernel) hown hK.1 hP 0 rfl rfl 3 (by decide) (hts (.fieldLink RX1 21 "LogForward$Rows" "before" "[J") (by decide +kernel)) (fun _ h9 => h9) rfl dX1_tell_70 ?_
      refine lv_iload_n hx hb dX1_tell_73 rfl (lv_at hl 1 rfl) ?_
      refine ga_lald (v := (S.bf r)) hx hb hK.1 hP 4 1 rfl rfl (v_nI (by omega) (by omega)) (by rw [(c_nI (by omega))]) dX1_tell_74 ?_
      refine lv_l2i (v := (((S.bf r)).toInt32)) hx hb dX1_tell_75 (rfl) ?_
      exact W.iret (v := (((S.bf r)).toInt32)) hx hb hr (fun tz htz hWz => ⟨(((S.bf r)).toInt32), rfl, rfl, htz⟩) (fun _ h => nomatch h) dX1_tell_76
    · refine lv_tableIn (tgt := 77) hx hb dX1_tell_11 (by decide) (by decide) rfl (by decide) ?_
      refine lv_aload_n hx hb dX1_tell_77 rfl (lv_at hl 0 rfl) ?_
      refine va_get (D := gD g) (ci := 3) (v := .ref (a 5)) (C := RX1) (T := TX1) (N := 9) hx hb hts (by decide +kernel) hown hK.1 hP 0 rfl rfl 4 (by decide) (hts (.fieldLink RX1 25 "LogForward$Rows" "after" "[J") (by decide +kernel)) (fun _ h9 => h9) rfl dX1_tell_78 ?_
      refine lv_iload_n hx hb dX1_tell_81 rfl (lv_at hl 1 rfl) ?_
      refine ga_lald (v := (S.af r)) hx hb hK.1 hP 5 1 rfl rfl (v_nI (by omega) (by omega)) (by rw [(c_nI (by omega))]) dX1_tell_82 ?_
      refine lv_l2i (v := (((S.af r)).toInt32)) hx hb dX1_tell_83 (rfl) ?_
      exact W.iret (v := (((S.af r)).toInt32)) hx hb hr (fun tz htz hWz => ⟨(((S.af r)).toInt32), rfl, rfl, htz⟩) (fun _ h => nomatch h) dX1_tell_84
    · refine lv_tableIn (tgt := 85) hx hb dX1_tell_11 (by decide) (by decide) rfl (by decide) ?_
      refine lv_aload_n hx hb dX1_tell_85 rfl (lv_at hl 0 rfl) ?_
      refine va_get (D := gD g) (ci := 3) (v := .ref (a 6)) (C := RX1) (T := TX1) (N := 9) hx hb hts (by decide +kernel) hown hK.1 hP 0 rfl rfl 5 (by decide) (hts (.fieldLink RX1 28 "LogForward$Rows" "tornCopies" "[I") (by decide +kernel)) (fun _ h9 => h9) rfl dX1_tell_86 ?_
      refine lv_iload_n hx hb dX1_tell_89 rfl (lv_at hl 1 rfl) ?_
      refine ga_iald (v := (S.tn r)) hx hb hK.1 hP 6 0 rfl rfl (v_nI (by omega) (by omega)) (by rw [(c_nI (by omega))]) dX1_tell_90 ?_
      exact W.iret (v := (S.tn r)) hx hb hr (fun tz htz hWz => ⟨(S.tn r), rfl, rfl, htz⟩) (fun _ h => nomatch h) dX1_tell_91
    · refine lv_tableOut (tgt := 92) hx hb dX1_tell_11 (by decide) (by decide) ?_
      refine lv_aload_n hx hb dX1_tell_92 rfl (lv_at hl 0 rfl) ?_
      refine va_get (D := gD g) (ci := 3) (v := .ref (a 7)) (C := RX1) (T := TX1) (N := 9) hx hb hts (by decide +kernel) hown hK.1 hP 0 rfl rfl 6 (by decide) (hts (.fieldLink RX1 31 "LogForward$Rows" "backingOut" "[Z") (by decide +kernel)) (fun _ h9 => h9) rfl dX1_tell_93 ?_
      refine lv_iload_n hx hb dX1_tell_96 rfl (lv_at hl 1 rfl) ?_
      refine ga_zald (v := (S.bk r)) hx hb hK.1 hP 7 2 rfl rfl (v_nI (by omega) (by omega)) (by rw [(c_nI (by omega))]) dX1_tell_97 ?_
      refine lv_if_eq (tgt := 105) hx hb dX1_tell_98 (by decide) (fun c_98_3 => ?_) (fun c_98_3 => ?_)
      · have i_98 : ((S.bk r).toInt : Int) = 0 := q_eq c_98_3 rfl rfl
        refine lv_iconst (v := 0) hx hb dX1_tell_105 (by decide) ?_
        exact W.iret (v := 0) hx hb hr (fun tz htz hWz => ⟨0, rfl, (by show (0 : Int32) = bI (¬ S.bk r = 0); exact bI_0 (by simp_all)), htz⟩) (fun _ h => nomatch h) dX1_tell_106
      · have i_98 : ((S.bk r).toInt : Int) ≠ 0 := q_ne c_98_3 rfl rfl
        refine lv_iconst (v := 1) hx hb dX1_tell_101 (by decide) ?_
        refine lv_goto (tgt := 106) hx hb dX1_tell_102 (by decide) ?_
        exact W.iret (v := 1) hx hb hr (fun tz htz hWz => ⟨1, rfl, (by show (1 : Int32) = bI (¬ S.bk r = 0); exact bI_1 (by assumption)), htz⟩) (fun _ h => nomatch h) dX1_tell_106
  · exact absurd c_5_1 (by decide)
