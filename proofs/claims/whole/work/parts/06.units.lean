set_option maxHeartbeats 4000000 in
set_option maxRecDepth 100000 in
theorem c_X3_isUnit (l : Launch) (g : GG) (p1 : Int32) : Met l yX3_isUnit wsX3_isUnit { frames := 0, cells := 0, slots := 0, locals := 0 } (va_Pc [.int p1] (Pr g [])) (vp_Si (fun rv => rv = bI (1 ≤ p1.toInt ∧ p1.toInt ≤ 60))) 0 0 (fun _ => False) := by
  refine Met.ofW (cc := cX3_isUnit) (maxL := 1) (ret := (some .boolean)) (by decide) rfl ?_
  intro p e s m args below meth c s₁ B hml hv
  obtain ⟨rfl, hP, hK⟩ := hv
  have hx := B.exec
  have hb := B.bytes
  have hr := B.returns
  have hts := atoms_spec (ws := wsX3_isUnit) B.pre
  have hown : s.vm.findClass RX3 = some m.cls := findClass_of_methodNamed B.named
  have hlocks := B.notSynchronized
  have hl := lv_entry ([.int p1]) (n := 1) (Nat.le_of_ble_eq_true rfl)
  rw [lg_entry_eq]
  generalize (lg_sl ([.int p1]) ++ List.replicate (1 - (lg_sl ([.int p1])).length) Slot.unset).toArray = ls at hl ⊢
  have hl : lv_has ls 1 [(0, .int p1)] := hl
  refine lv_iload_n hx hb dX3_isUnit_0 rfl (lv_at hl 0 rfl) ?_
  refine lv_iconst (v := 1) hx hb dX3_isUnit_1 (by decide) ?_
  refine lv_icmp_lt (tgt := 15) hx hb dX3_isUnit_2 (by decide) (fun c_2_1 => ?_) (fun c_2_1 => ?_)
  · have i_2 : (p1.toInt : Int) < 1 := q_lt c_2_1 rfl rfl
    refine lv_iconst (v := 0) hx hb dX3_isUnit_15 (by decide) ?_
    exact W.zret (v := 0) hx hb hr rfl (fun tz htz hWz => ⟨0, rfl, (bI_0 (by first | omega | assumption | simp_all)), htz⟩) (fun _ h => nomatch h) dX3_isUnit_16
  · have i_2 : (1 : Int) ≤ p1.toInt := q_nlt c_2_1 rfl rfl
    refine lv_iload_n hx hb dX3_isUnit_5 rfl (lv_at hl 0 rfl) ?_
    refine lv_bipush (v := 60) hx hb dX3_isUnit_6 (by decide) ?_
    refine lv_icmp_gt (tgt := 15) hx hb dX3_isUnit_8 (by decide) (fun c_8_2 => ?_) (fun c_8_2 => ?_)
    · have i_8 : (60 : Int) < p1.toInt := q_lt c_8_2 rfl rfl
      refine lv_iconst (v := 0) hx hb dX3_isUnit_15 (by decide) ?_
      exact W.zret (v := 0) hx hb hr rfl (fun tz htz hWz => ⟨0, rfl, (bI_0 (by first | omega | assumption | simp_all)), htz⟩) (fun _ h => nomatch h) dX3_isUnit_16
    · have i_8 : (p1.toInt : Int) ≤ 60 := q_nlt c_8_2 rfl rfl
      refine lv_iconst (v := 1) hx hb dX3_isUnit_11 (by decide) ?_
      refine lv_goto (tgt := 16) hx hb dX3_isUnit_12 (by decide) ?_
      exact W.zret (v := 1) hx hb hr rfl (fun tz htz hWz => ⟨1, rfl, (bI_1 (by first | omega | assumption | simp_all)), htz⟩) (fun _ h => nomatch h) dX3_isUnit_16
set_option maxHeartbeats 4000000 in
set_option maxRecDepth 100000 in
theorem c_X3_isCell (l : Launch) (g : GG) (p1 : Int32) : Met l yX3_isCell wsX3_isCell { frames := 0, cells := 0, slots := 0, locals := 0 } (va_Pc [.int p1] (Pr g [])) (vp_Si (fun rv => rv = bI (0 ≤ p1.toInt ∧ p1.toInt < 32))) 0 0 (fun _ => False) := by
  refine Met.ofW (cc := cX3_isCell) (maxL := 1) (ret := (some .boolean)) (by decide) rfl ?_
  intro p e s m args below meth c s₁ B hml hv
  obtain ⟨rfl, hP, hK⟩ := hv
  have hx := B.exec
  have hb := B.bytes
  have hr := B.returns
  have hts := atoms_spec (ws := wsX3_isCell) B.pre
  have hown : s.vm.findClass RX3 = some m.cls := findClass_of_methodNamed B.named
  have hlocks := B.notSynchronized
  have hl := lv_entry ([.int p1]) (n := 1) (Nat.le_of_ble_eq_true rfl)
  rw [lg_entry_eq]
  generalize (lg_sl ([.int p1]) ++ List.replicate (1 - (lg_sl ([.int p1])).length) Slot.unset).toArray = ls at hl ⊢
  have hl : lv_has ls 1 [(0, .int p1)] := hl
  refine lv_iload_n hx hb dX3_isCell_0 rfl (lv_at hl 0 rfl) ?_
  refine lv_if_lt (tgt := 14) hx hb dX3_isCell_1 (by decide) (fun c_1_1 => ?_) (fun c_1_1 => ?_)
  · have i_1 : (p1.toInt : Int) < 0 := q_lt c_1_1 rfl rfl
    refine lv_iconst (v := 0) hx hb dX3_isCell_14 (by decide) ?_
    exact W.zret (v := 0) hx hb hr rfl (fun tz htz hWz => ⟨0, rfl, (bI_0 (by first | omega | assumption | simp_all)), htz⟩) (fun _ h => nomatch h) dX3_isCell_15
  · have i_1 : (0 : Int) ≤ p1.toInt := q_nlt c_1_1 rfl rfl
    refine lv_iload_n hx hb dX3_isCell_4 rfl (lv_at hl 0 rfl) ?_
    refine lv_bipush (v := 32) hx hb dX3_isCell_5 (by decide) ?_
    refine lv_icmp_ge (tgt := 14) hx hb dX3_isCell_7 (by decide) (fun c_7_2 => ?_) (fun c_7_2 => ?_)
    · have i_7 : (32 : Int) ≤ p1.toInt := q_le c_7_2 rfl rfl
      refine lv_iconst (v := 0) hx hb dX3_isCell_14 (by decide) ?_
      exact W.zret (v := 0) hx hb hr rfl (fun tz htz hWz => ⟨0, rfl, (bI_0 (by first | omega | assumption | simp_all)), htz⟩) (fun _ h => nomatch h) dX3_isCell_15
    · have i_7 : (p1.toInt : Int) < 32 := q_nle c_7_2 rfl rfl
      refine lv_iconst (v := 1) hx hb dX3_isCell_10 (by decide) ?_
      refine lv_goto (tgt := 15) hx hb dX3_isCell_11 (by decide) ?_
      exact W.zret (v := 1) hx hb hr rfl (fun tz htz hWz => ⟨1, rfl, (bI_1 (by first | omega | assumption | simp_all)), htz⟩) (fun _ h => nomatch h) dX3_isCell_15
/-- a unit that is open; one that is over -/
abbrev opU (U : US) (p : Int32) : Prop := (1 ≤ p.toInt ∧ p.toInt ≤ 60) ∧ U.lk p.toNatClampNeg = 0
abbrev ovU (U : US) (p : Int32) : Prop := (1 ≤ p.toInt ∧ p.toInt ≤ 60) ∧ 0 < U.lk p.toNatClampNeg
abbrev cbU (U : US) (c p : Int32) : Prop := (0 ≤ c.toInt ∧ c.toInt < 32) ∧ U.ch c.toNatClampNeg ≠ p ∧ opU U (U.ch c.toNatClampNeg)
/-- how many units up to k have x as their latest kind -/
def cntU (U : US) (x : Int32) : Nat → Nat
  | 0 => 0
  | k + 1 => if U.lk (k + 1) = x then cntU U x k + 1 else cntU U x k
theorem cntU_le (U : US) (x : Int32) : ∀ k, cntU U x k ≤ k
  | 0 => Nat.le_refl 0
  | k + 1 => by
    have := cntU_le U x k
    simp only [cntU]
    split <;> omega
set_option maxHeartbeats 4000000 in
set_option maxRecDepth 100000 in
theorem c_X2_isOpen (l : Launch) (g : GG) (a : Nat → Nat) (U : US) (p1 : Int32) : Met l yX2_isOpen wsX2_isOpen { frames := 1, cells := 0, slots := 0, locals := 20 } (va_Pc [.ref (a 0), .int p1] (Pr g (wU g a U))) (vp_Si (fun rv => rv = bI (opU U p1))) 0 0 (fun _ => False) := by
  refine Met.ofW (cc := cX2_isOpen) (maxL := 2) (ret := (some .boolean)) (by decide) rfl ?_
  intro p e s m args below meth c s₁ B hml hv
  obtain ⟨rfl, hP, hK⟩ := hv
  have hx := B.exec
  have hb := B.bytes
  have hr := B.returns
  have hts := atoms_spec (ws := wsX2_isOpen) B.pre
  have hown : s.vm.findClass RX2 = some m.cls := findClass_of_methodNamed B.named
  have hlocks := B.notSynchronized
  have hl := lv_entry ([.ref (a 0), .int p1]) (n := 2) (Nat.le_of_ble_eq_true rfl)
  rw [lg_entry_eq]
  generalize (lg_sl ([.ref (a 0), .int p1]) ++ List.replicate (2 - (lg_sl ([.ref (a 0), .int p1])).length) Slot.unset).toArray = ls at hl ⊢
  have hl : lv_has ls 2 [(0, .ref (a 0)), (1, .int p1)] := hl
  refine lv_iload_n hx hb dX2_isOpen_0 rfl (lv_at hl 1 rfl) ?_
  refine vp_callSi (va_Run.run (va_runSN (host := "LogForward") (As := [.int p1]) (rest := []) ⟨hx, hb, hml, hown, hts⟩ (c_X3_isUnit l g p1) ⟨va_cnB 1 hts gX2_isOpen_X3_isUnit_n24 rfl rfl rfl hK.2.1 (hts (.initialized RX3) (by decide +kernel)) (by decide +kernel) ⟨Nat.le_of_ble_eq_true rfl, Nat.le_of_ble_eq_true rfl⟩, hts (.static yX3_isUnit) (by decide +kernel), trivial⟩ (ps_r hK hP [] rfl) rfl rfl hl.1 rfl (lv_room (Nat.le_of_ble_eq_true rfl)) dX2_isOpen_1 ⟨Nat.zero_le _, Nat.zero_le _⟩)) (fun r_1_1 h_1_1 => ?_)
  refine lv_if_eq (tgt := 20) hx hb dX2_isOpen_4 (by decide) (fun c_4_1 => ?_) (fun c_4_1 => ?_)
  · have b_4 : ¬ (1 ≤ (p1).toInt ∧ (p1).toInt ≤ 60) := bI_f h_1_1 c_4_1
    refine lv_iconst (v := 0) hx hb dX2_isOpen_20 (by decide) ?_
    exact W.zret (v := 0) hx hb hr rfl (fun tz htz hWz => ⟨0, rfl, (bI_0 (by first | exact ⟨by assumption, by assumption⟩ | exact ⟨by assumption, by assumption, by assumption⟩ | exact fun h => absurd h.1 (by assumption) | exact fun h => absurd h.2 (by assumption) | exact fun h => absurd h.2.1 (by assumption) | exact fun h => h.2.1 (by assumption) | simp_all [opU])), htz⟩) (fun _ h => nomatch h) dX2_isOpen_21
  · have b_4 : 1 ≤ (p1).toInt ∧ (p1).toInt ≤ 60 := bI_t h_1_1 c_4_1
    refine lv_aload_n hx hb dX2_isOpen_7 rfl (lv_at hl 0 rfl) ?_
    refine va_get (D := gD g) (ci := 4) (v := .ref (a 1)) (C := RX2) (T := TX2) (N := 2) hx hb hts (by decide +kernel) hown hK.1 hP 0 rfl rfl 0 (by decide) (hts (.fieldLink RX2 9 "LogForward$Units" "latestKind" "[I") (by decide +kernel)) (fun _ h9 => h9) rfl dX2_isOpen_8 ?_
    refine lv_iload_n hx hb dX2_isOpen_11 rfl (lv_at hl 1 rfl) ?_
    refine ga_iald (v := (U.lk p1.toNatClampNeg)) hx hb hK.1 hP 1 0 rfl rfl (v_p (by omega) (by omega)) rfl dX2_isOpen_12 ?_
    refine lv_if_ne (tgt := 20) hx hb dX2_isOpen_13 (by decide) (fun c_13_2 => ?_) (fun c_13_2 => ?_)
    · have i_13 : ((U.lk p1.toNatClampNeg).toInt : Int) ≠ 0 := q_ne c_13_2 rfl rfl
      refine lv_iconst (v := 0) hx hb dX2_isOpen_20 (by decide) ?_
      exact W.zret (v := 0) hx hb hr rfl (fun tz htz hWz => ⟨0, rfl, (bI_0 (by first | exact ⟨by assumption, by assumption⟩ | exact ⟨by assumption, by assumption, by assumption⟩ | exact fun h => absurd h.1 (by assumption) | exact fun h => absurd h.2 (by assumption) | exact fun h => absurd h.2.1 (by assumption) | exact fun h => h.2.1 (by assumption) | simp_all [opU])), htz⟩) (fun _ h => nomatch h) dX2_isOpen_21
    · have i_13 : ((U.lk p1.toNatClampNeg).toInt : Int) = 0 := q_eq c_13_2 rfl rfl
      refine lv_iconst (v := 1) hx hb dX2_isOpen_16 (by decide) ?_
      refine lv_goto (tgt := 21) hx hb dX2_isOpen_17 (by decide) ?_
      exact W.zret (v := 1) hx hb hr rfl (fun tz htz hWz => ⟨1, rfl, (bI_1 (by first | exact ⟨by assumption, by assumption⟩ | exact ⟨by assumption, by assumption, by assumption⟩ | exact fun h => absurd h.1 (by assumption) | exact fun h => absurd h.2 (by assumption) | exact fun h => absurd h.2.1 (by assumption) | exact fun h => h.2.1 (by assumption) | simp_all [opU])), htz⟩) (fun _ h => nomatch h) dX2_isOpen_21
set_option maxHeartbeats 4000000 in
set_option maxRecDepth 100000 in
theorem c_X2_isOver (l : Launch) (g : GG) (a : Nat → Nat) (U : US) (p1 : Int32) : Met l yX2_isOver wsX2_isOver { frames := 1, cells := 0, slots := 0, locals := 20 } (va_Pc [.ref (a 0), .int p1] (Pr g (wU g a U))) (vp_Si (fun rv => rv = bI (ovU U p1))) 0 0 (fun _ => False) := by
  refine Met.ofW (cc := cX2_isOver) (maxL := 2) (ret := (some .boolean)) (by decide) rfl ?_
  intro p e s m args below meth c s₁ B hml hv
  obtain ⟨rfl, hP, hK⟩ := hv
  have hx := B.exec
  have hb := B.bytes
  have hr := B.returns
  have hts := atoms_spec (ws := wsX2_isOver) B.pre
  have hown : s.vm.findClass RX2 = some m.cls := findClass_of_methodNamed B.named
  have hlocks := B.notSynchronized
  have hl := lv_entry ([.ref (a 0), .int p1]) (n := 2) (Nat.le_of_ble_eq_true rfl)
  rw [lg_entry_eq]
  generalize (lg_sl ([.ref (a 0), .int p1]) ++ List.replicate (2 - (lg_sl ([.ref (a 0), .int p1])).length) Slot.unset).toArray = ls at hl ⊢
  have hl : lv_has ls 2 [(0, .ref (a 0)), (1, .int p1)] := hl
  refine lv_iload_n hx hb dX2_isOver_0 rfl (lv_at hl 1 rfl) ?_
  refine vp_callSi (va_Run.run (va_runSN (host := "LogForward") (As := [.int p1]) (rest := []) ⟨hx, hb, hml, hown, hts⟩ (c_X3_isUnit l g p1) ⟨va_cnB 1 hts gX2_isOver_X3_isUnit_n24 rfl rfl rfl hK.2.1 (hts (.initialized RX3) (by decide +kernel)) (by decide +kernel) ⟨Nat.le_of_ble_eq_true rfl, Nat.le_of_ble_eq_true rfl⟩, hts (.static yX3_isUnit) (by decide +kernel), trivial⟩ (ps_r hK hP [] rfl) rfl rfl hl.1 rfl (lv_room (Nat.le_of_ble_eq_true rfl)) dX2_isOver_1 ⟨Nat.zero_le _, Nat.zero_le _⟩)) (fun r_1_1 h_1_1 => ?_)
  refine lv_if_eq (tgt := 20) hx hb dX2_isOver_4 (by decide) (fun c_4_1 => ?_) (fun c_4_1 => ?_)
  · have b_4 : ¬ (1 ≤ (p1).toInt ∧ (p1).toInt ≤ 60) := bI_f h_1_1 c_4_1
    refine lv_iconst (v := 0) hx hb dX2_isOver_20 (by decide) ?_
    exact W.zret (v := 0) hx hb hr rfl (fun tz htz hWz => ⟨0, rfl, (bI_0 (by first | exact ⟨by assumption, by assumption⟩ | exact ⟨by assumption, by assumption, by assumption⟩ | exact fun h => absurd h.1 (by assumption) | exact fun h => absurd h.2 (by assumption) | exact fun h => absurd h.2.1 (by assumption) | exact fun h => h.2.1 (by assumption) | simp_all [ovU])), htz⟩) (fun _ h => nomatch h) dX2_isOver_21
  · have b_4 : 1 ≤ (p1).toInt ∧ (p1).toInt ≤ 60 := bI_t h_1_1 c_4_1
    refine lv_aload_n hx hb dX2_isOver_7 rfl (lv_at hl 0 rfl) ?_
    refine va_get (D := gD g) (ci := 4) (v := .ref (a 1)) (C := RX2) (T := TX2) (N := 2) hx hb hts (by decide +kernel) hown hK.1 hP 0 rfl rfl 0 (by decide) (hts (.fieldLink RX2 9 "LogForward$Units" "latestKind" "[I") (by decide +kernel)) (fun _ h9 => h9) rfl dX2_isOver_8 ?_
    refine lv_iload_n hx hb dX2_isOver_11 rfl (lv_at hl 1 rfl) ?_
    refine ga_iald (v := (U.lk p1.toNatClampNeg)) hx hb hK.1 hP 1 0 rfl rfl (v_p (by omega) (by omega)) rfl dX2_isOver_12 ?_
    refine lv_if_le (tgt := 20) hx hb dX2_isOver_13 (by decide) (fun c_13_2 => ?_) (fun c_13_2 => ?_)
    · have i_13 : ((U.lk p1.toNatClampNeg).toInt : Int) ≤ 0 := q_le c_13_2 rfl rfl
      refine lv_iconst (v := 0) hx hb dX2_isOver_20 (by decide) ?_
      exact W.zret (v := 0) hx hb hr rfl (fun tz htz hWz => ⟨0, rfl, (bI_0 (by first | exact ⟨by assumption, by assumption⟩ | exact ⟨by assumption, by assumption, by assumption⟩ | exact fun h => absurd h.1 (by assumption) | exact fun h => absurd h.2 (by assumption) | exact fun h => absurd h.2.1 (by assumption) | exact fun h => h.2.1 (by assumption) | simp_all [ovU])), htz⟩) (fun _ h => nomatch h) dX2_isOver_21
    · have i_13 : (0 : Int) < (U.lk p1.toNatClampNeg).toInt := q_nle c_13_2 rfl rfl
      refine lv_iconst (v := 1) hx hb dX2_isOver_16 (by decide) ?_
      refine lv_goto (tgt := 21) hx hb dX2_isOver_17 (by decide) ?_
      exact W.zret (v := 1) hx hb hr rfl (fun tz htz hWz => ⟨1, rfl, (bI_1 (by first | exact ⟨by assumption, by assumption⟩ | exact ⟨by assumption, by assumption, by assumption⟩ | exact fun h => absurd h.1 (by assumption) | exact fun h => absurd h.2 (by assumption) | exact fun h => absurd h.2.1 (by assumption) | exact fun h => h.2.1 (by assumption) | simp_all [ovU])), htz⟩) (fun _ h => nomatch h) dX2_isOver_21
set_option maxHeartbeats 4000000 in
set_option maxRecDepth 100000 in
theorem c_X2_isChangedByAnother (l : Launch) (g : GG) (a : Nat → Nat) (U : US) (p1 p2 : Int32) : Met l yX2_isChangedByAnother wsX2_isChangedByAnother { frames := 2, cells := 0, slots := 0, locals := 41 } (va_Pc [.ref (a 0), .int p1, .int p2] (Pr g (wU g a U))) (vp_Si (fun rv => rv = bI (cbU U p1 p2))) 0 0 (fun _ => False) := by
  refine Met.ofW (cc := cX2_isChangedByAnother) (maxL := 3) (ret := (some .boolean)) (by decide) rfl ?_
  intro p e s m args below meth c s₁ B hml hv
  obtain ⟨rfl, hP, hK⟩ := hv
  have hx := B.exec
  have hb := B.bytes
  have hr := B.returns
  have hts := atoms_spec (ws := wsX2_isChangedByAnother) B.pre
  have hown : s.vm.findClass RX2 = some m.cls := findClass_of_methodNamed B.named
  have hlocks := B.notSynchronized
  have hl := lv_entry ([.ref (a 0), .int p1, .int p2]) (n := 3) (Nat.le_of_ble_eq_true rfl)
  rw [lg_entry_eq]
  generalize (lg_sl ([.ref (a 0), .int p1, .int p2]) ++ List.replicate (3 - (lg_sl ([.ref (a 0), .int p1, .int p2])).length) Slot.unset).toArray = ls at hl ⊢
  have hl : lv_has ls 3 [(0, .ref (a 0)), (1, .int p1), (2, .int p2)] := hl
  refine lv_iload_n hx hb dX2_isChangedByAnother_0 rfl (lv_at hl 1 rfl) ?_
  refine vp_callSi (va_Run.run (va_runSN (host := "LogForward") (As := [.int p1]) (rest := []) ⟨hx, hb, hml, hown, hts⟩ (c_X3_isCell l g p1) ⟨va_cnB 1 hts gX2_isChangedByAnother_X3_isCell_n28 rfl rfl rfl hK.2.2 (hts (.initialized RX3) (by decide +kernel)) (by decide +kernel) ⟨Nat.le_of_ble_eq_true rfl, Nat.le_of_ble_eq_true rfl⟩, hts (.static yX3_isCell) (by decide +kernel), trivial⟩ (ps_r hK hP [] rfl) rfl rfl hl.1 rfl (lv_room (Nat.le_of_ble_eq_true rfl)) dX2_isChangedByAnother_1 ⟨Nat.zero_le _, Nat.zero_le _⟩)) (fun r_1_1 h_1_1 => ?_)
  refine lv_if_eq (tgt := 34) hx hb dX2_isChangedByAnother_4 (by decide) (fun c_4_1 => ?_) (fun c_4_1 => ?_)
  · have b_4 : ¬ (0 ≤ (p1).toInt ∧ (p1).toInt < 32) := bI_f h_1_1 c_4_1
    refine lv_iconst (v := 0) hx hb dX2_isChangedByAnother_34 (by decide) ?_
    exact W.zret (v := 0) hx hb hr rfl (fun tz htz hWz => ⟨0, rfl, (bI_0 (by first | exact ⟨by assumption, by assumption⟩ | exact ⟨by assumption, by assumption, by assumption⟩ | exact fun h => absurd h.1 (by assumption) | exact fun h => absurd h.2 (by assumption) | exact fun h => absurd h.2.1 (by assumption) | exact fun h => h.2.1 (by assumption) | simp_all [cbU])), htz⟩) (fun _ h => nomatch h) dX2_isChangedByAnother_35
  · have b_4 : 0 ≤ (p1).toInt ∧ (p1).toInt < 32 := bI_t h_1_1 c_4_1
    refine lv_aload_n hx hb dX2_isChangedByAnother_7 rfl (lv_at hl 0 rfl) ?_
    refine va_get (D := gD g) (ci := 4) (v := .ref (a 2)) (C := RX2) (T := TX2) (N := 2) hx hb hts (by decide +kernel) hown hK.1 hP 0 rfl rfl 1 (by decide) (hts (.fieldLink RX2 15 "LogForward$Units" "changer" "[I") (by decide +kernel)) (fun _ h9 => h9) rfl dX2_isChangedByAnother_8 ?_
    refine lv_iload_n hx hb dX2_isChangedByAnother_11 rfl (lv_at hl 1 rfl) ?_
    refine ga_iald (v := (U.ch p1.toNatClampNeg)) hx hb hK.1 hP 2 0 rfl rfl (v_p (by omega) (by omega)) rfl dX2_isChangedByAnother_12 ?_
    refine lv_iload_n hx hb dX2_isChangedByAnother_13 rfl (lv_at hl 2 rfl) ?_
    refine lv_icmp_eq (tgt := 34) hx hb dX2_isChangedByAnother_14 (by decide) (fun c_14_2 => ?_) (fun c_14_2 => ?_)
    · have i_14 : ((U.ch p1.toNatClampNeg).toInt : Int) = p2.toInt := q_eq c_14_2 rfl rfl
      refine lv_iconst (v := 0) hx hb dX2_isChangedByAnother_34 (by decide) ?_
      exact W.zret (v := 0) hx hb hr rfl (fun tz htz hWz => ⟨0, rfl, (bI_0 (by first | exact ⟨by assumption, by assumption⟩ | exact ⟨by assumption, by assumption, by assumption⟩ | exact fun h => absurd h.1 (by assumption) | exact fun h => absurd h.2 (by assumption) | exact fun h => absurd h.2.1 (by assumption) | exact fun h => h.2.1 (by assumption) | simp_all [cbU])), htz⟩) (fun _ h => nomatch h) dX2_isChangedByAnother_35
    · have i_14 : ((U.ch p1.toNatClampNeg).toInt : Int) ≠ p2.toInt := q_ne c_14_2 rfl rfl
      refine lv_aload_n hx hb dX2_isChangedByAnother_17 rfl (lv_at hl 0 rfl) ?_
      refine lv_aload_n hx hb dX2_isChangedByAnother_18 rfl (lv_at hl 0 rfl) ?_
      refine va_get (D := gD g) (ci := 4) (v := .ref (a 2)) (C := RX2) (T := TX2) (N := 2) hx hb hts (by decide +kernel) hown hK.1 hP 0 rfl rfl 1 (by decide) (hts (.fieldLink RX2 15 "LogForward$Units" "changer" "[I") (by decide +kernel)) (fun _ h9 => h9) rfl dX2_isChangedByAnother_19 ?_
      refine lv_iload_n hx hb dX2_isChangedByAnother_22 rfl (lv_at hl 1 rfl) ?_
      refine ga_iald (v := (U.ch p1.toNatClampNeg)) hx hb hK.1 hP 2 0 rfl rfl (v_p (by omega) (by omega)) rfl dX2_isChangedByAnother_23 ?_
      refine vp_callSi (va_Run.run (va_runV (As := [.int (U.ch p1.toNatClampNeg)]) (rest := []) ⟨hx, hb, hml, hown, hts⟩ (c_X2_isOpen l g a U (U.ch p1.toNatClampNeg)) (cwV 1 hts gX2_isChangedByAnother_X2_isOpen rfl rfl rfl (by decide +kernel) ⟨Nat.le_of_ble_eq_true rfl, Nat.le_of_ble_eq_true rfl⟩) (pv_r hK hP (ci := 4) (q0 := 0) rfl rfl [0, 1, 2] rfl) rfl rfl hl.1 rfl (lv_room (Nat.le_of_ble_eq_true rfl)) dX2_isChangedByAnother_24 ⟨Nat.zero_le _, Nat.zero_le _⟩)) (fun r_24_3 h_24_3 => ?_)
      refine lv_if_eq (tgt := 34) hx hb dX2_isChangedByAnother_27 (by decide) (fun c_27_3 => ?_) (fun c_27_3 => ?_)
      · have b_27 : ¬ (opU U (U.ch p1.toNatClampNeg)) := bI_f h_24_3 c_27_3
        refine lv_iconst (v := 0) hx hb dX2_isChangedByAnother_34 (by decide) ?_
        exact W.zret (v := 0) hx hb hr rfl (fun tz htz hWz => ⟨0, rfl, (bI_0 (by first | exact ⟨by assumption, by assumption⟩ | exact ⟨by assumption, by assumption, by assumption⟩ | exact fun h => absurd h.1 (by assumption) | exact fun h => absurd h.2 (by assumption) | exact fun h => absurd h.2.1 (by assumption) | exact fun h => h.2.1 (by assumption) | simp_all [cbU])), htz⟩) (fun _ h => nomatch h) dX2_isChangedByAnother_35
      · have b_27 : opU U (U.ch p1.toNatClampNeg) := bI_t h_24_3 c_27_3
        refine lv_iconst (v := 1) hx hb dX2_isChangedByAnother_30 (by decide) ?_
        refine lv_goto (tgt := 35) hx hb dX2_isChangedByAnother_31 (by decide) ?_
        exact W.zret (v := 1) hx hb hr rfl (fun tz htz hWz => ⟨1, rfl, (bI_1 (by first | exact ⟨by assumption, by assumption⟩ | exact ⟨by assumption, by assumption, by assumption⟩ | exact fun h => absurd h.1 (by assumption) | exact fun h => absurd h.2 (by assumption) | exact fun h => absurd h.2.1 (by assumption) | exact fun h => h.2.1 (by assumption) | simp_all [cbU])), htz⟩) (fun _ h => nomatch h) dX2_isChangedByAnother_35
set_option maxHeartbeats 4000000 in
set_option maxRecDepth 100000 in
theorem c_X2_howManyEndedBy (l : Launch) (g : GG) (a : Nat → Nat) (U : US) (p1 : Int32) : Met l yX2_howManyEndedBy wsX2_howManyEndedBy { frames := 0, cells := 0, slots := 0, locals := 0 } (va_Pc [.ref (a 0), .int p1] (Pr g (wU g a U))) (vp_Si (fun rv => rv = nI (cntU U p1 60))) 0 0 (fun _ => False) := by
  refine Met.ofW (cc := cX2_howManyEndedBy) (maxL := 4) (ret := (some .int)) (by decide) rfl ?_
  intro p e s m args below meth c s₁ B hml hv
  obtain ⟨rfl, hP, hK⟩ := hv
  have hx := B.exec
  have hb := B.bytes
  have hr := B.returns
  have hts := atoms_spec (ws := wsX2_howManyEndedBy) B.pre
  have hown : s.vm.findClass RX2 = some m.cls := findClass_of_methodNamed B.named
  have hlocks := B.notSynchronized
  have hl := lv_entry ([.ref (a 0), .int p1]) (n := 4) (Nat.le_of_ble_eq_true rfl)
  rw [lg_entry_eq]
  generalize (lg_sl ([.ref (a 0), .int p1]) ++ List.replicate (4 - (lg_sl ([.ref (a 0), .int p1])).length) Slot.unset).toArray = ls at hl ⊢
  have hl : lv_has ls 4 [(0, .ref (a 0)), (1, .int p1)] := hl
  refine lv_iconst (v := 0) hx hb dX2_howManyEndedBy_0 (by decide) ?_
  refine lv_istore_n (lv' := [(2, .int 0), (0, .ref (a 0)), (1, .int p1)]) hx hb dX2_howManyEndedBy_1 rfl hl (by decide) rfl (fun ls hl => ?_)
  refine lv_iconst (v := 1) hx hb dX2_howManyEndedBy_2 (by decide) ?_
  refine lv_istore_n (lv' := [(3, .int 1), (2, .int 0), (0, .ref (a 0)), (1, .int p1)]) hx hb dX2_howManyEndedBy_3 rfl hl (by decide) rfl (fun ls hl => ?_)
  obtain ⟨i, hi⟩ : ∃ i : Nat, i = 1 := ⟨1, rfl⟩
  replace hl : lv_has ls 4 [(0, .ref (a 0)), (1, .int p1), (2, .int (nI (cntU U p1 (i - 1)))), (3, .int (nI (i)))] := by subst hi; exact lv_sub hl [2, 3, 1, 0] rfl
  have hi1 : 1 ≤ i := by omega
  have hi2 : i ≤ 61 := by omega
  clear hi
  obtain ⟨d, hd⟩ : ∃ d, 61 - i = d := ⟨_, rfl⟩
  induction d using Nat.strongRecOn generalizing i ls with
  | ind d ih =>
    refine lv_iload_n hx hb dX2_howManyEndedBy_4 rfl (lv_at hl 3 rfl) ?_
    refine lv_bipush (v := 60) hx hb dX2_howManyEndedBy_5 (by decide) ?_
    refine lv_icmp_gt (tgt := 29) hx hb dX2_howManyEndedBy_7 (by decide) (fun c_7_2 => ?_) (fun c_7_2 => ?_)
    · have i_7 : (60 : Int) < ((i : Nat) : Int) := q_lt c_7_2 rfl (l_nI (by omega))
      refine lv_iload_n hx hb dX2_howManyEndedBy_29 rfl (lv_at hl 2 rfl) ?_
      exact W.iret (v := (nI (cntU U p1 (i - 1)))) hx hb hr (fun tz htz hWz => ⟨(nI (cntU U p1 (i - 1))), rfl, (by rw [show i - 1 = 60 by omega]), htz⟩) (fun _ h => nomatch h) dX2_howManyEndedBy_30
    · have i_7 : (((i : Nat) : Int) : Int) ≤ 60 := q_nlt c_7_2 rfl (l_nI (by omega))
      refine lv_aload_n hx hb dX2_howManyEndedBy_10 rfl (lv_at hl 0 rfl) ?_
      refine va_get (D := gD g) (ci := 4) (v := .ref (a 1)) (C := RX2) (T := TX2) (N := 2) hx hb hts (by decide +kernel) hown hK.1 hP 0 rfl rfl 0 (by decide) (hts (.fieldLink RX2 9 "LogForward$Units" "latestKind" "[I") (by decide +kernel)) (fun _ h9 => h9) rfl dX2_howManyEndedBy_11 ?_
      refine lv_iload_n hx hb dX2_howManyEndedBy_14 rfl (lv_at hl 3 rfl) ?_
      refine ga_iald (v := (U.lk i)) hx hb hK.1 hP 1 0 rfl rfl (v_nI (by omega) (by omega)) (by rw [(c_nI (by omega))]) dX2_howManyEndedBy_15 ?_
      refine lv_iload_n hx hb dX2_howManyEndedBy_16 rfl (lv_at hl 1 rfl) ?_
      refine lv_icmp_ne (tgt := 23) hx hb dX2_howManyEndedBy_17 (by decide) (fun c_17_3 => ?_) (fun c_17_3 => ?_)
      · have i_17 : ((U.lk i).toInt : Int) ≠ p1.toInt := q_ne c_17_3 rfl rfl
        refine lv_iinc (v := (nI (i + 1))) (lv' := [(3, .int (nI (i + 1))), (0, .ref (a 0)), (1, .int p1), (2, .int (nI (cntU U p1 (i - 1))))]) hx hb dX2_howManyEndedBy_23 hl (k := 3) rfl (nI_1 _) (by decide) rfl (fun ls hl => ?_)
        refine lv_goto (tgt := 4) hx hb dX2_howManyEndedBy_26 (by decide) ?_
        exact ih (61 - (i + 1)) (by omega) ls (i + 1) (by rw [Nat.add_sub_cancel]; rw [show cntU U p1 i = cntU U p1 (i - 1) from by obtain ⟨j, rfl⟩ : ∃ j, i = j + 1 := ⟨i - 1, by omega⟩; simp only [cntU, Nat.add_sub_cancel]; simp_all]; exact lv_sub hl [1, 2, 3, 0] rfl) (by omega) (by omega) rfl
      · have i_17 : ((U.lk i).toInt : Int) = p1.toInt := q_eq c_17_3 rfl rfl
        refine lv_iinc (v := (nI (cntU U p1 (i - 1) + 1))) (lv' := [(2, .int (nI (cntU U p1 (i - 1) + 1))), (0, .ref (a 0)), (1, .int p1), (3, .int (nI (i)))]) hx hb dX2_howManyEndedBy_20 hl (k := 2) rfl (nI_1 _) (by decide) rfl (fun ls hl => ?_)
        refine lv_iinc (v := (nI (i + 1))) (lv' := [(3, .int (nI (i + 1))), (2, .int (nI (cntU U p1 (i - 1) + 1))), (0, .ref (a 0)), (1, .int p1)]) hx hb dX2_howManyEndedBy_23 hl (k := 3) rfl (nI_1 _) (by decide) rfl (fun ls hl => ?_)
        refine lv_goto (tgt := 4) hx hb dX2_howManyEndedBy_26 (by decide) ?_
        exact ih (61 - (i + 1)) (by omega) ls (i + 1) (by rw [Nat.add_sub_cancel]; rw [show cntU U p1 i = cntU U p1 (i - 1) + 1 from by obtain ⟨j, rfl⟩ : ∃ j, i = j + 1 := ⟨i - 1, by omega⟩; simp only [cntU, Nat.add_sub_cancel]; simp_all]; exact lv_sub hl [2, 3, 1, 0] rfl) (by omega) (by omega) rfl
set_option maxHeartbeats 4000000 in
set_option maxRecDepth 100000 in
theorem c_X2_howManyOpen (l : Launch) (g : GG) (a : Nat → Nat) (U : US)  : Met l yX2_howManyOpen wsX2_howManyOpen { frames := 1, cells := 0, slots := 0, locals := 23 } (va_Pc [.ref (a 0)] (Pr g (wU g a U))) (vp_Si (fun rv => rv = nI (cntU U 0 60))) 0 0 (fun _ => False) := by
  refine Met.ofW (cc := cX2_howManyOpen) (maxL := 1) (ret := (some .int)) (by decide) rfl ?_
  intro p e s m args below meth c s₁ B hml hv
  obtain ⟨rfl, hP, hK⟩ := hv
  have hx := B.exec
  have hb := B.bytes
  have hr := B.returns
  have hts := atoms_spec (ws := wsX2_howManyOpen) B.pre
  have hown : s.vm.findClass RX2 = some m.cls := findClass_of_methodNamed B.named
  have hlocks := B.notSynchronized
  have hl := lv_entry ([.ref (a 0)]) (n := 1) (Nat.le_of_ble_eq_true rfl)
  rw [lg_entry_eq]
  generalize (lg_sl ([.ref (a 0)]) ++ List.replicate (1 - (lg_sl ([.ref (a 0)])).length) Slot.unset).toArray = ls at hl ⊢
  have hl : lv_has ls 1 [(0, .ref (a 0))] := hl
  refine lv_aload_n hx hb dX2_howManyOpen_0 rfl (lv_at hl 0 rfl) ?_
  refine lv_iconst (v := 0) hx hb dX2_howManyOpen_1 (by decide) ?_
  refine vp_callSi (va_Run.run (va_runV (As := [.int 0]) (rest := []) ⟨hx, hb, hml, hown, hts⟩ (c_X2_howManyEndedBy l g a U 0) (cwV 1 hts gX2_howManyOpen_X2_howManyEndedBy rfl rfl rfl (by decide +kernel) ⟨Nat.le_of_ble_eq_true rfl, Nat.le_of_ble_eq_true rfl⟩) (pv_r hK hP (ci := 4) (q0 := 0) rfl rfl [0, 1, 2] rfl) rfl rfl hl.1 rfl (lv_room (Nat.le_of_ble_eq_true rfl)) dX2_howManyOpen_2 ⟨Nat.zero_le _, Nat.zero_le _⟩)) (fun r_2_1 h_2_1 => ?_)
  subst h_2_1
  exact W.iret (v := (nI (cntU U 0 60))) hx hb hr (fun tz htz hWz => ⟨(nI (cntU U 0 60)), rfl, rfl, htz⟩) (fun _ h => nomatch h) dX2_howManyOpen_5
theorem up_lt {f : Nat → Int32} {i : Nat} {v : Int32} (h : ∀ j, j < i → f j = v) : ∀ j, j < i + 1 → upd f i v j = v := fun j hj => by
  by_cases e : j = i
  · rw [e, pk_us]
  · rw [pk_un e]
    exact h j (by omega)
set_option maxHeartbeats 4000000 in
set_option maxRecDepth 100000 in
theorem c_J7_fill_53178 (l : Launch) (g : GG) (q N : Nat) (f : Nat → Int32) (v : Int32) (sz : Nat) (hN : N ≤ 2000) : Met l yJ7_fill_53178 wsJ7_fill_53178 { frames := 0, cells := 0, slots := 0, locals := 0 } (va_Pc [.ref q, .int v] (Pw g [(q, .inl (gI g, N, .inl f))] sz)) (va_Qv (fun u => ∀ j, j < N → u j = v) (Bw g (va_A [(q, .inl (gI g, N, .inl f))] sz) (fun u : Nat → Int32 => [(q, .inl (gI g, N, .inl u))])) (va_A [(q, .inl (gI g, N, .inl f))] sz)) 0 0 (va_A [(q, .inl (gI g, N, .inl f))] sz) := by
  refine Met.ofW (cc := cJ7_fill_53178) (maxL := 4) (ret := none) (by decide) rfl ?_
  intro p e s m args below meth c s₁ B hml hv
  obtain ⟨rfl, hsz, hP, hK, hD0⟩ := hv
  have hx := B.exec
  have hb := B.bytes
  have hr := B.returns
  have hts := atoms_spec (ws := wsJ7_fill_53178) B.pre
  have hown : s.vm.findClass RJ7 = some m.cls := findClass_of_methodNamed B.named
  have hlocks := B.notSynchronized
  subst hsz
  have hD := hD0.self (sz := s.heap.size)
  generalize hAe : va_A ([(q, .inl (gI g, N, .inl f))]) s.heap.size = A at hD ⊢
  have hA : ∀ q : Nat, s.heap.size ≤ q → A q := fun q h => by rw [← hAe]; exact Or.inr h
  have hS : va_S A s.heap s.heap [] := va_S.rf
  have hl := lv_entry ([.ref q, .int v]) (n := 4) (Nat.le_of_ble_eq_true rfl)
  rw [lg_entry_eq]
  generalize (lg_sl ([.ref q, .int v]) ++ List.replicate (4 - (lg_sl ([.ref q, .int v])).length) Slot.unset).toArray = ls at hl ⊢
  have hl : lv_has ls 4 [(0, .ref q), (1, .int v)] := hl
  refine lv_iconst (v := 0) hx hb dJ7_fill_53178_0 (by decide) ?_
  refine lv_istore_n (lv' := [(2, .int 0), (0, .ref q), (1, .int v)]) hx hb dJ7_fill_53178_1 rfl hl (by decide) rfl (fun ls hl => ?_)
  refine lv_aload_n hx hb dJ7_fill_53178_2 rfl (lv_at hl 1 rfl) ?_
  refine va_alen (v := (nI (N))) hx hb hK.1 hP 0 0 rfl rfl rfl dJ7_fill_53178_3 ?_
  refine lv_istore_n (lv' := [(3, .int (nI (N))), (2, .int 0), (0, .ref q), (1, .int v)]) hx hb dJ7_fill_53178_4 rfl hl (by decide) rfl (fun ls hl => ?_)
  refine g_heap (fun H locs hH1 hL1 => ?_)
  obtain ⟨f1, hf1⟩ : ∃ f1 : Nat → Int32, f1 = f := ⟨f, rfl⟩
  obtain ⟨i, hi⟩ : ∃ i : Nat, i = 0 := ⟨0, rfl⟩
  replace hl : lv_has ls 4 [(0, .ref q), (1, .int v), (2, .int (nI (i))), (3, .int (nI (N)))] := by subst hi; exact lv_sub hl [2, 3, 1, 0] rfl
  replace hP : va_P (gD g) vwCl [(q, .inl (gI g, N, .inl f1))] H := by rw [hH1, hf1]; exact hP
  replace hD : va_D A [(q, .inl (gI g, N, .inl f1))] := by rw [hf1]; exact hD
  replace hS : va_S A s.heap H locs := by rw [hH1, hL1]; exact hS
  have hF : ∀ j, j < i → f1 j = v := fun j h => by omega
  have hi2 : i ≤ N := by omega
  clear hi hf1 hH1 hL1
  obtain ⟨d, hd⟩ : ∃ d, N - i = d := ⟨_, rfl⟩
  induction d using Nat.strongRecOn generalizing i f1 ls H locs with
  | ind d ih =>
    refine lv_iload_n hx hb dJ7_fill_53178_5 rfl (lv_at hl 2 rfl) ?_
    refine lv_iload_n hx hb dJ7_fill_53178_6 rfl (lv_at hl 3 rfl) ?_
    refine lv_icmp_ge (tgt := 20) hx hb dJ7_fill_53178_7 (by decide) (fun c_7_2 => ?_) (fun c_7_2 => ?_)
    · have i_7 : (((N : Nat) : Int) : Int) ≤ ((i : Nat) : Int) := q_le c_7_2 (l_nI (by omega)) (l_nI (by omega))
      exact W.vret hx hb hr (fun t ht hW => ⟨⟨f1, rfl, fun j h => hF j (by omega), by rw [ht]; exact hP, hD⟩, hS.F ht⟩) hS.2.2 dJ7_fill_53178_20
    · have i_7 : (((i : Nat) : Int) : Int) < ((N : Nat) : Int) := q_nle c_7_2 (l_nI (by omega)) (l_nI (by omega))
      refine lv_aload_n hx hb dJ7_fill_53178_10 rfl (lv_at hl 0 rfl) ?_
      refine lv_iload_n hx hb dJ7_fill_53178_11 rfl (lv_at hl 2 rfl) ?_
      refine lv_iload_n hx hb dJ7_fill_53178_12 rfl (lv_at hl 1 rfl) ?_
      refine ga_iast (j := i) hx hb hK.1 hP hD hS 0 0 rfl rfl (v_nI (by omega) (by omega)) (c_nI (by omega)) dJ7_fill_53178_13 (fun H locs hP hD hS => ?_)
      have hP : va_P (gD g) vwCl ([(q, .inl (gI g, N, .inl (upd f1 (i) v)))]) H := hP
      have hD : va_D A ([(q, .inl (gI g, N, .inl (upd f1 (i) v)))]) := hD
      refine lv_iinc (v := (nI (i + 1))) (lv' := [(2, .int (nI (i + 1))), (0, .ref q), (1, .int v), (3, .int (nI (N)))]) hx hb dJ7_fill_53178_14 hl (k := 2) rfl (nI_1 _) (by decide) rfl (fun ls hl => ?_)
      refine lv_goto (tgt := 5) hx hb dJ7_fill_53178_17 (by decide) ?_
      exact ih (N - (i + 1)) (by omega) ls H locs (upd f1 i v) (i + 1) (lv_sub hl [1, 2, 0, 3] rfl) hP hD hS (up_lt hF) (by omega) rfl
/-- the units behind a row -/
def usF (U : US) (k u c : Int32) : US := (if 1 ≤ u.toInt ∧ u.toInt ≤ 60 then upd U.lk u.toNatClampNeg k else U.lk, if 0 ≤ c.toInt ∧ c.toInt < 32 then upd U.ch c.toNatClampNeg u else U.ch)
/-- the units as the first k rows leave them -/
def usA (S : RS) (U : US) : Nat → US
  | 0 => U
  | k + 1 => usF (usA S U k) (S.kd (k + 1)) (S.un (k + 1)) (S.ce (k + 1))
set_option maxHeartbeats 4000000 in
set_option maxRecDepth 100000 in
theorem c_X2_follow (l : Launch) (g : GG) (a : Nat → Nat) (U : US) (sz : Nat) (p1 p2 p3 : Int32) : Met l yX2_follow wsX2_follow { frames := 1, cells := 0, slots := 0, locals := 20 } (va_Pc [.ref (a 0), .int p1, .int p2, .int p3] (Pw g (wU g a U) sz)) (va_Qv (fun u => u = usF U p1 p2 p3) (Bw g (va_A (wU g a U) sz) (wU g a)) (va_A (wU g a U) sz)) 0 0 (va_A (wU g a U) sz) := by
  refine Met.ofW (cc := cX2_follow) (maxL := 4) (ret := none) (by decide) rfl ?_
  intro p e s m args below meth c s₁ B hml hv
  obtain ⟨rfl, hsz, hP, hK, hD0⟩ := hv
  have hx := B.exec
  have hb := B.bytes
  have hr := B.returns
  have hts := atoms_spec (ws := wsX2_follow) B.pre
  have hown : s.vm.findClass RX2 = some m.cls := findClass_of_methodNamed B.named
  have hlocks := B.notSynchronized
  subst hsz
  have hD := hD0.self (sz := s.heap.size)
  generalize hAe : va_A (wU g a U) s.heap.size = A at hD ⊢
  have hA : ∀ q : Nat, s.heap.size ≤ q → A q := fun q h => by rw [← hAe]; exact Or.inr h
  have hS : va_S A s.heap s.heap [] := va_S.rf
  have hl := lv_entry ([.ref (a 0), .int p1, .int p2, .int p3]) (n := 4) (Nat.le_of_ble_eq_true rfl)
  rw [lg_entry_eq]
  generalize (lg_sl ([.ref (a 0), .int p1, .int p2, .int p3]) ++ List.replicate (4 - (lg_sl ([.ref (a 0), .int p1, .int p2, .int p3])).length) Slot.unset).toArray = ls at hl ⊢
  have hl : lv_has ls 4 [(0, .ref (a 0)), (1, .int p1), (2, .int p2), (3, .int p3)] := hl
  refine lv_iload_n hx hb dX2_follow_0 rfl (lv_at hl 2 rfl) ?_
  refine vp_callSi (va_Run.run (va_runSN (host := "LogForward") (As := [.int p2]) (rest := []) ⟨hx, hb, hml, hown, hts⟩ (c_X3_isUnit l g p2) ⟨va_cnB 1 hts gX2_follow_X3_isUnit_n24 rfl rfl rfl hK.2.1 (hts (.initialized RX3) (by decide +kernel)) (by decide +kernel) ⟨Nat.le_of_ble_eq_true rfl, Nat.le_of_ble_eq_true rfl⟩, hts (.static yX3_isUnit) (by decide +kernel), trivial⟩ (ps_r hK hP [] rfl) rfl rfl hl.1 rfl (lv_room (Nat.le_of_ble_eq_true rfl)) dX2_follow_1 ⟨Nat.zero_le _, Nat.zero_le _⟩)) (fun r_1_1 h_1_1 => ?_)
  refine lv_if_eq (tgt := 14) hx hb dX2_follow_4 (by decide) (fun c_4_1 => ?_) (fun c_4_1 => ?_)
  · have b_4 : ¬ (1 ≤ (p2).toInt ∧ (p2).toInt ≤ 60) := bI_f h_1_1 c_4_1
    refine lv_iload_n hx hb dX2_follow_14 rfl (lv_at hl 3 rfl) ?_
    refine vp_callSi (va_Run.run (va_runSN (host := "LogForward") (As := [.int p3]) (rest := []) ⟨hx, hb, hml, hown, hts⟩ (c_X3_isCell l g p3) ⟨va_cnB 1 hts gX2_follow_X3_isCell_n28 rfl rfl rfl hK.2.2 (hts (.initialized RX3) (by decide +kernel)) (by decide +kernel) ⟨Nat.le_of_ble_eq_true rfl, Nat.le_of_ble_eq_true rfl⟩, hts (.static yX3_isCell) (by decide +kernel), trivial⟩ (ps_r hK hP [] rfl) rfl rfl hl.1 rfl (lv_room (Nat.le_of_ble_eq_true rfl)) dX2_follow_15 ⟨Nat.zero_le _, Nat.zero_le _⟩)) (fun r_15_2 h_15_2 => ?_)
    refine lv_if_eq (tgt := 28) hx hb dX2_follow_18 (by decide) (fun c_18_2 => ?_) (fun c_18_2 => ?_)
    · have b_18 : ¬ (0 ≤ (p3).toInt ∧ (p3).toInt < 32) := bI_f h_15_2 c_18_2
      have hP9 : va_P (gD g) vwCl (wU g a U) s.heap := hP
      have hD9 : va_D A (wU g a U) := hD
      exact W.vret hx hb hr (fun t ht hW => ⟨⟨U, rfl, (by simp [usF, b_4, b_18]), by rw [ht]; exact hP9, hD9⟩, hS.F ht⟩) hS.2.2 dX2_follow_28
    · have b_18 : 0 ≤ (p3).toInt ∧ (p3).toInt < 32 := bI_t h_15_2 c_18_2
      refine lv_aload_n hx hb dX2_follow_21 rfl (lv_at hl 0 rfl) ?_
      refine va_get (D := gD g) (ci := 4) (v := .ref (a 2)) (C := RX2) (T := TX2) (N := 2) hx hb hts (by decide +kernel) hown hK.1 hP 0 rfl rfl 1 (by decide) (hts (.fieldLink RX2 15 "LogForward$Units" "changer" "[I") (by decide +kernel)) (fun _ h9 => h9) rfl dX2_follow_22 ?_
      refine lv_iload_n hx hb dX2_follow_25 rfl (lv_at hl 3 rfl) ?_
      refine lv_iload_n hx hb dX2_follow_26 rfl (lv_at hl 2 rfl) ?_
      refine ga_iast (j := p3.toNatClampNeg) hx hb hK.1 hP hD hS 2 0 rfl rfl (v_p (by omega) (by omega)) rfl dX2_follow_27 (fun H locs hP hD hS => ?_)
      have hP : va_P (gD g) vwCl ([((a 0), .inr (4, [.ref (a 1), .ref (a 2)])), ((a 1), .inl (gI g, 61, .inl U.lk)), ((a 2), .inl (gI g, 32, .inl (upd U.ch (p3.toNatClampNeg) p2)))]) H := hP
      have hD : va_D A ([((a 0), .inr (4, [.ref (a 1), .ref (a 2)])), ((a 1), .inl (gI g, 61, .inl U.lk)), ((a 2), .inl (gI g, 32, .inl (upd U.ch (p3.toNatClampNeg) p2)))]) := hD
      have hP9 : va_P (gD g) vwCl (wU g a (U.lk, (upd U.ch (p3.toNatClampNeg) p2))) H := hP
      have hD9 : va_D A (wU g a (U.lk, (upd U.ch (p3.toNatClampNeg) p2))) := hD
      exact W.vret hx hb hr (fun t ht hW => ⟨⟨(U.lk, (upd U.ch (p3.toNatClampNeg) p2)), rfl, (by simp [usF, b_4, b_18]), by rw [ht]; exact hP9, hD9⟩, hS.F ht⟩) hS.2.2 dX2_follow_28
  · have b_4 : 1 ≤ (p2).toInt ∧ (p2).toInt ≤ 60 := bI_t h_1_1 c_4_1
    refine lv_aload_n hx hb dX2_follow_7 rfl (lv_at hl 0 rfl) ?_
    refine va_get (D := gD g) (ci := 4) (v := .ref (a 1)) (C := RX2) (T := TX2) (N := 2) hx hb hts (by decide +kernel) hown hK.1 hP 0 rfl rfl 0 (by decide) (hts (.fieldLink RX2 9 "LogForward$Units" "latestKind" "[I") (by decide +kernel)) (fun _ h9 => h9) rfl dX2_follow_8 ?_
    refine lv_iload_n hx hb dX2_follow_11 rfl (lv_at hl 2 rfl) ?_
    refine lv_iload_n hx hb dX2_follow_12 rfl (lv_at hl 1 rfl) ?_
    refine ga_iast (j := p2.toNatClampNeg) hx hb hK.1 hP hD hS 1 0 rfl rfl (v_p (by omega) (by omega)) rfl dX2_follow_13 (fun H locs hP hD hS => ?_)
    have hP : va_P (gD g) vwCl ([((a 0), .inr (4, [.ref (a 1), .ref (a 2)])), ((a 1), .inl (gI g, 61, .inl (upd U.lk (p2.toNatClampNeg) p1))), ((a 2), .inl (gI g, 32, .inl U.ch))]) H := hP
    have hD : va_D A ([((a 0), .inr (4, [.ref (a 1), .ref (a 2)])), ((a 1), .inl (gI g, 61, .inl (upd U.lk (p2.toNatClampNeg) p1))), ((a 2), .inl (gI g, 32, .inl U.ch))]) := hD
    refine lv_iload_n hx hb dX2_follow_14 rfl (lv_at hl 3 rfl) ?_
    refine vp_callSi (va_Run.run (va_runSN (host := "LogForward") (As := [.int p3]) (rest := []) ⟨hx, hb, hml, hown, hts⟩ (c_X3_isCell l g p3) ⟨va_cnB 1 hts gX2_follow_X3_isCell_n28 rfl rfl rfl hK.2.2 (hts (.initialized RX3) (by decide +kernel)) (by decide +kernel) ⟨Nat.le_of_ble_eq_true rfl, Nat.le_of_ble_eq_true rfl⟩, hts (.static yX3_isCell) (by decide +kernel), trivial⟩ (ps_r hK hP [] rfl) rfl rfl hl.1 rfl (lv_room (Nat.le_of_ble_eq_true rfl)) dX2_follow_15 ⟨Nat.zero_le _, Nat.zero_le _⟩)) (fun r_15_2 h_15_2 => ?_)
    refine lv_if_eq (tgt := 28) hx hb dX2_follow_18 (by decide) (fun c_18_2 => ?_) (fun c_18_2 => ?_)
    · have b_18 : ¬ (0 ≤ (p3).toInt ∧ (p3).toInt < 32) := bI_f h_15_2 c_18_2
      have hP9 : va_P (gD g) vwCl (wU g a ((upd U.lk (p2.toNatClampNeg) p1), U.ch)) H := hP
      have hD9 : va_D A (wU g a ((upd U.lk (p2.toNatClampNeg) p1), U.ch)) := hD
      exact W.vret hx hb hr (fun t ht hW => ⟨⟨((upd U.lk (p2.toNatClampNeg) p1), U.ch), rfl, (by simp [usF, b_4, b_18]), by rw [ht]; exact hP9, hD9⟩, hS.F ht⟩) hS.2.2 dX2_follow_28
    · have b_18 : 0 ≤ (p3).toInt ∧ (p3).toInt < 32 := bI_t h_15_2 c_18_2
      refine lv_aload_n hx hb dX2_follow_21 rfl (lv_at hl 0 rfl) ?_
      refine va_get (D := gD g) (ci := 4) (v := .ref (a 2)) (C := RX2) (T := TX2) (N := 2) hx hb hts (by decide +kernel) hown hK.1 hP 0 rfl rfl 1 (by decide) (hts (.fieldLink RX2 15 "LogForward$Units" "changer" "[I") (by decide +kernel)) (fun _ h9 => h9) rfl dX2_follow_22 ?_
      refine lv_iload_n hx hb dX2_follow_25 rfl (lv_at hl 3 rfl) ?_
      refine lv_iload_n hx hb dX2_follow_26 rfl (lv_at hl 2 rfl) ?_
      refine ga_iast (j := p3.toNatClampNeg) hx hb hK.1 hP hD hS 2 0 rfl rfl (v_p (by omega) (by omega)) rfl dX2_follow_27 (fun H locs hP hD hS => ?_)
      have hP : va_P (gD g) vwCl ([((a 0), .inr (4, [.ref (a 1), .ref (a 2)])), ((a 1), .inl (gI g, 61, .inl (upd U.lk (p2.toNatClampNeg) p1))), ((a 2), .inl (gI g, 32, .inl (upd U.ch (p3.toNatClampNeg) p2)))]) H := hP
      have hD : va_D A ([((a 0), .inr (4, [.ref (a 1), .ref (a 2)])), ((a 1), .inl (gI g, 61, .inl (upd U.lk (p2.toNatClampNeg) p1))), ((a 2), .inl (gI g, 32, .inl (upd U.ch (p3.toNatClampNeg) p2)))]) := hD
      have hP9 : va_P (gD g) vwCl (wU g a ((upd U.lk (p2.toNatClampNeg) p1), (upd U.ch (p3.toNatClampNeg) p2))) H := hP
      have hD9 : va_D A (wU g a ((upd U.lk (p2.toNatClampNeg) p1), (upd U.ch (p3.toNatClampNeg) p2))) := hD
      exact W.vret hx hb hr (fun t ht hW => ⟨⟨((upd U.lk (p2.toNatClampNeg) p1), (upd U.ch (p3.toNatClampNeg) p2)), rfl, (by simp [usF, b_4, b_18]), by rw [ht]; exact hP9, hD9⟩, hS.F ht⟩) hS.2.2 dX2_follow_28
set_option maxHeartbeats 4000000 in
set_option maxRecDepth 100000 in
theorem c_X2_followAll (l : Launch) (g : GG) (a b : Nat → Nat) (U : US) (S : RS) (sz t : Nat) (ht : t ≤ S.n) (hn : S.n ≤ 2000) : Met l yX2_followAll wsX2_followAll { frames := 2, cells := 0, slots := 0, locals := 43 } (va_Pc [.ref (a 0), .ref (b 0), .int (nI t)] (Pw g (wU g a U ++ wR g b S) sz)) (va_Qv (fun u => ∃ U0 : US, (∀ j, j < 61 → U0.lk j = -1) ∧ (∀ j, j < 32 → U0.ch j = 0) ∧ u = usA S U0 t) (Bw g (va_A (wU g a U ++ wR g b S) sz) (fun u => wU g a u ++ wR g b S)) (va_A (wU g a U ++ wR g b S) sz)) 0 0 (va_A (wU g a U ++ wR g b S) sz) := by
  refine Met.ofW (cc := cX2_followAll) (maxL := 4) (ret := none) (by decide) rfl ?_
  intro p e s m args below meth c s₁ B hml hv
  obtain ⟨rfl, hsz, hP, hK, hD0⟩ := hv
  have hx := B.exec
  have hb := B.bytes
  have hr := B.returns
  have hts := atoms_spec (ws := wsX2_followAll) B.pre
  have hown : s.vm.findClass RX2 = some m.cls := findClass_of_methodNamed B.named
  have hlocks := B.notSynchronized
  subst hsz
  have hD := hD0.self (sz := s.heap.size)
  generalize hAe : va_A (wU g a U ++ wR g b S) s.heap.size = A at hD ⊢
  have hA : ∀ q : Nat, s.heap.size ≤ q → A q := fun q h => by rw [← hAe]; exact Or.inr h
  have hS : va_S A s.heap s.heap [] := va_S.rf
  have hl := lv_entry ([.ref (a 0), .ref (b 0), .int (nI (t))]) (n := 4) (Nat.le_of_ble_eq_true rfl)
  rw [lg_entry_eq]
  generalize (lg_sl ([.ref (a 0), .ref (b 0), .int (nI (t))]) ++ List.replicate (4 - (lg_sl ([.ref (a 0), .ref (b 0), .int (nI (t))])).length) Slot.unset).toArray = ls at hl ⊢
  have hl : lv_has ls 4 [(0, .ref (a 0)), (1, .ref (b 0)), (2, .int (nI (t)))] := hl
  refine lv_aload_n hx hb dX2_followAll_0 rfl (lv_at hl 0 rfl) ?_
  refine va_get (D := gD g) (ci := 4) (v := .ref (a 1)) (C := RX2) (T := TX2) (N := 2) hx hb hts (by decide +kernel) hown hK.1 hP 0 rfl rfl 0 (by decide) (hts (.fieldLink RX2 9 "LogForward$Units" "latestKind" "[I") (by decide +kernel)) (fun _ h9 => h9) rfl dX2_followAll_1 ?_
  refine lv_iconst (v := (-1)) hx hb dX2_followAll_4 (by decide) ?_
  have hPc := hP.sub (ws' := [((a 1), .inl (gI g, 61, .inl U.lk))]) [1] rfl
  have hDc := hD.sub (ws' := [((a 1), .inl (gI g, 61, .inl U.lk))]) [1] (by decide) rfl
  refine cq_v (X := [((a 0), .inr (4, [.ref (a 1), .ref (a 2)])), ((a 1), .inl (gI g, 61, .inl U.lk)), ((a 2), .inl (gI g, 32, .inl U.ch)), ((b 0), .inr (3, [.ref (b 1), .ref (b 2), .ref (b 3), .ref (b 4), .ref (b 5), .ref (b 6), .ref (b 7), .int (nI (S.n)), .int (nI (S.ar))])), ((b 1), .inl (gI g, 2001, .inl S.kd)), ((b 2), .inl (gI g, 2001, .inl S.un)), ((b 3), .inl (gI g, 2001, .inl S.ce)), ((b 4), .inl (gJ g, 2001, .inr (.inl S.bf))), ((b 5), .inl (gJ g, 2001, .inr (.inl S.af))), ((b 6), .inl (gI g, 2001, .inl S.tn)), ((b 7), .inl (gZ g, 2001, .inl S.bk))]) (pl := []) (cx := [((a 1), .inl (gI g, 61, .inl U.lk))]) (wr := [((a 0), .inr (4, [.ref (a 1), .ref (a 2)])), ((a 2), .inl (gI g, 32, .inl U.ch)), ((b 0), .inr (3, [.ref (b 1), .ref (b 2), .ref (b 3), .ref (b 4), .ref (b 5), .ref (b 6), .ref (b 7), .int (nI (S.n)), .int (nI (S.ar))])), ((b 1), .inl (gI g, 2001, .inl S.kd)), ((b 2), .inl (gI g, 2001, .inl S.un)), ((b 3), .inl (gI g, 2001, .inl S.ce)), ((b 4), .inl (gJ g, 2001, .inr (.inl S.bf))), ((b 5), .inl (gJ g, 2001, .inr (.inl S.af))), ((b 6), .inl (gI g, 2001, .inl S.tn)), ((b 7), .inl (gZ g, 2001, .inl S.bk))]) (va_runS (As := [.ref (a 1), .int (-1)]) (rest := []) ⟨hx, hb, hml, hown, hts⟩ (c_J7_fill_53178 l g (a 1) 61 U.lk (-1) s.heap.size (by decide)) (va_cwS 2 hts gX2_followAll_J7_fill_53178 rfl rfl rfl (by decide +kernel) ⟨Nat.le_of_ble_eq_true rfl, Nat.le_of_ble_eq_true rfl⟩) (ps_w hK hPc hDc) rfl rfl hl.1 rfl (lv_room (Nat.le_of_ble_eq_true rfl)) dX2_followAll_5 ⟨Nat.zero_le _, Nat.zero_le _⟩) hP hD hS hA [1] [0, 2, 3, 4, 5, 6, 7, 8, 9, 10] rfl rfl (by decide) (by decide) (fun u_5_1 H locs h_5_1 hP hD hS => ?_)
  replace hP := hP.sub (ws' := [((a 0), .inr (4, [.ref (a 1), .ref (a 2)])), ((a 1), .inl (gI g, 61, .inl u_5_1)), ((a 2), .inl (gI g, 32, .inl U.ch)), ((b 0), .inr (3, [.ref (b 1), .ref (b 2), .ref (b 3), .ref (b 4), .ref (b 5), .ref (b 6), .ref (b 7), .int (nI (S.n)), .int (nI (S.ar))])), ((b 1), .inl (gI g, 2001, .inl S.kd)), ((b 2), .inl (gI g, 2001, .inl S.un)), ((b 3), .inl (gI g, 2001, .inl S.ce)), ((b 4), .inl (gJ g, 2001, .inr (.inl S.bf))), ((b 5), .inl (gJ g, 2001, .inr (.inl S.af))), ((b 6), .inl (gI g, 2001, .inl S.tn)), ((b 7), .inl (gZ g, 2001, .inl S.bk))]) [0, 10, 1, 2, 3, 4, 5, 6, 7, 8, 9] rfl
  replace hD := hD.sub (ws' := [((a 0), .inr (4, [.ref (a 1), .ref (a 2)])), ((a 1), .inl (gI g, 61, .inl u_5_1)), ((a 2), .inl (gI g, 32, .inl U.ch)), ((b 0), .inr (3, [.ref (b 1), .ref (b 2), .ref (b 3), .ref (b 4), .ref (b 5), .ref (b 6), .ref (b 7), .int (nI (S.n)), .int (nI (S.ar))])), ((b 1), .inl (gI g, 2001, .inl S.kd)), ((b 2), .inl (gI g, 2001, .inl S.un)), ((b 3), .inl (gI g, 2001, .inl S.ce)), ((b 4), .inl (gJ g, 2001, .inr (.inl S.bf))), ((b 5), .inl (gJ g, 2001, .inr (.inl S.af))), ((b 6), .inl (gI g, 2001, .inl S.tn)), ((b 7), .inl (gZ g, 2001, .inl S.bk))]) [0, 10, 1, 2, 3, 4, 5, 6, 7, 8, 9] (by decide) rfl
  refine lv_aload_n hx hb dX2_followAll_8 rfl (lv_at hl 0 rfl) ?_
  refine va_get (D := gD g) (ci := 4) (v := .ref (a 2)) (C := RX2) (T := TX2) (N := 2) hx hb hts (by decide +kernel) hown hK.1 hP 0 rfl rfl 1 (by decide) (hts (.fieldLink RX2 15 "LogForward$Units" "changer" "[I") (by decide +kernel)) (fun _ h9 => h9) rfl dX2_followAll_9 ?_
  refine lv_iconst (v := 0) hx hb dX2_followAll_12 (by decide) ?_
  have hPc := hP.sub (ws' := [((a 2), .inl (gI g, 32, .inl U.ch))]) [2] rfl
  have hDc := hD.sub (ws' := [((a 2), .inl (gI g, 32, .inl U.ch))]) [2] (by decide) rfl
  refine cq_v (X := [((a 0), .inr (4, [.ref (a 1), .ref (a 2)])), ((a 1), .inl (gI g, 61, .inl u_5_1)), ((a 2), .inl (gI g, 32, .inl U.ch)), ((b 0), .inr (3, [.ref (b 1), .ref (b 2), .ref (b 3), .ref (b 4), .ref (b 5), .ref (b 6), .ref (b 7), .int (nI (S.n)), .int (nI (S.ar))])), ((b 1), .inl (gI g, 2001, .inl S.kd)), ((b 2), .inl (gI g, 2001, .inl S.un)), ((b 3), .inl (gI g, 2001, .inl S.ce)), ((b 4), .inl (gJ g, 2001, .inr (.inl S.bf))), ((b 5), .inl (gJ g, 2001, .inr (.inl S.af))), ((b 6), .inl (gI g, 2001, .inl S.tn)), ((b 7), .inl (gZ g, 2001, .inl S.bk))]) (pl := []) (cx := [((a 2), .inl (gI g, 32, .inl U.ch))]) (wr := [((a 0), .inr (4, [.ref (a 1), .ref (a 2)])), ((a 1), .inl (gI g, 61, .inl u_5_1)), ((b 0), .inr (3, [.ref (b 1), .ref (b 2), .ref (b 3), .ref (b 4), .ref (b 5), .ref (b 6), .ref (b 7), .int (nI (S.n)), .int (nI (S.ar))])), ((b 1), .inl (gI g, 2001, .inl S.kd)), ((b 2), .inl (gI g, 2001, .inl S.un)), ((b 3), .inl (gI g, 2001, .inl S.ce)), ((b 4), .inl (gJ g, 2001, .inr (.inl S.bf))), ((b 5), .inl (gJ g, 2001, .inr (.inl S.af))), ((b 6), .inl (gI g, 2001, .inl S.tn)), ((b 7), .inl (gZ g, 2001, .inl S.bk))]) (va_runS (As := [.ref (a 2), .int 0]) (rest := []) ⟨hx, hb, hml, hown, hts⟩ (c_J7_fill_53178 l g (a 2) 32 U.ch 0 H.size (by decide)) (va_cwS 2 hts gX2_followAll_J7_fill_53178 rfl rfl rfl (by decide +kernel) ⟨Nat.le_of_ble_eq_true rfl, Nat.le_of_ble_eq_true rfl⟩) (ps_w hK hPc hDc) rfl rfl hl.1 rfl (lv_room (Nat.le_of_ble_eq_true rfl)) dX2_followAll_13 ⟨Nat.zero_le _, Nat.zero_le _⟩) hP hD hS hA [2] [0, 1, 3, 4, 5, 6, 7, 8, 9, 10] rfl rfl (by decide) (by decide) (fun u_13_1 H locs h_13_1 hP hD hS => ?_)
  replace hP := hP.sub (ws' := [((a 0), .inr (4, [.ref (a 1), .ref (a 2)])), ((a 1), .inl (gI g, 61, .inl u_5_1)), ((a 2), .inl (gI g, 32, .inl u_13_1)), ((b 0), .inr (3, [.ref (b 1), .ref (b 2), .ref (b 3), .ref (b 4), .ref (b 5), .ref (b 6), .ref (b 7), .int (nI (S.n)), .int (nI (S.ar))])), ((b 1), .inl (gI g, 2001, .inl S.kd)), ((b 2), .inl (gI g, 2001, .inl S.un)), ((b 3), .inl (gI g, 2001, .inl S.ce)), ((b 4), .inl (gJ g, 2001, .inr (.inl S.bf))), ((b 5), .inl (gJ g, 2001, .inr (.inl S.af))), ((b 6), .inl (gI g, 2001, .inl S.tn)), ((b 7), .inl (gZ g, 2001, .inl S.bk))]) [0, 1, 10, 2, 3, 4, 5, 6, 7, 8, 9] rfl
  replace hD := hD.sub (ws' := [((a 0), .inr (4, [.ref (a 1), .ref (a 2)])), ((a 1), .inl (gI g, 61, .inl u_5_1)), ((a 2), .inl (gI g, 32, .inl u_13_1)), ((b 0), .inr (3, [.ref (b 1), .ref (b 2), .ref (b 3), .ref (b 4), .ref (b 5), .ref (b 6), .ref (b 7), .int (nI (S.n)), .int (nI (S.ar))])), ((b 1), .inl (gI g, 2001, .inl S.kd)), ((b 2), .inl (gI g, 2001, .inl S.un)), ((b 3), .inl (gI g, 2001, .inl S.ce)), ((b 4), .inl (gJ g, 2001, .inr (.inl S.bf))), ((b 5), .inl (gJ g, 2001, .inr (.inl S.af))), ((b 6), .inl (gI g, 2001, .inl S.tn)), ((b 7), .inl (gZ g, 2001, .inl S.bk))]) [0, 1, 10, 2, 3, 4, 5, 6, 7, 8, 9] (by decide) rfl
  refine lv_iconst (v := 1) hx hb dX2_followAll_16 (by decide) ?_
  refine lv_istore_n (lv' := [(3, .int 1), (0, .ref (a 0)), (1, .ref (b 0)), (2, .int (nI (t)))]) hx hb dX2_followAll_17 rfl hl (by decide) rfl (fun ls hl => ?_)
  obtain ⟨U0, hU0⟩ : ∃ U0 : US, U0 = (u_5_1, u_13_1) := ⟨_, rfl⟩
  have hz : (∀ j, j < 61 → U0.lk j = -1) ∧ (∀ j, j < 32 → U0.ch j = 0) := by rw [hU0]; exact ⟨h_5_1, h_13_1⟩
  refine g_heap (fun H locs hH1 hL1 => ?_)
  obtain ⟨U1, hU1⟩ : ∃ U1 : US, U1 = usA S U0 0 := ⟨_, rfl⟩
  obtain ⟨i, hi⟩ : ∃ i : Nat, i = 1 := ⟨1, rfl⟩
  replace hl : lv_has ls 4 [(0, .ref (a 0)), (1, .ref (b 0)), (2, .int (nI (t))), (3, .int (nI (i)))] := by subst hi; exact lv_sub hl [1, 2, 3, 0] rfl
  replace hP : va_P (gD g) vwCl [((a 0), .inr (4, [.ref (a 1), .ref (a 2)])), ((a 1), .inl (gI g, 61, .inl U1.lk)), ((a 2), .inl (gI g, 32, .inl U1.ch)), ((b 0), .inr (3, [.ref (b 1), .ref (b 2), .ref (b 3), .ref (b 4), .ref (b 5), .ref (b 6), .ref (b 7), .int (nI (S.n)), .int (nI (S.ar))])), ((b 1), .inl (gI g, 2001, .inl S.kd)), ((b 2), .inl (gI g, 2001, .inl S.un)), ((b 3), .inl (gI g, 2001, .inl S.ce)), ((b 4), .inl (gJ g, 2001, .inr (.inl S.bf))), ((b 5), .inl (gJ g, 2001, .inr (.inl S.af))), ((b 6), .inl (gI g, 2001, .inl S.tn)), ((b 7), .inl (gZ g, 2001, .inl S.bk))] H := by rw [hH1, hU1, show usA S U0 0 = U0 from rfl, hU0]; exact hP
  replace hD : va_D A [((a 0), .inr (4, [.ref (a 1), .ref (a 2)])), ((a 1), .inl (gI g, 61, .inl U1.lk)), ((a 2), .inl (gI g, 32, .inl U1.ch)), ((b 0), .inr (3, [.ref (b 1), .ref (b 2), .ref (b 3), .ref (b 4), .ref (b 5), .ref (b 6), .ref (b 7), .int (nI (S.n)), .int (nI (S.ar))])), ((b 1), .inl (gI g, 2001, .inl S.kd)), ((b 2), .inl (gI g, 2001, .inl S.un)), ((b 3), .inl (gI g, 2001, .inl S.ce)), ((b 4), .inl (gJ g, 2001, .inr (.inl S.bf))), ((b 5), .inl (gJ g, 2001, .inr (.inl S.af))), ((b 6), .inl (gI g, 2001, .inl S.tn)), ((b 7), .inl (gZ g, 2001, .inl S.bk))] := by rw [hU1, show usA S U0 0 = U0 from rfl, hU0]; exact hD
  replace hS : va_S A s.heap H locs := by rw [hH1, hL1]; exact hS
  replace hU1 : U1 = usA S U0 (i - 1) := by rw [hi]; exact hU1
  have hi1 : 1 ≤ i := by omega
  have hi2 : i ≤ t + 1 := by omega
  clear hi hH1 hL1 hU0
  obtain ⟨d, hd⟩ : ∃ d, t + 1 - i = d := ⟨_, rfl⟩
  induction d using Nat.strongRecOn generalizing i U1 ls H locs with
  | ind d ih =>
    refine lv_iload_n hx hb dX2_followAll_18 rfl (lv_at hl 3 rfl) ?_
    refine lv_iload_n hx hb dX2_followAll_19 rfl (lv_at hl 2 rfl) ?_
    refine lv_icmp_gt (tgt := 48) hx hb dX2_followAll_20 (by decide) (fun c_20_2 => ?_) (fun c_20_2 => ?_)
    · have i_20 : (((t : Nat) : Int) : Int) < ((i : Nat) : Int) := q_lt c_20_2 (l_nI (by omega)) (l_nI (by omega))
      exact W.vret hx hb hr (fun t9 ht hW => ⟨⟨U1, rfl, ⟨U0, hz.1, hz.2, by rw [hU1, show i - 1 = t by omega]⟩, by rw [ht]; exact hP, hD⟩, hS.F ht⟩) hS.2.2 dX2_followAll_48
    · have i_20 : (((i : Nat) : Int) : Int) ≤ ((t : Nat) : Int) := q_nlt c_20_2 (l_nI (by omega)) (l_nI (by omega))
      refine lv_aload_n hx hb dX2_followAll_23 rfl (lv_at hl 0 rfl) ?_
      refine lv_aload_n hx hb dX2_followAll_24 rfl (lv_at hl 1 rfl) ?_
      refine lv_iload_n hx hb dX2_followAll_25 rfl (lv_at hl 3 rfl) ?_
      refine vp_callSi (va_Run.run (va_runV (As := [.int (nI (i))]) (rest := [.ref (a 0)]) ⟨hx, hb, hml, hown, hts⟩ (c_X1_kindOf l g b S (i) (by omega) (by omega) (by omega)) (cwV 1 hts gX2_followAll_X1_kindOf rfl rfl rfl (by decide +kernel) ⟨Nat.le_of_ble_eq_true rfl, Nat.le_of_ble_eq_true rfl⟩) (pv_r hK hP (ci := 3) (q0 := 3) rfl rfl [3, 4, 5, 6, 7, 8, 9, 10] rfl) rfl rfl hl.1 rfl (lv_room (Nat.le_of_ble_eq_true rfl)) dX2_followAll_26 ⟨Nat.zero_le _, Nat.zero_le _⟩)) (fun r_26_3 h_26_3 => ?_)
      subst h_26_3
      refine lv_aload_n hx hb dX2_followAll_29 rfl (lv_at hl 1 rfl) ?_
      refine lv_iload_n hx hb dX2_followAll_30 rfl (lv_at hl 3 rfl) ?_
      refine vp_callSi (va_Run.run (va_runV (As := [.int (nI (i))]) (rest := [.int (S.kd (i)), .ref (a 0)]) ⟨hx, hb, hml, hown, hts⟩ (c_X1_unitOf l g b S (i) (by omega) (by omega) (by omega)) (cwV 1 hts gX2_followAll_X1_unitOf rfl rfl rfl (by decide +kernel) ⟨Nat.le_of_ble_eq_true rfl, Nat.le_of_ble_eq_true rfl⟩) (pv_r hK hP (ci := 3) (q0 := 3) rfl rfl [3, 4, 5, 6, 7, 8, 9, 10] rfl) rfl rfl hl.1 rfl (lv_room (Nat.le_of_ble_eq_true rfl)) dX2_followAll_31 ⟨Nat.zero_le _, Nat.zero_le _⟩)) (fun r_31_3 h_31_3 => ?_)
      subst h_31_3
      refine lv_aload_n hx hb dX2_followAll_34 rfl (lv_at hl 1 rfl) ?_
      refine lv_iload_n hx hb dX2_followAll_35 rfl (lv_at hl 3 rfl) ?_
      refine vp_callSi (va_Run.run (va_runV (As := [.int (nI (i))]) (rest := [.int (S.un (i)), .int (S.kd (i)), .ref (a 0)]) ⟨hx, hb, hml, hown, hts⟩ (c_X1_cellOf l g b S (i) (by omega) (by omega) (by omega)) (cwV 1 hts gX2_followAll_X1_cellOf rfl rfl rfl (by decide +kernel) ⟨Nat.le_of_ble_eq_true rfl, Nat.le_of_ble_eq_true rfl⟩) (pv_r hK hP (ci := 3) (q0 := 3) rfl rfl [3, 4, 5, 6, 7, 8, 9, 10] rfl) rfl rfl hl.1 rfl (lv_room (Nat.le_of_ble_eq_true rfl)) dX2_followAll_36 ⟨Nat.zero_le _, Nat.zero_le _⟩)) (fun r_36_3 h_36_3 => ?_)
      subst h_36_3
      have hPc := hP.sub (ws' := [((a 0), .inr (4, [.ref (a 1), .ref (a 2)])), ((a 1), .inl (gI g, 61, .inl U1.lk)), ((a 2), .inl (gI g, 32, .inl U1.ch))]) [0, 1, 2] rfl
      have hDc := hD.sub (ws' := [((a 0), .inr (4, [.ref (a 1), .ref (a 2)])), ((a 1), .inl (gI g, 61, .inl U1.lk)), ((a 2), .inl (gI g, 32, .inl U1.ch))]) [0, 1, 2] (by decide) rfl
      refine cq_v (X := [((a 0), .inr (4, [.ref (a 1), .ref (a 2)])), ((a 1), .inl (gI g, 61, .inl U1.lk)), ((a 2), .inl (gI g, 32, .inl U1.ch)), ((b 0), .inr (3, [.ref (b 1), .ref (b 2), .ref (b 3), .ref (b 4), .ref (b 5), .ref (b 6), .ref (b 7), .int (nI (S.n)), .int (nI (S.ar))])), ((b 1), .inl (gI g, 2001, .inl S.kd)), ((b 2), .inl (gI g, 2001, .inl S.un)), ((b 3), .inl (gI g, 2001, .inl S.ce)), ((b 4), .inl (gJ g, 2001, .inr (.inl S.bf))), ((b 5), .inl (gJ g, 2001, .inr (.inl S.af))), ((b 6), .inl (gI g, 2001, .inl S.tn)), ((b 7), .inl (gZ g, 2001, .inl S.bk))]) (pl := []) (cx := [((a 0), .inr (4, [.ref (a 1), .ref (a 2)])), ((a 1), .inl (gI g, 61, .inl U1.lk)), ((a 2), .inl (gI g, 32, .inl U1.ch))]) (wr := [((b 0), .inr (3, [.ref (b 1), .ref (b 2), .ref (b 3), .ref (b 4), .ref (b 5), .ref (b 6), .ref (b 7), .int (nI (S.n)), .int (nI (S.ar))])), ((b 1), .inl (gI g, 2001, .inl S.kd)), ((b 2), .inl (gI g, 2001, .inl S.un)), ((b 3), .inl (gI g, 2001, .inl S.ce)), ((b 4), .inl (gJ g, 2001, .inr (.inl S.bf))), ((b 5), .inl (gJ g, 2001, .inr (.inl S.af))), ((b 6), .inl (gI g, 2001, .inl S.tn)), ((b 7), .inl (gZ g, 2001, .inl S.bk))]) (va_runV (As := [.int (S.kd (i)), .int (S.un (i)), .int (S.ce (i))]) (rest := []) ⟨hx, hb, hml, hown, hts⟩ (c_X2_follow l g a U1 H.size (S.kd (i)) (S.un (i)) (S.ce (i))) (cwV 3 hts gX2_followAll_X2_follow rfl rfl rfl (by decide +kernel) ⟨Nat.le_of_ble_eq_true rfl, Nat.le_of_ble_eq_true rfl⟩) (pv_w hK hP (ci := 4) (q0 := 0) rfl rfl hPc hDc) rfl rfl hl.1 rfl (lv_room (Nat.le_of_ble_eq_true rfl)) dX2_followAll_39 ⟨Nat.zero_le _, Nat.zero_le _⟩) hP hD hS hA [0, 1, 2] [3, 4, 5, 6, 7, 8, 9, 10] rfl rfl (by decide) (by decide) (fun u_39_3 H locs h_39_3 hP hD hS => ?_)
      replace hP := hP.sub (ws' := [((a 0), .inr (4, [.ref (a 1), .ref (a 2)])), ((a 1), .inl (gI g, 61, .inl u_39_3.lk)), ((a 2), .inl (gI g, 32, .inl u_39_3.ch)), ((b 0), .inr (3, [.ref (b 1), .ref (b 2), .ref (b 3), .ref (b 4), .ref (b 5), .ref (b 6), .ref (b 7), .int (nI (S.n)), .int (nI (S.ar))])), ((b 1), .inl (gI g, 2001, .inl S.kd)), ((b 2), .inl (gI g, 2001, .inl S.un)), ((b 3), .inl (gI g, 2001, .inl S.ce)), ((b 4), .inl (gJ g, 2001, .inr (.inl S.bf))), ((b 5), .inl (gJ g, 2001, .inr (.inl S.af))), ((b 6), .inl (gI g, 2001, .inl S.tn)), ((b 7), .inl (gZ g, 2001, .inl S.bk))]) [8, 9, 10, 0, 1, 2, 3, 4, 5, 6, 7] rfl
      replace hD := hD.sub (ws' := [((a 0), .inr (4, [.ref (a 1), .ref (a 2)])), ((a 1), .inl (gI g, 61, .inl u_39_3.lk)), ((a 2), .inl (gI g, 32, .inl u_39_3.ch)), ((b 0), .inr (3, [.ref (b 1), .ref (b 2), .ref (b 3), .ref (b 4), .ref (b 5), .ref (b 6), .ref (b 7), .int (nI (S.n)), .int (nI (S.ar))])), ((b 1), .inl (gI g, 2001, .inl S.kd)), ((b 2), .inl (gI g, 2001, .inl S.un)), ((b 3), .inl (gI g, 2001, .inl S.ce)), ((b 4), .inl (gJ g, 2001, .inr (.inl S.bf))), ((b 5), .inl (gJ g, 2001, .inr (.inl S.af))), ((b 6), .inl (gI g, 2001, .inl S.tn)), ((b 7), .inl (gZ g, 2001, .inl S.bk))]) [8, 9, 10, 0, 1, 2, 3, 4, 5, 6, 7] (by decide) rfl
      refine lv_iinc (v := (nI (i + 1))) (lv' := [(3, .int (nI (i + 1))), (0, .ref (a 0)), (1, .ref (b 0)), (2, .int (nI (t)))]) hx hb dX2_followAll_42 hl (k := 3) rfl (nI_1 _) (by decide) rfl (fun ls hl => ?_)
      refine lv_goto (tgt := 18) hx hb dX2_followAll_45 (by decide) ?_
      exact ih (t + 1 - (i + 1)) (by omega) ls H locs u_39_3 (i + 1) (lv_sub hl [1, 2, 3, 0] rfl) hP hD hS (by obtain ⟨j, rfl⟩ : ∃ j, i = j + 1 := ⟨i - 1, by omega⟩; rw [h_39_3, hU1]; rfl) (by omega) (by omega) rfl
