/-! LogForward: the state, the world -/
theorem c4 (x : Int32) : x = 0 ∨ x = 1 ∨ x = 2 ∨ x = 3 ∨ (x.toInt < 0 ∨ 3 < x.toInt) := by
  have e : ∀ y : Int32, x.toInt = y.toInt → x = y := fun y h => Int32.toInt_inj.mp h
  by_cases h0 : x.toInt = 0
  · exact Or.inl (e 0 h0)
  by_cases h1 : x.toInt = 1
  · exact Or.inr (Or.inl (e 1 h1))
  by_cases h2 : x.toInt = 2
  · exact Or.inr (Or.inr (Or.inl (e 2 h2)))
  by_cases h3 : x.toInt = 3
  · exact Or.inr (Or.inr (Or.inr (Or.inl (e 3 h3))))
  exact Or.inr (Or.inr (Or.inr (Or.inr (by omega))))
abbrev XS : Type := RS × US × US × IS × (Nat → Int64) × Nat
abbrev XS.S (X : XS) : RS := X.1
abbrev XS.U (X : XS) : US := X.2.1
abbrev XS.V (X : XS) : US := X.2.2.1
abbrev XS.I (X : XS) : IS := X.2.2.2.1
abbrev XS.cs (X : XS) : Nat → Int64 := X.2.2.2.2.1
abbrev XS.rg (X : XS) : Nat := X.2.2.2.2.2
abbrev wXc (g : GG) (a r : Nat → Nat) (X : XS) : va_W := [(a 0, .inr (5, [.int (nI X.rg), .ref (a 1), .ref (a 2), .ref (a 10), .ref (a 13), .ref (a 16)])), (a 1, .inl (gJ g, 32, .inr (.inl X.cs)))] ++ (wR g (fun i => a (i + 2)) X.S ++ (wU g (fun i => a (i + 10)) X.U ++ (wU g (fun i => a (i + 13)) X.V ++ wI g (fun i => a (i + 16)) r X.I)))
abbrev wX (g : GG) (a r : Nat → Nat) (X : XS) : va_W := wXc g a r X ++ wG g r X.I.M
/-- a change of a unit that isn't by backing out -/
abbrev isC (S : RS) (p : Int32) (r : Nat) : Prop := (S.kd r = 0 ∧ S.bk r = 0) ∧ S.un r = p
/-- how many such up to k -/
def cnB (S : RS) (p : Int32) : Nat → Nat
  | 0 => 0
  | k + 1 => if isC S p (k + 1) then cnB S p k + 1 else cnB S p k
theorem cnB_le (S : RS) (p : Int32) : ∀ k, cnB S p k ≤ k
  | 0 => Nat.le_refl 0
  | k + 1 => by
    have := cnB_le S p k
    simp only [cnB]
    split <;> omega
/-- the latest such that is missing, 0 without one -/
def lmO (S : RS) (p : Int32) : Nat → Nat
  | 0 => 0
  | k + 1 => if S.tn (k + 1) = 3 ∧ isC S p (k + 1) then k + 1 else lmO S p k
theorem lmO_le (S : RS) (p : Int32) : ∀ k, lmO S p k ≤ k
  | 0 => Nat.le_refl 0
  | k + 1 => by
    have := lmO_le S p k
    simp only [lmO]
    split <;> omega
/-- a change that a recovery backs out -/
abbrev tbB (S : RS) (V : US) (r : Nat) : Prop := (S.kd r = 0 ∧ S.bk r = 0) ∧ opU V (S.un r)
/-- the least row from i on, of d rows, that is missing and needed -/
def lsF (S : RS) (V : US) (p : Int32) : Nat → Nat → Nat
  | 0, _ => 0
  | d + 1, i => if S.tn i = 3 ∧ (p.toInt < i ∨ tbB S V i) then i else lsF S V p d (i + 1)
def cnT (S : RS) (V : US) : Nat → Nat
  | 0 => 0
  | k + 1 => if tbB S V (k + 1) then cnT S V k + 1 else cnT S V k
theorem cnT_le (S : RS) (V : US) : ∀ k, cnT S V k ≤ k
  | 0 => Nat.le_refl 0
  | k + 1 => by
    have := cnT_le S V k
    simp only [cnT]
    split <;> omega
/-- the i-th missing row, of d rows from i on -/
def gpF (S : RS) : Nat → Nat → Int32 → Nat
  | 0, _, _ => 0
  | d + 1, i, x => if S.tn i = 3 then (if x = 0 then i else gpF S d (i + 1) (x + -1)) else gpF S d (i + 1) x
/-- the i-th row of a region -/
def mgF (S : RS) (q p : Int32) : Nat → Nat → Int32 → Nat
  | 0, _, _ => 0
  | d + 1, i, x => if S.un i - S.un i / q * q = p then (if x = 0 then i else mgF S q p d (i + 1) (x + -1)) else mgF S q p d (i + 1) x
theorem lm_no {S : RS} {p : Int32} {i : Nat} (h : 1 ≤ i) (hc : ¬ (S.tn i = 3 ∧ isC S p i)) : lmO S p i = lmO S p (i - 1) := by
  obtain ⟨j, rfl⟩ : ∃ j, i = j + 1 := ⟨i - 1, by omega⟩
  simp only [lmO, Nat.add_sub_cancel]
  rw [if_neg hc]
theorem lm_yes {S : RS} {p : Int32} {i : Nat} (h : 1 ≤ i) (hc : S.tn i = 3 ∧ isC S p i) : lmO S p i = i := by
  obtain ⟨j, rfl⟩ : ∃ j, i = j + 1 := ⟨i - 1, by omega⟩
  simp only [lmO]
  rw [if_pos hc]
theorem ls_no {S : RS} {V : US} {p : Int32} {i t : Nat} (h : i ≤ t) (hc : ¬ (S.tn i = 3 ∧ (p.toInt < i ∨ tbB S V i))) : lsF S V p (t + 1 - i) i = lsF S V p (t + 1 - (i + 1)) (i + 1) := by
  obtain ⟨e, he⟩ : ∃ e, t + 1 - i = e + 1 := ⟨t - i, by omega⟩
  rw [he, show t + 1 - (i + 1) = e by omega]
  simp only [lsF]
  rw [if_neg hc]
theorem ls_yes {S : RS} {V : US} {p : Int32} {i t : Nat} (h : i ≤ t) (hc : S.tn i = 3 ∧ (p.toInt < i ∨ tbB S V i)) : lsF S V p (t + 1 - i) i = i := by
  obtain ⟨e, he⟩ : ∃ e, t + 1 - i = e + 1 := ⟨t - i, by omega⟩
  rw [he]
  simp only [lsF]
  rw [if_pos hc]
theorem ls_end {S : RS} {V : US} {p : Int32} {i t : Nat} (h : t < i) : lsF S V p (t + 1 - i) i = 0 := by
  rw [show t + 1 - i = 0 by omega]
  rfl
theorem gp_no {S : RS} {i t : Nat} {x : Int32} (h : i ≤ t) (hc : ¬ S.tn i = 3) : gpF S (t + 1 - i) i x = gpF S (t + 1 - (i + 1)) (i + 1) x := by
  obtain ⟨e, he⟩ : ∃ e, t + 1 - i = e + 1 := ⟨t - i, by omega⟩
  rw [he, show t + 1 - (i + 1) = e by omega]
  simp only [gpF]
  rw [if_neg hc]
theorem gp_go {S : RS} {i t : Nat} {x : Int32} (h : i ≤ t) (hc : S.tn i = 3) (hx : ¬ x = 0) : gpF S (t + 1 - i) i x = gpF S (t + 1 - (i + 1)) (i + 1) (x + -1) := by
  obtain ⟨e, he⟩ : ∃ e, t + 1 - i = e + 1 := ⟨t - i, by omega⟩
  rw [he, show t + 1 - (i + 1) = e by omega]
  simp only [gpF]
  rw [if_pos hc, if_neg hx]
theorem gp_yes {S : RS} {i t : Nat} {x : Int32} (h : i ≤ t) (hc : S.tn i = 3) (hx : x = 0) : gpF S (t + 1 - i) i x = i := by
  obtain ⟨e, he⟩ : ∃ e, t + 1 - i = e + 1 := ⟨t - i, by omega⟩
  rw [he]
  simp only [gpF]
  rw [if_pos hc, if_pos hx]
theorem gp_end {S : RS} {i t : Nat} {x : Int32} (h : t < i) : gpF S (t + 1 - i) i x = 0 := by
  rw [show t + 1 - i = 0 by omega]
  rfl
theorem gpF_le (S : RS) : ∀ (d i : Nat) (x : Int32), gpF S d i x ≤ i + d
  | 0, i, x => Nat.zero_le _
  | d + 1, i, x => by
    have h1 := gpF_le S d (i + 1) (x + -1)
    have h2 := gpF_le S d (i + 1) x
    simp only [gpF]
    split
    · split <;> omega
    · omega
theorem mg_no {S : RS} {q p : Int32} {i t : Nat} {x : Int32} (h : i ≤ t) (hc : ¬ S.un i - S.un i / q * q = p) : mgF S q p (t + 1 - i) i x = mgF S q p (t + 1 - (i + 1)) (i + 1) x := by
  obtain ⟨e, he⟩ : ∃ e, t + 1 - i = e + 1 := ⟨t - i, by omega⟩
  rw [he, show t + 1 - (i + 1) = e by omega]
  simp only [mgF]
  rw [if_neg hc]
theorem mg_go {S : RS} {q p : Int32} {i t : Nat} {x : Int32} (h : i ≤ t) (hc : S.un i - S.un i / q * q = p) (hx : ¬ x = 0) : mgF S q p (t + 1 - i) i x = mgF S q p (t + 1 - (i + 1)) (i + 1) (x + -1) := by
  obtain ⟨e, he⟩ : ∃ e, t + 1 - i = e + 1 := ⟨t - i, by omega⟩
  rw [he, show t + 1 - (i + 1) = e by omega]
  simp only [mgF]
  rw [if_pos hc, if_neg hx]
theorem mg_yes {S : RS} {q p : Int32} {i t : Nat} {x : Int32} (h : i ≤ t) (hc : S.un i - S.un i / q * q = p) (hx : x = 0) : mgF S q p (t + 1 - i) i x = i := by
  obtain ⟨e, he⟩ : ∃ e, t + 1 - i = e + 1 := ⟨t - i, by omega⟩
  rw [he]
  simp only [mgF]
  rw [if_pos hc, if_pos hx]
theorem mg_end {S : RS} {q p : Int32} {i t : Nat} {x : Int32} (h : t < i) : mgF S q p (t + 1 - i) i x = 0 := by
  rw [show t + 1 - i = 0 by omega]
  rfl
def coX (X : XS) (p : Int32) : Int32 := if p = 0 then nI X.S.n else if p = 1 then nI X.I.k else if p = 2 then nI X.S.ar else if p = 3 then nI (cntU X.U 1 60) else -1
set_option maxHeartbeats 4000000 in
set_option maxRecDepth 100000 in
theorem c_X3_changesOf (l : Launch) (g : GG) (a r : Nat → Nat) (X : XS) (p1 : Int32) (hn : X.S.n ≤ 2000) : Met l yX3_changesOf wsX3_changesOf { frames := 3, cells := 0, slots := 0, locals := 63 } (va_Pc [.ref (a 0), .int p1] (Pr g (wXc g a r X))) (vp_Si (fun rv => rv = nI (cnB X.S p1 X.S.n))) 0 0 (fun _ => False) := by
  refine Met.ofW (cc := cX3_changesOf) (maxL := 4) (ret := (some .int)) (by decide) rfl ?_
  intro p e s m args below meth c s₁ B hml hv
  obtain ⟨rfl, hP, hK⟩ := hv
  have hx := B.exec
  have hb := B.bytes
  have hr := B.returns
  have hts := atoms_spec (ws := wsX3_changesOf) B.pre
  have hown : s.vm.findClass RX3 = some m.cls := findClass_of_methodNamed B.named
  have hlocks := B.notSynchronized
  have hl := lv_entry ([.ref (a 0), .int p1]) (n := 4) (Nat.le_of_ble_eq_true rfl)
  rw [lg_entry_eq]
  generalize (lg_sl ([.ref (a 0), .int p1]) ++ List.replicate (4 - (lg_sl ([.ref (a 0), .int p1])).length) Slot.unset).toArray = ls at hl ⊢
  have hl : lv_has ls 4 [(0, .ref (a 0)), (1, .int p1)] := hl
  replace hP : va_P (gD g) vwCl ([((a 0), .inr (5, [.int (nI (X.rg)), .ref (a 1), .ref (a 2), .ref (a 10), .ref (a 13), .ref (a 16)])), ((a 1), .inl (gJ g, 32, .inr (.inl X.cs))), ((a 2), .inr (3, [.ref (a 3), .ref (a 4), .ref (a 5), .ref (a 6), .ref (a 7), .ref (a 8), .ref (a 9), .int (nI (X.S.n)), .int (nI (X.S.ar))])), ((a 3), .inl (gI g, 2001, .inl X.S.kd)), ((a 4), .inl (gI g, 2001, .inl X.S.un)), ((a 5), .inl (gI g, 2001, .inl X.S.ce)), ((a 6), .inl (gJ g, 2001, .inr (.inl X.S.bf))), ((a 7), .inl (gJ g, 2001, .inr (.inl X.S.af))), ((a 8), .inl (gI g, 2001, .inl X.S.tn)), ((a 9), .inl (gZ g, 2001, .inl X.S.bk)), ((a 10), .inr (4, [.ref (a 11), .ref (a 12)])), ((a 11), .inl (gI g, 61, .inl X.U.lk)), ((a 12), .inl (gI g, 32, .inl X.U.ch)), ((a 13), .inr (4, [.ref (a 14), .ref (a 15)])), ((a 14), .inl (gI g, 61, .inl X.V.lk)), ((a 15), .inl (gI g, 32, .inl X.V.ch)), ((a 16), .inr (2, [.ref (a 17), .ref (a 18), .ref (a 19), .ref (a 20), .int (nI (X.I.k)), .int X.I.uf])), ((a 17), .inl (gI g, 21, .inl X.I.st)), ((a 18), .inl (gI g, 21, .inl X.I.en)), ((a 19), .inl (gZ g, 21, .inl X.I.sp)), ((a 20), .inl (gG g, 21, .inr (.inr (.inr (.inr (gRow r))))))]) s.heap := hP
  refine lv_iconst (v := 0) hx hb dX3_changesOf_0 (by decide) ?_
  refine lv_istore_n (lv' := [(2, .int 0), (0, .ref (a 0)), (1, .int p1)]) hx hb dX3_changesOf_1 rfl hl (by decide) rfl (fun ls hl => ?_)
  refine lv_iconst (v := 1) hx hb dX3_changesOf_2 (by decide) ?_
  refine lv_istore_n (lv' := [(3, .int 1), (2, .int 0), (0, .ref (a 0)), (1, .int p1)]) hx hb dX3_changesOf_3 rfl hl (by decide) rfl (fun ls hl => ?_)
  obtain ⟨i, hi⟩ : ∃ i : Nat, i = 1 := ⟨_, rfl⟩
  replace hl : lv_has ls 4 [(0, .ref (a 0)), (1, .int p1), (2, .int (nI (cnB X.S p1 (i - 1)))), (3, .int (nI (i)))] := by subst hi;  exact lv_sub hl [2, 3, 1, 0] rfl
  have hi1 : 1 ≤ i := by omega
  have hi2 : i ≤ X.S.n + 1 := by omega
  clear hi
  obtain ⟨d, hd⟩ : ∃ d, X.S.n + 1 - i = d := ⟨_, rfl⟩
  induction d using Nat.strongRecOn generalizing i ls with
  | ind d ih =>
    refine lv_iload_n hx hb dX3_changesOf_4 rfl (lv_at hl 3 rfl) ?_
    refine lv_aload_n hx hb dX3_changesOf_5 rfl (lv_at hl 0 rfl) ?_
    refine va_get (D := gD g) (ci := 5) (v := .ref (a 2)) (C := RX3) (T := TX3) (N := 6) hx hb hts (by decide +kernel) hown hK.1 hP 0 rfl rfl 2 (by decide) (hts (.fieldLink RX3 16 "LogForward" "rows" "LLogForward$Rows;") (by decide +kernel)) (fun _ h9 => h9) rfl dX3_changesOf_6 ?_
    refine vp_callSi (va_Run.run (va_runV (As := []) (rest := [.int (nI (i))]) ⟨hx, hb, hml, hown, hts⟩ (c_X1_latest l g (fun i => a (i + 2)) X.S) (cwV 0 hts gX3_changesOf_X1_latest rfl rfl rfl (by decide +kernel) ⟨Nat.le_of_ble_eq_true rfl, Nat.le_of_ble_eq_true rfl⟩) (pv_r hK hP (ci := 3) (q0 := 2) rfl rfl [2, 3, 4, 5, 6, 7, 8, 9] rfl) rfl rfl hl.1 rfl (lv_room (Nat.le_of_ble_eq_true rfl)) dX3_changesOf_9 ⟨Nat.zero_le _, Nat.zero_le _⟩)) (fun r_9_2 h_9_2 => ?_)
    subst h_9_2
    refine lv_icmp_gt (tgt := 47) hx hb dX3_changesOf_12 (by decide) (fun c_12_2 => ?_) (fun c_12_2 => ?_)
    · have i_12 : (((X.S.n : Nat) : Int) : Int) < ((i : Nat) : Int) := q_lt c_12_2 (l_nI (by omega)) (l_nI (by omega))
      refine lv_iload_n hx hb dX3_changesOf_47 rfl (lv_at hl 2 rfl) ?_
      exact W.iret (v := (nI (cnB X.S p1 (i - 1)))) hx hb hr (fun tz htz hWz => ⟨(nI (cnB X.S p1 (i - 1))), rfl, (by rw [show i - 1 = X.S.n by omega]), htz⟩) (fun _ h => nomatch h) dX3_changesOf_48
    · have i_12 : (((i : Nat) : Int) : Int) ≤ ((X.S.n : Nat) : Int) := q_nlt c_12_2 (l_nI (by omega)) (l_nI (by omega))
      refine lv_aload_n hx hb dX3_changesOf_15 rfl (lv_at hl 0 rfl) ?_
      refine va_get (D := gD g) (ci := 5) (v := .ref (a 2)) (C := RX3) (T := TX3) (N := 6) hx hb hts (by decide +kernel) hown hK.1 hP 0 rfl rfl 2 (by decide) (hts (.fieldLink RX3 16 "LogForward" "rows" "LLogForward$Rows;") (by decide +kernel)) (fun _ h9 => h9) rfl dX3_changesOf_16 ?_
      refine lv_iload_n hx hb dX3_changesOf_19 rfl (lv_at hl 3 rfl) ?_
      refine vp_callSi (va_Run.run (va_runV (As := [.int (nI (i))]) (rest := []) ⟨hx, hb, hml, hown, hts⟩ (c_X1_isBackable l g (fun i => a (i + 2)) X.S (i) (by omega) (by omega) (by omega)) (cwV 1 hts gX3_changesOf_X1_isBackable rfl rfl rfl (by decide +kernel) ⟨Nat.le_of_ble_eq_true rfl, Nat.le_of_ble_eq_true rfl⟩) (pv_r hK hP (ci := 3) (q0 := 2) rfl rfl [2, 3, 4, 5, 6, 7, 8, 9] rfl) rfl rfl hl.1 rfl (lv_room (Nat.le_of_ble_eq_true rfl)) dX3_changesOf_20 ⟨Nat.zero_le _, Nat.zero_le _⟩)) (fun r_20_3 h_20_3 => ?_)
      refine lv_if_eq (tgt := 41) hx hb dX3_changesOf_23 (by decide) (fun c_23_3 => ?_) (fun c_23_3 => ?_)
      · have b_23 : ¬ (X.S.kd (i) = 0 ∧ X.S.bk (i) = 0) := bI_f h_20_3 c_23_3
        refine lv_iinc (v := (nI (i + 1))) (lv' := [(3, .int (nI (i + 1))), (0, .ref (a 0)), (1, .int p1), (2, .int (nI (cnB X.S p1 (i - 1))))]) hx hb dX3_changesOf_41 hl (k := 3) rfl (nI_1 _) (by decide) rfl (fun ls hl => ?_)
        refine lv_goto (tgt := 4) hx hb dX3_changesOf_44 (by decide) ?_
        exact ih (X.S.n + 1 - (i + 1)) (by omega) ls (i + 1) (by rw [Nat.add_sub_cancel]; rw [show cnB X.S p1 i = cnB X.S p1 (i - 1) from by obtain ⟨j, rfl⟩ : ∃ j, i = j + 1 := ⟨i - 1, by omega⟩; simp only [cnB, Nat.add_sub_cancel]; simp_all]; exact lv_sub hl [1, 2, 3, 0] rfl) (by omega) (by omega) rfl
      · have b_23 : X.S.kd (i) = 0 ∧ X.S.bk (i) = 0 := bI_t h_20_3 c_23_3
        refine lv_aload_n hx hb dX3_changesOf_26 rfl (lv_at hl 0 rfl) ?_
        refine va_get (D := gD g) (ci := 5) (v := .ref (a 2)) (C := RX3) (T := TX3) (N := 6) hx hb hts (by decide +kernel) hown hK.1 hP 0 rfl rfl 2 (by decide) (hts (.fieldLink RX3 16 "LogForward" "rows" "LLogForward$Rows;") (by decide +kernel)) (fun _ h9 => h9) rfl dX3_changesOf_27 ?_
        refine lv_iload_n hx hb dX3_changesOf_30 rfl (lv_at hl 3 rfl) ?_
        refine vp_callSi (va_Run.run (va_runV (As := [.int (nI (i))]) (rest := []) ⟨hx, hb, hml, hown, hts⟩ (c_X1_unitOf l g (fun i => a (i + 2)) X.S (i) (by omega) (by omega) (by omega)) (cwV 1 hts gX3_changesOf_X1_unitOf rfl rfl rfl (by decide +kernel) ⟨Nat.le_of_ble_eq_true rfl, Nat.le_of_ble_eq_true rfl⟩) (pv_r hK hP (ci := 3) (q0 := 2) rfl rfl [2, 3, 4, 5, 6, 7, 8, 9] rfl) rfl rfl hl.1 rfl (lv_room (Nat.le_of_ble_eq_true rfl)) dX3_changesOf_31 ⟨Nat.zero_le _, Nat.zero_le _⟩)) (fun r_31_4 h_31_4 => ?_)
        subst h_31_4
        refine lv_iload_n hx hb dX3_changesOf_34 rfl (lv_at hl 1 rfl) ?_
        refine lv_icmp_ne (tgt := 41) hx hb dX3_changesOf_35 (by decide) (fun c_35_4 => ?_) (fun c_35_4 => ?_)
        · have i_35 : ((X.S.un (i)).toInt : Int) ≠ p1.toInt := q_ne c_35_4 rfl rfl
          refine lv_iinc (v := (nI (i + 1))) (lv' := [(3, .int (nI (i + 1))), (0, .ref (a 0)), (1, .int p1), (2, .int (nI (cnB X.S p1 (i - 1))))]) hx hb dX3_changesOf_41 hl (k := 3) rfl (nI_1 _) (by decide) rfl (fun ls hl => ?_)
          refine lv_goto (tgt := 4) hx hb dX3_changesOf_44 (by decide) ?_
          exact ih (X.S.n + 1 - (i + 1)) (by omega) ls (i + 1) (by rw [Nat.add_sub_cancel]; rw [show cnB X.S p1 i = cnB X.S p1 (i - 1) from by obtain ⟨j, rfl⟩ : ∃ j, i = j + 1 := ⟨i - 1, by omega⟩; simp only [cnB, Nat.add_sub_cancel]; simp_all]; exact lv_sub hl [1, 2, 3, 0] rfl) (by omega) (by omega) rfl
        · have i_35 : ((X.S.un (i)).toInt : Int) = p1.toInt := q_eq c_35_4 rfl rfl
          refine lv_iinc (v := (nI (cnB X.S p1 (i - 1) + 1))) (lv' := [(2, .int (nI (cnB X.S p1 (i - 1) + 1))), (0, .ref (a 0)), (1, .int p1), (3, .int (nI (i)))]) hx hb dX3_changesOf_38 hl (k := 2) rfl (nI_1 _) (by decide) rfl (fun ls hl => ?_)
          refine lv_iinc (v := (nI (i + 1))) (lv' := [(3, .int (nI (i + 1))), (2, .int (nI (cnB X.S p1 (i - 1) + 1))), (0, .ref (a 0)), (1, .int p1)]) hx hb dX3_changesOf_41 hl (k := 3) rfl (nI_1 _) (by decide) rfl (fun ls hl => ?_)
          refine lv_goto (tgt := 4) hx hb dX3_changesOf_44 (by decide) ?_
          exact ih (X.S.n + 1 - (i + 1)) (by omega) ls (i + 1) (by rw [Nat.add_sub_cancel]; rw [show cnB X.S p1 i = cnB X.S p1 (i - 1) + 1 from by obtain ⟨j, rfl⟩ : ∃ j, i = j + 1 := ⟨i - 1, by omega⟩; simp only [cnB, Nat.add_sub_cancel]; simp_all]; exact lv_sub hl [2, 3, 1, 0] rfl) (by omega) (by omega) rfl
set_option maxHeartbeats 4000000 in
set_option maxRecDepth 100000 in
theorem c_X3_latestMissingOf (l : Launch) (g : GG) (a r : Nat → Nat) (X : XS) (p1 : Int32) (hn : X.S.n ≤ 2000) : Met l yX3_latestMissingOf wsX3_latestMissingOf { frames := 3, cells := 0, slots := 0, locals := 63 } (va_Pc [.ref (a 0), .int p1] (Pr g (wXc g a r X))) (vp_Si (fun rv => rv = nI (lmO X.S p1 X.S.n))) 0 0 (fun _ => False) := by
  refine Met.ofW (cc := cX3_latestMissingOf) (maxL := 3) (ret := (some .int)) (by decide) rfl ?_
  intro p e s m args below meth c s₁ B hml hv
  obtain ⟨rfl, hP, hK⟩ := hv
  have hx := B.exec
  have hb := B.bytes
  have hr := B.returns
  have hts := atoms_spec (ws := wsX3_latestMissingOf) B.pre
  have hown : s.vm.findClass RX3 = some m.cls := findClass_of_methodNamed B.named
  have hlocks := B.notSynchronized
  have hl := lv_entry ([.ref (a 0), .int p1]) (n := 3) (Nat.le_of_ble_eq_true rfl)
  rw [lg_entry_eq]
  generalize (lg_sl ([.ref (a 0), .int p1]) ++ List.replicate (3 - (lg_sl ([.ref (a 0), .int p1])).length) Slot.unset).toArray = ls at hl ⊢
  have hl : lv_has ls 3 [(0, .ref (a 0)), (1, .int p1)] := hl
  replace hP : va_P (gD g) vwCl ([((a 0), .inr (5, [.int (nI (X.rg)), .ref (a 1), .ref (a 2), .ref (a 10), .ref (a 13), .ref (a 16)])), ((a 1), .inl (gJ g, 32, .inr (.inl X.cs))), ((a 2), .inr (3, [.ref (a 3), .ref (a 4), .ref (a 5), .ref (a 6), .ref (a 7), .ref (a 8), .ref (a 9), .int (nI (X.S.n)), .int (nI (X.S.ar))])), ((a 3), .inl (gI g, 2001, .inl X.S.kd)), ((a 4), .inl (gI g, 2001, .inl X.S.un)), ((a 5), .inl (gI g, 2001, .inl X.S.ce)), ((a 6), .inl (gJ g, 2001, .inr (.inl X.S.bf))), ((a 7), .inl (gJ g, 2001, .inr (.inl X.S.af))), ((a 8), .inl (gI g, 2001, .inl X.S.tn)), ((a 9), .inl (gZ g, 2001, .inl X.S.bk)), ((a 10), .inr (4, [.ref (a 11), .ref (a 12)])), ((a 11), .inl (gI g, 61, .inl X.U.lk)), ((a 12), .inl (gI g, 32, .inl X.U.ch)), ((a 13), .inr (4, [.ref (a 14), .ref (a 15)])), ((a 14), .inl (gI g, 61, .inl X.V.lk)), ((a 15), .inl (gI g, 32, .inl X.V.ch)), ((a 16), .inr (2, [.ref (a 17), .ref (a 18), .ref (a 19), .ref (a 20), .int (nI (X.I.k)), .int X.I.uf])), ((a 17), .inl (gI g, 21, .inl X.I.st)), ((a 18), .inl (gI g, 21, .inl X.I.en)), ((a 19), .inl (gZ g, 21, .inl X.I.sp)), ((a 20), .inl (gG g, 21, .inr (.inr (.inr (.inr (gRow r))))))]) s.heap := hP
  refine lv_aload_n hx hb dX3_latestMissingOf_0 rfl (lv_at hl 0 rfl) ?_
  refine va_get (D := gD g) (ci := 5) (v := .ref (a 2)) (C := RX3) (T := TX3) (N := 6) hx hb hts (by decide +kernel) hown hK.1 hP 0 rfl rfl 2 (by decide) (hts (.fieldLink RX3 16 "LogForward" "rows" "LLogForward$Rows;") (by decide +kernel)) (fun _ h9 => h9) rfl dX3_latestMissingOf_1 ?_
  refine vp_callSi (va_Run.run (va_runV (As := []) (rest := []) ⟨hx, hb, hml, hown, hts⟩ (c_X1_latest l g (fun i => a (i + 2)) X.S) (cwV 0 hts gX3_latestMissingOf_X1_latest rfl rfl rfl (by decide +kernel) ⟨Nat.le_of_ble_eq_true rfl, Nat.le_of_ble_eq_true rfl⟩) (pv_r hK hP (ci := 3) (q0 := 2) rfl rfl [2, 3, 4, 5, 6, 7, 8, 9] rfl) rfl rfl hl.1 rfl (lv_room (Nat.le_of_ble_eq_true rfl)) dX3_latestMissingOf_4 ⟨Nat.zero_le _, Nat.zero_le _⟩)) (fun r_4_1 h_4_1 => ?_)
  subst h_4_1
  refine lv_istore_n (lv' := [(2, .int (nI (X.S.n))), (0, .ref (a 0)), (1, .int p1)]) hx hb dX3_latestMissingOf_7 rfl hl (by decide) rfl (fun ls hl => ?_)
  obtain ⟨i, hi⟩ : ∃ i : Nat, i = X.S.n := ⟨_, rfl⟩
  replace hl : lv_has ls 3 [(0, .ref (a 0)), (1, .int p1), (2, .int (nI (i)))] := by subst hi; exact lv_sub hl [1, 2, 0] rfl
  have hi2 : i ≤ X.S.n := by omega
  have hq : lmO X.S p1 X.S.n = lmO X.S p1 i := by rw [hi]
  clear hi
  obtain ⟨d, hd⟩ : ∃ d, i = d := ⟨_, rfl⟩
  induction d using Nat.strongRecOn generalizing i ls with
  | ind d ih =>
    refine lv_iload_n hx hb dX3_latestMissingOf_8 rfl (lv_at hl 2 rfl) ?_
    refine lv_iconst (v := 1) hx hb dX3_latestMissingOf_9 (by decide) ?_
    refine lv_icmp_lt (tgt := 55) hx hb dX3_latestMissingOf_10 (by decide) (fun c_10_2 => ?_) (fun c_10_2 => ?_)
    · have i_10 : (((i : Nat) : Int) : Int) < 1 := q_lt c_10_2 (l_nI (by omega)) rfl
      refine lv_iconst (v := 0) hx hb dX3_latestMissingOf_55 (by decide) ?_
      exact W.iret (v := 0) hx hb hr (fun tz htz hWz => ⟨0, rfl, (by rw [hq, show i = 0 by omega]; rfl), htz⟩) (fun _ h => nomatch h) dX3_latestMissingOf_56
    · have i_10 : (1 : Int) ≤ ((i : Nat) : Int) := q_nlt c_10_2 (l_nI (by omega)) rfl
      refine lv_aload_n hx hb dX3_latestMissingOf_13 rfl (lv_at hl 0 rfl) ?_
      refine va_get (D := gD g) (ci := 5) (v := .ref (a 2)) (C := RX3) (T := TX3) (N := 6) hx hb hts (by decide +kernel) hown hK.1 hP 0 rfl rfl 2 (by decide) (hts (.fieldLink RX3 16 "LogForward" "rows" "LLogForward$Rows;") (by decide +kernel)) (fun _ h9 => h9) rfl dX3_latestMissingOf_14 ?_
      refine lv_iload_n hx hb dX3_latestMissingOf_17 rfl (lv_at hl 2 rfl) ?_
      refine vp_callSi (va_Run.run (va_runV (As := [.int (nI (i))]) (rest := []) ⟨hx, hb, hml, hown, hts⟩ (c_X1_isMissing l g (fun i => a (i + 2)) X.S (i) (by omega) (by omega) (by omega)) (cwV 1 hts gX3_latestMissingOf_X1_isMissing rfl rfl rfl (by decide +kernel) ⟨Nat.le_of_ble_eq_true rfl, Nat.le_of_ble_eq_true rfl⟩) (pv_r hK hP (ci := 3) (q0 := 2) rfl rfl [2, 3, 4, 5, 6, 7, 8, 9] rfl) rfl rfl hl.1 rfl (lv_room (Nat.le_of_ble_eq_true rfl)) dX3_latestMissingOf_18 ⟨Nat.zero_le _, Nat.zero_le _⟩)) (fun r_18_3 h_18_3 => ?_)
      refine lv_if_eq (tgt := 49) hx hb dX3_latestMissingOf_21 (by decide) (fun c_21_3 => ?_) (fun c_21_3 => ?_)
      · have b_21 : ¬ (X.S.tn (i) = 3) := bI_f h_18_3 c_21_3
        refine lv_iinc (v := (nI (i - 1))) (lv' := [(2, .int (nI (i - 1))), (0, .ref (a 0)), (1, .int p1)]) hx hb dX3_latestMissingOf_49 hl (k := 2) rfl (sb_m1 (by omega)) (by decide) rfl (fun ls hl => ?_)
        refine lv_goto (tgt := 8) hx hb dX3_latestMissingOf_52 (by decide) ?_
        exact ih (i - 1) (by omega) ls (i - 1) (lv_sub hl [1, 2, 0] rfl) (by omega) (by rw [hq]; exact lm_no (by omega) (by rintro ⟨h1, h2⟩; first | exact absurd h1 (by assumption) | exact absurd h2.1 (by assumption) | exact absurd h2.2 (by assumption))) rfl
      · have b_21 : X.S.tn (i) = 3 := bI_t h_18_3 c_21_3
        refine lv_aload_n hx hb dX3_latestMissingOf_24 rfl (lv_at hl 0 rfl) ?_
        refine va_get (D := gD g) (ci := 5) (v := .ref (a 2)) (C := RX3) (T := TX3) (N := 6) hx hb hts (by decide +kernel) hown hK.1 hP 0 rfl rfl 2 (by decide) (hts (.fieldLink RX3 16 "LogForward" "rows" "LLogForward$Rows;") (by decide +kernel)) (fun _ h9 => h9) rfl dX3_latestMissingOf_25 ?_
        refine lv_iload_n hx hb dX3_latestMissingOf_28 rfl (lv_at hl 2 rfl) ?_
        refine vp_callSi (va_Run.run (va_runV (As := [.int (nI (i))]) (rest := []) ⟨hx, hb, hml, hown, hts⟩ (c_X1_isBackable l g (fun i => a (i + 2)) X.S (i) (by omega) (by omega) (by omega)) (cwV 1 hts gX3_latestMissingOf_X1_isBackable rfl rfl rfl (by decide +kernel) ⟨Nat.le_of_ble_eq_true rfl, Nat.le_of_ble_eq_true rfl⟩) (pv_r hK hP (ci := 3) (q0 := 2) rfl rfl [2, 3, 4, 5, 6, 7, 8, 9] rfl) rfl rfl hl.1 rfl (lv_room (Nat.le_of_ble_eq_true rfl)) dX3_latestMissingOf_29 ⟨Nat.zero_le _, Nat.zero_le _⟩)) (fun r_29_4 h_29_4 => ?_)
        refine lv_if_eq (tgt := 49) hx hb dX3_latestMissingOf_32 (by decide) (fun c_32_4 => ?_) (fun c_32_4 => ?_)
        · have b_32 : ¬ (X.S.kd (i) = 0 ∧ X.S.bk (i) = 0) := bI_f h_29_4 c_32_4
          refine lv_iinc (v := (nI (i - 1))) (lv' := [(2, .int (nI (i - 1))), (0, .ref (a 0)), (1, .int p1)]) hx hb dX3_latestMissingOf_49 hl (k := 2) rfl (sb_m1 (by omega)) (by decide) rfl (fun ls hl => ?_)
          refine lv_goto (tgt := 8) hx hb dX3_latestMissingOf_52 (by decide) ?_
          exact ih (i - 1) (by omega) ls (i - 1) (lv_sub hl [1, 2, 0] rfl) (by omega) (by rw [hq]; exact lm_no (by omega) (by rintro ⟨h1, h2⟩; first | exact absurd h1 (by assumption) | exact absurd h2.1 (by assumption) | exact absurd h2.2 (by assumption))) rfl
        · have b_32 : X.S.kd (i) = 0 ∧ X.S.bk (i) = 0 := bI_t h_29_4 c_32_4
          refine lv_aload_n hx hb dX3_latestMissingOf_35 rfl (lv_at hl 0 rfl) ?_
          refine va_get (D := gD g) (ci := 5) (v := .ref (a 2)) (C := RX3) (T := TX3) (N := 6) hx hb hts (by decide +kernel) hown hK.1 hP 0 rfl rfl 2 (by decide) (hts (.fieldLink RX3 16 "LogForward" "rows" "LLogForward$Rows;") (by decide +kernel)) (fun _ h9 => h9) rfl dX3_latestMissingOf_36 ?_
          refine lv_iload_n hx hb dX3_latestMissingOf_39 rfl (lv_at hl 2 rfl) ?_
          refine vp_callSi (va_Run.run (va_runV (As := [.int (nI (i))]) (rest := []) ⟨hx, hb, hml, hown, hts⟩ (c_X1_unitOf l g (fun i => a (i + 2)) X.S (i) (by omega) (by omega) (by omega)) (cwV 1 hts gX3_latestMissingOf_X1_unitOf rfl rfl rfl (by decide +kernel) ⟨Nat.le_of_ble_eq_true rfl, Nat.le_of_ble_eq_true rfl⟩) (pv_r hK hP (ci := 3) (q0 := 2) rfl rfl [2, 3, 4, 5, 6, 7, 8, 9] rfl) rfl rfl hl.1 rfl (lv_room (Nat.le_of_ble_eq_true rfl)) dX3_latestMissingOf_40 ⟨Nat.zero_le _, Nat.zero_le _⟩)) (fun r_40_5 h_40_5 => ?_)
          subst h_40_5
          refine lv_iload_n hx hb dX3_latestMissingOf_43 rfl (lv_at hl 1 rfl) ?_
          refine lv_icmp_ne (tgt := 49) hx hb dX3_latestMissingOf_44 (by decide) (fun c_44_5 => ?_) (fun c_44_5 => ?_)
          · have i_44 : ((X.S.un (i)).toInt : Int) ≠ p1.toInt := q_ne c_44_5 rfl rfl
            refine lv_iinc (v := (nI (i - 1))) (lv' := [(2, .int (nI (i - 1))), (0, .ref (a 0)), (1, .int p1)]) hx hb dX3_latestMissingOf_49 hl (k := 2) rfl (sb_m1 (by omega)) (by decide) rfl (fun ls hl => ?_)
            refine lv_goto (tgt := 8) hx hb dX3_latestMissingOf_52 (by decide) ?_
            exact ih (i - 1) (by omega) ls (i - 1) (lv_sub hl [1, 2, 0] rfl) (by omega) (by rw [hq]; exact lm_no (by omega) (by rintro ⟨h1, h2⟩; first | exact absurd h1 (by assumption) | exact absurd h2.1 (by assumption) | exact absurd h2.2 (by assumption))) rfl
          · have i_44 : ((X.S.un (i)).toInt : Int) = p1.toInt := q_eq c_44_5 rfl rfl
            refine lv_iload_n hx hb dX3_latestMissingOf_47 rfl (lv_at hl 2 rfl) ?_
            exact W.iret (v := (nI (i))) hx hb hr (fun tz htz hWz => ⟨(nI (i)), rfl, (by rw [hq, lm_yes (by omega) ⟨by assumption, by assumption, by assumption⟩]), htz⟩) (fun _ h => nomatch h) dX3_latestMissingOf_48
set_option maxHeartbeats 4000000 in
set_option maxRecDepth 100000 in
theorem c_X3_isToBeBackedOut (l : Launch) (g : GG) (a r : Nat → Nat) (X : XS) (i : Nat) (hr1 : 1 ≤ i) (hr2 : i ≤ X.S.n) (hn : X.S.n ≤ 2000) : Met l yX3_isToBeBackedOut wsX3_isToBeBackedOut { frames := 3, cells := 0, slots := 0, locals := 63 } (va_Pc [.ref (a 0), .int (nI (i))] (Pr g (wXc g a r X))) (vp_Si (fun rv => rv = bI (tbB X.S X.V i))) 0 0 (fun _ => False) := by
  refine Met.ofW (cc := cX3_isToBeBackedOut) (maxL := 2) (ret := (some .boolean)) (by decide) rfl ?_
  intro p e s m args below meth c s₁ B hml hv
  obtain ⟨rfl, hP, hK⟩ := hv
  have hx := B.exec
  have hb := B.bytes
  have hr := B.returns
  have hts := atoms_spec (ws := wsX3_isToBeBackedOut) B.pre
  have hown : s.vm.findClass RX3 = some m.cls := findClass_of_methodNamed B.named
  have hlocks := B.notSynchronized
  have hl := lv_entry ([.ref (a 0), .int (nI (i))]) (n := 2) (Nat.le_of_ble_eq_true rfl)
  rw [lg_entry_eq]
  generalize (lg_sl ([.ref (a 0), .int (nI (i))]) ++ List.replicate (2 - (lg_sl ([.ref (a 0), .int (nI (i))])).length) Slot.unset).toArray = ls at hl ⊢
  have hl : lv_has ls 2 [(0, .ref (a 0)), (1, .int (nI (i)))] := hl
  replace hP : va_P (gD g) vwCl ([((a 0), .inr (5, [.int (nI (X.rg)), .ref (a 1), .ref (a 2), .ref (a 10), .ref (a 13), .ref (a 16)])), ((a 1), .inl (gJ g, 32, .inr (.inl X.cs))), ((a 2), .inr (3, [.ref (a 3), .ref (a 4), .ref (a 5), .ref (a 6), .ref (a 7), .ref (a 8), .ref (a 9), .int (nI (X.S.n)), .int (nI (X.S.ar))])), ((a 3), .inl (gI g, 2001, .inl X.S.kd)), ((a 4), .inl (gI g, 2001, .inl X.S.un)), ((a 5), .inl (gI g, 2001, .inl X.S.ce)), ((a 6), .inl (gJ g, 2001, .inr (.inl X.S.bf))), ((a 7), .inl (gJ g, 2001, .inr (.inl X.S.af))), ((a 8), .inl (gI g, 2001, .inl X.S.tn)), ((a 9), .inl (gZ g, 2001, .inl X.S.bk)), ((a 10), .inr (4, [.ref (a 11), .ref (a 12)])), ((a 11), .inl (gI g, 61, .inl X.U.lk)), ((a 12), .inl (gI g, 32, .inl X.U.ch)), ((a 13), .inr (4, [.ref (a 14), .ref (a 15)])), ((a 14), .inl (gI g, 61, .inl X.V.lk)), ((a 15), .inl (gI g, 32, .inl X.V.ch)), ((a 16), .inr (2, [.ref (a 17), .ref (a 18), .ref (a 19), .ref (a 20), .int (nI (X.I.k)), .int X.I.uf])), ((a 17), .inl (gI g, 21, .inl X.I.st)), ((a 18), .inl (gI g, 21, .inl X.I.en)), ((a 19), .inl (gZ g, 21, .inl X.I.sp)), ((a 20), .inl (gG g, 21, .inr (.inr (.inr (.inr (gRow r))))))]) s.heap := hP
  refine lv_aload_n hx hb dX3_isToBeBackedOut_0 rfl (lv_at hl 0 rfl) ?_
  refine va_get (D := gD g) (ci := 5) (v := .ref (a 2)) (C := RX3) (T := TX3) (N := 6) hx hb hts (by decide +kernel) hown hK.1 hP 0 rfl rfl 2 (by decide) (hts (.fieldLink RX3 16 "LogForward" "rows" "LLogForward$Rows;") (by decide +kernel)) (fun _ h9 => h9) rfl dX3_isToBeBackedOut_1 ?_
  refine lv_iload_n hx hb dX3_isToBeBackedOut_4 rfl (lv_at hl 1 rfl) ?_
  refine vp_callSi (va_Run.run (va_runV (As := [.int (nI (i))]) (rest := []) ⟨hx, hb, hml, hown, hts⟩ (c_X1_isBackable l g (fun i => a (i + 2)) X.S (i) (by omega) (by omega) (by omega)) (cwV 1 hts gX3_isToBeBackedOut_X1_isBackable rfl rfl rfl (by decide +kernel) ⟨Nat.le_of_ble_eq_true rfl, Nat.le_of_ble_eq_true rfl⟩) (pv_r hK hP (ci := 3) (q0 := 2) rfl rfl [2, 3, 4, 5, 6, 7, 8, 9] rfl) rfl rfl hl.1 rfl (lv_room (Nat.le_of_ble_eq_true rfl)) dX3_isToBeBackedOut_5 ⟨Nat.zero_le _, Nat.zero_le _⟩)) (fun r_5_1 h_5_1 => ?_)
  refine lv_if_eq (tgt := 33) hx hb dX3_isToBeBackedOut_8 (by decide) (fun c_8_1 => ?_) (fun c_8_1 => ?_)
  · have b_8 : ¬ (X.S.kd (i) = 0 ∧ X.S.bk (i) = 0) := bI_f h_5_1 c_8_1
    refine lv_iconst (v := 0) hx hb dX3_isToBeBackedOut_33 (by decide) ?_
    exact W.zret (v := 0) hx hb hr rfl (fun tz htz hWz => ⟨0, rfl, (bI_0 (by first | exact ⟨by assumption, by assumption⟩ | exact fun h => absurd h.1 (by assumption) | exact fun h => absurd h.2 (by assumption))), htz⟩) (fun _ h => nomatch h) dX3_isToBeBackedOut_34
  · have b_8 : X.S.kd (i) = 0 ∧ X.S.bk (i) = 0 := bI_t h_5_1 c_8_1
    refine lv_aload_n hx hb dX3_isToBeBackedOut_11 rfl (lv_at hl 0 rfl) ?_
    refine va_get (D := gD g) (ci := 5) (v := .ref (a 13)) (C := RX3) (T := TX3) (N := 6) hx hb hts (by decide +kernel) hown hK.1 hP 0 rfl rfl 4 (by decide) (hts (.fieldLink RX3 27 "LogForward" "unitsThen" "LLogForward$Units;") (by decide +kernel)) (fun _ h9 => h9) rfl dX3_isToBeBackedOut_12 ?_
    refine lv_aload_n hx hb dX3_isToBeBackedOut_15 rfl (lv_at hl 0 rfl) ?_
    refine va_get (D := gD g) (ci := 5) (v := .ref (a 2)) (C := RX3) (T := TX3) (N := 6) hx hb hts (by decide +kernel) hown hK.1 hP 0 rfl rfl 2 (by decide) (hts (.fieldLink RX3 16 "LogForward" "rows" "LLogForward$Rows;") (by decide +kernel)) (fun _ h9 => h9) rfl dX3_isToBeBackedOut_16 ?_
    refine lv_iload_n hx hb dX3_isToBeBackedOut_19 rfl (lv_at hl 1 rfl) ?_
    refine vp_callSi (va_Run.run (va_runV (As := [.int (nI (i))]) (rest := [.ref (a 13)]) ⟨hx, hb, hml, hown, hts⟩ (c_X1_unitOf l g (fun i => a (i + 2)) X.S (i) (by omega) (by omega) (by omega)) (cwV 1 hts gX3_isToBeBackedOut_X1_unitOf rfl rfl rfl (by decide +kernel) ⟨Nat.le_of_ble_eq_true rfl, Nat.le_of_ble_eq_true rfl⟩) (pv_r hK hP (ci := 3) (q0 := 2) rfl rfl [2, 3, 4, 5, 6, 7, 8, 9] rfl) rfl rfl hl.1 rfl (lv_room (Nat.le_of_ble_eq_true rfl)) dX3_isToBeBackedOut_20 ⟨Nat.zero_le _, Nat.zero_le _⟩)) (fun r_20_2 h_20_2 => ?_)
    subst h_20_2
    refine vp_callSi (va_Run.run (va_runV (As := [.int (X.S.un (i))]) (rest := []) ⟨hx, hb, hml, hown, hts⟩ (c_X2_isOpen l g (fun i => a (i + 13)) X.V (X.S.un (i))) (cwV 1 hts gX3_isToBeBackedOut_X2_isOpen rfl rfl rfl (by decide +kernel) ⟨Nat.le_of_ble_eq_true rfl, Nat.le_of_ble_eq_true rfl⟩) (pv_r hK hP (ci := 4) (q0 := 13) rfl rfl [13, 14, 15] rfl) rfl rfl hl.1 rfl (lv_room (Nat.le_of_ble_eq_true rfl)) dX3_isToBeBackedOut_23 ⟨Nat.zero_le _, Nat.zero_le _⟩)) (fun r_23_2 h_23_2 => ?_)
    refine lv_if_eq (tgt := 33) hx hb dX3_isToBeBackedOut_26 (by decide) (fun c_26_2 => ?_) (fun c_26_2 => ?_)
    · have b_26 : ¬ (opU X.V (X.S.un (i))) := bI_f h_23_2 c_26_2
      refine lv_iconst (v := 0) hx hb dX3_isToBeBackedOut_33 (by decide) ?_
      exact W.zret (v := 0) hx hb hr rfl (fun tz htz hWz => ⟨0, rfl, (bI_0 (by first | exact ⟨by assumption, by assumption⟩ | exact fun h => absurd h.1 (by assumption) | exact fun h => absurd h.2 (by assumption))), htz⟩) (fun _ h => nomatch h) dX3_isToBeBackedOut_34
    · have b_26 : opU X.V (X.S.un (i)) := bI_t h_23_2 c_26_2
      refine lv_iconst (v := 1) hx hb dX3_isToBeBackedOut_29 (by decide) ?_
      refine lv_goto (tgt := 34) hx hb dX3_isToBeBackedOut_30 (by decide) ?_
      exact W.zret (v := 1) hx hb hr rfl (fun tz htz hWz => ⟨1, rfl, (bI_1 (by first | exact ⟨by assumption, by assumption⟩ | exact fun h => absurd h.1 (by assumption) | exact fun h => absurd h.2 (by assumption))), htz⟩) (fun _ h => nomatch h) dX3_isToBeBackedOut_34
set_option maxHeartbeats 4000000 in
set_option maxRecDepth 100000 in
theorem c_X3_leastMissing (l : Launch) (g : GG) (a r : Nat → Nat) (X : XS) (p1 : Int32) (t : Nat) (ht0 : t ≤ X.S.n) (hn : X.S.n ≤ 2000) : Met l yX3_leastMissing wsX3_leastMissing { frames := 4, cells := 0, slots := 0, locals := 84 } (va_Pc [.ref (a 0), .int p1, .int (nI (t))] (Pr g (wXc g a r X))) (vp_Si (fun rv => rv = nI (lsF X.S X.V p1 t 1))) 0 0 (fun _ => False) := by
  refine Met.ofW (cc := cX3_leastMissing) (maxL := 4) (ret := (some .int)) (by decide) rfl ?_
  intro p e s m args below meth c s₁ B hml hv
  obtain ⟨rfl, hP, hK⟩ := hv
  have hx := B.exec
  have hb := B.bytes
  have hr := B.returns
  have hts := atoms_spec (ws := wsX3_leastMissing) B.pre
  have hown : s.vm.findClass RX3 = some m.cls := findClass_of_methodNamed B.named
  have hlocks := B.notSynchronized
  have hl := lv_entry ([.ref (a 0), .int p1, .int (nI (t))]) (n := 4) (Nat.le_of_ble_eq_true rfl)
  rw [lg_entry_eq]
  generalize (lg_sl ([.ref (a 0), .int p1, .int (nI (t))]) ++ List.replicate (4 - (lg_sl ([.ref (a 0), .int p1, .int (nI (t))])).length) Slot.unset).toArray = ls at hl ⊢
  have hl : lv_has ls 4 [(0, .ref (a 0)), (1, .int p1), (2, .int (nI (t)))] := hl
  replace hP : va_P (gD g) vwCl ([((a 0), .inr (5, [.int (nI (X.rg)), .ref (a 1), .ref (a 2), .ref (a 10), .ref (a 13), .ref (a 16)])), ((a 1), .inl (gJ g, 32, .inr (.inl X.cs))), ((a 2), .inr (3, [.ref (a 3), .ref (a 4), .ref (a 5), .ref (a 6), .ref (a 7), .ref (a 8), .ref (a 9), .int (nI (X.S.n)), .int (nI (X.S.ar))])), ((a 3), .inl (gI g, 2001, .inl X.S.kd)), ((a 4), .inl (gI g, 2001, .inl X.S.un)), ((a 5), .inl (gI g, 2001, .inl X.S.ce)), ((a 6), .inl (gJ g, 2001, .inr (.inl X.S.bf))), ((a 7), .inl (gJ g, 2001, .inr (.inl X.S.af))), ((a 8), .inl (gI g, 2001, .inl X.S.tn)), ((a 9), .inl (gZ g, 2001, .inl X.S.bk)), ((a 10), .inr (4, [.ref (a 11), .ref (a 12)])), ((a 11), .inl (gI g, 61, .inl X.U.lk)), ((a 12), .inl (gI g, 32, .inl X.U.ch)), ((a 13), .inr (4, [.ref (a 14), .ref (a 15)])), ((a 14), .inl (gI g, 61, .inl X.V.lk)), ((a 15), .inl (gI g, 32, .inl X.V.ch)), ((a 16), .inr (2, [.ref (a 17), .ref (a 18), .ref (a 19), .ref (a 20), .int (nI (X.I.k)), .int X.I.uf])), ((a 17), .inl (gI g, 21, .inl X.I.st)), ((a 18), .inl (gI g, 21, .inl X.I.en)), ((a 19), .inl (gZ g, 21, .inl X.I.sp)), ((a 20), .inl (gG g, 21, .inr (.inr (.inr (.inr (gRow r))))))]) s.heap := hP
  refine lv_iconst (v := 1) hx hb dX3_leastMissing_0 (by decide) ?_
  refine lv_istore_n (lv' := [(3, .int 1), (0, .ref (a 0)), (1, .int p1), (2, .int (nI (t)))]) hx hb dX3_leastMissing_1 rfl hl (by decide) rfl (fun ls hl => ?_)
  obtain ⟨i, hi⟩ : ∃ i : Nat, i = 1 := ⟨_, rfl⟩
  replace hl : lv_has ls 4 [(0, .ref (a 0)), (1, .int p1), (2, .int (nI (t))), (3, .int (nI (i)))] := by subst hi; exact lv_sub hl [1, 2, 3, 0] rfl
  have hi1 : 1 ≤ i := by omega
  have hi2 : i ≤ t + 1 := by omega
  have hq : lsF X.S X.V p1 t 1 = lsF X.S X.V p1 (t + 1 - i) i := by rw [hi]; rfl
  clear hi
  obtain ⟨d, hd⟩ : ∃ d, t + 1 - i = d := ⟨_, rfl⟩
  induction d using Nat.strongRecOn generalizing i ls with
  | ind d ih =>
    refine lv_iload_n hx hb dX3_leastMissing_2 rfl (lv_at hl 3 rfl) ?_
    refine lv_iload_n hx hb dX3_leastMissing_3 rfl (lv_at hl 2 rfl) ?_
    refine lv_icmp_gt (tgt := 39) hx hb dX3_leastMissing_4 (by decide) (fun c_4_2 => ?_) (fun c_4_2 => ?_)
    · have i_4 : (((t : Nat) : Int) : Int) < ((i : Nat) : Int) := q_lt c_4_2 (l_nI (by omega)) (l_nI (by omega))
      refine lv_iconst (v := 0) hx hb dX3_leastMissing_39 (by decide) ?_
      exact W.iret (v := 0) hx hb hr (fun tz htz hWz => ⟨0, rfl, (by rw [hq, ls_end (by omega)]; rfl), htz⟩) (fun _ h => nomatch h) dX3_leastMissing_40
    · have i_4 : (((i : Nat) : Int) : Int) ≤ ((t : Nat) : Int) := q_nlt c_4_2 (l_nI (by omega)) (l_nI (by omega))
      refine lv_aload_n hx hb dX3_leastMissing_7 rfl (lv_at hl 0 rfl) ?_
      refine va_get (D := gD g) (ci := 5) (v := .ref (a 2)) (C := RX3) (T := TX3) (N := 6) hx hb hts (by decide +kernel) hown hK.1 hP 0 rfl rfl 2 (by decide) (hts (.fieldLink RX3 16 "LogForward" "rows" "LLogForward$Rows;") (by decide +kernel)) (fun _ h9 => h9) rfl dX3_leastMissing_8 ?_
      refine lv_iload_n hx hb dX3_leastMissing_11 rfl (lv_at hl 3 rfl) ?_
      refine vp_callSi (va_Run.run (va_runV (As := [.int (nI (i))]) (rest := []) ⟨hx, hb, hml, hown, hts⟩ (c_X1_isMissing l g (fun i => a (i + 2)) X.S (i) (by omega) (by omega) (by omega)) (cwV 1 hts gX3_leastMissing_X1_isMissing rfl rfl rfl (by decide +kernel) ⟨Nat.le_of_ble_eq_true rfl, Nat.le_of_ble_eq_true rfl⟩) (pv_r hK hP (ci := 3) (q0 := 2) rfl rfl [2, 3, 4, 5, 6, 7, 8, 9] rfl) rfl rfl hl.1 rfl (lv_room (Nat.le_of_ble_eq_true rfl)) dX3_leastMissing_12 ⟨Nat.zero_le _, Nat.zero_le _⟩)) (fun r_12_3 h_12_3 => ?_)
      refine lv_if_eq (tgt := 33) hx hb dX3_leastMissing_15 (by decide) (fun c_15_3 => ?_) (fun c_15_3 => ?_)
      · have b_15 : ¬ (X.S.tn (i) = 3) := bI_f h_12_3 c_15_3
        refine lv_iinc (v := (nI (i + 1))) (lv' := [(3, .int (nI (i + 1))), (0, .ref (a 0)), (1, .int p1), (2, .int (nI (t)))]) hx hb dX3_leastMissing_33 hl (k := 3) rfl (nI_1 _) (by decide) rfl (fun ls hl => ?_)
        refine lv_goto (tgt := 2) hx hb dX3_leastMissing_36 (by decide) ?_
        exact ih (t + 1 - (i + 1)) (by omega) ls (i + 1) (lv_sub hl [1, 2, 3, 0] rfl) (by omega) (by omega) (by rw [hq]; exact ls_no (by omega) (by rintro ⟨h1, h2 | h2⟩ <;> first | exact absurd h1 (by assumption) | (exfalso; omega) | exact absurd h2 (by assumption))) rfl
      · have b_15 : X.S.tn (i) = 3 := bI_t h_12_3 c_15_3
        refine lv_iload_n hx hb dX3_leastMissing_18 rfl (lv_at hl 3 rfl) ?_
        refine lv_iload_n hx hb dX3_leastMissing_19 rfl (lv_at hl 1 rfl) ?_
        refine lv_icmp_gt (tgt := 31) hx hb dX3_leastMissing_20 (by decide) (fun c_20_4 => ?_) (fun c_20_4 => ?_)
        · have i_20 : (p1.toInt : Int) < ((i : Nat) : Int) := q_lt c_20_4 rfl (l_nI (by omega))
          refine lv_iload_n hx hb dX3_leastMissing_31 rfl (lv_at hl 3 rfl) ?_
          exact W.iret (v := (nI (i))) hx hb hr (fun tz htz hWz => ⟨(nI (i)), rfl, (by rw [hq, ls_yes (by omega) ⟨by assumption, by first | exact Or.inl (by omega) | exact Or.inr (by assumption)⟩]), htz⟩) (fun _ h => nomatch h) dX3_leastMissing_32
        · have i_20 : (((i : Nat) : Int) : Int) ≤ p1.toInt := q_nlt c_20_4 rfl (l_nI (by omega))
          refine lv_aload_n hx hb dX3_leastMissing_23 rfl (lv_at hl 0 rfl) ?_
          refine lv_iload_n hx hb dX3_leastMissing_24 rfl (lv_at hl 3 rfl) ?_
          refine vp_callSi (va_Run.run (va_runV (As := [.int (nI (i))]) (rest := []) ⟨hx, hb, hml, hown, hts⟩ (c_X3_isToBeBackedOut l g a r X (i) (by omega) (by omega) (by omega)) (cwV 1 hts gX3_leastMissing_X3_isToBeBackedOut rfl rfl rfl (by decide +kernel) ⟨Nat.le_of_ble_eq_true rfl, Nat.le_of_ble_eq_true rfl⟩) (pv_r hK hP (ci := 5) (q0 := 0) rfl rfl [0, 1, 2, 3, 4, 5, 6, 7, 8, 9, 10, 11, 12, 13, 14, 15, 16, 17, 18, 19, 20] rfl) rfl rfl hl.1 rfl (lv_room (Nat.le_of_ble_eq_true rfl)) dX3_leastMissing_25 ⟨Nat.zero_le _, Nat.zero_le _⟩)) (fun r_25_5 h_25_5 => ?_)
          refine lv_if_eq (tgt := 33) hx hb dX3_leastMissing_28 (by decide) (fun c_28_5 => ?_) (fun c_28_5 => ?_)
          · have b_28 : ¬ (tbB X.S X.V (i)) := bI_f h_25_5 c_28_5
            refine lv_iinc (v := (nI (i + 1))) (lv' := [(3, .int (nI (i + 1))), (0, .ref (a 0)), (1, .int p1), (2, .int (nI (t)))]) hx hb dX3_leastMissing_33 hl (k := 3) rfl (nI_1 _) (by decide) rfl (fun ls hl => ?_)
            refine lv_goto (tgt := 2) hx hb dX3_leastMissing_36 (by decide) ?_
            exact ih (t + 1 - (i + 1)) (by omega) ls (i + 1) (lv_sub hl [1, 2, 3, 0] rfl) (by omega) (by omega) (by rw [hq]; exact ls_no (by omega) (by rintro ⟨h1, h2 | h2⟩ <;> first | exact absurd h1 (by assumption) | (exfalso; omega) | exact absurd h2 (by assumption))) rfl
          · have b_28 : tbB X.S X.V (i) := bI_t h_25_5 c_28_5
            refine lv_iload_n hx hb dX3_leastMissing_31 rfl (lv_at hl 3 rfl) ?_
            exact W.iret (v := (nI (i))) hx hb hr (fun tz htz hWz => ⟨(nI (i)), rfl, (by rw [hq, ls_yes (by omega) ⟨by assumption, by first | exact Or.inl (by omega) | exact Or.inr (by assumption)⟩]), htz⟩) (fun _ h => nomatch h) dX3_leastMissing_32
set_option maxHeartbeats 4000000 in
set_option maxRecDepth 100000 in
theorem c_X3_rowsOfBackingOut (l : Launch) (g : GG) (a r : Nat → Nat) (X : XS) (t : Nat) (ht0 : t ≤ X.S.n) (hn : X.S.n ≤ 2000) : Met l yX3_rowsOfBackingOut wsX3_rowsOfBackingOut { frames := 4, cells := 0, slots := 0, locals := 84 } (va_Pc [.ref (a 0), .int (nI (t))] (Pr g (wXc g a r X))) (vp_Si (fun rv => rv = nI (cnT X.S X.V t + cntU X.V 0 60))) 0 0 (fun _ => False) := by
  refine Met.ofW (cc := cX3_rowsOfBackingOut) (maxL := 5) (ret := (some .int)) (by decide) rfl ?_
  intro p e s m args below meth c s₁ B hml hv
  obtain ⟨rfl, hP, hK⟩ := hv
  have hx := B.exec
  have hb := B.bytes
  have hr := B.returns
  have hts := atoms_spec (ws := wsX3_rowsOfBackingOut) B.pre
  have hown : s.vm.findClass RX3 = some m.cls := findClass_of_methodNamed B.named
  have hlocks := B.notSynchronized
  have hl := lv_entry ([.ref (a 0), .int (nI (t))]) (n := 5) (Nat.le_of_ble_eq_true rfl)
  rw [lg_entry_eq]
  generalize (lg_sl ([.ref (a 0), .int (nI (t))]) ++ List.replicate (5 - (lg_sl ([.ref (a 0), .int (nI (t))])).length) Slot.unset).toArray = ls at hl ⊢
  have hl : lv_has ls 5 [(0, .ref (a 0)), (1, .int (nI (t)))] := hl
  replace hP : va_P (gD g) vwCl ([((a 0), .inr (5, [.int (nI (X.rg)), .ref (a 1), .ref (a 2), .ref (a 10), .ref (a 13), .ref (a 16)])), ((a 1), .inl (gJ g, 32, .inr (.inl X.cs))), ((a 2), .inr (3, [.ref (a 3), .ref (a 4), .ref (a 5), .ref (a 6), .ref (a 7), .ref (a 8), .ref (a 9), .int (nI (X.S.n)), .int (nI (X.S.ar))])), ((a 3), .inl (gI g, 2001, .inl X.S.kd)), ((a 4), .inl (gI g, 2001, .inl X.S.un)), ((a 5), .inl (gI g, 2001, .inl X.S.ce)), ((a 6), .inl (gJ g, 2001, .inr (.inl X.S.bf))), ((a 7), .inl (gJ g, 2001, .inr (.inl X.S.af))), ((a 8), .inl (gI g, 2001, .inl X.S.tn)), ((a 9), .inl (gZ g, 2001, .inl X.S.bk)), ((a 10), .inr (4, [.ref (a 11), .ref (a 12)])), ((a 11), .inl (gI g, 61, .inl X.U.lk)), ((a 12), .inl (gI g, 32, .inl X.U.ch)), ((a 13), .inr (4, [.ref (a 14), .ref (a 15)])), ((a 14), .inl (gI g, 61, .inl X.V.lk)), ((a 15), .inl (gI g, 32, .inl X.V.ch)), ((a 16), .inr (2, [.ref (a 17), .ref (a 18), .ref (a 19), .ref (a 20), .int (nI (X.I.k)), .int X.I.uf])), ((a 17), .inl (gI g, 21, .inl X.I.st)), ((a 18), .inl (gI g, 21, .inl X.I.en)), ((a 19), .inl (gZ g, 21, .inl X.I.sp)), ((a 20), .inl (gG g, 21, .inr (.inr (.inr (.inr (gRow r))))))]) s.heap := hP
  refine lv_aload_n hx hb dX3_rowsOfBackingOut_0 rfl (lv_at hl 0 rfl) ?_
  refine va_get (D := gD g) (ci := 5) (v := .ref (a 13)) (C := RX3) (T := TX3) (N := 6) hx hb hts (by decide +kernel) hown hK.1 hP 0 rfl rfl 4 (by decide) (hts (.fieldLink RX3 27 "LogForward" "unitsThen" "LLogForward$Units;") (by decide +kernel)) (fun _ h9 => h9) rfl dX3_rowsOfBackingOut_1 ?_
  refine vp_callSi (va_Run.run (va_runV (As := []) (rest := []) ⟨hx, hb, hml, hown, hts⟩ (c_X2_howManyOpen l g (fun i => a (i + 13)) X.V) (cwV 0 hts gX3_rowsOfBackingOut_X2_howManyOpen rfl rfl rfl (by decide +kernel) ⟨Nat.le_of_ble_eq_true rfl, Nat.le_of_ble_eq_true rfl⟩) (pv_r hK hP (ci := 4) (q0 := 13) rfl rfl [13, 14, 15] rfl) rfl rfl hl.1 rfl (lv_room (Nat.le_of_ble_eq_true rfl)) dX3_rowsOfBackingOut_4 ⟨Nat.zero_le _, Nat.zero_le _⟩)) (fun r_4_1 h_4_1 => ?_)
  subst h_4_1
  refine lv_istore_n (lv' := [(2, .int (nI (cntU X.V 0 60))), (0, .ref (a 0)), (1, .int (nI (t)))]) hx hb dX3_rowsOfBackingOut_7 rfl hl (by decide) rfl (fun ls hl => ?_)
  refine lv_iconst (v := 0) hx hb dX3_rowsOfBackingOut_8 (by decide) ?_
  refine lv_istore_n (lv' := [(3, .int 0), (2, .int (nI (cntU X.V 0 60))), (0, .ref (a 0)), (1, .int (nI (t)))]) hx hb dX3_rowsOfBackingOut_9 rfl hl (by decide) rfl (fun ls hl => ?_)
  refine lv_iconst (v := 1) hx hb dX3_rowsOfBackingOut_10 (by decide) ?_
  refine lv_istore (lv' := [(4, .int 1), (3, .int 0), (2, .int (nI (cntU X.V 0 60))), (0, .ref (a 0)), (1, .int (nI (t)))]) hx hb dX3_rowsOfBackingOut_11 hl (by decide) rfl (fun ls hl => ?_)
  obtain ⟨i, hi⟩ : ∃ i : Nat, i = 1 := ⟨_, rfl⟩
  replace hl : lv_has ls 5 [(0, .ref (a 0)), (1, .int (nI (t))), (2, .int (nI (cntU X.V 0 60))), (3, .int (nI (cnT X.S X.V (i - 1)))), (4, .int (nI (i)))] := by subst hi; exact lv_sub hl [3, 4, 2, 1, 0] rfl
  have hi1 : 1 ≤ i := by omega
  have hi2 : i ≤ t + 1 := by omega
  clear hi
  obtain ⟨d, hd⟩ : ∃ d, t + 1 - i = d := ⟨_, rfl⟩
  induction d using Nat.strongRecOn generalizing i ls with
  | ind d ih =>
    refine lv_iload hx hb dX3_rowsOfBackingOut_13 (lv_at hl 4 rfl) ?_
    refine lv_iload_n hx hb dX3_rowsOfBackingOut_15 rfl (lv_at hl 1 rfl) ?_
    refine lv_icmp_gt (tgt := 37) hx hb dX3_rowsOfBackingOut_16 (by decide) (fun c_16_2 => ?_) (fun c_16_2 => ?_)
    · have i_16 : (((t : Nat) : Int) : Int) < ((i : Nat) : Int) := q_lt c_16_2 (l_nI (by omega)) (l_nI (by omega))
      refine lv_iload_n hx hb dX3_rowsOfBackingOut_37 rfl (lv_at hl 3 rfl) ?_
      refine lv_iload_n hx hb dX3_rowsOfBackingOut_38 rfl (lv_at hl 2 rfl) ?_
      refine ga_iadd (v := (nI (cnT X.S X.V (i - 1) + (cntU X.V 0 60)))) hx hb (nI_add _ _) dX3_rowsOfBackingOut_39 ?_
      exact W.iret (v := (nI (cnT X.S X.V (i - 1) + (cntU X.V 0 60)))) hx hb hr (fun tz htz hWz => ⟨(nI (cnT X.S X.V (i - 1) + (cntU X.V 0 60))), rfl, (by rw [show i - 1 = t by omega]), htz⟩) (fun _ h => nomatch h) dX3_rowsOfBackingOut_40
    · have i_16 : (((i : Nat) : Int) : Int) ≤ ((t : Nat) : Int) := q_nlt c_16_2 (l_nI (by omega)) (l_nI (by omega))
      refine lv_aload_n hx hb dX3_rowsOfBackingOut_19 rfl (lv_at hl 0 rfl) ?_
      refine lv_iload hx hb dX3_rowsOfBackingOut_20 (lv_at hl 4 rfl) ?_
      refine vp_callSi (va_Run.run (va_runV (As := [.int (nI (i))]) (rest := []) ⟨hx, hb, hml, hown, hts⟩ (c_X3_isToBeBackedOut l g a r X (i) (by omega) (by omega) (by omega)) (cwV 1 hts gX3_rowsOfBackingOut_X3_isToBeBackedOut rfl rfl rfl (by decide +kernel) ⟨Nat.le_of_ble_eq_true rfl, Nat.le_of_ble_eq_true rfl⟩) (pv_r hK hP (ci := 5) (q0 := 0) rfl rfl [0, 1, 2, 3, 4, 5, 6, 7, 8, 9, 10, 11, 12, 13, 14, 15, 16, 17, 18, 19, 20] rfl) rfl rfl hl.1 rfl (lv_room (Nat.le_of_ble_eq_true rfl)) dX3_rowsOfBackingOut_22 ⟨Nat.zero_le _, Nat.zero_le _⟩)) (fun r_22_3 h_22_3 => ?_)
      refine lv_if_eq (tgt := 31) hx hb dX3_rowsOfBackingOut_25 (by decide) (fun c_25_3 => ?_) (fun c_25_3 => ?_)
      · have b_25 : ¬ (tbB X.S X.V (i)) := bI_f h_22_3 c_25_3
        refine lv_iinc (v := (nI (i + 1))) (lv' := [(4, .int (nI (i + 1))), (0, .ref (a 0)), (1, .int (nI (t))), (2, .int (nI (cntU X.V 0 60))), (3, .int (nI (cnT X.S X.V (i - 1))))]) hx hb dX3_rowsOfBackingOut_31 hl (k := 4) rfl (nI_1 _) (by decide) rfl (fun ls hl => ?_)
        refine lv_goto (tgt := 13) hx hb dX3_rowsOfBackingOut_34 (by decide) ?_
        exact ih (t + 1 - (i + 1)) (by omega) ls (i + 1) (by rw [Nat.add_sub_cancel]; rw [show cnT X.S X.V i = cnT X.S X.V (i - 1) from by obtain ⟨j, rfl⟩ : ∃ j, i = j + 1 := ⟨i - 1, by omega⟩; simp only [cnT, Nat.add_sub_cancel]; first | rw [if_pos (by assumption)] | rw [if_neg (by assumption)]]; exact lv_sub hl [1, 2, 3, 4, 0] rfl) (by omega) (by omega) rfl
      · have b_25 : tbB X.S X.V (i) := bI_t h_22_3 c_25_3
        refine lv_iinc (v := (nI (cnT X.S X.V (i - 1) + 1))) (lv' := [(3, .int (nI (cnT X.S X.V (i - 1) + 1))), (0, .ref (a 0)), (1, .int (nI (t))), (2, .int (nI (cntU X.V 0 60))), (4, .int (nI (i)))]) hx hb dX3_rowsOfBackingOut_28 hl (k := 3) rfl (nI_1 _) (by decide) rfl (fun ls hl => ?_)
        refine lv_iinc (v := (nI (i + 1))) (lv' := [(4, .int (nI (i + 1))), (3, .int (nI (cnT X.S X.V (i - 1) + 1))), (0, .ref (a 0)), (1, .int (nI (t))), (2, .int (nI (cntU X.V 0 60)))]) hx hb dX3_rowsOfBackingOut_31 hl (k := 4) rfl (nI_1 _) (by decide) rfl (fun ls hl => ?_)
        refine lv_goto (tgt := 13) hx hb dX3_rowsOfBackingOut_34 (by decide) ?_
        exact ih (t + 1 - (i + 1)) (by omega) ls (i + 1) (by rw [Nat.add_sub_cancel]; rw [show cnT X.S X.V i = cnT X.S X.V (i - 1) + 1 from by obtain ⟨j, rfl⟩ : ∃ j, i = j + 1 := ⟨i - 1, by omega⟩; simp only [cnT, Nat.add_sub_cancel]; first | rw [if_pos (by assumption)] | rw [if_neg (by assumption)]]; exact lv_sub hl [2, 3, 4, 1, 0] rfl) (by omega) (by omega) rfl
set_option maxHeartbeats 4000000 in
set_option maxRecDepth 100000 in
theorem c_X3_gap (l : Launch) (g : GG) (a r : Nat → Nat) (X : XS) (p1 : Int32) (hn : X.S.n ≤ 2000) : Met l yX3_gap wsX3_gap { frames := 2, cells := 0, slots := 0, locals := 42 } (va_Pc [.ref (a 0), .int p1] (Pr g (wXc g a r X))) (vp_Si (fun rv => rv = nI (gpF X.S X.S.n 1 p1))) 0 0 (fun _ => False) := by
  refine Met.ofW (cc := cX3_gap) (maxL := 4) (ret := (some .int)) (by decide) rfl ?_
  intro p e s m args below meth c s₁ B hml hv
  obtain ⟨rfl, hP, hK⟩ := hv
  have hx := B.exec
  have hb := B.bytes
  have hr := B.returns
  have hts := atoms_spec (ws := wsX3_gap) B.pre
  have hown : s.vm.findClass RX3 = some m.cls := findClass_of_methodNamed B.named
  have hlocks := B.notSynchronized
  have hl := lv_entry ([.ref (a 0), .int p1]) (n := 4) (Nat.le_of_ble_eq_true rfl)
  rw [lg_entry_eq]
  generalize (lg_sl ([.ref (a 0), .int p1]) ++ List.replicate (4 - (lg_sl ([.ref (a 0), .int p1])).length) Slot.unset).toArray = ls at hl ⊢
  have hl : lv_has ls 4 [(0, .ref (a 0)), (1, .int p1)] := hl
  replace hP : va_P (gD g) vwCl ([((a 0), .inr (5, [.int (nI (X.rg)), .ref (a 1), .ref (a 2), .ref (a 10), .ref (a 13), .ref (a 16)])), ((a 1), .inl (gJ g, 32, .inr (.inl X.cs))), ((a 2), .inr (3, [.ref (a 3), .ref (a 4), .ref (a 5), .ref (a 6), .ref (a 7), .ref (a 8), .ref (a 9), .int (nI (X.S.n)), .int (nI (X.S.ar))])), ((a 3), .inl (gI g, 2001, .inl X.S.kd)), ((a 4), .inl (gI g, 2001, .inl X.S.un)), ((a 5), .inl (gI g, 2001, .inl X.S.ce)), ((a 6), .inl (gJ g, 2001, .inr (.inl X.S.bf))), ((a 7), .inl (gJ g, 2001, .inr (.inl X.S.af))), ((a 8), .inl (gI g, 2001, .inl X.S.tn)), ((a 9), .inl (gZ g, 2001, .inl X.S.bk)), ((a 10), .inr (4, [.ref (a 11), .ref (a 12)])), ((a 11), .inl (gI g, 61, .inl X.U.lk)), ((a 12), .inl (gI g, 32, .inl X.U.ch)), ((a 13), .inr (4, [.ref (a 14), .ref (a 15)])), ((a 14), .inl (gI g, 61, .inl X.V.lk)), ((a 15), .inl (gI g, 32, .inl X.V.ch)), ((a 16), .inr (2, [.ref (a 17), .ref (a 18), .ref (a 19), .ref (a 20), .int (nI (X.I.k)), .int X.I.uf])), ((a 17), .inl (gI g, 21, .inl X.I.st)), ((a 18), .inl (gI g, 21, .inl X.I.en)), ((a 19), .inl (gZ g, 21, .inl X.I.sp)), ((a 20), .inl (gG g, 21, .inr (.inr (.inr (.inr (gRow r))))))]) s.heap := hP
  refine lv_iload_n hx hb dX3_gap_0 rfl (lv_at hl 1 rfl) ?_
  refine lv_istore_n (lv' := [(2, .int p1), (0, .ref (a 0)), (1, .int p1)]) hx hb dX3_gap_1 rfl hl (by decide) rfl (fun ls hl => ?_)
  refine lv_iconst (v := 1) hx hb dX3_gap_2 (by decide) ?_
  refine lv_istore_n (lv' := [(3, .int 1), (2, .int p1), (0, .ref (a 0)), (1, .int p1)]) hx hb dX3_gap_3 rfl hl (by decide) rfl (fun ls hl => ?_)
  obtain ⟨i, hi⟩ : ∃ i : Nat, i = 1 := ⟨_, rfl⟩
  obtain ⟨x, hx0⟩ : ∃ x : Int32, x = p1 := ⟨_, rfl⟩
  replace hl : lv_has ls 4 [(0, .ref (a 0)), (1, .int p1), (2, .int x), (3, .int (nI (i)))] := by subst hi; subst hx0; exact lv_sub hl [2, 3, 1, 0] rfl
  have hi1 : 1 ≤ i := by omega
  have hi2 : i ≤ X.S.n + 1 := by omega
  have hq : gpF X.S X.S.n 1 p1 = gpF X.S (X.S.n + 1 - i) i x := by rw [hi, hx0]; rfl
  clear hi hx0
  obtain ⟨d, hd⟩ : ∃ d, X.S.n + 1 - i = d := ⟨_, rfl⟩
  induction d using Nat.strongRecOn generalizing i x ls with
  | ind d ih =>
    refine lv_iload_n hx hb dX3_gap_4 rfl (lv_at hl 3 rfl) ?_
    refine lv_aload_n hx hb dX3_gap_5 rfl (lv_at hl 0 rfl) ?_
    refine va_get (D := gD g) (ci := 5) (v := .ref (a 2)) (C := RX3) (T := TX3) (N := 6) hx hb hts (by decide +kernel) hown hK.1 hP 0 rfl rfl 2 (by decide) (hts (.fieldLink RX3 16 "LogForward" "rows" "LLogForward$Rows;") (by decide +kernel)) (fun _ h9 => h9) rfl dX3_gap_6 ?_
    refine vp_callSi (va_Run.run (va_runV (As := []) (rest := [.int (nI (i))]) ⟨hx, hb, hml, hown, hts⟩ (c_X1_latest l g (fun i => a (i + 2)) X.S) (cwV 0 hts gX3_gap_X1_latest rfl rfl rfl (by decide +kernel) ⟨Nat.le_of_ble_eq_true rfl, Nat.le_of_ble_eq_true rfl⟩) (pv_r hK hP (ci := 3) (q0 := 2) rfl rfl [2, 3, 4, 5, 6, 7, 8, 9] rfl) rfl rfl hl.1 rfl (lv_room (Nat.le_of_ble_eq_true rfl)) dX3_gap_9 ⟨Nat.zero_le _, Nat.zero_le _⟩)) (fun r_9_2 h_9_2 => ?_)
    subst h_9_2
    refine lv_icmp_gt (tgt := 41) hx hb dX3_gap_12 (by decide) (fun c_12_2 => ?_) (fun c_12_2 => ?_)
    · have i_12 : (((X.S.n : Nat) : Int) : Int) < ((i : Nat) : Int) := q_lt c_12_2 (l_nI (by omega)) (l_nI (by omega))
      refine lv_iconst (v := 0) hx hb dX3_gap_41 (by decide) ?_
      exact W.iret (v := 0) hx hb hr (fun tz htz hWz => ⟨0, rfl, (by rw [hq, gp_end (by omega)]; rfl), htz⟩) (fun _ h => nomatch h) dX3_gap_42
    · have i_12 : (((i : Nat) : Int) : Int) ≤ ((X.S.n : Nat) : Int) := q_nlt c_12_2 (l_nI (by omega)) (l_nI (by omega))
      refine lv_aload_n hx hb dX3_gap_15 rfl (lv_at hl 0 rfl) ?_
      refine va_get (D := gD g) (ci := 5) (v := .ref (a 2)) (C := RX3) (T := TX3) (N := 6) hx hb hts (by decide +kernel) hown hK.1 hP 0 rfl rfl 2 (by decide) (hts (.fieldLink RX3 16 "LogForward" "rows" "LLogForward$Rows;") (by decide +kernel)) (fun _ h9 => h9) rfl dX3_gap_16 ?_
      refine lv_iload_n hx hb dX3_gap_19 rfl (lv_at hl 3 rfl) ?_
      refine vp_callSi (va_Run.run (va_runV (As := [.int (nI (i))]) (rest := []) ⟨hx, hb, hml, hown, hts⟩ (c_X1_isMissing l g (fun i => a (i + 2)) X.S (i) (by omega) (by omega) (by omega)) (cwV 1 hts gX3_gap_X1_isMissing rfl rfl rfl (by decide +kernel) ⟨Nat.le_of_ble_eq_true rfl, Nat.le_of_ble_eq_true rfl⟩) (pv_r hK hP (ci := 3) (q0 := 2) rfl rfl [2, 3, 4, 5, 6, 7, 8, 9] rfl) rfl rfl hl.1 rfl (lv_room (Nat.le_of_ble_eq_true rfl)) dX3_gap_20 ⟨Nat.zero_le _, Nat.zero_le _⟩)) (fun r_20_3 h_20_3 => ?_)
      refine lv_if_eq (tgt := 35) hx hb dX3_gap_23 (by decide) (fun c_23_3 => ?_) (fun c_23_3 => ?_)
      · have b_23 : ¬ (X.S.tn (i) = 3) := bI_f h_20_3 c_23_3
        refine lv_iinc (v := (nI (i + 1))) (lv' := [(3, .int (nI (i + 1))), (0, .ref (a 0)), (1, .int p1), (2, .int x)]) hx hb dX3_gap_35 hl (k := 3) rfl (nI_1 _) (by decide) rfl (fun ls hl => ?_)
        refine lv_goto (tgt := 4) hx hb dX3_gap_38 (by decide) ?_
        exact ih (X.S.n + 1 - (i + 1)) (by omega) ls (i + 1) x (lv_sub hl [1, 2, 3, 0] rfl) (by omega) (by omega) (by rw [hq]; exact gp_no (by omega) (by assumption)) rfl
      · have b_23 : X.S.tn (i) = 3 := bI_t h_20_3 c_23_3
        refine lv_iload_n hx hb dX3_gap_26 rfl (lv_at hl 2 rfl) ?_
        refine lv_if_ne (tgt := 32) hx hb dX3_gap_27 (by decide) (fun c_27_4 => ?_) (fun c_27_4 => ?_)
        · have i_27 : (x.toInt : Int) ≠ 0 := q_ne c_27_4 rfl rfl
          refine lv_iinc (v := (x + (-1))) (lv' := [(2, .int (x + (-1))), (0, .ref (a 0)), (1, .int p1), (3, .int (nI (i)))]) hx hb dX3_gap_32 hl (k := 2) rfl (rfl) (by decide) rfl (fun ls hl => ?_)
          refine lv_iinc (v := (nI (i + 1))) (lv' := [(3, .int (nI (i + 1))), (2, .int (x + (-1))), (0, .ref (a 0)), (1, .int p1)]) hx hb dX3_gap_35 hl (k := 3) rfl (nI_1 _) (by decide) rfl (fun ls hl => ?_)
          refine lv_goto (tgt := 4) hx hb dX3_gap_38 (by decide) ?_
          exact ih (X.S.n + 1 - (i + 1)) (by omega) ls (i + 1) (x + (-1)) (lv_sub hl [2, 3, 1, 0] rfl) (by omega) (by omega) (by rw [hq]; exact gp_go (by omega) (by assumption) (by assumption)) rfl
        · have i_27 : (x.toInt : Int) = 0 := q_eq c_27_4 rfl rfl
          refine lv_iload_n hx hb dX3_gap_30 rfl (lv_at hl 3 rfl) ?_
          exact W.iret (v := (nI (i))) hx hb hr (fun tz htz hWz => ⟨(nI (i)), rfl, (by rw [hq, gp_yes (by omega) (by assumption) (by assumption)]), htz⟩) (fun _ h => nomatch h) dX3_gap_31
set_option maxHeartbeats 4000000 in
set_option maxRecDepth 100000 in
theorem c_X3_merge (l : Launch) (g : GG) (a r : Nat → Nat) (X : XS) (p1 p2 : Int32) (hg1 : 1 ≤ X.rg) (hg2 : X.rg ≤ 4) (hn : X.S.n ≤ 2000) : Met l yX3_merge wsX3_merge { frames := 2, cells := 0, slots := 0, locals := 42 } (va_Pc [.ref (a 0), .int p1, .int p2] (Pr g (wXc g a r X))) (vp_Si (fun rv => rv = nI (mgF X.S (nI X.rg) p1 X.S.n 1 p2))) 0 0 (fun _ => False) := by
  refine Met.ofW (cc := cX3_merge) (maxL := 5) (ret := (some .int)) (by decide) rfl ?_
  intro p e s m args below meth c s₁ B hml hv
  obtain ⟨rfl, hP, hK⟩ := hv
  have hx := B.exec
  have hb := B.bytes
  have hr := B.returns
  have hts := atoms_spec (ws := wsX3_merge) B.pre
  have hown : s.vm.findClass RX3 = some m.cls := findClass_of_methodNamed B.named
  have hlocks := B.notSynchronized
  have hl := lv_entry ([.ref (a 0), .int p1, .int p2]) (n := 5) (Nat.le_of_ble_eq_true rfl)
  rw [lg_entry_eq]
  generalize (lg_sl ([.ref (a 0), .int p1, .int p2]) ++ List.replicate (5 - (lg_sl ([.ref (a 0), .int p1, .int p2])).length) Slot.unset).toArray = ls at hl ⊢
  have hl : lv_has ls 5 [(0, .ref (a 0)), (1, .int p1), (2, .int p2)] := hl
  replace hP : va_P (gD g) vwCl ([((a 0), .inr (5, [.int (nI (X.rg)), .ref (a 1), .ref (a 2), .ref (a 10), .ref (a 13), .ref (a 16)])), ((a 1), .inl (gJ g, 32, .inr (.inl X.cs))), ((a 2), .inr (3, [.ref (a 3), .ref (a 4), .ref (a 5), .ref (a 6), .ref (a 7), .ref (a 8), .ref (a 9), .int (nI (X.S.n)), .int (nI (X.S.ar))])), ((a 3), .inl (gI g, 2001, .inl X.S.kd)), ((a 4), .inl (gI g, 2001, .inl X.S.un)), ((a 5), .inl (gI g, 2001, .inl X.S.ce)), ((a 6), .inl (gJ g, 2001, .inr (.inl X.S.bf))), ((a 7), .inl (gJ g, 2001, .inr (.inl X.S.af))), ((a 8), .inl (gI g, 2001, .inl X.S.tn)), ((a 9), .inl (gZ g, 2001, .inl X.S.bk)), ((a 10), .inr (4, [.ref (a 11), .ref (a 12)])), ((a 11), .inl (gI g, 61, .inl X.U.lk)), ((a 12), .inl (gI g, 32, .inl X.U.ch)), ((a 13), .inr (4, [.ref (a 14), .ref (a 15)])), ((a 14), .inl (gI g, 61, .inl X.V.lk)), ((a 15), .inl (gI g, 32, .inl X.V.ch)), ((a 16), .inr (2, [.ref (a 17), .ref (a 18), .ref (a 19), .ref (a 20), .int (nI (X.I.k)), .int X.I.uf])), ((a 17), .inl (gI g, 21, .inl X.I.st)), ((a 18), .inl (gI g, 21, .inl X.I.en)), ((a 19), .inl (gZ g, 21, .inl X.I.sp)), ((a 20), .inl (gG g, 21, .inr (.inr (.inr (.inr (gRow r))))))]) s.heap := hP
  refine lv_iload_n hx hb dX3_merge_0 rfl (lv_at hl 2 rfl) ?_
  refine lv_istore_n (lv' := [(3, .int p2), (0, .ref (a 0)), (1, .int p1), (2, .int p2)]) hx hb dX3_merge_1 rfl hl (by decide) rfl (fun ls hl => ?_)
  refine lv_iconst (v := 1) hx hb dX3_merge_2 (by decide) ?_
  refine lv_istore (lv' := [(4, .int 1), (3, .int p2), (0, .ref (a 0)), (1, .int p1), (2, .int p2)]) hx hb dX3_merge_3 hl (by decide) rfl (fun ls hl => ?_)
  obtain ⟨i, hi⟩ : ∃ i : Nat, i = 1 := ⟨_, rfl⟩
  obtain ⟨x, hx0⟩ : ∃ x : Int32, x = p2 := ⟨_, rfl⟩
  replace hl : lv_has ls 5 [(0, .ref (a 0)), (1, .int p1), (2, .int p2), (3, .int x), (4, .int (nI (i)))] := by subst hi; subst hx0; exact lv_sub hl [2, 3, 4, 1, 0] rfl
  have hi1 : 1 ≤ i := by omega
  have hi2 : i ≤ X.S.n + 1 := by omega
  have hq : mgF X.S (nI X.rg) p1 X.S.n 1 p2 = mgF X.S (nI X.rg) p1 (X.S.n + 1 - i) i x := by rw [hi, hx0]; rfl
  clear hi hx0
  obtain ⟨d, hd⟩ : ∃ d, X.S.n + 1 - i = d := ⟨_, rfl⟩
  induction d using Nat.strongRecOn generalizing i x ls with
  | ind d ih =>
    refine lv_iload hx hb dX3_merge_5 (lv_at hl 4 rfl) ?_
    refine lv_aload_n hx hb dX3_merge_7 rfl (lv_at hl 0 rfl) ?_
    refine va_get (D := gD g) (ci := 5) (v := .ref (a 2)) (C := RX3) (T := TX3) (N := 6) hx hb hts (by decide +kernel) hown hK.1 hP 0 rfl rfl 2 (by decide) (hts (.fieldLink RX3 16 "LogForward" "rows" "LLogForward$Rows;") (by decide +kernel)) (fun _ h9 => h9) rfl dX3_merge_8 ?_
    refine vp_callSi (va_Run.run (va_runV (As := []) (rest := [.int (nI (i))]) ⟨hx, hb, hml, hown, hts⟩ (c_X1_latest l g (fun i => a (i + 2)) X.S) (cwV 0 hts gX3_merge_X1_latest rfl rfl rfl (by decide +kernel) ⟨Nat.le_of_ble_eq_true rfl, Nat.le_of_ble_eq_true rfl⟩) (pv_r hK hP (ci := 3) (q0 := 2) rfl rfl [2, 3, 4, 5, 6, 7, 8, 9] rfl) rfl rfl hl.1 rfl (lv_room (Nat.le_of_ble_eq_true rfl)) dX3_merge_11 ⟨Nat.zero_le _, Nat.zero_le _⟩)) (fun r_11_2 h_11_2 => ?_)
    subst h_11_2
    refine lv_icmp_gt (tgt := 51) hx hb dX3_merge_14 (by decide) (fun c_14_2 => ?_) (fun c_14_2 => ?_)
    · have i_14 : (((X.S.n : Nat) : Int) : Int) < ((i : Nat) : Int) := q_lt c_14_2 (l_nI (by omega)) (l_nI (by omega))
      refine lv_iconst (v := 0) hx hb dX3_merge_51 (by decide) ?_
      exact W.iret (v := 0) hx hb hr (fun tz htz hWz => ⟨0, rfl, (by rw [hq, mg_end (by omega)]; rfl), htz⟩) (fun _ h => nomatch h) dX3_merge_52
    · have i_14 : (((i : Nat) : Int) : Int) ≤ ((X.S.n : Nat) : Int) := q_nlt c_14_2 (l_nI (by omega)) (l_nI (by omega))
      refine lv_aload_n hx hb dX3_merge_17 rfl (lv_at hl 0 rfl) ?_
      refine va_get (D := gD g) (ci := 5) (v := .ref (a 2)) (C := RX3) (T := TX3) (N := 6) hx hb hts (by decide +kernel) hown hK.1 hP 0 rfl rfl 2 (by decide) (hts (.fieldLink RX3 16 "LogForward" "rows" "LLogForward$Rows;") (by decide +kernel)) (fun _ h9 => h9) rfl dX3_merge_18 ?_
      refine lv_iload hx hb dX3_merge_21 (lv_at hl 4 rfl) ?_
      refine vp_callSi (va_Run.run (va_runV (As := [.int (nI (i))]) (rest := []) ⟨hx, hb, hml, hown, hts⟩ (c_X1_unitOf l g (fun i => a (i + 2)) X.S (i) (by omega) (by omega) (by omega)) (cwV 1 hts gX3_merge_X1_unitOf rfl rfl rfl (by decide +kernel) ⟨Nat.le_of_ble_eq_true rfl, Nat.le_of_ble_eq_true rfl⟩) (pv_r hK hP (ci := 3) (q0 := 2) rfl rfl [2, 3, 4, 5, 6, 7, 8, 9] rfl) rfl rfl hl.1 rfl (lv_room (Nat.le_of_ble_eq_true rfl)) dX3_merge_23 ⟨Nat.zero_le _, Nat.zero_le _⟩)) (fun r_23_3 h_23_3 => ?_)
      subst h_23_3
      refine lv_aload_n hx hb dX3_merge_26 rfl (lv_at hl 0 rfl) ?_
      refine va_get (D := gD g) (ci := 5) (v := .int (nI (X.rg))) (C := RX3) (T := TX3) (N := 6) hx hb hts (by decide +kernel) hown hK.1 hP 0 rfl rfl 0 (by decide) (hts (.fieldLink RX3 46 "LogForward" "regions" "I") (by decide +kernel)) (fun _ h9 => h9) rfl dX3_merge_27 ?_
      refine lv_irem hx hb dX3_merge_30 (nI_ne0 (by omega) (by omega)) ?_
      refine lv_iload_n hx hb dX3_merge_31 rfl (lv_at hl 1 rfl) ?_
      refine lv_icmp_ne (tgt := 45) hx hb dX3_merge_32 (by decide) (fun c_32_3 => ?_) (fun c_32_3 => ?_)
      · have i_32 : (((X.S.un (i)) - (X.S.un (i)) / (nI (X.rg)) * (nI (X.rg))).toInt : Int) ≠ p1.toInt := q_ne c_32_3 rfl rfl
        refine lv_iinc (v := (nI (i + 1))) (lv' := [(4, .int (nI (i + 1))), (0, .ref (a 0)), (1, .int p1), (2, .int p2), (3, .int x)]) hx hb dX3_merge_45 hl (k := 4) rfl (nI_1 _) (by decide) rfl (fun ls hl => ?_)
        refine lv_goto (tgt := 5) hx hb dX3_merge_48 (by decide) ?_
        exact ih (X.S.n + 1 - (i + 1)) (by omega) ls (i + 1) x (lv_sub hl [1, 2, 3, 4, 0] rfl) (by omega) (by omega) (by rw [hq]; exact mg_no (by omega) (by assumption)) rfl
      · have i_32 : (((X.S.un (i)) - (X.S.un (i)) / (nI (X.rg)) * (nI (X.rg))).toInt : Int) = p1.toInt := q_eq c_32_3 rfl rfl
        refine lv_iload_n hx hb dX3_merge_35 rfl (lv_at hl 3 rfl) ?_
        refine lv_if_ne (tgt := 42) hx hb dX3_merge_36 (by decide) (fun c_36_4 => ?_) (fun c_36_4 => ?_)
        · have i_36 : (x.toInt : Int) ≠ 0 := q_ne c_36_4 rfl rfl
          refine lv_iinc (v := (x + (-1))) (lv' := [(3, .int (x + (-1))), (0, .ref (a 0)), (1, .int p1), (2, .int p2), (4, .int (nI (i)))]) hx hb dX3_merge_42 hl (k := 3) rfl (rfl) (by decide) rfl (fun ls hl => ?_)
          refine lv_iinc (v := (nI (i + 1))) (lv' := [(4, .int (nI (i + 1))), (3, .int (x + (-1))), (0, .ref (a 0)), (1, .int p1), (2, .int p2)]) hx hb dX3_merge_45 hl (k := 4) rfl (nI_1 _) (by decide) rfl (fun ls hl => ?_)
          refine lv_goto (tgt := 5) hx hb dX3_merge_48 (by decide) ?_
          exact ih (X.S.n + 1 - (i + 1)) (by omega) ls (i + 1) (x + (-1)) (lv_sub hl [2, 3, 4, 1, 0] rfl) (by omega) (by omega) (by rw [hq]; exact mg_go (by omega) (by assumption) (by assumption)) rfl
        · have i_36 : (x.toInt : Int) = 0 := q_eq c_36_4 rfl rfl
          refine lv_iload hx hb dX3_merge_39 (lv_at hl 4 rfl) ?_
          exact W.iret (v := (nI (i))) hx hb hr (fun tz htz hWz => ⟨(nI (i)), rfl, (by rw [hq, mg_yes (by omega) (by assumption) (by assumption)]), htz⟩) (fun _ h => nomatch h) dX3_merge_41
set_option maxHeartbeats 4000000 in
set_option maxRecDepth 100000 in
theorem c_X3_warm (l : Launch) (g : GG) (a r : Nat → Nat) (X : XS)  : Met l yX3_warm wsX3_warm { frames := 2, cells := 0, slots := 0, locals := 43 } (va_Pc [.ref (a 0)] (Pr g (wXc g a r X))) (vp_Si (fun rv => rv = nI (cntU X.U 0 60))) 0 0 (fun _ => False) := by
  refine Met.ofW (cc := cX3_warm) (maxL := 1) (ret := (some .int)) (by decide) rfl ?_
  intro p e s m args below meth c s₁ B hml hv
  obtain ⟨rfl, hP, hK⟩ := hv
  have hx := B.exec
  have hb := B.bytes
  have hr := B.returns
  have hts := atoms_spec (ws := wsX3_warm) B.pre
  have hown : s.vm.findClass RX3 = some m.cls := findClass_of_methodNamed B.named
  have hlocks := B.notSynchronized
  have hl := lv_entry ([.ref (a 0)]) (n := 1) (Nat.le_of_ble_eq_true rfl)
  rw [lg_entry_eq]
  generalize (lg_sl ([.ref (a 0)]) ++ List.replicate (1 - (lg_sl ([.ref (a 0)])).length) Slot.unset).toArray = ls at hl ⊢
  have hl : lv_has ls 1 [(0, .ref (a 0))] := hl
  replace hP : va_P (gD g) vwCl ([((a 0), .inr (5, [.int (nI (X.rg)), .ref (a 1), .ref (a 2), .ref (a 10), .ref (a 13), .ref (a 16)])), ((a 1), .inl (gJ g, 32, .inr (.inl X.cs))), ((a 2), .inr (3, [.ref (a 3), .ref (a 4), .ref (a 5), .ref (a 6), .ref (a 7), .ref (a 8), .ref (a 9), .int (nI (X.S.n)), .int (nI (X.S.ar))])), ((a 3), .inl (gI g, 2001, .inl X.S.kd)), ((a 4), .inl (gI g, 2001, .inl X.S.un)), ((a 5), .inl (gI g, 2001, .inl X.S.ce)), ((a 6), .inl (gJ g, 2001, .inr (.inl X.S.bf))), ((a 7), .inl (gJ g, 2001, .inr (.inl X.S.af))), ((a 8), .inl (gI g, 2001, .inl X.S.tn)), ((a 9), .inl (gZ g, 2001, .inl X.S.bk)), ((a 10), .inr (4, [.ref (a 11), .ref (a 12)])), ((a 11), .inl (gI g, 61, .inl X.U.lk)), ((a 12), .inl (gI g, 32, .inl X.U.ch)), ((a 13), .inr (4, [.ref (a 14), .ref (a 15)])), ((a 14), .inl (gI g, 61, .inl X.V.lk)), ((a 15), .inl (gI g, 32, .inl X.V.ch)), ((a 16), .inr (2, [.ref (a 17), .ref (a 18), .ref (a 19), .ref (a 20), .int (nI (X.I.k)), .int X.I.uf])), ((a 17), .inl (gI g, 21, .inl X.I.st)), ((a 18), .inl (gI g, 21, .inl X.I.en)), ((a 19), .inl (gZ g, 21, .inl X.I.sp)), ((a 20), .inl (gG g, 21, .inr (.inr (.inr (.inr (gRow r))))))]) s.heap := hP
  refine lv_aload_n hx hb dX3_warm_0 rfl (lv_at hl 0 rfl) ?_
  refine va_get (D := gD g) (ci := 5) (v := .ref (a 10)) (C := RX3) (T := TX3) (N := 6) hx hb hts (by decide +kernel) hown hK.1 hP 0 rfl rfl 3 (by decide) (hts (.fieldLink RX3 23 "LogForward" "units" "LLogForward$Units;") (by decide +kernel)) (fun _ h9 => h9) rfl dX3_warm_1 ?_
  refine vp_callSi (va_Run.run (va_runV (As := []) (rest := []) ⟨hx, hb, hml, hown, hts⟩ (c_X2_howManyOpen l g (fun i => a (i + 10)) X.U) (cwV 0 hts gX3_warm_X2_howManyOpen rfl rfl rfl (by decide +kernel) ⟨Nat.le_of_ble_eq_true rfl, Nat.le_of_ble_eq_true rfl⟩) (pv_r hK hP (ci := 4) (q0 := 10) rfl rfl [10, 11, 12] rfl) rfl rfl hl.1 rfl (lv_room (Nat.le_of_ble_eq_true rfl)) dX3_warm_4 ⟨Nat.zero_le _, Nat.zero_le _⟩)) (fun r_4_1 h_4_1 => ?_)
  subst h_4_1
  exact W.iret (v := (nI (cntU X.U 0 60))) hx hb hr (fun tz htz hWz => ⟨(nI (cntU X.U 0 60)), rfl, rfl, htz⟩) (fun _ h => nomatch h) dX3_warm_7
set_option maxHeartbeats 4000000 in
set_option maxRecDepth 100000 in
theorem c_X3_ahead (l : Launch) (g : GG) (a r : Nat → Nat) (X : XS) (hn : X.S.n ≤ 2000) : Met l yX3_ahead wsX3_ahead { frames := 3, cells := 0, slots := 0, locals := 65 } (va_Pc [.ref (a 0)] (Pr g (wXc g a r X))) (vp_Si (fun rv => rv = bI (gpF X.S X.S.n 1 0 = 0))) 0 0 (fun _ => False) := by
  refine Met.ofW (cc := cX3_ahead) (maxL := 1) (ret := (some .boolean)) (by decide) rfl ?_
  intro p e s m args below meth c s₁ B hml hv
  obtain ⟨rfl, hP, hK⟩ := hv
  have hx := B.exec
  have hb := B.bytes
  have hr := B.returns
  have hts := atoms_spec (ws := wsX3_ahead) B.pre
  have hown : s.vm.findClass RX3 = some m.cls := findClass_of_methodNamed B.named
  have hlocks := B.notSynchronized
  have hl := lv_entry ([.ref (a 0)]) (n := 1) (Nat.le_of_ble_eq_true rfl)
  rw [lg_entry_eq]
  generalize (lg_sl ([.ref (a 0)]) ++ List.replicate (1 - (lg_sl ([.ref (a 0)])).length) Slot.unset).toArray = ls at hl ⊢
  have hl : lv_has ls 1 [(0, .ref (a 0))] := hl
  replace hP : va_P (gD g) vwCl ([((a 0), .inr (5, [.int (nI (X.rg)), .ref (a 1), .ref (a 2), .ref (a 10), .ref (a 13), .ref (a 16)])), ((a 1), .inl (gJ g, 32, .inr (.inl X.cs))), ((a 2), .inr (3, [.ref (a 3), .ref (a 4), .ref (a 5), .ref (a 6), .ref (a 7), .ref (a 8), .ref (a 9), .int (nI (X.S.n)), .int (nI (X.S.ar))])), ((a 3), .inl (gI g, 2001, .inl X.S.kd)), ((a 4), .inl (gI g, 2001, .inl X.S.un)), ((a 5), .inl (gI g, 2001, .inl X.S.ce)), ((a 6), .inl (gJ g, 2001, .inr (.inl X.S.bf))), ((a 7), .inl (gJ g, 2001, .inr (.inl X.S.af))), ((a 8), .inl (gI g, 2001, .inl X.S.tn)), ((a 9), .inl (gZ g, 2001, .inl X.S.bk)), ((a 10), .inr (4, [.ref (a 11), .ref (a 12)])), ((a 11), .inl (gI g, 61, .inl X.U.lk)), ((a 12), .inl (gI g, 32, .inl X.U.ch)), ((a 13), .inr (4, [.ref (a 14), .ref (a 15)])), ((a 14), .inl (gI g, 61, .inl X.V.lk)), ((a 15), .inl (gI g, 32, .inl X.V.ch)), ((a 16), .inr (2, [.ref (a 17), .ref (a 18), .ref (a 19), .ref (a 20), .int (nI (X.I.k)), .int X.I.uf])), ((a 17), .inl (gI g, 21, .inl X.I.st)), ((a 18), .inl (gI g, 21, .inl X.I.en)), ((a 19), .inl (gZ g, 21, .inl X.I.sp)), ((a 20), .inl (gG g, 21, .inr (.inr (.inr (.inr (gRow r))))))]) s.heap := hP
  refine lv_aload_n hx hb dX3_ahead_0 rfl (lv_at hl 0 rfl) ?_
  refine lv_iconst (v := 0) hx hb dX3_ahead_1 (by decide) ?_
  refine vp_callSi (va_Run.run (va_runV (As := [.int 0]) (rest := []) ⟨hx, hb, hml, hown, hts⟩ (c_X3_gap l g a r X 0 (by omega)) (cwV 1 hts gX3_ahead_X3_gap rfl rfl rfl (by decide +kernel) ⟨Nat.le_of_ble_eq_true rfl, Nat.le_of_ble_eq_true rfl⟩) (pv_r hK hP (ci := 5) (q0 := 0) rfl rfl [0, 1, 2, 3, 4, 5, 6, 7, 8, 9, 10, 11, 12, 13, 14, 15, 16, 17, 18, 19, 20] rfl) rfl rfl hl.1 rfl (lv_room (Nat.le_of_ble_eq_true rfl)) dX3_ahead_2 ⟨Nat.zero_le _, Nat.zero_le _⟩)) (fun r_2_1 h_2_1 => ?_)
  subst h_2_1
  refine lv_if_ne (tgt := 12) hx hb dX3_ahead_5 (by decide) (fun c_5_1 => ?_) (fun c_5_1 => ?_)
  · have i_5 : (((gpF X.S X.S.n 1 0 : Nat) : Int) : Int) ≠ 0 := q_ne c_5_1 (l_nI (by have := gpF_le X.S X.S.n 1 0; omega)) rfl
    refine lv_iconst (v := 0) hx hb dX3_ahead_12 (by decide) ?_
    exact W.zret (v := 0) hx hb hr rfl (fun tz htz hWz => ⟨0, rfl, (bI_0 (by omega)), htz⟩) (fun _ h => nomatch h) dX3_ahead_13
  · have i_5 : (((gpF X.S X.S.n 1 0 : Nat) : Int) : Int) = 0 := q_eq c_5_1 (l_nI (by have := gpF_le X.S X.S.n 1 0; omega)) rfl
    refine lv_iconst (v := 1) hx hb dX3_ahead_8 (by decide) ?_
    refine lv_goto (tgt := 13) hx hb dX3_ahead_9 (by decide) ?_
    exact W.zret (v := 1) hx hb hr rfl (fun tz htz hWz => ⟨1, rfl, (bI_1 (by omega)), htz⟩) (fun _ h => nomatch h) dX3_ahead_13
set_option maxHeartbeats 4000000 in
set_option maxRecDepth 100000 in
theorem c_X3_count (l : Launch) (g : GG) (a r : Nat → Nat) (X : XS) (p1 : Int32) : Met l yX3_count wsX3_count { frames := 1, cells := 0, slots := 0, locals := 23 } (va_Pc [.ref (a 0), .int p1] (Pr g (wXc g a r X))) (vp_Si (fun rv => rv = coX X p1)) 0 0 (fun _ => False) := by
  refine Met.ofW (cc := cX3_count) (maxL := 2) (ret := (some .int)) (by decide) rfl ?_
  intro p e s m args below meth c s₁ B hml hv
  obtain ⟨rfl, hP, hK⟩ := hv
  have hx := B.exec
  have hb := B.bytes
  have hr := B.returns
  have hts := atoms_spec (ws := wsX3_count) B.pre
  have hown : s.vm.findClass RX3 = some m.cls := findClass_of_methodNamed B.named
  have hlocks := B.notSynchronized
  have hl := lv_entry ([.ref (a 0), .int p1]) (n := 2) (Nat.le_of_ble_eq_true rfl)
  rw [lg_entry_eq]
  generalize (lg_sl ([.ref (a 0), .int p1]) ++ List.replicate (2 - (lg_sl ([.ref (a 0), .int p1])).length) Slot.unset).toArray = ls at hl ⊢
  have hl : lv_has ls 2 [(0, .ref (a 0)), (1, .int p1)] := hl
  replace hP : va_P (gD g) vwCl ([((a 0), .inr (5, [.int (nI (X.rg)), .ref (a 1), .ref (a 2), .ref (a 10), .ref (a 13), .ref (a 16)])), ((a 1), .inl (gJ g, 32, .inr (.inl X.cs))), ((a 2), .inr (3, [.ref (a 3), .ref (a 4), .ref (a 5), .ref (a 6), .ref (a 7), .ref (a 8), .ref (a 9), .int (nI (X.S.n)), .int (nI (X.S.ar))])), ((a 3), .inl (gI g, 2001, .inl X.S.kd)), ((a 4), .inl (gI g, 2001, .inl X.S.un)), ((a 5), .inl (gI g, 2001, .inl X.S.ce)), ((a 6), .inl (gJ g, 2001, .inr (.inl X.S.bf))), ((a 7), .inl (gJ g, 2001, .inr (.inl X.S.af))), ((a 8), .inl (gI g, 2001, .inl X.S.tn)), ((a 9), .inl (gZ g, 2001, .inl X.S.bk)), ((a 10), .inr (4, [.ref (a 11), .ref (a 12)])), ((a 11), .inl (gI g, 61, .inl X.U.lk)), ((a 12), .inl (gI g, 32, .inl X.U.ch)), ((a 13), .inr (4, [.ref (a 14), .ref (a 15)])), ((a 14), .inl (gI g, 61, .inl X.V.lk)), ((a 15), .inl (gI g, 32, .inl X.V.ch)), ((a 16), .inr (2, [.ref (a 17), .ref (a 18), .ref (a 19), .ref (a 20), .int (nI (X.I.k)), .int X.I.uf])), ((a 17), .inl (gI g, 21, .inl X.I.st)), ((a 18), .inl (gI g, 21, .inl X.I.en)), ((a 19), .inl (gZ g, 21, .inl X.I.sp)), ((a 20), .inl (gG g, 21, .inr (.inr (.inr (.inr (gRow r))))))]) s.heap := hP
  refine lv_iload_n hx hb dX3_count_0 rfl (lv_at hl 1 rfl) ?_
  rcases c4 p1 with rfl | rfl | rfl | rfl | hp1
  · refine lv_tableIn (tgt := 32) hx hb dX3_count_1 (by decide) (by decide) rfl (by decide) ?_
    refine lv_aload_n hx hb dX3_count_32 rfl (lv_at hl 0 rfl) ?_
    refine va_get (D := gD g) (ci := 5) (v := .ref (a 2)) (C := RX3) (T := TX3) (N := 6) hx hb hts (by decide +kernel) hown hK.1 hP 0 rfl rfl 2 (by decide) (hts (.fieldLink RX3 16 "LogForward" "rows" "LLogForward$Rows;") (by decide +kernel)) (fun _ h9 => h9) rfl dX3_count_33 ?_
    refine vp_callSi (va_Run.run (va_runV (As := []) (rest := []) ⟨hx, hb, hml, hown, hts⟩ (c_X1_latest l g (fun i => a (i + 2)) X.S) (cwV 0 hts gX3_count_X1_latest rfl rfl rfl (by decide +kernel) ⟨Nat.le_of_ble_eq_true rfl, Nat.le_of_ble_eq_true rfl⟩) (pv_r hK hP (ci := 3) (q0 := 2) rfl rfl [2, 3, 4, 5, 6, 7, 8, 9] rfl) rfl rfl hl.1 rfl (lv_room (Nat.le_of_ble_eq_true rfl)) dX3_count_36 ⟨Nat.zero_le _, Nat.zero_le _⟩)) (fun r_36_2 h_36_2 => ?_)
    subst h_36_2
    exact W.iret (v := (nI (X.S.n))) hx hb hr (fun tz htz hWz => ⟨(nI (X.S.n)), rfl, rfl, htz⟩) (fun _ h => nomatch h) dX3_count_39
  · refine lv_tableIn (tgt := 40) hx hb dX3_count_1 (by decide) (by decide) rfl (by decide) ?_
    refine lv_aload_n hx hb dX3_count_40 rfl (lv_at hl 0 rfl) ?_
    refine va_get (D := gD g) (ci := 5) (v := .ref (a 16)) (C := RX3) (T := TX3) (N := 6) hx hb hts (by decide +kernel) hown hK.1 hP 0 rfl rfl 5 (by decide) (hts (.fieldLink RX3 33 "LogForward" "images" "LLogForward$Images;") (by decide +kernel)) (fun _ h9 => h9) rfl dX3_count_41 ?_
    refine vp_callSi (va_Run.run (va_runV (As := []) (rest := []) ⟨hx, hb, hml, hown, hts⟩ (c_X0_howMany l g (fun i => a (i + 16)) r X.I) (cwV 0 hts gX3_count_X0_howMany rfl rfl rfl (by decide +kernel) ⟨Nat.le_of_ble_eq_true rfl, Nat.le_of_ble_eq_true rfl⟩) (pv_r hK hP (ci := 2) (q0 := 16) rfl rfl [16, 17, 18, 19, 20] rfl) rfl rfl hl.1 rfl (lv_room (Nat.le_of_ble_eq_true rfl)) dX3_count_44 ⟨Nat.zero_le _, Nat.zero_le _⟩)) (fun r_44_2 h_44_2 => ?_)
    subst h_44_2
    exact W.iret (v := (nI (X.I.k))) hx hb hr (fun tz htz hWz => ⟨(nI (X.I.k)), rfl, rfl, htz⟩) (fun _ h => nomatch h) dX3_count_47
  · refine lv_tableIn (tgt := 48) hx hb dX3_count_1 (by decide) (by decide) rfl (by decide) ?_
    refine lv_aload_n hx hb dX3_count_48 rfl (lv_at hl 0 rfl) ?_
    refine va_get (D := gD g) (ci := 5) (v := .ref (a 2)) (C := RX3) (T := TX3) (N := 6) hx hb hts (by decide +kernel) hown hK.1 hP 0 rfl rfl 2 (by decide) (hts (.fieldLink RX3 16 "LogForward" "rows" "LLogForward$Rows;") (by decide +kernel)) (fun _ h9 => h9) rfl dX3_count_49 ?_
    refine vp_callSi (va_Run.run (va_runV (As := []) (rest := []) ⟨hx, hb, hml, hown, hts⟩ (c_X1_archived l g (fun i => a (i + 2)) X.S) (cwV 0 hts gX3_count_X1_archived rfl rfl rfl (by decide +kernel) ⟨Nat.le_of_ble_eq_true rfl, Nat.le_of_ble_eq_true rfl⟩) (pv_r hK hP (ci := 3) (q0 := 2) rfl rfl [2, 3, 4, 5, 6, 7, 8, 9] rfl) rfl rfl hl.1 rfl (lv_room (Nat.le_of_ble_eq_true rfl)) dX3_count_52 ⟨Nat.zero_le _, Nat.zero_le _⟩)) (fun r_52_2 h_52_2 => ?_)
    subst h_52_2
    exact W.iret (v := (nI (X.S.ar))) hx hb hr (fun tz htz hWz => ⟨(nI (X.S.ar)), rfl, rfl, htz⟩) (fun _ h => nomatch h) dX3_count_55
  · refine lv_tableIn (tgt := 56) hx hb dX3_count_1 (by decide) (by decide) rfl (by decide) ?_
    refine lv_aload_n hx hb dX3_count_56 rfl (lv_at hl 0 rfl) ?_
    refine va_get (D := gD g) (ci := 5) (v := .ref (a 10)) (C := RX3) (T := TX3) (N := 6) hx hb hts (by decide +kernel) hown hK.1 hP 0 rfl rfl 3 (by decide) (hts (.fieldLink RX3 23 "LogForward" "units" "LLogForward$Units;") (by decide +kernel)) (fun _ h9 => h9) rfl dX3_count_57 ?_
    refine lv_iconst (v := 1) hx hb dX3_count_60 (by decide) ?_
    refine vp_callSi (va_Run.run (va_runV (As := [.int 1]) (rest := []) ⟨hx, hb, hml, hown, hts⟩ (c_X2_howManyEndedBy l g (fun i => a (i + 10)) X.U 1) (cwV 1 hts gX3_count_X2_howManyEndedBy rfl rfl rfl (by decide +kernel) ⟨Nat.le_of_ble_eq_true rfl, Nat.le_of_ble_eq_true rfl⟩) (pv_r hK hP (ci := 4) (q0 := 10) rfl rfl [10, 11, 12] rfl) rfl rfl hl.1 rfl (lv_room (Nat.le_of_ble_eq_true rfl)) dX3_count_61 ⟨Nat.zero_le _, Nat.zero_le _⟩)) (fun r_61_2 h_61_2 => ?_)
    subst h_61_2
    exact W.iret (v := (nI (cntU X.U 1 60))) hx hb hr (fun tz htz hWz => ⟨(nI (cntU X.U 1 60)), rfl, rfl, htz⟩) (fun _ h => nomatch h) dX3_count_64
  · refine lv_tableOut (tgt := 65) hx hb dX3_count_1 hp1 (by decide) ?_
    refine lv_iconst (v := (-1)) hx hb dX3_count_65 (by decide) ?_
    exact W.iret (v := (-1)) hx hb hr (fun tz htz hWz => ⟨(-1), rfl, (by unfold coX; rw [if_neg (fun h => by rw [h] at hp1; exact absurd hp1 (by decide)), if_neg (fun h => by rw [h] at hp1; exact absurd hp1 (by decide)), if_neg (fun h => by rw [h] at hp1; exact absurd hp1 (by decide)), if_neg (fun h => by rw [h] at hp1; exact absurd hp1 (by decide))]), htz⟩) (fun _ h => nomatch h) dX3_count_66
