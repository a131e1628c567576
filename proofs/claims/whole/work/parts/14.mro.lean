/-! the reference: its state, its world -/
section GMul
variable {p : Program} {l : Launch} {e : Env} {R : Room} {s : State} {m : MethodId} {args : Array Value} {below : List Frame} {meth : Method} {c : Code} {H : Heap} {locs : List Loc} {cells slots : Nat} {Q : State → Prop}
variable {cc : ByteArray} {pc : Nat} {ls : Array Slot} {rest : List Value}
theorem ga_imul (hexec : p.tables.exec = Jvm.exec) (hb : c.code = cc) {x y v : Int32} (hv : x * y = v) (hdg : decode cc pc = .ok (.imul, 1))
    (k : W p l e R s m args below meth c H locs cells slots Q (F0 m (pc + 1) ls (.int v :: rest))) : W p l e R s m args below meth c H locs cells slots Q (F0 m pc ls (.int y :: .int x :: rest)) := by
  subst hv
  exact lv_imul hexec hb hdg k
end GMul
abbrev MS : Type := RS × (Nat → Int32) × (Nat → Int32) × (Nat → Int32) × (Nat → Int64) × Nat × Nat × (Nat → Int64) × Nat × Int32
abbrev MS.S (M : MS) : RS := M.1
abbrev MS.st (M : MS) : Nat → Int32 := M.2.1
abbrev MS.en (M : MS) : Nat → Int32 := M.2.2.1
abbrev MS.sp (M : MS) : Nat → Int32 := M.2.2.2.1
abbrev MS.kp (M : MS) : Nat → Int64 := M.2.2.2.2.1
abbrev MS.k (M : MS) : Nat := M.2.2.2.2.2.1
abbrev MS.fz (M : MS) : Nat := M.2.2.2.2.2.2.1
abbrev MS.cs (M : MS) : Nat → Int64 := M.2.2.2.2.2.2.2.1
abbrev MS.rg (M : MS) : Nat := M.2.2.2.2.2.2.2.2.1
abbrev MS.cd (M : MS) : Int32 := M.2.2.2.2.2.2.2.2.2
abbrev wM (g : GG) (a : Nat → Nat) (M : MS) : va_W := [(a 0, .inr (6, [.int M.cd, .int (nI M.rg), .ref (a 1), .ref (a 2), .ref (a 3), .ref (a 4), .ref (a 5), .ref (a 6), .ref (a 7), .ref (a 8), .int (nI M.S.n), .int (nI M.S.ar), .int (nI M.k), .int (nI M.fz), .ref (a 9), .ref (a 10), .ref (a 11), .ref (a 12)])), (a 1, .inl (gJ g, 32, .inr (.inl M.cs))), (a 2, .inl (gI g, 2001, .inl M.S.kd)), (a 3, .inl (gI g, 2001, .inl M.S.un)), (a 4, .inl (gI g, 2001, .inl M.S.ce)), (a 5, .inl (gI g, 2001, .inl M.S.tn)), (a 6, .inl (gJ g, 2001, .inr (.inl M.S.bf))), (a 7, .inl (gJ g, 2001, .inr (.inl M.S.af))), (a 8, .inl (gZ g, 2001, .inl M.S.bk)), (a 9, .inl (gJ g, 672, .inr (.inl M.kp))), (a 10, .inl (gI g, 21, .inl M.st)), (a 11, .inl (gI g, 21, .inl M.en)), (a 12, .inl (gZ g, 21, .inl M.sp))]
/-- a unit's state behind the first k rows: 0 never there, 1 open, 2 synced, 3 backed out -/
def stO (S : RS) (p : Int32) : Nat → Nat
  | 0 => 0
  | k + 1 => if ¬ S.un (k + 1) = p then stO S p k else if S.kd (k + 1) = 1 then 2 else if S.kd (k + 1) = 2 then 3 else if stO S p k = 0 then 1 else stO S p k
theorem stO_le (S : RS) (p : Int32) : ∀ k, stO S p k ≤ 3
  | 0 => Nat.zero_le _
  | k + 1 => by
    have := stO_le S p k
    simp only [stO]
    split
    · exact this
    · split
      · decide
      · split
        · decide
        · split <;> omega
theorem st_1 {S : RS} {p : Int32} {i : Nat} (h : 1 ≤ i) (c : ¬ S.un i = p) : stO S p i = stO S p (i - 1) := by
  obtain ⟨j, rfl⟩ : ∃ j, i = j + 1 := ⟨i - 1, by omega⟩
  simp only [stO, Nat.add_sub_cancel]
  rw [if_pos c]
theorem st_2 {S : RS} {p : Int32} {i : Nat} (h : 1 ≤ i) (c : S.un i = p) (c1 : S.kd i = 1) : stO S p i = 2 := by
  obtain ⟨j, rfl⟩ : ∃ j, i = j + 1 := ⟨i - 1, by omega⟩
  simp only [stO]
  rw [if_neg (fun z => z c), if_pos c1]
theorem st_3 {S : RS} {p : Int32} {i : Nat} (h : 1 ≤ i) (c : S.un i = p) (c1 : ¬ S.kd i = 1) (c2 : S.kd i = 2) : stO S p i = 3 := by
  obtain ⟨j, rfl⟩ : ∃ j, i = j + 1 := ⟨i - 1, by omega⟩
  simp only [stO]
  rw [if_neg (fun z => z c), if_neg c1, if_pos c2]
theorem st_4 {S : RS} {p : Int32} {i : Nat} (h : 1 ≤ i) (c : S.un i = p) (c1 : ¬ S.kd i = 1) (c2 : ¬ S.kd i = 2) (c3 : stO S p (i - 1) = 0) : stO S p i = 1 := by
  obtain ⟨j, rfl⟩ : ∃ j, i = j + 1 := ⟨i - 1, by omega⟩
  rw [Nat.add_sub_cancel] at c3
  simp only [stO]
  rw [if_neg (fun z => z c), if_neg c1, if_neg c2, if_pos c3]
theorem st_5 {S : RS} {p : Int32} {i : Nat} (h : 1 ≤ i) (c : S.un i = p) (c1 : ¬ S.kd i = 1) (c2 : ¬ S.kd i = 2) (c3 : ¬ stO S p (i - 1) = 0) : stO S p i = stO S p (i - 1) := by
  obtain ⟨j, rfl⟩ : ∃ j, i = j + 1 := ⟨i - 1, by omega⟩
  rw [Nat.add_sub_cancel] at c3
  simp only [stO, Nat.add_sub_cancel]
  rw [if_neg (fun z => z c), if_neg c1, if_neg c2, if_neg c3]
/-- whether a unit has changed a cell, by rows from i on, of d -/
def hcF (S : RS) (c p : Int32) : Nat → Nat → Bool
  | 0, _ => false
  | d + 1, i => if isC S p i ∧ S.ce i = c then true else hcF S c p d (i + 1)
/-- whether another open unit has changed a cell: units from u on, of d -/
def tkF (S : RS) (c p : Int32) : Nat → Nat → Bool
  | 0, _ => false
  | d + 1, u => if nI u = p ∨ ¬ stO S (nI u) S.n = 1 then tkF S c p d (u + 1) else if hcF S c (nI u) S.n 1 = true then true else tkF S c p d (u + 1)
theorem hc_yes {S : RS} {c p : Int32} {i t : Nat} (h : i ≤ t) (hc : isC S p i ∧ S.ce i = c) : hcF S c p (t + 1 - i) i = true := by
  obtain ⟨e, he⟩ : ∃ e, t + 1 - i = e + 1 := ⟨t - i, by omega⟩
  rw [he]
  simp only [hcF]
  rw [if_pos hc]
theorem hc_no {S : RS} {c p : Int32} {i t : Nat} (h : i ≤ t) (hc : ¬ (isC S p i ∧ S.ce i = c)) : hcF S c p (t + 1 - i) i = hcF S c p (t + 1 - (i + 1)) (i + 1) := by
  obtain ⟨e, he⟩ : ∃ e, t + 1 - i = e + 1 := ⟨t - i, by omega⟩
  rw [he, show t + 1 - (i + 1) = e by omega]
  simp only [hcF]
  rw [if_neg hc]
theorem hc_end {S : RS} {c p : Int32} {i t : Nat} (h : t < i) : hcF S c p (t + 1 - i) i = false := by
  rw [show t + 1 - i = 0 by omega]
  rfl
theorem tk_skip {S : RS} {c p : Int32} {u : Nat} (h : u ≤ 60) (hc : nI u = p ∨ ¬ stO S (nI u) S.n = 1) : tkF S c p (61 - u) u = tkF S c p (61 - (u + 1)) (u + 1) := by
  obtain ⟨e, he⟩ : ∃ e, 61 - u = e + 1 := ⟨60 - u, by omega⟩
  rw [he, show 61 - (u + 1) = e by omega]
  simp only [tkF]
  rw [if_pos hc]
theorem tk_yes {S : RS} {c p : Int32} {u : Nat} (h : u ≤ 60) (h1 : ¬ nI u = p) (h2 : stO S (nI u) S.n = 1) (hc : hcF S c (nI u) S.n 1 = true) : tkF S c p (61 - u) u = true := by
  obtain ⟨e, he⟩ : ∃ e, 61 - u = e + 1 := ⟨60 - u, by omega⟩
  rw [he]
  simp only [tkF]
  rw [if_neg (fun z => z.elim h1 (fun q => q h2)), if_pos hc]
theorem tk_no {S : RS} {c p : Int32} {u : Nat} (h : u ≤ 60) (h1 : ¬ nI u = p) (h2 : stO S (nI u) S.n = 1) (hc : hcF S c (nI u) S.n 1 = false) : tkF S c p (61 - u) u = tkF S c p (61 - (u + 1)) (u + 1) := by
  obtain ⟨e, he⟩ : ∃ e, 61 - u = e + 1 := ⟨60 - u, by omega⟩
  rw [he, show 61 - (u + 1) = e by omega]
  simp only [tkF]
  rw [if_neg (fun z => z.elim h1 (fun q => q h2)), if_neg (by rw [hc]; exact Bool.false_ne_true)]
theorem tk_end {S : RS} {c p : Int32} {u : Nat} (h : 60 < u) : tkF S c p (61 - u) u = false := by
  rw [show 61 - u = 0 by omega]
  rfl
/-- the least row that is missing and needed -/
abbrev ndM (S : RS) (p : Int32) (t i : Nat) : Prop := S.tn i = 3 ∧ (p.toInt < i ∨ ((S.kd i = 0 ∧ S.bk i = 0) ∧ stO S (S.un i) t = 1))
def laF (S : RS) (p : Int32) (t : Nat) : Nat → Nat → Nat
  | 0, _ => 0
  | d + 1, i => if ndM S p t i then i else laF S p t d (i + 1)
theorem la_no {S : RS} {p : Int32} {i t : Nat} (h : i ≤ t) (hc : ¬ ndM S p t i) : laF S p t (t + 1 - i) i = laF S p t (t + 1 - (i + 1)) (i + 1) := by
  obtain ⟨e, he⟩ : ∃ e, t + 1 - i = e + 1 := ⟨t - i, by omega⟩
  rw [he, show t + 1 - (i + 1) = e by omega]
  simp only [laF]
  rw [if_neg hc]
theorem la_yes {S : RS} {p : Int32} {i t : Nat} (h : i ≤ t) (hc : ndM S p t i) : laF S p t (t + 1 - i) i = i := by
  obtain ⟨e, he⟩ : ∃ e, t + 1 - i = e + 1 := ⟨t - i, by omega⟩
  rw [he]
  simp only [laF]
  rw [if_pos hc]
theorem la_end {S : RS} {p : Int32} {i t : Nat} (h : t < i) : laF S p t (t + 1 - i) i = 0 := by
  rw [show t + 1 - i = 0 by omega]
  rfl
theorem laF_le (S : RS) (p : Int32) (t : Nat) : ∀ d i, laF S p t d i ≤ i + d
  | 0, i => Nat.zero_le _
  | d + 1, i => by
    have := laF_le S p t d (i + 1)
    simp only [laF]
    split <;> omega
/-- how many syncpoints up to k -/
def snO (S : RS) : Nat → Nat
  | 0 => 0
  | k + 1 => if S.kd (k + 1) = 1 then snO S k + 1 else snO S k
theorem snO_le (S : RS) : ∀ k, snO S k ≤ k
  | 0 => Nat.le_refl 0
  | k + 1 => by
    have := snO_le S k
    simp only [snO]
    split <;> omega
set_option maxHeartbeats 4000000 in
set_option maxRecDepth 100000 in
theorem c_X4_isUnit (l : Launch) (g : GG) (p1 : Int32) : Met l yX4_isUnit wsX4_isUnit { frames := 0, cells := 0, slots := 0, locals := 0 } (va_Pc [.int p1] (Pr g [])) (vp_Si (fun rv => rv = bI (okU p1))) 0 0 (fun _ => False) := by
  refine Met.ofW (cc := cX4_isUnit) (maxL := 1) (ret := (some .boolean)) (by decide) rfl ?_
  intro p e s m args below meth c s₁ B hml hv
  obtain ⟨rfl, hP, hK⟩ := hv
  have hx := B.exec
  have hb := B.bytes
  have hr := B.returns
  have hts := atoms_spec (ws := wsX4_isUnit) B.pre
  have hown : s.vm.findClass RX4 = some m.cls := findClass_of_methodNamed B.named
  have hlocks := B.notSynchronized
  have hl := lv_entry ([.int p1]) (n := 1) (Nat.le_of_ble_eq_true rfl)
  rw [lg_entry_eq]
  generalize (lg_sl ([.int p1]) ++ List.replicate (1 - (lg_sl ([.int p1])).length) Slot.unset).toArray = ls at hl ⊢
  have hl : lv_has ls 1 [(0, .int p1)] := hl
  refine lv_iload_n hx hb dX4_isUnit_0 rfl (lv_at hl 0 rfl) ?_
  refine lv_if_le (tgt := 14) hx hb dX4_isUnit_1 (by decide) (fun c_1_1 => ?_) (fun c_1_1 => ?_)
  · have i_1 : (p1.toInt : Int) ≤ 0 := q_le c_1_1 rfl rfl
    refine lv_iconst (v := 0) hx hb dX4_isUnit_14 (by decide) ?_
    exact W.zret (v := 0) hx hb hr rfl (fun tz htz hWz => ⟨0, rfl, (bI_0 (by first | omega | assumption | simp_all)), htz⟩) (fun _ h => nomatch h) dX4_isUnit_15
  · have i_1 : (0 : Int) < p1.toInt := q_nle c_1_1 rfl rfl
    refine lv_iload_n hx hb dX4_isUnit_4 rfl (lv_at hl 0 rfl) ?_
    refine lv_bipush (v := 60) hx hb dX4_isUnit_5 (by decide) ?_
    refine lv_icmp_gt (tgt := 14) hx hb dX4_isUnit_7 (by decide) (fun c_7_2 => ?_) (fun c_7_2 => ?_)
    · have i_7 : (60 : Int) < p1.toInt := q_lt c_7_2 rfl rfl
      refine lv_iconst (v := 0) hx hb dX4_isUnit_14 (by decide) ?_
      exact W.zret (v := 0) hx hb hr rfl (fun tz htz hWz => ⟨0, rfl, (bI_0 (by first | omega | assumption | simp_all)), htz⟩) (fun _ h => nomatch h) dX4_isUnit_15
    · have i_7 : (p1.toInt : Int) ≤ 60 := q_nlt c_7_2 rfl rfl
      refine lv_iconst (v := 1) hx hb dX4_isUnit_10 (by decide) ?_
      refine lv_goto (tgt := 15) hx hb dX4_isUnit_11 (by decide) ?_
      exact W.zret (v := 1) hx hb hr rfl (fun tz htz hWz => ⟨1, rfl, (bI_1 (by first | omega | assumption | simp_all)), htz⟩) (fun _ h => nomatch h) dX4_isUnit_15
set_option maxHeartbeats 4000000 in
set_option maxRecDepth 100000 in
theorem c_X4_isCell (l : Launch) (g : GG) (p1 : Int32) : Met l yX4_isCell wsX4_isCell { frames := 0, cells := 0, slots := 0, locals := 0 } (va_Pc [.int p1] (Pr g [])) (vp_Si (fun rv => rv = bI (okC p1))) 0 0 (fun _ => False) := by
  refine Met.ofW (cc := cX4_isCell) (maxL := 1) (ret := (some .boolean)) (by decide) rfl ?_
  intro p e s m args below meth c s₁ B hml hv
  obtain ⟨rfl, hP, hK⟩ := hv
  have hx := B.exec
  have hb := B.bytes
  have hr := B.returns
  have hts := atoms_spec (ws := wsX4_isCell) B.pre
  have hown : s.vm.findClass RX4 = some m.cls := findClass_of_methodNamed B.named
  have hlocks := B.notSynchronized
  have hl := lv_entry ([.int p1]) (n := 1) (Nat.le_of_ble_eq_true rfl)
  rw [lg_entry_eq]
  generalize (lg_sl ([.int p1]) ++ List.replicate (1 - (lg_sl ([.int p1])).length) Slot.unset).toArray = ls at hl ⊢
  have hl : lv_has ls 1 [(0, .int p1)] := hl
  refine lv_iload_n hx hb dX4_isCell_0 rfl (lv_at hl 0 rfl) ?_
  refine lv_if_lt (tgt := 14) hx hb dX4_isCell_1 (by decide) (fun c_1_1 => ?_) (fun c_1_1 => ?_)
  · have i_1 : (p1.toInt : Int) < 0 := q_lt c_1_1 rfl rfl
    refine lv_iconst (v := 0) hx hb dX4_isCell_14 (by decide) ?_
    exact W.zret (v := 0) hx hb hr rfl (fun tz htz hWz => ⟨0, rfl, (bI_0 (by first | omega | assumption | simp_all)), htz⟩) (fun _ h => nomatch h) dX4_isCell_15
  · have i_1 : (0 : Int) ≤ p1.toInt := q_nlt c_1_1 rfl rfl
    refine lv_iload_n hx hb dX4_isCell_4 rfl (lv_at hl 0 rfl) ?_
    refine lv_bipush (v := 32) hx hb dX4_isCell_5 (by decide) ?_
    refine lv_icmp_ge (tgt := 14) hx hb dX4_isCell_7 (by decide) (fun c_7_2 => ?_) (fun c_7_2 => ?_)
    · have i_7 : (32 : Int) ≤ p1.toInt := q_le c_7_2 rfl rfl
      refine lv_iconst (v := 0) hx hb dX4_isCell_14 (by decide) ?_
      exact W.zret (v := 0) hx hb hr rfl (fun tz htz hWz => ⟨0, rfl, (bI_0 (by first | omega | assumption | simp_all)), htz⟩) (fun _ h => nomatch h) dX4_isCell_15
    · have i_7 : (p1.toInt : Int) < 32 := q_nle c_7_2 rfl rfl
      refine lv_iconst (v := 1) hx hb dX4_isCell_10 (by decide) ?_
      refine lv_goto (tgt := 15) hx hb dX4_isCell_11 (by decide) ?_
      exact W.zret (v := 1) hx hb hr rfl (fun tz htz hWz => ⟨1, rfl, (bI_1 (by first | omega | assumption | simp_all)), htz⟩) (fun _ h => nomatch h) dX4_isCell_15
set_option maxHeartbeats 4000000 in
set_option maxRecDepth 100000 in
theorem c_X4_thrown (l : Launch) (g : GG) (a : Nat → Nat) (M : MS)  : Met l yX4_thrown wsX4_thrown { frames := 0, cells := 0, slots := 0, locals := 0 } (va_Pc [.ref (a 0)] (Pr g (wM g a M))) (vp_Si (fun rv => rv = M.cd)) 0 0 (fun _ => False) := by
  refine Met.ofW (cc := cX4_thrown) (maxL := 1) (ret := (some .int)) (by decide) rfl ?_
  intro p e s m args below meth c s₁ B hml hv
  obtain ⟨rfl, hP, hK⟩ := hv
  have hx := B.exec
  have hb := B.bytes
  have hr := B.returns
  have hts := atoms_spec (ws := wsX4_thrown) B.pre
  have hown : s.vm.findClass RX4 = some m.cls := findClass_of_methodNamed B.named
  have hlocks := B.notSynchronized
  have hl := lv_entry ([.ref (a 0)]) (n := 1) (Nat.le_of_ble_eq_true rfl)
  rw [lg_entry_eq]
  generalize (lg_sl ([.ref (a 0)]) ++ List.replicate (1 - (lg_sl ([.ref (a 0)])).length) Slot.unset).toArray = ls at hl ⊢
  have hl : lv_has ls 1 [(0, .ref (a 0))] := hl
  replace hP : va_P (gD g) vwCl ([((a 0), .inr (6, [.int M.cd, .int (nI (M.rg)), .ref (a 1), .ref (a 2), .ref (a 3), .ref (a 4), .ref (a 5), .ref (a 6), .ref (a 7), .ref (a 8), .int (nI (M.S.n)), .int (nI (M.S.ar)), .int (nI (M.k)), .int (nI (M.fz)), .ref (a 9), .ref (a 10), .ref (a 11), .ref (a 12)])), ((a 1), .inl (gJ g, 32, .inr (.inl M.cs))), ((a 2), .inl (gI g, 2001, .inl M.S.kd)), ((a 3), .inl (gI g, 2001, .inl M.S.un)), ((a 4), .inl (gI g, 2001, .inl M.S.ce)), ((a 5), .inl (gI g, 2001, .inl M.S.tn)), ((a 6), .inl (gJ g, 2001, .inr (.inl M.S.bf))), ((a 7), .inl (gJ g, 2001, .inr (.inl M.S.af))), ((a 8), .inl (gZ g, 2001, .inl M.S.bk)), ((a 9), .inl (gJ g, 672, .inr (.inl M.kp))), ((a 10), .inl (gI g, 21, .inl M.st)), ((a 11), .inl (gI g, 21, .inl M.en)), ((a 12), .inl (gZ g, 21, .inl M.sp))]) s.heap := hP
  refine lv_aload_n hx hb dX4_thrown_0 rfl (lv_at hl 0 rfl) ?_
  refine va_get (D := gD g) (ci := 6) (v := .int M.cd) (C := RX4) (T := TX4) (N := 18) hx hb hts (by decide +kernel) hown hK.1 hP 0 rfl rfl 0 (by decide) (hts (.fieldLink RX4 52 "LogForwardModel" "code" "I") (by decide +kernel)) (fun _ h9 => h9) rfl dX4_thrown_1 ?_
  exact W.iret (v := M.cd) hx hb hr (fun tz htz hWz => ⟨M.cd, rfl, rfl, htz⟩) (fun _ h => nomatch h) dX4_thrown_4
set_option maxHeartbeats 4000000 in
set_option maxRecDepth 100000 in
theorem c_X4_isMissing (l : Launch) (g : GG) (a : Nat → Nat) (M : MS) (i : Nat) (hr1 : 1 ≤ i) (hr2 : i ≤ M.S.n) (hn : M.S.n ≤ 2000) : Met l yX4_isMissing wsX4_isMissing { frames := 0, cells := 0, slots := 0, locals := 0 } (va_Pc [.ref (a 0), .int (nI (i))] (Pr g (wM g a M))) (vp_Si (fun rv => rv = bI (M.S.tn i = 3))) 0 0 (fun _ => False) := by
  refine Met.ofW (cc := cX4_isMissing) (maxL := 2) (ret := (some .boolean)) (by decide) rfl ?_
  intro p e s m args below meth c s₁ B hml hv
  obtain ⟨rfl, hP, hK⟩ := hv
  have hx := B.exec
  have hb := B.bytes
  have hr := B.returns
  have hts := atoms_spec (ws := wsX4_isMissing) B.pre
  have hown : s.vm.findClass RX4 = some m.cls := findClass_of_methodNamed B.named
  have hlocks := B.notSynchronized
  have hl := lv_entry ([.ref (a 0), .int (nI (i))]) (n := 2) (Nat.le_of_ble_eq_true rfl)
  rw [lg_entry_eq]
  generalize (lg_sl ([.ref (a 0), .int (nI (i))]) ++ List.replicate (2 - (lg_sl ([.ref (a 0), .int (nI (i))])).length) Slot.unset).toArray = ls at hl ⊢
  have hl : lv_has ls 2 [(0, .ref (a 0)), (1, .int (nI (i)))] := hl
  replace hP : va_P (gD g) vwCl ([((a 0), .inr (6, [.int M.cd, .int (nI (M.rg)), .ref (a 1), .ref (a 2), .ref (a 3), .ref (a 4), .ref (a 5), .ref (a 6), .ref (a 7), .ref (a 8), .int (nI (M.S.n)), .int (nI (M.S.ar)), .int (nI (M.k)), .int (nI (M.fz)), .ref (a 9), .ref (a 10), .ref (a 11), .ref (a 12)])), ((a 1), .inl (gJ g, 32, .inr (.inl M.cs))), ((a 2), .inl (gI g, 2001, .inl M.S.kd)), ((a 3), .inl (gI g, 2001, .inl M.S.un)), ((a 4), .inl (gI g, 2001, .inl M.S.ce)), ((a 5), .inl (gI g, 2001, .inl M.S.tn)), ((a 6), .inl (gJ g, 2001, .inr (.inl M.S.bf))), ((a 7), .inl (gJ g, 2001, .inr (.inl M.S.af))), ((a 8), .inl (gZ g, 2001, .inl M.S.bk)), ((a 9), .inl (gJ g, 672, .inr (.inl M.kp))), ((a 10), .inl (gI g, 21, .inl M.st)), ((a 11), .inl (gI g, 21, .inl M.en)), ((a 12), .inl (gZ g, 21, .inl M.sp))]) s.heap := hP
  refine lv_aload_n hx hb dX4_isMissing_0 rfl (lv_at hl 0 rfl) ?_
  refine va_get (D := gD g) (ci := 6) (v := .ref (a 5)) (C := RX4) (T := TX4) (N := 18) hx hb hts (by decide +kernel) hown hK.1 hP 0 rfl rfl 6 (by decide) (hts (.fieldLink RX4 23 "LogForwardModel" "torn" "[I") (by decide +kernel)) (fun _ h9 => h9) rfl dX4_isMissing_1 ?_
  refine lv_iload_n hx hb dX4_isMissing_4 rfl (lv_at hl 1 rfl) ?_
  refine ga_iald (v := (M.S.tn i)) hx hb hK.1 hP 5 0 rfl rfl (v_nI (by omega) (by omega)) (by rw [(c_nI (by omega))]) dX4_isMissing_5 ?_
  refine lv_iconst (v := 3) hx hb dX4_isMissing_6 (by decide) ?_
  refine lv_icmp_ne (tgt := 14) hx hb dX4_isMissing_7 (by decide) (fun c_7_1 => ?_) (fun c_7_1 => ?_)
  · have i_7 : ((M.S.tn i).toInt : Int) ≠ 3 := q_ne c_7_1 rfl rfl
    refine lv_iconst (v := 0) hx hb dX4_isMissing_14 (by decide) ?_
    exact W.zret (v := 0) hx hb hr rfl (fun tz htz hWz => ⟨0, rfl, (bI_0 (by first | omega | assumption | simp_all)), htz⟩) (fun _ h => nomatch h) dX4_isMissing_15
  · have i_7 : ((M.S.tn i).toInt : Int) = 3 := q_eq c_7_1 rfl rfl
    refine lv_iconst (v := 1) hx hb dX4_isMissing_10 (by decide) ?_
    refine lv_goto (tgt := 15) hx hb dX4_isMissing_11 (by decide) ?_
    exact W.zret (v := 1) hx hb hr rfl (fun tz htz hWz => ⟨1, rfl, (bI_1 (by first | omega | assumption | simp_all)), htz⟩) (fun _ h => nomatch h) dX4_isMissing_15
set_option maxHeartbeats 4000000 in
set_option maxRecDepth 100000 in
theorem c_X4_isChange (l : Launch) (g : GG) (a : Nat → Nat) (M : MS) (i : Nat) (hr1 : 1 ≤ i) (hr2 : i ≤ M.S.n) (hn : M.S.n ≤ 2000) (p2 : Int32) : Met l yX4_isChange wsX4_isChange { frames := 0, cells := 0, slots := 0, locals := 0 } (va_Pc [.ref (a 0), .int (nI (i)), .int p2] (Pr g (wM g a M))) (vp_Si (fun rv => rv = bI (isC M.S p2 i))) 0 0 (fun _ => False) := by
  refine Met.ofW (cc := cX4_isChange) (maxL := 3) (ret := (some .boolean)) (by decide) rfl ?_
  intro p e s m args below meth c s₁ B hml hv
  obtain ⟨rfl, hP, hK⟩ := hv
  have hx := B.exec
  have hb := B.bytes
  have hr := B.returns
  have hts := atoms_spec (ws := wsX4_isChange) B.pre
  have hown : s.vm.findClass RX4 = some m.cls := findClass_of_methodNamed B.named
  have hlocks := B.notSynchronized
  have hl := lv_entry ([.ref (a 0), .int (nI (i)), .int p2]) (n := 3) (Nat.le_of_ble_eq_true rfl)
  rw [lg_entry_eq]
  generalize (lg_sl ([.ref (a 0), .int (nI (i)), .int p2]) ++ List.replicate (3 - (lg_sl ([.ref (a 0), .int (nI (i)), .int p2])).length) Slot.unset).toArray = ls at hl ⊢
  have hl : lv_has ls 3 [(0, .ref (a 0)), (1, .int (nI (i))), (2, .int p2)] := hl
  replace hP : va_P (gD g) vwCl ([((a 0), .inr (6, [.int M.cd, .int (nI (M.rg)), .ref (a 1), .ref (a 2), .ref (a 3), .ref (a 4), .ref (a 5), .ref (a 6), .ref (a 7), .ref (a 8), .int (nI (M.S.n)), .int (nI (M.S.ar)), .int (nI (M.k)), .int (nI (M.fz)), .ref (a 9), .ref (a 10), .ref (a 11), .ref (a 12)])), ((a 1), .inl (gJ g, 32, .inr (.inl M.cs))), ((a 2), .inl (gI g, 2001, .inl M.S.kd)), ((a 3), .inl (gI g, 2001, .inl M.S.un)), ((a 4), .inl (gI g, 2001, .inl M.S.ce)), ((a 5), .inl (gI g, 2001, .inl M.S.tn)), ((a 6), .inl (gJ g, 2001, .inr (.inl M.S.bf))), ((a 7), .inl (gJ g, 2001, .inr (.inl M.S.af))), ((a 8), .inl (gZ g, 2001, .inl M.S.bk)), ((a 9), .inl (gJ g, 672, .inr (.inl M.kp))), ((a 10), .inl (gI g, 21, .inl M.st)), ((a 11), .inl (gI g, 21, .inl M.en)), ((a 12), .inl (gZ g, 21, .inl M.sp))]) s.heap := hP
  refine lv_aload_n hx hb dX4_isChange_0 rfl (lv_at hl 0 rfl) ?_
  refine va_get (D := gD g) (ci := 6) (v := .ref (a 2)) (C := RX4) (T := TX4) (N := 18) hx hb hts (by decide +kernel) hown hK.1 hP 0 rfl rfl 3 (by decide) (hts (.fieldLink RX4 13 "LogForwardModel" "kinds" "[I") (by decide +kernel)) (fun _ h9 => h9) rfl dX4_isChange_1 ?_
  refine lv_iload_n hx hb dX4_isChange_4 rfl (lv_at hl 1 rfl) ?_
  refine ga_iald (v := (M.S.kd i)) hx hb hK.1 hP 2 0 rfl rfl (v_nI (by omega) (by omega)) (by rw [(c_nI (by omega))]) dX4_isChange_5 ?_
  refine lv_if_ne (tgt := 32) hx hb dX4_isChange_6 (by decide) (fun c_6_1 => ?_) (fun c_6_1 => ?_)
  · have i_6 : ((M.S.kd i).toInt : Int) ≠ 0 := q_ne c_6_1 rfl rfl
    refine lv_iconst (v := 0) hx hb dX4_isChange_32 (by decide) ?_
    exact W.zret (v := 0) hx hb hr rfl (fun tz htz hWz => ⟨0, rfl, (bI_0 (by first | exact ⟨⟨by assumption, by assumption⟩, by assumption⟩ | exact fun h => absurd h.1.1 (by assumption) | exact fun h => absurd h.1.2 (by assumption) | exact fun h => absurd h.2 (by assumption))), htz⟩) (fun _ h => nomatch h) dX4_isChange_33
  · have i_6 : ((M.S.kd i).toInt : Int) = 0 := q_eq c_6_1 rfl rfl
    refine lv_aload_n hx hb dX4_isChange_9 rfl (lv_at hl 0 rfl) ?_
    refine va_get (D := gD g) (ci := 6) (v := .ref (a 3)) (C := RX4) (T := TX4) (N := 18) hx hb hts (by decide +kernel) hown hK.1 hP 0 rfl rfl 4 (by decide) (hts (.fieldLink RX4 17 "LogForwardModel" "units" "[I") (by decide +kernel)) (fun _ h9 => h9) rfl dX4_isChange_10 ?_
    refine lv_iload_n hx hb dX4_isChange_13 rfl (lv_at hl 1 rfl) ?_
    refine ga_iald (v := (M.S.un i)) hx hb hK.1 hP 3 0 rfl rfl (v_nI (by omega) (by omega)) (by rw [(c_nI (by omega))]) dX4_isChange_14 ?_
    refine lv_iload_n hx hb dX4_isChange_15 rfl (lv_at hl 2 rfl) ?_
    refine lv_icmp_ne (tgt := 32) hx hb dX4_isChange_16 (by decide) (fun c_16_2 => ?_) (fun c_16_2 => ?_)
    · have i_16 : ((M.S.un i).toInt : Int) ≠ p2.toInt := q_ne c_16_2 rfl rfl
      refine lv_iconst (v := 0) hx hb dX4_isChange_32 (by decide) ?_
      exact W.zret (v := 0) hx hb hr rfl (fun tz htz hWz => ⟨0, rfl, (bI_0 (by first | exact ⟨⟨by assumption, by assumption⟩, by assumption⟩ | exact fun h => absurd h.1.1 (by assumption) | exact fun h => absurd h.1.2 (by assumption) | exact fun h => absurd h.2 (by assumption))), htz⟩) (fun _ h => nomatch h) dX4_isChange_33
    · have i_16 : ((M.S.un i).toInt : Int) = p2.toInt := q_eq c_16_2 rfl rfl
      refine lv_aload_n hx hb dX4_isChange_19 rfl (lv_at hl 0 rfl) ?_
      refine va_get (D := gD g) (ci := 6) (v := .ref (a 8)) (C := RX4) (T := TX4) (N := 18) hx hb hts (by decide +kernel) hown hK.1 hP 0 rfl rfl 9 (by decide) (hts (.fieldLink RX4 32 "LogForwardModel" "back" "[Z") (by decide +kernel)) (fun _ h9 => h9) rfl dX4_isChange_20 ?_
      refine lv_iload_n hx hb dX4_isChange_23 rfl (lv_at hl 1 rfl) ?_
      refine ga_zald (v := (M.S.bk i)) hx hb hK.1 hP 8 2 rfl rfl (v_nI (by omega) (by omega)) (by rw [(c_nI (by omega))]) dX4_isChange_24 ?_
      refine lv_if_ne (tgt := 32) hx hb dX4_isChange_25 (by decide) (fun c_25_3 => ?_) (fun c_25_3 => ?_)
      · have i_25 : ((M.S.bk i).toInt : Int) ≠ 0 := q_ne c_25_3 rfl rfl
        refine lv_iconst (v := 0) hx hb dX4_isChange_32 (by decide) ?_
        exact W.zret (v := 0) hx hb hr rfl (fun tz htz hWz => ⟨0, rfl, (bI_0 (by first | exact ⟨⟨by assumption, by assumption⟩, by assumption⟩ | exact fun h => absurd h.1.1 (by assumption) | exact fun h => absurd h.1.2 (by assumption) | exact fun h => absurd h.2 (by assumption))), htz⟩) (fun _ h => nomatch h) dX4_isChange_33
      · have i_25 : ((M.S.bk i).toInt : Int) = 0 := q_eq c_25_3 rfl rfl
        refine lv_iconst (v := 1) hx hb dX4_isChange_28 (by decide) ?_
        refine lv_goto (tgt := 33) hx hb dX4_isChange_29 (by decide) ?_
        exact W.zret (v := 1) hx hb hr rfl (fun tz htz hWz => ⟨1, rfl, (bI_1 (by first | exact ⟨⟨by assumption, by assumption⟩, by assumption⟩ | exact fun h => absurd h.1.1 (by assumption) | exact fun h => absurd h.1.2 (by assumption) | exact fun h => absurd h.2 (by assumption))), htz⟩) (fun _ h => nomatch h) dX4_isChange_33
set_option maxHeartbeats 4000000 in
set_option maxRecDepth 100000 in
theorem c_X4_stateOf (l : Launch) (g : GG) (a : Nat → Nat) (M : MS) (p1 : Int32) (t : Nat) (ht0 : t ≤ M.S.n) (hn : M.S.n ≤ 2000) : Met l yX4_stateOf wsX4_stateOf { frames := 0, cells := 0, slots := 0, locals := 0 } (va_Pc [.ref (a 0), .int p1, .int (nI (t))] (Pr g (wM g a M))) (vp_Si (fun rv => rv = nI (stO M.S p1 t))) 0 0 (fun _ => False) := by
  refine Met.ofW (cc := cX4_stateOf) (maxL := 5) (ret := (some .int)) (by decide) rfl ?_
  intro p e s m args below meth c s₁ B hml hv
  obtain ⟨rfl, hP, hK⟩ := hv
  have hx := B.exec
  have hb := B.bytes
  have hr := B.returns
  have hts := atoms_spec (ws := wsX4_stateOf) B.pre
  have hown : s.vm.findClass RX4 = some m.cls := findClass_of_methodNamed B.named
  have hlocks := B.notSynchronized
  have hl := lv_entry ([.ref (a 0), .int p1, .int (nI (t))]) (n := 5) (Nat.le_of_ble_eq_true rfl)
  rw [lg_entry_eq]
  generalize (lg_sl ([.ref (a 0), .int p1, .int (nI (t))]) ++ List.replicate (5 - (lg_sl ([.ref (a 0), .int p1, .int (nI (t))])).length) Slot.unset).toArray = ls at hl ⊢
  have hl : lv_has ls 5 [(0, .ref (a 0)), (1, .int p1), (2, .int (nI (t)))] := hl
  replace hP : va_P (gD g) vwCl ([((a 0), .inr (6, [.int M.cd, .int (nI (M.rg)), .ref (a 1), .ref (a 2), .ref (a 3), .ref (a 4), .ref (a 5), .ref (a 6), .ref (a 7), .ref (a 8), .int (nI (M.S.n)), .int (nI (M.S.ar)), .int (nI (M.k)), .int (nI (M.fz)), .ref (a 9), .ref (a 10), .ref (a 11), .ref (a 12)])), ((a 1), .inl (gJ g, 32, .inr (.inl M.cs))), ((a 2), .inl (gI g, 2001, .inl M.S.kd)), ((a 3), .inl (gI g, 2001, .inl M.S.un)), ((a 4), .inl (gI g, 2001, .inl M.S.ce)), ((a 5), .inl (gI g, 2001, .inl M.S.tn)), ((a 6), .inl (gJ g, 2001, .inr (.inl M.S.bf))), ((a 7), .inl (gJ g, 2001, .inr (.inl M.S.af))), ((a 8), .inl (gZ g, 2001, .inl M.S.bk)), ((a 9), .inl (gJ g, 672, .inr (.inl M.kp))), ((a 10), .inl (gI g, 21, .inl M.st)), ((a 11), .inl (gI g, 21, .inl M.en)), ((a 12), .inl (gZ g, 21, .inl M.sp))]) s.heap := hP
  refine lv_iconst (v := 0) hx hb dX4_stateOf_0 (by decide) ?_
  refine lv_istore_n (lv' := [(3, .int 0), (0, .ref (a 0)), (1, .int p1), (2, .int (nI (t)))]) hx hb dX4_stateOf_1 rfl hl (by decide) rfl (fun ls hl => ?_)
  refine lv_iconst (v := 1) hx hb dX4_stateOf_2 (by decide) ?_
  refine lv_istore (lv' := [(4, .int 1), (3, .int 0), (0, .ref (a 0)), (1, .int p1), (2, .int (nI (t)))]) hx hb dX4_stateOf_3 hl (by decide) rfl (fun ls hl => ?_)
  obtain ⟨i, hi⟩ : ∃ i : Nat, i = 1 := ⟨_, rfl⟩
  replace hl : lv_has ls 5 [(0, .ref (a 0)), (1, .int p1), (2, .int (nI (t))), (3, .int (nI (stO M.S p1 (i - 1)))), (4, .int (nI (i)))] := by subst hi; exact lv_sub hl [2, 3, 4, 1, 0] rfl
  have hi1 : 1 ≤ i := by omega
  have hi2 : i ≤ t + 1 := by omega
  clear hi
  obtain ⟨d, hd⟩ : ∃ d, t + 1 - i = d := ⟨_, rfl⟩
  induction d using Nat.strongRecOn generalizing i ls with
  | ind d ih =>
    refine lv_iload hx hb dX4_stateOf_5 (lv_at hl 4 rfl) ?_
    refine lv_iload_n hx hb dX4_stateOf_7 rfl (lv_at hl 2 rfl) ?_
    refine lv_icmp_gt (tgt := 71) hx hb dX4_stateOf_8 (by decide) (fun c_8_2 => ?_) (fun c_8_2 => ?_)
    · have i_8 : (((t : Nat) : Int) : Int) < ((i : Nat) : Int) := q_lt c_8_2 (l_nI (by omega)) (l_nI (by omega))
      refine lv_iload_n hx hb dX4_stateOf_71 rfl (lv_at hl 3 rfl) ?_
      exact W.iret (v := (nI (stO M.S p1 (i - 1)))) hx hb hr (fun tz htz hWz => ⟨(nI (stO M.S p1 (i - 1))), rfl, (by rw [show i - 1 = t by omega]), htz⟩) (fun _ h => nomatch h) dX4_stateOf_72
    · have i_8 : (((i : Nat) : Int) : Int) ≤ ((t : Nat) : Int) := q_nlt c_8_2 (l_nI (by omega)) (l_nI (by omega))
      refine lv_aload_n hx hb dX4_stateOf_11 rfl (lv_at hl 0 rfl) ?_
      refine va_get (D := gD g) (ci := 6) (v := .ref (a 3)) (C := RX4) (T := TX4) (N := 18) hx hb hts (by decide +kernel) hown hK.1 hP 0 rfl rfl 4 (by decide) (hts (.fieldLink RX4 17 "LogForwardModel" "units" "[I") (by decide +kernel)) (fun _ h9 => h9) rfl dX4_stateOf_12 ?_
      refine lv_iload hx hb dX4_stateOf_15 (lv_at hl 4 rfl) ?_
      refine ga_iald (v := (M.S.un i)) hx hb hK.1 hP 3 0 rfl rfl (v_nI (by omega) (by omega)) (by rw [(c_nI (by omega))]) dX4_stateOf_17 ?_
      refine lv_iload_n hx hb dX4_stateOf_18 rfl (lv_at hl 1 rfl) ?_
      refine lv_icmp_eq (tgt := 25) hx hb dX4_stateOf_19 (by decide) (fun c_19_3 => ?_) (fun c_19_3 => ?_)
      · have i_19 : ((M.S.un i).toInt : Int) = p1.toInt := q_eq c_19_3 rfl rfl
        refine lv_aload_n hx hb dX4_stateOf_25 rfl (lv_at hl 0 rfl) ?_
        refine va_get (D := gD g) (ci := 6) (v := .ref (a 2)) (C := RX4) (T := TX4) (N := 18) hx hb hts (by decide +kernel) hown hK.1 hP 0 rfl rfl 3 (by decide) (hts (.fieldLink RX4 13 "LogForwardModel" "kinds" "[I") (by decide +kernel)) (fun _ h9 => h9) rfl dX4_stateOf_26 ?_
        refine lv_iload hx hb dX4_stateOf_29 (lv_at hl 4 rfl) ?_
        refine ga_iald (v := (M.S.kd i)) hx hb hK.1 hP 2 0 rfl rfl (v_nI (by omega) (by omega)) (by rw [(c_nI (by omega))]) dX4_stateOf_31 ?_
        refine lv_iconst (v := 1) hx hb dX4_stateOf_32 (by decide) ?_
        refine lv_icmp_ne (tgt := 40) hx hb dX4_stateOf_33 (by decide) (fun c_33_4 => ?_) (fun c_33_4 => ?_)
        · have i_33 : ((M.S.kd i).toInt : Int) ≠ 1 := q_ne c_33_4 rfl rfl
          refine lv_aload_n hx hb dX4_stateOf_40 rfl (lv_at hl 0 rfl) ?_
          refine va_get (D := gD g) (ci := 6) (v := .ref (a 2)) (C := RX4) (T := TX4) (N := 18) hx hb hts (by decide +kernel) hown hK.1 hP 0 rfl rfl 3 (by decide) (hts (.fieldLink RX4 13 "LogForwardModel" "kinds" "[I") (by decide +kernel)) (fun _ h9 => h9) rfl dX4_stateOf_41 ?_
          refine lv_iload hx hb dX4_stateOf_44 (lv_at hl 4 rfl) ?_
          refine ga_iald (v := (M.S.kd i)) hx hb hK.1 hP 2 0 rfl rfl (v_nI (by omega) (by omega)) (by rw [(c_nI (by omega))]) dX4_stateOf_46 ?_
          refine lv_iconst (v := 2) hx hb dX4_stateOf_47 (by decide) ?_
          refine lv_icmp_ne (tgt := 55) hx hb dX4_stateOf_48 (by decide) (fun c_48_5 => ?_) (fun c_48_5 => ?_)
          · have i_48 : ((M.S.kd i).toInt : Int) ≠ 2 := q_ne c_48_5 rfl rfl
            refine lv_iload_n hx hb dX4_stateOf_55 rfl (lv_at hl 3 rfl) ?_
            refine lv_if_ne (tgt := 63) hx hb dX4_stateOf_56 (by decide) (fun c_56_6 => ?_) (fun c_56_6 => ?_)
            · have i_56 : (((stO M.S p1 (i - 1) : Nat) : Int) : Int) ≠ 0 := q_ne c_56_6 (l_nI (by have := stO_le M.S p1 (i - 1); omega)) rfl
              refine lv_iload_n hx hb dX4_stateOf_63 rfl (lv_at hl 3 rfl) ?_
              refine lv_istore_n (lv' := [(3, .int (nI (stO M.S p1 (i - 1)))), (0, .ref (a 0)), (1, .int p1), (2, .int (nI (t))), (4, .int (nI (i)))]) hx hb dX4_stateOf_64 rfl hl (by decide) rfl (fun ls hl => ?_)
              refine lv_iinc (v := (nI (i + 1))) (lv' := [(4, .int (nI (i + 1))), (3, .int (nI (stO M.S p1 (i - 1)))), (0, .ref (a 0)), (1, .int p1), (2, .int (nI (t)))]) hx hb dX4_stateOf_65 hl (k := 4) rfl (nI_1 _) (by decide) rfl (fun ls hl => ?_)
              refine lv_goto (tgt := 5) hx hb dX4_stateOf_68 (by decide) ?_
              exact ih (t + 1 - (i + 1)) (by omega) ls (i + 1) (by rw [Nat.add_sub_cancel]; rw [show stO M.S p1 i = stO M.S p1 (i - 1) from by first | exact st_2 (by omega) (by assumption) (by assumption) | exact st_3 (by omega) (by assumption) (by assumption) (by assumption) | exact st_4 (by omega) (by assumption) (by assumption) (by assumption) (by omega) | exact st_5 (by omega) (by assumption) (by assumption) (by assumption) (by omega) | exact st_1 (by omega) (by assumption)]; exact lv_sub hl [2, 3, 4, 1, 0] rfl) (by omega) (by omega) rfl
            · have i_56 : (((stO M.S p1 (i - 1) : Nat) : Int) : Int) = 0 := q_eq c_56_6 (l_nI (by have := stO_le M.S p1 (i - 1); omega)) rfl
              refine lv_iconst (v := 1) hx hb dX4_stateOf_59 (by decide) ?_
              refine lv_goto (tgt := 64) hx hb dX4_stateOf_60 (by decide) ?_
              refine lv_istore_n (lv' := [(3, .int 1), (0, .ref (a 0)), (1, .int p1), (2, .int (nI (t))), (4, .int (nI (i)))]) hx hb dX4_stateOf_64 rfl hl (by decide) rfl (fun ls hl => ?_)
              refine lv_iinc (v := (nI (i + 1))) (lv' := [(4, .int (nI (i + 1))), (3, .int 1), (0, .ref (a 0)), (1, .int p1), (2, .int (nI (t)))]) hx hb dX4_stateOf_65 hl (k := 4) rfl (nI_1 _) (by decide) rfl (fun ls hl => ?_)
              refine lv_goto (tgt := 5) hx hb dX4_stateOf_68 (by decide) ?_
              exact ih (t + 1 - (i + 1)) (by omega) ls (i + 1) (by rw [Nat.add_sub_cancel]; rw [show stO M.S p1 i = 1 from by first | exact st_2 (by omega) (by assumption) (by assumption) | exact st_3 (by omega) (by assumption) (by assumption) (by assumption) | exact st_4 (by omega) (by assumption) (by assumption) (by assumption) (by omega) | exact st_5 (by omega) (by assumption) (by assumption) (by assumption) (by omega) | exact st_1 (by omega) (by assumption)]; exact lv_sub hl [2, 3, 4, 1, 0] rfl) (by omega) (by omega) rfl
          · have i_48 : ((M.S.kd i).toInt : Int) = 2 := q_eq c_48_5 rfl rfl
            refine lv_iconst (v := 3) hx hb dX4_stateOf_51 (by decide) ?_
            refine lv_goto (tgt := 64) hx hb dX4_stateOf_52 (by decide) ?_
            refine lv_istore_n (lv' := [(3, .int 3), (0, .ref (a 0)), (1, .int p1), (2, .int (nI (t))), (4, .int (nI (i)))]) hx hb dX4_stateOf_64 rfl hl (by decide) rfl (fun ls hl => ?_)
            refine lv_iinc (v := (nI (i + 1))) (lv' := [(4, .int (nI (i + 1))), (3, .int 3), (0, .ref (a 0)), (1, .int p1), (2, .int (nI (t)))]) hx hb dX4_stateOf_65 hl (k := 4) rfl (nI_1 _) (by decide) rfl (fun ls hl => ?_)
            refine lv_goto (tgt := 5) hx hb dX4_stateOf_68 (by decide) ?_
            exact ih (t + 1 - (i + 1)) (by omega) ls (i + 1) (by rw [Nat.add_sub_cancel]; rw [show stO M.S p1 i = 3 from by first | exact st_2 (by omega) (by assumption) (by assumption) | exact st_3 (by omega) (by assumption) (by assumption) (by assumption) | exact st_4 (by omega) (by assumption) (by assumption) (by assumption) (by omega) | exact st_5 (by omega) (by assumption) (by assumption) (by assumption) (by omega) | exact st_1 (by omega) (by assumption)]; exact lv_sub hl [2, 3, 4, 1, 0] rfl) (by omega) (by omega) rfl
        · have i_33 : ((M.S.kd i).toInt : Int) = 1 := q_eq c_33_4 rfl rfl
          refine lv_iconst (v := 2) hx hb dX4_stateOf_36 (by decide) ?_
          refine lv_goto (tgt := 64) hx hb dX4_stateOf_37 (by decide) ?_
          refine lv_istore_n (lv' := [(3, .int 2), (0, .ref (a 0)), (1, .int p1), (2, .int (nI (t))), (4, .int (nI (i)))]) hx hb dX4_stateOf_64 rfl hl (by decide) rfl (fun ls hl => ?_)
          refine lv_iinc (v := (nI (i + 1))) (lv' := [(4, .int (nI (i + 1))), (3, .int 2), (0, .ref (a 0)), (1, .int p1), (2, .int (nI (t)))]) hx hb dX4_stateOf_65 hl (k := 4) rfl (nI_1 _) (by decide) rfl (fun ls hl => ?_)
          refine lv_goto (tgt := 5) hx hb dX4_stateOf_68 (by decide) ?_
          exact ih (t + 1 - (i + 1)) (by omega) ls (i + 1) (by rw [Nat.add_sub_cancel]; rw [show stO M.S p1 i = 2 from by first | exact st_2 (by omega) (by assumption) (by assumption) | exact st_3 (by omega) (by assumption) (by assumption) (by assumption) | exact st_4 (by omega) (by assumption) (by assumption) (by assumption) (by omega) | exact st_5 (by omega) (by assumption) (by assumption) (by assumption) (by omega) | exact st_1 (by omega) (by assumption)]; exact lv_sub hl [2, 3, 4, 1, 0] rfl) (by omega) (by omega) rfl
      · have i_19 : ((M.S.un i).toInt : Int) ≠ p1.toInt := q_ne c_19_3 rfl rfl
        refine lv_goto (tgt := 65) hx hb dX4_stateOf_22 (by decide) ?_
        refine lv_iinc (v := (nI (i + 1))) (lv' := [(4, .int (nI (i + 1))), (0, .ref (a 0)), (1, .int p1), (2, .int (nI (t))), (3, .int (nI (stO M.S p1 (i - 1))))]) hx hb dX4_stateOf_65 hl (k := 4) rfl (nI_1 _) (by decide) rfl (fun ls hl => ?_)
        refine lv_goto (tgt := 5) hx hb dX4_stateOf_68 (by decide) ?_
        exact ih (t + 1 - (i + 1)) (by omega) ls (i + 1) (by rw [Nat.add_sub_cancel]; rw [show stO M.S p1 i = stO M.S p1 (i - 1) from by first | exact st_2 (by omega) (by assumption) (by assumption) | exact st_3 (by omega) (by assumption) (by assumption) (by assumption) | exact st_4 (by omega) (by assumption) (by assumption) (by assumption) (by omega) | exact st_5 (by omega) (by assumption) (by assumption) (by assumption) (by omega) | exact st_1 (by omega) (by assumption)]; exact lv_sub hl [1, 2, 3, 4, 0] rfl) (by omega) (by omega) rfl
set_option maxHeartbeats 4000000 in
set_option maxRecDepth 100000 in
theorem c_X4_isOpen (l : Launch) (g : GG) (a : Nat → Nat) (M : MS) (p1 : Int32) (hn : M.S.n ≤ 2000) : Met l yX4_isOpen wsX4_isOpen { frames := 1, cells := 0, slots := 0, locals := 24 } (va_Pc [.ref (a 0), .int p1] (Pr g (wM g a M))) (vp_Si (fun rv => rv = bI (stO M.S p1 M.S.n = 1))) 0 0 (fun _ => False) := by
  refine Met.ofW (cc := cX4_isOpen) (maxL := 2) (ret := (some .boolean)) (by decide) rfl ?_
  intro p e s m args below meth c s₁ B hml hv
  obtain ⟨rfl, hP, hK⟩ := hv
  have hx := B.exec
  have hb := B.bytes
  have hr := B.returns
  have hts := atoms_spec (ws := wsX4_isOpen) B.pre
  have hown : s.vm.findClass RX4 = some m.cls := findClass_of_methodNamed B.named
  have hlocks := B.notSynchronized
  have hl := lv_entry ([.ref (a 0), .int p1]) (n := 2) (Nat.le_of_ble_eq_true rfl)
  rw [lg_entry_eq]
  generalize (lg_sl ([.ref (a 0), .int p1]) ++ List.replicate (2 - (lg_sl ([.ref (a 0), .int p1])).length) Slot.unset).toArray = ls at hl ⊢
  have hl : lv_has ls 2 [(0, .ref (a 0)), (1, .int p1)] := hl
  replace hP : va_P (gD g) vwCl ([((a 0), .inr (6, [.int M.cd, .int (nI (M.rg)), .ref (a 1), .ref (a 2), .ref (a 3), .ref (a 4), .ref (a 5), .ref (a 6), .ref (a 7), .ref (a 8), .int (nI (M.S.n)), .int (nI (M.S.ar)), .int (nI (M.k)), .int (nI (M.fz)), .ref (a 9), .ref (a 10), .ref (a 11), .ref (a 12)])), ((a 1), .inl (gJ g, 32, .inr (.inl M.cs))), ((a 2), .inl (gI g, 2001, .inl M.S.kd)), ((a 3), .inl (gI g, 2001, .inl M.S.un)), ((a 4), .inl (gI g, 2001, .inl M.S.ce)), ((a 5), .inl (gI g, 2001, .inl M.S.tn)), ((a 6), .inl (gJ g, 2001, .inr (.inl M.S.bf))), ((a 7), .inl (gJ g, 2001, .inr (.inl M.S.af))), ((a 8), .inl (gZ g, 2001, .inl M.S.bk)), ((a 9), .inl (gJ g, 672, .inr (.inl M.kp))), ((a 10), .inl (gI g, 21, .inl M.st)), ((a 11), .inl (gI g, 21, .inl M.en)), ((a 12), .inl (gZ g, 21, .inl M.sp))]) s.heap := hP
  refine lv_aload_n hx hb dX4_isOpen_0 rfl (lv_at hl 0 rfl) ?_
  refine lv_iload_n hx hb dX4_isOpen_1 rfl (lv_at hl 1 rfl) ?_
  refine lv_aload_n hx hb dX4_isOpen_2 rfl (lv_at hl 0 rfl) ?_
  refine va_get (D := gD g) (ci := 6) (v := .int (nI (M.S.n))) (C := RX4) (T := TX4) (N := 18) hx hb hts (by decide +kernel) hown hK.1 hP 0 rfl rfl 10 (by decide) (hts (.fieldLink RX4 55 "LogForwardModel" "rows" "I") (by decide +kernel)) (fun _ h9 => h9) rfl dX4_isOpen_3 ?_
  refine vp_callSi (va_Run.run (va_runV (As := [.int p1, .int (nI (M.S.n))]) (rest := []) ⟨hx, hb, hml, hown, hts⟩ (c_X4_stateOf l g a M p1 (M.S.n) (by omega) (by omega)) (cwV 2 hts gX4_isOpen_X4_stateOf rfl rfl rfl (by decide +kernel) ⟨Nat.le_of_ble_eq_true rfl, Nat.le_of_ble_eq_true rfl⟩) (pv_r hK hP (ci := 6) (q0 := 0) rfl rfl [0, 1, 2, 3, 4, 5, 6, 7, 8, 9, 10, 11, 12] rfl) rfl rfl hl.1 rfl (lv_room (Nat.le_of_ble_eq_true rfl)) dX4_isOpen_6 ⟨Nat.zero_le _, Nat.zero_le _⟩)) (fun r_6_1 h_6_1 => ?_)
  subst h_6_1
  refine lv_iconst (v := 1) hx hb dX4_isOpen_9 (by decide) ?_
  refine lv_icmp_ne (tgt := 17) hx hb dX4_isOpen_10 (by decide) (fun c_10_1 => ?_) (fun c_10_1 => ?_)
  · have i_10 : (((stO M.S p1 (M.S.n) : Nat) : Int) : Int) ≠ 1 := q_ne c_10_1 (l_nI (by have := stO_le M.S p1 (M.S.n); omega)) rfl
    refine lv_iconst (v := 0) hx hb dX4_isOpen_17 (by decide) ?_
    exact W.zret (v := 0) hx hb hr rfl (fun tz htz hWz => ⟨0, rfl, (bI_0 (by omega)), htz⟩) (fun _ h => nomatch h) dX4_isOpen_18
  · have i_10 : (((stO M.S p1 (M.S.n) : Nat) : Int) : Int) = 1 := q_eq c_10_1 (l_nI (by have := stO_le M.S p1 (M.S.n); omega)) rfl
    refine lv_iconst (v := 1) hx hb dX4_isOpen_13 (by decide) ?_
    refine lv_goto (tgt := 18) hx hb dX4_isOpen_14 (by decide) ?_
    exact W.zret (v := 1) hx hb hr rfl (fun tz htz hWz => ⟨1, rfl, (bI_1 (by omega)), htz⟩) (fun _ h => nomatch h) dX4_isOpen_18
set_option maxHeartbeats 4000000 in
set_option maxRecDepth 100000 in
theorem c_X4_changes (l : Launch) (g : GG) (a : Nat → Nat) (M : MS) (p1 : Int32) (t : Nat) (ht0 : t ≤ M.S.n) (hn : M.S.n ≤ 2000) : Met l yX4_changes wsX4_changes { frames := 1, cells := 0, slots := 0, locals := 22 } (va_Pc [.ref (a 0), .int p1, .int (nI (t))] (Pr g (wM g a M))) (vp_Si (fun rv => rv = nI (cnB M.S p1 t))) 0 0 (fun _ => False) := by
  refine Met.ofW (cc := cX4_changes) (maxL := 5) (ret := (some .int)) (by decide) rfl ?_
  intro p e s m args below meth c s₁ B hml hv
  obtain ⟨rfl, hP, hK⟩ := hv
  have hx := B.exec
  have hb := B.bytes
  have hr := B.returns
  have hts := atoms_spec (ws := wsX4_changes) B.pre
  have hown : s.vm.findClass RX4 = some m.cls := findClass_of_methodNamed B.named
  have hlocks := B.notSynchronized
  have hl := lv_entry ([.ref (a 0), .int p1, .int (nI (t))]) (n := 5) (Nat.le_of_ble_eq_true rfl)
  rw [lg_entry_eq]
  generalize (lg_sl ([.ref (a 0), .int p1, .int (nI (t))]) ++ List.replicate (5 - (lg_sl ([.ref (a 0), .int p1, .int (nI (t))])).length) Slot.unset).toArray = ls at hl ⊢
  have hl : lv_has ls 5 [(0, .ref (a 0)), (1, .int p1), (2, .int (nI (t)))] := hl
  replace hP : va_P (gD g) vwCl ([((a 0), .inr (6, [.int M.cd, .int (nI (M.rg)), .ref (a 1), .ref (a 2), .ref (a 3), .ref (a 4), .ref (a 5), .ref (a 6), .ref (a 7), .ref (a 8), .int (nI (M.S.n)), .int (nI (M.S.ar)), .int (nI (M.k)), .int (nI (M.fz)), .ref (a 9), .ref (a 10), .ref (a 11), .ref (a 12)])), ((a 1), .inl (gJ g, 32, .inr (.inl M.cs))), ((a 2), .inl (gI g, 2001, .inl M.S.kd)), ((a 3), .inl (gI g, 2001, .inl M.S.un)), ((a 4), .inl (gI g, 2001, .inl M.S.ce)), ((a 5), .inl (gI g, 2001, .inl M.S.tn)), ((a 6), .inl (gJ g, 2001, .inr (.inl M.S.bf))), ((a 7), .inl (gJ g, 2001, .inr (.inl M.S.af))), ((a 8), .inl (gZ g, 2001, .inl M.S.bk)), ((a 9), .inl (gJ g, 672, .inr (.inl M.kp))), ((a 10), .inl (gI g, 21, .inl M.st)), ((a 11), .inl (gI g, 21, .inl M.en)), ((a 12), .inl (gZ g, 21, .inl M.sp))]) s.heap := hP
  refine lv_iconst (v := 0) hx hb dX4_changes_0 (by decide) ?_
  refine lv_istore_n (lv' := [(3, .int 0), (0, .ref (a 0)), (1, .int p1), (2, .int (nI (t)))]) hx hb dX4_changes_1 rfl hl (by decide) rfl (fun ls hl => ?_)
  refine lv_iconst (v := 1) hx hb dX4_changes_2 (by decide) ?_
  refine lv_istore (lv' := [(4, .int 1), (3, .int 0), (0, .ref (a 0)), (1, .int p1), (2, .int (nI (t)))]) hx hb dX4_changes_3 hl (by decide) rfl (fun ls hl => ?_)
  obtain ⟨i, hi⟩ : ∃ i : Nat, i = 1 := ⟨_, rfl⟩
  replace hl : lv_has ls 5 [(0, .ref (a 0)), (1, .int p1), (2, .int (nI (t))), (3, .int (nI (cnB M.S p1 (i - 1)))), (4, .int (nI (i)))] := by subst hi; exact lv_sub hl [2, 3, 4, 1, 0] rfl
  have hi1 : 1 ≤ i := by omega
  have hi2 : i ≤ t + 1 := by omega
  clear hi
  obtain ⟨d, hd⟩ : ∃ d, t + 1 - i = d := ⟨_, rfl⟩
  induction d using Nat.strongRecOn generalizing i ls with
  | ind d ih =>
    refine lv_iload hx hb dX4_changes_5 (lv_at hl 4 rfl) ?_
    refine lv_iload_n hx hb dX4_changes_7 rfl (lv_at hl 2 rfl) ?_
    refine lv_icmp_gt (tgt := 35) hx hb dX4_changes_8 (by decide) (fun c_8_2 => ?_) (fun c_8_2 => ?_)
    · have i_8 : (((t : Nat) : Int) : Int) < ((i : Nat) : Int) := q_lt c_8_2 (l_nI (by omega)) (l_nI (by omega))
      refine lv_iload_n hx hb dX4_changes_35 rfl (lv_at hl 3 rfl) ?_
      exact W.iret (v := (nI (cnB M.S p1 (i - 1)))) hx hb hr (fun tz htz hWz => ⟨(nI (cnB M.S p1 (i - 1))), rfl, (by rw [show i - 1 = t by omega]), htz⟩) (fun _ h => nomatch h) dX4_changes_36
    · have i_8 : (((i : Nat) : Int) : Int) ≤ ((t : Nat) : Int) := q_nlt c_8_2 (l_nI (by omega)) (l_nI (by omega))
      refine lv_iload_n hx hb dX4_changes_11 rfl (lv_at hl 3 rfl) ?_
      refine lv_aload_n hx hb dX4_changes_12 rfl (lv_at hl 0 rfl) ?_
      refine lv_iload hx hb dX4_changes_13 (lv_at hl 4 rfl) ?_
      refine lv_iload_n hx hb dX4_changes_15 rfl (lv_at hl 1 rfl) ?_
      refine vp_callSi (va_Run.run (va_runV (As := [.int (nI (i)), .int p1]) (rest := [.int (nI (cnB M.S p1 (i - 1)))]) ⟨hx, hb, hml, hown, hts⟩ (c_X4_isChange l g a M (i) (by omega) (by omega) (by omega) p1) (cwV 2 hts gX4_changes_X4_isChange rfl rfl rfl (by decide +kernel) ⟨Nat.le_of_ble_eq_true rfl, Nat.le_of_ble_eq_true rfl⟩) (pv_r hK hP (ci := 6) (q0 := 0) rfl rfl [0, 1, 2, 3, 4, 5, 6, 7, 8, 9, 10, 11, 12] rfl) rfl rfl hl.1 rfl (lv_room (Nat.le_of_ble_eq_true rfl)) dX4_changes_16 ⟨Nat.zero_le _, Nat.zero_le _⟩)) (fun r_16_3 h_16_3 => ?_)
      refine lv_if_eq (tgt := 26) hx hb dX4_changes_19 (by decide) (fun c_19_3 => ?_) (fun c_19_3 => ?_)
      · have b_19 : ¬ (isC M.S p1 (i)) := bI_f h_16_3 c_19_3
        refine lv_iconst (v := 0) hx hb dX4_changes_26 (by decide) ?_
        refine ga_iadd (v := (nI (cnB M.S p1 (i - 1)))) hx hb (Int32.add_zero _) dX4_changes_27 ?_
        refine lv_istore_n (lv' := [(3, .int (nI (cnB M.S p1 (i - 1)))), (0, .ref (a 0)), (1, .int p1), (2, .int (nI (t))), (4, .int (nI (i)))]) hx hb dX4_changes_28 rfl hl (by decide) rfl (fun ls hl => ?_)
        refine lv_iinc (v := (nI (i + 1))) (lv' := [(4, .int (nI (i + 1))), (3, .int (nI (cnB M.S p1 (i - 1)))), (0, .ref (a 0)), (1, .int p1), (2, .int (nI (t)))]) hx hb dX4_changes_29 hl (k := 4) rfl (nI_1 _) (by decide) rfl (fun ls hl => ?_)
        refine lv_goto (tgt := 5) hx hb dX4_changes_32 (by decide) ?_
        exact ih (t + 1 - (i + 1)) (by omega) ls (i + 1) (by rw [Nat.add_sub_cancel]; rw [show cnB M.S p1 i = cnB M.S p1 (i - 1) from by first | exact cn_yes (by omega) (by assumption) | exact cn_no (by omega) (by assumption)]; exact lv_sub hl [2, 3, 4, 1, 0] rfl) (by omega) (by omega) rfl
      · have b_19 : isC M.S p1 (i) := bI_t h_16_3 c_19_3
        refine lv_iconst (v := 1) hx hb dX4_changes_22 (by decide) ?_
        refine lv_goto (tgt := 27) hx hb dX4_changes_23 (by decide) ?_
        refine ga_iadd (v := (nI (cnB M.S p1 (i - 1) + 1))) hx hb (nI_1 _) dX4_changes_27 ?_
        refine lv_istore_n (lv' := [(3, .int (nI (cnB M.S p1 (i - 1) + 1))), (0, .ref (a 0)), (1, .int p1), (2, .int (nI (t))), (4, .int (nI (i)))]) hx hb dX4_changes_28 rfl hl (by decide) rfl (fun ls hl => ?_)
        refine lv_iinc (v := (nI (i + 1))) (lv' := [(4, .int (nI (i + 1))), (3, .int (nI (cnB M.S p1 (i - 1) + 1))), (0, .ref (a 0)), (1, .int p1), (2, .int (nI (t)))]) hx hb dX4_changes_29 hl (k := 4) rfl (nI_1 _) (by decide) rfl (fun ls hl => ?_)
        refine lv_goto (tgt := 5) hx hb dX4_changes_32 (by decide) ?_
        exact ih (t + 1 - (i + 1)) (by omega) ls (i + 1) (by rw [Nat.add_sub_cancel]; rw [show cnB M.S p1 i = cnB M.S p1 (i - 1) + 1 from by first | exact cn_yes (by omega) (by assumption) | exact cn_no (by omega) (by assumption)]; exact lv_sub hl [2, 3, 4, 1, 0] rfl) (by omega) (by omega) rfl
set_option maxHeartbeats 4000000 in
set_option maxRecDepth 100000 in
theorem c_X4_isTaken (l : Launch) (g : GG) (a : Nat → Nat) (M : MS) (p1 p2 : Int32) (hn : M.S.n ≤ 2000) : Met l yX4_isTaken wsX4_isTaken { frames := 2, cells := 0, slots := 0, locals := 45 } (va_Pc [.ref (a 0), .int p1, .int p2] (Pr g (wM g a M))) (vp_Si (fun rv => rv = bI (tkF M.S p1 p2 60 1 = true))) 0 0 (fun _ => False) := by
  refine Met.ofW (cc := cX4_isTaken) (maxL := 5) (ret := (some .boolean)) (by decide) rfl ?_
  intro p e s m args below meth c s₁ B hml hv
  obtain ⟨rfl, hP, hK⟩ := hv
  have hx := B.exec
  have hb := B.bytes
  have hr := B.returns
  have hts := atoms_spec (ws := wsX4_isTaken) B.pre
  have hown : s.vm.findClass RX4 = some m.cls := findClass_of_methodNamed B.named
  have hlocks := B.notSynchronized
  have hl := lv_entry ([.ref (a 0), .int p1, .int p2]) (n := 5) (Nat.le_of_ble_eq_true rfl)
  rw [lg_entry_eq]
  generalize (lg_sl ([.ref (a 0), .int p1, .int p2]) ++ List.replicate (5 - (lg_sl ([.ref (a 0), .int p1, .int p2])).length) Slot.unset).toArray = ls at hl ⊢
  have hl : lv_has ls 5 [(0, .ref (a 0)), (1, .int p1), (2, .int p2)] := hl
  replace hP : va_P (gD g) vwCl ([((a 0), .inr (6, [.int M.cd, .int (nI (M.rg)), .ref (a 1), .ref (a 2), .ref (a 3), .ref (a 4), .ref (a 5), .ref (a 6), .ref (a 7), .ref (a 8), .int (nI (M.S.n)), .int (nI (M.S.ar)), .int (nI (M.k)), .int (nI (M.fz)), .ref (a 9), .ref (a 10), .ref (a 11), .ref (a 12)])), ((a 1), .inl (gJ g, 32, .inr (.inl M.cs))), ((a 2), .inl (gI g, 2001, .inl M.S.kd)), ((a 3), .inl (gI g, 2001, .inl M.S.un)), ((a 4), .inl (gI g, 2001, .inl M.S.ce)), ((a 5), .inl (gI g, 2001, .inl M.S.tn)), ((a 6), .inl (gJ g, 2001, .inr (.inl M.S.bf))), ((a 7), .inl (gJ g, 2001, .inr (.inl M.S.af))), ((a 8), .inl (gZ g, 2001, .inl M.S.bk)), ((a 9), .inl (gJ g, 672, .inr (.inl M.kp))), ((a 10), .inl (gI g, 21, .inl M.st)), ((a 11), .inl (gI g, 21, .inl M.en)), ((a 12), .inl (gZ g, 21, .inl M.sp))]) s.heap := hP
  refine lv_iconst (v := 1) hx hb dX4_isTaken_0 (by decide) ?_
  refine lv_istore_n (lv' := [(3, .int 1), (0, .ref (a 0)), (1, .int p1), (2, .int p2)]) hx hb dX4_isTaken_1 rfl hl (by decide) rfl (fun ls hl => ?_)
  obtain ⟨i, hi⟩ : ∃ i : Nat, i = 1 := ⟨_, rfl⟩
  replace hl : lv_has ls 5 [(0, .ref (a 0)), (1, .int p1), (2, .int p2), (3, .int (nI (i)))] := by subst hi; exact lv_sub hl [1, 2, 3, 0] rfl
  have hi1 : 1 ≤ i := by omega
  have hi2 : i ≤ 60 + 1 := by omega
  have hq : tkF M.S p1 p2 60 1 = tkF M.S p1 p2 (61 - i) i := by rw [hi]
  clear hi
  obtain ⟨d, hd⟩ : ∃ d, 60 + 1 - i = d := ⟨_, rfl⟩
  induction d using Nat.strongRecOn generalizing i ls with
  | ind d ih =>
    refine lv_iload_n hx hb dX4_isTaken_2 rfl (lv_at hl 3 rfl) ?_
    refine lv_bipush (v := 60) hx hb dX4_isTaken_3 (by decide) ?_
    refine lv_icmp_gt (tgt := 71) hx hb dX4_isTaken_5 (by decide) (fun c_5_2 => ?_) (fun c_5_2 => ?_)
    · have i_5 : (60 : Int) < ((i : Nat) : Int) := q_lt c_5_2 rfl (l_nI (by omega))
      refine lv_iconst (v := 0) hx hb dX4_isTaken_71 (by decide) ?_
      exact W.zret (v := 0) hx hb hr rfl (fun tz htz hWz => ⟨0, rfl, (bI_0 (by rw [hq, tk_end (by omega)]; exact Bool.false_ne_true)), htz⟩) (fun _ h => nomatch h) dX4_isTaken_72
    · have i_5 : (((i : Nat) : Int) : Int) ≤ 60 := q_nlt c_5_2 rfl (l_nI (by omega))
      refine lv_iload_n hx hb dX4_isTaken_8 rfl (lv_at hl 3 rfl) ?_
      refine lv_iload_n hx hb dX4_isTaken_9 rfl (lv_at hl 2 rfl) ?_
      refine lv_icmp_eq (tgt := 65) hx hb dX4_isTaken_10 (by decide) (fun c_10_3 => ?_) (fun c_10_3 => ?_)
      · have i_10 : (((i : Nat) : Int) : Int) = p2.toInt := q_eq c_10_3 (l_nI (by omega)) rfl
        refine lv_iinc (v := (nI (i + 1))) (lv' := [(3, .int (nI (i + 1))), (0, .ref (a 0)), (1, .int p1), (2, .int p2)]) hx hb dX4_isTaken_65 hl (k := 3) rfl (nI_1 _) (by decide) rfl (fun ls hl => ?_)
        refine lv_goto (tgt := 2) hx hb dX4_isTaken_68 (by decide) ?_
        exact ih (60 + 1 - (i + 1)) (by omega) ls (i + 1) (lv_sub hl [1, 2, 3, 0] rfl) (by omega) (by omega) (by rw [hq]; exact tk_skip (by omega) (by first | exact Or.inl (by assumption) | exact Or.inr (by assumption))) rfl
      · have i_10 : (((i : Nat) : Int) : Int) ≠ p2.toInt := q_ne c_10_3 (l_nI (by omega)) rfl
        refine lv_aload_n hx hb dX4_isTaken_13 rfl (lv_at hl 0 rfl) ?_
        refine lv_iload_n hx hb dX4_isTaken_14 rfl (lv_at hl 3 rfl) ?_
        refine vp_callSi (va_Run.run (va_runV (As := [.int (nI (i))]) (rest := []) ⟨hx, hb, hml, hown, hts⟩ (c_X4_isOpen l g a M (nI (i)) (by omega)) (cwV 1 hts gX4_isTaken_X4_isOpen rfl rfl rfl (by decide +kernel) ⟨Nat.le_of_ble_eq_true rfl, Nat.le_of_ble_eq_true rfl⟩) (pv_r hK hP (ci := 6) (q0 := 0) rfl rfl [0, 1, 2, 3, 4, 5, 6, 7, 8, 9, 10, 11, 12] rfl) rfl rfl hl.1 rfl (lv_room (Nat.le_of_ble_eq_true rfl)) dX4_isTaken_15 ⟨Nat.zero_le _, Nat.zero_le _⟩)) (fun r_15_4 h_15_4 => ?_)
        refine lv_if_ne (tgt := 24) hx hb dX4_isTaken_18 (by decide) (fun c_18_4 => ?_) (fun c_18_4 => ?_)
        · have b_18 : stO M.S (nI (i)) M.S.n = 1 := bI_t h_15_4 c_18_4
          refine lv_iconst (v := 1) hx hb dX4_isTaken_24 (by decide) ?_
          refine lv_istore (lv' := [(4, .int 1), (0, .ref (a 0)), (1, .int p1), (2, .int p2), (3, .int (nI (i)))]) hx hb dX4_isTaken_25 hl (by decide) rfl (fun ls hl => ?_)
          obtain ⟨j, hj⟩ : ∃ j : Nat, j = 1 := ⟨_, rfl⟩
          replace hl : lv_has ls 5 [(0, .ref (a 0)), (1, .int p1), (2, .int p2), (3, .int (nI (i))), (4, .int (nI (j)))] := by subst hj; exact lv_sub hl [1, 2, 3, 4, 0] rfl
          have hj1 : 1 ≤ j := by omega
          have hj2 : j ≤ M.S.n + 1 := by omega
          have hq2 : hcF M.S p1 (nI i) M.S.n 1 = hcF M.S p1 (nI i) (M.S.n + 1 - j) j := by rw [hj]; rfl
          clear hj
          have ih0 := ih
          clear ih
          obtain ⟨d0, hd0⟩ : ∃ d0, d0 = d := ⟨_, rfl⟩
          rw [← hd0] at ih0 hd
          clear hd0 d
          obtain ⟨d, hd9⟩ : ∃ d, M.S.n + 1 - j = d := ⟨_, rfl⟩
          induction d using Nat.strongRecOn generalizing j ls with
          | ind d ih =>
            refine lv_iload hx hb dX4_isTaken_27 (lv_at hl 4 rfl) ?_
            refine lv_aload_n hx hb dX4_isTaken_29 rfl (lv_at hl 0 rfl) ?_
            refine va_get (D := gD g) (ci := 6) (v := .int (nI (M.S.n))) (C := RX4) (T := TX4) (N := 18) hx hb hts (by decide +kernel) hown hK.1 hP 0 rfl rfl 10 (by decide) (hts (.fieldLink RX4 55 "LogForwardModel" "rows" "I") (by decide +kernel)) (fun _ h9 => h9) rfl dX4_isTaken_30 ?_
            refine lv_icmp_gt (tgt := 65) hx hb dX4_isTaken_33 (by decide) (fun c_33_6 => ?_) (fun c_33_6 => ?_)
            · have i_33 : (((M.S.n : Nat) : Int) : Int) < ((j : Nat) : Int) := q_lt c_33_6 (l_nI (by omega)) (l_nI (by omega))
              refine lv_iinc (v := (nI (i + 1))) (lv' := [(3, .int (nI (i + 1))), (0, .ref (a 0)), (1, .int p1), (2, .int p2), (4, .int (nI (j)))]) hx hb dX4_isTaken_65 hl (k := 3) rfl (nI_1 _) (by decide) rfl (fun ls hl => ?_)
              refine lv_goto (tgt := 2) hx hb dX4_isTaken_68 (by decide) ?_
              exact ih0 (60 + 1 - (i + 1)) (by omega) ls (i + 1) (lv_sub hl [1, 2, 3, 0] rfl) (by omega) (by omega) (by rw [hq]; exact tk_no (by omega) (by assumption) (by assumption) (by rw [hq2, hc_end (by omega)])) rfl
            · have i_33 : (((j : Nat) : Int) : Int) ≤ ((M.S.n : Nat) : Int) := q_nlt c_33_6 (l_nI (by omega)) (l_nI (by omega))
              refine lv_aload_n hx hb dX4_isTaken_36 rfl (lv_at hl 0 rfl) ?_
              refine lv_iload hx hb dX4_isTaken_37 (lv_at hl 4 rfl) ?_
              refine lv_iload_n hx hb dX4_isTaken_39 rfl (lv_at hl 3 rfl) ?_
              refine vp_callSi (va_Run.run (va_runV (As := [.int (nI (j)), .int (nI (i))]) (rest := []) ⟨hx, hb, hml, hown, hts⟩ (c_X4_isChange l g a M (j) (by omega) (by omega) (by omega) (nI (i))) (cwV 2 hts gX4_isTaken_X4_isChange rfl rfl rfl (by decide +kernel) ⟨Nat.le_of_ble_eq_true rfl, Nat.le_of_ble_eq_true rfl⟩) (pv_r hK hP (ci := 6) (q0 := 0) rfl rfl [0, 1, 2, 3, 4, 5, 6, 7, 8, 9, 10, 11, 12] rfl) rfl rfl hl.1 rfl (lv_room (Nat.le_of_ble_eq_true rfl)) dX4_isTaken_40 ⟨Nat.zero_le _, Nat.zero_le _⟩)) (fun r_40_7 h_40_7 => ?_)
              refine lv_if_eq (tgt := 59) hx hb dX4_isTaken_43 (by decide) (fun c_43_7 => ?_) (fun c_43_7 => ?_)
              · have b_43 : ¬ (isC M.S (nI (i)) (j)) := bI_f h_40_7 c_43_7
                refine lv_iinc (v := (nI (j + 1))) (lv' := [(4, .int (nI (j + 1))), (0, .ref (a 0)), (1, .int p1), (2, .int p2), (3, .int (nI (i)))]) hx hb dX4_isTaken_59 hl (k := 4) rfl (nI_1 _) (by decide) rfl (fun ls hl => ?_)
                refine lv_goto (tgt := 27) hx hb dX4_isTaken_62 (by decide) ?_
                exact ih (M.S.n + 1 - (j + 1)) (by omega) ls (j + 1) (lv_sub hl [1, 2, 3, 4, 0] rfl) (by omega) (by omega) (by rw [hq2]; exact hc_no (by omega) (fun z => by first | exact absurd z.1 (by assumption) | exact absurd z.2 (by assumption))) rfl
              · have b_43 : isC M.S (nI (i)) (j) := bI_t h_40_7 c_43_7
                refine lv_aload_n hx hb dX4_isTaken_46 rfl (lv_at hl 0 rfl) ?_
                refine va_get (D := gD g) (ci := 6) (v := .ref (a 4)) (C := RX4) (T := TX4) (N := 18) hx hb hts (by decide +kernel) hown hK.1 hP 0 rfl rfl 5 (by decide) (hts (.fieldLink RX4 20 "LogForwardModel" "where" "[I") (by decide +kernel)) (fun _ h9 => h9) rfl dX4_isTaken_47 ?_
                refine lv_iload hx hb dX4_isTaken_50 (lv_at hl 4 rfl) ?_
                refine ga_iald (v := (M.S.ce j)) hx hb hK.1 hP 4 0 rfl rfl (v_nI (by omega) (by omega)) (by rw [(c_nI (by omega))]) dX4_isTaken_52 ?_
                refine lv_iload_n hx hb dX4_isTaken_53 rfl (lv_at hl 1 rfl) ?_
                refine lv_icmp_ne (tgt := 59) hx hb dX4_isTaken_54 (by decide) (fun c_54_8 => ?_) (fun c_54_8 => ?_)
                · have i_54 : ((M.S.ce j).toInt : Int) ≠ p1.toInt := q_ne c_54_8 rfl rfl
                  refine lv_iinc (v := (nI (j + 1))) (lv' := [(4, .int (nI (j + 1))), (0, .ref (a 0)), (1, .int p1), (2, .int p2), (3, .int (nI (i)))]) hx hb dX4_isTaken_59 hl (k := 4) rfl (nI_1 _) (by decide) rfl (fun ls hl => ?_)
                  refine lv_goto (tgt := 27) hx hb dX4_isTaken_62 (by decide) ?_
                  exact ih (M.S.n + 1 - (j + 1)) (by omega) ls (j + 1) (lv_sub hl [1, 2, 3, 4, 0] rfl) (by omega) (by omega) (by rw [hq2]; exact hc_no (by omega) (fun z => by first | exact absurd z.1 (by assumption) | exact absurd z.2 (by assumption))) rfl
                · have i_54 : ((M.S.ce j).toInt : Int) = p1.toInt := q_eq c_54_8 rfl rfl
                  refine lv_iconst (v := 1) hx hb dX4_isTaken_57 (by decide) ?_
                  exact W.zret (v := 1) hx hb hr rfl (fun tz htz hWz => ⟨1, rfl, (bI_1 (by rw [hq]; exact tk_yes (by omega) (by assumption) (by assumption) (by rw [hq2]; exact hc_yes (by omega) ⟨by assumption, by assumption⟩))), htz⟩) (fun _ h => nomatch h) dX4_isTaken_58
        · have b_18 : ¬ (stO M.S (nI (i)) M.S.n = 1) := bI_f h_15_4 c_18_4
          refine lv_goto (tgt := 65) hx hb dX4_isTaken_21 (by decide) ?_
          refine lv_iinc (v := (nI (i + 1))) (lv' := [(3, .int (nI (i + 1))), (0, .ref (a 0)), (1, .int p1), (2, .int p2)]) hx hb dX4_isTaken_65 hl (k := 3) rfl (nI_1 _) (by decide) rfl (fun ls hl => ?_)
          refine lv_goto (tgt := 2) hx hb dX4_isTaken_68 (by decide) ?_
          exact ih (60 + 1 - (i + 1)) (by omega) ls (i + 1) (lv_sub hl [1, 2, 3, 0] rfl) (by omega) (by omega) (by rw [hq]; exact tk_skip (by omega) (by first | exact Or.inl (by assumption) | exact Or.inr (by assumption))) rfl
set_option maxHeartbeats 4000000 in
set_option maxRecDepth 100000 in
theorem c_X4_lacking (l : Launch) (g : GG) (a : Nat → Nat) (M : MS) (i0 t : Nat) (h0 : i0 ≤ 20) (ht0 : t ≤ M.S.n) (hn : M.S.n ≤ 2000) : Met l yX4_lacking wsX4_lacking { frames := 1, cells := 0, slots := 0, locals := 24 } (va_Pc [.ref (a 0), .int (nI (i0)), .int (nI (t))] (Pr g (wM g a M))) (vp_Si (fun rv => rv = nI (laF M.S (M.st i0) t t 1))) 0 0 (fun _ => False) := by
  refine Met.ofW (cc := cX4_lacking) (maxL := 5) (ret := (some .int)) (by decide) rfl ?_
  intro p e s m args below meth c s₁ B hml hv
  obtain ⟨rfl, hP, hK⟩ := hv
  have hx := B.exec
  have hb := B.bytes
  have hr := B.returns
  have hts := atoms_spec (ws := wsX4_lacking) B.pre
  have hown : s.vm.findClass RX4 = some m.cls := findClass_of_methodNamed B.named
  have hlocks := B.notSynchronized
  have hl := lv_entry ([.ref (a 0), .int (nI (i0)), .int (nI (t))]) (n := 5) (Nat.le_of_ble_eq_true rfl)
  rw [lg_entry_eq]
  generalize (lg_sl ([.ref (a 0), .int (nI (i0)), .int (nI (t))]) ++ List.replicate (5 - (lg_sl ([.ref (a 0), .int (nI (i0)), .int (nI (t))])).length) Slot.unset).toArray = ls at hl ⊢
  have hl : lv_has ls 5 [(0, .ref (a 0)), (1, .int (nI (i0))), (2, .int (nI (t)))] := hl
  replace hP : va_P (gD g) vwCl ([((a 0), .inr (6, [.int M.cd, .int (nI (M.rg)), .ref (a 1), .ref (a 2), .ref (a 3), .ref (a 4), .ref (a 5), .ref (a 6), .ref (a 7), .ref (a 8), .int (nI (M.S.n)), .int (nI (M.S.ar)), .int (nI (M.k)), .int (nI (M.fz)), .ref (a 9), .ref (a 10), .ref (a 11), .ref (a 12)])), ((a 1), .inl (gJ g, 32, .inr (.inl M.cs))), ((a 2), .inl (gI g, 2001, .inl M.S.kd)), ((a 3), .inl (gI g, 2001, .inl M.S.un)), ((a 4), .inl (gI g, 2001, .inl M.S.ce)), ((a 5), .inl (gI g, 2001, .inl M.S.tn)), ((a 6), .inl (gJ g, 2001, .inr (.inl M.S.bf))), ((a 7), .inl (gJ g, 2001, .inr (.inl M.S.af))), ((a 8), .inl (gZ g, 2001, .inl M.S.bk)), ((a 9), .inl (gJ g, 672, .inr (.inl M.kp))), ((a 10), .inl (gI g, 21, .inl M.st)), ((a 11), .inl (gI g, 21, .inl M.en)), ((a 12), .inl (gZ g, 21, .inl M.sp))]) s.heap := hP
  refine lv_iconst (v := 1) hx hb dX4_lacking_0 (by decide) ?_
  refine lv_istore_n (lv' := [(3, .int 1), (0, .ref (a 0)), (1, .int (nI (i0))), (2, .int (nI (t)))]) hx hb dX4_lacking_1 rfl hl (by decide) rfl (fun ls hl => ?_)
  obtain ⟨i, hi⟩ : ∃ i : Nat, i = 1 := ⟨_, rfl⟩
  replace hl : lv_has ls 5 [(0, .ref (a 0)), (1, .int (nI (i0))), (2, .int (nI (t))), (3, .int (nI (i)))] := by subst hi; exact lv_sub hl [1, 2, 3, 0] rfl
  have hi1 : 1 ≤ i := by omega
  have hi2 : i ≤ t + 1 := by omega
  have hq : laF M.S (M.st i0) t t 1 = laF M.S (M.st i0) t (t + 1 - i) i := by rw [hi]; rfl
  clear hi
  obtain ⟨d, hd⟩ : ∃ d, t + 1 - i = d := ⟨_, rfl⟩
  induction d using Nat.strongRecOn generalizing i ls with
  | ind d ih =>
    refine lv_iload_n hx hb dX4_lacking_2 rfl (lv_at hl 3 rfl) ?_
    refine lv_iload_n hx hb dX4_lacking_3 rfl (lv_at hl 2 rfl) ?_
    refine lv_icmp_gt (tgt := 81) hx hb dX4_lacking_4 (by decide) (fun c_4_2 => ?_) (fun c_4_2 => ?_)
    · have i_4 : (((t : Nat) : Int) : Int) < ((i : Nat) : Int) := q_lt c_4_2 (l_nI (by omega)) (l_nI (by omega))
      refine lv_iconst (v := 0) hx hb dX4_lacking_81 (by decide) ?_
      exact W.iret (v := 0) hx hb hr (fun tz htz hWz => ⟨0, rfl, (by rw [hq, la_end (by omega)]; rfl), htz⟩) (fun _ h => nomatch h) dX4_lacking_82
    · have i_4 : (((i : Nat) : Int) : Int) ≤ ((t : Nat) : Int) := q_nlt c_4_2 (l_nI (by omega)) (l_nI (by omega))
      refine lv_aload_n hx hb dX4_lacking_7 rfl (lv_at hl 0 rfl) ?_
      refine lv_iload_n hx hb dX4_lacking_8 rfl (lv_at hl 3 rfl) ?_
      refine vp_callSi (va_Run.run (va_runV (As := [.int (nI (i))]) (rest := []) ⟨hx, hb, hml, hown, hts⟩ (c_X4_isMissing l g a M (i) (by omega) (by omega) (by omega)) (cwV 1 hts gX4_lacking_X4_isMissing rfl rfl rfl (by decide +kernel) ⟨Nat.le_of_ble_eq_true rfl, Nat.le_of_ble_eq_true rfl⟩) (pv_r hK hP (ci := 6) (q0 := 0) rfl rfl [0, 1, 2, 3, 4, 5, 6, 7, 8, 9, 10, 11, 12] rfl) rfl rfl hl.1 rfl (lv_room (Nat.le_of_ble_eq_true rfl)) dX4_lacking_9 ⟨Nat.zero_le _, Nat.zero_le _⟩)) (fun r_9_3 h_9_3 => ?_)
      refine lv_if_ne (tgt := 18) hx hb dX4_lacking_12 (by decide) (fun c_12_3 => ?_) (fun c_12_3 => ?_)
      · have b_12 : M.S.tn (i) = 3 := bI_t h_9_3 c_12_3
        refine lv_iload_n hx hb dX4_lacking_18 rfl (lv_at hl 3 rfl) ?_
        refine lv_aload_n hx hb dX4_lacking_19 rfl (lv_at hl 0 rfl) ?_
        refine va_get (D := gD g) (ci := 6) (v := .ref (a 10)) (C := RX4) (T := TX4) (N := 18) hx hb hts (by decide +kernel) hown hK.1 hP 0 rfl rfl 15 (by decide) (hts (.fieldLink RX4 39 "LogForwardModel" "starts" "[I") (by decide +kernel)) (fun _ h9 => h9) rfl dX4_lacking_20 ?_
        refine lv_iload_n hx hb dX4_lacking_23 rfl (lv_at hl 1 rfl) ?_
        refine ga_iald (v := (M.st i0)) hx hb hK.1 hP 10 0 rfl rfl (v_nI (by omega) (by omega)) (by rw [(c_nI (by omega))]) dX4_lacking_24 ?_
        refine lv_icmp_gt (tgt := 61) hx hb dX4_lacking_25 (by decide) (fun c_25_4 => ?_) (fun c_25_4 => ?_)
        · have i_25 : ((M.st i0).toInt : Int) < ((i : Nat) : Int) := q_lt c_25_4 rfl (l_nI (by omega))
          refine lv_iconst (v := 1) hx hb dX4_lacking_61 (by decide) ?_
          refine lv_goto (tgt := 66) hx hb dX4_lacking_62 (by decide) ?_
          refine lv_istore (lv' := [(4, .int 1), (0, .ref (a 0)), (1, .int (nI (i0))), (2, .int (nI (t))), (3, .int (nI (i)))]) hx hb dX4_lacking_66 hl (by decide) rfl (fun ls hl => ?_)
          refine lv_iload hx hb dX4_lacking_68 (lv_at hl 0 rfl) ?_
          refine lv_if_eq (tgt := 75) hx hb dX4_lacking_70 (by decide) (fun c_70_5 => ?_) (fun c_70_5 => ?_)
          · exact absurd c_70_5 (by decide)
          · skip
            refine lv_iload_n hx hb dX4_lacking_73 rfl (lv_at hl 4 rfl) ?_
            exact W.iret (v := (nI (i))) hx hb hr (fun tz htz hWz => ⟨(nI (i)), rfl, (by rw [hq, la_yes (by omega) ⟨by assumption, by first | exact Or.inl (by omega) | exact Or.inr ⟨⟨by assumption, by assumption⟩, by omega⟩⟩]), htz⟩) (fun _ h => nomatch h) dX4_lacking_74
        · have i_25 : (((i : Nat) : Int) : Int) ≤ (M.st i0).toInt := q_nlt c_25_4 rfl (l_nI (by omega))
          refine lv_aload_n hx hb dX4_lacking_28 rfl (lv_at hl 0 rfl) ?_
          refine va_get (D := gD g) (ci := 6) (v := .ref (a 2)) (C := RX4) (T := TX4) (N := 18) hx hb hts (by decide +kernel) hown hK.1 hP 0 rfl rfl 3 (by decide) (hts (.fieldLink RX4 13 "LogForwardModel" "kinds" "[I") (by decide +kernel)) (fun _ h9 => h9) rfl dX4_lacking_29 ?_
          refine lv_iload_n hx hb dX4_lacking_32 rfl (lv_at hl 3 rfl) ?_
          refine ga_iald (v := (M.S.kd i)) hx hb hK.1 hP 2 0 rfl rfl (v_nI (by omega) (by omega)) (by rw [(c_nI (by omega))]) dX4_lacking_33 ?_
          refine lv_if_ne (tgt := 65) hx hb dX4_lacking_34 (by decide) (fun c_34_5 => ?_) (fun c_34_5 => ?_)
          · have i_34 : ((M.S.kd i).toInt : Int) ≠ 0 := q_ne c_34_5 rfl rfl
            refine lv_iconst (v := 0) hx hb dX4_lacking_65 (by decide) ?_
            refine lv_istore (lv' := [(4, .int 0), (0, .ref (a 0)), (1, .int (nI (i0))), (2, .int (nI (t))), (3, .int (nI (i)))]) hx hb dX4_lacking_66 hl (by decide) rfl (fun ls hl => ?_)
            refine lv_iload hx hb dX4_lacking_68 (lv_at hl 0 rfl) ?_
            refine lv_if_eq (tgt := 75) hx hb dX4_lacking_70 (by decide) (fun c_70_6 => ?_) (fun c_70_6 => ?_)
            · skip
              refine lv_iinc (v := (nI (i + 1))) (lv' := [(3, .int (nI (i + 1))), (4, .int 0), (0, .ref (a 0)), (1, .int (nI (i0))), (2, .int (nI (t)))]) hx hb dX4_lacking_75 hl (k := 4) rfl (nI_1 _) (by decide) rfl (fun ls hl => ?_)
              refine lv_goto (tgt := 2) hx hb dX4_lacking_78 (by decide) ?_
              exact ih (t + 1 - (i + 1)) (by omega) ls (i + 1) (lv_sub hl [2, 3, 4, 0] rfl) (by omega) (by omega) (by rw [hq]; exact la_no (by omega) (by rintro ⟨h1, h2 | h2⟩ <;> first | exact absurd h1 (by assumption) | (exfalso; omega) | exact absurd h2.1.1 (by assumption) | exact absurd h2.1.2 (by assumption) | exact absurd h2.2 (by omega))) rfl
            · exact absurd c_70_6 (by decide)
          · have i_34 : ((M.S.kd i).toInt : Int) = 0 := q_eq c_34_5 rfl rfl
            refine lv_aload_n hx hb dX4_lacking_37 rfl (lv_at hl 0 rfl) ?_
            refine va_get (D := gD g) (ci := 6) (v := .ref (a 8)) (C := RX4) (T := TX4) (N := 18) hx hb hts (by decide +kernel) hown hK.1 hP 0 rfl rfl 9 (by decide) (hts (.fieldLink RX4 32 "LogForwardModel" "back" "[Z") (by decide +kernel)) (fun _ h9 => h9) rfl dX4_lacking_38 ?_
            refine lv_iload_n hx hb dX4_lacking_41 rfl (lv_at hl 3 rfl) ?_
            refine ga_zald (v := (M.S.bk i)) hx hb hK.1 hP 8 2 rfl rfl (v_nI (by omega) (by omega)) (by rw [(c_nI (by omega))]) dX4_lacking_42 ?_
            refine lv_if_ne (tgt := 65) hx hb dX4_lacking_43 (by decide) (fun c_43_6 => ?_) (fun c_43_6 => ?_)
            · have i_43 : ((M.S.bk i).toInt : Int) ≠ 0 := q_ne c_43_6 rfl rfl
              refine lv_iconst (v := 0) hx hb dX4_lacking_65 (by decide) ?_
              refine lv_istore (lv' := [(4, .int 0), (0, .ref (a 0)), (1, .int (nI (i0))), (2, .int (nI (t))), (3, .int (nI (i)))]) hx hb dX4_lacking_66 hl (by decide) rfl (fun ls hl => ?_)
              refine lv_iload hx hb dX4_lacking_68 (lv_at hl 0 rfl) ?_
              refine lv_if_eq (tgt := 75) hx hb dX4_lacking_70 (by decide) (fun c_70_7 => ?_) (fun c_70_7 => ?_)
              · skip
                refine lv_iinc (v := (nI (i + 1))) (lv' := [(3, .int (nI (i + 1))), (4, .int 0), (0, .ref (a 0)), (1, .int (nI (i0))), (2, .int (nI (t)))]) hx hb dX4_lacking_75 hl (k := 4) rfl (nI_1 _) (by decide) rfl (fun ls hl => ?_)
                refine lv_goto (tgt := 2) hx hb dX4_lacking_78 (by decide) ?_
                exact ih (t + 1 - (i + 1)) (by omega) ls (i + 1) (lv_sub hl [2, 3, 4, 0] rfl) (by omega) (by omega) (by rw [hq]; exact la_no (by omega) (by rintro ⟨h1, h2 | h2⟩ <;> first | exact absurd h1 (by assumption) | (exfalso; omega) | exact absurd h2.1.1 (by assumption) | exact absurd h2.1.2 (by assumption) | exact absurd h2.2 (by omega))) rfl
              · exact absurd c_70_7 (by decide)
            · have i_43 : ((M.S.bk i).toInt : Int) = 0 := q_eq c_43_6 rfl rfl
              refine lv_aload_n hx hb dX4_lacking_46 rfl (lv_at hl 0 rfl) ?_
              refine lv_aload_n hx hb dX4_lacking_47 rfl (lv_at hl 0 rfl) ?_
              refine va_get (D := gD g) (ci := 6) (v := .ref (a 3)) (C := RX4) (T := TX4) (N := 18) hx hb hts (by decide +kernel) hown hK.1 hP 0 rfl rfl 4 (by decide) (hts (.fieldLink RX4 17 "LogForwardModel" "units" "[I") (by decide +kernel)) (fun _ h9 => h9) rfl dX4_lacking_48 ?_
              refine lv_iload_n hx hb dX4_lacking_51 rfl (lv_at hl 3 rfl) ?_
              refine ga_iald (v := (M.S.un i)) hx hb hK.1 hP 3 0 rfl rfl (v_nI (by omega) (by omega)) (by rw [(c_nI (by omega))]) dX4_lacking_52 ?_
              refine lv_iload_n hx hb dX4_lacking_53 rfl (lv_at hl 2 rfl) ?_
              refine vp_callSi (va_Run.run (va_runV (As := [.int (M.S.un i), .int (nI (t))]) (rest := []) ⟨hx, hb, hml, hown, hts⟩ (c_X4_stateOf l g a M (M.S.un i) (t) (by omega) (by omega)) (cwV 2 hts gX4_lacking_X4_stateOf rfl rfl rfl (by decide +kernel) ⟨Nat.le_of_ble_eq_true rfl, Nat.le_of_ble_eq_true rfl⟩) (pv_r hK hP (ci := 6) (q0 := 0) rfl rfl [0, 1, 2, 3, 4, 5, 6, 7, 8, 9, 10, 11, 12] rfl) rfl rfl hl.1 rfl (lv_room (Nat.le_of_ble_eq_true rfl)) dX4_lacking_54 ⟨Nat.zero_le _, Nat.zero_le _⟩)) (fun r_54_7 h_54_7 => ?_)
              subst h_54_7
              refine lv_iconst (v := 1) hx hb dX4_lacking_57 (by decide) ?_
              refine lv_icmp_ne (tgt := 65) hx hb dX4_lacking_58 (by decide) (fun c_58_7 => ?_) (fun c_58_7 => ?_)
              · have i_58 : (((stO M.S (M.S.un i) (t) : Nat) : Int) : Int) ≠ 1 := q_ne c_58_7 (l_nI (by have := stO_le M.S (M.S.un i) (t); omega)) rfl
                refine lv_iconst (v := 0) hx hb dX4_lacking_65 (by decide) ?_
                refine lv_istore (lv' := [(4, .int 0), (0, .ref (a 0)), (1, .int (nI (i0))), (2, .int (nI (t))), (3, .int (nI (i)))]) hx hb dX4_lacking_66 hl (by decide) rfl (fun ls hl => ?_)
                refine lv_iload hx hb dX4_lacking_68 (lv_at hl 0 rfl) ?_
                refine lv_if_eq (tgt := 75) hx hb dX4_lacking_70 (by decide) (fun c_70_8 => ?_) (fun c_70_8 => ?_)
                · skip
                  refine lv_iinc (v := (nI (i + 1))) (lv' := [(3, .int (nI (i + 1))), (4, .int 0), (0, .ref (a 0)), (1, .int (nI (i0))), (2, .int (nI (t)))]) hx hb dX4_lacking_75 hl (k := 4) rfl (nI_1 _) (by decide) rfl (fun ls hl => ?_)
                  refine lv_goto (tgt := 2) hx hb dX4_lacking_78 (by decide) ?_
                  exact ih (t + 1 - (i + 1)) (by omega) ls (i + 1) (lv_sub hl [2, 3, 4, 0] rfl) (by omega) (by omega) (by rw [hq]; exact la_no (by omega) (by rintro ⟨h1, h2 | h2⟩ <;> first | exact absurd h1 (by assumption) | (exfalso; omega) | exact absurd h2.1.1 (by assumption) | exact absurd h2.1.2 (by assumption) | exact absurd h2.2 (by omega))) rfl
                · exact absurd c_70_8 (by decide)
              · have i_58 : (((stO M.S (M.S.un i) (t) : Nat) : Int) : Int) = 1 := q_eq c_58_7 (l_nI (by have := stO_le M.S (M.S.un i) (t); omega)) rfl
                refine lv_iconst (v := 1) hx hb dX4_lacking_61 (by decide) ?_
                refine lv_goto (tgt := 66) hx hb dX4_lacking_62 (by decide) ?_
                refine lv_istore (lv' := [(4, .int 1), (0, .ref (a 0)), (1, .int (nI (i0))), (2, .int (nI (t))), (3, .int (nI (i)))]) hx hb dX4_lacking_66 hl (by decide) rfl (fun ls hl => ?_)
                refine lv_iload hx hb dX4_lacking_68 (lv_at hl 0 rfl) ?_
                refine lv_if_eq (tgt := 75) hx hb dX4_lacking_70 (by decide) (fun c_70_8 => ?_) (fun c_70_8 => ?_)
                · exact absurd c_70_8 (by decide)
                · skip
                  refine lv_iload_n hx hb dX4_lacking_73 rfl (lv_at hl 4 rfl) ?_
                  exact W.iret (v := (nI (i))) hx hb hr (fun tz htz hWz => ⟨(nI (i)), rfl, (by rw [hq, la_yes (by omega) ⟨by assumption, by first | exact Or.inl (by omega) | exact Or.inr ⟨⟨by assumption, by assumption⟩, by omega⟩⟩]), htz⟩) (fun _ h => nomatch h) dX4_lacking_74
      · have b_12 : ¬ (M.S.tn (i) = 3) := bI_f h_9_3 c_12_3
        refine lv_goto (tgt := 75) hx hb dX4_lacking_15 (by decide) ?_
        refine lv_iinc (v := (nI (i + 1))) (lv' := [(3, .int (nI (i + 1))), (0, .ref (a 0)), (1, .int (nI (i0))), (2, .int (nI (t)))]) hx hb dX4_lacking_75 hl (k := 3) rfl (nI_1 _) (by decide) rfl (fun ls hl => ?_)
        refine lv_goto (tgt := 2) hx hb dX4_lacking_78 (by decide) ?_
        exact ih (t + 1 - (i + 1)) (by omega) ls (i + 1) (lv_sub hl [1, 2, 3, 0] rfl) (by omega) (by omega) (by rw [hq]; exact la_no (by omega) (by rintro ⟨h1, h2 | h2⟩ <;> first | exact absurd h1 (by assumption) | (exfalso; omega) | exact absurd h2.1.1 (by assumption) | exact absurd h2.1.2 (by assumption) | exact absurd h2.2 (by omega))) rfl
set_option maxHeartbeats 4000000 in
set_option maxRecDepth 100000 in
theorem c_X4_synced (l : Launch) (g : GG) (a : Nat → Nat) (M : MS) (hn : M.S.n ≤ 2000) : Met l yX4_synced wsX4_synced { frames := 0, cells := 0, slots := 0, locals := 0 } (va_Pc [.ref (a 0)] (Pr g (wM g a M))) (vp_Si (fun rv => rv = nI (snO M.S M.S.n))) 0 0 (fun _ => False) := by
  refine Met.ofW (cc := cX4_synced) (maxL := 3) (ret := (some .int)) (by decide) rfl ?_
  intro p e s m args below meth c s₁ B hml hv
  obtain ⟨rfl, hP, hK⟩ := hv
  have hx := B.exec
  have hb := B.bytes
  have hr := B.returns
  have hts := atoms_spec (ws := wsX4_synced) B.pre
  have hown : s.vm.findClass RX4 = some m.cls := findClass_of_methodNamed B.named
  have hlocks := B.notSynchronized
  have hl := lv_entry ([.ref (a 0)]) (n := 3) (Nat.le_of_ble_eq_true rfl)
  rw [lg_entry_eq]
  generalize (lg_sl ([.ref (a 0)]) ++ List.replicate (3 - (lg_sl ([.ref (a 0)])).length) Slot.unset).toArray = ls at hl ⊢
  have hl : lv_has ls 3 [(0, .ref (a 0))] := hl
  replace hP : va_P (gD g) vwCl ([((a 0), .inr (6, [.int M.cd, .int (nI (M.rg)), .ref (a 1), .ref (a 2), .ref (a 3), .ref (a 4), .ref (a 5), .ref (a 6), .ref (a 7), .ref (a 8), .int (nI (M.S.n)), .int (nI (M.S.ar)), .int (nI (M.k)), .int (nI (M.fz)), .ref (a 9), .ref (a 10), .ref (a 11), .ref (a 12)])), ((a 1), .inl (gJ g, 32, .inr (.inl M.cs))), ((a 2), .inl (gI g, 2001, .inl M.S.kd)), ((a 3), .inl (gI g, 2001, .inl M.S.un)), ((a 4), .inl (gI g, 2001, .inl M.S.ce)), ((a 5), .inl (gI g, 2001, .inl M.S.tn)), ((a 6), .inl (gJ g, 2001, .inr (.inl M.S.bf))), ((a 7), .inl (gJ g, 2001, .inr (.inl M.S.af))), ((a 8), .inl (gZ g, 2001, .inl M.S.bk)), ((a 9), .inl (gJ g, 672, .inr (.inl M.kp))), ((a 10), .inl (gI g, 21, .inl M.st)), ((a 11), .inl (gI g, 21, .inl M.en)), ((a 12), .inl (gZ g, 21, .inl M.sp))]) s.heap := hP
  refine lv_iconst (v := 0) hx hb dX4_synced_0 (by decide) ?_
  refine lv_istore_n (lv' := [(1, .int 0), (0, .ref (a 0))]) hx hb dX4_synced_1 rfl hl (by decide) rfl (fun ls hl => ?_)
  refine lv_iconst (v := 1) hx hb dX4_synced_2 (by decide) ?_
  refine lv_istore_n (lv' := [(2, .int 1), (1, .int 0), (0, .ref (a 0))]) hx hb dX4_synced_3 rfl hl (by decide) rfl (fun ls hl => ?_)
  obtain ⟨i, hi⟩ : ∃ i : Nat, i = 1 := ⟨_, rfl⟩
  replace hl : lv_has ls 3 [(0, .ref (a 0)), (1, .int (nI (snO M.S (i - 1)))), (2, .int (nI (i)))] := by subst hi; exact lv_sub hl [2, 1, 0] rfl
  have hi1 : 1 ≤ i := by omega
  have hi2 : i ≤ M.S.n + 1 := by omega
  clear hi
  obtain ⟨d, hd⟩ : ∃ d, M.S.n + 1 - i = d := ⟨_, rfl⟩
  induction d using Nat.strongRecOn generalizing i ls with
  | ind d ih =>
    refine lv_iload_n hx hb dX4_synced_4 rfl (lv_at hl 2 rfl) ?_
    refine lv_aload_n hx hb dX4_synced_5 rfl (lv_at hl 0 rfl) ?_
    refine va_get (D := gD g) (ci := 6) (v := .int (nI (M.S.n))) (C := RX4) (T := TX4) (N := 18) hx hb hts (by decide +kernel) hown hK.1 hP 0 rfl rfl 10 (by decide) (hts (.fieldLink RX4 55 "LogForwardModel" "rows" "I") (by decide +kernel)) (fun _ h9 => h9) rfl dX4_synced_6 ?_
    refine lv_icmp_gt (tgt := 36) hx hb dX4_synced_9 (by decide) (fun c_9_2 => ?_) (fun c_9_2 => ?_)
    · have i_9 : (((M.S.n : Nat) : Int) : Int) < ((i : Nat) : Int) := q_lt c_9_2 (l_nI (by omega)) (l_nI (by omega))
      refine lv_iload_n hx hb dX4_synced_36 rfl (lv_at hl 1 rfl) ?_
      exact W.iret (v := (nI (snO M.S (i - 1)))) hx hb hr (fun tz htz hWz => ⟨(nI (snO M.S (i - 1))), rfl, (by rw [show i - 1 = M.S.n by omega]), htz⟩) (fun _ h => nomatch h) dX4_synced_37
    · have i_9 : (((i : Nat) : Int) : Int) ≤ ((M.S.n : Nat) : Int) := q_nlt c_9_2 (l_nI (by omega)) (l_nI (by omega))
      refine lv_iload_n hx hb dX4_synced_12 rfl (lv_at hl 1 rfl) ?_
      refine lv_aload_n hx hb dX4_synced_13 rfl (lv_at hl 0 rfl) ?_
      refine va_get (D := gD g) (ci := 6) (v := .ref (a 2)) (C := RX4) (T := TX4) (N := 18) hx hb hts (by decide +kernel) hown hK.1 hP 0 rfl rfl 3 (by decide) (hts (.fieldLink RX4 13 "LogForwardModel" "kinds" "[I") (by decide +kernel)) (fun _ h9 => h9) rfl dX4_synced_14 ?_
      refine lv_iload_n hx hb dX4_synced_17 rfl (lv_at hl 2 rfl) ?_
      refine ga_iald (v := (M.S.kd i)) hx hb hK.1 hP 2 0 rfl rfl (v_nI (by omega) (by omega)) (by rw [(c_nI (by omega))]) dX4_synced_18 ?_
      refine lv_iconst (v := 1) hx hb dX4_synced_19 (by decide) ?_
      refine lv_icmp_ne (tgt := 27) hx hb dX4_synced_20 (by decide) (fun c_20_3 => ?_) (fun c_20_3 => ?_)
      · have i_20 : ((M.S.kd i).toInt : Int) ≠ 1 := q_ne c_20_3 rfl rfl
        refine lv_iconst (v := 0) hx hb dX4_synced_27 (by decide) ?_
        refine ga_iadd (v := (nI (snO M.S (i - 1)))) hx hb (Int32.add_zero _) dX4_synced_28 ?_
        refine lv_istore_n (lv' := [(1, .int (nI (snO M.S (i - 1)))), (0, .ref (a 0)), (2, .int (nI (i)))]) hx hb dX4_synced_29 rfl hl (by decide) rfl (fun ls hl => ?_)
        refine lv_iinc (v := (nI (i + 1))) (lv' := [(2, .int (nI (i + 1))), (1, .int (nI (snO M.S (i - 1)))), (0, .ref (a 0))]) hx hb dX4_synced_30 hl (k := 2) rfl (nI_1 _) (by decide) rfl (fun ls hl => ?_)
        refine lv_goto (tgt := 4) hx hb dX4_synced_33 (by decide) ?_
        exact ih (M.S.n + 1 - (i + 1)) (by omega) ls (i + 1) (by rw [Nat.add_sub_cancel]; rw [show snO M.S i = snO M.S (i - 1) from by obtain ⟨j, rfl⟩ : ∃ j, i = j + 1 := ⟨i - 1, by omega⟩; simp only [snO, Nat.add_sub_cancel]; first | rw [if_pos (by assumption)] | rw [if_neg (by assumption)]]; exact lv_sub hl [2, 1, 0] rfl) (by omega) (by omega) rfl
      · have i_20 : ((M.S.kd i).toInt : Int) = 1 := q_eq c_20_3 rfl rfl
        refine lv_iconst (v := 1) hx hb dX4_synced_23 (by decide) ?_
        refine lv_goto (tgt := 28) hx hb dX4_synced_24 (by decide) ?_
        refine ga_iadd (v := (nI (snO M.S (i - 1) + 1))) hx hb (nI_1 _) dX4_synced_28 ?_
        refine lv_istore_n (lv' := [(1, .int (nI (snO M.S (i - 1) + 1))), (0, .ref (a 0)), (2, .int (nI (i)))]) hx hb dX4_synced_29 rfl hl (by decide) rfl (fun ls hl => ?_)
        refine lv_iinc (v := (nI (i + 1))) (lv' := [(2, .int (nI (i + 1))), (1, .int (nI (snO M.S (i - 1) + 1))), (0, .ref (a 0))]) hx hb dX4_synced_30 hl (k := 2) rfl (nI_1 _) (by decide) rfl (fun ls hl => ?_)
        refine lv_goto (tgt := 4) hx hb dX4_synced_33 (by decide) ?_
        exact ih (M.S.n + 1 - (i + 1)) (by omega) ls (i + 1) (by rw [Nat.add_sub_cancel]; rw [show snO M.S i = snO M.S (i - 1) + 1 from by obtain ⟨j, rfl⟩ : ∃ j, i = j + 1 := ⟨i - 1, by omega⟩; simp only [snO, Nat.add_sub_cancel]; first | rw [if_pos (by assumption)] | rw [if_neg (by assumption)]]; exact lv_sub hl [2, 1, 0] rfl) (by omega) (by omega) rfl
