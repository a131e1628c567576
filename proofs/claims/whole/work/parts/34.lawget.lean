/-! the law's own methods: cell, get, at -/
theorem me_ofWH {l : Launch} {y : MethodName} {ws ws' : List Cond} {rm : Room} {Pc : Array Value → State → Prop} {Qc : Array Value → State → Outcome → State → Prop} {mc ms : Nat} {free : Addr → Prop} {cc : ByteArray} {maxL : Nat} {ret : Option FieldType} {hh : List (Nat × Nat × Nat × Nat)}
    (hy : plainName y.cls = true) (hw : ws = Cond.codeWith y cc maxL ret hh :: ws')
    (body : ∀ p e s m args below meth c s₁, BodyLoose p l y (headSpec ws rm) cc maxL ret e s m args below meth c s₁ → c.maxLocals = maxL → Pc args s →
      W p l e (headSpec ws rm).room s m args below meth c s.heap [] 0 0 (MQ below Qc args s mc ms free) (entryFrame m args maxL)) : Met l y ws rm Pc Qc mc ms free := by
  refine MetFree.of_bodyS (code := cc) (maxLocals := maxL) (ret := ret) hy ?_ ?_
  · intro args s m h hn
    obtain ⟨m9, meth, c, hn9, h1, h2, h3, h4, -, h5, h6, -⟩ := Cond.codeWith_spec (atoms_spec (ws := ws) h _ (by rw [hw]; exact List.mem_cons_self))
    cases hn.symm.trans hn9
    exact ⟨meth, c, h1, h2, h3, h4, h5, h6⟩
  · intro p e s m args below meth c s₁ B hml hP _
    have hh0 : s₁.heap = s.heap := by rw [B.state]; rfl
    obtain ⟨t, a1, o, b1, b2, b3⟩ := body p e s m args below meth c s₁ B hml hP s₁ hh0 (Stand.of_body B)
    exact ⟨t, o, a1, b1, b2, ⟨b3.1, b3.2⟩⟩
/-- the script's first int, or 0 -/
def ceL (L : Nat) (xs : Nat → Int32) : Int32 := if L = 0 then 0 else xs 0
/-- a start that reads the script -/
def Ps (b L : Nat) (xs : Nat → Int32) : State → Prop := fun U => va_X b L xs U U.heap
theorem fb_s {av : List Value} {b L : Nat} {xs : Nat → Int32} : FrameBlind (va_Pc av (Ps b L xs)) := fun _ U _ _ q => ⟨q.1, va_X.moved (u := U) (Vm.Alike.refl U.vm) q.2⟩
theorem ps_s {s : State} {H : Heap} {b L : Nat} {xs : Nat → Int32} {As : List Value} (hX : va_X b L xs s H) : PreS s H (va_Pc As (Ps b L xs)) As :=
  ⟨fb_s, fun U hU hW => ⟨rfl, by unfold Ps; rw [hU]; exact va_X.moved hW.alike hX⟩⟩
set_option maxHeartbeats 1000000 in
theorem c_L_cell (l : Launch) (b L : Nat) (xs : Nat → Int32) (hL : L ≤ 2000000) : Met l yL_cell wsL_cell { frames := 0, cells := 0, slots := 0, locals := 0 } (va_Pc [.ref b, .int 0] (Ps b L xs)) (vp_Si (fun rv => rv = ceL L xs)) 0 0 (fun _ => False) := by
  refine Met.ofW (cc := cL_cell) (maxL := 2) (ret := (some .int)) (by decide) rfl ?_
  intro p e s m args below meth c s₁ B hml hv
  obtain ⟨rfl, hX⟩ := hv
  have hX : va_X b L xs s s.heap := hX
  have hbl : b < s.heap.size := by obtain ⟨scr, h1, -⟩ := hX; exact (Array.getElem?_eq_some_iff.mp h1).1
  have hx := B.exec
  have hb := B.bytes
  have hr := B.returns
  have hS : va_S (fun _ : Nat => False) s.heap s.heap [] := va_S.rf
  have hl := lv_entry ([.ref b, .int 0]) (n := 2) (Nat.le_of_ble_eq_true rfl)
  rw [lg_entry_eq]
  generalize (lg_sl ([.ref b, .int 0]) ++ List.replicate (2 - (lg_sl ([.ref b, .int 0])).length) Slot.unset).toArray = ls at hl ⊢
  have hl : lv_has ls 2 [(0, .ref b), (1, .int 0)] := hl
  refine lv_iload_n hx hb dL_cell_0 rfl (lv_at hl 1 rfl) ?_
  refine lv_aload_n hx hb dL_cell_1 rfl (lv_at hl 0 rfl) ?_
  refine va_slen hx hb hX hbl (fun h => h) hS dL_cell_2 ?_
  refine lv_icmp_ge (tgt := 12) hx hb dL_cell_3 (by decide) (fun c1 => ?_) (fun c1 => ?_)
  · have i1 : (L : Int) ≤ 0 := q_le c1 (l_nI hL) rfl
    refine lv_iconst (v := 0) hx hb dL_cell_12 (by decide) ?_
    exact W.iret (v := 0) hx hb hr (fun tz htz hWz => ⟨0, rfl, by unfold ceL; rw [if_pos (by omega)], htz⟩) (fun _ h => nomatch h) dL_cell_13
  · have i1 : (0 : Int) < (L : Int) := q_nle c1 (l_nI hL) rfl
    refine lv_aload_n hx hb dL_cell_6 rfl (lv_at hl 0 rfl) ?_
    refine lv_iload_n hx hb dL_cell_7 rfl (lv_at hl 1 rfl) ?_
    refine va_sld hx hb hX hbl (fun h => h) hS (v_p (by decide) i1) dL_cell_8 ?_
    refine lv_goto (tgt := 13) hx hb dL_cell_9 (by decide) ?_
    exact W.iret (v := xs 0) hx hb hr (fun tz htz hWz => ⟨xs 0, rfl, by unfold ceL; rw [if_neg (by omega)], htz⟩) (fun _ h => nomatch h) dL_cell_13
/-- the array that the law lays an answer into -/
abbrev wO (g : GG) (o : Nat) (f : Nat → Int64) : va_W := [(o, .inl (gJ g, 1, .inr (.inl f)))]
/-- a start that writes, and may call what throws -/
def PwE (g : GG) (ws : va_W) (sz : Nat) : State → Prop := fun U => Pw g ws sz U ∧ XK U ∧ XZ (fun _ => False) U U.heap
theorem fb_e {g : GG} {av : List Value} {ws : va_W} {sz : Nat} : FrameBlind (va_Pc av (PwE g ws sz)) := fun _ U _ _ q => ⟨q.1, ⟨q.2.1.1, q.2.1.2.1, KK.same (u := U) rfl q.2.1.2.2.1, q.2.1.2.2.2⟩, XK.same (u := U) rfl q.2.2.1, XZ.moved (u := U) (Vm.Alike.refl U.vm) q.2.2.2⟩
theorem pv_x {g : GG} {s : State} {H : Heap} {ws wc : va_W} {b q0 ci : Nat} {q : vw_C} {fs : List Value} {As : List Value} (hK : KK g s) (hXK : XK s) (hXZ : XZ (fun _ => False) s H) (hP : va_P (gD g) vwCl ws H) (hc : vwCl[ci]? = some q) (he : ws[q0]? = some (b, .inr (ci, fs))) (is : List Nat) (hs : is.filterMap (fun i => ws[i]?) = wc) : PreV s H q.1 b (va_Pc (.ref b :: As) (Px g wc)) As :=
  ⟨fb_x, va_recv hK.1 hP hc he, fun U hU hW => ⟨rfl, ⟨by rw [hU]; exact hP.sub is hs, hK.warm hW⟩, hXK.warm hW, by rw [hU]; exact XZ.moved hW.alike hXZ⟩⟩
theorem ps_x {g : GG} {s : State} {H : Heap} {wc : va_W} {As : List Value} {A : Nat → Prop} (hK : KK g s) (hXK : XK s) (hXZ : XZ A s H) (hPc : va_P (gD g) vwCl wc H) (hDc : va_D A wc) : PreS s H (va_Pc As (PwE g wc H.size)) As :=
  ⟨fb_e, fun U hU hW => ⟨rfl, ⟨by rw [hU], by rw [hU]; exact hPc, hK.warm hW, hDc.weaken (fun _ _ _ _ => trivial)⟩, hXK.warm hW, by rw [hU]; exact XZ.moved hW.alike (hXZ.narrow (fun _ z => z.elim))⟩⟩
theorem hP_kept {g : GG} {ws : va_W} {H H1 : Heap} (hP : va_P (gD g) vwCl ws H) (hk : ∀ q : Nat, q < H.size → ¬ (fun _ : Nat => False) q → H1[q]? = H[q]?) : va_P (gD g) vwCl ws H1 := hP.kept (fun k x hx => hk x.1 ((hP k x hx).lt) (fun z => z))
set_option maxHeartbeats 1000000 in
set_option maxRecDepth 100000 in
theorem c_L_get (l : Launch) (hst : l.stackTraces = false) (g : GG) (a r : Nat → Nat) (X : XS) (o : Nat) (f : Nat → Int64) (sz : Nat) (p1 : Int32) : Met l yL_get wsL_get { frames := 7, cells := 1, slots := 6, locals := 103 } (va_Pc [.ref (a 0), .int p1, .ref o] (PwE g (wXc g a r X ++ wO g o f) sz)) (va_Qi (fun rv u => (okC p1 ∧ rv = 0 ∧ u = vp_updL f 0 (X.cs p1.toNatClampNeg)) ∨ (¬ okC p1 ∧ rv = 1 ∧ u = f)) (Bw g (va_A (wXc g a r X ++ wO g o f) sz) (fun u : Nat → Int64 => wXc g a r X ++ wO g o u)) (va_A (wXc g a r X ++ wO g o f) sz)) 1 6 (va_A (wXc g a r X ++ wO g o f) sz) := by
  refine me_ofWH (ws := wsL_get) (cc := cL_get) (maxL := 4) (ret := (some .int)) (by decide) rfl ?_
  intro p e s m args below meth c s₁ B hml hv
  obtain ⟨rfl, ⟨hsz, hP, hK, hD0⟩, hXK, hXZ⟩ := hv
  have hx := B.exec
  have hb := B.bytes
  have hr := B.returns
  have hts := atoms_spec (ws := wsL_get) B.pre
  have hown : s.vm.findClass RL = some m.cls := findClass_of_methodNamed B.named
  have htb := vx_table (x := yL_get) B (hts _ List.mem_cons_self)
  subst hsz
  have hD := hD0.self (sz := s.heap.size)
  generalize hAe : va_A (wXc g a r X ++ wO g o f) s.heap.size = A at hD ⊢
  have hA : ∀ q : Nat, s.heap.size ≤ q → A q := fun q h => by rw [← hAe]; exact Or.inr h
  have hS : va_S A s.heap s.heap [] := va_S.rf
  have hl := lv_entry ([.ref (a 0), .int p1, .ref o]) (n := 4) (Nat.le_of_ble_eq_true rfl)
  rw [lg_entry_eq]
  generalize (lg_sl ([.ref (a 0), .int p1, .ref o]) ++ List.replicate (4 - (lg_sl ([.ref (a 0), .int p1, .ref o])).length) Slot.unset).toArray = ls at hl ⊢
  have hl : lv_has ls 4 [(0, .ref (a 0)), (1, .int p1), (2, .ref o)] := hl
  refine lv_aload_n hx hb dL_get_0 rfl (lv_at hl 2 rfl) ?_
  refine lv_iconst (v := 0) hx hb dL_get_1 (by decide) ?_
  refine lv_aload_n hx hb dL_get_2 rfl (lv_at hl 0 rfl) ?_
  refine lv_iload_n hx hb dL_get_3 rfl (lv_at hl 1 rfl) ?_
  refine vx_calll (vx_runV (As := [.int p1]) (rest := [.int 0, .ref o]) ⟨hx, hb, hml, hown, hts⟩ (c_X3_get l hst g a r X p1) (cwV 1 hts gL_get_X3_get rfl rfl rfl (by decide +kernel) ⟨Nat.le_of_ble_eq_true rfl, Nat.le_of_ble_eq_true rfl⟩) (pv_x hK hXK hXZ hP (ci := 5) (q0 := 0) rfl rfl [0, 1, 2, 3, 4, 5, 6, 7, 8, 9, 10, 11, 12, 13, 14, 15, 16, 17, 18, 19, 20] rfl) rfl rfl hl.1 rfl (lv_room (Nat.le_of_ble_eq_true rfl)) dL_get_4 ⟨Nat.le_of_ble_eq_true rfl, Nat.le_of_ble_eq_true rfl⟩) hS (fun q _ h => h.elim) (fun q h => h.elim) (fun q _ h => h.elim) (fun E ce q9 u t H1 locs1 ht hvm hp hbx hz hk hS1 hce hcv hcl => ?_) (fun rv u t H1 locs1 ht hvm hp hb1 hz hk hS1 => ?_)
  · subst hbx
    have hP1 := hP_kept hP hk
    refine vx_catch (own := RL) (name := iaN) (E := iaN) hown [] (⟨0, 8, 11, 13⟩ : ExceptionTableEntry) [] htb (fun _ h => nomatch h) rfl (by decide) (hts (.classLink RL 13 iaN) (by decide +kernel)) (hXK.use _ xc_ia) hce hcv hcl ?_
    refine W.eq (g2 := F0 m 11 ls [.ref q9]) rfl ?_
    refine lv_astore_n (lv' := [(3, .ref q9), (0, .ref (a 0)), (1, .int p1), (2, .ref o)]) hx hb dL_get_11 rfl hl (by decide) rfl (fun ls hl => ?_)
    refine lv_iconst (v := 1) hx hb dL_get_12 (by decide) ?_
    exact W.iret (v := 1) hx hb hr (fun tz htz hWz => ⟨⟨1, f, rfl, Or.inr ⟨hp, rfl, rfl⟩, by rw [htz]; exact hP1, hD⟩, hS1.F htz⟩) hS1.2.2 dL_get_13
  · have hP1 := hP_kept hP hk
    refine ga_last (j := 0) hx hb hK.1 hP1 hD hS1 21 1 rfl rfl (v_p (by decide) (by decide)) rfl dL_get_7 (fun H locs hP hD hS => ?_)
    have hP : va_P (gD g) vwCl (wXc g a r X ++ wO g o (vp_updL f 0 rv)) H := hP
    have hD : va_D A (wXc g a r X ++ wO g o (vp_updL f 0 rv)) := hD
    refine lv_goto (tgt := 14) hx hb dL_get_8 (by decide) ?_
    refine lv_iconst (v := 0) hx hb dL_get_14 (by decide) ?_
    exact W.iret (v := 0) hx hb hr (fun tz htz hWz => ⟨⟨0, vp_updL f 0 rv, rfl, Or.inl ⟨hp.1, rfl, by rw [hp.2]⟩, by rw [htz]; exact hP, hD⟩, hS.F htz⟩) hS.2.2 dL_get_15
def wsL_atx : List Cond := wsL_at ++ xwE
set_option maxHeartbeats 1000000 in
set_option maxRecDepth 100000 in
theorem c_L_at (l : Launch) (hst : l.stackTraces = false) (g : GG) (a r : Nat → Nat) (X : XS) (o : Nat) (f : Nat → Int64) (sz : Nat) (p1 p2 : Int32) (hn : X.S.n ≤ 2000) : Met l yL_at wsL_atx { frames := 8, cells := 1, slots := 6, locals := 117 } (va_Pc [.ref (a 0), .int p1, .int p2, .ref o] (PwE g (wXc g a r X ++ wO g o f) sz)) (va_Qi (fun rv u => (okA X.S p1 p2 ∧ rv = 0 ∧ u = vp_updL f 0 (teR X.S p1.toNatClampNeg p2.toNatClampNeg).toInt64) ∨ (¬ okA X.S p1 p2 ∧ rv = 1 ∧ u = f)) (Bw g (va_A (wXc g a r X ++ wO g o f) sz) (fun u : Nat → Int64 => wXc g a r X ++ wO g o u)) (va_A (wXc g a r X ++ wO g o f) sz)) 1 6 (va_A (wXc g a r X ++ wO g o f) sz) := by
  refine me_ofWH (ws := wsL_atx) (cc := cL_at) (maxL := 5) (ret := (some .int)) (by decide) rfl ?_
  intro p e s m args below meth c s₁ B hml hv
  obtain ⟨rfl, ⟨hsz, hP, hK, hD0⟩, hXK, hXZ⟩ := hv
  have hx := B.exec
  have hb := B.bytes
  have hr := B.returns
  have hts := atoms_spec (ws := wsL_atx) B.pre
  have hown : s.vm.findClass RL = some m.cls := findClass_of_methodNamed B.named
  have htb := vx_table (x := yL_at) B (hts _ List.mem_cons_self)
  subst hsz
  have hD := hD0.self (sz := s.heap.size)
  generalize hAe : va_A (wXc g a r X ++ wO g o f) s.heap.size = A at hD ⊢
  have hA : ∀ q : Nat, s.heap.size ≤ q → A q := fun q h => by rw [← hAe]; exact Or.inr h
  have hS : va_S A s.heap s.heap [] := va_S.rf
  have hl := lv_entry ([.ref (a 0), .int p1, .int p2, .ref o]) (n := 5) (Nat.le_of_ble_eq_true rfl)
  rw [lg_entry_eq]
  generalize (lg_sl ([.ref (a 0), .int p1, .int p2, .ref o]) ++ List.replicate (5 - (lg_sl ([.ref (a 0), .int p1, .int p2, .ref o])).length) Slot.unset).toArray = ls at hl ⊢
  have hl : lv_has ls 5 [(0, .ref (a 0)), (1, .int p1), (2, .int p2), (3, .ref o)] := hl
  refine lv_aload_n hx hb dL_at_0 rfl (lv_at hl 3 rfl) ?_
  refine lv_iconst (v := 0) hx hb dL_at_1 (by decide) ?_
  refine lv_aload_n hx hb dL_at_2 rfl (lv_at hl 0 rfl) ?_
  refine lv_iload_n hx hb dL_at_3 rfl (lv_at hl 1 rfl) ?_
  refine lv_iload_n hx hb dL_at_4 rfl (lv_at hl 2 rfl) ?_
  refine vx_calli (vx_runV (As := [.int p1, .int p2]) (rest := [.int 0, .ref o]) ⟨hx, hb, hml, hown, hts⟩ (c_X3_at l hst g a r X p1 p2 hn) (cwV 2 hts (gi_V xwE_good gL_at_X3_at) rfl rfl rfl (by decide +kernel) ⟨Nat.le_of_ble_eq_true rfl, Nat.le_of_ble_eq_true rfl⟩) (pv_x hK hXK hXZ hP (ci := 5) (q0 := 0) rfl rfl [0, 1, 2, 3, 4, 5, 6, 7, 8, 9, 10, 11, 12, 13, 14, 15, 16, 17, 18, 19, 20] rfl) rfl rfl hl.1 rfl (lv_room (Nat.le_of_ble_eq_true rfl)) dL_at_5 ⟨Nat.le_of_ble_eq_true rfl, Nat.le_of_ble_eq_true rfl⟩) hS (fun q _ h => h.elim) (fun q h => h.elim) (fun q _ h => h.elim) (fun E ce q9 u t H1 locs1 ht hvm hp hbx hz hk hS1 hce hcv hcl => ?_) (fun rv u t H1 locs1 ht hvm hp hb1 hz hk hS1 => ?_)
  · subst hbx
    have hP1 := hP_kept hP hk
    refine vx_catch (own := RL) (name := aoN) (E := aoN) hown [] (⟨0, 10, 13, 19⟩ : ExceptionTableEntry) [] htb (fun _ h => nomatch h) rfl (by decide) (hts (.classLink RL 19 aoN) (by decide +kernel)) (hXK.use _ xc_ao) hce hcv hcl ?_
    refine W.eq (g2 := F0 m 13 ls [.ref q9]) rfl ?_
    refine lv_astore (lv' := [(4, .ref q9), (0, .ref (a 0)), (1, .int p1), (2, .int p2), (3, .ref o)]) hx hb dL_at_13 hl (by decide) rfl (fun ls hl => ?_)
    refine lv_iconst (v := 1) hx hb dL_at_15 (by decide) ?_
    exact W.iret (v := 1) hx hb hr (fun tz htz hWz => ⟨⟨1, f, rfl, Or.inr ⟨hp, rfl, rfl⟩, by rw [htz]; exact hP1, hD⟩, hS1.F htz⟩) hS1.2.2 dL_at_16
  · have hP1 := hP_kept hP hk
    refine lv_i2l (v := rv.toInt64) hx hb dL_at_8 rfl ?_
    refine ga_last (j := 0) hx hb hK.1 hP1 hD hS1 21 1 rfl rfl (v_p (by decide) (by decide)) rfl dL_at_9 (fun H locs hP hD hS => ?_)
    have hP : va_P (gD g) vwCl (wXc g a r X ++ wO g o (vp_updL f 0 rv.toInt64)) H := hP
    have hD : va_D A (wXc g a r X ++ wO g o (vp_updL f 0 rv.toInt64)) := hD
    refine lv_goto (tgt := 17) hx hb dL_at_10 (by decide) ?_
    refine lv_iconst (v := 0) hx hb dL_at_17 (by decide) ?_
    exact W.iret (v := 0) hx hb hr (fun tz htz hWz => ⟨⟨0, vp_updL f 0 rv.toInt64, rfl, Or.inl ⟨hp.1, rfl, by rw [hp.2]⟩, by rw [htz]; exact hP, hD⟩, hS.F htz⟩) hS.2.2 dL_at_18
