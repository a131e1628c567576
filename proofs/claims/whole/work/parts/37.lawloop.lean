set_option maxHeartbeats 1000000 in
set_option maxRecDepth 100000 in
/-- THE LAW'S LOOP -/
theorem law_loop {p : Program} {l : Launch} {e : Env} {s : State} {m : MethodId} {below : List Frame} {meth : Method} {c : Code} {b0 L : Nat} {xs : Nat → Int32} {g : GG} {a r b : Nat → Nat} {o : Nat} (C0 : lw_At p s m meth c b0 L xs) (hst : l.stackTraces = false) (hL : L ≤ 3585) (hK : KK g s) (hXK : XK s) (hXZ : XZ (fun q : Nat => s.heap.size ≤ q) s s.heap) :
    ∀ (d i k n : Nat), L + 8 ≤ i + 7 * d → i ≤ L + 7 → k ≤ 56 + i → n ≤ 30000 + 6 * i → AtH p l e s m below meth c b0 g a r b o i k n 33 := by
  obtain ⟨hx, hb, hr, hml, hown, hts0, hX, hbl, hlocks, hgv⟩ := id C0
  have hbA : ¬ (fun q : Nat => s.heap.size ≤ q) b0 := Nat.not_le.mpr hbl
  intro d
  induction d with
  | zero =>
    intro i k n h1 h2
    exact absurd h1 (by omega)
  | succ d ih =>
    intro i k n hd hi hk hn X M f H locs ls hSI hP hD hS hl
    refine lv_iload hx hb dL_law_33 (lv_at hl 4 rfl) ?_
    refine lv_aload_n hx hb dL_law_35 rfl (lv_at hl 0 rfl) ?_
    refine va_slen hx hb hX hbl hbA hS dL_law_36 ?_
    refine lv_bipush (v := 7) hx hb dL_law_37 (by decide) ?_
    refine ga_isub (v := Int32.ofNat L - 7) hx hb rfl dL_law_39 ?_
    refine lv_icmp_gt (tgt := 711) hx hb dL_law_40 (by decide) (fun cg => ?_) (fun cg => ?_)
    · refine lv_iconst (v := 1) hx hb dL_law_711 (by decide) ?_
      refine va_forget (fun q hq => hS.2.2 q hq) ?_
      refine W.widen (k := 603072) (n := 7218912) (by omega) (by omega) ?_
      exact lw_ret hx hb hr hlocks dL_law_712
    · have hi7 : i + 7 ≤ L := by
        have z := q_nlt cg (len7 (by omega)) (l_nI (n := i) (by omega))
        omega
      refine lv_aload_n hx hb dL_law_43 rfl (lv_at hl 0 rfl) ?_
      refine lv_iload hx hb dL_law_44 (lv_at hl 4 rfl) ?_
      refine va_sld hx hb hX hbl hbA hS (vp_in_nI (by omega) (by omega)) dL_law_46 ?_
      refine lv_bipush (v := 15) hx hb dL_law_47 (by decide) ?_
      refine lv_iand hx hb dL_law_49 ?_
      have K : AtH p l e s m below meth c b0 g a r b o i (k + 1) (n + 6) 705 := by
        intro X M f H locs ls hSI hP hD hS hl
        refine lv_iinc (v := nI (i + 7)) (lv' := [(4, .int (nI (i + 7))), (0, .ref b0), (1, .ref (a 0)), (2, .ref (b 0)), (3, .ref o)]) hx hb dL_law_705 hl (k := 4) rfl (nI_add i 7) (by decide) rfl (fun ls hl => ?_)
        refine lv_goto (tgt := 33) hx hb dL_law_708 (by decide) ?_
        exact ih (i + 7) (k + 1) (n + 6) (by omega) (by omega) (by omega) (by omega) X M f H locs ls hSI hP hD hS (lv_sub hl [1, 2, 3, 4, 0] rfl)
      obtain ⟨z, hz, ez⟩ := and15 (xs (nI i).toNatClampNeg)
      rw [ez]
      rcases (show z = 0 ∨ z = 1 ∨ z = 2 ∨ z = 3 ∨ z = 4 ∨ z = 5 ∨ z = 6 ∨ z = 7 ∨ z = 8 ∨ z = 9 ∨ z = 10 ∨ z = 11 ∨ z = 12 ∨ z = 13 ∨ z = 14 ∨ z = 15 by omega) with rfl | rfl | rfl | rfl | rfl | rfl | rfl | rfl | rfl | rfl | rfl | rfl | rfl | rfl | rfl | rfl
      · exact lv_tableIn (off := 70) (tgt := 120) hx hb dL_law_50 (by decide) (by decide) (by decide +kernel) (by decide) (law_120 C0 hst hL hK hXK hXZ hi7 (by omega) (by omega) K X M f H locs ls hSI hP hD hS hl)
      · exact lv_tableIn (off := 197) (tgt := 247) hx hb dL_law_50 (by decide) (by decide) (by decide +kernel) (by decide) (law_247 C0 hst hL hK hXK hXZ hi7 (by omega) (by omega) K X M f H locs ls hSI hP hD hS hl)
      · exact lv_tableIn (off := 222) (tgt := 272) hx hb dL_law_50 (by decide) (by decide) (by decide +kernel) (by decide) (law_272 C0 hst hL hK hXK hXZ hi7 (by omega) (by omega) K X M f H locs ls hSI hP hD hS hl)
      · exact lv_tableIn (off := 263) (tgt := 313) hx hb dL_law_50 (by decide) (by decide) (by decide +kernel) (by decide) (law_313 C0 hst hL hK hXK hXZ hi7 (by omega) (by omega) K X M f H locs ls hSI hP hD hS hl)
      · exact lv_tableIn (off := 332) (tgt := 382) hx hb dL_law_50 (by decide) (by decide) (by decide +kernel) (by decide) (law_382 C0 hst hL hK hXK hXZ hi7 (by omega) (by omega) K X M f H locs ls hSI hP hD hS hl)
      · exact lv_tableIn (off := 387) (tgt := 437) hx hb dL_law_50 (by decide) (by decide) (by decide +kernel) (by decide) (law_437 C0 hst hL hK hXK hXZ hi7 (by omega) (by omega) K X M f H locs ls hSI hP hD hS hl)
      · exact lv_tableIn (off := 412) (tgt := 462) hx hb dL_law_50 (by decide) (by decide) (by decide +kernel) (by decide) (law_462 C0 hst hL hK hXK hXZ hi7 (by omega) (by omega) K X M f H locs ls hSI hP hD hS hl)
      · exact lv_tableIn (off := 449) (tgt := 499) hx hb dL_law_50 (by decide) (by decide) (by decide +kernel) (by decide) (law_499 C0 hst hL hK hXK hXZ hi7 (by omega) (by omega) K X M f H locs ls hSI hP hD hS hl)
      · exact lv_tableIn (off := 474) (tgt := 524) hx hb dL_law_50 (by decide) (by decide) (by decide +kernel) (by decide) (law_524 C0 hst hL hK hXK hXZ hi7 (by omega) (by omega) K X M f H locs ls hSI hP hD hS hl)
      · exact lv_tableIn (off := 499) (tgt := 549) hx hb dL_law_50 (by decide) (by decide) (by decide +kernel) (by decide) (law_549 C0 hst hL hK hXK hXZ hi7 (by omega) (by omega) K X M f H locs ls hSI hP hD hS hl)
      · exact lv_tableIn (off := 536) (tgt := 586) hx hb dL_law_50 (by decide) (by decide) (by decide +kernel) (by decide) (law_586 C0 hst hL hK hXK hXZ hi7 (by omega) (by omega) K X M f H locs ls hSI hP hD hS hl)
      · exact lv_tableIn (off := 604) (tgt := 654) hx hb dL_law_50 (by decide) (by decide) (by decide +kernel) (by decide) (law_654 C0 hst hL hK hXK hXZ hi7 (by omega) (by omega) K X M f H locs ls hSI hP hD hS hl)
      · exact lv_tableIn (off := 617) (tgt := 667) hx hb dL_law_50 (by decide) (by decide) (by decide +kernel) (by decide) (law_667 C0 hst hL hK hXK hXZ hi7 (by omega) (by omega) K X M f H locs ls hSI hP hD hS hl)
      · exact lv_tableIn (off := 630) (tgt := 680) hx hb dL_law_50 (by decide) (by decide) (by decide +kernel) (by decide) (law_680 C0 hst hL hK hXK hXZ hi7 (by omega) (by omega) K X M f H locs ls hSI hP hD hS hl)
      · exact lv_tableOut (tgt := 705) hx hb dL_law_50 (Or.inr (by decide)) (by decide) (W.widen (k := k + 1) (n := n + 6) (Nat.le_add_right k 1) (Nat.le_add_right n 6) (K X M f H locs ls hSI hP hD hS hl))
      · exact lv_tableOut (tgt := 705) hx hb dL_law_50 (Or.inr (by decide)) (by decide) (W.widen (k := k + 1) (n := n + 6) (Nat.le_add_right k 1) (Nat.le_add_right n 6) (K X M f H locs ls hSI hP hD hS hl))
theorem ps_wX {g : GG} {s : State} {H : Heap} {wc : va_W} {As : List Value} {A : Nat → Prop} (hK : KK g s) (hAO : va_AOA .long s) (hNR : va_Nw nwR s) (hNI : va_Nw nwI s) (hPc : va_P (gD g) vwCl wc H) (hDc : va_D A wc) : PreS s H (va_Pc As (PwX g wc H.size)) As :=
  ⟨fun _ U _ _ q => ⟨q.1, ⟨⟨q.2.1.1.1, q.2.1.1.2.1, KK.same (u := U) rfl q.2.1.1.2.2.1, q.2.1.1.2.2.2⟩, va_AOA.moved (Vm.Alike.refl U.vm) q.2.1.2⟩, va_Nw.same (u := U) rfl rfl q.2.2.1, va_Nw.same (u := U) rfl rfl q.2.2.2⟩, fun U hU hW => ⟨rfl, ⟨⟨by rw [hU], by rw [hU]; exact hPc, hK.warm hW, hDc.weaken (fun _ _ _ _ => trivial)⟩, va_AOA.moved hW.alike hAO⟩, va_Nw.warmM hW hNR, va_Nw.warmM hW hNI⟩⟩
set_option maxHeartbeats 1000000 in
set_option maxRecDepth 100000 in
/-- THE LAW, from its entry, with what the tables give -/
theorem law_start {p : Program} {e : Env} {s : State} {m : MethodId} {below : List Frame} {meth : Method} {c : Code} (l : Launch) (hst : l.stackTraces = false) {b0 L : Nat} {xs : Nat → Int32} (hL : L ≤ 3585) (C0 : lw_At p s m meth c b0 L xs) {g : GG} (hK : KK g s) (hAO : va_AOA .long s) (hNR : va_Nw nwR s) (hNI : va_Nw nwI s) (hXK : XK s) (hXZ : XZ (fun q : Nat => s.heap.size ≤ q) s s.heap) : W p l e room_1 s m #[Value.ref b0] below meth c s.heap [] 0 0 (lw_Z below #[Value.ref b0] s) (entryFrame m ([Value.ref b0] : List Value).toArray 8) := by
  obtain ⟨hx, hb, hr, hml, hown, hts0, hX, hbl, hlocks, hgv⟩ := id C0
  have hown : s.vm.findClass RL = some m.cls := hown
  have hts : ∀ w ∈ wsL_law, w.before #[Value.ref b0] s = true := fun w h => hts0 w (wsL_law_in w h)
  have hA : ∀ q : Nat, s.heap.size ≤ q → (fun q : Nat => s.heap.size ≤ q) q := fun _ h => h
  have hbA : ¬ (fun q : Nat => s.heap.size ≤ q) b0 := Nat.not_le.mpr hbl
  have hS : va_S (fun q : Nat => s.heap.size ≤ q) s.heap s.heap [] := va_S.rf
  have hP : va_P (gD g) vwCl [] s.heap := fun k q h => by simp at h
  have hD : va_D (fun q : Nat => s.heap.size ≤ q) [] := ⟨fun i j p q h => by simp at h, fun k q h => by simp at h⟩
  have hl := lv_entry ([.ref b0]) (n := 8) (Nat.le_of_ble_eq_true rfl)
  rw [lg_entry_eq]
  generalize (lg_sl ([.ref b0]) ++ List.replicate (8 - (lg_sl ([.ref b0])).length) Slot.unset).toArray = ls at hl ⊢
  have hl : lv_has ls 8 [(0, .ref b0)] := hl
  refine va_new (ci := 5) (fs := [.int 0, .null, .null, .null, .null, .null]) (C := RX3) (T := TX3) (N := 6) hx hb hts inlX3 tyX3 tyX3_ok hown (hts (.classLink RL 8 RX3) (by decide +kernel)) (hts (.instantiable RX3 6) (by decide +kernel)) (hts (.initialized RX3) (by decide +kernel)) hK.1 hP hD hS hA rfl (fun j hj => by rcases (show j = 0 ∨ j = 1 ∨ j = 2 ∨ j = 3 ∨ j = 4 ∨ j = 5 by omega) with rfl | rfl | rfl | rfl | rfl | rfl <;> rfl) (Nat.le_of_ble_eq_true rfl) (Nat.le_of_ble_eq_true rfl) dL_law_0 (fun x0 H hP hD hS => ?_)
  have hP : va_P (gD g) vwCl [(x0, .inr (5, [.int 0, .null, .null, .null, .null, .null]))] H := hP
  have hD : va_D (fun q : Nat => s.heap.size ≤ q) [(x0, .inr (5, [.int 0, .null, .null, .null, .null, .null]))] := hD
  refine lv_dup hx hb dL_law_3 rfl ?_
  refine lv_aload_n hx hb dL_law_4 rfl (lv_at hl 0 rfl) ?_
  refine lv_iconst (v := 0) hx hb dL_law_5 (by decide) ?_
  refine vp_callSi (va_Run.run (va_runS (As := [.ref b0, .int 0]) (rest := [.ref x0, .ref x0]) ⟨hx, hb, hml, hown, hts⟩ (c_L_cell l b0 L xs (by omega)) (cwS 2 hts gL_law_L_cell rfl rfl rfl (by decide +kernel) ⟨Nat.le_of_ble_eq_true rfl, Nat.le_of_ble_eq_true rfl⟩) (ps_s (hX.kept (hS.2.1 b0 hbl hbA))) rfl rfl hl.1 rfl (lv_room (Nat.le_of_ble_eq_true rfl)) dL_law_6 ⟨Nat.le_of_ble_eq_true rfl, Nat.le_of_ble_eq_true rfl⟩)) (fun rc hc => ?_)
  subst hc
  refine ca_v (ws := [(x0, .inr (5, [.int 0, .null, .null, .null, .null, .null]))]) (va_runI (As := [.int (ceL L xs)]) (rest := [.ref x0]) ⟨hx, hb, hml, hown, hts⟩ (c_X3_init l g x0 H.size (ceL L xs)) (cwI 1 hts gL_law_X3_init rfl rfl rfl (hts (.initialized RX3) (by decide +kernel)) (hts (.methodLink RL 27 yX3_init) (by decide +kernel)) (hts (.instanceMethod yX3_init) (by decide +kernel)) rfl (by decide +kernel) ⟨Nat.le_of_ble_eq_true rfl, Nat.le_of_ble_eq_true rfl⟩) (ps_wX hK hAO hNR hNI hP hD) rfl rfl hl.1 rfl (lv_room (Nat.le_of_ble_eq_true rfl)) dL_law_9 ⟨Nat.le_of_ble_eq_true rfl, Nat.le_of_ble_eq_true rfl⟩) hD hS hA (fun u H locs hu hP hD hS => ?_)
  obtain ⟨a, r, X⟩ := u
  obtain ⟨h0, U, V, hzU, hX0⟩ := hu
  have h0 : a 0 = x0 := h0
  have hX0 : X = (S0, U, V, I0, fun _ => 0, rgN (ceL L xs)) := hX0
  have hP : va_P (gD g) vwCl (wX g a r X) H := hP
  have hD : va_D (fun q : Nat => s.heap.size ≤ q) (wX g a r X) := hD
  refine W.eq (g2 := F0 m 12 ls [.ref (a 0)]) (congrArg (fun z => F0 m 12 ls [.ref z]) h0.symm) ?_
  refine lv_astore_n (lv' := [(1, .ref (a 0)), (0, .ref b0)]) hx hb dL_law_12 rfl hl (by decide) rfl (fun ls hl => ?_)
  refine va_new (ci := 6) (fs := [.int 0, .int 0, .null, .null, .null, .null, .null, .null, .null, .null, .int 0, .int 0, .int 0, .int 0, .null, .null, .null, .null]) (C := RX4) (T := TX4) (N := 18) hx hb hts inlX4 tyX4 tyX4_ok hown (hts (.classLink RL 30 RX4) (by decide +kernel)) (hts (.instantiable RX4 18) (by decide +kernel)) (hts (.initialized RX4) (by decide +kernel)) hK.1 hP hD hS hA rfl (fun j hj => by rcases (show j = 0 ∨ j = 1 ∨ j = 2 ∨ j = 3 ∨ j = 4 ∨ j = 5 ∨ j = 6 ∨ j = 7 ∨ j = 8 ∨ j = 9 ∨ j = 10 ∨ j = 11 ∨ j = 12 ∨ j = 13 ∨ j = 14 ∨ j = 15 ∨ j = 16 ∨ j = 17 by omega) with rfl | rfl | rfl | rfl | rfl | rfl | rfl | rfl | rfl | rfl | rfl | rfl | rfl | rfl | rfl | rfl | rfl | rfl <;> rfl) (Nat.le_of_ble_eq_true rfl) (Nat.le_of_ble_eq_true rfl) dL_law_13 (fun m0 H hP hD hS => ?_)
  replace hP := hP.sub (ws' := (wXc g a r X ++ [(m0, .inr (6, [.int 0, .int 0, .null, .null, .null, .null, .null, .null, .null, .null, .int 0, .int 0, .int 0, .int 0, .null, .null, .null, .null]))]) ++ wG g r X.I.M) [0, 1, 2, 3, 4, 5, 6, 7, 8, 9, 10, 11, 12, 13, 14, 15, 16, 17, 18, 19, 20, 42, 21, 22, 23, 24, 25, 26, 27, 28, 29, 30, 31, 32, 33, 34, 35, 36, 37, 38, 39, 40, 41] rfl
  replace hD := hD.sub (ws' := (wXc g a r X ++ [(m0, .inr (6, [.int 0, .int 0, .null, .null, .null, .null, .null, .null, .null, .null, .int 0, .int 0, .int 0, .int 0, .null, .null, .null, .null]))]) ++ wG g r X.I.M) [0, 1, 2, 3, 4, 5, 6, 7, 8, 9, 10, 11, 12, 13, 14, 15, 16, 17, 18, 19, 20, 42, 21, 22, 23, 24, 25, 26, 27, 28, 29, 30, 31, 32, 33, 34, 35, 36, 37, 38, 39, 40, 41] (by decide) rfl
  refine lv_dup hx hb dL_law_16 rfl ?_
  refine lv_aload_n hx hb dL_law_17 rfl (lv_at hl 1 rfl) ?_
  refine lv_iconst (v := 0) hx hb dL_law_18 (by decide) ?_
  refine vp_callSi (va_Run.run (va_runS (As := [.ref b0, .int 0]) (rest := [.ref m0, .ref m0]) ⟨hx, hb, hml, hown, hts⟩ (c_L_cell l b0 L xs (by omega)) (cwS 2 hts gL_law_L_cell rfl rfl rfl (by decide +kernel) ⟨Nat.le_of_ble_eq_true rfl, Nat.le_of_ble_eq_true rfl⟩) (ps_s (hX.kept (hS.2.1 b0 hbl hbA))) rfl rfl hl.1 rfl (lv_room (Nat.le_of_ble_eq_true rfl)) dL_law_19 ⟨Nat.le_of_ble_eq_true rfl, Nat.le_of_ble_eq_true rfl⟩)) (fun rc hc => ?_)
  subst hc
  refine cq_v (X := wXc g a r X ++ [(m0, .inr (6, [.int 0, .int 0, .null, .null, .null, .null, .null, .null, .null, .null, .int 0, .int 0, .int 0, .int 0, .null, .null, .null, .null]))]) (pl := wG g r X.I.M) (cx := [(m0, .inr (6, [.int 0, .int 0, .null, .null, .null, .null, .null, .null, .null, .null, .int 0, .int 0, .int 0, .int 0, .null, .null, .null, .null]))]) (wr := wXc g a r X) (va_runI (As := [.int (ceL L xs)]) (rest := [.ref m0]) ⟨hx, hb, hml, hown, hts⟩ (c_X4_init l g m0 H.size (ceL L xs)) (cwI 1 hts gL_law_X4_init rfl rfl rfl (hts (.initialized RX4) (by decide +kernel)) (hts (.methodLink RL 32 yX4_init) (by decide +kernel)) (hts (.instanceMethod yX4_init) (by decide +kernel)) rfl (by decide +kernel) ⟨Nat.le_of_ble_eq_true rfl, Nat.le_of_ble_eq_true rfl⟩) (ps_w hK (hP.sub (ws' := [(m0, .inr (6, [.int 0, .int 0, .null, .null, .null, .null, .null, .null, .null, .null, .int 0, .int 0, .int 0, .int 0, .null, .null, .null, .null]))]) [21] rfl) (hD.sub (ws' := [(m0, .inr (6, [.int 0, .int 0, .null, .null, .null, .null, .null, .null, .null, .null, .int 0, .int 0, .int 0, .int 0, .null, .null, .null, .null]))]) [21] (by decide) rfl)) rfl rfl hl.1 rfl (lv_room (Nat.le_of_ble_eq_true rfl)) dL_law_22 ⟨Nat.le_of_ble_eq_true rfl, Nat.le_of_ble_eq_true rfl⟩) hP hD hS hA [21] [0, 1, 2, 3, 4, 5, 6, 7, 8, 9, 10, 11, 12, 13, 14, 15, 16, 17, 18, 19, 20] rfl rfl (by decide) (by decide) (fun b H locs h0 hP hD hS => ?_)
  have h0 : b 0 = m0 := h0
  refine W.eq (g2 := F0 m 25 ls [.ref (b 0)]) (congrArg (fun z => F0 m 25 ls [.ref z]) h0.symm) ?_
  refine lv_astore_n (lv' := [(2, .ref (b 0)), (1, .ref (a 0)), (0, .ref b0)]) hx hb dL_law_25 rfl hl (by decide) rfl (fun ls hl => ?_)
  refine lv_iconst (v := 1) hx hb dL_law_26 (by decide) ?_
  refine ga_newa (atype := .long) (ty := .long) (N' := 1) (a0 := (1, .inr (.inl (fun _ => 0)))) hx hb (hts (.arrayClass .long) (by decide +kernel)) rfl hK.1 1 rfl (fun _ h9 => h9) hP hD hS hA (fun _ => rfl) (by decide) (by decide +kernel) (by decide +kernel) (Nat.le_of_ble_eq_true rfl) (Nat.le_of_ble_eq_true rfl) dL_law_27 (fun o H hP hD hS => ?_)
  replace hP := hP.sub (ws' := wLc g a r b o X (M00 (ceL L xs)) (fun _ => 0) ++ wG g r X.I.M) [0, 1, 2, 3, 4, 5, 6, 7, 8, 9, 10, 11, 12, 13, 14, 15, 16, 17, 18, 19, 20, 21, 22, 23, 24, 25, 26, 27, 28, 29, 30, 31, 32, 33, 55, 34, 35, 36, 37, 38, 39, 40, 41, 42, 43, 44, 45, 46, 47, 48, 49, 50, 51, 52, 53, 54] rfl
  replace hD := hD.sub (ws' := wLc g a r b o X (M00 (ceL L xs)) (fun _ => 0) ++ wG g r X.I.M) [0, 1, 2, 3, 4, 5, 6, 7, 8, 9, 10, 11, 12, 13, 14, 15, 16, 17, 18, 19, 20, 21, 22, 23, 24, 25, 26, 27, 28, 29, 30, 31, 32, 33, 55, 34, 35, 36, 37, 38, 39, 40, 41, 42, 43, 44, 45, 46, 47, 48, 49, 50, 51, 52, 53, 54] (by decide) rfl
  refine lv_astore_n (lv' := [(3, .ref o), (2, .ref (b 0)), (1, .ref (a 0)), (0, .ref b0)]) hx hb dL_law_29 rfl hl (by decide) rfl (fun ls hl => ?_)
  refine lv_iconst (v := 1) hx hb dL_law_30 (by decide) ?_
  refine lv_istore (lv' := [(4, .int 1), (3, .ref o), (2, .ref (b 0)), (1, .ref (a 0)), (0, .ref b0)]) hx hb dL_law_31 hl (by decide) rfl (fun ls hl => ?_)
  refine W.widen (k := 57) (n := 30006) (Nat.le_of_ble_eq_true rfl) (Nat.le_of_ble_eq_true rfl) ?_
  exact law_loop C0 hst hL hK hXK hXZ (L + 1) 1 57 30006 (by omega) (by omega) (by omega) (by omega) X (M00 (ceL L xs)) (fun _ => 0) H _ ls (by rw [hX0]; exact SI_start (ceL L xs) hzU) hP hD hS (lv_sub hl [4, 3, 2, 1, 0] rfl)
