/-! Images(): the grid -/
theorem va_AOA.moved {ty : FieldType} {u U : State} (hvm : u.vm.Alike U.vm) (h : va_AOA ty u) : va_AOA ty U := by
  have h0 := h
  unfold va_AOA Cond.before at h0
  simp only [Cond.holds, Cond.value, beq_iff_eq] at h0
  cases hc : u.vm.findClass (FieldType.array ty).toString with
  | none => simp [hc] at h0
  | some comp =>
    simp only [hc, Option.bind_some, Option.bind_eq_some_iff, Option.map_eq_some_iff] at h0
    obtain ⟨c, hi, k, hk, hb⟩ := h0
    obtain ⟨k', hk', he⟩ := hvm.2.2 _ _ hk
    have hi2 : (U.vm.classes.findIdx? fun (x : Class) => match x.kind with | .array component _ => component == comp | _ => false) = some c := by
      have b1 := va_idx_bare U.vm comp
      have b2 := va_idx_bare u.vm comp
      have b3 : U.vm.bare = u.vm.bare := by first | exact hvm.bare_eq | exact hvm.bare_eq.symm
      rw [b3] at b1
      exact b1.symm.trans (b2.trans hi)
    have hkind : k'.kind = k.kind := by rw [he]
    have f1 : U.vm.findClass (FieldType.array ty).toString = some comp := by rw [hvm.findClass]; exact hc
    unfold va_AOA Cond.before Cond.holds
    simp only [Cond.value]
    rw [f1, Option.bind_some]
    refine (congrArg (fun o : Option Nat => (o.bind (fun c => (U.vm.classes[c]?).map fun (k : Class) => match k.kind with | .array _ ty2 => decide (ty2 = FieldType.array ty) && decide (U.vm.findClass ("[" ++ (FieldType.array ty).toString) = some c) | _ => false) == some true)) hi2).trans ?_
    obtain ⟨a2, ty2, hkd⟩ : ∃ a2 ty2, k.kind = .array a2 ty2 := by
      cases hk9 : k.kind with
      | array a2 ty2 => exact ⟨a2, ty2, rfl⟩
      | _ => rw [hk9] at hb; simp at hb
    rw [hkd] at hb
    simp at hb
    have f2 : U.vm.findClass ("[" ++ (FieldType.array ty).toString) = some c := by rw [hvm.findClass]; exact hb.2
    simp [hk', hkind, hkd, hb.1, f2]
theorem pl_wG {g : GG} {f : Nat → va_E} (r : Nat → Nat) : va_pl ([] ++ (List.range 21).map r) (vr_up f ((List.range 21).map r) (.inl (gJ g, (32, .inr (.inl (fun _ => 0)))))) = wG g r (fun _ _ => 0) := by
  unfold va_pl wG
  rw [List.nil_append, List.map_map]
  apply List.map_congr_left
  intro i hi
  show (r i, vr_up f ((List.range 21).map r) _ (r i)) = _
  rw [vr_up_in (List.mem_map.mpr ⟨i, hi, rfl⟩)]
def PwA (g : GG) (ws : va_W) (sz : Nat) : State → Prop := fun U => Pw g ws sz U ∧ va_AOA .long U
theorem ra_long {g : GG} {s : State} (hK : KK g s) : s.vm.findClass (FieldType.array .long).toString = some (gJ g) := (hK.1.2 1 (gJ g, .long) rfl).2
theorem inner_z (c : ClassId) : Jvm.Free.Multi.innerC c 32 (defaultValue .long) = vp_cell c (32, .inr (.inl (fun _ => 0))) := by
  rw [vp_cell_l, ← arrV_new]
  rfl
theorem za_long : ("[" ++ (FieldType.array .long).toString) = "[[J" := by decide
set_option maxHeartbeats 1000000 in
set_option maxRecDepth 100000 in
theorem c_X0_init (l : Launch) (g : GG) (x0 sz : Nat) : Met l yX0_init wsX0_init { frames := 1, cells := 25, slots := 756, locals := 32 } (va_Pc [.ref x0] (PwA g [(x0, .inr (2, [.null, .null, .null, .null, .int 0, .int 0]))] sz)) (va_Qv (fun u => u.1 0 = x0) (Bw g (va_A [(x0, .inr (2, [.null, .null, .null, .null, .int 0, .int 0]))] sz) (fun u : (Nat → Nat) × (Nat → Nat) => wI g u.1 u.2 I0 ++ wG g u.2 I0.M)) (va_A [(x0, .inr (2, [.null, .null, .null, .null, .int 0, .int 0]))] sz)) 25 756 (va_A [(x0, .inr (2, [.null, .null, .null, .null, .int 0, .int 0]))] sz) := by
  refine Met.ofW (cc := cX0_init) (maxL := 1) (ret := none) (by decide) rfl ?_
  intro p e s m args below meth c s₁ B hml hv
  obtain ⟨rfl, ⟨hsz, hP, hK, hD0⟩, hAO⟩ := hv
  have hx := B.exec
  have hb := B.bytes
  have hr := B.returns
  have hts := atoms_spec (ws := wsX0_init) B.pre
  have hown : s.vm.findClass RX0 = some m.cls := findClass_of_methodNamed B.named
  have hlocks := B.notSynchronized
  have hin : meth.name = "<init>" := (name_of_methodNamed B.named B.method).1
  subst hsz
  have hD := hD0.self (sz := s.heap.size)
  generalize hAe : va_A ([(x0, .inr (2, [.null, .null, .null, .null, .int 0, .int 0]))]) s.heap.size = A at hD ⊢
  have hA : ∀ q : Nat, s.heap.size ≤ q → A q := fun q h => by rw [← hAe]; exact Or.inr h
  have hS : va_S A s.heap s.heap [] := va_S.rf
  have hl := lv_entry ([.ref x0]) (n := 1) (Nat.le_of_ble_eq_true rfl)
  rw [lg_entry_eq]
  generalize (lg_sl ([.ref x0]) ++ List.replicate (1 - (lg_sl ([.ref x0])).length) Slot.unset).toArray = ls at hl ⊢
  have hl : lv_has ls 1 [(0, .ref x0)] := hl
  refine lv_aload_n hx hb dX0_init_0 rfl (lv_at hl 0 rfl) ?_
  refine W.objInit hx hb hown (hts (.methodLink RX0 3 objectInit) (by decide +kernel)) (hts (.instanceMethod objectInit) (by decide +kernel)) (hts (.code objectInit ⟨#[0xb1]⟩ 1 none) (by decide +kernel)) rfl (by rw [hml]; exact hl.1) rfl dX0_init_1 (Nat.le_of_ble_eq_true rfl) (Nat.le_of_ble_eq_true rfl) ?_
  refine W.eq (g2 := F0 m 4 ls []) rfl ?_
  refine lv_aload_n hx hb dX0_init_4 rfl (lv_at hl 0 rfl) ?_
  refine lv_bipush (v := 21) hx hb dX0_init_5 (by decide) ?_
  refine ga_newa (atype := .int) (ty := .int) (N' := 21) (a0 := (21, .inl (fun _ => 0))) hx hb (hts (.arrayClass .int) (by decide +kernel)) rfl hK.1 0 rfl (fun _ h9 => h9) hP hD hS hA (fun _ => rfl) (by decide) (by decide +kernel) (by decide +kernel) (by decide +kernel) (by decide +kernel) dX0_init_7 (fun q_7 H hP hD hS => ?_)
  have hP : va_P (gD g) vwCl ([(x0, .inr (2, [.null, .null, .null, .null, .int 0, .int 0])), (q_7, .inl (gI g, 21, .inl (fun _ => 0)))]) H := hP
  have hD : va_D A ([(x0, .inr (2, [.null, .null, .null, .null, .int 0, .int 0])), (q_7, .inl (gI g, 21, .inl (fun _ => 0)))]) := hD
  refine va_putF (D := gD g) (ci := 2) (v := .ref q_7) (ty := (.array .int)) (C := RX0) (T := TX0) (N := 6) hx hb hts (by decide +kernel) tyX0 tyX0_ok nmX0 hown hK.1 hP hD hS 0 rfl rfl 0 (by decide) (hts (.fieldLink RX0 11 "LogForward$Images" "start" "[I") (by decide +kernel)) (fun _ h9 => h9) rfl hin rfl (by decide +kernel) rfl rfl (Nat.le_of_ble_eq_true rfl) dX0_init_9 (fun H locs hP hD hS => ?_)
  have hP : va_P (gD g) vwCl ([(x0, .inr (2, [.ref q_7, .null, .null, .null, .int 0, .int 0])), (q_7, .inl (gI g, 21, .inl (fun _ => 0)))]) H := hP
  have hD : va_D A ([(x0, .inr (2, [.ref q_7, .null, .null, .null, .int 0, .int 0])), (q_7, .inl (gI g, 21, .inl (fun _ => 0)))]) := hD
  refine lv_aload_n hx hb dX0_init_12 rfl (lv_at hl 0 rfl) ?_
  refine lv_bipush (v := 21) hx hb dX0_init_13 (by decide) ?_
  refine ga_newa (atype := .int) (ty := .int) (N' := 21) (a0 := (21, .inl (fun _ => 0))) hx hb (hts (.arrayClass .int) (by decide +kernel)) rfl hK.1 0 rfl (fun _ h9 => h9) hP hD hS hA (fun _ => rfl) (by decide) (by decide +kernel) (by decide +kernel) (by decide +kernel) (by decide +kernel) dX0_init_15 (fun q_15 H hP hD hS => ?_)
  have hP : va_P (gD g) vwCl ([(x0, .inr (2, [.ref q_7, .null, .null, .null, .int 0, .int 0])), (q_7, .inl (gI g, 21, .inl (fun _ => 0))), (q_15, .inl (gI g, 21, .inl (fun _ => 0)))]) H := hP
  have hD : va_D A ([(x0, .inr (2, [.ref q_7, .null, .null, .null, .int 0, .int 0])), (q_7, .inl (gI g, 21, .inl (fun _ => 0))), (q_15, .inl (gI g, 21, .inl (fun _ => 0)))]) := hD
  refine va_putF (D := gD g) (ci := 2) (v := .ref q_15) (ty := (.array .int)) (C := RX0) (T := TX0) (N := 6) hx hb hts (by decide +kernel) tyX0 tyX0_ok nmX0 hown hK.1 hP hD hS 0 rfl rfl 1 (by decide) (hts (.fieldLink RX0 15 "LogForward$Images" "end" "[I") (by decide +kernel)) (fun _ h9 => h9) rfl hin rfl (by decide +kernel) rfl rfl (Nat.le_of_ble_eq_true rfl) dX0_init_17 (fun H locs hP hD hS => ?_)
  have hP : va_P (gD g) vwCl ([(x0, .inr (2, [.ref q_7, .ref q_15, .null, .null, .int 0, .int 0])), (q_7, .inl (gI g, 21, .inl (fun _ => 0))), (q_15, .inl (gI g, 21, .inl (fun _ => 0)))]) H := hP
  have hD : va_D A ([(x0, .inr (2, [.ref q_7, .ref q_15, .null, .null, .int 0, .int 0])), (q_7, .inl (gI g, 21, .inl (fun _ => 0))), (q_15, .inl (gI g, 21, .inl (fun _ => 0)))]) := hD
  refine lv_aload_n hx hb dX0_init_20 rfl (lv_at hl 0 rfl) ?_
  refine lv_bipush (v := 21) hx hb dX0_init_21 (by decide) ?_
  refine ga_newa (atype := .boolean) (ty := .boolean) (N' := 21) (a0 := (21, .inl (fun _ => 0))) hx hb (hts (.arrayClass .boolean) (by decide +kernel)) rfl hK.1 2 rfl (fun _ h9 => h9) hP hD hS hA (fun _ => rfl) (by decide) (by decide +kernel) (by decide +kernel) (by decide +kernel) (by decide +kernel) dX0_init_23 (fun q_23 H hP hD hS => ?_)
  have hP : va_P (gD g) vwCl ([(x0, .inr (2, [.ref q_7, .ref q_15, .null, .null, .int 0, .int 0])), (q_7, .inl (gI g, 21, .inl (fun _ => 0))), (q_15, .inl (gI g, 21, .inl (fun _ => 0))), (q_23, .inl (gZ g, 21, .inl (fun _ => 0)))]) H := hP
  have hD : va_D A ([(x0, .inr (2, [.ref q_7, .ref q_15, .null, .null, .int 0, .int 0])), (q_7, .inl (gI g, 21, .inl (fun _ => 0))), (q_15, .inl (gI g, 21, .inl (fun _ => 0))), (q_23, .inl (gZ g, 21, .inl (fun _ => 0)))]) := hD
  refine va_putF (D := gD g) (ci := 2) (v := .ref q_23) (ty := (.array .boolean)) (C := RX0) (T := TX0) (N := 6) hx hb hts (by decide +kernel) tyX0 tyX0_ok nmX0 hown hK.1 hP hD hS 0 rfl rfl 2 (by decide) (hts (.fieldLink RX0 18 "LogForward$Images" "spoiled" "[Z") (by decide +kernel)) (fun _ h9 => h9) rfl hin rfl (by decide +kernel) rfl rfl (Nat.le_of_ble_eq_true rfl) dX0_init_25 (fun H locs hP hD hS => ?_)
  have hP : va_P (gD g) vwCl ([(x0, .inr (2, [.ref q_7, .ref q_15, .ref q_23, .null, .int 0, .int 0])), (q_7, .inl (gI g, 21, .inl (fun _ => 0))), (q_15, .inl (gI g, 21, .inl (fun _ => 0))), (q_23, .inl (gZ g, 21, .inl (fun _ => 0)))]) H := hP
  have hD : va_D A ([(x0, .inr (2, [.ref q_7, .ref q_15, .ref q_23, .null, .int 0, .int 0])), (q_7, .inl (gI g, 21, .inl (fun _ => 0))), (q_15, .inl (gI g, 21, .inl (fun _ => 0))), (q_23, .inl (gZ g, 21, .inl (fun _ => 0)))]) := hD
  refine lv_aload_n hx hb dX0_init_28 rfl (lv_at hl 0 rfl) ?_
  refine lv_bipush (v := 21) hx hb dX0_init_29 (by decide) ?_
  refine lv_bipush (v := 32) hx hb dX0_init_31 (by decide) ?_
  have hcl9 : (Cond.classLink RX0 22 ("[" ++ (FieldType.array .long).toString)).before #[Value.ref x0] s = true := by rw [za_long]; exact hts (.classLink RX0 22 "[[J") (by decide +kernel)
  refine va_mna (X := [(x0, .inr (2, [.ref q_7, .ref q_15, .ref q_23, .null, .int 0, .int 0])), (q_7, .inl (gI g, 21, .inl (fun _ => 0))), (q_15, .inl (gI g, 21, .inl (fun _ => 0))), (q_23, .inl (gZ g, 21, .inl (fun _ => 0)))]) (L := []) (f := fun _ => .inr (0, [])) (ty := .long) (cy := gJ g) (N' := 21) (K' := 32) (z := (32, .inr (.inl (fun _ => 0)))) hx hb hown hcl9 hAO (hts (.arrayClass .long) (by decide +kernel)) (ra_long hK) hK.1 hP hD hS hA (by decide) (by decide) (by decide +kernel) (by decide +kernel) (by decide +kernel) (by decide +kernel) (by decide +kernel) rfl rfl (by decide +kernel) (by decide +kernel) inner_z dX0_init_33 (fun q_33 r cA H hr1 hr2 hK2 hP hD hS => ?_)
  have e9 : cA = gG g := by
    have e1 : s.vm.findClass ("[" ++ (FieldType.array .long).toString) = some cA := (hK2.2 4 (cA, .array .long) rfl).2
    have e2 : s.vm.findClass ("[" ++ (FieldType.array .long).toString) = some (gG g) := (hK.1.2 3 (gG g, .array .long) rfl).2
    exact Option.some.inj (e1.symm.trans e2)
  subst e9
  rw [pl_wG] at hP hD
  have hP : va_P (gD g) vwCl ([(x0, .inr (2, [.ref q_7, .ref q_15, .ref q_23, .null, .int 0, .int 0])), (q_7, .inl (gI g, 21, .inl (fun _ => 0))), (q_15, .inl (gI g, 21, .inl (fun _ => 0))), (q_23, .inl (gZ g, 21, .inl (fun _ => 0))), (q_33, .inl (gG g, 21, .inr (.inr (.inr (.inr (gRow r))))))] ++ wG g r (fun _ _ => 0)) H := hP
  have hD : va_D A ([(x0, .inr (2, [.ref q_7, .ref q_15, .ref q_23, .null, .int 0, .int 0])), (q_7, .inl (gI g, 21, .inl (fun _ => 0))), (q_15, .inl (gI g, 21, .inl (fun _ => 0))), (q_23, .inl (gZ g, 21, .inl (fun _ => 0))), (q_33, .inl (gG g, 21, .inr (.inr (.inr (.inr (gRow r))))))] ++ wG g r (fun _ _ => 0)) := hD
  refine va_putF (D := gD g) (ci := 2) (v := .ref q_33) (ty := (.array (.array .long))) (C := RX0) (T := TX0) (N := 6) hx hb hts (by decide +kernel) tyX0 tyX0_ok nmX0 hown hK.1 hP hD hS 0 rfl rfl 3 (by decide) (hts (.fieldLink RX0 24 "LogForward$Images" "held" "[[J") (by decide +kernel)) (fun _ h9 => h9) rfl hin rfl (by decide +kernel) rfl rfl (Nat.le_of_ble_eq_true rfl) dX0_init_37 (fun H locs hP hD hS => ?_)
  have hP : va_P (gD g) vwCl ([(x0, .inr (2, [.ref q_7, .ref q_15, .ref q_23, .ref q_33, .int 0, .int 0])), (q_7, .inl (gI g, 21, .inl (fun _ => 0))), (q_15, .inl (gI g, 21, .inl (fun _ => 0))), (q_23, .inl (gZ g, 21, .inl (fun _ => 0))), (q_33, .inl (gG g, 21, .inr (.inr (.inr (.inr (gRow r))))))] ++ wG g r (fun _ _ => 0)) H := hP
  have hD : va_D A ([(x0, .inr (2, [.ref q_7, .ref q_15, .ref q_23, .ref q_33, .int 0, .int 0])), (q_7, .inl (gI g, 21, .inl (fun _ => 0))), (q_15, .inl (gI g, 21, .inl (fun _ => 0))), (q_23, .inl (gZ g, 21, .inl (fun _ => 0))), (q_33, .inl (gG g, 21, .inr (.inr (.inr (.inr (gRow r))))))] ++ wG g r (fun _ _ => 0)) := hD
  refine lv_aload_n hx hb dX0_init_40 rfl (lv_at hl 0 rfl) ?_
  refine lv_iconst (v := 0) hx hb dX0_init_41 (by decide) ?_
  refine va_put (D := gD g) (ci := 2) (v := .int 0) (ty := .int) (C := RX0) (T := TX0) (N := 6) hx hb hts (by decide +kernel) tyX0 tyX0_ok nmX0 hown hK.1 hP hD hS 0 rfl rfl 4 (by decide) (hts (.fieldLink RX0 27 "LogForward$Images" "many" "I") (by decide +kernel)) (fun _ h9 => h9) rfl (by decide +kernel) rfl rfl (Nat.le_of_ble_eq_true rfl) dX0_init_42 (fun H locs hP hD hS => ?_)
  have hP : va_P (gD g) vwCl ([(x0, .inr (2, [.ref q_7, .ref q_15, .ref q_23, .ref q_33, .int 0, .int 0])), (q_7, .inl (gI g, 21, .inl (fun _ => 0))), (q_15, .inl (gI g, 21, .inl (fun _ => 0))), (q_23, .inl (gZ g, 21, .inl (fun _ => 0))), (q_33, .inl (gG g, 21, .inr (.inr (.inr (.inr (gRow r))))))] ++ wG g r (fun _ _ => 0)) H := hP
  have hD : va_D A ([(x0, .inr (2, [.ref q_7, .ref q_15, .ref q_23, .ref q_33, .int 0, .int 0])), (q_7, .inl (gI g, 21, .inl (fun _ => 0))), (q_15, .inl (gI g, 21, .inl (fun _ => 0))), (q_23, .inl (gZ g, 21, .inl (fun _ => 0))), (q_33, .inl (gG g, 21, .inr (.inr (.inr (.inr (gRow r))))))] ++ wG g r (fun _ _ => 0)) := hD
  refine lv_aload_n hx hb dX0_init_45 rfl (lv_at hl 0 rfl) ?_
  refine lv_iconst (v := 0) hx hb dX0_init_46 (by decide) ?_
  refine va_put (D := gD g) (ci := 2) (v := .int 0) (ty := .boolean) (C := RX0) (T := TX0) (N := 6) hx hb hts (by decide +kernel) tyX0 tyX0_ok nmX0 hown hK.1 hP hD hS 0 rfl rfl 5 (by decide) (hts (.fieldLink RX0 31 "LogForward$Images" "latestIsUnfinished" "Z") (by decide +kernel)) (fun _ h9 => h9) rfl (by decide +kernel) rfl rfl (Nat.le_of_ble_eq_true rfl) dX0_init_47 (fun H locs hP hD hS => ?_)
  have hP : va_P (gD g) vwCl ([(x0, .inr (2, [.ref q_7, .ref q_15, .ref q_23, .ref q_33, .int 0, .int 0])), (q_7, .inl (gI g, 21, .inl (fun _ => 0))), (q_15, .inl (gI g, 21, .inl (fun _ => 0))), (q_23, .inl (gZ g, 21, .inl (fun _ => 0))), (q_33, .inl (gG g, 21, .inr (.inr (.inr (.inr (gRow r))))))] ++ wG g r (fun _ _ => 0)) H := hP
  have hD : va_D A ([(x0, .inr (2, [.ref q_7, .ref q_15, .ref q_23, .ref q_33, .int 0, .int 0])), (q_7, .inl (gI g, 21, .inl (fun _ => 0))), (q_15, .inl (gI g, 21, .inl (fun _ => 0))), (q_23, .inl (gZ g, 21, .inl (fun _ => 0))), (q_33, .inl (gG g, 21, .inr (.inr (.inr (.inr (gRow r))))))] ++ wG g r (fun _ _ => 0)) := hD
  have hP9 : va_P (gD g) vwCl (wI g (fun i => [x0, q_7, q_15, q_23, q_33].getD i 0) r I0 ++ wG g r I0.M) H := hP
  have hD9 : va_D A (wI g (fun i => [x0, q_7, q_15, q_23, q_33].getD i 0) r I0 ++ wG g r I0.M) := hD
  refine W.widen (k := 25) (n := 756) (by decide +kernel) (by decide +kernel) ?_
  exact W.vret hx hb hr (fun tz htz hWz => ⟨⟨((fun i => [x0, q_7, q_15, q_23, q_33].getD i 0), r), rfl, rfl, by rw [htz]; exact hP9, hD9⟩, hS.F htz⟩) hS.2.2 dX0_init_50
