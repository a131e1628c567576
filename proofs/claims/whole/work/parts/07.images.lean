/-! Images: the state, the grid of held cells, rows for it -/
abbrev IS : Type := (Nat → Int32) × (Nat → Int32) × (Nat → Int32) × (Nat → Nat → Int64) × Nat × Int32
abbrev IS.st (I : IS) : Nat → Int32 := I.1
abbrev IS.en (I : IS) : Nat → Int32 := I.2.1
abbrev IS.sp (I : IS) : Nat → Int32 := I.2.2.1
abbrev IS.M (I : IS) : Nat → Nat → Int64 := I.2.2.2.1
abbrev IS.k (I : IS) : Nat := I.2.2.2.2.1
abbrev IS.uf (I : IS) : Int32 := I.2.2.2.2.2
/-- which rows the grid's outer array holds -/
def gRow (r : Nat → Nat) : Nat → Option Nat := fun i => if i < 21 then some (r i) else none
theorem gRow_at {r : Nat → Nat} {i : Nat} (h : i < 21) : gRow r i = some (r i) := if_pos h
abbrev wI (g : GG) (a r : Nat → Nat) (I : IS) : va_W := [(a 0, .inr (2, [.ref (a 1), .ref (a 2), .ref (a 3), .ref (a 4), .int (nI I.k), .int I.uf])), (a 1, .inl (gI g, 21, .inl I.st)), (a 2, .inl (gI g, 21, .inl I.en)), (a 3, .inl (gZ g, 21, .inl I.sp)), (a 4, .inl (gG g, 21, .inr (.inr (.inr (.inr (gRow r))))))]
/-- the rows of the grid: the pool -/
def wG (g : GG) (r : Nat → Nat) (M : Nat → Nat → Int64) : va_W := (List.range 21).map (fun i => (r i, .inl (gJ g, 32, .inr (.inl (M i)))))
theorem wG_at {g : GG} {r : Nat → Nat} {M : Nat → Nat → Int64} {X : va_W} {n i : Nat} (hn : X.length = n) (hi : i < 21) : (X ++ wG g r M)[n + i]? = some (r i, .inl (gJ g, 32, .inr (.inl (M i)))) := by
  subst hn
  rw [List.getElem?_append_right (by omega), Nat.add_sub_cancel_left]
  simp [wG, hi]
theorem wG_set {g : GG} {r : Nat → Nat} {M : Nat → Nat → Int64} {X : va_W} {n i : Nat} (hn : X.length = n) (hi : i < 21) (v : Nat → Int64) : (X ++ wG g r M).set (n + i) (r i, .inl (gJ g, 32, .inr (.inl v))) = X ++ wG g r (va_up M i v) := by
  subst hn
  rw [List.set_append_right (X.length + i) _ (by omega), Nat.add_sub_cancel_left]
  congr 1
  apply List.ext_getElem?
  intro j
  by_cases e : j = i
  · subst e
    rw [List.getElem?_set_self (by simp [wG, hi])]
    simp [wG, hi, va_up]
  · rw [List.getElem?_set_ne (Ne.symm e)]
    by_cases hj : j < 21
    · simp [wG, hj, va_up, e]
    · simp [wG, hj]
section GGrid
variable {p : Program} {l : Launch} {e : Env} {R : Room} {s : State} {m : MethodId} {args : Array Value} {below : List Frame} {meth : Method} {c : Code} {H : Heap} {locs : List Loc} {cells slots : Nat} {Q : State → Prop}
variable {cc : ByteArray} {pc : Nat} {ls : Array Slot} {rest : List Value} {D : va_G} {cl : List vw_C} {A : Nat → Prop} {a : Nat} {tys : List (ClassId × FieldType)} {ws : va_W} {H0 : Heap}
theorem ga_aald (hexec : p.tables.exec = Jvm.exec) (hb : c.code = cc) (hK : va_K D cl tys s) (hP : va_P D cl ws H) (q0 t0 : Nat) {cA : ClassId} {n v : Nat} {f : Nat → Option Nat} (ha : ws[q0]? = some (a, .inl (cA, n, .inr (.inr (.inr (.inr f)))))) (ht : tys[t0]? = some (cA, .array .long)) {i : Int32} (hin : vp_in i n) (hv : f i.toNatClampNeg = some v) (hdg : decode cc pc = .ok (.aaload, 1))
    (kk : W p l e R s m args below meth c H locs cells slots Q (F0 m (pc + 1) ls (.ref v :: rest))) : W p l e R s m args below meth c H locs cells slots Q (F0 m pc ls (.int i :: .ref a :: rest)) := by
  have hlt : i.toNatClampNeg < n := Nat.not_le.mp fun q => hin (Or.inr q)
  have e1 : va_rf (f i.toNatClampNeg) = .ref v := by rw [hv]; rfl
  exact W.aald (v := .ref v) (ty := .array .long) hexec hb (hP q0 _ ha) ((hK.2 t0 _ ht).1 n (fun j => va_rf (f j))) rfl (fun q => by cases q) (by show ¬ (i < 0 ∨ (arrV _ _ _).slots.size ≤ _); rw [arrV_size]; exact hin) (by show (arrV _ _ _).slots[_]? = _; rw [arrV_read _ _ hlt, e1]) rfl rfl hdg kk
/-- cells into a row of the grid -/
theorem ga_cpTo {g : GG} {r : Nat → Nat} {M : Nat → Nat → Int64} {X : va_W} (hexec : p.tables.exec = Jvm.exec) (hb : c.code = cc) (hml : c.maxLocals = ls.size) {own : String} {index : Nat} (hown : s.vm.findClass own = some m.cls) (hlink : (Cond.methodLink own index arraycopyName).before args s = true) (hnat : (Cond.native arraycopyName).before args s = true) (hstat : (Cond.static arraycopyName).before args s = true) (hini : (Cond.initialized "java/lang/System").before args s = true)
    (hK : va_K D cl (tyS g) s) (hP : va_P D cl (X ++ wG g r M) H) (hD : va_D A (X ++ wG g r M)) (hS : va_S A H0 H locs) (q0 n0 : Nat) {a0 xn i : Nat} {f : Nat → Int64} (hx0 : (X ++ wG g r M)[q0]? = some (a0, .inl (gJ g, n0, .inr (.inl f)))) (hxn : X.length = xn) (hi : i < 21)
    {sp dp n : Int32} {sp' dp' n' : Nat} (e1 : sp.toNatClampNeg = sp') (e2 : dp.toNatClampNeg = dp') (e3 : n.toNatClampNeg = n') (h1 : ¬ sp < 0) (h2 : ¬ dp < 0) (h3 : ¬ n < 0) (h4 : sp' + n' ≤ n0) (h5 : dp' + n' ≤ 32)
    (hframes : 1 ≤ R.frames) (hlocals : (rest.map fun v => v.category).sum + (nativeFrameWords "java/lang/System" "arraycopy" 5 + 11) ≤ R.locals) (hdg : decode cc pc = .ok (.invokestatic index, 3))
    (kk : ∀ (H1 : Heap) (locs1 : List Loc), va_P D cl (X ++ wG g r (va_up M i (va_cpy f (M i) sp' dp' n'))) H1 → va_D A (X ++ wG g r (va_up M i (va_cpy f (M i) sp' dp' n'))) → va_S A H0 H1 locs1 → W p l e R s m args below meth c H1 locs1 cells slots Q (F0 m (pc + 3) ls rest)) : W p l e R s m args below meth c H locs cells slots Q (F0 m pc ls (.int n :: .int dp :: .ref (r i) :: .int sp :: .ref a0 :: rest)) := by
  subst e1
  subst e2
  subst e3
  refine va_copyl hexec hb hml hown hlink hnat hstat hini hK hP hD hS q0 (xn + i) 1 1 hx0 (wG_at hxn hi) rfl rfl rfl h1 h2 h3 h4 h5 (fun _ _ => rfl) hframes hlocals hdg ?_
  rw [wG_set hxn hi]
  exact kk
/-- a row of the grid into cells -/
theorem ga_cpOf {g : GG} {r : Nat → Nat} {M : Nat → Nat → Int64} {X : va_W} (hexec : p.tables.exec = Jvm.exec) (hb : c.code = cc) (hml : c.maxLocals = ls.size) {own : String} {index : Nat} (hown : s.vm.findClass own = some m.cls) (hlink : (Cond.methodLink own index arraycopyName).before args s = true) (hnat : (Cond.native arraycopyName).before args s = true) (hstat : (Cond.static arraycopyName).before args s = true) (hini : (Cond.initialized "java/lang/System").before args s = true)
    (hK : va_K D cl (tyS g) s) (hP : va_P D cl (X ++ wG g r M) H) (hD : va_D A (X ++ wG g r M)) (hS : va_S A H0 H locs) (q1 n1 : Nat) {a1 xn i : Nat} {f : Nat → Int64} (hx1 : (X ++ wG g r M)[q1]? = some (a1, .inl (gJ g, n1, .inr (.inl f)))) (hxn : X.length = xn) (hi : i < 21)
    {sp dp n : Int32} {sp' dp' n' : Nat} (e1 : sp.toNatClampNeg = sp') (e2 : dp.toNatClampNeg = dp') (e3 : n.toNatClampNeg = n') (h1 : ¬ sp < 0) (h2 : ¬ dp < 0) (h3 : ¬ n < 0) (h4 : sp' + n' ≤ 32) (h5 : dp' + n' ≤ n1)
    (hframes : 1 ≤ R.frames) (hlocals : (rest.map fun v => v.category).sum + (nativeFrameWords "java/lang/System" "arraycopy" 5 + 11) ≤ R.locals) (hdg : decode cc pc = .ok (.invokestatic index, 3))
    (kk : ∀ (H1 : Heap) (locs1 : List Loc), va_P D cl ((X ++ wG g r M).set q1 (a1, .inl (gJ g, n1, .inr (.inl (va_cpy (M i) f sp' dp' n'))))) H1 → va_D A ((X ++ wG g r M).set q1 (a1, .inl (gJ g, n1, .inr (.inl (va_cpy (M i) f sp' dp' n'))))) → va_S A H0 H1 locs1 → W p l e R s m args below meth c H1 locs1 cells slots Q (F0 m (pc + 3) ls rest)) : W p l e R s m args below meth c H locs cells slots Q (F0 m pc ls (.int n :: .int dp :: .ref a1 :: .int sp :: .ref (r i) :: rest)) := by
  subst e1
  subst e2
  subst e3
  exact va_copyl hexec hb hml hown hlink hnat hstat hini hK hP hD hS (xn + i) q1 1 1 (wG_at hxn hi) hx1 rfl rfl rfl h1 h2 h3 h4 h5 (fun _ _ => rfl) hframes hlocals hdg kk
end GGrid
/-- an image more; the latest one finished; images spoiled -/
def isT (I : IS) (z : Int32) (row : Nat) (cs : Nat → Int64) : IS := (upd I.st (I.k + 1) (nI row), upd I.en (I.k + 1) (nI row), I.sp, va_up I.M (I.k + 1) (va_cpy cs (I.M (I.k + 1)) 0 0 (if z = 0 then 32 else 16)), I.k + 1, z)
def isF (I : IS) (row : Nat) (cs : Nat → Int64) : IS := if I.uf = 0 then I else (I.st, upd I.en I.k (nI row), I.sp, va_up I.M I.k (va_cpy cs (I.M I.k) 16 16 16), I.k, 0)
set_option maxHeartbeats 1000000 in
set_option maxRecDepth 100000 in
theorem c_X0_howMany (l : Launch) (g : GG) (a r : Nat → Nat) (I : IS)  : Met l yX0_howMany wsX0_howMany { frames := 0, cells := 0, slots := 0, locals := 0 } (va_Pc [.ref (a 0)] (Pr g (wI g a r I))) (vp_Si (fun rv => rv = nI I.k)) 0 0 (fun _ => False) := by
  refine Met.ofW (cc := cX0_howMany) (maxL := 1) (ret := (some .int)) (by decide) rfl ?_
  intro p e s m args below meth c s₁ B hml hv
  obtain ⟨rfl, hP, hK⟩ := hv
  have hx := B.exec
  have hb := B.bytes
  have hr := B.returns
  have hts := atoms_spec (ws := wsX0_howMany) B.pre
  have hown : s.vm.findClass RX0 = some m.cls := findClass_of_methodNamed B.named
  have hlocks := B.notSynchronized
  have hl := lv_entry ([.ref (a 0)]) (n := 1) (Nat.le_of_ble_eq_true rfl)
  rw [lg_entry_eq]
  generalize (lg_sl ([.ref (a 0)]) ++ List.replicate (1 - (lg_sl ([.ref (a 0)])).length) Slot.unset).toArray = ls at hl ⊢
  have hl : lv_has ls 1 [(0, .ref (a 0))] := hl
  refine lv_aload_n hx hb dX0_howMany_0 rfl (lv_at hl 0 rfl) ?_
  refine va_get (D := gD g) (ci := 2) (v := .int (nI (I.k))) (C := RX0) (T := TX0) (N := 6) hx hb hts (by decide +kernel) hown hK.1 hP 0 rfl rfl 4 (by decide) (hts (.fieldLink RX0 27 "LogForward$Images" "many" "I") (by decide +kernel)) (fun _ h9 => h9) rfl dX0_howMany_1 ?_
  exact W.iret (v := (nI (I.k))) hx hb hr (fun tz htz hWz => ⟨(nI (I.k)), rfl, rfl, htz⟩) (fun _ h => nomatch h) dX0_howMany_4
set_option maxHeartbeats 1000000 in
set_option maxRecDepth 100000 in
theorem c_X0_has (l : Launch) (g : GG) (a r : Nat → Nat) (I : IS) (p1 : Int32) (hk : I.k ≤ 20) : Met l yX0_has wsX0_has { frames := 0, cells := 0, slots := 0, locals := 0 } (va_Pc [.ref (a 0), .int p1] (Pr g (wI g a r I))) (vp_Si (fun rv => rv = bI (1 ≤ p1.toInt ∧ p1.toInt ≤ (I.k : Int)))) 0 0 (fun _ => False) := by
  refine Met.ofW (cc := cX0_has) (maxL := 2) (ret := (some .boolean)) (by decide) rfl ?_
  intro p e s m args below meth c s₁ B hml hv
  obtain ⟨rfl, hP, hK⟩ := hv
  have hx := B.exec
  have hb := B.bytes
  have hr := B.returns
  have hts := atoms_spec (ws := wsX0_has) B.pre
  have hown : s.vm.findClass RX0 = some m.cls := findClass_of_methodNamed B.named
  have hlocks := B.notSynchronized
  have hl := lv_entry ([.ref (a 0), .int p1]) (n := 2) (Nat.le_of_ble_eq_true rfl)
  rw [lg_entry_eq]
  generalize (lg_sl ([.ref (a 0), .int p1]) ++ List.replicate (2 - (lg_sl ([.ref (a 0), .int p1])).length) Slot.unset).toArray = ls at hl ⊢
  have hl : lv_has ls 2 [(0, .ref (a 0)), (1, .int p1)] := hl
  refine lv_iload_n hx hb dX0_has_0 rfl (lv_at hl 1 rfl) ?_
  refine lv_iconst (v := 1) hx hb dX0_has_1 (by decide) ?_
  refine lv_icmp_lt (tgt := 17) hx hb dX0_has_2 (by decide) (fun c_2_1 => ?_) (fun c_2_1 => ?_)
  · have i_2 : (p1.toInt : Int) < 1 := q_lt c_2_1 rfl rfl
    refine lv_iconst (v := 0) hx hb dX0_has_17 (by decide) ?_
    exact W.zret (v := 0) hx hb hr rfl (fun tz htz hWz => ⟨0, rfl, (bI_0 (by first | omega | assumption | simp_all)), htz⟩) (fun _ h => nomatch h) dX0_has_18
  · have i_2 : (1 : Int) ≤ p1.toInt := q_nlt c_2_1 rfl rfl
    refine lv_iload_n hx hb dX0_has_5 rfl (lv_at hl 1 rfl) ?_
    refine lv_aload_n hx hb dX0_has_6 rfl (lv_at hl 0 rfl) ?_
    refine va_get (D := gD g) (ci := 2) (v := .int (nI (I.k))) (C := RX0) (T := TX0) (N := 6) hx hb hts (by decide +kernel) hown hK.1 hP 0 rfl rfl 4 (by decide) (hts (.fieldLink RX0 27 "LogForward$Images" "many" "I") (by decide +kernel)) (fun _ h9 => h9) rfl dX0_has_7 ?_
    refine lv_icmp_gt (tgt := 17) hx hb dX0_has_10 (by decide) (fun c_10_2 => ?_) (fun c_10_2 => ?_)
    · have i_10 : (((I.k : Nat) : Int) : Int) < p1.toInt := q_lt c_10_2 (l_nI (by omega)) rfl
      refine lv_iconst (v := 0) hx hb dX0_has_17 (by decide) ?_
      exact W.zret (v := 0) hx hb hr rfl (fun tz htz hWz => ⟨0, rfl, (bI_0 (by first | omega | assumption | simp_all)), htz⟩) (fun _ h => nomatch h) dX0_has_18
    · have i_10 : (p1.toInt : Int) ≤ ((I.k : Nat) : Int) := q_nlt c_10_2 (l_nI (by omega)) rfl
      refine lv_iconst (v := 1) hx hb dX0_has_13 (by decide) ?_
      refine lv_goto (tgt := 18) hx hb dX0_has_14 (by decide) ?_
      exact W.zret (v := 1) hx hb hr rfl (fun tz htz hWz => ⟨1, rfl, (bI_1 (by first | omega | assumption | simp_all)), htz⟩) (fun _ h => nomatch h) dX0_has_18
set_option maxHeartbeats 1000000 in
set_option maxRecDepth 100000 in
theorem c_X0_has_n (l : Launch) (g : GG) (a r : Nat → Nat) (I : IS) (i : Nat) (hi1 : 1 ≤ i) (hi2 : i ≤ I.k) (hk : I.k ≤ 20) : Met l yX0_has wsX0_has { frames := 0, cells := 0, slots := 0, locals := 0 } (va_Pc [.ref (a 0), .int (nI (i))] (Pr g (wI g a r I))) (vp_Si (fun rv => rv = 1)) 0 0 (fun _ => False) := by
  refine Met.ofW (cc := cX0_has) (maxL := 2) (ret := (some .boolean)) (by decide) rfl ?_
  intro p e s m args below meth c s₁ B hml hv
  obtain ⟨rfl, hP, hK⟩ := hv
  have hx := B.exec
  have hb := B.bytes
  have hr := B.returns
  have hts := atoms_spec (ws := wsX0_has) B.pre
  have hown : s.vm.findClass RX0 = some m.cls := findClass_of_methodNamed B.named
  have hlocks := B.notSynchronized
  have hl := lv_entry ([.ref (a 0), .int (nI (i))]) (n := 2) (Nat.le_of_ble_eq_true rfl)
  rw [lg_entry_eq]
  generalize (lg_sl ([.ref (a 0), .int (nI (i))]) ++ List.replicate (2 - (lg_sl ([.ref (a 0), .int (nI (i))])).length) Slot.unset).toArray = ls at hl ⊢
  have hl : lv_has ls 2 [(0, .ref (a 0)), (1, .int (nI (i)))] := hl
  refine lv_iload_n hx hb dX0_has_0 rfl (lv_at hl 1 rfl) ?_
  refine lv_iconst (v := 1) hx hb dX0_has_1 (by decide) ?_
  refine lv_icmp_lt (tgt := 17) hx hb dX0_has_2 (by decide) (fun c_2_1 => ?_) (fun c_2_1 => ?_)
  · have i_2 : (((i : Nat) : Int) : Int) < 1 := q_lt c_2_1 (l_nI (by omega)) rfl
    refine lv_iconst (v := 0) hx hb dX0_has_17 (by decide) ?_
    exact W.zret (v := 0) hx hb hr rfl (fun tz htz hWz => ⟨0, rfl, (by exfalso; omega), htz⟩) (fun _ h => nomatch h) dX0_has_18
  · have i_2 : (1 : Int) ≤ ((i : Nat) : Int) := q_nlt c_2_1 (l_nI (by omega)) rfl
    refine lv_iload_n hx hb dX0_has_5 rfl (lv_at hl 1 rfl) ?_
    refine lv_aload_n hx hb dX0_has_6 rfl (lv_at hl 0 rfl) ?_
    refine va_get (D := gD g) (ci := 2) (v := .int (nI (I.k))) (C := RX0) (T := TX0) (N := 6) hx hb hts (by decide +kernel) hown hK.1 hP 0 rfl rfl 4 (by decide) (hts (.fieldLink RX0 27 "LogForward$Images" "many" "I") (by decide +kernel)) (fun _ h9 => h9) rfl dX0_has_7 ?_
    refine lv_icmp_gt (tgt := 17) hx hb dX0_has_10 (by decide) (fun c_10_2 => ?_) (fun c_10_2 => ?_)
    · have i_10 : (((I.k : Nat) : Int) : Int) < ((i : Nat) : Int) := q_lt c_10_2 (l_nI (by omega)) (l_nI (by omega))
      refine lv_iconst (v := 0) hx hb dX0_has_17 (by decide) ?_
      exact W.zret (v := 0) hx hb hr rfl (fun tz htz hWz => ⟨0, rfl, (by exfalso; omega), htz⟩) (fun _ h => nomatch h) dX0_has_18
    · have i_10 : (((i : Nat) : Int) : Int) ≤ ((I.k : Nat) : Int) := q_nlt c_10_2 (l_nI (by omega)) (l_nI (by omega))
      refine lv_iconst (v := 1) hx hb dX0_has_13 (by decide) ?_
      refine lv_goto (tgt := 18) hx hb dX0_has_14 (by decide) ?_
      exact W.zret (v := 1) hx hb hr rfl (fun tz htz hWz => ⟨1, rfl, rfl, htz⟩) (fun _ h => nomatch h) dX0_has_18
set_option maxHeartbeats 1000000 in
set_option maxRecDepth 100000 in
theorem c_X0_isGood (l : Launch) (g : GG) (a r : Nat → Nat) (I : IS) (p1 : Int32) (hk : I.k ≤ 20) : Met l yX0_isGood wsX0_isGood { frames := 1, cells := 0, slots := 0, locals := 21 } (va_Pc [.ref (a 0), .int p1] (Pr g (wI g a r I))) (vp_Si (fun rv => rv = bI ((1 ≤ p1.toInt ∧ p1.toInt ≤ (I.k : Int)) ∧ I.sp p1.toNatClampNeg = 0))) 0 0 (fun _ => False) := by
  refine Met.ofW (cc := cX0_isGood) (maxL := 2) (ret := (some .boolean)) (by decide) rfl ?_
  intro p e s m args below meth c s₁ B hml hv
  obtain ⟨rfl, hP, hK⟩ := hv
  have hx := B.exec
  have hb := B.bytes
  have hr := B.returns
  have hts := atoms_spec (ws := wsX0_isGood) B.pre
  have hown : s.vm.findClass RX0 = some m.cls := findClass_of_methodNamed B.named
  have hlocks := B.notSynchronized
  have hl := lv_entry ([.ref (a 0), .int p1]) (n := 2) (Nat.le_of_ble_eq_true rfl)
  rw [lg_entry_eq]
  generalize (lg_sl ([.ref (a 0), .int p1]) ++ List.replicate (2 - (lg_sl ([.ref (a 0), .int p1])).length) Slot.unset).toArray = ls at hl ⊢
  have hl : lv_has ls 2 [(0, .ref (a 0)), (1, .int p1)] := hl
  refine lv_aload_n hx hb dX0_isGood_0 rfl (lv_at hl 0 rfl) ?_
  refine lv_iload_n hx hb dX0_isGood_1 rfl (lv_at hl 1 rfl) ?_
  refine vp_callSi (va_Run.run (va_runV (As := [.int p1]) (rest := []) ⟨hx, hb, hml, hown, hts⟩ (c_X0_has l g a r I p1 (by omega)) (cwV 1 hts gX0_isGood_X0_has rfl rfl rfl (by decide +kernel) ⟨Nat.le_of_ble_eq_true rfl, Nat.le_of_ble_eq_true rfl⟩) (pv_r hK hP (ci := 2) (q0 := 0) rfl rfl [0, 1, 2, 3, 4] rfl) rfl rfl hl.1 rfl (lv_room (Nat.le_of_ble_eq_true rfl)) dX0_isGood_2 ⟨Nat.zero_le _, Nat.zero_le _⟩)) (fun r_2_1 h_2_1 => ?_)
  refine lv_if_eq (tgt := 21) hx hb dX0_isGood_5 (by decide) (fun c_5_1 => ?_) (fun c_5_1 => ?_)
  · have b_5 : ¬ (1 ≤ p1.toInt ∧ p1.toInt ≤ (I.k : Int)) := bI_f h_2_1 c_5_1
    refine lv_iconst (v := 0) hx hb dX0_isGood_21 (by decide) ?_
    exact W.zret (v := 0) hx hb hr rfl (fun tz htz hWz => ⟨0, rfl, (bI_0 (by first | exact ⟨by assumption, by assumption⟩ | exact fun h => absurd h.1 (by assumption) | exact fun h => absurd h.2 (by assumption))), htz⟩) (fun _ h => nomatch h) dX0_isGood_22
  · have b_5 : 1 ≤ p1.toInt ∧ p1.toInt ≤ (I.k : Int) := bI_t h_2_1 c_5_1
    refine lv_aload_n hx hb dX0_isGood_8 rfl (lv_at hl 0 rfl) ?_
    refine va_get (D := gD g) (ci := 2) (v := .ref (a 3)) (C := RX0) (T := TX0) (N := 6) hx hb hts (by decide +kernel) hown hK.1 hP 0 rfl rfl 2 (by decide) (hts (.fieldLink RX0 18 "LogForward$Images" "spoiled" "[Z") (by decide +kernel)) (fun _ h9 => h9) rfl dX0_isGood_9 ?_
    refine lv_iload_n hx hb dX0_isGood_12 rfl (lv_at hl 1 rfl) ?_
    refine ga_zald (v := (I.sp p1.toNatClampNeg)) hx hb hK.1 hP 3 2 rfl rfl (v_p (by omega) (by omega)) rfl dX0_isGood_13 ?_
    refine lv_if_ne (tgt := 21) hx hb dX0_isGood_14 (by decide) (fun c_14_2 => ?_) (fun c_14_2 => ?_)
    · have i_14 : ((I.sp p1.toNatClampNeg).toInt : Int) ≠ 0 := q_ne c_14_2 rfl rfl
      refine lv_iconst (v := 0) hx hb dX0_isGood_21 (by decide) ?_
      exact W.zret (v := 0) hx hb hr rfl (fun tz htz hWz => ⟨0, rfl, (bI_0 (by first | exact ⟨by assumption, by assumption⟩ | exact fun h => absurd h.1 (by assumption) | exact fun h => absurd h.2 (by assumption))), htz⟩) (fun _ h => nomatch h) dX0_isGood_22
    · have i_14 : ((I.sp p1.toNatClampNeg).toInt : Int) = 0 := q_eq c_14_2 rfl rfl
      refine lv_iconst (v := 1) hx hb dX0_isGood_17 (by decide) ?_
      refine lv_goto (tgt := 22) hx hb dX0_isGood_18 (by decide) ?_
      exact W.zret (v := 1) hx hb hr rfl (fun tz htz hWz => ⟨1, rfl, (bI_1 (by first | exact ⟨by assumption, by assumption⟩ | exact fun h => absurd h.1 (by assumption) | exact fun h => absurd h.2 (by assumption))), htz⟩) (fun _ h => nomatch h) dX0_isGood_22
set_option maxHeartbeats 1000000 in
set_option maxRecDepth 100000 in
theorem c_X0_startOf (l : Launch) (g : GG) (a r : Nat → Nat) (I : IS) (i : Nat) (hi1 : 1 ≤ i) (hi2 : i ≤ I.k) (hk : I.k ≤ 20) : Met l yX0_startOf wsX0_startOf { frames := 1, cells := 0, slots := 0, locals := 21 } (va_Pc [.ref (a 0), .int (nI (i))] (Pr g (wI g a r I))) (vp_Si (fun rv => rv = I.st i)) 0 0 (fun _ => False) := by
  refine Met.ofW (cc := cX0_startOf) (maxL := 2) (ret := (some .int)) (by decide) rfl ?_
  intro p e s m args below meth c s₁ B hml hv
  obtain ⟨rfl, hP, hK⟩ := hv
  have hx := B.exec
  have hb := B.bytes
  have hr := B.returns
  have hts := atoms_spec (ws := wsX0_startOf) B.pre
  have hown : s.vm.findClass RX0 = some m.cls := findClass_of_methodNamed B.named
  have hlocks := B.notSynchronized
  have hl := lv_entry ([.ref (a 0), .int (nI (i))]) (n := 2) (Nat.le_of_ble_eq_true rfl)
  rw [lg_entry_eq]
  generalize (lg_sl ([.ref (a 0), .int (nI (i))]) ++ List.replicate (2 - (lg_sl ([.ref (a 0), .int (nI (i))])).length) Slot.unset).toArray = ls at hl ⊢
  have hl : lv_has ls 2 [(0, .ref (a 0)), (1, .int (nI (i)))] := hl
  refine lv_aload_n hx hb dX0_startOf_0 rfl (lv_at hl 0 rfl) ?_
  refine lv_iload_n hx hb dX0_startOf_1 rfl (lv_at hl 1 rfl) ?_
  refine vp_callSi (va_Run.run (va_runV (As := [.int (nI (i))]) (rest := []) ⟨hx, hb, hml, hown, hts⟩ (c_X0_has_n l g a r I (i) (by omega) (by omega) (by omega)) (cwV 1 hts gX0_startOf_X0_has rfl rfl rfl (by decide +kernel) ⟨Nat.le_of_ble_eq_true rfl, Nat.le_of_ble_eq_true rfl⟩) (pv_r hK hP (ci := 2) (q0 := 0) rfl rfl [0, 1, 2, 3, 4] rfl) rfl rfl hl.1 rfl (lv_room (Nat.le_of_ble_eq_true rfl)) dX0_startOf_2 ⟨Nat.zero_le _, Nat.zero_le _⟩)) (fun r_2_1 h_2_1 => ?_)
  subst h_2_1
  refine lv_if_eq (tgt := 17) hx hb dX0_startOf_5 (by decide) (fun c_5_1 => ?_) (fun c_5_1 => ?_)
  · exact absurd c_5_1 (by decide)
  · skip
    refine lv_aload_n hx hb dX0_startOf_8 rfl (lv_at hl 0 rfl) ?_
    refine va_get (D := gD g) (ci := 2) (v := .ref (a 1)) (C := RX0) (T := TX0) (N := 6) hx hb hts (by decide +kernel) hown hK.1 hP 0 rfl rfl 0 (by decide) (hts (.fieldLink RX0 11 "LogForward$Images" "start" "[I") (by decide +kernel)) (fun _ h9 => h9) rfl dX0_startOf_9 ?_
    refine lv_iload_n hx hb dX0_startOf_12 rfl (lv_at hl 1 rfl) ?_
    refine ga_iald (v := (I.st i)) hx hb hK.1 hP 1 0 rfl rfl (v_nI (by omega) (by omega)) (by rw [(c_nI (by omega))]) dX0_startOf_13 ?_
    refine lv_goto (tgt := 18) hx hb dX0_startOf_14 (by decide) ?_
    exact W.iret (v := (I.st i)) hx hb hr (fun tz htz hWz => ⟨(I.st i), rfl, rfl, htz⟩) (fun _ h => nomatch h) dX0_startOf_18
set_option maxHeartbeats 1000000 in
set_option maxRecDepth 100000 in
theorem c_X0_endOf (l : Launch) (g : GG) (a r : Nat → Nat) (I : IS) (i : Nat) (hi1 : 1 ≤ i) (hi2 : i ≤ I.k) (hk : I.k ≤ 20) : Met l yX0_endOf wsX0_endOf { frames := 1, cells := 0, slots := 0, locals := 21 } (va_Pc [.ref (a 0), .int (nI (i))] (Pr g (wI g a r I))) (vp_Si (fun rv => rv = I.en i)) 0 0 (fun _ => False) := by
  refine Met.ofW (cc := cX0_endOf) (maxL := 2) (ret := (some .int)) (by decide) rfl ?_
  intro p e s m args below meth c s₁ B hml hv
  obtain ⟨rfl, hP, hK⟩ := hv
  have hx := B.exec
  have hb := B.bytes
  have hr := B.returns
  have hts := atoms_spec (ws := wsX0_endOf) B.pre
  have hown : s.vm.findClass RX0 = some m.cls := findClass_of_methodNamed B.named
  have hlocks := B.notSynchronized
  have hl := lv_entry ([.ref (a 0), .int (nI (i))]) (n := 2) (Nat.le_of_ble_eq_true rfl)
  rw [lg_entry_eq]
  generalize (lg_sl ([.ref (a 0), .int (nI (i))]) ++ List.replicate (2 - (lg_sl ([.ref (a 0), .int (nI (i))])).length) Slot.unset).toArray = ls at hl ⊢
  have hl : lv_has ls 2 [(0, .ref (a 0)), (1, .int (nI (i)))] := hl
  refine lv_aload_n hx hb dX0_endOf_0 rfl (lv_at hl 0 rfl) ?_
  refine lv_iload_n hx hb dX0_endOf_1 rfl (lv_at hl 1 rfl) ?_
  refine vp_callSi (va_Run.run (va_runV (As := [.int (nI (i))]) (rest := []) ⟨hx, hb, hml, hown, hts⟩ (c_X0_has_n l g a r I (i) (by omega) (by omega) (by omega)) (cwV 1 hts gX0_endOf_X0_has rfl rfl rfl (by decide +kernel) ⟨Nat.le_of_ble_eq_true rfl, Nat.le_of_ble_eq_true rfl⟩) (pv_r hK hP (ci := 2) (q0 := 0) rfl rfl [0, 1, 2, 3, 4] rfl) rfl rfl hl.1 rfl (lv_room (Nat.le_of_ble_eq_true rfl)) dX0_endOf_2 ⟨Nat.zero_le _, Nat.zero_le _⟩)) (fun r_2_1 h_2_1 => ?_)
  subst h_2_1
  refine lv_if_eq (tgt := 17) hx hb dX0_endOf_5 (by decide) (fun c_5_1 => ?_) (fun c_5_1 => ?_)
  · exact absurd c_5_1 (by decide)
  · skip
    refine lv_aload_n hx hb dX0_endOf_8 rfl (lv_at hl 0 rfl) ?_
    refine va_get (D := gD g) (ci := 2) (v := .ref (a 2)) (C := RX0) (T := TX0) (N := 6) hx hb hts (by decide +kernel) hown hK.1 hP 0 rfl rfl 1 (by decide) (hts (.fieldLink RX0 15 "LogForward$Images" "end" "[I") (by decide +kernel)) (fun _ h9 => h9) rfl dX0_endOf_9 ?_
    refine lv_iload_n hx hb dX0_endOf_12 rfl (lv_at hl 1 rfl) ?_
    refine ga_iald (v := (I.en i)) hx hb hK.1 hP 2 0 rfl rfl (v_nI (by omega) (by omega)) (by rw [(c_nI (by omega))]) dX0_endOf_13 ?_
    refine lv_goto (tgt := 18) hx hb dX0_endOf_14 (by decide) ?_
    exact W.iret (v := (I.en i)) hx hb hr (fun tz htz hWz => ⟨(I.en i), rfl, rfl, htz⟩) (fun _ h => nomatch h) dX0_endOf_18
set_option maxHeartbeats 1000000 in
set_option maxRecDepth 100000 in
theorem c_X0_finish (l : Launch) (g : GG) (a r : Nat → Nat) (ca : Nat) (I : IS) (cs : Nat → Int64) (sz : Nat) (row : Nat) (hrow : row ≤ 2000) (hk : I.k ≤ 20) : Met l yX0_finish wsX0_finish { frames := 1, cells := 0, slots := 0, locals := 64 } (va_Pc [.ref (a 0), .int (nI (row)), .ref ca] (Pw g ((wI g a r I ++ [(ca, .inl (gJ g, 32, .inr (.inl cs)))]) ++ wG g r I.M) sz)) (va_Qv (fun u => u = isF I row cs) (Bw g (va_A ((wI g a r I ++ [(ca, .inl (gJ g, 32, .inr (.inl cs)))]) ++ wG g r I.M) sz) (fun u : IS => (wI g a r u ++ [(ca, .inl (gJ g, 32, .inr (.inl cs)))]) ++ wG g r u.M)) (va_A ((wI g a r I ++ [(ca, .inl (gJ g, 32, .inr (.inl cs)))]) ++ wG g r I.M) sz)) 0 0 (va_A ((wI g a r I ++ [(ca, .inl (gJ g, 32, .inr (.inl cs)))]) ++ wG g r I.M) sz) := by
  refine Met.ofW (cc := cX0_finish) (maxL := 3) (ret := none) (by decide) rfl ?_
  intro p e s m args below meth c s₁ B hml hv
  obtain ⟨rfl, hsz, hP, hK, hD0⟩ := hv
  have hx := B.exec
  have hb := B.bytes
  have hr := B.returns
  have hts := atoms_spec (ws := wsX0_finish) B.pre
  have hown : s.vm.findClass RX0 = some m.cls := findClass_of_methodNamed B.named
  have hlocks := B.notSynchronized
  subst hsz
  have hD := hD0.self (sz := s.heap.size)
  generalize hAe : va_A (((wI g a r I ++ [(ca, .inl (gJ g, 32, .inr (.inl cs)))]) ++ wG g r I.M)) s.heap.size = A at hD ⊢
  have hA : ∀ q : Nat, s.heap.size ≤ q → A q := fun q h => by rw [← hAe]; exact Or.inr h
  have hS : va_S A s.heap s.heap [] := va_S.rf
  have hl := lv_entry ([.ref (a 0), .int (nI (row)), .ref ca]) (n := 3) (Nat.le_of_ble_eq_true rfl)
  rw [lg_entry_eq]
  generalize (lg_sl ([.ref (a 0), .int (nI (row)), .ref ca]) ++ List.replicate (3 - (lg_sl ([.ref (a 0), .int (nI (row)), .ref ca])).length) Slot.unset).toArray = ls at hl ⊢
  have hl : lv_has ls 3 [(0, .ref (a 0)), (1, .int (nI (row))), (2, .ref ca)] := hl
  replace hP : va_P (gD g) vwCl ([((a 0), .inr (2, [.ref (a 1), .ref (a 2), .ref (a 3), .ref (a 4), .int (nI (I.k)), .int I.uf])), ((a 1), .inl (gI g, 21, .inl I.st)), ((a 2), .inl (gI g, 21, .inl I.en)), ((a 3), .inl (gZ g, 21, .inl I.sp)), ((a 4), .inl (gG g, 21, .inr (.inr (.inr (.inr (gRow r)))))), (ca, .inl (gJ g, 32, .inr (.inl cs)))] ++ wG g r (I.M)) s.heap := hP
  replace hD : va_D A ([((a 0), .inr (2, [.ref (a 1), .ref (a 2), .ref (a 3), .ref (a 4), .int (nI (I.k)), .int I.uf])), ((a 1), .inl (gI g, 21, .inl I.st)), ((a 2), .inl (gI g, 21, .inl I.en)), ((a 3), .inl (gZ g, 21, .inl I.sp)), ((a 4), .inl (gG g, 21, .inr (.inr (.inr (.inr (gRow r)))))), (ca, .inl (gJ g, 32, .inr (.inl cs)))] ++ wG g r (I.M)) := hD
  refine lv_aload_n hx hb dX0_finish_0 rfl (lv_at hl 0 rfl) ?_
  refine va_get (D := gD g) (ci := 2) (v := .int I.uf) (C := RX0) (T := TX0) (N := 6) hx hb hts (by decide +kernel) hown hK.1 hP 0 rfl rfl 5 (by decide) (hts (.fieldLink RX0 31 "LogForward$Images" "latestIsUnfinished" "Z") (by decide +kernel)) (fun _ h9 => h9) rfl dX0_finish_1 ?_
  refine lv_if_ne (tgt := 8) hx hb dX0_finish_4 (by decide) (fun c_4_1 => ?_) (fun c_4_1 => ?_)
  · have i_4 : (I.uf.toInt : Int) ≠ 0 := q_ne c_4_1 rfl rfl
    refine lv_aload_n hx hb dX0_finish_8 rfl (lv_at hl 2 rfl) ?_
    refine lv_bipush (v := 16) hx hb dX0_finish_9 (by decide) ?_
    refine lv_aload_n hx hb dX0_finish_11 rfl (lv_at hl 0 rfl) ?_
    refine va_get (D := gD g) (ci := 2) (v := .ref (a 4)) (C := RX0) (T := TX0) (N := 6) hx hb hts (by decide +kernel) hown hK.1 hP 0 rfl rfl 3 (by decide) (hts (.fieldLink RX0 24 "LogForward$Images" "held" "[[J") (by decide +kernel)) (fun _ h9 => h9) rfl dX0_finish_12 ?_
    refine lv_aload_n hx hb dX0_finish_15 rfl (lv_at hl 0 rfl) ?_
    refine va_get (D := gD g) (ci := 2) (v := .int (nI (I.k))) (C := RX0) (T := TX0) (N := 6) hx hb hts (by decide +kernel) hown hK.1 hP 0 rfl rfl 4 (by decide) (hts (.fieldLink RX0 27 "LogForward$Images" "many" "I") (by decide +kernel)) (fun _ h9 => h9) rfl dX0_finish_16 ?_
    refine ga_aald (v := (r (I.k))) hx hb hK.1 hP 4 3 rfl rfl (v_nI (by omega) (by omega)) (by rw [(c_nI (by omega))]; exact gRow_at (by omega)) dX0_finish_19 ?_
    refine lv_bipush (v := 16) hx hb dX0_finish_20 (by decide) ?_
    refine lv_bipush (v := 16) hx hb dX0_finish_22 (by decide) ?_
    refine ga_cpTo (X := [((a 0), .inr (2, [.ref (a 1), .ref (a 2), .ref (a 3), .ref (a 4), .int (nI (I.k)), .int I.uf])), ((a 1), .inl (gI g, 21, .inl I.st)), ((a 2), .inl (gI g, 21, .inl I.en)), ((a 3), .inl (gZ g, 21, .inl I.sp)), ((a 4), .inl (gG g, 21, .inr (.inr (.inr (.inr (gRow r)))))), (ca, .inl (gJ g, 32, .inr (.inl cs)))]) hx hb (hml.trans hl.1.symm) hown (hts (.methodLink RX0 39 arraycopyName) (by decide +kernel)) (hts (.native arraycopyName) (by decide +kernel)) (hts (.static arraycopyName) (by decide +kernel)) (hts (.initialized "java/lang/System") (by decide +kernel)) hK.1 hP hD hS 5 32 rfl (xn := 6) rfl (i := I.k) (by omega) (sp' := 16) (dp' := 16) (n' := 16) rfl rfl rfl (by decide) (by decide) (by decide) (by decide) (by decide) (Nat.le_of_ble_eq_true rfl) (Nat.le_of_ble_eq_true rfl) dX0_finish_24 (fun H locs hP hD hS => ?_)
    have hP : va_P (gD g) vwCl ([((a 0), .inr (2, [.ref (a 1), .ref (a 2), .ref (a 3), .ref (a 4), .int (nI (I.k)), .int I.uf])), ((a 1), .inl (gI g, 21, .inl I.st)), ((a 2), .inl (gI g, 21, .inl I.en)), ((a 3), .inl (gZ g, 21, .inl I.sp)), ((a 4), .inl (gG g, 21, .inr (.inr (.inr (.inr (gRow r)))))), (ca, .inl (gJ g, 32, .inr (.inl cs)))] ++ wG g r (va_up (I.M) (I.k) (va_cpy cs ((I.M) (I.k)) 16 16 16))) H := hP
    have hD : va_D A ([((a 0), .inr (2, [.ref (a 1), .ref (a 2), .ref (a 3), .ref (a 4), .int (nI (I.k)), .int I.uf])), ((a 1), .inl (gI g, 21, .inl I.st)), ((a 2), .inl (gI g, 21, .inl I.en)), ((a 3), .inl (gZ g, 21, .inl I.sp)), ((a 4), .inl (gG g, 21, .inr (.inr (.inr (.inr (gRow r)))))), (ca, .inl (gJ g, 32, .inr (.inl cs)))] ++ wG g r (va_up (I.M) (I.k) (va_cpy cs ((I.M) (I.k)) 16 16 16))) := hD
    refine lv_aload_n hx hb dX0_finish_27 rfl (lv_at hl 0 rfl) ?_
    refine va_get (D := gD g) (ci := 2) (v := .ref (a 2)) (C := RX0) (T := TX0) (N := 6) hx hb hts (by decide +kernel) hown hK.1 hP 0 rfl rfl 1 (by decide) (hts (.fieldLink RX0 15 "LogForward$Images" "end" "[I") (by decide +kernel)) (fun _ h9 => h9) rfl dX0_finish_28 ?_
    refine lv_aload_n hx hb dX0_finish_31 rfl (lv_at hl 0 rfl) ?_
    refine va_get (D := gD g) (ci := 2) (v := .int (nI (I.k))) (C := RX0) (T := TX0) (N := 6) hx hb hts (by decide +kernel) hown hK.1 hP 0 rfl rfl 4 (by decide) (hts (.fieldLink RX0 27 "LogForward$Images" "many" "I") (by decide +kernel)) (fun _ h9 => h9) rfl dX0_finish_32 ?_
    refine lv_iload_n hx hb dX0_finish_35 rfl (lv_at hl 1 rfl) ?_
    refine ga_iast (j := I.k) hx hb hK.1 hP hD hS 2 0 rfl rfl (v_nI (by omega) (by omega)) (c_nI (by omega)) dX0_finish_36 (fun H locs hP hD hS => ?_)
    have hP : va_P (gD g) vwCl ([((a 0), .inr (2, [.ref (a 1), .ref (a 2), .ref (a 3), .ref (a 4), .int (nI (I.k)), .int I.uf])), ((a 1), .inl (gI g, 21, .inl I.st)), ((a 2), .inl (gI g, 21, .inl (upd I.en (I.k) (nI (row))))), ((a 3), .inl (gZ g, 21, .inl I.sp)), ((a 4), .inl (gG g, 21, .inr (.inr (.inr (.inr (gRow r)))))), (ca, .inl (gJ g, 32, .inr (.inl cs)))] ++ wG g r (va_up (I.M) (I.k) (va_cpy cs ((I.M) (I.k)) 16 16 16))) H := hP
    have hD : va_D A ([((a 0), .inr (2, [.ref (a 1), .ref (a 2), .ref (a 3), .ref (a 4), .int (nI (I.k)), .int I.uf])), ((a 1), .inl (gI g, 21, .inl I.st)), ((a 2), .inl (gI g, 21, .inl (upd I.en (I.k) (nI (row))))), ((a 3), .inl (gZ g, 21, .inl I.sp)), ((a 4), .inl (gG g, 21, .inr (.inr (.inr (.inr (gRow r)))))), (ca, .inl (gJ g, 32, .inr (.inl cs)))] ++ wG g r (va_up (I.M) (I.k) (va_cpy cs ((I.M) (I.k)) 16 16 16))) := hD
    refine lv_aload_n hx hb dX0_finish_37 rfl (lv_at hl 0 rfl) ?_
    refine lv_iconst (v := 0) hx hb dX0_finish_38 (by decide) ?_
    refine va_put (D := gD g) (ci := 2) (v := .int 0) (ty := .boolean) (C := RX0) (T := TX0) (N := 6) hx hb hts (by decide +kernel) tyX0 tyX0_ok nmX0 hown hK.1 hP hD hS 0 rfl rfl 5 (by decide) (hts (.fieldLink RX0 31 "LogForward$Images" "latestIsUnfinished" "Z") (by decide +kernel)) (fun _ h9 => h9) rfl (by decide +kernel) rfl rfl (Nat.le_of_ble_eq_true rfl) dX0_finish_39 (fun H locs hP hD hS => ?_)
    have hP : va_P (gD g) vwCl ([((a 0), .inr (2, [.ref (a 1), .ref (a 2), .ref (a 3), .ref (a 4), .int (nI (I.k)), .int 0])), ((a 1), .inl (gI g, 21, .inl I.st)), ((a 2), .inl (gI g, 21, .inl (upd I.en (I.k) (nI (row))))), ((a 3), .inl (gZ g, 21, .inl I.sp)), ((a 4), .inl (gG g, 21, .inr (.inr (.inr (.inr (gRow r)))))), (ca, .inl (gJ g, 32, .inr (.inl cs)))] ++ wG g r (va_up (I.M) (I.k) (va_cpy cs ((I.M) (I.k)) 16 16 16))) H := hP
    have hD : va_D A ([((a 0), .inr (2, [.ref (a 1), .ref (a 2), .ref (a 3), .ref (a 4), .int (nI (I.k)), .int 0])), ((a 1), .inl (gI g, 21, .inl I.st)), ((a 2), .inl (gI g, 21, .inl (upd I.en (I.k) (nI (row))))), ((a 3), .inl (gZ g, 21, .inl I.sp)), ((a 4), .inl (gG g, 21, .inr (.inr (.inr (.inr (gRow r)))))), (ca, .inl (gJ g, 32, .inr (.inl cs)))] ++ wG g r (va_up (I.M) (I.k) (va_cpy cs ((I.M) (I.k)) 16 16 16))) := hD
    have hP9 : va_P (gD g) vwCl ((wI g a r (I.st, (upd I.en (I.k) (nI (row))), I.sp, va_up (I.M) (I.k) (va_cpy cs ((I.M) (I.k)) 16 16 16), I.k, 0) ++ [(ca, .inl (gJ g, 32, .inr (.inl cs)))]) ++ wG g r (IS.M (I.st, (upd I.en (I.k) (nI (row))), I.sp, va_up (I.M) (I.k) (va_cpy cs ((I.M) (I.k)) 16 16 16), I.k, 0))) H := hP
    have hD9 : va_D A ((wI g a r (I.st, (upd I.en (I.k) (nI (row))), I.sp, va_up (I.M) (I.k) (va_cpy cs ((I.M) (I.k)) 16 16 16), I.k, 0) ++ [(ca, .inl (gJ g, 32, .inr (.inl cs)))]) ++ wG g r (IS.M (I.st, (upd I.en (I.k) (nI (row))), I.sp, va_up (I.M) (I.k) (va_cpy cs ((I.M) (I.k)) 16 16 16), I.k, 0))) := hD
    exact W.vret hx hb hr (fun t ht hW => ⟨⟨(I.st, (upd I.en (I.k) (nI (row))), I.sp, va_up (I.M) (I.k) (va_cpy cs ((I.M) (I.k)) 16 16 16), I.k, 0), rfl, (by simp [isF, c_4_1]), by rw [ht]; exact hP9, hD9⟩, hS.F ht⟩) hS.2.2 dX0_finish_42
  · have i_4 : (I.uf.toInt : Int) = 0 := q_eq c_4_1 rfl rfl
    have hP9 : va_P (gD g) vwCl ((wI g a r I ++ [(ca, .inl (gJ g, 32, .inr (.inl cs)))]) ++ wG g r (IS.M I)) s.heap := hP
    have hD9 : va_D A ((wI g a r I ++ [(ca, .inl (gJ g, 32, .inr (.inl cs)))]) ++ wG g r (IS.M I)) := hD
    exact W.vret hx hb hr (fun t ht hW => ⟨⟨I, rfl, (by simp [isF, c_4_1]), by rw [ht]; exact hP9, hD9⟩, hS.F ht⟩) hS.2.2 dX0_finish_7
set_option maxHeartbeats 1000000 in
set_option maxRecDepth 100000 in
theorem c_X0_finishBehindFifth (l : Launch) (g : GG) (a r : Nat → Nat) (ca : Nat) (I : IS) (cs : Nat → Int64) (sz : Nat) (row : Nat) (hrow : row ≤ 2000) (hk : I.k ≤ 20) : Met l yX0_finishBehindFifth wsX0_finishBehindFifth { frames := 2, cells := 0, slots := 0, locals := 86 } (va_Pc [.ref (a 0), .int (nI (row)), .ref ca] (Pw g ((wI g a r I ++ [(ca, .inl (gJ g, 32, .inr (.inl cs)))]) ++ wG g r I.M) sz)) (va_Qv (fun u => u = if (5 : Int) ≤ (nI row - I.st I.k).toInt then isF I row cs else I) (Bw g (va_A ((wI g a r I ++ [(ca, .inl (gJ g, 32, .inr (.inl cs)))]) ++ wG g r I.M) sz) (fun u : IS => (wI g a r u ++ [(ca, .inl (gJ g, 32, .inr (.inl cs)))]) ++ wG g r u.M)) (va_A ((wI g a r I ++ [(ca, .inl (gJ g, 32, .inr (.inl cs)))]) ++ wG g r I.M) sz)) 0 0 (va_A ((wI g a r I ++ [(ca, .inl (gJ g, 32, .inr (.inl cs)))]) ++ wG g r I.M) sz) := by
  refine Met.ofW (cc := cX0_finishBehindFifth) (maxL := 3) (ret := none) (by decide) rfl ?_
  intro p e s m args below meth c s₁ B hml hv
  obtain ⟨rfl, hsz, hP, hK, hD0⟩ := hv
  have hx := B.exec
  have hb := B.bytes
  have hr := B.returns
  have hts := atoms_spec (ws := wsX0_finishBehindFifth) B.pre
  have hown : s.vm.findClass RX0 = some m.cls := findClass_of_methodNamed B.named
  have hlocks := B.notSynchronized
  subst hsz
  have hD := hD0.self (sz := s.heap.size)
  generalize hAe : va_A (((wI g a r I ++ [(ca, .inl (gJ g, 32, .inr (.inl cs)))]) ++ wG g r I.M)) s.heap.size = A at hD ⊢
  have hA : ∀ q : Nat, s.heap.size ≤ q → A q := fun q h => by rw [← hAe]; exact Or.inr h
  have hS : va_S A s.heap s.heap [] := va_S.rf
  have hl := lv_entry ([.ref (a 0), .int (nI (row)), .ref ca]) (n := 3) (Nat.le_of_ble_eq_true rfl)
  rw [lg_entry_eq]
  generalize (lg_sl ([.ref (a 0), .int (nI (row)), .ref ca]) ++ List.replicate (3 - (lg_sl ([.ref (a 0), .int (nI (row)), .ref ca])).length) Slot.unset).toArray = ls at hl ⊢
  have hl : lv_has ls 3 [(0, .ref (a 0)), (1, .int (nI (row))), (2, .ref ca)] := hl
  replace hP : va_P (gD g) vwCl ([((a 0), .inr (2, [.ref (a 1), .ref (a 2), .ref (a 3), .ref (a 4), .int (nI (I.k)), .int I.uf])), ((a 1), .inl (gI g, 21, .inl I.st)), ((a 2), .inl (gI g, 21, .inl I.en)), ((a 3), .inl (gZ g, 21, .inl I.sp)), ((a 4), .inl (gG g, 21, .inr (.inr (.inr (.inr (gRow r)))))), (ca, .inl (gJ g, 32, .inr (.inl cs)))] ++ wG g r (I.M)) s.heap := hP
  replace hD : va_D A ([((a 0), .inr (2, [.ref (a 1), .ref (a 2), .ref (a 3), .ref (a 4), .int (nI (I.k)), .int I.uf])), ((a 1), .inl (gI g, 21, .inl I.st)), ((a 2), .inl (gI g, 21, .inl I.en)), ((a 3), .inl (gZ g, 21, .inl I.sp)), ((a 4), .inl (gG g, 21, .inr (.inr (.inr (.inr (gRow r)))))), (ca, .inl (gJ g, 32, .inr (.inl cs)))] ++ wG g r (I.M)) := hD
  refine lv_iload_n hx hb dX0_finishBehindFifth_0 rfl (lv_at hl 1 rfl) ?_
  refine lv_aload_n hx hb dX0_finishBehindFifth_1 rfl (lv_at hl 0 rfl) ?_
  refine va_get (D := gD g) (ci := 2) (v := .ref (a 1)) (C := RX0) (T := TX0) (N := 6) hx hb hts (by decide +kernel) hown hK.1 hP 0 rfl rfl 0 (by decide) (hts (.fieldLink RX0 11 "LogForward$Images" "start" "[I") (by decide +kernel)) (fun _ h9 => h9) rfl dX0_finishBehindFifth_2 ?_
  refine lv_aload_n hx hb dX0_finishBehindFifth_5 rfl (lv_at hl 0 rfl) ?_
  refine va_get (D := gD g) (ci := 2) (v := .int (nI (I.k))) (C := RX0) (T := TX0) (N := 6) hx hb hts (by decide +kernel) hown hK.1 hP 0 rfl rfl 4 (by decide) (hts (.fieldLink RX0 27 "LogForward$Images" "many" "I") (by decide +kernel)) (fun _ h9 => h9) rfl dX0_finishBehindFifth_6 ?_
  refine ga_iald (v := (I.st I.k)) hx hb hK.1 hP 1 0 rfl rfl (v_nI (by omega) (by omega)) (by rw [(c_nI (by omega))]) dX0_finishBehindFifth_9 ?_
  refine ga_isub (v := ((nI (row)) - (I.st I.k))) hx hb (rfl) dX0_finishBehindFifth_10 ?_
  refine lv_iconst (v := 5) hx hb dX0_finishBehindFifth_11 (by decide) ?_
  refine lv_icmp_lt (tgt := 21) hx hb dX0_finishBehindFifth_12 (by decide) (fun c_12_1 => ?_) (fun c_12_1 => ?_)
  · have i_12 : (((nI (row)) - (I.st I.k)).toInt : Int) < 5 := q_lt c_12_1 rfl rfl
    have hP9 : va_P (gD g) vwCl ((wI g a r I ++ [(ca, .inl (gJ g, 32, .inr (.inl cs)))]) ++ wG g r (IS.M I)) s.heap := hP
    have hD9 : va_D A ((wI g a r I ++ [(ca, .inl (gJ g, 32, .inr (.inl cs)))]) ++ wG g r (IS.M I)) := hD
    exact W.vret hx hb hr (fun t ht hW => ⟨⟨I, rfl, (by rw [if_neg (by omega)]), by rw [ht]; exact hP9, hD9⟩, hS.F ht⟩) hS.2.2 dX0_finishBehindFifth_21
  · have i_12 : (5 : Int) ≤ ((nI (row)) - (I.st I.k)).toInt := q_nlt c_12_1 rfl rfl
    refine lv_aload_n hx hb dX0_finishBehindFifth_15 rfl (lv_at hl 0 rfl) ?_
    refine lv_iload_n hx hb dX0_finishBehindFifth_16 rfl (lv_at hl 1 rfl) ?_
    refine lv_aload_n hx hb dX0_finishBehindFifth_17 rfl (lv_at hl 2 rfl) ?_
    refine ca_v (ws := [((a 0), .inr (2, [.ref (a 1), .ref (a 2), .ref (a 3), .ref (a 4), .int (nI (I.k)), .int I.uf])), ((a 1), .inl (gI g, 21, .inl I.st)), ((a 2), .inl (gI g, 21, .inl I.en)), ((a 3), .inl (gZ g, 21, .inl I.sp)), ((a 4), .inl (gG g, 21, .inr (.inr (.inr (.inr (gRow r)))))), (ca, .inl (gJ g, 32, .inr (.inl cs)))] ++ wG g r (I.M)) (va_runV (As := [.int (nI (row)), .ref ca]) (rest := []) ⟨hx, hb, hml, hown, hts⟩ (c_X0_finish l g a r ca I cs s.heap.size (row) (by omega) (by omega)) (cwV 2 hts gX0_finishBehindFifth_X0_finish rfl rfl rfl (by decide +kernel) ⟨Nat.le_of_ble_eq_true rfl, Nat.le_of_ble_eq_true rfl⟩) (pv_w hK hP (ci := 2) (q0 := 0) rfl rfl hP hD) rfl rfl hl.1 rfl (lv_room (Nat.le_of_ble_eq_true rfl)) dX0_finishBehindFifth_18 ⟨Nat.zero_le _, Nat.zero_le _⟩) hD hS hA (fun u_18_2 H locs h_18_2 hP hD hS => ?_)
    replace hP : va_P (gD g) vwCl ([((a 0), .inr (2, [.ref (a 1), .ref (a 2), .ref (a 3), .ref (a 4), .int (nI (u_18_2.k)), .int u_18_2.uf])), ((a 1), .inl (gI g, 21, .inl u_18_2.st)), ((a 2), .inl (gI g, 21, .inl u_18_2.en)), ((a 3), .inl (gZ g, 21, .inl u_18_2.sp)), ((a 4), .inl (gG g, 21, .inr (.inr (.inr (.inr (gRow r)))))), (ca, .inl (gJ g, 32, .inr (.inl cs)))] ++ wG g r (u_18_2.M)) H := hP
    replace hD : va_D A ([((a 0), .inr (2, [.ref (a 1), .ref (a 2), .ref (a 3), .ref (a 4), .int (nI (u_18_2.k)), .int u_18_2.uf])), ((a 1), .inl (gI g, 21, .inl u_18_2.st)), ((a 2), .inl (gI g, 21, .inl u_18_2.en)), ((a 3), .inl (gZ g, 21, .inl u_18_2.sp)), ((a 4), .inl (gG g, 21, .inr (.inr (.inr (.inr (gRow r)))))), (ca, .inl (gJ g, 32, .inr (.inl cs)))] ++ wG g r (u_18_2.M)) := hD
    have hP9 : va_P (gD g) vwCl ((wI g a r (u_18_2.st, u_18_2.en, u_18_2.sp, u_18_2.M, u_18_2.k, u_18_2.uf) ++ [(ca, .inl (gJ g, 32, .inr (.inl cs)))]) ++ wG g r (IS.M (u_18_2.st, u_18_2.en, u_18_2.sp, u_18_2.M, u_18_2.k, u_18_2.uf))) H := hP
    have hD9 : va_D A ((wI g a r (u_18_2.st, u_18_2.en, u_18_2.sp, u_18_2.M, u_18_2.k, u_18_2.uf) ++ [(ca, .inl (gJ g, 32, .inr (.inl cs)))]) ++ wG g r (IS.M (u_18_2.st, u_18_2.en, u_18_2.sp, u_18_2.M, u_18_2.k, u_18_2.uf))) := hD
    exact W.vret hx hb hr (fun t ht hW => ⟨⟨(u_18_2.st, u_18_2.en, u_18_2.sp, u_18_2.M, u_18_2.k, u_18_2.uf), rfl, (by rw [if_pos (by omega)]; exact h_18_2), by rw [ht]; exact hP9, hD9⟩, hS.F ht⟩) hS.2.2 dX0_finishBehindFifth_21
set_option maxHeartbeats 1000000 in
set_option maxRecDepth 100000 in
theorem c_X0_take (l : Launch) (g : GG) (a r : Nat → Nat) (ca : Nat) (I : IS) (cs : Nat → Int64) (sz : Nat) (z : Int32) (row : Nat) (hrow : row ≤ 2000) (hz : z = 0 ∨ z = 1) (hk : I.k ≤ 20) : Met l yX0_take wsX0_take { frames := 1, cells := 0, slots := 0, locals := 64 } (va_Pc [.ref (a 0), .int z, .int (nI (row)), .ref ca] (Pw g ((wI g a r I ++ [(ca, .inl (gJ g, 32, .inr (.inl cs)))]) ++ wG g r I.M) sz)) (va_Qi (fun rv u => (rv = -1 ∧ u = I ∧ 20 ≤ I.k) ∨ (rv = nI (I.k + 1) ∧ u = isT I z row cs ∧ I.k < 20)) (Bw g (va_A ((wI g a r I ++ [(ca, .inl (gJ g, 32, .inr (.inl cs)))]) ++ wG g r I.M) sz) (fun u : IS => (wI g a r u ++ [(ca, .inl (gJ g, 32, .inr (.inl cs)))]) ++ wG g r u.M)) (va_A ((wI g a r I ++ [(ca, .inl (gJ g, 32, .inr (.inl cs)))]) ++ wG g r I.M) sz)) 0 0 (va_A ((wI g a r I ++ [(ca, .inl (gJ g, 32, .inr (.inl cs)))]) ++ wG g r I.M) sz) := by
  refine Met.ofW (cc := cX0_take) (maxL := 5) (ret := (some .int)) (by decide) rfl ?_
  intro p e s m args below meth c s₁ B hml hv
  obtain ⟨rfl, hsz, hP, hK, hD0⟩ := hv
  have hx := B.exec
  have hb := B.bytes
  have hr := B.returns
  have hts := atoms_spec (ws := wsX0_take) B.pre
  have hown : s.vm.findClass RX0 = some m.cls := findClass_of_methodNamed B.named
  have hlocks := B.notSynchronized
  subst hsz
  have hD := hD0.self (sz := s.heap.size)
  generalize hAe : va_A (((wI g a r I ++ [(ca, .inl (gJ g, 32, .inr (.inl cs)))]) ++ wG g r I.M)) s.heap.size = A at hD ⊢
  have hA : ∀ q : Nat, s.heap.size ≤ q → A q := fun q h => by rw [← hAe]; exact Or.inr h
  have hS : va_S A s.heap s.heap [] := va_S.rf
  have hl := lv_entry ([.ref (a 0), .int z, .int (nI (row)), .ref ca]) (n := 5) (Nat.le_of_ble_eq_true rfl)
  rw [lg_entry_eq]
  generalize (lg_sl ([.ref (a 0), .int z, .int (nI (row)), .ref ca]) ++ List.replicate (5 - (lg_sl ([.ref (a 0), .int z, .int (nI (row)), .ref ca])).length) Slot.unset).toArray = ls at hl ⊢
  have hl : lv_has ls 5 [(0, .ref (a 0)), (1, .int z), (2, .int (nI (row))), (3, .ref ca)] := hl
  replace hP : va_P (gD g) vwCl ([((a 0), .inr (2, [.ref (a 1), .ref (a 2), .ref (a 3), .ref (a 4), .int (nI (I.k)), .int I.uf])), ((a 1), .inl (gI g, 21, .inl I.st)), ((a 2), .inl (gI g, 21, .inl I.en)), ((a 3), .inl (gZ g, 21, .inl I.sp)), ((a 4), .inl (gG g, 21, .inr (.inr (.inr (.inr (gRow r)))))), (ca, .inl (gJ g, 32, .inr (.inl cs)))] ++ wG g r (I.M)) s.heap := hP
  replace hD : va_D A ([((a 0), .inr (2, [.ref (a 1), .ref (a 2), .ref (a 3), .ref (a 4), .int (nI (I.k)), .int I.uf])), ((a 1), .inl (gI g, 21, .inl I.st)), ((a 2), .inl (gI g, 21, .inl I.en)), ((a 3), .inl (gZ g, 21, .inl I.sp)), ((a 4), .inl (gG g, 21, .inr (.inr (.inr (.inr (gRow r)))))), (ca, .inl (gJ g, 32, .inr (.inl cs)))] ++ wG g r (I.M)) := hD
  refine lv_aload_n hx hb dX0_take_0 rfl (lv_at hl 0 rfl) ?_
  refine va_get (D := gD g) (ci := 2) (v := .int (nI (I.k))) (C := RX0) (T := TX0) (N := 6) hx hb hts (by decide +kernel) hown hK.1 hP 0 rfl rfl 4 (by decide) (hts (.fieldLink RX0 27 "LogForward$Images" "many" "I") (by decide +kernel)) (fun _ h9 => h9) rfl dX0_take_1 ?_
  refine lv_bipush (v := 20) hx hb dX0_take_4 (by decide) ?_
  refine lv_icmp_lt (tgt := 11) hx hb dX0_take_6 (by decide) (fun c_6_1 => ?_) (fun c_6_1 => ?_)
  · have i_6 : (((I.k : Nat) : Int) : Int) < 20 := q_lt c_6_1 (l_nI (by omega)) rfl
    refine lv_aload_n hx hb dX0_take_11 rfl (lv_at hl 0 rfl) ?_
    refine lv_dup hx hb dX0_take_12 rfl ?_
    refine va_get (D := gD g) (ci := 2) (v := .int (nI (I.k))) (C := RX0) (T := TX0) (N := 6) hx hb hts (by decide +kernel) hown hK.1 hP 0 rfl rfl 4 (by decide) (hts (.fieldLink RX0 27 "LogForward$Images" "many" "I") (by decide +kernel)) (fun _ h9 => h9) rfl dX0_take_13 ?_
    refine lv_iconst (v := 1) hx hb dX0_take_16 (by decide) ?_
    refine ga_iadd (v := (nI (I.k + 1))) hx hb (nI_1 _) dX0_take_17 ?_
    refine va_put (D := gD g) (ci := 2) (v := .int (nI (I.k + 1))) (ty := .int) (C := RX0) (T := TX0) (N := 6) hx hb hts (by decide +kernel) tyX0 tyX0_ok nmX0 hown hK.1 hP hD hS 0 rfl rfl 4 (by decide) (hts (.fieldLink RX0 27 "LogForward$Images" "many" "I") (by decide +kernel)) (fun _ h9 => h9) rfl (by decide +kernel) rfl rfl (Nat.le_of_ble_eq_true rfl) dX0_take_18 (fun H locs hP hD hS => ?_)
    have hP : va_P (gD g) vwCl ([((a 0), .inr (2, [.ref (a 1), .ref (a 2), .ref (a 3), .ref (a 4), .int (nI (I.k + 1)), .int I.uf])), ((a 1), .inl (gI g, 21, .inl I.st)), ((a 2), .inl (gI g, 21, .inl I.en)), ((a 3), .inl (gZ g, 21, .inl I.sp)), ((a 4), .inl (gG g, 21, .inr (.inr (.inr (.inr (gRow r)))))), (ca, .inl (gJ g, 32, .inr (.inl cs)))] ++ wG g r (I.M)) H := hP
    have hD : va_D A ([((a 0), .inr (2, [.ref (a 1), .ref (a 2), .ref (a 3), .ref (a 4), .int (nI (I.k + 1)), .int I.uf])), ((a 1), .inl (gI g, 21, .inl I.st)), ((a 2), .inl (gI g, 21, .inl I.en)), ((a 3), .inl (gZ g, 21, .inl I.sp)), ((a 4), .inl (gG g, 21, .inr (.inr (.inr (.inr (gRow r)))))), (ca, .inl (gJ g, 32, .inr (.inl cs)))] ++ wG g r (I.M)) := hD
    refine lv_aload_n hx hb dX0_take_21 rfl (lv_at hl 0 rfl) ?_
    refine va_get (D := gD g) (ci := 2) (v := .ref (a 1)) (C := RX0) (T := TX0) (N := 6) hx hb hts (by decide +kernel) hown hK.1 hP 0 rfl rfl 0 (by decide) (hts (.fieldLink RX0 11 "LogForward$Images" "start" "[I") (by decide +kernel)) (fun _ h9 => h9) rfl dX0_take_22 ?_
    refine lv_aload_n hx hb dX0_take_25 rfl (lv_at hl 0 rfl) ?_
    refine va_get (D := gD g) (ci := 2) (v := .int (nI (I.k + 1))) (C := RX0) (T := TX0) (N := 6) hx hb hts (by decide +kernel) hown hK.1 hP 0 rfl rfl 4 (by decide) (hts (.fieldLink RX0 27 "LogForward$Images" "many" "I") (by decide +kernel)) (fun _ h9 => h9) rfl dX0_take_26 ?_
    refine lv_iload_n hx hb dX0_take_29 rfl (lv_at hl 2 rfl) ?_
    refine ga_iast (j := I.k + 1) hx hb hK.1 hP hD hS 1 0 rfl rfl (v_nI (by omega) (by omega)) (c_nI (by omega)) dX0_take_30 (fun H locs hP hD hS => ?_)
    have hP : va_P (gD g) vwCl ([((a 0), .inr (2, [.ref (a 1), .ref (a 2), .ref (a 3), .ref (a 4), .int (nI (I.k + 1)), .int I.uf])), ((a 1), .inl (gI g, 21, .inl (upd I.st (I.k + 1) (nI (row))))), ((a 2), .inl (gI g, 21, .inl I.en)), ((a 3), .inl (gZ g, 21, .inl I.sp)), ((a 4), .inl (gG g, 21, .inr (.inr (.inr (.inr (gRow r)))))), (ca, .inl (gJ g, 32, .inr (.inl cs)))] ++ wG g r (I.M)) H := hP
    have hD : va_D A ([((a 0), .inr (2, [.ref (a 1), .ref (a 2), .ref (a 3), .ref (a 4), .int (nI (I.k + 1)), .int I.uf])), ((a 1), .inl (gI g, 21, .inl (upd I.st (I.k + 1) (nI (row))))), ((a 2), .inl (gI g, 21, .inl I.en)), ((a 3), .inl (gZ g, 21, .inl I.sp)), ((a 4), .inl (gG g, 21, .inr (.inr (.inr (.inr (gRow r)))))), (ca, .inl (gJ g, 32, .inr (.inl cs)))] ++ wG g r (I.M)) := hD
    refine lv_aload_n hx hb dX0_take_31 rfl (lv_at hl 0 rfl) ?_
    refine va_get (D := gD g) (ci := 2) (v := .ref (a 2)) (C := RX0) (T := TX0) (N := 6) hx hb hts (by decide +kernel) hown hK.1 hP 0 rfl rfl 1 (by decide) (hts (.fieldLink RX0 15 "LogForward$Images" "end" "[I") (by decide +kernel)) (fun _ h9 => h9) rfl dX0_take_32 ?_
    refine lv_aload_n hx hb dX0_take_35 rfl (lv_at hl 0 rfl) ?_
    refine va_get (D := gD g) (ci := 2) (v := .int (nI (I.k + 1))) (C := RX0) (T := TX0) (N := 6) hx hb hts (by decide +kernel) hown hK.1 hP 0 rfl rfl 4 (by decide) (hts (.fieldLink RX0 27 "LogForward$Images" "many" "I") (by decide +kernel)) (fun _ h9 => h9) rfl dX0_take_36 ?_
    refine lv_iload_n hx hb dX0_take_39 rfl (lv_at hl 2 rfl) ?_
    refine ga_iast (j := I.k + 1) hx hb hK.1 hP hD hS 2 0 rfl rfl (v_nI (by omega) (by omega)) (c_nI (by omega)) dX0_take_40 (fun H locs hP hD hS => ?_)
    have hP : va_P (gD g) vwCl ([((a 0), .inr (2, [.ref (a 1), .ref (a 2), .ref (a 3), .ref (a 4), .int (nI (I.k + 1)), .int I.uf])), ((a 1), .inl (gI g, 21, .inl (upd I.st (I.k + 1) (nI (row))))), ((a 2), .inl (gI g, 21, .inl (upd I.en (I.k + 1) (nI (row))))), ((a 3), .inl (gZ g, 21, .inl I.sp)), ((a 4), .inl (gG g, 21, .inr (.inr (.inr (.inr (gRow r)))))), (ca, .inl (gJ g, 32, .inr (.inl cs)))] ++ wG g r (I.M)) H := hP
    have hD : va_D A ([((a 0), .inr (2, [.ref (a 1), .ref (a 2), .ref (a 3), .ref (a 4), .int (nI (I.k + 1)), .int I.uf])), ((a 1), .inl (gI g, 21, .inl (upd I.st (I.k + 1) (nI (row))))), ((a 2), .inl (gI g, 21, .inl (upd I.en (I.k + 1) (nI (row))))), ((a 3), .inl (gZ g, 21, .inl I.sp)), ((a 4), .inl (gG g, 21, .inr (.inr (.inr (.inr (gRow r)))))), (ca, .inl (gJ g, 32, .inr (.inl cs)))] ++ wG g r (I.M)) := hD
    refine lv_iload_n hx hb dX0_take_41 rfl (lv_at hl 1 rfl) ?_
    refine lv_if_eq (tgt := 50) hx hb dX0_take_42 (by decide) (fun c_42_2 => ?_) (fun c_42_2 => ?_)
    · have i_42 : (z.toInt : Int) = 0 := q_eq c_42_2 rfl rfl
      refine lv_bipush (v := 32) hx hb dX0_take_50 (by decide) ?_
      refine lv_istore (lv' := [(4, .int 32), (0, .ref (a 0)), (1, .int z), (2, .int (nI (row))), (3, .ref ca)]) hx hb dX0_take_52 hl (by decide) rfl (fun ls hl => ?_)
      refine lv_aload_n hx hb dX0_take_54 rfl (lv_at hl 4 rfl) ?_
      refine lv_iconst (v := 0) hx hb dX0_take_55 (by decide) ?_
      refine lv_aload_n hx hb dX0_take_56 rfl (lv_at hl 1 rfl) ?_
      refine va_get (D := gD g) (ci := 2) (v := .ref (a 4)) (C := RX0) (T := TX0) (N := 6) hx hb hts (by decide +kernel) hown hK.1 hP 0 rfl rfl 3 (by decide) (hts (.fieldLink RX0 24 "LogForward$Images" "held" "[[J") (by decide +kernel)) (fun _ h9 => h9) rfl dX0_take_57 ?_
      refine lv_aload_n hx hb dX0_take_60 rfl (lv_at hl 1 rfl) ?_
      refine va_get (D := gD g) (ci := 2) (v := .int (nI (I.k + 1))) (C := RX0) (T := TX0) (N := 6) hx hb hts (by decide +kernel) hown hK.1 hP 0 rfl rfl 4 (by decide) (hts (.fieldLink RX0 27 "LogForward$Images" "many" "I") (by decide +kernel)) (fun _ h9 => h9) rfl dX0_take_61 ?_
      refine ga_aald (v := (r (I.k + 1))) hx hb hK.1 hP 4 3 rfl rfl (v_nI (by omega) (by omega)) (by rw [(c_nI (by omega))]; exact gRow_at (by omega)) dX0_take_64 ?_
      refine lv_iconst (v := 0) hx hb dX0_take_65 (by decide) ?_
      refine lv_iload hx hb dX0_take_66 (lv_at hl 0 rfl) ?_
      refine ga_cpTo (X := [((a 0), .inr (2, [.ref (a 1), .ref (a 2), .ref (a 3), .ref (a 4), .int (nI (I.k + 1)), .int I.uf])), ((a 1), .inl (gI g, 21, .inl (upd I.st (I.k + 1) (nI (row))))), ((a 2), .inl (gI g, 21, .inl (upd I.en (I.k + 1) (nI (row))))), ((a 3), .inl (gZ g, 21, .inl I.sp)), ((a 4), .inl (gG g, 21, .inr (.inr (.inr (.inr (gRow r)))))), (ca, .inl (gJ g, 32, .inr (.inl cs)))]) hx hb (hml.trans hl.1.symm) hown (hts (.methodLink RX0 39 arraycopyName) (by decide +kernel)) (hts (.native arraycopyName) (by decide +kernel)) (hts (.static arraycopyName) (by decide +kernel)) (hts (.initialized "java/lang/System") (by decide +kernel)) hK.1 hP hD hS 5 32 rfl (xn := 6) rfl (i := I.k + 1) (by omega) (sp' := 0) (dp' := 0) (n' := 32) rfl rfl rfl (by decide) (by decide) (by decide) (by decide) (by decide) (Nat.le_of_ble_eq_true rfl) (Nat.le_of_ble_eq_true rfl) dX0_take_68 (fun H locs hP hD hS => ?_)
      have hP : va_P (gD g) vwCl ([((a 0), .inr (2, [.ref (a 1), .ref (a 2), .ref (a 3), .ref (a 4), .int (nI (I.k + 1)), .int I.uf])), ((a 1), .inl (gI g, 21, .inl (upd I.st (I.k + 1) (nI (row))))), ((a 2), .inl (gI g, 21, .inl (upd I.en (I.k + 1) (nI (row))))), ((a 3), .inl (gZ g, 21, .inl I.sp)), ((a 4), .inl (gG g, 21, .inr (.inr (.inr (.inr (gRow r)))))), (ca, .inl (gJ g, 32, .inr (.inl cs)))] ++ wG g r (va_up (I.M) (I.k + 1) (va_cpy cs ((I.M) (I.k + 1)) 0 0 32))) H := hP
      have hD : va_D A ([((a 0), .inr (2, [.ref (a 1), .ref (a 2), .ref (a 3), .ref (a 4), .int (nI (I.k + 1)), .int I.uf])), ((a 1), .inl (gI g, 21, .inl (upd I.st (I.k + 1) (nI (row))))), ((a 2), .inl (gI g, 21, .inl (upd I.en (I.k + 1) (nI (row))))), ((a 3), .inl (gZ g, 21, .inl I.sp)), ((a 4), .inl (gG g, 21, .inr (.inr (.inr (.inr (gRow r)))))), (ca, .inl (gJ g, 32, .inr (.inl cs)))] ++ wG g r (va_up (I.M) (I.k + 1) (va_cpy cs ((I.M) (I.k + 1)) 0 0 32))) := hD
      refine lv_aload_n hx hb dX0_take_71 rfl (lv_at hl 1 rfl) ?_
      refine lv_iload_n hx hb dX0_take_72 rfl (lv_at hl 2 rfl) ?_
      refine va_put (D := gD g) (ci := 2) (v := .int z) (ty := .boolean) (C := RX0) (T := TX0) (N := 6) hx hb hts (by decide +kernel) tyX0 tyX0_ok nmX0 hown hK.1 hP hD hS 0 rfl rfl 5 (by decide) (hts (.fieldLink RX0 31 "LogForward$Images" "latestIsUnfinished" "Z") (by decide +kernel)) (fun _ h9 => h9) rfl (by decide +kernel) (by rcases hz with rfl | rfl <;> rfl) (by rcases hz with rfl | rfl <;> rfl) (Nat.le_of_ble_eq_true rfl) dX0_take_73 (fun H locs hP hD hS => ?_)
      have hP : va_P (gD g) vwCl ([((a 0), .inr (2, [.ref (a 1), .ref (a 2), .ref (a 3), .ref (a 4), .int (nI (I.k + 1)), .int z])), ((a 1), .inl (gI g, 21, .inl (upd I.st (I.k + 1) (nI (row))))), ((a 2), .inl (gI g, 21, .inl (upd I.en (I.k + 1) (nI (row))))), ((a 3), .inl (gZ g, 21, .inl I.sp)), ((a 4), .inl (gG g, 21, .inr (.inr (.inr (.inr (gRow r)))))), (ca, .inl (gJ g, 32, .inr (.inl cs)))] ++ wG g r (va_up (I.M) (I.k + 1) (va_cpy cs ((I.M) (I.k + 1)) 0 0 32))) H := hP
      have hD : va_D A ([((a 0), .inr (2, [.ref (a 1), .ref (a 2), .ref (a 3), .ref (a 4), .int (nI (I.k + 1)), .int z])), ((a 1), .inl (gI g, 21, .inl (upd I.st (I.k + 1) (nI (row))))), ((a 2), .inl (gI g, 21, .inl (upd I.en (I.k + 1) (nI (row))))), ((a 3), .inl (gZ g, 21, .inl I.sp)), ((a 4), .inl (gG g, 21, .inr (.inr (.inr (.inr (gRow r)))))), (ca, .inl (gJ g, 32, .inr (.inl cs)))] ++ wG g r (va_up (I.M) (I.k + 1) (va_cpy cs ((I.M) (I.k + 1)) 0 0 32))) := hD
      refine lv_aload_n hx hb dX0_take_76 rfl (lv_at hl 1 rfl) ?_
      refine va_get (D := gD g) (ci := 2) (v := .int (nI (I.k + 1))) (C := RX0) (T := TX0) (N := 6) hx hb hts (by decide +kernel) hown hK.1 hP 0 rfl rfl 4 (by decide) (hts (.fieldLink RX0 27 "LogForward$Images" "many" "I") (by decide +kernel)) (fun _ h9 => h9) rfl dX0_take_77 ?_
      have hP9 : va_P (gD g) vwCl ((wI g a r ((upd I.st (I.k + 1) (nI (row))), (upd I.en (I.k + 1) (nI (row))), I.sp, va_up (I.M) (I.k + 1) (va_cpy cs ((I.M) (I.k + 1)) 0 0 32), I.k + 1, z) ++ [(ca, .inl (gJ g, 32, .inr (.inl cs)))]) ++ wG g r (IS.M ((upd I.st (I.k + 1) (nI (row))), (upd I.en (I.k + 1) (nI (row))), I.sp, va_up (I.M) (I.k + 1) (va_cpy cs ((I.M) (I.k + 1)) 0 0 32), I.k + 1, z))) H := hP
      have hD9 : va_D A ((wI g a r ((upd I.st (I.k + 1) (nI (row))), (upd I.en (I.k + 1) (nI (row))), I.sp, va_up (I.M) (I.k + 1) (va_cpy cs ((I.M) (I.k + 1)) 0 0 32), I.k + 1, z) ++ [(ca, .inl (gJ g, 32, .inr (.inl cs)))]) ++ wG g r (IS.M ((upd I.st (I.k + 1) (nI (row))), (upd I.en (I.k + 1) (nI (row))), I.sp, va_up (I.M) (I.k + 1) (va_cpy cs ((I.M) (I.k + 1)) 0 0 32), I.k + 1, z))) := hD
      exact W.iret (v := (nI (I.k + 1))) hx hb hr (fun t ht hW => ⟨⟨(nI (I.k + 1)), ((upd I.st (I.k + 1) (nI (row))), (upd I.en (I.k + 1) (nI (row))), I.sp, va_up (I.M) (I.k + 1) (va_cpy cs ((I.M) (I.k + 1)) 0 0 32), I.k + 1, z), rfl, (Or.inr ⟨rfl, by simp [isT, c_42_2], by omega⟩), by rw [ht]; exact hP9, hD9⟩, hS.F ht⟩) hS.2.2 dX0_take_80
    · have i_42 : (z.toInt : Int) ≠ 0 := q_ne c_42_2 rfl rfl
      refine lv_bipush (v := 16) hx hb dX0_take_45 (by decide) ?_
      refine lv_goto (tgt := 52) hx hb dX0_take_47 (by decide) ?_
      refine lv_istore (lv' := [(4, .int 16), (0, .ref (a 0)), (1, .int z), (2, .int (nI (row))), (3, .ref ca)]) hx hb dX0_take_52 hl (by decide) rfl (fun ls hl => ?_)
      refine lv_aload_n hx hb dX0_take_54 rfl (lv_at hl 4 rfl) ?_
      refine lv_iconst (v := 0) hx hb dX0_take_55 (by decide) ?_
      refine lv_aload_n hx hb dX0_take_56 rfl (lv_at hl 1 rfl) ?_
      refine va_get (D := gD g) (ci := 2) (v := .ref (a 4)) (C := RX0) (T := TX0) (N := 6) hx hb hts (by decide +kernel) hown hK.1 hP 0 rfl rfl 3 (by decide) (hts (.fieldLink RX0 24 "LogForward$Images" "held" "[[J") (by decide +kernel)) (fun _ h9 => h9) rfl dX0_take_57 ?_
      refine lv_aload_n hx hb dX0_take_60 rfl (lv_at hl 1 rfl) ?_
      refine va_get (D := gD g) (ci := 2) (v := .int (nI (I.k + 1))) (C := RX0) (T := TX0) (N := 6) hx hb hts (by decide +kernel) hown hK.1 hP 0 rfl rfl 4 (by decide) (hts (.fieldLink RX0 27 "LogForward$Images" "many" "I") (by decide +kernel)) (fun _ h9 => h9) rfl dX0_take_61 ?_
      refine ga_aald (v := (r (I.k + 1))) hx hb hK.1 hP 4 3 rfl rfl (v_nI (by omega) (by omega)) (by rw [(c_nI (by omega))]; exact gRow_at (by omega)) dX0_take_64 ?_
      refine lv_iconst (v := 0) hx hb dX0_take_65 (by decide) ?_
      refine lv_iload hx hb dX0_take_66 (lv_at hl 0 rfl) ?_
      refine ga_cpTo (X := [((a 0), .inr (2, [.ref (a 1), .ref (a 2), .ref (a 3), .ref (a 4), .int (nI (I.k + 1)), .int I.uf])), ((a 1), .inl (gI g, 21, .inl (upd I.st (I.k + 1) (nI (row))))), ((a 2), .inl (gI g, 21, .inl (upd I.en (I.k + 1) (nI (row))))), ((a 3), .inl (gZ g, 21, .inl I.sp)), ((a 4), .inl (gG g, 21, .inr (.inr (.inr (.inr (gRow r)))))), (ca, .inl (gJ g, 32, .inr (.inl cs)))]) hx hb (hml.trans hl.1.symm) hown (hts (.methodLink RX0 39 arraycopyName) (by decide +kernel)) (hts (.native arraycopyName) (by decide +kernel)) (hts (.static arraycopyName) (by decide +kernel)) (hts (.initialized "java/lang/System") (by decide +kernel)) hK.1 hP hD hS 5 32 rfl (xn := 6) rfl (i := I.k + 1) (by omega) (sp' := 0) (dp' := 0) (n' := 16) rfl rfl rfl (by decide) (by decide) (by decide) (by decide) (by decide) (Nat.le_of_ble_eq_true rfl) (Nat.le_of_ble_eq_true rfl) dX0_take_68 (fun H locs hP hD hS => ?_)
      have hP : va_P (gD g) vwCl ([((a 0), .inr (2, [.ref (a 1), .ref (a 2), .ref (a 3), .ref (a 4), .int (nI (I.k + 1)), .int I.uf])), ((a 1), .inl (gI g, 21, .inl (upd I.st (I.k + 1) (nI (row))))), ((a 2), .inl (gI g, 21, .inl (upd I.en (I.k + 1) (nI (row))))), ((a 3), .inl (gZ g, 21, .inl I.sp)), ((a 4), .inl (gG g, 21, .inr (.inr (.inr (.inr (gRow r)))))), (ca, .inl (gJ g, 32, .inr (.inl cs)))] ++ wG g r (va_up (I.M) (I.k + 1) (va_cpy cs ((I.M) (I.k + 1)) 0 0 16))) H := hP
      have hD : va_D A ([((a 0), .inr (2, [.ref (a 1), .ref (a 2), .ref (a 3), .ref (a 4), .int (nI (I.k + 1)), .int I.uf])), ((a 1), .inl (gI g, 21, .inl (upd I.st (I.k + 1) (nI (row))))), ((a 2), .inl (gI g, 21, .inl (upd I.en (I.k + 1) (nI (row))))), ((a 3), .inl (gZ g, 21, .inl I.sp)), ((a 4), .inl (gG g, 21, .inr (.inr (.inr (.inr (gRow r)))))), (ca, .inl (gJ g, 32, .inr (.inl cs)))] ++ wG g r (va_up (I.M) (I.k + 1) (va_cpy cs ((I.M) (I.k + 1)) 0 0 16))) := hD
      refine lv_aload_n hx hb dX0_take_71 rfl (lv_at hl 1 rfl) ?_
      refine lv_iload_n hx hb dX0_take_72 rfl (lv_at hl 2 rfl) ?_
      refine va_put (D := gD g) (ci := 2) (v := .int z) (ty := .boolean) (C := RX0) (T := TX0) (N := 6) hx hb hts (by decide +kernel) tyX0 tyX0_ok nmX0 hown hK.1 hP hD hS 0 rfl rfl 5 (by decide) (hts (.fieldLink RX0 31 "LogForward$Images" "latestIsUnfinished" "Z") (by decide +kernel)) (fun _ h9 => h9) rfl (by decide +kernel) (by rcases hz with rfl | rfl <;> rfl) (by rcases hz with rfl | rfl <;> rfl) (Nat.le_of_ble_eq_true rfl) dX0_take_73 (fun H locs hP hD hS => ?_)
      have hP : va_P (gD g) vwCl ([((a 0), .inr (2, [.ref (a 1), .ref (a 2), .ref (a 3), .ref (a 4), .int (nI (I.k + 1)), .int z])), ((a 1), .inl (gI g, 21, .inl (upd I.st (I.k + 1) (nI (row))))), ((a 2), .inl (gI g, 21, .inl (upd I.en (I.k + 1) (nI (row))))), ((a 3), .inl (gZ g, 21, .inl I.sp)), ((a 4), .inl (gG g, 21, .inr (.inr (.inr (.inr (gRow r)))))), (ca, .inl (gJ g, 32, .inr (.inl cs)))] ++ wG g r (va_up (I.M) (I.k + 1) (va_cpy cs ((I.M) (I.k + 1)) 0 0 16))) H := hP
      have hD : va_D A ([((a 0), .inr (2, [.ref (a 1), .ref (a 2), .ref (a 3), .ref (a 4), .int (nI (I.k + 1)), .int z])), ((a 1), .inl (gI g, 21, .inl (upd I.st (I.k + 1) (nI (row))))), ((a 2), .inl (gI g, 21, .inl (upd I.en (I.k + 1) (nI (row))))), ((a 3), .inl (gZ g, 21, .inl I.sp)), ((a 4), .inl (gG g, 21, .inr (.inr (.inr (.inr (gRow r)))))), (ca, .inl (gJ g, 32, .inr (.inl cs)))] ++ wG g r (va_up (I.M) (I.k + 1) (va_cpy cs ((I.M) (I.k + 1)) 0 0 16))) := hD
      refine lv_aload_n hx hb dX0_take_76 rfl (lv_at hl 1 rfl) ?_
      refine va_get (D := gD g) (ci := 2) (v := .int (nI (I.k + 1))) (C := RX0) (T := TX0) (N := 6) hx hb hts (by decide +kernel) hown hK.1 hP 0 rfl rfl 4 (by decide) (hts (.fieldLink RX0 27 "LogForward$Images" "many" "I") (by decide +kernel)) (fun _ h9 => h9) rfl dX0_take_77 ?_
      have hP9 : va_P (gD g) vwCl ((wI g a r ((upd I.st (I.k + 1) (nI (row))), (upd I.en (I.k + 1) (nI (row))), I.sp, va_up (I.M) (I.k + 1) (va_cpy cs ((I.M) (I.k + 1)) 0 0 16), I.k + 1, z) ++ [(ca, .inl (gJ g, 32, .inr (.inl cs)))]) ++ wG g r (IS.M ((upd I.st (I.k + 1) (nI (row))), (upd I.en (I.k + 1) (nI (row))), I.sp, va_up (I.M) (I.k + 1) (va_cpy cs ((I.M) (I.k + 1)) 0 0 16), I.k + 1, z))) H := hP
      have hD9 : va_D A ((wI g a r ((upd I.st (I.k + 1) (nI (row))), (upd I.en (I.k + 1) (nI (row))), I.sp, va_up (I.M) (I.k + 1) (va_cpy cs ((I.M) (I.k + 1)) 0 0 16), I.k + 1, z) ++ [(ca, .inl (gJ g, 32, .inr (.inl cs)))]) ++ wG g r (IS.M ((upd I.st (I.k + 1) (nI (row))), (upd I.en (I.k + 1) (nI (row))), I.sp, va_up (I.M) (I.k + 1) (va_cpy cs ((I.M) (I.k + 1)) 0 0 16), I.k + 1, z))) := hD
      exact W.iret (v := (nI (I.k + 1))) hx hb hr (fun t ht hW => ⟨⟨(nI (I.k + 1)), ((upd I.st (I.k + 1) (nI (row))), (upd I.en (I.k + 1) (nI (row))), I.sp, va_up (I.M) (I.k + 1) (va_cpy cs ((I.M) (I.k + 1)) 0 0 16), I.k + 1, z), rfl, (Or.inr ⟨rfl, by simp [isT, c_42_2], by omega⟩), by rw [ht]; exact hP9, hD9⟩, hS.F ht⟩) hS.2.2 dX0_take_80
  · have i_6 : (20 : Int) ≤ ((I.k : Nat) : Int) := q_nlt c_6_1 (l_nI (by omega)) rfl
    refine lv_iconst (v := (-1)) hx hb dX0_take_9 (by decide) ?_
    have hP9 : va_P (gD g) vwCl ((wI g a r I ++ [(ca, .inl (gJ g, 32, .inr (.inl cs)))]) ++ wG g r (IS.M I)) s.heap := hP
    have hD9 : va_D A ((wI g a r I ++ [(ca, .inl (gJ g, 32, .inr (.inl cs)))]) ++ wG g r (IS.M I)) := hD
    exact W.iret (v := (-1)) hx hb hr (fun t ht hW => ⟨⟨(-1), I, rfl, (Or.inl ⟨rfl, rfl, by omega⟩), by rw [ht]; exact hP9, hD9⟩, hS.F ht⟩) hS.2.2 dX0_take_10
set_option maxHeartbeats 1000000 in
set_option maxRecDepth 100000 in
theorem c_X0_putBack (l : Launch) (g : GG) (a r : Nat → Nat) (ca : Nat) (I : IS) (cs : Nat → Int64) (sz : Nat) (i : Nat) (hi1 : 1 ≤ i) (hi2 : i ≤ I.k) (hk : I.k ≤ 20) : Met l yX0_putBack wsX0_putBack { frames := 1, cells := 0, slots := 0, locals := 64 } (va_Pc [.ref (a 0), .int (nI (i)), .ref ca] (Pw g ((wI g a r I ++ [(ca, .inl (gJ g, 32, .inr (.inl cs)))]) ++ wG g r I.M) sz)) (va_Qv (fun u => u = va_cpy (I.M i) cs 0 0 32) (Bw g (va_A ((wI g a r I ++ [(ca, .inl (gJ g, 32, .inr (.inl cs)))]) ++ wG g r I.M) sz) (fun u : Nat → Int64 => (wI g a r I ++ [(ca, .inl (gJ g, 32, .inr (.inl u)))]) ++ wG g r I.M)) (va_A ((wI g a r I ++ [(ca, .inl (gJ g, 32, .inr (.inl cs)))]) ++ wG g r I.M) sz)) 0 0 (va_A ((wI g a r I ++ [(ca, .inl (gJ g, 32, .inr (.inl cs)))]) ++ wG g r I.M) sz) := by
  refine Met.ofW (cc := cX0_putBack) (maxL := 3) (ret := none) (by decide) rfl ?_
  intro p e s m args below meth c s₁ B hml hv
  obtain ⟨rfl, hsz, hP, hK, hD0⟩ := hv
  have hx := B.exec
  have hb := B.bytes
  have hr := B.returns
  have hts := atoms_spec (ws := wsX0_putBack) B.pre
  have hown : s.vm.findClass RX0 = some m.cls := findClass_of_methodNamed B.named
  have hlocks := B.notSynchronized
  subst hsz
  have hD := hD0.self (sz := s.heap.size)
  generalize hAe : va_A (((wI g a r I ++ [(ca, .inl (gJ g, 32, .inr (.inl cs)))]) ++ wG g r I.M)) s.heap.size = A at hD ⊢
  have hA : ∀ q : Nat, s.heap.size ≤ q → A q := fun q h => by rw [← hAe]; exact Or.inr h
  have hS : va_S A s.heap s.heap [] := va_S.rf
  have hl := lv_entry ([.ref (a 0), .int (nI (i)), .ref ca]) (n := 3) (Nat.le_of_ble_eq_true rfl)
  rw [lg_entry_eq]
  generalize (lg_sl ([.ref (a 0), .int (nI (i)), .ref ca]) ++ List.replicate (3 - (lg_sl ([.ref (a 0), .int (nI (i)), .ref ca])).length) Slot.unset).toArray = ls at hl ⊢
  have hl : lv_has ls 3 [(0, .ref (a 0)), (1, .int (nI (i))), (2, .ref ca)] := hl
  replace hP : va_P (gD g) vwCl ([((a 0), .inr (2, [.ref (a 1), .ref (a 2), .ref (a 3), .ref (a 4), .int (nI (I.k)), .int I.uf])), ((a 1), .inl (gI g, 21, .inl I.st)), ((a 2), .inl (gI g, 21, .inl I.en)), ((a 3), .inl (gZ g, 21, .inl I.sp)), ((a 4), .inl (gG g, 21, .inr (.inr (.inr (.inr (gRow r)))))), (ca, .inl (gJ g, 32, .inr (.inl cs)))] ++ wG g r (I.M)) s.heap := hP
  replace hD : va_D A ([((a 0), .inr (2, [.ref (a 1), .ref (a 2), .ref (a 3), .ref (a 4), .int (nI (I.k)), .int I.uf])), ((a 1), .inl (gI g, 21, .inl I.st)), ((a 2), .inl (gI g, 21, .inl I.en)), ((a 3), .inl (gZ g, 21, .inl I.sp)), ((a 4), .inl (gG g, 21, .inr (.inr (.inr (.inr (gRow r)))))), (ca, .inl (gJ g, 32, .inr (.inl cs)))] ++ wG g r (I.M)) := hD
  refine lv_aload_n hx hb dX0_putBack_0 rfl (lv_at hl 0 rfl) ?_
  refine lv_iload_n hx hb dX0_putBack_1 rfl (lv_at hl 1 rfl) ?_
  refine vp_callSi (va_Run.run (va_runV (As := [.int (nI (i))]) (rest := []) ⟨hx, hb, hml, hown, hts⟩ (c_X0_has_n l g a r I (i) (by omega) (by omega) (by omega)) (cwV 1 hts gX0_putBack_X0_has rfl rfl rfl (by decide +kernel) ⟨Nat.le_of_ble_eq_true rfl, Nat.le_of_ble_eq_true rfl⟩) (pv_r hK hP (ci := 2) (q0 := 0) rfl rfl [0, 1, 2, 3, 4] rfl) rfl rfl hl.1 rfl (lv_room (Nat.le_of_ble_eq_true rfl)) dX0_putBack_2 ⟨Nat.zero_le _, Nat.zero_le _⟩)) (fun r_2_1 h_2_1 => ?_)
  subst h_2_1
  refine lv_if_eq (tgt := 22) hx hb dX0_putBack_5 (by decide) (fun c_5_1 => ?_) (fun c_5_1 => ?_)
  · exact absurd c_5_1 (by decide)
  · skip
    refine lv_aload_n hx hb dX0_putBack_8 rfl (lv_at hl 0 rfl) ?_
    refine va_get (D := gD g) (ci := 2) (v := .ref (a 4)) (C := RX0) (T := TX0) (N := 6) hx hb hts (by decide +kernel) hown hK.1 hP 0 rfl rfl 3 (by decide) (hts (.fieldLink RX0 24 "LogForward$Images" "held" "[[J") (by decide +kernel)) (fun _ h9 => h9) rfl dX0_putBack_9 ?_
    refine lv_iload_n hx hb dX0_putBack_12 rfl (lv_at hl 1 rfl) ?_
    refine ga_aald (v := (r (i))) hx hb hK.1 hP 4 3 rfl rfl (v_nI (by omega) (by omega)) (by rw [(c_nI (by omega))]; exact gRow_at (by omega)) dX0_putBack_13 ?_
    refine lv_iconst (v := 0) hx hb dX0_putBack_14 (by decide) ?_
    refine lv_aload_n hx hb dX0_putBack_15 rfl (lv_at hl 2 rfl) ?_
    refine lv_iconst (v := 0) hx hb dX0_putBack_16 (by decide) ?_
    refine lv_bipush (v := 32) hx hb dX0_putBack_17 (by decide) ?_
    refine ga_cpOf (X := [((a 0), .inr (2, [.ref (a 1), .ref (a 2), .ref (a 3), .ref (a 4), .int (nI (I.k)), .int I.uf])), ((a 1), .inl (gI g, 21, .inl I.st)), ((a 2), .inl (gI g, 21, .inl I.en)), ((a 3), .inl (gZ g, 21, .inl I.sp)), ((a 4), .inl (gG g, 21, .inr (.inr (.inr (.inr (gRow r)))))), (ca, .inl (gJ g, 32, .inr (.inl cs)))]) hx hb (hml.trans hl.1.symm) hown (hts (.methodLink RX0 39 arraycopyName) (by decide +kernel)) (hts (.native arraycopyName) (by decide +kernel)) (hts (.static arraycopyName) (by decide +kernel)) (hts (.initialized "java/lang/System") (by decide +kernel)) hK.1 hP hD hS 5 32 rfl (xn := 6) rfl (i := i) (by omega) (sp' := 0) (dp' := 0) (n' := 32) rfl rfl rfl (by decide) (by decide) (by decide) (by decide) (by decide) (Nat.le_of_ble_eq_true rfl) (Nat.le_of_ble_eq_true rfl) dX0_putBack_19 (fun H locs hP hD hS => ?_)
    have hP : va_P (gD g) vwCl ([((a 0), .inr (2, [.ref (a 1), .ref (a 2), .ref (a 3), .ref (a 4), .int (nI (I.k)), .int I.uf])), ((a 1), .inl (gI g, 21, .inl I.st)), ((a 2), .inl (gI g, 21, .inl I.en)), ((a 3), .inl (gZ g, 21, .inl I.sp)), ((a 4), .inl (gG g, 21, .inr (.inr (.inr (.inr (gRow r)))))), (ca, .inl (gJ g, 32, .inr (.inl (va_cpy ((I.M) (i)) cs 0 0 32))))] ++ wG g r (I.M)) H := hP
    have hD : va_D A ([((a 0), .inr (2, [.ref (a 1), .ref (a 2), .ref (a 3), .ref (a 4), .int (nI (I.k)), .int I.uf])), ((a 1), .inl (gI g, 21, .inl I.st)), ((a 2), .inl (gI g, 21, .inl I.en)), ((a 3), .inl (gZ g, 21, .inl I.sp)), ((a 4), .inl (gG g, 21, .inr (.inr (.inr (.inr (gRow r)))))), (ca, .inl (gJ g, 32, .inr (.inl (va_cpy ((I.M) (i)) cs 0 0 32))))] ++ wG g r (I.M)) := hD
    have hP9 : va_P (gD g) vwCl ((wI g a r (I.st, I.en, I.sp, I.M, I.k, I.uf) ++ [(ca, .inl (gJ g, 32, .inr (.inl (va_cpy ((I.M) (i)) cs 0 0 32))))]) ++ wG g r (IS.M (I.st, I.en, I.sp, I.M, I.k, I.uf))) H := hP
    have hD9 : va_D A ((wI g a r (I.st, I.en, I.sp, I.M, I.k, I.uf) ++ [(ca, .inl (gJ g, 32, .inr (.inl (va_cpy ((I.M) (i)) cs 0 0 32))))]) ++ wG g r (IS.M (I.st, I.en, I.sp, I.M, I.k, I.uf))) := hD
    exact W.vret hx hb hr (fun t ht hW => ⟨⟨(va_cpy ((I.M) (i)) cs 0 0 32), rfl, rfl, by rw [ht]; exact hP9, hD9⟩, hS.F ht⟩) hS.2.2 dX0_putBack_22
/-- images whose end lies behind a row are never good again -/
def isS (I : IS) (row : Nat) : IS := (I.st, I.en, fun j => if 1 ≤ j ∧ j ≤ I.k ∧ (row : Int) < (I.en j).toInt then 1 else I.sp j, I.M, I.k, I.uf)
theorem sp_no {sp1 sp : Nat → Int32} {en : Nat → Int32} {i row : Nat} (hF : ∀ j, sp1 j = if 1 ≤ j ∧ j < i ∧ (row : Int) < (en j).toInt then 1 else sp j) (h : (en i).toInt ≤ row) : ∀ j, sp1 j = if 1 ≤ j ∧ j < i + 1 ∧ (row : Int) < (en j).toInt then 1 else sp j := fun j => by
  rw [hF j]
  by_cases e : j = i
  · subst e
    rw [if_neg (by omega), if_neg (by omega)]
  · exact ite_congr (propext (by omega)) (fun _ => rfl) (fun _ => rfl)
theorem sp_yes {sp1 sp : Nat → Int32} {en : Nat → Int32} {i row : Nat} (hF : ∀ j, sp1 j = if 1 ≤ j ∧ j < i ∧ (row : Int) < (en j).toInt then 1 else sp j) (hi : 1 ≤ i) (h : (row : Int) < (en i).toInt) : ∀ j, upd sp1 i 1 j = if 1 ≤ j ∧ j < i + 1 ∧ (row : Int) < (en j).toInt then 1 else sp j := fun j => by
  by_cases e : j = i
  · subst e
    rw [pk_us, if_pos (by omega)]
  · rw [pk_un e, hF j]
    exact ite_congr (propext (by omega)) (fun _ => rfl) (fun _ => rfl)
set_option maxHeartbeats 1000000 in
set_option maxRecDepth 100000 in
theorem c_X0_spoilBehind (l : Launch) (g : GG) (a r : Nat → Nat) (I : IS) (sz row : Nat) (hrow : row ≤ 2000) (hk : I.k ≤ 20) : Met l yX0_spoilBehind wsX0_spoilBehind { frames := 0, cells := 0, slots := 0, locals := 0 } (va_Pc [.ref (a 0), .int (nI row)] (Pw g (wI g a r I) sz)) (va_Qv (fun u => u = isS I row) (Bw g (va_A (wI g a r I) sz) (fun u => wI g a r u)) (va_A (wI g a r I) sz)) 0 0 (va_A (wI g a r I) sz) := by
  refine Met.ofW (cc := cX0_spoilBehind) (maxL := 3) (ret := none) (by decide) rfl ?_
  intro p e s m args below meth c s₁ B hml hv
  obtain ⟨rfl, hsz, hP, hK, hD0⟩ := hv
  have hx := B.exec
  have hb := B.bytes
  have hr := B.returns
  have hts := atoms_spec (ws := wsX0_spoilBehind) B.pre
  have hown : s.vm.findClass RX0 = some m.cls := findClass_of_methodNamed B.named
  have hlocks := B.notSynchronized
  subst hsz
  have hD := hD0.self (sz := s.heap.size)
  generalize hAe : va_A (wI g a r I) s.heap.size = A at hD ⊢
  have hA : ∀ q : Nat, s.heap.size ≤ q → A q := fun q h => by rw [← hAe]; exact Or.inr h
  have hS : va_S A s.heap s.heap [] := va_S.rf
  have hl := lv_entry ([.ref (a 0), .int (nI (row))]) (n := 3) (Nat.le_of_ble_eq_true rfl)
  rw [lg_entry_eq]
  generalize (lg_sl ([.ref (a 0), .int (nI (row))]) ++ List.replicate (3 - (lg_sl ([.ref (a 0), .int (nI (row))])).length) Slot.unset).toArray = ls at hl ⊢
  have hl : lv_has ls 3 [(0, .ref (a 0)), (1, .int (nI (row)))] := hl
  refine lv_iconst (v := 1) hx hb dX0_spoilBehind_0 (by decide) ?_
  refine lv_istore_n (lv' := [(2, .int 1), (0, .ref (a 0)), (1, .int (nI (row)))]) hx hb dX0_spoilBehind_1 rfl hl (by decide) rfl (fun ls hl => ?_)
  refine g_heap (fun H locs hH1 hL1 => ?_)
  obtain ⟨sp1, hs1⟩ : ∃ sp1 : Nat → Int32, sp1 = I.sp := ⟨_, rfl⟩
  obtain ⟨i, hi⟩ : ∃ i : Nat, i = 1 := ⟨1, rfl⟩
  replace hl : lv_has ls 3 [(0, .ref (a 0)), (1, .int (nI (row))), (2, .int (nI (i)))] := by subst hi; exact lv_sub hl [1, 2, 0] rfl
  replace hP : va_P (gD g) vwCl [((a 0), .inr (2, [.ref (a 1), .ref (a 2), .ref (a 3), .ref (a 4), .int (nI (I.k)), .int I.uf])), ((a 1), .inl (gI g, 21, .inl I.st)), ((a 2), .inl (gI g, 21, .inl I.en)), ((a 3), .inl (gZ g, 21, .inl sp1)), ((a 4), .inl (gG g, 21, .inr (.inr (.inr (.inr (gRow r))))))] H := by rw [hH1, hs1]; exact hP
  replace hD : va_D A [((a 0), .inr (2, [.ref (a 1), .ref (a 2), .ref (a 3), .ref (a 4), .int (nI (I.k)), .int I.uf])), ((a 1), .inl (gI g, 21, .inl I.st)), ((a 2), .inl (gI g, 21, .inl I.en)), ((a 3), .inl (gZ g, 21, .inl sp1)), ((a 4), .inl (gG g, 21, .inr (.inr (.inr (.inr (gRow r))))))] := by rw [hs1]; exact hD
  replace hS : va_S A s.heap H locs := by rw [hH1, hL1]; exact hS
  have hF : ∀ j, sp1 j = if 1 ≤ j ∧ j < i ∧ (row : Int) < (I.en j).toInt then 1 else I.sp j := fun j => by rw [if_neg (by omega), hs1]
  have hi1 : 1 ≤ i := by omega
  have hi2 : i ≤ I.k + 1 := by omega
  clear hi hs1 hH1 hL1
  obtain ⟨d, hd⟩ : ∃ d, I.k + 1 - i = d := ⟨_, rfl⟩
  induction d using Nat.strongRecOn generalizing i sp1 ls H locs with
  | ind d ih =>
    refine lv_iload_n hx hb dX0_spoilBehind_2 rfl (lv_at hl 2 rfl) ?_
    refine lv_aload_n hx hb dX0_spoilBehind_3 rfl (lv_at hl 0 rfl) ?_
    refine va_get (D := gD g) (ci := 2) (v := .int (nI (I.k))) (C := RX0) (T := TX0) (N := 6) hx hb hts (by decide +kernel) hown hK.1 hP 0 rfl rfl 4 (by decide) (hts (.fieldLink RX0 27 "LogForward$Images" "many" "I") (by decide +kernel)) (fun _ h9 => h9) rfl dX0_spoilBehind_4 ?_
    refine lv_icmp_gt (tgt := 33) hx hb dX0_spoilBehind_7 (by decide) (fun c_7_2 => ?_) (fun c_7_2 => ?_)
    · have i_7 : (((I.k : Nat) : Int) : Int) < ((i : Nat) : Int) := q_lt c_7_2 (l_nI (by omega)) (l_nI (by omega))
      exact W.vret hx hb hr (fun t ht hW => ⟨⟨((I.st, I.en, sp1, I.M, I.k, I.uf) : IS), rfl, (by unfold isS; rw [show sp1 = _ from funext hF, show i = I.k + 1 by omega]; simp only [Nat.lt_succ_iff]), by rw [ht]; exact hP, hD⟩, hS.F ht⟩) hS.2.2 dX0_spoilBehind_33
    · have i_7 : (((i : Nat) : Int) : Int) ≤ ((I.k : Nat) : Int) := q_nlt c_7_2 (l_nI (by omega)) (l_nI (by omega))
      refine lv_aload_n hx hb dX0_spoilBehind_10 rfl (lv_at hl 0 rfl) ?_
      refine va_get (D := gD g) (ci := 2) (v := .ref (a 2)) (C := RX0) (T := TX0) (N := 6) hx hb hts (by decide +kernel) hown hK.1 hP 0 rfl rfl 1 (by decide) (hts (.fieldLink RX0 15 "LogForward$Images" "end" "[I") (by decide +kernel)) (fun _ h9 => h9) rfl dX0_spoilBehind_11 ?_
      refine lv_iload_n hx hb dX0_spoilBehind_14 rfl (lv_at hl 2 rfl) ?_
      refine ga_iald (v := (I.en i)) hx hb hK.1 hP 2 0 rfl rfl (v_nI (by omega) (by omega)) (by rw [(c_nI (by omega))]) dX0_spoilBehind_15 ?_
      refine lv_iload_n hx hb dX0_spoilBehind_16 rfl (lv_at hl 1 rfl) ?_
      refine lv_icmp_le (tgt := 27) hx hb dX0_spoilBehind_17 (by decide) (fun c_17_3 => ?_) (fun c_17_3 => ?_)
      · have i_17 : ((I.en i).toInt : Int) ≤ ((row : Nat) : Int) := q_le c_17_3 rfl (l_nI (by omega))
        refine lv_iinc (v := (nI (i + 1))) (lv' := [(2, .int (nI (i + 1))), (0, .ref (a 0)), (1, .int (nI (row)))]) hx hb dX0_spoilBehind_27 hl (k := 2) rfl (nI_1 _) (by decide) rfl (fun ls hl => ?_)
        refine lv_goto (tgt := 2) hx hb dX0_spoilBehind_30 (by decide) ?_
        exact ih (I.k + 1 - (i + 1)) (by omega) ls H locs sp1 (i + 1) (lv_sub hl [1, 2, 0] rfl) hP hD hS (sp_no hF (by omega)) (by omega) (by omega) rfl
      · have i_17 : (((row : Nat) : Int) : Int) < (I.en i).toInt := q_nle c_17_3 rfl (l_nI (by omega))
        refine lv_aload_n hx hb dX0_spoilBehind_20 rfl (lv_at hl 0 rfl) ?_
        refine va_get (D := gD g) (ci := 2) (v := .ref (a 3)) (C := RX0) (T := TX0) (N := 6) hx hb hts (by decide +kernel) hown hK.1 hP 0 rfl rfl 2 (by decide) (hts (.fieldLink RX0 18 "LogForward$Images" "spoiled" "[Z") (by decide +kernel)) (fun _ h9 => h9) rfl dX0_spoilBehind_21 ?_
        refine lv_iload_n hx hb dX0_spoilBehind_24 rfl (lv_at hl 2 rfl) ?_
        refine lv_iconst (v := 1) hx hb dX0_spoilBehind_25 (by decide) ?_
        refine ga_zast (j := i) hx hb hK.1 hP hD hS 3 2 rfl rfl (v_nI (by omega) (by omega)) (c_nI (by omega)) rfl dX0_spoilBehind_26 (fun H locs hP hD hS => ?_)
        have hP : va_P (gD g) vwCl ([((a 0), .inr (2, [.ref (a 1), .ref (a 2), .ref (a 3), .ref (a 4), .int (nI (I.k)), .int I.uf])), ((a 1), .inl (gI g, 21, .inl I.st)), ((a 2), .inl (gI g, 21, .inl I.en)), ((a 3), .inl (gZ g, 21, .inl (upd sp1 (i) 1))), ((a 4), .inl (gG g, 21, .inr (.inr (.inr (.inr (gRow r))))))]) H := hP
        have hD : va_D A ([((a 0), .inr (2, [.ref (a 1), .ref (a 2), .ref (a 3), .ref (a 4), .int (nI (I.k)), .int I.uf])), ((a 1), .inl (gI g, 21, .inl I.st)), ((a 2), .inl (gI g, 21, .inl I.en)), ((a 3), .inl (gZ g, 21, .inl (upd sp1 (i) 1))), ((a 4), .inl (gG g, 21, .inr (.inr (.inr (.inr (gRow r))))))]) := hD
        refine lv_iinc (v := (nI (i + 1))) (lv' := [(2, .int (nI (i + 1))), (0, .ref (a 0)), (1, .int (nI (row)))]) hx hb dX0_spoilBehind_27 hl (k := 2) rfl (nI_1 _) (by decide) rfl (fun ls hl => ?_)
        refine lv_goto (tgt := 2) hx hb dX0_spoilBehind_30 (by decide) ?_
        exact ih (I.k + 1 - (i + 1)) (by omega) ls H locs (upd sp1 (i) 1) (i + 1) (lv_sub hl [1, 2, 0] rfl) hP hD hS (sp_yes hF hi1 (by omega)) (by omega) (by omega) rfl
