/-! the words of this proof: class numbers and array classes (GG), what stays true of the tables (KK), the worlds of each class -/
abbrev GG : Type := (Nat → ClassId) × (Nat → Nat → Nat) × ClassId × ClassId × ClassId × ClassId
abbrev gD (g : GG) : va_G := (g.1, g.2.1)
abbrev gI (g : GG) : ClassId := g.2.2.1
abbrev gJ (g : GG) : ClassId := g.2.2.2.1
abbrev gZ (g : GG) : ClassId := g.2.2.2.2.1
abbrev gG (g : GG) : ClassId := g.2.2.2.2.2
abbrev tyS (g : GG) : List (ClassId × FieldType) := [(gI g, .int), (gJ g, .long), (gZ g, .boolean), (gG g, .array .long)]
abbrev nwU : Cond := .methodLinkNest RX2 24 yX3_isUnit "LogForward"
abbrev nwC : Cond := .methodLinkNest RX2 28 yX3_isCell "LogForward"
def KK (g : GG) (U : State) : Prop := va_K (gD g) vwCl (tyS g) U ∧ va_Nw nwU U ∧ va_Nw nwC U
theorem KK.warm {g : GG} {s U : State} (hW : s.WarmedH U.vm) (h : KK g s) : KK g U := ⟨va_K.moved hW.alike h.1, va_Nw.warmM hW h.2.1, va_Nw.warmM hW h.2.2⟩
theorem KK.same {g : GG} {u U : State} (hv : u.vm = U.vm) (h : KK g u) : KK g U := ⟨va_K.moved (by rw [hv]; exact Vm.Alike.refl U.vm) h.1, va_Nw.same rfl hv h.2.1, va_Nw.same rfl hv h.2.2⟩
/-- a method's start: it reads a world -/
def Pr (g : GG) (ws : va_W) : State → Prop := fun U => va_P (gD g) vwCl ws U.heap ∧ KK g U
/-- a method's start: it writes a world -/
def Pw (g : GG) (ws : va_W) (sz : Nat) : State → Prop := fun U => U.heap.size = sz ∧ va_P (gD g) vwCl ws U.heap ∧ KK g U ∧ va_D (fun _ => True) ws
/-- the world behind a method that writes -/
def Bw {S : Type} (g : GG) (A : Nat → Prop) (wf : S → va_W) : S → State → Prop := fun u t => va_P (gD g) vwCl (wf u) t.heap ∧ va_D A (wf u)
theorem fb_r {g : GG} {av : List Value} {ws : va_W} : FrameBlind (va_Pc av (Pr g ws)) := fun _ U _ _ q => ⟨q.1, q.2.1, KK.same (u := U) rfl q.2.2⟩
theorem fb_w {g : GG} {av : List Value} {ws : va_W} {sz : Nat} : FrameBlind (va_Pc av (Pw g ws sz)) := fun _ U _ _ q => ⟨q.1, q.2.1, q.2.2.1, KK.same (u := U) rfl q.2.2.2.1, q.2.2.2.2⟩
theorem pv_r {g : GG} {s : State} {H : Heap} {ws wc : va_W} {b q0 ci : Nat} {q : vw_C} {fs : List Value} {As : List Value} (hK : KK g s) (hP : va_P (gD g) vwCl ws H) (hc : vwCl[ci]? = some q) (he : ws[q0]? = some (b, .inr (ci, fs))) (is : List Nat) (hs : is.filterMap (fun i => ws[i]?) = wc) : PreV s H q.1 b (va_Pc (.ref b :: As) (Pr g wc)) As :=
  ⟨fb_r, va_recv hK.1 hP hc he, fun U hU hW => ⟨rfl, by rw [hU]; exact hP.sub is hs, hK.warm hW⟩⟩
theorem ps_r {g : GG} {s : State} {H : Heap} {ws wc : va_W} {As : List Value} (hK : KK g s) (hP : va_P (gD g) vwCl ws H) (is : List Nat) (hs : is.filterMap (fun i => ws[i]?) = wc) : PreS s H (va_Pc As (Pr g wc)) As :=
  ⟨fb_r, fun U hU hW => ⟨rfl, by rw [hU]; exact hP.sub is hs, hK.warm hW⟩⟩
theorem pv_w {g : GG} {s : State} {H : Heap} {ws wc : va_W} {b q0 ci : Nat} {q : vw_C} {fs : List Value} {As : List Value} {A : Nat → Prop} (hK : KK g s) (hP : va_P (gD g) vwCl ws H) (hc : vwCl[ci]? = some q) (he : ws[q0]? = some (b, .inr (ci, fs))) (hPc : va_P (gD g) vwCl wc H) (hDc : va_D A wc) : PreV s H q.1 b (va_Pc (.ref b :: As) (Pw g wc H.size)) As :=
  ⟨fb_w, va_recv hK.1 hP hc he, fun U hU hW => ⟨rfl, by rw [hU], by rw [hU]; exact hPc, hK.warm hW, hDc.weaken (fun _ _ _ _ => trivial)⟩⟩
theorem ps_w {g : GG} {s : State} {H : Heap} {wc : va_W} {As : List Value} {A : Nat → Prop} (hK : KK g s) (hPc : va_P (gD g) vwCl wc H) (hDc : va_D A wc) : PreS s H (va_Pc As (Pw g wc H.size)) As :=
  ⟨fb_w, fun U hU hW => ⟨rfl, by rw [hU], by rw [hU]; exact hPc, hK.warm hW, hDc.weaken (fun _ _ _ _ => trivial)⟩⟩
/-- a truth value as the machine has it -/
def bI (P : Prop) [Decidable P] : Int32 := if P then 1 else 0
theorem bI_1 {P : Prop} [Decidable P] (h : P) : (1 : Int32) = bI P := by simp [bI, h]
theorem bI_0 {P : Prop} [Decidable P] (h : ¬ P) : (0 : Int32) = bI P := by simp [bI, h]
theorem bI_t {P : Prop} [Decidable P] {r : Int32} (hr : r = bI P) (c : ¬ r = 0) : P := by
  by_cases h : P
  · exact h
  · exact absurd (by rw [hr, ← bI_0 h]) c
theorem bI_f {P : Prop} [Decidable P] {r : Int32} (hr : r = bI P) (c : r = 0) : ¬ P := fun h => by
  rw [← bI_1 h] at hr
  rw [hr] at c
  exact absurd c (by decide)
theorem q_lt {x y : Int32} {a b : Int} (h : x < y) (hx : x.toInt = a) (hy : y.toInt = b) : a < b := by rw [← hx, ← hy]; exact Int32.lt_iff_toInt_lt.mp h
theorem q_nlt {x y : Int32} {a b : Int} (h : ¬ x < y) (hx : x.toInt = a) (hy : y.toInt = b) : b ≤ a := by rw [Int32.lt_iff_toInt_lt, hx, hy] at h; omega
theorem q_le {x y : Int32} {a b : Int} (h : x ≤ y) (hx : x.toInt = a) (hy : y.toInt = b) : a ≤ b := by rw [← hx, ← hy]; exact Int32.le_iff_toInt_le.mp h
theorem q_nle {x y : Int32} {a b : Int} (h : ¬ x ≤ y) (hx : x.toInt = a) (hy : y.toInt = b) : b < a := by rw [Int32.le_iff_toInt_le, hx, hy] at h; omega
theorem q_eq {x y : Int32} {a b : Int} (h : x = y) (hx : x.toInt = a) (hy : y.toInt = b) : a = b := by rw [← hx, ← hy, h]
theorem q_ne {x y : Int32} {a b : Int} (h : ¬ x = y) (hx : x.toInt = a) (hy : y.toInt = b) : a ≠ b := fun q => h (Int32.toInt_inj.mp (by rw [hx, hy, q]))
theorem l_nI {n : Nat} (h : n ≤ 2000000) : (nI n).toInt = (n : Int) := nI_toInt (by omega)
theorem c_nI {n : Nat} (h : n ≤ 2000000) : (nI n).toNatClampNeg = n := nI_clamp (by omega)
theorem v_nI {n N : Nat} (h : n < N) (hN : N ≤ 2000000) : vp_in (nI n) N := vp_in_nI h (by omega)
theorem v_p {x : Int32} {N : Nat} (h0 : 0 ≤ x.toInt) (h : x.toInt < N) : vp_in x N := vp_in_iff.mpr ⟨h0, h⟩
/-- an int that isn't negative is its number -/
theorem p_nI {x : Int32} (h : 0 ≤ x.toInt) : x = nI x.toNatClampNeg := by
  obtain ⟨j, hj, e⟩ := nI_of (x := x) (by rw [Int32.lt_iff_toInt_lt]; show ¬ x.toInt < 0; omega)
  subst e
  rw [nI_clamp hj]
section GRows
variable {p : Program} {l : Launch} {e : Env} {R : Room} {s : State} {m : MethodId} {args : Array Value} {below : List Frame} {meth : Method} {c : Code} {H : Heap} {locs : List Loc} {cells slots : Nat} {Q : State → Prop}
variable {cc : ByteArray} {pc : Nat} {ls : Array Slot} {rest : List Value} {D : va_G} {cl : List vw_C} {A : Nat → Prop} {a : Nat} {tys : List (ClassId × FieldType)} {ws : va_W} {H0 : Heap}
theorem ga_iald (hexec : p.tables.exec = Jvm.exec) (hb : c.code = cc) (hK : va_K D cl tys s) (hP : va_P D cl ws H) (q0 t0 : Nat) {cA : ClassId} {n : Nat} {f : Nat → Int32} (ha : ws[q0]? = some (a, .inl (cA, n, .inl f))) (ht : tys[t0]? = some (cA, .int)) {i v : Int32} (hin : vp_in i n) (hv : f i.toNatClampNeg = v) (hdg : decode cc pc = .ok (.iaload, 1))
    (kk : W p l e R s m args below meth c H locs cells slots Q (F0 m (pc + 1) ls (.int v :: rest))) : W p l e R s m args below meth c H locs cells slots Q (F0 m pc ls (.int i :: .ref a :: rest)) := by
  subst hv
  exact va_iald hexec hb hK hP q0 t0 ha ht hin hdg kk
theorem ga_zald (hexec : p.tables.exec = Jvm.exec) (hb : c.code = cc) (hK : va_K D cl tys s) (hP : va_P D cl ws H) (q0 t0 : Nat) {cA : ClassId} {n : Nat} {f : Nat → Int32} (ha : ws[q0]? = some (a, .inl (cA, n, .inl f))) (ht : tys[t0]? = some (cA, .boolean)) {i v : Int32} (hin : vp_in i n) (hv : f i.toNatClampNeg = v) (hdg : decode cc pc = .ok (.baload, 1))
    (kk : W p l e R s m args below meth c H locs cells slots Q (F0 m (pc + 1) ls (.int v :: rest))) : W p l e R s m args below meth c H locs cells slots Q (F0 m pc ls (.int i :: .ref a :: rest)) := by
  subst hv
  exact va_zald hexec hb hK hP q0 t0 ha ht hin hdg kk
theorem ga_lald (hexec : p.tables.exec = Jvm.exec) (hb : c.code = cc) (hK : va_K D cl tys s) (hP : va_P D cl ws H) (q0 t0 : Nat) {cA : ClassId} {n : Nat} {f : Nat → Int64} (ha : ws[q0]? = some (a, .inl (cA, n, .inr (.inl f)))) (ht : tys[t0]? = some (cA, .long)) {i : Int32} {v : Int64} (hin : vp_in i n) (hv : f i.toNatClampNeg = v) (hdg : decode cc pc = .ok (.laload, 1))
    (kk : W p l e R s m args below meth c H locs cells slots Q (F0 m (pc + 1) ls (.long v :: rest))) : W p l e R s m args below meth c H locs cells slots Q (F0 m pc ls (.int i :: .ref a :: rest)) := by
  subst hv
  exact va_lald hexec hb hK hP q0 t0 ha ht hin hdg kk
theorem ga_iast (hexec : p.tables.exec = Jvm.exec) (hb : c.code = cc) (hK : va_K D cl tys s) (hP : va_P D cl ws H) (hD : va_D A ws) (hS : va_S A H0 H locs) (q0 t0 : Nat) {cA : ClassId} {n j : Nat} {f : Nat → Int32} (ha : ws[q0]? = some (a, .inl (cA, n, .inl f))) (ht : tys[t0]? = some (cA, .int)) {i : Int32} {x : Int32} (hin : vp_in i n) (hj : i.toNatClampNeg = j) (hdg : decode cc pc = .ok (.iastore, 1))
    (kk : ∀ (H1 : Heap) (locs1 : List Loc), va_P D cl (ws.set q0 (a, .inl (cA, n, .inl (upd f j x)))) H1 → va_D A (ws.set q0 (a, .inl (cA, n, .inl (upd f j x)))) → va_S A H0 H1 locs1 → W p l e R s m args below meth c H1 locs1 cells slots Q (F0 m (pc + 1) ls rest)) : W p l e R s m args below meth c H locs cells slots Q (F0 m pc ls (.int x :: .int i :: .ref a :: rest)) := by
  subst hj
  exact va_iast hexec hb hK hP hD hS q0 t0 ha ht hin hdg kk
theorem ga_last (hexec : p.tables.exec = Jvm.exec) (hb : c.code = cc) (hK : va_K D cl tys s) (hP : va_P D cl ws H) (hD : va_D A ws) (hS : va_S A H0 H locs) (q0 t0 : Nat) {cA : ClassId} {n j : Nat} {f : Nat → Int64} (ha : ws[q0]? = some (a, .inl (cA, n, .inr (.inl f)))) (ht : tys[t0]? = some (cA, .long)) {i : Int32} {x : Int64} (hin : vp_in i n) (hj : i.toNatClampNeg = j) (hdg : decode cc pc = .ok (.lastore, 1))
    (kk : ∀ (H1 : Heap) (locs1 : List Loc), va_P D cl (ws.set q0 (a, .inl (cA, n, .inr (.inl (vp_updL f j x))))) H1 → va_D A (ws.set q0 (a, .inl (cA, n, .inr (.inl (vp_updL f j x))))) → va_S A H0 H1 locs1 → W p l e R s m args below meth c H1 locs1 cells slots Q (F0 m (pc + 1) ls rest)) : W p l e R s m args below meth c H locs cells slots Q (F0 m pc ls (.long x :: .int i :: .ref a :: rest)) := by
  subst hj
  exact va_last hexec hb hK hP hD hS q0 t0 ha ht hin hdg kk
theorem ga_iadd (hexec : p.tables.exec = Jvm.exec) (hb : c.code = cc) {x y v : Int32} (hv : x + y = v) (hdg : decode cc pc = .ok (.iadd, 1))
    (k : W p l e R s m args below meth c H locs cells slots Q (F0 m (pc + 1) ls (.int v :: rest))) : W p l e R s m args below meth c H locs cells slots Q (F0 m pc ls (.int y :: .int x :: rest)) := by
  subst hv
  exact lv_iadd hexec hb hdg k
theorem ga_isub (hexec : p.tables.exec = Jvm.exec) (hb : c.code = cc) {x y v : Int32} (hv : x - y = v) (hdg : decode cc pc = .ok (.isub, 1))
    (k : W p l e R s m args below meth c H locs cells slots Q (F0 m (pc + 1) ls (.int v :: rest))) : W p l e R s m args below meth c H locs cells slots Q (F0 m pc ls (.int y :: .int x :: rest)) := by
  subst hv
  exact lv_isub hexec hb hdg k
theorem ga_zast (hexec : p.tables.exec = Jvm.exec) (hb : c.code = cc) (hK : va_K D cl tys s) (hP : va_P D cl ws H) (hD : va_D A ws) (hS : va_S A H0 H locs) (q0 t0 : Nat) {cA : ClassId} {n j : Nat} {f : Nat → Int32} (ha : ws[q0]? = some (a, .inl (cA, n, .inl f))) (ht : tys[t0]? = some (cA, .boolean)) {i : Int32} {x : Int32} (hin : vp_in i n) (hj : i.toNatClampNeg = j) (hz : vp_nar .boolean x = x) (hdg : decode cc pc = .ok (.bastore, 1))
    (kk : ∀ (H1 : Heap) (locs1 : List Loc), va_P D cl (ws.set q0 (a, .inl (cA, n, .inl (upd f j x)))) H1 → va_D A (ws.set q0 (a, .inl (cA, n, .inl (upd f j x)))) → va_S A H0 H1 locs1 → W p l e R s m args below meth c H1 locs1 cells slots Q (F0 m (pc + 1) ls rest)) : W p l e R s m args below meth c H locs cells slots Q (F0 m pc ls (.int x :: .int i :: .ref a :: rest)) := by
  subst hj
  refine va_zast hexec hb hK hP hD hS q0 t0 ha ht hin hdg ?_
  rw [hz]
  exact kk
end GRows
/-! the worlds -/
abbrev RS : Type := (Nat → Int32) × (Nat → Int32) × (Nat → Int32) × (Nat → Int64) × (Nat → Int64) × (Nat → Int32) × (Nat → Int32) × Nat × Nat
abbrev RS.kd (S : RS) : Nat → Int32 := S.1
abbrev RS.un (S : RS) : Nat → Int32 := S.2.1
abbrev RS.ce (S : RS) : Nat → Int32 := S.2.2.1
abbrev RS.bf (S : RS) : Nat → Int64 := S.2.2.2.1
abbrev RS.af (S : RS) : Nat → Int64 := S.2.2.2.2.1
abbrev RS.tn (S : RS) : Nat → Int32 := S.2.2.2.2.2.1
abbrev RS.bk (S : RS) : Nat → Int32 := S.2.2.2.2.2.2.1
abbrev RS.n (S : RS) : Nat := S.2.2.2.2.2.2.2.1
abbrev RS.ar (S : RS) : Nat := S.2.2.2.2.2.2.2.2
/-- Rows: the object, its seven arrays -/
abbrev wR (g : GG) (a : Nat → Nat) (S : RS) : va_W := [(a 0, .inr (3, [.ref (a 1), .ref (a 2), .ref (a 3), .ref (a 4), .ref (a 5), .ref (a 6), .ref (a 7), .int (nI S.n), .int (nI S.ar)])), (a 1, .inl (gI g, 2001, .inl S.kd)), (a 2, .inl (gI g, 2001, .inl S.un)), (a 3, .inl (gI g, 2001, .inl S.ce)), (a 4, .inl (gJ g, 2001, .inr (.inl S.bf))), (a 5, .inl (gJ g, 2001, .inr (.inl S.af))), (a 6, .inl (gI g, 2001, .inl S.tn)), (a 7, .inl (gZ g, 2001, .inl S.bk))]
/-- Units: the object, its two arrays -/
abbrev US : Type := (Nat → Int32) × (Nat → Int32)
abbrev US.lk (U : US) : Nat → Int32 := U.1
abbrev US.ch (U : US) : Nat → Int32 := U.2
abbrev wU (g : GG) (a : Nat → Nat) (U : US) : va_W := [(a 0, .inr (4, [.ref (a 1), .ref (a 2)])), (a 1, .inl (gI g, 61, .inl U.lk)), (a 2, .inl (gI g, 32, .inl U.ch))]
