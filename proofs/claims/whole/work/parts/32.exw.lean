/-! the words of LogForward.get and LogForward.at, which throw; what of the tables, the statics and the constants a throw wants -/
abbrev iaN : String := "java/lang/IllegalArgumentException"
abbrev aoN : String := "java/lang/ArrayIndexOutOfBoundsException"
abbrev iaS : List String := ["java/lang/RuntimeException", "java/lang/Exception"]
abbrev aoS : List String := ["java/lang/IndexOutOfBoundsException", "java/lang/RuntimeException", "java/lang/Exception"]
abbrev iaT : String := "there is no such cell"
abbrev aoT : String := "there is no such row, or nothing such of a row"
def xwE : List Cond := (vx_atS RX3 162 aoN aoS).filter goodWord
def xwB : List Cond := (vx_atS RX3 128 iaN iaS ++ vx_atS RX3 162 aoN aoS).filter (fun w => !goodWord w)
theorem xwE_in : ∀ w ∈ xwE, w ∈ lw_tbl := by decide +kernel
theorem xwB_in : ∀ w ∈ xwB, w ∈ lw_tbl := by decide +kernel
theorem xwE_good : ∀ w ∈ xwE, goodWord w = true := fun _ h => (List.mem_filter.mp h).2
def isDC : Cond → Bool
  | .declares _ => true
  | .castable _ _ => true
  | _ => false
theorem xwB_dc : ∀ w ∈ xwB, isDC w = true := by decide +kernel
theorem xwB_ot : ∀ w ∈ xwB, w.onTables = true := by decide +kernel
theorem xg_ia : ∀ w ∈ Cond.classLink RX3 124 iaN :: Cond.initialized iaN :: vx_atS RX3 128 iaN iaS, vx_ot w = true := by decide +kernel
theorem xg_ao : ∀ w ∈ Cond.classLink RX3 158 aoN :: Cond.initialized aoN :: vx_atS RX3 162 aoN aoS, vx_ot w = true := by decide +kernel
theorem xb_ia : ∀ w ∈ (vx_atS RX3 128 iaN iaS).filter (fun w => !goodWord w), w ∈ xwB := by decide +kernel
theorem xb_ao : ∀ w ∈ (vx_atS RX3 162 aoN aoS).filter (fun w => !goodWord w), w ∈ xwB := by decide +kernel
theorem xc_ia : Cond.castable iaN iaN ∈ xwB := by decide +kernel
theorem xc_ao : Cond.castable aoN aoN ∈ xwB := by decide +kernel
theorem dc_warm {w : Cond} (h : isDC w = true) {s U : State} (hW : s.WarmedH U.vm) (hZ : va_Nw w s) : va_Nw w U := by
  cases w <;> first | exact va_Nw.warmD hW hZ | exact va_Nw.warmC hW hZ | exact absurd h (by decide) | exact absurd h (by simp [isDC])
/-- what of the tables and the constants a throw wants -/
def XK (U : State) : Prop := (∀ w ∈ xwB, va_Nw w U) ∧ (∃ sa, vk_R RX3 126 iaT sa U) ∧ ∃ sa, vk_R RX3 160 aoT sa U
theorem XK.warm {s U : State} (hW : s.WarmedH U.vm) (h : XK s) : XK U := by
  obtain ⟨h1, ⟨s1, h2⟩, s2, h3⟩ := h
  exact ⟨fun w hw => dc_warm (xwB_dc w hw) hW (h1 w hw), ⟨s1, h2.warm hW⟩, s2, h3.warm hW⟩
theorem XK.same {u U : State} (hv : U.vm = u.vm) (h : XK u) : XK U := by
  obtain ⟨h1, ⟨s1, h2⟩, s2, h3⟩ := h
  exact ⟨fun w hw => va_Nw.same (xwB_ot w hw) hv.symm (h1 w hw), ⟨s1, h2.same hv⟩, s2, h3.same hv⟩
theorem XK.use {U : State} {A : Array Value} (h : XK U) : ∀ w ∈ xwB, w.before A U = true := fun w hw => va_Nw.use (xwB_ot w hw) (h.1 w hw)
/-- the statics that a throw reads -/
def XZ (A : Nat → Prop) (U : State) (H : Heap) : Prop := vx_Zq Bundle.tN "UNASSIGNED_STACK" Bundle.steD A U H ∧ vx_Zq Bundle.tN "SUPPRESSED_SENTINEL" Bundle.listD A U H
theorem XZ.moved {A : Nat → Prop} {u U : State} {H : Heap} (hvm : u.vm.Alike U.vm) (h : XZ A u H) : XZ A U H := ⟨h.1.moved hvm, h.2.moved hvm⟩
theorem XZ.kept {A : Nat → Prop} {U : State} {H H1 : Heap} (h : XZ A U H) (hq : ∀ a : Nat, a < H.size → ¬ A a → H1[a]? = H[a]?) : XZ A U H1 := ⟨h.1.kept hq, h.2.kept hq⟩
theorem XZ.narrow {A B : Nat → Prop} {U : State} {H : Heap} (h : XZ A U H) (hAB : ∀ q, B q → A q) : XZ B U H := ⟨h.1.narrow hAB, h.2.narrow hAB⟩
/-- a start of a method that may throw: it reads a world -/
def Px (g : GG) (ws : va_W) : State → Prop := fun U => Pr g ws U ∧ XK U ∧ XZ (fun _ => False) U U.heap
theorem fb_x {g : GG} {av : List Value} {ws : va_W} : FrameBlind (va_Pc av (Px g ws)) := fun _ U _ _ q => ⟨q.1, ⟨q.2.1.1, KK.same (u := U) rfl q.2.1.2⟩, XK.same (u := U) rfl q.2.2.1, XZ.moved (u := U) (Vm.Alike.refl U.vm) q.2.2.2⟩
/-- a list's words among a longer one's -/
theorem gi_V {T E ws : List Cond} {own C : String} {i : Nat} {y : MethodName} (hE : ∀ w ∈ E, goodWord w = true) (h : GoodIn T (wsV own i C y ws)) : GoodIn (T ++ E) (wsV own i C y (ws ++ E)) := by
  intro w hw
  unfold wsV at hw h
  rw [← List.append_assoc] at hw
  rcases List.mem_append.mp hw with h1 | h1
  · exact ⟨List.mem_append_left _ (h w h1).1, (h w h1).2⟩
  · exact ⟨List.mem_append_right _ h1, good_of_word (hE w h1)⟩
theorem gi_S {T E ws : List Cond} {own : String} {i : Nat} {y : MethodName} (hE : ∀ w ∈ E, goodWord w = true) (h : GoodIn T (va_wsS own i y ws)) : GoodIn (T ++ E) (va_wsS own i y (ws ++ E)) := by
  intro w hw
  unfold va_wsS at hw h
  rw [← List.append_assoc] at hw
  rcases List.mem_append.mp hw with h1 | h1
  · exact ⟨List.mem_append_left _ (h w h1).1, (h w h1).2⟩
  · exact ⟨List.mem_append_right _ h1, good_of_word (hE w h1)⟩
