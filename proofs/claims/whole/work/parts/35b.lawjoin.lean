/-! the law's world: the class, the reference, the array that takes an answer; the calls on it -/
/-- a long out of two ints -/
def loL (x y : Int32) : Int64 := (x.toInt64 <<< ((32 : Int32).toInt64 &&& 63)) ||| (y.toInt64 &&& 4294967295)
abbrev wLc (g : GG) (a r b : Nat → Nat) (o : Nat) (X : XS) (M : MS) (f : Nat → Int64) : va_W := wXc g a r X ++ (wM g b M ++ wO g o f)
section LawJoin
variable {p : Program} {l : Launch} {e : Env} {R : Room} {s : State} {m : MethodId} {args : Array Value} {below : List Frame} {meth : Method} {c : Code} {H : Heap} {locs : List Loc} {cells slots : Nat} {Q : State → Prop}
variable {pc : Nat} {ls : Array Slot} {rest st0 : List Value} {av : Array Value} {A0 : Nat → Prop} {H0 : Heap} {g : GG} {a r b : Nat → Nat} {o : Nat} {X : XS} {M : MS} {f : Nat → Int64}
set_option maxRecDepth 100000 in
/-- a call of the class that writes -/
theorem lx_w {post : Int32 → XS → Prop} (hr : va_Run p l e R s m args below meth c H locs cells slots 0 0 (F0 m pc ls st0) rest (va_Qi post (Bw g (va_A (wX g a r X) H.size) (fun u : XS => wX g a r u)) (va_A (wX g a r X) H.size) av) (va_A (wX g a r X) H.size)) (hP : va_P (gD g) vwCl (wLc g a r b o X M f ++ wG g r X.I.M) H) (hD : va_D A0 (wLc g a r b o X M f ++ wG g r X.I.M)) (hS : va_S A0 H0 H locs) (hA : ∀ q, H0.size ≤ q → A0 q)
    (kk : ∀ (rv : Int32) (u : XS) (H1 : Heap) (locs1 : List Loc), post rv u → va_P (gD g) vwCl (wLc g a r b o u M f ++ wG g r u.I.M) H1 → va_D A0 (wLc g a r b o u M f ++ wG g r u.I.M) → va_S A0 H0 H1 locs1 → W p l e R s m args below meth c H1 locs1 cells slots Q (F0 m (pc + 3) ls (.int rv :: rest))) : W p l e R s m args below meth c H locs cells slots Q (F0 m pc ls st0) :=
  cp_i (X := wLc g a r b o X M f) (pl := wG g r X.I.M) (cx := wXc g a r X) (wr := wM g b M ++ wO g o f) (rx := fun u : XS => wXc g a r u) (plf := fun u : XS => wG g r u.I.M) hr hP hD hS hA [0, 1, 2, 3, 4, 5, 6, 7, 8, 9, 10, 11, 12, 13, 14, 15, 16, 17, 18, 19, 20] [21, 22, 23, 24, 25, 26, 27, 28, 29, 30, 31, 32, 33, 34] rfl rfl (by decide) (by decide)
    (fun rv u H1 locs1 hp hP1 hD1 hS1 => kk rv u H1 locs1 hp (hP1.part (cx := wLc g a r b o u M f) [14, 15, 16, 17, 18, 19, 20, 21, 22, 23, 24, 25, 26, 27, 28, 29, 30, 31, 32, 33, 34, 0, 1, 2, 3, 4, 5, 6, 7, 8, 9, 10, 11, 12, 13] rfl) (hD1.part (cx := wLc g a r b o u M f) [14, 15, 16, 17, 18, 19, 20, 21, 22, 23, 24, 25, 26, 27, 28, 29, 30, 31, 32, 33, 34, 0, 1, 2, 3, 4, 5, 6, 7, 8, 9, 10, 11, 12, 13] (by decide) rfl) hS1)
set_option maxRecDepth 100000 in
/-- a call of the reference -/
theorem lm_w {post : Int32 → MS → Prop} (hr : va_Run p l e R s m args below meth c H locs cells slots 0 0 (F0 m pc ls st0) rest (va_Qi post (Bw g (va_A (wM g b M) H.size) (fun u : MS => wM g b u)) (va_A (wM g b M) H.size) av) (va_A (wM g b M) H.size)) (hP : va_P (gD g) vwCl (wLc g a r b o X M f ++ wG g r X.I.M) H) (hD : va_D A0 (wLc g a r b o X M f ++ wG g r X.I.M)) (hS : va_S A0 H0 H locs) (hA : ∀ q, H0.size ≤ q → A0 q)
    (kk : ∀ (rv : Int32) (u : MS) (H1 : Heap) (locs1 : List Loc), post rv u → va_P (gD g) vwCl (wLc g a r b o X u f ++ wG g r X.I.M) H1 → va_D A0 (wLc g a r b o X u f ++ wG g r X.I.M) → va_S A0 H0 H1 locs1 → W p l e R s m args below meth c H1 locs1 cells slots Q (F0 m (pc + 3) ls (.int rv :: rest))) : W p l e R s m args below meth c H locs cells slots Q (F0 m pc ls st0) :=
  cq_i (X := wLc g a r b o X M f) (pl := wG g r X.I.M) (cx := wM g b M) (wr := wXc g a r X ++ wO g o f) (wf := fun u : MS => wM g b u) hr hP hD hS hA [21, 22, 23, 24, 25, 26, 27, 28, 29, 30, 31, 32, 33] [0, 1, 2, 3, 4, 5, 6, 7, 8, 9, 10, 11, 12, 13, 14, 15, 16, 17, 18, 19, 20, 34] rfl rfl (by decide) (by decide)
    (fun rv u H1 locs1 hp hP1 hD1 hS1 => kk rv u H1 locs1 hp (hP1.part (cx := wLc g a r b o X u f) [0, 1, 2, 3, 4, 5, 6, 7, 8, 9, 10, 11, 12, 13, 14, 15, 16, 17, 18, 19, 20, 22, 23, 24, 25, 26, 27, 28, 29, 30, 31, 32, 33, 34, 21] rfl) (hD1.part (cx := wLc g a r b o X u f) [0, 1, 2, 3, 4, 5, 6, 7, 8, 9, 10, 11, 12, 13, 14, 15, 16, 17, 18, 19, 20, 22, 23, 24, 25, 26, 27, 28, 29, 30, 31, 32, 33, 34, 21] (by decide) rfl) hS1)
/-- the callee has no pool, and answers a long -/
theorem cq_l {mc ms : Nat} {S : Type} {post : Int64 → S → Prop} {wf : S → va_W} {X cx wr pl : va_W} (hr : va_Run p l e R s m args below meth c H locs cells slots mc ms (F0 m pc ls st0) rest (va_Ql post (Bw g (va_A cx H.size) wf) (va_A cx H.size) av) (va_A cx H.size)) (hP : va_P (gD g) vwCl (X ++ pl) H) (hD : va_D A0 (X ++ pl)) (hS : va_S A0 H0 H locs) (hA : ∀ q, H0.size ≤ q → A0 q) (isC isR : List Nat) (hC : isC.map (fun i => X[i]?) = cx.map some) (hR : isR.map (fun i => X[i]?) = wr.map some) (hn : va_nd isR = true) (hdis : ∀ i ∈ isR, i ∉ isC)
    (kk : ∀ (r : Int64) (u : S) (H1 : Heap) (locs1 : List Loc), post r u → va_P (gD g) vwCl ((wr ++ wf u) ++ pl) H1 → va_D A0 ((wr ++ wf u) ++ pl) → va_S A0 H0 H1 locs1 → W p l e R s m args below meth c H1 locs1 (cells + mc) (slots + ms) Q (F0 m (pc + 3) ls (.long r :: rest))) : W p l e R s m args below meth c H locs cells slots Q (F0 m pc ls st0) := by
  have hF := cq_free hD hS hA isC hC
  refine va_calll hr hS (fun q _ h => hF q h) hF (fun r u t H1 locs1 ht hvm hp hB hz hk hS1 => ?_)
  obtain ⟨hP1, hD1⟩ := hB
  rw [ht] at hP1
  obtain ⟨hP2, hD2⟩ := va_joinQ hP hD isC isR hC hR hn hdis hk hF hP1 hD1
  exact kk r u H1 locs1 hp hP2 hD2 hS1
set_option maxRecDepth 100000 in
theorem lm_l {post : Int64 → MS → Prop} (hr : va_Run p l e R s m args below meth c H locs cells slots 0 0 (F0 m pc ls st0) rest (va_Ql post (Bw g (va_A (wM g b M) H.size) (fun u : MS => wM g b u)) (va_A (wM g b M) H.size) av) (va_A (wM g b M) H.size)) (hP : va_P (gD g) vwCl (wLc g a r b o X M f ++ wG g r X.I.M) H) (hD : va_D A0 (wLc g a r b o X M f ++ wG g r X.I.M)) (hS : va_S A0 H0 H locs) (hA : ∀ q, H0.size ≤ q → A0 q)
    (kk : ∀ (rv : Int64) (u : MS) (H1 : Heap) (locs1 : List Loc), post rv u → va_P (gD g) vwCl (wLc g a r b o X u f ++ wG g r X.I.M) H1 → va_D A0 (wLc g a r b o X u f ++ wG g r X.I.M) → va_S A0 H0 H1 locs1 → W p l e R s m args below meth c H1 locs1 cells slots Q (F0 m (pc + 3) ls (.long rv :: rest))) : W p l e R s m args below meth c H locs cells slots Q (F0 m pc ls st0) :=
  cq_l (X := wLc g a r b o X M f) (pl := wG g r X.I.M) (cx := wM g b M) (wr := wXc g a r X ++ wO g o f) (wf := fun u : MS => wM g b u) hr hP hD hS hA [21, 22, 23, 24, 25, 26, 27, 28, 29, 30, 31, 32, 33] [0, 1, 2, 3, 4, 5, 6, 7, 8, 9, 10, 11, 12, 13, 14, 15, 16, 17, 18, 19, 20, 34] rfl rfl (by decide) (by decide)
    (fun rv u H1 locs1 hp hP1 hD1 hS1 => kk rv u H1 locs1 hp (hP1.part (cx := wLc g a r b o X u f) [0, 1, 2, 3, 4, 5, 6, 7, 8, 9, 10, 11, 12, 13, 14, 15, 16, 17, 18, 19, 20, 22, 23, 24, 25, 26, 27, 28, 29, 30, 31, 32, 33, 34, 21] rfl) (hD1.part (cx := wLc g a r b o X u f) [0, 1, 2, 3, 4, 5, 6, 7, 8, 9, 10, 11, 12, 13, 14, 15, 16, 17, 18, 19, 20, 22, 23, 24, 25, 26, 27, 28, 29, 30, 31, 32, 33, 34, 21] (by decide) rfl) hS1)
set_option maxRecDepth 100000 in
/-- a call of the law's get or at -/
theorem le_i {post : Int32 → (Nat → Int64) → Prop} (hr : va_Run p l e R s m args below meth c H locs cells slots 1 6 (F0 m pc ls st0) rest (va_Qi post (Bw g (va_A (wXc g a r X ++ wO g o f) H.size) (fun u : Nat → Int64 => wXc g a r X ++ wO g o u)) (va_A (wXc g a r X ++ wO g o f) H.size) av) (va_A (wXc g a r X ++ wO g o f) H.size)) (hP : va_P (gD g) vwCl (wLc g a r b o X M f ++ wG g r X.I.M) H) (hD : va_D A0 (wLc g a r b o X M f ++ wG g r X.I.M)) (hS : va_S A0 H0 H locs) (hA : ∀ q, H0.size ≤ q → A0 q)
    (kk : ∀ (rv : Int32) (u : Nat → Int64) (H1 : Heap) (locs1 : List Loc), post rv u → va_P (gD g) vwCl (wLc g a r b o X M u ++ wG g r X.I.M) H1 → va_D A0 (wLc g a r b o X M u ++ wG g r X.I.M) → va_S A0 H0 H1 locs1 → W p l e R s m args below meth c H1 locs1 (cells + 1) (slots + 6) Q (F0 m (pc + 3) ls (.int rv :: rest))) : W p l e R s m args below meth c H locs cells slots Q (F0 m pc ls st0) :=
  cq_i (X := wLc g a r b o X M f) (pl := wG g r X.I.M) (cx := wXc g a r X ++ wO g o f) (wr := wM g b M) (wf := fun u : Nat → Int64 => wXc g a r X ++ wO g o u) hr hP hD hS hA [0, 1, 2, 3, 4, 5, 6, 7, 8, 9, 10, 11, 12, 13, 14, 15, 16, 17, 18, 19, 20, 34] [21, 22, 23, 24, 25, 26, 27, 28, 29, 30, 31, 32, 33] rfl rfl (by decide) (by decide)
    (fun rv u H1 locs1 hp hP1 hD1 hS1 => kk rv u H1 locs1 hp (hP1.part (cx := wLc g a r b o X M u) [13, 14, 15, 16, 17, 18, 19, 20, 21, 22, 23, 24, 25, 26, 27, 28, 29, 30, 31, 32, 33, 0, 1, 2, 3, 4, 5, 6, 7, 8, 9, 10, 11, 12, 34] rfl) (hD1.part (cx := wLc g a r b o X M u) [13, 14, 15, 16, 17, 18, 19, 20, 21, 22, 23, 24, 25, 26, 27, 28, 29, 30, 31, 32, 33, 0, 1, 2, 3, 4, 5, 6, 7, 8, 9, 10, 11, 12, 34] (by decide) rfl) hS1)
end LawJoin
/-! what the invariant gives the calls -/
theorem SI_f {X : XS} {M : MS} (h : SI X M) : X.S.n ≤ 2000 ∧ X.I.k ≤ 20 ∧ X.S.ar ≤ 2000 ∧ 1 ≤ X.rg ∧ X.rg ≤ 4 ∧ M.S = X.S ∧ M.S.n ≤ 2000 ∧ M.fz ≤ 20 ∧ M.k ≤ 20 ∧ M.S.ar ≤ 2000 ∧ M.rg = X.rg ∧ M.cs = X.cs ∧ ∀ r, 1 ≤ r → r ≤ M.S.n → M.S.kd r = 0 → okC (M.S.ce r) := by
  obtain ⟨⟨hLI, hLK, hII, ⟨eS, eC, eG, hRI⟩, hn, har, g1, g2⟩, hOB⟩ := h
  obtain ⟨i1, -⟩ := hII
  obtain ⟨-, -, -, rk, rf, -⟩ := hRI
  refine ⟨hn, i1, har, g1, g2, eS, by rw [eS]; exact hn, ?_, by rw [rk]; exact i1, by rw [eS]; exact har, eG, eC, by rw [eS]; exact hLI.2.2.1⟩
  rw [rf]
  split
  · exact Nat.zero_le _
  · exact i1
theorem SI_img {X : XS} {M : MS} (h : SI X M) : ∀ i, 1 ≤ i → i ≤ X.I.k → ∃ s0 e0 : Nat, (isF X.I X.S.n X.cs).st i = nI s0 ∧ (isF X.I X.S.n X.cs).en i = nI e0 ∧ s0 ≤ e0 ∧ e0 ≤ 2000 := by
  obtain ⟨⟨h1, h2, h3, h4, h8, h9, h10, h11⟩, hO⟩ := h
  obtain ⟨⟨-, g, -⟩, -⟩ := fin_II (cs := X.cs) h3 (Nat.le_refl _) h8
  intro i a b
  exact g i a (by rw [isF_k]; exact b)
theorem SI_imgM {X : XS} {M : MS} (h : SI X M) : ∀ i, 1 ≤ i → i ≤ (mC M 0).k → ∃ s0 e0 : Nat, (msF (mC M 0)).st i = nI s0 ∧ (msF (mC M 0)).en i = nI e0 ∧ s0 ≤ e0 ∧ e0 ≤ 2000 := by
  have hF := (sim_fin (SI_cd 0 h)).1
  have r1 : (msF (mC M 0)).st = (isF X.I X.S.n X.cs).st := hF.1.2.2.2.1.2.2.2.1
  have r2 : (msF (mC M 0)).en = (isF X.I X.S.n X.cs).en := hF.1.2.2.2.1.2.2.2.2.1
  have hk : (mC M 0).k = X.I.k := h.1.2.2.2.1.2.2.2.2.2.2.1
  intro i a b
  rw [r1, r2]
  exact SI_img h i a (by rw [← hk]; exact b)
theorem SI_sp {X : XS} {M : MS} (h : SI X M) : ∀ j, (mC M 0).sp j = 0 ∨ (mC M 0).sp j = 1 := by
  have e : (mC M 0).sp = X.I.sp := h.1.2.2.2.1.2.2.2.2.2.1
  intro j
  rw [e]
  exact h.1.2.2.1.2.2.1 j
theorem sq_gap {X : XS} {M : MS} (h : SI X M) (p : Int32) : gpF X.S X.S.n 1 p = gqF (mC M 0).S p (mC M 0).S.n 1 0 := by
  have e : (mC M 0).S = X.S := h.1.2.2.2.1.1
  rw [e]
  exact sim_gap X.S p X.S.n 1 0 p (by rw [nI_0, Int32.sub_zero])
theorem sq_merge {X : XS} {M : MS} (h : SI X M) (p1 p2 : Int32) : mgF X.S (nI X.rg) p1 X.S.n 1 p2 = mqF (mC M 0).S (nI (mC M 0).rg) p1 p2 (mC M 0).S.n 1 0 := by
  have e : (mC M 0).S = X.S := h.1.2.2.2.1.1
  have e2 : (mC M 0).rg = X.rg := h.1.2.2.2.1.2.2.1
  rw [e, e2]
  exact sim_merge X.S (nI X.rg) p1 p2 X.S.n 1 0 p2 (by rw [nI_0, Int32.sub_zero])
theorem sq_warm {X : XS} {M : MS} (h : SI X M) : cntU X.U 0 60 = woF (mC M 0).S 60 := by
  have e : (mC M 0).S = X.S := h.1.2.2.2.1.1
  rw [e]
  exact sim_warm h.1.1 h.1.2.1 60 (Nat.le_refl _)
theorem and15 (x : Int32) : ∃ k : Nat, k < 16 ∧ x &&& 15 = nI k := by
  refine ⟨(x &&& 15).toBitVec.toNat, ?_, ?_⟩
  · rw [Int32.toBitVec_and, BitVec.toNat_and]
    exact Nat.lt_of_le_of_lt Nat.and_le_right (by decide)
  · unfold nI
    apply Int32.toBitVec_inj.mp
    rw [Int32.toBitVec_ofNat']
    simp
theorem len7 {L : Nat} (h : L ≤ 2000000) : (Int32.ofNat L - 7).toInt = (L : Int) - 7 := by
  rw [Int32.toInt_sub, show (Int32.ofNat L).toInt = (L : Int) from l_nI h]
  show Int.bmod ((L : Int) - 7) (2 ^ 32) = _
  rw [Int.bmod_eq_of_le (by omega) (by omega)]
/-- at the law's row pc, with i ints read, the two sides agree -/
def AtH (p : Program) (l : Launch) (e : Env) (s : State) (m : MethodId) (below : List Frame) (meth : Method) (c : Code) (b0 : Nat) (g : GG) (a r b : Nat → Nat) (o i k n pc : Nat) : Prop :=
  ∀ (X : XS) (M : MS) (f : Nat → Int64) (H : Heap) (locs : List Loc) (ls : Array Slot), SI X M → va_P (gD g) vwCl (wLc g a r b o X M f ++ wG g r X.I.M) H → va_D (fun q : Nat => s.heap.size ≤ q) (wLc g a r b o X M f ++ wG g r X.I.M) → va_S (fun q : Nat => s.heap.size ≤ q) s.heap H locs → lv_has ls 8 [(0, .ref b0), (1, .ref (a 0)), (2, .ref (b 0)), (3, .ref o), (4, .int (nI i))] →
    W p l e room_1 s m #[Value.ref b0] below meth c H locs k n (lw_Z below #[Value.ref b0] s) (F0 m pc ls [])
