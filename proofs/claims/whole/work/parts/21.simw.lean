/-! WRITING ROWS: what always holds goes on holding, on both sides -/
theorem W_new (S : RS) (k u c : Int32) (b f : Int64) (z : Int32) : (rsW S k u c b f z).kd (S.n + 1) = k ∧ (rsW S k u c b f z).un (S.n + 1) = u ∧ (rsW S k u c b f z).ce (S.n + 1) = c ∧ (rsW S k u c b f z).tn (S.n + 1) = 0 ∧ (rsW S k u c b f z).bk (S.n + 1) = z := ⟨pk_us, pk_us, pk_us, pk_us, pk_us⟩
theorem W_old (S : RS) (k u c : Int32) (b f : Int64) (z : Int32) {r : Nat} (h : r ≤ S.n) : (rsW S k u c b f z).kd r = S.kd r ∧ (rsW S k u c b f z).un r = S.un r ∧ (rsW S k u c b f z).ce r = S.ce r ∧ (rsW S k u c b f z).tn r = S.tn r ∧ (rsW S k u c b f z).bk r = S.bk r := ⟨pk_un (by omega), pk_un (by omega), pk_un (by omega), pk_un (by omega), pk_un (by omega)⟩
/-- no last row of the unit up to t -/
def NO (S : RS) (u : Int32) (t : Nat) : Prop := ∀ r, 1 ≤ r → r ≤ t → S.un r = u → S.kd r = 0
theorem NO_of {S : RS} {u : Int32} {t : Nat} (hL : LI S t) (h : stO S u t ≤ 1) : NO S u t := fun r h1 h2 h3 => Classical.byContradiction (fun z => by
  have := st_over hL ⟨r, h1, h2, h3, z⟩
  omega)
theorem LI_W {S : RS} {k u c : Int32} {b f : Int64} {z : Int32} (hL : LI S S.n) (hu : okU u) (hk : (k = 0 ∧ okC c) ∨ ((k = 1 ∨ k = 2) ∧ c = -1)) (hno : NO S u S.n)
    (hcell : k = 0 → ∀ r, 1 ≤ r → r ≤ S.n → S.kd r = 0 → S.ce r = c → ¬ S.un r = u → ∃ m, r < m ∧ m ≤ S.n ∧ S.un m = S.un r ∧ ¬ S.kd m = 0) : LI (rsW S k u c b f z) (S.n + 1) := by
  obtain ⟨n1, n2, n3, n4, n5⟩ := W_new S k u c b f z
  have old := fun (r : Nat) (h : r ≤ S.n) => W_old S k u c b f z h
  have sp : ∀ r, r ≤ S.n + 1 → r ≤ S.n ∨ r = S.n + 1 := fun r h => by omega
  obtain ⟨h1, h2, h3, h4, h5, h6, h7⟩ := hL
  refine ⟨fun r a b => ?_, fun r a b => ?_, fun r a b => ?_, fun r a b => ?_, fun r q a b c => ?_, fun r q a b c => ?_, fun r a b => ?_⟩
  · rcases sp r b with e | e
    · rw [(old r e).2.1]
      exact h1 r a e
    · rw [e, n2]
      exact hu
  · rcases sp r b with e | e
    · rw [(old r e).1]
      exact h2 r a e
    · rw [e, n1]
      rcases hk with ⟨q, -⟩ | ⟨q | q, -⟩
      · exact Or.inl q
      · exact Or.inr (Or.inl q)
      · exact Or.inr (Or.inr q)
  · rcases sp r b with e | e
    · rw [(old r e).1, (old r e).2.2.1]
      exact h3 r a e
    · rw [e, n1, n3]
      rcases hk with ⟨-, q⟩ | ⟨q | q, -⟩
      · exact fun _ => q
      · exact fun w => absurd (q.symm.trans w) (by decide)
      · exact fun w => absurd (q.symm.trans w) (by decide)
  · rcases sp r b with e | e
    · rw [(old r e).1, (old r e).2.2.1]
      exact h4 r a e
    · rw [e, n1, n3]
      rcases hk with ⟨q, -⟩ | ⟨-, q⟩
      · exact fun w => absurd q w
      · exact fun _ => q
  · have er : r ≤ S.n := by omega
    rw [(old r er).1, (old r er).2.1]
    rcases sp q c with e | e
    · rw [(old q e).2.1]
      exact h5 r q a b e
    · rw [e, n2]
      exact fun w1 w2 => w1 (hno r a er w2.symm)
  · have er : r ≤ S.n := by omega
    rw [(old r er).1, (old r er).2.1, (old r er).2.2.1]
    rcases sp q c with e | e
    · rw [(old q e).1, (old q e).2.1, (old q e).2.2.1]
      intro w1 w2 w3 w4
      obtain ⟨m, m1, m2, m3, m4⟩ := h6 r q a b e w1 w2 w3 w4
      exact ⟨m, m1, m2, by rw [(old m (by omega)).2.1]; exact m3, by rw [(old m (by omega)).1]; exact m4⟩
    · rw [e, n1, n2, n3]
      intro w1 w2 w3 w4
      obtain ⟨m, m1, m2, m3, m4⟩ := hcell w2 r a er w1 w3 w4
      exact ⟨m, m1, by omega, by rw [(old m m2).2.1]; exact m3, by rw [(old m m2).1]; exact m4⟩
  · rcases sp r b with e | e
    · rw [(old r e).2.2.2.1]
      exact h7 r a e
    · rw [e, n4]
      exact Or.inl rfl
theorem NO_W0 {S : RS} {u c w : Int32} {b f : Int64} {z : Int32} (h : NO S w S.n) : NO (rsW S 0 u c b f z) w (S.n + 1) := by
  intro r h1 h2 h3
  by_cases e : r ≤ S.n
  · rw [(W_old S 0 u c b f z e).1]
    rw [(W_old S 0 u c b f z e).2.1] at h3
    exact h r h1 e h3
  · rw [show r = S.n + 1 by omega]
    exact (W_new S 0 u c b f z).1
theorem lkO_congr {S S2 : RS} {j : Nat} : ∀ t, (∀ r, r ≤ t → S2.kd r = S.kd r ∧ S2.un r = S.un r) → lkO S2 j t = lkO S j t
  | 0, _ => rfl
  | t + 1, h => by
    have ih := lkO_congr (j := j) t (fun r hr => h r (by omega))
    obtain ⟨a1, a2⟩ := h (t + 1) (Nat.le_refl _)
    simp only [lkO]
    rw [a1, a2, ih]
theorem chO_congr {S S2 : RS} {c : Nat} : ∀ t, (∀ r, r ≤ t → S2.ce r = S.ce r ∧ S2.un r = S.un r) → chO S2 c t = chO S c t
  | 0, _ => rfl
  | t + 1, h => by
    have ih := chO_congr (c := c) t (fun r hr => h r (by omega))
    obtain ⟨a1, a2⟩ := h (t + 1) (Nat.le_refl _)
    simp only [chO]
    rw [a1, a2, ih]
theorem LK_W {U : US} {S : RS} (k u c : Int32) (b f : Int64) (z : Int32) (h : LK U S S.n) : LK (usF U k u c) (rsW S k u c b f z) (S.n + 1) := by
  obtain ⟨n1, n2, n3, n4, n5⟩ := W_new S k u c b f z
  constructor
  · intro j hj
    have e := lkO_congr (S := S) (S2 := rsW S k u c b f z) (j := j) S.n (fun r hr => ⟨(W_old S k u c b f z hr).1, (W_old S k u c b f z hr).2.1⟩)
    show (if 1 ≤ u.toInt ∧ u.toInt ≤ 60 then upd U.lk u.toNatClampNeg k else U.lk) j = if okU ((rsW S k u c b f z).un (S.n + 1)) ∧ ((rsW S k u c b f z).un (S.n + 1)).toNatClampNeg = j then (rsW S k u c b f z).kd (S.n + 1) else lkO (rsW S k u c b f z) j S.n
    rw [n1, n2, e, ← h.1 j hj]
    by_cases q : okU u
    · rw [if_pos q]
      by_cases q2 : u.toNatClampNeg = j
      · rw [if_pos ⟨q, q2⟩, ← q2, pk_us]
      · rw [if_neg (fun w => q2 w.2), pk_un (Ne.symm q2)]
    · rw [if_neg q, if_neg (fun w => q w.1)]
  · intro j hj
    have e := chO_congr (S := S) (S2 := rsW S k u c b f z) (c := j) S.n (fun r hr => ⟨(W_old S k u c b f z hr).2.2.1, (W_old S k u c b f z hr).2.1⟩)
    show (if 0 ≤ c.toInt ∧ c.toInt < 32 then upd U.ch c.toNatClampNeg u else U.ch) j = if okC ((rsW S k u c b f z).ce (S.n + 1)) ∧ ((rsW S k u c b f z).ce (S.n + 1)).toNatClampNeg = j then (rsW S k u c b f z).un (S.n + 1) else chO (rsW S k u c b f z) j S.n
    rw [n2, n3, e, ← h.2 j hj]
    by_cases q : okC c
    · rw [if_pos q]
      by_cases q2 : c.toNatClampNeg = j
      · rw [if_pos ⟨q, q2⟩, ← q2, pk_us]
      · rw [if_neg (fun w => q2 w.2), pk_un (Ne.symm q2)]
    · rw [if_neg q, if_neg (fun w => q w.1)]
/-! images -/
def II (I : IS) (n : Nat) : Prop := I.k ≤ 20 ∧ (∀ i, 1 ≤ i → i ≤ I.k → ∃ s e : Nat, I.st i = nI s ∧ I.en i = nI e ∧ s ≤ e ∧ e ≤ 2000) ∧ (∀ j, I.sp j = 0 ∨ I.sp j = 1) ∧ (∀ j, I.k < j → I.sp j = 0) ∧ (¬ I.uf = 0 → 1 ≤ I.k ∧ ∃ s : Nat, I.st I.k = nI s ∧ s ≤ n ∧ n < s + 5)
def RI (I : IS) (M : MS) : Prop := M.st = I.st ∧ M.en = I.en ∧ M.sp = I.sp ∧ M.k = I.k ∧ M.fz = (if I.uf = 0 then 0 else I.k) ∧ ∀ i c, 1 ≤ i → i ≤ I.k → c < 32 → (i = I.k → ¬ I.uf = 0 → c < 16) → M.kp (32 * i + c) = I.M i c
def RLx (X : XS) (M : MS) : Prop := M.S = X.S ∧ M.cs = X.cs ∧ M.rg = X.rg ∧ RI X.I M
/-- what is finished, is finished on both sides -/
theorem fin_II {I : IS} {n m : Nat} {cs : Nat → Int64} (h : II I n) (hn : n ≤ m) (hm : m ≤ 2000) : II (isF I m cs) m ∧ (isF I m cs).uf = 0 := by
  obtain ⟨h1, h2, h3, h4, h5⟩ := h
  unfold isF
  by_cases e : I.uf = 0
  · rw [if_pos e]
    exact ⟨⟨h1, h2, h3, h4, fun w => absurd e w⟩, e⟩
  · rw [if_neg e]
    obtain ⟨k1, s, k2, k3, k4⟩ := h5 e
    refine ⟨⟨h1, fun i i1 i2 => ?_, h3, h4, fun w => absurd rfl w⟩, rfl⟩
    by_cases q : i = I.k
    · subst q
      exact ⟨s, m, k2, pk_us, by omega, hm⟩
    · obtain ⟨s1, e1, a, b, c, d⟩ := h2 i i1 i2
      exact ⟨s1, e1, a, by show upd I.en I.k (nI m) i = nI e1; rw [pk_un q]; exact b, c, d⟩
theorem fin_RI {I : IS} {M : MS} {n : Nat} (h : II I n) (hR : RI I M) : RI (isF I M.S.n M.cs) (msF M) := by
  obtain ⟨h1, h2, h3, h4, h5⟩ := h
  obtain ⟨r1, r2, r3, r4, r5, r6⟩ := hR
  unfold isF msF
  by_cases e : I.uf = 0
  · rw [if_pos e, if_pos (by rw [r5, if_pos e])]
    exact ⟨r1, r2, r3, r4, r5, r6⟩
  · obtain ⟨k1, s, k2, k3, k4⟩ := h5 e
    have ef : M.fz = I.k := by rw [r5, if_neg e]
    rw [if_neg e, if_neg (by omega), ef]
    refine ⟨r1, by show upd M.en I.k (nI M.S.n) = upd I.en I.k (nI M.S.n); rw [r2], r3, r4, rfl, fun i c i1 i2 c1 _ => ?_⟩
    show va_cpy M.cs M.kp 16 (32 * I.k + 16) 16 (32 * i + c) = va_up I.M I.k (va_cpy M.cs (I.M I.k) 16 16 16) i c
    by_cases q : i = I.k
    · subst q
      rw [va_up_self]
      unfold va_cpy
      by_cases w : 16 ≤ c
      · rw [if_pos (by omega), if_pos (by omega), show 32 * I.k + c - (32 * I.k + 16) = c - 16 by omega]
      · rw [if_neg (by omega), if_neg (by omega)]
        exact r6 I.k c i1 i2 c1 (fun _ _ => by omega)
    · rw [va_up_ne _ _ q]
      have i3 : i ≤ I.k := i2
      unfold va_cpy
      rw [if_neg (by omega)]
      exact r6 i c i1 i2 c1 (fun w => absurd w q)
theorem II_up {I : IS} {n m : Nat} (h : II I n) (hn : n ≤ m) (hf : ¬ I.uf = 0 → ∀ s : Nat, I.st I.k = nI s → s ≤ n → m < s + 5) : II I m := by
  obtain ⟨h1, h2, h3, h4, h5⟩ := h
  refine ⟨h1, h2, h3, h4, fun e => ?_⟩
  obtain ⟨k1, s, k2, k3, k4⟩ := h5 e
  exact ⟨k1, s, k2, by omega, hf e s k2 k3⟩
/-- a row written: the images on both sides -/
theorem wr_sim {I : IS} {M : MS} (k u c : Int32) (b f : Int64) (z : Int32) (h : II I M.S.n) (hR : RI I M) (hn : M.S.n < 2000) : II (isB I (M.S.n + 1) (msV M k u c b f z).cs) (M.S.n + 1) ∧ RI (isB I (M.S.n + 1) (msV M k u c b f z).cs) (msW M k u c b f z) := by
  have hV : RI I (msV M k u c b f z) := hR
  have hfz : M.fz = if I.uf = 0 then 0 else I.k := hR.2.2.2.2.1
  by_cases e : I.uf = 0
  · have e1 : isB I (M.S.n + 1) (msV M k u c b f z).cs = I := by
      unfold isB isF
      rw [if_pos e]
      split <;> rfl
    have e2 : msW M k u c b f z = msV M k u c b f z := by
      unfold msW
      rw [if_neg (fun w => by rw [hfz, if_pos e] at w; exact absurd w.1 (by decide))]
    rw [e1, e2]
    exact ⟨II_up h (by omega) (fun w => absurd e w), hV⟩
  · obtain ⟨k1, s, k2, k3, k4⟩ := h.2.2.2.2 e
    have ef : M.fz = I.k := by rw [hfz, if_neg e]
    have hk := h.1
    have q1 : (nI (M.S.n + 1) - I.st I.k).toInt = ((M.S.n + 1 - s : Nat) : Int) := by rw [k2, pk_sub (by omega), l_nI (by omega)]
    have q2 : nI (M.S.n + 1) = M.st M.fz + 5 ↔ M.S.n + 1 = s + 5 := by
      rw [ef, hR.1, k2, show (5 : Int32) = nI 5 from rfl, nI_add]
      exact nI_eq (by omega) (by omega)
    by_cases w : M.S.n + 1 = s + 5
    · have e1 : isB I (M.S.n + 1) (msV M k u c b f z).cs = isF I (M.S.n + 1) (msV M k u c b f z).cs := by
        unfold isB
        rw [if_pos (by rw [q1]; omega)]
      have e2 : msW M k u c b f z = msF (msV M k u c b f z) := by
        unfold msW
        rw [if_pos ⟨by omega, q2.mpr w⟩]
      rw [e1, e2]
      exact ⟨(fin_II h (by omega) (by omega)).1, fin_RI h hV⟩
    · have e1 : isB I (M.S.n + 1) (msV M k u c b f z).cs = I := by
        unfold isB
        rw [if_neg (by rw [q1]; omega)]
      have e2 : msW M k u c b f z = msV M k u c b f z := by
        unfold msW
        rw [if_neg (fun v => w (q2.mp v.2))]
      rw [e1, e2]
      refine ⟨II_up h (by omega) (fun _ s2 a1 a2 => ?_), hV⟩
      have := nI_inj (i := s) (j := s2) (by omega) (by omega) (k2.symm.trans a1)
      omega
/-- what always holds, of both sides, but that units with rows by backing out are over -/
def BI (X : XS) (M : MS) : Prop := LI X.S X.S.n ∧ LK X.U X.S X.S.n ∧ II X.I X.S.n ∧ RLx X M ∧ X.S.n ≤ 2000 ∧ X.S.ar ≤ 2000 ∧ 1 ≤ X.rg ∧ X.rg ≤ 4
theorem BI_C {X : XS} {M : MS} {u c : Int32} (b f : Int64) (z : Int32) (h : BI X M) (hn : X.S.n < 2000) (hu : okU u) (hc : okC c) (hno : NO X.S u X.S.n) (hcell : ∀ r, 1 ≤ r → r ≤ X.S.n → X.S.kd r = 0 → X.S.ce r = c → ¬ X.S.un r = u → ∃ m, r < m ∧ m ≤ X.S.n ∧ X.S.un m = X.S.un r ∧ ¬ X.S.kd m = 0) : BI (xsC X u c b f z) (msW M 0 u c b f z) := by
  obtain ⟨h1, h2, h3, ⟨h4, h5, h6, h7⟩, h8, h9, h10, h11⟩ := h
  obtain ⟨w1, w2, w3, w4, w5, w6, w7, w8⟩ := msW_S M 0 u c b f z
  have ecs : csS X.cs c f = (msV M 0 u c b f z).cs := by
    show csS X.cs c f = if (0 : Int32) = 0 then vp_updL M.cs c.toNatClampNeg f else M.cs
    unfold csS
    rw [if_pos hc, if_pos rfl, h5]
  obtain ⟨s1, s2⟩ := wr_sim (I := X.I) (M := M) 0 u c b f z (by rw [h4]; exact h3) h7 (by rw [h4]; exact hn)
  rw [h4] at s1 s2
  refine ⟨LI_W h1 hu (Or.inl ⟨rfl, hc⟩) hno (fun _ => hcell), LK_W 0 u c b f z h2, ?_, ⟨?_, ?_, ?_, ?_⟩, by show X.S.n + 1 ≤ 2000; omega, h9, h10, h11⟩
  · show II (isB X.I (X.S.n + 1) (csS X.cs c f)) (X.S.n + 1)
    rw [ecs]
    exact s1
  · show (msW M 0 u c b f z).S = rsW X.S 0 u c b f z
    rw [w1, h4]
  · show (msW M 0 u c b f z).cs = csS X.cs c f
    rw [w8, ecs]
    rfl
  · show (msW M 0 u c b f z).rg = X.rg
    rw [w3, h6]
  · show RI (isB X.I (X.S.n + 1) (csS X.cs c f)) _
    rw [ecs]
    exact s2
theorem BI_L {X : XS} {M : MS} {u k : Int32} (z : Int32) (h : BI X M) (hk : k = 1 ∨ k = 2) (hn : X.S.n < 2000) (hu : okU u) (hno : NO X.S u X.S.n) : BI (xsL X u k z) (msW M k u (-1) 0 0 z) := by
  obtain ⟨h1, h2, h3, ⟨h4, h5, h6, h7⟩, h8, h9, h10, h11⟩ := h
  have hk0 : ¬ k = 0 := by rcases hk with rfl | rfl <;> decide
  obtain ⟨w1, w2, w3, w4, w5, w6, w7, w8⟩ := msW_S M k u (-1) 0 0 z
  have ecs : X.cs = (msV M k u (-1) 0 0 z).cs := by
    show X.cs = if k = 0 then vp_updL M.cs _ 0 else M.cs
    rw [if_neg hk0, h5]
  obtain ⟨s1, s2⟩ := wr_sim (I := X.I) (M := M) k u (-1) 0 0 z (by rw [h4]; exact h3) h7 (by rw [h4]; exact hn)
  rw [h4] at s1 s2
  refine ⟨LI_W h1 hu (Or.inr ⟨hk, rfl⟩) hno (fun q => absurd q hk0), LK_W k u (-1) 0 0 z h2, ?_, ⟨?_, ?_, ?_, ?_⟩, by show X.S.n + 1 ≤ 2000; omega, h9, h10, h11⟩
  · show II (isB X.I (X.S.n + 1) X.cs) (X.S.n + 1)
    rw [ecs]
    exact s1
  · show (msW M k u (-1) 0 0 z).S = rsW X.S k u (-1) 0 0 z
    rw [w1, h4]
  · show (msW M k u (-1) 0 0 z).cs = X.cs
    rw [w8, if_neg hk0, h5]
  · show (msW M k u (-1) 0 0 z).rg = X.rg
    rw [w3, h6]
  · show RI (isB X.I (X.S.n + 1) X.cs) _
    rw [ecs]
    exact s2
/-- where a unit that isn't over has changed a cell, no other open one has -/
theorem cell_of {S : RS} {u : Int32} {r0 : Nat} (hL : LI S S.n) (hno : NO S u S.n) (h1 : 1 ≤ r0) (h2 : r0 ≤ S.n) (hc : isC S u r0) : ∀ r, 1 ≤ r → r ≤ S.n → S.kd r = 0 → S.ce r = S.ce r0 → ¬ S.un r = u → ∃ m, r < m ∧ m ≤ S.n ∧ S.un m = S.un r ∧ ¬ S.kd m = 0 := by
  intro r a b c d e
  obtain ⟨-, -, -, -, -, h6, -⟩ := hL
  rcases Nat.lt_trichotomy r r0 with q | q | q
  · obtain ⟨m, m1, m2, m3, m4⟩ := h6 r r0 a q h2 c hc.1.1 d (fun w => e (by rw [w]; exact hc.2))
    exact ⟨m, m1, by omega, m3, m4⟩
  · rw [q] at e
    exact absurd hc.2 e
  · obtain ⟨m, m1, m2, m3, m4⟩ := h6 r0 r h1 q b hc.1.1 c d.symm (fun w => e (by rw [← w]; exact hc.2))
    exact absurd (hno m (by omega) (by omega) (by rw [m3]; exact hc.2)) m4
/-- taking back, on both sides -/
theorem BI_B {u : Int32} (hu : okU u) : ∀ (k : Nat) (X : XS) (M : MS), BI X M → k ≤ X.S.n → NO X.S u X.S.n → X.S.n + cnB X.S u k ≤ 2000 → BI (xsB u k X) (msB u k M) ∧ NO (xsB u k X).S u (xsB u k X).S.n
  | 0, X, M, h, _, hno, _ => ⟨h, hno⟩
  | k + 1, X, M, h, hk, hno, hr => by
    have hS : M.S = X.S := h.2.2.2.1.1
    simp only [xsB, msB]
    rw [hS]
    by_cases hc : isC X.S u (k + 1)
    · rw [if_pos hc, if_pos hc]
      have e1 : cnB X.S u (k + 1) = cnB X.S u k + 1 := cn_yes (by omega) hc
      have e2 := cnB_W X.S 0 u (X.S.ce (k + 1)) (X.S.af (k + 1)) (X.S.bf (k + 1)) 1 u k (by omega)
      refine BI_B hu k _ _ (BI_C _ _ 1 h (by omega) hu (h.1.2.2.1 (k + 1) (by omega) hk hc.1.1) hno (cell_of h.1 hno (by omega) hk hc)) ?_ (NO_W0 hno) ?_
      · show k ≤ X.S.n + 1
        omega
      · show X.S.n + 1 + cnB (rsW X.S 0 u (X.S.ce (k + 1)) (X.S.af (k + 1)) (X.S.bf (k + 1)) 1) u k ≤ 2000
        rw [e2]
        omega
    · rw [if_neg hc, if_neg hc]
      have e1 : cnB X.S u (k + 1) = cnB X.S u k := cn_no (by omega) hc
      exact BI_B hu k X M h (by omega) hno (by omega)
theorem BI_T {u : Int32} {X : XS} {M : MS} (hu : okU u) (h : BI X M) (hno : NO X.S u X.S.n) (hr : X.S.n + cnB X.S u X.S.n + 1 ≤ 2000) : BI (xsW X u) (msT M u) := by
  obtain ⟨b1, b2⟩ := BI_B hu X.S.n X M h (Nat.le_refl _) hno (by omega)
  have hS : M.S = X.S := h.2.2.2.1.1
  have hn := (xsB_facts u X.S.n X (Nat.le_refl _)).1
  unfold xsW msT
  rw [hS]
  exact BI_L 1 b1 (Or.inr rfl) (by omega) hu b2
theorem xsB_S (u : Int32) : ∀ (k : Nat) (X : XS), (xsB u k X).S = rsB u k X.S
  | 0, _ => rfl
  | k + 1, X => by
    simp only [xsB, rsB]
    by_cases hc : isC X.S u (k + 1)
    · rw [if_pos hc, if_pos hc, xsB_S u k]
      rfl
    · rw [if_neg hc, if_neg hc, xsB_S u k]
theorem xsW_S (u : Int32) (X : XS) : (xsW X u).S = rsE X.S u := by
  show rsW (xsB u X.S.n X).S 2 u (-1) 0 0 1 = rsW (rsB u X.S.n X.S) 2 u (-1) 0 0 1
  rw [xsB_S]
/-- which rows taking back writes -/
theorem rsB_rows (u : Int32) : ∀ (k : Nat) (S : RS), k ≤ S.n → S.n ≤ (rsB u k S).n ∧ (∀ r, r ≤ S.n → (rsB u k S).bk r = S.bk r) ∧ ∀ r, S.n < r → r ≤ (rsB u k S).n → (rsB u k S).un r = u
  | 0, S, _ => ⟨Nat.le_refl _, fun _ _ => rfl, fun r h1 h2 => by have h2 : r ≤ S.n := h2; omega⟩
  | k + 1, S, h => by
    simp only [rsB]
    by_cases hc : isC S u (k + 1)
    · rw [if_pos hc]
      have hn : (rsW S 0 u (S.ce (k + 1)) (S.af (k + 1)) (S.bf (k + 1)) 1).n = S.n + 1 := rfl
      obtain ⟨h1, h2, h3⟩ := rsB_rows u k (rsW S 0 u (S.ce (k + 1)) (S.af (k + 1)) (S.bf (k + 1)) 1) (by omega)
      have f4 := (rsB_facts u k (rsW S 0 u (S.ce (k + 1)) (S.af (k + 1)) (S.bf (k + 1)) 1) (by omega)).2.2.2.1
      refine ⟨by omega, fun r hr => ?_, fun r r1 r2 => ?_⟩
      · rw [h2 r (by omega)]
        exact (W_old S _ _ _ _ _ _ hr).2.2.2.2
      · by_cases q : r = S.n + 1
        · subst q
          rw [(f4 (S.n + 1) (by omega)).2]
          exact (W_new S _ _ _ _ _ _).2.1
        · exact h3 r (by omega) r2
    · rw [if_neg hc]
      exact rsB_rows u k S (by omega)
theorem rsE_rows (u : Int32) (S : RS) : S.n < (rsE S u).n ∧ (∀ r, r ≤ S.n → (rsE S u).bk r = S.bk r ∧ (rsE S u).kd r = S.kd r ∧ (rsE S u).un r = S.un r) ∧ (∀ r, S.n < r → r ≤ (rsE S u).n → (rsE S u).un r = u) ∧ (rsE S u).kd (rsE S u).n = 2 := by
  obtain ⟨h1, h2, h3⟩ := rsB_rows u S.n S (Nat.le_refl _)
  obtain ⟨-, -, -, g4, -⟩ := rsE_facts u S
  have hn : (rsE S u).n = (rsB u S.n S).n + 1 := rfl
  refine ⟨by omega, fun r hr => ⟨?_, g4 r hr⟩, fun r r1 r2 => ?_, (W_new (rsB u S.n S) _ _ _ _ _ _).1⟩
  · exact ((W_old (rsB u S.n S) 2 u (-1) 0 0 1 (r := r) (by omega)).2.2.2.2).trans (h2 r hr)
  · by_cases q : r = (rsB u S.n S).n + 1
    · subst q
      exact (W_new (rsB u S.n S) _ _ _ _ _ _).2.1
    · exact ((W_old (rsB u S.n S) 2 u (-1) 0 0 1 (r := r) (by omega)).2.1).trans (h3 r r1 (by omega))
theorem OB_E {S : RS} {u : Int32} (h : OB S) : OB (rsE S u) := by
  obtain ⟨e1, e2, e3, e4⟩ := rsE_rows u S
  intro r r1 r2 r3
  by_cases q : r ≤ S.n
  · obtain ⟨a1, a2, a3⟩ := e2 r q
    rw [a1] at r3
    obtain ⟨m, m1, m2, m3, m4⟩ := h r r1 q r3
    obtain ⟨b1, b2, b3⟩ := e2 m m2
    exact ⟨m, m1, by omega, by rw [b3, a3]; exact m3, by rw [b2]; exact m4⟩
  · exact ⟨(rsE S u).n, by omega, Nat.le_refl _, by rw [e3 _ e1 (Nat.le_refl _), e3 r (by omega) r2], by rw [e4]; decide⟩
theorem OB_W {S : RS} {k u c : Int32} {b f : Int64} (h : OB S) : OB (rsW S k u c b f 0) := by
  intro r r1 r2 r3
  have r2 : r ≤ S.n + 1 := r2
  by_cases q : r ≤ S.n
  · obtain ⟨a1, a2, a3, a4, a5⟩ := W_old S k u c b f 0 q
    rw [a5] at r3
    obtain ⟨m, m1, m2, m3, m4⟩ := h r r1 q r3
    obtain ⟨b1, b2, b3, b4, b5⟩ := W_old S k u c b f 0 m2
    exact ⟨m, m1, by show m ≤ S.n + 1; omega, by rw [b2, a2]; exact m3, by rw [b1]; exact m4⟩
  · have e : r = S.n + 1 := by omega
    subst e
    exact absurd (W_new S k u c b f 0).2.2.2.2 r3
