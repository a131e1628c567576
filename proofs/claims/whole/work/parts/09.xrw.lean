/-! LogForward: what its writing methods do to the state -/
def csS (cs : Nat → Int64) (p : Int32) (v : Int64) : Nat → Int64 := if 0 ≤ p.toInt ∧ p.toInt < 32 then vp_updL cs p.toNatClampNeg v else cs
/-- a fuzzy image is finished just behind the fifth row -/
def isB (I : IS) (row : Nat) (cs : Nat → Int64) : IS := if (5 : Int) ≤ (nI row - I.st I.k).toInt then isF I row cs else I
/-- a change; a unit's last row -/
def xsC (X : XS) (u c : Int32) (b f : Int64) (z : Int32) : XS := (rsW X.S 0 u c b f z, usF X.U 0 u c, X.V, isB X.I (X.S.n + 1) (csS X.cs c f), csS X.cs c f, X.rg)
def xsL (X : XS) (u k z : Int32) : XS := (rsW X.S k u (-1) 0 0 z, usF X.U k u (-1), X.V, isB X.I (X.S.n + 1) X.cs, X.cs, X.rg)
/-- a unit's changes among the first k rows are taken back, the latest first -/
def xsB (u : Int32) : Nat → XS → XS
  | 0, X => X
  | k + 1, X => if isC X.S u (k + 1) then xsB u k (xsC X u (X.S.ce (k + 1)) (X.S.af (k + 1)) (X.S.bf (k + 1)) 1) else xsB u k X
def xsW (X : XS) (u : Int32) : XS := xsL (xsB u X.S.n X) u 2 1
theorem isF_k (I : IS) (row : Nat) (cs : Nat → Int64) : (isF I row cs).k = I.k := by
  unfold isF
  split <;> rfl
theorem isB_k (I : IS) (row : Nat) (cs : Nat → Int64) : (isB I row cs).k = I.k := by
  unfold isB
  split
  · exact isF_k I row cs
  · rfl
theorem cnB_W (S : RS) (k u c : Int32) (b f : Int64) (z p : Int32) : ∀ j, j ≤ S.n → cnB (rsW S k u c b f z) p j = cnB S p j
  | 0, _ => rfl
  | j + 1, h => by
    have ih := cnB_W S k u c b f z p j (by omega)
    simp only [cnB]
    rw [ih]
    have e : ∀ (q : Nat → Int32) (v : Int32), upd q (S.n + 1) v (j + 1) = q (j + 1) := fun q v => pk_un (by omega)
    have e1 : isC (rsW S k u c b f z) p (j + 1) = isC S p (j + 1) := by
      show ((upd S.kd (S.n + 1) k (j + 1) = 0 ∧ upd S.bk (S.n + 1) z (j + 1) = 0) ∧ upd S.un (S.n + 1) u (j + 1) = p) = _
      rw [e, e, e]
    exact ite_congr e1 (fun _ => rfl) (fun _ => rfl)
/-- a row by backing out counts for nobody -/
theorem cnB_W1 (S : RS) (k u c : Int32) (b f : Int64) (p : Int32) : cnB (rsW S k u c b f 1) p (S.n + 1) = cnB S p S.n := by
  simp only [cnB]
  rw [if_neg, cnB_W S k u c b f 1 p S.n (Nat.le_refl _)]
  intro h
  have h2 : upd S.bk (S.n + 1) 1 (S.n + 1) = 0 := h.1.2
  rw [pk_us] at h2
  exact absurd h2 (by decide)
theorem usF_ne (U : US) (k u c : Int32) {j : Nat} (h : j ≠ u.toNatClampNeg) : (usF U k u c).lk j = U.lk j := by
  show (if 1 ≤ u.toInt ∧ u.toInt ≤ 60 then upd U.lk u.toNatClampNeg k else U.lk) j = U.lk j
  split
  · exact pk_un h
  · rfl
/-- what taking back leaves as it was, and how many rows come -/
theorem xsB_facts (u : Int32) : ∀ (k : Nat) (X : XS), k ≤ X.S.n → (xsB u k X).S.n = X.S.n + cnB X.S u k ∧ (xsB u k X).I.k = X.I.k ∧ (xsB u k X).rg = X.rg ∧ (xsB u k X).V = X.V ∧ (xsB u k X).S.ar = X.S.ar ∧ (∀ p, cnB (xsB u k X).S p (xsB u k X).S.n = cnB X.S p X.S.n) ∧ ∀ j, j ≠ u.toNatClampNeg → (xsB u k X).U.lk j = X.U.lk j
  | 0, X, _ => ⟨rfl, rfl, rfl, rfl, rfl, fun _ => rfl, fun _ _ => rfl⟩
  | k + 1, X, h => by
    simp only [xsB]
    by_cases hc : isC X.S u (k + 1)
    · rw [if_pos hc]
      have hn : (xsC X u (X.S.ce (k + 1)) (X.S.af (k + 1)) (X.S.bf (k + 1)) 1).S.n = X.S.n + 1 := rfl
      obtain ⟨h1, h2, h3, h4, h5, h6, h7⟩ := xsB_facts u k (xsC X u (X.S.ce (k + 1)) (X.S.af (k + 1)) (X.S.bf (k + 1)) 1) (by omega)
      refine ⟨?_, ?_, h3, h4, h5, fun p => ?_, fun j hj => ?_⟩
      · rw [h1, hn]
        show X.S.n + 1 + cnB (rsW X.S 0 u (X.S.ce (k + 1)) (X.S.af (k + 1)) (X.S.bf (k + 1)) 1) u k = _
        rw [cnB_W _ _ _ _ _ _ _ _ k (by omega)]
        show _ = X.S.n + (if isC X.S u (k + 1) then cnB X.S u k + 1 else cnB X.S u k)
        rw [if_pos hc]
        omega
      · rw [h2]
        exact isB_k _ _ _
      · rw [h6 p]
        exact cnB_W1 _ _ _ _ _ _ _
      · rw [h7 j hj]
        exact usF_ne _ _ _ _ hj
    · rw [if_neg hc]
      obtain ⟨h1, h2, h3, h4, h5, h6, h7⟩ := xsB_facts u k X (by omega)
      refine ⟨?_, h2, h3, h4, h5, h6, h7⟩
      rw [h1]
      show _ = X.S.n + (if isC X.S u (k + 1) then cnB X.S u k + 1 else cnB X.S u k)
      rw [if_neg hc]
theorem xsW_facts (u : Int32) (X : XS) : (xsW X u).S.n = X.S.n + cnB X.S u X.S.n + 1 ∧ (xsW X u).I.k = X.I.k ∧ (xsW X u).rg = X.rg ∧ (xsW X u).V = X.V ∧ (xsW X u).S.ar = X.S.ar ∧ (∀ p, cnB (xsW X u).S p (xsW X u).S.n = cnB X.S p X.S.n) ∧ ∀ j, j ≠ u.toNatClampNeg → (xsW X u).U.lk j = X.U.lk j := by
  obtain ⟨h1, h2, h3, h4, h5, h6, h7⟩ := xsB_facts u X.S.n X (Nat.le_refl _)
  refine ⟨?_, ?_, h3, h4, h5, fun p => ?_, fun j hj => ?_⟩
  · show (xsB u X.S.n X).S.n + 1 = _
    rw [h1]
  · show (isB _ _ _).k = _
    rw [isB_k, h2]
  · show cnB (rsW (xsB u X.S.n X).S 2 u (-1) 0 0 1) p ((xsB u X.S.n X).S.n + 1) = _
    rw [cnB_W1, h6 p]
  · show (usF (xsB u X.S.n X).U 2 u (-1)).lk j = _
    rw [usF_ne _ _ _ _ hj, h7 j hj]
/-- all open units from i on, of d, are backed out; how many rows that needs -/
def xsO : Nat → Nat → XS → XS
  | 0, _, X => X
  | d + 1, i, X => xsO d (i + 1) (if opU X.U (nI i) then xsW X (nI i) else X)
def ndA (X : XS) : Nat → Nat → Nat
  | 0, _ => 0
  | d + 1, i => (if opU X.U (nI i) then cnB X.S (nI i) X.S.n + 1 else 0) + ndA X d (i + 1)
theorem ndA_W (X : XS) (i : Nat) (hi : i ≤ 60) : ∀ (d j : Nat), i < j → j + d ≤ 61 → ndA (xsW X (nI i)) d j = ndA X d j
  | 0, _, _, _ => rfl
  | d + 1, j, hj, hd => by
    obtain ⟨h1, h2, h3, h4, h5, h6, h7⟩ := xsW_facts (nI i) X
    have ih := ndA_W X i hi d (j + 1) (by omega) (by omega)
    simp only [ndA]
    rw [ih, h6 (nI j)]
    congr 1
    refine ite_congr ?_ (fun _ => rfl) (fun _ => rfl)
    have hl := h7 j (by rw [c_nI (by omega)]; omega)
    show ((1 ≤ (nI j).toInt ∧ (nI j).toInt ≤ 60) ∧ (xsW X (nI i)).U.lk (nI j).toNatClampNeg = 0) = ((1 ≤ (nI j).toInt ∧ (nI j).toInt ≤ 60) ∧ X.U.lk (nI j).toNatClampNeg = 0)
    rw [c_nI (by omega), hl]
/-- cells forward: from row i on, of d rows -/
def csB (S : RS) : Nat → Nat → (Nat → Int64) → Nat → Int64
  | 0, _, cs => cs
  | d + 1, i, cs => csB S d (i + 1) (if S.kd i = 0 then csS cs (S.ce i) (S.af i) else cs)
theorem csB_step {S : RS} {i t : Nat} {cs : Nat → Int64} (h : i ≤ t) : csB S (t + 1 - i) i cs = csB S (t + 1 - (i + 1)) (i + 1) (if S.kd i = 0 then csS cs (S.ce i) (S.af i) else cs) := by
  obtain ⟨e, he⟩ : ∃ e, t + 1 - i = e + 1 := ⟨t - i, by omega⟩
  rw [he, show t + 1 - (i + 1) = e by omega]
  rfl
