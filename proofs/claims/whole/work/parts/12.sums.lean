/-! sums over units; a recovery's room -/
def smF (f : Nat → Nat) : Nat → Nat → Nat
  | 0, _ => 0
  | d + 1, i => f i + smF f d (i + 1)
theorem smF_add (f h : Nat → Nat) : ∀ d i, smF (fun j => f j + h j) d i = smF f d i + smF h d i
  | 0, _ => rfl
  | d + 1, i => by
    simp only [smF]
    rw [smF_add f h d (i + 1)]
    omega
theorem smF_congr {f h : Nat → Nat} : ∀ d i, (∀ j, i ≤ j → j < i + d → f j = h j) → smF f d i = smF h d i
  | 0, _, _ => rfl
  | d + 1, i, e => by
    simp only [smF]
    rw [e i (Nat.le_refl _) (by omega), smF_congr d (i + 1) (fun j h1 h2 => e j (by omega) (by omega))]
theorem smF_pt (j0 : Nat) : ∀ d i, smF (fun j => if j = j0 then 1 else 0) d i = if i ≤ j0 ∧ j0 < i + d then 1 else 0
  | 0, i => by
    rw [if_neg (by omega)]
    rfl
  | d + 1, i => by
    simp only [smF]
    rw [smF_pt j0 d (i + 1)]
    by_cases h : i = j0
    · rw [if_pos h, if_neg (by omega), if_pos (by omega)]
    · rw [if_neg h]
      by_cases h2 : i + 1 ≤ j0 ∧ j0 < i + 1 + d
      · rw [if_pos h2, if_pos (by omega)]
      · rw [if_neg h2, if_neg (by omega)]
theorem smF_zero : ∀ d i, smF (fun _ => 0) d i = 0
  | 0, _ => rfl
  | d + 1, i => by
    simp only [smF]
    rw [smF_zero d (i + 1)]
theorem smF_snoc (f : Nat → Nat) : ∀ d i, smF f (d + 1) i = smF f d i + f (i + d)
  | 0, i => by simp [smF]
  | d + 1, i => by
    have h := smF_snoc f d (i + 1)
    simp only [smF] at h ⊢
    rw [h, show i + 1 + d = i + (d + 1) by omega]
    omega
theorem cntU_sm (U : US) (x : Int32) : ∀ k, cntU U x k = smF (fun j => if U.lk j = x then 1 else 0) k 1
  | 0 => rfl
  | k + 1 => by
    rw [smF_snoc, ← cntU_sm U x k, show 1 + k = k + 1 by omega]
    simp only [cntU]
    split <;> rfl
theorem nI_inj {i j : Nat} (hi : i ≤ 2000) (hj : j ≤ 2000) (h : nI i = nI j) : i = j := (nI_eq (by omega) (by omega)).mp h
/-- of one row: it is backed out for just one unit -/
theorem tb_sm (S : RS) (V : US) (r : Nat) : smF (fun j => if opU V (nI j) ∧ isC S (nI j) r then 1 else 0) 60 1 = if tbB S V r then 1 else 0 := by
  by_cases h : tbB S V r
  · rw [if_pos h]
    obtain ⟨h1, ⟨h2, h3⟩, h4⟩ := h
    have e := p_nI (x := S.un r) (by omega)
    have e2 := pn_toInt (x := S.un r) (by omega)
    have hc := smF_congr (f := fun j => if opU V (nI j) ∧ isC S (nI j) r then 1 else 0) (h := fun j => if j = (S.un r).toNatClampNeg then 1 else 0) 60 1 (fun j k1 k2 => by
      by_cases q : j = (S.un r).toNatClampNeg
      · have e3 : nI j = S.un r := by rw [q, ← e]
        show (if opU V (nI j) ∧ isC S (nI j) r then 1 else 0) = if j = (S.un r).toNatClampNeg then 1 else 0
        rw [if_pos q, e3, if_pos ⟨⟨⟨h2, h3⟩, h4⟩, h1, rfl⟩]
      · show (if opU V (nI j) ∧ isC S (nI j) r then 1 else 0) = if j = (S.un r).toNatClampNeg then 1 else 0
        rw [if_neg q, if_neg (fun k => q (nI_inj (by omega) (by omega) (by rw [← e]; exact k.2.2.symm)))])
    rw [hc, smF_pt, if_pos (by omega)]
  · rw [if_neg h]
    rw [smF_congr (h := fun _ => 0) 60 1 (fun j k1 k2 => by
      show (if opU V (nI j) ∧ isC S (nI j) r then 1 else 0) = 0
      rw [if_neg (fun k => h ⟨k.2.1, by rw [k.2.2]; exact k.1⟩)]), smF_zero]
theorem tb_all (S : RS) (V : US) : ∀ t, smF (fun j => if opU V (nI j) then cnB S (nI j) t else 0) 60 1 = cnT S V t
  | 0 => by
    show _ = 0
    rw [smF_congr (h := fun _ => 0) 60 1 (fun j _ _ => by show (if opU V (nI j) then 0 else 0) = 0; split <;> rfl), smF_zero]
  | t + 1 => by
    have ih := tb_all S V t
    have h1 := tb_sm S V (t + 1)
    show _ = if tbB S V (t + 1) then cnT S V t + 1 else cnT S V t
    rw [smF_congr (h := fun j => (if opU V (nI j) then cnB S (nI j) t else 0) + (if opU V (nI j) ∧ isC S (nI j) (t + 1) then 1 else 0)) 60 1 (fun j _ _ => by
      show (if opU V (nI j) then (if isC S (nI j) (t + 1) then cnB S (nI j) t + 1 else cnB S (nI j) t) else 0) = (if opU V (nI j) then cnB S (nI j) t else 0) + (if opU V (nI j) ∧ isC S (nI j) (t + 1) then 1 else 0)
      by_cases q : opU V (nI j)
      · rw [if_pos q, if_pos q]
        by_cases q2 : isC S (nI j) (t + 1)
        · rw [if_pos q2, if_pos ⟨q, q2⟩]
        · rw [if_neg q2, if_neg (fun k => q2 k.2)]
          rfl
      · rw [if_neg q, if_neg q, if_neg (fun k => q k.1)]), smF_add, ih, h1]
    by_cases q : tbB S V (t + 1)
    · rw [if_pos q, if_pos q]
    · rw [if_neg q, if_neg q]
      rfl
/-- the kind of a unit's latest row among the first k, -1 without one -/
def lkO (S : RS) (j : Nat) : Nat → Int32
  | 0 => -1
  | k + 1 => if okU (S.un (k + 1)) ∧ (S.un (k + 1)).toNatClampNeg = j then S.kd (k + 1) else lkO S j k
/-- the unit that changed a cell last, 0 without one -/
def chO (S : RS) (c : Nat) : Nat → Int32
  | 0 => 0
  | k + 1 => if okC (S.ce (k + 1)) ∧ (S.ce (k + 1)).toNatClampNeg = c then S.un (k + 1) else chO S c k
theorem usA_lk {S : RS} {U0 : US} (h : ∀ j, j < 61 → U0.lk j = -1) {j : Nat} (hj : j < 61) : ∀ k, (usA S U0 k).lk j = lkO S j k
  | 0 => h j hj
  | k + 1 => by
    have ih := usA_lk (S := S) h hj k
    show (if 1 ≤ (S.un (k + 1)).toInt ∧ (S.un (k + 1)).toInt ≤ 60 then upd (usA S U0 k).lk (S.un (k + 1)).toNatClampNeg (S.kd (k + 1)) else (usA S U0 k).lk) j = if okU (S.un (k + 1)) ∧ (S.un (k + 1)).toNatClampNeg = j then S.kd (k + 1) else lkO S j k
    by_cases q : okU (S.un (k + 1))
    · rw [if_pos q]
      by_cases q2 : (S.un (k + 1)).toNatClampNeg = j
      · rw [if_pos ⟨q, q2⟩, ← q2, pk_us]
      · rw [if_neg (fun z => q2 z.2), pk_un (Ne.symm q2), ih]
    · rw [if_neg q, if_neg (fun z => q z.1), ih]
theorem usA_ch {S : RS} {U0 : US} (h : ∀ j, j < 32 → U0.ch j = 0) {c : Nat} (hc : c < 32) : ∀ k, (usA S U0 k).ch c = chO S c k
  | 0 => h c hc
  | k + 1 => by
    have ih := usA_ch (S := S) h hc k
    show (if 0 ≤ (S.ce (k + 1)).toInt ∧ (S.ce (k + 1)).toInt < 32 then upd (usA S U0 k).ch (S.ce (k + 1)).toNatClampNeg (S.un (k + 1)) else (usA S U0 k).ch) c = if okC (S.ce (k + 1)) ∧ (S.ce (k + 1)).toNatClampNeg = c then S.un (k + 1) else chO S c k
    by_cases q : okC (S.ce (k + 1))
    · rw [if_pos q]
      by_cases q2 : (S.ce (k + 1)).toNatClampNeg = c
      · rw [if_pos ⟨q, q2⟩, ← q2, pk_us]
      · rw [if_neg (fun z => q2 z.2), pk_un (Ne.symm q2), ih]
    · rw [if_neg q, if_neg (fun z => q z.1), ih]
theorem usA_D (S : RS) (t : Nat) (U0 : US) : ∀ k, usA (rsD S t) U0 k = usA S U0 k
  | 0 => rfl
  | k + 1 => by
    show usF (usA (rsD S t) U0 k) _ _ _ = usF (usA S U0 k) _ _ _
    rw [usA_D S t U0 k]
    rfl
/-- the room that backing all out needs -/
theorem nd_room {S : RS} {U0 U1 V2 : US} {I2 : IS} {cs2 : Nat → Int64} {rg t : Nat} (h0 : ∀ j, j < 61 → U0.lk j = -1) (h1 : ∀ j, j < 61 → U1.lk j = -1) (ht : t ≤ S.n) : ndA (rsD S t, usA (rsD S t) U1 t, V2, I2, cs2, rg) 60 1 = cnT S (usA S U0 t) t + cntU (usA S U0 t) 0 60 := by
  have e : ∀ d i, ndA (rsD S t, usA (rsD S t) U1 t, V2, I2, cs2, rg) d i = smF (fun j => if opU (usA S U1 t) (nI j) then cnB S (nI j) t + 1 else 0) d i := by
    intro d
    induction d with
    | zero => intro i; rfl
    | succ d ih =>
      intro i
      simp only [ndA, smF]
      rw [ih (i + 1)]
      congr 1
      show (if opU (usA (rsD S t) U1 t) (nI i) then cnB (rsD S t) (nI i) (min S.n t) + 1 else 0) = _
      rw [usA_D, Nat.min_eq_right ht]
      have cD : ∀ k, cnB (rsD S t) (nI i) k = cnB S (nI i) k := fun k => by
        induction k with
        | zero => rfl
        | succ k ihk => simp only [cnB]; rw [ihk]; rfl
      rw [cD]
  rw [e, ← tb_all S (usA S U0 t) t, cntU_sm, ← smF_add]
  refine smF_congr 60 1 (fun j k1 k2 => ?_)
  have c1 : (nI j).toNatClampNeg = j := c_nI (by omega)
  have c2 : (nI j).toInt = (j : Int) := l_nI (by omega)
  have p0 : opU (usA S U0 t) (nI j) ↔ lkO S j t = 0 := by
    show ((1 ≤ (nI j).toInt ∧ (nI j).toInt ≤ 60) ∧ (usA S U0 t).lk (nI j).toNatClampNeg = 0) ↔ _
    rw [c1, c2, usA_lk h0 (by omega)]
    exact ⟨fun z => z.2, fun z => ⟨by omega, z⟩⟩
  have p1 : opU (usA S U1 t) (nI j) ↔ lkO S j t = 0 := by
    show ((1 ≤ (nI j).toInt ∧ (nI j).toInt ≤ 60) ∧ (usA S U1 t).lk (nI j).toNatClampNeg = 0) ↔ _
    rw [c1, c2, usA_lk h1 (by omega)]
    exact ⟨fun z => z.2, fun z => ⟨by omega, z⟩⟩
  show (if opU (usA S U1 t) (nI j) then cnB S (nI j) t + 1 else 0) = (if opU (usA S U0 t) (nI j) then cnB S (nI j) t else 0) + (if (usA S U0 t).lk j = 0 then 1 else 0)
  have q9 := usA_lk (S := S) h0 (by omega : j < 61) t
  by_cases q : lkO S j t = 0
  · rw [if_pos (p1.mpr q), if_pos (p0.mpr q), if_pos (by rw [q9]; exact q)]
  · rw [if_neg (fun z => q (p1.mp z)), if_neg (fun z => q (p0.mp z)), if_neg (by rw [q9]; exact q)]
theorem lsF_le (S : RS) (V : US) (p : Int32) : ∀ d i, lsF S V p d i ≤ i + d
  | 0, i => Nat.zero_le _
  | d + 1, i => by
    have := lsF_le S V p d (i + 1)
    simp only [lsF]
    split <;> omega
