/-! RECOVERY, ON BOTH SIDES -/
/-- all open units are backed out, on both sides -/
theorem O_sim {t : Nat} : ∀ (d i : Nat) (X : XS) (M : MS), i + d = 61 → 1 ≤ i → BI X M → t ≤ X.S.n → (∀ j, i ≤ j → j ≤ 60 → X.U.lk j = lkO X.S j t) → X.S.n + smF (neM M t) d i ≤ 2000 →
    (∀ r, 1 ≤ r → r ≤ X.S.n → ¬ X.S.bk r = 0 → (∃ q, 1 ≤ q ∧ q ≤ X.S.n ∧ X.S.un q = X.S.un r ∧ ¬ X.S.kd q = 0) ∨ ∃ j, i ≤ j ∧ j ≤ 60 ∧ X.S.un r = nI j ∧ r ≤ t) → BI (xsO d i X) (msO t d i M) ∧ OB (xsO d i X).S
  | 0, i, X, M, h0, h1, hB, ht, hl, hr, hO => ⟨hB, fun r a b c => by
      rcases hO r a b c with q | ⟨j, j1, j2, -, -⟩
      · exact q
      · omega⟩
  | d + 1, i, X, M, h0, h1, hB, ht, hl, hr, hO => by
    obtain ⟨k1, k2, k3, ⟨k4, k5, k6, k7⟩, k8, k9, k10, k11⟩ := id hB
    have hLt := k1.less ht
    have e0 : opU X.U (nI i) ↔ stO M.S (nI i) t = 1 := by
      rw [k4, ← st_0 h1 (by omega) hLt, ← hl i (Nat.le_refl _) (by omega)]
      show ((1 ≤ (nI i).toInt ∧ (nI i).toInt ≤ 60) ∧ X.U.lk (nI i).toNatClampNeg = 0) ↔ _
      rw [c_nI (by omega), l_nI (by omega)]
      exact ⟨fun z => z.2, fun z => ⟨by omega, z⟩⟩
    have hst : smF (neM M t) (d + 1) i = neM M t i + smF (neM M t) d (i + 1) := rfl
    simp only [xsO, msO]
    by_cases c : opU X.U (nI i)
    · rw [if_pos c, if_pos (e0.mp c)]
      have hu : okU (nI i) := c.1
      have hno : NO X.S (nI i) X.S.n := NO_of k1 (by have := ((op_st k1 k2).mp c).2; omega)
      have hne : neM M t i = cnB X.S (nI i) X.S.n + 1 := by
        unfold neM
        rw [if_pos (e0.mp c), k4]
      obtain ⟨x1, x2, x3, x4, x5, x6, x7⟩ := xsW_facts (nI i) X
      have xS := xsW_S (nI i) X
      obtain ⟨r1, r2, r3, r4⟩ := rsE_rows (nI i) X.S
      have hold : ∀ r, r ≤ X.S.n → (xsW X (nI i)).S.bk r = X.S.bk r ∧ (xsW X (nI i)).S.kd r = X.S.kd r ∧ (xsW X (nI i)).S.un r = X.S.un r := by
        rw [xS]
        exact r2
      have hnew : ∀ r, X.S.n < r → r ≤ (xsW X (nI i)).S.n → (xsW X (nI i)).S.un r = nI i := by
        rw [xS]
        exact r3
      have hlast : (xsW X (nI i)).S.kd (xsW X (nI i)).S.n = 2 := by
        rw [xS]
        exact r4
      refine O_sim d (i + 1) _ _ (by omega) (by omega) (BI_T hu hB hno (by omega)) (by omega) (fun j j1 j2 => ?_) ?_ (fun r a b e => ?_)
      · rw [x7 j (by rw [c_nI (by omega)]; omega), hl j (by omega) j2]
        exact (lkO_congr t (fun r hr9 => ⟨(hold r (by omega)).2.1, (hold r (by omega)).2.2⟩)).symm
      · rw [neM_T M (nI i) (by rw [k4]; exact ht), x1]
        omega
      · have hq : ∃ q, 1 ≤ q ∧ q ≤ (xsW X (nI i)).S.n ∧ (xsW X (nI i)).S.un q = nI i ∧ ¬ (xsW X (nI i)).S.kd q = 0 := ⟨(xsW X (nI i)).S.n, by omega, Nat.le_refl _, hnew _ (by omega) (Nat.le_refl _), by rw [hlast]; decide⟩
        by_cases z : r ≤ X.S.n
        · obtain ⟨o1, o2, o3⟩ := hold r z
          rw [o1] at e
          rw [o3]
          rcases hO r a z e with ⟨q, q1, q2, q3, q4⟩ | ⟨j, j1, j2, j3, j4⟩
          · obtain ⟨p1, p2, p3⟩ := hold q q2
            exact Or.inl ⟨q, q1, by omega, by rw [p3]; exact q3, by rw [p2]; exact q4⟩
          · by_cases w : j = i
            · subst w
              rw [j3]
              exact Or.inl hq
            · exact Or.inr ⟨j, by omega, j2, j3, j4⟩
        · rw [hnew r (by omega) b]
          exact Or.inl hq
    · rw [if_neg c, if_neg (fun z => c (e0.mpr z))]
      refine O_sim d (i + 1) X M (by omega) (by omega) hB ht (fun j j1 j2 => hl j (by omega) j2) (by omega) (fun r a b e => ?_)
      rcases hO r a b e with q | ⟨j, j1, j2, j3, j4⟩
      · exact Or.inl q
      · by_cases w : j = i
        · subst w
          have h2 : ¬ stO X.S (nI j) t = 1 := fun z => c (e0.mpr (by rw [k4]; exact z))
          have h3 := st_there (S := X.S) (p := nI j) (t := t) ⟨r, a, j4, j3⟩
          obtain ⟨q, q1, q2, q3, q4⟩ := st_over2 (S := X.S) (p := nI j) (t := t) (by omega)
          exact Or.inl ⟨q, q1, by omega, by rw [q3, j3], q4⟩
        · exact Or.inr ⟨j, by omega, j2, j3, j4⟩
theorem ls_la {S : RS} {V : US} {p : Int32} {t : Nat} (hL : LI S t) (hV : ∀ j, j < 61 → V.lk j = lkO S j t) : ∀ d i, 1 ≤ i → i + d = t + 1 → lsF S V p d i = laF S p t d i
  | 0, _, _, _ => rfl
  | d + 1, i, h1, h2 => by
    simp only [lsF, laF]
    rw [ls_la hL hV d (i + 1) (by omega) (by omega)]
    refine ite_congr (propext ?_) (fun _ => rfl) (fun _ => rfl)
    have hu := hL.1 i h1 (by omega)
    have e1 := p_nI (x := S.un i) (by omega)
    have e2 := pn_toInt (x := S.un i) (by omega)
    have e3 : opU V (S.un i) ↔ stO S (S.un i) t = 1 := by
      have h := st_0 (S := S) (t := t) (j := (S.un i).toNatClampNeg) (by omega) (by omega) hL
      rw [← e1] at h
      rw [← h]
      show (okU (S.un i) ∧ V.lk (S.un i).toNatClampNeg = 0) ↔ _
      rw [hV _ (by omega)]
      exact ⟨fun z => z.2, fun z => ⟨hu, z⟩⟩
    show (S.tn i = 3 ∧ (p.toInt < i ∨ ((S.kd i = 0 ∧ S.bk i = 0) ∧ opU V (S.un i)))) ↔ (S.tn i = 3 ∧ (p.toInt < i ∨ ((S.kd i = 0 ∧ S.bk i = 0) ∧ stO S (S.un i) t = 1)))
    rw [e3]
theorem mo_room {S : RS} {V : US} {t : Nat} (hL : LI S t) (hV : ∀ j, j < 61 → V.lk j = lkO S j t) : cnT S V t + cntU V 0 60 = smF (moF S t) 60 1 := by
  rw [← tb_all S V t, cntU_sm, ← smF_add]
  refine smF_congr 60 1 (fun j k1 k2 => ?_)
  have h := st_0 (S := S) (t := t) (j := j) k1 (by omega) hL
  have e : opU V (nI j) ↔ stO S (nI j) t = 1 := by
    rw [← h]
    show ((1 ≤ (nI j).toInt ∧ (nI j).toInt ≤ 60) ∧ V.lk (nI j).toNatClampNeg = 0) ↔ _
    rw [c_nI (by omega), l_nI (by omega), hV j (by omega)]
    exact ⟨fun z => z.2, fun z => ⟨by omega, z⟩⟩
  show (if opU V (nI j) then cnB S (nI j) t else 0) + (if V.lk j = 0 then 1 else 0) = if stO S (nI j) t = 1 then cnB S (nI j) t + 1 else 0
  by_cases c : stO S (nI j) t = 1
  · rw [if_pos (e.mpr c), if_pos (by rw [hV j (by omega)]; exact h.mpr c), if_pos c]
  · rw [if_neg (fun z => c (e.mp z)), if_neg (fun z => c (h.mp (by rw [← hV j (by omega)]; exact z))), if_neg c]
theorem sim_recover {X : XS} {M : MS} {p1 : Int32} {p2 : Int64} {rx rm : Int32} {ux : XS} {um : MS} (h : SI X M) (hx : rcX X (isF X.I X.S.n X.cs) p1 p2 rx ux) (hm : rcM (msF M) p1 p2 rm um) : rx = rm ∧ SI ux um := by
  obtain ⟨hF, hu⟩ := sim_fin h
  generalize hI : isF X.I X.S.n X.cs = I at hF hu hx
  generalize hG : msF M = F at hF hm
  obtain ⟨⟨h1, h2, h3, ⟨h4, h5, h6, ⟨r1, r2, r3, r4, r5, r6⟩⟩, h8, h9, h10, h11⟩, hO⟩ := id hF
  have h1 : LI X.S X.S.n := h1
  have h2 : LK X.U X.S X.S.n := h2
  have h3 : II I X.S.n := h3
  have h4 : F.S = X.S := h4
  have h5 : F.cs = X.cs := h5
  have h6 : F.rg = X.rg := h6
  have r1 : F.st = I.st := r1
  have r2 : F.en = I.en := r2
  have r3 : F.sp = I.sp := r3
  have r4 : F.k = I.k := r4
  have r5 : F.fz = if I.uf = 0 then 0 else I.k := r5
  have r6 : ∀ i c, 1 ≤ i → i ≤ I.k → c < 32 → (i = I.k → ¬ I.uf = 0 → c < 16) → F.kp (32 * i + c) = I.M i c := r6
  have h8 : X.S.n ≤ 2000 := h8
  have h9 : X.S.ar ≤ 2000 := h9
  have h10 : 1 ≤ X.rg := h10
  have h11 : X.rg ≤ 4 := h11
  obtain ⟨i1, i2, i3, i4, i5⟩ := id h3
  unfold rcX at hx
  unfold rcM at hm
  rw [h4, r1, r2, r3, r4] at hm
  -- the range of until is one thing on both sides
  have notB : gdI I p1 → ∀ t : Nat, t ≤ X.S.n → p2 = lN t → (I.en p1.toNatClampNeg).toInt ≤ (t : Int) → ¬ (lN X.S.n < p2 ∨ p2 < (I.en p1.toNatClampNeg).toInt64) := by
    intro g t t1 t2 t3 z
    have e2 := pn_toInt (x := p1) (by omega)
    obtain ⟨s, e, a, b, c, d⟩ := i2 p1.toNatClampNeg (by omega) (by omega)
    rw [b, l_nI (by omega)] at t3
    rw [t2, b, nI_l (by omega)] at z
    rcases z with z | z
    · rw [lN_lt (by omega) (by omega)] at z
      omega
    · rw [lN_lt (by omega) (by omega)] at z
      omega
  rcases hx with ⟨g, x1, x2⟩ | ⟨g, gb, x1, x2⟩ | ⟨g, t, U0, t1, t2, t3, hz, hx⟩
  · rcases hm with ⟨-, m1, m2⟩ | ⟨g9, -⟩ | ⟨g9, -⟩
    · rw [x1, x2, m1, m2]
      exact ⟨rfl, hF⟩
    · exact absurd g9 g
    · exact absurd g9 g
  · rcases hm with ⟨g9, -⟩ | ⟨-, -, m1, m2⟩ | ⟨-, t, t1, t2, t3, -⟩
    · exact absurd g g9
    · rw [x1, x2, m1, m2]
      exact ⟨rfl, hF⟩
    · exact absurd gb (notB g t t1 t2 t3)
  · rcases hm with ⟨g9, -⟩ | ⟨-, gb, -⟩ | ⟨-, t', t1', t2', t3', hm⟩
    · exact absurd g g9
    · exact absurd gb (notB g t t1 t2 t3)
    · have et : t' = t := by
        have e := t2'.symm.trans t2
        rw [lN_eq (by omega) (by omega)] at e
        exact e
      subst et
      have hLt := h1.less t1
      have hV : ∀ j, j < 61 → (usA X.S U0 t').lk j = lkO X.S j t' := fun j hj => usA_lk hz.1 hj t'
      have eL := ls_la (p := I.st p1.toNatClampNeg) hLt hV t' 1 (Nat.le_refl _) (by omega)
      have eM := mo_room hLt hV
      rw [eL, eM] at hx
      have fs : SI (rcV X I (usA X.S U0 t')) F := hF
      rcases hx with ⟨a1, a2, a3⟩ | ⟨a1, b1, a2, a3⟩ | ⟨a1, b1, U1, s0, y1, y2, y3, a3, a2⟩
      · rcases hm with ⟨c1, c2, c3⟩ | ⟨c1, -⟩ | ⟨c1, -⟩
        · rw [a2, a3, c2, c3]
          exact ⟨rfl, fs⟩
        · exact absurd c1 a1
        · exact absurd c1 a1
      · rcases hm with ⟨c1, -⟩ | ⟨c1, -, c2, c3⟩ | ⟨c1, d1, -⟩
        · exact absurd a1 c1
        · rw [a2, a3, c2, c3]
          exact ⟨rfl, fs⟩
        · omega
      · rcases hm with ⟨c1, -⟩ | ⟨c1, d1, -⟩ | ⟨c1, d1, s1, z2, z3, c3, c2⟩
        · exact absurd a1 c1
        · omega
        · have es : s1 = s0 := nI_inj (by omega) (by omega) (z2.symm.trans y2)
          subst es
          have e2 := pn_toInt (x := p1) (by omega)
          have hmin : min X.S.n t' = t' := Nat.min_eq_right t1
          have ecs : csB X.S (t' - s1) (s1 + 1) (va_cpy (I.M p1.toNatClampNeg) X.cs 0 0 32) = csB F.S (t' - s1) (s1 + 1) (va_cpy F.kp F.cs (32 * p1.toNatClampNeg) 0 32) := by
            rw [h4, h5]
            congr 1
            funext k
            unfold va_cpy
            by_cases w : 0 ≤ k ∧ k < 0 + 32
            · rw [if_pos w, if_pos w, Nat.zero_add, Nat.sub_zero]
              exact (r6 p1.toNatClampNeg k (by omega) (by omega) (by omega) (fun _ w9 => absurd hu w9)).symm
            · rw [if_neg w, if_neg w]
          have hBI : BI (rcY X I (usA X.S U0 t') U1 p1.toNatClampNeg s1 t') (rcZ F p1.toNatClampNeg s1 t') := by
            refine ⟨?_, ?_, ?_, ⟨?_, ?_, h6, ?_, ?_, ?_, r4, ?_, r6⟩, ?_, ?_, h10, h11⟩
            · show LI (rsD X.S t') (min X.S.n t')
              rw [hmin]
              exact hLt
            · show LK (usA (rsD X.S t') U1 t') (rsD X.S t') (min X.S.n t')
              rw [hmin]
              exact ⟨fun j hj => usA_lk y1.1 hj t', fun c hc => usA_ch y1.2 hc t'⟩
            · show II (isS I t') (min X.S.n t')
              rw [hmin]
              refine ⟨i1, i2, fun j => ?_, fun j hj => ?_, fun w => absurd hu w⟩
              · show (if 1 ≤ j ∧ j ≤ I.k ∧ (t' : Int) < (I.en j).toInt then 1 else I.sp j) = 0 ∨ (if 1 ≤ j ∧ j ≤ I.k ∧ (t' : Int) < (I.en j).toInt then 1 else I.sp j) = 1
                split
                · exact Or.inr rfl
                · exact i3 j
              · have hj : I.k < j := hj
                show (if 1 ≤ j ∧ j ≤ I.k ∧ (t' : Int) < (I.en j).toInt then 1 else I.sp j) = 0
                rw [if_neg (by omega)]
                exact i4 j hj
            · show rsD F.S t' = rsD X.S t'
              rw [h4]
            · exact ecs.symm
            · exact r1
            · exact r2
            · show (fun j => if 1 ≤ j ∧ j ≤ F.k ∧ (t' : Int) < (F.en j).toInt then 1 else F.sp j) = fun j => if 1 ≤ j ∧ j ≤ I.k ∧ (t' : Int) < (I.en j).toInt then 1 else I.sp j
              rw [r2, r3, r4]
            · exact r5
            · show min X.S.n t' ≤ 2000
              omega
            · show min X.S.ar t' ≤ 2000
              omega
          have hDn : (rsD F.S t').n = t' := by
            rw [h4]
            exact hmin
          have hne : smF (neM (rcZ F p1.toNatClampNeg s1 t') t') 60 1 = smF (moF X.S t') 60 1 := smF_congr 60 1 (fun j _ _ => by
            show (if stO (rsD F.S t') (nI j) t' = 1 then cnB (rsD F.S t') (nI j) (rsD F.S t').n + 1 else 0) = if stO X.S (nI j) t' = 1 then cnB X.S (nI j) t' + 1 else 0
            rw [hDn, stO_D, cnB_D, h4])
          obtain ⟨o1, o2⟩ := O_sim (t := t') 60 1 _ _ rfl (Nat.le_refl _) hBI (by show t' ≤ min X.S.n t'; omega) (fun j j1 j2 => by
            show (usA (rsD X.S t') U1 t').lk j = lkO (rsD X.S t') j t'
            exact usA_lk y1.1 (by omega) t') (by rw [hne]; show min X.S.n t' + _ ≤ 2000; rw [hmin]; exact b1) (fun r a b c => by
            have b : r ≤ min X.S.n t' := b
            rw [hmin] at b
            have q := hLt.1 r a b
            have q1 := p_nI (x := X.S.un r) (by omega)
            have q2 := pn_toInt (x := X.S.un r) (by omega)
            exact Or.inr ⟨(X.S.un r).toNatClampNeg, by omega, by omega, q1, b⟩)
          rw [← a3, ← c3] at o1
          rw [← a3] at o2
          refine ⟨?_, o1, o2⟩
          rw [a2, c2, o1.2.2.2.1.1, sim_synced o1.1 o1.2.1]
