/-! EACH CALL, ON BOTH SIDES: one answer, and what always holds goes on holding -/
def SI (X : XS) (M : MS) : Prop := BI X M ∧ OB X.S
theorem SI_cd {X : XS} {M : MS} (x : Int32) (h : SI X M) : SI X (mC M x) := h
theorem sim_row {X : XS} {M : MS} (p1 p2 : Int32) (p3 p5 : Int64) (h : SI X M) : (roX X p1 p2 p3 p5).1 = (roM M p1 p2 p3 p5).1 ∧ SI (roX X p1 p2 p3 p5).2 (roM M p1 p2 p3 p5).2 := by
  obtain ⟨hB, hO⟩ := id h
  obtain ⟨h1, h2, h3, ⟨h4, h5, h6, h7⟩, h8, h9, h10, h11⟩ := id hB
  unfold roX roM
  rw [h4, h5]
  by_cases c1 : okU p1 ∧ okC p2
  · rw [if_neg (not_not_intro c1), if_neg (not_not_intro c1)]
    have e2 := ov_st h1 h2 c1.1
    by_cases c2 : ovU X.U p1
    · rw [if_pos c2, if_pos (e2.mp c2)]
      exact ⟨rfl, h⟩
    · rw [if_neg c2, if_neg (fun z => c2 (e2.mpr z))]
      have e3 := cb_tk (p := p1) h1 hO h2 c1.2
      by_cases c3 : cbU X.U p2 p1
      · rw [if_pos c3, if_pos (e3.mp c3)]
        exact ⟨rfl, h⟩
      · rw [if_neg c3, if_neg (fun z => c3 (e3.mpr z))]
        by_cases c4 : X.cs p2.toNatClampNeg = p3
        · rw [if_neg (not_not_intro c4), if_neg (not_not_intro c4)]
          by_cases c5 : 1 + X.S.n ≤ 2000
          · rw [if_neg (not_not_intro c5), if_neg (by omega)]
            obtain ⟨w1, -⟩ := msW_S M 0 p1 p2 p3 p5 0
            have hst : stO X.S p1 X.S.n ≤ 1 := by
              have hz : ¬ 1 < stO X.S p1 X.S.n := fun z => c2 (e2.mpr z)
              omega
            have hno := NO_of h1 hst
            refine ⟨?_, BI_C p3 p5 0 hB (by omega) c1.1 c1.2 hno (fun r a b c d e => ?_), OB_W hO⟩
            · show nI (X.S.n + 1) = nI (msW M 0 p1 p2 p3 p5 0).S.n
              rw [w1, h4]
              rfl
            · have hu := h1.1 r a b
              have e9 := p_nI (x := X.S.un r) (by omega)
              have e8 := pn_toInt (x := X.S.un r) (by omega)
              have hge := st_there (S := X.S) (p := X.S.un r) (t := X.S.n) ⟨r, a, b, rfl⟩
              by_cases q : 2 ≤ stO X.S (X.S.un r) X.S.n
              · obtain ⟨m, m1, m2, m3, m4⟩ := st_over2 q
                refine ⟨m, ?_, m2, m3, m4⟩
                rcases Nat.lt_trichotomy r m with z | z | z
                · exact z
                · rw [← z] at m4
                  exact absurd c m4
                · exact absurd m3.symm (h1.2.2.2.2.1 m r m1 z b m4)
              · have hb : X.S.bk r = 0 := Classical.byContradiction (fun z => by
                  obtain ⟨q9, q1, q2, q3, q4⟩ := hO r a b z
                  have := st_over h1 ⟨q9, q1, q2, q3, q4⟩
                  omega)
                exfalso
                apply c3
                rw [e3, tk_iff]
                refine ⟨(X.S.un r).toNatClampNeg, by omega, by omega, by rw [← e9]; exact e, by rw [← e9]; omega, ?_⟩
                rw [← e9, hc_iff]
                exact ⟨r, a, by omega, ⟨⟨c, hb⟩, rfl⟩, d⟩
          · rw [if_pos c5, if_pos (by omega)]
            exact ⟨rfl, h⟩
        · rw [if_pos c4, if_pos c4]
          exact ⟨rfl, h⟩
  · rw [if_pos c1, if_pos c1]
    exact ⟨rfl, h⟩
theorem sim_sync {X : XS} {M : MS} (p1 : Int32) (h : SI X M) : (syX X p1).1 = (syM M p1).1 ∧ SI (syX X p1).2 (syM M p1).2 := by
  obtain ⟨hB, hO⟩ := id h
  obtain ⟨h1, h2, h3, ⟨h4, h5, h6, h7⟩, h8, h9, h10, h11⟩ := id hB
  unfold syX syM
  rw [h4]
  by_cases c1 : okU p1
  · rw [if_neg (not_not_intro c1), if_neg (not_not_intro c1)]
    have e2 := op_st (p := p1) h1 h2
    by_cases c2 : opU X.U p1
    · have c3 := (e2.mp c2).2
      rw [if_neg (not_not_intro c2), if_neg (not_not_intro c3)]
      by_cases c5 : 1 + X.S.n ≤ 2000
      · rw [if_neg (not_not_intro c5), if_neg (by omega)]
        obtain ⟨w1, -⟩ := msW_S M 1 p1 (-1) 0 0 0
        refine ⟨?_, BI_L 0 hB (Or.inl rfl) (by omega) c1 (NO_of h1 (by omega)), OB_W hO⟩
        show nI (X.S.n + 1) = nI (msW M 1 p1 (-1) 0 0 0).S.n
        rw [w1, h4]
        rfl
      · rw [if_pos c5, if_pos (by omega)]
        exact ⟨rfl, h⟩
    · rw [if_pos c2, if_pos (fun z => c2 (e2.mpr ⟨c1, z⟩))]
      exact ⟨rfl, h⟩
  · rw [if_pos c1, if_pos c1]
    exact ⟨rfl, h⟩
theorem sim_backout {X : XS} {M : MS} (p1 : Int32) (h : SI X M) : (boX X p1).1 = (boM M p1).1 ∧ SI (boX X p1).2 (boM M p1).2 := by
  obtain ⟨hB, hO⟩ := id h
  obtain ⟨h1, h2, h3, ⟨h4, h5, h6, h7⟩, h8, h9, h10, h11⟩ := id hB
  unfold boX boM
  rw [h4]
  by_cases c1 : okU p1
  · rw [if_neg (not_not_intro c1), if_neg (not_not_intro c1)]
    have e2 := op_st (p := p1) h1 h2
    by_cases c2 : opU X.U p1
    · have c3 := (e2.mp c2).2
      rw [if_neg (not_not_intro c2), if_neg (not_not_intro c3)]
      by_cases c4 : lmO X.S p1 X.S.n = 0
      · rw [if_neg (not_not_intro c4), if_neg (not_not_intro c4)]
        by_cases c5 : (cnB X.S p1 X.S.n + 1) + X.S.n ≤ 2000
        · rw [if_neg (not_not_intro c5), if_neg (by omega)]
          refine ⟨rfl, BI_T c1 hB (NO_of h1 (by omega)) (by omega), ?_⟩
          show OB (xsW X p1).S
          rw [xsW_S]
          exact OB_E hO
        · rw [if_pos c5, if_pos (by omega)]
          exact ⟨rfl, h⟩
      · rw [if_pos c4, if_pos c4]
        exact ⟨rfl, h⟩
    · rw [if_pos c2, if_pos (fun z => c2 (e2.mpr ⟨c1, z⟩))]
      exact ⟨rfl, h⟩
  · rw [if_pos c1, if_pos c1]
    exact ⟨rfl, h⟩
/-- an unfinished image is finished -/
theorem sim_fin {X : XS} {M : MS} (h : SI X M) : SI (isI X (isF X.I X.S.n X.cs)) (msF M) ∧ (isF X.I X.S.n X.cs).uf = 0 := by
  obtain ⟨⟨h1, h2, h3, ⟨h4, h5, h6, h7⟩, h8, h9, h10, h11⟩, hO⟩ := h
  obtain ⟨f1, f2, f3, f4, f5, f6, f7, f8⟩ := msF_S M
  obtain ⟨g1, g2⟩ := fin_II (cs := X.cs) h3 (Nat.le_refl _) h8
  have g3 := fin_RI h3 h7
  rw [h4, h5] at g3
  exact ⟨⟨⟨h1, h2, g1, ⟨by rw [f1]; exact h4, by rw [f4]; exact h5, by rw [f3]; exact h6, g3⟩, h8, h9, h10, h11⟩, hO⟩, g2⟩
theorem upd_same {f : Nat → Int32} {j : Nat} {x : Int32} (h : f j = x) : upd f j x = f := by
  funext i
  by_cases e : i = j
  · rw [e, pk_us, h]
  · rw [pk_un e]
theorem sim_copy {X : XS} {M : MS} {z : Int32} (hz : z = 0 ∨ z = 1) (h : SI X M) : (cyX X z).1 = (cyM (msF M) z).1 ∧ SI (cyX X z).2 (cyM (msF M) z).2 := by
  obtain ⟨hF, hu⟩ := sim_fin h
  obtain ⟨⟨h1, h2, h3, ⟨h4, h5, h6, ⟨r1, r2, r3, r4, r5, r6⟩⟩, h8, h9, h10, h11⟩, hO⟩ := id hF
  unfold cyX cyM
  generalize hI : isF X.I X.S.n X.cs = I at hF hu h3 h4 h5 h6 r1 r2 r3 r4 r5 r6 ⊢
  generalize hG : msF M = F at hF h4 h5 h6 r1 r2 r3 r4 r5 r6 ⊢
  have h3 : II I X.S.n := h3
  have h4 : F.S = X.S := h4
  have h5 : F.cs = X.cs := h5
  have h6 : F.rg = X.rg := h6
  have r1 : F.st = I.st := r1
  have r2 : F.en = I.en := r2
  have r3 : F.sp = I.sp := r3
  have r4 : F.k = I.k := r4
  have r6 : ∀ i c, 1 ≤ i → i ≤ I.k → c < 32 → (i = I.k → ¬ I.uf = 0 → c < 16) → F.kp (32 * i + c) = I.M i c := r6
  obtain ⟨i1, i2, i3, i4, i5⟩ := id h3
  by_cases c : 20 ≤ I.k
  · rw [if_pos c, if_pos (by omega)]
    exact ⟨rfl, hF⟩
  · rw [if_neg c, if_neg (by omega)]
    refine ⟨by show nI (I.k + 1) = nI (F.k + 1); rw [r4], ⟨h1, h2, ?_, ⟨h4, h5, h6, ?_⟩, h8, h9, h10, h11⟩, hO⟩
    · refine ⟨by show I.k + 1 ≤ 20; omega, fun i a b => ?_, i3, fun j a => i4 j (by have a : I.k + 1 < j := a; omega), fun _ => ⟨by show 1 ≤ I.k + 1; omega, X.S.n, pk_us, Nat.le_refl _, by show X.S.n < X.S.n + 5; omega⟩⟩
      have b : i ≤ I.k + 1 := b
      by_cases q : i = I.k + 1
      · subst q
        exact ⟨X.S.n, X.S.n, pk_us, pk_us, Nat.le_refl _, h8⟩
      · obtain ⟨s, e, s1, s2, s3, s4⟩ := i2 i a (by omega)
        exact ⟨s, e, by show upd I.st (I.k + 1) _ i = _; rw [pk_un q]; exact s1, by show upd I.en (I.k + 1) _ i = _; rw [pk_un q]; exact s2, s3, s4⟩
    · refine ⟨?_, ?_, ?_, ?_, ?_, fun i c' a b c1 c2 => ?_⟩
      · show upd F.st (F.k + 1) (nI F.S.n) = upd I.st (I.k + 1) (nI X.S.n)
        rw [r1, r4, h4]
      · show upd F.en (F.k + 1) (nI F.S.n) = upd I.en (I.k + 1) (nI X.S.n)
        rw [r2, r4, h4]
      · show upd F.sp (F.k + 1) 0 = I.sp
        rw [r3, r4]
        exact upd_same (i4 (I.k + 1) (by omega))
      · show F.k + 1 = I.k + 1
        rw [r4]
      · show (if z = 0 then 0 else F.k + 1) = if z = 0 then 0 else I.k + 1
        rw [r4]
      · show va_cpy F.cs F.kp 0 (32 * (F.k + 1)) 32 (32 * i + c') = va_up I.M (I.k + 1) (va_cpy X.cs (I.M (I.k + 1)) 0 0 (if z = 0 then 32 else 16)) i c'
        have b : i ≤ I.k + 1 := b
        have c2 : i = I.k + 1 → ¬ z = 0 → c' < 16 := c2
        rw [h5, r4]
        by_cases q : i = I.k + 1
        · subst q
          rw [va_up_self]
          unfold va_cpy
          rw [if_pos (by omega), show 32 * (I.k + 1) + c' - 32 * (I.k + 1) = c' by omega]
          by_cases w : z = 0
          · rw [if_pos w, if_pos (by omega)]
            rfl
          · rw [if_neg w, if_pos (by have := c2 rfl w; omega)]
            rfl
        · rw [va_up_ne _ _ q]
          unfold va_cpy
          rw [if_neg (by omega)]
          exact r6 i c' a (by omega) c1 (fun _ w => absurd hu w)
theorem tn_bits {x p : Int32} (hx : x = 0 ∨ x = 1 ∨ x = 2 ∨ x = 3) (hp : p = 0 ∨ p = 1) : (¬ x >>> (p &&& 31) &&& 1 = 0 ↔ x >>> (p &&& 31) &&& 1 = 1) ∧ (x >>> (p &&& 31) &&& 1 = 0 → x ||| 1 <<< (p &&& 31) = x + (1 + p) ∧ (x ||| 1 <<< (p &&& 31) = 1 ∨ x ||| 1 <<< (p &&& 31) = 2 ∨ x ||| 1 <<< (p &&& 31) = 3)) := by
  rcases hx with rfl | rfl | rfl | rfl <;> rcases hp with rfl | rfl <;> decide
theorem LK_of {U : US} {S S2 : RS} {t : Nat} (e : ∀ r, S2.kd r = S.kd r ∧ S2.un r = S.un r ∧ S2.ce r = S.ce r) (h : LK U S t) : LK U S2 t :=
  ⟨fun j hj => by rw [h.1 j hj]; exact (lkO_congr t (fun r _ => ⟨(e r).1, (e r).2.1⟩)).symm, fun c hc => by rw [h.2 c hc]; exact (chO_congr t (fun r _ => ⟨(e r).2.2, (e r).2.1⟩)).symm⟩
theorem LI_T {S : RS} {r0 : Nat} {x : Int32} (h : LI S S.n) (hx : x = 0 ∨ x = 1 ∨ x = 2 ∨ x = 3) : LI (rsT S r0 x) S.n := by
  obtain ⟨h1, h2, h3, h4, h5, h6, h7⟩ := h
  refine ⟨h1, h2, h3, h4, h5, h6, fun r a b => ?_⟩
  show upd S.tn r0 x r = 0 ∨ upd S.tn r0 x r = 1 ∨ upd S.tn r0 x r = 2 ∨ upd S.tn r0 x r = 3
  by_cases e : r = r0
  · rw [e, pk_us]
    exact hx
  · rw [pk_un e]
    exact h7 r a b
theorem sim_torn {X : XS} {M : MS} (p1 p2 : Int32) (h : SI X M) : (toX X p1 p2).1 = (toM M p1 p2).1 ∧ SI (toX X p1 p2).2 (toM M p1 p2).2 := by
  obtain ⟨hB, hO⟩ := id h
  obtain ⟨h1, h2, h3, ⟨h4, h5, h6, h7⟩, h8, h9, h10, h11⟩ := id hB
  unfold toX toM
  rw [h4]
  by_cases c1 : (0 ≤ p1.toInt ∧ p1.toInt ≤ 1) ∧ 1 ≤ p2.toInt ∧ p2.toInt ≤ (X.S.n : Int)
  · rw [if_neg (not_not_intro c1), if_neg (not_not_intro c1)]
    by_cases c2 : p2.toInt ≤ (X.S.ar : Int)
    · rw [if_pos c2, if_pos c2]
      exact ⟨rfl, h⟩
    · rw [if_neg c2, if_neg c2]
      have e2 := pn_toInt (x := p2) (by omega)
      have hp : p1 = 0 ∨ p1 = 1 := by
        rcases (show p1.toInt = 0 ∨ p1.toInt = 1 by omega) with q | q
        · exact Or.inl (Int32.toInt_inj.mp q)
        · exact Or.inr (Int32.toInt_inj.mp q)
      obtain ⟨b1, b2⟩ := tn_bits (h1.2.2.2.2.2.2 p2.toNatClampNeg (by omega) (by omega)) hp
      by_cases c3 : X.S.tn p2.toNatClampNeg >>> (p1 &&& 31) &&& 1 = 0
      · rw [if_neg (not_not_intro c3), if_neg (fun z => absurd c3 (b1.mpr z))]
        obtain ⟨d1, d2⟩ := b2 c3
        rw [d1] at d2 ⊢
        refine ⟨rfl, ⟨LI_T h1 (Or.inr d2), LK_of (S := X.S) (fun _ => ⟨rfl, rfl, rfl⟩) h2, h3, ⟨?_, h5, h6, h7⟩, h8, h9, h10, h11⟩, hO⟩
        show rsT X.S _ _ = rsT X.S _ _
        rfl
      · rw [if_pos c3, if_pos (b1.mp c3)]
        exact ⟨rfl, h⟩
  · rw [if_pos c1, if_pos c1]
    exact ⟨rfl, h⟩
theorem sim_archive {X : XS} {M : MS} (p1 : Int32) (h : SI X M) : (arX X p1).1 = (arM M p1).1 ∧ SI (arX X p1).2 (arM M p1).2 := by
  obtain ⟨hB, hO⟩ := id h
  obtain ⟨h1, h2, h3, ⟨h4, h5, h6, h7⟩, h8, h9, h10, h11⟩ := id hB
  unfold arX arM
  rw [h4]
  by_cases c1 : 0 ≤ p1.toInt ∧ p1.toInt ≤ (X.S.n : Int)
  · rw [if_neg (not_not_intro c1), if_neg (not_not_intro c1)]
    have e2 := pn_toInt (x := p1) c1.1
    exact ⟨rfl, ⟨h1, LK_of (S := X.S) (fun _ => ⟨rfl, rfl, rfl⟩) h2, h3, ⟨rfl, h5, h6, h7⟩, h8, by show max X.S.ar p1.toNatClampNeg ≤ 2000; omega, h10, h11⟩, hO⟩
  · rw [if_pos c1, if_pos c1]
    exact ⟨rfl, h⟩
theorem x_sub {p : Int32} {n : Nat} {x : Int32} (hx : x = p - nI n) : (x = 0 ↔ nI n = p) ∧ x + -1 = p - nI (n + 1) := by
  subst hx
  constructor
  · constructor
    · intro h
      have h2 := congrArg (fun y => y + nI n) h
      simp only [Int32.sub_add_cancel, Int32.zero_add] at h2
      exact h2.symm
    · intro h
      rw [h, Int32.sub_self]
  · rw [nI_succ, Int32.sub_eq_add_neg, Int32.sub_eq_add_neg, Int32.neg_add, Int32.add_assoc, Int32.sub_eq_add_neg]
theorem sim_gap (S : RS) (p : Int32) : ∀ (d i n : Nat) (x : Int32), x = p - nI n → gpF S d i x = gqF S p d i n
  | 0, _, _, _, _ => rfl
  | d + 1, i, n, x, hx => by
    obtain ⟨e1, e2⟩ := x_sub hx
    simp only [gpF, gqF]
    rw [sim_gap S p d (i + 1) n x hx, sim_gap S p d (i + 1) (n + 1) (x + -1) e2]
    refine ite_congr rfl (fun _ => ite_congr (propext e1) (fun _ => rfl) (fun _ => rfl)) (fun _ => rfl)
theorem sim_merge (S : RS) (q p y : Int32) : ∀ (d i n : Nat) (x : Int32), x = y - nI n → mgF S q p d i x = mqF S q p y d i n
  | 0, _, _, _, _ => rfl
  | d + 1, i, n, x, hx => by
    obtain ⟨e1, e2⟩ := x_sub hx
    simp only [mgF, mqF]
    rw [sim_merge S q p y d (i + 1) n x hx, sim_merge S q p y d (i + 1) (n + 1) (x + -1) e2]
    refine ite_congr rfl (fun _ => ite_congr (propext e1) (fun _ => rfl) (fun _ => rfl)) (fun _ => rfl)
theorem sim_warm {U : US} {S : RS} (hL : LI S S.n) (hK : LK U S S.n) : ∀ k, k ≤ 60 → cntU U 0 k = woF S k
  | 0, _ => rfl
  | k + 1, h => by
    simp only [cntU, woF]
    rw [sim_warm hL hK k (by omega)]
    refine ite_congr (propext ?_) (fun _ => rfl) (fun _ => rfl)
    rw [hK.1 (k + 1) (by omega)]
    exact st_0 (by omega) (by omega) hL
/-- synced units and syncpoints -/
theorem sync_cnt {S : RS} : ∀ {t : Nat}, LI S t → smF (fun j => if lkO S j t = 1 then 1 else 0) 60 1 = snO S t
  | 0, _ => by
    rw [smF_congr (f := fun j => if lkO S j 0 = 1 then 1 else 0) (h := fun _ => 0) 60 1 (fun j _ _ => by show (if (-1 : Int32) = 1 then 1 else 0) = 0; rfl), smF_zero]
    rfl
  | t + 1, hL => by
    have ih := sync_cnt (t := t) (hL.less (by omega))
    have hu := hL.1 (t + 1) (by omega) (Nat.le_refl _)
    have e1 := p_nI (x := S.un (t + 1)) (by omega)
    have e2 := pn_toInt (x := S.un (t + 1)) (by omega)
    have hnot : ¬ lkO S (S.un (t + 1)).toNatClampNeg t = 1 := by
      intro z
      rcases st_lk (S := S) (j := (S.un (t + 1)).toNatClampNeg) (by omega) (by omega) (hL.less (show t ≤ t + 1 by omega)) with ⟨a, b⟩ | ⟨a, b⟩ | ⟨a, b⟩ | ⟨a, b⟩
      · rw [b] at z; exact absurd z (by decide)
      · rw [b] at z; exact absurd z (by decide)
      · rw [← e1] at a
        obtain ⟨r, r1, r2, r3, r4⟩ := st_over2 (S := S) (p := S.un (t + 1)) (t := t) (by omega)
        exact hL.2.2.2.2.1 r (t + 1) r1 (by omega) (Nat.le_refl _) r4 r3.symm
      · rw [b] at z; exact absurd z (by decide)
    have ey : ∀ j, (S.un (t + 1)).toNatClampNeg = j → lkO S j (t + 1) = S.kd (t + 1) := fun j q => by
      show (if okU (S.un (t + 1)) ∧ (S.un (t + 1)).toNatClampNeg = j then S.kd (t + 1) else lkO S j t) = _
      rw [if_pos ⟨hu, q⟩]
    have en : ∀ j, ¬ (S.un (t + 1)).toNatClampNeg = j → lkO S j (t + 1) = lkO S j t := fun j q => by
      show (if okU (S.un (t + 1)) ∧ (S.un (t + 1)).toNatClampNeg = j then S.kd (t + 1) else lkO S j t) = _
      rw [if_neg (fun z => q z.2)]
    show _ = if S.kd (t + 1) = 1 then snO S t + 1 else snO S t
    by_cases c : S.kd (t + 1) = 1
    · rw [if_pos c, ← ih]
      rw [smF_congr (f := fun j => if lkO S j (t + 1) = 1 then 1 else 0) (h := fun j => (if lkO S j t = 1 then 1 else 0) + (if j = (S.un (t + 1)).toNatClampNeg then 1 else 0)) 60 1 (fun j _ _ => by
        show (if lkO S j (t + 1) = 1 then 1 else 0) = (if lkO S j t = 1 then 1 else 0) + (if j = (S.un (t + 1)).toNatClampNeg then 1 else 0)
        by_cases q : (S.un (t + 1)).toNatClampNeg = j
        · rw [if_pos (by rw [ey j q]; exact c), if_pos q.symm, if_neg (by rw [← q]; exact hnot)]
        · rw [if_neg (fun z : j = (S.un (t + 1)).toNatClampNeg => q z.symm), Nat.add_zero]
          exact ite_congr (by rw [en j q]) (fun _ => rfl) (fun _ => rfl)), smF_add, smF_pt, if_pos (by omega)]
    · rw [if_neg c, ← ih]
      refine smF_congr 60 1 (fun j _ _ => ?_)
      show (if lkO S j (t + 1) = 1 then 1 else 0) = (if lkO S j t = 1 then 1 else 0)
      by_cases q : (S.un (t + 1)).toNatClampNeg = j
      · rw [if_neg (by rw [ey j q]; exact c), if_neg (by rw [← q]; exact hnot)]
      · exact ite_congr (by rw [en j q]) (fun _ => rfl) (fun _ => rfl)
theorem sim_synced {U : US} {S : RS} (hL : LI S S.n) (hK : LK U S S.n) : cntU U 1 60 = snO S S.n := by
  rw [cntU_sm, ← sync_cnt hL]
  refine smF_congr 60 1 (fun j a b => ?_)
  show (if U.lk j = 1 then 1 else 0) = if lkO S j S.n = 1 then 1 else 0
  rw [hK.1 j (by omega)]
theorem sim_count {X : XS} {M : MS} (p : Int32) (h : SI X M) : coX X p = coM M p := by
  obtain ⟨⟨h1, h2, h3, ⟨h4, h5, h6, ⟨r1, r2, r3, r4, r5, r6⟩⟩, h8, h9, h10, h11⟩, hO⟩ := h
  unfold coX coM
  rw [h4, r4, sim_synced h1 h2]
