/-! taking back, of the rows alone -/
def rsB (u : Int32) : Nat → RS → RS
  | 0, S => S
  | k + 1, S => if isC S u (k + 1) then rsB u k (rsW S 0 u (S.ce (k + 1)) (S.af (k + 1)) (S.bf (k + 1)) 1) else rsB u k S
def rsE (S : RS) (u : Int32) : RS := rsW (rsB u S.n S) 2 u (-1) 0 0 1
abbrev ceOk (S : RS) : Prop := ∀ r, 1 ≤ r → r ≤ S.n → S.kd r = 0 → okC (S.ce r)
theorem ceOk_W {S : RS} {k u c : Int32} {b f : Int64} {z : Int32} (h : ceOk S) (hc : k = 0 → okC c) : ceOk (rsW S k u c b f z) := by
  intro r h1 h2 h3
  have h2' : r ≤ S.n + 1 := h2
  by_cases e : r ≤ S.n
  · rw [kd_W _ _ _ _ _ _ _ e] at h3
    rw [ce_W _ _ _ _ _ _ _ e]
    exact h r h1 e h3
  · have e2 : r = S.n + 1 := by omega
    subst e2
    have k1 : (rsW S k u c b f z).kd (S.n + 1) = k := pk_us
    have k2 : (rsW S k u c b f z).ce (S.n + 1) = c := pk_us
    rw [k1] at h3
    rw [k2]
    exact hc h3
theorem rsB_facts (u : Int32) : ∀ (k : Nat) (S : RS), k ≤ S.n → (rsB u k S).n = S.n + cnB S u k ∧ (rsB u k S).ar = S.ar ∧ (∀ p, cnB (rsB u k S) p (rsB u k S).n = cnB S p S.n) ∧ (∀ r, r ≤ S.n → (rsB u k S).kd r = S.kd r ∧ (rsB u k S).un r = S.un r) ∧ (ceOk S → ceOk (rsB u k S))
  | 0, S, _ => ⟨rfl, rfl, fun _ => rfl, fun _ _ => ⟨rfl, rfl⟩, fun h => h⟩
  | k + 1, S, h => by
    simp only [rsB]
    by_cases hc : isC S u (k + 1)
    · rw [if_pos hc]
      have hn : (rsW S 0 u (S.ce (k + 1)) (S.af (k + 1)) (S.bf (k + 1)) 1).n = S.n + 1 := rfl
      obtain ⟨h1, h2, h3, h4, h5⟩ := rsB_facts u k (rsW S 0 u (S.ce (k + 1)) (S.af (k + 1)) (S.bf (k + 1)) 1) (by omega)
      refine ⟨?_, h2, fun p => ?_, fun r hr => ?_, fun q => h5 (ceOk_W q (fun _ => q (k + 1) (by omega) h hc.1.1))⟩
      · rw [h1, hn, cnB_W _ _ _ _ _ _ _ _ k (by omega)]
        show _ = S.n + (if isC S u (k + 1) then cnB S u k + 1 else cnB S u k)
        rw [if_pos hc]
        omega
      · rw [h3 p]
        exact cnB_W1 _ _ _ _ _ _ _
      · obtain ⟨a1, a2⟩ := h4 r (by omega)
        rw [a1, a2, kd_W _ _ _ _ _ _ _ hr, un_W _ _ _ _ _ _ _ hr]
        exact ⟨rfl, rfl⟩
    · rw [if_neg hc]
      obtain ⟨h1, h2, h3, h4, h5⟩ := rsB_facts u k S (by omega)
      refine ⟨?_, h2, h3, h4, h5⟩
      rw [h1]
      show _ = S.n + (if isC S u (k + 1) then cnB S u k + 1 else cnB S u k)
      rw [if_neg hc]
theorem rsE_facts (u : Int32) (S : RS) : (rsE S u).n = S.n + cnB S u S.n + 1 ∧ (rsE S u).ar = S.ar ∧ (∀ p, cnB (rsE S u) p (rsE S u).n = cnB S p S.n) ∧ (∀ r, r ≤ S.n → (rsE S u).kd r = S.kd r ∧ (rsE S u).un r = S.un r) ∧ (ceOk S → ceOk (rsE S u)) := by
  obtain ⟨h1, h2, h3, h4, h5⟩ := rsB_facts u S.n S (Nat.le_refl _)
  refine ⟨?_, h2, fun p => ?_, fun r hr => ?_, fun q => ceOk_W (h5 q) (fun z => absurd z (by decide))⟩
  · show (rsB u S.n S).n + 1 = _
    rw [h1]
  · show cnB (rsW (rsB u S.n S) 2 u (-1) 0 0 1) p ((rsB u S.n S).n + 1) = _
    rw [cnB_W1, h3 p]
  · obtain ⟨a1, a2⟩ := h4 r hr
    have hr2 : r ≤ (rsB u S.n S).n := by rw [h1]; omega
    show (rsW (rsB u S.n S) 2 u (-1) 0 0 1).kd r = _ ∧ (rsW (rsB u S.n S) 2 u (-1) 0 0 1).un r = _
    rw [kd_W _ _ _ _ _ _ _ hr2, un_W _ _ _ _ _ _ _ hr2, a1, a2]
    exact ⟨rfl, rfl⟩
theorem msB_S (u : Int32) : ∀ (k : Nat) (M : MS), (msB u k M).S = rsB u k M.S ∧ (msB u k M).k = M.k ∧ (msB u k M).rg = M.rg ∧ (msB u k M).fz ≤ M.fz ∧ (msB u k M).st = M.st ∧ (msB u k M).sp = M.sp ∧ (msB u k M).cd = M.cd
  | 0, M => ⟨rfl, rfl, rfl, Nat.le_refl _, rfl, rfl, rfl⟩
  | k + 1, M => by
    simp only [msB, rsB]
    by_cases hc : isC M.S u (k + 1)
    · rw [if_pos hc, if_pos hc]
      obtain ⟨w1, w2, w3, w4, w5, w6, w7, -⟩ := msW_S M 0 u (M.S.ce (k + 1)) (M.S.af (k + 1)) (M.S.bf (k + 1)) 1
      obtain ⟨h1, h2, h3, h4, h5, h6, h7⟩ := msB_S u k (msW M 0 u (M.S.ce (k + 1)) (M.S.af (k + 1)) (M.S.bf (k + 1)) 1)
      exact ⟨by rw [h1, w1], by rw [h2, w2], by rw [h3, w3], Nat.le_trans h4 w4, by rw [h5, w5], by rw [h6, w6], by rw [h7, w7]⟩
    · rw [if_neg hc, if_neg hc]
      exact msB_S u k M
theorem msT_S (u : Int32) (M : MS) : (msT M u).S = rsE M.S u ∧ (msT M u).k = M.k ∧ (msT M u).rg = M.rg ∧ (msT M u).fz ≤ M.fz ∧ (msT M u).st = M.st ∧ (msT M u).sp = M.sp ∧ (msT M u).cd = M.cd := by
  obtain ⟨h1, h2, h3, h4, h5, h6, h7⟩ := msB_S u M.S.n M
  obtain ⟨w1, w2, w3, w4, w5, w6, w7, -⟩ := msW_S (msB u M.S.n M) 2 u (-1) 0 0 1
  refine ⟨?_, ?_, ?_, ?_, ?_, ?_, ?_⟩
  · show (msW _ _ _ _ _ _ _).S = rsW (rsB u M.S.n M.S) 2 u (-1) 0 0 1
    rw [w1, h1]
  · show (msW _ _ _ _ _ _ _).k = _
    rw [w2, h2]
  · show (msW _ _ _ _ _ _ _).rg = _
    rw [w3, h3]
  · exact Nat.le_trans w4 h4
  · show (msW _ _ _ _ _ _ _).st = _
    rw [w5, h5]
  · show (msW _ _ _ _ _ _ _).sp = _
    rw [w6, h6]
  · show (msW _ _ _ _ _ _ _).cd = _
    rw [w7, h7]
theorem stO_congr {S S2 : RS} {p : Int32} : ∀ t, (∀ r, r ≤ t → S2.kd r = S.kd r ∧ S2.un r = S.un r) → stO S2 p t = stO S p t
  | 0, _ => rfl
  | t + 1, h => by
    have ih := stO_congr (p := p) t (fun r hr => h r (by omega))
    obtain ⟨a1, a2⟩ := h (t + 1) (Nat.le_refl _)
    simp only [stO]
    rw [a1, a2, ih]
def moF (S : RS) (t : Nat) : Nat → Nat := fun j => if stO S (nI j) t = 1 then cnB S (nI j) t + 1 else 0
/-- all units from i on, of d, that were open at row t are backed out; the rows that this needs -/
def msO (t : Nat) : Nat → Nat → MS → MS
  | 0, _, M => M
  | d + 1, i, M => msO t d (i + 1) (if stO M.S (nI i) t = 1 then msT M (nI i) else M)
def neM (M : MS) (t : Nat) : Nat → Nat := fun j => if stO M.S (nI j) t = 1 then cnB M.S (nI j) M.S.n + 1 else 0
theorem smF_step {f : Nat → Nat} {i : Nat} (h : i ≤ 60) : smF f (61 - i) i = f i + smF f (61 - (i + 1)) (i + 1) := by
  obtain ⟨e, he⟩ : ∃ e, 61 - i = e + 1 := ⟨60 - i, by omega⟩
  rw [he, show 61 - (i + 1) = e by omega]
  rfl
theorem msO_step {t i : Nat} {M : MS} (h : i ≤ 60) : msO t (61 - i) i M = msO t (61 - (i + 1)) (i + 1) (if stO M.S (nI i) t = 1 then msT M (nI i) else M) := by
  obtain ⟨e, he⟩ : ∃ e, 61 - i = e + 1 := ⟨60 - i, by omega⟩
  rw [he, show 61 - (i + 1) = e by omega]
  rfl
theorem neM_T (M : MS) (u : Int32) {t : Nat} (ht : t ≤ M.S.n) (d i : Nat) : smF (neM (msT M u) t) d i = smF (neM M t) d i := by
  obtain ⟨h1, -⟩ := msT_S u M
  obtain ⟨g1, -, g3, g4, -⟩ := rsE_facts u M.S
  refine smF_congr d i (fun j _ _ => ?_)
  show (if stO (msT M u).S (nI j) t = 1 then cnB (msT M u).S (nI j) (msT M u).S.n + 1 else 0) = if stO M.S (nI j) t = 1 then cnB M.S (nI j) M.S.n + 1 else 0
  rw [h1, g3, stO_congr t (fun r hr => g4 r (by omega))]
theorem ne_room {M : MS} {t v : Nat} (h : M.S.n + smF (neM M t) (61 - v) v ≤ 2000) (hv : v ≤ 60) (hc : stO M.S (nI v) t = 1) : M.S.n + cnB M.S (nI v) M.S.n + 1 ≤ 2000 := by
  have hst := smF_step (f := neM M t) (i := v) hv
  have hne : neM M t v = cnB M.S (nI v) M.S.n + 1 := by
    unfold neM
    rw [if_pos hc]
  omega
def rcZ (F : MS) (i0 s0 t : Nat) : MS := (rsD F.S t, F.st, F.en, fun j => if 1 ≤ j ∧ j ≤ F.k ∧ (t : Int) < (F.en j).toInt then 1 else F.sp j, F.kp, F.k, F.fz, csB F.S (t - s0) (s0 + 1) (va_cpy F.kp F.cs (32 * i0) 0 32), F.rg, F.cd)
def rcM (F : MS) (p1 : Int32) (p2 : Int64) (rv : Int32) (u : MS) : Prop :=
  (¬ ((1 ≤ p1.toInt ∧ p1.toInt ≤ (F.k : Int)) ∧ F.sp p1.toNatClampNeg = 0) ∧ rv = -2 ∧ u = F) ∨ (((1 ≤ p1.toInt ∧ p1.toInt ≤ (F.k : Int)) ∧ F.sp p1.toNatClampNeg = 0) ∧ (lN F.S.n < p2 ∨ p2 < (F.en p1.toNatClampNeg).toInt64) ∧ rv = -4 ∧ u = F) ∨
  (((1 ≤ p1.toInt ∧ p1.toInt ≤ (F.k : Int)) ∧ F.sp p1.toNatClampNeg = 0) ∧ ∃ t : Nat, t ≤ F.S.n ∧ p2 = lN t ∧ (F.en p1.toNatClampNeg).toInt ≤ (t : Int) ∧
    ((¬ laF F.S (F.st p1.toNatClampNeg) t t 1 = 0 ∧ rv = -10 - nI (laF F.S (F.st p1.toNatClampNeg) t t 1) ∧ u = F) ∨
     (laF F.S (F.st p1.toNatClampNeg) t t 1 = 0 ∧ 2000 < t + smF (moF F.S t) 60 1 ∧ rv = -1 ∧ u = F) ∨
     (laF F.S (F.st p1.toNatClampNeg) t t 1 = 0 ∧ t + smF (moF F.S t) 60 1 ≤ 2000 ∧ ∃ s0 : Nat, F.st p1.toNatClampNeg = nI s0 ∧ s0 ≤ t ∧ u = msO t 60 1 (rcZ F p1.toNatClampNeg s0 t) ∧ rv = nI (snO u.S u.S.n))))
theorem sp_no2 {sp1 sp : Nat → Int32} {en : Nat → Int32} {i row : Nat} (hF : ∀ j, sp1 j = if 1 ≤ j ∧ j < i ∧ (row : Int) < (en j).toInt then 1 else sp j) (h : (en i).toInt ≤ row) (h0 : sp i = 0) : ∀ j, upd sp1 i 0 j = if 1 ≤ j ∧ j < i + 1 ∧ (row : Int) < (en j).toInt then 1 else sp j := fun j => by
  by_cases e : j = i
  · subst e
    rw [pk_us, if_neg (by omega), h0]
  · rw [pk_un e, hF j]
    exact ite_congr (propext (by omega)) (fun _ => rfl) (fun _ => rfl)
theorem sp_yes2 {sp1 sp : Nat → Int32} {en : Nat → Int32} {i row : Nat} (hF : ∀ j, sp1 j = if 1 ≤ j ∧ j < i ∧ (row : Int) < (en j).toInt then 1 else sp j) (hi : 1 ≤ i) (h : sp i = 1) : ∀ j, upd sp1 i 1 j = if 1 ≤ j ∧ j < i + 1 ∧ (row : Int) < (en j).toInt then 1 else sp j := fun j => by
  by_cases e : j = i
  · subst e
    rw [pk_us, h]
    split <;> rfl
  · rw [pk_un e, hF j]
    exact ite_congr (propext (by omega)) (fun _ => rfl) (fun _ => rfl)
theorem stO_D (S : RS) (t : Nat) (p : Int32) (k : Nat) : stO (rsD S t) p k = stO S p k := stO_congr k (fun _ _ => ⟨rfl, rfl⟩)
theorem cnB_D (S : RS) (t : Nat) (p : Int32) : ∀ k, cnB (rsD S t) p k = cnB S p k
  | 0 => rfl
  | k + 1 => by
    simp only [cnB]
    rw [cnB_D S t p k]
    rfl
set_option maxHeartbeats 4000000 in
set_option maxRecDepth 100000 in
theorem c_X4_recover (l : Launch) (g : GG) (a : Nat → Nat) (M : MS) (sz : Nat) (p1 : Int32) (p2 : Int64) (himg : ∀ i, 1 ≤ i → i ≤ (mC M 0).k → ∃ s0 e0 : Nat, (msF (mC M 0)).st i = nI s0 ∧ (msF (mC M 0)).en i = nI e0 ∧ s0 ≤ e0 ∧ e0 ≤ 2000) (hsp : ∀ j, (mC M 0).sp j = 0 ∨ (mC M 0).sp j = 1) (hn : M.S.n ≤ 2000) (hfz : M.fz ≤ 20) (hk : M.k ≤ 20) (har : M.S.ar ≤ 2000) (hce : ∀ r, 1 ≤ r → r ≤ M.S.n → M.S.kd r = 0 → okC (M.S.ce r)) : Met l yX4_recover wsX4_recover { frames := 3, cells := 0, slots := 0, locals := 72 } (va_Pc [.ref (a 0), .int p1, .long p2] (Pw g (wM g a M) sz)) (va_Qi (fun rv u => rcM (msF (mC M 0)) p1 p2 rv u) (Bw g (va_A (wM g a M) sz) (fun u : MS => wM g a u)) (va_A (wM g a M) sz)) 0 0 (va_A (wM g a M) sz) := by
  refine Met.ofW (cc := cX4_recover) (maxL := 8) (ret := (some .int)) (by decide) rfl ?_
  intro p e s m args below meth c s₁ B hml hv
  obtain ⟨rfl, hsz, hP, hK, hD0⟩ := hv
  have hx := B.exec
  have hb := B.bytes
  have hr := B.returns
  have hts := atoms_spec (ws := wsX4_recover) B.pre
  have hown : s.vm.findClass RX4 = some m.cls := findClass_of_methodNamed B.named
  have hlocks := B.notSynchronized
  subst hsz
  have hD := hD0.self (sz := s.heap.size)
  generalize hAe : va_A (wM g a M) s.heap.size = A at hD ⊢
  have hA : ∀ q : Nat, s.heap.size ≤ q → A q := fun q h => by rw [← hAe]; exact Or.inr h
  have hS : va_S A s.heap s.heap [] := va_S.rf
  have hl := lv_entry ([.ref (a 0), .int p1, .long p2]) (n := 8) (Nat.le_of_ble_eq_true rfl)
  rw [lg_entry_eq]
  generalize (lg_sl ([.ref (a 0), .int p1, .long p2]) ++ List.replicate (8 - (lg_sl ([.ref (a 0), .int p1, .long p2])).length) Slot.unset).toArray = ls at hl ⊢
  have hl : lv_has ls 8 [(0, .ref (a 0)), (1, .int p1), (2, .long p2)] := hl
  replace hP : va_P (gD g) vwCl ([((a 0), .inr (6, [.int M.cd, .int (nI (M.rg)), .ref (a 1), .ref (a 2), .ref (a 3), .ref (a 4), .ref (a 5), .ref (a 6), .ref (a 7), .ref (a 8), .int (nI (M.S.n)), .int (nI (M.S.ar)), .int (nI (M.k)), .int (nI (M.fz)), .ref (a 9), .ref (a 10), .ref (a 11), .ref (a 12)])), ((a 1), .inl (gJ g, 32, .inr (.inl M.cs))), ((a 2), .inl (gI g, 2001, .inl M.S.kd)), ((a 3), .inl (gI g, 2001, .inl M.S.un)), ((a 4), .inl (gI g, 2001, .inl M.S.ce)), ((a 5), .inl (gI g, 2001, .inl M.S.tn)), ((a 6), .inl (gJ g, 2001, .inr (.inl M.S.bf))), ((a 7), .inl (gJ g, 2001, .inr (.inl M.S.af))), ((a 8), .inl (gZ g, 2001, .inl M.S.bk)), ((a 9), .inl (gJ g, 672, .inr (.inl M.kp))), ((a 10), .inl (gI g, 21, .inl M.st)), ((a 11), .inl (gI g, 21, .inl M.en)), ((a 12), .inl (gZ g, 21, .inl M.sp))]) s.heap := hP
  replace hD : va_D A ([((a 0), .inr (6, [.int M.cd, .int (nI (M.rg)), .ref (a 1), .ref (a 2), .ref (a 3), .ref (a 4), .ref (a 5), .ref (a 6), .ref (a 7), .ref (a 8), .int (nI (M.S.n)), .int (nI (M.S.ar)), .int (nI (M.k)), .int (nI (M.fz)), .ref (a 9), .ref (a 10), .ref (a 11), .ref (a 12)])), ((a 1), .inl (gJ g, 32, .inr (.inl M.cs))), ((a 2), .inl (gI g, 2001, .inl M.S.kd)), ((a 3), .inl (gI g, 2001, .inl M.S.un)), ((a 4), .inl (gI g, 2001, .inl M.S.ce)), ((a 5), .inl (gI g, 2001, .inl M.S.tn)), ((a 6), .inl (gJ g, 2001, .inr (.inl M.S.bf))), ((a 7), .inl (gJ g, 2001, .inr (.inl M.S.af))), ((a 8), .inl (gZ g, 2001, .inl M.S.bk)), ((a 9), .inl (gJ g, 672, .inr (.inl M.kp))), ((a 10), .inl (gI g, 21, .inl M.st)), ((a 11), .inl (gI g, 21, .inl M.en)), ((a 12), .inl (gZ g, 21, .inl M.sp))]) := hD
  refine lv_aload_n hx hb dX4_recover_0 rfl (lv_at hl 0 rfl) ?_
  refine lv_iconst (v := 0) hx hb dX4_recover_1 (by decide) ?_
  refine va_put (D := gD g) (ci := 6) (v := .int 0) (ty := .int) (C := RX4) (T := TX4) (N := 18) hx hb hts (by decide +kernel) tyX4 tyX4_ok nmX4 hown hK.1 hP hD hS 0 rfl rfl 0 (by decide) (hts (.fieldLink RX4 52 "LogForwardModel" "code" "I") (by decide +kernel)) (fun _ h9 => h9) rfl (by decide +kernel) rfl rfl (Nat.le_of_ble_eq_true rfl) dX4_recover_2 (fun H locs hP hD hS => ?_)
  have hP : va_P (gD g) vwCl ([((a 0), .inr (6, [.int 0, .int (nI (M.rg)), .ref (a 1), .ref (a 2), .ref (a 3), .ref (a 4), .ref (a 5), .ref (a 6), .ref (a 7), .ref (a 8), .int (nI (M.S.n)), .int (nI (M.S.ar)), .int (nI (M.k)), .int (nI (M.fz)), .ref (a 9), .ref (a 10), .ref (a 11), .ref (a 12)])), ((a 1), .inl (gJ g, 32, .inr (.inl M.cs))), ((a 2), .inl (gI g, 2001, .inl M.S.kd)), ((a 3), .inl (gI g, 2001, .inl M.S.un)), ((a 4), .inl (gI g, 2001, .inl M.S.ce)), ((a 5), .inl (gI g, 2001, .inl M.S.tn)), ((a 6), .inl (gJ g, 2001, .inr (.inl M.S.bf))), ((a 7), .inl (gJ g, 2001, .inr (.inl M.S.af))), ((a 8), .inl (gZ g, 2001, .inl M.S.bk)), ((a 9), .inl (gJ g, 672, .inr (.inl M.kp))), ((a 10), .inl (gI g, 21, .inl M.st)), ((a 11), .inl (gI g, 21, .inl M.en)), ((a 12), .inl (gZ g, 21, .inl M.sp))]) H := hP
  have hD : va_D A ([((a 0), .inr (6, [.int 0, .int (nI (M.rg)), .ref (a 1), .ref (a 2), .ref (a 3), .ref (a 4), .ref (a 5), .ref (a 6), .ref (a 7), .ref (a 8), .int (nI (M.S.n)), .int (nI (M.S.ar)), .int (nI (M.k)), .int (nI (M.fz)), .ref (a 9), .ref (a 10), .ref (a 11), .ref (a 12)])), ((a 1), .inl (gJ g, 32, .inr (.inl M.cs))), ((a 2), .inl (gI g, 2001, .inl M.S.kd)), ((a 3), .inl (gI g, 2001, .inl M.S.un)), ((a 4), .inl (gI g, 2001, .inl M.S.ce)), ((a 5), .inl (gI g, 2001, .inl M.S.tn)), ((a 6), .inl (gJ g, 2001, .inr (.inl M.S.bf))), ((a 7), .inl (gJ g, 2001, .inr (.inl M.S.af))), ((a 8), .inl (gZ g, 2001, .inl M.S.bk)), ((a 9), .inl (gJ g, 672, .inr (.inl M.kp))), ((a 10), .inl (gI g, 21, .inl M.st)), ((a 11), .inl (gI g, 21, .inl M.en)), ((a 12), .inl (gZ g, 21, .inl M.sp))]) := hD
  obtain ⟨M0, hM0⟩ : ∃ M0 : MS, M0 = mC M 0 := ⟨_, rfl⟩
  replace hP : va_P (gD g) vwCl ([((a 0), .inr (6, [.int M0.cd, .int (nI (M0.rg)), .ref (a 1), .ref (a 2), .ref (a 3), .ref (a 4), .ref (a 5), .ref (a 6), .ref (a 7), .ref (a 8), .int (nI (M0.S.n)), .int (nI (M0.S.ar)), .int (nI (M0.k)), .int (nI (M0.fz)), .ref (a 9), .ref (a 10), .ref (a 11), .ref (a 12)])), ((a 1), .inl (gJ g, 32, .inr (.inl M0.cs))), ((a 2), .inl (gI g, 2001, .inl M0.S.kd)), ((a 3), .inl (gI g, 2001, .inl M0.S.un)), ((a 4), .inl (gI g, 2001, .inl M0.S.ce)), ((a 5), .inl (gI g, 2001, .inl M0.S.tn)), ((a 6), .inl (gJ g, 2001, .inr (.inl M0.S.bf))), ((a 7), .inl (gJ g, 2001, .inr (.inl M0.S.af))), ((a 8), .inl (gZ g, 2001, .inl M0.S.bk)), ((a 9), .inl (gJ g, 672, .inr (.inl M0.kp))), ((a 10), .inl (gI g, 21, .inl M0.st)), ((a 11), .inl (gI g, 21, .inl M0.en)), ((a 12), .inl (gZ g, 21, .inl M0.sp))]) H := by rw [hM0]; exact hP
  replace hD : va_D A ([((a 0), .inr (6, [.int M0.cd, .int (nI (M0.rg)), .ref (a 1), .ref (a 2), .ref (a 3), .ref (a 4), .ref (a 5), .ref (a 6), .ref (a 7), .ref (a 8), .int (nI (M0.S.n)), .int (nI (M0.S.ar)), .int (nI (M0.k)), .int (nI (M0.fz)), .ref (a 9), .ref (a 10), .ref (a 11), .ref (a 12)])), ((a 1), .inl (gJ g, 32, .inr (.inl M0.cs))), ((a 2), .inl (gI g, 2001, .inl M0.S.kd)), ((a 3), .inl (gI g, 2001, .inl M0.S.un)), ((a 4), .inl (gI g, 2001, .inl M0.S.ce)), ((a 5), .inl (gI g, 2001, .inl M0.S.tn)), ((a 6), .inl (gJ g, 2001, .inr (.inl M0.S.bf))), ((a 7), .inl (gJ g, 2001, .inr (.inl M0.S.af))), ((a 8), .inl (gZ g, 2001, .inl M0.S.bk)), ((a 9), .inl (gJ g, 672, .inr (.inl M0.kp))), ((a 10), .inl (gI g, 21, .inl M0.st)), ((a 11), .inl (gI g, 21, .inl M0.en)), ((a 12), .inl (gZ g, 21, .inl M0.sp))]) := by rw [hM0]; exact hD
  have hn : M0.S.n ≤ 2000 := by rw [hM0]; exact hn
  have hfz : M0.fz ≤ 20 := by rw [hM0]; exact hfz
  have hk : M0.k ≤ 20 := by rw [hM0]; exact hk
  have har : M0.S.ar ≤ 2000 := by rw [hM0]; exact har
  have hce : ∀ r, 1 ≤ r → r ≤ M0.S.n → M0.S.kd r = 0 → okC (M0.S.ce r) := by rw [hM0]; exact hce
  refine lv_aload_n hx hb dX4_recover_5 rfl (lv_at hl 0 rfl) ?_
  refine ca_v (ws := [((a 0), .inr (6, [.int M0.cd, .int (nI (M0.rg)), .ref (a 1), .ref (a 2), .ref (a 3), .ref (a 4), .ref (a 5), .ref (a 6), .ref (a 7), .ref (a 8), .int (nI (M0.S.n)), .int (nI (M0.S.ar)), .int (nI (M0.k)), .int (nI (M0.fz)), .ref (a 9), .ref (a 10), .ref (a 11), .ref (a 12)])), ((a 1), .inl (gJ g, 32, .inr (.inl M0.cs))), ((a 2), .inl (gI g, 2001, .inl M0.S.kd)), ((a 3), .inl (gI g, 2001, .inl M0.S.un)), ((a 4), .inl (gI g, 2001, .inl M0.S.ce)), ((a 5), .inl (gI g, 2001, .inl M0.S.tn)), ((a 6), .inl (gJ g, 2001, .inr (.inl M0.S.bf))), ((a 7), .inl (gJ g, 2001, .inr (.inl M0.S.af))), ((a 8), .inl (gZ g, 2001, .inl M0.S.bk)), ((a 9), .inl (gJ g, 672, .inr (.inl M0.kp))), ((a 10), .inl (gI g, 21, .inl M0.st)), ((a 11), .inl (gI g, 21, .inl M0.en)), ((a 12), .inl (gZ g, 21, .inl M0.sp))]) (va_runV (As := []) (rest := []) ⟨hx, hb, hml, hown, hts⟩ (c_X4_finish l g a M0 H.size hfz hn) (cwV 0 hts gX4_recover_X4_finish rfl rfl rfl (by decide +kernel) ⟨Nat.le_of_ble_eq_true rfl, Nat.le_of_ble_eq_true rfl⟩) (pv_w hK hP (ci := 6) (q0 := 0) rfl rfl hP hD) rfl rfl hl.1 rfl (lv_room (Nat.le_of_ble_eq_true rfl)) dX4_recover_6 ⟨Nat.zero_le _, Nat.zero_le _⟩) hD hS hA (fun F H locs h_6_1 hP hD hS => ?_)
  obtain ⟨f1, f2, f3, f4, f5, f6, f7, f8⟩ := msF_S M0
  rw [← h_6_1] at f1 f2 f3 f4 f5 f6 f7 f8
  have hFk : F.k ≤ 20 := by rw [f2]; exact hk
  have hFn : F.S.n ≤ 2000 := by rw [f1]; exact hn
  have hFa : F.S.ar ≤ 2000 := by rw [f1]; exact har
  have hFf : F.fz ≤ 20 := by rw [f5]; exact Nat.zero_le _
  have hFi : ∀ i, 1 ≤ i → i ≤ F.k → ∃ s0 e0 : Nat, F.st i = nI s0 ∧ F.en i = nI e0 ∧ s0 ≤ e0 ∧ e0 ≤ 2000 := by rw [f2, hM0, h_6_1, hM0]; exact himg
  have hFs : ∀ j, F.sp j = 0 ∨ F.sp j = 1 := by rw [f7, hM0]; exact hsp
  have hFc : ceOk F.S := by rw [f1]; exact hce
  replace hP : va_P (gD g) vwCl ([((a 0), .inr (6, [.int F.cd, .int (nI (F.rg)), .ref (a 1), .ref (a 2), .ref (a 3), .ref (a 4), .ref (a 5), .ref (a 6), .ref (a 7), .ref (a 8), .int (nI (F.S.n)), .int (nI (F.S.ar)), .int (nI (F.k)), .int (nI (F.fz)), .ref (a 9), .ref (a 10), .ref (a 11), .ref (a 12)])), ((a 1), .inl (gJ g, 32, .inr (.inl F.cs))), ((a 2), .inl (gI g, 2001, .inl F.S.kd)), ((a 3), .inl (gI g, 2001, .inl F.S.un)), ((a 4), .inl (gI g, 2001, .inl F.S.ce)), ((a 5), .inl (gI g, 2001, .inl F.S.tn)), ((a 6), .inl (gJ g, 2001, .inr (.inl F.S.bf))), ((a 7), .inl (gJ g, 2001, .inr (.inl F.S.af))), ((a 8), .inl (gZ g, 2001, .inl F.S.bk)), ((a 9), .inl (gJ g, 672, .inr (.inl F.kp))), ((a 10), .inl (gI g, 21, .inl F.st)), ((a 11), .inl (gI g, 21, .inl F.en)), ((a 12), .inl (gZ g, 21, .inl F.sp))]) H := hP
  replace hD : va_D A ([((a 0), .inr (6, [.int F.cd, .int (nI (F.rg)), .ref (a 1), .ref (a 2), .ref (a 3), .ref (a 4), .ref (a 5), .ref (a 6), .ref (a 7), .ref (a 8), .int (nI (F.S.n)), .int (nI (F.S.ar)), .int (nI (F.k)), .int (nI (F.fz)), .ref (a 9), .ref (a 10), .ref (a 11), .ref (a 12)])), ((a 1), .inl (gJ g, 32, .inr (.inl F.cs))), ((a 2), .inl (gI g, 2001, .inl F.S.kd)), ((a 3), .inl (gI g, 2001, .inl F.S.un)), ((a 4), .inl (gI g, 2001, .inl F.S.ce)), ((a 5), .inl (gI g, 2001, .inl F.S.tn)), ((a 6), .inl (gJ g, 2001, .inr (.inl F.S.bf))), ((a 7), .inl (gJ g, 2001, .inr (.inl F.S.af))), ((a 8), .inl (gZ g, 2001, .inl F.S.bk)), ((a 9), .inl (gJ g, 672, .inr (.inl F.kp))), ((a 10), .inl (gI g, 21, .inl F.st)), ((a 11), .inl (gI g, 21, .inl F.en)), ((a 12), .inl (gZ g, 21, .inl F.sp))]) := hD
  refine lv_iload_n hx hb dX4_recover_9 rfl (lv_at hl 1 rfl) ?_
  refine lv_iconst (v := 1) hx hb dX4_recover_10 (by decide) ?_
  refine lv_icmp_lt (tgt := 31) hx hb dX4_recover_11 (by decide) (fun c_11_1 => ?_) (fun c_11_1 => ?_)
  · have i_11 : (p1.toInt : Int) < 1 := q_lt c_11_1 rfl rfl
    refine lv_bipush (v := (-2)) hx hb dX4_recover_31 (by decide) ?_
    have hP9 : va_P (gD g) vwCl (wM g a F) H := hP
    have hD9 : va_D A (wM g a F) := hD
    exact W.iret (v := (-2)) hx hb hr (fun tz htz hWz => ⟨⟨(-2), F, rfl, (by rw [← hM0]; exact (by rw [← h_6_1]; exact Or.inl ⟨by first | omega | exact fun z => absurd z.2 (by assumption), rfl, rfl⟩)), by rw [htz]; exact hP9, hD9⟩, hS.F htz⟩) hS.2.2 dX4_recover_33
  · have i_11 : (1 : Int) ≤ p1.toInt := q_nlt c_11_1 rfl rfl
    refine lv_iload_n hx hb dX4_recover_14 rfl (lv_at hl 1 rfl) ?_
    refine lv_aload_n hx hb dX4_recover_15 rfl (lv_at hl 0 rfl) ?_
    refine va_get (D := gD g) (ci := 6) (v := .int (nI (F.k))) (C := RX4) (T := TX4) (N := 18) hx hb hts (by decide +kernel) hown hK.1 hP 0 rfl rfl 12 (by decide) (hts (.fieldLink RX4 99 "LogForwardModel" "images" "I") (by decide +kernel)) (fun _ h9 => h9) rfl dX4_recover_16 ?_
    refine lv_icmp_gt (tgt := 31) hx hb dX4_recover_19 (by decide) (fun c_19_2 => ?_) (fun c_19_2 => ?_)
    · have i_19 : (((F.k : Nat) : Int) : Int) < p1.toInt := q_lt c_19_2 (l_nI (by omega)) rfl
      refine lv_bipush (v := (-2)) hx hb dX4_recover_31 (by decide) ?_
      have hP9 : va_P (gD g) vwCl (wM g a F) H := hP
      have hD9 : va_D A (wM g a F) := hD
      exact W.iret (v := (-2)) hx hb hr (fun tz htz hWz => ⟨⟨(-2), F, rfl, (by rw [← hM0]; exact (by rw [← h_6_1]; exact Or.inl ⟨by first | omega | exact fun z => absurd z.2 (by assumption), rfl, rfl⟩)), by rw [htz]; exact hP9, hD9⟩, hS.F htz⟩) hS.2.2 dX4_recover_33
    · have i_19 : (p1.toInt : Int) ≤ ((F.k : Nat) : Int) := q_nlt c_19_2 (l_nI (by omega)) rfl
      refine lv_aload_n hx hb dX4_recover_22 rfl (lv_at hl 0 rfl) ?_
      refine va_get (D := gD g) (ci := 6) (v := .ref (a 12)) (C := RX4) (T := TX4) (N := 18) hx hb hts (by decide +kernel) hown hK.1 hP 0 rfl rfl 17 (by decide) (hts (.fieldLink RX4 45 "LogForwardModel" "bad" "[Z") (by decide +kernel)) (fun _ h9 => h9) rfl dX4_recover_23 ?_
      refine lv_iload_n hx hb dX4_recover_26 rfl (lv_at hl 1 rfl) ?_
      refine ga_zald (v := (F.sp p1.toNatClampNeg)) hx hb hK.1 hP 12 2 rfl rfl (v_p (by omega) (by omega)) rfl dX4_recover_27 ?_
      refine lv_if_eq (tgt := 34) hx hb dX4_recover_28 (by decide) (fun c_28_3 => ?_) (fun c_28_3 => ?_)
      · have i_28 : ((F.sp p1.toNatClampNeg).toInt : Int) = 0 := q_eq c_28_3 rfl rfl
        have hgd : (1 ≤ p1.toInt ∧ p1.toInt ≤ (F.k : Int)) ∧ F.sp p1.toNatClampNeg = 0 := ⟨by omega, by assumption⟩
        obtain ⟨i0, hi0⟩ : ∃ i0 : Nat, i0 = p1.toNatClampNeg := ⟨_, rfl⟩
        have e1 : p1 = nI i0 := by rw [hi0]; exact p_nI (by omega)
        have e2 : (i0 : Int) = p1.toInt := by rw [hi0]; exact pn_toInt (by omega)
        replace hl : lv_has ls 8 [(0, .ref (a 0)), (1, .int (nI i0)), (2, .long p2)] := by rw [← e1]; exact hl
        obtain ⟨s0, e0, hs, he, hse, he2⟩ := hFi i0 (by omega) (by omega)
        refine lv_lload_n hx hb dX4_recover_34 rfl (lv_at hl 2 rfl) ?_
        refine lv_aload_n hx hb dX4_recover_35 rfl (lv_at hl 0 rfl) ?_
        refine va_get (D := gD g) (ci := 6) (v := .int (nI (F.S.n))) (C := RX4) (T := TX4) (N := 18) hx hb hts (by decide +kernel) hown hK.1 hP 0 rfl rfl 10 (by decide) (hts (.fieldLink RX4 55 "LogForwardModel" "rows" "I") (by decide +kernel)) (fun _ h9 => h9) rfl dX4_recover_36 ?_
        refine lv_i2l (v := (nI (F.S.n)).toInt64) hx hb dX4_recover_39 rfl ?_
        refine W.lcmp hx hb dX4_recover_40 ?_
        refine lv_if_gt (tgt := 56) hx hb dX4_recover_41 (by decide) (fun c_41_4 => ?_) (fun c_41_4 => ?_)
        · rw [lg_cmp_gt] at c_41_4
          refine lv_bipush (v := (-4)) hx hb dX4_recover_56 (by decide) ?_
          have hP9 : va_P (gD g) vwCl (wM g a F) H := hP
          have hD9 : va_D A (wM g a F) := hD
          exact W.iret (v := (-4)) hx hb hr (fun tz htz hWz => ⟨⟨(-4), F, rfl, (by rw [← hM0]; exact (by rw [← h_6_1]; subst hi0; exact Or.inr (Or.inl ⟨hgd, by first | exact Or.inl (by rw [← nI_l (by omega)]; assumption) | exact Or.inr (by rw [← Int64.not_le]; assumption), rfl, rfl⟩))), by rw [htz]; exact hP9, hD9⟩, hS.F htz⟩) hS.2.2 dX4_recover_58
        · rw [lg_cmp_gt] at c_41_4
          refine lv_lload_n hx hb dX4_recover_44 rfl (lv_at hl 2 rfl) ?_
          refine lv_aload_n hx hb dX4_recover_45 rfl (lv_at hl 0 rfl) ?_
          refine va_get (D := gD g) (ci := 6) (v := .ref (a 11)) (C := RX4) (T := TX4) (N := 18) hx hb hts (by decide +kernel) hown hK.1 hP 0 rfl rfl 16 (by decide) (hts (.fieldLink RX4 42 "LogForwardModel" "ends" "[I") (by decide +kernel)) (fun _ h9 => h9) rfl dX4_recover_46 ?_
          refine lv_iload_n hx hb dX4_recover_49 rfl (lv_at hl 1 rfl) ?_
          refine ga_iald (v := (F.en i0)) hx hb hK.1 hP 11 0 rfl rfl (v_nI (by omega) (by omega)) (by rw [(c_nI (by omega))]) dX4_recover_50 ?_
          refine lv_i2l (v := (F.en i0).toInt64) hx hb dX4_recover_51 rfl ?_
          refine W.lcmp hx hb dX4_recover_52 ?_
          refine lv_if_ge (tgt := 59) hx hb dX4_recover_53 (by decide) (fun c_53_5 => ?_) (fun c_53_5 => ?_)
          · rw [lg_cmp_ge] at c_53_5
            rw [he] at c_53_5
            obtain ⟨t, ht0, het, hp2⟩ := l_nat hFn he2 c_41_4 c_53_5
            refine lv_lload_n hx hb dX4_recover_59 rfl (lv_at hl 2 rfl) ?_
            refine lv_l2i (v := (nI (t))) hx hb dX4_recover_60 (by rw [hp2]; exact lN_i t) ?_
            refine lv_istore (lv' := [(4, .int (nI (t))), (0, .ref (a 0)), (1, .int (nI (i0))), (2, .long p2)]) hx hb dX4_recover_61 hl (by decide) rfl (fun ls hl => ?_)
            refine lv_aload_n hx hb dX4_recover_63 rfl (lv_at hl 1 rfl) ?_
            refine lv_iload_n hx hb dX4_recover_64 rfl (lv_at hl 2 rfl) ?_
            refine lv_iload hx hb dX4_recover_65 (lv_at hl 0 rfl) ?_
            refine vp_callSi (va_Run.run (va_runV (As := [.int (nI (i0)), .int (nI (t))]) (rest := []) ⟨hx, hb, hml, hown, hts⟩ (c_X4_lacking l g a F (i0) (t) (by omega) (by omega) (by omega)) (cwV 2 hts gX4_recover_X4_lacking rfl rfl rfl (by decide +kernel) ⟨Nat.le_of_ble_eq_true rfl, Nat.le_of_ble_eq_true rfl⟩) (pv_r hK hP (ci := 6) (q0 := 0) rfl rfl [0, 1, 2, 3, 4, 5, 6, 7, 8, 9, 10, 11, 12] rfl) rfl rfl hl.1 rfl (lv_room (Nat.le_of_ble_eq_true rfl)) dX4_recover_67 ⟨Nat.zero_le _, Nat.zero_le _⟩)) (fun r_67_6 h_67_6 => ?_)
            subst h_67_6
            refine lv_istore (lv' := [(5, .int (nI (laF F.S (F.st (i0)) (t) (t) 1))), (4, .int (nI (t))), (0, .ref (a 0)), (1, .int (nI (i0))), (2, .long p2)]) hx hb dX4_recover_70 hl (by decide) rfl (fun ls hl => ?_)
            refine lv_iload hx hb dX4_recover_72 (lv_at hl 0 rfl) ?_
            refine lv_if_le (tgt := 83) hx hb dX4_recover_74 (by decide) (fun c_74_6 => ?_) (fun c_74_6 => ?_)
            · have i_74 : (((laF F.S (F.st (i0)) (t) (t) 1 : Nat) : Int) : Int) ≤ 0 := q_le c_74_6 (l_nI (by have := laF_le F.S (F.st (i0)) (t) (t) 1; omega)) rfl
              refine lv_iconst (v := 0) hx hb dX4_recover_83 (by decide) ?_
              refine lv_istore (lv' := [(6, .int 0), (5, .int (nI (laF F.S (F.st (i0)) (t) (t) 1))), (4, .int (nI (t))), (0, .ref (a 0)), (1, .int (nI (i0))), (2, .long p2)]) hx hb dX4_recover_84 hl (by decide) rfl (fun ls hl => ?_)
              refine lv_iconst (v := 1) hx hb dX4_recover_86 (by decide) ?_
              refine lv_istore (lv' := [(7, .int 1), (6, .int 0), (5, .int (nI (laF F.S (F.st (i0)) (t) (t) 1))), (4, .int (nI (t))), (0, .ref (a 0)), (1, .int (nI (i0))), (2, .long p2)]) hx hb dX4_recover_87 hl (by decide) rfl (fun ls hl => ?_)
              have hla0 : laF F.S (F.st i0) t t 1 = 0 := by omega
              obtain ⟨i, hi⟩ : ∃ i : Nat, i = 1 := ⟨_, rfl⟩
              obtain ⟨c1, hc1⟩ : ∃ c1 : Nat, c1 = 0 := ⟨_, rfl⟩
              replace hl : lv_has ls 8 [(0, .ref (a 0)), (1, .int (nI (i0))), (2, .long p2), (4, .int (nI (t))), (5, .int (nI (laF F.S (F.st (i0)) (t) (t) 1))), (6, .int (nI (c1))), (7, .int (nI (i)))] := by subst hi; subst hc1; exact lv_sub hl [4, 5, 6, 3, 2, 1, 0] rfl
              have hi1 : 1 ≤ i := by omega
              have hi2 : i ≤ 61 := by omega
              have hc2 : c1 ≤ 2001 * i := by omega
              have hsm : c1 + smF (moF F.S t) (61 - i) i = smF (moF F.S t) 60 1 := by rw [hi, hc1, Nat.zero_add]
              clear hi hc1
              obtain ⟨d, hd⟩ : ∃ d, 61 - i = d := ⟨_, rfl⟩
              induction d using Nat.strongRecOn generalizing i c1 ls with
              | ind d ih =>
                refine lv_iload hx hb dX4_recover_89 (lv_at hl 6 rfl) ?_
                refine lv_bipush (v := 60) hx hb dX4_recover_91 (by decide) ?_
                refine lv_icmp_gt (tgt := 133) hx hb dX4_recover_93 (by decide) (fun c_93_8 => ?_) (fun c_93_8 => ?_)
                · have i_93 : (60 : Int) < ((i : Nat) : Int) := q_lt c_93_8 rfl (l_nI (by omega))
                  refine lv_iload hx hb dX4_recover_133 (lv_at hl 3 rfl) ?_
                  refine lv_iload hx hb dX4_recover_135 (lv_at hl 5 rfl) ?_
                  refine ga_iadd (v := (nI (t + (c1)))) hx hb (nI_add _ _) dX4_recover_137 ?_
                  refine lv_sipush (v := 2000) hx hb dX4_recover_138 (by decide) ?_
                  refine lv_icmp_le (tgt := 146) hx hb dX4_recover_141 (by decide) (fun c_141_9 => ?_) (fun c_141_9 => ?_)
                  · have i_141 : (((t + (c1) : Nat) : Int) : Int) ≤ 2000 := q_le c_141_9 (l_nI (by omega)) rfl
                    refine lv_iconst (v := 0) hx hb dX4_recover_146 (by decide) ?_
                    refine lv_istore (lv' := [(7, .int 0), (0, .ref (a 0)), (1, .int (nI (i0))), (2, .long p2), (4, .int (nI (t))), (5, .int (nI (laF F.S (F.st (i0)) (t) (t) 1))), (6, .int (nI (c1)))]) hx hb dX4_recover_147 hl (by decide) rfl (fun ls hl => ?_)
                    have hsm0 : c1 = smF (moF F.S t) 60 1 := by rw [show 61 - i = 0 by omega] at hsm; exact hsm
                    clear ih
                    refine g_heap (fun H locs hH1 hL1 => ?_)
                    obtain ⟨cs1, hk1⟩ : ∃ cs1 : Nat → Int64, cs1 = va_cpy F.kp F.cs (32 * i0) 0 0 := ⟨_, rfl⟩
                    obtain ⟨j, hj⟩ : ∃ j : Nat, j = 0 := ⟨_, rfl⟩
                    replace hl : lv_has ls 8 [(0, .ref (a 0)), (1, .int (nI (i0))), (2, .long p2), (4, .int (nI (t))), (7, .int (nI (j)))] := by subst hj; exact lv_sub hl [1, 2, 3, 4, 0] rfl
                    replace hP : va_P (gD g) vwCl ([((a 0), .inr (6, [.int F.cd, .int (nI (F.rg)), .ref (a 1), .ref (a 2), .ref (a 3), .ref (a 4), .ref (a 5), .ref (a 6), .ref (a 7), .ref (a 8), .int (nI (F.S.n)), .int (nI (F.S.ar)), .int (nI (F.k)), .int (nI (F.fz)), .ref (a 9), .ref (a 10), .ref (a 11), .ref (a 12)])), ((a 1), .inl (gJ g, 32, .inr (.inl cs1))), ((a 2), .inl (gI g, 2001, .inl F.S.kd)), ((a 3), .inl (gI g, 2001, .inl F.S.un)), ((a 4), .inl (gI g, 2001, .inl F.S.ce)), ((a 5), .inl (gI g, 2001, .inl F.S.tn)), ((a 6), .inl (gJ g, 2001, .inr (.inl F.S.bf))), ((a 7), .inl (gJ g, 2001, .inr (.inl F.S.af))), ((a 8), .inl (gZ g, 2001, .inl F.S.bk)), ((a 9), .inl (gJ g, 672, .inr (.inl F.kp))), ((a 10), .inl (gI g, 21, .inl F.st)), ((a 11), .inl (gI g, 21, .inl F.en)), ((a 12), .inl (gZ g, 21, .inl F.sp))]) H := by rw [hH1, hk1, cpy_0]; exact hP
                    replace hD : va_D A ([((a 0), .inr (6, [.int F.cd, .int (nI (F.rg)), .ref (a 1), .ref (a 2), .ref (a 3), .ref (a 4), .ref (a 5), .ref (a 6), .ref (a 7), .ref (a 8), .int (nI (F.S.n)), .int (nI (F.S.ar)), .int (nI (F.k)), .int (nI (F.fz)), .ref (a 9), .ref (a 10), .ref (a 11), .ref (a 12)])), ((a 1), .inl (gJ g, 32, .inr (.inl cs1))), ((a 2), .inl (gI g, 2001, .inl F.S.kd)), ((a 3), .inl (gI g, 2001, .inl F.S.un)), ((a 4), .inl (gI g, 2001, .inl F.S.ce)), ((a 5), .inl (gI g, 2001, .inl F.S.tn)), ((a 6), .inl (gJ g, 2001, .inr (.inl F.S.bf))), ((a 7), .inl (gJ g, 2001, .inr (.inl F.S.af))), ((a 8), .inl (gZ g, 2001, .inl F.S.bk)), ((a 9), .inl (gJ g, 672, .inr (.inl F.kp))), ((a 10), .inl (gI g, 21, .inl F.st)), ((a 11), .inl (gI g, 21, .inl F.en)), ((a 12), .inl (gZ g, 21, .inl F.sp))]) := by rw [hk1, cpy_0]; exact hD
                    replace hS : va_S A s.heap H locs := by rw [hH1, hL1]; exact hS
                    replace hk1 : cs1 = va_cpy F.kp F.cs (32 * i0) 0 j := by rw [hk1, hj]
                    have hj2 : j ≤ 32 := by omega
                    clear hj hH1 hL1
                    clear hd d
                    obtain ⟨d, hd⟩ : ∃ d, 32 - j = d := ⟨_, rfl⟩
                    induction d using Nat.strongRecOn generalizing j cs1 ls H locs with
                    | ind d ih =>
                      refine lv_iload hx hb dX4_recover_149 (lv_at hl 4 rfl) ?_
                      refine lv_bipush (v := 32) hx hb dX4_recover_151 (by decide) ?_
                      refine lv_icmp_ge (tgt := 181) hx hb dX4_recover_153 (by decide) (fun c_153_11 => ?_) (fun c_153_11 => ?_)
                      · have i_153 : (32 : Int) ≤ ((j : Nat) : Int) := q_le c_153_11 rfl (l_nI (by omega))
                        refine lv_aload_n hx hb dX4_recover_181 rfl (lv_at hl 0 rfl) ?_
                        refine va_get (D := gD g) (ci := 6) (v := .ref (a 10)) (C := RX4) (T := TX4) (N := 18) hx hb hts (by decide +kernel) hown hK.1 hP 0 rfl rfl 15 (by decide) (hts (.fieldLink RX4 39 "LogForwardModel" "starts" "[I") (by decide +kernel)) (fun _ h9 => h9) rfl dX4_recover_182 ?_
                        refine lv_iload_n hx hb dX4_recover_185 rfl (lv_at hl 1 rfl) ?_
                        refine ga_iald (v := (F.st i0)) hx hb hK.1 hP 10 0 rfl rfl (v_nI (by omega) (by omega)) (by rw [(c_nI (by omega))]) dX4_recover_186 ?_
                        refine lv_iconst (v := 1) hx hb dX4_recover_187 (by decide) ?_
                        refine ga_iadd (v := (nI (s0 + 1))) hx hb (by rw [hs]; exact nI_1 _) dX4_recover_188 ?_
                        refine lv_istore (lv' := [(7, .int (nI (s0 + 1))), (0, .ref (a 0)), (1, .int (nI (i0))), (2, .long p2), (4, .int (nI (t)))]) hx hb dX4_recover_189 hl (by decide) rfl (fun ls hl => ?_)
                        rw [show j = 32 by omega] at hk1
                        clear ih
                        refine g_heap (fun H locs hH1 hL1 => ?_)
                        obtain ⟨cs2, hk2⟩ : ∃ cs2 : Nat → Int64, cs2 = cs1 := ⟨_, rfl⟩
                        obtain ⟨k1, hj⟩ : ∃ k1 : Nat, k1 = s0 + 1 := ⟨_, rfl⟩
                        replace hl : lv_has ls 8 [(0, .ref (a 0)), (1, .int (nI (i0))), (2, .long p2), (4, .int (nI (t))), (7, .int (nI (k1)))] := by subst hj; exact lv_sub hl [1, 2, 3, 4, 0] rfl
                        replace hP : va_P (gD g) vwCl ([((a 0), .inr (6, [.int F.cd, .int (nI (F.rg)), .ref (a 1), .ref (a 2), .ref (a 3), .ref (a 4), .ref (a 5), .ref (a 6), .ref (a 7), .ref (a 8), .int (nI (F.S.n)), .int (nI (F.S.ar)), .int (nI (F.k)), .int (nI (F.fz)), .ref (a 9), .ref (a 10), .ref (a 11), .ref (a 12)])), ((a 1), .inl (gJ g, 32, .inr (.inl cs2))), ((a 2), .inl (gI g, 2001, .inl F.S.kd)), ((a 3), .inl (gI g, 2001, .inl F.S.un)), ((a 4), .inl (gI g, 2001, .inl F.S.ce)), ((a 5), .inl (gI g, 2001, .inl F.S.tn)), ((a 6), .inl (gJ g, 2001, .inr (.inl F.S.bf))), ((a 7), .inl (gJ g, 2001, .inr (.inl F.S.af))), ((a 8), .inl (gZ g, 2001, .inl F.S.bk)), ((a 9), .inl (gJ g, 672, .inr (.inl F.kp))), ((a 10), .inl (gI g, 21, .inl F.st)), ((a 11), .inl (gI g, 21, .inl F.en)), ((a 12), .inl (gZ g, 21, .inl F.sp))]) H := by rw [hH1, hk2]; exact hP
                        replace hD : va_D A ([((a 0), .inr (6, [.int F.cd, .int (nI (F.rg)), .ref (a 1), .ref (a 2), .ref (a 3), .ref (a 4), .ref (a 5), .ref (a 6), .ref (a 7), .ref (a 8), .int (nI (F.S.n)), .int (nI (F.S.ar)), .int (nI (F.k)), .int (nI (F.fz)), .ref (a 9), .ref (a 10), .ref (a 11), .ref (a 12)])), ((a 1), .inl (gJ g, 32, .inr (.inl cs2))), ((a 2), .inl (gI g, 2001, .inl F.S.kd)), ((a 3), .inl (gI g, 2001, .inl F.S.un)), ((a 4), .inl (gI g, 2001, .inl F.S.ce)), ((a 5), .inl (gI g, 2001, .inl F.S.tn)), ((a 6), .inl (gJ g, 2001, .inr (.inl F.S.bf))), ((a 7), .inl (gJ g, 2001, .inr (.inl F.S.af))), ((a 8), .inl (gZ g, 2001, .inl F.S.bk)), ((a 9), .inl (gJ g, 672, .inr (.inl F.kp))), ((a 10), .inl (gI g, 21, .inl F.st)), ((a 11), .inl (gI g, 21, .inl F.en)), ((a 12), .inl (gZ g, 21, .inl F.sp))]) := by rw [hk2]; exact hD
                        replace hS : va_S A s.heap H locs := by rw [hH1, hL1]; exact hS
                        have hq : csB F.S (t - s0) (s0 + 1) (va_cpy F.kp F.cs (32 * i0) 0 32) = csB F.S (t + 1 - k1) k1 cs2 := by rw [hj, hk2, hk1, show t + 1 - (s0 + 1) = t - s0 by omega]
                        have hk3 : 1 ≤ k1 := by omega
                        have hk4 : k1 ≤ t + 1 := by omega
                        clear hj hk2 hH1 hL1
                        clear hd d
                        obtain ⟨d, hd⟩ : ∃ d, t + 1 - k1 = d := ⟨_, rfl⟩
                        induction d using Nat.strongRecOn generalizing k1 cs2 ls H locs with
                        | ind d ih =>
                          refine lv_iload hx hb dX4_recover_191 (lv_at hl 4 rfl) ?_
                          refine lv_iload hx hb dX4_recover_193 (lv_at hl 3 rfl) ?_
                          refine lv_icmp_gt (tgt := 233) hx hb dX4_recover_195 (by decide) (fun c_195_13 => ?_) (fun c_195_13 => ?_)
                          · have i_195 : (((t : Nat) : Int) : Int) < ((k1 : Nat) : Int) := q_lt c_195_13 (l_nI (by omega)) (l_nI (by omega))
                            refine lv_aload_n hx hb dX4_recover_233 rfl (lv_at hl 0 rfl) ?_
                            refine lv_iload hx hb dX4_recover_234 (lv_at hl 3 rfl) ?_
                            have hDn : (rsD F.S t).n = t := Nat.min_eq_right ht0
                            have hDa : (rsD F.S t).ar = min F.S.ar t := rfl
                            refine lv_topi (fun y hy => ?_)
                            replace hy : y = nI (rsD F.S t).n := by rw [hy, hDn]
                            subst hy
                            refine va_put (D := gD g) (ci := 6) (v := .int (nI ((rsD F.S t).n))) (ty := .int) (C := RX4) (T := TX4) (N := 18) hx hb hts (by decide +kernel) tyX4 tyX4_ok nmX4 hown hK.1 hP hD hS 0 rfl rfl 10 (by decide) (hts (.fieldLink RX4 55 "LogForwardModel" "rows" "I") (by decide +kernel)) (fun _ h9 => h9) rfl (by decide +kernel) rfl rfl (Nat.le_of_ble_eq_true rfl) dX4_recover_236 (fun H locs hP hD hS => ?_)
                            have hP : va_P (gD g) vwCl ([((a 0), .inr (6, [.int F.cd, .int (nI (F.rg)), .ref (a 1), .ref (a 2), .ref (a 3), .ref (a 4), .ref (a 5), .ref (a 6), .ref (a 7), .ref (a 8), .int (nI ((rsD F.S t).n)), .int (nI (F.S.ar)), .int (nI (F.k)), .int (nI (F.fz)), .ref (a 9), .ref (a 10), .ref (a 11), .ref (a 12)])), ((a 1), .inl (gJ g, 32, .inr (.inl cs2))), ((a 2), .inl (gI g, 2001, .inl F.S.kd)), ((a 3), .inl (gI g, 2001, .inl F.S.un)), ((a 4), .inl (gI g, 2001, .inl F.S.ce)), ((a 5), .inl (gI g, 2001, .inl F.S.tn)), ((a 6), .inl (gJ g, 2001, .inr (.inl F.S.bf))), ((a 7), .inl (gJ g, 2001, .inr (.inl F.S.af))), ((a 8), .inl (gZ g, 2001, .inl F.S.bk)), ((a 9), .inl (gJ g, 672, .inr (.inl F.kp))), ((a 10), .inl (gI g, 21, .inl F.st)), ((a 11), .inl (gI g, 21, .inl F.en)), ((a 12), .inl (gZ g, 21, .inl F.sp))]) H := hP
                            have hD : va_D A ([((a 0), .inr (6, [.int F.cd, .int (nI (F.rg)), .ref (a 1), .ref (a 2), .ref (a 3), .ref (a 4), .ref (a 5), .ref (a 6), .ref (a 7), .ref (a 8), .int (nI ((rsD F.S t).n)), .int (nI (F.S.ar)), .int (nI (F.k)), .int (nI (F.fz)), .ref (a 9), .ref (a 10), .ref (a 11), .ref (a 12)])), ((a 1), .inl (gJ g, 32, .inr (.inl cs2))), ((a 2), .inl (gI g, 2001, .inl F.S.kd)), ((a 3), .inl (gI g, 2001, .inl F.S.un)), ((a 4), .inl (gI g, 2001, .inl F.S.ce)), ((a 5), .inl (gI g, 2001, .inl F.S.tn)), ((a 6), .inl (gJ g, 2001, .inr (.inl F.S.bf))), ((a 7), .inl (gJ g, 2001, .inr (.inl F.S.af))), ((a 8), .inl (gZ g, 2001, .inl F.S.bk)), ((a 9), .inl (gJ g, 672, .inr (.inl F.kp))), ((a 10), .inl (gI g, 21, .inl F.st)), ((a 11), .inl (gI g, 21, .inl F.en)), ((a 12), .inl (gZ g, 21, .inl F.sp))]) := hD
                            refine lv_aload_n hx hb dX4_recover_239 rfl (lv_at hl 0 rfl) ?_
                            refine lv_aload_n hx hb dX4_recover_240 rfl (lv_at hl 0 rfl) ?_
                            refine va_get (D := gD g) (ci := 6) (v := .int (nI (F.S.ar))) (C := RX4) (T := TX4) (N := 18) hx hb hts (by decide +kernel) hown hK.1 hP 0 rfl rfl 11 (by decide) (hts (.fieldLink RX4 105 "LogForwardModel" "archived" "I") (by decide +kernel)) (fun _ h9 => h9) rfl dX4_recover_241 ?_
                            refine lv_aload_n hx hb dX4_recover_244 rfl (lv_at hl 0 rfl) ?_
                            refine va_get (D := gD g) (ci := 6) (v := .int (nI ((rsD F.S t).n))) (C := RX4) (T := TX4) (N := 18) hx hb hts (by decide +kernel) hown hK.1 hP 0 rfl rfl 10 (by decide) (hts (.fieldLink RX4 55 "LogForwardModel" "rows" "I") (by decide +kernel)) (fun _ h9 => h9) rfl dX4_recover_245 ?_
                            refine lv_icmp_le (tgt := 258) hx hb dX4_recover_248 (by decide) (fun c_248_14 => ?_) (fun c_248_14 => ?_)
                            · have i_248 : (((F.S.ar : Nat) : Int) : Int) ≤ (((rsD F.S t).n : Nat) : Int) := q_le c_248_14 (l_nI (by omega)) (l_nI (by omega))
                              refine lv_aload_n hx hb dX4_recover_258 rfl (lv_at hl 0 rfl) ?_
                              refine va_get (D := gD g) (ci := 6) (v := .int (nI (F.S.ar))) (C := RX4) (T := TX4) (N := 18) hx hb hts (by decide +kernel) hown hK.1 hP 0 rfl rfl 11 (by decide) (hts (.fieldLink RX4 105 "LogForwardModel" "archived" "I") (by decide +kernel)) (fun _ h9 => h9) rfl dX4_recover_259 ?_
                              refine lv_topi (fun y hy => ?_)
                              replace hy : y = nI (rsD F.S t).ar := by rw [hy, show F.S.ar = (rsD F.S t).ar by omega]
                              subst hy
                              refine va_put (D := gD g) (ci := 6) (v := .int (nI ((rsD F.S t).ar))) (ty := .int) (C := RX4) (T := TX4) (N := 18) hx hb hts (by decide +kernel) tyX4 tyX4_ok nmX4 hown hK.1 hP hD hS 0 rfl rfl 11 (by decide) (hts (.fieldLink RX4 105 "LogForwardModel" "archived" "I") (by decide +kernel)) (fun _ h9 => h9) rfl (by decide +kernel) rfl rfl (Nat.le_of_ble_eq_true rfl) dX4_recover_262 (fun H locs hP hD hS => ?_)
                              have hP : va_P (gD g) vwCl ([((a 0), .inr (6, [.int F.cd, .int (nI (F.rg)), .ref (a 1), .ref (a 2), .ref (a 3), .ref (a 4), .ref (a 5), .ref (a 6), .ref (a 7), .ref (a 8), .int (nI ((rsD F.S t).n)), .int (nI ((rsD F.S t).ar)), .int (nI (F.k)), .int (nI (F.fz)), .ref (a 9), .ref (a 10), .ref (a 11), .ref (a 12)])), ((a 1), .inl (gJ g, 32, .inr (.inl cs2))), ((a 2), .inl (gI g, 2001, .inl F.S.kd)), ((a 3), .inl (gI g, 2001, .inl F.S.un)), ((a 4), .inl (gI g, 2001, .inl F.S.ce)), ((a 5), .inl (gI g, 2001, .inl F.S.tn)), ((a 6), .inl (gJ g, 2001, .inr (.inl F.S.bf))), ((a 7), .inl (gJ g, 2001, .inr (.inl F.S.af))), ((a 8), .inl (gZ g, 2001, .inl F.S.bk)), ((a 9), .inl (gJ g, 672, .inr (.inl F.kp))), ((a 10), .inl (gI g, 21, .inl F.st)), ((a 11), .inl (gI g, 21, .inl F.en)), ((a 12), .inl (gZ g, 21, .inl F.sp))]) H := hP
                              have hD : va_D A ([((a 0), .inr (6, [.int F.cd, .int (nI (F.rg)), .ref (a 1), .ref (a 2), .ref (a 3), .ref (a 4), .ref (a 5), .ref (a 6), .ref (a 7), .ref (a 8), .int (nI ((rsD F.S t).n)), .int (nI ((rsD F.S t).ar)), .int (nI (F.k)), .int (nI (F.fz)), .ref (a 9), .ref (a 10), .ref (a 11), .ref (a 12)])), ((a 1), .inl (gJ g, 32, .inr (.inl cs2))), ((a 2), .inl (gI g, 2001, .inl F.S.kd)), ((a 3), .inl (gI g, 2001, .inl F.S.un)), ((a 4), .inl (gI g, 2001, .inl F.S.ce)), ((a 5), .inl (gI g, 2001, .inl F.S.tn)), ((a 6), .inl (gJ g, 2001, .inr (.inl F.S.bf))), ((a 7), .inl (gJ g, 2001, .inr (.inl F.S.af))), ((a 8), .inl (gZ g, 2001, .inl F.S.bk)), ((a 9), .inl (gJ g, 672, .inr (.inl F.kp))), ((a 10), .inl (gI g, 21, .inl F.st)), ((a 11), .inl (gI g, 21, .inl F.en)), ((a 12), .inl (gZ g, 21, .inl F.sp))]) := hD
                              replace hP : va_P (gD g) vwCl ([((a 0), .inr (6, [.int F.cd, .int (nI (F.rg)), .ref (a 1), .ref (a 2), .ref (a 3), .ref (a 4), .ref (a 5), .ref (a 6), .ref (a 7), .ref (a 8), .int (nI ((rsD F.S t).n)), .int (nI ((rsD F.S t).ar)), .int (nI (F.k)), .int (nI (F.fz)), .ref (a 9), .ref (a 10), .ref (a 11), .ref (a 12)])), ((a 1), .inl (gJ g, 32, .inr (.inl cs2))), ((a 2), .inl (gI g, 2001, .inl (rsD F.S t).kd)), ((a 3), .inl (gI g, 2001, .inl (rsD F.S t).un)), ((a 4), .inl (gI g, 2001, .inl (rsD F.S t).ce)), ((a 5), .inl (gI g, 2001, .inl (rsD F.S t).tn)), ((a 6), .inl (gJ g, 2001, .inr (.inl (rsD F.S t).bf))), ((a 7), .inl (gJ g, 2001, .inr (.inl (rsD F.S t).af))), ((a 8), .inl (gZ g, 2001, .inl (rsD F.S t).bk)), ((a 9), .inl (gJ g, 672, .inr (.inl F.kp))), ((a 10), .inl (gI g, 21, .inl F.st)), ((a 11), .inl (gI g, 21, .inl F.en)), ((a 12), .inl (gZ g, 21, .inl F.sp))]) H := hP
                              replace hD : va_D A ([((a 0), .inr (6, [.int F.cd, .int (nI (F.rg)), .ref (a 1), .ref (a 2), .ref (a 3), .ref (a 4), .ref (a 5), .ref (a 6), .ref (a 7), .ref (a 8), .int (nI ((rsD F.S t).n)), .int (nI ((rsD F.S t).ar)), .int (nI (F.k)), .int (nI (F.fz)), .ref (a 9), .ref (a 10), .ref (a 11), .ref (a 12)])), ((a 1), .inl (gJ g, 32, .inr (.inl cs2))), ((a 2), .inl (gI g, 2001, .inl (rsD F.S t).kd)), ((a 3), .inl (gI g, 2001, .inl (rsD F.S t).un)), ((a 4), .inl (gI g, 2001, .inl (rsD F.S t).ce)), ((a 5), .inl (gI g, 2001, .inl (rsD F.S t).tn)), ((a 6), .inl (gJ g, 2001, .inr (.inl (rsD F.S t).bf))), ((a 7), .inl (gJ g, 2001, .inr (.inl (rsD F.S t).af))), ((a 8), .inl (gZ g, 2001, .inl (rsD F.S t).bk)), ((a 9), .inl (gJ g, 672, .inr (.inl F.kp))), ((a 10), .inl (gI g, 21, .inl F.st)), ((a 11), .inl (gI g, 21, .inl F.en)), ((a 12), .inl (gZ g, 21, .inl F.sp))]) := hD
                              refine lv_iconst (v := 1) hx hb dX4_recover_265 (by decide) ?_
                              refine lv_istore (lv' := [(7, .int 1), (0, .ref (a 0)), (1, .int (nI (i0))), (2, .long p2), (4, .int (nI (t)))]) hx hb dX4_recover_266 hl (by decide) rfl (fun ls hl => ?_)
                              clear ih
                              refine g_heap (fun H locs hH1 hL1 => ?_)
                              obtain ⟨sp1, hs1⟩ : ∃ sp1 : Nat → Int32, sp1 = F.sp := ⟨_, rfl⟩
                              obtain ⟨q, hj⟩ : ∃ q : Nat, q = 1 := ⟨_, rfl⟩
                              replace hl : lv_has ls 8 [(0, .ref (a 0)), (1, .int (nI (i0))), (2, .long p2), (4, .int (nI (t))), (7, .int (nI (q)))] := by subst hj; exact lv_sub hl [1, 2, 3, 4, 0] rfl
                              replace hP : va_P (gD g) vwCl ([((a 0), .inr (6, [.int F.cd, .int (nI (F.rg)), .ref (a 1), .ref (a 2), .ref (a 3), .ref (a 4), .ref (a 5), .ref (a 6), .ref (a 7), .ref (a 8), .int (nI ((rsD F.S t).n)), .int (nI ((rsD F.S t).ar)), .int (nI (F.k)), .int (nI (F.fz)), .ref (a 9), .ref (a 10), .ref (a 11), .ref (a 12)])), ((a 1), .inl (gJ g, 32, .inr (.inl cs2))), ((a 2), .inl (gI g, 2001, .inl (rsD F.S t).kd)), ((a 3), .inl (gI g, 2001, .inl (rsD F.S t).un)), ((a 4), .inl (gI g, 2001, .inl (rsD F.S t).ce)), ((a 5), .inl (gI g, 2001, .inl (rsD F.S t).tn)), ((a 6), .inl (gJ g, 2001, .inr (.inl (rsD F.S t).bf))), ((a 7), .inl (gJ g, 2001, .inr (.inl (rsD F.S t).af))), ((a 8), .inl (gZ g, 2001, .inl (rsD F.S t).bk)), ((a 9), .inl (gJ g, 672, .inr (.inl F.kp))), ((a 10), .inl (gI g, 21, .inl F.st)), ((a 11), .inl (gI g, 21, .inl F.en)), ((a 12), .inl (gZ g, 21, .inl sp1))]) H := by rw [hH1, hs1]; exact hP
                              replace hD : va_D A ([((a 0), .inr (6, [.int F.cd, .int (nI (F.rg)), .ref (a 1), .ref (a 2), .ref (a 3), .ref (a 4), .ref (a 5), .ref (a 6), .ref (a 7), .ref (a 8), .int (nI ((rsD F.S t).n)), .int (nI ((rsD F.S t).ar)), .int (nI (F.k)), .int (nI (F.fz)), .ref (a 9), .ref (a 10), .ref (a 11), .ref (a 12)])), ((a 1), .inl (gJ g, 32, .inr (.inl cs2))), ((a 2), .inl (gI g, 2001, .inl (rsD F.S t).kd)), ((a 3), .inl (gI g, 2001, .inl (rsD F.S t).un)), ((a 4), .inl (gI g, 2001, .inl (rsD F.S t).ce)), ((a 5), .inl (gI g, 2001, .inl (rsD F.S t).tn)), ((a 6), .inl (gJ g, 2001, .inr (.inl (rsD F.S t).bf))), ((a 7), .inl (gJ g, 2001, .inr (.inl (rsD F.S t).af))), ((a 8), .inl (gZ g, 2001, .inl (rsD F.S t).bk)), ((a 9), .inl (gJ g, 672, .inr (.inl F.kp))), ((a 10), .inl (gI g, 21, .inl F.st)), ((a 11), .inl (gI g, 21, .inl F.en)), ((a 12), .inl (gZ g, 21, .inl sp1))]) := by rw [hs1]; exact hD
                              replace hS : va_S A s.heap H locs := by rw [hH1, hL1]; exact hS
                              have hF : ∀ j, sp1 j = if 1 ≤ j ∧ j < q ∧ (t : Int) < (F.en j).toInt then 1 else F.sp j := fun j => by rw [if_neg (by omega), hs1]
                              have hq1 : 1 ≤ q := by omega
                              have hq2 : q ≤ F.k + 1 := by omega
                              clear hj hs1 hH1 hL1
                              clear hd d
                              obtain ⟨d, hd⟩ : ∃ d, F.k + 1 - q = d := ⟨_, rfl⟩
                              induction d using Nat.strongRecOn generalizing q sp1 ls H locs with
                              | ind d ih =>
                                refine lv_iload hx hb dX4_recover_268 (lv_at hl 4 rfl) ?_
                                refine lv_aload_n hx hb dX4_recover_270 rfl (lv_at hl 0 rfl) ?_
                                refine va_get (D := gD g) (ci := 6) (v := .int (nI (F.k))) (C := RX4) (T := TX4) (N := 18) hx hb hts (by decide +kernel) hown hK.1 hP 0 rfl rfl 12 (by decide) (hts (.fieldLink RX4 99 "LogForwardModel" "images" "I") (by decide +kernel)) (fun _ h9 => h9) rfl dX4_recover_271 ?_
                                refine lv_icmp_gt (tgt := 319) hx hb dX4_recover_274 (by decide) (fun c_274_16 => ?_) (fun c_274_16 => ?_)
                                · have i_274 : (((F.k : Nat) : Int) : Int) < ((q : Nat) : Int) := q_lt c_274_16 (l_nI (by omega)) (l_nI (by omega))
                                  refine lv_iconst (v := 1) hx hb dX4_recover_319 (by decide) ?_
                                  refine lv_istore (lv' := [(7, .int 1), (0, .ref (a 0)), (1, .int (nI (i0))), (2, .long p2), (4, .int (nI (t)))]) hx hb dX4_recover_320 hl (by decide) rfl (fun ls hl => ?_)
                                  clear ih
                                  have hsp9 : sp1 = fun j => if 1 ≤ j ∧ j ≤ F.k ∧ (t : Int) < (F.en j).toInt then 1 else F.sp j := by rw [show sp1 = _ from funext hF, show q = F.k + 1 by omega]; simp only [Nat.lt_succ_iff]
                                  have hcs9 : cs2 = csB F.S (t - s0) (s0 + 1) (va_cpy F.kp F.cs (32 * i0) 0 32) := by rw [hq, show t + 1 - k1 = 0 by omega]; rfl
                                  refine g_heap (fun H locs hH1 hL1 => ?_)
                                  obtain ⟨M1, hM1⟩ : ∃ M1 : MS, M1 = rcZ F i0 s0 t := ⟨_, rfl⟩
                                  obtain ⟨v, hj⟩ : ∃ v : Nat, v = 1 := ⟨_, rfl⟩
                                  replace hl : lv_has ls 8 [(0, .ref (a 0)), (1, .int (nI (i0))), (2, .long p2), (4, .int (nI (t))), (7, .int (nI (v)))] := by subst hj; exact lv_sub hl [1, 2, 3, 4, 0] rfl
                                  have hT : M1 = ((rsD F.S t), F.st, F.en, sp1, F.kp, F.k, F.fz, cs2, F.rg, F.cd) := by rw [hM1, hsp9, hcs9]; rfl
                                  replace hP : va_P (gD g) vwCl ([((a 0), .inr (6, [.int M1.cd, .int (nI (M1.rg)), .ref (a 1), .ref (a 2), .ref (a 3), .ref (a 4), .ref (a 5), .ref (a 6), .ref (a 7), .ref (a 8), .int (nI (M1.S.n)), .int (nI (M1.S.ar)), .int (nI (M1.k)), .int (nI (M1.fz)), .ref (a 9), .ref (a 10), .ref (a 11), .ref (a 12)])), ((a 1), .inl (gJ g, 32, .inr (.inl M1.cs))), ((a 2), .inl (gI g, 2001, .inl M1.S.kd)), ((a 3), .inl (gI g, 2001, .inl M1.S.un)), ((a 4), .inl (gI g, 2001, .inl M1.S.ce)), ((a 5), .inl (gI g, 2001, .inl M1.S.tn)), ((a 6), .inl (gJ g, 2001, .inr (.inl M1.S.bf))), ((a 7), .inl (gJ g, 2001, .inr (.inl M1.S.af))), ((a 8), .inl (gZ g, 2001, .inl M1.S.bk)), ((a 9), .inl (gJ g, 672, .inr (.inl M1.kp))), ((a 10), .inl (gI g, 21, .inl M1.st)), ((a 11), .inl (gI g, 21, .inl M1.en)), ((a 12), .inl (gZ g, 21, .inl M1.sp))]) H := by rw [hH1, hT]; exact hP
                                  replace hD : va_D A ([((a 0), .inr (6, [.int M1.cd, .int (nI (M1.rg)), .ref (a 1), .ref (a 2), .ref (a 3), .ref (a 4), .ref (a 5), .ref (a 6), .ref (a 7), .ref (a 8), .int (nI (M1.S.n)), .int (nI (M1.S.ar)), .int (nI (M1.k)), .int (nI (M1.fz)), .ref (a 9), .ref (a 10), .ref (a 11), .ref (a 12)])), ((a 1), .inl (gJ g, 32, .inr (.inl M1.cs))), ((a 2), .inl (gI g, 2001, .inl M1.S.kd)), ((a 3), .inl (gI g, 2001, .inl M1.S.un)), ((a 4), .inl (gI g, 2001, .inl M1.S.ce)), ((a 5), .inl (gI g, 2001, .inl M1.S.tn)), ((a 6), .inl (gJ g, 2001, .inr (.inl M1.S.bf))), ((a 7), .inl (gJ g, 2001, .inr (.inl M1.S.af))), ((a 8), .inl (gZ g, 2001, .inl M1.S.bk)), ((a 9), .inl (gJ g, 672, .inr (.inl M1.kp))), ((a 10), .inl (gI g, 21, .inl M1.st)), ((a 11), .inl (gI g, 21, .inl M1.en)), ((a 12), .inl (gZ g, 21, .inl M1.sp))]) := by rw [hT]; exact hD
                                  replace hS : va_S A s.heap H locs := by rw [hH1, hL1]; exact hS
                                  have hN1 : M1.S.n = t := by rw [hM1]; exact hDn
                                  have hge : t ≤ M1.S.n := by omega
                                  have hf1 : M1.fz ≤ 20 := by rw [hM1]; exact hFf
                                  have hce1 : ceOk M1.S := by rw [hM1]; exact fun r h1 h2 h3 => hFc r h1 (by have h2 : r ≤ (rsD F.S t).n := h2; omega) h3
                                  have hrm : M1.S.n + smF (neM M1 t) (61 - v) v ≤ 2000 := by rw [hN1, hj, hM1, show smF (neM (rcZ F i0 s0 t) t) (61 - 1) 1 = smF (moF F.S t) 60 1 from smF_congr 60 1 (fun j _ _ => by show (if stO (rsD F.S t) (nI j) t = 1 then cnB (rsD F.S t) (nI j) (rsD F.S t).n + 1 else 0) = _; rw [hDn, stO_D, cnB_D]; rfl)]; omega
                                  have hq5 : msO t 60 1 (rcZ F i0 s0 t) = msO t (61 - v) v M1 := by rw [hM1, hj]
                                  have hv1 : 1 ≤ v := by omega
                                  have hv2 : v ≤ 61 := by omega
                                  clear hT hN1 hj hM1 hH1 hL1
                                  clear hd d
                                  obtain ⟨d, hd⟩ : ∃ d, 61 - v = d := ⟨_, rfl⟩
                                  induction d using Nat.strongRecOn generalizing v M1 ls H locs with
                                  | ind d ih =>
                                    refine lv_iload hx hb dX4_recover_322 (lv_at hl 4 rfl) ?_
                                    refine lv_bipush (v := 60) hx hb dX4_recover_324 (by decide) ?_
                                    refine lv_icmp_gt (tgt := 354) hx hb dX4_recover_326 (by decide) (fun c_326_18 => ?_) (fun c_326_18 => ?_)
                                    · have i_326 : (60 : Int) < ((v : Nat) : Int) := q_lt c_326_18 rfl (l_nI (by omega))
                                      refine lv_aload_n hx hb dX4_recover_354 rfl (lv_at hl 0 rfl) ?_
                                      refine vp_callSi (va_Run.run (va_runV (As := []) (rest := []) ⟨hx, hb, hml, hown, hts⟩ (c_X4_synced l g a M1 (by omega)) (cwV 0 hts gX4_recover_X4_synced rfl rfl rfl (by decide +kernel) ⟨Nat.le_of_ble_eq_true rfl, Nat.le_of_ble_eq_true rfl⟩) (pv_r hK hP (ci := 6) (q0 := 0) rfl rfl [0, 1, 2, 3, 4, 5, 6, 7, 8, 9, 10, 11, 12] rfl) rfl rfl hl.1 rfl (lv_room (Nat.le_of_ble_eq_true rfl)) dX4_recover_355 ⟨Nat.zero_le _, Nat.zero_le _⟩)) (fun r_355_19 h_355_19 => ?_)
                                      subst h_355_19
                                      have hP9 : va_P (gD g) vwCl (wM g a M1) H := hP
                                      have hD9 : va_D A (wM g a M1) := hD
                                      exact W.iret (v := (nI (snO M1.S M1.S.n))) hx hb hr (fun tz htz hWz => ⟨⟨(nI (snO M1.S M1.S.n)), M1, rfl, (by rw [← hM0]; exact (by rw [← h_6_1]; subst hi0; exact Or.inr (Or.inr ⟨hgd, t, ht0, hp2, by rw [he, l_nI (by omega)]; omega, Or.inr (Or.inr ⟨hla0, by omega, s0, hs, by omega, by rw [hq5, show 61 - v = 0 by omega]; rfl, rfl⟩)⟩))), by rw [htz]; exact hP9, hD9⟩, hS.F htz⟩) hS.2.2 dX4_recover_358
                                    · have i_326 : (((v : Nat) : Int) : Int) ≤ 60 := q_nlt c_326_18 rfl (l_nI (by omega))
                                      refine lv_aload_n hx hb dX4_recover_329 rfl (lv_at hl 0 rfl) ?_
                                      refine lv_iload hx hb dX4_recover_330 (lv_at hl 4 rfl) ?_
                                      refine lv_iload hx hb dX4_recover_332 (lv_at hl 3 rfl) ?_
                                      refine vp_callSi (va_Run.run (va_runV (As := [.int (nI (v)), .int (nI (t))]) (rest := []) ⟨hx, hb, hml, hown, hts⟩ (c_X4_stateOf l g a M1 (nI (v)) (t) (by omega) (by omega)) (cwV 2 hts gX4_recover_X4_stateOf rfl rfl rfl (by decide +kernel) ⟨Nat.le_of_ble_eq_true rfl, Nat.le_of_ble_eq_true rfl⟩) (pv_r hK hP (ci := 6) (q0 := 0) rfl rfl [0, 1, 2, 3, 4, 5, 6, 7, 8, 9, 10, 11, 12] rfl) rfl rfl hl.1 rfl (lv_room (Nat.le_of_ble_eq_true rfl)) dX4_recover_334 ⟨Nat.zero_le _, Nat.zero_le _⟩)) (fun r_334_19 h_334_19 => ?_)
                                      subst h_334_19
                                      refine lv_iconst (v := 1) hx hb dX4_recover_337 (by decide) ?_
                                      refine lv_icmp_ne (tgt := 348) hx hb dX4_recover_338 (by decide) (fun c_338_19 => ?_) (fun c_338_19 => ?_)
                                      · have i_338 : (((stO M1.S (nI (v)) (t) : Nat) : Int) : Int) ≠ 1 := q_ne c_338_19 (l_nI (by have := stO_le M1.S (nI (v)) (t); omega)) rfl
                                        refine lv_iinc (v := (nI (v + 1))) (lv' := [(7, .int (nI (v + 1))), (0, .ref (a 0)), (1, .int (nI (i0))), (2, .long p2), (4, .int (nI (t)))]) hx hb dX4_recover_348 hl (k := 4) rfl (nI_1 _) (by decide) rfl (fun ls hl => ?_)
                                        refine lv_goto (tgt := 322) hx hb dX4_recover_351 (by decide) ?_
                                        have hst := smF_step (f := neM M1 t) (i := v) (by omega)
                                        have hne : neM M1 t v = 0 := by unfold neM; rw [if_neg (by omega)]
                                        exact ih (61 - (v + 1)) (by omega) ls H locs M1 (v + 1) (lv_sub hl [1, 2, 3, 4, 0] rfl) hP hD hS hge hf1 hce1 (by omega) (by rw [hq5, msO_step (by omega), if_neg (by omega)]) (by omega) (by omega) rfl
                                      · have i_338 : (((stO M1.S (nI (v)) (t) : Nat) : Int) : Int) = 1 := q_eq c_338_19 (l_nI (by have := stO_le M1.S (nI (v)) (t); omega)) rfl
                                        refine lv_aload_n hx hb dX4_recover_341 rfl (lv_at hl 0 rfl) ?_
                                        refine lv_iload hx hb dX4_recover_342 (lv_at hl 4 rfl) ?_
                                        refine ca_i (ws := [((a 0), .inr (6, [.int M1.cd, .int (nI (M1.rg)), .ref (a 1), .ref (a 2), .ref (a 3), .ref (a 4), .ref (a 5), .ref (a 6), .ref (a 7), .ref (a 8), .int (nI (M1.S.n)), .int (nI (M1.S.ar)), .int (nI (M1.k)), .int (nI (M1.fz)), .ref (a 9), .ref (a 10), .ref (a 11), .ref (a 12)])), ((a 1), .inl (gJ g, 32, .inr (.inl M1.cs))), ((a 2), .inl (gI g, 2001, .inl M1.S.kd)), ((a 3), .inl (gI g, 2001, .inl M1.S.un)), ((a 4), .inl (gI g, 2001, .inl M1.S.ce)), ((a 5), .inl (gI g, 2001, .inl M1.S.tn)), ((a 6), .inl (gJ g, 2001, .inr (.inl M1.S.bf))), ((a 7), .inl (gJ g, 2001, .inr (.inl M1.S.af))), ((a 8), .inl (gZ g, 2001, .inl M1.S.bk)), ((a 9), .inl (gJ g, 672, .inr (.inl M1.kp))), ((a 10), .inl (gI g, 21, .inl M1.st)), ((a 11), .inl (gI g, 21, .inl M1.en)), ((a 12), .inl (gZ g, 21, .inl M1.sp))]) (va_runV (As := [.int (nI (v))]) (rest := []) ⟨hx, hb, hml, hown, hts⟩ (c_X4_takeBack l g a M1 H.size (nI (v)) (ne_room hrm (by omega) (by omega)) hf1 hce1) (cwV 1 hts gX4_recover_X4_takeBack rfl rfl rfl (by decide +kernel) ⟨Nat.le_of_ble_eq_true rfl, Nat.le_of_ble_eq_true rfl⟩) (pv_w hK hP (ci := 6) (q0 := 0) rfl rfl hP hD) rfl rfl hl.1 rfl (lv_room (Nat.le_of_ble_eq_true rfl)) dX4_recover_344 ⟨Nat.zero_le _, Nat.zero_le _⟩) hD hS hA (fun r_344_20 u_344_20 H locs h_344_20 hP hD hS => ?_)
                                        obtain ⟨rfl, rfl⟩ := h_344_20
                                        replace hP : va_P (gD g) vwCl ([((a 0), .inr (6, [.int (msT M1 (nI (v))).cd, .int (nI ((msT M1 (nI (v))).rg)), .ref (a 1), .ref (a 2), .ref (a 3), .ref (a 4), .ref (a 5), .ref (a 6), .ref (a 7), .ref (a 8), .int (nI ((msT M1 (nI (v))).S.n)), .int (nI ((msT M1 (nI (v))).S.ar)), .int (nI ((msT M1 (nI (v))).k)), .int (nI ((msT M1 (nI (v))).fz)), .ref (a 9), .ref (a 10), .ref (a 11), .ref (a 12)])), ((a 1), .inl (gJ g, 32, .inr (.inl (msT M1 (nI (v))).cs))), ((a 2), .inl (gI g, 2001, .inl (msT M1 (nI (v))).S.kd)), ((a 3), .inl (gI g, 2001, .inl (msT M1 (nI (v))).S.un)), ((a 4), .inl (gI g, 2001, .inl (msT M1 (nI (v))).S.ce)), ((a 5), .inl (gI g, 2001, .inl (msT M1 (nI (v))).S.tn)), ((a 6), .inl (gJ g, 2001, .inr (.inl (msT M1 (nI (v))).S.bf))), ((a 7), .inl (gJ g, 2001, .inr (.inl (msT M1 (nI (v))).S.af))), ((a 8), .inl (gZ g, 2001, .inl (msT M1 (nI (v))).S.bk)), ((a 9), .inl (gJ g, 672, .inr (.inl (msT M1 (nI (v))).kp))), ((a 10), .inl (gI g, 21, .inl (msT M1 (nI (v))).st)), ((a 11), .inl (gI g, 21, .inl (msT M1 (nI (v))).en)), ((a 12), .inl (gZ g, 21, .inl (msT M1 (nI (v))).sp))]) H := hP
                                        replace hD : va_D A ([((a 0), .inr (6, [.int (msT M1 (nI (v))).cd, .int (nI ((msT M1 (nI (v))).rg)), .ref (a 1), .ref (a 2), .ref (a 3), .ref (a 4), .ref (a 5), .ref (a 6), .ref (a 7), .ref (a 8), .int (nI ((msT M1 (nI (v))).S.n)), .int (nI ((msT M1 (nI (v))).S.ar)), .int (nI ((msT M1 (nI (v))).k)), .int (nI ((msT M1 (nI (v))).fz)), .ref (a 9), .ref (a 10), .ref (a 11), .ref (a 12)])), ((a 1), .inl (gJ g, 32, .inr (.inl (msT M1 (nI (v))).cs))), ((a 2), .inl (gI g, 2001, .inl (msT M1 (nI (v))).S.kd)), ((a 3), .inl (gI g, 2001, .inl (msT M1 (nI (v))).S.un)), ((a 4), .inl (gI g, 2001, .inl (msT M1 (nI (v))).S.ce)), ((a 5), .inl (gI g, 2001, .inl (msT M1 (nI (v))).S.tn)), ((a 6), .inl (gJ g, 2001, .inr (.inl (msT M1 (nI (v))).S.bf))), ((a 7), .inl (gJ g, 2001, .inr (.inl (msT M1 (nI (v))).S.af))), ((a 8), .inl (gZ g, 2001, .inl (msT M1 (nI (v))).S.bk)), ((a 9), .inl (gJ g, 672, .inr (.inl (msT M1 (nI (v))).kp))), ((a 10), .inl (gI g, 21, .inl (msT M1 (nI (v))).st)), ((a 11), .inl (gI g, 21, .inl (msT M1 (nI (v))).en)), ((a 12), .inl (gZ g, 21, .inl (msT M1 (nI (v))).sp))]) := hD
                                        refine lv_pop hx hb dX4_recover_347 rfl ?_
                                        refine lv_iinc (v := (nI (v + 1))) (lv' := [(7, .int (nI (v + 1))), (0, .ref (a 0)), (1, .int (nI (i0))), (2, .long p2), (4, .int (nI (t)))]) hx hb dX4_recover_348 hl (k := 4) rfl (nI_1 _) (by decide) rfl (fun ls hl => ?_)
                                        refine lv_goto (tgt := 322) hx hb dX4_recover_351 (by decide) ?_
                                        have hst := smF_step (f := neM M1 t) (i := v) (by omega)
                                        have hne : neM M1 t v = cnB M1.S (nI v) M1.S.n + 1 := by unfold neM; rw [if_pos (by omega)]
                                        have hnT := neM_T M1 (nI v) hge (61 - (v + 1)) (v + 1)
                                        obtain ⟨g1, g2, g3, g4, -⟩ := msT_S (nI v) M1
                                        obtain ⟨r1, r2, r3, r4, r5⟩ := rsE_facts (nI v) M1.S
                                        exact ih (61 - (v + 1)) (by omega) ls H locs (msT M1 (nI v)) (v + 1) (lv_sub hl [1, 2, 3, 4, 0] rfl) hP hD hS (by rw [g1, r1]; omega) (Nat.le_trans g4 hf1) (by rw [g1]; exact r5 hce1) (by rw [hnT, g1, r1]; omega) (by rw [hq5, msO_step (by omega), if_pos (by omega)]) (by omega) (by omega) rfl
                                · have i_274 : (((q : Nat) : Int) : Int) ≤ ((F.k : Nat) : Int) := q_nlt c_274_16 (l_nI (by omega)) (l_nI (by omega))
                                  refine lv_aload_n hx hb dX4_recover_277 rfl (lv_at hl 0 rfl) ?_
                                  refine va_get (D := gD g) (ci := 6) (v := .ref (a 12)) (C := RX4) (T := TX4) (N := 18) hx hb hts (by decide +kernel) hown hK.1 hP 0 rfl rfl 17 (by decide) (hts (.fieldLink RX4 45 "LogForwardModel" "bad" "[Z") (by decide +kernel)) (fun _ h9 => h9) rfl dX4_recover_278 ?_
                                  refine lv_iload hx hb dX4_recover_281 (lv_at hl 4 rfl) ?_
                                  refine lv_aload_n hx hb dX4_recover_283 rfl (lv_at hl 0 rfl) ?_
                                  refine va_get (D := gD g) (ci := 6) (v := .ref (a 12)) (C := RX4) (T := TX4) (N := 18) hx hb hts (by decide +kernel) hown hK.1 hP 0 rfl rfl 17 (by decide) (hts (.fieldLink RX4 45 "LogForwardModel" "bad" "[Z") (by decide +kernel)) (fun _ h9 => h9) rfl dX4_recover_284 ?_
                                  refine lv_iload hx hb dX4_recover_287 (lv_at hl 4 rfl) ?_
                                  refine ga_zald (v := (sp1 q)) hx hb hK.1 hP 12 2 rfl rfl (v_nI (by omega) (by omega)) (by rw [(c_nI (by omega))]) dX4_recover_289 ?_
                                  refine lv_if_ne (tgt := 307) hx hb dX4_recover_290 (by decide) (fun c_290_17 => ?_) (fun c_290_17 => ?_)
                                  · have i_290 : ((sp1 q).toInt : Int) ≠ 0 := q_ne c_290_17 rfl rfl
                                    refine lv_iconst (v := 1) hx hb dX4_recover_307 (by decide) ?_
                                    refine lv_goto (tgt := 312) hx hb dX4_recover_308 (by decide) ?_
                                    refine ga_zast (j := q) hx hb hK.1 hP hD hS 12 2 rfl rfl (v_nI (by omega) (by omega)) (c_nI (by omega)) rfl dX4_recover_312 (fun H locs hP hD hS => ?_)
                                    have hP : va_P (gD g) vwCl ([((a 0), .inr (6, [.int F.cd, .int (nI (F.rg)), .ref (a 1), .ref (a 2), .ref (a 3), .ref (a 4), .ref (a 5), .ref (a 6), .ref (a 7), .ref (a 8), .int (nI ((rsD F.S t).n)), .int (nI ((rsD F.S t).ar)), .int (nI (F.k)), .int (nI (F.fz)), .ref (a 9), .ref (a 10), .ref (a 11), .ref (a 12)])), ((a 1), .inl (gJ g, 32, .inr (.inl cs2))), ((a 2), .inl (gI g, 2001, .inl (rsD F.S t).kd)), ((a 3), .inl (gI g, 2001, .inl (rsD F.S t).un)), ((a 4), .inl (gI g, 2001, .inl (rsD F.S t).ce)), ((a 5), .inl (gI g, 2001, .inl (rsD F.S t).tn)), ((a 6), .inl (gJ g, 2001, .inr (.inl (rsD F.S t).bf))), ((a 7), .inl (gJ g, 2001, .inr (.inl (rsD F.S t).af))), ((a 8), .inl (gZ g, 2001, .inl (rsD F.S t).bk)), ((a 9), .inl (gJ g, 672, .inr (.inl F.kp))), ((a 10), .inl (gI g, 21, .inl F.st)), ((a 11), .inl (gI g, 21, .inl F.en)), ((a 12), .inl (gZ g, 21, .inl (upd sp1 (q) 1)))]) H := hP
                                    have hD : va_D A ([((a 0), .inr (6, [.int F.cd, .int (nI (F.rg)), .ref (a 1), .ref (a 2), .ref (a 3), .ref (a 4), .ref (a 5), .ref (a 6), .ref (a 7), .ref (a 8), .int (nI ((rsD F.S t).n)), .int (nI ((rsD F.S t).ar)), .int (nI (F.k)), .int (nI (F.fz)), .ref (a 9), .ref (a 10), .ref (a 11), .ref (a 12)])), ((a 1), .inl (gJ g, 32, .inr (.inl cs2))), ((a 2), .inl (gI g, 2001, .inl (rsD F.S t).kd)), ((a 3), .inl (gI g, 2001, .inl (rsD F.S t).un)), ((a 4), .inl (gI g, 2001, .inl (rsD F.S t).ce)), ((a 5), .inl (gI g, 2001, .inl (rsD F.S t).tn)), ((a 6), .inl (gJ g, 2001, .inr (.inl (rsD F.S t).bf))), ((a 7), .inl (gJ g, 2001, .inr (.inl (rsD F.S t).af))), ((a 8), .inl (gZ g, 2001, .inl (rsD F.S t).bk)), ((a 9), .inl (gJ g, 672, .inr (.inl F.kp))), ((a 10), .inl (gI g, 21, .inl F.st)), ((a 11), .inl (gI g, 21, .inl F.en)), ((a 12), .inl (gZ g, 21, .inl (upd sp1 (q) 1)))]) := hD
                                    refine lv_iinc (v := (nI (q + 1))) (lv' := [(7, .int (nI (q + 1))), (0, .ref (a 0)), (1, .int (nI (i0))), (2, .long p2), (4, .int (nI (t)))]) hx hb dX4_recover_313 hl (k := 4) rfl (nI_1 _) (by decide) rfl (fun ls hl => ?_)
                                    refine lv_goto (tgt := 268) hx hb dX4_recover_316 (by decide) ?_
                                    have hsq : sp1 q = F.sp q := by rw [hF q, if_neg (by omega)]
                                    exact ih (F.k + 1 - (q + 1)) (by omega) ls H locs (upd sp1 (q) 1) (q + 1) (lv_sub hl [1, 2, 3, 4, 0] rfl) hP hD hS (by first | exact sp_yes hF hq1 (by omega) | exact sp_yes2 hF hq1 ((hFs q).resolve_left (by rw [← hsq]; assumption))) (by omega) (by omega) rfl
                                  · have i_290 : ((sp1 q).toInt : Int) = 0 := q_eq c_290_17 rfl rfl
                                    refine lv_aload_n hx hb dX4_recover_293 rfl (lv_at hl 0 rfl) ?_
                                    refine va_get (D := gD g) (ci := 6) (v := .ref (a 11)) (C := RX4) (T := TX4) (N := 18) hx hb hts (by decide +kernel) hown hK.1 hP 0 rfl rfl 16 (by decide) (hts (.fieldLink RX4 42 "LogForwardModel" "ends" "[I") (by decide +kernel)) (fun _ h9 => h9) rfl dX4_recover_294 ?_
                                    refine lv_iload hx hb dX4_recover_297 (lv_at hl 4 rfl) ?_
                                    refine ga_iald (v := (F.en q)) hx hb hK.1 hP 11 0 rfl rfl (v_nI (by omega) (by omega)) (by rw [(c_nI (by omega))]) dX4_recover_299 ?_
                                    refine lv_aload_n hx hb dX4_recover_300 rfl (lv_at hl 0 rfl) ?_
                                    refine va_get (D := gD g) (ci := 6) (v := .int (nI ((rsD F.S t).n))) (C := RX4) (T := TX4) (N := 18) hx hb hts (by decide +kernel) hown hK.1 hP 0 rfl rfl 10 (by decide) (hts (.fieldLink RX4 55 "LogForwardModel" "rows" "I") (by decide +kernel)) (fun _ h9 => h9) rfl dX4_recover_301 ?_
                                    refine lv_icmp_le (tgt := 311) hx hb dX4_recover_304 (by decide) (fun c_304_18 => ?_) (fun c_304_18 => ?_)
                                    · have i_304 : ((F.en q).toInt : Int) ≤ (((rsD F.S t).n : Nat) : Int) := q_le c_304_18 rfl (l_nI (by omega))
                                      refine lv_iconst (v := 0) hx hb dX4_recover_311 (by decide) ?_
                                      refine ga_zast (j := q) hx hb hK.1 hP hD hS 12 2 rfl rfl (v_nI (by omega) (by omega)) (c_nI (by omega)) rfl dX4_recover_312 (fun H locs hP hD hS => ?_)
                                      have hP : va_P (gD g) vwCl ([((a 0), .inr (6, [.int F.cd, .int (nI (F.rg)), .ref (a 1), .ref (a 2), .ref (a 3), .ref (a 4), .ref (a 5), .ref (a 6), .ref (a 7), .ref (a 8), .int (nI ((rsD F.S t).n)), .int (nI ((rsD F.S t).ar)), .int (nI (F.k)), .int (nI (F.fz)), .ref (a 9), .ref (a 10), .ref (a 11), .ref (a 12)])), ((a 1), .inl (gJ g, 32, .inr (.inl cs2))), ((a 2), .inl (gI g, 2001, .inl (rsD F.S t).kd)), ((a 3), .inl (gI g, 2001, .inl (rsD F.S t).un)), ((a 4), .inl (gI g, 2001, .inl (rsD F.S t).ce)), ((a 5), .inl (gI g, 2001, .inl (rsD F.S t).tn)), ((a 6), .inl (gJ g, 2001, .inr (.inl (rsD F.S t).bf))), ((a 7), .inl (gJ g, 2001, .inr (.inl (rsD F.S t).af))), ((a 8), .inl (gZ g, 2001, .inl (rsD F.S t).bk)), ((a 9), .inl (gJ g, 672, .inr (.inl F.kp))), ((a 10), .inl (gI g, 21, .inl F.st)), ((a 11), .inl (gI g, 21, .inl F.en)), ((a 12), .inl (gZ g, 21, .inl (upd sp1 (q) 0)))]) H := hP
                                      have hD : va_D A ([((a 0), .inr (6, [.int F.cd, .int (nI (F.rg)), .ref (a 1), .ref (a 2), .ref (a 3), .ref (a 4), .ref (a 5), .ref (a 6), .ref (a 7), .ref (a 8), .int (nI ((rsD F.S t).n)), .int (nI ((rsD F.S t).ar)), .int (nI (F.k)), .int (nI (F.fz)), .ref (a 9), .ref (a 10), .ref (a 11), .ref (a 12)])), ((a 1), .inl (gJ g, 32, .inr (.inl cs2))), ((a 2), .inl (gI g, 2001, .inl (rsD F.S t).kd)), ((a 3), .inl (gI g, 2001, .inl (rsD F.S t).un)), ((a 4), .inl (gI g, 2001, .inl (rsD F.S t).ce)), ((a 5), .inl (gI g, 2001, .inl (rsD F.S t).tn)), ((a 6), .inl (gJ g, 2001, .inr (.inl (rsD F.S t).bf))), ((a 7), .inl (gJ g, 2001, .inr (.inl (rsD F.S t).af))), ((a 8), .inl (gZ g, 2001, .inl (rsD F.S t).bk)), ((a 9), .inl (gJ g, 672, .inr (.inl F.kp))), ((a 10), .inl (gI g, 21, .inl F.st)), ((a 11), .inl (gI g, 21, .inl F.en)), ((a 12), .inl (gZ g, 21, .inl (upd sp1 (q) 0)))]) := hD
                                      refine lv_iinc (v := (nI (q + 1))) (lv' := [(7, .int (nI (q + 1))), (0, .ref (a 0)), (1, .int (nI (i0))), (2, .long p2), (4, .int (nI (t)))]) hx hb dX4_recover_313 hl (k := 4) rfl (nI_1 _) (by decide) rfl (fun ls hl => ?_)
                                      refine lv_goto (tgt := 268) hx hb dX4_recover_316 (by decide) ?_
                                      have hsq : sp1 q = F.sp q := by rw [hF q, if_neg (by omega)]
                                      exact ih (F.k + 1 - (q + 1)) (by omega) ls H locs (upd sp1 (q) 0) (q + 1) (lv_sub hl [1, 2, 3, 4, 0] rfl) hP hD hS (sp_no2 hF (by omega) (by rw [← hsq]; assumption)) (by omega) (by omega) rfl
                                    · have i_304 : ((((rsD F.S t).n : Nat) : Int) : Int) < (F.en q).toInt := q_nle c_304_18 rfl (l_nI (by omega))
                                      refine lv_iconst (v := 1) hx hb dX4_recover_307 (by decide) ?_
                                      refine lv_goto (tgt := 312) hx hb dX4_recover_308 (by decide) ?_
                                      refine ga_zast (j := q) hx hb hK.1 hP hD hS 12 2 rfl rfl (v_nI (by omega) (by omega)) (c_nI (by omega)) rfl dX4_recover_312 (fun H locs hP hD hS => ?_)
                                      have hP : va_P (gD g) vwCl ([((a 0), .inr (6, [.int F.cd, .int (nI (F.rg)), .ref (a 1), .ref (a 2), .ref (a 3), .ref (a 4), .ref (a 5), .ref (a 6), .ref (a 7), .ref (a 8), .int (nI ((rsD F.S t).n)), .int (nI ((rsD F.S t).ar)), .int (nI (F.k)), .int (nI (F.fz)), .ref (a 9), .ref (a 10), .ref (a 11), .ref (a 12)])), ((a 1), .inl (gJ g, 32, .inr (.inl cs2))), ((a 2), .inl (gI g, 2001, .inl (rsD F.S t).kd)), ((a 3), .inl (gI g, 2001, .inl (rsD F.S t).un)), ((a 4), .inl (gI g, 2001, .inl (rsD F.S t).ce)), ((a 5), .inl (gI g, 2001, .inl (rsD F.S t).tn)), ((a 6), .inl (gJ g, 2001, .inr (.inl (rsD F.S t).bf))), ((a 7), .inl (gJ g, 2001, .inr (.inl (rsD F.S t).af))), ((a 8), .inl (gZ g, 2001, .inl (rsD F.S t).bk)), ((a 9), .inl (gJ g, 672, .inr (.inl F.kp))), ((a 10), .inl (gI g, 21, .inl F.st)), ((a 11), .inl (gI g, 21, .inl F.en)), ((a 12), .inl (gZ g, 21, .inl (upd sp1 (q) 1)))]) H := hP
                                      have hD : va_D A ([((a 0), .inr (6, [.int F.cd, .int (nI (F.rg)), .ref (a 1), .ref (a 2), .ref (a 3), .ref (a 4), .ref (a 5), .ref (a 6), .ref (a 7), .ref (a 8), .int (nI ((rsD F.S t).n)), .int (nI ((rsD F.S t).ar)), .int (nI (F.k)), .int (nI (F.fz)), .ref (a 9), .ref (a 10), .ref (a 11), .ref (a 12)])), ((a 1), .inl (gJ g, 32, .inr (.inl cs2))), ((a 2), .inl (gI g, 2001, .inl (rsD F.S t).kd)), ((a 3), .inl (gI g, 2001, .inl (rsD F.S t).un)), ((a 4), .inl (gI g, 2001, .inl (rsD F.S t).ce)), ((a 5), .inl (gI g, 2001, .inl (rsD F.S t).tn)), ((a 6), .inl (gJ g, 2001, .inr (.inl (rsD F.S t).bf))), ((a 7), .inl (gJ g, 2001, .inr (.inl (rsD F.S t).af))), ((a 8), .inl (gZ g, 2001, .inl (rsD F.S t).bk)), ((a 9), .inl (gJ g, 672, .inr (.inl F.kp))), ((a 10), .inl (gI g, 21, .inl F.st)), ((a 11), .inl (gI g, 21, .inl F.en)), ((a 12), .inl (gZ g, 21, .inl (upd sp1 (q) 1)))]) := hD
                                      refine lv_iinc (v := (nI (q + 1))) (lv' := [(7, .int (nI (q + 1))), (0, .ref (a 0)), (1, .int (nI (i0))), (2, .long p2), (4, .int (nI (t)))]) hx hb dX4_recover_313 hl (k := 4) rfl (nI_1 _) (by decide) rfl (fun ls hl => ?_)
                                      refine lv_goto (tgt := 268) hx hb dX4_recover_316 (by decide) ?_
                                      have hsq : sp1 q = F.sp q := by rw [hF q, if_neg (by omega)]
                                      exact ih (F.k + 1 - (q + 1)) (by omega) ls H locs (upd sp1 (q) 1) (q + 1) (lv_sub hl [1, 2, 3, 4, 0] rfl) hP hD hS (by first | exact sp_yes hF hq1 (by omega) | exact sp_yes2 hF hq1 ((hFs q).resolve_left (by rw [← hsq]; assumption))) (by omega) (by omega) rfl
                            · have i_248 : ((((rsD F.S t).n : Nat) : Int) : Int) < ((F.S.ar : Nat) : Int) := q_nle c_248_14 (l_nI (by omega)) (l_nI (by omega))
                              refine lv_aload_n hx hb dX4_recover_251 rfl (lv_at hl 0 rfl) ?_
                              refine va_get (D := gD g) (ci := 6) (v := .int (nI ((rsD F.S t).n))) (C := RX4) (T := TX4) (N := 18) hx hb hts (by decide +kernel) hown hK.1 hP 0 rfl rfl 10 (by decide) (hts (.fieldLink RX4 55 "LogForwardModel" "rows" "I") (by decide +kernel)) (fun _ h9 => h9) rfl dX4_recover_252 ?_
                              refine lv_goto (tgt := 262) hx hb dX4_recover_255 (by decide) ?_
                              refine lv_topi (fun y hy => ?_)
                              replace hy : y = nI (rsD F.S t).ar := by rw [hy, show (rsD F.S t).n = (rsD F.S t).ar by omega]
                              subst hy
                              refine va_put (D := gD g) (ci := 6) (v := .int (nI ((rsD F.S t).ar))) (ty := .int) (C := RX4) (T := TX4) (N := 18) hx hb hts (by decide +kernel) tyX4 tyX4_ok nmX4 hown hK.1 hP hD hS 0 rfl rfl 11 (by decide) (hts (.fieldLink RX4 105 "LogForwardModel" "archived" "I") (by decide +kernel)) (fun _ h9 => h9) rfl (by decide +kernel) rfl rfl (Nat.le_of_ble_eq_true rfl) dX4_recover_262 (fun H locs hP hD hS => ?_)
                              have hP : va_P (gD g) vwCl ([((a 0), .inr (6, [.int F.cd, .int (nI (F.rg)), .ref (a 1), .ref (a 2), .ref (a 3), .ref (a 4), .ref (a 5), .ref (a 6), .ref (a 7), .ref (a 8), .int (nI ((rsD F.S t).n)), .int (nI ((rsD F.S t).ar)), .int (nI (F.k)), .int (nI (F.fz)), .ref (a 9), .ref (a 10), .ref (a 11), .ref (a 12)])), ((a 1), .inl (gJ g, 32, .inr (.inl cs2))), ((a 2), .inl (gI g, 2001, .inl F.S.kd)), ((a 3), .inl (gI g, 2001, .inl F.S.un)), ((a 4), .inl (gI g, 2001, .inl F.S.ce)), ((a 5), .inl (gI g, 2001, .inl F.S.tn)), ((a 6), .inl (gJ g, 2001, .inr (.inl F.S.bf))), ((a 7), .inl (gJ g, 2001, .inr (.inl F.S.af))), ((a 8), .inl (gZ g, 2001, .inl F.S.bk)), ((a 9), .inl (gJ g, 672, .inr (.inl F.kp))), ((a 10), .inl (gI g, 21, .inl F.st)), ((a 11), .inl (gI g, 21, .inl F.en)), ((a 12), .inl (gZ g, 21, .inl F.sp))]) H := hP
                              have hD : va_D A ([((a 0), .inr (6, [.int F.cd, .int (nI (F.rg)), .ref (a 1), .ref (a 2), .ref (a 3), .ref (a 4), .ref (a 5), .ref (a 6), .ref (a 7), .ref (a 8), .int (nI ((rsD F.S t).n)), .int (nI ((rsD F.S t).ar)), .int (nI (F.k)), .int (nI (F.fz)), .ref (a 9), .ref (a 10), .ref (a 11), .ref (a 12)])), ((a 1), .inl (gJ g, 32, .inr (.inl cs2))), ((a 2), .inl (gI g, 2001, .inl F.S.kd)), ((a 3), .inl (gI g, 2001, .inl F.S.un)), ((a 4), .inl (gI g, 2001, .inl F.S.ce)), ((a 5), .inl (gI g, 2001, .inl F.S.tn)), ((a 6), .inl (gJ g, 2001, .inr (.inl F.S.bf))), ((a 7), .inl (gJ g, 2001, .inr (.inl F.S.af))), ((a 8), .inl (gZ g, 2001, .inl F.S.bk)), ((a 9), .inl (gJ g, 672, .inr (.inl F.kp))), ((a 10), .inl (gI g, 21, .inl F.st)), ((a 11), .inl (gI g, 21, .inl F.en)), ((a 12), .inl (gZ g, 21, .inl F.sp))]) := hD
                              replace hP : va_P (gD g) vwCl ([((a 0), .inr (6, [.int F.cd, .int (nI (F.rg)), .ref (a 1), .ref (a 2), .ref (a 3), .ref (a 4), .ref (a 5), .ref (a 6), .ref (a 7), .ref (a 8), .int (nI ((rsD F.S t).n)), .int (nI ((rsD F.S t).ar)), .int (nI (F.k)), .int (nI (F.fz)), .ref (a 9), .ref (a 10), .ref (a 11), .ref (a 12)])), ((a 1), .inl (gJ g, 32, .inr (.inl cs2))), ((a 2), .inl (gI g, 2001, .inl (rsD F.S t).kd)), ((a 3), .inl (gI g, 2001, .inl (rsD F.S t).un)), ((a 4), .inl (gI g, 2001, .inl (rsD F.S t).ce)), ((a 5), .inl (gI g, 2001, .inl (rsD F.S t).tn)), ((a 6), .inl (gJ g, 2001, .inr (.inl (rsD F.S t).bf))), ((a 7), .inl (gJ g, 2001, .inr (.inl (rsD F.S t).af))), ((a 8), .inl (gZ g, 2001, .inl (rsD F.S t).bk)), ((a 9), .inl (gJ g, 672, .inr (.inl F.kp))), ((a 10), .inl (gI g, 21, .inl F.st)), ((a 11), .inl (gI g, 21, .inl F.en)), ((a 12), .inl (gZ g, 21, .inl F.sp))]) H := hP
                              replace hD : va_D A ([((a 0), .inr (6, [.int F.cd, .int (nI (F.rg)), .ref (a 1), .ref (a 2), .ref (a 3), .ref (a 4), .ref (a 5), .ref (a 6), .ref (a 7), .ref (a 8), .int (nI ((rsD F.S t).n)), .int (nI ((rsD F.S t).ar)), .int (nI (F.k)), .int (nI (F.fz)), .ref (a 9), .ref (a 10), .ref (a 11), .ref (a 12)])), ((a 1), .inl (gJ g, 32, .inr (.inl cs2))), ((a 2), .inl (gI g, 2001, .inl (rsD F.S t).kd)), ((a 3), .inl (gI g, 2001, .inl (rsD F.S t).un)), ((a 4), .inl (gI g, 2001, .inl (rsD F.S t).ce)), ((a 5), .inl (gI g, 2001, .inl (rsD F.S t).tn)), ((a 6), .inl (gJ g, 2001, .inr (.inl (rsD F.S t).bf))), ((a 7), .inl (gJ g, 2001, .inr (.inl (rsD F.S t).af))), ((a 8), .inl (gZ g, 2001, .inl (rsD F.S t).bk)), ((a 9), .inl (gJ g, 672, .inr (.inl F.kp))), ((a 10), .inl (gI g, 21, .inl F.st)), ((a 11), .inl (gI g, 21, .inl F.en)), ((a 12), .inl (gZ g, 21, .inl F.sp))]) := hD
                              refine lv_iconst (v := 1) hx hb dX4_recover_265 (by decide) ?_
                              refine lv_istore (lv' := [(7, .int 1), (0, .ref (a 0)), (1, .int (nI (i0))), (2, .long p2), (4, .int (nI (t)))]) hx hb dX4_recover_266 hl (by decide) rfl (fun ls hl => ?_)
                              clear ih
                              refine g_heap (fun H locs hH1 hL1 => ?_)
                              obtain ⟨sp1, hs1⟩ : ∃ sp1 : Nat → Int32, sp1 = F.sp := ⟨_, rfl⟩
                              obtain ⟨q, hj⟩ : ∃ q : Nat, q = 1 := ⟨_, rfl⟩
                              replace hl : lv_has ls 8 [(0, .ref (a 0)), (1, .int (nI (i0))), (2, .long p2), (4, .int (nI (t))), (7, .int (nI (q)))] := by subst hj; exact lv_sub hl [1, 2, 3, 4, 0] rfl
                              replace hP : va_P (gD g) vwCl ([((a 0), .inr (6, [.int F.cd, .int (nI (F.rg)), .ref (a 1), .ref (a 2), .ref (a 3), .ref (a 4), .ref (a 5), .ref (a 6), .ref (a 7), .ref (a 8), .int (nI ((rsD F.S t).n)), .int (nI ((rsD F.S t).ar)), .int (nI (F.k)), .int (nI (F.fz)), .ref (a 9), .ref (a 10), .ref (a 11), .ref (a 12)])), ((a 1), .inl (gJ g, 32, .inr (.inl cs2))), ((a 2), .inl (gI g, 2001, .inl (rsD F.S t).kd)), ((a 3), .inl (gI g, 2001, .inl (rsD F.S t).un)), ((a 4), .inl (gI g, 2001, .inl (rsD F.S t).ce)), ((a 5), .inl (gI g, 2001, .inl (rsD F.S t).tn)), ((a 6), .inl (gJ g, 2001, .inr (.inl (rsD F.S t).bf))), ((a 7), .inl (gJ g, 2001, .inr (.inl (rsD F.S t).af))), ((a 8), .inl (gZ g, 2001, .inl (rsD F.S t).bk)), ((a 9), .inl (gJ g, 672, .inr (.inl F.kp))), ((a 10), .inl (gI g, 21, .inl F.st)), ((a 11), .inl (gI g, 21, .inl F.en)), ((a 12), .inl (gZ g, 21, .inl sp1))]) H := by rw [hH1, hs1]; exact hP
                              replace hD : va_D A ([((a 0), .inr (6, [.int F.cd, .int (nI (F.rg)), .ref (a 1), .ref (a 2), .ref (a 3), .ref (a 4), .ref (a 5), .ref (a 6), .ref (a 7), .ref (a 8), .int (nI ((rsD F.S t).n)), .int (nI ((rsD F.S t).ar)), .int (nI (F.k)), .int (nI (F.fz)), .ref (a 9), .ref (a 10), .ref (a 11), .ref (a 12)])), ((a 1), .inl (gJ g, 32, .inr (.inl cs2))), ((a 2), .inl (gI g, 2001, .inl (rsD F.S t).kd)), ((a 3), .inl (gI g, 2001, .inl (rsD F.S t).un)), ((a 4), .inl (gI g, 2001, .inl (rsD F.S t).ce)), ((a 5), .inl (gI g, 2001, .inl (rsD F.S t).tn)), ((a 6), .inl (gJ g, 2001, .inr (.inl (rsD F.S t).bf))), ((a 7), .inl (gJ g, 2001, .inr (.inl (rsD F.S t).af))), ((a 8), .inl (gZ g, 2001, .inl (rsD F.S t).bk)), ((a 9), .inl (gJ g, 672, .inr (.inl F.kp))), ((a 10), .inl (gI g, 21, .inl F.st)), ((a 11), .inl (gI g, 21, .inl F.en)), ((a 12), .inl (gZ g, 21, .inl sp1))]) := by rw [hs1]; exact hD
                              replace hS : va_S A s.heap H locs := by rw [hH1, hL1]; exact hS
                              have hF : ∀ j, sp1 j = if 1 ≤ j ∧ j < q ∧ (t : Int) < (F.en j).toInt then 1 else F.sp j := fun j => by rw [if_neg (by omega), hs1]
                              have hq1 : 1 ≤ q := by omega
                              have hq2 : q ≤ F.k + 1 := by omega
                              clear hj hs1 hH1 hL1
                              clear hd d
                              obtain ⟨d, hd⟩ : ∃ d, F.k + 1 - q = d := ⟨_, rfl⟩
                              induction d using Nat.strongRecOn generalizing q sp1 ls H locs with
                              | ind d ih =>
                                refine lv_iload hx hb dX4_recover_268 (lv_at hl 4 rfl) ?_
                                refine lv_aload_n hx hb dX4_recover_270 rfl (lv_at hl 0 rfl) ?_
                                refine va_get (D := gD g) (ci := 6) (v := .int (nI (F.k))) (C := RX4) (T := TX4) (N := 18) hx hb hts (by decide +kernel) hown hK.1 hP 0 rfl rfl 12 (by decide) (hts (.fieldLink RX4 99 "LogForwardModel" "images" "I") (by decide +kernel)) (fun _ h9 => h9) rfl dX4_recover_271 ?_
                                refine lv_icmp_gt (tgt := 319) hx hb dX4_recover_274 (by decide) (fun c_274_16 => ?_) (fun c_274_16 => ?_)
                                · have i_274 : (((F.k : Nat) : Int) : Int) < ((q : Nat) : Int) := q_lt c_274_16 (l_nI (by omega)) (l_nI (by omega))
                                  refine lv_iconst (v := 1) hx hb dX4_recover_319 (by decide) ?_
                                  refine lv_istore (lv' := [(7, .int 1), (0, .ref (a 0)), (1, .int (nI (i0))), (2, .long p2), (4, .int (nI (t)))]) hx hb dX4_recover_320 hl (by decide) rfl (fun ls hl => ?_)
                                  clear ih
                                  have hsp9 : sp1 = fun j => if 1 ≤ j ∧ j ≤ F.k ∧ (t : Int) < (F.en j).toInt then 1 else F.sp j := by rw [show sp1 = _ from funext hF, show q = F.k + 1 by omega]; simp only [Nat.lt_succ_iff]
                                  have hcs9 : cs2 = csB F.S (t - s0) (s0 + 1) (va_cpy F.kp F.cs (32 * i0) 0 32) := by rw [hq, show t + 1 - k1 = 0 by omega]; rfl
                                  refine g_heap (fun H locs hH1 hL1 => ?_)
                                  obtain ⟨M1, hM1⟩ : ∃ M1 : MS, M1 = rcZ F i0 s0 t := ⟨_, rfl⟩
                                  obtain ⟨v, hj⟩ : ∃ v : Nat, v = 1 := ⟨_, rfl⟩
                                  replace hl : lv_has ls 8 [(0, .ref (a 0)), (1, .int (nI (i0))), (2, .long p2), (4, .int (nI (t))), (7, .int (nI (v)))] := by subst hj; exact lv_sub hl [1, 2, 3, 4, 0] rfl
                                  have hT : M1 = ((rsD F.S t), F.st, F.en, sp1, F.kp, F.k, F.fz, cs2, F.rg, F.cd) := by rw [hM1, hsp9, hcs9]; rfl
                                  replace hP : va_P (gD g) vwCl ([((a 0), .inr (6, [.int M1.cd, .int (nI (M1.rg)), .ref (a 1), .ref (a 2), .ref (a 3), .ref (a 4), .ref (a 5), .ref (a 6), .ref (a 7), .ref (a 8), .int (nI (M1.S.n)), .int (nI (M1.S.ar)), .int (nI (M1.k)), .int (nI (M1.fz)), .ref (a 9), .ref (a 10), .ref (a 11), .ref (a 12)])), ((a 1), .inl (gJ g, 32, .inr (.inl M1.cs))), ((a 2), .inl (gI g, 2001, .inl M1.S.kd)), ((a 3), .inl (gI g, 2001, .inl M1.S.un)), ((a 4), .inl (gI g, 2001, .inl M1.S.ce)), ((a 5), .inl (gI g, 2001, .inl M1.S.tn)), ((a 6), .inl (gJ g, 2001, .inr (.inl M1.S.bf))), ((a 7), .inl (gJ g, 2001, .inr (.inl M1.S.af))), ((a 8), .inl (gZ g, 2001, .inl M1.S.bk)), ((a 9), .inl (gJ g, 672, .inr (.inl M1.kp))), ((a 10), .inl (gI g, 21, .inl M1.st)), ((a 11), .inl (gI g, 21, .inl M1.en)), ((a 12), .inl (gZ g, 21, .inl M1.sp))]) H := by rw [hH1, hT]; exact hP
                                  replace hD : va_D A ([((a 0), .inr (6, [.int M1.cd, .int (nI (M1.rg)), .ref (a 1), .ref (a 2), .ref (a 3), .ref (a 4), .ref (a 5), .ref (a 6), .ref (a 7), .ref (a 8), .int (nI (M1.S.n)), .int (nI (M1.S.ar)), .int (nI (M1.k)), .int (nI (M1.fz)), .ref (a 9), .ref (a 10), .ref (a 11), .ref (a 12)])), ((a 1), .inl (gJ g, 32, .inr (.inl M1.cs))), ((a 2), .inl (gI g, 2001, .inl M1.S.kd)), ((a 3), .inl (gI g, 2001, .inl M1.S.un)), ((a 4), .inl (gI g, 2001, .inl M1.S.ce)), ((a 5), .inl (gI g, 2001, .inl M1.S.tn)), ((a 6), .inl (gJ g, 2001, .inr (.inl M1.S.bf))), ((a 7), .inl (gJ g, 2001, .inr (.inl M1.S.af))), ((a 8), .inl (gZ g, 2001, .inl M1.S.bk)), ((a 9), .inl (gJ g, 672, .inr (.inl M1.kp))), ((a 10), .inl (gI g, 21, .inl M1.st)), ((a 11), .inl (gI g, 21, .inl M1.en)), ((a 12), .inl (gZ g, 21, .inl M1.sp))]) := by rw [hT]; exact hD
                                  replace hS : va_S A s.heap H locs := by rw [hH1, hL1]; exact hS
                                  have hN1 : M1.S.n = t := by rw [hM1]; exact hDn
                                  have hge : t ≤ M1.S.n := by omega
                                  have hf1 : M1.fz ≤ 20 := by rw [hM1]; exact hFf
                                  have hce1 : ceOk M1.S := by rw [hM1]; exact fun r h1 h2 h3 => hFc r h1 (by have h2 : r ≤ (rsD F.S t).n := h2; omega) h3
                                  have hrm : M1.S.n + smF (neM M1 t) (61 - v) v ≤ 2000 := by rw [hN1, hj, hM1, show smF (neM (rcZ F i0 s0 t) t) (61 - 1) 1 = smF (moF F.S t) 60 1 from smF_congr 60 1 (fun j _ _ => by show (if stO (rsD F.S t) (nI j) t = 1 then cnB (rsD F.S t) (nI j) (rsD F.S t).n + 1 else 0) = _; rw [hDn, stO_D, cnB_D]; rfl)]; omega
                                  have hq5 : msO t 60 1 (rcZ F i0 s0 t) = msO t (61 - v) v M1 := by rw [hM1, hj]
                                  have hv1 : 1 ≤ v := by omega
                                  have hv2 : v ≤ 61 := by omega
                                  clear hT hN1 hj hM1 hH1 hL1
                                  clear hd d
                                  obtain ⟨d, hd⟩ : ∃ d, 61 - v = d := ⟨_, rfl⟩
                                  induction d using Nat.strongRecOn generalizing v M1 ls H locs with
                                  | ind d ih =>
                                    refine lv_iload hx hb dX4_recover_322 (lv_at hl 4 rfl) ?_
                                    refine lv_bipush (v := 60) hx hb dX4_recover_324 (by decide) ?_
                                    refine lv_icmp_gt (tgt := 354) hx hb dX4_recover_326 (by decide) (fun c_326_18 => ?_) (fun c_326_18 => ?_)
                                    · have i_326 : (60 : Int) < ((v : Nat) : Int) := q_lt c_326_18 rfl (l_nI (by omega))
                                      refine lv_aload_n hx hb dX4_recover_354 rfl (lv_at hl 0 rfl) ?_
                                      refine vp_callSi (va_Run.run (va_runV (As := []) (rest := []) ⟨hx, hb, hml, hown, hts⟩ (c_X4_synced l g a M1 (by omega)) (cwV 0 hts gX4_recover_X4_synced rfl rfl rfl (by decide +kernel) ⟨Nat.le_of_ble_eq_true rfl, Nat.le_of_ble_eq_true rfl⟩) (pv_r hK hP (ci := 6) (q0 := 0) rfl rfl [0, 1, 2, 3, 4, 5, 6, 7, 8, 9, 10, 11, 12] rfl) rfl rfl hl.1 rfl (lv_room (Nat.le_of_ble_eq_true rfl)) dX4_recover_355 ⟨Nat.zero_le _, Nat.zero_le _⟩)) (fun r_355_19 h_355_19 => ?_)
                                      subst h_355_19
                                      have hP9 : va_P (gD g) vwCl (wM g a M1) H := hP
                                      have hD9 : va_D A (wM g a M1) := hD
                                      exact W.iret (v := (nI (snO M1.S M1.S.n))) hx hb hr (fun tz htz hWz => ⟨⟨(nI (snO M1.S M1.S.n)), M1, rfl, (by rw [← hM0]; exact (by rw [← h_6_1]; subst hi0; exact Or.inr (Or.inr ⟨hgd, t, ht0, hp2, by rw [he, l_nI (by omega)]; omega, Or.inr (Or.inr ⟨hla0, by omega, s0, hs, by omega, by rw [hq5, show 61 - v = 0 by omega]; rfl, rfl⟩)⟩))), by rw [htz]; exact hP9, hD9⟩, hS.F htz⟩) hS.2.2 dX4_recover_358
                                    · have i_326 : (((v : Nat) : Int) : Int) ≤ 60 := q_nlt c_326_18 rfl (l_nI (by omega))
                                      refine lv_aload_n hx hb dX4_recover_329 rfl (lv_at hl 0 rfl) ?_
                                      refine lv_iload hx hb dX4_recover_330 (lv_at hl 4 rfl) ?_
                                      refine lv_iload hx hb dX4_recover_332 (lv_at hl 3 rfl) ?_
                                      refine vp_callSi (va_Run.run (va_runV (As := [.int (nI (v)), .int (nI (t))]) (rest := []) ⟨hx, hb, hml, hown, hts⟩ (c_X4_stateOf l g a M1 (nI (v)) (t) (by omega) (by omega)) (cwV 2 hts gX4_recover_X4_stateOf rfl rfl rfl (by decide +kernel) ⟨Nat.le_of_ble_eq_true rfl, Nat.le_of_ble_eq_true rfl⟩) (pv_r hK hP (ci := 6) (q0 := 0) rfl rfl [0, 1, 2, 3, 4, 5, 6, 7, 8, 9, 10, 11, 12] rfl) rfl rfl hl.1 rfl (lv_room (Nat.le_of_ble_eq_true rfl)) dX4_recover_334 ⟨Nat.zero_le _, Nat.zero_le _⟩)) (fun r_334_19 h_334_19 => ?_)
                                      subst h_334_19
                                      refine lv_iconst (v := 1) hx hb dX4_recover_337 (by decide) ?_
                                      refine lv_icmp_ne (tgt := 348) hx hb dX4_recover_338 (by decide) (fun c_338_19 => ?_) (fun c_338_19 => ?_)
                                      · have i_338 : (((stO M1.S (nI (v)) (t) : Nat) : Int) : Int) ≠ 1 := q_ne c_338_19 (l_nI (by have := stO_le M1.S (nI (v)) (t); omega)) rfl
                                        refine lv_iinc (v := (nI (v + 1))) (lv' := [(7, .int (nI (v + 1))), (0, .ref (a 0)), (1, .int (nI (i0))), (2, .long p2), (4, .int (nI (t)))]) hx hb dX4_recover_348 hl (k := 4) rfl (nI_1 _) (by decide) rfl (fun ls hl => ?_)
                                        refine lv_goto (tgt := 322) hx hb dX4_recover_351 (by decide) ?_
                                        have hst := smF_step (f := neM M1 t) (i := v) (by omega)
                                        have hne : neM M1 t v = 0 := by unfold neM; rw [if_neg (by omega)]
                                        exact ih (61 - (v + 1)) (by omega) ls H locs M1 (v + 1) (lv_sub hl [1, 2, 3, 4, 0] rfl) hP hD hS hge hf1 hce1 (by omega) (by rw [hq5, msO_step (by omega), if_neg (by omega)]) (by omega) (by omega) rfl
                                      · have i_338 : (((stO M1.S (nI (v)) (t) : Nat) : Int) : Int) = 1 := q_eq c_338_19 (l_nI (by have := stO_le M1.S (nI (v)) (t); omega)) rfl
                                        refine lv_aload_n hx hb dX4_recover_341 rfl (lv_at hl 0 rfl) ?_
                                        refine lv_iload hx hb dX4_recover_342 (lv_at hl 4 rfl) ?_
                                        refine ca_i (ws := [((a 0), .inr (6, [.int M1.cd, .int (nI (M1.rg)), .ref (a 1), .ref (a 2), .ref (a 3), .ref (a 4), .ref (a 5), .ref (a 6), .ref (a 7), .ref (a 8), .int (nI (M1.S.n)), .int (nI (M1.S.ar)), .int (nI (M1.k)), .int (nI (M1.fz)), .ref (a 9), .ref (a 10), .ref (a 11), .ref (a 12)])), ((a 1), .inl (gJ g, 32, .inr (.inl M1.cs))), ((a 2), .inl (gI g, 2001, .inl M1.S.kd)), ((a 3), .inl (gI g, 2001, .inl M1.S.un)), ((a 4), .inl (gI g, 2001, .inl M1.S.ce)), ((a 5), .inl (gI g, 2001, .inl M1.S.tn)), ((a 6), .inl (gJ g, 2001, .inr (.inl M1.S.bf))), ((a 7), .inl (gJ g, 2001, .inr (.inl M1.S.af))), ((a 8), .inl (gZ g, 2001, .inl M1.S.bk)), ((a 9), .inl (gJ g, 672, .inr (.inl M1.kp))), ((a 10), .inl (gI g, 21, .inl M1.st)), ((a 11), .inl (gI g, 21, .inl M1.en)), ((a 12), .inl (gZ g, 21, .inl M1.sp))]) (va_runV (As := [.int (nI (v))]) (rest := []) ⟨hx, hb, hml, hown, hts⟩ (c_X4_takeBack l g a M1 H.size (nI (v)) (ne_room hrm (by omega) (by omega)) hf1 hce1) (cwV 1 hts gX4_recover_X4_takeBack rfl rfl rfl (by decide +kernel) ⟨Nat.le_of_ble_eq_true rfl, Nat.le_of_ble_eq_true rfl⟩) (pv_w hK hP (ci := 6) (q0 := 0) rfl rfl hP hD) rfl rfl hl.1 rfl (lv_room (Nat.le_of_ble_eq_true rfl)) dX4_recover_344 ⟨Nat.zero_le _, Nat.zero_le _⟩) hD hS hA (fun r_344_20 u_344_20 H locs h_344_20 hP hD hS => ?_)
                                        obtain ⟨rfl, rfl⟩ := h_344_20
                                        replace hP : va_P (gD g) vwCl ([((a 0), .inr (6, [.int (msT M1 (nI (v))).cd, .int (nI ((msT M1 (nI (v))).rg)), .ref (a 1), .ref (a 2), .ref (a 3), .ref (a 4), .ref (a 5), .ref (a 6), .ref (a 7), .ref (a 8), .int (nI ((msT M1 (nI (v))).S.n)), .int (nI ((msT M1 (nI (v))).S.ar)), .int (nI ((msT M1 (nI (v))).k)), .int (nI ((msT M1 (nI (v))).fz)), .ref (a 9), .ref (a 10), .ref (a 11), .ref (a 12)])), ((a 1), .inl (gJ g, 32, .inr (.inl (msT M1 (nI (v))).cs))), ((a 2), .inl (gI g, 2001, .inl (msT M1 (nI (v))).S.kd)), ((a 3), .inl (gI g, 2001, .inl (msT M1 (nI (v))).S.un)), ((a 4), .inl (gI g, 2001, .inl (msT M1 (nI (v))).S.ce)), ((a 5), .inl (gI g, 2001, .inl (msT M1 (nI (v))).S.tn)), ((a 6), .inl (gJ g, 2001, .inr (.inl (msT M1 (nI (v))).S.bf))), ((a 7), .inl (gJ g, 2001, .inr (.inl (msT M1 (nI (v))).S.af))), ((a 8), .inl (gZ g, 2001, .inl (msT M1 (nI (v))).S.bk)), ((a 9), .inl (gJ g, 672, .inr (.inl (msT M1 (nI (v))).kp))), ((a 10), .inl (gI g, 21, .inl (msT M1 (nI (v))).st)), ((a 11), .inl (gI g, 21, .inl (msT M1 (nI (v))).en)), ((a 12), .inl (gZ g, 21, .inl (msT M1 (nI (v))).sp))]) H := hP
                                        replace hD : va_D A ([((a 0), .inr (6, [.int (msT M1 (nI (v))).cd, .int (nI ((msT M1 (nI (v))).rg)), .ref (a 1), .ref (a 2), .ref (a 3), .ref (a 4), .ref (a 5), .ref (a 6), .ref (a 7), .ref (a 8), .int (nI ((msT M1 (nI (v))).S.n)), .int (nI ((msT M1 (nI (v))).S.ar)), .int (nI ((msT M1 (nI (v))).k)), .int (nI ((msT M1 (nI (v))).fz)), .ref (a 9), .ref (a 10), .ref (a 11), .ref (a 12)])), ((a 1), .inl (gJ g, 32, .inr (.inl (msT M1 (nI (v))).cs))), ((a 2), .inl (gI g, 2001, .inl (msT M1 (nI (v))).S.kd)), ((a 3), .inl (gI g, 2001, .inl (msT M1 (nI (v))).S.un)), ((a 4), .inl (gI g, 2001, .inl (msT M1 (nI (v))).S.ce)), ((a 5), .inl (gI g, 2001, .inl (msT M1 (nI (v))).S.tn)), ((a 6), .inl (gJ g, 2001, .inr (.inl (msT M1 (nI (v))).S.bf))), ((a 7), .inl (gJ g, 2001, .inr (.inl (msT M1 (nI (v))).S.af))), ((a 8), .inl (gZ g, 2001, .inl (msT M1 (nI (v))).S.bk)), ((a 9), .inl (gJ g, 672, .inr (.inl (msT M1 (nI (v))).kp))), ((a 10), .inl (gI g, 21, .inl (msT M1 (nI (v))).st)), ((a 11), .inl (gI g, 21, .inl (msT M1 (nI (v))).en)), ((a 12), .inl (gZ g, 21, .inl (msT M1 (nI (v))).sp))]) := hD
                                        refine lv_pop hx hb dX4_recover_347 rfl ?_
                                        refine lv_iinc (v := (nI (v + 1))) (lv' := [(7, .int (nI (v + 1))), (0, .ref (a 0)), (1, .int (nI (i0))), (2, .long p2), (4, .int (nI (t)))]) hx hb dX4_recover_348 hl (k := 4) rfl (nI_1 _) (by decide) rfl (fun ls hl => ?_)
                                        refine lv_goto (tgt := 322) hx hb dX4_recover_351 (by decide) ?_
                                        have hst := smF_step (f := neM M1 t) (i := v) (by omega)
                                        have hne : neM M1 t v = cnB M1.S (nI v) M1.S.n + 1 := by unfold neM; rw [if_pos (by omega)]
                                        have hnT := neM_T M1 (nI v) hge (61 - (v + 1)) (v + 1)
                                        obtain ⟨g1, g2, g3, g4, -⟩ := msT_S (nI v) M1
                                        obtain ⟨r1, r2, r3, r4, r5⟩ := rsE_facts (nI v) M1.S
                                        exact ih (61 - (v + 1)) (by omega) ls H locs (msT M1 (nI v)) (v + 1) (lv_sub hl [1, 2, 3, 4, 0] rfl) hP hD hS (by rw [g1, r1]; omega) (Nat.le_trans g4 hf1) (by rw [g1]; exact r5 hce1) (by rw [hnT, g1, r1]; omega) (by rw [hq5, msO_step (by omega), if_pos (by omega)]) (by omega) (by omega) rfl
                                · have i_274 : (((q : Nat) : Int) : Int) ≤ ((F.k : Nat) : Int) := q_nlt c_274_16 (l_nI (by omega)) (l_nI (by omega))
                                  refine lv_aload_n hx hb dX4_recover_277 rfl (lv_at hl 0 rfl) ?_
                                  refine va_get (D := gD g) (ci := 6) (v := .ref (a 12)) (C := RX4) (T := TX4) (N := 18) hx hb hts (by decide +kernel) hown hK.1 hP 0 rfl rfl 17 (by decide) (hts (.fieldLink RX4 45 "LogForwardModel" "bad" "[Z") (by decide +kernel)) (fun _ h9 => h9) rfl dX4_recover_278 ?_
                                  refine lv_iload hx hb dX4_recover_281 (lv_at hl 4 rfl) ?_
                                  refine lv_aload_n hx hb dX4_recover_283 rfl (lv_at hl 0 rfl) ?_
                                  refine va_get (D := gD g) (ci := 6) (v := .ref (a 12)) (C := RX4) (T := TX4) (N := 18) hx hb hts (by decide +kernel) hown hK.1 hP 0 rfl rfl 17 (by decide) (hts (.fieldLink RX4 45 "LogForwardModel" "bad" "[Z") (by decide +kernel)) (fun _ h9 => h9) rfl dX4_recover_284 ?_
                                  refine lv_iload hx hb dX4_recover_287 (lv_at hl 4 rfl) ?_
                                  refine ga_zald (v := (sp1 q)) hx hb hK.1 hP 12 2 rfl rfl (v_nI (by omega) (by omega)) (by rw [(c_nI (by omega))]) dX4_recover_289 ?_
                                  refine lv_if_ne (tgt := 307) hx hb dX4_recover_290 (by decide) (fun c_290_17 => ?_) (fun c_290_17 => ?_)
                                  · have i_290 : ((sp1 q).toInt : Int) ≠ 0 := q_ne c_290_17 rfl rfl
                                    refine lv_iconst (v := 1) hx hb dX4_recover_307 (by decide) ?_
                                    refine lv_goto (tgt := 312) hx hb dX4_recover_308 (by decide) ?_
                                    refine ga_zast (j := q) hx hb hK.1 hP hD hS 12 2 rfl rfl (v_nI (by omega) (by omega)) (c_nI (by omega)) rfl dX4_recover_312 (fun H locs hP hD hS => ?_)
                                    have hP : va_P (gD g) vwCl ([((a 0), .inr (6, [.int F.cd, .int (nI (F.rg)), .ref (a 1), .ref (a 2), .ref (a 3), .ref (a 4), .ref (a 5), .ref (a 6), .ref (a 7), .ref (a 8), .int (nI ((rsD F.S t).n)), .int (nI ((rsD F.S t).ar)), .int (nI (F.k)), .int (nI (F.fz)), .ref (a 9), .ref (a 10), .ref (a 11), .ref (a 12)])), ((a 1), .inl (gJ g, 32, .inr (.inl cs2))), ((a 2), .inl (gI g, 2001, .inl (rsD F.S t).kd)), ((a 3), .inl (gI g, 2001, .inl (rsD F.S t).un)), ((a 4), .inl (gI g, 2001, .inl (rsD F.S t).ce)), ((a 5), .inl (gI g, 2001, .inl (rsD F.S t).tn)), ((a 6), .inl (gJ g, 2001, .inr (.inl (rsD F.S t).bf))), ((a 7), .inl (gJ g, 2001, .inr (.inl (rsD F.S t).af))), ((a 8), .inl (gZ g, 2001, .inl (rsD F.S t).bk)), ((a 9), .inl (gJ g, 672, .inr (.inl F.kp))), ((a 10), .inl (gI g, 21, .inl F.st)), ((a 11), .inl (gI g, 21, .inl F.en)), ((a 12), .inl (gZ g, 21, .inl (upd sp1 (q) 1)))]) H := hP
                                    have hD : va_D A ([((a 0), .inr (6, [.int F.cd, .int (nI (F.rg)), .ref (a 1), .ref (a 2), .ref (a 3), .ref (a 4), .ref (a 5), .ref (a 6), .ref (a 7), .ref (a 8), .int (nI ((rsD F.S t).n)), .int (nI ((rsD F.S t).ar)), .int (nI (F.k)), .int (nI (F.fz)), .ref (a 9), .ref (a 10), .ref (a 11), .ref (a 12)])), ((a 1), .inl (gJ g, 32, .inr (.inl cs2))), ((a 2), .inl (gI g, 2001, .inl (rsD F.S t).kd)), ((a 3), .inl (gI g, 2001, .inl (rsD F.S t).un)), ((a 4), .inl (gI g, 2001, .inl (rsD F.S t).ce)), ((a 5), .inl (gI g, 2001, .inl (rsD F.S t).tn)), ((a 6), .inl (gJ g, 2001, .inr (.inl (rsD F.S t).bf))), ((a 7), .inl (gJ g, 2001, .inr (.inl (rsD F.S t).af))), ((a 8), .inl (gZ g, 2001, .inl (rsD F.S t).bk)), ((a 9), .inl (gJ g, 672, .inr (.inl F.kp))), ((a 10), .inl (gI g, 21, .inl F.st)), ((a 11), .inl (gI g, 21, .inl F.en)), ((a 12), .inl (gZ g, 21, .inl (upd sp1 (q) 1)))]) := hD
                                    refine lv_iinc (v := (nI (q + 1))) (lv' := [(7, .int (nI (q + 1))), (0, .ref (a 0)), (1, .int (nI (i0))), (2, .long p2), (4, .int (nI (t)))]) hx hb dX4_recover_313 hl (k := 4) rfl (nI_1 _) (by decide) rfl (fun ls hl => ?_)
                                    refine lv_goto (tgt := 268) hx hb dX4_recover_316 (by decide) ?_
                                    have hsq : sp1 q = F.sp q := by rw [hF q, if_neg (by omega)]
                                    exact ih (F.k + 1 - (q + 1)) (by omega) ls H locs (upd sp1 (q) 1) (q + 1) (lv_sub hl [1, 2, 3, 4, 0] rfl) hP hD hS (by first | exact sp_yes hF hq1 (by omega) | exact sp_yes2 hF hq1 ((hFs q).resolve_left (by rw [← hsq]; assumption))) (by omega) (by omega) rfl
                                  · have i_290 : ((sp1 q).toInt : Int) = 0 := q_eq c_290_17 rfl rfl
                                    refine lv_aload_n hx hb dX4_recover_293 rfl (lv_at hl 0 rfl) ?_
                                    refine va_get (D := gD g) (ci := 6) (v := .ref (a 11)) (C := RX4) (T := TX4) (N := 18) hx hb hts (by decide +kernel) hown hK.1 hP 0 rfl rfl 16 (by decide) (hts (.fieldLink RX4 42 "LogForwardModel" "ends" "[I") (by decide +kernel)) (fun _ h9 => h9) rfl dX4_recover_294 ?_
                                    refine lv_iload hx hb dX4_recover_297 (lv_at hl 4 rfl) ?_
                                    refine ga_iald (v := (F.en q)) hx hb hK.1 hP 11 0 rfl rfl (v_nI (by omega) (by omega)) (by rw [(c_nI (by omega))]) dX4_recover_299 ?_
                                    refine lv_aload_n hx hb dX4_recover_300 rfl (lv_at hl 0 rfl) ?_
                                    refine va_get (D := gD g) (ci := 6) (v := .int (nI ((rsD F.S t).n))) (C := RX4) (T := TX4) (N := 18) hx hb hts (by decide +kernel) hown hK.1 hP 0 rfl rfl 10 (by decide) (hts (.fieldLink RX4 55 "LogForwardModel" "rows" "I") (by decide +kernel)) (fun _ h9 => h9) rfl dX4_recover_301 ?_
                                    refine lv_icmp_le (tgt := 311) hx hb dX4_recover_304 (by decide) (fun c_304_18 => ?_) (fun c_304_18 => ?_)
                                    · have i_304 : ((F.en q).toInt : Int) ≤ (((rsD F.S t).n : Nat) : Int) := q_le c_304_18 rfl (l_nI (by omega))
                                      refine lv_iconst (v := 0) hx hb dX4_recover_311 (by decide) ?_
                                      refine ga_zast (j := q) hx hb hK.1 hP hD hS 12 2 rfl rfl (v_nI (by omega) (by omega)) (c_nI (by omega)) rfl dX4_recover_312 (fun H locs hP hD hS => ?_)
                                      have hP : va_P (gD g) vwCl ([((a 0), .inr (6, [.int F.cd, .int (nI (F.rg)), .ref (a 1), .ref (a 2), .ref (a 3), .ref (a 4), .ref (a 5), .ref (a 6), .ref (a 7), .ref (a 8), .int (nI ((rsD F.S t).n)), .int (nI ((rsD F.S t).ar)), .int (nI (F.k)), .int (nI (F.fz)), .ref (a 9), .ref (a 10), .ref (a 11), .ref (a 12)])), ((a 1), .inl (gJ g, 32, .inr (.inl cs2))), ((a 2), .inl (gI g, 2001, .inl (rsD F.S t).kd)), ((a 3), .inl (gI g, 2001, .inl (rsD F.S t).un)), ((a 4), .inl (gI g, 2001, .inl (rsD F.S t).ce)), ((a 5), .inl (gI g, 2001, .inl (rsD F.S t).tn)), ((a 6), .inl (gJ g, 2001, .inr (.inl (rsD F.S t).bf))), ((a 7), .inl (gJ g, 2001, .inr (.inl (rsD F.S t).af))), ((a 8), .inl (gZ g, 2001, .inl (rsD F.S t).bk)), ((a 9), .inl (gJ g, 672, .inr (.inl F.kp))), ((a 10), .inl (gI g, 21, .inl F.st)), ((a 11), .inl (gI g, 21, .inl F.en)), ((a 12), .inl (gZ g, 21, .inl (upd sp1 (q) 0)))]) H := hP
                                      have hD : va_D A ([((a 0), .inr (6, [.int F.cd, .int (nI (F.rg)), .ref (a 1), .ref (a 2), .ref (a 3), .ref (a 4), .ref (a 5), .ref (a 6), .ref (a 7), .ref (a 8), .int (nI ((rsD F.S t).n)), .int (nI ((rsD F.S t).ar)), .int (nI (F.k)), .int (nI (F.fz)), .ref (a 9), .ref (a 10), .ref (a 11), .ref (a 12)])), ((a 1), .inl (gJ g, 32, .inr (.inl cs2))), ((a 2), .inl (gI g, 2001, .inl (rsD F.S t).kd)), ((a 3), .inl (gI g, 2001, .inl (rsD F.S t).un)), ((a 4), .inl (gI g, 2001, .inl (rsD F.S t).ce)), ((a 5), .inl (gI g, 2001, .inl (rsD F.S t).tn)), ((a 6), .inl (gJ g, 2001, .inr (.inl (rsD F.S t).bf))), ((a 7), .inl (gJ g, 2001, .inr (.inl (rsD F.S t).af))), ((a 8), .inl (gZ g, 2001, .inl (rsD F.S t).bk)), ((a 9), .inl (gJ g, 672, .inr (.inl F.kp))), ((a 10), .inl (gI g, 21, .inl F.st)), ((a 11), .inl (gI g, 21, .inl F.en)), ((a 12), .inl (gZ g, 21, .inl (upd sp1 (q) 0)))]) := hD
                                      refine lv_iinc (v := (nI (q + 1))) (lv' := [(7, .int (nI (q + 1))), (0, .ref (a 0)), (1, .int (nI (i0))), (2, .long p2), (4, .int (nI (t)))]) hx hb dX4_recover_313 hl (k := 4) rfl (nI_1 _) (by decide) rfl (fun ls hl => ?_)
                                      refine lv_goto (tgt := 268) hx hb dX4_recover_316 (by decide) ?_
                                      have hsq : sp1 q = F.sp q := by rw [hF q, if_neg (by omega)]
                                      exact ih (F.k + 1 - (q + 1)) (by omega) ls H locs (upd sp1 (q) 0) (q + 1) (lv_sub hl [1, 2, 3, 4, 0] rfl) hP hD hS (sp_no2 hF (by omega) (by rw [← hsq]; assumption)) (by omega) (by omega) rfl
                                    · have i_304 : ((((rsD F.S t).n : Nat) : Int) : Int) < (F.en q).toInt := q_nle c_304_18 rfl (l_nI (by omega))
                                      refine lv_iconst (v := 1) hx hb dX4_recover_307 (by decide) ?_
                                      refine lv_goto (tgt := 312) hx hb dX4_recover_308 (by decide) ?_
                                      refine ga_zast (j := q) hx hb hK.1 hP hD hS 12 2 rfl rfl (v_nI (by omega) (by omega)) (c_nI (by omega)) rfl dX4_recover_312 (fun H locs hP hD hS => ?_)
                                      have hP : va_P (gD g) vwCl ([((a 0), .inr (6, [.int F.cd, .int (nI (F.rg)), .ref (a 1), .ref (a 2), .ref (a 3), .ref (a 4), .ref (a 5), .ref (a 6), .ref (a 7), .ref (a 8), .int (nI ((rsD F.S t).n)), .int (nI ((rsD F.S t).ar)), .int (nI (F.k)), .int (nI (F.fz)), .ref (a 9), .ref (a 10), .ref (a 11), .ref (a 12)])), ((a 1), .inl (gJ g, 32, .inr (.inl cs2))), ((a 2), .inl (gI g, 2001, .inl (rsD F.S t).kd)), ((a 3), .inl (gI g, 2001, .inl (rsD F.S t).un)), ((a 4), .inl (gI g, 2001, .inl (rsD F.S t).ce)), ((a 5), .inl (gI g, 2001, .inl (rsD F.S t).tn)), ((a 6), .inl (gJ g, 2001, .inr (.inl (rsD F.S t).bf))), ((a 7), .inl (gJ g, 2001, .inr (.inl (rsD F.S t).af))), ((a 8), .inl (gZ g, 2001, .inl (rsD F.S t).bk)), ((a 9), .inl (gJ g, 672, .inr (.inl F.kp))), ((a 10), .inl (gI g, 21, .inl F.st)), ((a 11), .inl (gI g, 21, .inl F.en)), ((a 12), .inl (gZ g, 21, .inl (upd sp1 (q) 1)))]) H := hP
                                      have hD : va_D A ([((a 0), .inr (6, [.int F.cd, .int (nI (F.rg)), .ref (a 1), .ref (a 2), .ref (a 3), .ref (a 4), .ref (a 5), .ref (a 6), .ref (a 7), .ref (a 8), .int (nI ((rsD F.S t).n)), .int (nI ((rsD F.S t).ar)), .int (nI (F.k)), .int (nI (F.fz)), .ref (a 9), .ref (a 10), .ref (a 11), .ref (a 12)])), ((a 1), .inl (gJ g, 32, .inr (.inl cs2))), ((a 2), .inl (gI g, 2001, .inl (rsD F.S t).kd)), ((a 3), .inl (gI g, 2001, .inl (rsD F.S t).un)), ((a 4), .inl (gI g, 2001, .inl (rsD F.S t).ce)), ((a 5), .inl (gI g, 2001, .inl (rsD F.S t).tn)), ((a 6), .inl (gJ g, 2001, .inr (.inl (rsD F.S t).bf))), ((a 7), .inl (gJ g, 2001, .inr (.inl (rsD F.S t).af))), ((a 8), .inl (gZ g, 2001, .inl (rsD F.S t).bk)), ((a 9), .inl (gJ g, 672, .inr (.inl F.kp))), ((a 10), .inl (gI g, 21, .inl F.st)), ((a 11), .inl (gI g, 21, .inl F.en)), ((a 12), .inl (gZ g, 21, .inl (upd sp1 (q) 1)))]) := hD
                                      refine lv_iinc (v := (nI (q + 1))) (lv' := [(7, .int (nI (q + 1))), (0, .ref (a 0)), (1, .int (nI (i0))), (2, .long p2), (4, .int (nI (t)))]) hx hb dX4_recover_313 hl (k := 4) rfl (nI_1 _) (by decide) rfl (fun ls hl => ?_)
                                      refine lv_goto (tgt := 268) hx hb dX4_recover_316 (by decide) ?_
                                      have hsq : sp1 q = F.sp q := by rw [hF q, if_neg (by omega)]
                                      exact ih (F.k + 1 - (q + 1)) (by omega) ls H locs (upd sp1 (q) 1) (q + 1) (lv_sub hl [1, 2, 3, 4, 0] rfl) hP hD hS (by first | exact sp_yes hF hq1 (by omega) | exact sp_yes2 hF hq1 ((hFs q).resolve_left (by rw [← hsq]; assumption))) (by omega) (by omega) rfl
                          · have i_195 : (((k1 : Nat) : Int) : Int) ≤ ((t : Nat) : Int) := q_nlt c_195_13 (l_nI (by omega)) (l_nI (by omega))
                            refine lv_aload_n hx hb dX4_recover_198 rfl (lv_at hl 0 rfl) ?_
                            refine va_get (D := gD g) (ci := 6) (v := .ref (a 2)) (C := RX4) (T := TX4) (N := 18) hx hb hts (by decide +kernel) hown hK.1 hP 0 rfl rfl 3 (by decide) (hts (.fieldLink RX4 13 "LogForwardModel" "kinds" "[I") (by decide +kernel)) (fun _ h9 => h9) rfl dX4_recover_199 ?_
                            refine lv_iload hx hb dX4_recover_202 (lv_at hl 4 rfl) ?_
                            refine ga_iald (v := (F.S.kd k1)) hx hb hK.1 hP 2 0 rfl rfl (v_nI (by omega) (by omega)) (by rw [(c_nI (by omega))]) dX4_recover_204 ?_
                            refine lv_if_ne (tgt := 227) hx hb dX4_recover_205 (by decide) (fun c_205_14 => ?_) (fun c_205_14 => ?_)
                            · have i_205 : ((F.S.kd k1).toInt : Int) ≠ 0 := q_ne c_205_14 rfl rfl
                              refine lv_iinc (v := (nI (k1 + 1))) (lv' := [(7, .int (nI (k1 + 1))), (0, .ref (a 0)), (1, .int (nI (i0))), (2, .long p2), (4, .int (nI (t)))]) hx hb dX4_recover_227 hl (k := 4) rfl (nI_1 _) (by decide) rfl (fun ls hl => ?_)
                              refine lv_goto (tgt := 191) hx hb dX4_recover_230 (by decide) ?_
                              exact ih (t + 1 - (k1 + 1)) (by omega) ls H locs cs2 (k1 + 1) (lv_sub hl [1, 2, 3, 4, 0] rfl) hP hD hS (by rw [hq, csB_step (by omega), if_neg (by assumption)]) (by omega) (by omega) rfl
                            · have i_205 : ((F.S.kd k1).toInt : Int) = 0 := q_eq c_205_14 rfl rfl
                              refine lv_aload_n hx hb dX4_recover_208 rfl (lv_at hl 0 rfl) ?_
                              refine va_get (D := gD g) (ci := 6) (v := .ref (a 1)) (C := RX4) (T := TX4) (N := 18) hx hb hts (by decide +kernel) hown hK.1 hP 0 rfl rfl 2 (by decide) (hts (.fieldLink RX4 7 "LogForwardModel" "cells" "[J") (by decide +kernel)) (fun _ h9 => h9) rfl dX4_recover_209 ?_
                              refine lv_aload_n hx hb dX4_recover_212 rfl (lv_at hl 0 rfl) ?_
                              refine va_get (D := gD g) (ci := 6) (v := .ref (a 4)) (C := RX4) (T := TX4) (N := 18) hx hb hts (by decide +kernel) hown hK.1 hP 0 rfl rfl 5 (by decide) (hts (.fieldLink RX4 20 "LogForwardModel" "where" "[I") (by decide +kernel)) (fun _ h9 => h9) rfl dX4_recover_213 ?_
                              refine lv_iload hx hb dX4_recover_216 (lv_at hl 4 rfl) ?_
                              refine ga_iald (v := (F.S.ce k1)) hx hb hK.1 hP 4 0 rfl rfl (v_nI (by omega) (by omega)) (by rw [(c_nI (by omega))]) dX4_recover_218 ?_
                              refine lv_aload_n hx hb dX4_recover_219 rfl (lv_at hl 0 rfl) ?_
                              refine va_get (D := gD g) (ci := 6) (v := .ref (a 7)) (C := RX4) (T := TX4) (N := 18) hx hb hts (by decide +kernel) hown hK.1 hP 0 rfl rfl 8 (by decide) (hts (.fieldLink RX4 29 "LogForwardModel" "afters" "[J") (by decide +kernel)) (fun _ h9 => h9) rfl dX4_recover_220 ?_
                              refine lv_iload hx hb dX4_recover_223 (lv_at hl 4 rfl) ?_
                              refine ga_lald (v := (F.S.af k1)) hx hb hK.1 hP 7 1 rfl rfl (v_nI (by omega) (by omega)) (by rw [(c_nI (by omega))]) dX4_recover_225 ?_
                              refine ga_last (j := (F.S.ce k1).toNatClampNeg) hx hb hK.1 hP hD hS 1 1 rfl rfl (v_p (by have := hFc k1 (by omega) (by omega) (by assumption); omega) (by have := hFc k1 (by omega) (by omega) (by assumption); omega)) rfl dX4_recover_226 (fun H locs hP hD hS => ?_)
                              have hP : va_P (gD g) vwCl ([((a 0), .inr (6, [.int F.cd, .int (nI (F.rg)), .ref (a 1), .ref (a 2), .ref (a 3), .ref (a 4), .ref (a 5), .ref (a 6), .ref (a 7), .ref (a 8), .int (nI (F.S.n)), .int (nI (F.S.ar)), .int (nI (F.k)), .int (nI (F.fz)), .ref (a 9), .ref (a 10), .ref (a 11), .ref (a 12)])), ((a 1), .inl (gJ g, 32, .inr (.inl (vp_updL cs2 ((F.S.ce k1).toNatClampNeg) (F.S.af k1))))), ((a 2), .inl (gI g, 2001, .inl F.S.kd)), ((a 3), .inl (gI g, 2001, .inl F.S.un)), ((a 4), .inl (gI g, 2001, .inl F.S.ce)), ((a 5), .inl (gI g, 2001, .inl F.S.tn)), ((a 6), .inl (gJ g, 2001, .inr (.inl F.S.bf))), ((a 7), .inl (gJ g, 2001, .inr (.inl F.S.af))), ((a 8), .inl (gZ g, 2001, .inl F.S.bk)), ((a 9), .inl (gJ g, 672, .inr (.inl F.kp))), ((a 10), .inl (gI g, 21, .inl F.st)), ((a 11), .inl (gI g, 21, .inl F.en)), ((a 12), .inl (gZ g, 21, .inl F.sp))]) H := hP
                              have hD : va_D A ([((a 0), .inr (6, [.int F.cd, .int (nI (F.rg)), .ref (a 1), .ref (a 2), .ref (a 3), .ref (a 4), .ref (a 5), .ref (a 6), .ref (a 7), .ref (a 8), .int (nI (F.S.n)), .int (nI (F.S.ar)), .int (nI (F.k)), .int (nI (F.fz)), .ref (a 9), .ref (a 10), .ref (a 11), .ref (a 12)])), ((a 1), .inl (gJ g, 32, .inr (.inl (vp_updL cs2 ((F.S.ce k1).toNatClampNeg) (F.S.af k1))))), ((a 2), .inl (gI g, 2001, .inl F.S.kd)), ((a 3), .inl (gI g, 2001, .inl F.S.un)), ((a 4), .inl (gI g, 2001, .inl F.S.ce)), ((a 5), .inl (gI g, 2001, .inl F.S.tn)), ((a 6), .inl (gJ g, 2001, .inr (.inl F.S.bf))), ((a 7), .inl (gJ g, 2001, .inr (.inl F.S.af))), ((a 8), .inl (gZ g, 2001, .inl F.S.bk)), ((a 9), .inl (gJ g, 672, .inr (.inl F.kp))), ((a 10), .inl (gI g, 21, .inl F.st)), ((a 11), .inl (gI g, 21, .inl F.en)), ((a 12), .inl (gZ g, 21, .inl F.sp))]) := hD
                              refine lv_iinc (v := (nI (k1 + 1))) (lv' := [(7, .int (nI (k1 + 1))), (0, .ref (a 0)), (1, .int (nI (i0))), (2, .long p2), (4, .int (nI (t)))]) hx hb dX4_recover_227 hl (k := 4) rfl (nI_1 _) (by decide) rfl (fun ls hl => ?_)
                              refine lv_goto (tgt := 191) hx hb dX4_recover_230 (by decide) ?_
                              exact ih (t + 1 - (k1 + 1)) (by omega) ls H locs (vp_updL cs2 ((F.S.ce k1).toNatClampNeg) (F.S.af k1)) (k1 + 1) (lv_sub hl [1, 2, 3, 4, 0] rfl) hP hD hS (by rw [hq, csB_step (by omega), if_pos (by assumption)]; unfold csS; rw [if_pos (hFc k1 (by omega) (by omega) (by assumption))]) (by omega) (by omega) rfl
                      · have i_153 : (((j : Nat) : Int) : Int) < 32 := q_nle c_153_11 rfl (l_nI (by omega))
                        refine lv_aload_n hx hb dX4_recover_156 rfl (lv_at hl 0 rfl) ?_
                        refine va_get (D := gD g) (ci := 6) (v := .ref (a 1)) (C := RX4) (T := TX4) (N := 18) hx hb hts (by decide +kernel) hown hK.1 hP 0 rfl rfl 2 (by decide) (hts (.fieldLink RX4 7 "LogForwardModel" "cells" "[J") (by decide +kernel)) (fun _ h9 => h9) rfl dX4_recover_157 ?_
                        refine lv_iload hx hb dX4_recover_160 (lv_at hl 4 rfl) ?_
                        refine lv_aload_n hx hb dX4_recover_162 rfl (lv_at hl 0 rfl) ?_
                        refine va_get (D := gD g) (ci := 6) (v := .ref (a 9)) (C := RX4) (T := TX4) (N := 18) hx hb hts (by decide +kernel) hown hK.1 hP 0 rfl rfl 14 (by decide) (hts (.fieldLink RX4 36 "LogForwardModel" "kept" "[J") (by decide +kernel)) (fun _ h9 => h9) rfl dX4_recover_163 ?_
                        refine lv_bipush (v := 32) hx hb dX4_recover_166 (by decide) ?_
                        refine lv_iload_n hx hb dX4_recover_168 rfl (lv_at hl 1 rfl) ?_
                        refine ga_imul (v := (nI (32 * (i0)))) hx hb (pk_mul (32) (i0)) dX4_recover_169 ?_
                        refine lv_iload hx hb dX4_recover_170 (lv_at hl 4 rfl) ?_
                        refine ga_iadd (v := (nI (32 * (i0) + (j)))) hx hb (nI_add _ _) dX4_recover_172 ?_
                        refine ga_lald (v := (F.kp (32 * (i0) + (j)))) hx hb hK.1 hP 9 1 rfl rfl (v_nI (by omega) (by omega)) (by rw [(c_nI (by omega))]) dX4_recover_173 ?_
                        refine ga_last (j := j) hx hb hK.1 hP hD hS 1 1 rfl rfl (v_nI (by omega) (by omega)) (c_nI (by omega)) dX4_recover_174 (fun H locs hP hD hS => ?_)
                        have hP : va_P (gD g) vwCl ([((a 0), .inr (6, [.int F.cd, .int (nI (F.rg)), .ref (a 1), .ref (a 2), .ref (a 3), .ref (a 4), .ref (a 5), .ref (a 6), .ref (a 7), .ref (a 8), .int (nI (F.S.n)), .int (nI (F.S.ar)), .int (nI (F.k)), .int (nI (F.fz)), .ref (a 9), .ref (a 10), .ref (a 11), .ref (a 12)])), ((a 1), .inl (gJ g, 32, .inr (.inl (vp_updL cs1 (j) (F.kp (32 * (i0) + (j))))))), ((a 2), .inl (gI g, 2001, .inl F.S.kd)), ((a 3), .inl (gI g, 2001, .inl F.S.un)), ((a 4), .inl (gI g, 2001, .inl F.S.ce)), ((a 5), .inl (gI g, 2001, .inl F.S.tn)), ((a 6), .inl (gJ g, 2001, .inr (.inl F.S.bf))), ((a 7), .inl (gJ g, 2001, .inr (.inl F.S.af))), ((a 8), .inl (gZ g, 2001, .inl F.S.bk)), ((a 9), .inl (gJ g, 672, .inr (.inl F.kp))), ((a 10), .inl (gI g, 21, .inl F.st)), ((a 11), .inl (gI g, 21, .inl F.en)), ((a 12), .inl (gZ g, 21, .inl F.sp))]) H := hP
                        have hD : va_D A ([((a 0), .inr (6, [.int F.cd, .int (nI (F.rg)), .ref (a 1), .ref (a 2), .ref (a 3), .ref (a 4), .ref (a 5), .ref (a 6), .ref (a 7), .ref (a 8), .int (nI (F.S.n)), .int (nI (F.S.ar)), .int (nI (F.k)), .int (nI (F.fz)), .ref (a 9), .ref (a 10), .ref (a 11), .ref (a 12)])), ((a 1), .inl (gJ g, 32, .inr (.inl (vp_updL cs1 (j) (F.kp (32 * (i0) + (j))))))), ((a 2), .inl (gI g, 2001, .inl F.S.kd)), ((a 3), .inl (gI g, 2001, .inl F.S.un)), ((a 4), .inl (gI g, 2001, .inl F.S.ce)), ((a 5), .inl (gI g, 2001, .inl F.S.tn)), ((a 6), .inl (gJ g, 2001, .inr (.inl F.S.bf))), ((a 7), .inl (gJ g, 2001, .inr (.inl F.S.af))), ((a 8), .inl (gZ g, 2001, .inl F.S.bk)), ((a 9), .inl (gJ g, 672, .inr (.inl F.kp))), ((a 10), .inl (gI g, 21, .inl F.st)), ((a 11), .inl (gI g, 21, .inl F.en)), ((a 12), .inl (gZ g, 21, .inl F.sp))]) := hD
                        refine lv_iinc (v := (nI (j + 1))) (lv' := [(7, .int (nI (j + 1))), (0, .ref (a 0)), (1, .int (nI (i0))), (2, .long p2), (4, .int (nI (t)))]) hx hb dX4_recover_175 hl (k := 4) rfl (nI_1 _) (by decide) rfl (fun ls hl => ?_)
                        refine lv_goto (tgt := 149) hx hb dX4_recover_178 (by decide) ?_
                        exact ih (32 - (j + 1)) (by omega) ls H locs (vp_updL cs1 (j) (F.kp (32 * (i0) + (j)))) (j + 1) (lv_sub hl [1, 2, 3, 4, 0] rfl) hP hD hS (by rw [hk1, ← cpy_step, Nat.zero_add]) (by omega) rfl
                  · have i_141 : (2000 : Int) < ((t + (c1) : Nat) : Int) := q_nle c_141_9 (l_nI (by omega)) rfl
                    refine lv_iconst (v := (-1)) hx hb dX4_recover_144 (by decide) ?_
                    have hP9 : va_P (gD g) vwCl (wM g a F) H := hP
                    have hD9 : va_D A (wM g a F) := hD
                    exact W.iret (v := (-1)) hx hb hr (fun tz htz hWz => ⟨⟨(-1), F, rfl, (by rw [← hM0]; exact (by rw [← h_6_1]; subst hi0; exact Or.inr (Or.inr ⟨hgd, t, ht0, hp2, by rw [he, l_nI (by omega)]; omega, Or.inr (Or.inl ⟨hla0, by rw [show 61 - i = 0 by omega] at hsm; have hsm : c1 = smF (moF F.S t) 60 1 := hsm; omega, rfl, rfl⟩)⟩))), by rw [htz]; exact hP9, hD9⟩, hS.F htz⟩) hS.2.2 dX4_recover_145
                · have i_93 : (((i : Nat) : Int) : Int) ≤ 60 := q_nlt c_93_8 rfl (l_nI (by omega))
                  refine lv_iload hx hb dX4_recover_96 (lv_at hl 5 rfl) ?_
                  refine lv_aload_n hx hb dX4_recover_98 rfl (lv_at hl 0 rfl) ?_
                  refine lv_iload hx hb dX4_recover_99 (lv_at hl 6 rfl) ?_
                  refine lv_iload hx hb dX4_recover_101 (lv_at hl 3 rfl) ?_
                  refine vp_callSi (va_Run.run (va_runV (As := [.int (nI (i)), .int (nI (t))]) (rest := [.int (nI (c1))]) ⟨hx, hb, hml, hown, hts⟩ (c_X4_stateOf l g a F (nI (i)) (t) (by omega) (by omega)) (cwV 2 hts gX4_recover_X4_stateOf rfl rfl rfl (by decide +kernel) ⟨Nat.le_of_ble_eq_true rfl, Nat.le_of_ble_eq_true rfl⟩) (pv_r hK hP (ci := 6) (q0 := 0) rfl rfl [0, 1, 2, 3, 4, 5, 6, 7, 8, 9, 10, 11, 12] rfl) rfl rfl hl.1 rfl (lv_room (Nat.le_of_ble_eq_true rfl)) dX4_recover_103 ⟨Nat.zero_le _, Nat.zero_le _⟩)) (fun r_103_9 h_103_9 => ?_)
                  subst h_103_9
                  refine lv_iconst (v := 1) hx hb dX4_recover_106 (by decide) ?_
                  refine lv_icmp_ne (tgt := 123) hx hb dX4_recover_107 (by decide) (fun c_107_9 => ?_) (fun c_107_9 => ?_)
                  · have i_107 : (((stO F.S (nI (i)) (t) : Nat) : Int) : Int) ≠ 1 := q_ne c_107_9 (l_nI (by have := stO_le F.S (nI (i)) (t); omega)) rfl
                    refine lv_iconst (v := 0) hx hb dX4_recover_123 (by decide) ?_
                    refine ga_iadd (v := (nI (c1))) hx hb (Int32.add_zero _) dX4_recover_124 ?_
                    refine lv_istore (lv' := [(6, .int (nI (c1))), (0, .ref (a 0)), (1, .int (nI (i0))), (2, .long p2), (4, .int (nI (t))), (5, .int (nI (laF F.S (F.st (i0)) (t) (t) 1))), (7, .int (nI (i)))]) hx hb dX4_recover_125 hl (by decide) rfl (fun ls hl => ?_)
                    refine lv_iinc (v := (nI (i + 1))) (lv' := [(7, .int (nI (i + 1))), (6, .int (nI (c1))), (0, .ref (a 0)), (1, .int (nI (i0))), (2, .long p2), (4, .int (nI (t))), (5, .int (nI (laF F.S (F.st (i0)) (t) (t) 1)))]) hx hb dX4_recover_127 hl (k := 6) rfl (nI_1 _) (by decide) rfl (fun ls hl => ?_)
                    refine lv_goto (tgt := 89) hx hb dX4_recover_130 (by decide) ?_
                    have hcl := cnB_le F.S (nI i) t
                    have hst := smF_step (f := moF F.S t) (i := i) (by omega)
                    have hmo : moF F.S t i = 0 := by unfold moF; first | rw [if_pos (by omega)] | rw [if_neg (by omega)]
                    exact ih (61 - (i + 1)) (by omega) ls (i + 1) (c1) (lv_sub hl [2, 3, 4, 5, 6, 1, 0] rfl) (by omega) (by omega) (by omega) (by omega) rfl
                  · have i_107 : (((stO F.S (nI (i)) (t) : Nat) : Int) : Int) = 1 := q_eq c_107_9 (l_nI (by have := stO_le F.S (nI (i)) (t); omega)) rfl
                    refine lv_aload_n hx hb dX4_recover_110 rfl (lv_at hl 0 rfl) ?_
                    refine lv_iload hx hb dX4_recover_111 (lv_at hl 6 rfl) ?_
                    refine lv_iload hx hb dX4_recover_113 (lv_at hl 3 rfl) ?_
                    refine vp_callSi (va_Run.run (va_runV (As := [.int (nI (i)), .int (nI (t))]) (rest := [.int (nI (c1))]) ⟨hx, hb, hml, hown, hts⟩ (c_X4_changes l g a F (nI (i)) (t) (by omega) (by omega)) (cwV 2 hts gX4_recover_X4_changes rfl rfl rfl (by decide +kernel) ⟨Nat.le_of_ble_eq_true rfl, Nat.le_of_ble_eq_true rfl⟩) (pv_r hK hP (ci := 6) (q0 := 0) rfl rfl [0, 1, 2, 3, 4, 5, 6, 7, 8, 9, 10, 11, 12] rfl) rfl rfl hl.1 rfl (lv_room (Nat.le_of_ble_eq_true rfl)) dX4_recover_115 ⟨Nat.zero_le _, Nat.zero_le _⟩)) (fun r_115_10 h_115_10 => ?_)
                    subst h_115_10
                    refine lv_iconst (v := 1) hx hb dX4_recover_118 (by decide) ?_
                    refine ga_iadd (v := (nI (cnB F.S (nI (i)) (t) + 1))) hx hb (nI_1 _) dX4_recover_119 ?_
                    refine lv_goto (tgt := 124) hx hb dX4_recover_120 (by decide) ?_
                    refine ga_iadd (v := (nI (c1 + (cnB F.S (nI (i)) (t) + 1)))) hx hb (nI_add _ _) dX4_recover_124 ?_
                    refine lv_istore (lv' := [(6, .int (nI (c1 + (cnB F.S (nI (i)) (t) + 1)))), (0, .ref (a 0)), (1, .int (nI (i0))), (2, .long p2), (4, .int (nI (t))), (5, .int (nI (laF F.S (F.st (i0)) (t) (t) 1))), (7, .int (nI (i)))]) hx hb dX4_recover_125 hl (by decide) rfl (fun ls hl => ?_)
                    refine lv_iinc (v := (nI (i + 1))) (lv' := [(7, .int (nI (i + 1))), (6, .int (nI (c1 + (cnB F.S (nI (i)) (t) + 1)))), (0, .ref (a 0)), (1, .int (nI (i0))), (2, .long p2), (4, .int (nI (t))), (5, .int (nI (laF F.S (F.st (i0)) (t) (t) 1)))]) hx hb dX4_recover_127 hl (k := 6) rfl (nI_1 _) (by decide) rfl (fun ls hl => ?_)
                    refine lv_goto (tgt := 89) hx hb dX4_recover_130 (by decide) ?_
                    have hcl := cnB_le F.S (nI i) t
                    have hst := smF_step (f := moF F.S t) (i := i) (by omega)
                    have hmo : moF F.S t i = cnB F.S (nI i) t + 1 := by unfold moF; first | rw [if_pos (by omega)] | rw [if_neg (by omega)]
                    exact ih (61 - (i + 1)) (by omega) ls (i + 1) (c1 + (cnB F.S (nI (i)) (t) + 1)) (lv_sub hl [2, 3, 4, 5, 6, 1, 0] rfl) (by omega) (by omega) (by omega) (by omega) rfl
            · have i_74 : (0 : Int) < ((laF F.S (F.st (i0)) (t) (t) 1 : Nat) : Int) := q_nle c_74_6 (l_nI (by have := laF_le F.S (F.st (i0)) (t) (t) 1; omega)) rfl
              refine lv_bipush (v := (-10)) hx hb dX4_recover_77 (by decide) ?_
              refine lv_iload hx hb dX4_recover_79 (lv_at hl 0 rfl) ?_
              refine ga_isub (v := ((-10) - (nI (laF F.S (F.st (i0)) (t) (t) 1)))) hx hb (rfl) dX4_recover_81 ?_
              have hP9 : va_P (gD g) vwCl (wM g a F) H := hP
              have hD9 : va_D A (wM g a F) := hD
              exact W.iret (v := ((-10) - (nI (laF F.S (F.st (i0)) (t) (t) 1)))) hx hb hr (fun tz htz hWz => ⟨⟨((-10) - (nI (laF F.S (F.st (i0)) (t) (t) 1))), F, rfl, (by rw [← hM0]; exact (by rw [← h_6_1]; subst hi0; exact Or.inr (Or.inr ⟨hgd, t, ht0, hp2, by rw [he, l_nI (by omega)]; omega, Or.inl ⟨by omega, rfl, rfl⟩⟩))), by rw [htz]; exact hP9, hD9⟩, hS.F htz⟩) hS.2.2 dX4_recover_82
          · rw [lg_cmp_ge] at c_53_5
            refine lv_bipush (v := (-4)) hx hb dX4_recover_56 (by decide) ?_
            have hP9 : va_P (gD g) vwCl (wM g a F) H := hP
            have hD9 : va_D A (wM g a F) := hD
            exact W.iret (v := (-4)) hx hb hr (fun tz htz hWz => ⟨⟨(-4), F, rfl, (by rw [← hM0]; exact (by rw [← h_6_1]; subst hi0; exact Or.inr (Or.inl ⟨hgd, by first | exact Or.inl (by rw [← nI_l (by omega)]; assumption) | exact Or.inr (by rw [← Int64.not_le]; assumption), rfl, rfl⟩))), by rw [htz]; exact hP9, hD9⟩, hS.F htz⟩) hS.2.2 dX4_recover_58
      · have i_28 : ((F.sp p1.toNatClampNeg).toInt : Int) ≠ 0 := q_ne c_28_3 rfl rfl
        refine lv_bipush (v := (-2)) hx hb dX4_recover_31 (by decide) ?_
        have hP9 : va_P (gD g) vwCl (wM g a F) H := hP
        have hD9 : va_D A (wM g a F) := hD
        exact W.iret (v := (-2)) hx hb hr (fun tz htz hWz => ⟨⟨(-2), F, rfl, (by rw [← hM0]; exact (by rw [← h_6_1]; exact Or.inl ⟨by first | omega | exact fun z => absurd z.2 (by assumption), rfl, rfl⟩)), by rw [htz]; exact hP9, hD9⟩, hS.F htz⟩) hS.2.2 dX4_recover_33
