/-! the reference's calls, as answers and states -/
def mC (M : MS) (x : Int32) : MS := (M.S, M.st, M.en, M.sp, M.kp, M.k, M.fz, M.cs, M.rg, x)
def mS (M : MS) (S : RS) : MS := (S, M.st, M.en, M.sp, M.kp, M.k, M.fz, M.cs, M.rg, M.cd)
def roM (M : MS) (p1 p2 : Int32) (p3 p5 : Int64) : Int32 × MS := if ¬ (okU p1 ∧ okC p2) then (-4, M) else if 1 < stO M.S p1 M.S.n then (-5, M) else if tkF M.S p2 p1 60 1 = true then (-3, M) else if ¬ M.cs p2.toNatClampNeg = p3 then (0, M) else if M.S.n = 2000 then (-1, M) else (nI (msW M 0 p1 p2 p3 p5 0).S.n, msW M 0 p1 p2 p3 p5 0)
def syM (M : MS) (p1 : Int32) : Int32 × MS := if ¬ okU p1 then (-4, M) else if ¬ stO M.S p1 M.S.n = 1 then (-5, M) else if M.S.n = 2000 then (-1, M) else (nI (msW M 1 p1 (-1) 0 0 0).S.n, msW M 1 p1 (-1) 0 0 0)
def boM (M : MS) (p1 : Int32) : Int32 × MS := if ¬ okU p1 then (-4, M) else if ¬ stO M.S p1 M.S.n = 1 then (0, M) else if ¬ lmO M.S p1 M.S.n = 0 then (-10 - nI (lmO M.S p1 M.S.n), M) else if 2000 < M.S.n + cnB M.S p1 M.S.n + 1 then (-1, M) else (nI (cnB M.S p1 M.S.n), msT M p1)
def cyY (F : MS) (z : Int32) : MS := (F.S, upd F.st (F.k + 1) (nI F.S.n), upd F.en (F.k + 1) (nI F.S.n), upd F.sp (F.k + 1) 0, va_cpy F.cs F.kp 0 (32 * (F.k + 1)) 32, F.k + 1, if z = 0 then 0 else F.k + 1, F.cs, F.rg, F.cd)
def cyM (F : MS) (z : Int32) : Int32 × MS := if F.k = 20 then (-1, F) else (nI (F.k + 1), cyY F z)
def toM (M : MS) (p1 p2 : Int32) : Int32 × MS := if ¬ ((0 ≤ p1.toInt ∧ p1.toInt ≤ 1) ∧ 1 ≤ p2.toInt ∧ p2.toInt ≤ (M.S.n : Int)) then (-2, M) else if p2.toInt ≤ (M.S.ar : Int) then (-5, M) else if M.S.tn p2.toNatClampNeg >>> (p1 &&& 31) &&& 1 = 1 then (0, M) else (1, mS M (rsT M.S p2.toNatClampNeg (M.S.tn p2.toNatClampNeg + (1 + p1))))
def arM (M : MS) (p1 : Int32) : Int32 × MS := if ¬ (0 ≤ p1.toInt ∧ p1.toInt ≤ (M.S.n : Int)) then (-4, M) else (nI (max M.S.ar p1.toNatClampNeg), mS M (rsP M.S p1.toNatClampNeg))
/-- the p-th missing row, counted up -/
def gqF (S : RS) (p : Int32) : Nat → Nat → Nat → Nat
  | 0, _, _ => 0
  | d + 1, i, n => if S.tn i = 3 then (if nI n = p then i else gqF S p d (i + 1) (n + 1)) else gqF S p d (i + 1) n
def mqF (S : RS) (q p x : Int32) : Nat → Nat → Nat → Nat
  | 0, _, _ => 0
  | d + 1, i, n => if S.un i - S.un i / q * q = p then (if nI n = x then i else mqF S q p x d (i + 1) (n + 1)) else mqF S q p x d (i + 1) n
theorem gq_no {S : RS} {i t n : Nat} {p : Int32} (h : i ≤ t) (hc : ¬ S.tn i = 3) : gqF S p (t + 1 - i) i n = gqF S p (t + 1 - (i + 1)) (i + 1) n := by
  obtain ⟨e, he⟩ : ∃ e, t + 1 - i = e + 1 := ⟨t - i, by omega⟩
  rw [he, show t + 1 - (i + 1) = e by omega]
  simp only [gqF]
  rw [if_neg hc]
theorem gq_go {S : RS} {i t n : Nat} {p : Int32} (h : i ≤ t) (hc : S.tn i = 3) (hx : ¬ nI n = p) : gqF S p (t + 1 - i) i n = gqF S p (t + 1 - (i + 1)) (i + 1) (n + 1) := by
  obtain ⟨e, he⟩ : ∃ e, t + 1 - i = e + 1 := ⟨t - i, by omega⟩
  rw [he, show t + 1 - (i + 1) = e by omega]
  simp only [gqF]
  rw [if_pos hc, if_neg hx]
theorem gq_yes {S : RS} {i t n : Nat} {p : Int32} (h : i ≤ t) (hc : S.tn i = 3) (hx : nI n = p) : gqF S p (t + 1 - i) i n = i := by
  obtain ⟨e, he⟩ : ∃ e, t + 1 - i = e + 1 := ⟨t - i, by omega⟩
  rw [he]
  simp only [gqF]
  rw [if_pos hc, if_pos hx]
theorem gq_end {S : RS} {i t n : Nat} {p : Int32} (h : t < i) : gqF S p (t + 1 - i) i n = 0 := by
  rw [show t + 1 - i = 0 by omega]
  rfl
theorem gqF_le (S : RS) (p : Int32) : ∀ (d i n : Nat), gqF S p d i n ≤ i + d
  | 0, i, n => Nat.zero_le _
  | d + 1, i, n => by
    have h1 := gqF_le S p d (i + 1) (n + 1)
    have h2 := gqF_le S p d (i + 1) n
    simp only [gqF]
    split
    · split <;> omega
    · omega
theorem mq_no {S : RS} {q p x : Int32} {i t n : Nat} (h : i ≤ t) (hc : ¬ S.un i - S.un i / q * q = p) : mqF S q p x (t + 1 - i) i n = mqF S q p x (t + 1 - (i + 1)) (i + 1) n := by
  obtain ⟨e, he⟩ : ∃ e, t + 1 - i = e + 1 := ⟨t - i, by omega⟩
  rw [he, show t + 1 - (i + 1) = e by omega]
  simp only [mqF]
  rw [if_neg hc]
theorem mq_go {S : RS} {q p x : Int32} {i t n : Nat} (h : i ≤ t) (hc : S.un i - S.un i / q * q = p) (hx : ¬ nI n = x) : mqF S q p x (t + 1 - i) i n = mqF S q p x (t + 1 - (i + 1)) (i + 1) (n + 1) := by
  obtain ⟨e, he⟩ : ∃ e, t + 1 - i = e + 1 := ⟨t - i, by omega⟩
  rw [he, show t + 1 - (i + 1) = e by omega]
  simp only [mqF]
  rw [if_pos hc, if_neg hx]
theorem mq_yes {S : RS} {q p x : Int32} {i t n : Nat} (h : i ≤ t) (hc : S.un i - S.un i / q * q = p) (hx : nI n = x) : mqF S q p x (t + 1 - i) i n = i := by
  obtain ⟨e, he⟩ : ∃ e, t + 1 - i = e + 1 := ⟨t - i, by omega⟩
  rw [he]
  simp only [mqF]
  rw [if_pos hc, if_pos hx]
theorem mq_end {S : RS} {q p x : Int32} {i t n : Nat} (h : t < i) : mqF S q p x (t + 1 - i) i n = 0 := by
  rw [show t + 1 - i = 0 by omega]
  rfl
/-- how many units up to k are open -/
def woF (S : RS) : Nat → Nat
  | 0 => 0
  | k + 1 => if stO S (nI (k + 1)) S.n = 1 then woF S k + 1 else woF S k
theorem woF_le (S : RS) : ∀ k, woF S k ≤ k
  | 0 => Nat.le_refl 0
  | k + 1 => by
    have := woF_le S k
    simp only [woF]
    split <;> omega
def coM (M : MS) (p : Int32) : Int32 := if p = 0 then nI M.S.n else if p = 1 then nI M.k else if p = 2 then nI M.S.ar else if p = 3 then nI (snO M.S M.S.n) else -1
abbrev okA (S : RS) (p1 p2 : Int32) : Prop := (1 ≤ p1.toInt ∧ p1.toInt ≤ (S.n : Int)) ∧ 0 ≤ p2.toInt ∧ p2.toInt ≤ 6
set_option maxHeartbeats 4000000 in
set_option maxRecDepth 100000 in
theorem c_X4_row (l : Launch) (g : GG) (a : Nat → Nat) (M : MS) (sz : Nat) (p1 p2 : Int32) (p3 p5 : Int64) (hn : M.S.n ≤ 2000) (hfz : M.fz ≤ 20) : Met l yX4_row wsX4_row { frames := 3, cells := 0, slots := 0, locals := 69 } (va_Pc [.ref (a 0), .int p1, .int p2, .long p3, .long p5] (Pw g (wM g a M) sz)) (va_Qi (fun rv u => rv = (roM (mC M 0) p1 p2 p3 p5).1 ∧ u = (roM (mC M 0) p1 p2 p3 p5).2) (Bw g (va_A (wM g a M) sz) (fun u : MS => wM g a u)) (va_A (wM g a M) sz)) 0 0 (va_A (wM g a M) sz) := by
  refine Met.ofW (cc := cX4_row) (maxL := 7) (ret := (some .int)) (by decide) rfl ?_
  intro p e s m args below meth c s₁ B hml hv
  obtain ⟨rfl, hsz, hP, hK, hD0⟩ := hv
  have hx := B.exec
  have hb := B.bytes
  have hr := B.returns
  have hts := atoms_spec (ws := wsX4_row) B.pre
  have hown : s.vm.findClass RX4 = some m.cls := findClass_of_methodNamed B.named
  have hlocks := B.notSynchronized
  subst hsz
  have hD := hD0.self (sz := s.heap.size)
  generalize hAe : va_A (wM g a M) s.heap.size = A at hD ⊢
  have hA : ∀ q : Nat, s.heap.size ≤ q → A q := fun q h => by rw [← hAe]; exact Or.inr h
  have hS : va_S A s.heap s.heap [] := va_S.rf
  have hl := lv_entry ([.ref (a 0), .int p1, .int p2, .long p3, .long p5]) (n := 7) (Nat.le_of_ble_eq_true rfl)
  rw [lg_entry_eq]
  generalize (lg_sl ([.ref (a 0), .int p1, .int p2, .long p3, .long p5]) ++ List.replicate (7 - (lg_sl ([.ref (a 0), .int p1, .int p2, .long p3, .long p5])).length) Slot.unset).toArray = ls at hl ⊢
  have hl : lv_has ls 7 [(0, .ref (a 0)), (1, .int p1), (2, .int p2), (3, .long p3), (5, .long p5)] := hl
  replace hP : va_P (gD g) vwCl ([((a 0), .inr (6, [.int M.cd, .int (nI (M.rg)), .ref (a 1), .ref (a 2), .ref (a 3), .ref (a 4), .ref (a 5), .ref (a 6), .ref (a 7), .ref (a 8), .int (nI (M.S.n)), .int (nI (M.S.ar)), .int (nI (M.k)), .int (nI (M.fz)), .ref (a 9), .ref (a 10), .ref (a 11), .ref (a 12)])), ((a 1), .inl (gJ g, 32, .inr (.inl M.cs))), ((a 2), .inl (gI g, 2001, .inl M.S.kd)), ((a 3), .inl (gI g, 2001, .inl M.S.un)), ((a 4), .inl (gI g, 2001, .inl M.S.ce)), ((a 5), .inl (gI g, 2001, .inl M.S.tn)), ((a 6), .inl (gJ g, 2001, .inr (.inl M.S.bf))), ((a 7), .inl (gJ g, 2001, .inr (.inl M.S.af))), ((a 8), .inl (gZ g, 2001, .inl M.S.bk)), ((a 9), .inl (gJ g, 672, .inr (.inl M.kp))), ((a 10), .inl (gI g, 21, .inl M.st)), ((a 11), .inl (gI g, 21, .inl M.en)), ((a 12), .inl (gZ g, 21, .inl M.sp))]) s.heap := hP
  replace hD : va_D A ([((a 0), .inr (6, [.int M.cd, .int (nI (M.rg)), .ref (a 1), .ref (a 2), .ref (a 3), .ref (a 4), .ref (a 5), .ref (a 6), .ref (a 7), .ref (a 8), .int (nI (M.S.n)), .int (nI (M.S.ar)), .int (nI (M.k)), .int (nI (M.fz)), .ref (a 9), .ref (a 10), .ref (a 11), .ref (a 12)])), ((a 1), .inl (gJ g, 32, .inr (.inl M.cs))), ((a 2), .inl (gI g, 2001, .inl M.S.kd)), ((a 3), .inl (gI g, 2001, .inl M.S.un)), ((a 4), .inl (gI g, 2001, .inl M.S.ce)), ((a 5), .inl (gI g, 2001, .inl M.S.tn)), ((a 6), .inl (gJ g, 2001, .inr (.inl M.S.bf))), ((a 7), .inl (gJ g, 2001, .inr (.inl M.S.af))), ((a 8), .inl (gZ g, 2001, .inl M.S.bk)), ((a 9), .inl (gJ g, 672, .inr (.inl M.kp))), ((a 10), .inl (gI g, 21, .inl M.st)), ((a 11), .inl (gI g, 21, .inl M.en)), ((a 12), .inl (gZ g, 21, .inl M.sp))]) := hD
  refine lv_aload_n hx hb dX4_row_0 rfl (lv_at hl 0 rfl) ?_
  refine lv_iconst (v := 0) hx hb dX4_row_1 (by decide) ?_
  refine va_put (D := gD g) (ci := 6) (v := .int 0) (ty := .int) (C := RX4) (T := TX4) (N := 18) hx hb hts (by decide +kernel) tyX4 tyX4_ok nmX4 hown hK.1 hP hD hS 0 rfl rfl 0 (by decide) (hts (.fieldLink RX4 52 "LogForwardModel" "code" "I") (by decide +kernel)) (fun _ h9 => h9) rfl (by decide +kernel) rfl rfl (Nat.le_of_ble_eq_true rfl) dX4_row_2 (fun H locs hP hD hS => ?_)
  have hP : va_P (gD g) vwCl ([((a 0), .inr (6, [.int 0, .int (nI (M.rg)), .ref (a 1), .ref (a 2), .ref (a 3), .ref (a 4), .ref (a 5), .ref (a 6), .ref (a 7), .ref (a 8), .int (nI (M.S.n)), .int (nI (M.S.ar)), .int (nI (M.k)), .int (nI (M.fz)), .ref (a 9), .ref (a 10), .ref (a 11), .ref (a 12)])), ((a 1), .inl (gJ g, 32, .inr (.inl M.cs))), ((a 2), .inl (gI g, 2001, .inl M.S.kd)), ((a 3), .inl (gI g, 2001, .inl M.S.un)), ((a 4), .inl (gI g, 2001, .inl M.S.ce)), ((a 5), .inl (gI g, 2001, .inl M.S.tn)), ((a 6), .inl (gJ g, 2001, .inr (.inl M.S.bf))), ((a 7), .inl (gJ g, 2001, .inr (.inl M.S.af))), ((a 8), .inl (gZ g, 2001, .inl M.S.bk)), ((a 9), .inl (gJ g, 672, .inr (.inl M.kp))), ((a 10), .inl (gI g, 21, .inl M.st)), ((a 11), .inl (gI g, 21, .inl M.en)), ((a 12), .inl (gZ g, 21, .inl M.sp))]) H := hP
  have hD : va_D A ([((a 0), .inr (6, [.int 0, .int (nI (M.rg)), .ref (a 1), .ref (a 2), .ref (a 3), .ref (a 4), .ref (a 5), .ref (a 6), .ref (a 7), .ref (a 8), .int (nI (M.S.n)), .int (nI (M.S.ar)), .int (nI (M.k)), .int (nI (M.fz)), .ref (a 9), .ref (a 10), .ref (a 11), .ref (a 12)])), ((a 1), .inl (gJ g, 32, .inr (.inl M.cs))), ((a 2), .inl (gI g, 2001, .inl M.S.kd)), ((a 3), .inl (gI g, 2001, .inl M.S.un)), ((a 4), .inl (gI g, 2001, .inl M.S.ce)), ((a 5), .inl (gI g, 2001, .inl M.S.tn)), ((a 6), .inl (gJ g, 2001, .inr (.inl M.S.bf))), ((a 7), .inl (gJ g, 2001, .inr (.inl M.S.af))), ((a 8), .inl (gZ g, 2001, .inl M.S.bk)), ((a 9), .inl (gJ g, 672, .inr (.inl M.kp))), ((a 10), .inl (gI g, 21, .inl M.st)), ((a 11), .inl (gI g, 21, .inl M.en)), ((a 12), .inl (gZ g, 21, .inl M.sp))]) := hD
  obtain ⟨M0, hM0⟩ : ∃ M0 : MS, M0 = mC M 0 := ⟨_, rfl⟩
  replace hP : va_P (gD g) vwCl ([((a 0), .inr (6, [.int M0.cd, .int (nI (M0.rg)), .ref (a 1), .ref (a 2), .ref (a 3), .ref (a 4), .ref (a 5), .ref (a 6), .ref (a 7), .ref (a 8), .int (nI (M0.S.n)), .int (nI (M0.S.ar)), .int (nI (M0.k)), .int (nI (M0.fz)), .ref (a 9), .ref (a 10), .ref (a 11), .ref (a 12)])), ((a 1), .inl (gJ g, 32, .inr (.inl M0.cs))), ((a 2), .inl (gI g, 2001, .inl M0.S.kd)), ((a 3), .inl (gI g, 2001, .inl M0.S.un)), ((a 4), .inl (gI g, 2001, .inl M0.S.ce)), ((a 5), .inl (gI g, 2001, .inl M0.S.tn)), ((a 6), .inl (gJ g, 2001, .inr (.inl M0.S.bf))), ((a 7), .inl (gJ g, 2001, .inr (.inl M0.S.af))), ((a 8), .inl (gZ g, 2001, .inl M0.S.bk)), ((a 9), .inl (gJ g, 672, .inr (.inl M0.kp))), ((a 10), .inl (gI g, 21, .inl M0.st)), ((a 11), .inl (gI g, 21, .inl M0.en)), ((a 12), .inl (gZ g, 21, .inl M0.sp))]) H := by rw [hM0]; exact hP
  replace hD : va_D A ([((a 0), .inr (6, [.int M0.cd, .int (nI (M0.rg)), .ref (a 1), .ref (a 2), .ref (a 3), .ref (a 4), .ref (a 5), .ref (a 6), .ref (a 7), .ref (a 8), .int (nI (M0.S.n)), .int (nI (M0.S.ar)), .int (nI (M0.k)), .int (nI (M0.fz)), .ref (a 9), .ref (a 10), .ref (a 11), .ref (a 12)])), ((a 1), .inl (gJ g, 32, .inr (.inl M0.cs))), ((a 2), .inl (gI g, 2001, .inl M0.S.kd)), ((a 3), .inl (gI g, 2001, .inl M0.S.un)), ((a 4), .inl (gI g, 2001, .inl M0.S.ce)), ((a 5), .inl (gI g, 2001, .inl M0.S.tn)), ((a 6), .inl (gJ g, 2001, .inr (.inl M0.S.bf))), ((a 7), .inl (gJ g, 2001, .inr (.inl M0.S.af))), ((a 8), .inl (gZ g, 2001, .inl M0.S.bk)), ((a 9), .inl (gJ g, 672, .inr (.inl M0.kp))), ((a 10), .inl (gI g, 21, .inl M0.st)), ((a 11), .inl (gI g, 21, .inl M0.en)), ((a 12), .inl (gZ g, 21, .inl M0.sp))]) := by rw [hM0]; exact hD
  have hn : M0.S.n ≤ 2000 := by rw [hM0]; exact hn
  have hfz : M0.fz ≤ 20 := by rw [hM0]; exact hfz
  refine lv_iload_n hx hb dX4_row_5 rfl (lv_at hl 1 rfl) ?_
  refine vp_callSi (va_Run.run (va_runS (As := [.int p1]) (rest := []) ⟨hx, hb, hml, hown, hts⟩ (c_X4_isUnit l g p1) (cwS 1 hts gX4_row_X4_isUnit rfl rfl rfl (by decide +kernel) ⟨Nat.le_of_ble_eq_true rfl, Nat.le_of_ble_eq_true rfl⟩) (ps_r hK hP [] rfl) rfl rfl hl.1 rfl (lv_room (Nat.le_of_ble_eq_true rfl)) dX4_row_6 ⟨Nat.zero_le _, Nat.zero_le _⟩)) (fun r_6_1 h_6_1 => ?_)
  refine lv_if_eq (tgt := 19) hx hb dX4_row_9 (by decide) (fun c_9_1 => ?_) (fun c_9_1 => ?_)
  · have b_9 : ¬ (okU p1) := bI_f h_6_1 c_9_1
    refine lv_bipush (v := (-4)) hx hb dX4_row_19 (by decide) ?_
    have hP9 : va_P (gD g) vwCl (wM g a M0) H := hP
    have hD9 : va_D A (wM g a M0) := hD
    exact W.iret (v := (-4)) hx hb hr (fun tz htz hWz => ⟨⟨(-4), M0, rfl, (by rw [← hM0]; exact (pr_mk (by unfold roM; rw [if_pos (fun h => by first | exact absurd h.1 (by assumption) | exact absurd h.2 (by assumption))] <;> rfl))), by rw [htz]; exact hP9, hD9⟩, hS.F htz⟩) hS.2.2 dX4_row_21
  · have b_9 : okU p1 := bI_t h_6_1 c_9_1
    refine lv_iload_n hx hb dX4_row_12 rfl (lv_at hl 2 rfl) ?_
    refine vp_callSi (va_Run.run (va_runS (As := [.int p2]) (rest := []) ⟨hx, hb, hml, hown, hts⟩ (c_X4_isCell l g p2) (cwS 1 hts gX4_row_X4_isCell rfl rfl rfl (by decide +kernel) ⟨Nat.le_of_ble_eq_true rfl, Nat.le_of_ble_eq_true rfl⟩) (ps_r hK hP [] rfl) rfl rfl hl.1 rfl (lv_room (Nat.le_of_ble_eq_true rfl)) dX4_row_13 ⟨Nat.zero_le _, Nat.zero_le _⟩)) (fun r_13_2 h_13_2 => ?_)
    refine lv_if_ne (tgt := 22) hx hb dX4_row_16 (by decide) (fun c_16_2 => ?_) (fun c_16_2 => ?_)
    · have b_16 : okC p2 := bI_t h_13_2 c_16_2
      refine lv_aload_n hx hb dX4_row_22 rfl (lv_at hl 0 rfl) ?_
      refine lv_iload_n hx hb dX4_row_23 rfl (lv_at hl 1 rfl) ?_
      refine lv_aload_n hx hb dX4_row_24 rfl (lv_at hl 0 rfl) ?_
      refine va_get (D := gD g) (ci := 6) (v := .int (nI (M0.S.n))) (C := RX4) (T := TX4) (N := 18) hx hb hts (by decide +kernel) hown hK.1 hP 0 rfl rfl 10 (by decide) (hts (.fieldLink RX4 55 "LogForwardModel" "rows" "I") (by decide +kernel)) (fun _ h9 => h9) rfl dX4_row_25 ?_
      refine vp_callSi (va_Run.run (va_runV (As := [.int p1, .int (nI (M0.S.n))]) (rest := []) ⟨hx, hb, hml, hown, hts⟩ (c_X4_stateOf l g a M0 p1 (M0.S.n) (by omega) (by omega)) (cwV 2 hts gX4_row_X4_stateOf rfl rfl rfl (by decide +kernel) ⟨Nat.le_of_ble_eq_true rfl, Nat.le_of_ble_eq_true rfl⟩) (pv_r hK hP (ci := 6) (q0 := 0) rfl rfl [0, 1, 2, 3, 4, 5, 6, 7, 8, 9, 10, 11, 12] rfl) rfl rfl hl.1 rfl (lv_room (Nat.le_of_ble_eq_true rfl)) dX4_row_28 ⟨Nat.zero_le _, Nat.zero_le _⟩)) (fun r_28_3 h_28_3 => ?_)
      subst h_28_3
      refine lv_iconst (v := 1) hx hb dX4_row_31 (by decide) ?_
      refine lv_icmp_le (tgt := 38) hx hb dX4_row_32 (by decide) (fun c_32_3 => ?_) (fun c_32_3 => ?_)
      · have i_32 : (((stO M0.S p1 (M0.S.n) : Nat) : Int) : Int) ≤ 1 := q_le c_32_3 (l_nI (by have := stO_le M0.S p1 (M0.S.n); omega)) rfl
        refine lv_aload_n hx hb dX4_row_38 rfl (lv_at hl 0 rfl) ?_
        refine lv_iload_n hx hb dX4_row_39 rfl (lv_at hl 2 rfl) ?_
        refine lv_iload_n hx hb dX4_row_40 rfl (lv_at hl 1 rfl) ?_
        refine vp_callSi (va_Run.run (va_runV (As := [.int p2, .int p1]) (rest := []) ⟨hx, hb, hml, hown, hts⟩ (c_X4_isTaken l g a M0 p2 p1 (by omega)) (cwV 2 hts gX4_row_X4_isTaken rfl rfl rfl (by decide +kernel) ⟨Nat.le_of_ble_eq_true rfl, Nat.le_of_ble_eq_true rfl⟩) (pv_r hK hP (ci := 6) (q0 := 0) rfl rfl [0, 1, 2, 3, 4, 5, 6, 7, 8, 9, 10, 11, 12] rfl) rfl rfl hl.1 rfl (lv_room (Nat.le_of_ble_eq_true rfl)) dX4_row_41 ⟨Nat.zero_le _, Nat.zero_le _⟩)) (fun r_41_4 h_41_4 => ?_)
        refine lv_if_eq (tgt := 50) hx hb dX4_row_44 (by decide) (fun c_44_4 => ?_) (fun c_44_4 => ?_)
        · have b_44 : ¬ (tkF M0.S p2 p1 60 1 = true) := bI_f h_41_4 c_44_4
          refine lv_aload_n hx hb dX4_row_50 rfl (lv_at hl 0 rfl) ?_
          refine va_get (D := gD g) (ci := 6) (v := .ref (a 1)) (C := RX4) (T := TX4) (N := 18) hx hb hts (by decide +kernel) hown hK.1 hP 0 rfl rfl 2 (by decide) (hts (.fieldLink RX4 7 "LogForwardModel" "cells" "[J") (by decide +kernel)) (fun _ h9 => h9) rfl dX4_row_51 ?_
          refine lv_iload_n hx hb dX4_row_54 rfl (lv_at hl 2 rfl) ?_
          refine ga_lald (v := (M0.cs p2.toNatClampNeg)) hx hb hK.1 hP 1 1 rfl rfl (v_p (by omega) (by omega)) rfl dX4_row_55 ?_
          refine lv_lload_n hx hb dX4_row_56 rfl (lv_at hl 3 rfl) ?_
          refine W.lcmp hx hb dX4_row_57 ?_
          refine lv_if_eq (tgt := 63) hx hb dX4_row_58 (by decide) (fun c_58_5 => ?_) (fun c_58_5 => ?_)
          · rw [lg_cmp_eq] at c_58_5
            refine lv_aload_n hx hb dX4_row_63 rfl (lv_at hl 0 rfl) ?_
            refine va_get (D := gD g) (ci := 6) (v := .int (nI (M0.S.n))) (C := RX4) (T := TX4) (N := 18) hx hb hts (by decide +kernel) hown hK.1 hP 0 rfl rfl 10 (by decide) (hts (.fieldLink RX4 55 "LogForwardModel" "rows" "I") (by decide +kernel)) (fun _ h9 => h9) rfl dX4_row_64 ?_
            refine lv_sipush (v := 2000) hx hb dX4_row_67 (by decide) ?_
            refine lv_icmp_ne (tgt := 75) hx hb dX4_row_70 (by decide) (fun c_70_6 => ?_) (fun c_70_6 => ?_)
            · have i_70 : (((M0.S.n : Nat) : Int) : Int) ≠ 2000 := q_ne c_70_6 (l_nI (by omega)) rfl
              refine lv_aload_n hx hb dX4_row_75 rfl (lv_at hl 0 rfl) ?_
              refine lv_iconst (v := 0) hx hb dX4_row_76 (by decide) ?_
              refine lv_iload_n hx hb dX4_row_77 rfl (lv_at hl 1 rfl) ?_
              refine lv_iload_n hx hb dX4_row_78 rfl (lv_at hl 2 rfl) ?_
              refine lv_lload_n hx hb dX4_row_79 rfl (lv_at hl 3 rfl) ?_
              refine lv_lload hx hb dX4_row_80 (lv_at hl 4 rfl) ?_
              refine lv_iconst (v := 0) hx hb dX4_row_82 (by decide) ?_
              refine ca_v (ws := [((a 0), .inr (6, [.int M0.cd, .int (nI (M0.rg)), .ref (a 1), .ref (a 2), .ref (a 3), .ref (a 4), .ref (a 5), .ref (a 6), .ref (a 7), .ref (a 8), .int (nI (M0.S.n)), .int (nI (M0.S.ar)), .int (nI (M0.k)), .int (nI (M0.fz)), .ref (a 9), .ref (a 10), .ref (a 11), .ref (a 12)])), ((a 1), .inl (gJ g, 32, .inr (.inl M0.cs))), ((a 2), .inl (gI g, 2001, .inl M0.S.kd)), ((a 3), .inl (gI g, 2001, .inl M0.S.un)), ((a 4), .inl (gI g, 2001, .inl M0.S.ce)), ((a 5), .inl (gI g, 2001, .inl M0.S.tn)), ((a 6), .inl (gJ g, 2001, .inr (.inl M0.S.bf))), ((a 7), .inl (gJ g, 2001, .inr (.inl M0.S.af))), ((a 8), .inl (gZ g, 2001, .inl M0.S.bk)), ((a 9), .inl (gJ g, 672, .inr (.inl M0.kp))), ((a 10), .inl (gI g, 21, .inl M0.st)), ((a 11), .inl (gI g, 21, .inl M0.en)), ((a 12), .inl (gZ g, 21, .inl M0.sp))]) (va_runV (As := [.int 0, .int p1, .int p2, .long p3, .long p5, .int 0]) (rest := []) ⟨hx, hb, hml, hown, hts⟩ (c_X4_write l g a M0 H.size 0 p1 p2 p3 p5 0 (by omega) hfz (Or.inl rfl) (fun _ => by assumption)) (cwV 6 hts gX4_row_X4_write rfl rfl rfl (by decide +kernel) ⟨Nat.le_of_ble_eq_true rfl, Nat.le_of_ble_eq_true rfl⟩) (pv_w hK hP (ci := 6) (q0 := 0) rfl rfl hP hD) rfl rfl hl.1 rfl (lv_room (Nat.le_of_ble_eq_true rfl)) dX4_row_83 ⟨Nat.zero_le _, Nat.zero_le _⟩) hD hS hA (fun u_83_7 H locs h_83_7 hP hD hS => ?_)
              subst h_83_7
              replace hP : va_P (gD g) vwCl ([((a 0), .inr (6, [.int (msW M0 0 p1 p2 p3 p5 0).cd, .int (nI ((msW M0 0 p1 p2 p3 p5 0).rg)), .ref (a 1), .ref (a 2), .ref (a 3), .ref (a 4), .ref (a 5), .ref (a 6), .ref (a 7), .ref (a 8), .int (nI ((msW M0 0 p1 p2 p3 p5 0).S.n)), .int (nI ((msW M0 0 p1 p2 p3 p5 0).S.ar)), .int (nI ((msW M0 0 p1 p2 p3 p5 0).k)), .int (nI ((msW M0 0 p1 p2 p3 p5 0).fz)), .ref (a 9), .ref (a 10), .ref (a 11), .ref (a 12)])), ((a 1), .inl (gJ g, 32, .inr (.inl (msW M0 0 p1 p2 p3 p5 0).cs))), ((a 2), .inl (gI g, 2001, .inl (msW M0 0 p1 p2 p3 p5 0).S.kd)), ((a 3), .inl (gI g, 2001, .inl (msW M0 0 p1 p2 p3 p5 0).S.un)), ((a 4), .inl (gI g, 2001, .inl (msW M0 0 p1 p2 p3 p5 0).S.ce)), ((a 5), .inl (gI g, 2001, .inl (msW M0 0 p1 p2 p3 p5 0).S.tn)), ((a 6), .inl (gJ g, 2001, .inr (.inl (msW M0 0 p1 p2 p3 p5 0).S.bf))), ((a 7), .inl (gJ g, 2001, .inr (.inl (msW M0 0 p1 p2 p3 p5 0).S.af))), ((a 8), .inl (gZ g, 2001, .inl (msW M0 0 p1 p2 p3 p5 0).S.bk)), ((a 9), .inl (gJ g, 672, .inr (.inl (msW M0 0 p1 p2 p3 p5 0).kp))), ((a 10), .inl (gI g, 21, .inl (msW M0 0 p1 p2 p3 p5 0).st)), ((a 11), .inl (gI g, 21, .inl (msW M0 0 p1 p2 p3 p5 0).en)), ((a 12), .inl (gZ g, 21, .inl (msW M0 0 p1 p2 p3 p5 0).sp))]) H := hP
              replace hD : va_D A ([((a 0), .inr (6, [.int (msW M0 0 p1 p2 p3 p5 0).cd, .int (nI ((msW M0 0 p1 p2 p3 p5 0).rg)), .ref (a 1), .ref (a 2), .ref (a 3), .ref (a 4), .ref (a 5), .ref (a 6), .ref (a 7), .ref (a 8), .int (nI ((msW M0 0 p1 p2 p3 p5 0).S.n)), .int (nI ((msW M0 0 p1 p2 p3 p5 0).S.ar)), .int (nI ((msW M0 0 p1 p2 p3 p5 0).k)), .int (nI ((msW M0 0 p1 p2 p3 p5 0).fz)), .ref (a 9), .ref (a 10), .ref (a 11), .ref (a 12)])), ((a 1), .inl (gJ g, 32, .inr (.inl (msW M0 0 p1 p2 p3 p5 0).cs))), ((a 2), .inl (gI g, 2001, .inl (msW M0 0 p1 p2 p3 p5 0).S.kd)), ((a 3), .inl (gI g, 2001, .inl (msW M0 0 p1 p2 p3 p5 0).S.un)), ((a 4), .inl (gI g, 2001, .inl (msW M0 0 p1 p2 p3 p5 0).S.ce)), ((a 5), .inl (gI g, 2001, .inl (msW M0 0 p1 p2 p3 p5 0).S.tn)), ((a 6), .inl (gJ g, 2001, .inr (.inl (msW M0 0 p1 p2 p3 p5 0).S.bf))), ((a 7), .inl (gJ g, 2001, .inr (.inl (msW M0 0 p1 p2 p3 p5 0).S.af))), ((a 8), .inl (gZ g, 2001, .inl (msW M0 0 p1 p2 p3 p5 0).S.bk)), ((a 9), .inl (gJ g, 672, .inr (.inl (msW M0 0 p1 p2 p3 p5 0).kp))), ((a 10), .inl (gI g, 21, .inl (msW M0 0 p1 p2 p3 p5 0).st)), ((a 11), .inl (gI g, 21, .inl (msW M0 0 p1 p2 p3 p5 0).en)), ((a 12), .inl (gZ g, 21, .inl (msW M0 0 p1 p2 p3 p5 0).sp))]) := hD
              refine lv_aload_n hx hb dX4_row_86 rfl (lv_at hl 0 rfl) ?_
              refine va_get (D := gD g) (ci := 6) (v := .int (nI ((msW M0 0 p1 p2 p3 p5 0).S.n))) (C := RX4) (T := TX4) (N := 18) hx hb hts (by decide +kernel) hown hK.1 hP 0 rfl rfl 10 (by decide) (hts (.fieldLink RX4 55 "LogForwardModel" "rows" "I") (by decide +kernel)) (fun _ h9 => h9) rfl dX4_row_87 ?_
              have hP9 : va_P (gD g) vwCl (wM g a (msW M0 0 p1 p2 p3 p5 0)) H := hP
              have hD9 : va_D A (wM g a (msW M0 0 p1 p2 p3 p5 0)) := hD
              exact W.iret (v := (nI ((msW M0 0 p1 p2 p3 p5 0).S.n))) hx hb hr (fun tz htz hWz => ⟨⟨(nI ((msW M0 0 p1 p2 p3 p5 0).S.n)), (msW M0 0 p1 p2 p3 p5 0), rfl, (by rw [← hM0]; exact (pr_mk (by unfold roM; rw [if_neg (fun h9 => h9 (⟨by assumption, by assumption⟩)), if_neg (by show ¬ 1 < stO M0.S p1 M0.S.n; omega), if_neg (by assumption), if_neg (fun h9 => h9 (by assumption)), if_neg (by show ¬ M0.S.n = 2000; omega)] <;> rfl))), by rw [htz]; exact hP9, hD9⟩, hS.F htz⟩) hS.2.2 dX4_row_90
            · have i_70 : (((M0.S.n : Nat) : Int) : Int) = 2000 := q_eq c_70_6 (l_nI (by omega)) rfl
              refine lv_iconst (v := (-1)) hx hb dX4_row_73 (by decide) ?_
              have hP9 : va_P (gD g) vwCl (wM g a M0) H := hP
              have hD9 : va_D A (wM g a M0) := hD
              exact W.iret (v := (-1)) hx hb hr (fun tz htz hWz => ⟨⟨(-1), M0, rfl, (by rw [← hM0]; exact (pr_mk (by unfold roM; rw [if_neg (fun h9 => h9 (⟨by assumption, by assumption⟩)), if_neg (by show ¬ 1 < stO M0.S p1 M0.S.n; omega), if_neg (by assumption), if_neg (fun h9 => h9 (by assumption)), if_pos (by show M0.S.n = 2000; omega)] <;> rfl))), by rw [htz]; exact hP9, hD9⟩, hS.F htz⟩) hS.2.2 dX4_row_74
          · rw [lg_cmp_eq] at c_58_5
            refine lv_iconst (v := 0) hx hb dX4_row_61 (by decide) ?_
            have hP9 : va_P (gD g) vwCl (wM g a M0) H := hP
            have hD9 : va_D A (wM g a M0) := hD
            exact W.iret (v := 0) hx hb hr (fun tz htz hWz => ⟨⟨0, M0, rfl, (by rw [← hM0]; exact (pr_mk (by unfold roM; rw [if_neg (fun h9 => h9 (⟨by assumption, by assumption⟩)), if_neg (by show ¬ 1 < stO M0.S p1 M0.S.n; omega), if_neg (by assumption), if_pos (by assumption)] <;> rfl))), by rw [htz]; exact hP9, hD9⟩, hS.F htz⟩) hS.2.2 dX4_row_62
        · have b_44 : tkF M0.S p2 p1 60 1 = true := bI_t h_41_4 c_44_4
          refine lv_bipush (v := (-3)) hx hb dX4_row_47 (by decide) ?_
          have hP9 : va_P (gD g) vwCl (wM g a M0) H := hP
          have hD9 : va_D A (wM g a M0) := hD
          exact W.iret (v := (-3)) hx hb hr (fun tz htz hWz => ⟨⟨(-3), M0, rfl, (by rw [← hM0]; exact (pr_mk (by unfold roM; rw [if_neg (fun h9 => h9 (⟨by assumption, by assumption⟩)), if_neg (by show ¬ 1 < stO M0.S p1 M0.S.n; omega), if_pos (by assumption)] <;> rfl))), by rw [htz]; exact hP9, hD9⟩, hS.F htz⟩) hS.2.2 dX4_row_49
      · have i_32 : (1 : Int) < ((stO M0.S p1 (M0.S.n) : Nat) : Int) := q_nle c_32_3 (l_nI (by have := stO_le M0.S p1 (M0.S.n); omega)) rfl
        refine lv_bipush (v := (-5)) hx hb dX4_row_35 (by decide) ?_
        have hP9 : va_P (gD g) vwCl (wM g a M0) H := hP
        have hD9 : va_D A (wM g a M0) := hD
        exact W.iret (v := (-5)) hx hb hr (fun tz htz hWz => ⟨⟨(-5), M0, rfl, (by rw [← hM0]; exact (pr_mk (by unfold roM; rw [if_neg (fun h9 => h9 (⟨by assumption, by assumption⟩)), if_pos (by show 1 < stO M0.S p1 M0.S.n; omega)] <;> rfl))), by rw [htz]; exact hP9, hD9⟩, hS.F htz⟩) hS.2.2 dX4_row_37
    · have b_16 : ¬ (okC p2) := bI_f h_13_2 c_16_2
      refine lv_bipush (v := (-4)) hx hb dX4_row_19 (by decide) ?_
      have hP9 : va_P (gD g) vwCl (wM g a M0) H := hP
      have hD9 : va_D A (wM g a M0) := hD
      exact W.iret (v := (-4)) hx hb hr (fun tz htz hWz => ⟨⟨(-4), M0, rfl, (by rw [← hM0]; exact (pr_mk (by unfold roM; rw [if_pos (fun h => by first | exact absurd h.1 (by assumption) | exact absurd h.2 (by assumption))] <;> rfl))), by rw [htz]; exact hP9, hD9⟩, hS.F htz⟩) hS.2.2 dX4_row_21
set_option maxHeartbeats 4000000 in
set_option maxRecDepth 100000 in
theorem c_X4_sync (l : Launch) (g : GG) (a : Nat → Nat) (M : MS) (sz : Nat) (p1 : Int32) (hn : M.S.n ≤ 2000) (hfz : M.fz ≤ 20) : Met l yX4_sync wsX4_sync { frames := 2, cells := 0, slots := 0, locals := 49 } (va_Pc [.ref (a 0), .int p1] (Pw g (wM g a M) sz)) (va_Qi (fun rv u => rv = (syM (mC M 0) p1).1 ∧ u = (syM (mC M 0) p1).2) (Bw g (va_A (wM g a M) sz) (fun u : MS => wM g a u)) (va_A (wM g a M) sz)) 0 0 (va_A (wM g a M) sz) := by
  refine Met.ofW (cc := cX4_sync) (maxL := 2) (ret := (some .int)) (by decide) rfl ?_
  intro p e s m args below meth c s₁ B hml hv
  obtain ⟨rfl, hsz, hP, hK, hD0⟩ := hv
  have hx := B.exec
  have hb := B.bytes
  have hr := B.returns
  have hts := atoms_spec (ws := wsX4_sync) B.pre
  have hown : s.vm.findClass RX4 = some m.cls := findClass_of_methodNamed B.named
  have hlocks := B.notSynchronized
  subst hsz
  have hD := hD0.self (sz := s.heap.size)
  generalize hAe : va_A (wM g a M) s.heap.size = A at hD ⊢
  have hA : ∀ q : Nat, s.heap.size ≤ q → A q := fun q h => by rw [← hAe]; exact Or.inr h
  have hS : va_S A s.heap s.heap [] := va_S.rf
  have hl := lv_entry ([.ref (a 0), .int p1]) (n := 2) (Nat.le_of_ble_eq_true rfl)
  rw [lg_entry_eq]
  generalize (lg_sl ([.ref (a 0), .int p1]) ++ List.replicate (2 - (lg_sl ([.ref (a 0), .int p1])).length) Slot.unset).toArray = ls at hl ⊢
  have hl : lv_has ls 2 [(0, .ref (a 0)), (1, .int p1)] := hl
  replace hP : va_P (gD g) vwCl ([((a 0), .inr (6, [.int M.cd, .int (nI (M.rg)), .ref (a 1), .ref (a 2), .ref (a 3), .ref (a 4), .ref (a 5), .ref (a 6), .ref (a 7), .ref (a 8), .int (nI (M.S.n)), .int (nI (M.S.ar)), .int (nI (M.k)), .int (nI (M.fz)), .ref (a 9), .ref (a 10), .ref (a 11), .ref (a 12)])), ((a 1), .inl (gJ g, 32, .inr (.inl M.cs))), ((a 2), .inl (gI g, 2001, .inl M.S.kd)), ((a 3), .inl (gI g, 2001, .inl M.S.un)), ((a 4), .inl (gI g, 2001, .inl M.S.ce)), ((a 5), .inl (gI g, 2001, .inl M.S.tn)), ((a 6), .inl (gJ g, 2001, .inr (.inl M.S.bf))), ((a 7), .inl (gJ g, 2001, .inr (.inl M.S.af))), ((a 8), .inl (gZ g, 2001, .inl M.S.bk)), ((a 9), .inl (gJ g, 672, .inr (.inl M.kp))), ((a 10), .inl (gI g, 21, .inl M.st)), ((a 11), .inl (gI g, 21, .inl M.en)), ((a 12), .inl (gZ g, 21, .inl M.sp))]) s.heap := hP
  replace hD : va_D A ([((a 0), .inr (6, [.int M.cd, .int (nI (M.rg)), .ref (a 1), .ref (a 2), .ref (a 3), .ref (a 4), .ref (a 5), .ref (a 6), .ref (a 7), .ref (a 8), .int (nI (M.S.n)), .int (nI (M.S.ar)), .int (nI (M.k)), .int (nI (M.fz)), .ref (a 9), .ref (a 10), .ref (a 11), .ref (a 12)])), ((a 1), .inl (gJ g, 32, .inr (.inl M.cs))), ((a 2), .inl (gI g, 2001, .inl M.S.kd)), ((a 3), .inl (gI g, 2001, .inl M.S.un)), ((a 4), .inl (gI g, 2001, .inl M.S.ce)), ((a 5), .inl (gI g, 2001, .inl M.S.tn)), ((a 6), .inl (gJ g, 2001, .inr (.inl M.S.bf))), ((a 7), .inl (gJ g, 2001, .inr (.inl M.S.af))), ((a 8), .inl (gZ g, 2001, .inl M.S.bk)), ((a 9), .inl (gJ g, 672, .inr (.inl M.kp))), ((a 10), .inl (gI g, 21, .inl M.st)), ((a 11), .inl (gI g, 21, .inl M.en)), ((a 12), .inl (gZ g, 21, .inl M.sp))]) := hD
  refine lv_aload_n hx hb dX4_sync_0 rfl (lv_at hl 0 rfl) ?_
  refine lv_iconst (v := 0) hx hb dX4_sync_1 (by decide) ?_
  refine va_put (D := gD g) (ci := 6) (v := .int 0) (ty := .int) (C := RX4) (T := TX4) (N := 18) hx hb hts (by decide +kernel) tyX4 tyX4_ok nmX4 hown hK.1 hP hD hS 0 rfl rfl 0 (by decide) (hts (.fieldLink RX4 52 "LogForwardModel" "code" "I") (by decide +kernel)) (fun _ h9 => h9) rfl (by decide +kernel) rfl rfl (Nat.le_of_ble_eq_true rfl) dX4_sync_2 (fun H locs hP hD hS => ?_)
  have hP : va_P (gD g) vwCl ([((a 0), .inr (6, [.int 0, .int (nI (M.rg)), .ref (a 1), .ref (a 2), .ref (a 3), .ref (a 4), .ref (a 5), .ref (a 6), .ref (a 7), .ref (a 8), .int (nI (M.S.n)), .int (nI (M.S.ar)), .int (nI (M.k)), .int (nI (M.fz)), .ref (a 9), .ref (a 10), .ref (a 11), .ref (a 12)])), ((a 1), .inl (gJ g, 32, .inr (.inl M.cs))), ((a 2), .inl (gI g, 2001, .inl M.S.kd)), ((a 3), .inl (gI g, 2001, .inl M.S.un)), ((a 4), .inl (gI g, 2001, .inl M.S.ce)), ((a 5), .inl (gI g, 2001, .inl M.S.tn)), ((a 6), .inl (gJ g, 2001, .inr (.inl M.S.bf))), ((a 7), .inl (gJ g, 2001, .inr (.inl M.S.af))), ((a 8), .inl (gZ g, 2001, .inl M.S.bk)), ((a 9), .inl (gJ g, 672, .inr (.inl M.kp))), ((a 10), .inl (gI g, 21, .inl M.st)), ((a 11), .inl (gI g, 21, .inl M.en)), ((a 12), .inl (gZ g, 21, .inl M.sp))]) H := hP
  have hD : va_D A ([((a 0), .inr (6, [.int 0, .int (nI (M.rg)), .ref (a 1), .ref (a 2), .ref (a 3), .ref (a 4), .ref (a 5), .ref (a 6), .ref (a 7), .ref (a 8), .int (nI (M.S.n)), .int (nI (M.S.ar)), .int (nI (M.k)), .int (nI (M.fz)), .ref (a 9), .ref (a 10), .ref (a 11), .ref (a 12)])), ((a 1), .inl (gJ g, 32, .inr (.inl M.cs))), ((a 2), .inl (gI g, 2001, .inl M.S.kd)), ((a 3), .inl (gI g, 2001, .inl M.S.un)), ((a 4), .inl (gI g, 2001, .inl M.S.ce)), ((a 5), .inl (gI g, 2001, .inl M.S.tn)), ((a 6), .inl (gJ g, 2001, .inr (.inl M.S.bf))), ((a 7), .inl (gJ g, 2001, .inr (.inl M.S.af))), ((a 8), .inl (gZ g, 2001, .inl M.S.bk)), ((a 9), .inl (gJ g, 672, .inr (.inl M.kp))), ((a 10), .inl (gI g, 21, .inl M.st)), ((a 11), .inl (gI g, 21, .inl M.en)), ((a 12), .inl (gZ g, 21, .inl M.sp))]) := hD
  obtain ⟨M0, hM0⟩ : ∃ M0 : MS, M0 = mC M 0 := ⟨_, rfl⟩
  replace hP : va_P (gD g) vwCl ([((a 0), .inr (6, [.int M0.cd, .int (nI (M0.rg)), .ref (a 1), .ref (a 2), .ref (a 3), .ref (a 4), .ref (a 5), .ref (a 6), .ref (a 7), .ref (a 8), .int (nI (M0.S.n)), .int (nI (M0.S.ar)), .int (nI (M0.k)), .int (nI (M0.fz)), .ref (a 9), .ref (a 10), .ref (a 11), .ref (a 12)])), ((a 1), .inl (gJ g, 32, .inr (.inl M0.cs))), ((a 2), .inl (gI g, 2001, .inl M0.S.kd)), ((a 3), .inl (gI g, 2001, .inl M0.S.un)), ((a 4), .inl (gI g, 2001, .inl M0.S.ce)), ((a 5), .inl (gI g, 2001, .inl M0.S.tn)), ((a 6), .inl (gJ g, 2001, .inr (.inl M0.S.bf))), ((a 7), .inl (gJ g, 2001, .inr (.inl M0.S.af))), ((a 8), .inl (gZ g, 2001, .inl M0.S.bk)), ((a 9), .inl (gJ g, 672, .inr (.inl M0.kp))), ((a 10), .inl (gI g, 21, .inl M0.st)), ((a 11), .inl (gI g, 21, .inl M0.en)), ((a 12), .inl (gZ g, 21, .inl M0.sp))]) H := by rw [hM0]; exact hP
  replace hD : va_D A ([((a 0), .inr (6, [.int M0.cd, .int (nI (M0.rg)), .ref (a 1), .ref (a 2), .ref (a 3), .ref (a 4), .ref (a 5), .ref (a 6), .ref (a 7), .ref (a 8), .int (nI (M0.S.n)), .int (nI (M0.S.ar)), .int (nI (M0.k)), .int (nI (M0.fz)), .ref (a 9), .ref (a 10), .ref (a 11), .ref (a 12)])), ((a 1), .inl (gJ g, 32, .inr (.inl M0.cs))), ((a 2), .inl (gI g, 2001, .inl M0.S.kd)), ((a 3), .inl (gI g, 2001, .inl M0.S.un)), ((a 4), .inl (gI g, 2001, .inl M0.S.ce)), ((a 5), .inl (gI g, 2001, .inl M0.S.tn)), ((a 6), .inl (gJ g, 2001, .inr (.inl M0.S.bf))), ((a 7), .inl (gJ g, 2001, .inr (.inl M0.S.af))), ((a 8), .inl (gZ g, 2001, .inl M0.S.bk)), ((a 9), .inl (gJ g, 672, .inr (.inl M0.kp))), ((a 10), .inl (gI g, 21, .inl M0.st)), ((a 11), .inl (gI g, 21, .inl M0.en)), ((a 12), .inl (gZ g, 21, .inl M0.sp))]) := by rw [hM0]; exact hD
  have hn : M0.S.n ≤ 2000 := by rw [hM0]; exact hn
  have hfz : M0.fz ≤ 20 := by rw [hM0]; exact hfz
  refine lv_iload_n hx hb dX4_sync_5 rfl (lv_at hl 1 rfl) ?_
  refine vp_callSi (va_Run.run (va_runS (As := [.int p1]) (rest := []) ⟨hx, hb, hml, hown, hts⟩ (c_X4_isUnit l g p1) (cwS 1 hts gX4_sync_X4_isUnit rfl rfl rfl (by decide +kernel) ⟨Nat.le_of_ble_eq_true rfl, Nat.le_of_ble_eq_true rfl⟩) (ps_r hK hP [] rfl) rfl rfl hl.1 rfl (lv_room (Nat.le_of_ble_eq_true rfl)) dX4_sync_6 ⟨Nat.zero_le _, Nat.zero_le _⟩)) (fun r_6_1 h_6_1 => ?_)
  refine lv_if_ne (tgt := 15) hx hb dX4_sync_9 (by decide) (fun c_9_1 => ?_) (fun c_9_1 => ?_)
  · have b_9 : okU p1 := bI_t h_6_1 c_9_1
    refine lv_aload_n hx hb dX4_sync_15 rfl (lv_at hl 0 rfl) ?_
    refine lv_iload_n hx hb dX4_sync_16 rfl (lv_at hl 1 rfl) ?_
    refine vp_callSi (va_Run.run (va_runV (As := [.int p1]) (rest := []) ⟨hx, hb, hml, hown, hts⟩ (c_X4_isOpen l g a M0 p1 (by omega)) (cwV 1 hts gX4_sync_X4_isOpen rfl rfl rfl (by decide +kernel) ⟨Nat.le_of_ble_eq_true rfl, Nat.le_of_ble_eq_true rfl⟩) (pv_r hK hP (ci := 6) (q0 := 0) rfl rfl [0, 1, 2, 3, 4, 5, 6, 7, 8, 9, 10, 11, 12] rfl) rfl rfl hl.1 rfl (lv_room (Nat.le_of_ble_eq_true rfl)) dX4_sync_17 ⟨Nat.zero_le _, Nat.zero_le _⟩)) (fun r_17_2 h_17_2 => ?_)
    refine lv_if_ne (tgt := 26) hx hb dX4_sync_20 (by decide) (fun c_20_2 => ?_) (fun c_20_2 => ?_)
    · have b_20 : stO M0.S p1 M0.S.n = 1 := bI_t h_17_2 c_20_2
      refine lv_aload_n hx hb dX4_sync_26 rfl (lv_at hl 0 rfl) ?_
      refine va_get (D := gD g) (ci := 6) (v := .int (nI (M0.S.n))) (C := RX4) (T := TX4) (N := 18) hx hb hts (by decide +kernel) hown hK.1 hP 0 rfl rfl 10 (by decide) (hts (.fieldLink RX4 55 "LogForwardModel" "rows" "I") (by decide +kernel)) (fun _ h9 => h9) rfl dX4_sync_27 ?_
      refine lv_sipush (v := 2000) hx hb dX4_sync_30 (by decide) ?_
      refine lv_icmp_ne (tgt := 38) hx hb dX4_sync_33 (by decide) (fun c_33_3 => ?_) (fun c_33_3 => ?_)
      · have i_33 : (((M0.S.n : Nat) : Int) : Int) ≠ 2000 := q_ne c_33_3 (l_nI (by omega)) rfl
        refine lv_aload_n hx hb dX4_sync_38 rfl (lv_at hl 0 rfl) ?_
        refine lv_iconst (v := 1) hx hb dX4_sync_39 (by decide) ?_
        refine lv_iload_n hx hb dX4_sync_40 rfl (lv_at hl 1 rfl) ?_
        refine lv_iconst (v := (-1)) hx hb dX4_sync_41 (by decide) ?_
        refine lv_lconst (v := 0) hx hb dX4_sync_42 (by decide) ?_
        refine lv_lconst (v := 0) hx hb dX4_sync_43 (by decide) ?_
        refine lv_iconst (v := 0) hx hb dX4_sync_44 (by decide) ?_
        refine ca_v (ws := [((a 0), .inr (6, [.int M0.cd, .int (nI (M0.rg)), .ref (a 1), .ref (a 2), .ref (a 3), .ref (a 4), .ref (a 5), .ref (a 6), .ref (a 7), .ref (a 8), .int (nI (M0.S.n)), .int (nI (M0.S.ar)), .int (nI (M0.k)), .int (nI (M0.fz)), .ref (a 9), .ref (a 10), .ref (a 11), .ref (a 12)])), ((a 1), .inl (gJ g, 32, .inr (.inl M0.cs))), ((a 2), .inl (gI g, 2001, .inl M0.S.kd)), ((a 3), .inl (gI g, 2001, .inl M0.S.un)), ((a 4), .inl (gI g, 2001, .inl M0.S.ce)), ((a 5), .inl (gI g, 2001, .inl M0.S.tn)), ((a 6), .inl (gJ g, 2001, .inr (.inl M0.S.bf))), ((a 7), .inl (gJ g, 2001, .inr (.inl M0.S.af))), ((a 8), .inl (gZ g, 2001, .inl M0.S.bk)), ((a 9), .inl (gJ g, 672, .inr (.inl M0.kp))), ((a 10), .inl (gI g, 21, .inl M0.st)), ((a 11), .inl (gI g, 21, .inl M0.en)), ((a 12), .inl (gZ g, 21, .inl M0.sp))]) (va_runV (As := [.int 1, .int p1, .int (-1), .long 0, .long 0, .int 0]) (rest := []) ⟨hx, hb, hml, hown, hts⟩ (c_X4_write l g a M0 H.size 1 p1 (-1) 0 0 0 (by omega) hfz (Or.inl rfl) (fun z => absurd z (by decide))) (cwV 6 hts gX4_sync_X4_write rfl rfl rfl (by decide +kernel) ⟨Nat.le_of_ble_eq_true rfl, Nat.le_of_ble_eq_true rfl⟩) (pv_w hK hP (ci := 6) (q0 := 0) rfl rfl hP hD) rfl rfl hl.1 rfl (lv_room (Nat.le_of_ble_eq_true rfl)) dX4_sync_45 ⟨Nat.zero_le _, Nat.zero_le _⟩) hD hS hA (fun u_45_4 H locs h_45_4 hP hD hS => ?_)
        subst h_45_4
        replace hP : va_P (gD g) vwCl ([((a 0), .inr (6, [.int (msW M0 1 p1 (-1) 0 0 0).cd, .int (nI ((msW M0 1 p1 (-1) 0 0 0).rg)), .ref (a 1), .ref (a 2), .ref (a 3), .ref (a 4), .ref (a 5), .ref (a 6), .ref (a 7), .ref (a 8), .int (nI ((msW M0 1 p1 (-1) 0 0 0).S.n)), .int (nI ((msW M0 1 p1 (-1) 0 0 0).S.ar)), .int (nI ((msW M0 1 p1 (-1) 0 0 0).k)), .int (nI ((msW M0 1 p1 (-1) 0 0 0).fz)), .ref (a 9), .ref (a 10), .ref (a 11), .ref (a 12)])), ((a 1), .inl (gJ g, 32, .inr (.inl (msW M0 1 p1 (-1) 0 0 0).cs))), ((a 2), .inl (gI g, 2001, .inl (msW M0 1 p1 (-1) 0 0 0).S.kd)), ((a 3), .inl (gI g, 2001, .inl (msW M0 1 p1 (-1) 0 0 0).S.un)), ((a 4), .inl (gI g, 2001, .inl (msW M0 1 p1 (-1) 0 0 0).S.ce)), ((a 5), .inl (gI g, 2001, .inl (msW M0 1 p1 (-1) 0 0 0).S.tn)), ((a 6), .inl (gJ g, 2001, .inr (.inl (msW M0 1 p1 (-1) 0 0 0).S.bf))), ((a 7), .inl (gJ g, 2001, .inr (.inl (msW M0 1 p1 (-1) 0 0 0).S.af))), ((a 8), .inl (gZ g, 2001, .inl (msW M0 1 p1 (-1) 0 0 0).S.bk)), ((a 9), .inl (gJ g, 672, .inr (.inl (msW M0 1 p1 (-1) 0 0 0).kp))), ((a 10), .inl (gI g, 21, .inl (msW M0 1 p1 (-1) 0 0 0).st)), ((a 11), .inl (gI g, 21, .inl (msW M0 1 p1 (-1) 0 0 0).en)), ((a 12), .inl (gZ g, 21, .inl (msW M0 1 p1 (-1) 0 0 0).sp))]) H := hP
        replace hD : va_D A ([((a 0), .inr (6, [.int (msW M0 1 p1 (-1) 0 0 0).cd, .int (nI ((msW M0 1 p1 (-1) 0 0 0).rg)), .ref (a 1), .ref (a 2), .ref (a 3), .ref (a 4), .ref (a 5), .ref (a 6), .ref (a 7), .ref (a 8), .int (nI ((msW M0 1 p1 (-1) 0 0 0).S.n)), .int (nI ((msW M0 1 p1 (-1) 0 0 0).S.ar)), .int (nI ((msW M0 1 p1 (-1) 0 0 0).k)), .int (nI ((msW M0 1 p1 (-1) 0 0 0).fz)), .ref (a 9), .ref (a 10), .ref (a 11), .ref (a 12)])), ((a 1), .inl (gJ g, 32, .inr (.inl (msW M0 1 p1 (-1) 0 0 0).cs))), ((a 2), .inl (gI g, 2001, .inl (msW M0 1 p1 (-1) 0 0 0).S.kd)), ((a 3), .inl (gI g, 2001, .inl (msW M0 1 p1 (-1) 0 0 0).S.un)), ((a 4), .inl (gI g, 2001, .inl (msW M0 1 p1 (-1) 0 0 0).S.ce)), ((a 5), .inl (gI g, 2001, .inl (msW M0 1 p1 (-1) 0 0 0).S.tn)), ((a 6), .inl (gJ g, 2001, .inr (.inl (msW M0 1 p1 (-1) 0 0 0).S.bf))), ((a 7), .inl (gJ g, 2001, .inr (.inl (msW M0 1 p1 (-1) 0 0 0).S.af))), ((a 8), .inl (gZ g, 2001, .inl (msW M0 1 p1 (-1) 0 0 0).S.bk)), ((a 9), .inl (gJ g, 672, .inr (.inl (msW M0 1 p1 (-1) 0 0 0).kp))), ((a 10), .inl (gI g, 21, .inl (msW M0 1 p1 (-1) 0 0 0).st)), ((a 11), .inl (gI g, 21, .inl (msW M0 1 p1 (-1) 0 0 0).en)), ((a 12), .inl (gZ g, 21, .inl (msW M0 1 p1 (-1) 0 0 0).sp))]) := hD
        refine lv_aload_n hx hb dX4_sync_48 rfl (lv_at hl 0 rfl) ?_
        refine va_get (D := gD g) (ci := 6) (v := .int (nI ((msW M0 1 p1 (-1) 0 0 0).S.n))) (C := RX4) (T := TX4) (N := 18) hx hb hts (by decide +kernel) hown hK.1 hP 0 rfl rfl 10 (by decide) (hts (.fieldLink RX4 55 "LogForwardModel" "rows" "I") (by decide +kernel)) (fun _ h9 => h9) rfl dX4_sync_49 ?_
        have hP9 : va_P (gD g) vwCl (wM g a (msW M0 1 p1 (-1) 0 0 0)) H := hP
        have hD9 : va_D A (wM g a (msW M0 1 p1 (-1) 0 0 0)) := hD
        exact W.iret (v := (nI ((msW M0 1 p1 (-1) 0 0 0).S.n))) hx hb hr (fun tz htz hWz => ⟨⟨(nI ((msW M0 1 p1 (-1) 0 0 0).S.n)), (msW M0 1 p1 (-1) 0 0 0), rfl, (by rw [← hM0]; exact (pr_mk (by unfold syM; rw [if_neg (fun h9 => h9 (by assumption)), if_neg (fun h9 => h9 (by assumption)), if_neg (by show ¬ M0.S.n = 2000; omega)] <;> rfl))), by rw [htz]; exact hP9, hD9⟩, hS.F htz⟩) hS.2.2 dX4_sync_52
      · have i_33 : (((M0.S.n : Nat) : Int) : Int) = 2000 := q_eq c_33_3 (l_nI (by omega)) rfl
        refine lv_iconst (v := (-1)) hx hb dX4_sync_36 (by decide) ?_
        have hP9 : va_P (gD g) vwCl (wM g a M0) H := hP
        have hD9 : va_D A (wM g a M0) := hD
        exact W.iret (v := (-1)) hx hb hr (fun tz htz hWz => ⟨⟨(-1), M0, rfl, (by rw [← hM0]; exact (pr_mk (by unfold syM; rw [if_neg (fun h9 => h9 (by assumption)), if_neg (fun h9 => h9 (by assumption)), if_pos (by show M0.S.n = 2000; omega)] <;> rfl))), by rw [htz]; exact hP9, hD9⟩, hS.F htz⟩) hS.2.2 dX4_sync_37
    · have b_20 : ¬ (stO M0.S p1 M0.S.n = 1) := bI_f h_17_2 c_20_2
      refine lv_bipush (v := (-5)) hx hb dX4_sync_23 (by decide) ?_
      have hP9 : va_P (gD g) vwCl (wM g a M0) H := hP
      have hD9 : va_D A (wM g a M0) := hD
      exact W.iret (v := (-5)) hx hb hr (fun tz htz hWz => ⟨⟨(-5), M0, rfl, (by rw [← hM0]; exact (pr_mk (by unfold syM; rw [if_neg (fun h9 => h9 (by assumption)), if_pos (by assumption)] <;> rfl))), by rw [htz]; exact hP9, hD9⟩, hS.F htz⟩) hS.2.2 dX4_sync_25
  · have b_9 : ¬ (okU p1) := bI_f h_6_1 c_9_1
    refine lv_bipush (v := (-4)) hx hb dX4_sync_12 (by decide) ?_
    have hP9 : va_P (gD g) vwCl (wM g a M0) H := hP
    have hD9 : va_D A (wM g a M0) := hD
    exact W.iret (v := (-4)) hx hb hr (fun tz htz hWz => ⟨⟨(-4), M0, rfl, (by rw [← hM0]; exact (pr_mk (by unfold syM; rw [if_pos (by assumption)] <;> rfl))), by rw [htz]; exact hP9, hD9⟩, hS.F htz⟩) hS.2.2 dX4_sync_14
set_option maxHeartbeats 4000000 in
set_option maxRecDepth 100000 in
theorem c_X4_backout (l : Launch) (g : GG) (a : Nat → Nat) (M : MS) (sz : Nat) (p1 : Int32) (hn : M.S.n ≤ 2000) (hfz : M.fz ≤ 20) (hce : ∀ r, 1 ≤ r → r ≤ M.S.n → M.S.kd r = 0 → okC (M.S.ce r)) : Met l yX4_backout wsX4_backout { frames := 3, cells := 0, slots := 0, locals := 72 } (va_Pc [.ref (a 0), .int p1] (Pw g (wM g a M) sz)) (va_Qi (fun rv u => rv = (boM (mC M 0) p1).1 ∧ u = (boM (mC M 0) p1).2) (Bw g (va_A (wM g a M) sz) (fun u : MS => wM g a u)) (va_A (wM g a M) sz)) 0 0 (va_A (wM g a M) sz) := by
  refine Met.ofW (cc := cX4_backout) (maxL := 3) (ret := (some .int)) (by decide) rfl ?_
  intro p e s m args below meth c s₁ B hml hv
  obtain ⟨rfl, hsz, hP, hK, hD0⟩ := hv
  have hx := B.exec
  have hb := B.bytes
  have hr := B.returns
  have hts := atoms_spec (ws := wsX4_backout) B.pre
  have hown : s.vm.findClass RX4 = some m.cls := findClass_of_methodNamed B.named
  have hlocks := B.notSynchronized
  subst hsz
  have hD := hD0.self (sz := s.heap.size)
  generalize hAe : va_A (wM g a M) s.heap.size = A at hD ⊢
  have hA : ∀ q : Nat, s.heap.size ≤ q → A q := fun q h => by rw [← hAe]; exact Or.inr h
  have hS : va_S A s.heap s.heap [] := va_S.rf
  have hl := lv_entry ([.ref (a 0), .int p1]) (n := 3) (Nat.le_of_ble_eq_true rfl)
  rw [lg_entry_eq]
  generalize (lg_sl ([.ref (a 0), .int p1]) ++ List.replicate (3 - (lg_sl ([.ref (a 0), .int p1])).length) Slot.unset).toArray = ls at hl ⊢
  have hl : lv_has ls 3 [(0, .ref (a 0)), (1, .int p1)] := hl
  replace hP : va_P (gD g) vwCl ([((a 0), .inr (6, [.int M.cd, .int (nI (M.rg)), .ref (a 1), .ref (a 2), .ref (a 3), .ref (a 4), .ref (a 5), .ref (a 6), .ref (a 7), .ref (a 8), .int (nI (M.S.n)), .int (nI (M.S.ar)), .int (nI (M.k)), .int (nI (M.fz)), .ref (a 9), .ref (a 10), .ref (a 11), .ref (a 12)])), ((a 1), .inl (gJ g, 32, .inr (.inl M.cs))), ((a 2), .inl (gI g, 2001, .inl M.S.kd)), ((a 3), .inl (gI g, 2001, .inl M.S.un)), ((a 4), .inl (gI g, 2001, .inl M.S.ce)), ((a 5), .inl (gI g, 2001, .inl M.S.tn)), ((a 6), .inl (gJ g, 2001, .inr (.inl M.S.bf))), ((a 7), .inl (gJ g, 2001, .inr (.inl M.S.af))), ((a 8), .inl (gZ g, 2001, .inl M.S.bk)), ((a 9), .inl (gJ g, 672, .inr (.inl M.kp))), ((a 10), .inl (gI g, 21, .inl M.st)), ((a 11), .inl (gI g, 21, .inl M.en)), ((a 12), .inl (gZ g, 21, .inl M.sp))]) s.heap := hP
  replace hD : va_D A ([((a 0), .inr (6, [.int M.cd, .int (nI (M.rg)), .ref (a 1), .ref (a 2), .ref (a 3), .ref (a 4), .ref (a 5), .ref (a 6), .ref (a 7), .ref (a 8), .int (nI (M.S.n)), .int (nI (M.S.ar)), .int (nI (M.k)), .int (nI (M.fz)), .ref (a 9), .ref (a 10), .ref (a 11), .ref (a 12)])), ((a 1), .inl (gJ g, 32, .inr (.inl M.cs))), ((a 2), .inl (gI g, 2001, .inl M.S.kd)), ((a 3), .inl (gI g, 2001, .inl M.S.un)), ((a 4), .inl (gI g, 2001, .inl M.S.ce)), ((a 5), .inl (gI g, 2001, .inl M.S.tn)), ((a 6), .inl (gJ g, 2001, .inr (.inl M.S.bf))), ((a 7), .inl (gJ g, 2001, .inr (.inl M.S.af))), ((a 8), .inl (gZ g, 2001, .inl M.S.bk)), ((a 9), .inl (gJ g, 672, .inr (.inl M.kp))), ((a 10), .inl (gI g, 21, .inl M.st)), ((a 11), .inl (gI g, 21, .inl M.en)), ((a 12), .inl (gZ g, 21, .inl M.sp))]) := hD
  refine lv_aload_n hx hb dX4_backout_0 rfl (lv_at hl 0 rfl) ?_
  refine lv_iconst (v := 0) hx hb dX4_backout_1 (by decide) ?_
  refine va_put (D := gD g) (ci := 6) (v := .int 0) (ty := .int) (C := RX4) (T := TX4) (N := 18) hx hb hts (by decide +kernel) tyX4 tyX4_ok nmX4 hown hK.1 hP hD hS 0 rfl rfl 0 (by decide) (hts (.fieldLink RX4 52 "LogForwardModel" "code" "I") (by decide +kernel)) (fun _ h9 => h9) rfl (by decide +kernel) rfl rfl (Nat.le_of_ble_eq_true rfl) dX4_backout_2 (fun H locs hP hD hS => ?_)
  have hP : va_P (gD g) vwCl ([((a 0), .inr (6, [.int 0, .int (nI (M.rg)), .ref (a 1), .ref (a 2), .ref (a 3), .ref (a 4), .ref (a 5), .ref (a 6), .ref (a 7), .ref (a 8), .int (nI (M.S.n)), .int (nI (M.S.ar)), .int (nI (M.k)), .int (nI (M.fz)), .ref (a 9), .ref (a 10), .ref (a 11), .ref (a 12)])), ((a 1), .inl (gJ g, 32, .inr (.inl M.cs))), ((a 2), .inl (gI g, 2001, .inl M.S.kd)), ((a 3), .inl (gI g, 2001, .inl M.S.un)), ((a 4), .inl (gI g, 2001, .inl M.S.ce)), ((a 5), .inl (gI g, 2001, .inl M.S.tn)), ((a 6), .inl (gJ g, 2001, .inr (.inl M.S.bf))), ((a 7), .inl (gJ g, 2001, .inr (.inl M.S.af))), ((a 8), .inl (gZ g, 2001, .inl M.S.bk)), ((a 9), .inl (gJ g, 672, .inr (.inl M.kp))), ((a 10), .inl (gI g, 21, .inl M.st)), ((a 11), .inl (gI g, 21, .inl M.en)), ((a 12), .inl (gZ g, 21, .inl M.sp))]) H := hP
  have hD : va_D A ([((a 0), .inr (6, [.int 0, .int (nI (M.rg)), .ref (a 1), .ref (a 2), .ref (a 3), .ref (a 4), .ref (a 5), .ref (a 6), .ref (a 7), .ref (a 8), .int (nI (M.S.n)), .int (nI (M.S.ar)), .int (nI (M.k)), .int (nI (M.fz)), .ref (a 9), .ref (a 10), .ref (a 11), .ref (a 12)])), ((a 1), .inl (gJ g, 32, .inr (.inl M.cs))), ((a 2), .inl (gI g, 2001, .inl M.S.kd)), ((a 3), .inl (gI g, 2001, .inl M.S.un)), ((a 4), .inl (gI g, 2001, .inl M.S.ce)), ((a 5), .inl (gI g, 2001, .inl M.S.tn)), ((a 6), .inl (gJ g, 2001, .inr (.inl M.S.bf))), ((a 7), .inl (gJ g, 2001, .inr (.inl M.S.af))), ((a 8), .inl (gZ g, 2001, .inl M.S.bk)), ((a 9), .inl (gJ g, 672, .inr (.inl M.kp))), ((a 10), .inl (gI g, 21, .inl M.st)), ((a 11), .inl (gI g, 21, .inl M.en)), ((a 12), .inl (gZ g, 21, .inl M.sp))]) := hD
  obtain ⟨M0, hM0⟩ : ∃ M0 : MS, M0 = mC M 0 := ⟨_, rfl⟩
  replace hP : va_P (gD g) vwCl ([((a 0), .inr (6, [.int M0.cd, .int (nI (M0.rg)), .ref (a 1), .ref (a 2), .ref (a 3), .ref (a 4), .ref (a 5), .ref (a 6), .ref (a 7), .ref (a 8), .int (nI (M0.S.n)), .int (nI (M0.S.ar)), .int (nI (M0.k)), .int (nI (M0.fz)), .ref (a 9), .ref (a 10), .ref (a 11), .ref (a 12)])), ((a 1), .inl (gJ g, 32, .inr (.inl M0.cs))), ((a 2), .inl (gI g, 2001, .inl M0.S.kd)), ((a 3), .inl (gI g, 2001, .inl M0.S.un)), ((a 4), .inl (gI g, 2001, .inl M0.S.ce)), ((a 5), .inl (gI g, 2001, .inl M0.S.tn)), ((a 6), .inl (gJ g, 2001, .inr (.inl M0.S.bf))), ((a 7), .inl (gJ g, 2001, .inr (.inl M0.S.af))), ((a 8), .inl (gZ g, 2001, .inl M0.S.bk)), ((a 9), .inl (gJ g, 672, .inr (.inl M0.kp))), ((a 10), .inl (gI g, 21, .inl M0.st)), ((a 11), .inl (gI g, 21, .inl M0.en)), ((a 12), .inl (gZ g, 21, .inl M0.sp))]) H := by rw [hM0]; exact hP
  replace hD : va_D A ([((a 0), .inr (6, [.int M0.cd, .int (nI (M0.rg)), .ref (a 1), .ref (a 2), .ref (a 3), .ref (a 4), .ref (a 5), .ref (a 6), .ref (a 7), .ref (a 8), .int (nI (M0.S.n)), .int (nI (M0.S.ar)), .int (nI (M0.k)), .int (nI (M0.fz)), .ref (a 9), .ref (a 10), .ref (a 11), .ref (a 12)])), ((a 1), .inl (gJ g, 32, .inr (.inl M0.cs))), ((a 2), .inl (gI g, 2001, .inl M0.S.kd)), ((a 3), .inl (gI g, 2001, .inl M0.S.un)), ((a 4), .inl (gI g, 2001, .inl M0.S.ce)), ((a 5), .inl (gI g, 2001, .inl M0.S.tn)), ((a 6), .inl (gJ g, 2001, .inr (.inl M0.S.bf))), ((a 7), .inl (gJ g, 2001, .inr (.inl M0.S.af))), ((a 8), .inl (gZ g, 2001, .inl M0.S.bk)), ((a 9), .inl (gJ g, 672, .inr (.inl M0.kp))), ((a 10), .inl (gI g, 21, .inl M0.st)), ((a 11), .inl (gI g, 21, .inl M0.en)), ((a 12), .inl (gZ g, 21, .inl M0.sp))]) := by rw [hM0]; exact hD
  have hn : M0.S.n ≤ 2000 := by rw [hM0]; exact hn
  have hfz : M0.fz ≤ 20 := by rw [hM0]; exact hfz
  have hce : ∀ r, 1 ≤ r → r ≤ M0.S.n → M0.S.kd r = 0 → okC (M0.S.ce r) := by rw [hM0]; exact hce
  refine lv_iload_n hx hb dX4_backout_5 rfl (lv_at hl 1 rfl) ?_
  refine vp_callSi (va_Run.run (va_runS (As := [.int p1]) (rest := []) ⟨hx, hb, hml, hown, hts⟩ (c_X4_isUnit l g p1) (cwS 1 hts gX4_backout_X4_isUnit rfl rfl rfl (by decide +kernel) ⟨Nat.le_of_ble_eq_true rfl, Nat.le_of_ble_eq_true rfl⟩) (ps_r hK hP [] rfl) rfl rfl hl.1 rfl (lv_room (Nat.le_of_ble_eq_true rfl)) dX4_backout_6 ⟨Nat.zero_le _, Nat.zero_le _⟩)) (fun r_6_1 h_6_1 => ?_)
  refine lv_if_ne (tgt := 15) hx hb dX4_backout_9 (by decide) (fun c_9_1 => ?_) (fun c_9_1 => ?_)
  · have b_9 : okU p1 := bI_t h_6_1 c_9_1
    refine lv_aload_n hx hb dX4_backout_15 rfl (lv_at hl 0 rfl) ?_
    refine lv_iload_n hx hb dX4_backout_16 rfl (lv_at hl 1 rfl) ?_
    refine vp_callSi (va_Run.run (va_runV (As := [.int p1]) (rest := []) ⟨hx, hb, hml, hown, hts⟩ (c_X4_isOpen l g a M0 p1 (by omega)) (cwV 1 hts gX4_backout_X4_isOpen rfl rfl rfl (by decide +kernel) ⟨Nat.le_of_ble_eq_true rfl, Nat.le_of_ble_eq_true rfl⟩) (pv_r hK hP (ci := 6) (q0 := 0) rfl rfl [0, 1, 2, 3, 4, 5, 6, 7, 8, 9, 10, 11, 12] rfl) rfl rfl hl.1 rfl (lv_room (Nat.le_of_ble_eq_true rfl)) dX4_backout_17 ⟨Nat.zero_le _, Nat.zero_le _⟩)) (fun r_17_2 h_17_2 => ?_)
    refine lv_if_ne (tgt := 25) hx hb dX4_backout_20 (by decide) (fun c_20_2 => ?_) (fun c_20_2 => ?_)
    · have b_20 : stO M0.S p1 M0.S.n = 1 := bI_t h_17_2 c_20_2
      refine lv_aload_n hx hb dX4_backout_25 rfl (lv_at hl 0 rfl) ?_
      refine va_get (D := gD g) (ci := 6) (v := .int (nI (M0.S.n))) (C := RX4) (T := TX4) (N := 18) hx hb hts (by decide +kernel) hown hK.1 hP 0 rfl rfl 10 (by decide) (hts (.fieldLink RX4 55 "LogForwardModel" "rows" "I") (by decide +kernel)) (fun _ h9 => h9) rfl dX4_backout_26 ?_
      refine lv_istore_n (lv' := [(2, .int (nI (M0.S.n))), (0, .ref (a 0)), (1, .int p1)]) hx hb dX4_backout_29 rfl hl (by decide) rfl (fun ls hl => ?_)
      obtain ⟨i, hi⟩ : ∃ i : Nat, i = M0.S.n := ⟨_, rfl⟩
      replace hl : lv_has ls 3 [(0, .ref (a 0)), (1, .int p1), (2, .int (nI (i)))] := by subst hi; exact lv_sub hl [1, 2, 0] rfl
      have hi2 : i ≤ M0.S.n := by omega
      have hq : lmO M0.S p1 M0.S.n = lmO M0.S p1 i := by rw [hi]
      clear hi
      obtain ⟨d, hd⟩ : ∃ d, i = d := ⟨_, rfl⟩
      induction d using Nat.strongRecOn generalizing i ls with
      | ind d ih =>
        refine lv_iload_n hx hb dX4_backout_30 rfl (lv_at hl 2 rfl) ?_
        refine lv_if_le (tgt := 62) hx hb dX4_backout_31 (by decide) (fun c_31_4 => ?_) (fun c_31_4 => ?_)
        · have i_31 : (((i : Nat) : Int) : Int) ≤ 0 := q_le c_31_4 (l_nI (by omega)) rfl
          have hl0 : lmO M0.S p1 M0.S.n = 0 := by rw [hq, show i = 0 by omega]; rfl
          have hcn := cnB_le M0.S p1 M0.S.n
          refine lv_aload_n hx hb dX4_backout_62 rfl (lv_at hl 0 rfl) ?_
          refine va_get (D := gD g) (ci := 6) (v := .int (nI (M0.S.n))) (C := RX4) (T := TX4) (N := 18) hx hb hts (by decide +kernel) hown hK.1 hP 0 rfl rfl 10 (by decide) (hts (.fieldLink RX4 55 "LogForwardModel" "rows" "I") (by decide +kernel)) (fun _ h9 => h9) rfl dX4_backout_63 ?_
          refine lv_aload_n hx hb dX4_backout_66 rfl (lv_at hl 0 rfl) ?_
          refine lv_iload_n hx hb dX4_backout_67 rfl (lv_at hl 1 rfl) ?_
          refine lv_aload_n hx hb dX4_backout_68 rfl (lv_at hl 0 rfl) ?_
          refine va_get (D := gD g) (ci := 6) (v := .int (nI (M0.S.n))) (C := RX4) (T := TX4) (N := 18) hx hb hts (by decide +kernel) hown hK.1 hP 0 rfl rfl 10 (by decide) (hts (.fieldLink RX4 55 "LogForwardModel" "rows" "I") (by decide +kernel)) (fun _ h9 => h9) rfl dX4_backout_69 ?_
          refine vp_callSi (va_Run.run (va_runV (As := [.int p1, .int (nI (M0.S.n))]) (rest := [.int (nI (M0.S.n))]) ⟨hx, hb, hml, hown, hts⟩ (c_X4_changes l g a M0 p1 (M0.S.n) (by omega) (by omega)) (cwV 2 hts gX4_backout_X4_changes rfl rfl rfl (by decide +kernel) ⟨Nat.le_of_ble_eq_true rfl, Nat.le_of_ble_eq_true rfl⟩) (pv_r hK hP (ci := 6) (q0 := 0) rfl rfl [0, 1, 2, 3, 4, 5, 6, 7, 8, 9, 10, 11, 12] rfl) rfl rfl hl.1 rfl (lv_room (Nat.le_of_ble_eq_true rfl)) dX4_backout_72 ⟨Nat.zero_le _, Nat.zero_le _⟩)) (fun r_72_5 h_72_5 => ?_)
          subst h_72_5
          refine ga_iadd (v := (nI (M0.S.n + (cnB M0.S p1 (M0.S.n))))) hx hb (nI_add _ _) dX4_backout_75 ?_
          refine lv_iconst (v := 1) hx hb dX4_backout_76 (by decide) ?_
          refine ga_iadd (v := (nI (M0.S.n + (cnB M0.S p1 (M0.S.n)) + 1))) hx hb (nI_1 _) dX4_backout_77 ?_
          refine lv_sipush (v := 2000) hx hb dX4_backout_78 (by decide) ?_
          refine lv_icmp_le (tgt := 86) hx hb dX4_backout_81 (by decide) (fun c_81_5 => ?_) (fun c_81_5 => ?_)
          · have i_81 : (((M0.S.n + (cnB M0.S p1 (M0.S.n)) + 1 : Nat) : Int) : Int) ≤ 2000 := q_le c_81_5 (l_nI (by omega)) rfl
            refine lv_aload_n hx hb dX4_backout_86 rfl (lv_at hl 0 rfl) ?_
            refine lv_iload_n hx hb dX4_backout_87 rfl (lv_at hl 1 rfl) ?_
            refine ca_i (ws := [((a 0), .inr (6, [.int M0.cd, .int (nI (M0.rg)), .ref (a 1), .ref (a 2), .ref (a 3), .ref (a 4), .ref (a 5), .ref (a 6), .ref (a 7), .ref (a 8), .int (nI (M0.S.n)), .int (nI (M0.S.ar)), .int (nI (M0.k)), .int (nI (M0.fz)), .ref (a 9), .ref (a 10), .ref (a 11), .ref (a 12)])), ((a 1), .inl (gJ g, 32, .inr (.inl M0.cs))), ((a 2), .inl (gI g, 2001, .inl M0.S.kd)), ((a 3), .inl (gI g, 2001, .inl M0.S.un)), ((a 4), .inl (gI g, 2001, .inl M0.S.ce)), ((a 5), .inl (gI g, 2001, .inl M0.S.tn)), ((a 6), .inl (gJ g, 2001, .inr (.inl M0.S.bf))), ((a 7), .inl (gJ g, 2001, .inr (.inl M0.S.af))), ((a 8), .inl (gZ g, 2001, .inl M0.S.bk)), ((a 9), .inl (gJ g, 672, .inr (.inl M0.kp))), ((a 10), .inl (gI g, 21, .inl M0.st)), ((a 11), .inl (gI g, 21, .inl M0.en)), ((a 12), .inl (gZ g, 21, .inl M0.sp))]) (va_runV (As := [.int p1]) (rest := []) ⟨hx, hb, hml, hown, hts⟩ (c_X4_takeBack l g a M0 H.size p1 (by show M0.S.n + cnB M0.S p1 M0.S.n + 1 ≤ 2000; omega) hfz hce) (cwV 1 hts gX4_backout_X4_takeBack rfl rfl rfl (by decide +kernel) ⟨Nat.le_of_ble_eq_true rfl, Nat.le_of_ble_eq_true rfl⟩) (pv_w hK hP (ci := 6) (q0 := 0) rfl rfl hP hD) rfl rfl hl.1 rfl (lv_room (Nat.le_of_ble_eq_true rfl)) dX4_backout_88 ⟨Nat.zero_le _, Nat.zero_le _⟩) hD hS hA (fun r_88_6 u_88_6 H locs h_88_6 hP hD hS => ?_)
            obtain ⟨rfl, rfl⟩ := h_88_6
            replace hP : va_P (gD g) vwCl ([((a 0), .inr (6, [.int (msT M0 p1).cd, .int (nI ((msT M0 p1).rg)), .ref (a 1), .ref (a 2), .ref (a 3), .ref (a 4), .ref (a 5), .ref (a 6), .ref (a 7), .ref (a 8), .int (nI ((msT M0 p1).S.n)), .int (nI ((msT M0 p1).S.ar)), .int (nI ((msT M0 p1).k)), .int (nI ((msT M0 p1).fz)), .ref (a 9), .ref (a 10), .ref (a 11), .ref (a 12)])), ((a 1), .inl (gJ g, 32, .inr (.inl (msT M0 p1).cs))), ((a 2), .inl (gI g, 2001, .inl (msT M0 p1).S.kd)), ((a 3), .inl (gI g, 2001, .inl (msT M0 p1).S.un)), ((a 4), .inl (gI g, 2001, .inl (msT M0 p1).S.ce)), ((a 5), .inl (gI g, 2001, .inl (msT M0 p1).S.tn)), ((a 6), .inl (gJ g, 2001, .inr (.inl (msT M0 p1).S.bf))), ((a 7), .inl (gJ g, 2001, .inr (.inl (msT M0 p1).S.af))), ((a 8), .inl (gZ g, 2001, .inl (msT M0 p1).S.bk)), ((a 9), .inl (gJ g, 672, .inr (.inl (msT M0 p1).kp))), ((a 10), .inl (gI g, 21, .inl (msT M0 p1).st)), ((a 11), .inl (gI g, 21, .inl (msT M0 p1).en)), ((a 12), .inl (gZ g, 21, .inl (msT M0 p1).sp))]) H := hP
            replace hD : va_D A ([((a 0), .inr (6, [.int (msT M0 p1).cd, .int (nI ((msT M0 p1).rg)), .ref (a 1), .ref (a 2), .ref (a 3), .ref (a 4), .ref (a 5), .ref (a 6), .ref (a 7), .ref (a 8), .int (nI ((msT M0 p1).S.n)), .int (nI ((msT M0 p1).S.ar)), .int (nI ((msT M0 p1).k)), .int (nI ((msT M0 p1).fz)), .ref (a 9), .ref (a 10), .ref (a 11), .ref (a 12)])), ((a 1), .inl (gJ g, 32, .inr (.inl (msT M0 p1).cs))), ((a 2), .inl (gI g, 2001, .inl (msT M0 p1).S.kd)), ((a 3), .inl (gI g, 2001, .inl (msT M0 p1).S.un)), ((a 4), .inl (gI g, 2001, .inl (msT M0 p1).S.ce)), ((a 5), .inl (gI g, 2001, .inl (msT M0 p1).S.tn)), ((a 6), .inl (gJ g, 2001, .inr (.inl (msT M0 p1).S.bf))), ((a 7), .inl (gJ g, 2001, .inr (.inl (msT M0 p1).S.af))), ((a 8), .inl (gZ g, 2001, .inl (msT M0 p1).S.bk)), ((a 9), .inl (gJ g, 672, .inr (.inl (msT M0 p1).kp))), ((a 10), .inl (gI g, 21, .inl (msT M0 p1).st)), ((a 11), .inl (gI g, 21, .inl (msT M0 p1).en)), ((a 12), .inl (gZ g, 21, .inl (msT M0 p1).sp))]) := hD
            have hP9 : va_P (gD g) vwCl (wM g a (msT M0 p1)) H := hP
            have hD9 : va_D A (wM g a (msT M0 p1)) := hD
            exact W.iret (v := (nI (cnB M0.S p1 M0.S.n))) hx hb hr (fun tz htz hWz => ⟨⟨(nI (cnB M0.S p1 M0.S.n)), (msT M0 p1), rfl, (by rw [← hM0]; exact (pr_mk (by unfold boM; rw [if_neg (fun h9 => h9 (by assumption)), if_neg (fun h9 => h9 (by assumption)), if_neg (fun h9 => h9 (hl0)), if_neg (by show ¬ 2000 < M0.S.n + cnB M0.S p1 M0.S.n + 1; omega)] <;> rfl))), by rw [htz]; exact hP9, hD9⟩, hS.F htz⟩) hS.2.2 dX4_backout_91
          · have i_81 : (2000 : Int) < ((M0.S.n + (cnB M0.S p1 (M0.S.n)) + 1 : Nat) : Int) := q_nle c_81_5 (l_nI (by omega)) rfl
            refine lv_iconst (v := (-1)) hx hb dX4_backout_84 (by decide) ?_
            have hP9 : va_P (gD g) vwCl (wM g a M0) H := hP
            have hD9 : va_D A (wM g a M0) := hD
            exact W.iret (v := (-1)) hx hb hr (fun tz htz hWz => ⟨⟨(-1), M0, rfl, (by rw [← hM0]; exact (pr_mk (by unfold boM; rw [if_neg (fun h9 => h9 (by assumption)), if_neg (fun h9 => h9 (by assumption)), if_neg (fun h9 => h9 (hl0)), if_pos (by show 2000 < M0.S.n + cnB M0.S p1 M0.S.n + 1; omega)] <;> rfl))), by rw [htz]; exact hP9, hD9⟩, hS.F htz⟩) hS.2.2 dX4_backout_85
        · have i_31 : (0 : Int) < ((i : Nat) : Int) := q_nle c_31_4 (l_nI (by omega)) rfl
          refine lv_aload_n hx hb dX4_backout_34 rfl (lv_at hl 0 rfl) ?_
          refine lv_iload_n hx hb dX4_backout_35 rfl (lv_at hl 2 rfl) ?_
          refine lv_iload_n hx hb dX4_backout_36 rfl (lv_at hl 1 rfl) ?_
          refine vp_callSi (va_Run.run (va_runV (As := [.int (nI (i)), .int p1]) (rest := []) ⟨hx, hb, hml, hown, hts⟩ (c_X4_isChange l g a M0 (i) (by omega) (by omega) (by omega) p1) (cwV 2 hts gX4_backout_X4_isChange rfl rfl rfl (by decide +kernel) ⟨Nat.le_of_ble_eq_true rfl, Nat.le_of_ble_eq_true rfl⟩) (pv_r hK hP (ci := 6) (q0 := 0) rfl rfl [0, 1, 2, 3, 4, 5, 6, 7, 8, 9, 10, 11, 12] rfl) rfl rfl hl.1 rfl (lv_room (Nat.le_of_ble_eq_true rfl)) dX4_backout_37 ⟨Nat.zero_le _, Nat.zero_le _⟩)) (fun r_37_5 h_37_5 => ?_)
          refine lv_if_eq (tgt := 56) hx hb dX4_backout_40 (by decide) (fun c_40_5 => ?_) (fun c_40_5 => ?_)
          · have b_40 : ¬ (isC M0.S p1 (i)) := bI_f h_37_5 c_40_5
            refine lv_iinc (v := (nI (i - 1))) (lv' := [(2, .int (nI (i - 1))), (0, .ref (a 0)), (1, .int p1)]) hx hb dX4_backout_56 hl (k := 2) rfl (sb_m1 (by omega)) (by decide) rfl (fun ls hl => ?_)
            refine lv_goto (tgt := 30) hx hb dX4_backout_59 (by decide) ?_
            exact ih (i - 1) (by omega) ls (i - 1) (lv_sub hl [1, 2, 0] rfl) (by omega) (by rw [hq]; exact lm_no (by omega) (by rintro ⟨h1, h2⟩; first | exact absurd h1 (by assumption) | exact absurd h2 (by assumption))) rfl
          · have b_40 : isC M0.S p1 (i) := bI_t h_37_5 c_40_5
            refine lv_aload_n hx hb dX4_backout_43 rfl (lv_at hl 0 rfl) ?_
            refine lv_iload_n hx hb dX4_backout_44 rfl (lv_at hl 2 rfl) ?_
            refine vp_callSi (va_Run.run (va_runV (As := [.int (nI (i))]) (rest := []) ⟨hx, hb, hml, hown, hts⟩ (c_X4_isMissing l g a M0 (i) (by omega) (by omega) (by omega)) (cwV 1 hts gX4_backout_X4_isMissing rfl rfl rfl (by decide +kernel) ⟨Nat.le_of_ble_eq_true rfl, Nat.le_of_ble_eq_true rfl⟩) (pv_r hK hP (ci := 6) (q0 := 0) rfl rfl [0, 1, 2, 3, 4, 5, 6, 7, 8, 9, 10, 11, 12] rfl) rfl rfl hl.1 rfl (lv_room (Nat.le_of_ble_eq_true rfl)) dX4_backout_45 ⟨Nat.zero_le _, Nat.zero_le _⟩)) (fun r_45_6 h_45_6 => ?_)
            refine lv_if_eq (tgt := 56) hx hb dX4_backout_48 (by decide) (fun c_48_6 => ?_) (fun c_48_6 => ?_)
            · have b_48 : ¬ (M0.S.tn (i) = 3) := bI_f h_45_6 c_48_6
              refine lv_iinc (v := (nI (i - 1))) (lv' := [(2, .int (nI (i - 1))), (0, .ref (a 0)), (1, .int p1)]) hx hb dX4_backout_56 hl (k := 2) rfl (sb_m1 (by omega)) (by decide) rfl (fun ls hl => ?_)
              refine lv_goto (tgt := 30) hx hb dX4_backout_59 (by decide) ?_
              exact ih (i - 1) (by omega) ls (i - 1) (lv_sub hl [1, 2, 0] rfl) (by omega) (by rw [hq]; exact lm_no (by omega) (by rintro ⟨h1, h2⟩; first | exact absurd h1 (by assumption) | exact absurd h2 (by assumption))) rfl
            · have b_48 : M0.S.tn (i) = 3 := bI_t h_45_6 c_48_6
              refine lv_bipush (v := (-10)) hx hb dX4_backout_51 (by decide) ?_
              refine lv_iload_n hx hb dX4_backout_53 rfl (lv_at hl 2 rfl) ?_
              refine ga_isub (v := ((-10) - (nI (i)))) hx hb (rfl) dX4_backout_54 ?_
              have hP9 : va_P (gD g) vwCl (wM g a M0) H := hP
              have hD9 : va_D A (wM g a M0) := hD
              exact W.iret (v := ((-10) - (nI (i)))) hx hb hr (fun tz htz hWz => ⟨⟨((-10) - (nI (i))), M0, rfl, (by rw [← hM0]; exact (pr_mk (by unfold boM; rw [if_neg (fun h9 => h9 (by assumption)), if_neg (fun h9 => h9 (by assumption)), if_pos (by show ¬ lmO M0.S p1 M0.S.n = 0; rw [hq, lm_yes (by omega) ⟨by assumption, by assumption⟩]; omega), hq, lm_yes (by omega) ⟨by assumption, by assumption⟩] <;> rfl))), by rw [htz]; exact hP9, hD9⟩, hS.F htz⟩) hS.2.2 dX4_backout_55
    · have b_20 : ¬ (stO M0.S p1 M0.S.n = 1) := bI_f h_17_2 c_20_2
      refine lv_iconst (v := 0) hx hb dX4_backout_23 (by decide) ?_
      have hP9 : va_P (gD g) vwCl (wM g a M0) H := hP
      have hD9 : va_D A (wM g a M0) := hD
      exact W.iret (v := 0) hx hb hr (fun tz htz hWz => ⟨⟨0, M0, rfl, (by rw [← hM0]; exact (pr_mk (by unfold boM; rw [if_neg (fun h9 => h9 (by assumption)), if_pos (by assumption)] <;> rfl))), by rw [htz]; exact hP9, hD9⟩, hS.F htz⟩) hS.2.2 dX4_backout_24
  · have b_9 : ¬ (okU p1) := bI_f h_6_1 c_9_1
    refine lv_bipush (v := (-4)) hx hb dX4_backout_12 (by decide) ?_
    have hP9 : va_P (gD g) vwCl (wM g a M0) H := hP
    have hD9 : va_D A (wM g a M0) := hD
    exact W.iret (v := (-4)) hx hb hr (fun tz htz hWz => ⟨⟨(-4), M0, rfl, (by rw [← hM0]; exact (pr_mk (by unfold boM; rw [if_pos (by assumption)] <;> rfl))), by rw [htz]; exact hP9, hD9⟩, hS.F htz⟩) hS.2.2 dX4_backout_14
set_option maxHeartbeats 4000000 in
set_option maxRecDepth 100000 in
theorem c_X4_copy (l : Launch) (g : GG) (a : Nat → Nat) (M : MS) (sz : Nat) (z : Int32) (hn : M.S.n ≤ 2000) (hfz : M.fz ≤ 20) (hk : M.k ≤ 20) (har : M.S.ar ≤ 2000) : Met l yX4_copy wsX4_copy { frames := 1, cells := 0, slots := 0, locals := 21 } (va_Pc [.ref (a 0), .int z] (Pw g (wM g a M) sz)) (va_Qi (fun rv u => rv = (cyM (msF (mC M 0)) z).1 ∧ u = (cyM (msF (mC M 0)) z).2) (Bw g (va_A (wM g a M) sz) (fun u : MS => wM g a u)) (va_A (wM g a M) sz)) 0 0 (va_A (wM g a M) sz) := by
  refine Met.ofW (cc := cX4_copy) (maxL := 3) (ret := (some .int)) (by decide) rfl ?_
  intro p e s m args below meth c s₁ B hml hv
  obtain ⟨rfl, hsz, hP, hK, hD0⟩ := hv
  have hx := B.exec
  have hb := B.bytes
  have hr := B.returns
  have hts := atoms_spec (ws := wsX4_copy) B.pre
  have hown : s.vm.findClass RX4 = some m.cls := findClass_of_methodNamed B.named
  have hlocks := B.notSynchronized
  subst hsz
  have hD := hD0.self (sz := s.heap.size)
  generalize hAe : va_A (wM g a M) s.heap.size = A at hD ⊢
  have hA : ∀ q : Nat, s.heap.size ≤ q → A q := fun q h => by rw [← hAe]; exact Or.inr h
  have hS : va_S A s.heap s.heap [] := va_S.rf
  have hl := lv_entry ([.ref (a 0), .int z]) (n := 3) (Nat.le_of_ble_eq_true rfl)
  rw [lg_entry_eq]
  generalize (lg_sl ([.ref (a 0), .int z]) ++ List.replicate (3 - (lg_sl ([.ref (a 0), .int z])).length) Slot.unset).toArray = ls at hl ⊢
  have hl : lv_has ls 3 [(0, .ref (a 0)), (1, .int z)] := hl
  replace hP : va_P (gD g) vwCl ([((a 0), .inr (6, [.int M.cd, .int (nI (M.rg)), .ref (a 1), .ref (a 2), .ref (a 3), .ref (a 4), .ref (a 5), .ref (a 6), .ref (a 7), .ref (a 8), .int (nI (M.S.n)), .int (nI (M.S.ar)), .int (nI (M.k)), .int (nI (M.fz)), .ref (a 9), .ref (a 10), .ref (a 11), .ref (a 12)])), ((a 1), .inl (gJ g, 32, .inr (.inl M.cs))), ((a 2), .inl (gI g, 2001, .inl M.S.kd)), ((a 3), .inl (gI g, 2001, .inl M.S.un)), ((a 4), .inl (gI g, 2001, .inl M.S.ce)), ((a 5), .inl (gI g, 2001, .inl M.S.tn)), ((a 6), .inl (gJ g, 2001, .inr (.inl M.S.bf))), ((a 7), .inl (gJ g, 2001, .inr (.inl M.S.af))), ((a 8), .inl (gZ g, 2001, .inl M.S.bk)), ((a 9), .inl (gJ g, 672, .inr (.inl M.kp))), ((a 10), .inl (gI g, 21, .inl M.st)), ((a 11), .inl (gI g, 21, .inl M.en)), ((a 12), .inl (gZ g, 21, .inl M.sp))]) s.heap := hP
  replace hD : va_D A ([((a 0), .inr (6, [.int M.cd, .int (nI (M.rg)), .ref (a 1), .ref (a 2), .ref (a 3), .ref (a 4), .ref (a 5), .ref (a 6), .ref (a 7), .ref (a 8), .int (nI (M.S.n)), .int (nI (M.S.ar)), .int (nI (M.k)), .int (nI (M.fz)), .ref (a 9), .ref (a 10), .ref (a 11), .ref (a 12)])), ((a 1), .inl (gJ g, 32, .inr (.inl M.cs))), ((a 2), .inl (gI g, 2001, .inl M.S.kd)), ((a 3), .inl (gI g, 2001, .inl M.S.un)), ((a 4), .inl (gI g, 2001, .inl M.S.ce)), ((a 5), .inl (gI g, 2001, .inl M.S.tn)), ((a 6), .inl (gJ g, 2001, .inr (.inl M.S.bf))), ((a 7), .inl (gJ g, 2001, .inr (.inl M.S.af))), ((a 8), .inl (gZ g, 2001, .inl M.S.bk)), ((a 9), .inl (gJ g, 672, .inr (.inl M.kp))), ((a 10), .inl (gI g, 21, .inl M.st)), ((a 11), .inl (gI g, 21, .inl M.en)), ((a 12), .inl (gZ g, 21, .inl M.sp))]) := hD
  refine lv_aload_n hx hb dX4_copy_0 rfl (lv_at hl 0 rfl) ?_
  refine lv_iconst (v := 0) hx hb dX4_copy_1 (by decide) ?_
  refine va_put (D := gD g) (ci := 6) (v := .int 0) (ty := .int) (C := RX4) (T := TX4) (N := 18) hx hb hts (by decide +kernel) tyX4 tyX4_ok nmX4 hown hK.1 hP hD hS 0 rfl rfl 0 (by decide) (hts (.fieldLink RX4 52 "LogForwardModel" "code" "I") (by decide +kernel)) (fun _ h9 => h9) rfl (by decide +kernel) rfl rfl (Nat.le_of_ble_eq_true rfl) dX4_copy_2 (fun H locs hP hD hS => ?_)
  have hP : va_P (gD g) vwCl ([((a 0), .inr (6, [.int 0, .int (nI (M.rg)), .ref (a 1), .ref (a 2), .ref (a 3), .ref (a 4), .ref (a 5), .ref (a 6), .ref (a 7), .ref (a 8), .int (nI (M.S.n)), .int (nI (M.S.ar)), .int (nI (M.k)), .int (nI (M.fz)), .ref (a 9), .ref (a 10), .ref (a 11), .ref (a 12)])), ((a 1), .inl (gJ g, 32, .inr (.inl M.cs))), ((a 2), .inl (gI g, 2001, .inl M.S.kd)), ((a 3), .inl (gI g, 2001, .inl M.S.un)), ((a 4), .inl (gI g, 2001, .inl M.S.ce)), ((a 5), .inl (gI g, 2001, .inl M.S.tn)), ((a 6), .inl (gJ g, 2001, .inr (.inl M.S.bf))), ((a 7), .inl (gJ g, 2001, .inr (.inl M.S.af))), ((a 8), .inl (gZ g, 2001, .inl M.S.bk)), ((a 9), .inl (gJ g, 672, .inr (.inl M.kp))), ((a 10), .inl (gI g, 21, .inl M.st)), ((a 11), .inl (gI g, 21, .inl M.en)), ((a 12), .inl (gZ g, 21, .inl M.sp))]) H := hP
  have hD : va_D A ([((a 0), .inr (6, [.int 0, .int (nI (M.rg)), .ref (a 1), .ref (a 2), .ref (a 3), .ref (a 4), .ref (a 5), .ref (a 6), .ref (a 7), .ref (a 8), .int (nI (M.S.n)), .int (nI (M.S.ar)), .int (nI (M.k)), .int (nI (M.fz)), .ref (a 9), .ref (a 10), .ref (a 11), .ref (a 12)])), ((a 1), .inl (gJ g, 32, .inr (.inl M.cs))), ((a 2), .inl (gI g, 2001, .inl M.S.kd)), ((a 3), .inl (gI g, 2001, .inl M.S.un)), ((a 4), .inl (gI g, 2001, .inl M.S.ce)), ((a 5), .inl (gI g, 2001, .inl M.S.tn)), ((a 6), .inl (gJ g, 2001, .inr (.inl M.S.bf))), ((a 7), .inl (gJ g, 2001, .inr (.inl M.S.af))), ((a 8), .inl (gZ g, 2001, .inl M.S.bk)), ((a 9), .inl (gJ g, 672, .inr (.inl M.kp))), ((a 10), .inl (gI g, 21, .inl M.st)), ((a 11), .inl (gI g, 21, .inl M.en)), ((a 12), .inl (gZ g, 21, .inl M.sp))]) := hD
  obtain ⟨M0, hM0⟩ : ∃ M0 : MS, M0 = mC M 0 := ⟨_, rfl⟩
  replace hP : va_P (gD g) vwCl ([((a 0), .inr (6, [.int M0.cd, .int (nI (M0.rg)), .ref (a 1), .ref (a 2), .ref (a 3), .ref (a 4), .ref (a 5), .ref (a 6), .ref (a 7), .ref (a 8), .int (nI (M0.S.n)), .int (nI (M0.S.ar)), .int (nI (M0.k)), .int (nI (M0.fz)), .ref (a 9), .ref (a 10), .ref (a 11), .ref (a 12)])), ((a 1), .inl (gJ g, 32, .inr (.inl M0.cs))), ((a 2), .inl (gI g, 2001, .inl M0.S.kd)), ((a 3), .inl (gI g, 2001, .inl M0.S.un)), ((a 4), .inl (gI g, 2001, .inl M0.S.ce)), ((a 5), .inl (gI g, 2001, .inl M0.S.tn)), ((a 6), .inl (gJ g, 2001, .inr (.inl M0.S.bf))), ((a 7), .inl (gJ g, 2001, .inr (.inl M0.S.af))), ((a 8), .inl (gZ g, 2001, .inl M0.S.bk)), ((a 9), .inl (gJ g, 672, .inr (.inl M0.kp))), ((a 10), .inl (gI g, 21, .inl M0.st)), ((a 11), .inl (gI g, 21, .inl M0.en)), ((a 12), .inl (gZ g, 21, .inl M0.sp))]) H := by rw [hM0]; exact hP
  replace hD : va_D A ([((a 0), .inr (6, [.int M0.cd, .int (nI (M0.rg)), .ref (a 1), .ref (a 2), .ref (a 3), .ref (a 4), .ref (a 5), .ref (a 6), .ref (a 7), .ref (a 8), .int (nI (M0.S.n)), .int (nI (M0.S.ar)), .int (nI (M0.k)), .int (nI (M0.fz)), .ref (a 9), .ref (a 10), .ref (a 11), .ref (a 12)])), ((a 1), .inl (gJ g, 32, .inr (.inl M0.cs))), ((a 2), .inl (gI g, 2001, .inl M0.S.kd)), ((a 3), .inl (gI g, 2001, .inl M0.S.un)), ((a 4), .inl (gI g, 2001, .inl M0.S.ce)), ((a 5), .inl (gI g, 2001, .inl M0.S.tn)), ((a 6), .inl (gJ g, 2001, .inr (.inl M0.S.bf))), ((a 7), .inl (gJ g, 2001, .inr (.inl M0.S.af))), ((a 8), .inl (gZ g, 2001, .inl M0.S.bk)), ((a 9), .inl (gJ g, 672, .inr (.inl M0.kp))), ((a 10), .inl (gI g, 21, .inl M0.st)), ((a 11), .inl (gI g, 21, .inl M0.en)), ((a 12), .inl (gZ g, 21, .inl M0.sp))]) := by rw [hM0]; exact hD
  have hn : M0.S.n ≤ 2000 := by rw [hM0]; exact hn
  have hfz : M0.fz ≤ 20 := by rw [hM0]; exact hfz
  have hk : M0.k ≤ 20 := by rw [hM0]; exact hk
  have har : M0.S.ar ≤ 2000 := by rw [hM0]; exact har
  refine lv_aload_n hx hb dX4_copy_5 rfl (lv_at hl 0 rfl) ?_
  refine ca_v (ws := [((a 0), .inr (6, [.int M0.cd, .int (nI (M0.rg)), .ref (a 1), .ref (a 2), .ref (a 3), .ref (a 4), .ref (a 5), .ref (a 6), .ref (a 7), .ref (a 8), .int (nI (M0.S.n)), .int (nI (M0.S.ar)), .int (nI (M0.k)), .int (nI (M0.fz)), .ref (a 9), .ref (a 10), .ref (a 11), .ref (a 12)])), ((a 1), .inl (gJ g, 32, .inr (.inl M0.cs))), ((a 2), .inl (gI g, 2001, .inl M0.S.kd)), ((a 3), .inl (gI g, 2001, .inl M0.S.un)), ((a 4), .inl (gI g, 2001, .inl M0.S.ce)), ((a 5), .inl (gI g, 2001, .inl M0.S.tn)), ((a 6), .inl (gJ g, 2001, .inr (.inl M0.S.bf))), ((a 7), .inl (gJ g, 2001, .inr (.inl M0.S.af))), ((a 8), .inl (gZ g, 2001, .inl M0.S.bk)), ((a 9), .inl (gJ g, 672, .inr (.inl M0.kp))), ((a 10), .inl (gI g, 21, .inl M0.st)), ((a 11), .inl (gI g, 21, .inl M0.en)), ((a 12), .inl (gZ g, 21, .inl M0.sp))]) (va_runV (As := []) (rest := []) ⟨hx, hb, hml, hown, hts⟩ (c_X4_finish l g a M0 H.size hfz hn) (cwV 0 hts gX4_copy_X4_finish rfl rfl rfl (by decide +kernel) ⟨Nat.le_of_ble_eq_true rfl, Nat.le_of_ble_eq_true rfl⟩) (pv_w hK hP (ci := 6) (q0 := 0) rfl rfl hP hD) rfl rfl hl.1 rfl (lv_room (Nat.le_of_ble_eq_true rfl)) dX4_copy_6 ⟨Nat.zero_le _, Nat.zero_le _⟩) hD hS hA (fun F H locs h_6_1 hP hD hS => ?_)
  obtain ⟨f1, f2, f3, f4, f5, f6, f7, f8⟩ := msF_S M0
  rw [← h_6_1] at f1 f2 f3 f4 f5 f6 f7 f8
  have hFk : F.k ≤ 20 := by rw [f2]; exact hk
  have hFn : F.S.n ≤ 2000 := by rw [f1]; exact hn
  have hFa : F.S.ar ≤ 2000 := by rw [f1]; exact har
  replace hP : va_P (gD g) vwCl ([((a 0), .inr (6, [.int F.cd, .int (nI (F.rg)), .ref (a 1), .ref (a 2), .ref (a 3), .ref (a 4), .ref (a 5), .ref (a 6), .ref (a 7), .ref (a 8), .int (nI (F.S.n)), .int (nI (F.S.ar)), .int (nI (F.k)), .int (nI (F.fz)), .ref (a 9), .ref (a 10), .ref (a 11), .ref (a 12)])), ((a 1), .inl (gJ g, 32, .inr (.inl F.cs))), ((a 2), .inl (gI g, 2001, .inl F.S.kd)), ((a 3), .inl (gI g, 2001, .inl F.S.un)), ((a 4), .inl (gI g, 2001, .inl F.S.ce)), ((a 5), .inl (gI g, 2001, .inl F.S.tn)), ((a 6), .inl (gJ g, 2001, .inr (.inl F.S.bf))), ((a 7), .inl (gJ g, 2001, .inr (.inl F.S.af))), ((a 8), .inl (gZ g, 2001, .inl F.S.bk)), ((a 9), .inl (gJ g, 672, .inr (.inl F.kp))), ((a 10), .inl (gI g, 21, .inl F.st)), ((a 11), .inl (gI g, 21, .inl F.en)), ((a 12), .inl (gZ g, 21, .inl F.sp))]) H := hP
  replace hD : va_D A ([((a 0), .inr (6, [.int F.cd, .int (nI (F.rg)), .ref (a 1), .ref (a 2), .ref (a 3), .ref (a 4), .ref (a 5), .ref (a 6), .ref (a 7), .ref (a 8), .int (nI (F.S.n)), .int (nI (F.S.ar)), .int (nI (F.k)), .int (nI (F.fz)), .ref (a 9), .ref (a 10), .ref (a 11), .ref (a 12)])), ((a 1), .inl (gJ g, 32, .inr (.inl F.cs))), ((a 2), .inl (gI g, 2001, .inl F.S.kd)), ((a 3), .inl (gI g, 2001, .inl F.S.un)), ((a 4), .inl (gI g, 2001, .inl F.S.ce)), ((a 5), .inl (gI g, 2001, .inl F.S.tn)), ((a 6), .inl (gJ g, 2001, .inr (.inl F.S.bf))), ((a 7), .inl (gJ g, 2001, .inr (.inl F.S.af))), ((a 8), .inl (gZ g, 2001, .inl F.S.bk)), ((a 9), .inl (gJ g, 672, .inr (.inl F.kp))), ((a 10), .inl (gI g, 21, .inl F.st)), ((a 11), .inl (gI g, 21, .inl F.en)), ((a 12), .inl (gZ g, 21, .inl F.sp))]) := hD
  refine lv_aload_n hx hb dX4_copy_9 rfl (lv_at hl 0 rfl) ?_
  refine va_get (D := gD g) (ci := 6) (v := .int (nI (F.k))) (C := RX4) (T := TX4) (N := 18) hx hb hts (by decide +kernel) hown hK.1 hP 0 rfl rfl 12 (by decide) (hts (.fieldLink RX4 99 "LogForwardModel" "images" "I") (by decide +kernel)) (fun _ h9 => h9) rfl dX4_copy_10 ?_
  refine lv_bipush (v := 20) hx hb dX4_copy_13 (by decide) ?_
  refine lv_icmp_ne (tgt := 20) hx hb dX4_copy_15 (by decide) (fun c_15_1 => ?_) (fun c_15_1 => ?_)
  · have i_15 : (((F.k : Nat) : Int) : Int) ≠ 20 := q_ne c_15_1 (l_nI (by omega)) rfl
    refine lv_aload_n hx hb dX4_copy_20 rfl (lv_at hl 0 rfl) ?_
    refine lv_dup hx hb dX4_copy_21 rfl ?_
    refine va_get (D := gD g) (ci := 6) (v := .int (nI (F.k))) (C := RX4) (T := TX4) (N := 18) hx hb hts (by decide +kernel) hown hK.1 hP 0 rfl rfl 12 (by decide) (hts (.fieldLink RX4 99 "LogForwardModel" "images" "I") (by decide +kernel)) (fun _ h9 => h9) rfl dX4_copy_22 ?_
    refine lv_iconst (v := 1) hx hb dX4_copy_25 (by decide) ?_
    refine ga_iadd (v := (nI (F.k + 1))) hx hb (nI_1 _) dX4_copy_26 ?_
    refine va_put (D := gD g) (ci := 6) (v := .int (nI (F.k + 1))) (ty := .int) (C := RX4) (T := TX4) (N := 18) hx hb hts (by decide +kernel) tyX4 tyX4_ok nmX4 hown hK.1 hP hD hS 0 rfl rfl 12 (by decide) (hts (.fieldLink RX4 99 "LogForwardModel" "images" "I") (by decide +kernel)) (fun _ h9 => h9) rfl (by decide +kernel) rfl rfl (Nat.le_of_ble_eq_true rfl) dX4_copy_27 (fun H locs hP hD hS => ?_)
    have hP : va_P (gD g) vwCl ([((a 0), .inr (6, [.int F.cd, .int (nI (F.rg)), .ref (a 1), .ref (a 2), .ref (a 3), .ref (a 4), .ref (a 5), .ref (a 6), .ref (a 7), .ref (a 8), .int (nI (F.S.n)), .int (nI (F.S.ar)), .int (nI (F.k + 1)), .int (nI (F.fz)), .ref (a 9), .ref (a 10), .ref (a 11), .ref (a 12)])), ((a 1), .inl (gJ g, 32, .inr (.inl F.cs))), ((a 2), .inl (gI g, 2001, .inl F.S.kd)), ((a 3), .inl (gI g, 2001, .inl F.S.un)), ((a 4), .inl (gI g, 2001, .inl F.S.ce)), ((a 5), .inl (gI g, 2001, .inl F.S.tn)), ((a 6), .inl (gJ g, 2001, .inr (.inl F.S.bf))), ((a 7), .inl (gJ g, 2001, .inr (.inl F.S.af))), ((a 8), .inl (gZ g, 2001, .inl F.S.bk)), ((a 9), .inl (gJ g, 672, .inr (.inl F.kp))), ((a 10), .inl (gI g, 21, .inl F.st)), ((a 11), .inl (gI g, 21, .inl F.en)), ((a 12), .inl (gZ g, 21, .inl F.sp))]) H := hP
    have hD : va_D A ([((a 0), .inr (6, [.int F.cd, .int (nI (F.rg)), .ref (a 1), .ref (a 2), .ref (a 3), .ref (a 4), .ref (a 5), .ref (a 6), .ref (a 7), .ref (a 8), .int (nI (F.S.n)), .int (nI (F.S.ar)), .int (nI (F.k + 1)), .int (nI (F.fz)), .ref (a 9), .ref (a 10), .ref (a 11), .ref (a 12)])), ((a 1), .inl (gJ g, 32, .inr (.inl F.cs))), ((a 2), .inl (gI g, 2001, .inl F.S.kd)), ((a 3), .inl (gI g, 2001, .inl F.S.un)), ((a 4), .inl (gI g, 2001, .inl F.S.ce)), ((a 5), .inl (gI g, 2001, .inl F.S.tn)), ((a 6), .inl (gJ g, 2001, .inr (.inl F.S.bf))), ((a 7), .inl (gJ g, 2001, .inr (.inl F.S.af))), ((a 8), .inl (gZ g, 2001, .inl F.S.bk)), ((a 9), .inl (gJ g, 672, .inr (.inl F.kp))), ((a 10), .inl (gI g, 21, .inl F.st)), ((a 11), .inl (gI g, 21, .inl F.en)), ((a 12), .inl (gZ g, 21, .inl F.sp))]) := hD
    refine lv_iconst (v := 0) hx hb dX4_copy_30 (by decide) ?_
    refine lv_istore_n (lv' := [(2, .int 0), (0, .ref (a 0)), (1, .int z)]) hx hb dX4_copy_31 rfl hl (by decide) rfl (fun ls hl => ?_)
    refine g_heap (fun H locs hH1 hL1 => ?_)
    obtain ⟨kp1, hk1⟩ : ∃ kp1 : Nat → Int64, kp1 = va_cpy F.cs F.kp 0 (32 * (F.k + 1)) 0 := ⟨_, rfl⟩
    obtain ⟨i, hi⟩ : ∃ i : Nat, i = 0 := ⟨_, rfl⟩
    replace hl : lv_has ls 3 [(0, .ref (a 0)), (1, .int z), (2, .int (nI (i)))] := by subst hi; exact lv_sub hl [1, 2, 0] rfl
    replace hP : va_P (gD g) vwCl ([((a 0), .inr (6, [.int F.cd, .int (nI (F.rg)), .ref (a 1), .ref (a 2), .ref (a 3), .ref (a 4), .ref (a 5), .ref (a 6), .ref (a 7), .ref (a 8), .int (nI (F.S.n)), .int (nI (F.S.ar)), .int (nI (F.k + 1)), .int (nI (F.fz)), .ref (a 9), .ref (a 10), .ref (a 11), .ref (a 12)])), ((a 1), .inl (gJ g, 32, .inr (.inl F.cs))), ((a 2), .inl (gI g, 2001, .inl F.S.kd)), ((a 3), .inl (gI g, 2001, .inl F.S.un)), ((a 4), .inl (gI g, 2001, .inl F.S.ce)), ((a 5), .inl (gI g, 2001, .inl F.S.tn)), ((a 6), .inl (gJ g, 2001, .inr (.inl F.S.bf))), ((a 7), .inl (gJ g, 2001, .inr (.inl F.S.af))), ((a 8), .inl (gZ g, 2001, .inl F.S.bk)), ((a 9), .inl (gJ g, 672, .inr (.inl kp1))), ((a 10), .inl (gI g, 21, .inl F.st)), ((a 11), .inl (gI g, 21, .inl F.en)), ((a 12), .inl (gZ g, 21, .inl F.sp))]) H := by rw [hH1, hk1, cpy_0]; exact hP
    replace hD : va_D A ([((a 0), .inr (6, [.int F.cd, .int (nI (F.rg)), .ref (a 1), .ref (a 2), .ref (a 3), .ref (a 4), .ref (a 5), .ref (a 6), .ref (a 7), .ref (a 8), .int (nI (F.S.n)), .int (nI (F.S.ar)), .int (nI (F.k + 1)), .int (nI (F.fz)), .ref (a 9), .ref (a 10), .ref (a 11), .ref (a 12)])), ((a 1), .inl (gJ g, 32, .inr (.inl F.cs))), ((a 2), .inl (gI g, 2001, .inl F.S.kd)), ((a 3), .inl (gI g, 2001, .inl F.S.un)), ((a 4), .inl (gI g, 2001, .inl F.S.ce)), ((a 5), .inl (gI g, 2001, .inl F.S.tn)), ((a 6), .inl (gJ g, 2001, .inr (.inl F.S.bf))), ((a 7), .inl (gJ g, 2001, .inr (.inl F.S.af))), ((a 8), .inl (gZ g, 2001, .inl F.S.bk)), ((a 9), .inl (gJ g, 672, .inr (.inl kp1))), ((a 10), .inl (gI g, 21, .inl F.st)), ((a 11), .inl (gI g, 21, .inl F.en)), ((a 12), .inl (gZ g, 21, .inl F.sp))]) := by rw [hk1, cpy_0]; exact hD
    replace hS : va_S A s.heap H locs := by rw [hH1, hL1]; exact hS
    replace hk1 : kp1 = va_cpy F.cs F.kp 0 (32 * (F.k + 1)) i := by rw [hk1, hi]
    have hi2 : i ≤ 32 := by omega
    clear hi hH1 hL1
    obtain ⟨d, hd⟩ : ∃ d, 32 - i = d := ⟨_, rfl⟩
    induction d using Nat.strongRecOn generalizing i kp1 ls H locs with
    | ind d ih =>
      refine lv_iload_n hx hb dX4_copy_32 rfl (lv_at hl 2 rfl) ?_
      refine lv_bipush (v := 32) hx hb dX4_copy_33 (by decide) ?_
      refine lv_icmp_ge (tgt := 64) hx hb dX4_copy_35 (by decide) (fun c_35_3 => ?_) (fun c_35_3 => ?_)
      · have i_35 : (32 : Int) ≤ ((i : Nat) : Int) := q_le c_35_3 rfl (l_nI (by omega))
        refine lv_aload_n hx hb dX4_copy_64 rfl (lv_at hl 0 rfl) ?_
        refine va_get (D := gD g) (ci := 6) (v := .ref (a 10)) (C := RX4) (T := TX4) (N := 18) hx hb hts (by decide +kernel) hown hK.1 hP 0 rfl rfl 15 (by decide) (hts (.fieldLink RX4 39 "LogForwardModel" "starts" "[I") (by decide +kernel)) (fun _ h9 => h9) rfl dX4_copy_65 ?_
        refine lv_aload_n hx hb dX4_copy_68 rfl (lv_at hl 0 rfl) ?_
        refine va_get (D := gD g) (ci := 6) (v := .int (nI (F.k + 1))) (C := RX4) (T := TX4) (N := 18) hx hb hts (by decide +kernel) hown hK.1 hP 0 rfl rfl 12 (by decide) (hts (.fieldLink RX4 99 "LogForwardModel" "images" "I") (by decide +kernel)) (fun _ h9 => h9) rfl dX4_copy_69 ?_
        refine lv_aload_n hx hb dX4_copy_72 rfl (lv_at hl 0 rfl) ?_
        refine va_get (D := gD g) (ci := 6) (v := .int (nI (F.S.n))) (C := RX4) (T := TX4) (N := 18) hx hb hts (by decide +kernel) hown hK.1 hP 0 rfl rfl 10 (by decide) (hts (.fieldLink RX4 55 "LogForwardModel" "rows" "I") (by decide +kernel)) (fun _ h9 => h9) rfl dX4_copy_73 ?_
        refine ga_iast (j := F.k + 1) hx hb hK.1 hP hD hS 10 0 rfl rfl (v_nI (by omega) (by omega)) (c_nI (by omega)) dX4_copy_76 (fun H locs hP hD hS => ?_)
        have hP : va_P (gD g) vwCl ([((a 0), .inr (6, [.int F.cd, .int (nI (F.rg)), .ref (a 1), .ref (a 2), .ref (a 3), .ref (a 4), .ref (a 5), .ref (a 6), .ref (a 7), .ref (a 8), .int (nI (F.S.n)), .int (nI (F.S.ar)), .int (nI (F.k + 1)), .int (nI (F.fz)), .ref (a 9), .ref (a 10), .ref (a 11), .ref (a 12)])), ((a 1), .inl (gJ g, 32, .inr (.inl F.cs))), ((a 2), .inl (gI g, 2001, .inl F.S.kd)), ((a 3), .inl (gI g, 2001, .inl F.S.un)), ((a 4), .inl (gI g, 2001, .inl F.S.ce)), ((a 5), .inl (gI g, 2001, .inl F.S.tn)), ((a 6), .inl (gJ g, 2001, .inr (.inl F.S.bf))), ((a 7), .inl (gJ g, 2001, .inr (.inl F.S.af))), ((a 8), .inl (gZ g, 2001, .inl F.S.bk)), ((a 9), .inl (gJ g, 672, .inr (.inl kp1))), ((a 10), .inl (gI g, 21, .inl (upd F.st (F.k + 1) (nI (F.S.n))))), ((a 11), .inl (gI g, 21, .inl F.en)), ((a 12), .inl (gZ g, 21, .inl F.sp))]) H := hP
        have hD : va_D A ([((a 0), .inr (6, [.int F.cd, .int (nI (F.rg)), .ref (a 1), .ref (a 2), .ref (a 3), .ref (a 4), .ref (a 5), .ref (a 6), .ref (a 7), .ref (a 8), .int (nI (F.S.n)), .int (nI (F.S.ar)), .int (nI (F.k + 1)), .int (nI (F.fz)), .ref (a 9), .ref (a 10), .ref (a 11), .ref (a 12)])), ((a 1), .inl (gJ g, 32, .inr (.inl F.cs))), ((a 2), .inl (gI g, 2001, .inl F.S.kd)), ((a 3), .inl (gI g, 2001, .inl F.S.un)), ((a 4), .inl (gI g, 2001, .inl F.S.ce)), ((a 5), .inl (gI g, 2001, .inl F.S.tn)), ((a 6), .inl (gJ g, 2001, .inr (.inl F.S.bf))), ((a 7), .inl (gJ g, 2001, .inr (.inl F.S.af))), ((a 8), .inl (gZ g, 2001, .inl F.S.bk)), ((a 9), .inl (gJ g, 672, .inr (.inl kp1))), ((a 10), .inl (gI g, 21, .inl (upd F.st (F.k + 1) (nI (F.S.n))))), ((a 11), .inl (gI g, 21, .inl F.en)), ((a 12), .inl (gZ g, 21, .inl F.sp))]) := hD
        refine lv_aload_n hx hb dX4_copy_77 rfl (lv_at hl 0 rfl) ?_
        refine va_get (D := gD g) (ci := 6) (v := .ref (a 11)) (C := RX4) (T := TX4) (N := 18) hx hb hts (by decide +kernel) hown hK.1 hP 0 rfl rfl 16 (by decide) (hts (.fieldLink RX4 42 "LogForwardModel" "ends" "[I") (by decide +kernel)) (fun _ h9 => h9) rfl dX4_copy_78 ?_
        refine lv_aload_n hx hb dX4_copy_81 rfl (lv_at hl 0 rfl) ?_
        refine va_get (D := gD g) (ci := 6) (v := .int (nI (F.k + 1))) (C := RX4) (T := TX4) (N := 18) hx hb hts (by decide +kernel) hown hK.1 hP 0 rfl rfl 12 (by decide) (hts (.fieldLink RX4 99 "LogForwardModel" "images" "I") (by decide +kernel)) (fun _ h9 => h9) rfl dX4_copy_82 ?_
        refine lv_aload_n hx hb dX4_copy_85 rfl (lv_at hl 0 rfl) ?_
        refine va_get (D := gD g) (ci := 6) (v := .int (nI (F.S.n))) (C := RX4) (T := TX4) (N := 18) hx hb hts (by decide +kernel) hown hK.1 hP 0 rfl rfl 10 (by decide) (hts (.fieldLink RX4 55 "LogForwardModel" "rows" "I") (by decide +kernel)) (fun _ h9 => h9) rfl dX4_copy_86 ?_
        refine ga_iast (j := F.k + 1) hx hb hK.1 hP hD hS 11 0 rfl rfl (v_nI (by omega) (by omega)) (c_nI (by omega)) dX4_copy_89 (fun H locs hP hD hS => ?_)
        have hP : va_P (gD g) vwCl ([((a 0), .inr (6, [.int F.cd, .int (nI (F.rg)), .ref (a 1), .ref (a 2), .ref (a 3), .ref (a 4), .ref (a 5), .ref (a 6), .ref (a 7), .ref (a 8), .int (nI (F.S.n)), .int (nI (F.S.ar)), .int (nI (F.k + 1)), .int (nI (F.fz)), .ref (a 9), .ref (a 10), .ref (a 11), .ref (a 12)])), ((a 1), .inl (gJ g, 32, .inr (.inl F.cs))), ((a 2), .inl (gI g, 2001, .inl F.S.kd)), ((a 3), .inl (gI g, 2001, .inl F.S.un)), ((a 4), .inl (gI g, 2001, .inl F.S.ce)), ((a 5), .inl (gI g, 2001, .inl F.S.tn)), ((a 6), .inl (gJ g, 2001, .inr (.inl F.S.bf))), ((a 7), .inl (gJ g, 2001, .inr (.inl F.S.af))), ((a 8), .inl (gZ g, 2001, .inl F.S.bk)), ((a 9), .inl (gJ g, 672, .inr (.inl kp1))), ((a 10), .inl (gI g, 21, .inl (upd F.st (F.k + 1) (nI (F.S.n))))), ((a 11), .inl (gI g, 21, .inl (upd F.en (F.k + 1) (nI (F.S.n))))), ((a 12), .inl (gZ g, 21, .inl F.sp))]) H := hP
        have hD : va_D A ([((a 0), .inr (6, [.int F.cd, .int (nI (F.rg)), .ref (a 1), .ref (a 2), .ref (a 3), .ref (a 4), .ref (a 5), .ref (a 6), .ref (a 7), .ref (a 8), .int (nI (F.S.n)), .int (nI (F.S.ar)), .int (nI (F.k + 1)), .int (nI (F.fz)), .ref (a 9), .ref (a 10), .ref (a 11), .ref (a 12)])), ((a 1), .inl (gJ g, 32, .inr (.inl F.cs))), ((a 2), .inl (gI g, 2001, .inl F.S.kd)), ((a 3), .inl (gI g, 2001, .inl F.S.un)), ((a 4), .inl (gI g, 2001, .inl F.S.ce)), ((a 5), .inl (gI g, 2001, .inl F.S.tn)), ((a 6), .inl (gJ g, 2001, .inr (.inl F.S.bf))), ((a 7), .inl (gJ g, 2001, .inr (.inl F.S.af))), ((a 8), .inl (gZ g, 2001, .inl F.S.bk)), ((a 9), .inl (gJ g, 672, .inr (.inl kp1))), ((a 10), .inl (gI g, 21, .inl (upd F.st (F.k + 1) (nI (F.S.n))))), ((a 11), .inl (gI g, 21, .inl (upd F.en (F.k + 1) (nI (F.S.n))))), ((a 12), .inl (gZ g, 21, .inl F.sp))]) := hD
        refine lv_aload_n hx hb dX4_copy_90 rfl (lv_at hl 0 rfl) ?_
        refine va_get (D := gD g) (ci := 6) (v := .ref (a 12)) (C := RX4) (T := TX4) (N := 18) hx hb hts (by decide +kernel) hown hK.1 hP 0 rfl rfl 17 (by decide) (hts (.fieldLink RX4 45 "LogForwardModel" "bad" "[Z") (by decide +kernel)) (fun _ h9 => h9) rfl dX4_copy_91 ?_
        refine lv_aload_n hx hb dX4_copy_94 rfl (lv_at hl 0 rfl) ?_
        refine va_get (D := gD g) (ci := 6) (v := .int (nI (F.k + 1))) (C := RX4) (T := TX4) (N := 18) hx hb hts (by decide +kernel) hown hK.1 hP 0 rfl rfl 12 (by decide) (hts (.fieldLink RX4 99 "LogForwardModel" "images" "I") (by decide +kernel)) (fun _ h9 => h9) rfl dX4_copy_95 ?_
        refine lv_iconst (v := 0) hx hb dX4_copy_98 (by decide) ?_
        refine ga_zast (j := F.k + 1) hx hb hK.1 hP hD hS 12 2 rfl rfl (v_nI (by omega) (by omega)) (c_nI (by omega)) rfl dX4_copy_99 (fun H locs hP hD hS => ?_)
        have hP : va_P (gD g) vwCl ([((a 0), .inr (6, [.int F.cd, .int (nI (F.rg)), .ref (a 1), .ref (a 2), .ref (a 3), .ref (a 4), .ref (a 5), .ref (a 6), .ref (a 7), .ref (a 8), .int (nI (F.S.n)), .int (nI (F.S.ar)), .int (nI (F.k + 1)), .int (nI (F.fz)), .ref (a 9), .ref (a 10), .ref (a 11), .ref (a 12)])), ((a 1), .inl (gJ g, 32, .inr (.inl F.cs))), ((a 2), .inl (gI g, 2001, .inl F.S.kd)), ((a 3), .inl (gI g, 2001, .inl F.S.un)), ((a 4), .inl (gI g, 2001, .inl F.S.ce)), ((a 5), .inl (gI g, 2001, .inl F.S.tn)), ((a 6), .inl (gJ g, 2001, .inr (.inl F.S.bf))), ((a 7), .inl (gJ g, 2001, .inr (.inl F.S.af))), ((a 8), .inl (gZ g, 2001, .inl F.S.bk)), ((a 9), .inl (gJ g, 672, .inr (.inl kp1))), ((a 10), .inl (gI g, 21, .inl (upd F.st (F.k + 1) (nI (F.S.n))))), ((a 11), .inl (gI g, 21, .inl (upd F.en (F.k + 1) (nI (F.S.n))))), ((a 12), .inl (gZ g, 21, .inl (upd F.sp (F.k + 1) 0)))]) H := hP
        have hD : va_D A ([((a 0), .inr (6, [.int F.cd, .int (nI (F.rg)), .ref (a 1), .ref (a 2), .ref (a 3), .ref (a 4), .ref (a 5), .ref (a 6), .ref (a 7), .ref (a 8), .int (nI (F.S.n)), .int (nI (F.S.ar)), .int (nI (F.k + 1)), .int (nI (F.fz)), .ref (a 9), .ref (a 10), .ref (a 11), .ref (a 12)])), ((a 1), .inl (gJ g, 32, .inr (.inl F.cs))), ((a 2), .inl (gI g, 2001, .inl F.S.kd)), ((a 3), .inl (gI g, 2001, .inl F.S.un)), ((a 4), .inl (gI g, 2001, .inl F.S.ce)), ((a 5), .inl (gI g, 2001, .inl F.S.tn)), ((a 6), .inl (gJ g, 2001, .inr (.inl F.S.bf))), ((a 7), .inl (gJ g, 2001, .inr (.inl F.S.af))), ((a 8), .inl (gZ g, 2001, .inl F.S.bk)), ((a 9), .inl (gJ g, 672, .inr (.inl kp1))), ((a 10), .inl (gI g, 21, .inl (upd F.st (F.k + 1) (nI (F.S.n))))), ((a 11), .inl (gI g, 21, .inl (upd F.en (F.k + 1) (nI (F.S.n))))), ((a 12), .inl (gZ g, 21, .inl (upd F.sp (F.k + 1) 0)))]) := hD
        refine lv_aload_n hx hb dX4_copy_100 rfl (lv_at hl 0 rfl) ?_
        refine lv_iload_n hx hb dX4_copy_101 rfl (lv_at hl 1 rfl) ?_
        refine lv_if_eq (tgt := 112) hx hb dX4_copy_102 (by decide) (fun c_102_4 => ?_) (fun c_102_4 => ?_)
        · have i_102 : (z.toInt : Int) = 0 := q_eq c_102_4 rfl rfl
          refine lv_iconst (v := 0) hx hb dX4_copy_112 (by decide) ?_
          refine va_put (D := gD g) (ci := 6) (v := .int 0) (ty := .int) (C := RX4) (T := TX4) (N := 18) hx hb hts (by decide +kernel) tyX4 tyX4_ok nmX4 hown hK.1 hP hD hS 0 rfl rfl 13 (by decide) (hts (.fieldLink RX4 66 "LogForwardModel" "fuzzy" "I") (by decide +kernel)) (fun _ h9 => h9) rfl (by decide +kernel) rfl rfl (Nat.le_of_ble_eq_true rfl) dX4_copy_113 (fun H locs hP hD hS => ?_)
          have hP : va_P (gD g) vwCl ([((a 0), .inr (6, [.int F.cd, .int (nI (F.rg)), .ref (a 1), .ref (a 2), .ref (a 3), .ref (a 4), .ref (a 5), .ref (a 6), .ref (a 7), .ref (a 8), .int (nI (F.S.n)), .int (nI (F.S.ar)), .int (nI (F.k + 1)), .int 0, .ref (a 9), .ref (a 10), .ref (a 11), .ref (a 12)])), ((a 1), .inl (gJ g, 32, .inr (.inl F.cs))), ((a 2), .inl (gI g, 2001, .inl F.S.kd)), ((a 3), .inl (gI g, 2001, .inl F.S.un)), ((a 4), .inl (gI g, 2001, .inl F.S.ce)), ((a 5), .inl (gI g, 2001, .inl F.S.tn)), ((a 6), .inl (gJ g, 2001, .inr (.inl F.S.bf))), ((a 7), .inl (gJ g, 2001, .inr (.inl F.S.af))), ((a 8), .inl (gZ g, 2001, .inl F.S.bk)), ((a 9), .inl (gJ g, 672, .inr (.inl kp1))), ((a 10), .inl (gI g, 21, .inl (upd F.st (F.k + 1) (nI (F.S.n))))), ((a 11), .inl (gI g, 21, .inl (upd F.en (F.k + 1) (nI (F.S.n))))), ((a 12), .inl (gZ g, 21, .inl (upd F.sp (F.k + 1) 0)))]) H := hP
          have hD : va_D A ([((a 0), .inr (6, [.int F.cd, .int (nI (F.rg)), .ref (a 1), .ref (a 2), .ref (a 3), .ref (a 4), .ref (a 5), .ref (a 6), .ref (a 7), .ref (a 8), .int (nI (F.S.n)), .int (nI (F.S.ar)), .int (nI (F.k + 1)), .int 0, .ref (a 9), .ref (a 10), .ref (a 11), .ref (a 12)])), ((a 1), .inl (gJ g, 32, .inr (.inl F.cs))), ((a 2), .inl (gI g, 2001, .inl F.S.kd)), ((a 3), .inl (gI g, 2001, .inl F.S.un)), ((a 4), .inl (gI g, 2001, .inl F.S.ce)), ((a 5), .inl (gI g, 2001, .inl F.S.tn)), ((a 6), .inl (gJ g, 2001, .inr (.inl F.S.bf))), ((a 7), .inl (gJ g, 2001, .inr (.inl F.S.af))), ((a 8), .inl (gZ g, 2001, .inl F.S.bk)), ((a 9), .inl (gJ g, 672, .inr (.inl kp1))), ((a 10), .inl (gI g, 21, .inl (upd F.st (F.k + 1) (nI (F.S.n))))), ((a 11), .inl (gI g, 21, .inl (upd F.en (F.k + 1) (nI (F.S.n))))), ((a 12), .inl (gZ g, 21, .inl (upd F.sp (F.k + 1) 0)))]) := hD
          refine lv_aload_n hx hb dX4_copy_116 rfl (lv_at hl 0 rfl) ?_
          refine va_get (D := gD g) (ci := 6) (v := .int (nI (F.k + 1))) (C := RX4) (T := TX4) (N := 18) hx hb hts (by decide +kernel) hown hK.1 hP 0 rfl rfl 12 (by decide) (hts (.fieldLink RX4 99 "LogForwardModel" "images" "I") (by decide +kernel)) (fun _ h9 => h9) rfl dX4_copy_117 ?_
          have hP9 : va_P (gD g) vwCl (wM g a (F.S, (upd F.st (F.k + 1) (nI (F.S.n))), (upd F.en (F.k + 1) (nI (F.S.n))), (upd F.sp (F.k + 1) 0), kp1, F.k + 1, 0, F.cs, F.rg, F.cd)) H := hP
          have hD9 : va_D A (wM g a (F.S, (upd F.st (F.k + 1) (nI (F.S.n))), (upd F.en (F.k + 1) (nI (F.S.n))), (upd F.sp (F.k + 1) 0), kp1, F.k + 1, 0, F.cs, F.rg, F.cd)) := hD
          exact W.iret (v := (nI (F.k + 1))) hx hb hr (fun tz htz hWz => ⟨⟨(nI (F.k + 1)), (F.S, (upd F.st (F.k + 1) (nI (F.S.n))), (upd F.en (F.k + 1) (nI (F.S.n))), (upd F.sp (F.k + 1) 0), kp1, F.k + 1, 0, F.cs, F.rg, F.cd), rfl, (by rw [← hM0]; exact (by rw [← h_6_1]; exact pr_mk (by unfold cyM cyY; rw [if_neg (by omega), hk1, show i = 32 by omega]; (first | rw [if_pos (by assumption : z = 0)] | rw [if_neg (by assumption : ¬ z = 0)])))), by rw [htz]; exact hP9, hD9⟩, hS.F htz⟩) hS.2.2 dX4_copy_120
        · have i_102 : (z.toInt : Int) ≠ 0 := q_ne c_102_4 rfl rfl
          refine lv_aload_n hx hb dX4_copy_105 rfl (lv_at hl 0 rfl) ?_
          refine va_get (D := gD g) (ci := 6) (v := .int (nI (F.k + 1))) (C := RX4) (T := TX4) (N := 18) hx hb hts (by decide +kernel) hown hK.1 hP 0 rfl rfl 12 (by decide) (hts (.fieldLink RX4 99 "LogForwardModel" "images" "I") (by decide +kernel)) (fun _ h9 => h9) rfl dX4_copy_106 ?_
          refine lv_goto (tgt := 113) hx hb dX4_copy_109 (by decide) ?_
          refine va_put (D := gD g) (ci := 6) (v := .int (nI (F.k + 1))) (ty := .int) (C := RX4) (T := TX4) (N := 18) hx hb hts (by decide +kernel) tyX4 tyX4_ok nmX4 hown hK.1 hP hD hS 0 rfl rfl 13 (by decide) (hts (.fieldLink RX4 66 "LogForwardModel" "fuzzy" "I") (by decide +kernel)) (fun _ h9 => h9) rfl (by decide +kernel) rfl rfl (Nat.le_of_ble_eq_true rfl) dX4_copy_113 (fun H locs hP hD hS => ?_)
          have hP : va_P (gD g) vwCl ([((a 0), .inr (6, [.int F.cd, .int (nI (F.rg)), .ref (a 1), .ref (a 2), .ref (a 3), .ref (a 4), .ref (a 5), .ref (a 6), .ref (a 7), .ref (a 8), .int (nI (F.S.n)), .int (nI (F.S.ar)), .int (nI (F.k + 1)), .int (nI (F.k + 1)), .ref (a 9), .ref (a 10), .ref (a 11), .ref (a 12)])), ((a 1), .inl (gJ g, 32, .inr (.inl F.cs))), ((a 2), .inl (gI g, 2001, .inl F.S.kd)), ((a 3), .inl (gI g, 2001, .inl F.S.un)), ((a 4), .inl (gI g, 2001, .inl F.S.ce)), ((a 5), .inl (gI g, 2001, .inl F.S.tn)), ((a 6), .inl (gJ g, 2001, .inr (.inl F.S.bf))), ((a 7), .inl (gJ g, 2001, .inr (.inl F.S.af))), ((a 8), .inl (gZ g, 2001, .inl F.S.bk)), ((a 9), .inl (gJ g, 672, .inr (.inl kp1))), ((a 10), .inl (gI g, 21, .inl (upd F.st (F.k + 1) (nI (F.S.n))))), ((a 11), .inl (gI g, 21, .inl (upd F.en (F.k + 1) (nI (F.S.n))))), ((a 12), .inl (gZ g, 21, .inl (upd F.sp (F.k + 1) 0)))]) H := hP
          have hD : va_D A ([((a 0), .inr (6, [.int F.cd, .int (nI (F.rg)), .ref (a 1), .ref (a 2), .ref (a 3), .ref (a 4), .ref (a 5), .ref (a 6), .ref (a 7), .ref (a 8), .int (nI (F.S.n)), .int (nI (F.S.ar)), .int (nI (F.k + 1)), .int (nI (F.k + 1)), .ref (a 9), .ref (a 10), .ref (a 11), .ref (a 12)])), ((a 1), .inl (gJ g, 32, .inr (.inl F.cs))), ((a 2), .inl (gI g, 2001, .inl F.S.kd)), ((a 3), .inl (gI g, 2001, .inl F.S.un)), ((a 4), .inl (gI g, 2001, .inl F.S.ce)), ((a 5), .inl (gI g, 2001, .inl F.S.tn)), ((a 6), .inl (gJ g, 2001, .inr (.inl F.S.bf))), ((a 7), .inl (gJ g, 2001, .inr (.inl F.S.af))), ((a 8), .inl (gZ g, 2001, .inl F.S.bk)), ((a 9), .inl (gJ g, 672, .inr (.inl kp1))), ((a 10), .inl (gI g, 21, .inl (upd F.st (F.k + 1) (nI (F.S.n))))), ((a 11), .inl (gI g, 21, .inl (upd F.en (F.k + 1) (nI (F.S.n))))), ((a 12), .inl (gZ g, 21, .inl (upd F.sp (F.k + 1) 0)))]) := hD
          refine lv_aload_n hx hb dX4_copy_116 rfl (lv_at hl 0 rfl) ?_
          refine va_get (D := gD g) (ci := 6) (v := .int (nI (F.k + 1))) (C := RX4) (T := TX4) (N := 18) hx hb hts (by decide +kernel) hown hK.1 hP 0 rfl rfl 12 (by decide) (hts (.fieldLink RX4 99 "LogForwardModel" "images" "I") (by decide +kernel)) (fun _ h9 => h9) rfl dX4_copy_117 ?_
          have hP9 : va_P (gD g) vwCl (wM g a (F.S, (upd F.st (F.k + 1) (nI (F.S.n))), (upd F.en (F.k + 1) (nI (F.S.n))), (upd F.sp (F.k + 1) 0), kp1, F.k + 1, F.k + 1, F.cs, F.rg, F.cd)) H := hP
          have hD9 : va_D A (wM g a (F.S, (upd F.st (F.k + 1) (nI (F.S.n))), (upd F.en (F.k + 1) (nI (F.S.n))), (upd F.sp (F.k + 1) 0), kp1, F.k + 1, F.k + 1, F.cs, F.rg, F.cd)) := hD
          exact W.iret (v := (nI (F.k + 1))) hx hb hr (fun tz htz hWz => ⟨⟨(nI (F.k + 1)), (F.S, (upd F.st (F.k + 1) (nI (F.S.n))), (upd F.en (F.k + 1) (nI (F.S.n))), (upd F.sp (F.k + 1) 0), kp1, F.k + 1, F.k + 1, F.cs, F.rg, F.cd), rfl, (by rw [← hM0]; exact (by rw [← h_6_1]; exact pr_mk (by unfold cyM cyY; rw [if_neg (by omega), hk1, show i = 32 by omega]; (first | rw [if_pos (by assumption : z = 0)] | rw [if_neg (by assumption : ¬ z = 0)])))), by rw [htz]; exact hP9, hD9⟩, hS.F htz⟩) hS.2.2 dX4_copy_120
      · have i_35 : (((i : Nat) : Int) : Int) < 32 := q_nle c_35_3 rfl (l_nI (by omega))
        refine lv_aload_n hx hb dX4_copy_38 rfl (lv_at hl 0 rfl) ?_
        refine va_get (D := gD g) (ci := 6) (v := .ref (a 9)) (C := RX4) (T := TX4) (N := 18) hx hb hts (by decide +kernel) hown hK.1 hP 0 rfl rfl 14 (by decide) (hts (.fieldLink RX4 36 "LogForwardModel" "kept" "[J") (by decide +kernel)) (fun _ h9 => h9) rfl dX4_copy_39 ?_
        refine lv_bipush (v := 32) hx hb dX4_copy_42 (by decide) ?_
        refine lv_aload_n hx hb dX4_copy_44 rfl (lv_at hl 0 rfl) ?_
        refine va_get (D := gD g) (ci := 6) (v := .int (nI (F.k + 1))) (C := RX4) (T := TX4) (N := 18) hx hb hts (by decide +kernel) hown hK.1 hP 0 rfl rfl 12 (by decide) (hts (.fieldLink RX4 99 "LogForwardModel" "images" "I") (by decide +kernel)) (fun _ h9 => h9) rfl dX4_copy_45 ?_
        refine ga_imul (v := (nI (32 * (F.k + 1)))) hx hb (pk_mul (32) (F.k + 1)) dX4_copy_48 ?_
        refine lv_iload_n hx hb dX4_copy_49 rfl (lv_at hl 2 rfl) ?_
        refine ga_iadd (v := (nI (32 * (F.k + 1) + (i)))) hx hb (nI_add _ _) dX4_copy_50 ?_
        refine lv_aload_n hx hb dX4_copy_51 rfl (lv_at hl 0 rfl) ?_
        refine va_get (D := gD g) (ci := 6) (v := .ref (a 1)) (C := RX4) (T := TX4) (N := 18) hx hb hts (by decide +kernel) hown hK.1 hP 0 rfl rfl 2 (by decide) (hts (.fieldLink RX4 7 "LogForwardModel" "cells" "[J") (by decide +kernel)) (fun _ h9 => h9) rfl dX4_copy_52 ?_
        refine lv_iload_n hx hb dX4_copy_55 rfl (lv_at hl 2 rfl) ?_
        refine ga_lald (v := (F.cs i)) hx hb hK.1 hP 1 1 rfl rfl (v_nI (by omega) (by omega)) (by rw [(c_nI (by omega))]) dX4_copy_56 ?_
        refine ga_last (j := 32 * (F.k + 1) + (i)) hx hb hK.1 hP hD hS 9 1 rfl rfl (v_nI (by omega) (by omega)) (c_nI (by omega)) dX4_copy_57 (fun H locs hP hD hS => ?_)
        have hP : va_P (gD g) vwCl ([((a 0), .inr (6, [.int F.cd, .int (nI (F.rg)), .ref (a 1), .ref (a 2), .ref (a 3), .ref (a 4), .ref (a 5), .ref (a 6), .ref (a 7), .ref (a 8), .int (nI (F.S.n)), .int (nI (F.S.ar)), .int (nI (F.k + 1)), .int (nI (F.fz)), .ref (a 9), .ref (a 10), .ref (a 11), .ref (a 12)])), ((a 1), .inl (gJ g, 32, .inr (.inl F.cs))), ((a 2), .inl (gI g, 2001, .inl F.S.kd)), ((a 3), .inl (gI g, 2001, .inl F.S.un)), ((a 4), .inl (gI g, 2001, .inl F.S.ce)), ((a 5), .inl (gI g, 2001, .inl F.S.tn)), ((a 6), .inl (gJ g, 2001, .inr (.inl F.S.bf))), ((a 7), .inl (gJ g, 2001, .inr (.inl F.S.af))), ((a 8), .inl (gZ g, 2001, .inl F.S.bk)), ((a 9), .inl (gJ g, 672, .inr (.inl (vp_updL kp1 (32 * (F.k + 1) + (i)) (F.cs i))))), ((a 10), .inl (gI g, 21, .inl F.st)), ((a 11), .inl (gI g, 21, .inl F.en)), ((a 12), .inl (gZ g, 21, .inl F.sp))]) H := hP
        have hD : va_D A ([((a 0), .inr (6, [.int F.cd, .int (nI (F.rg)), .ref (a 1), .ref (a 2), .ref (a 3), .ref (a 4), .ref (a 5), .ref (a 6), .ref (a 7), .ref (a 8), .int (nI (F.S.n)), .int (nI (F.S.ar)), .int (nI (F.k + 1)), .int (nI (F.fz)), .ref (a 9), .ref (a 10), .ref (a 11), .ref (a 12)])), ((a 1), .inl (gJ g, 32, .inr (.inl F.cs))), ((a 2), .inl (gI g, 2001, .inl F.S.kd)), ((a 3), .inl (gI g, 2001, .inl F.S.un)), ((a 4), .inl (gI g, 2001, .inl F.S.ce)), ((a 5), .inl (gI g, 2001, .inl F.S.tn)), ((a 6), .inl (gJ g, 2001, .inr (.inl F.S.bf))), ((a 7), .inl (gJ g, 2001, .inr (.inl F.S.af))), ((a 8), .inl (gZ g, 2001, .inl F.S.bk)), ((a 9), .inl (gJ g, 672, .inr (.inl (vp_updL kp1 (32 * (F.k + 1) + (i)) (F.cs i))))), ((a 10), .inl (gI g, 21, .inl F.st)), ((a 11), .inl (gI g, 21, .inl F.en)), ((a 12), .inl (gZ g, 21, .inl F.sp))]) := hD
        refine lv_iinc (v := (nI (i + 1))) (lv' := [(2, .int (nI (i + 1))), (0, .ref (a 0)), (1, .int z)]) hx hb dX4_copy_58 hl (k := 2) rfl (nI_1 _) (by decide) rfl (fun ls hl => ?_)
        refine lv_goto (tgt := 32) hx hb dX4_copy_61 (by decide) ?_
        exact ih (32 - (i + 1)) (by omega) ls H locs (vp_updL kp1 (32 * (F.k + 1) + (i)) (F.cs i)) (i + 1) (lv_sub hl [1, 2, 0] rfl) hP hD hS (by rw [hk1, ← cpy_step, Nat.zero_add]) (by omega) rfl
  · have i_15 : (((F.k : Nat) : Int) : Int) = 20 := q_eq c_15_1 (l_nI (by omega)) rfl
    refine lv_iconst (v := (-1)) hx hb dX4_copy_18 (by decide) ?_
    have hP9 : va_P (gD g) vwCl (wM g a F) H := hP
    have hD9 : va_D A (wM g a F) := hD
    exact W.iret (v := (-1)) hx hb hr (fun tz htz hWz => ⟨⟨(-1), F, rfl, (by rw [← hM0]; exact (by rw [← h_6_1]; exact pr_mk (by unfold cyM; rw [if_pos (by omega)]))), by rw [htz]; exact hP9, hD9⟩, hS.F htz⟩) hS.2.2 dX4_copy_19
set_option maxHeartbeats 4000000 in
set_option maxRecDepth 100000 in
theorem c_X4_torn (l : Launch) (g : GG) (a : Nat → Nat) (M : MS) (sz : Nat) (p1 p2 : Int32) (hn : M.S.n ≤ 2000) (har : M.S.ar ≤ 2000) : Met l yX4_torn wsX4_torn { frames := 0, cells := 0, slots := 0, locals := 0 } (va_Pc [.ref (a 0), .int p1, .int p2] (Pw g (wM g a M) sz)) (va_Qi (fun rv u => rv = (toM (mC M 0) p1 p2).1 ∧ u = (toM (mC M 0) p1 p2).2) (Bw g (va_A (wM g a M) sz) (fun u : MS => wM g a u)) (va_A (wM g a M) sz)) 0 0 (va_A (wM g a M) sz) := by
  refine Met.ofW (cc := cX4_torn) (maxL := 3) (ret := (some .int)) (by decide) rfl ?_
  intro p e s m args below meth c s₁ B hml hv
  obtain ⟨rfl, hsz, hP, hK, hD0⟩ := hv
  have hx := B.exec
  have hb := B.bytes
  have hr := B.returns
  have hts := atoms_spec (ws := wsX4_torn) B.pre
  have hown : s.vm.findClass RX4 = some m.cls := findClass_of_methodNamed B.named
  have hlocks := B.notSynchronized
  subst hsz
  have hD := hD0.self (sz := s.heap.size)
  generalize hAe : va_A (wM g a M) s.heap.size = A at hD ⊢
  have hA : ∀ q : Nat, s.heap.size ≤ q → A q := fun q h => by rw [← hAe]; exact Or.inr h
  have hS : va_S A s.heap s.heap [] := va_S.rf
  have hl := lv_entry ([.ref (a 0), .int p1, .int p2]) (n := 3) (Nat.le_of_ble_eq_true rfl)
  rw [lg_entry_eq]
  generalize (lg_sl ([.ref (a 0), .int p1, .int p2]) ++ List.replicate (3 - (lg_sl ([.ref (a 0), .int p1, .int p2])).length) Slot.unset).toArray = ls at hl ⊢
  have hl : lv_has ls 3 [(0, .ref (a 0)), (1, .int p1), (2, .int p2)] := hl
  replace hP : va_P (gD g) vwCl ([((a 0), .inr (6, [.int M.cd, .int (nI (M.rg)), .ref (a 1), .ref (a 2), .ref (a 3), .ref (a 4), .ref (a 5), .ref (a 6), .ref (a 7), .ref (a 8), .int (nI (M.S.n)), .int (nI (M.S.ar)), .int (nI (M.k)), .int (nI (M.fz)), .ref (a 9), .ref (a 10), .ref (a 11), .ref (a 12)])), ((a 1), .inl (gJ g, 32, .inr (.inl M.cs))), ((a 2), .inl (gI g, 2001, .inl M.S.kd)), ((a 3), .inl (gI g, 2001, .inl M.S.un)), ((a 4), .inl (gI g, 2001, .inl M.S.ce)), ((a 5), .inl (gI g, 2001, .inl M.S.tn)), ((a 6), .inl (gJ g, 2001, .inr (.inl M.S.bf))), ((a 7), .inl (gJ g, 2001, .inr (.inl M.S.af))), ((a 8), .inl (gZ g, 2001, .inl M.S.bk)), ((a 9), .inl (gJ g, 672, .inr (.inl M.kp))), ((a 10), .inl (gI g, 21, .inl M.st)), ((a 11), .inl (gI g, 21, .inl M.en)), ((a 12), .inl (gZ g, 21, .inl M.sp))]) s.heap := hP
  replace hD : va_D A ([((a 0), .inr (6, [.int M.cd, .int (nI (M.rg)), .ref (a 1), .ref (a 2), .ref (a 3), .ref (a 4), .ref (a 5), .ref (a 6), .ref (a 7), .ref (a 8), .int (nI (M.S.n)), .int (nI (M.S.ar)), .int (nI (M.k)), .int (nI (M.fz)), .ref (a 9), .ref (a 10), .ref (a 11), .ref (a 12)])), ((a 1), .inl (gJ g, 32, .inr (.inl M.cs))), ((a 2), .inl (gI g, 2001, .inl M.S.kd)), ((a 3), .inl (gI g, 2001, .inl M.S.un)), ((a 4), .inl (gI g, 2001, .inl M.S.ce)), ((a 5), .inl (gI g, 2001, .inl M.S.tn)), ((a 6), .inl (gJ g, 2001, .inr (.inl M.S.bf))), ((a 7), .inl (gJ g, 2001, .inr (.inl M.S.af))), ((a 8), .inl (gZ g, 2001, .inl M.S.bk)), ((a 9), .inl (gJ g, 672, .inr (.inl M.kp))), ((a 10), .inl (gI g, 21, .inl M.st)), ((a 11), .inl (gI g, 21, .inl M.en)), ((a 12), .inl (gZ g, 21, .inl M.sp))]) := hD
  refine lv_aload_n hx hb dX4_torn_0 rfl (lv_at hl 0 rfl) ?_
  refine lv_iconst (v := 0) hx hb dX4_torn_1 (by decide) ?_
  refine va_put (D := gD g) (ci := 6) (v := .int 0) (ty := .int) (C := RX4) (T := TX4) (N := 18) hx hb hts (by decide +kernel) tyX4 tyX4_ok nmX4 hown hK.1 hP hD hS 0 rfl rfl 0 (by decide) (hts (.fieldLink RX4 52 "LogForwardModel" "code" "I") (by decide +kernel)) (fun _ h9 => h9) rfl (by decide +kernel) rfl rfl (Nat.le_of_ble_eq_true rfl) dX4_torn_2 (fun H locs hP hD hS => ?_)
  have hP : va_P (gD g) vwCl ([((a 0), .inr (6, [.int 0, .int (nI (M.rg)), .ref (a 1), .ref (a 2), .ref (a 3), .ref (a 4), .ref (a 5), .ref (a 6), .ref (a 7), .ref (a 8), .int (nI (M.S.n)), .int (nI (M.S.ar)), .int (nI (M.k)), .int (nI (M.fz)), .ref (a 9), .ref (a 10), .ref (a 11), .ref (a 12)])), ((a 1), .inl (gJ g, 32, .inr (.inl M.cs))), ((a 2), .inl (gI g, 2001, .inl M.S.kd)), ((a 3), .inl (gI g, 2001, .inl M.S.un)), ((a 4), .inl (gI g, 2001, .inl M.S.ce)), ((a 5), .inl (gI g, 2001, .inl M.S.tn)), ((a 6), .inl (gJ g, 2001, .inr (.inl M.S.bf))), ((a 7), .inl (gJ g, 2001, .inr (.inl M.S.af))), ((a 8), .inl (gZ g, 2001, .inl M.S.bk)), ((a 9), .inl (gJ g, 672, .inr (.inl M.kp))), ((a 10), .inl (gI g, 21, .inl M.st)), ((a 11), .inl (gI g, 21, .inl M.en)), ((a 12), .inl (gZ g, 21, .inl M.sp))]) H := hP
  have hD : va_D A ([((a 0), .inr (6, [.int 0, .int (nI (M.rg)), .ref (a 1), .ref (a 2), .ref (a 3), .ref (a 4), .ref (a 5), .ref (a 6), .ref (a 7), .ref (a 8), .int (nI (M.S.n)), .int (nI (M.S.ar)), .int (nI (M.k)), .int (nI (M.fz)), .ref (a 9), .ref (a 10), .ref (a 11), .ref (a 12)])), ((a 1), .inl (gJ g, 32, .inr (.inl M.cs))), ((a 2), .inl (gI g, 2001, .inl M.S.kd)), ((a 3), .inl (gI g, 2001, .inl M.S.un)), ((a 4), .inl (gI g, 2001, .inl M.S.ce)), ((a 5), .inl (gI g, 2001, .inl M.S.tn)), ((a 6), .inl (gJ g, 2001, .inr (.inl M.S.bf))), ((a 7), .inl (gJ g, 2001, .inr (.inl M.S.af))), ((a 8), .inl (gZ g, 2001, .inl M.S.bk)), ((a 9), .inl (gJ g, 672, .inr (.inl M.kp))), ((a 10), .inl (gI g, 21, .inl M.st)), ((a 11), .inl (gI g, 21, .inl M.en)), ((a 12), .inl (gZ g, 21, .inl M.sp))]) := hD
  obtain ⟨M0, hM0⟩ : ∃ M0 : MS, M0 = mC M 0 := ⟨_, rfl⟩
  replace hP : va_P (gD g) vwCl ([((a 0), .inr (6, [.int M0.cd, .int (nI (M0.rg)), .ref (a 1), .ref (a 2), .ref (a 3), .ref (a 4), .ref (a 5), .ref (a 6), .ref (a 7), .ref (a 8), .int (nI (M0.S.n)), .int (nI (M0.S.ar)), .int (nI (M0.k)), .int (nI (M0.fz)), .ref (a 9), .ref (a 10), .ref (a 11), .ref (a 12)])), ((a 1), .inl (gJ g, 32, .inr (.inl M0.cs))), ((a 2), .inl (gI g, 2001, .inl M0.S.kd)), ((a 3), .inl (gI g, 2001, .inl M0.S.un)), ((a 4), .inl (gI g, 2001, .inl M0.S.ce)), ((a 5), .inl (gI g, 2001, .inl M0.S.tn)), ((a 6), .inl (gJ g, 2001, .inr (.inl M0.S.bf))), ((a 7), .inl (gJ g, 2001, .inr (.inl M0.S.af))), ((a 8), .inl (gZ g, 2001, .inl M0.S.bk)), ((a 9), .inl (gJ g, 672, .inr (.inl M0.kp))), ((a 10), .inl (gI g, 21, .inl M0.st)), ((a 11), .inl (gI g, 21, .inl M0.en)), ((a 12), .inl (gZ g, 21, .inl M0.sp))]) H := by rw [hM0]; exact hP
  replace hD : va_D A ([((a 0), .inr (6, [.int M0.cd, .int (nI (M0.rg)), .ref (a 1), .ref (a 2), .ref (a 3), .ref (a 4), .ref (a 5), .ref (a 6), .ref (a 7), .ref (a 8), .int (nI (M0.S.n)), .int (nI (M0.S.ar)), .int (nI (M0.k)), .int (nI (M0.fz)), .ref (a 9), .ref (a 10), .ref (a 11), .ref (a 12)])), ((a 1), .inl (gJ g, 32, .inr (.inl M0.cs))), ((a 2), .inl (gI g, 2001, .inl M0.S.kd)), ((a 3), .inl (gI g, 2001, .inl M0.S.un)), ((a 4), .inl (gI g, 2001, .inl M0.S.ce)), ((a 5), .inl (gI g, 2001, .inl M0.S.tn)), ((a 6), .inl (gJ g, 2001, .inr (.inl M0.S.bf))), ((a 7), .inl (gJ g, 2001, .inr (.inl M0.S.af))), ((a 8), .inl (gZ g, 2001, .inl M0.S.bk)), ((a 9), .inl (gJ g, 672, .inr (.inl M0.kp))), ((a 10), .inl (gI g, 21, .inl M0.st)), ((a 11), .inl (gI g, 21, .inl M0.en)), ((a 12), .inl (gZ g, 21, .inl M0.sp))]) := by rw [hM0]; exact hD
  have hn : M0.S.n ≤ 2000 := by rw [hM0]; exact hn
  have har : M0.S.ar ≤ 2000 := by rw [hM0]; exact har
  refine lv_iload_n hx hb dX4_torn_5 rfl (lv_at hl 1 rfl) ?_
  refine lv_if_lt (tgt := 27) hx hb dX4_torn_6 (by decide) (fun c_6_1 => ?_) (fun c_6_1 => ?_)
  · have i_6 : (p1.toInt : Int) < 0 := q_lt c_6_1 rfl rfl
    refine lv_bipush (v := (-2)) hx hb dX4_torn_27 (by decide) ?_
    have hP9 : va_P (gD g) vwCl (wM g a M0) H := hP
    have hD9 : va_D A (wM g a M0) := hD
    exact W.iret (v := (-2)) hx hb hr (fun tz htz hWz => ⟨⟨(-2), M0, rfl, (by rw [← hM0]; exact (pr_mk (by unfold toM; rw [if_pos (by show ¬ (_ ∧ _); omega)] <;> rfl))), by rw [htz]; exact hP9, hD9⟩, hS.F htz⟩) hS.2.2 dX4_torn_29
  · have i_6 : (0 : Int) ≤ p1.toInt := q_nlt c_6_1 rfl rfl
    refine lv_iload_n hx hb dX4_torn_9 rfl (lv_at hl 1 rfl) ?_
    refine lv_iconst (v := 1) hx hb dX4_torn_10 (by decide) ?_
    refine lv_icmp_gt (tgt := 27) hx hb dX4_torn_11 (by decide) (fun c_11_2 => ?_) (fun c_11_2 => ?_)
    · have i_11 : (1 : Int) < p1.toInt := q_lt c_11_2 rfl rfl
      refine lv_bipush (v := (-2)) hx hb dX4_torn_27 (by decide) ?_
      have hP9 : va_P (gD g) vwCl (wM g a M0) H := hP
      have hD9 : va_D A (wM g a M0) := hD
      exact W.iret (v := (-2)) hx hb hr (fun tz htz hWz => ⟨⟨(-2), M0, rfl, (by rw [← hM0]; exact (pr_mk (by unfold toM; rw [if_pos (by show ¬ (_ ∧ _); omega)] <;> rfl))), by rw [htz]; exact hP9, hD9⟩, hS.F htz⟩) hS.2.2 dX4_torn_29
    · have i_11 : (p1.toInt : Int) ≤ 1 := q_nlt c_11_2 rfl rfl
      refine lv_iload_n hx hb dX4_torn_14 rfl (lv_at hl 2 rfl) ?_
      refine lv_iconst (v := 1) hx hb dX4_torn_15 (by decide) ?_
      refine lv_icmp_lt (tgt := 27) hx hb dX4_torn_16 (by decide) (fun c_16_3 => ?_) (fun c_16_3 => ?_)
      · have i_16 : (p2.toInt : Int) < 1 := q_lt c_16_3 rfl rfl
        refine lv_bipush (v := (-2)) hx hb dX4_torn_27 (by decide) ?_
        have hP9 : va_P (gD g) vwCl (wM g a M0) H := hP
        have hD9 : va_D A (wM g a M0) := hD
        exact W.iret (v := (-2)) hx hb hr (fun tz htz hWz => ⟨⟨(-2), M0, rfl, (by rw [← hM0]; exact (pr_mk (by unfold toM; rw [if_pos (by show ¬ (_ ∧ _); omega)] <;> rfl))), by rw [htz]; exact hP9, hD9⟩, hS.F htz⟩) hS.2.2 dX4_torn_29
      · have i_16 : (1 : Int) ≤ p2.toInt := q_nlt c_16_3 rfl rfl
        refine lv_iload_n hx hb dX4_torn_19 rfl (lv_at hl 2 rfl) ?_
        refine lv_aload_n hx hb dX4_torn_20 rfl (lv_at hl 0 rfl) ?_
        refine va_get (D := gD g) (ci := 6) (v := .int (nI (M0.S.n))) (C := RX4) (T := TX4) (N := 18) hx hb hts (by decide +kernel) hown hK.1 hP 0 rfl rfl 10 (by decide) (hts (.fieldLink RX4 55 "LogForwardModel" "rows" "I") (by decide +kernel)) (fun _ h9 => h9) rfl dX4_torn_21 ?_
        refine lv_icmp_le (tgt := 30) hx hb dX4_torn_24 (by decide) (fun c_24_4 => ?_) (fun c_24_4 => ?_)
        · have i_24 : (p2.toInt : Int) ≤ ((M0.S.n : Nat) : Int) := q_le c_24_4 rfl (l_nI (by omega))
          have e1 := p_nI (x := p2) (by omega)
          have e2 := pn_toInt (x := p2) (by omega)
          replace hl : lv_has ls 3 [(0, .ref (a 0)), (1, .int p1), (2, .int (nI (p2.toNatClampNeg)))] := by rw [← e1]; exact hl
          refine lv_iload_n hx hb dX4_torn_30 rfl (lv_at hl 2 rfl) ?_
          refine lv_aload_n hx hb dX4_torn_31 rfl (lv_at hl 0 rfl) ?_
          refine va_get (D := gD g) (ci := 6) (v := .int (nI (M0.S.ar))) (C := RX4) (T := TX4) (N := 18) hx hb hts (by decide +kernel) hown hK.1 hP 0 rfl rfl 11 (by decide) (hts (.fieldLink RX4 105 "LogForwardModel" "archived" "I") (by decide +kernel)) (fun _ h9 => h9) rfl dX4_torn_32 ?_
          refine lv_icmp_gt (tgt := 41) hx hb dX4_torn_35 (by decide) (fun c_35_5 => ?_) (fun c_35_5 => ?_)
          · have i_35 : (((M0.S.ar : Nat) : Int) : Int) < ((p2.toNatClampNeg : Nat) : Int) := q_lt c_35_5 (l_nI (by omega)) (l_nI (by have := pn_toInt (x := p2) (by omega); omega))
            refine lv_aload_n hx hb dX4_torn_41 rfl (lv_at hl 0 rfl) ?_
            refine va_get (D := gD g) (ci := 6) (v := .ref (a 5)) (C := RX4) (T := TX4) (N := 18) hx hb hts (by decide +kernel) hown hK.1 hP 0 rfl rfl 6 (by decide) (hts (.fieldLink RX4 23 "LogForwardModel" "torn" "[I") (by decide +kernel)) (fun _ h9 => h9) rfl dX4_torn_42 ?_
            refine lv_iload_n hx hb dX4_torn_45 rfl (lv_at hl 2 rfl) ?_
            refine ga_iald (v := (M0.S.tn p2.toNatClampNeg)) hx hb hK.1 hP 5 0 rfl rfl (v_nI (by omega) (by omega)) (by rw [(c_nI (by have := pn_toInt (x := p2) (by omega); omega))]) dX4_torn_46 ?_
            refine lv_iload_n hx hb dX4_torn_47 rfl (lv_at hl 1 rfl) ?_
            refine lv_ishr hx hb dX4_torn_48 ?_
            refine lv_iconst (v := 1) hx hb dX4_torn_49 (by decide) ?_
            refine lv_iand hx hb dX4_torn_50 ?_
            refine lv_iconst (v := 1) hx hb dX4_torn_51 (by decide) ?_
            refine lv_icmp_ne (tgt := 57) hx hb dX4_torn_52 (by decide) (fun c_52_6 => ?_) (fun c_52_6 => ?_)
            · have i_52 : ((((M0.S.tn p2.toNatClampNeg) >>> (p1 &&& 31)) &&& 1).toInt : Int) ≠ 1 := q_ne c_52_6 rfl rfl
              refine lv_aload_n hx hb dX4_torn_57 rfl (lv_at hl 0 rfl) ?_
              refine va_get (D := gD g) (ci := 6) (v := .ref (a 5)) (C := RX4) (T := TX4) (N := 18) hx hb hts (by decide +kernel) hown hK.1 hP 0 rfl rfl 6 (by decide) (hts (.fieldLink RX4 23 "LogForwardModel" "torn" "[I") (by decide +kernel)) (fun _ h9 => h9) rfl dX4_torn_58 ?_
              refine lv_iload_n hx hb dX4_torn_61 rfl (lv_at hl 2 rfl) ?_
              refine lv_dup2_11 hx hb dX4_torn_62 rfl rfl ?_
              refine ga_iald (v := (M0.S.tn p2.toNatClampNeg)) hx hb hK.1 hP 5 0 rfl rfl (v_nI (by omega) (by omega)) (by rw [(c_nI (by have := pn_toInt (x := p2) (by omega); omega))]) dX4_torn_63 ?_
              refine lv_iconst (v := 1) hx hb dX4_torn_64 (by decide) ?_
              refine lv_iload_n hx hb dX4_torn_65 rfl (lv_at hl 1 rfl) ?_
              refine ga_iadd (v := (1 + p1)) hx hb (rfl) dX4_torn_66 ?_
              refine ga_iadd (v := ((M0.S.tn p2.toNatClampNeg) + (1 + p1))) hx hb (rfl) dX4_torn_67 ?_
              refine ga_iast (j := p2.toNatClampNeg) hx hb hK.1 hP hD hS 5 0 rfl rfl (v_nI (by omega) (by omega)) (c_nI (by have := pn_toInt (x := p2) (by omega); omega)) dX4_torn_68 (fun H locs hP hD hS => ?_)
              have hP : va_P (gD g) vwCl ([((a 0), .inr (6, [.int M0.cd, .int (nI (M0.rg)), .ref (a 1), .ref (a 2), .ref (a 3), .ref (a 4), .ref (a 5), .ref (a 6), .ref (a 7), .ref (a 8), .int (nI (M0.S.n)), .int (nI (M0.S.ar)), .int (nI (M0.k)), .int (nI (M0.fz)), .ref (a 9), .ref (a 10), .ref (a 11), .ref (a 12)])), ((a 1), .inl (gJ g, 32, .inr (.inl M0.cs))), ((a 2), .inl (gI g, 2001, .inl M0.S.kd)), ((a 3), .inl (gI g, 2001, .inl M0.S.un)), ((a 4), .inl (gI g, 2001, .inl M0.S.ce)), ((a 5), .inl (gI g, 2001, .inl (upd M0.S.tn (p2.toNatClampNeg) ((M0.S.tn p2.toNatClampNeg) + (1 + p1))))), ((a 6), .inl (gJ g, 2001, .inr (.inl M0.S.bf))), ((a 7), .inl (gJ g, 2001, .inr (.inl M0.S.af))), ((a 8), .inl (gZ g, 2001, .inl M0.S.bk)), ((a 9), .inl (gJ g, 672, .inr (.inl M0.kp))), ((a 10), .inl (gI g, 21, .inl M0.st)), ((a 11), .inl (gI g, 21, .inl M0.en)), ((a 12), .inl (gZ g, 21, .inl M0.sp))]) H := hP
              have hD : va_D A ([((a 0), .inr (6, [.int M0.cd, .int (nI (M0.rg)), .ref (a 1), .ref (a 2), .ref (a 3), .ref (a 4), .ref (a 5), .ref (a 6), .ref (a 7), .ref (a 8), .int (nI (M0.S.n)), .int (nI (M0.S.ar)), .int (nI (M0.k)), .int (nI (M0.fz)), .ref (a 9), .ref (a 10), .ref (a 11), .ref (a 12)])), ((a 1), .inl (gJ g, 32, .inr (.inl M0.cs))), ((a 2), .inl (gI g, 2001, .inl M0.S.kd)), ((a 3), .inl (gI g, 2001, .inl M0.S.un)), ((a 4), .inl (gI g, 2001, .inl M0.S.ce)), ((a 5), .inl (gI g, 2001, .inl (upd M0.S.tn (p2.toNatClampNeg) ((M0.S.tn p2.toNatClampNeg) + (1 + p1))))), ((a 6), .inl (gJ g, 2001, .inr (.inl M0.S.bf))), ((a 7), .inl (gJ g, 2001, .inr (.inl M0.S.af))), ((a 8), .inl (gZ g, 2001, .inl M0.S.bk)), ((a 9), .inl (gJ g, 672, .inr (.inl M0.kp))), ((a 10), .inl (gI g, 21, .inl M0.st)), ((a 11), .inl (gI g, 21, .inl M0.en)), ((a 12), .inl (gZ g, 21, .inl M0.sp))]) := hD
              refine lv_iconst (v := 1) hx hb dX4_torn_69 (by decide) ?_
              have hP9 : va_P (gD g) vwCl (wM g a ((M0.S.kd, M0.S.un, M0.S.ce, M0.S.bf, M0.S.af, (upd M0.S.tn (p2.toNatClampNeg) ((M0.S.tn p2.toNatClampNeg) + (1 + p1))), M0.S.bk, M0.S.n, M0.S.ar), M0.st, M0.en, M0.sp, M0.kp, M0.k, M0.fz, M0.cs, M0.rg, M0.cd)) H := hP
              have hD9 : va_D A (wM g a ((M0.S.kd, M0.S.un, M0.S.ce, M0.S.bf, M0.S.af, (upd M0.S.tn (p2.toNatClampNeg) ((M0.S.tn p2.toNatClampNeg) + (1 + p1))), M0.S.bk, M0.S.n, M0.S.ar), M0.st, M0.en, M0.sp, M0.kp, M0.k, M0.fz, M0.cs, M0.rg, M0.cd)) := hD
              exact W.iret (v := 1) hx hb hr (fun tz htz hWz => ⟨⟨1, ((M0.S.kd, M0.S.un, M0.S.ce, M0.S.bf, M0.S.af, (upd M0.S.tn (p2.toNatClampNeg) ((M0.S.tn p2.toNatClampNeg) + (1 + p1))), M0.S.bk, M0.S.n, M0.S.ar), M0.st, M0.en, M0.sp, M0.kp, M0.k, M0.fz, M0.cs, M0.rg, M0.cd), rfl, (by rw [← hM0]; exact (pr_mk (by unfold toM; rw [if_neg (fun h9 => h9 (by show _ ∧ _; omega)), if_neg (by show ¬ _ ≤ _; omega), if_neg (by assumption)] <;> rfl))), by rw [htz]; exact hP9, hD9⟩, hS.F htz⟩) hS.2.2 dX4_torn_70
            · have i_52 : ((((M0.S.tn p2.toNatClampNeg) >>> (p1 &&& 31)) &&& 1).toInt : Int) = 1 := q_eq c_52_6 rfl rfl
              refine lv_iconst (v := 0) hx hb dX4_torn_55 (by decide) ?_
              have hP9 : va_P (gD g) vwCl (wM g a M0) H := hP
              have hD9 : va_D A (wM g a M0) := hD
              exact W.iret (v := 0) hx hb hr (fun tz htz hWz => ⟨⟨0, M0, rfl, (by rw [← hM0]; exact (pr_mk (by unfold toM; rw [if_neg (fun h9 => h9 (by show _ ∧ _; omega)), if_neg (by show ¬ _ ≤ _; omega), if_pos (by assumption)] <;> rfl))), by rw [htz]; exact hP9, hD9⟩, hS.F htz⟩) hS.2.2 dX4_torn_56
          · have i_35 : (((p2.toNatClampNeg : Nat) : Int) : Int) ≤ ((M0.S.ar : Nat) : Int) := q_nlt c_35_5 (l_nI (by omega)) (l_nI (by have := pn_toInt (x := p2) (by omega); omega))
            refine lv_bipush (v := (-5)) hx hb dX4_torn_38 (by decide) ?_
            have hP9 : va_P (gD g) vwCl (wM g a M0) H := hP
            have hD9 : va_D A (wM g a M0) := hD
            exact W.iret (v := (-5)) hx hb hr (fun tz htz hWz => ⟨⟨(-5), M0, rfl, (by rw [← hM0]; exact (pr_mk (by unfold toM; rw [if_neg (fun h9 => h9 (by show _ ∧ _; omega)), if_pos (by show _ ≤ _; omega)] <;> rfl))), by rw [htz]; exact hP9, hD9⟩, hS.F htz⟩) hS.2.2 dX4_torn_40
        · have i_24 : (((M0.S.n : Nat) : Int) : Int) < p2.toInt := q_nle c_24_4 rfl (l_nI (by omega))
          refine lv_bipush (v := (-2)) hx hb dX4_torn_27 (by decide) ?_
          have hP9 : va_P (gD g) vwCl (wM g a M0) H := hP
          have hD9 : va_D A (wM g a M0) := hD
          exact W.iret (v := (-2)) hx hb hr (fun tz htz hWz => ⟨⟨(-2), M0, rfl, (by rw [← hM0]; exact (pr_mk (by unfold toM; rw [if_pos (by show ¬ (_ ∧ _); omega)] <;> rfl))), by rw [htz]; exact hP9, hD9⟩, hS.F htz⟩) hS.2.2 dX4_torn_29
set_option maxHeartbeats 4000000 in
set_option maxRecDepth 100000 in
theorem c_X4_archive (l : Launch) (g : GG) (a : Nat → Nat) (M : MS) (sz : Nat) (p1 : Int32) (hn : M.S.n ≤ 2000) (har : M.S.ar ≤ 2000) : Met l yX4_archive wsX4_archive { frames := 0, cells := 0, slots := 0, locals := 0 } (va_Pc [.ref (a 0), .int p1] (Pw g (wM g a M) sz)) (va_Qi (fun rv u => rv = (arM (mC M 0) p1).1 ∧ u = (arM (mC M 0) p1).2) (Bw g (va_A (wM g a M) sz) (fun u : MS => wM g a u)) (va_A (wM g a M) sz)) 0 0 (va_A (wM g a M) sz) := by
  refine Met.ofW (cc := cX4_archive) (maxL := 2) (ret := (some .int)) (by decide) rfl ?_
  intro p e s m args below meth c s₁ B hml hv
  obtain ⟨rfl, hsz, hP, hK, hD0⟩ := hv
  have hx := B.exec
  have hb := B.bytes
  have hr := B.returns
  have hts := atoms_spec (ws := wsX4_archive) B.pre
  have hown : s.vm.findClass RX4 = some m.cls := findClass_of_methodNamed B.named
  have hlocks := B.notSynchronized
  subst hsz
  have hD := hD0.self (sz := s.heap.size)
  generalize hAe : va_A (wM g a M) s.heap.size = A at hD ⊢
  have hA : ∀ q : Nat, s.heap.size ≤ q → A q := fun q h => by rw [← hAe]; exact Or.inr h
  have hS : va_S A s.heap s.heap [] := va_S.rf
  have hl := lv_entry ([.ref (a 0), .int p1]) (n := 2) (Nat.le_of_ble_eq_true rfl)
  rw [lg_entry_eq]
  generalize (lg_sl ([.ref (a 0), .int p1]) ++ List.replicate (2 - (lg_sl ([.ref (a 0), .int p1])).length) Slot.unset).toArray = ls at hl ⊢
  have hl : lv_has ls 2 [(0, .ref (a 0)), (1, .int p1)] := hl
  replace hP : va_P (gD g) vwCl ([((a 0), .inr (6, [.int M.cd, .int (nI (M.rg)), .ref (a 1), .ref (a 2), .ref (a 3), .ref (a 4), .ref (a 5), .ref (a 6), .ref (a 7), .ref (a 8), .int (nI (M.S.n)), .int (nI (M.S.ar)), .int (nI (M.k)), .int (nI (M.fz)), .ref (a 9), .ref (a 10), .ref (a 11), .ref (a 12)])), ((a 1), .inl (gJ g, 32, .inr (.inl M.cs))), ((a 2), .inl (gI g, 2001, .inl M.S.kd)), ((a 3), .inl (gI g, 2001, .inl M.S.un)), ((a 4), .inl (gI g, 2001, .inl M.S.ce)), ((a 5), .inl (gI g, 2001, .inl M.S.tn)), ((a 6), .inl (gJ g, 2001, .inr (.inl M.S.bf))), ((a 7), .inl (gJ g, 2001, .inr (.inl M.S.af))), ((a 8), .inl (gZ g, 2001, .inl M.S.bk)), ((a 9), .inl (gJ g, 672, .inr (.inl M.kp))), ((a 10), .inl (gI g, 21, .inl M.st)), ((a 11), .inl (gI g, 21, .inl M.en)), ((a 12), .inl (gZ g, 21, .inl M.sp))]) s.heap := hP
  replace hD : va_D A ([((a 0), .inr (6, [.int M.cd, .int (nI (M.rg)), .ref (a 1), .ref (a 2), .ref (a 3), .ref (a 4), .ref (a 5), .ref (a 6), .ref (a 7), .ref (a 8), .int (nI (M.S.n)), .int (nI (M.S.ar)), .int (nI (M.k)), .int (nI (M.fz)), .ref (a 9), .ref (a 10), .ref (a 11), .ref (a 12)])), ((a 1), .inl (gJ g, 32, .inr (.inl M.cs))), ((a 2), .inl (gI g, 2001, .inl M.S.kd)), ((a 3), .inl (gI g, 2001, .inl M.S.un)), ((a 4), .inl (gI g, 2001, .inl M.S.ce)), ((a 5), .inl (gI g, 2001, .inl M.S.tn)), ((a 6), .inl (gJ g, 2001, .inr (.inl M.S.bf))), ((a 7), .inl (gJ g, 2001, .inr (.inl M.S.af))), ((a 8), .inl (gZ g, 2001, .inl M.S.bk)), ((a 9), .inl (gJ g, 672, .inr (.inl M.kp))), ((a 10), .inl (gI g, 21, .inl M.st)), ((a 11), .inl (gI g, 21, .inl M.en)), ((a 12), .inl (gZ g, 21, .inl M.sp))]) := hD
  refine lv_aload_n hx hb dX4_archive_0 rfl (lv_at hl 0 rfl) ?_
  refine lv_iconst (v := 0) hx hb dX4_archive_1 (by decide) ?_
  refine va_put (D := gD g) (ci := 6) (v := .int 0) (ty := .int) (C := RX4) (T := TX4) (N := 18) hx hb hts (by decide +kernel) tyX4 tyX4_ok nmX4 hown hK.1 hP hD hS 0 rfl rfl 0 (by decide) (hts (.fieldLink RX4 52 "LogForwardModel" "code" "I") (by decide +kernel)) (fun _ h9 => h9) rfl (by decide +kernel) rfl rfl (Nat.le_of_ble_eq_true rfl) dX4_archive_2 (fun H locs hP hD hS => ?_)
  have hP : va_P (gD g) vwCl ([((a 0), .inr (6, [.int 0, .int (nI (M.rg)), .ref (a 1), .ref (a 2), .ref (a 3), .ref (a 4), .ref (a 5), .ref (a 6), .ref (a 7), .ref (a 8), .int (nI (M.S.n)), .int (nI (M.S.ar)), .int (nI (M.k)), .int (nI (M.fz)), .ref (a 9), .ref (a 10), .ref (a 11), .ref (a 12)])), ((a 1), .inl (gJ g, 32, .inr (.inl M.cs))), ((a 2), .inl (gI g, 2001, .inl M.S.kd)), ((a 3), .inl (gI g, 2001, .inl M.S.un)), ((a 4), .inl (gI g, 2001, .inl M.S.ce)), ((a 5), .inl (gI g, 2001, .inl M.S.tn)), ((a 6), .inl (gJ g, 2001, .inr (.inl M.S.bf))), ((a 7), .inl (gJ g, 2001, .inr (.inl M.S.af))), ((a 8), .inl (gZ g, 2001, .inl M.S.bk)), ((a 9), .inl (gJ g, 672, .inr (.inl M.kp))), ((a 10), .inl (gI g, 21, .inl M.st)), ((a 11), .inl (gI g, 21, .inl M.en)), ((a 12), .inl (gZ g, 21, .inl M.sp))]) H := hP
  have hD : va_D A ([((a 0), .inr (6, [.int 0, .int (nI (M.rg)), .ref (a 1), .ref (a 2), .ref (a 3), .ref (a 4), .ref (a 5), .ref (a 6), .ref (a 7), .ref (a 8), .int (nI (M.S.n)), .int (nI (M.S.ar)), .int (nI (M.k)), .int (nI (M.fz)), .ref (a 9), .ref (a 10), .ref (a 11), .ref (a 12)])), ((a 1), .inl (gJ g, 32, .inr (.inl M.cs))), ((a 2), .inl (gI g, 2001, .inl M.S.kd)), ((a 3), .inl (gI g, 2001, .inl M.S.un)), ((a 4), .inl (gI g, 2001, .inl M.S.ce)), ((a 5), .inl (gI g, 2001, .inl M.S.tn)), ((a 6), .inl (gJ g, 2001, .inr (.inl M.S.bf))), ((a 7), .inl (gJ g, 2001, .inr (.inl M.S.af))), ((a 8), .inl (gZ g, 2001, .inl M.S.bk)), ((a 9), .inl (gJ g, 672, .inr (.inl M.kp))), ((a 10), .inl (gI g, 21, .inl M.st)), ((a 11), .inl (gI g, 21, .inl M.en)), ((a 12), .inl (gZ g, 21, .inl M.sp))]) := hD
  obtain ⟨M0, hM0⟩ : ∃ M0 : MS, M0 = mC M 0 := ⟨_, rfl⟩
  replace hP : va_P (gD g) vwCl ([((a 0), .inr (6, [.int M0.cd, .int (nI (M0.rg)), .ref (a 1), .ref (a 2), .ref (a 3), .ref (a 4), .ref (a 5), .ref (a 6), .ref (a 7), .ref (a 8), .int (nI (M0.S.n)), .int (nI (M0.S.ar)), .int (nI (M0.k)), .int (nI (M0.fz)), .ref (a 9), .ref (a 10), .ref (a 11), .ref (a 12)])), ((a 1), .inl (gJ g, 32, .inr (.inl M0.cs))), ((a 2), .inl (gI g, 2001, .inl M0.S.kd)), ((a 3), .inl (gI g, 2001, .inl M0.S.un)), ((a 4), .inl (gI g, 2001, .inl M0.S.ce)), ((a 5), .inl (gI g, 2001, .inl M0.S.tn)), ((a 6), .inl (gJ g, 2001, .inr (.inl M0.S.bf))), ((a 7), .inl (gJ g, 2001, .inr (.inl M0.S.af))), ((a 8), .inl (gZ g, 2001, .inl M0.S.bk)), ((a 9), .inl (gJ g, 672, .inr (.inl M0.kp))), ((a 10), .inl (gI g, 21, .inl M0.st)), ((a 11), .inl (gI g, 21, .inl M0.en)), ((a 12), .inl (gZ g, 21, .inl M0.sp))]) H := by rw [hM0]; exact hP
  replace hD : va_D A ([((a 0), .inr (6, [.int M0.cd, .int (nI (M0.rg)), .ref (a 1), .ref (a 2), .ref (a 3), .ref (a 4), .ref (a 5), .ref (a 6), .ref (a 7), .ref (a 8), .int (nI (M0.S.n)), .int (nI (M0.S.ar)), .int (nI (M0.k)), .int (nI (M0.fz)), .ref (a 9), .ref (a 10), .ref (a 11), .ref (a 12)])), ((a 1), .inl (gJ g, 32, .inr (.inl M0.cs))), ((a 2), .inl (gI g, 2001, .inl M0.S.kd)), ((a 3), .inl (gI g, 2001, .inl M0.S.un)), ((a 4), .inl (gI g, 2001, .inl M0.S.ce)), ((a 5), .inl (gI g, 2001, .inl M0.S.tn)), ((a 6), .inl (gJ g, 2001, .inr (.inl M0.S.bf))), ((a 7), .inl (gJ g, 2001, .inr (.inl M0.S.af))), ((a 8), .inl (gZ g, 2001, .inl M0.S.bk)), ((a 9), .inl (gJ g, 672, .inr (.inl M0.kp))), ((a 10), .inl (gI g, 21, .inl M0.st)), ((a 11), .inl (gI g, 21, .inl M0.en)), ((a 12), .inl (gZ g, 21, .inl M0.sp))]) := by rw [hM0]; exact hD
  have hn : M0.S.n ≤ 2000 := by rw [hM0]; exact hn
  have har : M0.S.ar ≤ 2000 := by rw [hM0]; exact har
  refine lv_iload_n hx hb dX4_archive_5 rfl (lv_at hl 1 rfl) ?_
  refine lv_if_lt (tgt := 17) hx hb dX4_archive_6 (by decide) (fun c_6_1 => ?_) (fun c_6_1 => ?_)
  · have i_6 : (p1.toInt : Int) < 0 := q_lt c_6_1 rfl rfl
    refine lv_bipush (v := (-4)) hx hb dX4_archive_17 (by decide) ?_
    have hP9 : va_P (gD g) vwCl (wM g a M0) H := hP
    have hD9 : va_D A (wM g a M0) := hD
    exact W.iret (v := (-4)) hx hb hr (fun tz htz hWz => ⟨⟨(-4), M0, rfl, (by rw [← hM0]; exact (pr_mk (by unfold arM; rw [if_pos (by show ¬ (_ ∧ _); omega)] <;> rfl))), by rw [htz]; exact hP9, hD9⟩, hS.F htz⟩) hS.2.2 dX4_archive_19
  · have i_6 : (0 : Int) ≤ p1.toInt := q_nlt c_6_1 rfl rfl
    refine lv_iload_n hx hb dX4_archive_9 rfl (lv_at hl 1 rfl) ?_
    refine lv_aload_n hx hb dX4_archive_10 rfl (lv_at hl 0 rfl) ?_
    refine va_get (D := gD g) (ci := 6) (v := .int (nI (M0.S.n))) (C := RX4) (T := TX4) (N := 18) hx hb hts (by decide +kernel) hown hK.1 hP 0 rfl rfl 10 (by decide) (hts (.fieldLink RX4 55 "LogForwardModel" "rows" "I") (by decide +kernel)) (fun _ h9 => h9) rfl dX4_archive_11 ?_
    refine lv_icmp_le (tgt := 20) hx hb dX4_archive_14 (by decide) (fun c_14_2 => ?_) (fun c_14_2 => ?_)
    · have i_14 : (p1.toInt : Int) ≤ ((M0.S.n : Nat) : Int) := q_le c_14_2 rfl (l_nI (by omega))
      have e1 := p_nI (x := p1) (by omega)
      have e2 := pn_toInt (x := p1) (by omega)
      replace hl : lv_has ls 2 [(0, .ref (a 0)), (1, .int (nI (p1.toNatClampNeg)))] := by rw [← e1]; exact hl
      refine lv_aload_n hx hb dX4_archive_20 rfl (lv_at hl 0 rfl) ?_
      refine lv_iload_n hx hb dX4_archive_21 rfl (lv_at hl 1 rfl) ?_
      refine lv_aload_n hx hb dX4_archive_22 rfl (lv_at hl 0 rfl) ?_
      refine va_get (D := gD g) (ci := 6) (v := .int (nI (M0.S.ar))) (C := RX4) (T := TX4) (N := 18) hx hb hts (by decide +kernel) hown hK.1 hP 0 rfl rfl 11 (by decide) (hts (.fieldLink RX4 105 "LogForwardModel" "archived" "I") (by decide +kernel)) (fun _ h9 => h9) rfl dX4_archive_23 ?_
      refine lv_icmp_le (tgt := 33) hx hb dX4_archive_26 (by decide) (fun c_26_3 => ?_) (fun c_26_3 => ?_)
      · have i_26 : (((p1.toNatClampNeg : Nat) : Int) : Int) ≤ ((M0.S.ar : Nat) : Int) := q_le c_26_3 (l_nI (by have := pn_toInt (x := p1) (by omega); omega)) (l_nI (by omega))
        refine lv_aload_n hx hb dX4_archive_33 rfl (lv_at hl 0 rfl) ?_
        refine va_get (D := gD g) (ci := 6) (v := .int (nI (M0.S.ar))) (C := RX4) (T := TX4) (N := 18) hx hb hts (by decide +kernel) hown hK.1 hP 0 rfl rfl 11 (by decide) (hts (.fieldLink RX4 105 "LogForwardModel" "archived" "I") (by decide +kernel)) (fun _ h9 => h9) rfl dX4_archive_34 ?_
        refine va_put (D := gD g) (ci := 6) (v := .int (nI (M0.S.ar))) (ty := .int) (C := RX4) (T := TX4) (N := 18) hx hb hts (by decide +kernel) tyX4 tyX4_ok nmX4 hown hK.1 hP hD hS 0 rfl rfl 11 (by decide) (hts (.fieldLink RX4 105 "LogForwardModel" "archived" "I") (by decide +kernel)) (fun _ h9 => h9) rfl (by decide +kernel) rfl rfl (Nat.le_of_ble_eq_true rfl) dX4_archive_37 (fun H locs hP hD hS => ?_)
        have hP : va_P (gD g) vwCl ([((a 0), .inr (6, [.int M0.cd, .int (nI (M0.rg)), .ref (a 1), .ref (a 2), .ref (a 3), .ref (a 4), .ref (a 5), .ref (a 6), .ref (a 7), .ref (a 8), .int (nI (M0.S.n)), .int (nI (M0.S.ar)), .int (nI (M0.k)), .int (nI (M0.fz)), .ref (a 9), .ref (a 10), .ref (a 11), .ref (a 12)])), ((a 1), .inl (gJ g, 32, .inr (.inl M0.cs))), ((a 2), .inl (gI g, 2001, .inl M0.S.kd)), ((a 3), .inl (gI g, 2001, .inl M0.S.un)), ((a 4), .inl (gI g, 2001, .inl M0.S.ce)), ((a 5), .inl (gI g, 2001, .inl M0.S.tn)), ((a 6), .inl (gJ g, 2001, .inr (.inl M0.S.bf))), ((a 7), .inl (gJ g, 2001, .inr (.inl M0.S.af))), ((a 8), .inl (gZ g, 2001, .inl M0.S.bk)), ((a 9), .inl (gJ g, 672, .inr (.inl M0.kp))), ((a 10), .inl (gI g, 21, .inl M0.st)), ((a 11), .inl (gI g, 21, .inl M0.en)), ((a 12), .inl (gZ g, 21, .inl M0.sp))]) H := hP
        have hD : va_D A ([((a 0), .inr (6, [.int M0.cd, .int (nI (M0.rg)), .ref (a 1), .ref (a 2), .ref (a 3), .ref (a 4), .ref (a 5), .ref (a 6), .ref (a 7), .ref (a 8), .int (nI (M0.S.n)), .int (nI (M0.S.ar)), .int (nI (M0.k)), .int (nI (M0.fz)), .ref (a 9), .ref (a 10), .ref (a 11), .ref (a 12)])), ((a 1), .inl (gJ g, 32, .inr (.inl M0.cs))), ((a 2), .inl (gI g, 2001, .inl M0.S.kd)), ((a 3), .inl (gI g, 2001, .inl M0.S.un)), ((a 4), .inl (gI g, 2001, .inl M0.S.ce)), ((a 5), .inl (gI g, 2001, .inl M0.S.tn)), ((a 6), .inl (gJ g, 2001, .inr (.inl M0.S.bf))), ((a 7), .inl (gJ g, 2001, .inr (.inl M0.S.af))), ((a 8), .inl (gZ g, 2001, .inl M0.S.bk)), ((a 9), .inl (gJ g, 672, .inr (.inl M0.kp))), ((a 10), .inl (gI g, 21, .inl M0.st)), ((a 11), .inl (gI g, 21, .inl M0.en)), ((a 12), .inl (gZ g, 21, .inl M0.sp))]) := hD
        refine lv_aload_n hx hb dX4_archive_40 rfl (lv_at hl 0 rfl) ?_
        refine va_get (D := gD g) (ci := 6) (v := .int (nI (M0.S.ar))) (C := RX4) (T := TX4) (N := 18) hx hb hts (by decide +kernel) hown hK.1 hP 0 rfl rfl 11 (by decide) (hts (.fieldLink RX4 105 "LogForwardModel" "archived" "I") (by decide +kernel)) (fun _ h9 => h9) rfl dX4_archive_41 ?_
        have hP9 : va_P (gD g) vwCl (wM g a M0) H := hP
        have hD9 : va_D A (wM g a M0) := hD
        exact W.iret (v := (nI (M0.S.ar))) hx hb hr (fun tz htz hWz => ⟨⟨(nI (M0.S.ar)), M0, rfl, (by rw [← hM0]; exact (pr_mk (by unfold arM; rw [if_neg (fun h9 => h9 (by show _ ∧ _; omega))]; show (nI (max M0.S.ar p1.toNatClampNeg), mS M0 (M0.S.kd, M0.S.un, M0.S.ce, M0.S.bf, M0.S.af, M0.S.tn, M0.S.bk, M0.S.n, max M0.S.ar p1.toNatClampNeg)) = _; rw [show max M0.S.ar p1.toNatClampNeg = M0.S.ar by omega]; rfl))), by rw [htz]; exact hP9, hD9⟩, hS.F htz⟩) hS.2.2 dX4_archive_44
      · have i_26 : (((M0.S.ar : Nat) : Int) : Int) < ((p1.toNatClampNeg : Nat) : Int) := q_nle c_26_3 (l_nI (by have := pn_toInt (x := p1) (by omega); omega)) (l_nI (by omega))
        refine lv_iload_n hx hb dX4_archive_29 rfl (lv_at hl 1 rfl) ?_
        refine lv_goto (tgt := 37) hx hb dX4_archive_30 (by decide) ?_
        refine va_put (D := gD g) (ci := 6) (v := .int (nI (p1.toNatClampNeg))) (ty := .int) (C := RX4) (T := TX4) (N := 18) hx hb hts (by decide +kernel) tyX4 tyX4_ok nmX4 hown hK.1 hP hD hS 0 rfl rfl 11 (by decide) (hts (.fieldLink RX4 105 "LogForwardModel" "archived" "I") (by decide +kernel)) (fun _ h9 => h9) rfl (by decide +kernel) rfl rfl (Nat.le_of_ble_eq_true rfl) dX4_archive_37 (fun H locs hP hD hS => ?_)
        have hP : va_P (gD g) vwCl ([((a 0), .inr (6, [.int M0.cd, .int (nI (M0.rg)), .ref (a 1), .ref (a 2), .ref (a 3), .ref (a 4), .ref (a 5), .ref (a 6), .ref (a 7), .ref (a 8), .int (nI (M0.S.n)), .int (nI (p1.toNatClampNeg)), .int (nI (M0.k)), .int (nI (M0.fz)), .ref (a 9), .ref (a 10), .ref (a 11), .ref (a 12)])), ((a 1), .inl (gJ g, 32, .inr (.inl M0.cs))), ((a 2), .inl (gI g, 2001, .inl M0.S.kd)), ((a 3), .inl (gI g, 2001, .inl M0.S.un)), ((a 4), .inl (gI g, 2001, .inl M0.S.ce)), ((a 5), .inl (gI g, 2001, .inl M0.S.tn)), ((a 6), .inl (gJ g, 2001, .inr (.inl M0.S.bf))), ((a 7), .inl (gJ g, 2001, .inr (.inl M0.S.af))), ((a 8), .inl (gZ g, 2001, .inl M0.S.bk)), ((a 9), .inl (gJ g, 672, .inr (.inl M0.kp))), ((a 10), .inl (gI g, 21, .inl M0.st)), ((a 11), .inl (gI g, 21, .inl M0.en)), ((a 12), .inl (gZ g, 21, .inl M0.sp))]) H := hP
        have hD : va_D A ([((a 0), .inr (6, [.int M0.cd, .int (nI (M0.rg)), .ref (a 1), .ref (a 2), .ref (a 3), .ref (a 4), .ref (a 5), .ref (a 6), .ref (a 7), .ref (a 8), .int (nI (M0.S.n)), .int (nI (p1.toNatClampNeg)), .int (nI (M0.k)), .int (nI (M0.fz)), .ref (a 9), .ref (a 10), .ref (a 11), .ref (a 12)])), ((a 1), .inl (gJ g, 32, .inr (.inl M0.cs))), ((a 2), .inl (gI g, 2001, .inl M0.S.kd)), ((a 3), .inl (gI g, 2001, .inl M0.S.un)), ((a 4), .inl (gI g, 2001, .inl M0.S.ce)), ((a 5), .inl (gI g, 2001, .inl M0.S.tn)), ((a 6), .inl (gJ g, 2001, .inr (.inl M0.S.bf))), ((a 7), .inl (gJ g, 2001, .inr (.inl M0.S.af))), ((a 8), .inl (gZ g, 2001, .inl M0.S.bk)), ((a 9), .inl (gJ g, 672, .inr (.inl M0.kp))), ((a 10), .inl (gI g, 21, .inl M0.st)), ((a 11), .inl (gI g, 21, .inl M0.en)), ((a 12), .inl (gZ g, 21, .inl M0.sp))]) := hD
        refine lv_aload_n hx hb dX4_archive_40 rfl (lv_at hl 0 rfl) ?_
        refine va_get (D := gD g) (ci := 6) (v := .int (nI (p1.toNatClampNeg))) (C := RX4) (T := TX4) (N := 18) hx hb hts (by decide +kernel) hown hK.1 hP 0 rfl rfl 11 (by decide) (hts (.fieldLink RX4 105 "LogForwardModel" "archived" "I") (by decide +kernel)) (fun _ h9 => h9) rfl dX4_archive_41 ?_
        have hP9 : va_P (gD g) vwCl (wM g a ((M0.S.kd, M0.S.un, M0.S.ce, M0.S.bf, M0.S.af, M0.S.tn, M0.S.bk, M0.S.n, p1.toNatClampNeg), M0.st, M0.en, M0.sp, M0.kp, M0.k, M0.fz, M0.cs, M0.rg, M0.cd)) H := hP
        have hD9 : va_D A (wM g a ((M0.S.kd, M0.S.un, M0.S.ce, M0.S.bf, M0.S.af, M0.S.tn, M0.S.bk, M0.S.n, p1.toNatClampNeg), M0.st, M0.en, M0.sp, M0.kp, M0.k, M0.fz, M0.cs, M0.rg, M0.cd)) := hD
        exact W.iret (v := (nI (p1.toNatClampNeg))) hx hb hr (fun tz htz hWz => ⟨⟨(nI (p1.toNatClampNeg)), ((M0.S.kd, M0.S.un, M0.S.ce, M0.S.bf, M0.S.af, M0.S.tn, M0.S.bk, M0.S.n, p1.toNatClampNeg), M0.st, M0.en, M0.sp, M0.kp, M0.k, M0.fz, M0.cs, M0.rg, M0.cd), rfl, (by rw [← hM0]; exact (pr_mk (by unfold arM; rw [if_neg (fun h9 => h9 (by show _ ∧ _; omega))]; show (nI (max M0.S.ar p1.toNatClampNeg), mS M0 (M0.S.kd, M0.S.un, M0.S.ce, M0.S.bf, M0.S.af, M0.S.tn, M0.S.bk, M0.S.n, max M0.S.ar p1.toNatClampNeg)) = _; rw [show max M0.S.ar p1.toNatClampNeg = p1.toNatClampNeg by omega]; rfl))), by rw [htz]; exact hP9, hD9⟩, hS.F htz⟩) hS.2.2 dX4_archive_44
    · have i_14 : (((M0.S.n : Nat) : Int) : Int) < p1.toInt := q_nle c_14_2 rfl (l_nI (by omega))
      refine lv_bipush (v := (-4)) hx hb dX4_archive_17 (by decide) ?_
      have hP9 : va_P (gD g) vwCl (wM g a M0) H := hP
      have hD9 : va_D A (wM g a M0) := hD
      exact W.iret (v := (-4)) hx hb hr (fun tz htz hWz => ⟨⟨(-4), M0, rfl, (by rw [← hM0]; exact (pr_mk (by unfold arM; rw [if_pos (by show ¬ (_ ∧ _); omega)] <;> rfl))), by rw [htz]; exact hP9, hD9⟩, hS.F htz⟩) hS.2.2 dX4_archive_19
set_option maxHeartbeats 4000000 in
set_option maxRecDepth 100000 in
theorem c_X4_gap (l : Launch) (g : GG) (a : Nat → Nat) (M : MS) (sz : Nat) (p1 : Int32) (hn : M.S.n ≤ 2000) : Met l yX4_gap wsX4_gap { frames := 1, cells := 0, slots := 0, locals := 21 } (va_Pc [.ref (a 0), .int p1] (Pw g (wM g a M) sz)) (va_Qi (fun rv u => rv = nI (gqF (mC M 0).S p1 (mC M 0).S.n 1 0) ∧ u = mC M 0) (Bw g (va_A (wM g a M) sz) (fun u : MS => wM g a u)) (va_A (wM g a M) sz)) 0 0 (va_A (wM g a M) sz) := by
  refine Met.ofW (cc := cX4_gap) (maxL := 4) (ret := (some .int)) (by decide) rfl ?_
  intro p e s m args below meth c s₁ B hml hv
  obtain ⟨rfl, hsz, hP, hK, hD0⟩ := hv
  have hx := B.exec
  have hb := B.bytes
  have hr := B.returns
  have hts := atoms_spec (ws := wsX4_gap) B.pre
  have hown : s.vm.findClass RX4 = some m.cls := findClass_of_methodNamed B.named
  have hlocks := B.notSynchronized
  subst hsz
  have hD := hD0.self (sz := s.heap.size)
  generalize hAe : va_A (wM g a M) s.heap.size = A at hD ⊢
  have hA : ∀ q : Nat, s.heap.size ≤ q → A q := fun q h => by rw [← hAe]; exact Or.inr h
  have hS : va_S A s.heap s.heap [] := va_S.rf
  have hl := lv_entry ([.ref (a 0), .int p1]) (n := 4) (Nat.le_of_ble_eq_true rfl)
  rw [lg_entry_eq]
  generalize (lg_sl ([.ref (a 0), .int p1]) ++ List.replicate (4 - (lg_sl ([.ref (a 0), .int p1])).length) Slot.unset).toArray = ls at hl ⊢
  have hl : lv_has ls 4 [(0, .ref (a 0)), (1, .int p1)] := hl
  replace hP : va_P (gD g) vwCl ([((a 0), .inr (6, [.int M.cd, .int (nI (M.rg)), .ref (a 1), .ref (a 2), .ref (a 3), .ref (a 4), .ref (a 5), .ref (a 6), .ref (a 7), .ref (a 8), .int (nI (M.S.n)), .int (nI (M.S.ar)), .int (nI (M.k)), .int (nI (M.fz)), .ref (a 9), .ref (a 10), .ref (a 11), .ref (a 12)])), ((a 1), .inl (gJ g, 32, .inr (.inl M.cs))), ((a 2), .inl (gI g, 2001, .inl M.S.kd)), ((a 3), .inl (gI g, 2001, .inl M.S.un)), ((a 4), .inl (gI g, 2001, .inl M.S.ce)), ((a 5), .inl (gI g, 2001, .inl M.S.tn)), ((a 6), .inl (gJ g, 2001, .inr (.inl M.S.bf))), ((a 7), .inl (gJ g, 2001, .inr (.inl M.S.af))), ((a 8), .inl (gZ g, 2001, .inl M.S.bk)), ((a 9), .inl (gJ g, 672, .inr (.inl M.kp))), ((a 10), .inl (gI g, 21, .inl M.st)), ((a 11), .inl (gI g, 21, .inl M.en)), ((a 12), .inl (gZ g, 21, .inl M.sp))]) s.heap := hP
  replace hD : va_D A ([((a 0), .inr (6, [.int M.cd, .int (nI (M.rg)), .ref (a 1), .ref (a 2), .ref (a 3), .ref (a 4), .ref (a 5), .ref (a 6), .ref (a 7), .ref (a 8), .int (nI (M.S.n)), .int (nI (M.S.ar)), .int (nI (M.k)), .int (nI (M.fz)), .ref (a 9), .ref (a 10), .ref (a 11), .ref (a 12)])), ((a 1), .inl (gJ g, 32, .inr (.inl M.cs))), ((a 2), .inl (gI g, 2001, .inl M.S.kd)), ((a 3), .inl (gI g, 2001, .inl M.S.un)), ((a 4), .inl (gI g, 2001, .inl M.S.ce)), ((a 5), .inl (gI g, 2001, .inl M.S.tn)), ((a 6), .inl (gJ g, 2001, .inr (.inl M.S.bf))), ((a 7), .inl (gJ g, 2001, .inr (.inl M.S.af))), ((a 8), .inl (gZ g, 2001, .inl M.S.bk)), ((a 9), .inl (gJ g, 672, .inr (.inl M.kp))), ((a 10), .inl (gI g, 21, .inl M.st)), ((a 11), .inl (gI g, 21, .inl M.en)), ((a 12), .inl (gZ g, 21, .inl M.sp))]) := hD
  refine lv_aload_n hx hb dX4_gap_0 rfl (lv_at hl 0 rfl) ?_
  refine lv_iconst (v := 0) hx hb dX4_gap_1 (by decide) ?_
  refine va_put (D := gD g) (ci := 6) (v := .int 0) (ty := .int) (C := RX4) (T := TX4) (N := 18) hx hb hts (by decide +kernel) tyX4 tyX4_ok nmX4 hown hK.1 hP hD hS 0 rfl rfl 0 (by decide) (hts (.fieldLink RX4 52 "LogForwardModel" "code" "I") (by decide +kernel)) (fun _ h9 => h9) rfl (by decide +kernel) rfl rfl (Nat.le_of_ble_eq_true rfl) dX4_gap_2 (fun H locs hP hD hS => ?_)
  have hP : va_P (gD g) vwCl ([((a 0), .inr (6, [.int 0, .int (nI (M.rg)), .ref (a 1), .ref (a 2), .ref (a 3), .ref (a 4), .ref (a 5), .ref (a 6), .ref (a 7), .ref (a 8), .int (nI (M.S.n)), .int (nI (M.S.ar)), .int (nI (M.k)), .int (nI (M.fz)), .ref (a 9), .ref (a 10), .ref (a 11), .ref (a 12)])), ((a 1), .inl (gJ g, 32, .inr (.inl M.cs))), ((a 2), .inl (gI g, 2001, .inl M.S.kd)), ((a 3), .inl (gI g, 2001, .inl M.S.un)), ((a 4), .inl (gI g, 2001, .inl M.S.ce)), ((a 5), .inl (gI g, 2001, .inl M.S.tn)), ((a 6), .inl (gJ g, 2001, .inr (.inl M.S.bf))), ((a 7), .inl (gJ g, 2001, .inr (.inl M.S.af))), ((a 8), .inl (gZ g, 2001, .inl M.S.bk)), ((a 9), .inl (gJ g, 672, .inr (.inl M.kp))), ((a 10), .inl (gI g, 21, .inl M.st)), ((a 11), .inl (gI g, 21, .inl M.en)), ((a 12), .inl (gZ g, 21, .inl M.sp))]) H := hP
  have hD : va_D A ([((a 0), .inr (6, [.int 0, .int (nI (M.rg)), .ref (a 1), .ref (a 2), .ref (a 3), .ref (a 4), .ref (a 5), .ref (a 6), .ref (a 7), .ref (a 8), .int (nI (M.S.n)), .int (nI (M.S.ar)), .int (nI (M.k)), .int (nI (M.fz)), .ref (a 9), .ref (a 10), .ref (a 11), .ref (a 12)])), ((a 1), .inl (gJ g, 32, .inr (.inl M.cs))), ((a 2), .inl (gI g, 2001, .inl M.S.kd)), ((a 3), .inl (gI g, 2001, .inl M.S.un)), ((a 4), .inl (gI g, 2001, .inl M.S.ce)), ((a 5), .inl (gI g, 2001, .inl M.S.tn)), ((a 6), .inl (gJ g, 2001, .inr (.inl M.S.bf))), ((a 7), .inl (gJ g, 2001, .inr (.inl M.S.af))), ((a 8), .inl (gZ g, 2001, .inl M.S.bk)), ((a 9), .inl (gJ g, 672, .inr (.inl M.kp))), ((a 10), .inl (gI g, 21, .inl M.st)), ((a 11), .inl (gI g, 21, .inl M.en)), ((a 12), .inl (gZ g, 21, .inl M.sp))]) := hD
  obtain ⟨M0, hM0⟩ : ∃ M0 : MS, M0 = mC M 0 := ⟨_, rfl⟩
  replace hP : va_P (gD g) vwCl ([((a 0), .inr (6, [.int M0.cd, .int (nI (M0.rg)), .ref (a 1), .ref (a 2), .ref (a 3), .ref (a 4), .ref (a 5), .ref (a 6), .ref (a 7), .ref (a 8), .int (nI (M0.S.n)), .int (nI (M0.S.ar)), .int (nI (M0.k)), .int (nI (M0.fz)), .ref (a 9), .ref (a 10), .ref (a 11), .ref (a 12)])), ((a 1), .inl (gJ g, 32, .inr (.inl M0.cs))), ((a 2), .inl (gI g, 2001, .inl M0.S.kd)), ((a 3), .inl (gI g, 2001, .inl M0.S.un)), ((a 4), .inl (gI g, 2001, .inl M0.S.ce)), ((a 5), .inl (gI g, 2001, .inl M0.S.tn)), ((a 6), .inl (gJ g, 2001, .inr (.inl M0.S.bf))), ((a 7), .inl (gJ g, 2001, .inr (.inl M0.S.af))), ((a 8), .inl (gZ g, 2001, .inl M0.S.bk)), ((a 9), .inl (gJ g, 672, .inr (.inl M0.kp))), ((a 10), .inl (gI g, 21, .inl M0.st)), ((a 11), .inl (gI g, 21, .inl M0.en)), ((a 12), .inl (gZ g, 21, .inl M0.sp))]) H := by rw [hM0]; exact hP
  replace hD : va_D A ([((a 0), .inr (6, [.int M0.cd, .int (nI (M0.rg)), .ref (a 1), .ref (a 2), .ref (a 3), .ref (a 4), .ref (a 5), .ref (a 6), .ref (a 7), .ref (a 8), .int (nI (M0.S.n)), .int (nI (M0.S.ar)), .int (nI (M0.k)), .int (nI (M0.fz)), .ref (a 9), .ref (a 10), .ref (a 11), .ref (a 12)])), ((a 1), .inl (gJ g, 32, .inr (.inl M0.cs))), ((a 2), .inl (gI g, 2001, .inl M0.S.kd)), ((a 3), .inl (gI g, 2001, .inl M0.S.un)), ((a 4), .inl (gI g, 2001, .inl M0.S.ce)), ((a 5), .inl (gI g, 2001, .inl M0.S.tn)), ((a 6), .inl (gJ g, 2001, .inr (.inl M0.S.bf))), ((a 7), .inl (gJ g, 2001, .inr (.inl M0.S.af))), ((a 8), .inl (gZ g, 2001, .inl M0.S.bk)), ((a 9), .inl (gJ g, 672, .inr (.inl M0.kp))), ((a 10), .inl (gI g, 21, .inl M0.st)), ((a 11), .inl (gI g, 21, .inl M0.en)), ((a 12), .inl (gZ g, 21, .inl M0.sp))]) := by rw [hM0]; exact hD
  have hn : M0.S.n ≤ 2000 := by rw [hM0]; exact hn
  refine lv_iconst (v := 0) hx hb dX4_gap_5 (by decide) ?_
  refine lv_istore_n (lv' := [(2, .int 0), (0, .ref (a 0)), (1, .int p1)]) hx hb dX4_gap_6 rfl hl (by decide) rfl (fun ls hl => ?_)
  refine lv_iconst (v := 1) hx hb dX4_gap_7 (by decide) ?_
  refine lv_istore_n (lv' := [(3, .int 1), (2, .int 0), (0, .ref (a 0)), (1, .int p1)]) hx hb dX4_gap_8 rfl hl (by decide) rfl (fun ls hl => ?_)
  obtain ⟨i, hi⟩ : ∃ i : Nat, i = 1 := ⟨_, rfl⟩
  obtain ⟨c1, hc1⟩ : ∃ c1 : Nat, c1 = 0 := ⟨_, rfl⟩
  replace hl : lv_has ls 4 [(0, .ref (a 0)), (1, .int p1), (2, .int (nI (c1))), (3, .int (nI (i)))] := by subst hi; subst hc1; exact lv_sub hl [2, 3, 1, 0] rfl
  have hi1 : 1 ≤ i := by omega
  have hi2 : i ≤ M0.S.n + 1 := by omega
  have hc2 : c1 ≤ i := by omega
  have hq : gqF M0.S p1 M0.S.n 1 0 = gqF M0.S p1 (M0.S.n + 1 - i) i c1 := by rw [hi, hc1]; rfl
  clear hi hc1
  obtain ⟨d, hd⟩ : ∃ d, M0.S.n + 1 - i = d := ⟨_, rfl⟩
  induction d using Nat.strongRecOn generalizing i c1 ls with
  | ind d ih =>
    refine lv_iload_n hx hb dX4_gap_9 rfl (lv_at hl 3 rfl) ?_
    refine lv_aload_n hx hb dX4_gap_10 rfl (lv_at hl 0 rfl) ?_
    refine va_get (D := gD g) (ci := 6) (v := .int (nI (M0.S.n))) (C := RX4) (T := TX4) (N := 18) hx hb hts (by decide +kernel) hown hK.1 hP 0 rfl rfl 10 (by decide) (hts (.fieldLink RX4 55 "LogForwardModel" "rows" "I") (by decide +kernel)) (fun _ h9 => h9) rfl dX4_gap_11 ?_
    refine lv_icmp_gt (tgt := 44) hx hb dX4_gap_14 (by decide) (fun c_14_2 => ?_) (fun c_14_2 => ?_)
    · have i_14 : (((M0.S.n : Nat) : Int) : Int) < ((i : Nat) : Int) := q_lt c_14_2 (l_nI (by omega)) (l_nI (by omega))
      refine lv_iconst (v := 0) hx hb dX4_gap_44 (by decide) ?_
      have hP9 : va_P (gD g) vwCl (wM g a M0) H := hP
      have hD9 : va_D A (wM g a M0) := hD
      exact W.iret (v := 0) hx hb hr (fun tz htz hWz => ⟨⟨0, M0, rfl, (by rw [← hM0]; exact ⟨by rw [hq, gq_end (by omega)]; rfl, rfl⟩), by rw [htz]; exact hP9, hD9⟩, hS.F htz⟩) hS.2.2 dX4_gap_45
    · have i_14 : (((i : Nat) : Int) : Int) ≤ ((M0.S.n : Nat) : Int) := q_nlt c_14_2 (l_nI (by omega)) (l_nI (by omega))
      refine lv_aload_n hx hb dX4_gap_17 rfl (lv_at hl 0 rfl) ?_
      refine lv_iload_n hx hb dX4_gap_18 rfl (lv_at hl 3 rfl) ?_
      refine vp_callSi (va_Run.run (va_runV (As := [.int (nI (i))]) (rest := []) ⟨hx, hb, hml, hown, hts⟩ (c_X4_isMissing l g a M0 (i) (by omega) (by omega) (by omega)) (cwV 1 hts gX4_gap_X4_isMissing rfl rfl rfl (by decide +kernel) ⟨Nat.le_of_ble_eq_true rfl, Nat.le_of_ble_eq_true rfl⟩) (pv_r hK hP (ci := 6) (q0 := 0) rfl rfl [0, 1, 2, 3, 4, 5, 6, 7, 8, 9, 10, 11, 12] rfl) rfl rfl hl.1 rfl (lv_room (Nat.le_of_ble_eq_true rfl)) dX4_gap_19 ⟨Nat.zero_le _, Nat.zero_le _⟩)) (fun r_19_3 h_19_3 => ?_)
      refine lv_if_ne (tgt := 28) hx hb dX4_gap_22 (by decide) (fun c_22_3 => ?_) (fun c_22_3 => ?_)
      · have b_22 : M0.S.tn (i) = 3 := bI_t h_19_3 c_22_3
        refine lv_iload_n hx hb dX4_gap_28 rfl (lv_at hl 2 rfl) ?_
        refine lv_iload_n hx hb dX4_gap_29 rfl (lv_at hl 1 rfl) ?_
        refine lv_icmp_ne (tgt := 35) hx hb dX4_gap_30 (by decide) (fun c_30_4 => ?_) (fun c_30_4 => ?_)
        · have i_30 : (((c1 : Nat) : Int) : Int) ≠ p1.toInt := q_ne c_30_4 (l_nI (by omega)) rfl
          refine lv_iinc (v := (nI (c1 + 1))) (lv' := [(2, .int (nI (c1 + 1))), (0, .ref (a 0)), (1, .int p1), (3, .int (nI (i)))]) hx hb dX4_gap_35 hl (k := 2) rfl (nI_1 _) (by decide) rfl (fun ls hl => ?_)
          refine lv_iinc (v := (nI (i + 1))) (lv' := [(3, .int (nI (i + 1))), (2, .int (nI (c1 + 1))), (0, .ref (a 0)), (1, .int p1)]) hx hb dX4_gap_38 hl (k := 3) rfl (nI_1 _) (by decide) rfl (fun ls hl => ?_)
          refine lv_goto (tgt := 9) hx hb dX4_gap_41 (by decide) ?_
          exact ih (M0.S.n + 1 - (i + 1)) (by omega) ls (i + 1) (c1 + 1) (lv_sub hl [2, 3, 1, 0] rfl) (by omega) (by omega) (by omega) (by rw [hq]; exact gq_go (by omega) (by assumption) (by assumption)) rfl
        · have i_30 : (((c1 : Nat) : Int) : Int) = p1.toInt := q_eq c_30_4 (l_nI (by omega)) rfl
          refine lv_iload_n hx hb dX4_gap_33 rfl (lv_at hl 3 rfl) ?_
          have hP9 : va_P (gD g) vwCl (wM g a M0) H := hP
          have hD9 : va_D A (wM g a M0) := hD
          exact W.iret (v := (nI (i))) hx hb hr (fun tz htz hWz => ⟨⟨(nI (i)), M0, rfl, (by rw [← hM0]; exact ⟨by rw [hq, gq_yes (by omega) (by assumption) (by assumption)], rfl⟩), by rw [htz]; exact hP9, hD9⟩, hS.F htz⟩) hS.2.2 dX4_gap_34
      · have b_22 : ¬ (M0.S.tn (i) = 3) := bI_f h_19_3 c_22_3
        refine lv_goto (tgt := 38) hx hb dX4_gap_25 (by decide) ?_
        refine lv_iinc (v := (nI (i + 1))) (lv' := [(3, .int (nI (i + 1))), (0, .ref (a 0)), (1, .int p1), (2, .int (nI (c1)))]) hx hb dX4_gap_38 hl (k := 3) rfl (nI_1 _) (by decide) rfl (fun ls hl => ?_)
        refine lv_goto (tgt := 9) hx hb dX4_gap_41 (by decide) ?_
        exact ih (M0.S.n + 1 - (i + 1)) (by omega) ls (i + 1) (c1) (lv_sub hl [1, 2, 3, 0] rfl) (by omega) (by omega) (by omega) (by rw [hq]; exact gq_no (by omega) (by assumption)) rfl
set_option maxHeartbeats 4000000 in
set_option maxRecDepth 100000 in
theorem c_X4_ahead (l : Launch) (g : GG) (a : Nat → Nat) (M : MS) (sz : Nat) (hn : M.S.n ≤ 2000) : Met l yX4_ahead wsX4_ahead { frames := 2, cells := 0, slots := 0, locals := 44 } (va_Pc [.ref (a 0)] (Pw g (wM g a M) sz)) (va_Qi (fun rv u => rv = bI (gqF (mC M 0).S 0 (mC M 0).S.n 1 0 = 0) ∧ u = mC M 0) (Bw g (va_A (wM g a M) sz) (fun u : MS => wM g a u)) (va_A (wM g a M) sz)) 0 0 (va_A (wM g a M) sz) := by
  refine Met.ofW (cc := cX4_ahead) (maxL := 1) (ret := (some .boolean)) (by decide) rfl ?_
  intro p e s m args below meth c s₁ B hml hv
  obtain ⟨rfl, hsz, hP, hK, hD0⟩ := hv
  have hx := B.exec
  have hb := B.bytes
  have hr := B.returns
  have hts := atoms_spec (ws := wsX4_ahead) B.pre
  have hown : s.vm.findClass RX4 = some m.cls := findClass_of_methodNamed B.named
  have hlocks := B.notSynchronized
  subst hsz
  have hD := hD0.self (sz := s.heap.size)
  generalize hAe : va_A (wM g a M) s.heap.size = A at hD ⊢
  have hA : ∀ q : Nat, s.heap.size ≤ q → A q := fun q h => by rw [← hAe]; exact Or.inr h
  have hS : va_S A s.heap s.heap [] := va_S.rf
  have hl := lv_entry ([.ref (a 0)]) (n := 1) (Nat.le_of_ble_eq_true rfl)
  rw [lg_entry_eq]
  generalize (lg_sl ([.ref (a 0)]) ++ List.replicate (1 - (lg_sl ([.ref (a 0)])).length) Slot.unset).toArray = ls at hl ⊢
  have hl : lv_has ls 1 [(0, .ref (a 0))] := hl
  replace hP : va_P (gD g) vwCl ([((a 0), .inr (6, [.int M.cd, .int (nI (M.rg)), .ref (a 1), .ref (a 2), .ref (a 3), .ref (a 4), .ref (a 5), .ref (a 6), .ref (a 7), .ref (a 8), .int (nI (M.S.n)), .int (nI (M.S.ar)), .int (nI (M.k)), .int (nI (M.fz)), .ref (a 9), .ref (a 10), .ref (a 11), .ref (a 12)])), ((a 1), .inl (gJ g, 32, .inr (.inl M.cs))), ((a 2), .inl (gI g, 2001, .inl M.S.kd)), ((a 3), .inl (gI g, 2001, .inl M.S.un)), ((a 4), .inl (gI g, 2001, .inl M.S.ce)), ((a 5), .inl (gI g, 2001, .inl M.S.tn)), ((a 6), .inl (gJ g, 2001, .inr (.inl M.S.bf))), ((a 7), .inl (gJ g, 2001, .inr (.inl M.S.af))), ((a 8), .inl (gZ g, 2001, .inl M.S.bk)), ((a 9), .inl (gJ g, 672, .inr (.inl M.kp))), ((a 10), .inl (gI g, 21, .inl M.st)), ((a 11), .inl (gI g, 21, .inl M.en)), ((a 12), .inl (gZ g, 21, .inl M.sp))]) s.heap := hP
  replace hD : va_D A ([((a 0), .inr (6, [.int M.cd, .int (nI (M.rg)), .ref (a 1), .ref (a 2), .ref (a 3), .ref (a 4), .ref (a 5), .ref (a 6), .ref (a 7), .ref (a 8), .int (nI (M.S.n)), .int (nI (M.S.ar)), .int (nI (M.k)), .int (nI (M.fz)), .ref (a 9), .ref (a 10), .ref (a 11), .ref (a 12)])), ((a 1), .inl (gJ g, 32, .inr (.inl M.cs))), ((a 2), .inl (gI g, 2001, .inl M.S.kd)), ((a 3), .inl (gI g, 2001, .inl M.S.un)), ((a 4), .inl (gI g, 2001, .inl M.S.ce)), ((a 5), .inl (gI g, 2001, .inl M.S.tn)), ((a 6), .inl (gJ g, 2001, .inr (.inl M.S.bf))), ((a 7), .inl (gJ g, 2001, .inr (.inl M.S.af))), ((a 8), .inl (gZ g, 2001, .inl M.S.bk)), ((a 9), .inl (gJ g, 672, .inr (.inl M.kp))), ((a 10), .inl (gI g, 21, .inl M.st)), ((a 11), .inl (gI g, 21, .inl M.en)), ((a 12), .inl (gZ g, 21, .inl M.sp))]) := hD
  refine lv_aload_n hx hb dX4_ahead_0 rfl (lv_at hl 0 rfl) ?_
  refine lv_iconst (v := 0) hx hb dX4_ahead_1 (by decide) ?_
  refine va_put (D := gD g) (ci := 6) (v := .int 0) (ty := .int) (C := RX4) (T := TX4) (N := 18) hx hb hts (by decide +kernel) tyX4 tyX4_ok nmX4 hown hK.1 hP hD hS 0 rfl rfl 0 (by decide) (hts (.fieldLink RX4 52 "LogForwardModel" "code" "I") (by decide +kernel)) (fun _ h9 => h9) rfl (by decide +kernel) rfl rfl (Nat.le_of_ble_eq_true rfl) dX4_ahead_2 (fun H locs hP hD hS => ?_)
  have hP : va_P (gD g) vwCl ([((a 0), .inr (6, [.int 0, .int (nI (M.rg)), .ref (a 1), .ref (a 2), .ref (a 3), .ref (a 4), .ref (a 5), .ref (a 6), .ref (a 7), .ref (a 8), .int (nI (M.S.n)), .int (nI (M.S.ar)), .int (nI (M.k)), .int (nI (M.fz)), .ref (a 9), .ref (a 10), .ref (a 11), .ref (a 12)])), ((a 1), .inl (gJ g, 32, .inr (.inl M.cs))), ((a 2), .inl (gI g, 2001, .inl M.S.kd)), ((a 3), .inl (gI g, 2001, .inl M.S.un)), ((a 4), .inl (gI g, 2001, .inl M.S.ce)), ((a 5), .inl (gI g, 2001, .inl M.S.tn)), ((a 6), .inl (gJ g, 2001, .inr (.inl M.S.bf))), ((a 7), .inl (gJ g, 2001, .inr (.inl M.S.af))), ((a 8), .inl (gZ g, 2001, .inl M.S.bk)), ((a 9), .inl (gJ g, 672, .inr (.inl M.kp))), ((a 10), .inl (gI g, 21, .inl M.st)), ((a 11), .inl (gI g, 21, .inl M.en)), ((a 12), .inl (gZ g, 21, .inl M.sp))]) H := hP
  have hD : va_D A ([((a 0), .inr (6, [.int 0, .int (nI (M.rg)), .ref (a 1), .ref (a 2), .ref (a 3), .ref (a 4), .ref (a 5), .ref (a 6), .ref (a 7), .ref (a 8), .int (nI (M.S.n)), .int (nI (M.S.ar)), .int (nI (M.k)), .int (nI (M.fz)), .ref (a 9), .ref (a 10), .ref (a 11), .ref (a 12)])), ((a 1), .inl (gJ g, 32, .inr (.inl M.cs))), ((a 2), .inl (gI g, 2001, .inl M.S.kd)), ((a 3), .inl (gI g, 2001, .inl M.S.un)), ((a 4), .inl (gI g, 2001, .inl M.S.ce)), ((a 5), .inl (gI g, 2001, .inl M.S.tn)), ((a 6), .inl (gJ g, 2001, .inr (.inl M.S.bf))), ((a 7), .inl (gJ g, 2001, .inr (.inl M.S.af))), ((a 8), .inl (gZ g, 2001, .inl M.S.bk)), ((a 9), .inl (gJ g, 672, .inr (.inl M.kp))), ((a 10), .inl (gI g, 21, .inl M.st)), ((a 11), .inl (gI g, 21, .inl M.en)), ((a 12), .inl (gZ g, 21, .inl M.sp))]) := hD
  obtain ⟨M0, hM0⟩ : ∃ M0 : MS, M0 = mC M 0 := ⟨_, rfl⟩
  replace hP : va_P (gD g) vwCl ([((a 0), .inr (6, [.int M0.cd, .int (nI (M0.rg)), .ref (a 1), .ref (a 2), .ref (a 3), .ref (a 4), .ref (a 5), .ref (a 6), .ref (a 7), .ref (a 8), .int (nI (M0.S.n)), .int (nI (M0.S.ar)), .int (nI (M0.k)), .int (nI (M0.fz)), .ref (a 9), .ref (a 10), .ref (a 11), .ref (a 12)])), ((a 1), .inl (gJ g, 32, .inr (.inl M0.cs))), ((a 2), .inl (gI g, 2001, .inl M0.S.kd)), ((a 3), .inl (gI g, 2001, .inl M0.S.un)), ((a 4), .inl (gI g, 2001, .inl M0.S.ce)), ((a 5), .inl (gI g, 2001, .inl M0.S.tn)), ((a 6), .inl (gJ g, 2001, .inr (.inl M0.S.bf))), ((a 7), .inl (gJ g, 2001, .inr (.inl M0.S.af))), ((a 8), .inl (gZ g, 2001, .inl M0.S.bk)), ((a 9), .inl (gJ g, 672, .inr (.inl M0.kp))), ((a 10), .inl (gI g, 21, .inl M0.st)), ((a 11), .inl (gI g, 21, .inl M0.en)), ((a 12), .inl (gZ g, 21, .inl M0.sp))]) H := by rw [hM0]; exact hP
  replace hD : va_D A ([((a 0), .inr (6, [.int M0.cd, .int (nI (M0.rg)), .ref (a 1), .ref (a 2), .ref (a 3), .ref (a 4), .ref (a 5), .ref (a 6), .ref (a 7), .ref (a 8), .int (nI (M0.S.n)), .int (nI (M0.S.ar)), .int (nI (M0.k)), .int (nI (M0.fz)), .ref (a 9), .ref (a 10), .ref (a 11), .ref (a 12)])), ((a 1), .inl (gJ g, 32, .inr (.inl M0.cs))), ((a 2), .inl (gI g, 2001, .inl M0.S.kd)), ((a 3), .inl (gI g, 2001, .inl M0.S.un)), ((a 4), .inl (gI g, 2001, .inl M0.S.ce)), ((a 5), .inl (gI g, 2001, .inl M0.S.tn)), ((a 6), .inl (gJ g, 2001, .inr (.inl M0.S.bf))), ((a 7), .inl (gJ g, 2001, .inr (.inl M0.S.af))), ((a 8), .inl (gZ g, 2001, .inl M0.S.bk)), ((a 9), .inl (gJ g, 672, .inr (.inl M0.kp))), ((a 10), .inl (gI g, 21, .inl M0.st)), ((a 11), .inl (gI g, 21, .inl M0.en)), ((a 12), .inl (gZ g, 21, .inl M0.sp))]) := by rw [hM0]; exact hD
  have hn : M0.S.n ≤ 2000 := by rw [hM0]; exact hn
  refine lv_aload_n hx hb dX4_ahead_5 rfl (lv_at hl 0 rfl) ?_
  refine lv_iconst (v := 0) hx hb dX4_ahead_6 (by decide) ?_
  refine ca_i (ws := [((a 0), .inr (6, [.int M0.cd, .int (nI (M0.rg)), .ref (a 1), .ref (a 2), .ref (a 3), .ref (a 4), .ref (a 5), .ref (a 6), .ref (a 7), .ref (a 8), .int (nI (M0.S.n)), .int (nI (M0.S.ar)), .int (nI (M0.k)), .int (nI (M0.fz)), .ref (a 9), .ref (a 10), .ref (a 11), .ref (a 12)])), ((a 1), .inl (gJ g, 32, .inr (.inl M0.cs))), ((a 2), .inl (gI g, 2001, .inl M0.S.kd)), ((a 3), .inl (gI g, 2001, .inl M0.S.un)), ((a 4), .inl (gI g, 2001, .inl M0.S.ce)), ((a 5), .inl (gI g, 2001, .inl M0.S.tn)), ((a 6), .inl (gJ g, 2001, .inr (.inl M0.S.bf))), ((a 7), .inl (gJ g, 2001, .inr (.inl M0.S.af))), ((a 8), .inl (gZ g, 2001, .inl M0.S.bk)), ((a 9), .inl (gJ g, 672, .inr (.inl M0.kp))), ((a 10), .inl (gI g, 21, .inl M0.st)), ((a 11), .inl (gI g, 21, .inl M0.en)), ((a 12), .inl (gZ g, 21, .inl M0.sp))]) (va_runV (As := [.int 0]) (rest := []) ⟨hx, hb, hml, hown, hts⟩ (c_X4_gap l g a M0 H.size 0 hn) (cwV 1 hts gX4_ahead_X4_gap rfl rfl rfl (by decide +kernel) ⟨Nat.le_of_ble_eq_true rfl, Nat.le_of_ble_eq_true rfl⟩) (pv_w hK hP (ci := 6) (q0 := 0) rfl rfl hP hD) rfl rfl hl.1 rfl (lv_room (Nat.le_of_ble_eq_true rfl)) dX4_ahead_7 ⟨Nat.zero_le _, Nat.zero_le _⟩) hD hS hA (fun r_7_1 u_7_1 H locs h_7_1 hP hD hS => ?_)
  obtain ⟨e1, rfl⟩ := h_7_1
  replace e1 : r_7_1 = nI (gqF M0.S 0 M0.S.n 1 0) := e1
  subst e1
  replace hP : va_P (gD g) vwCl ([((a 0), .inr (6, [.int 0, .int (nI (M0.rg)), .ref (a 1), .ref (a 2), .ref (a 3), .ref (a 4), .ref (a 5), .ref (a 6), .ref (a 7), .ref (a 8), .int (nI (M0.S.n)), .int (nI (M0.S.ar)), .int (nI (M0.k)), .int (nI (M0.fz)), .ref (a 9), .ref (a 10), .ref (a 11), .ref (a 12)])), ((a 1), .inl (gJ g, 32, .inr (.inl M0.cs))), ((a 2), .inl (gI g, 2001, .inl M0.S.kd)), ((a 3), .inl (gI g, 2001, .inl M0.S.un)), ((a 4), .inl (gI g, 2001, .inl M0.S.ce)), ((a 5), .inl (gI g, 2001, .inl M0.S.tn)), ((a 6), .inl (gJ g, 2001, .inr (.inl M0.S.bf))), ((a 7), .inl (gJ g, 2001, .inr (.inl M0.S.af))), ((a 8), .inl (gZ g, 2001, .inl M0.S.bk)), ((a 9), .inl (gJ g, 672, .inr (.inl M0.kp))), ((a 10), .inl (gI g, 21, .inl M0.st)), ((a 11), .inl (gI g, 21, .inl M0.en)), ((a 12), .inl (gZ g, 21, .inl M0.sp))]) H := hP
  replace hD : va_D A ([((a 0), .inr (6, [.int 0, .int (nI (M0.rg)), .ref (a 1), .ref (a 2), .ref (a 3), .ref (a 4), .ref (a 5), .ref (a 6), .ref (a 7), .ref (a 8), .int (nI (M0.S.n)), .int (nI (M0.S.ar)), .int (nI (M0.k)), .int (nI (M0.fz)), .ref (a 9), .ref (a 10), .ref (a 11), .ref (a 12)])), ((a 1), .inl (gJ g, 32, .inr (.inl M0.cs))), ((a 2), .inl (gI g, 2001, .inl M0.S.kd)), ((a 3), .inl (gI g, 2001, .inl M0.S.un)), ((a 4), .inl (gI g, 2001, .inl M0.S.ce)), ((a 5), .inl (gI g, 2001, .inl M0.S.tn)), ((a 6), .inl (gJ g, 2001, .inr (.inl M0.S.bf))), ((a 7), .inl (gJ g, 2001, .inr (.inl M0.S.af))), ((a 8), .inl (gZ g, 2001, .inl M0.S.bk)), ((a 9), .inl (gJ g, 672, .inr (.inl M0.kp))), ((a 10), .inl (gI g, 21, .inl M0.st)), ((a 11), .inl (gI g, 21, .inl M0.en)), ((a 12), .inl (gZ g, 21, .inl M0.sp))]) := hD
  refine lv_if_ne (tgt := 17) hx hb dX4_ahead_10 (by decide) (fun c_10_1 => ?_) (fun c_10_1 => ?_)
  · have i_10 : (((gqF M0.S 0 M0.S.n 1 0 : Nat) : Int) : Int) ≠ 0 := q_ne c_10_1 (l_nI (by have := gqF_le M0.S 0 M0.S.n 1 0; omega)) rfl
    refine lv_iconst (v := 0) hx hb dX4_ahead_17 (by decide) ?_
    have hM9 : mC M0 0 = M0 := by rw [hM0]; rfl
    have hP9 : va_P (gD g) vwCl (wM g a (M0.S, M0.st, M0.en, M0.sp, M0.kp, M0.k, M0.fz, M0.cs, M0.rg, 0)) H := hP
    have hD9 : va_D A (wM g a (M0.S, M0.st, M0.en, M0.sp, M0.kp, M0.k, M0.fz, M0.cs, M0.rg, 0)) := hD
    exact W.zret (v := 0) hx hb hr rfl (fun tz htz hWz => ⟨⟨0, (M0.S, M0.st, M0.en, M0.sp, M0.kp, M0.k, M0.fz, M0.cs, M0.rg, 0), rfl, (by rw [← hM0]; exact ⟨bI_0 (by omega), hM9⟩), by rw [htz]; exact hP9, hD9⟩, hS.F htz⟩) hS.2.2 dX4_ahead_18
  · have i_10 : (((gqF M0.S 0 M0.S.n 1 0 : Nat) : Int) : Int) = 0 := q_eq c_10_1 (l_nI (by have := gqF_le M0.S 0 M0.S.n 1 0; omega)) rfl
    refine lv_iconst (v := 1) hx hb dX4_ahead_13 (by decide) ?_
    refine lv_goto (tgt := 18) hx hb dX4_ahead_14 (by decide) ?_
    have hM9 : mC M0 0 = M0 := by rw [hM0]; rfl
    have hP9 : va_P (gD g) vwCl (wM g a (M0.S, M0.st, M0.en, M0.sp, M0.kp, M0.k, M0.fz, M0.cs, M0.rg, 0)) H := hP
    have hD9 : va_D A (wM g a (M0.S, M0.st, M0.en, M0.sp, M0.kp, M0.k, M0.fz, M0.cs, M0.rg, 0)) := hD
    exact W.zret (v := 1) hx hb hr rfl (fun tz htz hWz => ⟨⟨1, (M0.S, M0.st, M0.en, M0.sp, M0.kp, M0.k, M0.fz, M0.cs, M0.rg, 0), rfl, (by rw [← hM0]; exact ⟨bI_1 (by omega), hM9⟩), by rw [htz]; exact hP9, hD9⟩, hS.F htz⟩) hS.2.2 dX4_ahead_18
set_option maxHeartbeats 4000000 in
set_option maxRecDepth 100000 in
theorem c_X4_merge (l : Launch) (g : GG) (a : Nat → Nat) (M : MS) (sz : Nat) (p1 p2 : Int32) (hg1 : 1 ≤ M.rg) (hg2 : M.rg ≤ 4) (hn : M.S.n ≤ 2000) : Met l yX4_merge wsX4_merge { frames := 0, cells := 0, slots := 0, locals := 0 } (va_Pc [.ref (a 0), .int p1, .int p2] (Pw g (wM g a M) sz)) (va_Qi (fun rv u => rv = nI (mqF (mC M 0).S (nI (mC M 0).rg) p1 p2 (mC M 0).S.n 1 0) ∧ u = mC M 0) (Bw g (va_A (wM g a M) sz) (fun u : MS => wM g a u)) (va_A (wM g a M) sz)) 0 0 (va_A (wM g a M) sz) := by
  refine Met.ofW (cc := cX4_merge) (maxL := 5) (ret := (some .int)) (by decide) rfl ?_
  intro p e s m args below meth c s₁ B hml hv
  obtain ⟨rfl, hsz, hP, hK, hD0⟩ := hv
  have hx := B.exec
  have hb := B.bytes
  have hr := B.returns
  have hts := atoms_spec (ws := wsX4_merge) B.pre
  have hown : s.vm.findClass RX4 = some m.cls := findClass_of_methodNamed B.named
  have hlocks := B.notSynchronized
  subst hsz
  have hD := hD0.self (sz := s.heap.size)
  generalize hAe : va_A (wM g a M) s.heap.size = A at hD ⊢
  have hA : ∀ q : Nat, s.heap.size ≤ q → A q := fun q h => by rw [← hAe]; exact Or.inr h
  have hS : va_S A s.heap s.heap [] := va_S.rf
  have hl := lv_entry ([.ref (a 0), .int p1, .int p2]) (n := 5) (Nat.le_of_ble_eq_true rfl)
  rw [lg_entry_eq]
  generalize (lg_sl ([.ref (a 0), .int p1, .int p2]) ++ List.replicate (5 - (lg_sl ([.ref (a 0), .int p1, .int p2])).length) Slot.unset).toArray = ls at hl ⊢
  have hl : lv_has ls 5 [(0, .ref (a 0)), (1, .int p1), (2, .int p2)] := hl
  replace hP : va_P (gD g) vwCl ([((a 0), .inr (6, [.int M.cd, .int (nI (M.rg)), .ref (a 1), .ref (a 2), .ref (a 3), .ref (a 4), .ref (a 5), .ref (a 6), .ref (a 7), .ref (a 8), .int (nI (M.S.n)), .int (nI (M.S.ar)), .int (nI (M.k)), .int (nI (M.fz)), .ref (a 9), .ref (a 10), .ref (a 11), .ref (a 12)])), ((a 1), .inl (gJ g, 32, .inr (.inl M.cs))), ((a 2), .inl (gI g, 2001, .inl M.S.kd)), ((a 3), .inl (gI g, 2001, .inl M.S.un)), ((a 4), .inl (gI g, 2001, .inl M.S.ce)), ((a 5), .inl (gI g, 2001, .inl M.S.tn)), ((a 6), .inl (gJ g, 2001, .inr (.inl M.S.bf))), ((a 7), .inl (gJ g, 2001, .inr (.inl M.S.af))), ((a 8), .inl (gZ g, 2001, .inl M.S.bk)), ((a 9), .inl (gJ g, 672, .inr (.inl M.kp))), ((a 10), .inl (gI g, 21, .inl M.st)), ((a 11), .inl (gI g, 21, .inl M.en)), ((a 12), .inl (gZ g, 21, .inl M.sp))]) s.heap := hP
  replace hD : va_D A ([((a 0), .inr (6, [.int M.cd, .int (nI (M.rg)), .ref (a 1), .ref (a 2), .ref (a 3), .ref (a 4), .ref (a 5), .ref (a 6), .ref (a 7), .ref (a 8), .int (nI (M.S.n)), .int (nI (M.S.ar)), .int (nI (M.k)), .int (nI (M.fz)), .ref (a 9), .ref (a 10), .ref (a 11), .ref (a 12)])), ((a 1), .inl (gJ g, 32, .inr (.inl M.cs))), ((a 2), .inl (gI g, 2001, .inl M.S.kd)), ((a 3), .inl (gI g, 2001, .inl M.S.un)), ((a 4), .inl (gI g, 2001, .inl M.S.ce)), ((a 5), .inl (gI g, 2001, .inl M.S.tn)), ((a 6), .inl (gJ g, 2001, .inr (.inl M.S.bf))), ((a 7), .inl (gJ g, 2001, .inr (.inl M.S.af))), ((a 8), .inl (gZ g, 2001, .inl M.S.bk)), ((a 9), .inl (gJ g, 672, .inr (.inl M.kp))), ((a 10), .inl (gI g, 21, .inl M.st)), ((a 11), .inl (gI g, 21, .inl M.en)), ((a 12), .inl (gZ g, 21, .inl M.sp))]) := hD
  refine lv_aload_n hx hb dX4_merge_0 rfl (lv_at hl 0 rfl) ?_
  refine lv_iconst (v := 0) hx hb dX4_merge_1 (by decide) ?_
  refine va_put (D := gD g) (ci := 6) (v := .int 0) (ty := .int) (C := RX4) (T := TX4) (N := 18) hx hb hts (by decide +kernel) tyX4 tyX4_ok nmX4 hown hK.1 hP hD hS 0 rfl rfl 0 (by decide) (hts (.fieldLink RX4 52 "LogForwardModel" "code" "I") (by decide +kernel)) (fun _ h9 => h9) rfl (by decide +kernel) rfl rfl (Nat.le_of_ble_eq_true rfl) dX4_merge_2 (fun H locs hP hD hS => ?_)
  have hP : va_P (gD g) vwCl ([((a 0), .inr (6, [.int 0, .int (nI (M.rg)), .ref (a 1), .ref (a 2), .ref (a 3), .ref (a 4), .ref (a 5), .ref (a 6), .ref (a 7), .ref (a 8), .int (nI (M.S.n)), .int (nI (M.S.ar)), .int (nI (M.k)), .int (nI (M.fz)), .ref (a 9), .ref (a 10), .ref (a 11), .ref (a 12)])), ((a 1), .inl (gJ g, 32, .inr (.inl M.cs))), ((a 2), .inl (gI g, 2001, .inl M.S.kd)), ((a 3), .inl (gI g, 2001, .inl M.S.un)), ((a 4), .inl (gI g, 2001, .inl M.S.ce)), ((a 5), .inl (gI g, 2001, .inl M.S.tn)), ((a 6), .inl (gJ g, 2001, .inr (.inl M.S.bf))), ((a 7), .inl (gJ g, 2001, .inr (.inl M.S.af))), ((a 8), .inl (gZ g, 2001, .inl M.S.bk)), ((a 9), .inl (gJ g, 672, .inr (.inl M.kp))), ((a 10), .inl (gI g, 21, .inl M.st)), ((a 11), .inl (gI g, 21, .inl M.en)), ((a 12), .inl (gZ g, 21, .inl M.sp))]) H := hP
  have hD : va_D A ([((a 0), .inr (6, [.int 0, .int (nI (M.rg)), .ref (a 1), .ref (a 2), .ref (a 3), .ref (a 4), .ref (a 5), .ref (a 6), .ref (a 7), .ref (a 8), .int (nI (M.S.n)), .int (nI (M.S.ar)), .int (nI (M.k)), .int (nI (M.fz)), .ref (a 9), .ref (a 10), .ref (a 11), .ref (a 12)])), ((a 1), .inl (gJ g, 32, .inr (.inl M.cs))), ((a 2), .inl (gI g, 2001, .inl M.S.kd)), ((a 3), .inl (gI g, 2001, .inl M.S.un)), ((a 4), .inl (gI g, 2001, .inl M.S.ce)), ((a 5), .inl (gI g, 2001, .inl M.S.tn)), ((a 6), .inl (gJ g, 2001, .inr (.inl M.S.bf))), ((a 7), .inl (gJ g, 2001, .inr (.inl M.S.af))), ((a 8), .inl (gZ g, 2001, .inl M.S.bk)), ((a 9), .inl (gJ g, 672, .inr (.inl M.kp))), ((a 10), .inl (gI g, 21, .inl M.st)), ((a 11), .inl (gI g, 21, .inl M.en)), ((a 12), .inl (gZ g, 21, .inl M.sp))]) := hD
  obtain ⟨M0, hM0⟩ : ∃ M0 : MS, M0 = mC M 0 := ⟨_, rfl⟩
  replace hP : va_P (gD g) vwCl ([((a 0), .inr (6, [.int M0.cd, .int (nI (M0.rg)), .ref (a 1), .ref (a 2), .ref (a 3), .ref (a 4), .ref (a 5), .ref (a 6), .ref (a 7), .ref (a 8), .int (nI (M0.S.n)), .int (nI (M0.S.ar)), .int (nI (M0.k)), .int (nI (M0.fz)), .ref (a 9), .ref (a 10), .ref (a 11), .ref (a 12)])), ((a 1), .inl (gJ g, 32, .inr (.inl M0.cs))), ((a 2), .inl (gI g, 2001, .inl M0.S.kd)), ((a 3), .inl (gI g, 2001, .inl M0.S.un)), ((a 4), .inl (gI g, 2001, .inl M0.S.ce)), ((a 5), .inl (gI g, 2001, .inl M0.S.tn)), ((a 6), .inl (gJ g, 2001, .inr (.inl M0.S.bf))), ((a 7), .inl (gJ g, 2001, .inr (.inl M0.S.af))), ((a 8), .inl (gZ g, 2001, .inl M0.S.bk)), ((a 9), .inl (gJ g, 672, .inr (.inl M0.kp))), ((a 10), .inl (gI g, 21, .inl M0.st)), ((a 11), .inl (gI g, 21, .inl M0.en)), ((a 12), .inl (gZ g, 21, .inl M0.sp))]) H := by rw [hM0]; exact hP
  replace hD : va_D A ([((a 0), .inr (6, [.int M0.cd, .int (nI (M0.rg)), .ref (a 1), .ref (a 2), .ref (a 3), .ref (a 4), .ref (a 5), .ref (a 6), .ref (a 7), .ref (a 8), .int (nI (M0.S.n)), .int (nI (M0.S.ar)), .int (nI (M0.k)), .int (nI (M0.fz)), .ref (a 9), .ref (a 10), .ref (a 11), .ref (a 12)])), ((a 1), .inl (gJ g, 32, .inr (.inl M0.cs))), ((a 2), .inl (gI g, 2001, .inl M0.S.kd)), ((a 3), .inl (gI g, 2001, .inl M0.S.un)), ((a 4), .inl (gI g, 2001, .inl M0.S.ce)), ((a 5), .inl (gI g, 2001, .inl M0.S.tn)), ((a 6), .inl (gJ g, 2001, .inr (.inl M0.S.bf))), ((a 7), .inl (gJ g, 2001, .inr (.inl M0.S.af))), ((a 8), .inl (gZ g, 2001, .inl M0.S.bk)), ((a 9), .inl (gJ g, 672, .inr (.inl M0.kp))), ((a 10), .inl (gI g, 21, .inl M0.st)), ((a 11), .inl (gI g, 21, .inl M0.en)), ((a 12), .inl (gZ g, 21, .inl M0.sp))]) := by rw [hM0]; exact hD
  have hg1 : 1 ≤ M0.rg := by rw [hM0]; exact hg1
  have hg2 : M0.rg ≤ 4 := by rw [hM0]; exact hg2
  have hn : M0.S.n ≤ 2000 := by rw [hM0]; exact hn
  refine lv_iconst (v := 0) hx hb dX4_merge_5 (by decide) ?_
  refine lv_istore_n (lv' := [(3, .int 0), (0, .ref (a 0)), (1, .int p1), (2, .int p2)]) hx hb dX4_merge_6 rfl hl (by decide) rfl (fun ls hl => ?_)
  refine lv_iconst (v := 1) hx hb dX4_merge_7 (by decide) ?_
  refine lv_istore (lv' := [(4, .int 1), (3, .int 0), (0, .ref (a 0)), (1, .int p1), (2, .int p2)]) hx hb dX4_merge_8 hl (by decide) rfl (fun ls hl => ?_)
  obtain ⟨i, hi⟩ : ∃ i : Nat, i = 1 := ⟨_, rfl⟩
  obtain ⟨c1, hc1⟩ : ∃ c1 : Nat, c1 = 0 := ⟨_, rfl⟩
  replace hl : lv_has ls 5 [(0, .ref (a 0)), (1, .int p1), (2, .int p2), (3, .int (nI (c1))), (4, .int (nI (i)))] := by subst hi; subst hc1; exact lv_sub hl [2, 3, 4, 1, 0] rfl
  have hi1 : 1 ≤ i := by omega
  have hi2 : i ≤ M0.S.n + 1 := by omega
  have hc2 : c1 ≤ i := by omega
  have hq : mqF M0.S (nI M0.rg) p1 p2 M0.S.n 1 0 = mqF M0.S (nI M0.rg) p1 p2 (M0.S.n + 1 - i) i c1 := by rw [hi, hc1]; rfl
  clear hi hc1
  obtain ⟨d, hd⟩ : ∃ d, M0.S.n + 1 - i = d := ⟨_, rfl⟩
  induction d using Nat.strongRecOn generalizing i c1 ls with
  | ind d ih =>
    refine lv_iload hx hb dX4_merge_10 (lv_at hl 4 rfl) ?_
    refine lv_aload_n hx hb dX4_merge_12 rfl (lv_at hl 0 rfl) ?_
    refine va_get (D := gD g) (ci := 6) (v := .int (nI (M0.S.n))) (C := RX4) (T := TX4) (N := 18) hx hb hts (by decide +kernel) hown hK.1 hP 0 rfl rfl 10 (by decide) (hts (.fieldLink RX4 55 "LogForwardModel" "rows" "I") (by decide +kernel)) (fun _ h9 => h9) rfl dX4_merge_13 ?_
    refine lv_icmp_gt (tgt := 55) hx hb dX4_merge_16 (by decide) (fun c_16_2 => ?_) (fun c_16_2 => ?_)
    · have i_16 : (((M0.S.n : Nat) : Int) : Int) < ((i : Nat) : Int) := q_lt c_16_2 (l_nI (by omega)) (l_nI (by omega))
      refine lv_iconst (v := 0) hx hb dX4_merge_55 (by decide) ?_
      have hP9 : va_P (gD g) vwCl (wM g a M0) H := hP
      have hD9 : va_D A (wM g a M0) := hD
      exact W.iret (v := 0) hx hb hr (fun tz htz hWz => ⟨⟨0, M0, rfl, (by rw [← hM0]; exact ⟨by rw [hq, mq_end (by omega)]; rfl, rfl⟩), by rw [htz]; exact hP9, hD9⟩, hS.F htz⟩) hS.2.2 dX4_merge_56
    · have i_16 : (((i : Nat) : Int) : Int) ≤ ((M0.S.n : Nat) : Int) := q_nlt c_16_2 (l_nI (by omega)) (l_nI (by omega))
      refine lv_aload_n hx hb dX4_merge_19 rfl (lv_at hl 0 rfl) ?_
      refine va_get (D := gD g) (ci := 6) (v := .ref (a 3)) (C := RX4) (T := TX4) (N := 18) hx hb hts (by decide +kernel) hown hK.1 hP 0 rfl rfl 4 (by decide) (hts (.fieldLink RX4 17 "LogForwardModel" "units" "[I") (by decide +kernel)) (fun _ h9 => h9) rfl dX4_merge_20 ?_
      refine lv_iload hx hb dX4_merge_23 (lv_at hl 4 rfl) ?_
      refine ga_iald (v := (M0.S.un i)) hx hb hK.1 hP 3 0 rfl rfl (v_nI (by omega) (by omega)) (by rw [(c_nI (by omega))]) dX4_merge_25 ?_
      refine lv_aload_n hx hb dX4_merge_26 rfl (lv_at hl 0 rfl) ?_
      refine va_get (D := gD g) (ci := 6) (v := .int (nI (M0.rg))) (C := RX4) (T := TX4) (N := 18) hx hb hts (by decide +kernel) hown hK.1 hP 0 rfl rfl 1 (by decide) (hts (.fieldLink RX4 48 "LogForwardModel" "regions" "I") (by decide +kernel)) (fun _ h9 => h9) rfl dX4_merge_27 ?_
      refine lv_irem hx hb dX4_merge_30 (nI_ne0 (by omega) (by omega)) ?_
      refine lv_iload_n hx hb dX4_merge_31 rfl (lv_at hl 1 rfl) ?_
      refine lv_icmp_eq (tgt := 38) hx hb dX4_merge_32 (by decide) (fun c_32_3 => ?_) (fun c_32_3 => ?_)
      · have i_32 : (((M0.S.un i) - (M0.S.un i) / (nI (M0.rg)) * (nI (M0.rg))).toInt : Int) = p1.toInt := q_eq c_32_3 rfl rfl
        refine lv_iload_n hx hb dX4_merge_38 rfl (lv_at hl 3 rfl) ?_
        refine lv_iload_n hx hb dX4_merge_39 rfl (lv_at hl 2 rfl) ?_
        refine lv_icmp_ne (tgt := 46) hx hb dX4_merge_40 (by decide) (fun c_40_4 => ?_) (fun c_40_4 => ?_)
        · have i_40 : (((c1 : Nat) : Int) : Int) ≠ p2.toInt := q_ne c_40_4 (l_nI (by omega)) rfl
          refine lv_iinc (v := (nI (c1 + 1))) (lv' := [(3, .int (nI (c1 + 1))), (0, .ref (a 0)), (1, .int p1), (2, .int p2), (4, .int (nI (i)))]) hx hb dX4_merge_46 hl (k := 3) rfl (nI_1 _) (by decide) rfl (fun ls hl => ?_)
          refine lv_iinc (v := (nI (i + 1))) (lv' := [(4, .int (nI (i + 1))), (3, .int (nI (c1 + 1))), (0, .ref (a 0)), (1, .int p1), (2, .int p2)]) hx hb dX4_merge_49 hl (k := 4) rfl (nI_1 _) (by decide) rfl (fun ls hl => ?_)
          refine lv_goto (tgt := 10) hx hb dX4_merge_52 (by decide) ?_
          exact ih (M0.S.n + 1 - (i + 1)) (by omega) ls (i + 1) (c1 + 1) (lv_sub hl [2, 3, 4, 1, 0] rfl) (by omega) (by omega) (by omega) (by rw [hq]; exact mq_go (by omega) (by assumption) (by assumption)) rfl
        · have i_40 : (((c1 : Nat) : Int) : Int) = p2.toInt := q_eq c_40_4 (l_nI (by omega)) rfl
          refine lv_iload hx hb dX4_merge_43 (lv_at hl 4 rfl) ?_
          have hP9 : va_P (gD g) vwCl (wM g a M0) H := hP
          have hD9 : va_D A (wM g a M0) := hD
          exact W.iret (v := (nI (i))) hx hb hr (fun tz htz hWz => ⟨⟨(nI (i)), M0, rfl, (by rw [← hM0]; exact ⟨by rw [hq, mq_yes (by omega) (by assumption) (by assumption)], rfl⟩), by rw [htz]; exact hP9, hD9⟩, hS.F htz⟩) hS.2.2 dX4_merge_45
      · have i_32 : (((M0.S.un i) - (M0.S.un i) / (nI (M0.rg)) * (nI (M0.rg))).toInt : Int) ≠ p1.toInt := q_ne c_32_3 rfl rfl
        refine lv_goto (tgt := 49) hx hb dX4_merge_35 (by decide) ?_
        refine lv_iinc (v := (nI (i + 1))) (lv' := [(4, .int (nI (i + 1))), (0, .ref (a 0)), (1, .int p1), (2, .int p2), (3, .int (nI (c1)))]) hx hb dX4_merge_49 hl (k := 4) rfl (nI_1 _) (by decide) rfl (fun ls hl => ?_)
        refine lv_goto (tgt := 10) hx hb dX4_merge_52 (by decide) ?_
        exact ih (M0.S.n + 1 - (i + 1)) (by omega) ls (i + 1) (c1) (lv_sub hl [1, 2, 3, 4, 0] rfl) (by omega) (by omega) (by omega) (by rw [hq]; exact mq_no (by omega) (by assumption)) rfl
set_option maxHeartbeats 4000000 in
set_option maxRecDepth 100000 in
theorem c_X4_get (l : Launch) (g : GG) (a : Nat → Nat) (M : MS) (sz : Nat) (p1 : Int32) : Met l yX4_get wsX4_get { frames := 1, cells := 0, slots := 0, locals := 20 } (va_Pc [.ref (a 0), .int p1] (Pw g (wM g a M) sz)) (va_Ql (fun rv u => (okC p1 ∧ rv = M.cs p1.toNatClampNeg ∧ u = mC M 0) ∨ (¬ okC p1 ∧ rv = 0 ∧ u = mC M 1)) (Bw g (va_A (wM g a M) sz) (fun u : MS => wM g a u)) (va_A (wM g a M) sz)) 0 0 (va_A (wM g a M) sz) := by
  refine Met.ofW (cc := cX4_get) (maxL := 2) (ret := (some .long)) (by decide) rfl ?_
  intro p e s m args below meth c s₁ B hml hv
  obtain ⟨rfl, hsz, hP, hK, hD0⟩ := hv
  have hx := B.exec
  have hb := B.bytes
  have hr := B.returns
  have hts := atoms_spec (ws := wsX4_get) B.pre
  have hown : s.vm.findClass RX4 = some m.cls := findClass_of_methodNamed B.named
  have hlocks := B.notSynchronized
  subst hsz
  have hD := hD0.self (sz := s.heap.size)
  generalize hAe : va_A (wM g a M) s.heap.size = A at hD ⊢
  have hA : ∀ q : Nat, s.heap.size ≤ q → A q := fun q h => by rw [← hAe]; exact Or.inr h
  have hS : va_S A s.heap s.heap [] := va_S.rf
  have hl := lv_entry ([.ref (a 0), .int p1]) (n := 2) (Nat.le_of_ble_eq_true rfl)
  rw [lg_entry_eq]
  generalize (lg_sl ([.ref (a 0), .int p1]) ++ List.replicate (2 - (lg_sl ([.ref (a 0), .int p1])).length) Slot.unset).toArray = ls at hl ⊢
  have hl : lv_has ls 2 [(0, .ref (a 0)), (1, .int p1)] := hl
  replace hP : va_P (gD g) vwCl ([((a 0), .inr (6, [.int M.cd, .int (nI (M.rg)), .ref (a 1), .ref (a 2), .ref (a 3), .ref (a 4), .ref (a 5), .ref (a 6), .ref (a 7), .ref (a 8), .int (nI (M.S.n)), .int (nI (M.S.ar)), .int (nI (M.k)), .int (nI (M.fz)), .ref (a 9), .ref (a 10), .ref (a 11), .ref (a 12)])), ((a 1), .inl (gJ g, 32, .inr (.inl M.cs))), ((a 2), .inl (gI g, 2001, .inl M.S.kd)), ((a 3), .inl (gI g, 2001, .inl M.S.un)), ((a 4), .inl (gI g, 2001, .inl M.S.ce)), ((a 5), .inl (gI g, 2001, .inl M.S.tn)), ((a 6), .inl (gJ g, 2001, .inr (.inl M.S.bf))), ((a 7), .inl (gJ g, 2001, .inr (.inl M.S.af))), ((a 8), .inl (gZ g, 2001, .inl M.S.bk)), ((a 9), .inl (gJ g, 672, .inr (.inl M.kp))), ((a 10), .inl (gI g, 21, .inl M.st)), ((a 11), .inl (gI g, 21, .inl M.en)), ((a 12), .inl (gZ g, 21, .inl M.sp))]) s.heap := hP
  replace hD : va_D A ([((a 0), .inr (6, [.int M.cd, .int (nI (M.rg)), .ref (a 1), .ref (a 2), .ref (a 3), .ref (a 4), .ref (a 5), .ref (a 6), .ref (a 7), .ref (a 8), .int (nI (M.S.n)), .int (nI (M.S.ar)), .int (nI (M.k)), .int (nI (M.fz)), .ref (a 9), .ref (a 10), .ref (a 11), .ref (a 12)])), ((a 1), .inl (gJ g, 32, .inr (.inl M.cs))), ((a 2), .inl (gI g, 2001, .inl M.S.kd)), ((a 3), .inl (gI g, 2001, .inl M.S.un)), ((a 4), .inl (gI g, 2001, .inl M.S.ce)), ((a 5), .inl (gI g, 2001, .inl M.S.tn)), ((a 6), .inl (gJ g, 2001, .inr (.inl M.S.bf))), ((a 7), .inl (gJ g, 2001, .inr (.inl M.S.af))), ((a 8), .inl (gZ g, 2001, .inl M.S.bk)), ((a 9), .inl (gJ g, 672, .inr (.inl M.kp))), ((a 10), .inl (gI g, 21, .inl M.st)), ((a 11), .inl (gI g, 21, .inl M.en)), ((a 12), .inl (gZ g, 21, .inl M.sp))]) := hD
  refine lv_aload_n hx hb dX4_get_0 rfl (lv_at hl 0 rfl) ?_
  refine lv_iload_n hx hb dX4_get_1 rfl (lv_at hl 1 rfl) ?_
  refine vp_callSi (va_Run.run (va_runS (As := [.int p1]) (rest := [.ref (a 0)]) ⟨hx, hb, hml, hown, hts⟩ (c_X4_isCell l g p1) (cwS 1 hts gX4_get_X4_isCell rfl rfl rfl (by decide +kernel) ⟨Nat.le_of_ble_eq_true rfl, Nat.le_of_ble_eq_true rfl⟩) (ps_r hK hP [] rfl) rfl rfl hl.1 rfl (lv_room (Nat.le_of_ble_eq_true rfl)) dX4_get_2 ⟨Nat.zero_le _, Nat.zero_le _⟩)) (fun r_2_1 h_2_1 => ?_)
  refine lv_if_eq (tgt := 12) hx hb dX4_get_5 (by decide) (fun c_5_1 => ?_) (fun c_5_1 => ?_)
  · have b_5 : ¬ (okC p1) := bI_f h_2_1 c_5_1
    refine lv_iconst (v := 1) hx hb dX4_get_12 (by decide) ?_
    refine va_put (D := gD g) (ci := 6) (v := .int 1) (ty := .int) (C := RX4) (T := TX4) (N := 18) hx hb hts (by decide +kernel) tyX4 tyX4_ok nmX4 hown hK.1 hP hD hS 0 rfl rfl 0 (by decide) (hts (.fieldLink RX4 52 "LogForwardModel" "code" "I") (by decide +kernel)) (fun _ h9 => h9) rfl (by decide +kernel) rfl rfl (Nat.le_of_ble_eq_true rfl) dX4_get_13 (fun H locs hP hD hS => ?_)
    have hP : va_P (gD g) vwCl ([((a 0), .inr (6, [.int 1, .int (nI (M.rg)), .ref (a 1), .ref (a 2), .ref (a 3), .ref (a 4), .ref (a 5), .ref (a 6), .ref (a 7), .ref (a 8), .int (nI (M.S.n)), .int (nI (M.S.ar)), .int (nI (M.k)), .int (nI (M.fz)), .ref (a 9), .ref (a 10), .ref (a 11), .ref (a 12)])), ((a 1), .inl (gJ g, 32, .inr (.inl M.cs))), ((a 2), .inl (gI g, 2001, .inl M.S.kd)), ((a 3), .inl (gI g, 2001, .inl M.S.un)), ((a 4), .inl (gI g, 2001, .inl M.S.ce)), ((a 5), .inl (gI g, 2001, .inl M.S.tn)), ((a 6), .inl (gJ g, 2001, .inr (.inl M.S.bf))), ((a 7), .inl (gJ g, 2001, .inr (.inl M.S.af))), ((a 8), .inl (gZ g, 2001, .inl M.S.bk)), ((a 9), .inl (gJ g, 672, .inr (.inl M.kp))), ((a 10), .inl (gI g, 21, .inl M.st)), ((a 11), .inl (gI g, 21, .inl M.en)), ((a 12), .inl (gZ g, 21, .inl M.sp))]) H := hP
    have hD : va_D A ([((a 0), .inr (6, [.int 1, .int (nI (M.rg)), .ref (a 1), .ref (a 2), .ref (a 3), .ref (a 4), .ref (a 5), .ref (a 6), .ref (a 7), .ref (a 8), .int (nI (M.S.n)), .int (nI (M.S.ar)), .int (nI (M.k)), .int (nI (M.fz)), .ref (a 9), .ref (a 10), .ref (a 11), .ref (a 12)])), ((a 1), .inl (gJ g, 32, .inr (.inl M.cs))), ((a 2), .inl (gI g, 2001, .inl M.S.kd)), ((a 3), .inl (gI g, 2001, .inl M.S.un)), ((a 4), .inl (gI g, 2001, .inl M.S.ce)), ((a 5), .inl (gI g, 2001, .inl M.S.tn)), ((a 6), .inl (gJ g, 2001, .inr (.inl M.S.bf))), ((a 7), .inl (gJ g, 2001, .inr (.inl M.S.af))), ((a 8), .inl (gZ g, 2001, .inl M.S.bk)), ((a 9), .inl (gJ g, 672, .inr (.inl M.kp))), ((a 10), .inl (gI g, 21, .inl M.st)), ((a 11), .inl (gI g, 21, .inl M.en)), ((a 12), .inl (gZ g, 21, .inl M.sp))]) := hD
    refine lv_aload_n hx hb dX4_get_16 rfl (lv_at hl 0 rfl) ?_
    refine va_get (D := gD g) (ci := 6) (v := .int 1) (C := RX4) (T := TX4) (N := 18) hx hb hts (by decide +kernel) hown hK.1 hP 0 rfl rfl 0 (by decide) (hts (.fieldLink RX4 52 "LogForwardModel" "code" "I") (by decide +kernel)) (fun _ h9 => h9) rfl dX4_get_17 ?_
    refine lv_if_le (tgt := 27) hx hb dX4_get_20 (by decide) (fun c_20_2 => ?_) (fun c_20_2 => ?_)
    · exact absurd c_20_2 (by decide)
    · skip
      refine lv_lconst (v := 0) hx hb dX4_get_23 (by decide) ?_
      refine lv_goto (tgt := 33) hx hb dX4_get_24 (by decide) ?_
      have hP9 : va_P (gD g) vwCl (wM g a (M.S, M.st, M.en, M.sp, M.kp, M.k, M.fz, M.cs, M.rg, 1)) H := hP
      have hD9 : va_D A (wM g a (M.S, M.st, M.en, M.sp, M.kp, M.k, M.fz, M.cs, M.rg, 1)) := hD
      exact W.lret (v := 0) hx hb hr (fun tz htz hWz => ⟨⟨0, (M.S, M.st, M.en, M.sp, M.kp, M.k, M.fz, M.cs, M.rg, 1), rfl, (Or.inr ⟨by assumption, rfl, rfl⟩), by rw [htz]; exact hP9, hD9⟩, hS.F htz⟩) hS.2.2 dX4_get_33
  · have b_5 : okC p1 := bI_t h_2_1 c_5_1
    refine lv_iconst (v := 0) hx hb dX4_get_8 (by decide) ?_
    refine lv_goto (tgt := 13) hx hb dX4_get_9 (by decide) ?_
    refine va_put (D := gD g) (ci := 6) (v := .int 0) (ty := .int) (C := RX4) (T := TX4) (N := 18) hx hb hts (by decide +kernel) tyX4 tyX4_ok nmX4 hown hK.1 hP hD hS 0 rfl rfl 0 (by decide) (hts (.fieldLink RX4 52 "LogForwardModel" "code" "I") (by decide +kernel)) (fun _ h9 => h9) rfl (by decide +kernel) rfl rfl (Nat.le_of_ble_eq_true rfl) dX4_get_13 (fun H locs hP hD hS => ?_)
    have hP : va_P (gD g) vwCl ([((a 0), .inr (6, [.int 0, .int (nI (M.rg)), .ref (a 1), .ref (a 2), .ref (a 3), .ref (a 4), .ref (a 5), .ref (a 6), .ref (a 7), .ref (a 8), .int (nI (M.S.n)), .int (nI (M.S.ar)), .int (nI (M.k)), .int (nI (M.fz)), .ref (a 9), .ref (a 10), .ref (a 11), .ref (a 12)])), ((a 1), .inl (gJ g, 32, .inr (.inl M.cs))), ((a 2), .inl (gI g, 2001, .inl M.S.kd)), ((a 3), .inl (gI g, 2001, .inl M.S.un)), ((a 4), .inl (gI g, 2001, .inl M.S.ce)), ((a 5), .inl (gI g, 2001, .inl M.S.tn)), ((a 6), .inl (gJ g, 2001, .inr (.inl M.S.bf))), ((a 7), .inl (gJ g, 2001, .inr (.inl M.S.af))), ((a 8), .inl (gZ g, 2001, .inl M.S.bk)), ((a 9), .inl (gJ g, 672, .inr (.inl M.kp))), ((a 10), .inl (gI g, 21, .inl M.st)), ((a 11), .inl (gI g, 21, .inl M.en)), ((a 12), .inl (gZ g, 21, .inl M.sp))]) H := hP
    have hD : va_D A ([((a 0), .inr (6, [.int 0, .int (nI (M.rg)), .ref (a 1), .ref (a 2), .ref (a 3), .ref (a 4), .ref (a 5), .ref (a 6), .ref (a 7), .ref (a 8), .int (nI (M.S.n)), .int (nI (M.S.ar)), .int (nI (M.k)), .int (nI (M.fz)), .ref (a 9), .ref (a 10), .ref (a 11), .ref (a 12)])), ((a 1), .inl (gJ g, 32, .inr (.inl M.cs))), ((a 2), .inl (gI g, 2001, .inl M.S.kd)), ((a 3), .inl (gI g, 2001, .inl M.S.un)), ((a 4), .inl (gI g, 2001, .inl M.S.ce)), ((a 5), .inl (gI g, 2001, .inl M.S.tn)), ((a 6), .inl (gJ g, 2001, .inr (.inl M.S.bf))), ((a 7), .inl (gJ g, 2001, .inr (.inl M.S.af))), ((a 8), .inl (gZ g, 2001, .inl M.S.bk)), ((a 9), .inl (gJ g, 672, .inr (.inl M.kp))), ((a 10), .inl (gI g, 21, .inl M.st)), ((a 11), .inl (gI g, 21, .inl M.en)), ((a 12), .inl (gZ g, 21, .inl M.sp))]) := hD
    refine lv_aload_n hx hb dX4_get_16 rfl (lv_at hl 0 rfl) ?_
    refine va_get (D := gD g) (ci := 6) (v := .int 0) (C := RX4) (T := TX4) (N := 18) hx hb hts (by decide +kernel) hown hK.1 hP 0 rfl rfl 0 (by decide) (hts (.fieldLink RX4 52 "LogForwardModel" "code" "I") (by decide +kernel)) (fun _ h9 => h9) rfl dX4_get_17 ?_
    refine lv_if_le (tgt := 27) hx hb dX4_get_20 (by decide) (fun c_20_2 => ?_) (fun c_20_2 => ?_)
    · skip
      refine lv_aload_n hx hb dX4_get_27 rfl (lv_at hl 0 rfl) ?_
      refine va_get (D := gD g) (ci := 6) (v := .ref (a 1)) (C := RX4) (T := TX4) (N := 18) hx hb hts (by decide +kernel) hown hK.1 hP 0 rfl rfl 2 (by decide) (hts (.fieldLink RX4 7 "LogForwardModel" "cells" "[J") (by decide +kernel)) (fun _ h9 => h9) rfl dX4_get_28 ?_
      refine lv_iload_n hx hb dX4_get_31 rfl (lv_at hl 1 rfl) ?_
      refine ga_lald (v := (M.cs p1.toNatClampNeg)) hx hb hK.1 hP 1 1 rfl rfl (v_p (by omega) (by omega)) rfl dX4_get_32 ?_
      have hP9 : va_P (gD g) vwCl (wM g a (M.S, M.st, M.en, M.sp, M.kp, M.k, M.fz, M.cs, M.rg, 0)) H := hP
      have hD9 : va_D A (wM g a (M.S, M.st, M.en, M.sp, M.kp, M.k, M.fz, M.cs, M.rg, 0)) := hD
      exact W.lret (v := (M.cs p1.toNatClampNeg)) hx hb hr (fun tz htz hWz => ⟨⟨(M.cs p1.toNatClampNeg), (M.S, M.st, M.en, M.sp, M.kp, M.k, M.fz, M.cs, M.rg, 0), rfl, (Or.inl ⟨by assumption, rfl, rfl⟩), by rw [htz]; exact hP9, hD9⟩, hS.F htz⟩) hS.2.2 dX4_get_33
    · exact absurd c_20_2 (by decide)
set_option maxHeartbeats 4000000 in
set_option maxRecDepth 100000 in
theorem c_X4_at (l : Launch) (g : GG) (a : Nat → Nat) (M : MS) (sz : Nat) (p1 p2 : Int32) (hn : M.S.n ≤ 2000) : Met l yX4_at wsX4_at { frames := 0, cells := 0, slots := 0, locals := 0 } (va_Pc [.ref (a 0), .int p1, .int p2] (Pw g (wM g a M) sz)) (va_Qi (fun rv u => (okA M.S p1 p2 ∧ rv = teR M.S p1.toNatClampNeg p2.toNatClampNeg ∧ u = mC M 0) ∨ (¬ okA M.S p1 p2 ∧ rv = 0 ∧ u = mC M 1)) (Bw g (va_A (wM g a M) sz) (fun u : MS => wM g a u)) (va_A (wM g a M) sz)) 0 0 (va_A (wM g a M) sz) := by
  refine Met.ofW (cc := cX4_at) (maxL := 4) (ret := (some .int)) (by decide) rfl ?_
  intro p e s m args below meth c s₁ B hml hv
  obtain ⟨rfl, hsz, hP, hK, hD0⟩ := hv
  have hx := B.exec
  have hb := B.bytes
  have hr := B.returns
  have hts := atoms_spec (ws := wsX4_at) B.pre
  have hown : s.vm.findClass RX4 = some m.cls := findClass_of_methodNamed B.named
  have hlocks := B.notSynchronized
  subst hsz
  have hD := hD0.self (sz := s.heap.size)
  generalize hAe : va_A (wM g a M) s.heap.size = A at hD ⊢
  have hA : ∀ q : Nat, s.heap.size ≤ q → A q := fun q h => by rw [← hAe]; exact Or.inr h
  have hS : va_S A s.heap s.heap [] := va_S.rf
  have hl := lv_entry ([.ref (a 0), .int p1, .int p2]) (n := 4) (Nat.le_of_ble_eq_true rfl)
  rw [lg_entry_eq]
  generalize (lg_sl ([.ref (a 0), .int p1, .int p2]) ++ List.replicate (4 - (lg_sl ([.ref (a 0), .int p1, .int p2])).length) Slot.unset).toArray = ls at hl ⊢
  have hl : lv_has ls 4 [(0, .ref (a 0)), (1, .int p1), (2, .int p2)] := hl
  replace hP : va_P (gD g) vwCl ([((a 0), .inr (6, [.int M.cd, .int (nI (M.rg)), .ref (a 1), .ref (a 2), .ref (a 3), .ref (a 4), .ref (a 5), .ref (a 6), .ref (a 7), .ref (a 8), .int (nI (M.S.n)), .int (nI (M.S.ar)), .int (nI (M.k)), .int (nI (M.fz)), .ref (a 9), .ref (a 10), .ref (a 11), .ref (a 12)])), ((a 1), .inl (gJ g, 32, .inr (.inl M.cs))), ((a 2), .inl (gI g, 2001, .inl M.S.kd)), ((a 3), .inl (gI g, 2001, .inl M.S.un)), ((a 4), .inl (gI g, 2001, .inl M.S.ce)), ((a 5), .inl (gI g, 2001, .inl M.S.tn)), ((a 6), .inl (gJ g, 2001, .inr (.inl M.S.bf))), ((a 7), .inl (gJ g, 2001, .inr (.inl M.S.af))), ((a 8), .inl (gZ g, 2001, .inl M.S.bk)), ((a 9), .inl (gJ g, 672, .inr (.inl M.kp))), ((a 10), .inl (gI g, 21, .inl M.st)), ((a 11), .inl (gI g, 21, .inl M.en)), ((a 12), .inl (gZ g, 21, .inl M.sp))]) s.heap := hP
  replace hD : va_D A ([((a 0), .inr (6, [.int M.cd, .int (nI (M.rg)), .ref (a 1), .ref (a 2), .ref (a 3), .ref (a 4), .ref (a 5), .ref (a 6), .ref (a 7), .ref (a 8), .int (nI (M.S.n)), .int (nI (M.S.ar)), .int (nI (M.k)), .int (nI (M.fz)), .ref (a 9), .ref (a 10), .ref (a 11), .ref (a 12)])), ((a 1), .inl (gJ g, 32, .inr (.inl M.cs))), ((a 2), .inl (gI g, 2001, .inl M.S.kd)), ((a 3), .inl (gI g, 2001, .inl M.S.un)), ((a 4), .inl (gI g, 2001, .inl M.S.ce)), ((a 5), .inl (gI g, 2001, .inl M.S.tn)), ((a 6), .inl (gJ g, 2001, .inr (.inl M.S.bf))), ((a 7), .inl (gJ g, 2001, .inr (.inl M.S.af))), ((a 8), .inl (gZ g, 2001, .inl M.S.bk)), ((a 9), .inl (gJ g, 672, .inr (.inl M.kp))), ((a 10), .inl (gI g, 21, .inl M.st)), ((a 11), .inl (gI g, 21, .inl M.en)), ((a 12), .inl (gZ g, 21, .inl M.sp))]) := hD
  refine lv_iload_n hx hb dX4_at_0 rfl (lv_at hl 1 rfl) ?_
  refine lv_if_le (tgt := 26) hx hb dX4_at_1 (by decide) (fun c_1_1 => ?_) (fun c_1_1 => ?_)
  · have i_1 : (p1.toInt : Int) ≤ 0 := q_le c_1_1 rfl rfl
    refine lv_iconst (v := 0) hx hb dX4_at_26 (by decide) ?_
    refine lv_istore_n (lv' := [(3, .int 0), (0, .ref (a 0)), (1, .int p1), (2, .int p2)]) hx hb dX4_at_27 rfl hl (by decide) rfl (fun ls hl => ?_)
    refine lv_aload_n hx hb dX4_at_28 rfl (lv_at hl 1 rfl) ?_
    refine lv_iload_n hx hb dX4_at_29 rfl (lv_at hl 0 rfl) ?_
    refine lv_if_eq (tgt := 37) hx hb dX4_at_30 (by decide) (fun c_30_2 => ?_) (fun c_30_2 => ?_)
    · skip
      refine lv_iconst (v := 1) hx hb dX4_at_37 (by decide) ?_
      refine va_put (D := gD g) (ci := 6) (v := .int 1) (ty := .int) (C := RX4) (T := TX4) (N := 18) hx hb hts (by decide +kernel) tyX4 tyX4_ok nmX4 hown hK.1 hP hD hS 0 rfl rfl 0 (by decide) (hts (.fieldLink RX4 52 "LogForwardModel" "code" "I") (by decide +kernel)) (fun _ h9 => h9) rfl (by decide +kernel) rfl rfl (Nat.le_of_ble_eq_true rfl) dX4_at_38 (fun H locs hP hD hS => ?_)
      have hP : va_P (gD g) vwCl ([((a 0), .inr (6, [.int 1, .int (nI (M.rg)), .ref (a 1), .ref (a 2), .ref (a 3), .ref (a 4), .ref (a 5), .ref (a 6), .ref (a 7), .ref (a 8), .int (nI (M.S.n)), .int (nI (M.S.ar)), .int (nI (M.k)), .int (nI (M.fz)), .ref (a 9), .ref (a 10), .ref (a 11), .ref (a 12)])), ((a 1), .inl (gJ g, 32, .inr (.inl M.cs))), ((a 2), .inl (gI g, 2001, .inl M.S.kd)), ((a 3), .inl (gI g, 2001, .inl M.S.un)), ((a 4), .inl (gI g, 2001, .inl M.S.ce)), ((a 5), .inl (gI g, 2001, .inl M.S.tn)), ((a 6), .inl (gJ g, 2001, .inr (.inl M.S.bf))), ((a 7), .inl (gJ g, 2001, .inr (.inl M.S.af))), ((a 8), .inl (gZ g, 2001, .inl M.S.bk)), ((a 9), .inl (gJ g, 672, .inr (.inl M.kp))), ((a 10), .inl (gI g, 21, .inl M.st)), ((a 11), .inl (gI g, 21, .inl M.en)), ((a 12), .inl (gZ g, 21, .inl M.sp))]) H := hP
      have hD : va_D A ([((a 0), .inr (6, [.int 1, .int (nI (M.rg)), .ref (a 1), .ref (a 2), .ref (a 3), .ref (a 4), .ref (a 5), .ref (a 6), .ref (a 7), .ref (a 8), .int (nI (M.S.n)), .int (nI (M.S.ar)), .int (nI (M.k)), .int (nI (M.fz)), .ref (a 9), .ref (a 10), .ref (a 11), .ref (a 12)])), ((a 1), .inl (gJ g, 32, .inr (.inl M.cs))), ((a 2), .inl (gI g, 2001, .inl M.S.kd)), ((a 3), .inl (gI g, 2001, .inl M.S.un)), ((a 4), .inl (gI g, 2001, .inl M.S.ce)), ((a 5), .inl (gI g, 2001, .inl M.S.tn)), ((a 6), .inl (gJ g, 2001, .inr (.inl M.S.bf))), ((a 7), .inl (gJ g, 2001, .inr (.inl M.S.af))), ((a 8), .inl (gZ g, 2001, .inl M.S.bk)), ((a 9), .inl (gJ g, 672, .inr (.inl M.kp))), ((a 10), .inl (gI g, 21, .inl M.st)), ((a 11), .inl (gI g, 21, .inl M.en)), ((a 12), .inl (gZ g, 21, .inl M.sp))]) := hD
      refine lv_iload_n hx hb dX4_at_41 rfl (lv_at hl 0 rfl) ?_
      refine lv_if_ne (tgt := 47) hx hb dX4_at_42 (by decide) (fun c_42_3 => ?_) (fun c_42_3 => ?_)
      · exact absurd c_42_3 (by decide)
      · skip
        refine lv_iconst (v := 0) hx hb dX4_at_45 (by decide) ?_
        have hP9 : va_P (gD g) vwCl (wM g a (M.S, M.st, M.en, M.sp, M.kp, M.k, M.fz, M.cs, M.rg, 1)) H := hP
        have hD9 : va_D A (wM g a (M.S, M.st, M.en, M.sp, M.kp, M.k, M.fz, M.cs, M.rg, 1)) := hD
        exact W.iret (v := 0) hx hb hr (fun tz htz hWz => ⟨⟨0, (M.S, M.st, M.en, M.sp, M.kp, M.k, M.fz, M.cs, M.rg, 1), rfl, (Or.inr ⟨by show ¬ ((_ ∧ _) ∧ _ ∧ _); omega, rfl, rfl⟩), by rw [htz]; exact hP9, hD9⟩, hS.F htz⟩) hS.2.2 dX4_at_46
    · exact absurd c_30_2 (by decide)
  · have i_1 : (0 : Int) < p1.toInt := q_nle c_1_1 rfl rfl
    refine lv_iload_n hx hb dX4_at_4 rfl (lv_at hl 1 rfl) ?_
    refine lv_aload_n hx hb dX4_at_5 rfl (lv_at hl 0 rfl) ?_
    refine va_get (D := gD g) (ci := 6) (v := .int (nI (M.S.n))) (C := RX4) (T := TX4) (N := 18) hx hb hts (by decide +kernel) hown hK.1 hP 0 rfl rfl 10 (by decide) (hts (.fieldLink RX4 55 "LogForwardModel" "rows" "I") (by decide +kernel)) (fun _ h9 => h9) rfl dX4_at_6 ?_
    refine lv_icmp_gt (tgt := 26) hx hb dX4_at_9 (by decide) (fun c_9_2 => ?_) (fun c_9_2 => ?_)
    · have i_9 : (((M.S.n : Nat) : Int) : Int) < p1.toInt := q_lt c_9_2 (l_nI (by omega)) rfl
      refine lv_iconst (v := 0) hx hb dX4_at_26 (by decide) ?_
      refine lv_istore_n (lv' := [(3, .int 0), (0, .ref (a 0)), (1, .int p1), (2, .int p2)]) hx hb dX4_at_27 rfl hl (by decide) rfl (fun ls hl => ?_)
      refine lv_aload_n hx hb dX4_at_28 rfl (lv_at hl 1 rfl) ?_
      refine lv_iload_n hx hb dX4_at_29 rfl (lv_at hl 0 rfl) ?_
      refine lv_if_eq (tgt := 37) hx hb dX4_at_30 (by decide) (fun c_30_3 => ?_) (fun c_30_3 => ?_)
      · skip
        refine lv_iconst (v := 1) hx hb dX4_at_37 (by decide) ?_
        refine va_put (D := gD g) (ci := 6) (v := .int 1) (ty := .int) (C := RX4) (T := TX4) (N := 18) hx hb hts (by decide +kernel) tyX4 tyX4_ok nmX4 hown hK.1 hP hD hS 0 rfl rfl 0 (by decide) (hts (.fieldLink RX4 52 "LogForwardModel" "code" "I") (by decide +kernel)) (fun _ h9 => h9) rfl (by decide +kernel) rfl rfl (Nat.le_of_ble_eq_true rfl) dX4_at_38 (fun H locs hP hD hS => ?_)
        have hP : va_P (gD g) vwCl ([((a 0), .inr (6, [.int 1, .int (nI (M.rg)), .ref (a 1), .ref (a 2), .ref (a 3), .ref (a 4), .ref (a 5), .ref (a 6), .ref (a 7), .ref (a 8), .int (nI (M.S.n)), .int (nI (M.S.ar)), .int (nI (M.k)), .int (nI (M.fz)), .ref (a 9), .ref (a 10), .ref (a 11), .ref (a 12)])), ((a 1), .inl (gJ g, 32, .inr (.inl M.cs))), ((a 2), .inl (gI g, 2001, .inl M.S.kd)), ((a 3), .inl (gI g, 2001, .inl M.S.un)), ((a 4), .inl (gI g, 2001, .inl M.S.ce)), ((a 5), .inl (gI g, 2001, .inl M.S.tn)), ((a 6), .inl (gJ g, 2001, .inr (.inl M.S.bf))), ((a 7), .inl (gJ g, 2001, .inr (.inl M.S.af))), ((a 8), .inl (gZ g, 2001, .inl M.S.bk)), ((a 9), .inl (gJ g, 672, .inr (.inl M.kp))), ((a 10), .inl (gI g, 21, .inl M.st)), ((a 11), .inl (gI g, 21, .inl M.en)), ((a 12), .inl (gZ g, 21, .inl M.sp))]) H := hP
        have hD : va_D A ([((a 0), .inr (6, [.int 1, .int (nI (M.rg)), .ref (a 1), .ref (a 2), .ref (a 3), .ref (a 4), .ref (a 5), .ref (a 6), .ref (a 7), .ref (a 8), .int (nI (M.S.n)), .int (nI (M.S.ar)), .int (nI (M.k)), .int (nI (M.fz)), .ref (a 9), .ref (a 10), .ref (a 11), .ref (a 12)])), ((a 1), .inl (gJ g, 32, .inr (.inl M.cs))), ((a 2), .inl (gI g, 2001, .inl M.S.kd)), ((a 3), .inl (gI g, 2001, .inl M.S.un)), ((a 4), .inl (gI g, 2001, .inl M.S.ce)), ((a 5), .inl (gI g, 2001, .inl M.S.tn)), ((a 6), .inl (gJ g, 2001, .inr (.inl M.S.bf))), ((a 7), .inl (gJ g, 2001, .inr (.inl M.S.af))), ((a 8), .inl (gZ g, 2001, .inl M.S.bk)), ((a 9), .inl (gJ g, 672, .inr (.inl M.kp))), ((a 10), .inl (gI g, 21, .inl M.st)), ((a 11), .inl (gI g, 21, .inl M.en)), ((a 12), .inl (gZ g, 21, .inl M.sp))]) := hD
        refine lv_iload_n hx hb dX4_at_41 rfl (lv_at hl 0 rfl) ?_
        refine lv_if_ne (tgt := 47) hx hb dX4_at_42 (by decide) (fun c_42_4 => ?_) (fun c_42_4 => ?_)
        · exact absurd c_42_4 (by decide)
        · skip
          refine lv_iconst (v := 0) hx hb dX4_at_45 (by decide) ?_
          have hP9 : va_P (gD g) vwCl (wM g a (M.S, M.st, M.en, M.sp, M.kp, M.k, M.fz, M.cs, M.rg, 1)) H := hP
          have hD9 : va_D A (wM g a (M.S, M.st, M.en, M.sp, M.kp, M.k, M.fz, M.cs, M.rg, 1)) := hD
          exact W.iret (v := 0) hx hb hr (fun tz htz hWz => ⟨⟨0, (M.S, M.st, M.en, M.sp, M.kp, M.k, M.fz, M.cs, M.rg, 1), rfl, (Or.inr ⟨by show ¬ ((_ ∧ _) ∧ _ ∧ _); omega, rfl, rfl⟩), by rw [htz]; exact hP9, hD9⟩, hS.F htz⟩) hS.2.2 dX4_at_46
      · exact absurd c_30_3 (by decide)
    · have i_9 : (p1.toInt : Int) ≤ ((M.S.n : Nat) : Int) := q_nlt c_9_2 (l_nI (by omega)) rfl
      refine lv_iload_n hx hb dX4_at_12 rfl (lv_at hl 2 rfl) ?_
      refine lv_if_lt (tgt := 26) hx hb dX4_at_13 (by decide) (fun c_13_3 => ?_) (fun c_13_3 => ?_)
      · have i_13 : (p2.toInt : Int) < 0 := q_lt c_13_3 rfl rfl
        refine lv_iconst (v := 0) hx hb dX4_at_26 (by decide) ?_
        refine lv_istore_n (lv' := [(3, .int 0), (0, .ref (a 0)), (1, .int p1), (2, .int p2)]) hx hb dX4_at_27 rfl hl (by decide) rfl (fun ls hl => ?_)
        refine lv_aload_n hx hb dX4_at_28 rfl (lv_at hl 1 rfl) ?_
        refine lv_iload_n hx hb dX4_at_29 rfl (lv_at hl 0 rfl) ?_
        refine lv_if_eq (tgt := 37) hx hb dX4_at_30 (by decide) (fun c_30_4 => ?_) (fun c_30_4 => ?_)
        · skip
          refine lv_iconst (v := 1) hx hb dX4_at_37 (by decide) ?_
          refine va_put (D := gD g) (ci := 6) (v := .int 1) (ty := .int) (C := RX4) (T := TX4) (N := 18) hx hb hts (by decide +kernel) tyX4 tyX4_ok nmX4 hown hK.1 hP hD hS 0 rfl rfl 0 (by decide) (hts (.fieldLink RX4 52 "LogForwardModel" "code" "I") (by decide +kernel)) (fun _ h9 => h9) rfl (by decide +kernel) rfl rfl (Nat.le_of_ble_eq_true rfl) dX4_at_38 (fun H locs hP hD hS => ?_)
          have hP : va_P (gD g) vwCl ([((a 0), .inr (6, [.int 1, .int (nI (M.rg)), .ref (a 1), .ref (a 2), .ref (a 3), .ref (a 4), .ref (a 5), .ref (a 6), .ref (a 7), .ref (a 8), .int (nI (M.S.n)), .int (nI (M.S.ar)), .int (nI (M.k)), .int (nI (M.fz)), .ref (a 9), .ref (a 10), .ref (a 11), .ref (a 12)])), ((a 1), .inl (gJ g, 32, .inr (.inl M.cs))), ((a 2), .inl (gI g, 2001, .inl M.S.kd)), ((a 3), .inl (gI g, 2001, .inl M.S.un)), ((a 4), .inl (gI g, 2001, .inl M.S.ce)), ((a 5), .inl (gI g, 2001, .inl M.S.tn)), ((a 6), .inl (gJ g, 2001, .inr (.inl M.S.bf))), ((a 7), .inl (gJ g, 2001, .inr (.inl M.S.af))), ((a 8), .inl (gZ g, 2001, .inl M.S.bk)), ((a 9), .inl (gJ g, 672, .inr (.inl M.kp))), ((a 10), .inl (gI g, 21, .inl M.st)), ((a 11), .inl (gI g, 21, .inl M.en)), ((a 12), .inl (gZ g, 21, .inl M.sp))]) H := hP
          have hD : va_D A ([((a 0), .inr (6, [.int 1, .int (nI (M.rg)), .ref (a 1), .ref (a 2), .ref (a 3), .ref (a 4), .ref (a 5), .ref (a 6), .ref (a 7), .ref (a 8), .int (nI (M.S.n)), .int (nI (M.S.ar)), .int (nI (M.k)), .int (nI (M.fz)), .ref (a 9), .ref (a 10), .ref (a 11), .ref (a 12)])), ((a 1), .inl (gJ g, 32, .inr (.inl M.cs))), ((a 2), .inl (gI g, 2001, .inl M.S.kd)), ((a 3), .inl (gI g, 2001, .inl M.S.un)), ((a 4), .inl (gI g, 2001, .inl M.S.ce)), ((a 5), .inl (gI g, 2001, .inl M.S.tn)), ((a 6), .inl (gJ g, 2001, .inr (.inl M.S.bf))), ((a 7), .inl (gJ g, 2001, .inr (.inl M.S.af))), ((a 8), .inl (gZ g, 2001, .inl M.S.bk)), ((a 9), .inl (gJ g, 672, .inr (.inl M.kp))), ((a 10), .inl (gI g, 21, .inl M.st)), ((a 11), .inl (gI g, 21, .inl M.en)), ((a 12), .inl (gZ g, 21, .inl M.sp))]) := hD
          refine lv_iload_n hx hb dX4_at_41 rfl (lv_at hl 0 rfl) ?_
          refine lv_if_ne (tgt := 47) hx hb dX4_at_42 (by decide) (fun c_42_5 => ?_) (fun c_42_5 => ?_)
          · exact absurd c_42_5 (by decide)
          · skip
            refine lv_iconst (v := 0) hx hb dX4_at_45 (by decide) ?_
            have hP9 : va_P (gD g) vwCl (wM g a (M.S, M.st, M.en, M.sp, M.kp, M.k, M.fz, M.cs, M.rg, 1)) H := hP
            have hD9 : va_D A (wM g a (M.S, M.st, M.en, M.sp, M.kp, M.k, M.fz, M.cs, M.rg, 1)) := hD
            exact W.iret (v := 0) hx hb hr (fun tz htz hWz => ⟨⟨0, (M.S, M.st, M.en, M.sp, M.kp, M.k, M.fz, M.cs, M.rg, 1), rfl, (Or.inr ⟨by show ¬ ((_ ∧ _) ∧ _ ∧ _); omega, rfl, rfl⟩), by rw [htz]; exact hP9, hD9⟩, hS.F htz⟩) hS.2.2 dX4_at_46
        · exact absurd c_30_4 (by decide)
      · have i_13 : (0 : Int) ≤ p2.toInt := q_nlt c_13_3 rfl rfl
        refine lv_iload_n hx hb dX4_at_16 rfl (lv_at hl 2 rfl) ?_
        refine lv_bipush (v := 7) hx hb dX4_at_17 (by decide) ?_
        refine lv_icmp_ge (tgt := 26) hx hb dX4_at_19 (by decide) (fun c_19_4 => ?_) (fun c_19_4 => ?_)
        · have i_19 : (7 : Int) ≤ p2.toInt := q_le c_19_4 rfl rfl
          refine lv_iconst (v := 0) hx hb dX4_at_26 (by decide) ?_
          refine lv_istore_n (lv' := [(3, .int 0), (0, .ref (a 0)), (1, .int p1), (2, .int p2)]) hx hb dX4_at_27 rfl hl (by decide) rfl (fun ls hl => ?_)
          refine lv_aload_n hx hb dX4_at_28 rfl (lv_at hl 1 rfl) ?_
          refine lv_iload_n hx hb dX4_at_29 rfl (lv_at hl 0 rfl) ?_
          refine lv_if_eq (tgt := 37) hx hb dX4_at_30 (by decide) (fun c_30_5 => ?_) (fun c_30_5 => ?_)
          · skip
            refine lv_iconst (v := 1) hx hb dX4_at_37 (by decide) ?_
            refine va_put (D := gD g) (ci := 6) (v := .int 1) (ty := .int) (C := RX4) (T := TX4) (N := 18) hx hb hts (by decide +kernel) tyX4 tyX4_ok nmX4 hown hK.1 hP hD hS 0 rfl rfl 0 (by decide) (hts (.fieldLink RX4 52 "LogForwardModel" "code" "I") (by decide +kernel)) (fun _ h9 => h9) rfl (by decide +kernel) rfl rfl (Nat.le_of_ble_eq_true rfl) dX4_at_38 (fun H locs hP hD hS => ?_)
            have hP : va_P (gD g) vwCl ([((a 0), .inr (6, [.int 1, .int (nI (M.rg)), .ref (a 1), .ref (a 2), .ref (a 3), .ref (a 4), .ref (a 5), .ref (a 6), .ref (a 7), .ref (a 8), .int (nI (M.S.n)), .int (nI (M.S.ar)), .int (nI (M.k)), .int (nI (M.fz)), .ref (a 9), .ref (a 10), .ref (a 11), .ref (a 12)])), ((a 1), .inl (gJ g, 32, .inr (.inl M.cs))), ((a 2), .inl (gI g, 2001, .inl M.S.kd)), ((a 3), .inl (gI g, 2001, .inl M.S.un)), ((a 4), .inl (gI g, 2001, .inl M.S.ce)), ((a 5), .inl (gI g, 2001, .inl M.S.tn)), ((a 6), .inl (gJ g, 2001, .inr (.inl M.S.bf))), ((a 7), .inl (gJ g, 2001, .inr (.inl M.S.af))), ((a 8), .inl (gZ g, 2001, .inl M.S.bk)), ((a 9), .inl (gJ g, 672, .inr (.inl M.kp))), ((a 10), .inl (gI g, 21, .inl M.st)), ((a 11), .inl (gI g, 21, .inl M.en)), ((a 12), .inl (gZ g, 21, .inl M.sp))]) H := hP
            have hD : va_D A ([((a 0), .inr (6, [.int 1, .int (nI (M.rg)), .ref (a 1), .ref (a 2), .ref (a 3), .ref (a 4), .ref (a 5), .ref (a 6), .ref (a 7), .ref (a 8), .int (nI (M.S.n)), .int (nI (M.S.ar)), .int (nI (M.k)), .int (nI (M.fz)), .ref (a 9), .ref (a 10), .ref (a 11), .ref (a 12)])), ((a 1), .inl (gJ g, 32, .inr (.inl M.cs))), ((a 2), .inl (gI g, 2001, .inl M.S.kd)), ((a 3), .inl (gI g, 2001, .inl M.S.un)), ((a 4), .inl (gI g, 2001, .inl M.S.ce)), ((a 5), .inl (gI g, 2001, .inl M.S.tn)), ((a 6), .inl (gJ g, 2001, .inr (.inl M.S.bf))), ((a 7), .inl (gJ g, 2001, .inr (.inl M.S.af))), ((a 8), .inl (gZ g, 2001, .inl M.S.bk)), ((a 9), .inl (gJ g, 672, .inr (.inl M.kp))), ((a 10), .inl (gI g, 21, .inl M.st)), ((a 11), .inl (gI g, 21, .inl M.en)), ((a 12), .inl (gZ g, 21, .inl M.sp))]) := hD
            refine lv_iload_n hx hb dX4_at_41 rfl (lv_at hl 0 rfl) ?_
            refine lv_if_ne (tgt := 47) hx hb dX4_at_42 (by decide) (fun c_42_6 => ?_) (fun c_42_6 => ?_)
            · exact absurd c_42_6 (by decide)
            · skip
              refine lv_iconst (v := 0) hx hb dX4_at_45 (by decide) ?_
              have hP9 : va_P (gD g) vwCl (wM g a (M.S, M.st, M.en, M.sp, M.kp, M.k, M.fz, M.cs, M.rg, 1)) H := hP
              have hD9 : va_D A (wM g a (M.S, M.st, M.en, M.sp, M.kp, M.k, M.fz, M.cs, M.rg, 1)) := hD
              exact W.iret (v := 0) hx hb hr (fun tz htz hWz => ⟨⟨0, (M.S, M.st, M.en, M.sp, M.kp, M.k, M.fz, M.cs, M.rg, 1), rfl, (Or.inr ⟨by show ¬ ((_ ∧ _) ∧ _ ∧ _); omega, rfl, rfl⟩), by rw [htz]; exact hP9, hD9⟩, hS.F htz⟩) hS.2.2 dX4_at_46
          · exact absurd c_30_5 (by decide)
        · have i_19 : (p2.toInt : Int) < 7 := q_nle c_19_4 rfl rfl
          refine lv_iconst (v := 1) hx hb dX4_at_22 (by decide) ?_
          refine lv_goto (tgt := 27) hx hb dX4_at_23 (by decide) ?_
          refine lv_istore_n (lv' := [(3, .int 1), (0, .ref (a 0)), (1, .int p1), (2, .int p2)]) hx hb dX4_at_27 rfl hl (by decide) rfl (fun ls hl => ?_)
          refine lv_aload_n hx hb dX4_at_28 rfl (lv_at hl 1 rfl) ?_
          refine lv_iload_n hx hb dX4_at_29 rfl (lv_at hl 0 rfl) ?_
          refine lv_if_eq (tgt := 37) hx hb dX4_at_30 (by decide) (fun c_30_5 => ?_) (fun c_30_5 => ?_)
          · exact absurd c_30_5 (by decide)
          · skip
            refine lv_iconst (v := 0) hx hb dX4_at_33 (by decide) ?_
            refine lv_goto (tgt := 38) hx hb dX4_at_34 (by decide) ?_
            refine va_put (D := gD g) (ci := 6) (v := .int 0) (ty := .int) (C := RX4) (T := TX4) (N := 18) hx hb hts (by decide +kernel) tyX4 tyX4_ok nmX4 hown hK.1 hP hD hS 0 rfl rfl 0 (by decide) (hts (.fieldLink RX4 52 "LogForwardModel" "code" "I") (by decide +kernel)) (fun _ h9 => h9) rfl (by decide +kernel) rfl rfl (Nat.le_of_ble_eq_true rfl) dX4_at_38 (fun H locs hP hD hS => ?_)
            have hP : va_P (gD g) vwCl ([((a 0), .inr (6, [.int 0, .int (nI (M.rg)), .ref (a 1), .ref (a 2), .ref (a 3), .ref (a 4), .ref (a 5), .ref (a 6), .ref (a 7), .ref (a 8), .int (nI (M.S.n)), .int (nI (M.S.ar)), .int (nI (M.k)), .int (nI (M.fz)), .ref (a 9), .ref (a 10), .ref (a 11), .ref (a 12)])), ((a 1), .inl (gJ g, 32, .inr (.inl M.cs))), ((a 2), .inl (gI g, 2001, .inl M.S.kd)), ((a 3), .inl (gI g, 2001, .inl M.S.un)), ((a 4), .inl (gI g, 2001, .inl M.S.ce)), ((a 5), .inl (gI g, 2001, .inl M.S.tn)), ((a 6), .inl (gJ g, 2001, .inr (.inl M.S.bf))), ((a 7), .inl (gJ g, 2001, .inr (.inl M.S.af))), ((a 8), .inl (gZ g, 2001, .inl M.S.bk)), ((a 9), .inl (gJ g, 672, .inr (.inl M.kp))), ((a 10), .inl (gI g, 21, .inl M.st)), ((a 11), .inl (gI g, 21, .inl M.en)), ((a 12), .inl (gZ g, 21, .inl M.sp))]) H := hP
            have hD : va_D A ([((a 0), .inr (6, [.int 0, .int (nI (M.rg)), .ref (a 1), .ref (a 2), .ref (a 3), .ref (a 4), .ref (a 5), .ref (a 6), .ref (a 7), .ref (a 8), .int (nI (M.S.n)), .int (nI (M.S.ar)), .int (nI (M.k)), .int (nI (M.fz)), .ref (a 9), .ref (a 10), .ref (a 11), .ref (a 12)])), ((a 1), .inl (gJ g, 32, .inr (.inl M.cs))), ((a 2), .inl (gI g, 2001, .inl M.S.kd)), ((a 3), .inl (gI g, 2001, .inl M.S.un)), ((a 4), .inl (gI g, 2001, .inl M.S.ce)), ((a 5), .inl (gI g, 2001, .inl M.S.tn)), ((a 6), .inl (gJ g, 2001, .inr (.inl M.S.bf))), ((a 7), .inl (gJ g, 2001, .inr (.inl M.S.af))), ((a 8), .inl (gZ g, 2001, .inl M.S.bk)), ((a 9), .inl (gJ g, 672, .inr (.inl M.kp))), ((a 10), .inl (gI g, 21, .inl M.st)), ((a 11), .inl (gI g, 21, .inl M.en)), ((a 12), .inl (gZ g, 21, .inl M.sp))]) := hD
            refine lv_iload_n hx hb dX4_at_41 rfl (lv_at hl 0 rfl) ?_
            refine lv_if_ne (tgt := 47) hx hb dX4_at_42 (by decide) (fun c_42_6 => ?_) (fun c_42_6 => ?_)
            · skip
              refine lv_iload_n hx hb dX4_at_47 rfl (lv_at hl 3 rfl) ?_
              have e1 := p_nI (x := p1) (by omega)
              have e2 := pn_toInt (x := p1) (by omega)
              have e3 := p_nI (x := p2) (by omega)
              have e4 := pn_toInt (x := p2) (by omega)
              obtain ⟨w, hw⟩ : ∃ w : Nat, w = p2.toNatClampNeg := ⟨_, rfl⟩
              rw [← hw] at e3 e4
              refine lv_topi (fun y hy => ?_)
              rw [e3] at hy
              subst hy
              replace hl : lv_has ls 4 [(0, .ref (a 0)), (1, .int (nI (p1.toNatClampNeg)))] := by have hl := lv_sub hl (l' := [(0, .ref (a 0)), (1, .int p1)]) [1, 2] rfl; rw [← e1]; exact hl
              clear e3
              rcases (show w = 0 ∨ w = 1 ∨ w = 2 ∨ w = 3 ∨ w = 4 ∨ w = 5 ∨ w = 6 by omega) with rfl | rfl | rfl | rfl | rfl | rfl | rfl
              · refine lv_tableIn (tgt := 88) hx hb dX4_at_48 (by decide) (by decide) rfl (by decide) ?_
                refine lv_aload_n hx hb dX4_at_88 rfl (lv_at hl 0 rfl) ?_
                refine va_get (D := gD g) (ci := 6) (v := .ref (a 2)) (C := RX4) (T := TX4) (N := 18) hx hb hts (by decide +kernel) hown hK.1 hP 0 rfl rfl 3 (by decide) (hts (.fieldLink RX4 13 "LogForwardModel" "kinds" "[I") (by decide +kernel)) (fun _ h9 => h9) rfl dX4_at_89 ?_
                refine lv_iload_n hx hb dX4_at_92 rfl (lv_at hl 1 rfl) ?_
                refine ga_iald (v := (M.S.kd p1.toNatClampNeg)) hx hb hK.1 hP 2 0 rfl rfl (v_nI (by omega) (by omega)) (by rw [(c_nI (by omega))]) dX4_at_93 ?_
                have hP9 : va_P (gD g) vwCl (wM g a (M.S, M.st, M.en, M.sp, M.kp, M.k, M.fz, M.cs, M.rg, 0)) H := hP
                have hD9 : va_D A (wM g a (M.S, M.st, M.en, M.sp, M.kp, M.k, M.fz, M.cs, M.rg, 0)) := hD
                exact W.iret (v := (M.S.kd p1.toNatClampNeg)) hx hb hr (fun tz htz hWz => ⟨⟨(M.S.kd p1.toNatClampNeg), (M.S, M.st, M.en, M.sp, M.kp, M.k, M.fz, M.cs, M.rg, 0), rfl, (Or.inl ⟨by show (_ ∧ _) ∧ _ ∧ _; omega, by rw [← hw]; rfl, rfl⟩), by rw [htz]; exact hP9, hD9⟩, hS.F htz⟩) hS.2.2 dX4_at_94
              · refine lv_tableIn (tgt := 95) hx hb dX4_at_48 (by decide) (by decide) rfl (by decide) ?_
                refine lv_aload_n hx hb dX4_at_95 rfl (lv_at hl 0 rfl) ?_
                refine va_get (D := gD g) (ci := 6) (v := .ref (a 3)) (C := RX4) (T := TX4) (N := 18) hx hb hts (by decide +kernel) hown hK.1 hP 0 rfl rfl 4 (by decide) (hts (.fieldLink RX4 17 "LogForwardModel" "units" "[I") (by decide +kernel)) (fun _ h9 => h9) rfl dX4_at_96 ?_
                refine lv_iload_n hx hb dX4_at_99 rfl (lv_at hl 1 rfl) ?_
                refine ga_iald (v := (M.S.un p1.toNatClampNeg)) hx hb hK.1 hP 3 0 rfl rfl (v_nI (by omega) (by omega)) (by rw [(c_nI (by omega))]) dX4_at_100 ?_
                have hP9 : va_P (gD g) vwCl (wM g a (M.S, M.st, M.en, M.sp, M.kp, M.k, M.fz, M.cs, M.rg, 0)) H := hP
                have hD9 : va_D A (wM g a (M.S, M.st, M.en, M.sp, M.kp, M.k, M.fz, M.cs, M.rg, 0)) := hD
                exact W.iret (v := (M.S.un p1.toNatClampNeg)) hx hb hr (fun tz htz hWz => ⟨⟨(M.S.un p1.toNatClampNeg), (M.S, M.st, M.en, M.sp, M.kp, M.k, M.fz, M.cs, M.rg, 0), rfl, (Or.inl ⟨by show (_ ∧ _) ∧ _ ∧ _; omega, by rw [← hw]; rfl, rfl⟩), by rw [htz]; exact hP9, hD9⟩, hS.F htz⟩) hS.2.2 dX4_at_101
              · refine lv_tableIn (tgt := 102) hx hb dX4_at_48 (by decide) (by decide) rfl (by decide) ?_
                refine lv_aload_n hx hb dX4_at_102 rfl (lv_at hl 0 rfl) ?_
                refine va_get (D := gD g) (ci := 6) (v := .ref (a 4)) (C := RX4) (T := TX4) (N := 18) hx hb hts (by decide +kernel) hown hK.1 hP 0 rfl rfl 5 (by decide) (hts (.fieldLink RX4 20 "LogForwardModel" "where" "[I") (by decide +kernel)) (fun _ h9 => h9) rfl dX4_at_103 ?_
                refine lv_iload_n hx hb dX4_at_106 rfl (lv_at hl 1 rfl) ?_
                refine ga_iald (v := (M.S.ce p1.toNatClampNeg)) hx hb hK.1 hP 4 0 rfl rfl (v_nI (by omega) (by omega)) (by rw [(c_nI (by omega))]) dX4_at_107 ?_
                have hP9 : va_P (gD g) vwCl (wM g a (M.S, M.st, M.en, M.sp, M.kp, M.k, M.fz, M.cs, M.rg, 0)) H := hP
                have hD9 : va_D A (wM g a (M.S, M.st, M.en, M.sp, M.kp, M.k, M.fz, M.cs, M.rg, 0)) := hD
                exact W.iret (v := (M.S.ce p1.toNatClampNeg)) hx hb hr (fun tz htz hWz => ⟨⟨(M.S.ce p1.toNatClampNeg), (M.S, M.st, M.en, M.sp, M.kp, M.k, M.fz, M.cs, M.rg, 0), rfl, (Or.inl ⟨by show (_ ∧ _) ∧ _ ∧ _; omega, by rw [← hw]; rfl, rfl⟩), by rw [htz]; exact hP9, hD9⟩, hS.F htz⟩) hS.2.2 dX4_at_108
              · refine lv_tableIn (tgt := 109) hx hb dX4_at_48 (by decide) (by decide) rfl (by decide) ?_
                refine lv_aload_n hx hb dX4_at_109 rfl (lv_at hl 0 rfl) ?_
                refine va_get (D := gD g) (ci := 6) (v := .ref (a 6)) (C := RX4) (T := TX4) (N := 18) hx hb hts (by decide +kernel) hown hK.1 hP 0 rfl rfl 7 (by decide) (hts (.fieldLink RX4 26 "LogForwardModel" "befores" "[J") (by decide +kernel)) (fun _ h9 => h9) rfl dX4_at_110 ?_
                refine lv_iload_n hx hb dX4_at_113 rfl (lv_at hl 1 rfl) ?_
                refine ga_lald (v := (M.S.bf p1.toNatClampNeg)) hx hb hK.1 hP 6 1 rfl rfl (v_nI (by omega) (by omega)) (by rw [(c_nI (by omega))]) dX4_at_114 ?_
                refine lv_l2i (v := (((M.S.bf p1.toNatClampNeg)).toInt32)) hx hb dX4_at_115 (rfl) ?_
                have hP9 : va_P (gD g) vwCl (wM g a (M.S, M.st, M.en, M.sp, M.kp, M.k, M.fz, M.cs, M.rg, 0)) H := hP
                have hD9 : va_D A (wM g a (M.S, M.st, M.en, M.sp, M.kp, M.k, M.fz, M.cs, M.rg, 0)) := hD
                exact W.iret (v := (((M.S.bf p1.toNatClampNeg)).toInt32)) hx hb hr (fun tz htz hWz => ⟨⟨(((M.S.bf p1.toNatClampNeg)).toInt32), (M.S, M.st, M.en, M.sp, M.kp, M.k, M.fz, M.cs, M.rg, 0), rfl, (Or.inl ⟨by show (_ ∧ _) ∧ _ ∧ _; omega, by rw [← hw]; rfl, rfl⟩), by rw [htz]; exact hP9, hD9⟩, hS.F htz⟩) hS.2.2 dX4_at_116
              · refine lv_tableIn (tgt := 117) hx hb dX4_at_48 (by decide) (by decide) rfl (by decide) ?_
                refine lv_aload_n hx hb dX4_at_117 rfl (lv_at hl 0 rfl) ?_
                refine va_get (D := gD g) (ci := 6) (v := .ref (a 7)) (C := RX4) (T := TX4) (N := 18) hx hb hts (by decide +kernel) hown hK.1 hP 0 rfl rfl 8 (by decide) (hts (.fieldLink RX4 29 "LogForwardModel" "afters" "[J") (by decide +kernel)) (fun _ h9 => h9) rfl dX4_at_118 ?_
                refine lv_iload_n hx hb dX4_at_121 rfl (lv_at hl 1 rfl) ?_
                refine ga_lald (v := (M.S.af p1.toNatClampNeg)) hx hb hK.1 hP 7 1 rfl rfl (v_nI (by omega) (by omega)) (by rw [(c_nI (by omega))]) dX4_at_122 ?_
                refine lv_l2i (v := (((M.S.af p1.toNatClampNeg)).toInt32)) hx hb dX4_at_123 (rfl) ?_
                have hP9 : va_P (gD g) vwCl (wM g a (M.S, M.st, M.en, M.sp, M.kp, M.k, M.fz, M.cs, M.rg, 0)) H := hP
                have hD9 : va_D A (wM g a (M.S, M.st, M.en, M.sp, M.kp, M.k, M.fz, M.cs, M.rg, 0)) := hD
                exact W.iret (v := (((M.S.af p1.toNatClampNeg)).toInt32)) hx hb hr (fun tz htz hWz => ⟨⟨(((M.S.af p1.toNatClampNeg)).toInt32), (M.S, M.st, M.en, M.sp, M.kp, M.k, M.fz, M.cs, M.rg, 0), rfl, (Or.inl ⟨by show (_ ∧ _) ∧ _ ∧ _; omega, by rw [← hw]; rfl, rfl⟩), by rw [htz]; exact hP9, hD9⟩, hS.F htz⟩) hS.2.2 dX4_at_124
              · refine lv_tableIn (tgt := 125) hx hb dX4_at_48 (by decide) (by decide) rfl (by decide) ?_
                refine lv_aload_n hx hb dX4_at_125 rfl (lv_at hl 0 rfl) ?_
                refine va_get (D := gD g) (ci := 6) (v := .ref (a 5)) (C := RX4) (T := TX4) (N := 18) hx hb hts (by decide +kernel) hown hK.1 hP 0 rfl rfl 6 (by decide) (hts (.fieldLink RX4 23 "LogForwardModel" "torn" "[I") (by decide +kernel)) (fun _ h9 => h9) rfl dX4_at_126 ?_
                refine lv_iload_n hx hb dX4_at_129 rfl (lv_at hl 1 rfl) ?_
                refine ga_iald (v := (M.S.tn p1.toNatClampNeg)) hx hb hK.1 hP 5 0 rfl rfl (v_nI (by omega) (by omega)) (by rw [(c_nI (by omega))]) dX4_at_130 ?_
                have hP9 : va_P (gD g) vwCl (wM g a (M.S, M.st, M.en, M.sp, M.kp, M.k, M.fz, M.cs, M.rg, 0)) H := hP
                have hD9 : va_D A (wM g a (M.S, M.st, M.en, M.sp, M.kp, M.k, M.fz, M.cs, M.rg, 0)) := hD
                exact W.iret (v := (M.S.tn p1.toNatClampNeg)) hx hb hr (fun tz htz hWz => ⟨⟨(M.S.tn p1.toNatClampNeg), (M.S, M.st, M.en, M.sp, M.kp, M.k, M.fz, M.cs, M.rg, 0), rfl, (Or.inl ⟨by show (_ ∧ _) ∧ _ ∧ _; omega, by rw [← hw]; rfl, rfl⟩), by rw [htz]; exact hP9, hD9⟩, hS.F htz⟩) hS.2.2 dX4_at_131
              · refine lv_tableOut (tgt := 132) hx hb dX4_at_48 (by decide) (by decide) ?_
                refine lv_aload_n hx hb dX4_at_132 rfl (lv_at hl 0 rfl) ?_
                refine va_get (D := gD g) (ci := 6) (v := .ref (a 8)) (C := RX4) (T := TX4) (N := 18) hx hb hts (by decide +kernel) hown hK.1 hP 0 rfl rfl 9 (by decide) (hts (.fieldLink RX4 32 "LogForwardModel" "back" "[Z") (by decide +kernel)) (fun _ h9 => h9) rfl dX4_at_133 ?_
                refine lv_iload_n hx hb dX4_at_136 rfl (lv_at hl 1 rfl) ?_
                refine ga_zald (v := (M.S.bk p1.toNatClampNeg)) hx hb hK.1 hP 8 2 rfl rfl (v_nI (by omega) (by omega)) (by rw [(c_nI (by omega))]) dX4_at_137 ?_
                refine lv_if_eq (tgt := 145) hx hb dX4_at_138 (by decide) (fun c_138_8 => ?_) (fun c_138_8 => ?_)
                · have i_138 : ((M.S.bk p1.toNatClampNeg).toInt : Int) = 0 := q_eq c_138_8 rfl rfl
                  refine lv_iconst (v := 0) hx hb dX4_at_145 (by decide) ?_
                  have hP9 : va_P (gD g) vwCl (wM g a (M.S, M.st, M.en, M.sp, M.kp, M.k, M.fz, M.cs, M.rg, 0)) H := hP
                  have hD9 : va_D A (wM g a (M.S, M.st, M.en, M.sp, M.kp, M.k, M.fz, M.cs, M.rg, 0)) := hD
                  exact W.iret (v := 0) hx hb hr (fun tz htz hWz => ⟨⟨0, (M.S, M.st, M.en, M.sp, M.kp, M.k, M.fz, M.cs, M.rg, 0), rfl, (Or.inl ⟨by show (_ ∧ _) ∧ _ ∧ _; omega, by rw [← hw]; show _ = bI (¬ M.S.bk p1.toNatClampNeg = 0); exact bI_0 (by exact fun z => z (by assumption)), rfl⟩), by rw [htz]; exact hP9, hD9⟩, hS.F htz⟩) hS.2.2 dX4_at_146
                · have i_138 : ((M.S.bk p1.toNatClampNeg).toInt : Int) ≠ 0 := q_ne c_138_8 rfl rfl
                  refine lv_iconst (v := 1) hx hb dX4_at_141 (by decide) ?_
                  refine lv_goto (tgt := 146) hx hb dX4_at_142 (by decide) ?_
                  have hP9 : va_P (gD g) vwCl (wM g a (M.S, M.st, M.en, M.sp, M.kp, M.k, M.fz, M.cs, M.rg, 0)) H := hP
                  have hD9 : va_D A (wM g a (M.S, M.st, M.en, M.sp, M.kp, M.k, M.fz, M.cs, M.rg, 0)) := hD
                  exact W.iret (v := 1) hx hb hr (fun tz htz hWz => ⟨⟨1, (M.S, M.st, M.en, M.sp, M.kp, M.k, M.fz, M.cs, M.rg, 0), rfl, (Or.inl ⟨by show (_ ∧ _) ∧ _ ∧ _; omega, by rw [← hw]; show _ = bI (¬ M.S.bk p1.toNatClampNeg = 0); exact bI_1 (by assumption), rfl⟩), by rw [htz]; exact hP9, hD9⟩, hS.F htz⟩) hS.2.2 dX4_at_146
            · exact absurd c_42_6 (by decide)
set_option maxHeartbeats 4000000 in
set_option maxRecDepth 100000 in
theorem c_X4_warm (l : Launch) (g : GG) (a : Nat → Nat) (M : MS) (sz : Nat) (hn : M.S.n ≤ 2000) : Met l yX4_warm wsX4_warm { frames := 2, cells := 0, slots := 0, locals := 45 } (va_Pc [.ref (a 0)] (Pw g (wM g a M) sz)) (va_Qi (fun rv u => rv = nI (woF (mC M 0).S 60) ∧ u = mC M 0) (Bw g (va_A (wM g a M) sz) (fun u : MS => wM g a u)) (va_A (wM g a M) sz)) 0 0 (va_A (wM g a M) sz) := by
  refine Met.ofW (cc := cX4_warm) (maxL := 3) (ret := (some .int)) (by decide) rfl ?_
  intro p e s m args below meth c s₁ B hml hv
  obtain ⟨rfl, hsz, hP, hK, hD0⟩ := hv
  have hx := B.exec
  have hb := B.bytes
  have hr := B.returns
  have hts := atoms_spec (ws := wsX4_warm) B.pre
  have hown : s.vm.findClass RX4 = some m.cls := findClass_of_methodNamed B.named
  have hlocks := B.notSynchronized
  subst hsz
  have hD := hD0.self (sz := s.heap.size)
  generalize hAe : va_A (wM g a M) s.heap.size = A at hD ⊢
  have hA : ∀ q : Nat, s.heap.size ≤ q → A q := fun q h => by rw [← hAe]; exact Or.inr h
  have hS : va_S A s.heap s.heap [] := va_S.rf
  have hl := lv_entry ([.ref (a 0)]) (n := 3) (Nat.le_of_ble_eq_true rfl)
  rw [lg_entry_eq]
  generalize (lg_sl ([.ref (a 0)]) ++ List.replicate (3 - (lg_sl ([.ref (a 0)])).length) Slot.unset).toArray = ls at hl ⊢
  have hl : lv_has ls 3 [(0, .ref (a 0))] := hl
  replace hP : va_P (gD g) vwCl ([((a 0), .inr (6, [.int M.cd, .int (nI (M.rg)), .ref (a 1), .ref (a 2), .ref (a 3), .ref (a 4), .ref (a 5), .ref (a 6), .ref (a 7), .ref (a 8), .int (nI (M.S.n)), .int (nI (M.S.ar)), .int (nI (M.k)), .int (nI (M.fz)), .ref (a 9), .ref (a 10), .ref (a 11), .ref (a 12)])), ((a 1), .inl (gJ g, 32, .inr (.inl M.cs))), ((a 2), .inl (gI g, 2001, .inl M.S.kd)), ((a 3), .inl (gI g, 2001, .inl M.S.un)), ((a 4), .inl (gI g, 2001, .inl M.S.ce)), ((a 5), .inl (gI g, 2001, .inl M.S.tn)), ((a 6), .inl (gJ g, 2001, .inr (.inl M.S.bf))), ((a 7), .inl (gJ g, 2001, .inr (.inl M.S.af))), ((a 8), .inl (gZ g, 2001, .inl M.S.bk)), ((a 9), .inl (gJ g, 672, .inr (.inl M.kp))), ((a 10), .inl (gI g, 21, .inl M.st)), ((a 11), .inl (gI g, 21, .inl M.en)), ((a 12), .inl (gZ g, 21, .inl M.sp))]) s.heap := hP
  replace hD : va_D A ([((a 0), .inr (6, [.int M.cd, .int (nI (M.rg)), .ref (a 1), .ref (a 2), .ref (a 3), .ref (a 4), .ref (a 5), .ref (a 6), .ref (a 7), .ref (a 8), .int (nI (M.S.n)), .int (nI (M.S.ar)), .int (nI (M.k)), .int (nI (M.fz)), .ref (a 9), .ref (a 10), .ref (a 11), .ref (a 12)])), ((a 1), .inl (gJ g, 32, .inr (.inl M.cs))), ((a 2), .inl (gI g, 2001, .inl M.S.kd)), ((a 3), .inl (gI g, 2001, .inl M.S.un)), ((a 4), .inl (gI g, 2001, .inl M.S.ce)), ((a 5), .inl (gI g, 2001, .inl M.S.tn)), ((a 6), .inl (gJ g, 2001, .inr (.inl M.S.bf))), ((a 7), .inl (gJ g, 2001, .inr (.inl M.S.af))), ((a 8), .inl (gZ g, 2001, .inl M.S.bk)), ((a 9), .inl (gJ g, 672, .inr (.inl M.kp))), ((a 10), .inl (gI g, 21, .inl M.st)), ((a 11), .inl (gI g, 21, .inl M.en)), ((a 12), .inl (gZ g, 21, .inl M.sp))]) := hD
  refine lv_aload_n hx hb dX4_warm_0 rfl (lv_at hl 0 rfl) ?_
  refine lv_iconst (v := 0) hx hb dX4_warm_1 (by decide) ?_
  refine va_put (D := gD g) (ci := 6) (v := .int 0) (ty := .int) (C := RX4) (T := TX4) (N := 18) hx hb hts (by decide +kernel) tyX4 tyX4_ok nmX4 hown hK.1 hP hD hS 0 rfl rfl 0 (by decide) (hts (.fieldLink RX4 52 "LogForwardModel" "code" "I") (by decide +kernel)) (fun _ h9 => h9) rfl (by decide +kernel) rfl rfl (Nat.le_of_ble_eq_true rfl) dX4_warm_2 (fun H locs hP hD hS => ?_)
  have hP : va_P (gD g) vwCl ([((a 0), .inr (6, [.int 0, .int (nI (M.rg)), .ref (a 1), .ref (a 2), .ref (a 3), .ref (a 4), .ref (a 5), .ref (a 6), .ref (a 7), .ref (a 8), .int (nI (M.S.n)), .int (nI (M.S.ar)), .int (nI (M.k)), .int (nI (M.fz)), .ref (a 9), .ref (a 10), .ref (a 11), .ref (a 12)])), ((a 1), .inl (gJ g, 32, .inr (.inl M.cs))), ((a 2), .inl (gI g, 2001, .inl M.S.kd)), ((a 3), .inl (gI g, 2001, .inl M.S.un)), ((a 4), .inl (gI g, 2001, .inl M.S.ce)), ((a 5), .inl (gI g, 2001, .inl M.S.tn)), ((a 6), .inl (gJ g, 2001, .inr (.inl M.S.bf))), ((a 7), .inl (gJ g, 2001, .inr (.inl M.S.af))), ((a 8), .inl (gZ g, 2001, .inl M.S.bk)), ((a 9), .inl (gJ g, 672, .inr (.inl M.kp))), ((a 10), .inl (gI g, 21, .inl M.st)), ((a 11), .inl (gI g, 21, .inl M.en)), ((a 12), .inl (gZ g, 21, .inl M.sp))]) H := hP
  have hD : va_D A ([((a 0), .inr (6, [.int 0, .int (nI (M.rg)), .ref (a 1), .ref (a 2), .ref (a 3), .ref (a 4), .ref (a 5), .ref (a 6), .ref (a 7), .ref (a 8), .int (nI (M.S.n)), .int (nI (M.S.ar)), .int (nI (M.k)), .int (nI (M.fz)), .ref (a 9), .ref (a 10), .ref (a 11), .ref (a 12)])), ((a 1), .inl (gJ g, 32, .inr (.inl M.cs))), ((a 2), .inl (gI g, 2001, .inl M.S.kd)), ((a 3), .inl (gI g, 2001, .inl M.S.un)), ((a 4), .inl (gI g, 2001, .inl M.S.ce)), ((a 5), .inl (gI g, 2001, .inl M.S.tn)), ((a 6), .inl (gJ g, 2001, .inr (.inl M.S.bf))), ((a 7), .inl (gJ g, 2001, .inr (.inl M.S.af))), ((a 8), .inl (gZ g, 2001, .inl M.S.bk)), ((a 9), .inl (gJ g, 672, .inr (.inl M.kp))), ((a 10), .inl (gI g, 21, .inl M.st)), ((a 11), .inl (gI g, 21, .inl M.en)), ((a 12), .inl (gZ g, 21, .inl M.sp))]) := hD
  obtain ⟨M0, hM0⟩ : ∃ M0 : MS, M0 = mC M 0 := ⟨_, rfl⟩
  replace hP : va_P (gD g) vwCl ([((a 0), .inr (6, [.int M0.cd, .int (nI (M0.rg)), .ref (a 1), .ref (a 2), .ref (a 3), .ref (a 4), .ref (a 5), .ref (a 6), .ref (a 7), .ref (a 8), .int (nI (M0.S.n)), .int (nI (M0.S.ar)), .int (nI (M0.k)), .int (nI (M0.fz)), .ref (a 9), .ref (a 10), .ref (a 11), .ref (a 12)])), ((a 1), .inl (gJ g, 32, .inr (.inl M0.cs))), ((a 2), .inl (gI g, 2001, .inl M0.S.kd)), ((a 3), .inl (gI g, 2001, .inl M0.S.un)), ((a 4), .inl (gI g, 2001, .inl M0.S.ce)), ((a 5), .inl (gI g, 2001, .inl M0.S.tn)), ((a 6), .inl (gJ g, 2001, .inr (.inl M0.S.bf))), ((a 7), .inl (gJ g, 2001, .inr (.inl M0.S.af))), ((a 8), .inl (gZ g, 2001, .inl M0.S.bk)), ((a 9), .inl (gJ g, 672, .inr (.inl M0.kp))), ((a 10), .inl (gI g, 21, .inl M0.st)), ((a 11), .inl (gI g, 21, .inl M0.en)), ((a 12), .inl (gZ g, 21, .inl M0.sp))]) H := by rw [hM0]; exact hP
  replace hD : va_D A ([((a 0), .inr (6, [.int M0.cd, .int (nI (M0.rg)), .ref (a 1), .ref (a 2), .ref (a 3), .ref (a 4), .ref (a 5), .ref (a 6), .ref (a 7), .ref (a 8), .int (nI (M0.S.n)), .int (nI (M0.S.ar)), .int (nI (M0.k)), .int (nI (M0.fz)), .ref (a 9), .ref (a 10), .ref (a 11), .ref (a 12)])), ((a 1), .inl (gJ g, 32, .inr (.inl M0.cs))), ((a 2), .inl (gI g, 2001, .inl M0.S.kd)), ((a 3), .inl (gI g, 2001, .inl M0.S.un)), ((a 4), .inl (gI g, 2001, .inl M0.S.ce)), ((a 5), .inl (gI g, 2001, .inl M0.S.tn)), ((a 6), .inl (gJ g, 2001, .inr (.inl M0.S.bf))), ((a 7), .inl (gJ g, 2001, .inr (.inl M0.S.af))), ((a 8), .inl (gZ g, 2001, .inl M0.S.bk)), ((a 9), .inl (gJ g, 672, .inr (.inl M0.kp))), ((a 10), .inl (gI g, 21, .inl M0.st)), ((a 11), .inl (gI g, 21, .inl M0.en)), ((a 12), .inl (gZ g, 21, .inl M0.sp))]) := by rw [hM0]; exact hD
  have hn : M0.S.n ≤ 2000 := by rw [hM0]; exact hn
  refine lv_iconst (v := 0) hx hb dX4_warm_5 (by decide) ?_
  refine lv_istore_n (lv' := [(1, .int 0), (0, .ref (a 0))]) hx hb dX4_warm_6 rfl hl (by decide) rfl (fun ls hl => ?_)
  refine lv_iconst (v := 1) hx hb dX4_warm_7 (by decide) ?_
  refine lv_istore_n (lv' := [(2, .int 1), (1, .int 0), (0, .ref (a 0))]) hx hb dX4_warm_8 rfl hl (by decide) rfl (fun ls hl => ?_)
  obtain ⟨i, hi⟩ : ∃ i : Nat, i = 1 := ⟨_, rfl⟩
  replace hl : lv_has ls 3 [(0, .ref (a 0)), (1, .int (nI (woF M0.S (i - 1)))), (2, .int (nI (i)))] := by subst hi; exact lv_sub hl [2, 1, 0] rfl
  have hi1 : 1 ≤ i := by omega
  have hi2 : i ≤ 60 + 1 := by omega
  clear hi
  obtain ⟨d, hd⟩ : ∃ d, 60 + 1 - i = d := ⟨_, rfl⟩
  induction d using Nat.strongRecOn generalizing i ls with
  | ind d ih =>
    refine lv_iload_n hx hb dX4_warm_9 rfl (lv_at hl 2 rfl) ?_
    refine lv_bipush (v := 60) hx hb dX4_warm_10 (by decide) ?_
    refine lv_icmp_gt (tgt := 37) hx hb dX4_warm_12 (by decide) (fun c_12_2 => ?_) (fun c_12_2 => ?_)
    · have i_12 : (60 : Int) < ((i : Nat) : Int) := q_lt c_12_2 rfl (l_nI (by omega))
      refine lv_iload_n hx hb dX4_warm_37 rfl (lv_at hl 1 rfl) ?_
      have hP9 : va_P (gD g) vwCl (wM g a M0) H := hP
      have hD9 : va_D A (wM g a M0) := hD
      exact W.iret (v := (nI (woF M0.S (i - 1)))) hx hb hr (fun tz htz hWz => ⟨⟨(nI (woF M0.S (i - 1))), M0, rfl, (by rw [← hM0]; exact ⟨by rw [show i - 1 = 60 by omega], rfl⟩), by rw [htz]; exact hP9, hD9⟩, hS.F htz⟩) hS.2.2 dX4_warm_38
    · have i_12 : (((i : Nat) : Int) : Int) ≤ 60 := q_nlt c_12_2 rfl (l_nI (by omega))
      refine lv_iload_n hx hb dX4_warm_15 rfl (lv_at hl 1 rfl) ?_
      refine lv_aload_n hx hb dX4_warm_16 rfl (lv_at hl 0 rfl) ?_
      refine lv_iload_n hx hb dX4_warm_17 rfl (lv_at hl 2 rfl) ?_
      refine vp_callSi (va_Run.run (va_runV (As := [.int (nI (i))]) (rest := [.int (nI (woF M0.S (i - 1)))]) ⟨hx, hb, hml, hown, hts⟩ (c_X4_isOpen l g a M0 (nI (i)) (by omega)) (cwV 1 hts gX4_warm_X4_isOpen rfl rfl rfl (by decide +kernel) ⟨Nat.le_of_ble_eq_true rfl, Nat.le_of_ble_eq_true rfl⟩) (pv_r hK hP (ci := 6) (q0 := 0) rfl rfl [0, 1, 2, 3, 4, 5, 6, 7, 8, 9, 10, 11, 12] rfl) rfl rfl hl.1 rfl (lv_room (Nat.le_of_ble_eq_true rfl)) dX4_warm_18 ⟨Nat.zero_le _, Nat.zero_le _⟩)) (fun r_18_3 h_18_3 => ?_)
      refine lv_if_eq (tgt := 28) hx hb dX4_warm_21 (by decide) (fun c_21_3 => ?_) (fun c_21_3 => ?_)
      · have b_21 : ¬ (stO M0.S (nI (i)) M0.S.n = 1) := bI_f h_18_3 c_21_3
        refine lv_iconst (v := 0) hx hb dX4_warm_28 (by decide) ?_
        refine ga_iadd (v := (nI (woF M0.S (i - 1)))) hx hb (Int32.add_zero _) dX4_warm_29 ?_
        refine lv_istore_n (lv' := [(1, .int (nI (woF M0.S (i - 1)))), (0, .ref (a 0)), (2, .int (nI (i)))]) hx hb dX4_warm_30 rfl hl (by decide) rfl (fun ls hl => ?_)
        refine lv_iinc (v := (nI (i + 1))) (lv' := [(2, .int (nI (i + 1))), (1, .int (nI (woF M0.S (i - 1)))), (0, .ref (a 0))]) hx hb dX4_warm_31 hl (k := 2) rfl (nI_1 _) (by decide) rfl (fun ls hl => ?_)
        refine lv_goto (tgt := 9) hx hb dX4_warm_34 (by decide) ?_
        exact ih (60 + 1 - (i + 1)) (by omega) ls (i + 1) (by rw [Nat.add_sub_cancel]; rw [show woF M0.S i = woF M0.S (i - 1) from by obtain ⟨j, rfl⟩ : ∃ j, i = j + 1 := ⟨i - 1, by omega⟩; simp only [woF, Nat.add_sub_cancel]; first | rw [if_pos (by assumption)] | rw [if_neg (by assumption)]]; exact lv_sub hl [2, 1, 0] rfl) (by omega) (by omega) rfl
      · have b_21 : stO M0.S (nI (i)) M0.S.n = 1 := bI_t h_18_3 c_21_3
        refine lv_iconst (v := 1) hx hb dX4_warm_24 (by decide) ?_
        refine lv_goto (tgt := 29) hx hb dX4_warm_25 (by decide) ?_
        refine ga_iadd (v := (nI (woF M0.S (i - 1) + 1))) hx hb (nI_1 _) dX4_warm_29 ?_
        refine lv_istore_n (lv' := [(1, .int (nI (woF M0.S (i - 1) + 1))), (0, .ref (a 0)), (2, .int (nI (i)))]) hx hb dX4_warm_30 rfl hl (by decide) rfl (fun ls hl => ?_)
        refine lv_iinc (v := (nI (i + 1))) (lv' := [(2, .int (nI (i + 1))), (1, .int (nI (woF M0.S (i - 1) + 1))), (0, .ref (a 0))]) hx hb dX4_warm_31 hl (k := 2) rfl (nI_1 _) (by decide) rfl (fun ls hl => ?_)
        refine lv_goto (tgt := 9) hx hb dX4_warm_34 (by decide) ?_
        exact ih (60 + 1 - (i + 1)) (by omega) ls (i + 1) (by rw [Nat.add_sub_cancel]; rw [show woF M0.S i = woF M0.S (i - 1) + 1 from by obtain ⟨j, rfl⟩ : ∃ j, i = j + 1 := ⟨i - 1, by omega⟩; simp only [woF, Nat.add_sub_cancel]; first | rw [if_pos (by assumption)] | rw [if_neg (by assumption)]]; exact lv_sub hl [2, 1, 0] rfl) (by omega) (by omega) rfl
set_option maxHeartbeats 4000000 in
set_option maxRecDepth 100000 in
theorem c_X4_count (l : Launch) (g : GG) (a : Nat → Nat) (M : MS) (sz : Nat) (p1 : Int32) (hn : M.S.n ≤ 2000) : Met l yX4_count wsX4_count { frames := 1, cells := 0, slots := 0, locals := 22 } (va_Pc [.ref (a 0), .int p1] (Pw g (wM g a M) sz)) (va_Qi (fun rv u => rv = coM (mC M 0) p1 ∧ u = mC M 0) (Bw g (va_A (wM g a M) sz) (fun u : MS => wM g a u)) (va_A (wM g a M) sz)) 0 0 (va_A (wM g a M) sz) := by
  refine Met.ofW (cc := cX4_count) (maxL := 2) (ret := (some .int)) (by decide) rfl ?_
  intro p e s m args below meth c s₁ B hml hv
  obtain ⟨rfl, hsz, hP, hK, hD0⟩ := hv
  have hx := B.exec
  have hb := B.bytes
  have hr := B.returns
  have hts := atoms_spec (ws := wsX4_count) B.pre
  have hown : s.vm.findClass RX4 = some m.cls := findClass_of_methodNamed B.named
  have hlocks := B.notSynchronized
  subst hsz
  have hD := hD0.self (sz := s.heap.size)
  generalize hAe : va_A (wM g a M) s.heap.size = A at hD ⊢
  have hA : ∀ q : Nat, s.heap.size ≤ q → A q := fun q h => by rw [← hAe]; exact Or.inr h
  have hS : va_S A s.heap s.heap [] := va_S.rf
  have hl := lv_entry ([.ref (a 0), .int p1]) (n := 2) (Nat.le_of_ble_eq_true rfl)
  rw [lg_entry_eq]
  generalize (lg_sl ([.ref (a 0), .int p1]) ++ List.replicate (2 - (lg_sl ([.ref (a 0), .int p1])).length) Slot.unset).toArray = ls at hl ⊢
  have hl : lv_has ls 2 [(0, .ref (a 0)), (1, .int p1)] := hl
  replace hP : va_P (gD g) vwCl ([((a 0), .inr (6, [.int M.cd, .int (nI (M.rg)), .ref (a 1), .ref (a 2), .ref (a 3), .ref (a 4), .ref (a 5), .ref (a 6), .ref (a 7), .ref (a 8), .int (nI (M.S.n)), .int (nI (M.S.ar)), .int (nI (M.k)), .int (nI (M.fz)), .ref (a 9), .ref (a 10), .ref (a 11), .ref (a 12)])), ((a 1), .inl (gJ g, 32, .inr (.inl M.cs))), ((a 2), .inl (gI g, 2001, .inl M.S.kd)), ((a 3), .inl (gI g, 2001, .inl M.S.un)), ((a 4), .inl (gI g, 2001, .inl M.S.ce)), ((a 5), .inl (gI g, 2001, .inl M.S.tn)), ((a 6), .inl (gJ g, 2001, .inr (.inl M.S.bf))), ((a 7), .inl (gJ g, 2001, .inr (.inl M.S.af))), ((a 8), .inl (gZ g, 2001, .inl M.S.bk)), ((a 9), .inl (gJ g, 672, .inr (.inl M.kp))), ((a 10), .inl (gI g, 21, .inl M.st)), ((a 11), .inl (gI g, 21, .inl M.en)), ((a 12), .inl (gZ g, 21, .inl M.sp))]) s.heap := hP
  replace hD : va_D A ([((a 0), .inr (6, [.int M.cd, .int (nI (M.rg)), .ref (a 1), .ref (a 2), .ref (a 3), .ref (a 4), .ref (a 5), .ref (a 6), .ref (a 7), .ref (a 8), .int (nI (M.S.n)), .int (nI (M.S.ar)), .int (nI (M.k)), .int (nI (M.fz)), .ref (a 9), .ref (a 10), .ref (a 11), .ref (a 12)])), ((a 1), .inl (gJ g, 32, .inr (.inl M.cs))), ((a 2), .inl (gI g, 2001, .inl M.S.kd)), ((a 3), .inl (gI g, 2001, .inl M.S.un)), ((a 4), .inl (gI g, 2001, .inl M.S.ce)), ((a 5), .inl (gI g, 2001, .inl M.S.tn)), ((a 6), .inl (gJ g, 2001, .inr (.inl M.S.bf))), ((a 7), .inl (gJ g, 2001, .inr (.inl M.S.af))), ((a 8), .inl (gZ g, 2001, .inl M.S.bk)), ((a 9), .inl (gJ g, 672, .inr (.inl M.kp))), ((a 10), .inl (gI g, 21, .inl M.st)), ((a 11), .inl (gI g, 21, .inl M.en)), ((a 12), .inl (gZ g, 21, .inl M.sp))]) := hD
  refine lv_aload_n hx hb dX4_count_0 rfl (lv_at hl 0 rfl) ?_
  refine lv_iconst (v := 0) hx hb dX4_count_1 (by decide) ?_
  refine va_put (D := gD g) (ci := 6) (v := .int 0) (ty := .int) (C := RX4) (T := TX4) (N := 18) hx hb hts (by decide +kernel) tyX4 tyX4_ok nmX4 hown hK.1 hP hD hS 0 rfl rfl 0 (by decide) (hts (.fieldLink RX4 52 "LogForwardModel" "code" "I") (by decide +kernel)) (fun _ h9 => h9) rfl (by decide +kernel) rfl rfl (Nat.le_of_ble_eq_true rfl) dX4_count_2 (fun H locs hP hD hS => ?_)
  have hP : va_P (gD g) vwCl ([((a 0), .inr (6, [.int 0, .int (nI (M.rg)), .ref (a 1), .ref (a 2), .ref (a 3), .ref (a 4), .ref (a 5), .ref (a 6), .ref (a 7), .ref (a 8), .int (nI (M.S.n)), .int (nI (M.S.ar)), .int (nI (M.k)), .int (nI (M.fz)), .ref (a 9), .ref (a 10), .ref (a 11), .ref (a 12)])), ((a 1), .inl (gJ g, 32, .inr (.inl M.cs))), ((a 2), .inl (gI g, 2001, .inl M.S.kd)), ((a 3), .inl (gI g, 2001, .inl M.S.un)), ((a 4), .inl (gI g, 2001, .inl M.S.ce)), ((a 5), .inl (gI g, 2001, .inl M.S.tn)), ((a 6), .inl (gJ g, 2001, .inr (.inl M.S.bf))), ((a 7), .inl (gJ g, 2001, .inr (.inl M.S.af))), ((a 8), .inl (gZ g, 2001, .inl M.S.bk)), ((a 9), .inl (gJ g, 672, .inr (.inl M.kp))), ((a 10), .inl (gI g, 21, .inl M.st)), ((a 11), .inl (gI g, 21, .inl M.en)), ((a 12), .inl (gZ g, 21, .inl M.sp))]) H := hP
  have hD : va_D A ([((a 0), .inr (6, [.int 0, .int (nI (M.rg)), .ref (a 1), .ref (a 2), .ref (a 3), .ref (a 4), .ref (a 5), .ref (a 6), .ref (a 7), .ref (a 8), .int (nI (M.S.n)), .int (nI (M.S.ar)), .int (nI (M.k)), .int (nI (M.fz)), .ref (a 9), .ref (a 10), .ref (a 11), .ref (a 12)])), ((a 1), .inl (gJ g, 32, .inr (.inl M.cs))), ((a 2), .inl (gI g, 2001, .inl M.S.kd)), ((a 3), .inl (gI g, 2001, .inl M.S.un)), ((a 4), .inl (gI g, 2001, .inl M.S.ce)), ((a 5), .inl (gI g, 2001, .inl M.S.tn)), ((a 6), .inl (gJ g, 2001, .inr (.inl M.S.bf))), ((a 7), .inl (gJ g, 2001, .inr (.inl M.S.af))), ((a 8), .inl (gZ g, 2001, .inl M.S.bk)), ((a 9), .inl (gJ g, 672, .inr (.inl M.kp))), ((a 10), .inl (gI g, 21, .inl M.st)), ((a 11), .inl (gI g, 21, .inl M.en)), ((a 12), .inl (gZ g, 21, .inl M.sp))]) := hD
  obtain ⟨M0, hM0⟩ : ∃ M0 : MS, M0 = mC M 0 := ⟨_, rfl⟩
  replace hP : va_P (gD g) vwCl ([((a 0), .inr (6, [.int M0.cd, .int (nI (M0.rg)), .ref (a 1), .ref (a 2), .ref (a 3), .ref (a 4), .ref (a 5), .ref (a 6), .ref (a 7), .ref (a 8), .int (nI (M0.S.n)), .int (nI (M0.S.ar)), .int (nI (M0.k)), .int (nI (M0.fz)), .ref (a 9), .ref (a 10), .ref (a 11), .ref (a 12)])), ((a 1), .inl (gJ g, 32, .inr (.inl M0.cs))), ((a 2), .inl (gI g, 2001, .inl M0.S.kd)), ((a 3), .inl (gI g, 2001, .inl M0.S.un)), ((a 4), .inl (gI g, 2001, .inl M0.S.ce)), ((a 5), .inl (gI g, 2001, .inl M0.S.tn)), ((a 6), .inl (gJ g, 2001, .inr (.inl M0.S.bf))), ((a 7), .inl (gJ g, 2001, .inr (.inl M0.S.af))), ((a 8), .inl (gZ g, 2001, .inl M0.S.bk)), ((a 9), .inl (gJ g, 672, .inr (.inl M0.kp))), ((a 10), .inl (gI g, 21, .inl M0.st)), ((a 11), .inl (gI g, 21, .inl M0.en)), ((a 12), .inl (gZ g, 21, .inl M0.sp))]) H := by rw [hM0]; exact hP
  replace hD : va_D A ([((a 0), .inr (6, [.int M0.cd, .int (nI (M0.rg)), .ref (a 1), .ref (a 2), .ref (a 3), .ref (a 4), .ref (a 5), .ref (a 6), .ref (a 7), .ref (a 8), .int (nI (M0.S.n)), .int (nI (M0.S.ar)), .int (nI (M0.k)), .int (nI (M0.fz)), .ref (a 9), .ref (a 10), .ref (a 11), .ref (a 12)])), ((a 1), .inl (gJ g, 32, .inr (.inl M0.cs))), ((a 2), .inl (gI g, 2001, .inl M0.S.kd)), ((a 3), .inl (gI g, 2001, .inl M0.S.un)), ((a 4), .inl (gI g, 2001, .inl M0.S.ce)), ((a 5), .inl (gI g, 2001, .inl M0.S.tn)), ((a 6), .inl (gJ g, 2001, .inr (.inl M0.S.bf))), ((a 7), .inl (gJ g, 2001, .inr (.inl M0.S.af))), ((a 8), .inl (gZ g, 2001, .inl M0.S.bk)), ((a 9), .inl (gJ g, 672, .inr (.inl M0.kp))), ((a 10), .inl (gI g, 21, .inl M0.st)), ((a 11), .inl (gI g, 21, .inl M0.en)), ((a 12), .inl (gZ g, 21, .inl M0.sp))]) := by rw [hM0]; exact hD
  have hn : M0.S.n ≤ 2000 := by rw [hM0]; exact hn
  refine lv_iload_n hx hb dX4_count_5 rfl (lv_at hl 1 rfl) ?_
  refine lv_if_ne (tgt := 16) hx hb dX4_count_6 (by decide) (fun c_6_1 => ?_) (fun c_6_1 => ?_)
  · have i_6 : (p1.toInt : Int) ≠ 0 := q_ne c_6_1 rfl rfl
    refine lv_iload_n hx hb dX4_count_16 rfl (lv_at hl 1 rfl) ?_
    refine lv_iconst (v := 1) hx hb dX4_count_17 (by decide) ?_
    refine lv_icmp_ne (tgt := 28) hx hb dX4_count_18 (by decide) (fun c_18_2 => ?_) (fun c_18_2 => ?_)
    · have i_18 : (p1.toInt : Int) ≠ 1 := q_ne c_18_2 rfl rfl
      refine lv_iload_n hx hb dX4_count_28 rfl (lv_at hl 1 rfl) ?_
      refine lv_iconst (v := 2) hx hb dX4_count_29 (by decide) ?_
      refine lv_icmp_ne (tgt := 40) hx hb dX4_count_30 (by decide) (fun c_30_3 => ?_) (fun c_30_3 => ?_)
      · have i_30 : (p1.toInt : Int) ≠ 2 := q_ne c_30_3 rfl rfl
        refine lv_iload_n hx hb dX4_count_40 rfl (lv_at hl 1 rfl) ?_
        refine lv_iconst (v := 3) hx hb dX4_count_41 (by decide) ?_
        refine lv_icmp_ne (tgt := 52) hx hb dX4_count_42 (by decide) (fun c_42_4 => ?_) (fun c_42_4 => ?_)
        · have i_42 : (p1.toInt : Int) ≠ 3 := q_ne c_42_4 rfl rfl
          refine lv_iconst (v := (-1)) hx hb dX4_count_52 (by decide) ?_
          have hP9 : va_P (gD g) vwCl (wM g a M0) H := hP
          have hD9 : va_D A (wM g a M0) := hD
          exact W.iret (v := (-1)) hx hb hr (fun tz htz hWz => ⟨⟨(-1), M0, rfl, (by rw [← hM0]; exact ⟨by unfold coM; rw [if_neg (by assumption), if_neg (by assumption), if_neg (by assumption), if_neg (by assumption)], rfl⟩), by rw [htz]; exact hP9, hD9⟩, hS.F htz⟩) hS.2.2 dX4_count_53
        · have i_42 : (p1.toInt : Int) = 3 := q_eq c_42_4 rfl rfl
          refine lv_aload_n hx hb dX4_count_45 rfl (lv_at hl 0 rfl) ?_
          refine vp_callSi (va_Run.run (va_runV (As := []) (rest := []) ⟨hx, hb, hml, hown, hts⟩ (c_X4_synced l g a M0 (by omega)) (cwV 0 hts gX4_count_X4_synced rfl rfl rfl (by decide +kernel) ⟨Nat.le_of_ble_eq_true rfl, Nat.le_of_ble_eq_true rfl⟩) (pv_r hK hP (ci := 6) (q0 := 0) rfl rfl [0, 1, 2, 3, 4, 5, 6, 7, 8, 9, 10, 11, 12] rfl) rfl rfl hl.1 rfl (lv_room (Nat.le_of_ble_eq_true rfl)) dX4_count_46 ⟨Nat.zero_le _, Nat.zero_le _⟩)) (fun r_46_5 h_46_5 => ?_)
          subst h_46_5
          refine lv_goto (tgt := 53) hx hb dX4_count_49 (by decide) ?_
          have hP9 : va_P (gD g) vwCl (wM g a M0) H := hP
          have hD9 : va_D A (wM g a M0) := hD
          exact W.iret (v := (nI (snO M0.S M0.S.n))) hx hb hr (fun tz htz hWz => ⟨⟨(nI (snO M0.S M0.S.n)), M0, rfl, (by rw [← hM0]; exact ⟨by unfold coM; rw [if_neg (by assumption), if_neg (by assumption), if_neg (by assumption), if_pos (by assumption)], rfl⟩), by rw [htz]; exact hP9, hD9⟩, hS.F htz⟩) hS.2.2 dX4_count_53
      · have i_30 : (p1.toInt : Int) = 2 := q_eq c_30_3 rfl rfl
        refine lv_aload_n hx hb dX4_count_33 rfl (lv_at hl 0 rfl) ?_
        refine va_get (D := gD g) (ci := 6) (v := .int (nI (M0.S.ar))) (C := RX4) (T := TX4) (N := 18) hx hb hts (by decide +kernel) hown hK.1 hP 0 rfl rfl 11 (by decide) (hts (.fieldLink RX4 105 "LogForwardModel" "archived" "I") (by decide +kernel)) (fun _ h9 => h9) rfl dX4_count_34 ?_
        refine lv_goto (tgt := 53) hx hb dX4_count_37 (by decide) ?_
        have hP9 : va_P (gD g) vwCl (wM g a M0) H := hP
        have hD9 : va_D A (wM g a M0) := hD
        exact W.iret (v := (nI (M0.S.ar))) hx hb hr (fun tz htz hWz => ⟨⟨(nI (M0.S.ar)), M0, rfl, (by rw [← hM0]; exact ⟨by unfold coM; rw [if_neg (by assumption), if_neg (by assumption), if_pos (by assumption)], rfl⟩), by rw [htz]; exact hP9, hD9⟩, hS.F htz⟩) hS.2.2 dX4_count_53
    · have i_18 : (p1.toInt : Int) = 1 := q_eq c_18_2 rfl rfl
      refine lv_aload_n hx hb dX4_count_21 rfl (lv_at hl 0 rfl) ?_
      refine va_get (D := gD g) (ci := 6) (v := .int (nI (M0.k))) (C := RX4) (T := TX4) (N := 18) hx hb hts (by decide +kernel) hown hK.1 hP 0 rfl rfl 12 (by decide) (hts (.fieldLink RX4 99 "LogForwardModel" "images" "I") (by decide +kernel)) (fun _ h9 => h9) rfl dX4_count_22 ?_
      refine lv_goto (tgt := 53) hx hb dX4_count_25 (by decide) ?_
      have hP9 : va_P (gD g) vwCl (wM g a M0) H := hP
      have hD9 : va_D A (wM g a M0) := hD
      exact W.iret (v := (nI (M0.k))) hx hb hr (fun tz htz hWz => ⟨⟨(nI (M0.k)), M0, rfl, (by rw [← hM0]; exact ⟨by unfold coM; rw [if_neg (by assumption), if_pos (by assumption)], rfl⟩), by rw [htz]; exact hP9, hD9⟩, hS.F htz⟩) hS.2.2 dX4_count_53
  · have i_6 : (p1.toInt : Int) = 0 := q_eq c_6_1 rfl rfl
    refine lv_aload_n hx hb dX4_count_9 rfl (lv_at hl 0 rfl) ?_
    refine va_get (D := gD g) (ci := 6) (v := .int (nI (M0.S.n))) (C := RX4) (T := TX4) (N := 18) hx hb hts (by decide +kernel) hown hK.1 hP 0 rfl rfl 10 (by decide) (hts (.fieldLink RX4 55 "LogForwardModel" "rows" "I") (by decide +kernel)) (fun _ h9 => h9) rfl dX4_count_10 ?_
    refine lv_goto (tgt := 53) hx hb dX4_count_13 (by decide) ?_
    have hP9 : va_P (gD g) vwCl (wM g a M0) H := hP
    have hD9 : va_D A (wM g a M0) := hD
    exact W.iret (v := (nI (M0.S.n))) hx hb hr (fun tz htz hWz => ⟨⟨(nI (M0.S.n)), M0, rfl, (by rw [← hM0]; exact ⟨by unfold coM; rw [if_pos (by assumption)], rfl⟩), by rw [htz]; exact hP9, hD9⟩, hS.F htz⟩) hS.2.2 dX4_count_53
