/-! THE LOG: what always holds of its rows -/
/-- rows up to t: units, kinds and cells are so; nothing of a unit behind its last row; a cell's changers are apart; torn copies -/
def LI (S : RS) (t : Nat) : Prop :=
  (∀ r, 1 ≤ r → r ≤ t → okU (S.un r)) ∧ (∀ r, 1 ≤ r → r ≤ t → S.kd r = 0 ∨ S.kd r = 1 ∨ S.kd r = 2) ∧ (∀ r, 1 ≤ r → r ≤ t → S.kd r = 0 → okC (S.ce r)) ∧ (∀ r, 1 ≤ r → r ≤ t → ¬ S.kd r = 0 → S.ce r = -1) ∧
  (∀ r q, 1 ≤ r → r < q → q ≤ t → ¬ S.kd r = 0 → ¬ S.un q = S.un r) ∧
  (∀ r q, 1 ≤ r → r < q → q ≤ t → S.kd r = 0 → S.kd q = 0 → S.ce r = S.ce q → ¬ S.un r = S.un q → ∃ m, r < m ∧ m < q ∧ S.un m = S.un r ∧ ¬ S.kd m = 0) ∧
  (∀ r, 1 ≤ r → r ≤ t → S.tn r = 0 ∨ S.tn r = 1 ∨ S.tn r = 2 ∨ S.tn r = 3)
/-- units that have rows by backing out are over -/
def OB (S : RS) : Prop := ∀ r, 1 ≤ r → r ≤ S.n → ¬ S.bk r = 0 → ∃ q, 1 ≤ q ∧ q ≤ S.n ∧ S.un q = S.un r ∧ ¬ S.kd q = 0
/-- the class's units are what the rows say -/
def LK (U : US) (S : RS) (t : Nat) : Prop := (∀ j, j < 61 → U.lk j = lkO S j t) ∧ ∀ c, c < 32 → U.ch c = chO S c t
theorem LI.less {S : RS} {t q : Nat} (h : LI S t) (hq : q ≤ t) : LI S q := by
  obtain ⟨h1, h2, h3, h4, h5, h6, h7⟩ := h
  exact ⟨fun r a b => h1 r a (by omega), fun r a b => h2 r a (by omega), fun r a b => h3 r a (by omega), fun r a b => h4 r a (by omega), fun r q a b c => h5 r q a b (by omega), fun r q a b c => h6 r q a b (by omega), fun r a b => h7 r a (by omega)⟩
/-- a unit that has a last row is over -/
theorem st_over {S : RS} {p : Int32} : ∀ {t : Nat}, LI S t → (∃ r, 1 ≤ r ∧ r ≤ t ∧ S.un r = p ∧ ¬ S.kd r = 0) → 2 ≤ stO S p t
  | 0, _, ⟨r, h1, h2, _⟩ => by omega
  | t + 1, hL, ⟨r, h1, h2, h3, h4⟩ => by
    obtain ⟨-, k2, -⟩ := id hL
    simp only [stO]
    by_cases e : r = t + 1
    · subst e
      rw [if_neg (fun z => z h3)]
      rcases k2 (t + 1) h1 (Nat.le_refl _) with q | q | q
      · exact absurd q h4
      · rw [if_pos q]
        decide
      · rw [if_neg (by rw [q]; decide), if_pos q]
        decide
    · have ih := st_over (t := t) (hL.less (by omega)) ⟨r, h1, by omega, h3, h4⟩
      split
      · exact ih
      · split
        · exact Nat.le_refl _
        · split
          · decide
          · rw [if_neg (by omega)]
            exact ih
theorem st_over2 {S : RS} {p : Int32} : ∀ {t : Nat}, 2 ≤ stO S p t → ∃ r, 1 ≤ r ∧ r ≤ t ∧ S.un r = p ∧ ¬ S.kd r = 0
  | 0, h => by simp [stO] at h
  | t + 1, h => by
    simp only [stO] at h
    by_cases e : S.un (t + 1) = p
    · rw [if_neg (fun z => z e)] at h
      by_cases e1 : S.kd (t + 1) = 1
      · exact ⟨t + 1, by omega, Nat.le_refl _, e, by rw [e1]; decide⟩
      · rw [if_neg e1] at h
        by_cases e2 : S.kd (t + 1) = 2
        · exact ⟨t + 1, by omega, Nat.le_refl _, e, by rw [e2]; decide⟩
        · rw [if_neg e2] at h
          by_cases e3 : stO S p t = 0
          · rw [if_pos e3] at h
            omega
          · rw [if_neg e3] at h
            obtain ⟨r, a, b, c, d⟩ := st_over2 h
            exact ⟨r, a, by omega, c, d⟩
    · rw [if_pos e] at h
      obtain ⟨r, a, b, c, d⟩ := st_over2 h
      exact ⟨r, a, by omega, c, d⟩
/-- a unit with a row isn't in state 0 -/
theorem st_there {S : RS} {p : Int32} : ∀ {t : Nat}, (∃ r, 1 ≤ r ∧ r ≤ t ∧ S.un r = p) → 1 ≤ stO S p t
  | 0, ⟨r, h1, h2, _⟩ => by omega
  | t + 1, ⟨r, h1, h2, h3⟩ => by
    simp only [stO]
    by_cases e : S.un (t + 1) = p
    · rw [if_neg (fun z => z e)]
      split
      · omega
      · split
        · omega
        · split <;> omega
    · rw [if_pos e]
      have hr : r ≠ t + 1 := fun q => e (by rw [← q]; exact h3)
      exact st_there ⟨r, h1, by omega, h3⟩
/-- the class's word and the reference's for where a unit stands -/
theorem st_lk {S : RS} {j : Nat} (h1 : 1 ≤ j) (h2 : j ≤ 60) : ∀ {t : Nat}, LI S t → (stO S (nI j) t = 0 ∧ lkO S j t = -1) ∨ (stO S (nI j) t = 1 ∧ lkO S j t = 0) ∨ (stO S (nI j) t = 2 ∧ lkO S j t = 1) ∨ (stO S (nI j) t = 3 ∧ lkO S j t = 2)
  | 0, _ => Or.inl ⟨rfl, rfl⟩
  | t + 1, hL => by
    have ih := st_lk h1 h2 (t := t) (hL.less (by omega))
    obtain ⟨k1, k2, -, -, k5, -, -⟩ := hL
    have hu := k1 (t + 1) (by omega) (Nat.le_refl _)
    have eU : (okU (S.un (t + 1)) ∧ (S.un (t + 1)).toNatClampNeg = j) ↔ S.un (t + 1) = nI j := by
      constructor
      · intro z
        have e := p_nI (x := S.un (t + 1)) (by omega)
        rw [z.2] at e
        exact e
      · intro z
        exact ⟨hu, by rw [z, c_nI (by omega)]⟩
    simp only [stO, lkO]
    by_cases e : S.un (t + 1) = nI j
    · rw [if_neg (fun z => z e), if_pos (eU.mpr e)]
      rcases k2 (t + 1) (by omega) (Nat.le_refl _) with q | q | q
      · rw [q, if_neg (by decide), if_neg (by decide)]
        rcases ih with ⟨a, b⟩ | ⟨a, b⟩ | ⟨a, b⟩ | ⟨a, b⟩
        · rw [if_pos a]
          exact Or.inr (Or.inl ⟨rfl, rfl⟩)
        · rw [if_neg (by omega), a]
          exact Or.inr (Or.inl ⟨rfl, rfl⟩)
        · obtain ⟨r, r1, r2, r3, r4⟩ := st_over2 (S := S) (p := nI j) (t := t) (by omega)
          exact absurd (by rw [e, r3]) (k5 r (t + 1) r1 (by omega) (Nat.le_refl _) r4)
        · obtain ⟨r, r1, r2, r3, r4⟩ := st_over2 (S := S) (p := nI j) (t := t) (by omega)
          exact absurd (by rw [e, r3]) (k5 r (t + 1) r1 (by omega) (Nat.le_refl _) r4)
      · rw [q, if_pos rfl]
        exact Or.inr (Or.inr (Or.inl ⟨rfl, rfl⟩))
      · rw [q, if_neg (by decide), if_pos rfl]
        exact Or.inr (Or.inr (Or.inr ⟨rfl, rfl⟩))
    · rw [if_pos e, if_neg (fun z => e (eU.mp z))]
      exact ih
theorem st_0 {S : RS} {t j : Nat} (h1 : 1 ≤ j) (h2 : j ≤ 60) (hL : LI S t) : lkO S j t = 0 ↔ stO S (nI j) t = 1 := by
  rcases st_lk h1 h2 hL with ⟨a, b⟩ | ⟨a, b⟩ | ⟨a, b⟩ | ⟨a, b⟩ <;> rw [a, b] <;> decide
theorem st_gt {S : RS} {t j : Nat} (h1 : 1 ≤ j) (h2 : j ≤ 60) (hL : LI S t) : 0 < lkO S j t ↔ 1 < stO S (nI j) t := by
  rcases st_lk h1 h2 hL with ⟨a, b⟩ | ⟨a, b⟩ | ⟨a, b⟩ | ⟨a, b⟩ <;> rw [a, b] <;> decide
theorem op_st {U : US} {S : RS} {t : Nat} {p : Int32} (hL : LI S t) (hK : LK U S t) : opU U p ↔ okU p ∧ stO S p t = 1 := by
  constructor
  · intro h
    obtain ⟨h1, h2⟩ := h
    have e := p_nI (x := p) (by omega)
    have e2 := pn_toInt (x := p) (by omega)
    rw [hK.1 _ (by omega)] at h2
    refine ⟨h1, ?_⟩
    rw [e]
    exact (st_0 (by omega) (by omega) hL).mp h2
  · intro h
    obtain ⟨h1, h2⟩ := h
    have e := p_nI (x := p) (by omega)
    have e2 := pn_toInt (x := p) (by omega)
    refine ⟨h1, ?_⟩
    rw [hK.1 _ (by omega)]
    rw [e] at h2
    exact (st_0 (by omega) (by omega) hL).mpr h2
theorem ov_st {U : US} {S : RS} {t : Nat} {p : Int32} (hL : LI S t) (hK : LK U S t) (hp : okU p) : ovU U p ↔ 1 < stO S p t := by
  have e := p_nI (x := p) (by omega)
  have e2 := pn_toInt (x := p) (by omega)
  have h := st_gt (S := S) (t := t) (j := p.toNatClampNeg) (by omega) (by omega) hL
  rw [← e] at h
  rw [← h]
  show (okU p ∧ 0 < U.lk p.toNatClampNeg) ↔ _
  rw [hK.1 _ (by omega)]
  exact ⟨fun z => z.2, fun z => ⟨hp, z⟩⟩
/-- the last changer of a cell -/
theorem ch_last {S : RS} {c : Nat} (hc : c < 32) : ∀ {t : Nat}, LI S t → (chO S c t = 0 ∧ ∀ r, 1 ≤ r → r ≤ t → ¬ S.ce r = nI c) ∨ ∃ r, 1 ≤ r ∧ r ≤ t ∧ S.ce r = nI c ∧ S.kd r = 0 ∧ chO S c t = S.un r ∧ ∀ q, r < q → q ≤ t → ¬ S.ce q = nI c
  | 0, _ => Or.inl ⟨rfl, fun r h1 h2 => by omega⟩
  | t + 1, hL => by
    have ih := ch_last hc (t := t) (hL.less (by omega))
    obtain ⟨-, k2, k3, k4, -, -, -⟩ := hL
    simp only [chO]
    by_cases e : S.ce (t + 1) = nI c
    · have ek : S.kd (t + 1) = 0 := by
        by_cases q : S.kd (t + 1) = 0
        · exact q
        · have := k4 (t + 1) (by omega) (Nat.le_refl _) q
          rw [this] at e
          have e9 := congrArg Int32.toInt e
          rw [l_nI (by omega)] at e9
          have : (-1 : Int32).toInt = -1 := rfl
          omega
      rw [if_pos ⟨k3 (t + 1) (by omega) (Nat.le_refl _) ek, by rw [e, c_nI (by omega)]⟩]
      exact Or.inr ⟨t + 1, by omega, Nat.le_refl _, e, ek, rfl, fun q a b => by omega⟩
    · rw [if_neg (fun z => e (by have := p_nI (x := S.ce (t + 1)) (by omega); rw [z.2] at this; exact this))]
      rcases ih with ⟨a, b⟩ | ⟨r, a1, a2, a3, a4, a5, a6⟩
      · exact Or.inl ⟨a, fun r h1 h2 => by
          by_cases q : r = t + 1
          · rw [q]; exact e
          · exact b r h1 (by omega)⟩
      · exact Or.inr ⟨r, a1, by omega, a3, a4, a5, fun q b1 b2 => by
          by_cases q9 : q = t + 1
          · rw [q9]; exact e
          · exact a6 q b1 (by omega)⟩
theorem hc_iff {S : RS} {c p : Int32} : ∀ d i, hcF S c p d i = true ↔ ∃ r, i ≤ r ∧ r < i + d ∧ isC S p r ∧ S.ce r = c
  | 0, i => by
    simp only [hcF]
    exact ⟨fun h => absurd h (by decide), fun ⟨r, h1, h2, _⟩ => by omega⟩
  | d + 1, i => by
    simp only [hcF]
    by_cases e : isC S p i ∧ S.ce i = c
    · rw [if_pos e]
      exact ⟨fun _ => ⟨i, Nat.le_refl _, by omega, e⟩, fun _ => rfl⟩
    · rw [if_neg e, hc_iff d (i + 1)]
      constructor
      · rintro ⟨r, h1, h2, h3⟩
        exact ⟨r, by omega, by omega, h3⟩
      · rintro ⟨r, h1, h2, h3⟩
        refine ⟨r, ?_, by omega, h3⟩
        rcases Nat.lt_or_ge i r with q | q
        · omega
        · exact absurd (by rw [show i = r by omega]; exact h3) e
theorem tk_iff {S : RS} {c p : Int32} : ∀ d u, tkF S c p d u = true ↔ ∃ v, u ≤ v ∧ v < u + d ∧ ¬ nI v = p ∧ stO S (nI v) S.n = 1 ∧ hcF S c (nI v) S.n 1 = true
  | 0, u => by
    simp only [tkF]
    exact ⟨fun h => absurd h (by decide), fun ⟨r, h1, h2, _⟩ => by omega⟩
  | d + 1, u => by
    simp only [tkF]
    have ih := tk_iff (S := S) (c := c) (p := p) d (u + 1)
    by_cases e : nI u = p ∨ ¬ stO S (nI u) S.n = 1
    · rw [if_pos e, ih]
      constructor
      · rintro ⟨v, h1, h2, h3⟩
        exact ⟨v, by omega, by omega, h3⟩
      · rintro ⟨v, h1, h2, h3, h4, h5⟩
        refine ⟨v, ?_, by omega, h3, h4, h5⟩
        rcases Nat.lt_or_ge u v with q | q
        · omega
        · rw [show u = v by omega] at e
          exact e.elim (fun z => absurd z h3) (fun z => absurd h4 z)
    · rw [if_neg e]
      by_cases e2 : hcF S c (nI u) S.n 1 = true
      · rw [if_pos e2]
        exact ⟨fun _ => ⟨u, Nat.le_refl _, by omega, fun z => e (Or.inl z), Classical.byContradiction (fun z => e (Or.inr z)), e2⟩, fun _ => rfl⟩
      · rw [if_neg e2, ih]
        constructor
        · rintro ⟨v, h1, h2, h3⟩
          exact ⟨v, by omega, by omega, h3⟩
        · rintro ⟨v, h1, h2, h3, h4, h5⟩
          refine ⟨v, ?_, by omega, h3, h4, h5⟩
          rcases Nat.lt_or_ge u v with q | q
          · omega
          · rw [show u = v by omega] at e2
            exact absurd h5 e2
/-- another open unit has changed the cell: the class's word and the reference's -/
theorem cb_tk {U : US} {S : RS} {c p : Int32} (hL : LI S S.n) (hO : OB S) (hK : LK U S S.n) (hc : okC c) : cbU U c p ↔ tkF S c p 60 1 = true := by
  have ec := p_nI (x := c) (by omega)
  have ec2 := pn_toInt (x := c) (by omega)
  have hk2 := hK.2 c.toNatClampNeg (by omega)
  rw [tk_iff]
  constructor
  · rintro ⟨-, h2, h3⟩
    rw [hk2] at h2 h3
    obtain ⟨h4, h5⟩ := (op_st hL hK).mp h3
    rcases ch_last (S := S) (c := c.toNatClampNeg) (by omega) hL with ⟨a, -⟩ | ⟨r, a1, a2, a3, a4, a5, a6⟩
    · rw [a] at h4
      exact absurd h4.1 (by decide)
    · rw [a5] at h2 h4 h5
      have e := p_nI (x := S.un r) (by omega)
      have e2 := pn_toInt (x := S.un r) (by omega)
      have hb : S.bk r = 0 := Classical.byContradiction (fun z => by
        obtain ⟨q, q1, q2, q3, q4⟩ := hO r a1 a2 z
        have := st_over hL ⟨q, q1, q2, q3, q4⟩
        omega)
      refine ⟨(S.un r).toNatClampNeg, by omega, by omega, by rw [← e]; exact h2, by rw [← e]; exact h5, ?_⟩
      rw [← e, hc_iff]
      exact ⟨r, a1, by omega, ⟨⟨a4, hb⟩, rfl⟩, by rw [a3, ← ec]⟩
  · rintro ⟨v, h1, h2, h3, h4, h5⟩
    obtain ⟨r, r1, r2, ⟨⟨r3, r4⟩, r5⟩, r6⟩ := (hc_iff _ _).mp h5
    have h9 : chO S c.toNatClampNeg S.n = nI v := by
      rcases ch_last (S := S) (c := c.toNatClampNeg) (by omega) hL with ⟨-, a⟩ | ⟨q, a1, a2, a3, a4, a5, a6⟩
      · exact absurd (by rw [r6]; exact ec) (a r r1 (by omega))
      · rw [a5]
        rcases Nat.lt_trichotomy r q with z | z | z
        · by_cases e : S.un r = S.un q
          · rw [← e, r5]
          · obtain ⟨m, m1, m2, m3, m4⟩ := hL.2.2.2.2.2.1 r q r1 z a2 r3 a4 (by rw [r6, a3]; exact ec) e
            have := st_over hL ⟨m, by omega, by omega, by rw [m3, r5], m4⟩
            omega
        · rw [← z, r5]
        · exact absurd (by rw [r6]; exact ec) (a6 r z (by omega))
    refine ⟨hc, by rw [hk2, h9]; exact h3, ?_⟩
    rw [hk2, h9]
    exact (op_st hL hK).mpr ⟨by show 1 ≤ (nI v).toInt ∧ (nI v).toInt ≤ 60; rw [l_nI (by omega)]; omega, h4⟩
