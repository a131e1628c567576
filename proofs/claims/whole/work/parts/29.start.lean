/-! the start of both sides -/
theorem SI_start (p : Int32) {U V : US} (hz : zrU U) : SI ((S0, U, V, I0, fun _ => 0, rgN p) : XS) (M00 p) := by
  obtain ⟨g1, g2⟩ := rgN_in p
  refine ⟨⟨⟨fun r a b => ?_, fun r a b => ?_, fun r a b => ?_, fun r a b => ?_, fun r q a b c => ?_, fun r q a b c => ?_, fun r a b => ?_⟩, ⟨fun j hj => hz.1 j hj, fun c hc => hz.2 c hc⟩, ⟨Nat.zero_le _, fun i a b => ?_, fun _ => Or.inl rfl, fun _ _ => rfl, fun w => absurd rfl w⟩, ⟨rfl, rfl, rfl, rfl, rfl, rfl, rfl, rfl, fun i c a b => ?_⟩, Nat.zero_le _, Nat.zero_le _, g1, g2⟩, fun r a b => ?_⟩
  · have b : r ≤ 0 := b
    omega
  · have b : r ≤ 0 := b
    omega
  · have b : r ≤ 0 := b
    omega
  · have b : r ≤ 0 := b
    omega
  · have c : q ≤ 0 := c
    omega
  · have c : q ≤ 0 := c
    omega
  · have b : r ≤ 0 := b
    omega
  · have b : i ≤ 0 := b
    omega
  · have b : i ≤ 0 := b
    omega
  · have b : r ≤ 0 := b
    omega
