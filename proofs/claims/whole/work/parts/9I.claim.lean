theorem half_eq {W0 a f t : Nat} : (W0 + (a + f * 2 ^ t)) / 2 ^ (t + 1) = ((W0 + a) / 2 ^ t + f) / 2 := by
  rw [Nat.pow_succ, ← Nat.div_div_eq_div_mul, ← Nat.add_assoc, Nat.add_mul_div_right _ _ (Nat.two_pow_pos t)]
/-- what wantOf says is what the game says -/
theorem want_gW {G W0 n N P t i a : Nat} {fp : Nat → Nat} {v : Nat → Int} (hP : P < 2 ^ n) (hi : P.testBit i = true) (hf : fp i ≤ 594) (ha : a ≤ 594 * 2 ^ t) (hv : ∀ j, j < n → (P ^^^ 1 <<< i).testBit j = true → ∀ a' : Nat, a' ≤ 594 * 2 ^ (t + 1) → (W0 + a') / 2 ^ (t + 1) < G → (v j ≤ (a' : Int) ↔ gS G fp N (P ^^^ 1 <<< i ^^^ 1 <<< j) ((W0 + a') / 2 ^ (t + 1)) (t + 1))) : (G * 2 ^ t ≤ W0 + a + fp i * 2 ^ t ∨ (P ^^^ 1 <<< i ≠ 0 ∧ ∀ j, j < n → (P ^^^ 1 <<< i).testBit j = true → v j ≤ ((a + fp i * 2 ^ t : Nat) : Int))) ↔ gW G fp N P ((W0 + a) / 2 ^ t) t i := by
  have pos := Nat.two_pow_pos t
  have hP1 := flip_n hP (bit_n hP hi)
  have fst : G * 2 ^ t ≤ W0 + a + fp i * 2 ^ t ↔ G ≤ (W0 + a) / 2 ^ t + fp i := by
    rw [← Nat.add_mul_div_right _ _ pos, Nat.le_div_iff_mul_le pos]
  unfold gW
  rw [fst]
  by_cases z : G ≤ (W0 + a) / 2 ^ t + fp i
  · exact ⟨fun _ => Or.inl z, fun _ => Or.inl z⟩
  · have fb := Nat.mul_le_mul_right (2 ^ t) hf
    have ab : a + fp i * 2 ^ t ≤ 594 * 2 ^ (t + 1) := by rw [Nat.pow_succ]; omega
    have lt : (W0 + (a + fp i * 2 ^ t)) / 2 ^ (t + 1) < G := by rw [half_eq]; omega
    constructor
    · rintro (h | ⟨h1, h2⟩)
      · exact absurd h z
      · refine Or.inr ⟨h1, fun j hj => ?_⟩
        have hjn := bit_n hP1 hj
        have := (hv j hjn hj _ ab lt).mp (h2 j hjn hj)
        rw [half_eq] at this
        exact this
    · rintro (h | ⟨h1, h2⟩)
      · exact absurd h z
      · refine Or.inr ⟨h1, fun j hjn hj => (hv j hjn hj _ ab lt).mpr ?_⟩
        rw [half_eq]
        exact h2 j hj
