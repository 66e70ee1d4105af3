/-! turns: the game by places is the game by witnesses -/
theorem wmask_at {c : CD} {s x w : Nat} : (wmask c s x c.W).testBit w = true ↔ ∃ i, i < cnt c s c.W ∧ own c s c.W i = w ∧ x.testBit i = true := by
  constructor
  · intro h
    have hm := sub_bit (wmask_sub c s x c.W) h
    have mem : ∀ n, (memb c s n).testBit w = true → w < n ∧ c.suit w = s := by
      intro n
      induction n with
      | zero => intro h; rw [memb, Nat.zero_testBit] at h; exact absurd h (by decide)
      | succ n ih =>
        intro h
        rw [memb] at h
        by_cases z : c.suit n = s
        · rw [if_pos z, Nat.testBit_or, Bool.or_eq_true] at h
          rcases h with h | h
          · have := ih h; exact ⟨by omega, this.2⟩
          · rw [Nat.one_shiftLeft, Nat.testBit_two_pow] at h
            have := of_decide_eq_true h
            subst this; exact ⟨by omega, z⟩
        · rw [if_neg z] at h
          have := ih h; exact ⟨by omega, this.2⟩
    obtain ⟨w1, w2⟩ := mem c.W hm
    obtain ⟨i, i1, i2⟩ := own_of c s c.W w w1 w2
    exact ⟨i, i1, i2, by rw [← wmask_bit c s x c.W i i1, i2]; exact h⟩
  · rintro ⟨i, a, b, e⟩
    rw [← b, wmask_bit c s x c.W i a]; exact e
theorem own_inj {c : CD} {s i j : Nat} (hi : i < cnt c s c.W) (hj : j < cnt c s c.W) (h : own c s c.W i = own c s c.W j) : i = j := by
  rcases Nat.lt_trichotomy i j with z | z | z
  · have := own_mono c s c.W i j z hj; omega
  · exact z
  · have := own_mono c s c.W j i z hi; omega
theorem wmask_flip {c : CD} {s x i : Nat} (hi : i < cnt c s c.W) (hx : x.testBit i = true) : wmask c s (x ^^^ 1 <<< i) c.W = wmask c s x c.W ^^^ 1 <<< own c s c.W i := by
  apply Nat.eq_of_testBit_eq
  intro w
  rw [tb_flip]
  by_cases z : own c s c.W i = w
  · subst z
    rw [wmask_bit c s _ c.W i hi, wmask_bit c s _ c.W i hi, tb_flip, decide_eq_true rfl, decide_eq_true rfl]
  · rw [decide_eq_false z]
    have iff : (wmask c s (x ^^^ 1 <<< i) c.W).testBit w = true ↔ (wmask c s x c.W).testBit w = true := by
      rw [wmask_at, wmask_at]
      constructor
      · rintro ⟨j, a, b, e⟩
        exact ⟨j, a, b, flip_sub hx e⟩
      · rintro ⟨j, a, b, e⟩
        refine ⟨j, a, b, ?_⟩
        have ne : i ≠ j := fun r => z (by rw [r]; exact b)
        rw [tb_flip, e, decide_eq_false ne]
        rfl
    cases y : (wmask c s x c.W).testBit w with
    | true => rw [iff.mpr y]; rfl
    | false =>
      cases y2 : (wmask c s (x ^^^ 1 <<< i) c.W).testBit w with
      | false => rfl
      | true => rw [iff.mp y2] at y; exact absurd y (by decide)
theorem wmask_0 {c : CD} {s x : Nat} (hx : x < 2 ^ cnt c s c.W) : wmask c s x c.W = 0 ↔ x = 0 := by
  constructor
  · intro h
    apply Nat.eq_of_testBit_eq
    intro i
    rw [Nat.zero_testBit]
    cases z : x.testBit i with
    | false => rfl
    | true =>
      have hi : i < cnt c s c.W := by
        refine Classical.byContradiction (fun r => ?_)
        have : x.testBit i = false := Nat.testBit_lt_two_pow (Nat.lt_of_lt_of_le hx (Nat.pow_le_pow_right (by omega) (by omega)))
        rw [this] at z
        exact absurd z (by decide)
      have := wmask_bit c s x c.W i hi
      rw [h, Nat.zero_testBit, z] at this
      exact absurd this (by decide)
  · intro h
    subst h
    apply Nat.eq_of_testBit_eq
    intro w
    rw [Nat.zero_testBit]
    cases z : (wmask c s 0 c.W).testBit w with
    | false => rfl
    | true =>
      obtain ⟨i, _, _, e⟩ := wmask_at.mp z
      rw [Nat.zero_testBit] at e
      exact absurd e (by decide)
