theorem avW_am {c : CD} {l : LD} {d : SD} {s : Nat} : avW c l d s c.W = wmask c s (am (ab c l d s) 0 (cnt c s c.W)) c.W := by
  apply Nat.eq_of_testBit_eq
  intro w
  have iff : (avW c l d s c.W).testBit w = true ↔ (wmask c s (am (ab c l d s) 0 (cnt c s c.W)) c.W).testBit w = true := by
    rw [avW_bit, wmask_at]
    constructor
    · rintro ⟨h1, h2, h3⟩
      obtain ⟨i, i1, i2⟩ := own_of c s c.W w h1 h2
      refine ⟨i, i1, i2, ?_⟩
      rw [am_bit, decide_eq_true i1, Bool.true_and]
      unfold ab
      rw [decide_eq_true i1, Bool.true_and, i2]
      exact h3
    · rintro ⟨i, i1, i2, e⟩
      obtain ⟨o1, o2⟩ := own_at c s c.W i i1
      rw [am_bit, decide_eq_true i1, Bool.true_and] at e
      unfold ab at e
      rw [decide_eq_true i1, Bool.true_and, i2] at e
      exact ⟨by omega, by rw [← i2]; exact o2, e⟩
  cases y : (avW c l d s c.W).testBit w with
  | true => exact (iff.mp y).symm
  | false =>
    cases y2 : (wmask c s (am (ab c l d s) 0 (cnt c s c.W)) c.W).testBit w with
    | false => rfl
    | true => rw [iff.mpr y2] at y; exact absurd y (by decide)
