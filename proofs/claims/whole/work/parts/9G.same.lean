theorem flip_n {n x i : Nat} (hx : x < 2 ^ n) (hi : i < n) : x ^^^ 1 <<< i < 2 ^ n := by
  have : (1 <<< i : Nat) < 2 ^ n := by rw [Nat.one_shiftLeft]; exact Nat.pow_lt_pow_right (by omega) hi
  exact Nat.xor_lt_two_pow hx this
theorem bit_n {n x i : Nat} (hx : x < 2 ^ n) (hi : x.testBit i = true) : i < n := by
  refine Classical.byContradiction (fun r => ?_)
  have : x.testBit i = false := Nat.testBit_lt_two_pow (Nat.lt_of_lt_of_le hx (Nat.pow_le_pow_right (by omega) (by omega)))
  rw [this] at hi
  exact absurd hi (by decide)
theorem fr_pl {c : CD} {l : LD} {d : SD} {s i : Nat} (hi : i < cnt c s c.W) : frW c l d (own c s c.W i) = fw c l d s i 0 := by
  unfold frW fw
  rw [if_pos (own_at c s c.W i hi).1, if_pos hi, Nat.add_zero]
theorem gW_pl {c : CD} {l : LD} {d : SD} {s G N : Nat} (ih : ∀ x W t, x < 2 ^ cnt c s c.W → (gS G (frW c l d) N (wmask c s x c.W) W t ↔ gS G (fun i => fw c l d s i 0) N x W t)) {x W t i : Nat} (hx : x < 2 ^ cnt c s c.W) (hi : x.testBit i = true) : gW G (frW c l d) N (wmask c s x c.W) W t (own c s c.W i) ↔ gW G (fun i => fw c l d s i 0) N x W t i := by
  have hin := bit_n hx hi
  have hx1 := flip_n hx hin
  unfold gW
  rw [fr_pl hin, ← wmask_flip hin hi]
  have e0 : wmask c s (x ^^^ 1 <<< i) c.W ≠ 0 ↔ x ^^^ 1 <<< i ≠ 0 := not_congr (wmask_0 hx1)
  constructor
  · rintro (h | ⟨h1, h2⟩)
    · exact Or.inl h
    · refine Or.inr ⟨e0.mp h1, fun j hj => ?_⟩
      have hjn := bit_n hx1 hj
      have := h2 (own c s c.W j) (by rw [wmask_bit c s _ c.W j hjn]; exact hj)
      rw [← wmask_flip hjn hj] at this
      exact (ih _ _ _ (flip_n hx1 hjn)).mp this
  · rintro (h | ⟨h1, h2⟩)
    · exact Or.inl h
    · refine Or.inr ⟨e0.mpr h1, fun w hw => ?_⟩
      obtain ⟨j, hjn, rfl, hj⟩ := wmask_at.mp hw
      rw [← wmask_flip hjn hj]
      exact (ih _ _ _ (flip_n hx1 hjn)).mpr (h2 j hj)
theorem gS_pl {c : CD} {l : LD} {d : SD} {s G : Nat} : ∀ N x W t, x < 2 ^ cnt c s c.W → (gS G (frW c l d) N (wmask c s x c.W) W t ↔ gS G (fun i => fw c l d s i 0) N x W t)
  | 0, _, _, _, _ => Iff.rfl
  | N + 1, x, W, t, hx => by
    have ih := fun x W t hx => gS_pl (c := c) (l := l) (d := d) (s := s) (G := G) N x W t hx
    rw [gS, gS]
    constructor
    · rintro (h | ⟨h1, w, hw, h2⟩)
      · exact Or.inl h
      · obtain ⟨i, hin, rfl, hi⟩ := wmask_at.mp hw
        exact Or.inr ⟨h1, i, hi, (gW_pl ih hx hi).mp h2⟩
    · rintro (h | ⟨h1, i, hi, h2⟩)
      · exact Or.inl h
      · have hin := bit_n hx hi
        exact Or.inr ⟨h1, own c s c.W i, by rw [wmask_bit c s x c.W i hin]; exact hi, (gW_pl ih hx hi).mpr h2⟩
