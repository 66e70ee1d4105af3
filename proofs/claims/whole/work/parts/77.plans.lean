/-! plans by days -/
/-- the sum of a set -/
def vs (g : Nat → Nat) (U : Nat) : Nat → Nat
  | 0 => 0
  | i + 1 => vs g U i + (if U.testBit i then g i else 0)
/-- a set may be called on day k -/
def okU (n : Nat) (able : Nat → Nat → Bool) (room : Nat → Nat) (U k : Nat) : Prop := (∀ i, i < 6 → U.testBit i = true → i < n ∧ able i k = true) ∧ bsum U 12 ≤ room k
/-- a sum of just this set, called on days below k; a fresh weight on day j counts 2 to the j -/
def PP (n : Nat) (able : Nat → Nat → Bool) (fr : Nat → Nat → Nat) (room : Nat → Nat) : Nat → Nat → Nat → Prop
  | 0, T, x => T = 0 ∧ x = 0
  | k + 1, T, x => ∃ U y, U &&& T = U ∧ okU n able room U k ∧ PP n able fr room k (T ^^^ U) y ∧ x = y + vs (fun i => fr i k) U 6 * 2 ^ k
/-- 0 if there is none, else one more than the greatest -/
def isM (e : Nat) (Q : Nat → Prop) : Prop := (∀ x, Q x → x < e) ∧ (0 < e → Q (e - 1))
theorem isM_iff {e : Nat} {Q R : Nat → Prop} (h : isM e Q) (hi : ∀ x, Q x ↔ R x) : isM e R := ⟨fun x hx => h.1 x ((hi x).mpr hx), fun p => (hi _).mp (h.2 p)⟩
theorem isM_un {e f : Nat} {Q : Nat → Prop} (h : isM e Q) (g : isM f Q) : e = f := by
  rcases Nat.lt_trichotomy e f with a | a | a
  · have := h.1 _ (g.2 (by omega)); omega
  · exact a
  · have := g.1 _ (h.2 (by omega)); omega
/-- one more set is looked at -/
theorem isM_add {e a : Nat} {v : Nat} {Q Q' : Nat → Prop} (h : isM e Q) (g : isM a Q') : isM (if a = 0 then e else if a + v ≤ e then e else a + v) (fun x => Q x ∨ ∃ y, Q' y ∧ x = y + v) := by
  by_cases z : a = 0
  · rw [if_pos z]
    refine ⟨fun x hx => ?_, fun p => Or.inl (h.2 p)⟩
    rcases hx with hx | ⟨y, hy, _⟩
    · exact h.1 x hx
    · have := g.1 y hy; omega
  · rw [if_neg z]
    by_cases w : a + v ≤ e
    · rw [if_pos w]
      refine ⟨fun x hx => ?_, fun p => Or.inl (h.2 p)⟩
      rcases hx with hx | ⟨y, hy, rfl⟩
      · exact h.1 x hx
      · have := g.1 y hy; omega
    · rw [if_neg w]
      refine ⟨fun x hx => ?_, fun p => Or.inr ⟨a - 1, g.2 (by omega), by omega⟩⟩
      rcases hx with hx | ⟨y, hy, rfl⟩
      · have := h.1 x hx; omega
      · have := g.1 y hy; omega
theorem PP_zero (n : Nat) (able : Nat → Nat → Bool) (fr : Nat → Nat → Nat) (room : Nat → Nat) : ∀ k, PP n able fr room k 0 0
  | 0 => ⟨rfl, rfl⟩
  | k + 1 => ⟨0, 0, rfl, ⟨fun i _ h => by rw [Nat.zero_testBit] at h; exact absurd h (by decide), Nat.zero_le _⟩, PP_zero n able fr room k, by
      have : vs (fun i => fr i k) 0 6 = 0 := by simp only [vs, Nat.zero_testBit]; rfl
      rw [this]; omega⟩
/-- days of no room are days of nobody; what differs behind k does not matter -/
theorem PP_congr {n : Nat} {able able' : Nat → Nat → Bool} {fr : Nat → Nat → Nat} {room room' : Nat → Nat} : ∀ {k : Nat}, (∀ i j, i < 6 → j < k → able i j = able' i j) → (∀ j, j < k → room j = room' j) → ∀ {T x : Nat}, PP n able fr room k T x → PP n able' fr room' k T x
  | 0, _, _, _, _, h => h
  | k + 1, h1, h2, T, x, ⟨U, y, a, ⟨b1, b2⟩, p, e⟩ => ⟨U, y, a, ⟨fun i hi hu => ⟨(b1 i hi hu).1, by rw [← h1 i k hi (by omega)]; exact (b1 i hi hu).2⟩, by rw [← h2 k (by omega)]; exact b2⟩, PP_congr (fun i j a b => h1 i j a (by omega)) (fun j b => h2 j (by omega)) p, e⟩
theorem vs_le {g : Nat → Nat} {B : Nat} (h : ∀ i, i < 6 → g i ≤ B) (U : Nat) : ∀ m, m ≤ 6 → vs g U m ≤ m * B
  | 0, _ => Nat.zero_le _
  | m + 1, hm => by
    have a := vs_le h U m (by omega)
    have b := h m (by omega)
    rw [vs, Nat.succ_mul]
    split <;> omega
/-! masks below 64 -/
theorem mk_enum : ∀ m : Fin 64, ∀ s : Fin 64, s.val &&& m.val = s.val → 0 < s.val → ∀ u : Fin 64, u.val &&& m.val = u.val → u.val < s.val → u.val ≤ (s.val - 1) &&& m.val := by decide +kernel
