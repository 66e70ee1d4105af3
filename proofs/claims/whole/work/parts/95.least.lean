/-! cut: the least by bits; places and witnesses -/
theorem fewT_min (en : Nat → Bool) : ∀ q, fewT en q ≠ 0 → ∀ y, y < q → en y = true → bsum (fewT en q - 1) 12 < bsum y 12 ∨ (bsum (fewT en q - 1) 12 = bsum y 12 ∧ fewT en q - 1 ≤ y)
  | 0, h, _, _, _ => absurd rfl h
  | q + 1, h, y, hy, e => by
    have le := fewT_le en q
    rw [fewT] at h ⊢
    by_cases z : en q = true ∧ (fewT en q = 0 ∨ bsum q 12 < bsum (fewT en q - 1) 12)
    · rw [if_pos z, Nat.add_sub_cancel]
      by_cases w : y = q
      · subst w; exact Or.inr ⟨rfl, Nat.le_refl _⟩
      · rcases z.2 with z2 | z2
        · exact absurd z2 (fewT_ex en q y (by omega) e)
        · have ne : fewT en q ≠ 0 := fewT_ex en q y (by omega) e
          rcases fewT_min en q ne y (by omega) e with v | v
          · exact Or.inl (by omega)
          · exact Or.inl (by omega)
    · rw [if_neg z] at h ⊢
      by_cases w : y = q
      · subst w
        have : ¬ bsum y 12 < bsum (fewT en y - 1) 12 := fun r => z ⟨e, Or.inr r⟩
        rcases Nat.lt_or_ge (bsum (fewT en y - 1) 12) (bsum y 12) with v | v
        · exact Or.inl v
        · exact Or.inr ⟨by omega, by omega⟩
      · exact fewT_min en q h y (by omega) e
theorem fewT_is {en : Nat → Bool} {q r : Nat} (hr : r < q) (he : en r = true) (hm : ∀ y, y < q → en y = true → bsum r 12 < bsum y 12 ∨ (bsum r 12 = bsum y 12 ∧ r ≤ y)) : fewT en q = r + 1 := by
  have ne := fewT_ex en q r hr he
  have le := fewT_le en q
  have a := fewT_min en q ne r hr he
  have b := hm (fewT en q - 1) (by omega) (fewT_en en q ne)
  omega
theorem mod_s (x b : Nat) : x % 2 ^ (b + 1) = x % 2 ^ b + 2 ^ b * (x.testBit b).toNat := by
  rw [Nat.pow_succ, Nat.mod_mul, ← bt1, Nat.shiftRight_eq_div_pow]
/-- places, as witnesses -/
def wmask (c : CD) (s x : Nat) : Nat → Nat
  | 0 => 0
  | n + 1 => if c.suit n = s then wmask c s x n ||| (if x.testBit (cnt c s n) then 1 <<< n else 0) else wmask c s x n
def memb (c : CD) (s : Nat) : Nat → Nat
  | 0 => 0
  | n + 1 => if c.suit n = s then memb c s n ||| 1 <<< n else memb c s n
theorem wmask_lt (c : CD) (s x : Nat) : ∀ n, wmask c s x n < 2 ^ n
  | 0 => Nat.zero_lt_one
  | n + 1 => by
    have ih := wmask_lt c s x n
    have p : wmask c s x n < 2 ^ (n + 1) := by rw [Nat.pow_succ]; omega
    rw [wmask]
    by_cases z : c.suit n = s
    · rw [if_pos z]
      refine Nat.or_lt_two_pow p ?_
      split
      · rw [Nat.one_shiftLeft]; exact Nat.pow_lt_pow_right (by omega) (by omega)
      · exact Nat.two_pow_pos _
    · rw [if_neg z]; exact p
theorem memb_lt (c : CD) (s : Nat) : ∀ n, memb c s n < 2 ^ n
  | 0 => Nat.zero_lt_one
  | n + 1 => by
    have ih := memb_lt c s n
    have p : memb c s n < 2 ^ (n + 1) := by rw [Nat.pow_succ]; omega
    rw [memb]
    by_cases z : c.suit n = s
    · rw [if_pos z]
      refine Nat.or_lt_two_pow p ?_
      rw [Nat.one_shiftLeft]; exact Nat.pow_lt_pow_right (by omega) (by omega)
    · rw [if_neg z]; exact p
theorem bsum_set {m n : Nat} (h : m < 2 ^ n) (hn : n < 12) : bsum (m ||| 1 <<< n) 12 = bsum m 12 + 1 := by
  have mn : m.testBit n = false := Nat.testBit_lt_two_pow h
  have e : (m ||| 1 <<< n) ^^^ 1 <<< n = m := by
    apply Nat.eq_of_testBit_eq
    intro i
    rw [tb_flip, Nat.testBit_or, Nat.one_shiftLeft, Nat.testBit_two_pow]
    by_cases z : n = i
    · subst z; rw [mn, decide_eq_true rfl]; rfl
    · rw [decide_eq_false z, Bool.or_false]
      cases m.testBit i <;> rfl
  have b := bsum_rm (U := m ||| 1 <<< n) (i := n) (by rw [Nat.testBit_or, Nat.one_shiftLeft, Nat.testBit_two_pow, decide_eq_true rfl, Bool.or_true]) 12
  rw [e, if_pos hn] at b
  exact b
theorem bsum_0 : ∀ m, bsum 0 m = 0
  | 0 => rfl
  | m + 1 => by rw [bsum, bsum_0 m, bt1, Nat.zero_testBit]; rfl
theorem wmask_bits (c : CD) (s x : Nat) : ∀ n, n ≤ 12 → bsum (wmask c s x n) 12 = bsum x (cnt c s n)
  | 0, _ => bsum_0 12
  | n + 1, h => by
    have ih := wmask_bits c s x n (by omega)
    rw [wmask]
    by_cases z : c.suit n = s
    · rw [if_pos z, cnt_s z, show bsum x (cnt c s n + 1) = bsum x (cnt c s n) + (x >>> cnt c s n) % 2 from rfl, bt1]
      cases y : x.testBit (cnt c s n) with
      | false =>
        rw [if_neg (by decide), Nat.or_zero, ih]; rfl
      | true =>
        rw [if_pos rfl, bsum_set (wmask_lt c s x n) (by omega), ih]; rfl
    · rw [if_neg z, cnt_n z]; exact ih
theorem bsum_small {x k : Nat} (h : x < 2 ^ k) : ∀ m, k ≤ m → bsum x m = bsum x k
  | 0, hk => by have : k = 0 := by omega
                subst this; rfl
  | m + 1, hk => by
    by_cases z : k = m + 1
    · rw [z]
    · rw [bsum, bsum_small h m (by omega), bt1, Nat.testBit_lt_two_pow (Nat.lt_of_lt_of_le h (Nat.pow_le_pow_right (by omega) (show k ≤ m by omega)))]
      rfl
theorem or_plus {m n : Nat} (h : m < 2 ^ n) : m ||| 1 <<< n = 2 ^ n + m := or_add h
theorem wmask_mod (c : CD) (s : Nat) (x y : Nat) : ∀ n, (x % 2 ^ cnt c s n = y % 2 ^ cnt c s n → wmask c s x n = wmask c s y n) ∧ (x % 2 ^ cnt c s n < y % 2 ^ cnt c s n → wmask c s x n < wmask c s y n)
  | 0 => by
    refine ⟨fun _ => rfl, fun h => ?_⟩
    have : cnt c s 0 = 0 := rfl
    rw [this, Nat.pow_zero, Nat.mod_one, Nat.mod_one] at h
    exact absurd h (Nat.lt_irrefl 0)
  | n + 1 => by
    obtain ⟨i1, i2⟩ := wmask_mod c s x y n
    rw [wmask, wmask]
    by_cases z : c.suit n = s
    · rw [if_pos z, if_pos z, cnt_s z, mod_s, mod_s]
      have lx := wmask_lt c s x n
      have ly := wmask_lt c s y n
      have mx := Nat.mod_lt x (Nat.two_pow_pos (cnt c s n))
      have my := Nat.mod_lt y (Nat.two_pow_pos (cnt c s n))
      have ox := or_plus lx
      have oy := or_plus ly
      cases bx : x.testBit (cnt c s n) with
      | false =>
        cases by' : y.testBit (cnt c s n) with
        | false =>
          rw [if_neg (by decide), Nat.or_zero, Nat.or_zero]
          simp only [Bool.toNat_false, Nat.mul_zero, Nat.add_zero]
          exact ⟨i1, i2⟩
        | true =>
          rw [if_neg (by decide), if_pos rfl, Nat.or_zero, oy]
          simp only [Bool.toNat_false, Bool.toNat_true, Nat.mul_zero, Nat.add_zero, Nat.mul_one]
          exact ⟨fun h => by omega, fun h => by omega⟩
      | true =>
        cases by' : y.testBit (cnt c s n) with
        | false =>
          rw [if_pos rfl, if_neg (by decide), Nat.or_zero, ox]
          simp only [Bool.toNat_false, Bool.toNat_true, Nat.mul_zero, Nat.add_zero, Nat.mul_one]
          exact ⟨fun h => by omega, fun h => by omega⟩
        | true =>
          rw [if_pos rfl, ox, oy]
          simp only [Bool.toNat_true, Nat.mul_one]
          exact ⟨fun h => by have := i1 (by omega); omega, fun h => by have := i2 (by omega); omega⟩
    · rw [if_neg z, if_neg z, cnt_n z]
      exact ⟨i1, i2⟩
/-- what is within the members is some places -/
theorem wmask_sur (c : CD) (s : Nat) : ∀ n v, v < 2 ^ n → v &&& memb c s n = v → ∃ x, x < 2 ^ cnt c s n ∧ wmask c s x n = v
  | 0, v, h, _ => ⟨0, Nat.zero_lt_one, by rw [Nat.pow_zero] at h; show 0 = v; omega⟩
  | n + 1, v, h, hs => by
    have vbit : ∀ i, v.testBit i = true → (memb c s (n + 1)).testBit i = true := fun i hi => sub_bit hs hi
    by_cases z : c.suit n = s
    · have hm : memb c s (n + 1) = memb c s n ||| 1 <<< n := by rw [memb, if_pos z]
      have lo : v % 2 ^ n < 2 ^ n := Nat.mod_lt _ (Nat.two_pow_pos n)
      have sub : v % 2 ^ n &&& memb c s n = v % 2 ^ n := sub_of (fun i hi => by
        rw [Nat.testBit_mod_two_pow, Bool.and_eq_true] at hi
        have := vbit i hi.2
        have li := of_decide_eq_true hi.1
        rw [hm, Nat.testBit_or, Nat.one_shiftLeft, Nat.testBit_two_pow, decide_eq_false (show ¬ n = i by omega), Bool.or_false] at this
        exact this)
      obtain ⟨x, x1, x2⟩ := wmask_sur c s n (v % 2 ^ n) lo sub
      have vs := mod_s v n
      rw [Nat.mod_eq_of_lt h] at vs
      have same : ∀ x', x' % 2 ^ cnt c s n = x % 2 ^ cnt c s n → wmask c s x' n = v % 2 ^ n := fun x' hx => by rw [(wmask_mod c s x' x n).1 hx, x2]
      have xb : x.testBit (cnt c s n) = false := Nat.testBit_lt_two_pow x1
      cases y : v.testBit n with
      | false =>
        refine ⟨x, by rw [cnt_s z, Nat.pow_succ]; omega, ?_⟩
        rw [wmask, if_pos z, xb, if_neg (by decide), Nat.or_zero, x2]
        rw [y] at vs
        simp only [Bool.toNat_false, Nat.mul_zero, Nat.add_zero] at vs
        exact vs.symm
      | true =>
        have ex : x ||| 1 <<< cnt c s n = 2 ^ cnt c s n + x := or_plus x1
        refine ⟨x ||| 1 <<< cnt c s n, by rw [ex, cnt_s z, Nat.pow_succ]; omega, ?_⟩
        have tb : (x ||| 1 <<< cnt c s n).testBit (cnt c s n) = true := by rw [Nat.testBit_or, Nat.one_shiftLeft, Nat.testBit_two_pow, decide_eq_true rfl, Bool.or_true]
        rw [wmask, if_pos z, tb, if_pos rfl, same _ (by rw [ex, Nat.add_mod_left]), or_plus lo]
        rw [y] at vs
        simp only [Bool.toNat_true, Nat.mul_one] at vs
        omega
    · have hm : memb c s (n + 1) = memb c s n := by rw [memb, if_neg z]
      have vn : v.testBit n = false := by
        cases y : v.testBit n with
        | false => rfl
        | true =>
          have := vbit n y
          rw [hm, Nat.testBit_lt_two_pow (memb_lt c s n)] at this
          exact absurd this (by decide)
      have vs := mod_s v n
      rw [Nat.mod_eq_of_lt h, vn] at vs
      simp only [Bool.toNat_false, Nat.mul_zero, Nat.add_zero] at vs
      have vl : v < 2 ^ n := by
        have := Nat.mod_lt v (Nat.two_pow_pos n)
        omega
      obtain ⟨x, x1, x2⟩ := wmask_sur c s n v vl (by rw [← hm]; exact hs)
      exact ⟨x, by rw [cnt_n z]; exact x1, by rw [wmask, if_neg z]; exact x2⟩
theorem wmask_bit (c : CD) (s x : Nat) : ∀ n i, i < cnt c s n → (wmask c s x n).testBit (own c s n i) = x.testBit i
  | 0, i, h => absurd h (Nat.not_lt_zero i)
  | n + 1, i, h => by
    rw [wmask, own]
    by_cases z : c.suit n = s
    · rw [if_pos z, if_pos z]
      rw [cnt_s z] at h
      by_cases y : i = cnt c s n
      · subst y
        rw [nup_s, Nat.testBit_or, Nat.testBit_lt_two_pow (wmask_lt c s x n), Bool.false_or]
        cases x.testBit (cnt c s n) with
        | false => rw [if_neg (by decide), Nat.zero_testBit]
        | true => rw [if_pos rfl, Nat.one_shiftLeft, Nat.testBit_two_pow, decide_eq_true rfl]
      · rw [nup_n _ _ y]
        have lt := (own_at c s n i (by omega)).1
        have ih := wmask_bit c s x n i (by omega)
        rw [Nat.testBit_or, ih]
        cases x.testBit (cnt c s n) with
        | false => rw [if_neg (by decide), Nat.zero_testBit, Bool.or_false]
        | true => rw [if_pos rfl, Nat.one_shiftLeft, Nat.testBit_two_pow, decide_eq_false (by omega), Bool.or_false]
    · rw [if_neg z, if_neg z]
      rw [cnt_n z] at h
      exact wmask_bit c s x n i h
theorem wmask_sub (c : CD) (s x : Nat) : ∀ n, wmask c s x n &&& memb c s n = wmask c s x n
  | 0 => (show (0 : Nat) &&& 0 = 0 by decide)
  | n + 1 => by
    have ih := wmask_sub c s x n
    rw [wmask, memb]
    by_cases z : c.suit n = s
    · rw [if_pos z, if_pos z]
      refine sub_of (fun i hi => ?_)
      rw [Nat.testBit_or, Bool.or_eq_true] at hi ⊢
      rcases hi with hi | hi
      · exact Or.inl (sub_bit ih hi)
      · right
        cases y : x.testBit (cnt c s n) with
        | false => rw [y, if_neg (by decide), Nat.zero_testBit] at hi; exact absurd hi (by decide)
        | true => rw [y, if_pos rfl] at hi; exact hi
    · rw [if_neg z, if_neg z]; exact ih
