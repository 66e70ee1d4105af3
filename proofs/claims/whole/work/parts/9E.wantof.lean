/-! turns: the reference's wantOf -/
theorem i64_sub {x y : Int64} (h1 : -2 ^ 62 ≤ x.toInt - y.toInt) (h2 : x.toInt - y.toInt ≤ 2 ^ 62) : (x - y).toInt = x.toInt - y.toInt := by
  rw [Int64.toInt_sub]
  exact Int.bmod_eq_of_le (by omega) (by omega)
theorem m_wantOf {c : CD} {l : LD} {d : SD} {s P i t : Nat} {m : Ob} (hc : OKC c) (hl : OKL l) (hd : OKS c.S d) (hs : s < c.S) (h1 : MC c m) (h2 : ML l m) (h3 : MS c.S d m) (h40 : gi m 40 = nI (cnt c s c.W)) (h39 : ∀ i, i < cnt c s c.W → ga m 39 i = nI (own c s c.W i)) (hP : P < 64) (hi : P.testBit i = true) (hin : i < cnt c s c.W) (ht : t ≤ 6) (hall : ∀ j, j < cnt c s c.W → (P ^^^ 1 <<< i).testBit j = true → (gb m 45 (P ^^^ 1 <<< i ^^^ 1 <<< j)).toInt ≤ 2 ^ 60) : ∃ r : Int64, pX11_wantOf m (nI s) (nI P) (nI i) (nI (bsum P 12 + 2 * t)) = some r ∧ r.toInt ≤ 2 ^ 60 ∧ -2 ^ 61 ≤ r.toInt ∧ (∀ a : Nat, a + fw c l d s i 0 * 2 ^ t < 2 ^ 59 → (r.toInt ≤ (a : Int) ↔ (3 * c.need s * 2 ^ t ≤ d.whole s + a + fw c l d s i 0 * 2 ^ t ∨ (P ^^^ 1 <<< i ≠ 0 ∧ ∀ j, j < cnt c s c.W → (P ^^^ 1 <<< i).testBit j = true → (gb m 45 (P ^^^ 1 <<< i ^^^ 1 <<< j)).toInt ≤ ((a + fw c l d s i 0 * 2 ^ t : Nat) : Int))))) := by
  have h6 := hc.1
  have hn := hc.2.2.2.2 s hs
  have bd := hd.1
  have hnd := (hc.2.2.1 s hs).2.1
  have hw := (hd.2.2.2.2.1 s hs).1
  have hsp := hd.2.1
  obtain ⟨o1, o2⟩ := own_at c s c.W i hin
  have hf := m_fresh (t := d.day) hc hl h1 h2 o1 (by omega)
  have bf := fresh_le hc hl o1 d.day
  have ef : fw c l d s i 0 = fresh c l (own c s c.W i) d.day := by
    unfold fw
    rw [if_pos hin, Nat.add_zero]
  rw [← ef] at hf bf
  generalize fw c l d s i 0 = fr at *
  have pt : 2 ^ t ≤ 2 ^ 6 := Nat.pow_le_pow_right (by omega) ht
  have y4b : fr * 2 ^ t ≤ 594 * 2 ^ 6 := Nat.mul_le_mul bf pt
  have y5b : 3 * c.need s * 2 ^ t ≤ 2997 * 2 ^ 6 := Nat.mul_le_mul (by omega) pt
  have bP := bsum_le P 12
  have fl := flip_lt hP (show i < 6 by omega)
  have x2 : (nI (bsum P 12 + 2 * t) - nI (bsum P 12)) / (2 : Int32) = nI t := by
    rw [pk_sub (by omega), show bsum P 12 + 2 * t - bsum P 12 = 2 * t by omega]
    have := pk_div (a := 2 * t) (d := 2) (by omega) (by omega) (by omega)
    rw [show 2 * t / 2 = t by omega] at this
    exact this
  have w17 := (h3.2.2.2.2.1 s hs).1
  have w1 := (h1.2.2.1 s hs).1
  have hz : ∀ o : Option Int64, znz (2 : Int32) o = o := fun o => if_neg (by decide)
  generalize hy5 : lN (3 * c.need s * 2 ^ t) - lN (d.whole s) = y5
  have y5i : y5.toInt = ((3 * c.need s * 2 ^ t : Nat) : Int) - (d.whole s : Nat) := by
    rw [← hy5, i64_sub (by rw [pk_lT (by omega), pk_lT (by omega)]; omega) (by rw [pk_lT (by omega), pk_lT (by omega)]; omega), pk_lT (by omega), pk_lT (by omega)]
  have y4i : (lN (fr * 2 ^ t)).toInt = ((fr * 2 ^ t : Nat) : Int) := pk_lT (by omega)
  generalize hy4 : lN (fr * 2 ^ t) = y4 at *
  -- the word, once the most is known
  have fin : ∀ (lo : Int64), lo.toInt ≤ 2 ^ 60 → -2 ^ 60 ≤ lo.toInt → (if nI (P ^^^ 1 <<< i) = (0 : Int32) then lo = 1152921504606846976 else lo = -1152921504606846976) → ∃ y8 : Int64, pX11_wantOf m (nI s) (nI P) (nI i) (nI (bsum P 12 + 2 * t)) = some (if y8 ≤ y5 then y8 - y4 else y5 - y4) ∧ lo.toInt ≤ y8.toInt ∧ y8.toInt ≤ 2 ^ 60 ∧ (∀ B : Int, lo.toInt ≤ B → (y8.toInt ≤ B ↔ ∀ j, j < cnt c s c.W → (P ^^^ 1 <<< i).testBit j = true → (gb m 45 (P ^^^ 1 <<< i ^^^ 1 <<< j)).toInt ≤ B)) := by
    intro lo l1 l2 l3
    obtain ⟨y8, k1, k2, k3, k4⟩ := m_want83 hn h40 fl lo (2 ^ 60) l1 hall
    refine ⟨y8, ?_, k2, k3, k4⟩
    have k1' : ∀ K : Int64 → Option Int64, lX11_wantOf_83 m (nI (P ^^^ 1 <<< i)) K zfu lo (0 : Int32) = K y8 := k1
    unfold pX11_wantOf
    rw [m_bits (by omega), u_bd, hz, x2, u_let, u_gd (by omega), nI_clamp (n := i) (by omega), h39 i hin, h3.1, hf, u_bd, nI_l (n := fr) (by omega), wb_shl (k := t) _ (by omega), u_let, u_gd (by omega), u_gd (by omega), nI_clamp (n := s) (by omega), w1, w17, nI_l (n := c.need s) (by omega), nI_l (n := d.whole s) (by omega), show (3 : Int64) * lN (c.need s) = lN (3 * c.need s) from lN_mul 3 _, wb_shl (k := t) _ (by omega), u_let, rm_word hi (by omega), u_let, u_jn, hy4, hy5]
    by_cases z : nI (P ^^^ 1 <<< i) = (0 : Int32)
    · rw [if_pos z] at l3
      rw [if_pos z]
      dsimp only
      rw [u_jn, ← l3, k1']
      by_cases w : y8 ≤ y5
      · rw [if_pos w, if_pos w]
      · rw [if_neg w, if_neg w]
    · rw [if_neg z] at l3
      rw [if_neg z]
      dsimp only
      rw [u_jn, ← l3, k1']
      by_cases w : y8 ≤ y5
      · rw [if_pos w, if_pos w]
      · rw [if_neg w, if_neg w]
  have big : (1152921504606846976 : Int64).toInt = 2 ^ 60 := by decide
  have low : (-1152921504606846976 : Int64).toInt = -2 ^ 60 := by decide
  -- the value of what is answered
  have val : ∀ y8 : Int64, -2 ^ 60 ≤ y8.toInt → y8.toInt ≤ 2 ^ 60 → ((if y8 ≤ y5 then y8 - y4 else y5 - y4).toInt ≤ 2 ^ 60 ∧ -2 ^ 61 ≤ (if y8 ≤ y5 then y8 - y4 else y5 - y4).toInt ∧ ∀ a : Int, (if y8 ≤ y5 then y8 - y4 else y5 - y4).toInt ≤ a ↔ (y5.toInt ≤ a + y4.toInt ∨ y8.toInt ≤ a + y4.toInt)) := by
    intro y8 v1 v2
    by_cases w : y8 ≤ y5
    · have w' := Int64.le_iff_toInt_le.mp w
      rw [if_pos w, i64_sub (by omega) (by omega)]
      exact ⟨by omega, by omega, fun a => by omega⟩
    · have w' : ¬ y8.toInt ≤ y5.toInt := fun r => w (Int64.le_iff_toInt_le.mpr r)
      rw [if_neg w, i64_sub (by omega) (by omega)]
      exact ⟨by omega, by omega, fun a => by omega⟩
  by_cases z : P ^^^ 1 <<< i = 0
  · obtain ⟨y8, f1, f2, f3, f4⟩ := fin 1152921504606846976 (by omega) (by omega) (by rw [z, if_pos (show nI 0 = (0 : Int32) from rfl)])
    obtain ⟨v1, v2, v3⟩ := val y8 (by omega) f3
    refine ⟨_, f1, v1, v2, fun a ha => ?_⟩
    rw [v3]
    constructor
    · rintro (r | r)
      · exact Or.inl (by omega)
      · omega
    · rintro (r | r)
      · exact Or.inl (by omega)
      · exact absurd z r.1
  · obtain ⟨y8, f1, f2, f3, f4⟩ := fin (-1152921504606846976) (by omega) (by omega) (by rw [if_neg (nI_ne0 (by omega) (by omega))])
    obtain ⟨v1, v2, v3⟩ := val y8 (by omega) f3
    refine ⟨_, f1, v1, v2, fun a ha => ?_⟩
    rw [v3]
    have k := f4 (a + y4.toInt) (by omega)
    rw [k]
    have e : (a : Int) + y4.toInt = ((a + fr * 2 ^ t : Nat) : Int) := by omega
    rw [e]
    constructor
    · rintro (r | r)
      · exact Or.inl (by omega)
      · exact Or.inr ⟨z, r⟩
    · rintro (r | r)
      · exact Or.inl (by omega)
      · exact Or.inr r.2
