/-! cut: the class's fewest to strike -/
def stB (win : Nat → Bool) (x : Nat) : Nat → Bool
  | 0 => true
  | q + 1 => stB win x q && (!win q || decide (q &&& x ≠ 0))
theorem stB_iff (win : Nat → Bool) (x : Nat) : ∀ n, stB win x n = true ↔ ∀ T, T < n → win T = true → T &&& x ≠ 0
  | 0 => ⟨fun _ T h => absurd h (Nat.not_lt_zero T), fun _ => rfl⟩
  | n + 1 => by
    rw [stB, Bool.and_eq_true, stB_iff win x n]
    constructor
    · rintro ⟨a, b⟩ T hT hw
      by_cases z : T = n
      · subst z
        rw [hw] at b
        exact of_decide_eq_true b
      · exact a T (by omega) hw
    · intro h
      refine ⟨fun T hT hw => h T (by omega) hw, ?_⟩
      cases z : win n with
      | false => rfl
      | true => exact decide_eq_true (h n (by omega) z)
theorem h_stops {n : Nat} {o oc ow os : Ob} {win : Nat → Bool} (hn : n ≤ 6) (h8 : gi o 8 = nI n) (h6 : ∀ T, T < 2 ^ n → ga o 6 T = nI (bN (win T))) {x : Nat} (hx : x < 64) : pX1_stopsAll o oc ow os (nI x) = some (nI (bN (stB win x (2 ^ n)))) := by
  have p2 := p2_le hn
  have eA := h_all (oc := oc) (ow := ow) (os := os) hn h8
  unfold pX1_stopsAll
  have key : ∀ g q f, q + g = 2 ^ n → g < f → stB win x q = true → lX1_stopsAll_2 o oc ow os (nI x) f (nI q) = some (nI (bN (stB win x (2 ^ n)))) := by
    intro g
    induction g with
    | zero =>
      intro q f hq hf hs
      have : q = 2 ^ n := by omega
      subst this
      obtain ⟨f, rfl⟩ : ∃ g, f = g + 1 := ⟨f - 1, by omega⟩
      rw [lX1_stopsAll_2, eA, u_bd, if_pos (nI_lt (by omega) (by omega)), hs]
      rfl
    | succ g ih =>
      intro q f hq hf hs
      obtain ⟨f, rfl⟩ : ∃ g, f = g + 1 := ⟨f - 1, by omega⟩
      rw [lX1_stopsAll_2, eA, u_bd, if_neg (nI_nlt (by omega) (by omega)), u_gd (by omega), u_jn, nI_clamp (n := q) (by omega), h6 q (by omega), u_let, show nI q + (1 : Int32) = nI (q + 1) from nI_add _ _]
      cases z : win q with
      | false =>
        rw [if_pos (show nI (bN false) = (0 : Int32) by decide)]
        exact ih (q + 1) f (by omega) (by omega) (by rw [stB, hs, z]; rfl)
      | true =>
        rw [if_neg (show ¬ nI (bN true) = (0 : Int32) by decide), fa_and]
        have ql : q &&& x ≤ q := Nat.and_le_left
        by_cases y : q &&& x = 0
        · rw [y, if_pos (show nI 0 = (0 : Int32) from rfl)]
          have : stB win x (2 ^ n) = false := by
            cases w : stB win x (2 ^ n) with
            | false => rfl
            | true => exact absurd y ((stB_iff win x (2 ^ n)).mp w q (by omega) z)
          rw [this]
          rfl
        · rw [if_neg (nI_ne0 (by omega) (by omega))]
          exact ih (q + 1) f (by omega) (by omega) (by rw [stB, hs, z, decide_eq_true y]; rfl)
  exact key (2 ^ n) 0 zfu (by omega) (u_zfu (by omega)) rfl
theorem all_bits : ∀ n : Fin 7, ∀ x : Fin 64, x.val < 2 ^ n.val - 1 → bsum x.val 12 < bsum (2 ^ n.val - 1) 12 := by decide +kernel
/-- the best of those before the last, the last being as good as none -/
def orAll (f a : Nat) : Nat := if f = 0 then a else f - 1
theorem h_strikes {n : Nat} {o oc ow os : Ob} {win : Nat → Bool} (hn : n ≤ 6) (h8 : gi o 8 = nI n) (h6 : ∀ T, T < 2 ^ n → ga o 6 T = nI (bN (win T))) (K : Int32 → Option (Int32 × Ob)) : lX1_fewestToStrike_27 oc ow os o K zfu (nI (2 ^ n - 1)) 0 = K (nI (orAll (fewT (fun x => stB win x (2 ^ n)) (2 ^ n - 1)) (2 ^ n - 1))) := by
  have p2 := p2_le hn
  have eA := h_all (oc := oc) (ow := ow) (os := os) hn h8
  have fl := fewT_le (fun x => stB win x (2 ^ n))
  have init : nI (2 ^ n - 1) = nI (orAll (fewT (fun x => stB win x (2 ^ n)) 0) (2 ^ n - 1)) := rfl
  rw [init]
  refine u_loop (fun f q => lX1_fewestToStrike_27 oc ow os o K f (nI (orAll (fewT (fun x => stB win x (2 ^ n)) q) (2 ^ n - 1))) (nI q)) (2 ^ n - 1) _ (fun f q hq => ?_) (fun f => ?_) zfu 0 (Nat.zero_le _) (u_zfu (by omega))
  · have flq := fl q
    have ole : orAll (fewT (fun x => stB win x (2 ^ n)) q) (2 ^ n - 1) < 64 := by
      unfold orAll
      split <;> omega
    have b1 := bsum_le q 12
    have b2 := bsum_le (orAll (fewT (fun x => stB win x (2 ^ n)) q) (2 ^ n - 1)) 12
    have hs := h_stops (oc := oc) (ow := ow) (os := os) hn h8 h6 (x := q) (by omega)
    -- when the bits are fewer
    have few : (bsum q 12 < bsum (orAll (fewT (fun x => stB win x (2 ^ n)) q) (2 ^ n - 1)) 12) ↔ (fewT (fun x => stB win x (2 ^ n)) q = 0 ∨ bsum q 12 < bsum (fewT (fun x => stB win x (2 ^ n)) q - 1) 12) := by
      unfold orAll
      by_cases z : fewT (fun x => stB win x (2 ^ n)) q = 0
      · rw [if_pos z]
        exact ⟨fun _ => Or.inl z, fun _ => all_bits ⟨n, by omega⟩ ⟨q, by omega⟩ hq⟩
      · rw [if_neg z]
        exact ⟨Or.inr, fun h => by
          rcases h with h | h
          · exact absurd h z
          · exact h⟩
    show lX1_fewestToStrike_27 oc ow os o K (f + 1) _ (nI q) = lX1_fewestToStrike_27 oc ow os o K f (nI (orAll (fewT (fun x => stB win x (2 ^ n)) (q + 1)) (2 ^ n - 1))) (nI (q + 1))
    rw [lX1_fewestToStrike_27, eA, u_bd, if_neg (nI_ge hq (by omega)), h_bits (x := q) (by omega), u_bd, h_bits (by omega), u_bd, u_jn, fewT]
    by_cases w : bsum q 12 < bsum (orAll (fewT (fun x => stB win x (2 ^ n)) q) (2 ^ n - 1)) 12
    · rw [if_neg (nI_ge w (by omega)), hs, u_bd]
      cases z : stB win q (2 ^ n) with
      | false =>
        rw [if_pos (show nI (bN false) = (0 : Int32) by decide), if_neg (fun r => absurd r.1 (by decide))]
        dsimp only
        rw [u_let, show nI q + (1 : Int32) = nI (q + 1) from nI_add _ _]
      | true =>
        rw [if_neg (show ¬ nI (bN true) = (0 : Int32) by decide), if_pos ⟨rfl, few.mp w⟩]
        dsimp only
        rw [u_let, show nI q + (1 : Int32) = nI (q + 1) from nI_add _ _]
        rfl
    · rw [if_pos (nI_le (by omega) (by omega)), if_neg (fun r => w (few.mpr r.2))]
      dsimp only
      rw [u_let, show nI q + (1 : Int32) = nI (q + 1) from nI_add _ _]
  · show lX1_fewestToStrike_27 oc ow os o K (f + 1) _ (nI (2 ^ n - 1)) = _
    rw [lX1_fewestToStrike_27, eA, u_bd, if_pos (nI_le (Nat.le_refl _) (by omega))]
/-- with the last too -/
theorem orAll_is {n : Nat} {en : Nat → Bool} (hn : n ≤ 6) (ha : en (2 ^ n - 1) = true) : fewT en (2 ^ n) = orAll (fewT en (2 ^ n - 1)) (2 ^ n - 1) + 1 := by
  have p2 := p2_le hn
  have e : 2 ^ n = (2 ^ n - 1) + 1 := by omega
  have f : fewT en (2 ^ n) = fewT en ((2 ^ n - 1) + 1) := by rw [← e]
  have le := fewT_le en (2 ^ n - 1)
  rw [f, fewT, ha]
  unfold orAll
  by_cases z : fewT en (2 ^ n - 1) = 0
  · rw [if_pos z, if_pos ⟨rfl, Or.inl z⟩]
  · rw [if_neg z, if_neg (fun r => by
      rcases r.2 with r | r
      · exact z r
      · have := all_bits ⟨n, by omega⟩ ⟨fewT en (2 ^ n - 1) - 1, by omega⟩ (by show fewT en (2 ^ n - 1) - 1 < 2 ^ n - 1; omega)
        have : bsum (fewT en (2 ^ n - 1) - 1) 12 < bsum (2 ^ n - 1) 12 := this
        omega)]
    omega
/-- places written as witnesses -/
theorem h_asW {c : CD} {s x : Nat} {o oc ow os : Ob} (hW : c.W ≤ 12) (hn : cnt c s c.W ≤ 6) (h8 : gi o 8 = nI (cnt c s c.W)) (h1 : ∀ i, i < cnt c s c.W → ga o 1 i = nI (own c s c.W i)) (hx : x < 64) : pX1_asWitnesses o oc ow os (nI x) = some (nI (wmask c s x c.W)) := by
  -- what the first m places give, on the witness side
  have part : ∀ n m, m ≤ cnt c s n → n ≤ 12 → ∃ v, v < 2 ^ n ∧ (∀ w, v.testBit w = true ↔ ∃ i, i < m ∧ own c s n i = w ∧ x.testBit i = true) := by
    intro n m hm hn12
    induction m with
    | zero => exact ⟨0, Nat.two_pow_pos n, fun w => ⟨fun h => by rw [Nat.zero_testBit] at h; exact absurd h (by decide), fun ⟨i, h, _⟩ => absurd h (Nat.not_lt_zero i)⟩⟩
    | succ m ih =>
      obtain ⟨v, v1, v2⟩ := ih (by omega)
      have lt := (own_at c s n m (by omega)).1
      refine ⟨v ||| (if x.testBit m then 1 <<< own c s n m else 0), Nat.or_lt_two_pow v1 ?_, fun w => ?_⟩
      · split
        · rw [Nat.one_shiftLeft]; exact Nat.pow_lt_pow_right (by omega) lt
        · exact Nat.two_pow_pos _
      · rw [Nat.testBit_or, Bool.or_eq_true, v2]
        constructor
        · rintro (⟨i, a, b, e⟩ | h)
          · exact ⟨i, by omega, b, e⟩
          · cases y : x.testBit m with
            | false => rw [y, if_neg (by decide), Nat.zero_testBit] at h; exact absurd h (by decide)
            | true =>
              rw [y, if_pos rfl, Nat.one_shiftLeft, Nat.testBit_two_pow] at h
              exact ⟨m, by omega, of_decide_eq_true h, y⟩
        · rintro ⟨i, a, b, e⟩
          by_cases z : i = m
          · subst z
            right
            rw [e, if_pos rfl, Nat.one_shiftLeft, Nat.testBit_two_pow, b]
            exact decide_eq_true rfl
          · exact Or.inl ⟨i, by omega, b, e⟩
  unfold pX1_asWitnesses
  have key := u_loopP (fun f q (v : Nat) => lX1_asWitnesses_4 o (nI x) f (nI v) (nI q)) (fun q v => v < 4096 ∧ (∀ w, v.testBit w = true ↔ ∃ i, i < q ∧ own c s c.W i = w ∧ x.testBit i = true)) (fun r => ∃ v, r = some (nI v) ∧ (∀ w, v.testBit w = true ↔ ∃ i, i < cnt c s c.W ∧ own c s c.W i = w ∧ x.testBit i = true)) (cnt c s c.W) (fun f q v hq hP => ?_) (fun f v hP => ?_) zfu 0 0 (by omega) (u_zfu (by omega)) ⟨by omega, fun w => ⟨fun h => by rw [Nat.zero_testBit] at h; exact absurd h (by decide), fun ⟨i, h, _⟩ => absurd h (Nat.not_lt_zero i)⟩⟩
  · obtain ⟨v, v1, v2⟩ := key
    have : v = wmask c s x c.W := by
      apply Nat.eq_of_testBit_eq
      intro w
      have sb := wmask_sub c s x c.W
      have l : v.testBit w = true ↔ (wmask c s x c.W).testBit w = true := by
        rw [v2]
        constructor
        · rintro ⟨i, a, b, e⟩
          rw [← b, wmask_bit c s x c.W i a]; exact e
        · intro h
          have hm := sub_bit sb h
          have mem : ∀ n, (memb c s n).testBit w = true → w < n ∧ c.suit w = s := by
            intro n
            induction n with
            | zero => intro h; rw [memb, Nat.zero_testBit] at h; exact absurd h (by decide)
            | succ n ih =>
              intro h
              rw [memb] at h
              by_cases z : c.suit n = s
              · rw [if_pos z, Nat.testBit_or, Bool.or_eq_true] at h
                rcases h with h | h
                · have := ih h; exact ⟨by omega, this.2⟩
                · rw [Nat.one_shiftLeft, Nat.testBit_two_pow] at h
                  have := of_decide_eq_true h
                  subst this; exact ⟨by omega, z⟩
              · rw [if_neg z] at h
                have := ih h; exact ⟨by omega, this.2⟩
          obtain ⟨w1, w2⟩ := mem c.W hm
          obtain ⟨i, i1, i2⟩ := own_of c s c.W w w1 w2
          exact ⟨i, i1, i2, by rw [← wmask_bit c s x c.W i i1, i2]; exact h⟩
      cases y : v.testBit w with
      | true => exact (l.mp y).symm
      | false =>
        cases y2 : (wmask c s x c.W).testBit w with
        | false => rfl
        | true => rw [l.mpr y2] at y; exact absurd y (by decide)
    rw [← this]
    exact v1
  · obtain ⟨p1, p2⟩ := hP
    have lt := (own_at c s c.W q hq).1
    have bit : (nI x >>> (nI q &&& 31)) &&& (1 : Int32) = nI (bN (x.testBit q)) := by
      have h1 : x >>> q < 2147483648 := by rw [Nat.shiftRight_eq_div_pow]; exact Nat.lt_of_le_of_lt (Nat.div_le_self _ _) (by omega)
      rw [show nI x >>> (nI q &&& 31) = nI (x >>> q) from u_shr (by omega) (by omega), show nI (x >>> q) &&& (1 : Int32) = nI (x >>> q % 2) from u_and1 h1, bt1]
      cases x.testBit q <;> rfl
    cases z : x.testBit q with
    | false =>
      rw [z] at bit
      refine ⟨v, ⟨p1, fun w => ?_⟩, ?_⟩
      · rw [p2]
        constructor
        · rintro ⟨i, a, b, e⟩; exact ⟨i, by omega, b, e⟩
        · rintro ⟨i, a, b, e⟩
          have : i ≠ q := fun r => by rw [r, z] at e; exact absurd e (by decide)
          exact ⟨i, by omega, b, e⟩
      · show lX1_asWitnesses_4 o (nI x) (f + 1) (nI v) (nI q) = _
        rw [lX1_asWitnesses_4, h8, if_neg (nI_ge hq (by omega)), u_jn, bit, if_neg (show ¬ nI (bN false) = (1 : Int32) by decide)]
        dsimp only
        rw [u_let, show nI q + (1 : Int32) = nI (q + 1) from nI_add _ _]
    | true =>
      rw [z] at bit
      refine ⟨v ||| 1 <<< own c s c.W q, ⟨?_, fun w => ?_⟩, ?_⟩
      · refine Nat.or_lt_two_pow (n := 12) p1 ?_
        rw [Nat.one_shiftLeft]; exact Nat.pow_lt_pow_right (by omega) (by omega)
      · rw [Nat.testBit_or, Bool.or_eq_true, p2, Nat.one_shiftLeft, Nat.testBit_two_pow]
        constructor
        · rintro (⟨i, a, b, e⟩ | h)
          · exact ⟨i, by omega, b, e⟩
          · exact ⟨q, by omega, of_decide_eq_true h, z⟩
        · rintro ⟨i, a, b, e⟩
          by_cases y : i = q
          · subst y; exact Or.inr (decide_eq_true b)
          · exact Or.inl ⟨i, by omega, b, e⟩
      · show lX1_asWitnesses_4 o (nI x) (f + 1) (nI v) (nI q) = _
        rw [lX1_asWitnesses_4, h8, if_neg (nI_ge hq (by omega)), u_jn, bit, if_pos (show nI (bN true) = (1 : Int32) by decide), u_gd (by omega), nI_clamp (n := q) (by omega), h1 q hq, show (1 : Int32) <<< (nI (own c s c.W q) &&& 31) = nI (1 <<< own c s c.W q) from u_shl1 (by omega), fa_or, u_let]
        dsimp only
        rw [u_let, show nI q + (1 : Int32) = nI (q + 1) from nI_add _ _]
  · refine ⟨v, ?_, hP.2⟩
    show lX1_asWitnesses_4 o (nI x) (f + 1) (nI v) (nI (cnt c s c.W)) = _
    rw [lX1_asWitnesses_4, h8, if_pos (nI_le (Nat.le_refl _) (by omega))]
