/-! many: what an order gives fits; what fits, an order gives -/
theorem vs_set (g : Nat → Nat) {U s : Nat} (h : U.testBit s = false) : ∀ m, vs g (U ||| 1 <<< s) m = vs g U m + (if s < m then g s else 0)
  | 0 => rfl
  | m + 1 => by
    rw [vs, vs, vs_set g h m, Nat.testBit_or, Nat.one_shiftLeft, Nat.testBit_two_pow]
    by_cases z : s = m
    · subst z
      rw [h, decide_eq_true rfl, if_neg (Nat.lt_irrefl s), if_pos (Nat.lt_succ_self s), Bool.false_or, if_pos rfl, if_neg (show ¬ false = true by decide)]
    · rw [decide_eq_false z, Bool.or_false]
      by_cases y : s < m
      · rw [if_pos y, if_pos (show s < m + 1 by omega)]; omega
      · rw [if_neg y, if_neg (show ¬ s < m + 1 by omega)]; omega
theorem vs_congr {g g' : Nat → Nat} {U : Nat} : ∀ m, (∀ i, i < m → U.testBit i = true → g i = g' i) → vs g U m = vs g' U m
  | 0, _ => rfl
  | m + 1, h => by
    rw [vs, vs, vs_congr m (fun i hi hb => h i (by omega) hb)]
    cases z : U.testBit m with
    | false => rfl
    | true => rw [h m (by omega) z]
theorem vs_ge {g : Nat → Nat} {U i : Nat} (hb : U.testBit i = true) : ∀ m, i < m → g i ≤ vs g U m
  | 0, h => absurd h (Nat.not_lt_zero i)
  | m + 1, h => by
    rw [vs]
    by_cases z : i = m
    · subst z
      rw [if_pos hb]; omega
    · have := vs_ge (g := g) hb m (by omega)
      omega
/-- the first q of an order, as a set of suits -/
def pmo (od : Nat → Nat) : Nat → Nat
  | 0 => 0
  | q + 1 => pmo od q ||| 1 <<< od q
theorem pmo_b (od : Nat → Nat) (i : Nat) : ∀ q, (pmo od q).testBit i = true ↔ ∃ j, j < q ∧ od j = i
  | 0 => ⟨fun h => by rw [pmo, Nat.zero_testBit] at h; exact absurd h (by decide), fun ⟨j, h, _⟩ => absurd h (Nat.not_lt_zero j)⟩
  | q + 1 => by
    rw [pmo, Nat.testBit_or, Bool.or_eq_true, pmo_b od i q, Nat.one_shiftLeft, Nat.testBit_two_pow, decide_eq_true_iff]
    constructor
    · rintro (⟨j, h1, h2⟩ | h)
      · exact ⟨j, by omega, h2⟩
      · exact ⟨q, by omega, h⟩
    · rintro ⟨j, h1, h2⟩
      by_cases z : j = q
      · subst z; exact Or.inr h2
      · exact Or.inl ⟨j, by omega, h2⟩
theorem not_b {U i : Nat} (h : ¬ U.testBit i = true) : U.testBit i = false := by
  cases z : U.testBit i with
  | false => rfl
  | true => exact absurd z h
/-- what an order gives fits -/
theorem eS_sum {c : CD} {l : LD} {d : SD} {od : Nat → Nat} {R n : Nat} (hc : OKC c) (hR : R ≤ 6) (h6 : ∀ i, i < n → od i < 6) (inj : ∀ i j, i < j → j < n → od i ≠ od j) : ∀ i, i ≤ n → vs (ndN c l d) (eS c l d od R i).1 6 + (eS c l d od R i).2 ≤ R ∧ (∀ b, (eS c l d od R i).1.testBit b = true → ∃ j, j < i ∧ od j = b)
  | 0, _ => ⟨by
      show vs (ndN c l d) 0 6 + R ≤ R
      rw [vs_0]; omega, fun b hb => by
      have hb' : (0 : Nat).testBit b = true := hb
      rw [Nat.zero_testBit] at hb'
      exact absurd hb' (by decide)⟩
  | i + 1, h => by
    obtain ⟨i1, i2⟩ := eS_sum (l := l) (d := d) hc hR h6 inj i (by omega)
    have b1 := eS_le c l d od R i
    rw [eS]
    dsimp only
    generalize eS c l d od R i = p at *
    by_cases z : ndN c l d (od i) ≤ p.2
    · rw [if_pos z, ndN_cnt hc (by omega) z]
      have nb : p.1.testBit (od i) = false := not_b (fun r => by
        obtain ⟨j, j1, j2⟩ := i2 _ r
        exact inj j i j1 (by omega) j2)
      rw [vs_set _ nb, if_pos (h6 i (by omega))]
      refine ⟨by omega, fun b hb => ?_⟩
      rw [Nat.testBit_or, Bool.or_eq_true, Nat.one_shiftLeft, Nat.testBit_two_pow, decide_eq_true_iff] at hb
      rcases hb with hb | hb
      · obtain ⟨j, j1, j2⟩ := i2 b hb
        exact ⟨j, by omega, j2⟩
      · exact ⟨i, by omega, hb⟩
    · rw [if_neg z]
      refine ⟨by omega, fun b hb => ?_⟩
      obtain ⟨j, j1, j2⟩ := i2 b hb
      exact ⟨j, by omega, j2⟩
theorem eS_mono {c : CD} {l : LD} {d : SD} {od : Nat → Nat} {R b i : Nat} (hb : (eS c l d od R i).1.testBit b = true) : ∀ g, (eS c l d od R (i + g)).1.testBit b = true
  | 0 => hb
  | g + 1 => by
    have ih := eS_mono hb g
    rw [← Nat.add_assoc, eS]
    dsimp only
    split
    · rw [Nat.testBit_or, ih, Bool.true_or]
    · exact ih
theorem pmo_sum {g od : Nat → Nat} {n : Nat} (h6 : ∀ i, i < n → od i < 6) (inj : ∀ i j, i < j → j < n → od i ≠ od j) (i : Nat) (hi : i < n) : vs g (pmo od (i + 1)) 6 = vs g (pmo od i) 6 + g (od i) := by
  have nb : (pmo od i).testBit (od i) = false := not_b (fun r => by
    obtain ⟨j, j1, j2⟩ := (pmo_b od (od i) i).mp r
    exact inj j i j1 hi j2)
  rw [pmo, vs_set _ nb, if_pos (h6 i hi)]
theorem pmo_mono {g od : Nat → Nat} {n : Nat} (h6 : ∀ i, i < n → od i < 6) (inj : ∀ i j, i < j → j < n → od i ≠ od j) (i : Nat) : ∀ k, i + k ≤ n → vs g (pmo od i) 6 ≤ vs g (pmo od (i + k)) 6
  | 0, _ => Nat.le_refl _
  | k + 1, h => by
    have ih := pmo_mono (g := g) h6 inj i k (by omega)
    rw [← Nat.add_assoc, pmo_sum h6 inj (i + k) (by omega)]
    omega
/-- what fits is given by an order that has it first -/
theorem eS_pre {c : CD} {l : LD} {d : SD} {od : Nat → Nat} {R n q : Nat} (hc : OKC c) (hR : R ≤ 6) (h6 : ∀ i, i < n → od i < 6) (inj : ∀ i j, i < j → j < n → od i ≠ od j) (hq : q ≤ n) (hs : vs (ndN c l d) (pmo od q) 6 ≤ R) : ∀ i, i ≤ q → (eS c l d od R i).2 = R - vs (ndN c l d) (pmo od i) 6 ∧ (∀ j, j < i → (eS c l d od R i).1.testBit (od j) = true)
  | 0, _ => ⟨by
      show R = R - vs (ndN c l d) 0 6
      rw [vs_0]; omega, fun j hj => absurd hj (Nat.not_lt_zero j)⟩
  | i + 1, h => by
    obtain ⟨i1, i2⟩ := eS_pre (l := l) (d := d) hc hR h6 inj hq hs i (by omega)
    have s1 := pmo_sum (g := ndN c l d) h6 inj i (by omega)
    have s2 := pmo_mono (g := ndN c l d) h6 inj (i + 1) (q - (i + 1)) (by omega)
    rw [show i + 1 + (q - (i + 1)) = q by omega] at s2
    have b1 := eS_le c l d od R i
    have z : ndN c l d (od i) ≤ (eS c l d od R i).2 := by omega
    have e1 : (eS c l d od R (i + 1)).2 = (eS c l d od R i).2 - (hvL c l d (od i) (eS c l d od R i).2 c.W).2 := rfl
    have e2 : (eS c l d od R (i + 1)).1 = (eS c l d od R i).1 ||| 1 <<< od i := if_pos z
    refine ⟨by rw [e1, ndN_cnt hc (by omega) z]; omega, fun j hj => ?_⟩
    rw [e2, Nat.testBit_or]
    by_cases y : j = i
    · subst y
      rw [Nat.one_shiftLeft, Nat.testBit_two_pow, decide_eq_true rfl, Bool.or_true]
    · rw [i2 j (by omega), Bool.true_or]
/-! the best set: most suits, then the least -/
def mkO (B E : Nat) : Prop := bsum E 12 < bsum B 12 ∨ (bsum E 12 = bsum B 12 ∧ B ≤ E)
def o_bet (b e : Nat) : Nat := if b = 0 ∨ bsum (b - 1) 12 < bsum e 12 ∨ (bsum e 12 = bsum (b - 1) 12 ∧ e < b - 1) then e + 1 else b
def o_best (E : List Nat → Nat) : List (List Nat) → Nat → Nat
  | [], b => b
  | y :: ys, b => o_best E ys (o_bet b (E y))
theorem o_bet_e {B b e : Nat} (hb : b = 0 ∨ mkO B (b - 1)) (he : mkO B e) : (o_bet b e ≠ 0 ∧ mkO B (o_bet b e - 1)) ∧ ((b = B + 1 ∨ e = B) → o_bet b e = B + 1) := by
  unfold o_bet
  by_cases z : b = 0 ∨ bsum (b - 1) 12 < bsum e 12 ∨ (bsum e 12 = bsum (b - 1) 12 ∧ e < b - 1)
  · rw [if_pos z]
    refine ⟨⟨by omega, he⟩, fun h => ?_⟩
    rcases h with h | h
    · subst h
      rw [show B + 1 - 1 = B from rfl] at z
      unfold mkO at he
      omega
    · omega
  · rw [if_neg z]
    have hb' : mkO B (b - 1) := by
      rcases hb with h | h
      · exact absurd (Or.inl h) z
      · exact h
    refine ⟨⟨fun r => z (Or.inl r), hb'⟩, fun h => ?_⟩
    rcases h with h | h
    · exact h
    · subst h
      unfold mkO at hb'
      omega
theorem o_best_e {B : Nat} {E : List Nat → Nat} : ∀ (ys : List (List Nat)) (b : Nat), (b = 0 ∨ mkO B (b - 1)) → (∀ y, y ∈ ys → mkO B (E y)) → (b = B + 1 ∨ ∃ y, y ∈ ys ∧ E y = B) → o_best E ys b = B + 1
  | [], b, _, _, h => by
    rcases h with h | ⟨y, hy, _⟩
    · exact h
    · exact absurd hy List.not_mem_nil
  | y :: ys, b, h1, h2, h3 => by
    obtain ⟨a1, a2⟩ := o_bet_e h1 (h2 y List.mem_cons_self)
    refine o_best_e ys (o_bet b (E y)) (Or.inr a1.2) (fun z hz => h2 z (List.mem_cons_of_mem _ hz)) ?_
    rcases h3 with h | ⟨z, z1, z2⟩
    · exact Or.inl (a2 (Or.inl h))
    · rcases List.mem_cons.mp z1 with g | g
      · subst g; exact Or.inl (a2 (Or.inr z2))
      · exact Or.inr ⟨z, g, z2⟩
theorem mk_sup : ∀ B : Fin 64, ∀ E : Fin 64, B.val &&& E.val = B.val → bsum B.val 12 ≤ bsum E.val 12 ∧ (bsum B.val 12 = bsum E.val 12 → B.val = E.val) := by decide +kernel
