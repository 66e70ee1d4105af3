/-! those of a set, fixed one by one -/
def sT (a : Nat → Nat → Bool) (st : Nat → Nat) (q j : Nat) : Bool := a q j && (decide (st q = 0) || decide (st q = j + 1))
theorem abS_sT (c : CD) (l : LD) (d : SD) (s : Nat) (st : Nat → Nat) : abS c l d s st = sT (ab c l d s) st := rfl
theorem sT_nup {a : Nat → Nat → Bool} {st : Nat → Nat} {i e : Nat} (h : st i = 0) : sT a (nup st i (e + 1)) = sT (fxA a i e) st := by
  funext q j
  unfold sT
  by_cases z : q = i
  · subst z
    rw [nup_s, fxA_i, h, decide_eq_true rfl, Bool.true_or, Bool.and_true, decide_eq_false (Nat.succ_ne_zero e), Bool.false_or]
    congr 1
    by_cases y : j = e
    · rw [decide_eq_true y, decide_eq_true (by omega)]
    · rw [decide_eq_false y, decide_eq_false (by omega)]
  · rw [nup_n _ _ z, fxA_n z]
def FIX (n k F i : Nat) (able : Nat → Nat → Bool) (fr : Nat → Nat → Nat) (room st rm : Nat → Nat) (R S : Nat) : Prop := (∀ a : Nat → Nat → Bool, (∀ q, q < i → F.testBit q = true → a q (st q - 1) = true) → ∀ y, (PP n (sT a st) fr room (k + 1) F y ↔ ∃ z, PP n a fr rm (k + 1) R z ∧ y = z + S)) ∧ (∀ q, q < i → F.testBit q = true → able q (st q - 1) = true ∧ 0 < st q ∧ st q ≤ k + 1) ∧ (∀ q, ¬ (q < i ∧ F.testBit q = true) → st q = 0) ∧ (∀ q, R.testBit q = (F.testBit q && decide (i ≤ q)))
/-- fixed so, it is still enough -/
def EN (n k F : Nat) (able : Nat → Nat → Bool) (fr : Nat → Nat → Nat) (room st : Nat → Nat) (G W : Nat) : Prop := ∃ y, PP n (sT able st) fr room (k + 1) F y ∧ G ≤ W + y
theorem FIX_0 {n k F : Nat} {able : Nat → Nat → Bool} {fr : Nat → Nat → Nat} {room : Nat → Nat} : FIX n k F 0 able fr room (fun _ => 0) room F 0 := by
  refine ⟨fun a _ y => ?_, fun q h => absurd h (Nat.not_lt_zero q), fun q _ => rfl, fun q => ?_⟩
  · have : sT a (fun _ => 0) = a := by
      funext q j
      unfold sT
      rw [decide_eq_true (rfl : (0 : Nat) = 0), Bool.true_or, Bool.and_true]
    rw [this]
    exact ⟨fun h => ⟨y, h, rfl⟩, fun ⟨z, h, e⟩ => by rw [e]; exact h⟩
  · rw [decide_eq_true (Nat.zero_le q), Bool.and_true]
theorem FIX_lt {n k F i R S : Nat} {able : Nat → Nat → Bool} {fr : Nat → Nat → Nat} {room st rm : Nat → Nat} (h : FIX n k F i able fr room st rm R S) (hF : F < 64) : R < 64 := by
  have : R &&& F = R := sub_of (fun q hq => by
    rw [h.2.2.2 q, Bool.and_eq_true] at hq
    exact hq.1)
  exact Nat.lt_of_le_of_lt (sub_le this) hF
theorem FIX_en {n k F i e R S G W : Nat} {able : Nat → Nat → Bool} {fr : Nat → Nat → Nat} {room st rm : Nat → Nat} (h : FIX n k F i able fr room st rm R S) (hF : F < 64) (h6 : i < 6) (hi : F.testBit i = true) (he : e ≤ k) : EN n k F able fr room (nup st i (e + 1)) G W ↔ (i < n ∧ able i e = true ∧ 1 ≤ rm e ∧ ∃ z, PP n able fr (dn rm e) (k + 1) (R ^^^ 1 <<< i) z ∧ G ≤ W + (S + fr i e * 2 ^ e + z)) := by
  have hR := FIX_lt h hF
  have st0 := h.2.2.1 i (fun r => absurd r.1 (Nat.lt_irrefl i))
  have Ri : R.testBit i = true := by rw [h.2.2.2 i, hi, decide_eq_true (Nat.le_refl i)]; rfl
  have key := h.1 (fxA able i e) (fun q hq hb => by
    rw [fxA_n (by omega)]
    exact (h.2.1 q hq hb).1)
  unfold EN
  rw [sT_nup st0]
  constructor
  · rintro ⟨y, p, g⟩
    obtain ⟨z, p2, ey⟩ := (key y).mp p
    obtain ⟨c1, c2, c3, w, p3, ez⟩ := (fx h6 hR Ri (by omega)).mp p2
    exact ⟨c1, c2, c3, w, p3, by omega⟩
  · rintro ⟨c1, c2, c3, w, p3, g⟩
    exact ⟨w + fr i e * 2 ^ e + S, (key _).mpr ⟨w + fr i e * 2 ^ e, (fx h6 hR Ri (by omega)).mpr ⟨c1, c2, c3, w, p3, rfl⟩, rfl⟩, by omega⟩
theorem FIX_s {n k F i e R S : Nat} {able : Nat → Nat → Bool} {fr : Nat → Nat → Nat} {room st rm : Nat → Nat} (h : FIX n k F i able fr room st rm R S) (hF : F < 64) (h6 : i < 6) (hi : F.testBit i = true) (he : e ≤ k) (hn : i < n) (ha : able i e = true) (hr : 1 ≤ rm e) : FIX n k F (i + 1) able fr room (nup st i (e + 1)) (dn rm e) (R ^^^ 1 <<< i) (S + fr i e * 2 ^ e) := by
  have hR := FIX_lt h hF
  have st0 := h.2.2.1 i (fun r => absurd r.1 (Nat.lt_irrefl i))
  have Ri : R.testBit i = true := by rw [h.2.2.2 i, hi, decide_eq_true (Nat.le_refl i)]; rfl
  refine ⟨fun a ha2 y => ?_, fun q hq hb => ?_, fun q hq => ?_, fun q => ?_⟩
  · have key := h.1 (fxA a i e) (fun q hq hb => by
      rw [fxA_n (by omega)]
      have := ha2 q (by omega) hb
      rw [nup_n _ _ (by omega)] at this
      exact this)
    have ai : a i e = true := by
      have := ha2 i (by omega) hi
      rw [nup_s, Nat.add_sub_cancel] at this
      exact this
    rw [sT_nup st0, key]
    constructor
    · rintro ⟨z, p2, ey⟩
      obtain ⟨c1, c2, c3, w, p3, ez⟩ := (fx h6 hR Ri (by omega)).mp p2
      exact ⟨w, p3, by omega⟩
    · rintro ⟨w, p3, ey⟩
      exact ⟨w + fr i e * 2 ^ e, (fx h6 hR Ri (by omega)).mpr ⟨hn, ai, hr, w, p3, rfl⟩, by omega⟩
  · by_cases z : q = i
    · subst z
      rw [nup_s, Nat.add_sub_cancel]
      exact ⟨ha, by omega, by omega⟩
    · rw [nup_n _ _ z]
      exact h.2.1 q (by omega) hb
  · by_cases z : q = i
    · subst z
      exact absurd ⟨by omega, hi⟩ hq
    · rw [nup_n _ _ z]
      exact h.2.2.1 q (fun r => hq ⟨by omega, r.2⟩)
  · rw [tb_flip, h.2.2.2 q]
    by_cases z : i = q
    · subst z
      rw [hi, decide_eq_true (Nat.le_refl i), decide_eq_true rfl, decide_eq_false (by omega)]
      rfl
    · rw [decide_eq_false z]
      have : ∀ b : Bool, (b != false) = b := fun b => by cases b <;> rfl
      rw [this]
      by_cases y : i ≤ q
      · rw [decide_eq_true y, decide_eq_true (by omega)]
      · rw [decide_eq_false y, decide_eq_false (by omega)]
theorem FIX_n {n k F i R S : Nat} {able : Nat → Nat → Bool} {fr : Nat → Nat → Nat} {room st rm : Nat → Nat} (h : FIX n k F i able fr room st rm R S) (hi : F.testBit i = false) : FIX n k F (i + 1) able fr room st rm R S := by
  have ne : ∀ q, F.testBit q = true → q ≠ i := fun q hb r => by rw [r, hi] at hb; exact absurd hb (by decide)
  refine ⟨fun a ha => h.1 a (fun q hq hb => ha q (by omega) hb), fun q hq hb => h.2.1 q (by have := ne q hb; omega) hb, fun q hq => h.2.2.1 q (fun r => hq ⟨by omega, r.2⟩), fun q => ?_⟩
  rw [h.2.2.2 q]
  cases z : F.testBit q with
  | false => rfl
  | true =>
    have := ne q z
    by_cases y : i ≤ q
    · rw [decide_eq_true y, decide_eq_true (by omega)]
    · rw [decide_eq_false y, decide_eq_false (by omega)]
/-- some day is there for the next of them -/
theorem EN_day {n k F i G W : Nat} {able : Nat → Nat → Bool} {fr : Nat → Nat → Nat} {room st : Nat → Nat} (hF : F < 64) (h6 : i < 6) (hi : F.testBit i = true) (h0 : st i = 0) (h : EN n k F able fr room st G W) : ∃ e, e ≤ k ∧ EN n k F able fr room (nup st i (e + 1)) G W := by
  obtain ⟨y, p, g⟩ := h
  obtain ⟨e, e1, e2⟩ := PP_day h6 hF hi p
  refine ⟨e, by omega, y, ?_, g⟩
  have : sT able (nup st i (e + 1)) = fxA (sT able st) i e := by
    rw [sT_nup h0]
    funext q j
    unfold sT
    by_cases z : q = i
    · subst z
      rw [fxA_i, fxA_i, h0, decide_eq_true rfl, Bool.true_or, Bool.and_true, Bool.and_true]
    · rw [fxA_n z, fxA_n z]
  rw [this]
  exact e2
theorem isM_en {e G W : Nat} {Q : Nat → Prop} (h : isM e Q) : (e ≠ 0 ∧ G ≤ W + (e - 1)) ↔ ∃ y, Q y ∧ G ≤ W + y := by
  constructor
  · rintro ⟨a, b⟩
    exact ⟨e - 1, h.2 (by omega), b⟩
  · rintro ⟨y, a, b⟩
    have := h.1 y a
    exact ⟨by omega, by omega⟩
