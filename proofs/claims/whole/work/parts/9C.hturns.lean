/-! turns: the class's answers -/
def frW (c : CD) (l : LD) (d : SD) (w : Nat) : Nat := if w < c.W then fresh c l w d.day else 0
theorem avW_bit (c : CD) (l : LD) (d : SD) (s w : Nat) : ∀ n, (avW c l d s n).testBit w = true ↔ (w < n ∧ c.suit w = s ∧ mayM c l d w d.day = true)
  | 0 => ⟨fun h => by rw [avW, Nat.zero_testBit] at h; exact absurd h (by decide), fun h => absurd h.1 (Nat.not_lt_zero w)⟩
  | n + 1 => by
    have ih := avW_bit c l d s w n
    rw [avW, Nat.testBit_or, Bool.or_eq_true, ih]
    by_cases z : c.suit n = s ∧ mayM c l d n d.day = true
    · rw [if_pos z, Nat.one_shiftLeft, Nat.testBit_two_pow, decide_eq_true_iff]
      constructor
      · rintro (h | h)
        · exact ⟨by omega, h.2⟩
        · subst h; exact ⟨by omega, z⟩
      · rintro ⟨h1, h2⟩
        by_cases y : n = w
        · exact Or.inr y
        · exact Or.inl ⟨by omega, h2⟩
    · rw [if_neg z, Nat.zero_testBit]
      constructor
      · rintro (h | h)
        · exact ⟨by omega, h.2⟩
        · exact absurd h (by decide)
      · rintro ⟨h1, h2⟩
        by_cases y : n = w
        · subst y; exact absurd h2 z
        · exact Or.inl ⟨by omega, h2⟩
theorem duel_DU {c : CD} {l : LD} {d : SD} {s : Nat} {o : Ob} (hc : OKC c) (hl : OKL l) (hs : s < c.S) (h4 : gi o 4 = nI (3 * c.need s)) (h1 : ∀ w, w < c.W → ga o 1 w = nI (fresh c l w d.day)) : DU (3 * c.need s) (frW c l d) (avW c l d s c.W) o := by
  have hnd := (hc.2.2.1 s hs).2.1
  refine ⟨h4, fun w hw => ?_, by omega, fun w => ?_⟩
  · have := ((avW_bit c l d s w c.W).mp hw).1
    rw [h1 w this]
    unfold frW
    rw [if_pos this]
  · unfold frW
    by_cases z : w < c.W
    · rw [if_pos z]; exact fresh_le hc hl z d.day
    · rw [if_neg z]; omega
theorem h_isWon {c : CD} {l : LD} {d : SD} {s : Nat} {o oc ow os : Ob} (hc : OKC c) (hl : OKL l) (hd : OKS c.S d) (hs : s < c.S) (h2 : gi o 2 = nI (avW c l d s c.W)) (h3 : gi o 3 = nI (d.whole s)) (h4 : gi o 4 = nI (3 * c.need s)) (h1 : ∀ w, w < c.W → ga o 1 w = nI (fresh c l w d.day)) : ∃ b, pX3_isWon o oc ow os = some (nI (bN b)) ∧ (b = true ↔ gS (3 * c.need s) (frW c l d) 10 (avW c l d s c.W) (d.whole s) 0) := by
  have hnd := (hc.2.2.1 s hs).2.1
  have p12 : 2 ^ c.W ≤ 4096 := Nat.pow_le_pow_right (n := 2) (by omega) hc.2.1
  have hww := (hd.2.2.2.2.1 s hs).1
  have hsp := hd.2.1
  have al := avW_lt c l d s c.W
  have bl := bsum_le (avW c l d s c.W) 12
  obtain ⟨b, r1, r2⟩ := h_sw (oc := oc) (ow := ow) (os := os) (duel_DU hc hl hs h4 h1) 10 (avW c l d s c.W) (d.whole s) 0 (by omega) (fun w h => h) (by omega) (by omega) (by omega)
  refine ⟨b, ?_, r2⟩
  have r1' : zsw 10 o oc ow os (nI (avW c l d s c.W)) (nI (d.whole s)) (0 : Int32) = some (nI (bN b)) := r1
  unfold pX3_isWon
  rw [h2, h3, r1', u_bd]
  cases b <;> rfl
/-- the first that wins, by the numbers -/
def First (A : Nat) (Q : Nat → Prop) (r : Int32) : Prop := (∃ i, A.testBit i = true ∧ Q i ∧ (∀ j, j < i → A.testBit j = true → ¬ Q j) ∧ r = nI i) ∨ ((∀ i, A.testBit i = true → ¬ Q i) ∧ r = -1)
theorem h_best {c : CD} {l : LD} {d : SD} {s : Nat} {o oc ow os : Ob} (hc : OKC c) (hl : OKL l) (hd : OKS c.S d) (hs : s < c.S) (h2 : gi o 2 = nI (avW c l d s c.W)) (h3 : gi o 3 = nI (d.whole s)) (h4 : gi o 4 = nI (3 * c.need s)) (h1 : ∀ w, w < c.W → ga o 1 w = nI (fresh c l w d.day)) : ∃ r, pX3_bestCall o oc ow os = some r ∧ First (avW c l d s c.W) (gW (3 * c.need s) (frW c l d) 10 (avW c l d s c.W) (d.whole s) 0) r := by
  have hnd := (hc.2.2.1 s hs).2.1
  have p12 : 2 ^ c.W ≤ 4096 := Nat.pow_le_pow_right (n := 2) (by omega) hc.2.1
  have hww := (hd.2.2.2.2.1 s hs).1
  have hsp := hd.2.1
  have al := avW_lt c l d s c.W
  have bl := bsum_le (avW c l d s c.W) 12
  have hD := duel_DU hc hl hs h4 h1
  generalize hA : avW c l d s c.W = A at *
  generalize hG : 3 * c.need s = G at *
  generalize frW c l d = fr at *
  have key : ∀ g q f, q + g = 12 → g < f → (∀ i, i < q → A.testBit i = true → ¬ gW G fr 10 A (d.whole s) 0 i) → ∃ r, lX3_bestCall_2 o oc ow os f (nI q) = some r ∧ First A (gW G fr 10 A (d.whole s) 0) r := by
    intro g
    induction g with
    | zero =>
      intro q f hq hf hall
      have : q = 12 := by omega
      subst this
      obtain ⟨f, rfl⟩ : ∃ g, f = g + 1 := ⟨f - 1, by omega⟩
      refine ⟨-1, ?_, Or.inr ⟨fun i hi => hall i (bit12 (by omega) hi) hi, rfl⟩⟩
      rw [lX3_bestCall_2, if_pos (show (12 : Int32) ≤ nI 12 by decide)]
    | succ g ih =>
      intro q f hq hf hall
      obtain ⟨f, rfl⟩ : ∃ g, f = g + 1 := ⟨f - 1, by omega⟩
      rw [lX3_bestCall_2, if_neg (show ¬ (12 : Int32) ≤ nI q from nI_ge (b := 12) (by omega) (by omega)), h2, h_has3 (by omega) (by omega), u_bd, u_jn, u_let, show nI q + (1 : Int32) = nI (q + 1) from nI_add _ _]
      cases w : A.testBit q with
      | false =>
        rw [if_pos (show nI (bN false) = (0 : Int32) by decide)]
        exact ih (q + 1) f (by omega) (by omega) (fun j hj hb => by
          by_cases v : j = q
          · rw [v, w] at hb; exact absurd hb (by decide)
          · exact hall j (by omega) hb)
      | true =>
        obtain ⟨b, r1, r2⟩ := h_wb (oc := oc) (ow := ow) (os := os) hD (n := 10) (fun P' W' t' a1 a0 a2 a3 a4 => h_sw hD 10 P' W' t' a1 a0 a2 a3 a4) (P := A) (W := d.whole s) (t := 0) (by omega) (fun w h => h) (by omega) (by omega) (by omega) w
        have r1' : zwb 10 o oc ow os (nI q) (nI A) (nI (d.whole s)) (0 : Int32) = some (nI (bN b)) := r1
        rw [if_neg (show ¬ nI (bN true) = (0 : Int32) by decide), h3, r1', u_bd]
        cases cb : b with
        | false =>
          subst cb
          rw [if_pos (show nI (bN false) = (0 : Int32) by decide)]
          exact ih (q + 1) f (by omega) (by omega) (fun j hj hb => by
            by_cases v : j = q
            · rw [v]; intro r; exact absurd (r2.mpr r) (by decide)
            · exact hall j (by omega) hb)
        | true =>
          subst cb
          rw [if_neg (show ¬ nI (bN true) = (0 : Int32) by decide)]
          exact ⟨nI q, rfl, Or.inl ⟨q, w, r2.mp rfl, hall, rfl⟩⟩
  exact key 12 0 zfu (by omega) (u_zfu (by omega)) (fun j hj => absurd hj (Nat.not_lt_zero j))
