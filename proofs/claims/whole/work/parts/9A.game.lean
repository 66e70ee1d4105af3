/-! turns: the game, and the class's look at it -/
def gS (G : Nat) (fr : Nat → Nat) : Nat → Nat → Nat → Nat → Prop
  | 0, _, _, _ => False
  | n + 1, P, W, t => G ≤ W ∨ (t ≤ 6 ∧ ∃ i, P.testBit i = true ∧ (G ≤ W + fr i ∨ (P ^^^ 1 <<< i ≠ 0 ∧ ∀ j, (P ^^^ 1 <<< i).testBit j = true → gS G fr n (P ^^^ 1 <<< i ^^^ 1 <<< j) ((W + fr i) / 2) (t + 1))))
/-- one call -/
def gW (G : Nat) (fr : Nat → Nat) (n P W t i : Nat) : Prop := G ≤ W + fr i ∨ (P ^^^ 1 <<< i ≠ 0 ∧ ∀ j, (P ^^^ 1 <<< i).testBit j = true → gS G fr n (P ^^^ 1 <<< i ^^^ 1 <<< j) ((W + fr i) / 2) (t + 1))
theorem h_has3 {U q : Nat} (hU : U < 2147483648) (hq : q < 31) : pX3_has (nI U) (nI q) = some (nI (bN (U.testBit q))) := by
  unfold pX3_has
  have h1 : U >>> q < 2147483648 := by rw [Nat.shiftRight_eq_div_pow]; exact Nat.lt_of_le_of_lt (Nat.div_le_self _ _) hU
  rw [show nI U >>> (nI q &&& 31) = nI (U >>> q) from u_shr hU (by omega), show nI (U >>> q) &&& (1 : Int32) = nI (U >>> q % 2) from u_and1 h1, bt1]
  cases U.testBit q with
  | true => exact if_pos rfl
  | false => exact if_neg (show ¬ nI 0 = (1 : Int32) by decide)
theorem flip12 {T i : Nat} (hT : T < 4096) (hi : i < 12) : T ^^^ 1 <<< i < 4096 := by
  have : (1 <<< i : Nat) < 2 ^ 12 := by rw [Nat.one_shiftLeft]; exact Nat.pow_lt_pow_right (by omega) hi
  exact Nat.xor_lt_two_pow (n := 12) hT this
theorem bit12 {U i : Nat} (h : U < 4096) (hi : U.testBit i = true) : i < 12 := by
  refine Classical.byContradiction (fun r => ?_)
  have : U.testBit i = false := Nat.testBit_lt_two_pow (Nat.lt_of_lt_of_le h (show 2 ^ 12 ≤ 2 ^ i from Nat.pow_le_pow_right (by omega) (by omega)))
  rw [this] at hi
  exact absurd hi (by decide)
theorem rm_word {T i : Nat} (hi : T.testBit i = true) (h : i < 31) : nI T &&& (((1 : Int32) <<< (nI i &&& 31)) ^^^ (-1 : Int32)) = nI (T ^^^ 1 <<< i) := by
  have sub : (1 <<< i) &&& T = 1 <<< i := sub_of (fun q hq => by
    rw [Nat.one_shiftLeft, Nat.testBit_two_pow] at hq
    have := of_decide_eq_true hq
    rw [← this]; exact hi)
  rw [show (1 : Int32) <<< (nI i &&& 31) = nI (1 <<< i) from u_shl1 h]
  have := u_andn T (1 <<< i)
  rw [xor_and sub] at this
  exact this
theorem flip_sub {P i w : Nat} (hi : P.testBit i = true) (h : (P ^^^ 1 <<< i).testBit w = true) : P.testBit w = true := by
  by_cases z : i = w
  · rw [← z]; exact hi
  · rw [tb_flip, decide_eq_false z] at h
    cases y : P.testBit w with
    | true => rfl
    | false => rw [y] at h; exact absurd h (by decide)
/-- what the class's Duel holds -/
def DU (G : Nat) (fr : Nat → Nat) (A : Nat) (of : Ob) : Prop := gi of 4 = nI G ∧ (∀ w, A.testBit w = true → ga of 1 w = nI (fr w)) ∧ G ≤ 3000 ∧ (∀ w, fr w ≤ 594)
theorem h_wb {G n A : Nat} {fr : Nat → Nat} {of oc ow os : Ob} (hD : DU G fr A of) (ih : ∀ P W t, P < 4096 → (∀ w, P.testBit w = true → A.testBit w = true) → W < 20000 → t < 100 → bsum P 12 + 2 ≤ 2 * n → ∃ b, zsw n of oc ow os (nI P) (nI W) (nI t) = some (nI (bN b)) ∧ (b = true ↔ gS G fr n P W t)) {P W t i : Nat} (hP : P < 4096) (hA : ∀ w, P.testBit w = true → A.testBit w = true) (hW : W < 20000) (ht : t < 99) (hb : bsum P 12 ≤ 2 * n) (hi : P.testBit i = true) : ∃ b, zwb n of oc ow os (nI i) (nI P) (nI W) (nI t) = some (nI (bN b)) ∧ (b = true ↔ gW G fr n P W t i) := by
  obtain ⟨d1, d2, d3, d4⟩ := hD
  have i12 := bit12 hP hi
  have fi := d4 i
  have b1 := bsum_rm hi 12
  rw [if_pos i12] at b1
  have hP1 := flip12 hP i12
  unfold zwb pX3_winsByCalling
  rw [u_gd (by omega), nI_clamp (n := i) (by omega), d2 i (hA i hi), nI_add, u_let, d1]
  by_cases z : G ≤ W + fr i
  · exact ⟨true, by rw [if_neg (nI_nlt z (by omega))]; rfl, ⟨fun _ => Or.inl z, fun _ => rfl⟩⟩
  · rw [if_pos (nI_lt (by omega) (by omega)), rm_word hi (by omega), u_let]
    by_cases y : P ^^^ 1 <<< i = 0
    · refine ⟨false, by rw [y, if_pos (show nI 0 = (0 : Int32) from rfl)]; rfl, ⟨fun h => absurd h (by decide), fun h => ?_⟩⟩
      rcases h with h | h
      · exact absurd h z
      · exact absurd y h.1
    · rw [if_neg (nI_ne0 (by omega) (by omega))]
      have hx1 : nI (W + fr i) / (2 : Int32) = nI ((W + fr i) / 2) := pk_div (d := 2) (by omega) (by omega) (by omega)
      have key : ∀ g q f, q + g = 12 → g < f → (∀ j, j < q → (P ^^^ 1 <<< i).testBit j = true → gS G fr n (P ^^^ 1 <<< i ^^^ 1 <<< j) ((W + fr i) / 2) (t + 1)) → ∃ b, lX3_winsByCalling_40 (zsw n) of oc ow os (nI t) (nI (W + fr i)) (nI (P ^^^ 1 <<< i)) f (nI q) = some (nI (bN b)) ∧ (b = true ↔ ∀ j, (P ^^^ 1 <<< i).testBit j = true → gS G fr n (P ^^^ 1 <<< i ^^^ 1 <<< j) ((W + fr i) / 2) (t + 1)) := by
        intro g
        induction g with
        | zero =>
          intro q f hq hf hall
          have : q = 12 := by omega
          subst this
          obtain ⟨f, rfl⟩ : ∃ g, f = g + 1 := ⟨f - 1, by omega⟩
          refine ⟨true, ?_, ⟨fun _ j hj => hall j (bit12 hP1 hj) hj, fun _ => rfl⟩⟩
          rw [lX3_winsByCalling_40, if_pos (show (12 : Int32) ≤ nI 12 by decide)]
          rfl
        | succ g ih2 =>
          intro q f hq hf hall
          obtain ⟨f, rfl⟩ : ∃ g, f = g + 1 := ⟨f - 1, by omega⟩
          rw [lX3_winsByCalling_40, if_neg (show ¬ (12 : Int32) ≤ nI q from nI_ge (b := 12) (by omega) (by omega)), h_has3 (by omega) (by omega), u_bd, u_jn, u_let, show nI q + (1 : Int32) = nI (q + 1) from nI_add _ _]
          cases w : (P ^^^ 1 <<< i).testBit q with
          | false =>
            rw [if_pos (show nI (bN false) = (0 : Int32) by decide)]
            exact ih2 (q + 1) f (by omega) (by omega) (fun j hj hb => by
              by_cases v : j = q
              · rw [v, w] at hb; exact absurd hb (by decide)
              · exact hall j (by omega) hb)
          | true =>
            have b2 := bsum_rm w 12
            rw [if_pos (show q < 12 by omega)] at b2
            obtain ⟨b, r1, r2⟩ := ih (P ^^^ 1 <<< i ^^^ 1 <<< q) ((W + fr i) / 2) (t + 1) (flip12 hP1 (by omega)) (fun u hu => hA u (flip_sub hi (flip_sub w hu))) (by omega) (by omega) (by omega)
            have hz : ∀ o : Option Int32, znz (2 : Int32) o = o := fun o => if_neg (by decide)
            rw [if_neg (show ¬ nI (bN true) = (0 : Int32) by decide), hz, rm_word w (by omega), hx1, show nI t + (1 : Int32) = nI (t + 1) from nI_add _ _, r1, u_bd]
            cases c : b with
            | false =>
              subst c
              rw [if_pos (show nI (bN false) = (0 : Int32) by decide)]
              exact ⟨false, rfl, ⟨fun h => absurd h (by decide), fun h => r2.mpr (h q w)⟩⟩
            | true =>
              subst c
              rw [if_neg (show ¬ nI (bN true) = (0 : Int32) by decide)]
              exact ih2 (q + 1) f (by omega) (by omega) (fun j hj hb => by
                by_cases v : j = q
                · rw [v]; exact r2.mp rfl
                · exact hall j (by omega) hb)
      obtain ⟨b, r1, r2⟩ := key 12 0 zfu (by omega) (u_zfu (by omega)) (fun j hj => absurd hj (Nat.not_lt_zero j))
      refine ⟨b, r1, r2.trans ⟨fun h => Or.inr ⟨y, h⟩, fun h => ?_⟩⟩
      rcases h with h | h
      · exact absurd h z
      · exact h.2
theorem h_sw {G A : Nat} {fr : Nat → Nat} {of oc ow os : Ob} (hD : DU G fr A of) : ∀ n P W t, P < 4096 → (∀ w, P.testBit w = true → A.testBit w = true) → W < 20000 → t < 100 → bsum P 12 + 2 ≤ 2 * n → ∃ b, zsw n of oc ow os (nI P) (nI W) (nI t) = some (nI (bN b)) ∧ (b = true ↔ gS G fr n P W t) := by
  intro n
  induction n with
  | zero => intro P W t h1 hA h2 h3 h4; omega
  | succ n ihn =>
    intro P W t hP hA hW ht hb
    obtain ⟨d1, d2, d3, d4⟩ := hD
    show ∃ b, pX3_sideWins (zwb n) of oc ow os (nI P) (nI W) (nI t) = some (nI (bN b)) ∧ _
    unfold pX3_sideWins
    rw [d1, gS]
    by_cases z : G ≤ W
    · exact ⟨true, by rw [if_neg (nI_nlt z (by omega))]; rfl, ⟨fun _ => Or.inl z, fun _ => rfl⟩⟩
    · rw [if_pos (nI_lt (by omega) (by omega))]
      by_cases y : t ≤ 6
      · rw [if_pos (show nI t ≤ (6 : Int32) from nI_le (b := 6) y (by omega))]
        have key : ∀ g q f, q + g = 12 → g < f → (∀ i, i < q → P.testBit i = true → ¬ gW G fr n P W t i) → ∃ b, lX3_sideWins_21 (zwb n) of oc ow os (nI P) (nI W) (nI t) f (nI q) = some (nI (bN b)) ∧ (b = true ↔ ∃ i, P.testBit i = true ∧ gW G fr n P W t i) := by
          intro g
          induction g with
          | zero =>
            intro q f hq hf hall
            have : q = 12 := by omega
            subst this
            obtain ⟨f, rfl⟩ : ∃ g, f = g + 1 := ⟨f - 1, by omega⟩
            refine ⟨false, ?_, ⟨fun h => absurd h (by decide), fun ⟨i, a, b⟩ => absurd b (hall i (bit12 hP a) a)⟩⟩
            rw [lX3_sideWins_21, if_pos (show (12 : Int32) ≤ nI 12 by decide)]
            rfl
          | succ g ih2 =>
            intro q f hq hf hall
            obtain ⟨f, rfl⟩ : ∃ g, f = g + 1 := ⟨f - 1, by omega⟩
            rw [lX3_sideWins_21, if_neg (show ¬ (12 : Int32) ≤ nI q from nI_ge (b := 12) (by omega) (by omega)), h_has3 (by omega) (by omega), u_bd, u_jn, u_let, show nI q + (1 : Int32) = nI (q + 1) from nI_add _ _]
            cases w : P.testBit q with
            | false =>
              rw [if_pos (show nI (bN false) = (0 : Int32) by decide)]
              exact ih2 (q + 1) f (by omega) (by omega) (fun j hj hb => by
                by_cases v : j = q
                · rw [v, w] at hb; exact absurd hb (by decide)
                · exact hall j (by omega) hb)
            | true =>
              obtain ⟨b, r1, r2⟩ := h_wb (oc := oc) (ow := ow) (os := os) ⟨d1, d2, d3, d4⟩ (n := n) (fun P' W' t' a1 a0 a2 a3 a4 => ihn P' W' t' a1 a0 a2 a3 a4) hP hA hW (show t < 99 by omega) (by omega) w
              rw [if_neg (show ¬ nI (bN true) = (0 : Int32) by decide), r1, u_bd]
              cases c : b with
              | false =>
                subst c
                rw [if_pos (show nI (bN false) = (0 : Int32) by decide)]
                exact ih2 (q + 1) f (by omega) (by omega) (fun j hj hb => by
                  by_cases v : j = q
                  · rw [v]; intro r; exact absurd (r2.mpr r) (by decide)
                  · exact hall j (by omega) hb)
              | true =>
                subst c
                rw [if_neg (show ¬ nI (bN true) = (0 : Int32) by decide)]
                exact ⟨true, rfl, ⟨fun _ => ⟨q, w, r2.mp rfl⟩, fun _ => rfl⟩⟩
        obtain ⟨b, r1, r2⟩ := key 12 0 zfu (by omega) (u_zfu (by omega)) (fun j hj => absurd hj (Nat.not_lt_zero j))
        refine ⟨b, r1, r2.trans ⟨fun h => Or.inr ⟨y, h⟩, fun h => ?_⟩⟩
        rcases h with h | h
        · exact absurd h z
        · exact h.2
      · refine ⟨false, by rw [if_neg (show ¬ nI t ≤ (6 : Int32) from nI_ge (a := 6) (by omega) (by omega))]; rfl, ⟨fun h => absurd h (by decide), fun h => ?_⟩⟩
        rcases h with h | h
        · exact absurd h z
        · exact absurd h.1 y
