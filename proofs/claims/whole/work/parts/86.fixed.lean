/-! plans with one called on a given day -/
theorem tb_flip (U i j : Nat) : (U ^^^ 1 <<< i).testBit j = (U.testBit j != decide (i = j)) := by
  rw [Nat.testBit_xor, Nat.one_shiftLeft, Nat.testBit_two_pow]
theorem vs_rm (g : Nat → Nat) {U i : Nat} (h : U.testBit i = true) : ∀ m, vs g U m = vs g (U ^^^ 1 <<< i) m + (if i < m then g i else 0)
  | 0 => rfl
  | m + 1 => by
    have ih := vs_rm g h m
    rw [vs, vs, ih, tb_flip]
    by_cases q : i = m
    · subst q
      rw [h, decide_eq_true rfl, if_neg (Nat.lt_irrefl i), if_pos (Nat.lt_succ_self i)]
      simp
    · rw [decide_eq_false q]
      have : (U.testBit m != false) = U.testBit m := by cases U.testBit m <;> rfl
      rw [this]
      by_cases y : i < m
      · rw [if_pos y, if_pos (show i < m + 1 by omega)]; omega
      · rw [if_neg y, if_neg (show ¬ i < m + 1 by omega)]; omega
theorem bsum_rm {U i : Nat} (h : U.testBit i = true) : ∀ m, bsum U m = bsum (U ^^^ 1 <<< i) m + (if i < m then 1 else 0)
  | 0 => rfl
  | m + 1 => by
    have ih := bsum_rm h m
    rw [bsum, bsum, ih, bt1, bt1, tb_flip]
    by_cases q : i = m
    · subst q
      rw [h, decide_eq_true rfl, if_neg (Nat.lt_irrefl i), if_pos (Nat.lt_succ_self i)]
      rfl
    · rw [decide_eq_false q]
      have : (U.testBit m != false) = U.testBit m := by cases U.testBit m <;> rfl
      rw [this]
      by_cases y : i < m
      · rw [if_pos y, if_pos (show i < m + 1 by omega)]; omega
      · rw [if_neg y, if_neg (show ¬ i < m + 1 by omega)]; omega
theorem x3 (T U b : Nat) : T ^^^ U ^^^ b = T ^^^ b ^^^ U := by rw [Nat.xor_assoc, Nat.xor_comm U b, ← Nat.xor_assoc]
theorem xx (U b : Nat) : U ^^^ b ^^^ b = U := by rw [Nat.xor_assoc, Nat.xor_self, Nat.xor_zero]
theorem x22 (T U b : Nat) : (T ^^^ b) ^^^ (U ^^^ b) = T ^^^ U := by rw [← Nat.xor_assoc, x3 T b U, xx]
/-- i on day e, or not at all -/
def fxA (a : Nat → Nat → Bool) (i e : Nat) (q j : Nat) : Bool := a q j && (!decide (q = i) || decide (j = e))
theorem fxA_n {a : Nat → Nat → Bool} {i e q j : Nat} (h : q ≠ i) : fxA a i e q j = a q j := by
  unfold fxA
  rw [decide_eq_false h]
  show (a q j && true) = a q j
  rw [Bool.and_true]
theorem fxA_i {a : Nat → Nat → Bool} {i e j : Nat} : fxA a i e i j = (a i j && decide (j = e)) := by
  unfold fxA
  rw [decide_eq_true rfl]
  rfl
def dn (room : Nat → Nat) (e : Nat) : Nat → Nat := fun j => if j = e then room j - 1 else room j
theorem fx0 {n i e : Nat} {a : Nat → Nat → Bool} {fr : Nat → Nat → Nat} {room : Nat → Nat} : ∀ {k T x : Nat}, T < 64 → T.testBit i = false → (PP n (fxA a i e) fr room k T x ↔ PP n a fr room k T x)
  | 0, _, _, _, _ => Iff.rfl
  | k + 1, T, x, hT, h => by
    have no : ∀ U, U &&& T = U → U.testBit i = false := fun U hU => by
      cases z : U.testBit i with
      | false => rfl
      | true => rw [sub_bit hU z] at h; exact absurd h (by decide)
    have eqv : ∀ U, U &&& T = U → ∀ q, U.testBit q = true → fxA a i e q k = a q k := fun U hU q hq => fxA_n (fun r => by
      rw [r, no U hU] at hq; exact absurd hq (by decide))
    have nx : ∀ U, U &&& T = U → (T ^^^ U).testBit i = false := fun U hU => by
      rw [Nat.testBit_xor, h, no U hU]; rfl
    constructor
    · rintro ⟨U, y, h1, ⟨h2, h3⟩, h4, h5⟩
      have hU : U < 64 := Nat.lt_of_le_of_lt (sub_le h1) hT
      exact ⟨U, y, h1, ⟨fun q hq hb => ⟨(h2 q hq hb).1, by rw [← eqv U h1 q hb]; exact (h2 q hq hb).2⟩, h3⟩, (fx0 (mk_xor ⟨T, hT⟩ ⟨U, hU⟩ h1).1 (nx U h1)).mp h4, h5⟩
    · rintro ⟨U, y, h1, ⟨h2, h3⟩, h4, h5⟩
      have hU : U < 64 := Nat.lt_of_le_of_lt (sub_le h1) hT
      exact ⟨U, y, h1, ⟨fun q hq hb => ⟨(h2 q hq hb).1, by rw [eqv U h1 q hb]; exact (h2 q hq hb).2⟩, h3⟩, (fx0 (mk_xor ⟨T, hT⟩ ⟨U, hU⟩ h1).1 (nx U h1)).mpr h4, h5⟩
theorem fx1 {n i e : Nat} {a : Nat → Nat → Bool} {fr : Nat → Nat → Nat} {room : Nat → Nat} (h6 : i < 6) : ∀ {k T x : Nat}, T < 64 → T.testBit i = true → k ≤ e → ¬ PP n (fxA a i e) fr room k T x
  | 0, T, x, _, h, _ => fun p => by
    rw [p.1, Nat.zero_testBit] at h
    exact absurd h (by decide)
  | k + 1, T, x, hT, h, hk => by
    rintro ⟨U, y, h1, ⟨h2, h3⟩, h4, h5⟩
    have hU : U < 64 := Nat.lt_of_le_of_lt (sub_le h1) hT
    cases z : U.testBit i with
    | true =>
      have := (h2 i h6 z).2
      rw [fxA_i, Bool.and_eq_true] at this
      have := of_decide_eq_true this.2
      omega
    | false => exact fx1 h6 (mk_xor ⟨T, hT⟩ ⟨U, hU⟩ h1).1 (by
        show (T ^^^ U).testBit i = true
        rw [Nat.testBit_xor, h, z]; rfl) (by omega) h4
theorem flip_lt {T i : Nat} (hT : T < 64) (h6 : i < 6) : T ^^^ 1 <<< i < 64 := by
  have : (1 <<< i : Nat) < 2 ^ 6 := by rw [Nat.one_shiftLeft]; exact Nat.pow_lt_pow_right (by omega) h6
  exact Nat.xor_lt_two_pow (n := 6) hT this
theorem fx {n i e : Nat} {a : Nat → Nat → Bool} {fr : Nat → Nat → Nat} {room : Nat → Nat} (h6 : i < 6) : ∀ {k T x : Nat}, T < 64 → T.testBit i = true → e < k → (PP n (fxA a i e) fr room k T x ↔ (i < n ∧ a i e = true ∧ 1 ≤ room e ∧ ∃ y, PP n a fr (dn room e) k (T ^^^ 1 <<< i) y ∧ x = y + fr i e * 2 ^ e))
  | 0, _, _, _, _, h => absurd h (Nat.not_lt_zero e)
  | k + 1, T, x, hT, h, hk => by
    have hT' := flip_lt hT h6
    have hTi : (T ^^^ 1 <<< i).testBit i = false := by rw [tb_flip, h, decide_eq_true rfl]; rfl
    have noi : ∀ V, V &&& (T ^^^ 1 <<< i) = V → V.testBit i = false := fun V hV => by
      cases z : V.testBit i with
      | false => rfl
      | true => have := sub_bit hV z; rw [hTi] at this; exact absurd this (by decide)
    have oth : ∀ (V q : Nat), q ≠ i → (V ^^^ 1 <<< i).testBit q = V.testBit q := fun V q hq => by
      rw [tb_flip, decide_eq_false (fun r => hq r.symm)]
      cases V.testBit q <;> rfl
    by_cases z : k = e
    · subst z
      constructor
      · rintro ⟨U, y, u1, ⟨u2, u3⟩, p, ex⟩
        have hU : U < 64 := Nat.lt_of_le_of_lt (sub_le u1) hT
        have xU : T ^^^ U < 64 := (mk_xor ⟨T, hT⟩ ⟨U, hU⟩ u1).1
        have Ui : U.testBit i = true := by
          cases w : U.testBit i with
          | true => rfl
          | false => exact absurd p (fx1 h6 xU (by rw [Nat.testBit_xor, h, w]; rfl) (Nat.le_refl _))
        obtain ⟨c1, c2⟩ := u2 i h6 Ui
        rw [fxA_i, Bool.and_eq_true] at c2
        have bs := bsum_rm Ui 12
        rw [if_pos (by omega)] at bs
        have vsx := vs_rm (fun i => fr i k) Ui 6
        rw [if_pos h6] at vsx
        refine ⟨c1, c2.1, by omega, y + vs (fun i => fr i k) (U ^^^ 1 <<< i) 6 * 2 ^ k, ⟨U ^^^ 1 <<< i, y, sub_of (fun q hq => ?_), ⟨fun q h6' hq => ?_, ?_⟩, ?_, rfl⟩, ?_⟩
        · by_cases w : q = i
          · rw [w, tb_flip, Ui, decide_eq_true rfl] at hq; exact absurd hq (by decide)
          · rw [oth _ _ w] at hq ⊢; exact sub_bit u1 hq
        · by_cases w : q = i
          · rw [w, tb_flip, Ui, decide_eq_true rfl] at hq; exact absurd hq (by decide)
          · rw [oth _ _ w] at hq
            have := u2 q h6' hq
            rw [fxA_n w] at this
            exact this
        · unfold dn; rw [if_pos rfl]; omega
        · rw [x22]
          exact PP_congr (fun _ _ _ _ => rfl) (fun j hj => by unfold dn; rw [if_neg (by omega)]) ((fx0 xU (by rw [Nat.testBit_xor, h, Ui]; rfl)).mp p)
        · rw [ex, vsx, Nat.add_mul]; omega
      · rintro ⟨c1, c2, c3, y', ⟨V, y, v1, ⟨v2, v3⟩, p, ey⟩, ex⟩
        have Vi := noi V v1
        have hV : V < 64 := Nat.lt_of_le_of_lt (sub_le v1) hT'
        have Ui : (V ^^^ 1 <<< i).testBit i = true := by rw [tb_flip, Vi, decide_eq_true rfl]; rfl
        have bs := bsum_rm Ui 12
        rw [if_pos (by omega), xx] at bs
        have vsx := vs_rm (fun i => fr i k) Ui 6
        rw [if_pos h6, xx] at vsx
        unfold dn at v3
        rw [if_pos rfl] at v3
        have sub : (V ^^^ 1 <<< i) &&& T = V ^^^ 1 <<< i := sub_of (fun q hq => by
          by_cases w : q = i
          · rw [w]; exact h
          · rw [oth _ _ w] at hq
            have := sub_bit v1 hq
            rw [oth _ _ w] at this
            exact this)
        have hU := flip_lt hV h6
        have xU : T ^^^ (V ^^^ 1 <<< i) < 64 := (mk_xor ⟨T, hT⟩ ⟨V ^^^ 1 <<< i, hU⟩ sub).1
        refine ⟨V ^^^ 1 <<< i, y, sub, ⟨fun q h6' hq => ?_, by omega⟩, ?_, ?_⟩
        · by_cases w : q = i
          · rw [w, fxA_i, c2, decide_eq_true rfl]; exact ⟨c1, rfl⟩
          · rw [fxA_n w]
            rw [oth _ _ w] at hq
            exact v2 q h6' hq
        · refine (fx0 xU (by rw [Nat.testBit_xor, h, Ui]; rfl)).mpr ?_
          have e1 : T ^^^ (V ^^^ 1 <<< i) = (T ^^^ 1 <<< i) ^^^ V := by rw [← Nat.xor_assoc, x3]
          rw [e1]
          exact PP_congr (fun _ _ _ _ => rfl) (fun j hj => by unfold dn; rw [if_neg (by omega)]) p
        · rw [ex, ey, vsx, Nat.add_mul]; omega
    · have hk' : e < k := by omega
      constructor
      · rintro ⟨U, y, u1, ⟨u2, u3⟩, p, ex⟩
        have hU : U < 64 := Nat.lt_of_le_of_lt (sub_le u1) hT
        have xU : T ^^^ U < 64 := (mk_xor ⟨T, hT⟩ ⟨U, hU⟩ u1).1
        have Ui : U.testBit i = false := by
          cases w : U.testBit i with
          | false => rfl
          | true =>
            have := (u2 i h6 w).2
            rw [fxA_i, Bool.and_eq_true] at this
            exact absurd (of_decide_eq_true this.2) z
        obtain ⟨c1, c2, c3, y', p', ey⟩ := (fx h6 xU (by rw [Nat.testBit_xor, h, Ui]; rfl) hk').mp p
        refine ⟨c1, c2, c3, y' + vs (fun i => fr i k) U 6 * 2 ^ k, ⟨U, y', sub_of (fun q hq => ?_), ⟨fun q h6' hq => ?_, ?_⟩, ?_, rfl⟩, by omega⟩
        · have w : q ≠ i := fun r => by rw [r, Ui] at hq; exact absurd hq (by decide)
          rw [oth _ _ w]; exact sub_bit u1 hq
        · have w : q ≠ i := fun r => by rw [r, Ui] at hq; exact absurd hq (by decide)
          have := u2 q h6' hq
          rw [fxA_n w] at this
          exact this
        · unfold dn; rw [if_neg z]; exact u3
        · rw [x3]; exact p'
      · rintro ⟨c1, c2, c3, y', ⟨V, y, v1, ⟨v2, v3⟩, p, ey⟩, ex⟩
        have Vi := noi V v1
        have hV : V < 64 := Nat.lt_of_le_of_lt (sub_le v1) hT'
        unfold dn at v3
        rw [if_neg z] at v3
        have sub : V &&& T = V := sub_of (fun q hq => by
          have w : q ≠ i := fun r => by rw [r, Vi] at hq; exact absurd hq (by decide)
          have := sub_bit v1 hq
          rw [oth _ _ w] at this
          exact this)
        have xU : T ^^^ V < 64 := (mk_xor ⟨T, hT⟩ ⟨V, hV⟩ sub).1
        refine ⟨V, y + fr i e * 2 ^ e, sub, ⟨fun q h6' hq => ?_, v3⟩, ?_, by omega⟩
        · have w : q ≠ i := fun r => by rw [r, Vi] at hq; exact absurd hq (by decide)
          rw [fxA_n w]
          exact v2 q h6' hq
        · refine (fx h6 xU (by rw [Nat.testBit_xor, h, Vi]; rfl) hk').mpr ⟨c1, c2, c3, y, ?_, rfl⟩
          rw [x3]; exact p
/-- whoever is of a set is called on some day -/
theorem PP_day {n i : Nat} {a : Nat → Nat → Bool} {fr : Nat → Nat → Nat} {room : Nat → Nat} (h6 : i < 6) : ∀ {k T x : Nat}, T < 64 → T.testBit i = true → PP n a fr room k T x → ∃ e, e < k ∧ PP n (fxA a i e) fr room k T x
  | 0, T, x, _, h, p => by
    rw [p.1, Nat.zero_testBit] at h
    exact absurd h (by decide)
  | k + 1, T, x, hT, h, ⟨U, y, u1, ⟨u2, u3⟩, p, ex⟩ => by
    have hU : U < 64 := Nat.lt_of_le_of_lt (sub_le u1) hT
    have xU : T ^^^ U < 64 := (mk_xor ⟨T, hT⟩ ⟨U, hU⟩ u1).1
    cases Ui : U.testBit i with
    | true =>
      refine ⟨k, by omega, U, y, u1, ⟨fun q h6' hq => ?_, u3⟩, (fx0 xU (by rw [Nat.testBit_xor, h, Ui]; rfl)).mpr p, ex⟩
      by_cases w : q = i
      · subst w
        rw [fxA_i, (u2 q h6' hq).2, decide_eq_true rfl]
        exact ⟨(u2 q h6' hq).1, rfl⟩
      · rw [fxA_n w]; exact u2 q h6' hq
    | false =>
      obtain ⟨e, e1, e2⟩ := PP_day h6 xU (by rw [Nat.testBit_xor, h, Ui]; rfl) p
      refine ⟨e, by omega, U, y, u1, ⟨fun q h6' hq => ?_, u3⟩, e2, ex⟩
      have w : q ≠ i := fun r => by rw [r, Ui] at hq; exact absurd hq (by decide)
      rw [fxA_n w]; exact u2 q h6' hq
