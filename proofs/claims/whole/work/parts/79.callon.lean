/-! the class: a day more -/
theorem bit_lt6 {U i : Nat} (h : U < 64) (hi : U.testBit i = true) : i < 6 := by
  refine Classical.byContradiction (fun r => ?_)
  have : U.testBit i = false := Nat.testBit_lt_two_pow (Nat.lt_of_lt_of_le h (show 2 ^ 6 ≤ 2 ^ i from Nat.pow_le_pow_right (by omega) (by omega)))
  rw [this] at hi
  exact absurd hi (by decide)
theorem sub_le {U T : Nat} (h : U &&& T = U) : U ≤ T := by rw [← h]; exact Nat.and_le_right
theorem sub_bit {U T i : Nat} (h : U &&& T = U) (hi : U.testBit i = true) : T.testBit i = true := by
  have e : (U &&& T).testBit i = true := by rw [h]; exact hi
  rw [Nat.testBit_and, Bool.and_eq_true] at e
  exact e.2
theorem sub_of {U T : Nat} (h : ∀ i, U.testBit i = true → T.testBit i = true) : U &&& T = U := by
  apply Nat.eq_of_testBit_eq
  intro i
  rw [Nat.testBit_and]
  cases z : U.testBit i with
  | false => rfl
  | true => rw [h i z]; rfl
theorem vs_0 (g : Nat → Nat) : vs g 0 6 = 0 := by simp only [vs, Nat.zero_testBit]; rfl
theorem PP_step {n : Nat} {able : Nat → Nat → Bool} {fr : Nat → Nat → Nat} {room : Nat → Nat} {k S x : Nat} (hS : S < 64) : PP n able fr room (k + 1) S x ↔ (PP n able fr room k S x ∨ ∃ U, 0 < U ∧ U < 64 ∧ U &&& (S &&& aM n able room k) = U ∧ bsum U 12 ≤ room k ∧ ∃ y, PP n able fr room k (S ^^^ U) y ∧ x = y + vs (fun i => fr i k) U 6 * 2 ^ k) := by
  constructor
  · rintro ⟨U, y, a, ⟨b1, b2⟩, p, e⟩
    have hU : U < 64 := Nat.lt_of_le_of_lt (sub_le a) hS
    by_cases z : U = 0
    · subst z
      rw [Nat.xor_zero] at p
      rw [vs_0, Nat.zero_mul, Nat.add_zero] at e
      exact Or.inl (e ▸ p)
    · right
      have pp := mk_pop ⟨U, hU⟩ z
      have pp' : 0 < bsum U 12 := pp
      refine ⟨U, by omega, hU, ?_, b2, y, p, e⟩
      unfold aM
      rw [if_neg (by omega)]
      refine sub_of (fun i hi => ?_)
      obtain ⟨c1, c2⟩ := b1 i (bit_lt6 hU hi) hi
      rw [Nat.testBit_and, sub_bit a hi, am_bit, decide_eq_true c1, c2]; rfl
  · rintro (p | ⟨U, a0, hU, a, b, y, p, e⟩)
    · exact ⟨0, x, Nat.zero_and S, ⟨fun i _ h => by rw [Nat.zero_testBit] at h; exact absurd h (by decide), Nat.zero_le _⟩, by rw [Nat.xor_zero]; exact p, by rw [vs_0]; omega⟩
    · refine ⟨U, y, sub_of (fun i hi => ?_), ⟨fun i h6 hi => ?_, b⟩, p, e⟩
      · have := sub_bit a hi
        rw [Nat.testBit_and, Bool.and_eq_true] at this
        exact this.1
      · have := sub_bit a hi
        rw [Nat.testBit_and, Bool.and_eq_true] at this
        have h2 := this.2
        unfold aM at h2
        by_cases z : room k = 0
        · rw [if_pos z, Nat.zero_testBit] at h2; exact absurd h2 (by decide)
        · rw [if_neg z, am_bit, Bool.and_eq_true] at h2
          exact ⟨of_decide_eq_true h2.1, h2.2⟩
theorem isM_lt {e B : Nat} {Q : Nat → Prop} (h : isM e Q) (hB : ∀ x, Q x → x ≤ B) : e ≤ B + 1 := by
  rcases Nat.eq_zero_or_pos e with z | z
  · omega
  · have := hB _ (h.2 z); omega
theorem h_call20 {n k : Nat} {able : Nat → Nat → Bool} {fr : Nat → Nat → Nat} {room : Nat → Nat} (hk : k ≤ 30) (hf : ∀ i j, i < 6 → fr i j ≤ 594) (hr : ∀ j, room j ≤ 6) {S : Nat} (hS : S < 64) {r1 : Int32 × Ob} (hr1 : r1.1 = nI (aM n able room k)) (o0 : Ob) (h3 : ga o0 3 k = nI (room k))
    (h5 : ∀ U, U < 64 → U &&& am able k n = U → gb o0 5 U = lN (vs (fun i => fr i k) U 6 * 2 ^ k)) (h4 : ∀ T, T &&& S = T → T < S → ∃ e, gb o0 4 T = lO e ∧ isM e (PP n able fr room k T)) : ∀ f sp (o : Ob) (e : Nat), sp < f → sp &&& (S &&& aM n able room k) = sp → (∀ T, T ≠ S → gb o 4 T = gb o0 4 T) → gb o 4 S = lO e → isM e (fun x => PP n able fr room k S x ∨ ∃ U, sp < U ∧ U < 64 ∧ U &&& (S &&& aM n able room k) = U ∧ bsum U 12 ≤ room k ∧ ∃ y, PP n able fr room k (S ^^^ U) y ∧ x = y + vs (fun i => fr i k) U 6 * 2 ^ k) → frm [4] o0 o → ∃ o' e', (∀ K : Int32 → Ob → Option Ob, lX1_callOn_20 (nI k) r1 K f (nI S) (nI sp) o = K (nI S) o') ∧ (∀ T, T ≠ S → gb o' 4 T = gb o0 4 T) ∧ gb o' 4 S = lO e' ∧ isM e' (PP n able fr room (k + 1) S) ∧ frm [4] o0 o' := by
  have pk : 2 ^ k ≤ 2 ^ 30 := Nat.pow_le_pow_right (by omega) hk
  intro f
  induction f with
  | zero => intro sp o e h; omega
  | succ f ih =>
    intro sp o e hsp hsub q1 q2 q3 q4
    have hspS : sp &&& S = sp := sub_of (fun i hi => by
      have := sub_bit hsub hi
      rw [Nat.testBit_and, Bool.and_eq_true] at this
      exact this.1)
    have hs64 : sp < 64 := Nat.lt_of_le_of_lt (sub_le hspS) hS
    rcases Nat.eq_zero_or_pos sp with z | z
    · subst z
      refine ⟨o, e, fun K => ?_, q1, q2, isM_iff q3 (fun x => (PP_step hS).symm), q4⟩
      rw [lX1_callOn_20, if_pos (show nI 0 ≤ (0 : Int32) by decide)]
    · obtain ⟨x1, x2, x3, x4, x5, x6⟩ := mk_xor ⟨S, hS⟩ ⟨sp, hs64⟩ hspS
      have x1' : S ^^^ sp < 64 := x1
      have x3' : S ^^^ sp < S := x3 (by show sp ≠ 0; omega)
      obtain ⟨a, g1, g2⟩ := h4 (S ^^^ sp) x4 x3'
      have g1' : gb o 4 (S ^^^ sp) = lO a := by rw [q1 _ (by omega)]; exact g1
      have ha := isM_lt g2 (fun x hx => PP_le hf hx)
      have pk2 : 3564 * 2 ^ k ≤ 3564 * 2 ^ 30 := Nat.mul_le_mul_left _ pk
      have bk1 : ∀ x, PP n able fr room (k + 1) S x → x ≤ 3564 * 2 ^ (k + 1) := fun x hx => PP_le hf hx
      have pk3 : 3564 * 2 ^ (k + 1) ≤ 3564 * 2 ^ 31 := Nat.mul_le_mul_left _ (Nat.pow_le_pow_right (by omega) (by omega))
      have he : e ≤ 3564 * 2 ^ (k + 1) + 1 := isM_lt q3 (fun x hx => bk1 x ((PP_step hS).mpr (by
        rcases hx with hx | ⟨U, u1, u2⟩
        · exact Or.inl hx
        · exact Or.inr ⟨U, by omega, u2⟩)))
      have spam : sp &&& am able k n = sp := sub_of (fun i hi => by
        have := sub_bit hsub hi
        rw [Nat.testBit_and, Bool.and_eq_true] at this
        have h2 := this.2
        unfold aM at h2
        by_cases zz : room k = 0
        · rw [if_pos zz, Nat.zero_testBit] at h2; exact absurd h2 (by decide)
        · rw [if_neg zz] at h2; exact h2)
      have g5 : gb o 5 sp = lN (vs (fun i => fr i k) sp 6 * 2 ^ k) := by rw [(q4 5 (by decide)).2.2.2]; exact h5 sp hs64 spam
      have g3 : ga o 3 k = nI (room k) := by rw [(q4 3 (by decide)).2.2.1]; exact h3
      have hrk := hr k
      have hv := vs_le (g := fun i => fr i k) (B := 594) (fun i hi => hf i k hi) sp 6 (Nat.le_refl 6)
      have hv2 : vs (fun i => fr i k) sp 6 * 2 ^ k ≤ 3564 * 2 ^ 30 := Nat.mul_le_mul hv pk
      have bc := h_bits (x := sp) (by omega)
      have bl : bsum sp 12 ≤ 12 := by
        have : ∀ m, bsum sp m ≤ m := by
          intro m
          induction m with
          | zero => exact Nat.le_refl _
          | succ m ih => rw [bsum]; omega
        exact this 12
      -- the next of the sets
      have mA : S &&& aM n able room k < 64 := Nat.lt_of_le_of_lt Nat.and_le_left hS
      have nx1 : (sp - 1) &&& S &&& aM n able room k = (sp - 1) &&& (S &&& aM n able room k) := Nat.and_assoc _ _ _
      have nlt : (sp - 1) &&& (S &&& aM n able room k) < sp := Nat.lt_of_le_of_lt Nat.and_le_left (by omega)
      have nsub : ((sp - 1) &&& (S &&& aM n able room k)) &&& (S &&& aM n able room k) = (sp - 1) &&& (S &&& aM n able room k) := by rw [Nat.and_assoc, Nat.and_self]
      have enum : ∀ U, U < 64 → U &&& (S &&& aM n able room k) = U → ((sp - 1) &&& (S &&& aM n able room k) < U ↔ (sp < U ∨ U = sp)) := by
        intro U u1 u2
        constructor
        · intro h
          rcases Nat.lt_trichotomy U sp with y | y | y
          · have := mk_enum ⟨S &&& aM n able room k, mA⟩ ⟨sp, hs64⟩ hsub z ⟨U, u1⟩ u2 y
            have : U ≤ (sp - 1) &&& (S &&& aM n able room k) := this
            omega
          · exact Or.inr y
          · exact Or.inl y
        · intro h
          omega
      -- what is possible, with one set more
      have iff : ∀ x, (PP n able fr room k S x ∨ ∃ U, (sp - 1) &&& (S &&& aM n able room k) < U ∧ U < 64 ∧ U &&& (S &&& aM n able room k) = U ∧ bsum U 12 ≤ room k ∧ ∃ y, PP n able fr room k (S ^^^ U) y ∧ x = y + vs (fun i => fr i k) U 6 * 2 ^ k) ↔ ((PP n able fr room k S x ∨ ∃ U, sp < U ∧ U < 64 ∧ U &&& (S &&& aM n able room k) = U ∧ bsum U 12 ≤ room k ∧ ∃ y, PP n able fr room k (S ^^^ U) y ∧ x = y + vs (fun i => fr i k) U 6 * 2 ^ k) ∨ (bsum sp 12 ≤ room k ∧ ∃ y, PP n able fr room k (S ^^^ sp) y ∧ x = y + vs (fun i => fr i k) sp 6 * 2 ^ k)) := by
        intro x
        constructor
        · rintro (p | ⟨U, u1, u2, u3, u4, u5⟩)
          · exact Or.inl (Or.inl p)
          · rcases (enum U u2 u3).mp u1 with y | y
            · exact Or.inl (Or.inr ⟨U, y, u2, u3, u4, u5⟩)
            · subst y; exact Or.inr ⟨u4, u5⟩
        · rintro ((p | ⟨U, u1, u2, u3, u4, u5⟩) | ⟨u4, u5⟩)
          · exact Or.inl p
          · exact Or.inr ⟨U, (enum U u2 u3).mpr (Or.inl u1), u2, u3, u4, u5⟩
          · exact Or.inr ⟨sp, nlt, hs64, hsub, u4, u5⟩
      have stepE : ∀ (K : Int32 → Ob → Option Ob), lX1_callOn_20 (nI k) r1 K (f + 1) (nI S) (nI sp) o = (if lO a < (0 : Int64) then lX1_callOn_20 (nI k) r1 K f (nI S) (nI ((sp - 1) &&& (S &&& aM n able room k))) o else if nI (room k) < nI (bsum sp 12) then lX1_callOn_20 (nI k) r1 K f (nI S) (nI ((sp - 1) &&& (S &&& aM n able room k))) o else lX1_callOn_20 (nI k) r1 K f (nI S) (nI ((sp - 1) &&& (S &&& aM n able room k))) (sb o 4 (vp_updL (gb o 4) S (if lO a + lN (vs (fun i => fr i k) sp 6 * 2 ^ k) < lO e then lO e else lO a + lN (vs (fun i => fr i k) sp 6 * 2 ^ k))))) := by
        intro K
        have e1 : nI sp - (1 : Int32) = nI (sp - 1) := pk_sub (a := sp) (b := 1) (by omega)
        have e2 : nI S &&& (nI sp ^^^ (-1 : Int32)) = nI (S ^^^ sp) := by
          have := u_andn S sp
          rw [xor_and hspS] at this
          exact this
        rw [lX1_callOn_20, if_neg (nI_nle z (by omega)), e2, u_gd ⟨x1', by omega⟩, nI_clamp (n := S ^^^ sp) (by omega), g1', u_let, u_jn]
        dsimp only
        rw [e1, hr1, fa_and, fa_and, nx1, bc, u_bd, u_gd (by omega), nI_clamp (n := k) (by omega), g3]
        simp (disch := omega) only [u_let, u_gd, nI_clamp, q2, g5]
      by_cases y : a = 0
      · -- nothing to build on
        have q3' := isM_iff q3 (fun x => ((iff x).trans ⟨fun h => by
          rcases h with h | ⟨_, w, hw, _⟩
          · exact h
          · have := g2.1 w hw; omega, Or.inl⟩).symm)
        obtain ⟨o', e', r1', r2⟩ := ih _ o e (by omega) nsub q1 q2 q3' q4
        refine ⟨o', e', fun K => ?_, r2⟩
        rw [stepE, if_pos ((lO_neg (by omega)).mpr y)]
        exact r1' K
      · by_cases w : room k < bsum sp 12
        · have q3' := isM_iff q3 (fun x => ((iff x).trans ⟨fun h => by
            rcases h with h | ⟨h, _⟩
            · exact h
            · omega, Or.inl⟩).symm)
          obtain ⟨o', e', r1', r2⟩ := ih _ o e (by omega) nsub q1 q2 q3' q4
          refine ⟨o', e', fun K => ?_, r2⟩
          rw [stepE, if_neg (fun h => y ((lO_neg (by omega)).mp h)), if_pos (nI_lt w (by omega))]
          exact r1' K
        · have add := isM_add (v := vs (fun i => fr i k) sp 6 * 2 ^ k) q3 g2
          have q3' := isM_iff add (fun x => ((iff x).trans ⟨fun h => by
            rcases h with h | ⟨_, h⟩
            · exact Or.inl h
            · exact Or.inr h, fun h => by
            rcases h with h | h
            · exact Or.inl h
            · exact Or.inr ⟨by omega, h⟩⟩).symm)
          have val : (if lO a + lN (vs (fun i => fr i k) sp 6 * 2 ^ k) < lO e then lO e else lO a + lN (vs (fun i => fr i k) sp 6 * 2 ^ k)) = lO (if a = 0 then e else if a + vs (fun i => fr i k) sp 6 * 2 ^ k ≤ e then e else a + vs (fun i => fr i k) sp 6 * 2 ^ k) := by
            generalize vs (fun i => fr i k) sp 6 * 2 ^ k = v at *
            have e0 : lO a + lN v = lO (a + v) := by
              obtain ⟨b, rfl⟩ : ∃ b, a = b + 1 := ⟨a - 1, by omega⟩
              rw [lO_s, lN_add, show b + 1 + v = (b + v) + 1 by omega, lO_s]
            rw [e0, if_neg y]
            by_cases u : a + v < e
            · rw [if_pos ((lO_lt (by omega) (by omega)).mpr u), if_pos (by omega)]
            · rw [if_neg (fun h => u ((lO_lt (by omega) (by omega)).mp h))]
              by_cases u2 : a + v ≤ e
              · rw [if_pos u2, show a + v = e by omega]
              · rw [if_neg u2]
          obtain ⟨o', e', r1', r2⟩ := ih _ (sb o 4 (vp_updL (gb o 4) S (if lO a + lN (vs (fun i => fr i k) sp 6 * 2 ^ k) < lO e then lO e else lO a + lN (vs (fun i => fr i k) sp 6 * 2 ^ k)))) _ (by omega) nsub (fun T hT => by rw [gb_sb, if_pos rfl, updL_ap, if_neg hT]; exact q1 T hT) (by rw [gb_sb, if_pos rfl, updL_ap, if_pos rfl]; exact val) q3' (frm_sb q4 (by decide) _)
          refine ⟨o', e', fun K => ?_, r2⟩
          rw [stepE, if_neg (fun h => y ((lO_neg (by omega)).mp h)), if_neg (nI_nlt (by omega) (by omega))]
          exact r1' K
/-- all sets among some: the new day's best sums -/
theorem h_call9 {n k A : Nat} {able : Nat → Nat → Bool} {fr : Nat → Nat → Nat} {room : Nat → Nat} (hk : k ≤ 30) (hf : ∀ i j, i < 6 → fr i j ≤ 594) (hr : ∀ j, room j ≤ 6) (hA : A < 64) {r1 : Int32 × Ob} (hr1 : r1.1 = nI (aM n able room k)) (o0 : Ob) (h3 : ga o0 3 k = nI (room k))
    (h5 : ∀ U, U < 64 → U &&& am able k n = U → gb o0 5 U = lN (vs (fun i => fr i k) U 6 * 2 ^ k)) : ∀ f S (o : Ob), S < f → S &&& A = S → (∀ T, T &&& A = T → ∃ e, gb o 4 T = lO e ∧ isM e (if S < T then PP n able fr room (k + 1) T else PP n able fr room k T)) → frm [4] o0 o → ∃ o', lX1_callOn_9 (nI k) (nI A) r1 f (nI S) o = some o' ∧ (∀ T, T &&& A = T → ∃ e, gb o' 4 T = lO e ∧ isM e (PP n able fr room (k + 1) T)) ∧ frm [4] o0 o' := by
  intro f
  induction f with
  | zero => intro S o h; omega
  | succ f ih =>
    intro S o hS hsub q1 q2
    have hS64 : S < 64 := Nat.lt_of_le_of_lt (sub_le hsub) hA
    rcases Nat.eq_zero_or_pos S with z | z
    · subst z
      refine ⟨o, ?_, fun T hT => ?_, q2⟩
      · rw [lX1_callOn_9, if_pos (show nI 0 ≤ (0 : Int32) by decide)]
      · obtain ⟨e, e1, e2⟩ := q1 T hT
        refine ⟨e, e1, ?_⟩
        rcases Nat.eq_zero_or_pos T with y | y
        · subst y
          rw [if_neg (by omega)] at e2
          refine isM_iff e2 (fun x => ?_)
          rw [PP_step (by omega)]
          refine ⟨Or.inl, fun h => ?_⟩
          rcases h with h | ⟨U, u1, _, u3, _⟩
          · exact h
          · rw [Nat.zero_and, Nat.and_zero] at u3
            omega
        · rw [if_pos y] at e2
          exact e2
    · obtain ⟨e, e1, e2⟩ := q1 S hsub
      rw [if_neg (by omega)] at e2
      have lowT : ∀ T, T &&& S = T → T &&& A = T := fun T hT => sub_of (fun i hi => sub_bit hsub (sub_bit hT hi))
      obtain ⟨o', e', r1', r2, r3, r4, r5⟩ := h_call20 hk hf hr hS64 hr1 o (by rw [(q2 3 (by decide)).2.2.1]; exact h3) (fun U u1 u2 => by rw [(q2 5 (by decide)).2.2.2]; exact h5 U u1 u2)
        (fun T hT hlt => by
          obtain ⟨c, c1, c2⟩ := q1 T (lowT T hT)
          rw [if_neg (by omega)] at c2
          exact ⟨c, c1, c2⟩)
        zfu (S &&& aM n able room k) o e (u_zfu (by have : S &&& aM n able room k ≤ S := Nat.and_le_left
                                                    omega)) (by rw [Nat.and_self]) (fun T _ => rfl) e1
        (isM_iff e2 (fun x => ⟨Or.inl, fun h => by
          rcases h with h | ⟨U, u1, u2, u3, _⟩
          · exact h
          · have := sub_le u3; omega⟩)) (frm_rf _ _)
      have e1' : nI S - (1 : Int32) = nI (S - 1) := pk_sub (a := S) (b := 1) (by omega)
      have enum : ∀ T, T &&& A = T → ((S - 1) &&& A < T ↔ (S < T ∨ T = S)) := by
        intro T hT
        have hT64 : T < 64 := Nat.lt_of_le_of_lt (sub_le hT) hA
        have nlt : (S - 1) &&& A < S := Nat.lt_of_le_of_lt Nat.and_le_left (by omega)
        constructor
        · intro h
          rcases Nat.lt_trichotomy T S with y | y | y
          · have := mk_enum ⟨A, hA⟩ ⟨S, hS64⟩ hsub z ⟨T, hT64⟩ hT y
            have : T ≤ (S - 1) &&& A := this
            omega
          · exact Or.inr y
          · exact Or.inl y
        · intro h; omega
      have nle : (S - 1) &&& A ≤ S - 1 := Nat.and_le_left
      obtain ⟨o2, s1, s2, s3⟩ := ih ((S - 1) &&& A) o' (by omega) (by rw [Nat.and_assoc, Nat.and_self]) (fun T hT => by
        by_cases y : T = S
        · subst y
          refine ⟨e', r3, ?_⟩
          rw [if_pos ((enum T hT).mpr (Or.inr rfl))]
          exact r4
        · obtain ⟨c, c1, c2⟩ := q1 T hT
          refine ⟨c, by rw [r2 T y]; exact c1, ?_⟩
          by_cases w : S < T
          · rw [if_pos w] at c2
            rw [if_pos ((enum T hT).mpr (Or.inl w))]
            exact c2
          · rw [if_neg w] at c2
            rw [if_neg (fun h => by
              rcases (enum T hT).mp h with h | h
              · exact w h
              · exact y h)]
            exact c2) (frm_tr q2 r5)
      refine ⟨o2, ?_, s2, s3⟩
      rw [lX1_callOn_9, if_neg (nI_nle z (by omega)), hr1, fa_and, u_let, u_jn, r1', e1', fa_and, u_let]
      exact s1
theorem h_callOn {n K k A : Nat} {able : Nat → Nat → Bool} {fr : Nat → Nat → Nat} {room : Nat → Nat} (hn : n ≤ 6) (hK : K ≤ 30) (hk : k ≤ K) (hf : ∀ i j, i < 6 → fr i j ≤ 594) (hr : ∀ j, room j ≤ 6) (hA : A < 64) {oe oc ow os : Ob} (hE : CE n K able fr room oe) (h4 : ∀ T, T &&& A = T → ∃ e, gb oe 4 T = lO e ∧ isM e (PP n able fr room k T)) : ∃ o', pX1_callOn oe oc ow os (nI k) (nI A) = some o' ∧ (∀ T, T &&& A = T → ∃ e, gb o' 4 T = lO e ∧ isM e (PP n able fr room (k + 1) T)) ∧ frm [4, 5] oe o' := by
  obtain ⟨o1, a1, a2, a3⟩ := h_addUp (oc := oc) (ow := ow) (os := os) hn hK hk hf hr hE
  obtain ⟨o', b1, b2, b3⟩ := h_call9 (n := n) (able := able) (by omega) hf hr hA (r1 := (nI (aM n able room k), o1)) rfl o1 (by rw [(a3 3 (by decide)).2.2.1]; exact hE.2.1 k hk) a2 zfu A o1 (u_zfu (by omega)) (Nat.and_self A) (fun T hT => by
    obtain ⟨e, e1, e2⟩ := h4 T hT
    refine ⟨e, by rw [(a3 4 (by decide)).2.2.2]; exact e1, ?_⟩
    rw [if_neg (by have := sub_le hT
                   omega)]
    exact e2) (frm_rf _ _)
  refine ⟨o', ?_, b2, frm_tr (frm_mono a3 (by decide)) (frm_mono b3 (by decide))⟩
  unfold pX1_callOn
  rw [a1, u_bd]
  exact b1
