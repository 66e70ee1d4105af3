/-! masks below 64, and their words in the two programs -/
theorem mk_xor : ∀ T : Fin 64, ∀ U : Fin 64, U.val &&& T.val = U.val → T.val ^^^ U.val < 64 ∧ T.val ^^^ U.val ≤ T.val ∧ (U.val ≠ 0 → T.val ^^^ U.val < T.val) ∧ (T.val ^^^ U.val) &&& T.val = T.val ^^^ U.val ∧ (T.val ^^^ U.val) &&& U.val = 0 ∧ (T.val ^^^ U.val) ||| U.val = T.val := by decide +kernel
theorem mk_or : ∀ s : Fin 64, ∀ m : Fin 64, s.val ||| m.val < 64 ∧ (s.val &&& m.val = 0 → m.val &&& (s.val ||| m.val) = m.val ∧ (s.val ||| m.val) ^^^ m.val = s.val) := by decide +kernel
theorem mk_pop : ∀ u : Fin 64, u.val ≠ 0 → 0 < bsum u.val 12 := by decide +kernel
theorem u_m1all : (-(nI 1)).toBitVec = BitVec.allOnes 32 := by decide
theorem u_andn (T U : Nat) : nI T &&& (nI U ^^^ -(nI 1)) = nI (T ^^^ (T &&& U)) := by
  apply Int32.toBitVec_inj.1
  rw [Int32.toBitVec_and, Int32.toBitVec_xor, u_m1all]
  show BitVec.ofNat 32 T &&& (BitVec.ofNat 32 U ^^^ BitVec.allOnes 32) = BitVec.ofNat 32 (T ^^^ (T &&& U))
  apply BitVec.eq_of_getLsbD_eq
  intro i hi
  simp only [BitVec.getLsbD_and, BitVec.getLsbD_xor, BitVec.getLsbD_ofNat, BitVec.getLsbD_allOnes, hi, decide_true, Bool.true_and, Nat.testBit_xor, Nat.testBit_and]
  cases T.testBit i <;> cases U.testBit i <;> rfl
theorem xor_and {T U : Nat} (h : U &&& T = U) : T ^^^ (T &&& U) = T ^^^ U := by rw [Nat.and_comm, h]
/-! 64 bits: -1 or a number -/
def lO (e : Nat) : Int64 := if e = 0 then -1 else lN (e - 1)
theorem lO_0 : lO 0 = -1 := rfl
theorem lO_s (e : Nat) : lO (e + 1) = lN e := if_neg (Nat.succ_ne_zero e)
theorem lN_nneg {e : Nat} (h : e < 2 ^ 62) : ¬ lN e < (0 : Int64) := fun r => by
  have := (pk_lLT (a := e) (b := 0) (by omega) (by omega)).mp r
  omega
theorem lO_neg {e : Nat} (h : e < 2 ^ 62) : (lO e < (0 : Int64)) ↔ e = 0 := by
  cases e with
  | zero => exact ⟨fun _ => rfl, fun _ => by decide⟩
  | succ e => rw [lO_s]; exact ⟨fun r => absurd r (lN_nneg (by omega)), fun r => absurd r (Nat.succ_ne_zero e)⟩
theorem lO_lt {a b : Nat} (ha : a < 2 ^ 62) (hb : b < 2 ^ 62) : lO a < lO b ↔ a < b := by
  cases a with
  | zero =>
    cases b with
    | zero => exact ⟨fun r => absurd r (by decide), fun r => absurd r (Nat.lt_irrefl 0)⟩
    | succ b =>
      refine ⟨fun _ => Nat.succ_pos b, fun _ => ?_⟩
      rw [lO_s, lO_0, Int64.lt_iff_toInt_lt, pk_lT (by omega)]
      have : (-1 : Int64).toInt = -1 := by decide
      omega
  | succ a =>
    cases b with
    | zero =>
      refine ⟨fun r => ?_, fun r => absurd r (Nat.not_lt_zero _)⟩
      rw [lO_s, lO_0, Int64.lt_iff_toInt_lt, pk_lT (by omega)] at r
      have : (-1 : Int64).toInt = -1 := by decide
      omega
    | succ b =>
      rw [lO_s, lO_s, pk_lLT (by omega) (by omega)]
      omega
theorem vs_or (g : Nat → Nat) {s i : Nat} (hs : s < 2 ^ i) : ∀ m, vs g (s ||| 1 <<< i) m = vs g s m + (if i < m then g i else 0)
  | 0 => rfl
  | m + 1 => by
    have ih := vs_or g hs m
    rw [vs, vs, ih, Nat.testBit_or, Nat.one_shiftLeft, Nat.testBit_two_pow]
    by_cases q : i = m
    · subst q
      have z : s.testBit i = false := Nat.testBit_lt_two_pow hs
      rw [z, decide_eq_true rfl, if_neg (Nat.lt_irrefl i), if_pos (Nat.lt_succ_self i)]
      simp only [Bool.or_true, if_true, Bool.false_eq_true, if_false, Nat.add_zero]
    · rw [decide_eq_false q, Bool.or_false]
      by_cases y : i < m
      · rw [if_pos y, if_pos (show i < m + 1 by omega)]; omega
      · rw [if_neg y, if_neg (show ¬ i < m + 1 by omega)]; omega
theorem or_add {s i : Nat} (hs : s < 2 ^ i) : s ||| 1 <<< i = 2 ^ i + s := by
  rw [Nat.one_shiftLeft, Nat.or_comm]
  have := Nat.two_pow_add_eq_or_of_lt hs 1
  rw [Nat.mul_one] at this
  exact this.symm
theorem PP_le {n : Nat} {able : Nat → Nat → Bool} {fr : Nat → Nat → Nat} {room : Nat → Nat} (hf : ∀ i j, i < 6 → fr i j ≤ 594) : ∀ {k T x : Nat}, PP n able fr room k T x → x ≤ 3564 * 2 ^ k
  | 0, T, x, h => by rw [h.2]; exact Nat.zero_le _
  | k + 1, T, x, ⟨U, y, _, _, p, e⟩ => by
    have a := PP_le hf p
    have b := vs_le (g := fun i => fr i k) (B := 594) (fun i hi => hf i k hi) U 6 (Nat.le_refl 6)
    have c := Nat.mul_le_mul_right (2 ^ k) b
    rw [e, Nat.pow_succ]
    omega
/-! the class: who may be called on a day, the sums of sets -/
def CE (n K : Nat) (able : Nat → Nat → Bool) (fr : Nat → Nat → Nat) (room : Nat → Nat) (oe : Ob) : Prop := gi oe 8 = nI n ∧ (∀ j, j ≤ K → ga oe 3 j = nI (room j)) ∧ (∀ i, i < n → ∀ j, j ≤ K → gb oe (20 + i) j = if able i j = true then lN (fr i j * 2 ^ j) else -1)
def am (able : Nat → Nat → Bool) (k : Nat) : Nat → Nat
  | 0 => 0
  | i + 1 => am able k i ||| (if able i k = true then 1 <<< i else 0)
theorem am_lt (able : Nat → Nat → Bool) (k : Nat) : ∀ i, am able k i < 2 ^ i
  | 0 => Nat.zero_lt_one
  | i + 1 => by
    have h := am_lt able k i
    rw [am]
    refine Nat.or_lt_two_pow ?_ ?_
    · rw [Nat.pow_succ]; omega
    · split
      · rw [Nat.one_shiftLeft, Nat.pow_succ]
        have := Nat.two_pow_pos i
        omega
      · exact Nat.two_pow_pos _
theorem am_bit (able : Nat → Nat → Bool) (k q : Nat) : ∀ i, (am able k i).testBit q = (decide (q < i) && able q k)
  | 0 => by rw [am, Nat.zero_testBit]; rfl
  | i + 1 => by
    have h := am_bit able k q i
    rw [am, Nat.testBit_or, h]
    by_cases z : q = i
    · subst z
      by_cases y : able q k = true
      · rw [if_pos y, Nat.one_shiftLeft, Nat.testBit_two_pow, decide_eq_true rfl, y, decide_eq_true (Nat.lt_succ_self q)]
        simp
      · have y' : able q k = false := by cases hh : able q k; rfl; exact absurd hh y
        rw [if_neg y, Nat.zero_testBit, y']
        simp
    · have e1 : ((if able i k = true then 1 <<< i else 0) : Nat).testBit q = false := by
        split
        · rw [Nat.one_shiftLeft, Nat.testBit_two_pow, decide_eq_false (fun e => z e.symm)]
        · exact Nat.zero_testBit q
      rw [e1, Bool.or_false]
      by_cases y : q < i
      · rw [decide_eq_true y, decide_eq_true (by omega)]
      · rw [decide_eq_false y, decide_eq_false (by omega)]
theorem am_sub {able : Nat → Nat → Bool} {k n U : Nat} : U &&& am able k n = U ↔ ∀ q, U.testBit q = true → q < n ∧ able q k = true := by
  constructor
  · intro h q hq
    have e : (U &&& am able k n).testBit q = true := by rw [h]; exact hq
    rw [Nat.testBit_and, am_bit, hq, Bool.true_and, Bool.and_eq_true] at e
    exact ⟨of_decide_eq_true e.1, e.2⟩
  · intro h
    apply Nat.eq_of_testBit_eq
    intro q
    rw [Nat.testBit_and, am_bit]
    cases z : U.testBit q with
    | false => rfl
    | true =>
      obtain ⟨a, b⟩ := h q z
      rw [decide_eq_true a, b]; rfl
theorem h_add45 {n K k : Nat} {able : Nat → Nat → Bool} {fr : Nat → Nat → Nat} {room : Nat → Nat} (hn : n ≤ 6) (hK : K ≤ 30) (hk : k ≤ K) (hf : ∀ i j, i < 6 → fr i j ≤ 594) {i : Nat} (hi : i < n) (o0 : Ob) (hE : CE n K able fr room o0)
    (h5 : ∀ U, U < 2 ^ i → U &&& am able k i = U → gb o0 5 U = lN (vs (fun i => fr i k) U 6 * 2 ^ k)) : ∃ o', (∀ KK : Int32 → Ob → Option (Int32 × Ob), lX1_addUp_45 (nI k) (nI (1 <<< i)) KK zfu (nI i) 0 o0 = KK (nI i) o') ∧ (∀ U, U < 2 ^ (i + 1) → U &&& am able k (i + 1) = U → gb o' 5 U = lN (vs (fun i => fr i k) U 6 * 2 ^ k)) ∧ frm [5] o0 o' := by
  have p6 : 2 ^ i ≤ 32 := by
    rcases (show i = 0 ∨ i = 1 ∨ i = 2 ∨ i = 3 ∨ i = 4 ∨ i = 5 by omega) with rfl | rfl | rfl | rfl | rfl | rfl <;> decide
  have key := u_loopP (fun f q o => (fun KK : Int32 → Ob → Option (Int32 × Ob) => lX1_addUp_45 (nI k) (nI (1 <<< i)) KK f (nI i) (nI q) o)) (fun q o => (∀ U, U < 2 ^ i → gb o 5 U = gb o0 5 U) ∧ (∀ s, s < q → gb o 5 (2 ^ i + s) = gb o0 5 s + gb o0 (20 + i) k) ∧ frm [5] o0 o) (fun r => ∃ o', (∀ KK : Int32 → Ob → Option (Int32 × Ob), r KK = KK (nI i) o') ∧ (∀ U, U < 2 ^ i → gb o' 5 U = gb o0 5 U) ∧ (∀ s, s < 2 ^ i → gb o' 5 (2 ^ i + s) = gb o0 5 s + gb o0 (20 + i) k) ∧ frm [5] o0 o') (2 ^ i) (fun f q o hq hP => ?_) (fun f o hP => ?_) zfu 0 o0 (Nat.zero_le _) (u_zfu (by omega)) ⟨fun U hU => rfl, fun s hs => absurd hs (Nat.not_lt_zero s), frm_rf _ _⟩
  · obtain ⟨o', a1, a2, a3, a4⟩ := key
    refine ⟨o', a1, fun U hU hs => ?_, a4⟩
    by_cases z : U < 2 ^ i
    · rw [a2 U z]
      refine h5 U z ?_
      rw [am_sub] at hs ⊢
      intro q hq
      refine ⟨?_, (hs q hq).2⟩
      refine Classical.byContradiction (fun r => ?_)
      have : U.testBit q = false := Nat.testBit_lt_two_pow (Nat.lt_of_lt_of_le z (Nat.pow_le_pow_right (by omega) (by omega)))
      rw [this] at hq
      exact absurd hq (by decide)
    · have hU2 : U < 2 ^ i + 2 ^ i := by rw [Nat.pow_succ] at hU; omega
      have eU : U = 2 ^ i + (U - 2 ^ i) := by omega
      have hs' : U - 2 ^ i < 2 ^ i := by omega
      generalize U - 2 ^ i = s at *
      subst eU
      have eo := or_add hs'
      rw [a3 s hs', ← eo]
      rw [← eo, am_sub] at hs
      have bi := (hs i (by rw [Nat.testBit_or, Nat.one_shiftLeft, Nat.testBit_two_pow, decide_eq_true rfl, Bool.or_true])).2
      rw [vs_or _ hs', if_pos (show i < 6 by omega), hE.2.2 i hi k hk, if_pos bi, h5 s hs' (am_sub.mpr (fun q hq => by
        have := hs q (by rw [Nat.testBit_or, hq]; rfl)
        refine ⟨?_, this.2⟩
        refine Classical.byContradiction (fun r => ?_)
        have : s.testBit q = false := Nat.testBit_lt_two_pow (Nat.lt_of_lt_of_le hs' (Nat.pow_le_pow_right (by omega) (by omega)))
        rw [this] at hq
        exact absurd hq (by decide))), lN_add, Nat.add_mul]
  · obtain ⟨p1, p2, p3⟩ := hP
    have e1 : q ||| 1 <<< i = 2 ^ i + q := or_add hq
    have g2 : gb o (20 + i) = gb o0 (20 + i) := (p3 (20 + i) (by simp only [List.mem_cons, List.not_mem_nil, or_false]; omega)).2.2.2
    refine ⟨sb o 5 (vp_updL (gb o 5) (2 ^ i + q) (gb o0 5 q + gb o0 (20 + i) k)), ⟨fun U hU => ?_, fun s hs => ?_, frm_sb p3 (by decide) _⟩, ?_⟩
    · rw [gb_sb, if_pos rfl, updL_ap, if_neg (by omega)]
      exact p1 U hU
    · rw [gb_sb, if_pos rfl, updL_ap]
      by_cases z : s = q
      · subst z; rw [if_pos rfl]
      · rw [if_neg (by omega)]; exact p2 s (by omega)
    · funext KK
      have sh : (1 <<< i : Nat) = 2 ^ i := Nat.one_shiftLeft i
      have l1 : nI q < nI (1 <<< i) := nI_lt (by rw [sh]; exact hq) (by rw [sh]; omega)
      show lX1_addUp_45 _ _ _ _ _ _ _ = lX1_addUp_45 _ _ _ _ _ _ _
      rw [lX1_addUp_45, if_neg (nI_ge (by rw [sh]; exact hq) (by rw [sh]; omega)), fa_or, e1, u_gd (by omega), u_gd (by omega), u_gd (by omega), u_gd (by omega), u_let, u_let, nI_clamp (n := q) (by omega), nI_clamp (n := 2 ^ i + q) (by omega), nI_clamp (n := i) (by omega), nI_clamp (n := k) (by omega), g2, p1 q hq, show nI q + (1 : Int32) = nI (q + 1) from nI_add _ _]
  · obtain ⟨p1, p2, p3⟩ := hP
    refine ⟨o, fun KK => ?_, p1, p2, p3⟩
    have sh : (1 <<< i : Nat) = 2 ^ i := Nat.one_shiftLeft i
    show lX1_addUp_45 _ _ _ _ _ _ _ = _
    rw [lX1_addUp_45, if_pos (by rw [sh]; exact nI_le (Nat.le_refl _) (by omega))]
theorem CE_frm {n K : Nat} {able : Nat → Nat → Bool} {fr : Nat → Nat → Nat} {room : Nat → Nat} {o o' : Ob} {ks : List Nat} (hn : n ≤ 6) (h : CE n K able fr room o) (f : frm ks o o') (h3 : 3 ∉ ks) (h8 : 8 ∉ ks) (h20 : ∀ k, 20 ≤ k → k ∉ ks) : CE n K able fr room o' := by
  refine ⟨(f 8 h8).1.trans h.1, fun j hj => ?_, fun i hi j hj => ?_⟩
  · rw [(f 3 h3).2.2.1]; exact h.2.1 j hj
  · rw [(f (20 + i) (h20 _ (by omega))).2.2.2]; exact h.2.2 i hi j hj
def aM (n : Nat) (able : Nat → Nat → Bool) (room : Nat → Nat) (k : Nat) : Nat := if room k = 0 then 0 else am able k n
theorem h_addUp {n K k : Nat} {able : Nat → Nat → Bool} {fr : Nat → Nat → Nat} {room : Nat → Nat} (hn : n ≤ 6) (hK : K ≤ 30) (hk : k ≤ K) (hf : ∀ i j, i < 6 → fr i j ≤ 594) (hr : ∀ j, room j ≤ 6) {oe oc ow os : Ob} (hE : CE n K able fr room oe) : ∃ o', pX1_addUp oe oc ow os (nI k) = some (nI (aM n able room k), o') ∧ (∀ U, U < 64 → U &&& am able k n = U → gb o' 5 U = lN (vs (fun i => fr i k) U 6 * 2 ^ k)) ∧ frm [5] oe o' := by
  have pk : 2 ^ k ≤ 2 ^ 30 := Nat.pow_le_pow_right (by omega) (by omega)
  have z0 : vs (fun i => fr i k) 0 6 = 0 := by simp only [vs, Nat.zero_testBit]; rfl
  have h20 : ∀ k, 20 ≤ k → k ∉ [5] := fun k h => by simp only [List.mem_cons, List.not_mem_nil, or_false]; omega
  have key := u_loopP (fun f i (s : Int32 × Ob) => (fun KK : Int32 → Ob → Option (Int32 × Ob) => lX1_addUp_11 (nI k) KK f s.1 (nI i) s.2)) (fun i s => s.1 = nI (am able k i) ∧ (∀ U, U < 2 ^ i → U &&& am able k i = U → gb s.2 5 U = lN (vs (fun i => fr i k) U 6 * 2 ^ k)) ∧ frm [5] oe s.2) (fun r => ∃ o', (∀ KK : Int32 → Ob → Option (Int32 × Ob), r KK = KK (nI (am able k n)) o') ∧ (∀ U, U < 2 ^ n → U &&& am able k n = U → gb o' 5 U = lN (vs (fun i => fr i k) U 6 * 2 ^ k)) ∧ frm [5] oe o') n (fun f i s hi hP => ?_) (fun f s hP => ?_) zfu 0 (nI 0, sb oe 5 (vp_updL (gb oe 5) 0 0)) (by omega) (u_zfu (by omega)) ⟨rfl, fun U hU _ => by
      have : U = 0 := by
        rw [Nat.pow_zero] at hU; omega
      subst this
      rw [gb_sb, if_pos rfl, updL_ap, if_pos rfl, z0, Nat.zero_mul]
      rfl, frm_sb (frm_rf _ _) (by decide) _⟩
  · obtain ⟨o', a1, a2, a3⟩ := key
    have e3 : ga o' 3 k = nI (room k) := by rw [(a3 3 (by decide)).2.2.1]; exact hE.2.1 k hk
    have hrk := hr k
    refine ⟨o', ?_, fun U hU hs => ?_, a3⟩
    · unfold pX1_addUp
      show zgd (nI 0) 64 _ = _
      rw [u_gd (by omega), u_let, u_jn]
      show lX1_addUp_11 (nI k) _ zfu (nI 0) (nI 0) (sb oe 5 (vp_updL (gb oe 5) 0 0)) = _
      have a1' : ∀ KK : Int32 → Ob → Option (Int32 × Ob), lX1_addUp_11 (nI k) KK zfu (nI 0) (nI 0) (sb oe 5 (vp_updL (gb oe 5) 0 0)) = KK (nI (am able k n)) o' := a1
      rw [a1']
      rw [u_gd (by omega), nI_clamp (by omega), e3]
      unfold aM
      by_cases z : room k = 0
      · rw [if_pos (show nI (room k) ≤ (0 : Int32) by rw [z]; decide), if_pos z]
        rfl
      · rw [if_neg (nI_nle (by omega) (by omega)), if_neg z]
    · refine a2 U ?_ hs
      rw [am_sub] at hs
      refine Nat.lt_pow_two_of_testBit U (fun i hi => ?_)
      cases z : U.testBit i with
      | false => rfl
      | true =>
        have := (hs i z).1
        omega
  · obtain ⟨x, o⟩ := s
    obtain ⟨p1, p2, p3⟩ := hP
    have hE' := CE_frm hn hE p3 (by decide) (by decide) h20
    obtain ⟨o', b1, b2, b3⟩ := h_add45 hn hK hk hf hi o hE' p2
    refine ⟨(nI (am able k (i + 1)), o'), ⟨rfl, b2, frm_tr p3 b3⟩, ?_⟩
    funext KK
    show lX1_addUp_11 (nI k) KK (f + 1) x (nI i) o = _
    have e20 := hE'.2.2 i hi k hk
    have hv : fr i k * 2 ^ k < 2 ^ 62 := by
      have := Nat.mul_le_mul (hf i k (by omega)) pk
      omega
    rw [lX1_addUp_11, hE'.1, if_neg (nI_ge hi (by omega)), show (1 : Int32) <<< (nI i &&& 31) = nI (1 <<< i) from u_shl1 (by omega), u_let, u_gd (by omega), u_gd (by omega), u_jn, nI_clamp (n := i) (by omega), nI_clamp (n := k) (by omega), e20, show x = nI (am able k i) from p1, am]
    by_cases g : able i k = true
    · rw [if_pos g, if_neg (lN_nneg hv), u_let, fa_or, if_pos g]
      dsimp only
      rw [u_jn, b1, u_let, show nI i + (1 : Int32) = nI (i + 1) from nI_add _ _]
    · rw [if_neg g, if_pos (show (-1 : Int64) < 0 by decide), if_neg g, Nat.or_zero]
      dsimp only
      rw [u_jn, b1, u_let, show nI i + (1 : Int32) = nI (i + 1) from nI_add _ _]
  · obtain ⟨x, o⟩ := s
    obtain ⟨p1, p2, p3⟩ := hP
    have hE' := CE_frm hn hE p3 (by decide) (by decide) h20
    refine ⟨o, fun KK => ?_, p2, p3⟩
    show lX1_addUp_11 (nI k) KK (f + 1) x (nI n) o = _
    rw [lX1_addUp_11, hE'.1, if_pos (nI_le (Nat.le_refl _) (by omega)), show x = nI (am able k n) from p1]
