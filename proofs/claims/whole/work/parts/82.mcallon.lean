/-- the reference's best sums ahead of day k, in parts of 2 to t -/
def RB (n : Nat) (able : Nat → Nat → Bool) (fr : Nat → Nat → Nat) (room : Nat → Nat) (k t : Nat) (m : Ob) : Prop := ∀ T, T < 64 → gb m 42 T = sc (bst n able fr room k T) t ∧ isM (bst n able fr room k T) (PP n able fr room k T)
theorem bst0 (n : Nat) (able : Nat → Nat → Bool) (fr : Nat → Nat → Nat) (room : Nat → Nat) (T : Nat) : isM (if T = 0 then 1 else 0) (PP n able fr room 0 T) := by
  by_cases z : T = 0
  · rw [if_pos z]
    exact ⟨fun x hx => by rw [hx.2]; omega, fun _ => ⟨z, rfl⟩⟩
  · rw [if_neg z]
    exact ⟨fun x hx => absurd hx.1 z, fun h => absurd h (Nat.lt_irrefl 0)⟩
theorem m_call2 {n k : Nat} {able : Nat → Nat → Bool} {fr : Nat → Nat → Nat} {room : Nat → Nat} (hk : k ≤ 30) (hf : ∀ i j, i < 6 → fr i j ≤ 594) (m0 : Ob) (hB : 0 < k → RB n able fr room k (30 - (k - 1)) m0) : ∃ m', (∀ K : Ob → Option Ob, lX11_callOn_2 (nI k) K zfu 0 m0 = K m') ∧ RB n able fr room k (30 - k) m' ∧ (∀ T, T < 64 → gb m' 43 T = gb m' 42 T) ∧ frm [42, 43] m0 m' := by
  have key := u_loopP (fun f q o => (fun K : Ob → Option Ob => lX11_callOn_2 (nI k) K f (nI q) o)) (fun q o => (∀ T, T < q → gb o 42 T = sc (bst n able fr room k T) (30 - k) ∧ gb o 43 T = gb o 42 T) ∧ (∀ T, q ≤ T → gb o 42 T = gb m0 42 T) ∧ frm [42, 43] m0 o) (fun r => ∃ m', (∀ K : Ob → Option Ob, r K = K m') ∧ (∀ T, T < 64 → gb m' 42 T = sc (bst n able fr room k T) (30 - k) ∧ gb m' 43 T = gb m' 42 T) ∧ frm [42, 43] m0 m') 64 (fun f q o hq hP => ?_) (fun f o hP => ?_) zfu 0 m0 (by omega) (u_zfu (by omega)) ⟨fun w hw => absurd hw (Nat.not_lt_zero w), fun T _ => rfl, frm_rf _ _⟩
  · obtain ⟨m', a1, a2, a3⟩ := key
    refine ⟨m', a1, fun T hT => ⟨(a2 T hT).1, ?_⟩, fun T hT => (a2 T hT).2, a3⟩
    rcases Nat.eq_zero_or_pos k with z | z
    · subst z; exact (bst_is (bst0 n able fr room T)).2
    · exact (hB z T hT).2
  · obtain ⟨p1, p2, p3⟩ := hP
    refine ⟨sb (sb o 42 (vp_updL (gb o 42) q (sc (bst n able fr room k q) (30 - k)))) 43 (vp_updL (gb o 43) q (sc (bst n able fr room k q) (30 - k))), ⟨fun T hT => ?_, fun T hT => ?_, frm_sb (frm_sb p3 (by decide) _) (by decide) _⟩, ?_⟩
    · simp only [gb_sb, Nat.reduceEqDiff, if_false, if_true, updL_ap]
      by_cases z : T = q
      · subst z; simp only [if_true, and_self]
      · simp only [z, if_false]; exact p1 T (by omega)
    · simp only [gb_sb, Nat.reduceEqDiff, if_false, if_true, updL_ap]
      rw [if_neg (by omega)]
      exact p2 T (by omega)
    · funext K
      show lX11_callOn_2 (nI k) K (f + 1) (nI q) o = _
      have fin : ∀ y25 : Int64, y25 = sc (bst n able fr room k q) (30 - k) → (zgd (nI q) 64 <| zlet (sb o 42 (vp_updL (gb o 42) q y25)) fun (o26 : Ob) => zgd (nI q) 64 <| zgd (nI q) 64 <| zlet (sb o26 43 (vp_updL (gb o26 43) q (gb o26 42 q))) fun (o27 : Ob) => zlet (nI q + (1 : Int32)) fun (x28 : Int32) => lX11_callOn_2 (nI k) K f x28 o27) = lX11_callOn_2 (nI k) K f (nI (q + 1)) (sb (sb o 42 (vp_updL (gb o 42) q (sc (bst n able fr room k q) (30 - k)))) 43 (vp_updL (gb o 43) q (sc (bst n able fr room k q) (30 - k)))) := by
        intro y hy
        subst hy
        simp (disch := omega) only [u_let, u_gd, nI_clamp, gb_sb, Nat.reduceEqDiff, if_false, if_true, updL_ap, u_lit, nI_add]
      rw [lX11_callOn_2, if_neg (show ¬ (64 : Int32) ≤ nI q from nI_ge (b := 64) hq (by omega)), u_jn]
      rcases Nat.eq_zero_or_pos k with z | z
      · subst z
        rw [if_pos (show nI 0 = (0 : Int32) from rfl)]
        have eb := (bst_is (bst0 n able fr room q)).1
        by_cases y : q = 0
        · rw [if_pos (show nI q = (0 : Int32) by rw [y]; rfl)]
          rw [nI_clamp (n := q) (by omega)]
          refine fin 0 ?_
          rw [← eb, if_pos y]
          rfl
        · rw [if_neg (nI_ne0 (by omega) (by omega))]
          rw [nI_clamp (n := q) (by omega)]
          refine fin (-1) ?_
          rw [← eb, if_neg y]
          rfl
      · obtain ⟨b1, b2⟩ := hB z q hq
        have bl := isM_lt b2 (fun x hx => PP_le hf hx)
        have pk : 3564 * 2 ^ k ≤ 3564 * 2 ^ 30 := Nat.mul_le_mul_left _ (Nat.pow_le_pow_right (by omega) hk)
        have e42 : gb o 42 q = sc (bst n able fr room k q) (30 - (k - 1)) := by rw [p2 q (Nat.le_refl q)]; exact b1
        have pt : 2 ^ (30 - (k - 1)) = 2 * 2 ^ (30 - k) := by rw [show 30 - (k - 1) = (30 - k) + 1 by omega, Nat.pow_succ, Nat.mul_comm]
        have pos := Nat.two_pow_pos (30 - k)
        have prod : 2 ^ k * 2 ^ (30 - k) = 2 ^ 30 := by rw [← Nat.pow_add, show k + (30 - k) = 30 by omega]
        rw [if_neg (nI_ne0 z (by omega)), u_gd (by omega), nI_clamp (n := q) (by omega), e42]
        generalize bst n able fr room k q = e at *
        have bd : e * 2 ^ (30 - k) ≤ 3564 * 2 ^ 30 + 2 ^ 30 := by
          have h1 := Nat.mul_le_mul_right (2 ^ (30 - k)) bl
          rw [Nat.add_mul, Nat.mul_assoc, prod, Nat.one_mul] at h1
          have : 2 ^ (30 - k) ≤ 2 ^ 30 := Nat.pow_le_pow_right (by omega) (by omega)
          omega
        cases e with
        | zero =>
          rw [if_neg (show ¬ (0 : Int64) ≤ sc 0 (30 - (k - 1)) by show ¬ (0 : Int64) ≤ -1; decide)]
          exact fin (-1) rfl
        | succ e =>
          rw [Nat.succ_mul] at bd
          have b4 : e * 2 ^ (30 - (k - 1)) = e * 2 ^ (30 - k) * 2 := by rw [pt, Nat.mul_comm 2, Nat.mul_assoc]
          rw [if_pos (show (0 : Int64) ≤ sc (e + 1) (30 - (k - 1)) by
            rw [sc_s]
            exact (pk_lLE (a := 0) (by omega) (by omega)).mpr (Nat.zero_le _)), u_gd (by omega)]
          have hz : ∀ o : Option Ob, znl (2 : Int64) o = o := fun o => if_neg (by decide)
          rw [hz]
          refine fin _ ?_
          rw [sc_s, sc_s, b4, show (2 : Int64) = lN 2 from rfl, pk_lDiv (by omega) (by omega) (by omega), Nat.mul_div_cancel _ (by omega)]
  · refine ⟨o, fun K => ?_, hP.1, hP.2.2⟩
    show lX11_callOn_2 (nI k) K (f + 1) (nI 64) o = _
    rw [lX11_callOn_2, if_pos (show (64 : Int32) ≤ nI 64 by decide)]
/-- one set more is called on the day, ahead of all it goes with -/
theorem m_call123 {n k U0 : Nat} {able : Nat → Nat → Bool} {fr : Nat → Nat → Nat} {room : Nat → Nat} (hn : n ≤ 6) (hk : k ≤ 30) (hf : ∀ i j, i < 6 → fr i j ≤ 594) (hU : U0 < 2 ^ n) (hU0 : 0 < U0) (m0 : Ob) (h40 : gi m0 40 = nI n) (hB : RB n able fr room k (30 - k) m0) {Q : Nat → Nat → Prop} (hQB : ∀ T x, T < 64 → Q T x → x ≤ 3564 * 2 ^ (k + 1)) (h43 : ∀ T, T < 64 → ∃ e, gb m0 43 T = sc e (30 - k) ∧ isM e (Q T)) : ∃ m', (∀ K : Int32 → Ob → Option Ob, lX11_callOn_123 (lN (vs (fun i => fr i k) U0 6 * 2 ^ 30)) K zfu (nI U0) 0 m0 = K (nI U0) m') ∧ (∀ T, T < 64 → ∃ e, gb m' 43 T = sc e (30 - k) ∧ isM e (fun x => Q T x ∨ (U0 &&& T = U0 ∧ ∃ y, PP n able fr room k (T ^^^ U0) y ∧ x = y + vs (fun i => fr i k) U0 6 * 2 ^ k))) ∧ frm [43] m0 m' := by
  have p2 := p2_le hn
  have hv := vs_le (g := fun i => fr i k) (B := 594) (fun i hi => hf i k hi) U0 6 (Nat.le_refl 6)
  have pk : 3564 * 2 ^ (k + 1) ≤ 7128 * 2 ^ k := by rw [Nat.pow_succ]; omega
  have prod : 2 ^ k * 2 ^ (30 - k) = 2 ^ 30 := by rw [← Nat.pow_add, show k + (30 - k) = 30 by omega]
  have pos := Nat.two_pow_pos k
  have sca : ∀ e, e ≤ 20000 * 2 ^ k → e * 2 ^ (30 - k) < 2 ^ 62 := fun e he => by
    have h1 := Nat.mul_le_mul_right (2 ^ (30 - k)) he
    rw [Nat.mul_assoc, prod] at h1
    omega
  have vsc : vs (fun i => fr i k) U0 6 * 2 ^ 30 = (vs (fun i => fr i k) U0 6 * 2 ^ k) * 2 ^ (30 - k) := by rw [Nat.mul_assoc, prod]
  have vle : vs (fun i => fr i k) U0 6 * 2 ^ k ≤ 3564 * 2 ^ k := Nat.mul_le_mul_right _ hv
  have key := u_loopP (fun f q o => (fun K : Int32 → Ob → Option Ob => lX11_callOn_123 (lN (vs (fun i => fr i k) U0 6 * 2 ^ 30)) K f (nI U0) (nI q) o)) (fun q o => (∀ T, T < 64 → ∃ e, gb o 43 T = sc e (30 - k) ∧ isM e (fun x => Q T x ∨ (T ^^^ U0 < q ∧ U0 &&& T = U0 ∧ ∃ y, PP n able fr room k (T ^^^ U0) y ∧ x = y + vs (fun i => fr i k) U0 6 * 2 ^ k))) ∧ frm [43] m0 o) (fun r => ∃ m', (∀ K : Int32 → Ob → Option Ob, r K = K (nI U0) m') ∧ (∀ T, T < 64 → ∃ e, gb m' 43 T = sc e (30 - k) ∧ isM e (fun x => Q T x ∨ (T ^^^ U0 < 2 ^ n ∧ U0 &&& T = U0 ∧ ∃ y, PP n able fr room k (T ^^^ U0) y ∧ x = y + vs (fun i => fr i k) U0 6 * 2 ^ k))) ∧ frm [43] m0 m') (2 ^ n) (fun f q o hq hP => ?_) (fun f o hP => ?_) zfu 0 m0 (Nat.zero_le _) (u_zfu (by omega)) ⟨fun T hT => by
      obtain ⟨e, e1, e2⟩ := h43 T hT
      exact ⟨e, e1, isM_iff e2 (fun x => ⟨Or.inl, fun h => by
        rcases h with h | h
        · exact h
        · exact absurd h.1 (Nat.not_lt_zero _)⟩)⟩, frm_rf _ _⟩
  · obtain ⟨m', a1, a2, a3⟩ := key
    refine ⟨m', a1, fun T hT => ?_, a3⟩
    obtain ⟨e, e1, e2⟩ := a2 T hT
    refine ⟨e, e1, isM_iff e2 (fun x => ⟨fun h => ?_, fun h => ?_⟩)⟩
    · rcases h with h | h
      · exact Or.inl h
      · exact Or.inr h.2
    · rcases h with h | ⟨h1, y, h2, h3⟩
      · exact Or.inl h
      · obtain ⟨x1, _⟩ := mk_xor ⟨T, hT⟩ ⟨U0, by omega⟩ h1
        exact Or.inr ⟨PP_big x1 h2, h1, y, h2, h3⟩
  · obtain ⟨p1, p3⟩ := hP
    have q64 : q < 64 := by omega
    obtain ⟨y1, y2⟩ := mk_or ⟨q, q64⟩ ⟨U0, by omega⟩
    have y1' : q ||| U0 < 64 := y1
    have g40 : gi o 40 = nI n := by rw [(p3 40 (by decide)).1]; exact h40
    have g42 : gb o 42 q = sc (bst n able fr room k q) (30 - k) := by rw [(p3 42 (by decide)).2.2.2]; exact (hB q q64).1
    have bM := (hB q q64).2
    have bl := isM_lt bM (fun x hx => PP_le hf hx)
    obtain ⟨e, e1, e2⟩ := p1 (q ||| U0) y1'
    -- no set but q ||| U0 has q left over
    have other : ∀ T, T < 64 → U0 &&& T = U0 → T ^^^ U0 = q → T = q ||| U0 ∧ q &&& U0 = 0 := fun T hT hs he => by
      obtain ⟨_, _, _, _, x5, x6⟩ := mk_xor ⟨T, hT⟩ ⟨U0, by omega⟩ hs
      have x5' : (T ^^^ U0) &&& U0 = 0 := x5
      have x6' : (T ^^^ U0) ||| U0 = T := x6
      rw [he] at x5' x6'
      exact ⟨x6'.symm, x5'⟩
    by_cases g : bst n able fr room k q ≠ 0 ∧ q &&& U0 = 0
    · -- it may be added
      obtain ⟨g1, g2⟩ := g
      obtain ⟨z1, z2⟩ := y2 g2
      have z1' : U0 &&& (q ||| U0) = U0 := z1
      have z2' : (q ||| U0) ^^^ U0 = q := z2
      have be : e ≤ 3564 * 2 ^ (k + 1) + 1 := isM_lt e2 (fun x hx => by
        rcases hx with hx | ⟨_, _, y, hy, rfl⟩
        · exact hQB _ x y1' hx
        · rw [z2'] at hy
          have := PP_le hf hy
          rw [Nat.pow_succ]
          omega)
      have add := isM_add (v := vs (fun i => fr i k) U0 6 * 2 ^ k) e2 bM
      rw [if_neg g1] at add
      have val : (if sc (bst n able fr room k q) (30 - k) + lN (vs (fun i => fr i k) U0 6 * 2 ^ 30) ≤ sc e (30 - k) then sc e (30 - k) else sc (bst n able fr room k q) (30 - k) + lN (vs (fun i => fr i k) U0 6 * 2 ^ 30)) = sc (if bst n able fr room k q + vs (fun i => fr i k) U0 6 * 2 ^ k ≤ e then e else bst n able fr room k q + vs (fun i => fr i k) U0 6 * 2 ^ k) (30 - k) := by
        rw [vsc, sc_add (by omega)]
        by_cases w : bst n able fr room k q + vs (fun i => fr i k) U0 6 * 2 ^ k ≤ e
        · rw [if_pos w, if_pos ((sc_le (by omega) (sca _ (by omega)) (sca _ (by omega))).mpr w)]
        · rw [if_neg w, if_neg (fun r => w ((sc_le (by omega) (sca _ (by omega)) (sca _ (by omega))).mp r))]
      refine ⟨sb o 43 (vp_updL (gb o 43) (q ||| U0) (sc (if bst n able fr room k q + vs (fun i => fr i k) U0 6 * 2 ^ k ≤ e then e else bst n able fr room k q + vs (fun i => fr i k) U0 6 * 2 ^ k) (30 - k))), ⟨fun T hT => ?_, frm_sb p3 (by decide) _⟩, ?_⟩
      · rw [gb_sb, if_pos rfl, updL_ap]
        by_cases w : T = q ||| U0
        · subst w
          rw [if_pos rfl]
          refine ⟨_, rfl, isM_iff add (fun x => ⟨fun h => ?_, fun h => ?_⟩)⟩
          · rcases h with (h | h) | ⟨y, hy, h⟩
            · exact Or.inl h
            · exact Or.inr ⟨by omega, h.2⟩
            · exact Or.inr ⟨by rw [z2']; omega, z1', y, by rw [z2']; exact hy, h⟩
          · rcases h with h | ⟨h1, h2, y, hy, h⟩
            · exact Or.inl (Or.inl h)
            · rw [z2'] at hy
              exact Or.inr ⟨y, hy, h⟩
        · rw [if_neg w]
          obtain ⟨e', e1', e2'⟩ := p1 T hT
          refine ⟨e', e1', isM_iff e2' (fun x => ⟨fun h => ?_, fun h => ?_⟩)⟩
          · rcases h with h | h
            · exact Or.inl h
            · exact Or.inr ⟨by omega, h.2⟩
          · rcases h with h | ⟨h1, h2, h3⟩
            · exact Or.inl h
            · by_cases v : T ^^^ U0 = q
              · exact absurd (other T hT h2 v).1 w
              · exact Or.inr ⟨by omega, h2, h3⟩
      · funext K
        show lX11_callOn_123 _ K (f + 1) (nI U0) (nI q) o = _
        have and0 : nI U0 &&& nI q = (0 : Int32) := by rw [fa_and, Nat.and_comm, g2]; rfl
        have nn : ¬ sc (bst n able fr room k q) (30 - k) < (0 : Int64) := fun r => g1 ((sc_neg (sca _ (by omega))).mp r)
        have or1 : nI q ||| nI U0 = nI (q ||| U0) := fa_or _ _
        rw [lX11_callOn_123, g40, show (1 : Int32) <<< (nI n &&& 31) = nI (1 <<< n) from u_shl1 (by omega), Nat.one_shiftLeft, if_neg (nI_ge hq (by omega)), u_gd (by omega), nI_clamp (n := q) (by omega), g42, u_jn, u_jn, if_neg nn, if_pos and0]
        dsimp only
        rw [u_jn, u_jn, if_neg (show ¬ (1 : Int32) = 0 by decide), or1, u_gd (by omega), u_gd ⟨y1', by omega⟩, nI_clamp (n := q ||| U0) (by omega), e1, u_gd ⟨y1', by omega⟩, u_gd (by omega)]
        dsimp only
        rw [u_gd ⟨y1', by omega⟩, u_gd ⟨y1', by omega⟩, u_let, u_let, u_let, u_let, show nI q + (1 : Int32) = nI (q + 1) from nI_add _ _, ← val]
        by_cases w : sc (bst n able fr room k q) (30 - k) + lN (vs (fun i => fr i k) U0 6 * 2 ^ 30) ≤ sc e (30 - k)
        · rw [if_pos w, if_pos w]
        · rw [if_neg w, if_neg w]
    · -- it may not
      refine ⟨sb o 43 (vp_updL (gb o 43) (q ||| U0) (gb o 43 (q ||| U0))), ⟨fun T hT => ?_, frm_sb p3 (by decide) _⟩, ?_⟩
      · have e0 : gb (sb o 43 (vp_updL (gb o 43) (q ||| U0) (gb o 43 (q ||| U0)))) 43 T = gb o 43 T := by
          rw [gb_sb, if_pos rfl, updL_ap]
          by_cases w : T = q ||| U0
          · rw [if_pos w, w]
          · rw [if_neg w]
        rw [e0]
        obtain ⟨e', e1', e2'⟩ := p1 T hT
        refine ⟨e', e1', isM_iff e2' (fun x => ⟨fun h => ?_, fun h => ?_⟩)⟩
        · rcases h with h | h
          · exact Or.inl h
          · exact Or.inr ⟨by omega, h.2⟩
        · rcases h with h | ⟨h1, h2, y, hy, h3⟩
          · exact Or.inl h
          · by_cases v : T ^^^ U0 = q
            · exfalso
              rw [v] at hy
              have := bM.1 y hy
              exact g ⟨by omega, (other T hT h2 v).2⟩
            · exact Or.inr ⟨by omega, h2, y, hy, h3⟩
      · funext K
        show lX11_callOn_123 _ K (f + 1) (nI U0) (nI q) o = _
        have or1 : nI q ||| nI U0 = nI (q ||| U0) := fa_or _ _
        rw [lX11_callOn_123, g40, show (1 : Int32) <<< (nI n &&& 31) = nI (1 <<< n) from u_shl1 (by omega), Nat.one_shiftLeft, if_neg (nI_ge hq (by omega)), u_gd (by omega), nI_clamp (n := q) (by omega), g42, u_jn, u_jn]
        have rest : (fun (x19 : Int32) => zjn (fun (y20 : Int64) => zgd (nI q ||| nI U0) 64 <| zlet (sb o 43 (vp_updL (gb o 43) ((nI q ||| nI U0).toNatClampNeg) y20)) fun (o21 : Ob) => zlet (nI q + (1 : Int32)) fun (x22 : Int32) => lX11_callOn_123 (lN (vs (fun i => fr i k) U0 6 * 2 ^ 30)) K f (nI U0) x22 o21) fun (K218 : Int64 → Option Ob) => zjn (zgd (nI q ||| nI U0) 64 <| K218 ((gb o 43 ((nI q ||| nI U0).toNatClampNeg)))) fun (K209 : Option Ob) => if x19 = 0 then (K209) else (zgd (nI q) 64 <| zgd (nI q ||| nI U0) 64 <| if (sc (bst n able fr room k q) (30 - k) + (lN (vs (fun i => fr i k) U0 6 * 2 ^ 30))) ≤ (gb o 43 ((nI q ||| nI U0).toNatClampNeg)) then (K209) else (zgd (nI q) 64 <| K218 ((sc (bst n able fr room k q) (30 - k) + (lN (vs (fun i => fr i k) U0 6 * 2 ^ 30))))))) (0 : Int32) = lX11_callOn_123 (lN (vs (fun i => fr i k) U0 6 * 2 ^ 30)) K f (nI U0) (nI (q + 1)) (sb o 43 (vp_updL (gb o 43) (q ||| U0) (gb o 43 (q ||| U0)))) := by
          dsimp only
          rw [u_jn, u_jn, if_pos rfl, or1, u_gd ⟨y1', by omega⟩, nI_clamp (n := q ||| U0) (by omega)]
          dsimp only
          rw [u_gd ⟨y1', by omega⟩, u_let, u_let, show nI q + (1 : Int32) = nI (q + 1) from nI_add _ _]
        by_cases g1 : bst n able fr room k q = 0
        · rw [if_pos ((sc_neg (sca _ (by omega))).mpr g1)]
          exact rest
        · have g2 : ¬ nI U0 &&& nI q = (0 : Int32) := fun r => g ⟨g1, by
            rw [fa_and] at r
            have := (nI_eq (a := U0 &&& q) (b := 0) (by have : U0 &&& q ≤ U0 := Nat.and_le_left
                                                        omega) (by omega)).mp r
            rw [Nat.and_comm]; exact this⟩
          rw [if_neg (fun r => g1 ((sc_neg (sca _ (by omega))).mp r)), if_neg g2]
          exact rest
  · obtain ⟨p1, p3⟩ := hP
    have g40 : gi o 40 = nI n := by rw [(p3 40 (by decide)).1]; exact h40
    refine ⟨o, fun K => ?_, p1, p3⟩
    show lX11_callOn_123 _ K (f + 1) (nI U0) (nI (2 ^ n)) o = _
    rw [lX11_callOn_123, g40, show (1 : Int32) <<< (nI n &&& 31) = nI (1 <<< n) from u_shl1 (by omega), Nat.one_shiftLeft, if_pos (nI_le (Nat.le_refl _) (by omega))]
