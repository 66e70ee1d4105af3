theorem PP_sets {n k T x : Nat} {able : Nat → Nat → Bool} {fr : Nat → Nat → Nat} {room : Nat → Nat} (hT : T < 64) : PP n able fr room (k + 1) T x ↔ (PP n able fr room k T x ∨ ∃ V, 0 < V ∧ V < 2 ^ n ∧ V &&& T = V ∧ okU n able room V k ∧ ∃ y, PP n able fr room k (T ^^^ V) y ∧ x = y + vs (fun i => fr i k) V 6 * 2 ^ k) := by
  constructor
  · rintro ⟨U, y, a, b, p, e⟩
    have hU : U < 64 := Nat.lt_of_le_of_lt (sub_le a) hT
    by_cases z : U = 0
    · subst z
      rw [Nat.xor_zero] at p
      rw [vs_0, Nat.zero_mul, Nat.add_zero] at e
      exact Or.inl (e ▸ p)
    · refine Or.inr ⟨U, by omega, ?_, a, b, y, p, e⟩
      exact Nat.lt_pow_two_of_testBit U (fun i hi => by
        cases z : U.testBit i with
        | false => rfl
        | true =>
          have := (b.1 i (bit_lt6 hU z) z).1
          omega)
  · rintro (p | ⟨U, _, _, a, b, y, p, e⟩)
    · exact ⟨0, x, Nat.zero_and T, ⟨fun i _ h => by rw [Nat.zero_testBit] at h; exact absurd h (by decide), Nat.zero_le _⟩, by rw [Nat.xor_zero]; exact p, by rw [vs_0]; omega⟩
    · exact ⟨U, y, a, b, p, e⟩
theorem okU_cc {n U k : Nat} {able : Nat → Nat → Bool} {room : Nat → Nat} (hn : n ≤ 6) (hU : U < 2 ^ n) : okU n able room U k ↔ (cc (fun i => able i k) U n = true ∧ bsum U 12 ≤ room k) := by
  have p2 := p2_le hn
  have lt : ∀ i, U.testBit i = true → i < n := fun i hi => by
    refine Classical.byContradiction (fun r => ?_)
    have : U.testBit i = false := Nat.testBit_lt_two_pow (Nat.lt_of_lt_of_le hU (Nat.pow_le_pow_right (by omega) (by omega)))
    rw [this] at hi
    exact absurd hi (by decide)
  rw [cc_iff]
  constructor
  · intro h
    exact ⟨fun q hq hb => (h.1 q (by omega) hb).2, h.2⟩
  · intro h
    exact ⟨fun i _ hb => ⟨lt i hb, h.1 i (lt i hb) hb⟩, h.2⟩
theorem m_call85 {c : CD} {l : LD} {d : SD} {s : Nat} {st : Nat → Nat} (hc : OKC c) (hl : OKL l) (hd : OKS c.S d) (hs : s < c.S) {k : Nat} (hk : k ≤ 30) (m1 : Ob) (h : MP c l d s st m1) (hB : RB (cnt c s c.W) (abS c l d s st) (fw c l d s) (ro l d) k (30 - k) m1) (h43 : ∀ T, T < 64 → gb m1 43 T = gb m1 42 T) : ∃ m', (∀ K : Ob → Option Ob, lX11_callOn_85 (nI k) (nI (ro l d k)) K zfu 1 m1 = K m') ∧ (∀ T, T < 64 → ∃ e, gb m' 43 T = sc e (30 - k) ∧ isM e (PP (cnt c s c.W) (abS c l d s st) (fw c l d s) (ro l d) (k + 1) T)) ∧ frm [43] m1 m' := by
  have hn := hc.2.2.2.2 s hs
  have hf := fw_le hc hl d s
  have hr := ro_le hl d k
  generalize hN : cnt c s c.W = n at *
  generalize hAB : abS c l d s st = able at *
  generalize hFR : fw c l d s = fr at *
  have p2 := p2_le hn
  have key := u_loopP (fun f q o => (fun K : Ob → Option Ob => lX11_callOn_85 (nI k) (nI (ro l d k)) K f (nI q) o)) (fun q o => (∀ T, T < 64 → ∃ e, gb o 43 T = sc e (30 - k) ∧ isM e (fun x => PP n able fr (ro l d) k T x ∨ ∃ V, 0 < V ∧ V < q ∧ V &&& T = V ∧ okU n able (ro l d) V k ∧ ∃ y, PP n able fr (ro l d) k (T ^^^ V) y ∧ x = y + vs (fun i => fr i k) V 6 * 2 ^ k)) ∧ 0 < q ∧ frm [43] m1 o) (fun r => ∃ m', (∀ K : Ob → Option Ob, r K = K m') ∧ (∀ T, T < 64 → ∃ e, gb m' 43 T = sc e (30 - k) ∧ isM e (fun x => PP n able fr (ro l d) k T x ∨ ∃ V, 0 < V ∧ V < 2 ^ n ∧ V &&& T = V ∧ okU n able (ro l d) V k ∧ ∃ y, PP n able fr (ro l d) k (T ^^^ V) y ∧ x = y + vs (fun i => fr i k) V 6 * 2 ^ k)) ∧ frm [43] m1 m') (2 ^ n) (fun f q o hq hP => ?_) (fun f o hP => ?_) zfu 1 m1 (by omega) (u_zfu (by omega)) ⟨fun T hT => by
      obtain ⟨e1, e2⟩ := hB T hT
      refine ⟨_, (h43 T hT).trans e1, isM_iff e2 (fun x => ⟨Or.inl, fun h => ?_⟩)⟩
      rcases h with h | ⟨V, v1, v2, _⟩
      · exact h
      · omega, by omega, frm_rf _ _⟩
  · obtain ⟨m', a1, a2, a3⟩ := key
    refine ⟨m', a1, fun T hT => ?_, a3⟩
    obtain ⟨e, e1, e2⟩ := a2 T hT
    exact ⟨e, e1, isM_iff e2 (fun x => (PP_sets hT).symm)⟩
  · obtain ⟨p1, p2', p3⟩ := hP
    have q64 : q < 64 := by omega
    have hM : MP c l d s st o := MP_frm h (frm_mono p3 (by decide))
    have g40 : gi o 40 = nI n := by rw [hM.2.2.2.1, hN]
    have hB' : RB n able fr (ro l d) k (30 - k) o := fun T hT => by
      rw [(p3 42 (by decide)).2.2.2]; exact hB T hT
    have eC : pX11_canCall o (nI q) (nI k) = some (nI (bN (cc (fun i => able i k) q n))) := by
      have := m_canCall hc hl hd hs hM (U := q) (k := k) q64 hk
      rw [hN, hAB] at this
      exact this
    have eV : pX11_valueOf o (nI q) (nI k) = some (lN (vs (fun i => fr i k) q 6 * 2 ^ 30)) := by
      have := m_valueOf hc hl hd hs hM (U := q) (k := k) q64 hk
      rw [hFR] at this
      exact this
    have bl : bsum q 12 ≤ 12 := by
      have : ∀ m, bsum q m ≤ m := by
        intro m
        induction m with
        | zero => exact Nat.le_refl _
        | succ m ih => rw [bsum]; omega
      exact this 12
    by_cases ok : okU n able (ro l d) q k
    · obtain ⟨ok1, ok2⟩ := (okU_cc hn hq).mp ok
      obtain ⟨m', a1, a2, a3⟩ := m_call123 (room := ro l d) (able := able) hn hk hf hq p2' o g40 hB' (Q := fun T x => PP n able fr (ro l d) k T x ∨ ∃ V, 0 < V ∧ V < q ∧ V &&& T = V ∧ okU n able (ro l d) V k ∧ ∃ y, PP n able fr (ro l d) k (T ^^^ V) y ∧ x = y + vs (fun i => fr i k) V 6 * 2 ^ k) (fun T x hT hx => PP_le (n := n) (able := able) (room := ro l d) (T := T) hf ((PP_sets hT).mpr (by
        rcases hx with hx | ⟨V, v1, v2, v3⟩
        · exact Or.inl hx
        · exact Or.inr ⟨V, v1, by omega, v3⟩))) p1
      refine ⟨m', ⟨fun T hT => ?_, by omega, frm_tr p3 a3⟩, ?_⟩
      · obtain ⟨e, e1, e2⟩ := a2 T hT
        refine ⟨e, e1, isM_iff e2 (fun x => ⟨fun h => ?_, fun h => ?_⟩)⟩
        · rcases h with (h | ⟨V, v1, v2, v3⟩) | ⟨v1, v2⟩
          · exact Or.inl h
          · exact Or.inr ⟨V, v1, by omega, v3⟩
          · exact Or.inr ⟨q, p2', by omega, v1, ok, v2⟩
        · rcases h with h | ⟨V, v1, v2, v3, v4, v5⟩
          · exact Or.inl (Or.inl h)
          · by_cases z : V = q
            · subst z; exact Or.inr ⟨v3, v5⟩
            · exact Or.inl (Or.inr ⟨V, v1, by omega, v3, v4, v5⟩)
      · funext K
        show lX11_callOn_85 (nI k) (nI (ro l d k)) K (f + 1) (nI q) o = _
        rw [lX11_callOn_85, g40, show (1 : Int32) <<< (nI n &&& 31) = nI (1 <<< n) from u_shl1 (by omega), Nat.one_shiftLeft, if_neg (nI_ge hq (by omega)), m_bits (by omega), u_bd, u_jn, if_neg (nI_nlt (by omega) (by omega)), eC, u_bd, ok1, if_neg (show ¬ nI (bN true) = (0 : Int32) by decide), eV, u_bd]
        rw [a1]
        rw [u_let, show nI q + (1 : Int32) = nI (q + 1) from nI_add _ _]
    · refine ⟨o, ⟨fun T hT => ?_, by omega, p3⟩, ?_⟩
      · obtain ⟨e, e1, e2⟩ := p1 T hT
        refine ⟨e, e1, isM_iff e2 (fun x => ⟨fun h => ?_, fun h => ?_⟩)⟩
        · rcases h with h | ⟨V, v1, v2, v3⟩
          · exact Or.inl h
          · exact Or.inr ⟨V, v1, by omega, v3⟩
        · rcases h with h | ⟨V, v1, v2, v3, v4, v5⟩
          · exact Or.inl h
          · by_cases z : V = q
            · subst z; exact absurd v4 ok
            · exact Or.inr ⟨V, v1, by omega, v3, v4, v5⟩
      · funext K
        show lX11_callOn_85 (nI k) (nI (ro l d k)) K (f + 1) (nI q) o = _
        rw [lX11_callOn_85, g40, show (1 : Int32) <<< (nI n &&& 31) = nI (1 <<< n) from u_shl1 (by omega), Nat.one_shiftLeft, if_neg (nI_ge hq (by omega)), m_bits (by omega), u_bd, u_jn]
        by_cases w : ro l d k < bsum q 12
        · rw [if_pos (nI_lt w (by omega))]
          dsimp only
          rw [u_let, show nI q + (1 : Int32) = nI (q + 1) from nI_add _ _]
        · rw [if_neg (nI_nlt (by omega) (by omega)), eC, u_bd]
          cases z : cc (fun i => able i k) q n with
          | false =>
            rw [if_pos (show nI (bN false) = (0 : Int32) by decide)]
            dsimp only
            rw [u_let, show nI q + (1 : Int32) = nI (q + 1) from nI_add _ _]
          | true => exact absurd ((okU_cc hn hq).mpr ⟨z, by omega⟩) ok
  · obtain ⟨p1, p2', p3⟩ := hP
    have hM : MP c l d s st o := MP_frm h (frm_mono p3 (by decide))
    have g40 : gi o 40 = nI n := by rw [hM.2.2.2.1, hN]
    refine ⟨o, fun K => ?_, p1, p3⟩
    show lX11_callOn_85 (nI k) (nI (ro l d k)) K (f + 1) (nI (2 ^ n)) o = _
    rw [lX11_callOn_85, g40, show (1 : Int32) <<< (nI n &&& 31) = nI (1 <<< n) from u_shl1 (by omega), Nat.one_shiftLeft, if_pos (nI_le (Nat.le_refl _) (by omega))]
theorem m_call233 (m0 : Ob) : ∃ m', lX11_callOn_233 zfu 0 m0 = some m' ∧ (∀ T, T < 64 → gb m' 42 T = gb m0 43 T) ∧ frm [42] m0 m' := by
  refine u_loopP (fun f q o => lX11_callOn_233 f (nI q) o) (fun q o => (∀ T, T < q → gb o 42 T = gb m0 43 T) ∧ frm [42] m0 o) (fun r => ∃ m', r = some m' ∧ (∀ T, T < 64 → gb m' 42 T = gb m0 43 T) ∧ frm [42] m0 m') 64 (fun f q o hq hP => ?_) (fun f o hP => ?_) zfu 0 m0 (by omega) (u_zfu (by omega)) ⟨fun w hw => absurd hw (Nat.not_lt_zero w), frm_rf _ _⟩
  · obtain ⟨p1, p3⟩ := hP
    refine ⟨sb o 42 (vp_updL (gb o 42) q (gb o 43 q)), ⟨fun T hT => ?_, frm_sb p3 (by decide) _⟩, ?_⟩
    · rw [gb_sb, if_pos rfl, updL_ap]
      by_cases z : T = q
      · rw [if_pos z, z, (p3 43 (by decide)).2.2.2]
      · rw [if_neg z]; exact p1 T (by omega)
    · show lX11_callOn_233 (f + 1) (nI q) o = _
      rw [lX11_callOn_233, if_neg (show ¬ (64 : Int32) ≤ nI q from nI_ge (b := 64) hq (by omega)), u_gd (by omega), u_gd (by omega), u_let, u_let, nI_clamp (n := q) (by omega), show nI q + (1 : Int32) = nI (q + 1) from nI_add _ _]
  · refine ⟨o, ?_, hP.1, hP.2⟩
    show lX11_callOn_233 (f + 1) (nI 64) o = _
    rw [lX11_callOn_233, if_pos (show (64 : Int32) ≤ nI 64 by decide)]
theorem m_callOn {c : CD} {l : LD} {d : SD} {s : Nat} {st : Nat → Nat} (hc : OKC c) (hl : OKL l) (hd : OKS c.S d) (hs : s < c.S) {k : Nat} (hk : k ≤ 30) (m : Ob) (h : MP c l d s st m) (hB : 0 < k → RB (cnt c s c.W) (abS c l d s st) (fw c l d s) (ro l d) k (30 - (k - 1)) m) : ∃ m', pX11_callOn m (nI k) = some m' ∧ RB (cnt c s c.W) (abS c l d s st) (fw c l d s) (ro l d) (k + 1) (30 - k) m' ∧ frm [42, 43] m m' := by
  obtain ⟨m1, a1, a2, a3, a4⟩ := m_call2 hk (fw_le hc hl d s) m hB
  have h1 := MP_frm h a4
  obtain ⟨m2, b1, b2, b3⟩ := m_call85 hc hl hd hs hk m1 h1 a2 a3
  obtain ⟨m3, c1, c2, c3⟩ := m_call233 m2
  refine ⟨m3, ?_, fun T hT => ?_, frm_tr a4 (frm_tr (frm_mono b3 (by decide)) (frm_mono c3 (by decide)))⟩
  · have eR := m_room (k := k) hl hd h1.2.1 h1.2.2.1 (by omega)
    unfold pX11_callOn
    rw [u_jn, a1, eR, u_bd, u_jn]
    have b1' : ∀ K : Ob → Option Ob, lX11_callOn_85 (nI k) (nI (roomOf l d (d.day + k))) K zfu 1 m1 = K m2 := b1
    rw [b1']
    exact c1
  · obtain ⟨e, e1, e2⟩ := b2 T hT
    obtain ⟨f1, f2⟩ := bst_is e2
    exact ⟨by rw [c2 T hT, e1, f1], f2⟩
