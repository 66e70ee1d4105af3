/-! turns: both answers -/
def FirstP (n : Nat) (ow : Nat → Nat) (A : Nat) (Q : Nat → Prop) (r : Int32) : Prop := (∃ i, i < n ∧ A.testBit i = true ∧ Q i ∧ (∀ j, j < i → A.testBit j = true → ¬ Q j) ∧ r = nI (ow i)) ∨ ((∀ i, A.testBit i = true → ¬ Q i) ∧ r = -1)
theorem m_t273 {n s A : Nat} {ow : Nat → Nat} {m : Ob} {r7 : Int32} {Q : Nat → Prop} (hn : n ≤ 6) (h40 : gi m 40 = nI n) (h39 : ∀ i, i < n → ga m 39 i = nI (ow i)) (hA : A < 2 ^ n) (h1 : r7 = 0 → ∀ i, A.testBit i = true → ∃ r, pX11_wantOf m (nI s) (nI A) (nI i) (nI (bsum A 12)) = some r ∧ ((0 : Int64) < r ↔ ¬ Q i)) (h2 : r7 ≠ 0 → ∀ i, A.testBit i = true → Q i) : ∃ r, lX11_turns_273 (nI s) r7 zfu (nI A) 0 m = some (r, m) ∧ FirstP n ow A Q r := by
  have p2 := p2_le hn
  have key : ∀ g q f, q + g = n → g < f → (∀ i, i < q → A.testBit i = true → ¬ Q i) → ∃ r, lX11_turns_273 (nI s) r7 f (nI A) (nI q) m = some (r, m) ∧ FirstP n ow A Q r := by
    intro g
    induction g with
    | zero =>
      intro q f hq hf hall
      have : q = n := by omega
      subst this
      obtain ⟨f, rfl⟩ : ∃ g, f = g + 1 := ⟨f - 1, by omega⟩
      refine ⟨-1, ?_, Or.inr ⟨fun i hi => hall i (bit_n hA hi) hi, rfl⟩⟩
      rw [lX11_turns_273, h40, if_pos (nI_le (Nat.le_refl _) (by omega))]
    | succ g ih =>
      intro q f hq hf hall
      obtain ⟨f, rfl⟩ : ∃ g, f = g + 1 := ⟨f - 1, by omega⟩
      rw [lX11_turns_273, h40, if_neg (nI_ge (by omega) (by omega)), m_has (by omega) (by omega), u_bd, u_jn, u_let, show nI q + (1 : Int32) = nI (q + 1) from nI_add _ _]
      cases w : A.testBit q with
      | false =>
        rw [if_pos (show nI (bN false) = (0 : Int32) by decide)]
        exact ih (q + 1) f (by omega) (by omega) (fun j hj hb => by
          by_cases v : j = q
          · rw [v, w] at hb; exact absurd hb (by decide)
          · exact hall j (by omega) hb)
      | true =>
        rw [if_neg (show ¬ nI (bN true) = (0 : Int32) by decide)]
        by_cases z : r7 = 0
        · obtain ⟨r, k1, k2⟩ := h1 z q w
          rw [if_pos z, m_bits (a := A) (by omega), u_bd, k1, u_bd]
          by_cases y : (0 : Int64) < r
          · rw [if_pos y]
            exact ih (q + 1) f (by omega) (by omega) (fun j hj hb => by
              by_cases v : j = q
              · rw [v]; exact k2.mp y
              · exact hall j (by omega) hb)
          · rw [if_neg y, u_gd (by omega), nI_clamp (n := q) (by omega), h39 q (by omega)]
            exact ⟨nI (ow q), rfl, Or.inl ⟨q, by omega, w, Classical.byContradiction (fun h => y (k2.mpr h)), hall, rfl⟩⟩
        · rw [if_neg z, u_gd (by omega), nI_clamp (n := q) (by omega), h39 q (by omega)]
          exact ⟨nI (ow q), rfl, Or.inl ⟨q, by omega, w, h2 z q w, hall, rfl⟩⟩
  exact key n 0 zfu (by omega) (u_zfu (by omega)) (fun j hj => absurd hj (Nat.not_lt_zero j))
/-- the first by the numbers is the first by the places -/
theorem First_pl {c : CD} {s A : Nat} {Q Q' : Nat → Prop} {r r' : Int32} (hA : A < 2 ^ cnt c s c.W) (hQ : ∀ i, A.testBit i = true → (Q (own c s c.W i) ↔ Q' i)) (h : First (wmask c s A c.W) Q r) (h' : FirstP (cnt c s c.W) (own c s c.W) A Q' r') : r = r' := by
  rcases h with ⟨w, w1, w2, w3, rfl⟩ | ⟨w1, rfl⟩
  · obtain ⟨i, i1, i2, i3⟩ := wmask_at.mp w1
    rcases h' with ⟨k, k1, k2, k3, k4, rfl⟩ | ⟨k1, rfl⟩
    · rw [← i2] at w2 w3
      rw [← i2]
      rcases Nat.lt_trichotomy i k with z | z | z
      · exact absurd ((hQ i i3).mp w2) (k4 i z i3)
      · rw [z]
      · exact absurd ((hQ k k2).mpr k3) (w3 _ (own_mono c s c.W k i z i1) (by rw [wmask_bit c s A c.W k k1]; exact k2))
    · rw [← i2] at w2
      exact absurd ((hQ i i3).mp w2) (k1 i i3)
  · rcases h' with ⟨k, k1, k2, k3, k4, rfl⟩ | ⟨k1, rfl⟩
    · exact absurd ((hQ k k2).mpr k3) (w1 _ (by rw [wmask_bit c s A c.W k k1]; exact k2))
    · rfl
theorem ok_turns {x : Cst} {m : Ob} (a1 a2 : Int32) (h : RR x m) : ∃ (r : Int32 × Ob) (u : Int32 × Ob), pX10_turns x.z x.d x.t x.c x.w x.s x.e x.f x.h x.b x.i x.j x.p x.q a1 a2 = some r ∧ pX11_turns m a1 a2 = some u ∧ r.1 = u.1 ∧ RR (x.z, x.d, x.t, x.c, x.w, x.s, x.e, r.2, x.h, x.b, x.i, x.j, x.p, x.q) u.2 := by
  have h' := h
  obtain ⟨c, l, d, hR⟩ := h'
  have hR' := hR
  obtain ⟨⟨a, b, e⟩, ⟨f1, f2, f3⟩, ⟨g1, g2, g3⟩, _⟩ := hR'
  have h6 := a.1
  have bd := e.1
  rcases u_ix a1 c.S (by omega) with q | ⟨s, hs, rfl⟩
  · refine ⟨(-(nI 1000000001), x.f), (-(nI 1000000001), m), ?_, ?_, rfl, h⟩
    · unfold pX10_turns; rw [h_suitF a f1 q, u_bd0]; rfl
    · unfold pX11_turns; rw [m_suitF a g1 q, u_bd0]; rfl
  · have e1 := h_suitT a f1 hs
    have e2 := m_suitT a g1 hs
    have e3 := h_goesT (ow := x.w) a f1 f3 e hs
    have w15 := (g3.2.2.2.2.1 s hs).2.1
    have bh := (e.2.2.2.2.1 s hs).2.1
    have hn := a.2.2.2.2 s hs
    have p2 := p2_le hn
    have hnd := (a.2.2.1 s hs).2.1
    have hww := (e.2.2.2.2.1 s hs).1
    rcases arg_in a2 0 1 (by omega) (by omega) 0 1 (by decide) (by decide) with ⟨q, qi⟩ | ⟨k, j1, j2, rfl, qi⟩
    · refine ⟨(-(nI 1000000002), x.f), (-(nI 1000000002), m), ?_, ?_, rfl, h⟩
      · unfold pX10_turns
        rw [e1, u_bd1]
        rcases q with q | q
        · rw [if_pos (show a2 < 0 from q)]
          rfl
        · by_cases z : a2 < 0
          · rw [if_pos z]
            rfl
          · rw [if_neg z, if_neg (fun r => by
              have r' : a2 ≤ nI 1 := r
              rw [u_leN (by omega)] at r'
              rw [u_Nlt (by omega)] at q
              omega)]
            rfl
      · unfold pX11_turns
        rw [e2, u_bd1, qi, u_bd0]; rfl
    · have c1 : ¬ nI k < (0 : Int32) := nI_nlt (b := 0) (Nat.zero_le _) (by omega)
      have c2 : nI k ≤ (1 : Int32) := nI_le (b := 1) (by omega) (by omega)
      by_cases z : d.how s = 0
      · -- the class
        obtain ⟨o', r1, r2, r3, r4, r5⟩ := h_duel (of := x.f) a b e f1 f2 f3 hs z
        obtain ⟨bw, t1, t2⟩ := h_isWon (oc := x.c) (ow := x.w) (os := x.s) a b e hs r2 r3 r4 r5
        obtain ⟨rb, u1, u2⟩ := h_best (oc := x.c) (ow := x.w) (os := x.s) a b e hs r2 r3 r4 r5
        -- the reference
        obtain ⟨m1, n1, n2, n3, n4⟩ := m_list a g1 hs
        have C1 := MC_frm g1 n4 (by decide)
        have L1 := ML_frm g2 n4 (by decide) (by decide)
        have S1 := MS_sub g3 n4 (by decide)
        have av := fun K => m_avail a b e hs (Or.inr ⟨C1, L1, S1, n2, n3⟩) K
        have hA := am_lt (ab c l d s) 0 (cnt c s c.W)
        rw [avW_am] at t2 u2
        generalize am (ab c l d s) 0 (cnt c s c.W) = A at *
        obtain ⟨m2, p1, p2', p3⟩ := m_t93 a b e hs C1 L1 S1 n2 n3 hA
        have f2' := frm_tr (frm_mono n4 (show ∀ k, k ∈ [39, 40] → k ∈ [39, 40, 45] by decide)) (frm_mono p2' (by decide))
        have C2 := MC_frm g1 f2' (by decide)
        have L2 := ML_frm g2 f2' (by decide) (by decide)
        have S2 := MS_sub g3 f2' (by decide)
        have m40 : gi m2 40 = nI (cnt c s c.W) := by rw [(p2' 40 (by decide)).1]; exact n2
        have m39 : ∀ i, i < cnt c s c.W → ga m2 39 i = nI (own c s c.W i) := fun i hi => by rw [(p2' 39 (by decide)).2.2.1]; exact n3 i hi
        have me := m_enough a e C2 S2 hs
        have bA := bsum_le A 12
        have A64 : A < 64 := by omega
        have w0 : (d.whole s + 0) / 2 ^ 0 = d.whole s := by rw [Nat.add_zero, Nat.pow_zero, Nat.div_one]
        have sm : A &&& A = A := Nat.and_self A
        have won : bw = true ↔ (3 * c.need s ≤ d.whole s ∨ (gb m2 45 A).toInt ≤ 0) := by
          rw [t2, gS_pl 10 A (d.whole s) 0 hA]
          by_cases y : 3 * c.need s ≤ d.whole s
          · exact ⟨fun _ => Or.inl y, fun _ => by rw [gS]; exact Or.inl y⟩
          · have := (p3 A A64).2 sm 0 (by omega) 10 (by omega) 0 (Nat.zero_le _) (by rw [w0]; omega)
            rw [w0] at this
            rw [← this]
            exact ⟨fun h => Or.inr h, fun h => by
              rcases h with h | h
              · exact absurd h y
              · exact h⟩
        have best : rb = rb ∧ ∃ r, lX11_turns_273 (nI s) (nI (bN (decide (3 * c.need s ≤ d.whole s)))) zfu (nI A) 0 m2 = some (r, m2) ∧ rb = r := by
          refine ⟨rfl, ?_⟩
          have hb10 : bsum A 12 ≤ 2 * (10 + 1) := by omega
          obtain ⟨r, v1, v2⟩ := m_t273 (n := cnt c s c.W) (s := s) (A := A) (ow := own c s c.W) (m := m2) (r7 := nI (bN (decide (3 * c.need s ≤ d.whole s)))) (Q := gW (3 * c.need s) (fun i => fw c l d s i 0) 10 A (d.whole s) 0) hn m40 m39 hA (fun hz i hi => by
            obtain ⟨r, k1, k2, k3, k4⟩ := m_wantOf (t := 0) a b e hs C2 L2 S2 m40 m39 A64 hi (bit_n hA hi) (by omega) (fun j hj hb => (p3 _ (flip_lt (flip_lt A64 (bit_lt6 A64 hi)) (by omega))).1)
            refine ⟨r, k1, ?_⟩
            have bf := fw_le a b d s i 0 (bit_lt6 A64 hi)
            have k5 := k4 0 (by rw [Nat.pow_zero]; omega)
            have k6 := good_one (t := 0) (N := 10) (a := 0) (v := fun T => (gb m2 45 T).toInt) A64 hA (fun i hi => fw_le a b d s i 0 hi) (fun T hT => (p3 T (by omega)).2) sm (by omega) hb10 (Nat.zero_le _) hi
            rw [w0] at k6
            rw [← k6]
            unfold wantC
            rw [← k5, Int64.lt_iff_toInt_lt]
            show (0 : Int64).toInt < r.toInt ↔ ¬ (r.toInt ≤ ((0 : Nat) : Int))
            rw [show (0 : Int64).toInt = 0 by decide]
            omega) (fun hz i hi => by
            have y : 3 * c.need s ≤ d.whole s := Classical.byContradiction (fun y => hz (by rw [decide_eq_false y]; rfl))
            exact Or.inl (by omega))
          refine ⟨r, v1, First_pl hA (fun i hi => ?_) u2 v2⟩
          exact gW_pl (fun x W t hx => gS_pl 10 x W t hx) hA hi
        have RRn : ∀ (s' : Ob), RR (x.z, x.d, x.t, x.c, x.w, x.s, x.e, s', x.h, x.b, x.i, x.j, x.p, x.q) m2 := fun s' => ⟨c, l, d, RC_frm hR f2' (by decide) e S2 f3⟩
        have p1' : ∀ K : Int32 → Ob → Option (Int32 × Ob), lX11_turns_93 (nI s) K zfu (nI A) (0 : Int32) m1 = K (nI A) m2 := p1
        have av' : ∀ K : Int32 → Option (Int32 × Ob), lX11_turns_46 m1 K zfu (0 : Int32) (0 : Int32) = K (nI A) := av
        by_cases k0 : k = 0
        · subst k0
          refine ⟨(nI (bN bw), o'), (nI (bN bw), m2), ?_, ?_, rfl, RRn o'⟩
          · unfold pX10_turns
            rw [e1, u_bd1, if_neg c1, if_pos c2, e3, decide_eq_true z]
            show Option.bind (some (nI 1)) _ = _
            rw [u_bd1, r1, u_bd, if_pos (show nI 0 = (0 : Int32) from rfl), t1, u_bd]
            cases bw <;> rfl
          · unfold pX11_turns
            rw [e2, u_bd1, qi, u_bd1, u_gd (by omega), nI_clamp (n := s) (by omega), w15, z, if_pos (show nI 0 = (0 : Int32) from rfl), n1, u_bd, u_jn, av', u_jn, p1', me, u_bd]
            rw [if_pos (show nI 0 = (0 : Int32) from rfl), u_jn]
            by_cases y : 3 * c.need s ≤ d.whole s
            · have hb := won.mpr (Or.inl y)
              rw [decide_eq_true y, if_neg (show ¬ nI (bN true) = (0 : Int32) by decide), hb]
              rfl
            · rw [decide_eq_false y, if_pos (show nI (bN false) = (0 : Int32) by decide), u_gd ⟨A64, by omega⟩, nI_clamp (n := A) (by omega)]
              by_cases v : (0 : Int64) < gb m2 45 A
              · have hb : bw = false := by
                  cases y2 : bw with
                  | false => rfl
                  | true =>
                    rw [Int64.lt_iff_toInt_lt, show (0 : Int64).toInt = 0 by decide] at v
                    rcases won.mp y2 with h | h
                    · exact absurd h y
                    · omega
                rw [if_pos v, hb]
                rfl
              · have hb := won.mpr (Or.inr (by
                  rw [Int64.lt_iff_toInt_lt, show (0 : Int64).toInt = 0 by decide] at v
                  omega))
                rw [if_neg v, hb]
                rfl
        · have k1 : k = 1 := by omega
          subst k1
          obtain ⟨_, r, v1, v2⟩ := best
          refine ⟨(rb, o'), (r, m2), ?_, ?_, v2, RRn o'⟩
          · unfold pX10_turns
            rw [e1, u_bd1, if_neg c1, if_pos c2, e3, decide_eq_true z]
            show Option.bind (some (nI 1)) _ = _
            rw [u_bd1, r1, u_bd, if_neg (show ¬ nI 1 = (0 : Int32) by decide), u1, u_bd]
          · unfold pX11_turns
            rw [e2, u_bd1, qi, u_bd1, u_gd (by omega), nI_clamp (n := s) (by omega), w15, z, if_pos (show nI 0 = (0 : Int32) from rfl), n1, u_bd, u_jn, av', u_jn, p1', me, u_bd]
            rw [if_neg (show ¬ nI 1 = (0 : Int32) by decide)]
            exact v1
      · refine ⟨(-(nI 1000000003), x.f), (-(nI 1000000003), m), ?_, ?_, rfl, h⟩
        · unfold pX10_turns
          rw [e1, u_bd1, if_neg c1, if_pos c2, e3, decide_eq_false z]
          show Option.bind (some (nI 0)) _ = _
          rw [u_bd0]
          rfl
        · unfold pX11_turns
          rw [e2, u_bd1, qi, u_bd1, u_gd (by omega), nI_clamp (n := s) (by omega), w15, if_neg (show ¬ nI (d.how s) = (0 : Int32) from nI_ne0 (by omega) (by omega))]
          rfl
