theorem ok_most {x : Cst} {m : Ob} (a1 a2 : Int32) (h : RR x m) : ∃ (r : Int32 × Ob) (u : Int32 × Ob), pX10_most x.z x.d x.t x.c x.w x.s x.e x.f x.h x.b x.i x.j x.p x.q a1 a2 = some r ∧ pX11_most m a1 a2 = some u ∧ r.1 = u.1 ∧ RR (x.z, x.d, x.t, x.c, x.w, x.s, r.2, x.f, x.h, x.b, x.i, x.j, x.p, x.q) u.2 := by
  have h' := h
  obtain ⟨c, l, d, hR⟩ := h'
  have hR' := hR
  obtain ⟨⟨a, b, e⟩, ⟨f1, f2, f3⟩, ⟨g1, g2, g3⟩, _⟩ := hR'
  have h6 := a.1
  have bd := e.1
  rcases u_ix a1 c.S (by omega) with q | ⟨s, hs, rfl⟩
  · refine ⟨(-(nI 1000000001), x.e), (-(nI 1000000001), m), ?_, ?_, rfl, h⟩
    · unfold pX10_most; rw [h_suitF a f1 q, u_bd0]; rfl
    · unfold pX11_most; rw [m_suitF a g1 q, u_bd0]; rfl
  · have e1 := h_suitT a f1 hs
    have e2 := m_suitT a g1 hs
    have e3 := h_goesT (ow := x.w) a f1 f3 e hs
    have w15 := (g3.2.2.2.2.1 s hs).2.1
    have bh := (e.2.2.2.2.1 s hs).2.1
    rcases arg_in a2 0 30 (by omega) (by omega) 0 30 (by decide) (by decide) with ⟨q, qi⟩ | ⟨k, j1, j2, rfl, qi⟩
    · refine ⟨(-(nI 1000000002), x.e), (-(nI 1000000002), m), ?_, ?_, rfl, h⟩
      · unfold pX10_most
        rw [e1, u_bd1]
        rcases q with q | q
        · rw [if_pos (show a2 < 0 from q)]
          rfl
        · by_cases z : a2 < 0
          · rw [if_pos z]
            rfl
          · rw [if_neg z, if_neg (fun r => by
              have r' : a2 < nI 31 := r
              rw [u_ltN (by omega)] at r'
              rw [u_Nlt (by omega)] at q
              omega)]
            rfl
      · unfold pX11_most
        rw [e2, u_bd1, qi, u_bd0]; rfl
    · have c1 : ¬ nI k < (0 : Int32) := nI_nlt (b := 0) (Nat.zero_le _) (by omega)
      have c2 : nI k < (31 : Int32) := nI_lt (b := 31) (by omega) (by omega)
      by_cases z : d.how s = 0
      · by_cases y : d.day + k ≤ 399
        · obtain ⟨o', r1⟩ := h_mostOn (oe := x.e) a b e f1 f2 f3 hs z (k := k) (by omega) y
          obtain ⟨m', r2, r3⟩ := m_mostOn a b e hs (k := k) (by omega) g1 g2 g3
          refine ⟨(nI ((d.whole s + gk c l d s k) / 2 ^ k), o'), (nI ((d.whole s + gk c l d s k) / 2 ^ k), m'), ?_, ?_, rfl, c, l, d, RC_frm hR r3 (by decide) e (MS_sub g3 r3 (by decide)) f3⟩
          · unfold pX10_most
            rw [e1, u_bd1, if_neg c1, if_pos c2, e3, decide_eq_true z]
            show Option.bind (some (nI 1)) _ = _
            rw [u_bd1, f3.1, nI_add, if_pos (show nI (d.day + k) ≤ (399 : Int32) from nI_le (b := 399) y (by omega)), r1, u_bd]
          · unfold pX11_most
            rw [e2, u_bd1, qi, u_bd1, u_gd (by omega), nI_clamp (n := s) (by omega), w15, z, if_pos (show nI 0 = (0 : Int32) from rfl), g3.1, nI_add, if_pos (show nI (d.day + k) ≤ (399 : Int32) from nI_le (b := 399) y (by omega)), r2, u_bd]
            show some ((lN _).toInt32, m') = _
            rw [lN_i]
        · refine ⟨(-(nI 1000000003), x.e), (-(nI 1000000003), m), ?_, ?_, rfl, h⟩
          · unfold pX10_most
            rw [e1, u_bd1, if_neg c1, if_pos c2, e3, decide_eq_true z]
            show Option.bind (some (nI 1)) _ = _
            rw [u_bd1, f3.1, nI_add, if_neg (show ¬ nI (d.day + k) ≤ (399 : Int32) from nI_ge (a := 399) (by omega) (by omega))]
            rfl
          · unfold pX11_most
            rw [e2, u_bd1, qi, u_bd1, u_gd (by omega), nI_clamp (n := s) (by omega), w15, z, if_pos (show nI 0 = (0 : Int32) from rfl), g3.1, nI_add, if_neg (show ¬ nI (d.day + k) ≤ (399 : Int32) from nI_ge (a := 399) (by omega) (by omega))]
            rfl
      · refine ⟨(-(nI 1000000003), x.e), (-(nI 1000000003), m), ?_, ?_, rfl, h⟩
        · unfold pX10_most
          rw [e1, u_bd1, if_neg c1, if_pos c2, e3, decide_eq_false z]
          show Option.bind (some (nI 0)) _ = _
          rw [u_bd0]
          rfl
        · unfold pX11_most
          rw [e2, u_bd1, qi, u_bd1, u_gd (by omega), nI_clamp (n := s) (by omega), w15, if_neg (show ¬ nI (d.how s) = (0 : Int32) from nI_ne0 (by omega) (by omega))]
          rfl
/-! soonest -/
abbrev sat (c : CD) (l : LD) (d : SD) (s k : Nat) : Prop := 3 * c.need s * 2 ^ k ≤ d.whole s + gk c l d s k
/-- the first day that is enough, or none -/
def Soon (c : CD) (l : LD) (d : SD) (s : Nat) (r : Int32) (B : Nat → Prop) : Prop := (∃ k, k ≤ lastK d ∧ sat c l d s k ∧ (∀ j, j < k → ¬ sat c l d s j) ∧ r = nI k ∧ B k) ∨ ((∀ j, j ≤ lastK d → ¬ sat c l d s j) ∧ r = -1)
theorem Soon_un {c : CD} {l : LD} {d : SD} {s : Nat} {r r' : Int32} {B B' : Nat → Prop} (h : Soon c l d s r B) (h' : Soon c l d s r' B') : r = r' := by
  rcases h with ⟨k, k1, k2, k3, k4, _⟩ | ⟨k1, k2⟩
  · rcases h' with ⟨j, j1, j2, j3, j4, _⟩ | ⟨j1, j2⟩
    · have : k = j := by
        rcases Nat.lt_trichotomy k j with z | z | z
        · exact absurd k2 (j3 k z)
        · exact z
        · exact absurd j2 (k3 j z)
      rw [k4, j4, this]
    · exact absurd k2 (j1 k k1)
  · rcases h' with ⟨j, j1, j2, _⟩ | ⟨j1, j2⟩
    · exact absurd j2 (k1 j j1)
    · rw [k2, j2]
theorem m_soon {c : CD} {l : LD} {d : SD} {s : Nat} {m : Ob} (hc : OKC c) (hl : OKL l) (hd : OKS c.S d) (hs : s < c.S) (h1 : MC c m) (h2 : ML l m) (h3 : MS c.S d m) (hg : d.how s = 0) : ∃ r m', pX11_soonestOf m (nI s) = some (r, m') ∧ Soon c l d s r (fun k => MP c l d s (fun _ => 0) m' ∧ RB (cnt c s c.W) (ab c l d s) (fw c l d s) (ro l d) (k + 1) (30 - k) m') ∧ frm [39, 40, 41, 42, 43] m m' := by
  have h6 := hc.1
  have bd := hd.1
  have hnd := (hc.2.2.1 s hs).2.1
  have w15 := (h3.2.2.2.2.1 s hs).2.1
  obtain ⟨m1, m2, a1, a2, a3, a4⟩ := m_ready (l := l) (d := d) hc h1 h2 h3 hs
  have hK := lastK_le d
  have key : ∀ g q f o, q + g = lastK d + 1 → g < f → frm [42, 43] m2 o → (0 < q → RB (cnt c s c.W) (ab c l d s) (fw c l d s) (ro l d) q (30 - (q - 1)) o) → (∀ j, j < q → ¬ sat c l d s j) → ∃ r m', lX11_soonestOf_22 (nI s) f (nI q) o = some (r, m') ∧ Soon c l d s r (fun k => MP c l d s (fun _ => 0) m' ∧ RB (cnt c s c.W) (ab c l d s) (fw c l d s) (ro l d) (k + 1) (30 - k) m') ∧ frm [42, 43] m2 m' := by
    intro g
    induction g with
    | zero =>
      intro q f o hq hf f1 b1 n1
      obtain ⟨f, rfl⟩ : ∃ g, f = g + 1 := ⟨f - 1, by omega⟩
      have hM := MP_frm a3 f1
      refine ⟨-1, o, ?_, Or.inr ⟨fun j hj => n1 j (by omega), rfl⟩, f1⟩
      rw [lX11_soonestOf_22, hM.2.2.1.1, nI_add]
      by_cases z : 30 < q
      · rw [if_pos (show (30 : Int32) < nI q from nI_lt (a := 30) z (by omega))]
      · rw [if_neg (show ¬ (30 : Int32) < nI q from nI_nlt (a := 30) (by omega) (by omega)), if_pos (show (399 : Int32) < nI (d.day + q) from nI_lt (a := 399) (by
          unfold lastK at hq
          split at hq <;> omega) (by omega))]
    | succ g ih =>
      intro q f o hq hf f1 b1 n1
      obtain ⟨f, rfl⟩ : ∃ g, f = g + 1 := ⟨f - 1, by omega⟩
      have hM := MP_frm a3 f1
      have b1' := b1
      rw [← abS_0] at b1'
      obtain ⟨m', c1, c2, c3⟩ := m_callOn hc hl hd hs (k := q) (by omega) o hM b1'
      rw [abS_0] at c2
      have hM' := MP_frm hM c3
      obtain ⟨v, d1, d2, d3⟩ := m_greatBy hc hl hd hs (k := q) (by omega) hM' c2
      have w1 := (hM'.1.2.2.1 s hs).1
      have pp : 2 ^ q ≤ 2 ^ 30 := Nat.pow_le_pow_right (by omega) (by omega)
      have hw := (hd.2.2.2.2.1 s hs).1
      have hsp := hd.2.1
      have dl : (d.whole s + gk c l d s q) / 2 ^ q ≤ d.whole s + gk c l d s q := Nat.div_le_self _ _
      have iff : lN ((d.whole s + gk c l d s q) / 2 ^ q) < (3 : Int64) * (nI (c.need s)).toInt64 ↔ ¬ sat c l d s q := by
        rw [nI_l (by omega), show (3 : Int64) * lN (c.need s) = lN (3 * c.need s) from lN_mul 3 _, pk_lLT (by omega) (by omega), Nat.div_lt_iff_lt_mul (Nat.two_pow_pos q)]
        unfold sat
        omega
      have step : lX11_soonestOf_22 (nI s) (f + 1) (nI q) o = (if sat c l d s q then some (nI q, m') else lX11_soonestOf_22 (nI s) f (nI (q + 1)) m') := by
        rw [lX11_soonestOf_22, hM.2.2.1.1, nI_add, if_neg (show ¬ (30 : Int32) < nI q from nI_nlt (a := 30) (by omega) (by omega)), if_neg (show ¬ (399 : Int32) < nI (d.day + q) from nI_nlt (a := 399) (by
          have := hK.2 bd
          omega) (by omega)), c1, u_bd, d1, u_bd, d2, u_bd, u_gd (by omega), nI_clamp (n := s) (by omega), w1, u_let, show nI q + (1 : Int32) = nI (q + 1) from nI_add _ _]
        by_cases z : sat c l d s q
        · rw [if_neg (fun r => iff.mp r z), if_pos z]
        · rw [if_pos (iff.mpr z), if_neg z]
      by_cases z : sat c l d s q
      · refine ⟨nI q, m', ?_, Or.inl ⟨q, by omega, z, n1, rfl, hM', c2⟩, frm_tr f1 c3⟩
        rw [step, if_pos z]
      · obtain ⟨r, m3, r1, r2, r3⟩ := ih (q + 1) f m' (by omega) (by omega) (frm_tr f1 c3) (fun _ => c2) (fun j hj => by
          by_cases y : j = q
          · rw [y]; exact z
          · exact n1 j (by omega))
        refine ⟨r, m3, ?_, r2, r3⟩
        rw [step, if_neg z]
        exact r1
  obtain ⟨r, m', r1, r2, r3⟩ := key (lastK d + 1) 0 zfu m2 (by omega) (u_zfu (by omega)) (frm_rf _ _) (fun h => absurd h (Nat.lt_irrefl 0)) (fun j hj => absurd hj (Nat.not_lt_zero j))
  refine ⟨r, m', ?_, r2, frm_tr (frm_mono a4 (by decide)) (frm_mono r3 (by decide))⟩
  unfold pX11_soonestOf
  rw [u_gd (by omega), nI_clamp (n := s) (by omega), w15, hg, if_pos (show nI 0 = (0 : Int32) from rfl), a1, u_bd, a2, u_bd]
  exact r1
theorem h_soon {c : CD} {l : LD} {d : SD} {s : Nat} {oe oc ow os : Ob} (hc : OKC c) (hl : OKL l) (hd : OKS c.S d) (h : CC c oc) (h2 : CL l ow) (h3 : CS c.S d os) (hs : s < c.S) (hg : d.how s = 0) : ∃ r o', pX1_soonestOf oe oc ow os (nI s) = some (r, o') ∧ CP c l d s o' ∧ Soon c l d s r (fun k => Bes (cnt c s c.W) (ab c l d s) (fw c l d s) (ro l d) (k + 1) (2 ^ cnt c s c.W - 1) o') := by
  have hn := hc.2.2.2.2 s hs
  have p2 := p2_le hn
  have bd := hd.1
  have hnd := (hc.2.2.1 s hs).2.1
  have hK := lastK_le d
  have hA : 2 ^ cnt c s c.W - 1 < 64 := by omega
  obtain ⟨o1, a1, a2⟩ := h_prepare (oe := oe) hc hl hd h h2 h3 hs hg
  obtain ⟨o2, b1, b2, b3⟩ := h_clear o1 oc ow os (cnt c s c.W) (ab c l d s) (fw c l d s) (ro l d) (2 ^ cnt c s c.W - 1)
  have a2' := CP_frm hn a2 b3 (by decide)
  have key : ∀ g q f o, q + g = lastK d + 1 → g < f → CP c l d s o → Bes (cnt c s c.W) (ab c l d s) (fw c l d s) (ro l d) q (2 ^ cnt c s c.W - 1) o → (∀ j, j < q → ¬ sat c l d s j) → ∃ r o', lX1_soonestOf_24 oc ow os f (nI q) o = some (r, o') ∧ CP c l d s o' ∧ Soon c l d s r (fun k => Bes (cnt c s c.W) (ab c l d s) (fw c l d s) (ro l d) (k + 1) (2 ^ cnt c s c.W - 1) o') := by
    intro g
    induction g with
    | zero =>
      intro q f o hq hf f1 b1 n1
      obtain ⟨f, rfl⟩ : ∃ g, f = g + 1 := ⟨f - 1, by omega⟩
      refine ⟨-1, o, ?_, f1, Or.inr ⟨fun j hj => n1 j (by omega), rfl⟩⟩
      rw [lX1_soonestOf_24, f1.2.1, if_pos (nI_lt (by omega) (by omega))]
    | succ g ih =>
      intro q f o hq hf f1 b1 n1
      obtain ⟨f, rfl⟩ : ∃ g, f = g + 1 := ⟨f - 1, by omega⟩
      obtain ⟨o', d1, d2, d3⟩ := h_callOn (oc := oc) (ow := ow) (os := os) hn hK.1 (k := q) (by omega) (fw_le hc hl d s) (ro_le hl d) hA f1.1 (Bes_ex b1)
      have f2 := CP_frm hn f1 d3 (by decide)
      have d2' := Bes_of d2
      have gr : pX1_greatest o' oc ow os = some (lN (d.whole s + gk c l d s q)) := h_great (oc := oc) (ow := ow) (os := os) hc hl hd hs (k := q + 1) (by omega) f2 d2'
      have pp : 2 ^ q ≤ 2 ^ 30 := Nat.pow_le_pow_right (by omega) (by omega)
      have hw := (hd.2.2.2.2.1 s hs).1
      have hsp := hd.2.1
      have gl : gk c l d s q ≤ 3564 * 2 ^ (q + 1) := gm_le _ (fun i hi => isM_lt (d2' i (sub_all.mpr hi)).2 (fun x hx => PP_le (fw_le hc hl d s) hx))
      have pk3 : 3564 * 2 ^ (q + 1) ≤ 3564 * 2 ^ 31 := Nat.mul_le_mul_left _ (Nat.pow_le_pow_right (by omega) (by omega))
      have nle : 3 * c.need s * 2 ^ q ≤ 2997 * 2 ^ 30 := Nat.mul_le_mul (by omega) pp
      have iff : lN (d.whole s + gk c l d s q) < lN (3 * c.need s) <<< ((nI q).toInt64 &&& 63) ↔ ¬ sat c l d s q := by
        rw [wb_shl (k := q) _ (by omega), pk_lLT (by omega) (by omega)]
        unfold sat
        omega
      have step : lX1_soonestOf_24 oc ow os (f + 1) (nI q) o = (if sat c l d s q then some (nI q, o') else lX1_soonestOf_24 oc ow os f (nI (q + 1)) o') := by
        rw [lX1_soonestOf_24, f1.2.1, if_neg (nI_nlt (by omega) (by omega)), h_all hn f1.1.1, u_bd, d1, u_bd, gr, u_bd, f2.2.2.2.2, u_let, show nI q + (1 : Int32) = nI (q + 1) from nI_add _ _]
        by_cases z : sat c l d s q
        · rw [if_neg (fun r => iff.mp r z), if_pos z]
        · rw [if_pos (iff.mpr z), if_neg z]
      by_cases z : sat c l d s q
      · refine ⟨nI q, o', ?_, f2, Or.inl ⟨q, by omega, z, n1, rfl, d2'⟩⟩
        rw [step, if_pos z]
      · obtain ⟨r, o3, r1, r2⟩ := ih (q + 1) f o' (by omega) (by omega) f2 d2' (fun j hj => by
          by_cases y : j = q
          · rw [y]; exact z
          · exact n1 j (by omega))
        refine ⟨r, o3, ?_, r2⟩
        rw [step, if_neg z]
        exact r1
  obtain ⟨r, o', r1, r2⟩ := key (lastK d + 1) 0 zfu o2 (by omega) (u_zfu (by omega)) a2' b2 (fun j hj => absurd hj (Nat.not_lt_zero j))
  refine ⟨r, o', ?_, r2⟩
  unfold pX1_soonestOf
  rw [h_goesT (ow := ow) hc h h3 hd hs, decide_eq_true hg]
  show Option.bind (some (nI 1)) _ = _
  rw [u_bd1, a1, u_bd, b1, u_bd]
  exact r1
theorem ok_soonest {x : Cst} {m : Ob} (a1 : Int32) (h : RR x m) : ∃ (r : Int32 × Ob) (u : Int32 × Ob), pX10_soonest x.z x.d x.t x.c x.w x.s x.e x.f x.h x.b x.i x.j x.p x.q a1 = some r ∧ pX11_soonest m a1 = some u ∧ r.1 = u.1 ∧ RR (x.z, x.d, x.t, x.c, x.w, x.s, r.2, x.f, x.h, x.b, x.i, x.j, x.p, x.q) u.2 := by
  have h' := h
  obtain ⟨c, l, d, hR⟩ := h'
  have hR' := hR
  obtain ⟨⟨a, b, e⟩, ⟨f1, f2, f3⟩, ⟨g1, g2, g3⟩, _⟩ := hR'
  have h6 := a.1
  have bd := e.1
  rcases u_ix a1 c.S (by omega) with q | ⟨s, hs, rfl⟩
  · refine ⟨(-(nI 1000000001), x.e), (-(nI 1000000001), m), ?_, ?_, rfl, h⟩
    · unfold pX10_soonest; rw [h_suitF a f1 q, u_bd0]; rfl
    · unfold pX11_soonest; rw [m_suitF a g1 q, u_bd0]; rfl
  · have e1 := h_suitT a f1 hs
    have e2 := m_suitT a g1 hs
    have e3 := h_goesT (ow := x.w) a f1 f3 e hs
    have w15 := (g3.2.2.2.2.1 s hs).2.1
    have bh := (e.2.2.2.2.1 s hs).2.1
    by_cases z : d.how s = 0
    · obtain ⟨r, o', r1, _, r2⟩ := h_soon (oe := x.e) a b e f1 f2 f3 hs z
      obtain ⟨r', m', s1, s2, s3⟩ := m_soon a b e hs g1 g2 g3 z
      have := Soon_un r2 s2
      subst this
      refine ⟨(r, o'), (r, m'), ?_, ?_, rfl, c, l, d, RC_frm hR s3 (by decide) e (MS_sub g3 s3 (by decide)) f3⟩
      · unfold pX10_soonest
        rw [e1, u_bd1, r1, u_bd]
      · unfold pX11_soonest
        rw [e2, u_bd1, s1, u_bd]
    · refine ⟨(-1, x.e), (-1, m), ?_, ?_, rfl, h⟩
      · unfold pX10_soonest pX1_soonestOf
        rw [e1, u_bd1, e3, decide_eq_false z]
        rfl
      · unfold pX11_soonest pX11_soonestOf
        rw [e2, u_bd1, u_gd (by omega), nI_clamp (n := s) (by omega), w15, if_neg (show ¬ nI (d.how s) = (0 : Int32) from nI_ne0 (by omega) (by omega))]
        rfl
