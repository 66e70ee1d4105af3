/-! begin, seed, evening, books -/
def newS (d : SD) : SD := sdm 0 0 d.seed (fun _ => 0) (fun _ => 0) (fun _ => 0) (fun _ => 0) (fun _ => 0) (fun _ => 0) (fun _ _ => 0)
theorem OKS_new {S S' : Nat} {d : SD} (h : OKS S d) : OKS S' (newS d) := ⟨by show 0 ≤ 399; omega, by show 0 ≤ 6; omega, h.2.2.1, fun w hw => ⟨Nat.zero_le _, Nat.le_refl 0, fun q => q, Nat.zero_le 1⟩, fun s hs => ⟨Nat.zero_le _, Nat.zero_le _, Nat.zero_le _⟩, fun s hs k hk => absurd hk (Nat.not_lt_zero k)⟩
theorem h_again {S S' : Nat} {d : SD} {os : Ob} (h : CS S d os) : ∃ o', pX6_startAgain os = some o' ∧ CS S' (newS d) o' := by
  refine ⟨_, rfl, ?_⟩
  refine ⟨rfl, rfl, h.2.2.1, fun w hw => ⟨rfl, rfl, rfl⟩, fun s hs => ⟨rfl, rfl, rfl⟩, fun s hs k hk => absurd hk (Nat.not_lt_zero k)⟩
theorem m_anew1 (m0 : Ob) : ∃ m', (∀ K : Ob → Option Ob, lX11_anew_12 K zfu 0 m0 = K m') ∧ (∀ w, w < 12 → ga m' 10 w = nO 0 ∧ ga m' 11 w = nI 0 ∧ ga m' 12 w = nI 0) ∧ frm [10, 11, 12] m0 m' := by
  refine u_loopP (fun f k o => (fun K : Ob → Option Ob => lX11_anew_12 K f (nI k) o)) (fun k o => (∀ w, w < k → ga o 10 w = nO 0 ∧ ga o 11 w = nI 0 ∧ ga o 12 w = nI 0) ∧ frm [10, 11, 12] m0 o) (fun r => ∃ m', (∀ K : Ob → Option Ob, r K = K m') ∧ (∀ w, w < 12 → ga m' 10 w = nO 0 ∧ ga m' 11 w = nI 0 ∧ ga m' 12 w = nI 0) ∧ frm [10, 11, 12] m0 m') 12 (fun f k o hk hP => ?_) (fun f o hP => ?_) zfu 0 m0 (by omega) (u_zfu (by omega)) ⟨fun w hw => absurd hw (Nat.not_lt_zero w), frm_rf _ _⟩
  · obtain ⟨p1, p2⟩ := hP
    have nar : vp_nar .boolean (nI 0) = nI 0 := rfl
    refine ⟨sa (sa (sa o 10 (upd (ga o 10) k (nO 0))) 11 (upd (ga o 11) k (nI 0))) 12 (upd (ga o 12) k (nI 0)), ⟨fun w hw => ?_, frm_sa (frm_sa (frm_sa p2 (by decide) _) (by decide) _) (by decide) _⟩, ?_⟩
    · simp only [ga_sa, Nat.reduceEqDiff, if_true, if_false, upd_ap]
      by_cases q : w = k
      · simp only [q, if_true, and_self]
      · simp only [q, if_false]
        exact p1 w (by omega)
    · funext K
      simp (disch := omega) only [lX11_anew_12, u_let, u_jn, u_bd, u_gz0, u_gz1, u_gd, u_lit, u_leT, u_leF, u_ltT, u_ltF, u_eqT, u_eqF, nI_clamp, nI_add, u_m1, pk_sub, pk_mul, if_true, if_false, ite_true, ite_false, reduceIte, Nat.reduceEqDiff, u_neM, u_bN, u_bNe, ga_sa, Nat.reduceEqDiff, nar, nO_0]
  · refine ⟨o, fun K => ?_, hP⟩
    simp (disch := omega) only [lX11_anew_12, u_let, u_jn, u_bd, u_gz0, u_gz1, u_gd, u_lit, u_leT, u_leF, u_ltT, u_ltF, u_eqT, u_eqF, nI_clamp, nI_add, u_m1, pk_sub, pk_mul, if_true, if_false, ite_true, ite_false, reduceIte, Nat.reduceEqDiff, u_neM, u_bN, u_bNe]
theorem m_anew2 (m0 : Ob) : ∃ m', (∀ K : Ob → Option Ob, lX11_anew_47 K zfu 0 m0 = K m') ∧ (∀ w, w < 6 → ga m' 15 w = nI 0 ∧ ga m' 16 w = nO 0 ∧ ga m' 17 w = nI 0) ∧ frm [15, 16, 17] m0 m' := by
  refine u_loopP (fun f k o => (fun K : Ob → Option Ob => lX11_anew_47 K f (nI k) o)) (fun k o => (∀ w, w < k → ga o 15 w = nI 0 ∧ ga o 16 w = nO 0 ∧ ga o 17 w = nI 0) ∧ frm [15, 16, 17] m0 o) (fun r => ∃ m', (∀ K : Ob → Option Ob, r K = K m') ∧ (∀ w, w < 6 → ga m' 15 w = nI 0 ∧ ga m' 16 w = nO 0 ∧ ga m' 17 w = nI 0) ∧ frm [15, 16, 17] m0 m') 6 (fun f k o hk hP => ?_) (fun f o hP => ?_) zfu 0 m0 (by omega) (u_zfu (by omega)) ⟨fun w hw => absurd hw (Nat.not_lt_zero w), frm_rf _ _⟩
  · obtain ⟨p1, p2⟩ := hP
    refine ⟨sa (sa (sa o 15 (upd (ga o 15) k (nI 0))) 16 (upd (ga o 16) k (nO 0))) 17 (upd (ga o 17) k (nI 0)), ⟨fun w hw => ?_, frm_sa (frm_sa (frm_sa p2 (by decide) _) (by decide) _) (by decide) _⟩, ?_⟩
    · simp only [ga_sa, Nat.reduceEqDiff, if_true, if_false, upd_ap]
      by_cases q : w = k
      · simp only [q, if_true, and_self]
      · simp only [q, if_false]
        exact p1 w (by omega)
    · funext K
      simp (disch := omega) only [lX11_anew_47, u_let, u_jn, u_bd, u_gz0, u_gz1, u_gd, u_lit, u_leT, u_leF, u_ltT, u_ltF, u_eqT, u_eqF, nI_clamp, nI_add, u_m1, pk_sub, pk_mul, if_true, if_false, ite_true, ite_false, reduceIte, Nat.reduceEqDiff, u_neM, u_bN, u_bNe, ga_sa, Nat.reduceEqDiff, nO_0]
  · refine ⟨o, fun K => ?_, hP⟩
    simp (disch := omega) only [lX11_anew_47, u_let, u_jn, u_bd, u_gz0, u_gz1, u_gd, u_lit, u_leT, u_leF, u_ltT, u_ltF, u_eqT, u_eqF, nI_clamp, nI_add, u_m1, pk_sub, pk_mul, if_true, if_false, ite_true, ite_false, reduceIte, Nat.reduceEqDiff, u_neM, u_bN, u_bNe]
theorem m_anew3 (m0 : Ob) : ∃ m', lX11_anew_82 zfu 0 m0 = some m' ∧ (∀ w, w < 2400 → ga m' 18 w = nI 0) ∧ frm [18] m0 m' := by
  refine u_loopP (fun f k o => lX11_anew_82 f (nI k) o) (fun k o => (∀ w, w < k → ga o 18 w = nI 0) ∧ frm [18] m0 o) (fun r => ∃ m', r = some m' ∧ (∀ w, w < 2400 → ga m' 18 w = nI 0) ∧ frm [18] m0 m') 2400 (fun f k o hk hP => ?_) (fun f o hP => ?_) zfu 0 m0 (by omega) (u_zfu (by omega)) ⟨fun w hw => absurd hw (Nat.not_lt_zero w), frm_rf _ _⟩
  · obtain ⟨p1, p2⟩ := hP
    refine ⟨sa o 18 (upd (ga o 18) k (nI 0)), ⟨fun w hw => ?_, frm_sa p2 (by decide) _⟩, ?_⟩
    · simp only [ga_sa, if_true, upd_ap]
      by_cases q : w = k
      · simp only [q, if_true]
      · simp only [q, if_false]
        exact p1 w (by omega)
    · simp (disch := omega) only [lX11_anew_82, u_let, u_jn, u_bd, u_gz0, u_gz1, u_gd, u_lit, u_leT, u_leF, u_ltT, u_ltF, u_eqT, u_eqF, nI_clamp, nI_add, u_m1, pk_sub, pk_mul, if_true, if_false, ite_true, ite_false, reduceIte, Nat.reduceEqDiff, u_neM, u_bN, u_bNe]
  · refine ⟨o, ?_, hP⟩
    simp (disch := omega) only [lX11_anew_82, u_let, u_jn, u_bd, u_gz0, u_gz1, u_gd, u_lit, u_leT, u_leF, u_ltT, u_ltF, u_eqT, u_eqF, nI_clamp, nI_add, u_m1, pk_sub, pk_mul, if_true, if_false, ite_true, ite_false, reduceIte, Nat.reduceEqDiff, u_neM, u_bN, u_bNe]
theorem m_anewA (m : Ob) : ∃ m', pX11_anew m = some m' ∧ frm [10, 11, 12, 13, 14, 15, 16, 17, 18] m m' ∧ gi m' 13 = nI 0 ∧ gi m' 14 = nI 0 ∧ (∀ w, w < 12 → ga m' 10 w = nO 0 ∧ ga m' 11 w = nI 0 ∧ ga m' 12 w = nI 0) ∧ (∀ w, w < 6 → ga m' 15 w = nI 0 ∧ ga m' 16 w = nO 0 ∧ ga m' 17 w = nI 0) ∧ (∀ w, w < 2400 → ga m' 18 w = nI 0) := by
  have f0 : frm [10, 11, 12, 13, 14, 15, 16, 17, 18] m (si (si m 13 0) 14 0) := frm_si (frm_si (frm_rf _ _) (by decide) _) (by decide) _
  obtain ⟨m1, a1, a2, a3⟩ := m_anew1 (si (si m 13 0) 14 0)
  obtain ⟨m2, b1, b2, b3⟩ := m_anew2 m1
  obtain ⟨m3, c1, c2, c3⟩ := m_anew3 m2
  refine ⟨m3, ?_, frm_tr f0 (frm_tr (frm_mono a3 (by decide)) (frm_tr (frm_mono b3 (by decide)) (frm_mono c3 (by decide)))), ?_, ?_, fun w hw => ?_, fun s hs => ?_, c2⟩
  · unfold pX11_anew
    rw [u_let, u_let, u_jn, a1, u_jn, b1, c1]
  · rw [(c3 13 (by decide)).1, (b3 13 (by decide)).1, (a3 13 (by decide)).1, gi_si, if_neg (by decide), gi_si, if_pos rfl, u_lit]
  · rw [(c3 14 (by decide)).1, (b3 14 (by decide)).1, (a3 14 (by decide)).1, gi_si, if_pos rfl, u_lit]
  · rw [(c3 10 (by decide)).2.2.1, (b3 10 (by decide)).2.2.1, (c3 11 (by decide)).2.2.1, (b3 11 (by decide)).2.2.1, (c3 12 (by decide)).2.2.1, (b3 12 (by decide)).2.2.1]
    exact a2 w hw
  · rw [(c3 15 (by decide)).2.2.1, (c3 16 (by decide)).2.2.1, (c3 17 (by decide)).2.2.1]
    exact b2 s hs
theorem m_anew {S S' : Nat} {d : SD} {m : Ob} (hS : S' ≤ 6) (h : MS S d m) : ∃ m', pX11_anew m = some m' ∧ MS S' (newS d) m' ∧ frm [10, 11, 12, 13, 14, 15, 16, 17, 18] m m' := by
  obtain ⟨m', a1, a2, a3, a4, a5, a6, a7⟩ := m_anewA m
  refine ⟨m', a1, ⟨a3, a4, (a2 20 (by decide)).1.trans h.2.2.1, fun w hw => ⟨fun _ => (a5 w hw).1, (a5 w hw).2⟩, fun s hs => ?_, fun s hs k hk => absurd hk (Nat.not_lt_zero k), fun s hs k hk => ?_⟩, a2⟩
  · obtain ⟨y1, y2, y3⟩ := a6 s (by omega)
    exact ⟨y3, y1, y2⟩
  · rw [if_neg (show ¬ k < (newS d).day from Nat.not_lt_zero k)]
    exact a7 (400 * s + k) (by omega)
theorem ok_begin {x : Cst} {m : Ob} (h : RR x m) : ∃ (r : Int32 × Ob) (u : Int32 × Ob), pX10_begin x.z x.d x.t x.c x.w x.s x.e x.f x.h x.b x.i x.j x.p x.q = some r ∧ pX11_begin m = some u ∧ r.1 = u.1 ∧ RR (x.z, x.d, x.t, x.c, x.w, r.2, x.e, x.f, x.h, x.b, x.i, x.j, x.p, x.q) u.2 := by
  obtain ⟨c, l, d, hR⟩ := h
  have hR' := hR
  obtain ⟨⟨a, b, e⟩, ⟨f1, f2, f3⟩, ⟨g1, g2, g3⟩, _⟩ := hR'
  obtain ⟨o', r1, r2⟩ := h_again (S' := c.S) f3
  obtain ⟨m', t1, t2, t3⟩ := m_anew a.1 g3
  refine ⟨(nI d.day, o'), (nI d.day, m'), ?_, ?_, rfl, c, l, newS d, RC_frm hR t3 (by decide) (OKS_new e) t2 r2⟩
  · unfold pX10_begin
    simp only [u_let, r1, u_bd, f3.1]
  · unfold pX11_begin
    simp only [u_let, t1, u_bd, g3.1]
theorem ok_seed {x : Cst} {m : Ob} (a1 : Int32) (h : RR x m) : ∃ (r : Int32 × Ob) (u : Int32 × Ob), pX10_seed x.z x.d x.t x.c x.w x.s x.e x.f x.h x.b x.i x.j x.p x.q a1 = some r ∧ pX11_seed m a1 = some u ∧ r.1 = u.1 ∧ RR (x.z, x.d, x.t, x.c, x.w, r.2, x.e, x.f, x.h, x.b, x.i, x.j, x.p, x.q) u.2 := by
  have h' := h
  obtain ⟨c, l, d, hR⟩ := h'
  have hR' := hR
  obtain ⟨⟨a, b, e⟩, ⟨f1, f2, f3⟩, ⟨g1, g2, g3⟩, _⟩ := hR'
  by_cases q : 0 ≤ a1
  · obtain ⟨j, hj1, rfl⟩ := nI_of (x := a1) (fun r => by
      rw [Int32.lt_iff_toInt_lt] at r
      rw [Int32.le_iff_toInt_le] at q
      omega)
    refine ⟨(nI d.seed, si x.s 2 (nI j)), (nI d.seed, si m 20 (nI j)), ?_, ?_, rfl, c, l, seedS d j, RC_frm hR (frm_si (frm_rf [20] _) (by decide) _) (by decide) (OKS_seed e (by omega)) (MS_seed g3 j) (CS_seed f3 j)⟩
    · unfold pX10_seed
      rw [if_pos q]
      simp only [u_let, f3.2.2.1]
    · unfold pX11_seed
      rw [if_pos q]
      simp only [u_let, g3.2.2.1]
  · refine ⟨(-(nI 1000000002), x.s), (-(nI 1000000002), m), ?_, ?_, rfl, h⟩
    · unfold pX10_seed; rw [if_neg q]; rfl
    · unfold pX11_seed; rw [if_neg q]; rfl
theorem ok_evening {x : Cst} {m : Ob} (a1 a2 : Int32) (h : RR x m) : ∃ (r : Int32) (u : Int32), pX10_evening x.z x.d x.t x.c x.w x.s x.e x.f x.h x.b x.i x.j x.p x.q a1 a2 = some r ∧ pX11_evening m a1 a2 = some u ∧ r = u ∧ RR x m := by
  have h' := h
  obtain ⟨c, l, d, ⟨a, b, e⟩, ⟨f1, f2, f3⟩, ⟨g1, g2, g3⟩, _⟩ := h'
  have h6 := a.1
  have bd := e.1
  rcases u_ix a1 c.S (by omega) with q | ⟨s, hs, rfl⟩
  · refine ⟨-(nI 1000000001), -(nI 1000000001), ?_, ?_, rfl, h⟩
    · unfold pX10_evening; rw [h_suitF a f1 q, u_bd0]; rfl
    · unfold pX11_evening; rw [m_suitF a g1 q, u_bd0]; rfl
  · have e1 := h_suitT a f1 hs
    have e2 := m_suitT a g1 hs
    rcases arg_in a2 0 399 (by omega) (by omega) 0 399 (by decide) (by decide) with ⟨q, qi⟩ | ⟨j, j1, j2, rfl, qi⟩
    · refine ⟨-(nI 1000000002), -(nI 1000000002), ?_, ?_, rfl, h⟩
      · unfold pX10_evening
        rw [e1, u_bd1]
        simp only [u_lit]
        rcases q with q | q
        · rw [if_pos q]
        · by_cases z : a2 < nI 0
          · rw [if_pos z]
          · rw [if_neg z, if_neg (by rw [u_leN (by omega)]; rw [u_Nlt (by omega)] at q; omega)]
      · unfold pX11_evening
        rw [e2, u_bd1, qi, u_bd0]; rfl
    · by_cases g : j < d.day
      · have v := f3.2.2.2.2.2 s hs j g
        have w := g3.2.2.2.2.2.1 s hs j g
        refine ⟨nI (d.dusk s j), nI (d.dusk s j), ?_, ?_, rfl, h⟩
        · unfold pX10_evening
          rw [e1, u_bd1]
          simp (disch := omega) only [u_let, u_jn, u_bd, u_gz0, u_gz1, u_gd, u_lit, u_leT, u_leF, u_ltT, u_ltF, u_eqT, u_eqF, nI_clamp, nI_add, u_m1, pk_sub, pk_mul, if_true, if_false, ite_true, ite_false, reduceIte, Nat.reduceEqDiff, u_neM, u_bN, u_bNe, f3.1, v]
        · unfold pX11_evening
          rw [e2, u_bd1, qi, u_bd1]
          simp (disch := omega) only [u_let, u_jn, u_bd, u_gz0, u_gz1, u_gd, u_lit, u_leT, u_leF, u_ltT, u_ltF, u_eqT, u_eqF, nI_clamp, nI_add, u_m1, pk_sub, pk_mul, if_true, if_false, ite_true, ite_false, reduceIte, Nat.reduceEqDiff, u_neM, u_bN, u_bNe, g3.1, w]
      · refine ⟨-(nI 1), -(nI 1), ?_, ?_, rfl, h⟩
        · unfold pX10_evening
          rw [e1, u_bd1]
          simp (disch := omega) only [u_let, u_jn, u_bd, u_gz0, u_gz1, u_gd, u_lit, u_leT, u_leF, u_ltT, u_ltF, u_eqT, u_eqF, nI_clamp, nI_add, u_m1, pk_sub, pk_mul, if_true, if_false, ite_true, ite_false, reduceIte, Nat.reduceEqDiff, u_neM, u_bN, u_bNe, f3.1]
        · unfold pX11_evening
          rw [e2, u_bd1, qi, u_bd1]
          simp (disch := omega) only [u_let, u_jn, u_bd, u_gz0, u_gz1, u_gd, u_lit, u_leT, u_leF, u_ltT, u_ltF, u_eqT, u_eqF, nI_clamp, nI_add, u_m1, pk_sub, pk_mul, if_true, if_false, ite_true, ite_false, reduceIte, Nat.reduceEqDiff, u_neM, u_bN, u_bNe, g3.1]
theorem ok_judge {x : Cst} {m : Ob} (a1 : Int32) (h : RR x m) : ∃ (r : Int32) (u : Int32), pX10_judge x.z x.d x.t x.c x.w x.s x.e x.f x.h x.b x.i x.j x.p x.q a1 = some r ∧ pX11_judge m a1 = some u ∧ r = u ∧ RR x m := by
  have h' := h
  obtain ⟨c, l, d, ⟨a, b, e⟩, ⟨f1, f2, f3⟩, ⟨g1, g2, g3⟩, _, _, hb, _⟩ := h'
  have h6 := a.1
  have bd := e.1
  rcases u_ix a1 c.S (by omega) with q | ⟨s, hs, rfl⟩
  · refine ⟨-(nI 1000000001), -(nI 1000000001), ?_, ?_, rfl, h⟩
    · unfold pX10_judge; rw [h_suitF a f1 q, u_bd0]; rfl
    · unfold pX11_judge; rw [m_suitF a g1 q, u_bd0]; rfl
  · have e1 := h_suitT a f1 hs
    have e2 := m_suitT a g1 hs
    obtain ⟨n, n1, n2, n3, n4⟩ := hb s hs
    have key : ∀ g k f, k + g = 60 → g < f → ∃ r, lX0_firstWrong_14 x.b x.s (nI s) f (nI k) = some r ∧ lX11_judge_13 m (nI s) f (nI k) = some r := by
      intro g
      induction g with
      | zero =>
        intro k f hk hf
        obtain ⟨f, rfl⟩ : ∃ g, f = g + 1 := ⟨f - 1, by omega⟩
        refine ⟨-(nI 1), ?_, ?_⟩
        · simp (disch := omega) only [lX0_firstWrong_14, u_let, u_jn, u_bd, u_gz0, u_gz1, u_gd, u_lit, u_leT, u_leF, u_ltT, u_ltF, u_eqT, u_eqF, nI_clamp, nI_add, u_m1, pk_sub, pk_mul, if_true, if_false, ite_true, ite_false, reduceIte, Nat.reduceEqDiff, u_neM, u_bN, u_bNe, n2]
        · simp (disch := omega) only [lX11_judge_13, u_let, u_jn, u_bd, u_gz0, u_gz1, u_gd, u_lit, u_leT, u_leF, u_ltT, u_ltF, u_eqT, u_eqF, nI_clamp, nI_add, u_m1, pk_sub, pk_mul, if_true, if_false, ite_true, ite_false, reduceIte, Nat.reduceEqDiff, u_neM, u_bN, u_bNe, n3]
      | succ g ih =>
        intro k f hk hf
        obtain ⟨f, rfl⟩ : ∃ g, f = g + 1 := ⟨f - 1, by omega⟩
        by_cases z1 : n ≤ k
        · refine ⟨-(nI 1), ?_, ?_⟩
          · simp (disch := omega) only [lX0_firstWrong_14, u_let, u_jn, u_bd, u_gz0, u_gz1, u_gd, u_lit, u_leT, u_leF, u_ltT, u_ltF, u_eqT, u_eqF, nI_clamp, nI_add, u_m1, pk_sub, pk_mul, if_true, if_false, ite_true, ite_false, reduceIte, Nat.reduceEqDiff, u_neM, u_bN, u_bNe, n2]
          · simp (disch := omega) only [lX11_judge_13, u_let, u_jn, u_bd, u_gz0, u_gz1, u_gd, u_lit, u_leT, u_leF, u_ltT, u_ltF, u_eqT, u_eqF, nI_clamp, nI_add, u_m1, pk_sub, pk_mul, if_true, if_false, ite_true, ite_false, reduceIte, Nat.reduceEqDiff, u_neM, u_bN, u_bNe, n3]
        · by_cases z2 : d.day ≤ k
          · refine ⟨-(nI 1), ?_, ?_⟩
            · simp (disch := omega) only [lX0_firstWrong_14, u_let, u_jn, u_bd, u_gz0, u_gz1, u_gd, u_lit, u_leT, u_leF, u_ltT, u_ltF, u_eqT, u_eqF, nI_clamp, nI_add, u_m1, pk_sub, pk_mul, if_true, if_false, ite_true, ite_false, reduceIte, Nat.reduceEqDiff, u_neM, u_bN, u_bNe, n2, f3.1]
            · simp (disch := omega) only [lX11_judge_13, u_let, u_jn, u_bd, u_gz0, u_gz1, u_gd, u_lit, u_leT, u_leF, u_ltT, u_ltF, u_eqT, u_eqF, nI_clamp, nI_add, u_m1, pk_sub, pk_mul, if_true, if_false, ite_true, ite_false, reduceIte, Nat.reduceEqDiff, u_neM, u_bN, u_bNe, n3, g3.1]
          · have v := f3.2.2.2.2.2 s hs k (by omega)
            have w := g3.2.2.2.2.2.1 s hs k (by omega)
            have t := n4 k (by omega)
            by_cases z3 : ga m 48 (60 * s + k) = nI (d.dusk s k)
            · obtain ⟨r, r1, r2⟩ := ih (k + 1) f (by omega) (by omega)
              refine ⟨r, ?_, ?_⟩
              · simp (disch := omega) only [lX0_firstWrong_14, u_let, u_jn, u_bd, u_gz0, u_gz1, u_gd, u_lit, u_leT, u_leF, u_ltT, u_ltF, u_eqT, u_eqF, nI_clamp, nI_add, u_m1, pk_sub, pk_mul, if_true, if_false, ite_true, ite_false, reduceIte, Nat.reduceEqDiff, u_neM, u_bN, u_bNe, n2, f3.1, v, t, z3, r1]
              · simp (disch := omega) only [lX11_judge_13, u_let, u_jn, u_bd, u_gz0, u_gz1, u_gd, u_lit, u_leT, u_leF, u_ltT, u_ltF, u_eqT, u_eqF, nI_clamp, nI_add, u_m1, pk_sub, pk_mul, if_true, if_false, ite_true, ite_false, reduceIte, Nat.reduceEqDiff, u_neM, u_bN, u_bNe, n3, g3.1, w, z3, r2]
            · refine ⟨nI k, ?_, ?_⟩
              · simp (disch := omega) only [lX0_firstWrong_14, u_let, u_jn, u_bd, u_gz0, u_gz1, u_gd, u_lit, u_leT, u_leF, u_ltT, u_ltF, u_eqT, u_eqF, nI_clamp, nI_add, u_m1, pk_sub, pk_mul, if_true, if_false, ite_true, ite_false, reduceIte, Nat.reduceEqDiff, u_neM, u_bN, u_bNe, n2, f3.1, v, t, z3]
              · simp (disch := omega) only [lX11_judge_13, u_let, u_jn, u_bd, u_gz0, u_gz1, u_gd, u_lit, u_leT, u_leF, u_ltT, u_ltF, u_eqT, u_eqF, nI_clamp, nI_add, u_m1, pk_sub, pk_mul, if_true, if_false, ite_true, ite_false, reduceIte, Nat.reduceEqDiff, u_neM, u_bN, u_bNe, n3, g3.1, w, z3]
    obtain ⟨r, r1, r2⟩ := key 60 0 zfu (by omega) (u_zfu (by omega))
    refine ⟨r, r, ?_, ?_, rfl, h⟩
    · unfold pX10_judge
      rw [e1, u_bd1]
      unfold pX0_firstWrong
      simp (disch := omega) only [u_let, u_jn, u_bd, u_gz0, u_gz1, u_gd, u_lit, u_leT, u_leF, u_ltT, u_ltF, u_eqT, u_eqF, nI_clamp, nI_add, u_m1, pk_sub, pk_mul, if_true, if_false, ite_true, ite_false, reduceIte, Nat.reduceEqDiff, u_neM, u_bN, u_bNe, r1]
    · unfold pX11_judge
      rw [e2, u_bd1, u_lit]
      exact r2
theorem RC_book {c : CD} {l : LD} {d : SD} {x : Cst} {m m' : Ob} (h : RC c l d x m) (f : frm [47, 48] m m') {b' : Ob} (hb : RBook c.S b' m') : RC c l d (x.z, x.d, x.t, x.c, x.w, x.s, x.e, x.f, x.h, b', x.i, x.j, x.p, x.q) m' := by
  obtain ⟨⟨a1, a2, a3⟩, ⟨b1, b2, b3⟩, ⟨c1, c2, c3⟩, d1, e1, f1, g1, g2⟩ := h
  refine ⟨⟨a1, a2, a3⟩, ⟨b1, b2, b3⟩, ⟨MC_frm c1 f (by decide), ML_frm c2 f (by decide) (by decide), ?_⟩, RText_frm d1 f (by decide) (by decide), e1.trans (f 23 (by decide)).1.symm, hb, RImg_frm g1 f (by decide) (by decide) (by decide) (by decide), RImg_frm g2 f (by decide) (by decide) (by decide) (by decide)⟩
  unfold MS
  rw [(f 13 (by decide)).1, (f 14 (by decide)).1, (f 20 (by decide)).1, (f 10 (by decide)).2.2.1, (f 11 (by decide)).2.2.1, (f 12 (by decide)).2.2.1, (f 17 (by decide)).2.2.1, (f 15 (by decide)).2.2.1, (f 16 (by decide)).2.2.1, (f 19 (by decide)).2.2.1, (f 18 (by decide)).2.2.1]
  exact c3
theorem ok_tear {x : Cst} {m : Ob} (a1 : Int32) (h : RR x m) : ∃ (r : Int32 × Ob) (u : Int32 × Ob), pX10_tear x.z x.d x.t x.c x.w x.s x.e x.f x.h x.b x.i x.j x.p x.q a1 = some r ∧ pX11_tear m a1 = some u ∧ r.1 = u.1 ∧ RR (x.z, x.d, x.t, x.c, x.w, x.s, x.e, x.f, x.h, r.2, x.i, x.j, x.p, x.q) u.2 := by
  have h' := h
  obtain ⟨c, l, d, hR⟩ := h'
  have hR' := hR
  obtain ⟨⟨a, b, e⟩, ⟨f1, f2, f3⟩, ⟨g1, g2, g3⟩, _, _, hb, _⟩ := hR'
  have h6 := a.1
  rcases u_ix a1 c.S (by omega) with q | ⟨s, hs, rfl⟩
  · refine ⟨(-(nI 1000000001), x.b), (-(nI 1000000001), m), ?_, ?_, rfl, h⟩
    · unfold pX10_tear; rw [h_suitF a f1 q, u_bd0]; rfl
    · unfold pX11_tear; rw [m_suitF a g1 q, u_bd0]; rfl
  · have e1 := h_suitT a f1 hs
    have e2 := m_suitT a g1 hs
    obtain ⟨n, n1, n2, n3, n4⟩ := hb s hs
    refine ⟨(nI n, sa x.b 0 (upd (ga x.b 0) s (nI 0))), (nI n, sa m 47 (upd (ga m 47) s (nI 0))), ?_, ?_, rfl, c, l, d, RC_book hR (frm_sa (frm_rf _ _) (by decide) _) (fun j hj => ?_)⟩
    · unfold pX10_tear
      rw [e1, u_bd1]
      simp (disch := omega) only [u_let, u_jn, u_bd, u_gz0, u_gz1, u_gd, u_lit, u_leT, u_leF, u_ltT, u_ltF, u_eqT, u_eqF, nI_clamp, nI_add, u_m1, pk_sub, pk_mul, if_true, if_false, ite_true, ite_false, reduceIte, Nat.reduceEqDiff, u_neM, u_bN, u_bNe, n2]
    · unfold pX11_tear
      rw [e2, u_bd1]
      simp (disch := omega) only [u_let, u_jn, u_bd, u_gz0, u_gz1, u_gd, u_lit, u_leT, u_leF, u_ltT, u_ltF, u_eqT, u_eqF, nI_clamp, nI_add, u_m1, pk_sub, pk_mul, if_true, if_false, ite_true, ite_false, reduceIte, Nat.reduceEqDiff, u_neM, u_bN, u_bNe, n3]
    · by_cases z : j = s
      · subst z
        exact ⟨0, by omega, by rw [ga_sa, if_pos rfl, upd_ap, if_pos rfl], by rw [ga_sa, if_pos rfl, upd_ap, if_pos rfl], fun k hk => absurd hk (Nat.not_lt_zero k)⟩
      · obtain ⟨n', p1, p2, p3, p4⟩ := hb j hj
        refine ⟨n', p1, by rw [ga_sa, if_pos rfl, upd_ap, if_neg z]; exact p2, by rw [ga_sa, if_pos rfl, upd_ap, if_neg z]; exact p3, fun k hk => ?_⟩
        rw [ga_sa, if_neg (by omega), ga_sa, if_neg (by omega)]
        exact p4 k hk
theorem ok_write {x : Cst} {m : Ob} (a1 a2 : Int32) (h : RR x m) : ∃ (r : Int32 × Ob) (u : Int32 × Ob), pX10_write x.z x.d x.t x.c x.w x.s x.e x.f x.h x.b x.i x.j x.p x.q a1 a2 = some r ∧ pX11_write m a1 a2 = some u ∧ r.1 = u.1 ∧ RR (x.z, x.d, x.t, x.c, x.w, x.s, x.e, x.f, x.h, r.2, x.i, x.j, x.p, x.q) u.2 := by
  have h' := h
  obtain ⟨c, l, d, hR⟩ := h'
  have hR' := hR
  obtain ⟨⟨a, b, e⟩, ⟨f1, f2, f3⟩, ⟨g1, g2, g3⟩, _, _, hb, _⟩ := hR'
  have h6 := a.1
  rcases u_ix a1 c.S (by omega) with q | ⟨s, hs, rfl⟩
  · refine ⟨(-(nI 1000000001), x.b), (-(nI 1000000001), m), ?_, ?_, rfl, h⟩
    · unfold pX10_write; rw [h_suitF a f1 q, u_bd0]; rfl
    · unfold pX11_write; rw [m_suitF a g1 q, u_bd0]; rfl
  · have e1 := h_suitT a f1 hs
    have e2 := m_suitT a g1 hs
    obtain ⟨n, n1, n2, n3, n4⟩ := hb s hs
    rcases arg_in a2 0 99999 (by omega) (by omega) 0 99999 (by decide) (by decide) with ⟨q, qi⟩ | ⟨j, j1, j2, rfl, qi⟩
    · refine ⟨(-(nI 1000000002), x.b), (-(nI 1000000002), m), ?_, ?_, rfl, h⟩
      · unfold pX10_write
        rw [e1, u_bd1]
        simp only [u_lit]
        rcases q with q | q
        · rw [if_pos q]
        · by_cases z : a2 < nI 0
          · rw [if_pos z]
          · rw [if_neg z, if_neg (by rw [u_leN (by omega)]; rw [u_Nlt (by omega)] at q; omega)]
      · unfold pX11_write
        rw [e2, u_bd1, qi, u_bd0]; rfl
    · by_cases g : n = 60
      · refine ⟨(-(nI 1000000004), x.b), (-(nI 1000000004), m), ?_, ?_, rfl, h⟩
        · unfold pX10_write
          rw [e1, u_bd1]
          simp (disch := omega) only [u_let, u_jn, u_bd, u_gz0, u_gz1, u_gd, u_lit, u_leT, u_leF, u_ltT, u_ltF, u_eqT, u_eqF, nI_clamp, nI_add, u_m1, pk_sub, pk_mul, if_true, if_false, ite_true, ite_false, reduceIte, Nat.reduceEqDiff, u_neM, u_bN, u_bNe, n2]
        · unfold pX11_write
          rw [e2, u_bd1, qi, u_bd1]
          simp (disch := omega) only [u_let, u_jn, u_bd, u_gz0, u_gz1, u_gd, u_lit, u_leT, u_leF, u_ltT, u_ltF, u_eqT, u_eqF, nI_clamp, nI_add, u_m1, pk_sub, pk_mul, if_true, if_false, ite_true, ite_false, reduceIte, Nat.reduceEqDiff, u_neM, u_bN, u_bNe, n3]
      · have n0 : ¬ 0 = 20 + s := by omega
        have n0' : ¬ 20 + s = 0 := by omega
        refine ⟨(nI (n + 1), sa (sa x.b (20 + s) (upd (ga x.b (20 + s)) n (nI j))) 0 (upd (ga x.b 0) s (nI (n + 1)))), (nI (n + 1), sa (sa m 48 (upd (ga m 48) (60 * s + n) (nI j))) 47 (upd (ga m 47) s (nI (n + 1)))), ?_, ?_, rfl, c, l, d, RC_book hR (frm_sa (frm_sa (frm_rf _ _) (by decide) _) (by decide) _) (fun i hi => ?_)⟩
        · unfold pX10_write
          rw [e1, u_bd1]
          simp (disch := omega) only [u_let, u_jn, u_bd, u_gz0, u_gz1, u_gd, u_lit, u_leT, u_leF, u_ltT, u_ltF, u_eqT, u_eqF, nI_clamp, nI_add, u_m1, pk_sub, pk_mul, if_true, if_false, ite_true, ite_false, reduceIte, Nat.reduceEqDiff, u_neM, u_bN, u_bNe, n2, pX0_append, ga_sa, n0, upd_ap]
        · unfold pX11_write
          rw [e2, u_bd1, qi, u_bd1]
          simp (disch := omega) only [u_let, u_jn, u_bd, u_gz0, u_gz1, u_gd, u_lit, u_leT, u_leF, u_ltT, u_ltF, u_eqT, u_eqF, nI_clamp, nI_add, u_m1, pk_sub, pk_mul, if_true, if_false, ite_true, ite_false, reduceIte, Nat.reduceEqDiff, u_neM, u_bN, u_bNe, n3, ga_sa, Nat.reduceEqDiff, upd_ap]
        · by_cases z : i = s
          · subst z
            refine ⟨n + 1, by omega, by rw [ga_sa, if_pos rfl, upd_ap, if_pos rfl], by rw [ga_sa, if_pos rfl, upd_ap, if_pos rfl], fun k hk => ?_⟩
            rw [ga_sa, if_neg n0', ga_sa, if_pos rfl, ga_sa, if_neg (by omega), ga_sa, if_pos rfl, upd_ap, upd_ap]
            by_cases y : k = n
            · rw [if_pos y, if_pos (by omega)]
            · rw [if_neg y, if_neg (by omega)]
              exact n4 k (by omega)
          · obtain ⟨n', p1, p2, p3, p4⟩ := hb i hi
            refine ⟨n', p1, by rw [ga_sa, if_pos rfl, upd_ap, if_neg z]; exact p2, by rw [ga_sa, if_pos rfl, upd_ap, if_neg z]; exact p3, fun k hk => ?_⟩
            rw [ga_sa, if_neg (by omega), ga_sa, if_neg (by omega), ga_sa, if_neg (by omega), ga_sa, if_pos rfl, upd_ap, if_neg (by omega)]
            exact p4 k hk
