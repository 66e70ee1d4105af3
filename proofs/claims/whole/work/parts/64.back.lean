/-! goBack; keep and goBack over the relation -/
theorem m_back1 {i : Nat} (hi : i < 2) {S : Nat} {e : SD} {m : Ob} (hd : OKS S e) (h : MI S e i m) (m0 : Ob) (f0 : ga m0 49 = ga m 49) : ∃ m', (∀ K : Ob → Option (Int32 × Ob), lX11_goBack_66 (nI (60 * i)) K zfu 0 m0 = K m') ∧ (∀ w, w < 12 → ga m' 10 w = ga m 49 (60 * i + 3 + w) ∧ ga m' 11 w = nI (e.times w) ∧ ga m' 12 w = nI (e.struck w)) ∧ frm [10, 11, 12] m0 m' := by
  refine u_loopP (fun f k o => (fun K : Ob → Option (Int32 × Ob) => lX11_goBack_66 (nI (60 * i)) K f (nI k) o)) (fun n o => (∀ w, w < n → ga o 10 w = ga m 49 (60 * i + 3 + w) ∧ ga o 11 w = nI (e.times w) ∧ ga o 12 w = nI (e.struck w)) ∧ frm [10, 11, 12] m0 o) (fun r => ∃ m', (∀ K : Ob → Option (Int32 × Ob), r K = K m') ∧ (∀ w, w < 12 → ga m' 10 w = ga m 49 (60 * i + 3 + w) ∧ ga m' 11 w = nI (e.times w) ∧ ga m' 12 w = nI (e.struck w)) ∧ frm [10, 11, 12] m0 m') 12 (fun f k o hk hP => ?_) (fun f o hP => ?_) zfu 0 m0 (by omega) (u_zfu (by omega)) ⟨fun w hw => absurd hw (Nat.not_lt_zero w), frm_rf _ _⟩
  · obtain ⟨p1, p2⟩ := hP
    obtain ⟨e10, e11, e12⟩ := h.2.2.2.1 k hk
    have b12 := (hd.2.2.2.1 k hk).2.2.2
    have g : ga o 49 = ga m 49 := ((p2 49 (by decide)).2.2.1).trans f0
    have nar0 : vp_nar .boolean (nI 0) = nI 0 := rfl
    have nar1 : vp_nar .boolean (nI 1) = nI 1 := rfl
    refine ⟨sa (sa (sa o 10 (upd (ga o 10) k (ga m 49 (60 * i + 3 + k)))) 11 (upd (ga o 11) k (nI (e.times k)))) 12 (upd (ga o 12) k (nI (e.struck k))), ⟨fun w hw => ?_, frm_sa (frm_sa (frm_sa p2 (by decide) _) (by decide) _) (by decide) _⟩, ?_⟩
    · simp only [ga_sa, Nat.reduceEqDiff, if_false, if_true, upd_ap]
      by_cases q : w = k
      · subst q
        simp only [if_true, and_self]
      · simp only [q, if_false]
        exact p1 w (by omega)
    · funext K
      rcases (show e.struck k = 0 ∨ e.struck k = 1 by omega) with z | z
      · simp (disch := omega) only [lX11_goBack_66, u_let, u_jn, u_bd, u_gz0, u_gz1, u_gd, u_lit, u_leT, u_leF, u_ltT, u_ltF, u_eqT, u_eqF, nI_clamp, nI_add, u_m1, pk_sub, pk_mul, if_true, if_false, ite_true, ite_false, reduceIte, Nat.reduceEqDiff, u_neM, u_bN, u_bNe, ga_sa, Nat.reduceEqDiff, g, e11, e12, z, nar0]
      · simp (disch := omega) only [lX11_goBack_66, u_let, u_jn, u_bd, u_gz0, u_gz1, u_gd, u_lit, u_leT, u_leF, u_ltT, u_ltF, u_eqT, u_eqF, nI_clamp, nI_add, u_m1, pk_sub, pk_mul, if_true, if_false, ite_true, ite_false, reduceIte, Nat.reduceEqDiff, u_neM, u_bN, u_bNe, ga_sa, Nat.reduceEqDiff, g, e11, e12, z, nar1]
  · refine ⟨o, fun K => ?_, hP⟩
    simp (disch := omega) only [lX11_goBack_66, u_let, u_jn, u_bd, u_gz0, u_gz1, u_gd, u_lit, u_leT, u_leF, u_ltT, u_ltF, u_eqT, u_eqF, nI_clamp, nI_add, u_m1, pk_sub, pk_mul, if_true, if_false, ite_true, ite_false, reduceIte, Nat.reduceEqDiff, u_neM, u_bN, u_bNe]
theorem m_back2 {i : Nat} (hi : i < 2) {m : Ob} (m0 : Ob) (f0 : ga m0 49 = ga m 49) : ∃ m', (∀ K : Ob → Option (Int32 × Ob), lX11_goBack_139 (nI (60 * i)) K zfu 0 m0 = K m') ∧ (∀ w, w < 6 → ga m' 17 w = ga m 49 (60 * i + 51 + w) ∧ ga m' 15 w = ga m 49 (60 * i + 39 + w) ∧ ga m' 16 w = ga m 49 (60 * i + 45 + w)) ∧ frm [15, 16, 17] m0 m' := by
  refine u_loopP (fun f k o => (fun K : Ob → Option (Int32 × Ob) => lX11_goBack_139 (nI (60 * i)) K f (nI k) o)) (fun n o => (∀ w, w < n → ga o 17 w = ga m 49 (60 * i + 51 + w) ∧ ga o 15 w = ga m 49 (60 * i + 39 + w) ∧ ga o 16 w = ga m 49 (60 * i + 45 + w)) ∧ frm [15, 16, 17] m0 o) (fun r => ∃ m', (∀ K : Ob → Option (Int32 × Ob), r K = K m') ∧ (∀ w, w < 6 → ga m' 17 w = ga m 49 (60 * i + 51 + w) ∧ ga m' 15 w = ga m 49 (60 * i + 39 + w) ∧ ga m' 16 w = ga m 49 (60 * i + 45 + w)) ∧ frm [15, 16, 17] m0 m') 6 (fun f k o hk hP => ?_) (fun f o hP => ?_) zfu 0 m0 (by omega) (u_zfu (by omega)) ⟨fun w hw => absurd hw (Nat.not_lt_zero w), frm_rf _ _⟩
  · obtain ⟨p1, p2⟩ := hP
    have g : ga o 49 = ga m 49 := ((p2 49 (by decide)).2.2.1).trans f0
    refine ⟨sa (sa (sa o 15 (upd (ga o 15) k (ga m 49 (60 * i + 39 + k)))) 16 (upd (ga o 16) k (ga m 49 (60 * i + 45 + k)))) 17 (upd (ga o 17) k (ga m 49 (60 * i + 51 + k))), ⟨fun w hw => ?_, frm_sa (frm_sa (frm_sa p2 (by decide) _) (by decide) _) (by decide) _⟩, ?_⟩
    · simp only [ga_sa, Nat.reduceEqDiff, if_false, if_true, upd_ap]
      by_cases q : w = k
      · subst q
        simp only [if_true, and_self]
      · simp only [q, if_false]
        exact p1 w (by omega)
    · funext K
      simp (disch := omega) only [lX11_goBack_139, u_let, u_jn, u_bd, u_gz0, u_gz1, u_gd, u_lit, u_leT, u_leF, u_ltT, u_ltF, u_eqT, u_eqF, nI_clamp, nI_add, u_m1, pk_sub, pk_mul, if_true, if_false, ite_true, ite_false, reduceIte, Nat.reduceEqDiff, u_neM, u_bN, u_bNe, ga_sa, Nat.reduceEqDiff, g]
  · refine ⟨o, fun K => ?_, hP⟩
    simp (disch := omega) only [lX11_goBack_139, u_let, u_jn, u_bd, u_gz0, u_gz1, u_gd, u_lit, u_leT, u_leF, u_ltT, u_ltF, u_eqT, u_eqF, nI_clamp, nI_add, u_m1, pk_sub, pk_mul, if_true, if_false, ite_true, ite_false, reduceIte, Nat.reduceEqDiff, u_neM, u_bN, u_bNe]
theorem m_back3 {i : Nat} (hi : i < 2) {m : Ob} (m0 : Ob) (f0 : ga m0 50 = ga m 50) (f1 : ga m0 51 = ga m 51) : ∃ m', lX11_goBack_204 (nI i) zfu 0 m0 = some (nI 1, m') ∧ (∀ p, p < 2400 → ga m' 18 p = ga m 50 (2400 * i + p) ∧ ga m' 19 p = ga m 51 (2400 * i + p)) ∧ frm [18, 19] m0 m' := by
  refine u_loopP (fun f k o => lX11_goBack_204 (nI i) f (nI k) o) (fun n o => (∀ p, p < n → ga o 18 p = ga m 50 (2400 * i + p) ∧ ga o 19 p = ga m 51 (2400 * i + p)) ∧ frm [18, 19] m0 o) (fun r => ∃ m', r = some (nI 1, m') ∧ (∀ p, p < 2400 → ga m' 18 p = ga m 50 (2400 * i + p) ∧ ga m' 19 p = ga m 51 (2400 * i + p)) ∧ frm [18, 19] m0 m') 2400 (fun f k o hk hP => ?_) (fun f o hP => ?_) zfu 0 m0 (by omega) (u_zfu (by omega)) ⟨fun w hw => absurd hw (Nat.not_lt_zero w), frm_rf _ _⟩
  · obtain ⟨p1, p2⟩ := hP
    have g50 : ga o 50 = ga m 50 := ((p2 50 (by decide)).2.2.1).trans f0
    have g51 : ga o 51 = ga m 51 := ((p2 51 (by decide)).2.2.1).trans f1
    refine ⟨sa (sa o 18 (upd (ga o 18) k (ga m 50 (2400 * i + k)))) 19 (upd (ga o 19) k (ga m 51 (2400 * i + k))), ⟨fun w hw => ?_, frm_sa (frm_sa p2 (by decide) _) (by decide) _⟩, ?_⟩
    · simp only [ga_sa, Nat.reduceEqDiff, if_false, if_true, upd_ap]
      by_cases q : w = k
      · subst q
        simp only [if_true, and_self]
      · simp only [q, if_false]
        exact p1 w (by omega)
    · simp (disch := omega) only [lX11_goBack_204, u_let, u_jn, u_bd, u_gz0, u_gz1, u_gd, u_lit, u_leT, u_leF, u_ltT, u_ltF, u_eqT, u_eqF, nI_clamp, nI_add, u_m1, pk_sub, pk_mul, if_true, if_false, ite_true, ite_false, reduceIte, Nat.reduceEqDiff, u_neM, u_bN, u_bNe, ga_sa, Nat.reduceEqDiff, g50, g51]
  · refine ⟨o, ?_, hP⟩
    simp (disch := omega) only [lX11_goBack_204, u_let, u_jn, u_bd, u_gz0, u_gz1, u_gd, u_lit, u_leT, u_leF, u_ltT, u_ltF, u_eqT, u_eqF, nI_clamp, nI_add, u_m1, pk_sub, pk_mul, if_true, if_false, ite_true, ite_false, reduceIte, Nat.reduceEqDiff, u_neM, u_bN, u_bNe]
theorem m_goBack {i : Nat} (hi : i < 2) {S : Nat} {e : SD} {m : Ob} (hS : S ≤ 6) (hd : OKS S e) (h : MI S e i m) (h52 : ga m 52 i = nI 1) : ∃ m', pX11_goBack m (nI i) = some (nI 1, m') ∧ MS S e m' ∧ frm [10, 11, 12, 13, 14, 15, 16, 17, 18, 19, 20] m m' := by
  have bd := hd.1
  have qi : pX11_in (nI i).toInt64 0 1 = some (nI 1) := good_in (by omega) (by have z : (0 : Int64).toInt = 0 := by decide
                                                                               omega) (by have z : (1 : Int64).toInt = 1 := by decide
                                                                                          omega)
  have f0 : frm [13, 14, 20] m (si (si (si m 13 (nI e.day)) 14 (nI e.spk)) 20 (nI e.seed)) := frm_si (frm_si (frm_si (frm_rf _ _) (by decide) _) (by decide) _) (by decide) _
  obtain ⟨m1, a1, a2, a3⟩ := m_back1 hi hd h (si (si (si m 13 (nI e.day)) 14 (nI e.spk)) 20 (nI e.seed)) rfl
  obtain ⟨m2, b1, b2, b3⟩ := m_back2 (m := m) hi m1 (by rw [(a3 49 (by decide)).2.2.1]; rfl)
  obtain ⟨m3, c1, c2, c3⟩ := m_back3 (m := m) hi m2 (by rw [(b3 50 (by decide)).2.2.1, (a3 50 (by decide)).2.2.1]; rfl) (by rw [(b3 51 (by decide)).2.2.1, (a3 51 (by decide)).2.2.1]; rfl)
  refine ⟨m3, ?_, ⟨?_, ?_, ?_, fun w hw => ?_, fun s hs => ?_, fun s hs k hk => ?_, fun s hs k hk => ?_⟩, frm_tr (frm_mono f0 (by decide)) (frm_tr (frm_mono a3 (by decide)) (frm_tr (frm_mono b3 (by decide)) (frm_mono c3 (by decide))))⟩
  · unfold pX11_goBack
    rw [qi, u_bd1, u_gd (by omega), nI_clamp (n := i) (by omega), h52, if_neg (by decide), u_let, u_lit, pk_mul, u_gd (by omega), u_let, nI_clamp (n := 60 * i) (by omega), h.1]
    rw [u_lit, nI_add, u_gd (by omega), u_let, nI_clamp (n := 60 * i + 1) (by omega), ga_si, h.2.1]
    rw [u_lit, nI_add, u_gd (by omega), u_let, nI_clamp (n := 60 * i + 2) (by omega), ga_si, ga_si, h.2.2.1]
    rw [u_jn, a1, u_jn, b1, c1]
  · rw [(c3 13 (by decide)).1, (b3 13 (by decide)).1, (a3 13 (by decide)).1, gi_si, if_neg (by decide), gi_si, if_neg (by decide), gi_si, if_pos rfl]
  · rw [(c3 14 (by decide)).1, (b3 14 (by decide)).1, (a3 14 (by decide)).1, gi_si, if_neg (by decide), gi_si, if_pos rfl]
  · rw [(c3 20 (by decide)).1, (b3 20 (by decide)).1, (a3 20 (by decide)).1, gi_si, if_pos rfl]
  · rw [(c3 10 (by decide)).2.2.1, (b3 10 (by decide)).2.2.1, (c3 11 (by decide)).2.2.1, (b3 11 (by decide)).2.2.1, (c3 12 (by decide)).2.2.1, (b3 12 (by decide)).2.2.1]
    exact ⟨fun hS => (a2 w hw).1.trans ((h.2.2.2.1 w hw).1 hS), (a2 w hw).2⟩
  · rw [(c3 15 (by decide)).2.2.1, (c3 16 (by decide)).2.2.1, (c3 17 (by decide)).2.2.1]
    obtain ⟨y1, y2, y3⟩ := b2 s (by omega)
    obtain ⟨z1, z2, z3⟩ := h.2.2.2.2.1 s hs
    exact ⟨y1.trans z1, y2.trans z2, y3.trans z3⟩
  · rw [(c2 (400 * s + k) (by omega)).2]
    exact h.2.2.2.2.2.1 s hs k hk
  · rw [(c2 (400 * s + k) (by omega)).1]
    exact h.2.2.2.2.2.2 s hs k hk
theorem MS_sub {S : Nat} {d : SD} {m m' : Ob} {ks : List Nat} (h : MS S d m) (f : frm ks m m') (hk : ∀ k, k ∈ [10, 11, 12, 13, 14, 15, 16, 17, 18, 19, 20] → k ∉ ks) : MS S d m' := by
  unfold MS
  rw [(f 13 (hk 13 (by decide))).1, (f 14 (hk 14 (by decide))).1, (f 20 (hk 20 (by decide))).1, (f 10 (hk 10 (by decide))).2.2.1, (f 11 (hk 11 (by decide))).2.2.1, (f 12 (hk 12 (by decide))).2.2.1, (f 17 (hk 17 (by decide))).2.2.1, (f 15 (hk 15 (by decide))).2.2.1, (f 16 (hk 16 (by decide))).2.2.1, (f 19 (hk 19 (by decide))).2.2.1, (f 18 (hk 18 (by decide))).2.2.1]
  exact h
theorem ok_keep {x : Cst} {m : Ob} (a1 : Int32) (h : RR x m) : ∃ (r : Int32 × Ob × Ob × Ob) (u : Int32 × Ob), pX10_keep x.z x.d x.t x.c x.w x.s x.e x.f x.h x.b x.i x.j x.p x.q a1 = some r ∧ pX11_keep m a1 = some u ∧ r.1 = u.1 ∧ RR (r.2.1, x.d, x.t, x.c, x.w, x.s, x.e, x.f, x.h, x.b, r.2.2.1, r.2.2.2, x.p, x.q) u.2 := by
  have h' := h
  obtain ⟨c, l, d, ⟨A1, A2, A3⟩, ⟨B1, B2, B3⟩, ⟨C1, C2, C3⟩, D1, E1, F1, G1, G2⟩ := h'
  have h6 := A1.1
  rcases arg_in a1 0 1 (by omega) (by omega) 0 1 (by decide) (by decide) with ⟨q, qi⟩ | ⟨j, j1, j2, rfl, qi⟩
  · refine ⟨(-(nI 1000000001), x.z, x.i, x.j), (-(nI 1000000001), m), ?_, ?_, rfl, h⟩
    · unfold pX10_keep
      simp only [u_lit]
      rcases q with q | q
      · rw [if_pos q]
      · by_cases z : a1 < nI 0
        · rw [if_pos z]
        · rw [if_neg z, if_neg (by rw [u_ltN (by omega)]; rw [u_Nlt (by omega)] at q; omega)]
    · unfold pX11_keep
      rw [qi, u_bd0]; rfl
  · obtain ⟨m', t1, t2, t3, t4, t5, t6⟩ := m_keep (i := j) (by omega) h6 A3 C3
    have nar : vp_nar .boolean (nI 1) = nI 1 := rfl
    rcases (show j = 0 ∨ j = 1 by omega) with rfl | rfl
    · obtain ⟨o', r1, r2⟩ := h_become (os := x.i) h6 A3.1 B3
      refine ⟨(nI 1, sa x.z 8 (upd (ga x.z 8) 0 (nI 1)), o', x.j), (nI 1, m'), ?_, t1, rfl, c, l, d, ⟨A1, A2, A3⟩, ⟨B1, B2, B3⟩, ⟨MC_frm C1 t6 (by decide), ML_frm C2 t6 (by decide) (by decide), MS_sub C3 t6 (by decide)⟩, RText_frm D1 t6 (by decide) (by decide), E1.trans (t6 23 (by decide)).1.symm, RBook_frm F1 t6 (by decide) (by decide), Or.inr ⟨?_, t4, d, A3, r2, t2⟩, RImg_out (by decide) (by omega) (by omega) h6 ?_ t3 (t5 1 (by decide))⟩
      · unfold pX10_keep
        simp (disch := omega) only [u_let, u_jn, u_bd, u_gz0, u_gz1, u_gd, u_lit, u_leT, u_leF, u_ltT, u_ltF, u_eqT, u_eqF, nI_clamp, nI_add, u_m1, pk_sub, pk_mul, if_true, if_false, ite_true, ite_false, reduceIte, Nat.reduceEqDiff, u_neM, u_bN, u_bNe, r1, nar]
      · show ga (sa x.z 8 (upd (ga x.z 8) 0 (nI 1))) 8 0 = nI 1
        rw [ga_sa, if_pos rfl, upd_ap, if_pos rfl]
      · show RImg c.S 1 (ga (sa x.z 8 (upd (ga x.z 8) 0 (nI 1))) 8 1) x.j m
        rw [ga_sa, if_pos rfl, upd_ap, if_neg (by decide)]
        exact G2
    · obtain ⟨o', r1, r2⟩ := h_become (os := x.j) h6 A3.1 B3
      refine ⟨(nI 1, sa x.z 8 (upd (ga x.z 8) 1 (nI 1)), x.i, o'), (nI 1, m'), ?_, t1, rfl, c, l, d, ⟨A1, A2, A3⟩, ⟨B1, B2, B3⟩, ⟨MC_frm C1 t6 (by decide), ML_frm C2 t6 (by decide) (by decide), MS_sub C3 t6 (by decide)⟩, RText_frm D1 t6 (by decide) (by decide), E1.trans (t6 23 (by decide)).1.symm, RBook_frm F1 t6 (by decide) (by decide), RImg_out (by decide) (by omega) (by omega) h6 ?_ t3 (t5 0 (by decide)), Or.inr ⟨?_, t4, d, A3, r2, t2⟩⟩
      · unfold pX10_keep
        simp (disch := omega) only [u_let, u_jn, u_bd, u_gz0, u_gz1, u_gd, u_lit, u_leT, u_leF, u_ltT, u_ltF, u_eqT, u_eqF, nI_clamp, nI_add, u_m1, pk_sub, pk_mul, if_true, if_false, ite_true, ite_false, reduceIte, Nat.reduceEqDiff, u_neM, u_bN, u_bNe, r1, nar]
      · show RImg c.S 0 (ga (sa x.z 8 (upd (ga x.z 8) 1 (nI 1))) 8 0) x.i m
        rw [ga_sa, if_pos rfl, upd_ap, if_neg (by decide)]
        exact G1
      · show ga (sa x.z 8 (upd (ga x.z 8) 1 (nI 1))) 8 1 = nI 1
        rw [ga_sa, if_pos rfl, upd_ap, if_pos rfl]
theorem ok_goBack {x : Cst} {m : Ob} (a1 : Int32) (h : RR x m) : ∃ (r : Int32 × Ob) (u : Int32 × Ob), pX10_goBack x.z x.d x.t x.c x.w x.s x.e x.f x.h x.b x.i x.j x.p x.q a1 = some r ∧ pX11_goBack m a1 = some u ∧ r.1 = u.1 ∧ RR (x.z, x.d, x.t, x.c, x.w, r.2, x.e, x.f, x.h, x.b, x.i, x.j, x.p, x.q) u.2 := by
  have h' := h
  obtain ⟨c, l, d, hR⟩ := h'
  have hR' := hR
  obtain ⟨⟨A1, A2, A3⟩, ⟨B1, B2, B3⟩, ⟨C1, C2, C3⟩, D1, E1, F1, G1, G2⟩ := hR'
  have h6 := A1.1
  rcases arg_in a1 0 1 (by omega) (by omega) 0 1 (by decide) (by decide) with ⟨q, qi⟩ | ⟨j, j1, j2, rfl, qi⟩
  · refine ⟨(-(nI 1000000001), x.s), (-(nI 1000000001), m), ?_, ?_, rfl, h⟩
    · unfold pX10_goBack
      simp only [u_lit]
      rcases q with q | q
      · rw [if_pos q]
      · by_cases z : a1 < nI 0
        · rw [if_pos z]
        · rw [if_neg z, if_neg (by rw [u_ltN (by omega)]; rw [u_Nlt (by omega)] at q; omega)]
    · unfold pX11_goBack
      rw [qi, u_bd0]; rfl
  · have none_ : ∀ (o : Ob), RImg c.S j (ga x.z 8 j) o m → ga x.z 8 j = nI 0 → ga m 52 j = nI 0 := fun o g z => by
      rcases g with g | g
      · exact g.2
      · rw [z] at g; exact absurd g.1 (by decide)
    rcases (show j = 0 ∨ j = 1 by omega) with rfl | rfl
    · rcases G1 with ⟨y1, y2⟩ | ⟨y1, y2, e, y3, y4, y5⟩
      · refine ⟨(-(nI 1000000003), x.s), (-(nI 1000000003), m), ?_, ?_, rfl, h⟩
        · unfold pX10_goBack
          simp (disch := omega) only [u_let, u_jn, u_bd, u_gz0, u_gz1, u_gd, u_lit, u_leT, u_leF, u_ltT, u_ltF, u_eqT, u_eqF, nI_clamp, nI_add, u_m1, pk_sub, pk_mul, if_true, if_false, ite_true, ite_false, reduceIte, Nat.reduceEqDiff, u_neM, u_bN, u_bNe, y1]
        · unfold pX11_goBack
          rw [qi, u_bd1, u_gd (by omega), nI_clamp (n := 0) (by omega), y2]
          rfl
      · obtain ⟨m', t1, t2, t3⟩ := m_goBack (by omega) h6 y3 y5 y2
        obtain ⟨o', r1, r2⟩ := h_become (os := x.s) h6 y3.1 y4
        refine ⟨(nI 1, o'), (nI 1, m'), ?_, t1, rfl, c, l, e, RC_frm hR t3 (by decide) y3 t2 r2⟩
        unfold pX10_goBack
        simp (disch := omega) only [u_let, u_jn, u_bd, u_gz0, u_gz1, u_gd, u_lit, u_leT, u_leF, u_ltT, u_ltF, u_eqT, u_eqF, nI_clamp, nI_add, u_m1, pk_sub, pk_mul, if_true, if_false, ite_true, ite_false, reduceIte, Nat.reduceEqDiff, u_neM, u_bN, u_bNe, y1, r1]
    · rcases G2 with ⟨y1, y2⟩ | ⟨y1, y2, e, y3, y4, y5⟩
      · refine ⟨(-(nI 1000000003), x.s), (-(nI 1000000003), m), ?_, ?_, rfl, h⟩
        · unfold pX10_goBack
          simp (disch := omega) only [u_let, u_jn, u_bd, u_gz0, u_gz1, u_gd, u_lit, u_leT, u_leF, u_ltT, u_ltF, u_eqT, u_eqF, nI_clamp, nI_add, u_m1, pk_sub, pk_mul, if_true, if_false, ite_true, ite_false, reduceIte, Nat.reduceEqDiff, u_neM, u_bN, u_bNe, y1]
        · unfold pX11_goBack
          rw [qi, u_bd1, u_gd (by omega), nI_clamp (n := 1) (by omega), y2]
          rfl
      · obtain ⟨m', t1, t2, t3⟩ := m_goBack (by omega) h6 y3 y5 y2
        obtain ⟨o', r1, r2⟩ := h_become (os := x.s) h6 y3.1 y4
        refine ⟨(nI 1, o'), (nI 1, m'), ?_, t1, rfl, c, l, e, RC_frm hR t3 (by decide) y3 t2 r2⟩
        unfold pX10_goBack
        simp (disch := omega) only [u_let, u_jn, u_bd, u_gz0, u_gz1, u_gd, u_lit, u_leT, u_leF, u_ltT, u_ltF, u_eqT, u_eqF, nI_clamp, nI_add, u_m1, pk_sub, pk_mul, if_true, if_false, ite_true, ite_false, reduceIte, Nat.reduceEqDiff, u_neM, u_bN, u_bNe, y1, r1]
