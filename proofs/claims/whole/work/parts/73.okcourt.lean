/-! court -/
theorem h_start {n : Nat} {tb : Nat → Nat} {ot m : Ob} (h : TX n tb ot m) (od : Ob) : ∃ od' t, pX5_start od ot = some od' ∧ RdS od' (rn isB n tb 0) t := by
  have hr : RdS (si (si (si (si od 1 0) 2 (-1)) 3 0) 4 (nI 0)) 0 0 := ⟨rfl, rfl, rfl, rfl⟩
  obtain ⟨od', r1, r2⟩ := h_pass h hr (k := 0) (by omega)
  refine ⟨od', 0, ?_, r2⟩
  have e : ∀ (o : Ob) (x : Int32), pX5_pass (si o 4 x) ot (nI 0) = pX5_pass o ot (nI 0) := by
    intro o x
    unfold pX5_pass
    rw [u_let, u_let, si_si, gi_si, if_neg (by decide), u_let, u_let]
  rw [e] at r1
  unfold pX5_start
  rw [u_let, u_let, u_let]
  show Option.bind (pX5_pass _ ot (nI 0)) _ = _
  rw [r1, u_bd]
theorem m_court73 (m0 : Ob) : ∃ m', (∀ K : Ob → Option (Int32 × Ob), lX11_court_73 K zfu 0 m0 = K m') ∧ (∀ s, s < 6 → ga m' 1 s = ga m0 30 s ∧ ga m' 2 s = ga m0 31 s ∧ ga m' 3 s = ga m0 32 s ∧ ga m' 47 s = nI 0) ∧ frm [1, 2, 3, 47] m0 m' := by
  refine u_loopP (fun f k o => (fun K : Ob → Option (Int32 × Ob) => lX11_court_73 K f (nI k) o)) (fun n o => (∀ s, s < n → ga o 1 s = ga m0 30 s ∧ ga o 2 s = ga m0 31 s ∧ ga o 3 s = ga m0 32 s ∧ ga o 47 s = nI 0) ∧ frm [1, 2, 3, 47] m0 o) (fun r => ∃ m', (∀ K : Ob → Option (Int32 × Ob), r K = K m') ∧ (∀ s, s < 6 → ga m' 1 s = ga m0 30 s ∧ ga m' 2 s = ga m0 31 s ∧ ga m' 3 s = ga m0 32 s ∧ ga m' 47 s = nI 0) ∧ frm [1, 2, 3, 47] m0 m') 6 (fun f k o hk hP => ?_) (fun f o hP => ?_) zfu 0 m0 (by omega) (u_zfu (by omega)) ⟨fun w hw => absurd hw (Nat.not_lt_zero w), frm_rf _ _⟩
  · obtain ⟨p1, p2⟩ := hP
    have g30 : ga o 30 = ga m0 30 := (p2 30 (by decide)).2.2.1
    have g31 : ga o 31 = ga m0 31 := (p2 31 (by decide)).2.2.1
    have g32 : ga o 32 = ga m0 32 := (p2 32 (by decide)).2.2.1
    refine ⟨sa (sa (sa (sa o 1 (upd (ga o 1) k (ga m0 30 k))) 2 (upd (ga o 2) k (ga m0 31 k))) 3 (upd (ga o 3) k (ga m0 32 k))) 47 (upd (ga o 47) k (nI 0)), ⟨fun w hw => ?_, frm_sa (frm_sa (frm_sa (frm_sa p2 (by decide) _) (by decide) _) (by decide) _) (by decide) _⟩, ?_⟩
    · simp only [ga_sa, Nat.reduceEqDiff, if_false, if_true, upd_ap]
      by_cases q : w = k
      · subst q
        simp only [if_true, and_self]
      · simp only [q, if_false]
        exact p1 w (by omega)
    · funext K
      simp (disch := omega) only [lX11_court_73, u_let, u_jn, u_bd, u_gz0, u_gz1, u_gd, u_lit, u_leT, u_leF, u_ltT, u_ltF, u_eqT, u_eqF, nI_clamp, nI_add, u_m1, pk_sub, pk_mul, if_true, if_false, ite_true, ite_false, reduceIte, Nat.reduceEqDiff, u_neM, u_bN, u_bNe, ga_sa, Nat.reduceEqDiff, g30, g31, g32]
  · refine ⟨o, fun K => ?_, hP⟩
    simp (disch := omega) only [lX11_court_73, u_let, u_jn, u_bd, u_gz0, u_gz1, u_gd, u_lit, u_leT, u_leF, u_ltT, u_ltF, u_eqT, u_eqF, nI_clamp, nI_add, u_m1, pk_sub, pk_mul, if_true, if_false, ite_true, ite_false, reduceIte, Nat.reduceEqDiff, u_neM, u_bN, u_bNe]
theorem m_court130 (m0 : Ob) : ∃ m', (∀ K : Ob → Option (Int32 × Ob), lX11_court_130 K zfu 0 m0 = K m') ∧ (∀ s, s < 12 → ga m' 5 s = ga m0 34 s ∧ ga m' 6 s = ga m0 35 s ∧ ga m' 7 s = ga m0 36 s) ∧ frm [5, 6, 7] m0 m' := by
  refine u_loopP (fun f k o => (fun K : Ob → Option (Int32 × Ob) => lX11_court_130 K f (nI k) o)) (fun n o => (∀ s, s < n → ga o 5 s = ga m0 34 s ∧ ga o 6 s = ga m0 35 s ∧ ga o 7 s = ga m0 36 s) ∧ frm [5, 6, 7] m0 o) (fun r => ∃ m', (∀ K : Ob → Option (Int32 × Ob), r K = K m') ∧ (∀ s, s < 12 → ga m' 5 s = ga m0 34 s ∧ ga m' 6 s = ga m0 35 s ∧ ga m' 7 s = ga m0 36 s) ∧ frm [5, 6, 7] m0 m') 12 (fun f k o hk hP => ?_) (fun f o hP => ?_) zfu 0 m0 (by omega) (u_zfu (by omega)) ⟨fun w hw => absurd hw (Nat.not_lt_zero w), frm_rf _ _⟩
  · obtain ⟨p1, p2⟩ := hP
    have g34 : ga o 34 = ga m0 34 := (p2 34 (by decide)).2.2.1
    have g35 : ga o 35 = ga m0 35 := (p2 35 (by decide)).2.2.1
    have g36 : ga o 36 = ga m0 36 := (p2 36 (by decide)).2.2.1
    refine ⟨sa (sa (sa o 5 (upd (ga o 5) k (ga m0 34 k))) 6 (upd (ga o 6) k (ga m0 35 k))) 7 (upd (ga o 7) k (ga m0 36 k)), ⟨fun w hw => ?_, frm_sa (frm_sa (frm_sa p2 (by decide) _) (by decide) _) (by decide) _⟩, ?_⟩
    · simp only [ga_sa, Nat.reduceEqDiff, if_false, if_true, upd_ap]
      by_cases q : w = k
      · subst q
        simp only [if_true, and_self]
      · simp only [q, if_false]
        exact p1 w (by omega)
    · funext K
      simp (disch := omega) only [lX11_court_130, u_let, u_jn, u_bd, u_gz0, u_gz1, u_gd, u_lit, u_leT, u_leF, u_ltT, u_ltF, u_eqT, u_eqF, nI_clamp, nI_add, u_m1, pk_sub, pk_mul, if_true, if_false, ite_true, ite_false, reduceIte, Nat.reduceEqDiff, u_neM, u_bN, u_bNe, ga_sa, Nat.reduceEqDiff, g34, g35, g36]
  · refine ⟨o, fun K => ?_, hP⟩
    simp (disch := omega) only [lX11_court_130, u_let, u_jn, u_bd, u_gz0, u_gz1, u_gd, u_lit, u_leT, u_leF, u_ltT, u_ltF, u_eqT, u_eqF, nI_clamp, nI_add, u_m1, pk_sub, pk_mul, if_true, if_false, ite_true, ite_false, reduceIte, Nat.reduceEqDiff, u_neM, u_bN, u_bNe]
theorem h_court101 (oc : Ob) (r2 : Ob × Ob) (o3 r7 r8 o : Ob) : ∃ o', lX10_court_101 oc r2 o3 r7 r8 zfu 0 o = some ((gi (r2.1) 0), (1 : Nat), o', (r2.2), o3, (r2.1), r7, r8, oc) ∧ (∀ i, i < 2 → ga o' 8 i = nI 0) ∧ gi o' 11 = gi o 11 := by
  refine u_loopP (fun f k o => lX10_court_101 oc r2 o3 r7 r8 f (nI k) o) (fun n o' => (∀ i, i < n → ga o' 8 i = nI 0) ∧ gi o' 11 = gi o 11) (fun r => ∃ o', r = some ((gi (r2.1) 0), (1 : Nat), o', (r2.2), o3, (r2.1), r7, r8, oc) ∧ (∀ i, i < 2 → ga o' 8 i = nI 0) ∧ gi o' 11 = gi o 11) 2 (fun f k o' hk hP => ?_) (fun f o' hP => ?_) zfu 0 o (by omega) (u_zfu (by omega)) ⟨fun w hw => absurd hw (Nat.not_lt_zero w), rfl⟩
  · obtain ⟨p1, p2⟩ := hP
    have nar : vp_nar .boolean (nI 0) = nI 0 := rfl
    refine ⟨sa o' 8 (upd (ga o' 8) k (nI 0)), ⟨fun w hw => ?_, p2⟩, ?_⟩
    · rw [ga_sa, if_pos rfl, upd_ap]
      by_cases q : w = k
      · rw [if_pos q]
      · rw [if_neg q]; exact p1 w (by omega)
    · simp (disch := omega) only [lX10_court_101, u_let, u_jn, u_bd, u_gz0, u_gz1, u_gd, u_lit, u_leT, u_leF, u_ltT, u_ltF, u_eqT, u_eqF, nI_clamp, nI_add, u_m1, pk_sub, pk_mul, if_true, if_false, ite_true, ite_false, reduceIte, Nat.reduceEqDiff, u_neM, u_bN, u_bNe, nar]
  · refine ⟨o', ?_, hP⟩
    simp (disch := omega) only [lX10_court_101, u_let, u_jn, u_bd, u_gz0, u_gz1, u_gd, u_lit, u_leT, u_leF, u_ltT, u_ltF, u_eqT, u_eqF, nI_clamp, nI_add, u_m1, pk_sub, pk_mul, if_true, if_false, ite_true, ite_false, reduceIte, Nat.reduceEqDiff, u_neM, u_bN, u_bNe]
theorem ok_court {x : Cst} {m : Ob} (h : RR x m) : ∃ (r : Int32 × Nat × Ob × Ob × Ob × Ob × Ob × Ob × Ob) (u : Int32 × Ob), pX10_court x.z x.d x.t x.c x.w x.s x.e x.f x.h x.b x.i x.j x.p x.q = some r ∧ pX11_court m = some u ∧ r.1 = u.1 ∧ RR (r.2.2.1, r.2.2.2.1, r.2.2.2.2.1, r.2.2.2.2.2.1, x.w, r.2.2.2.2.2.2.1, x.e, x.f, x.h, r.2.2.2.2.2.2.2.1, x.i, x.j, r.2.2.2.2.2.2.2.2, x.q) u.2 := by
  obtain ⟨c, l, d, ⟨A1, A2, A3⟩, ⟨B1, B2, B3⟩, ⟨C1, C2, C3⟩, ⟨n, tb, hT⟩, E1, F1, G1, G2⟩ := h
  have hT0 : TX n tb x.t m := hT
  have hn := hT0.1
  obtain ⟨od1, t1, s1, s2⟩ := h_start hT0 x.d
  have f0 : frm [23, 24, 29, 33] m (si (si (si (si m 23 (-1)) 24 0) 29 0) 33 0) := frm_si (frm_si (frm_si (frm_si (frm_rf _ _) (by decide) _) (by decide) _) (by decide) _) (by decide) _
  have c0 : OKC (cdm 0 0 (fun _ => 0) (fun _ => 0) (fun _ => 0) (fun _ => 0) (fun _ => 0) (fun _ => 0)) := ⟨Nat.zero_le _, Nat.zero_le _, fun s hs => absurd hs (Nat.not_lt_zero s), fun s hs => absurd hs (Nat.not_lt_zero s), fun s hs => absurd hs (Nat.not_lt_zero s)⟩
  have L := court_loop (TX_frm hT0 f0 (by decide) (by decide)) n 0 0 zfu zfu t1 (si (si x.p 0 0) 1 0) od1 (si (si (si (si m 23 (-1)) 24 0) 29 0) 33 0) _ (by omega) (by omega) (by omega) (u_zfu (by omega)) (u_zfu (by omega)) c0 ⟨rfl, rfl, fun s hs => absurd hs (Nat.not_lt_zero s), fun s hs => absurd hs (Nat.not_lt_zero s)⟩ ⟨rfl, rfl, fun s hs => absurd hs (Nat.not_lt_zero s), fun s hs => absurd hs (Nat.not_lt_zero s)⟩ s2 rfl (frm_rf _ _)
  rcases L with ⟨c', oc', od', m', y1, y2, y3, y4, y5, y6, y7, y8⟩ | ⟨g, q, oc', od', m', y1, y2, y3, y4, y5⟩
  · -- a court
    have y2' : ∀ K : Int32 → Ob → Option (Int32 × Ob), lX11_court_22 K zfu 0 (si (si (si (si m 23 (-1)) 24 0) 29 0) 33 0) = K (nI 0) m' := y2
    have h6 := y3.1
    have h12 := y3.2.1
    have y1' : pX2_readFrom x.p od1 x.t = some (oc', od') := by
      unfold pX2_readFrom
      rw [u_let, u_let]
      exact y1
    obtain ⟨os', a1, a2⟩ := h_again (S' := c'.S) B3
    obtain ⟨oz', b1, b2, b3⟩ := h_court101 x.c (oc', od') (si x.t 1 0) os' (sa x.b 0 (fun _ => 0)) (si x.z 11 (gi od' 2))
    have f1 : frm [0, 4, 22, 23, 24, 25, 26, 27, 28, 29, 30, 31, 32, 33, 34, 35, 36, 37, 38] m (si (si (si m' 22 0) 0 (gi m' 29)) 4 (gi m' 33)) := frm_si (frm_si (frm_si (frm_tr (frm_mono f0 (by decide)) (frm_mono y8 (by decide))) (by decide) _) (by decide) _) (by decide) _
    obtain ⟨m1, d1, d2, d3⟩ := m_court73 (si (si (si m' 22 0) 0 (gi m' 29)) 4 (gi m' 33))
    obtain ⟨m2, e1, e2, e3⟩ := m_court130 m1
    have f2 : frm [0, 1, 2, 3, 4, 5, 6, 7, 22, 23, 24, 25, 26, 27, 28, 29, 30, 31, 32, 33, 34, 35, 36, 37, 38, 47] m m2 := frm_tr (frm_mono f1 (by decide)) (frm_tr (frm_mono d3 (by decide)) (frm_mono e3 (by decide)))
    obtain ⟨m3, i1, i2, i3⟩ := m_anew h6 (MS_sub C3 f2 (by decide))
    have nar : vp_nar .boolean (nI 0) = nI 0 := rfl
    have f3 : frm [52] m3 (sa (sa m3 52 (upd (ga m3 52) 0 (nI 0))) 52 (upd (upd (ga m3 52) 0 (nI 0)) 1 (nI 0))) := frm_sa (frm_sa (frm_rf _ _) (by decide) _) (by decide) _
    have fA : frm [0, 1, 2, 3, 4, 5, 6, 7, 10, 11, 12, 13, 14, 15, 16, 17, 18, 22, 23, 24, 25, 26, 27, 28, 29, 30, 31, 32, 33, 34, 35, 36, 37, 38, 47, 52] m (sa (sa m3 52 (upd (ga m3 52) 0 (nI 0))) 52 (upd (upd (ga m3 52) 0 (nI 0)) 1 (nI 0))) := frm_tr (frm_mono f2 (by decide)) (frm_tr (frm_mono i3 (by decide)) (frm_mono f3 (by decide)))
    have g0 : gi m3 0 = nI c'.S := by rw [(i3 0 (by decide)).1, (e3 0 (by decide)).1, (d3 0 (by decide)).1, gi_si, if_neg (by decide), gi_si, if_pos rfl]; exact y5.1
    have g4 : gi m3 4 = nI c'.W := by rw [(i3 4 (by decide)).1, (e3 4 (by decide)).1, (d3 4 (by decide)).1, gi_si, if_pos rfl]; exact y5.2.1
    refine ⟨(nI c'.S, 1, oz', od', si x.t 1 0, oc', os', sa x.b 0 (fun _ => 0), x.c), (nI c'.S, sa (sa m3 52 (upd (ga m3 52) 0 (nI 0))) 52 (upd (upd (ga m3 52) 0 (nI 0)) 1 (nI 0))), ?_, ?_, rfl, c', l, newS d, ⟨y3, A2, OKS_new A3⟩, ⟨y4, B2, a2⟩, ⟨⟨g0, g4, fun s hs => ?_, fun w hw => ?_⟩, ML_frm C2 fA (by decide) (by decide), MS_sub i2 f3 (by decide)⟩, ⟨0, fun _ => 0, Nat.zero_le _, rfl, ?_, fun i hi => absurd hi (Nat.not_lt_zero i)⟩, ?_, fun s hs => ⟨0, Nat.zero_le _, rfl, ?_, fun k hk => absurd hk (Nat.not_lt_zero k)⟩, Or.inl ⟨b2 0 (by omega), ?_⟩, Or.inl ⟨b2 1 (by omega), ?_⟩⟩
    · unfold pX10_court
      rw [s1, u_bd, y1', u_bd, u_let, u_let]
      dsimp only
      rw [if_pos (show gi od' 1 = (0 : Int32) from y6), a1, u_bd]
      unfold pX0_tearAll
      rw [u_let, u_bd]
      exact b1.trans (by rw [show gi (oc', od').1 0 = nI c'.S from y4.1])
    · unfold pX11_court
      rw [u_let, u_let, u_let, u_let, u_jn, y2']
      rw [u_let, if_pos (u_le0 ▸ trivial), u_let, u_let, gi_si, if_neg (by decide), gi_si, if_neg (by decide), gi_si, if_neg (by decide)]
      rw [u_jn, d1, u_jn, e1, i1, u_bd]
      show zgd (nI 0) 2 _ = _
      rw [u_gd (by omega), u_let]
      show zgd (nI 1) 2 _ = _
      rw [u_gd (by omega), u_let]
      show some (gi m3 0, sa (sa m3 52 (upd (ga m3 52) 0 (nI 0))) 52 (upd (ga (sa m3 52 (upd (ga m3 52) 0 (nI 0))) 52) 1 (nI 0))) = _
      rw [g0, ga_sa, if_pos rfl]
    · have hs6 : s < 6 := Nat.lt_of_lt_of_le hs h6
      obtain ⟨z1, z2, z3, _⟩ := d2 s hs6
      show ga m3 1 s = _ ∧ ga m3 2 s = _ ∧ ga m3 3 s = _
      rw [(i3 1 (by decide)).2.2.1, (i3 2 (by decide)).2.2.1, (i3 3 (by decide)).2.2.1, (e3 1 (by decide)).2.2.1, (e3 2 (by decide)).2.2.1, (e3 3 (by decide)).2.2.1, z1, z2, z3]
      exact y5.2.2.1 s hs
    · have hw12 : w < 12 := Nat.lt_of_lt_of_le hw h12
      obtain ⟨z1, z2, z3⟩ := e2 w hw12
      show ga m3 5 w = _ ∧ ga m3 6 w = _ ∧ ga m3 7 w = _
      rw [(i3 5 (by decide)).2.2.1, (i3 6 (by decide)).2.2.1, (i3 7 (by decide)).2.2.1, z1, z2, z3, (d3 34 (by decide)).2.2.1, (d3 35 (by decide)).2.2.1, (d3 36 (by decide)).2.2.1]
      exact y5.2.2.2 w hw
    · show gi m3 22 = nI 0
      rw [(i3 22 (by decide)).1, (e3 22 (by decide)).1, (d3 22 (by decide)).1]
      rfl
    · show gi oz' 11 = gi m3 23
      rw [b3, (i3 23 (by decide)).1, (e3 23 (by decide)).1, (d3 23 (by decide)).1, gi_si, if_pos rfl, gi_si, if_neg (by decide), gi_si, if_neg (by decide), gi_si, if_neg (by decide), (y8 23 (by decide)).1, y7]
      rfl
    · show ga m3 47 s = nI 0
      rw [(i3 47 (by decide)).2.2.1, (e3 47 (by decide)).2.2.1]
      exact (d2 s (Nat.lt_of_lt_of_le hs h6)).2.2.2
    · show upd (upd (ga m3 52) 0 (nI 0)) 1 (nI 0) 0 = nI 0
      rw [upd_ap, if_neg (by decide), upd_ap, if_pos rfl]
    · show upd (upd (ga m3 52) 0 (nI 0)) 1 (nI 0) 1 = nI 0
      rw [upd_ap, if_pos rfl]
  · -- a fault
    have y2' : ∀ K : Int32 → Ob → Option (Int32 × Ob), lX11_court_22 K zfu 0 (si (si (si (si m 23 (-1)) 24 0) 29 0) 33 0) = K (nI g) m' := y2
    obtain ⟨f0', f4, g1, g2⟩ := y3
    have y1' : pX2_readFrom x.p od1 x.t = some (oc', od') := by
      unfold pX2_readFrom
      rw [u_let, u_let]
      exact y1
    have fA : frm [22, 23, 24, 25, 26, 27, 28, 29, 30, 31, 32, 33, 34, 35, 36, 37, 38] m (si m' 22 0) := frm_si (frm_tr (frm_mono f0 (by decide)) (frm_mono y5 (by decide))) (by decide) _
    refine ⟨(-(nI 10) - nI g, 0, si x.z 11 (gi od' 2), od', si x.t 1 0, x.c, x.s, x.b, oc'), (-(nI 10) - nI g, si m' 22 0), ?_, ?_, rfl, c, l, d, ⟨A1, A2, A3⟩, ⟨B1, B2, B3⟩, ⟨MC_frm C1 fA (by decide), ML_frm C2 fA (by decide) (by decide), MS_sub C3 fA (by decide)⟩, ⟨0, fun _ => 0, Nat.zero_le _, rfl, rfl, fun i hi => absurd hi (Nat.not_lt_zero i)⟩, ?_, RBook_frm F1 fA (by decide) (by decide), RImg_frm G1 fA (by decide) (by decide) (by decide) (by decide), RImg_frm G2 fA (by decide) (by decide) (by decide) (by decide)⟩
    · unfold pX10_court
      rw [s1, u_bd, y1', u_bd, u_let, u_let]
      dsimp only
      rw [g1, if_neg (nI_ne0 f0' (by omega))]
      rfl
    · unfold pX11_court
      rw [u_let, u_let, u_let, u_let, u_jn, y2']
      rw [u_let, if_neg (nI_nle f0' (by omega))]
      rfl
    · show gi od' 2 = gi (si m' 22 0) 23
      rw [gi_si, if_neg (by decide), y4, g2]
