/-! the small calls -/
theorem ok_witness {x : Cst} {m : Ob} (a1 a2 : Int32) (h : RR x m) : ∃ (r : Int32) (u : Int32), pX10_witness x.z x.d x.t x.c x.w x.s x.e x.f x.h x.b x.i x.j x.p x.q a1 a2 = some r ∧ pX11_witness m a1 a2 = some u ∧ r = u ∧ RR x m := by
  have h' := h
  obtain ⟨c, l, d, ⟨a, b, e⟩, ⟨f1, f2, f3⟩, ⟨g1, g2, g3⟩, _⟩ := h'
  have h6 := a.1
  have hW := a.2.1
  have bd := e.1
  rcases u_ix a1 c.W (by omega) with q | ⟨w, hw, rfl⟩
  · refine ⟨-(nI 1000000001), -(nI 1000000001), ?_, ?_, rfl, h⟩
    · unfold pX10_witness; rw [h_witF a f1 q, u_bd0]; rfl
    · unfold pX11_witness; rw [m_witF a g1 q, u_bd0]; rfl
  · have e1 := h_witT a f1 hw
    have e2 := m_witT a g1 hw
    obtain ⟨p5, p6, p7⟩ := f1.2.2.2 w hw
    obtain ⟨q5, q6, q7⟩ := g1.2.2.2 w hw
    obtain ⟨r3, r4, r5⟩ := f3.2.2.2.1 w (by omega)
    obtain ⟨s3, s4, s5⟩ := g3.2.2.2.1 w (by omega)
    have hsu := (a.2.2.2.1 w hw).1
    have s3 := s3 (by omega)
    have b5 := (e.2.2.2.1 w (by omega)).2.2.2
    have hf := h_fresh (os := x.s) a b f1 f2 hw (t := d.day) (by omega)
    have mf := m_fresh a b g1 g2 hw (t := d.day) (by omega)
    have hs := h_maySpeak a b e f1 f2 f3 hw
    have ms := m_mayNow a b e g1 g2 g3 hw
    generalize (may c l d w d.day && decide (d.spk < talk l d.day)) = bb at hs ms
    rcases u_ix a2 8 (by omega) with q | ⟨j, hj, rfl⟩
    · refine ⟨-(nI 1000000002), -(nI 1000000002), ?_, ?_, rfl, h⟩
      · simp (disch := omega) only [pX10_witness, u_let, u_jn, u_bd, u_gz0, u_gz1, u_gd, u_lit, u_leT, u_leF, u_ltT, u_ltF, u_eqT, u_eqF, nI_clamp, nI_add, u_m1, pk_sub, pk_mul, if_true, if_false, ite_true, ite_false, reduceIte, Nat.reduceEqDiff, u_neM, u_bN, u_bNe, e1, bad_ne q]
      · simp (disch := omega) only [pX11_witness, u_let, u_jn, u_bd, u_gz0, u_gz1, u_gd, u_lit, u_leT, u_leF, u_ltT, u_ltF, u_eqT, u_eqF, nI_clamp, nI_add, u_m1, pk_sub, pk_mul, if_true, if_false, ite_true, ite_false, reduceIte, Nat.reduceEqDiff, u_neM, u_bN, u_bNe, e2, bad_ne q]
    · rcases (show j = 0 ∨ j = 1 ∨ j = 2 ∨ j = 3 ∨ j = 4 ∨ j = 5 ∨ j = 6 ∨ j = 7 by omega) with rfl | rfl | rfl | rfl | rfl | rfl | rfl | rfl
      · refine ⟨nI (c.suit w), nI (c.suit w), ?_, ?_, rfl, h⟩
        · simp (disch := omega) only [pX10_witness, u_let, u_jn, u_bd, u_gz0, u_gz1, u_gd, u_lit, u_leT, u_leF, u_ltT, u_ltF, u_eqT, u_eqF, nI_clamp, nI_add, u_m1, pk_sub, pk_mul, if_true, if_false, ite_true, ite_false, reduceIte, Nat.reduceEqDiff, u_neM, u_bN, u_bNe, e1, p5]
        · simp (disch := omega) only [pX11_witness, u_let, u_jn, u_bd, u_gz0, u_gz1, u_gd, u_lit, u_leT, u_leF, u_ltT, u_ltF, u_eqT, u_eqF, nI_clamp, nI_add, u_m1, pk_sub, pk_mul, if_true, if_false, ite_true, ite_false, reduceIte, Nat.reduceEqDiff, u_neM, u_bN, u_bNe, e2, q5]
      · refine ⟨nI (c.wt w), nI (c.wt w), ?_, ?_, rfl, h⟩
        · simp (disch := omega) only [pX10_witness, u_let, u_jn, u_bd, u_gz0, u_gz1, u_gd, u_lit, u_leT, u_leF, u_ltT, u_ltF, u_eqT, u_eqF, nI_clamp, nI_add, u_m1, pk_sub, pk_mul, if_true, if_false, ite_true, ite_false, reduceIte, Nat.reduceEqDiff, u_neM, u_bN, u_bNe, e1, p6]
        · simp (disch := omega) only [pX11_witness, u_let, u_jn, u_bd, u_gz0, u_gz1, u_gd, u_lit, u_leT, u_leF, u_ltT, u_ltF, u_eqT, u_eqF, nI_clamp, nI_add, u_m1, pk_sub, pk_mul, if_true, if_false, ite_true, ite_false, reduceIte, Nat.reduceEqDiff, u_neM, u_bN, u_bNe, e2, q6]
      · refine ⟨nI (c.kind w), nI (c.kind w), ?_, ?_, rfl, h⟩
        · simp (disch := omega) only [pX10_witness, u_let, u_jn, u_bd, u_gz0, u_gz1, u_gd, u_lit, u_leT, u_leF, u_ltT, u_ltF, u_eqT, u_eqF, nI_clamp, nI_add, u_m1, pk_sub, pk_mul, if_true, if_false, ite_true, ite_false, reduceIte, Nat.reduceEqDiff, u_neM, u_bN, u_bNe, e1, p7]
        · simp (disch := omega) only [pX11_witness, u_let, u_jn, u_bd, u_gz0, u_gz1, u_gd, u_lit, u_leT, u_leF, u_ltT, u_ltF, u_eqT, u_eqF, nI_clamp, nI_add, u_m1, pk_sub, pk_mul, if_true, if_false, ite_true, ite_false, reduceIte, Nat.reduceEqDiff, u_neM, u_bN, u_bNe, e2, q7]
      · refine ⟨nI (fresh c l w d.day), nI (fresh c l w d.day), ?_, ?_, rfl, h⟩
        · simp (disch := omega) only [pX10_witness, u_let, u_jn, u_bd, u_gz0, u_gz1, u_gd, u_lit, u_leT, u_leF, u_ltT, u_ltF, u_eqT, u_eqF, nI_clamp, nI_add, u_m1, pk_sub, pk_mul, if_true, if_false, ite_true, ite_false, reduceIte, Nat.reduceEqDiff, u_neM, u_bN, u_bNe, e1, f3.1, hf]
        · simp (disch := omega) only [pX11_witness, u_let, u_jn, u_bd, u_gz0, u_gz1, u_gd, u_lit, u_leT, u_leF, u_ltT, u_ltF, u_eqT, u_eqF, nI_clamp, nI_add, u_m1, pk_sub, pk_mul, if_true, if_false, ite_true, ite_false, reduceIte, Nat.reduceEqDiff, u_neM, u_bN, u_bNe, e2, g3.1, mf]
      · refine ⟨nO (d.last w), nO (d.last w), ?_, ?_, rfl, h⟩
        · simp (disch := omega) only [pX10_witness, u_let, u_jn, u_bd, u_gz0, u_gz1, u_gd, u_lit, u_leT, u_leF, u_ltT, u_ltF, u_eqT, u_eqF, nI_clamp, nI_add, u_m1, pk_sub, pk_mul, if_true, if_false, ite_true, ite_false, reduceIte, Nat.reduceEqDiff, u_neM, u_bN, u_bNe, e1, r3]
        · simp (disch := omega) only [pX11_witness, u_let, u_jn, u_bd, u_gz0, u_gz1, u_gd, u_lit, u_leT, u_leF, u_ltT, u_ltF, u_eqT, u_eqF, nI_clamp, nI_add, u_m1, pk_sub, pk_mul, if_true, if_false, ite_true, ite_false, reduceIte, Nat.reduceEqDiff, u_neM, u_bN, u_bNe, e2, s3]
      · refine ⟨nI (d.times w), nI (d.times w), ?_, ?_, rfl, h⟩
        · simp (disch := omega) only [pX10_witness, u_let, u_jn, u_bd, u_gz0, u_gz1, u_gd, u_lit, u_leT, u_leF, u_ltT, u_ltF, u_eqT, u_eqF, nI_clamp, nI_add, u_m1, pk_sub, pk_mul, if_true, if_false, ite_true, ite_false, reduceIte, Nat.reduceEqDiff, u_neM, u_bN, u_bNe, e1, r4]
        · simp (disch := omega) only [pX11_witness, u_let, u_jn, u_bd, u_gz0, u_gz1, u_gd, u_lit, u_leT, u_leF, u_ltT, u_ltF, u_eqT, u_eqF, nI_clamp, nI_add, u_m1, pk_sub, pk_mul, if_true, if_false, ite_true, ite_false, reduceIte, Nat.reduceEqDiff, u_neM, u_bN, u_bNe, e2, s4]
      · refine ⟨nI (d.struck w), nI (d.struck w), ?_, ?_, rfl, h⟩
        · simp (disch := omega) only [pX10_witness, u_let, u_jn, u_bd, u_gz0, u_gz1, u_gd, u_lit, u_leT, u_leF, u_ltT, u_ltF, u_eqT, u_eqF, nI_clamp, nI_add, u_m1, pk_sub, pk_mul, if_true, if_false, ite_true, ite_false, reduceIte, Nat.reduceEqDiff, u_neM, u_bN, u_bNe, e1, r5]
        · rcases (show d.struck w = 0 ∨ d.struck w = 1 by omega) with z | z
          · simp (disch := omega) only [pX11_witness, u_let, u_jn, u_bd, u_gz0, u_gz1, u_gd, u_lit, u_leT, u_leF, u_ltT, u_ltF, u_eqT, u_eqF, nI_clamp, nI_add, u_m1, pk_sub, pk_mul, if_true, if_false, ite_true, ite_false, reduceIte, Nat.reduceEqDiff, u_neM, u_bN, u_bNe, e2, s5, z]
          · simp (disch := omega) only [pX11_witness, u_let, u_jn, u_bd, u_gz0, u_gz1, u_gd, u_lit, u_leT, u_leF, u_ltT, u_ltF, u_eqT, u_eqF, nI_clamp, nI_add, u_m1, pk_sub, pk_mul, if_true, if_false, ite_true, ite_false, reduceIte, Nat.reduceEqDiff, u_neM, u_bN, u_bNe, e2, s5, z]
      · refine ⟨nI (bN bb), nI (bN bb), ?_, ?_, rfl, h⟩
        · cases bb with
          | true => simp (disch := omega) only [pX10_witness, pX10_oneIf, u_let, u_jn, u_bd, u_gz0, u_gz1, u_gd, u_lit, u_leT, u_leF, u_ltT, u_ltF, u_eqT, u_eqF, nI_clamp, nI_add, u_m1, pk_sub, pk_mul, if_true, if_false, ite_true, ite_false, reduceIte, Nat.reduceEqDiff, u_neM, u_bN, u_bNe, e1, hs, bN_t]
          | false => simp (disch := omega) only [pX10_witness, pX10_oneIf, u_let, u_jn, u_bd, u_gz0, u_gz1, u_gd, u_lit, u_leT, u_leF, u_ltT, u_ltF, u_eqT, u_eqF, nI_clamp, nI_add, u_m1, pk_sub, pk_mul, if_true, if_false, ite_true, ite_false, reduceIte, Nat.reduceEqDiff, u_neM, u_bN, u_bNe, e1, hs, bN_f]
        · cases bb with
          | true => simp (disch := omega) only [pX11_witness, u_let, u_jn, u_bd, u_gz0, u_gz1, u_gd, u_lit, u_leT, u_leF, u_ltT, u_ltF, u_eqT, u_eqF, nI_clamp, nI_add, u_m1, pk_sub, pk_mul, if_true, if_false, ite_true, ite_false, reduceIte, Nat.reduceEqDiff, u_neM, u_bN, u_bNe, e2, ms, bN_t]
          | false => simp (disch := omega) only [pX11_witness, u_let, u_jn, u_bd, u_gz0, u_gz1, u_gd, u_lit, u_leT, u_leF, u_ltT, u_ltF, u_eqT, u_eqF, nI_clamp, nI_add, u_m1, pk_sub, pk_mul, if_true, if_false, ite_true, ite_false, reduceIte, Nat.reduceEqDiff, u_neM, u_bN, u_bNe, e2, ms, bN_f]
theorem u_sub3 {a b : Nat} (ha : a < 1000) (hb : b < 1000) : ((nI a - nI 1) - nI b).toInt = (a : Int) - 1 - b := by
  rw [Int32.toInt_sub, pk_sub_toInt (by omega) (by omega), nI_toInt (by omega), Int.bmod_eq_of_le (by omega) (by omega)]
  rfl
theorem h_figure {c : CD} {d : SD} {os : Ob} (hc : OKC c) (hd : OKS c.S d) (h3 : CS c.S d os) {s i : Nat} (hs : s < c.S) (hi : i < 400) : pX6_figure os (nI s) (nI i) = some (nI (if i < d.day then d.dusk s (d.day - 1 - i) % 2 else 0)) := by
  have h6 := hc.1
  have bd := hd.1
  by_cases g : i < d.day
  · have e := h3.2.2.2.2.2 s hs (d.day - 1 - i) (by omega)
    have b := hd.2.2.2.2.2 s hs (d.day - 1 - i) (by omega)
    simp (disch := omega) only [pX6_figure, u_let, u_jn, u_bd, u_gz0, u_gz1, u_gd, u_lit, u_leT, u_leF, u_ltT, u_ltF, u_eqT, u_eqF, nI_clamp, nI_add, u_m1, pk_sub, pk_mul, if_true, if_false, ite_true, ite_false, reduceIte, Nat.reduceEqDiff, u_neM, u_bN, u_bNe, h3.1, e, u_and1, if_pos g]
  · have n : nI d.day - nI 1 - nI i < nI 0 := by
      rw [Int32.lt_iff_toInt_lt, u_sub3 (by omega) (by omega), nI_toInt (by omega)]
      omega
    have n' : (nI d.day - nI 1 - nI i < nI 0) = True := eq_true n
    unfold pX6_figure
    rw [h3.1]
    simp only [u_let, u_lit]
    simp only [n', if_true, if_neg g]
theorem ok_weight {x : Cst} {m : Ob} (a1 a2 : Int32) (h : RR x m) : ∃ (r : Int32) (u : Int32), pX10_weight x.z x.d x.t x.c x.w x.s x.e x.f x.h x.b x.i x.j x.p x.q a1 a2 = some r ∧ pX11_weight m a1 a2 = some u ∧ r = u ∧ RR x m := by
  have h' := h
  obtain ⟨c, l, d, ⟨a, b, e⟩, ⟨f1, f2, f3⟩, ⟨g1, g2, g3⟩, _⟩ := h'
  have h6 := a.1
  rcases u_ix a1 c.S (by omega) with q | ⟨s, hs, rfl⟩
  · refine ⟨-(nI 1000000001), -(nI 1000000001), ?_, ?_, rfl, h⟩
    · unfold pX10_weight; rw [h_suitF a f1 q, u_bd0]; rfl
    · unfold pX11_weight; rw [m_suitF a g1 q, u_bd0]; rfl
  · have e1 := h_suitT a f1 hs
    have e2 := m_suitT a g1 hs
    obtain ⟨p6, p7, p8⟩ := f3.2.2.2.2.1 s hs
    obtain ⟨q6, q7, q8⟩ := g3.2.2.2.2.1 s hs
    have m1 : (-(nI 1)).toInt = -1 := by decide
    rcases u_ix a2 400 (by omega) with q | ⟨j, hj, rfl⟩
    · have hin := bad_in q (by omega) (lo := 0) (hi := 399) (by decide) (by decide)
      by_cases z : a2 = -(nI 1)
      · subst z
        have t1 : (-(nI 1) < -(nI 1)) = False := by decide
        have t2 : (-(nI 1) < nI 400) = True := by decide
        refine ⟨nI (d.whole s), nI (d.whole s), ?_, ?_, rfl, h⟩
        · simp (disch := omega) only [pX10_weight, u_let, u_jn, u_bd, u_gz0, u_gz1, u_gd, u_lit, u_leT, u_leF, u_ltT, u_ltF, u_eqT, u_eqF, nI_clamp, nI_add, u_m1, pk_sub, pk_mul, if_true, if_false, ite_true, ite_false, reduceIte, Nat.reduceEqDiff, u_neM, u_bN, u_bNe, e1, t1, t2, p6]
        · simp (disch := omega) only [pX11_weight, u_let, u_jn, u_bd, u_gz0, u_gz1, u_gd, u_lit, u_leT, u_leF, u_ltT, u_ltF, u_eqT, u_eqF, nI_clamp, nI_add, u_m1, pk_sub, pk_mul, if_true, if_false, ite_true, ite_false, reduceIte, Nat.reduceEqDiff, u_neM, u_bN, u_bNe, e2, q6]
      · refine ⟨-(nI 1000000002), -(nI 1000000002), ?_, ?_, rfl, h⟩
        · by_cases y : a2 < -(nI 1)
          · simp (disch := omega) only [pX10_weight, u_let, u_jn, u_bd, u_gz0, u_gz1, u_gd, u_lit, u_leT, u_leF, u_ltT, u_ltF, u_eqT, u_eqF, nI_clamp, nI_add, u_m1, pk_sub, pk_mul, if_true, if_false, ite_true, ite_false, reduceIte, Nat.reduceEqDiff, u_neM, u_bN, u_bNe, e1, y]
          · have y2 : ¬ a2 < nI 400 := by
              rw [u_ltN (by omega)]
              rcases q with q | q
              · have v1 := u_neg q
                have v2 : ¬ a2.toInt < -1 := fun r => y (by rw [Int32.lt_iff_toInt_lt, m1]; exact r)
                exact absurd (Int32.toInt_inj.mp (by rw [m1]; omega)) z
              · have := u_big q (by omega); omega
            simp (disch := omega) only [pX10_weight, u_let, u_jn, u_bd, u_gz0, u_gz1, u_gd, u_lit, u_leT, u_leF, u_ltT, u_ltF, u_eqT, u_eqF, nI_clamp, nI_add, u_m1, pk_sub, pk_mul, if_true, if_false, ite_true, ite_false, reduceIte, Nat.reduceEqDiff, u_neM, u_bN, u_bNe, e1, y, y2]
        · simp (disch := omega) only [pX11_weight, u_let, u_jn, u_bd, u_gz0, u_gz1, u_gd, u_lit, u_leT, u_leF, u_ltT, u_ltF, u_eqT, u_eqF, nI_clamp, nI_add, u_m1, pk_sub, pk_mul, if_true, if_false, ite_true, ite_false, reduceIte, Nat.reduceEqDiff, u_neM, u_bN, u_bNe, e2, z, hin]
    · have t1 : (nI j < -(nI 1)) = False := eq_false (by rw [Int32.lt_iff_toInt_lt, m1, nI_toInt (by omega)]; omega)
      have hin := good_in (j := j) (by omega) (lo := 0) (hi := 399) (by have z : (0 : Int64).toInt = 0 := by decide
                                                                        rw [z]; omega) (by have z : (399 : Int64).toInt = 399 := by decide
                                                                                           rw [z]; omega)
      have hf := h_figure a e f3 hs hj
      have mf := g3.2.2.2.2.2.2 s hs j hj
      refine ⟨_, nI (if j < d.day then d.dusk s (d.day - 1 - j) % 2 else 0), ?_, ?_, rfl, h⟩
      · simp (disch := omega) only [pX10_weight, u_let, u_jn, u_bd, u_gz0, u_gz1, u_gd, u_lit, u_leT, u_leF, u_ltT, u_ltF, u_eqT, u_eqF, nI_clamp, nI_add, u_m1, pk_sub, pk_mul, if_true, if_false, ite_true, ite_false, reduceIte, Nat.reduceEqDiff, u_neM, u_bN, u_bNe, e1, t1, hf]
      · simp (disch := omega) only [pX11_weight, u_let, u_jn, u_bd, u_gz0, u_gz1, u_gd, u_lit, u_leT, u_leF, u_ltT, u_ltF, u_eqT, u_eqF, nI_clamp, nI_add, u_m1, pk_sub, pk_mul, if_true, if_false, ite_true, ite_false, reduceIte, Nat.reduceEqDiff, u_neM, u_bN, u_bNe, e2, hin, mf]
theorem ok_say {x : Cst} {m : Ob} (a1 : Int32) (h : RR x m) : ∃ (r : Int32 × Ob) (u : Int32 × Ob), pX10_say x.z x.d x.t x.c x.w x.s x.e x.f x.h x.b x.i x.j x.p x.q a1 = some r ∧ pX11_say m a1 = some u ∧ r.1 = u.1 ∧ RR (x.z, x.d, x.t, x.c, x.w, r.2, x.e, x.f, x.h, x.b, x.i, x.j, x.p, x.q) u.2 := by
  have h' := h
  obtain ⟨c, l, d, hR⟩ := h'
  have hR' := hR
  obtain ⟨⟨a, b, e⟩, ⟨f1, f2, f3⟩, ⟨g1, g2, g3⟩, _⟩ := hR'
  have h6 := a.1
  have hW := a.2.1
  rcases u_ix a1 c.W (by omega) with q | ⟨w, hw, rfl⟩
  · refine ⟨(-(nI 1000000001), x.s), (-(nI 1000000001), m), ?_, ?_, rfl, h⟩
    · unfold pX10_say; rw [h_witF a f1 q, u_bd0]; rfl
    · unfold pX11_say; rw [m_witF a g1 q, u_bd0]; rfl
  · have e1 := h_witT a f1 hw
    have e2 := m_witT a g1 hw
    have hs := h_maySpeak a b e f1 f2 f3 hw
    have ms := m_mayNow a b e g1 g2 g3 hw
    cases z : (may c l d w d.day && decide (d.spk < talk l d.day)) with
    | false =>
      rw [z] at hs ms
      refine ⟨(-(nI 1000000003), x.s), (-(nI 1000000003), m), ?_, ?_, rfl, h⟩
      · simp (disch := omega) only [pX10_say, u_let, u_jn, u_bd, u_gz0, u_gz1, u_gd, u_lit, u_leT, u_leF, u_ltT, u_ltF, u_eqT, u_eqF, nI_clamp, nI_add, u_m1, pk_sub, pk_mul, if_true, if_false, ite_true, ite_false, reduceIte, Nat.reduceEqDiff, u_neM, u_bN, u_bNe, e1, hs]
      · simp (disch := omega) only [pX11_say, u_let, u_jn, u_bd, u_gz0, u_gz1, u_gd, u_lit, u_leT, u_leF, u_ltT, u_ltF, u_eqT, u_eqF, nI_clamp, nI_add, u_m1, pk_sub, pk_mul, if_true, if_false, ite_true, ite_false, reduceIte, Nat.reduceEqDiff, u_neM, u_bN, u_bNe, e2, ms]
    | true =>
      rw [z] at hs ms
      have z1 := (Bool.and_eq_true _ _ ▸ z : _ ∧ _)
      have z2 := of_decide_eq_true z1.2
      have bt := lval_talk b d.day
      have z3 : mayM c l d w d.day = true := by
        have := z1.1
        unfold may at this
        exact (Bool.and_eq_true _ _ ▸ this : _ ∧ _).1
      obtain ⟨o', r1, r2, r3⟩ := h_hear a b e f1 f2 f3 hw z3 (by omega)
      obtain ⟨m', t1, t2, t3⟩ := m_hear a b e g1 g2 g3 hw z3 (by omega)
      have g1' := MC_frm g1 t3 (by decide)
      have e5 := (g1'.2.2.2 w hw).1
      have b5 := (a.2.2.2.1 w hw).1
      have e15 := (t2.2.2.2.2.1 (c.suit w) b5).2.1
      refine ⟨(nI ((hearS c l d w).how (c.suit w)), o'), (nI ((hearS c l d w).how (c.suit w)), m'), ?_, ?_, rfl, c, l, hearS c l d w, RC_frm hR t3 (by decide) r3 t2 r2⟩
      · simp (disch := omega) only [pX10_say, u_let, u_jn, u_bd, u_gz0, u_gz1, u_gd, u_lit, u_leT, u_leF, u_ltT, u_ltF, u_eqT, u_eqF, nI_clamp, nI_add, u_m1, pk_sub, pk_mul, if_true, if_false, ite_true, ite_false, reduceIte, Nat.reduceEqDiff, u_neM, u_bN, u_bNe, e1, hs, r1, reduceCtorEq]
      · simp (disch := omega) only [pX11_say, u_let, u_jn, u_bd, u_gz0, u_gz1, u_gd, u_lit, u_leT, u_leF, u_ltT, u_ltF, u_eqT, u_eqF, nI_clamp, nI_add, u_m1, pk_sub, pk_mul, if_true, if_false, ite_true, ite_false, reduceIte, Nat.reduceEqDiff, u_neM, u_bN, u_bNe, e2, ms, t1, e5, e15, reduceCtorEq]
