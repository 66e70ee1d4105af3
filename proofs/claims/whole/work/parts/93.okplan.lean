theorem few_ne {c : CD} {l : LD} {d : SD} {s k : Nat} (hn : cnt c s c.W ≤ 6) (h0 : isM (bst (cnt c s c.W) (ab c l d s) (fw c l d s) (ro l d) (k + 1) 0) (PP (cnt c s c.W) (ab c l d s) (fw c l d s) (ro l d) (k + 1) 0)) (hs : sat c l d s k) : fewT (enT (bst (cnt c s c.W) (ab c l d s) (fw c l d s) (ro l d) (k + 1)) (3 * c.need s * 2 ^ k) (d.whole s)) (2 ^ cnt c s c.W) ≠ 0 := by
  have p2 := p2_le hn
  have z := h0.1 0 (PP_zero _ _ _ _ _)
  obtain ⟨T, t1, t2, t3⟩ := gm_at (e := bst (cnt c s c.W) (ab c l d s) (fw c l d s) (ro l d) (k + 1)) (by omega) (2 ^ cnt c s c.W) (by omega)
  refine fewT_ex _ _ T t1 ?_
  have hs' : 3 * c.need s * 2 ^ k ≤ d.whole s + gm (bst (cnt c s c.W) (ab c l d s) (fw c l d s) (ro l d) (k + 1)) (2 ^ cnt c s c.W) := hs
  unfold enT
  rw [decide_eq_true t2, Bool.true_and]
  exact decide_eq_true (by omega)
theorem h_planned {c : CD} {s w i0 : Nat} {r2 : Ob} (hw : w < 12) (hn : cnt c s c.W ≤ 6) (hi : i0 < cnt c s c.W) (ho : own c s c.W i0 = w) (h8 : gi r2 8 = nI (cnt c s c.W)) (h1 : ∀ i, i < cnt c s c.W → ga r2 1 i = nI (own c s c.W i)) : lX1_plannedDayOf_12 (nI w) r2 zfu 0 = some (ga r2 7 i0, r2) := by
  refine u_loop (fun f q => lX1_plannedDayOf_12 (nI w) r2 f (nI q)) i0 _ (fun f q hq => ?_) (fun f => ?_) zfu 0 (Nat.zero_le _) (u_zfu (by omega))
  · have hlt := own_mono c s c.W q i0 hq hi
    show lX1_plannedDayOf_12 (nI w) r2 (f + 1) (nI q) = _
    rw [lX1_plannedDayOf_12, h8, if_neg (nI_ge (by omega) (by omega)), u_gd (by omega), nI_clamp (n := q) (by omega), h1 q (by omega), if_neg (fun r => by
      have := (nI_eq (a := own c s c.W q) (b := w) (by omega) (by omega)).mp r
      omega), u_let, show nI q + (1 : Int32) = nI (q + 1) from nI_add _ _]
  · show lX1_plannedDayOf_12 (nI w) r2 (f + 1) (nI i0) = _
    rw [lX1_plannedDayOf_12, h8, if_neg (nI_ge hi (by omega)), u_gd (by omega), nI_clamp (n := i0) (by omega), h1 i0 hi, ho, if_pos rfl, u_gd (by omega)]
theorem m_planned {c : CD} {l : LD} {d : SD} {s w i0 F : Nat} {st : Nat → Nat} {m : Ob} (hw : w < 12) (hn : cnt c s c.W ≤ 6) (hF : F < 64) (hi : i0 < cnt c s c.W) (ho : own c s c.W i0 = w) (hW : c.W ≤ 12) (h : MP c l d s st m) (hz : F.testBit i0 = false → st i0 = 0) : lX11_plan_27 (nI w) (nI F, m) zfu (-1) 0 = some (nO (st i0), m) := by
  have h40 := h.2.2.2.1
  have h39 := h.2.2.2.2.1
  have h41 := (h.2.2.2.2.2 i0 (by omega)).1
  refine u_loop (fun f q => lX11_plan_27 (nI w) (nI F, m) f (if i0 < q then nO (st i0) else -1) (nI q)) (cnt c s c.W) _ (fun f q hq => ?_) (fun f => ?_) zfu 0 (Nat.zero_le _) (u_zfu (by omega))
  · obtain ⟨o1, o2⟩ := own_at c s c.W q hq
    show lX11_plan_27 (nI w) (nI F, m) (f + 1) (if i0 < q then nO (st i0) else -1) (nI q) = _
    rw [lX11_plan_27]
    dsimp only
    rw [h40, if_neg (nI_ge hq (by omega)), if_neg (show ¬ nI F < (0 : Int32) from nI_nlt (b := 0) (Nat.zero_le _) (by omega)), u_gd (by omega), u_jn, u_jn, nI_clamp (n := q) (by omega), h39 q hq]
    by_cases z : q = i0
    · subst z
      rw [ho, if_pos rfl, m_has (by omega) (by omega), u_bd, if_neg (Nat.lt_irrefl q), if_pos (show q < q + 1 by omega)]
      cases y : F.testBit q with
      | false =>
        rw [if_pos (show nI (bN false) = (0 : Int32) by decide)]
        dsimp only
        rw [u_let, show nI q + (1 : Int32) = nI (q + 1) from nI_add _ _, hz y]
        rfl
      | true =>
        rw [if_neg (show ¬ nI (bN true) = (0 : Int32) by decide), u_gd (by omega), h41]
        dsimp only
        rw [u_let, show nI q + (1 : Int32) = nI (q + 1) from nI_add _ _]
    · have ne : own c s c.W q ≠ w := fun r => by
        rcases Nat.lt_trichotomy q i0 with y | y | y
        · have := own_mono c s c.W q i0 y hi; omega
        · exact z y
        · have := own_mono c s c.W i0 q y hq; omega
      rw [if_neg (fun r => ne ((nI_eq (a := own c s c.W q) (b := w) (by omega) (by omega)).mp r))]
      dsimp only
      rw [u_let, show nI q + (1 : Int32) = nI (q + 1) from nI_add _ _]
      by_cases y : i0 < q
      · rw [if_pos y, if_pos (show i0 < q + 1 by omega)]
      · rw [if_neg y, if_neg (show ¬ i0 < q + 1 by omega)]
  · show lX11_plan_27 (nI w) (nI F, m) (f + 1) (if i0 < cnt c s c.W then nO (st i0) else -1) (nI (cnt c s c.W)) = _
    rw [lX11_plan_27]
    dsimp only
    rw [h40, if_pos (nI_le (Nat.le_refl _) (by omega)), if_pos hi]
theorem m_plan0 (w : Nat) (m : Ob) : lX11_plan_27 (nI w) (-1, m) zfu (-1) 0 = some (-1, m) := by
  obtain ⟨f, hf⟩ : ∃ f, zfu = f + 1 := ⟨zfu - 1, by have := u_zfu (n := 0) (by omega); omega⟩
  rw [hf, lX11_plan_27]
  dsimp only
  by_cases z : gi m 40 ≤ (0 : Int32)
  · rw [if_pos z]
  · rw [if_neg z, if_pos (show (-1 : Int32) < 0 by decide)]
theorem ok_plan {x : Cst} {m : Ob} (a1 : Int32) (h : RR x m) : ∃ (r : Int32 × Ob) (u : Int32 × Ob), pX10_plan x.z x.d x.t x.c x.w x.s x.e x.f x.h x.b x.i x.j x.p x.q a1 = some r ∧ pX11_plan m a1 = some u ∧ r.1 = u.1 ∧ RR (x.z, x.d, x.t, x.c, x.w, x.s, r.2, x.f, x.h, x.b, x.i, x.j, x.p, x.q) u.2 := by
  have h' := h
  obtain ⟨c, l, d, hR⟩ := h'
  have hR' := hR
  obtain ⟨⟨a, b, e⟩, ⟨f1, f2, f3⟩, ⟨g1, g2, g3⟩, _⟩ := hR'
  have h6 := a.1
  have hW := a.2.1
  have bd := e.1
  rcases u_ix a1 c.W (by omega) with q | ⟨w, hw, rfl⟩
  · refine ⟨(-(nI 1000000001), x.e), (-(nI 1000000001), m), ?_, ?_, rfl, h⟩
    · unfold pX10_plan; rw [h_witF a f1 q, u_bd0]; rfl
    · unfold pX11_plan; rw [m_witF a g1 q, u_bd0]; rfl
  · have e1 := h_witT a f1 hw
    have e2 := m_witT a g1 hw
    have hs := (a.2.2.2.1 w hw).1
    have s5 := (f1.2.2.2 w hw).1
    have t5 := (g1.2.2.2 w hw).1
    generalize hsw : c.suit w = s at *
    have hn := a.2.2.2.2 s hs
    have p2 := p2_le hn
    have hK := lastK_le d
    have e3 := h_goesT (ow := x.w) a f1 f3 e hs
    have w15 := (g3.2.2.2.2.1 s hs).2.1
    have bh := (e.2.2.2.2.1 s hs).2.1
    by_cases z : d.how s = 0
    · obtain ⟨r, o', r1, r2, r3⟩ := h_soon (oe := x.e) a b e f1 f2 f3 hs z
      obtain ⟨r', m', s1, s2, s3⟩ := m_soon a b e hs g1 g2 g3 z
      have := Soon_un r3 s2
      subst this
      rcases r3 with ⟨k, k1, k2, k3, k4, k5⟩ | ⟨k1, k2⟩
      · rcases s2 with ⟨j, j1, j2, j3, j4, j5, j6⟩ | ⟨j1, _⟩
        · have kj : k = j := by
            have := (nI_eq (a := k) (b := j) (by omega) (by omega)).mp (k4 ▸ j4)
            exact this
          subst kj
          subst k4
          obtain ⟨i0, i1, i2⟩ := own_of c s c.W w hw hsw
          have hb0 := (k5 0 (Nat.zero_and _)).2
          have hne := few_ne hn hb0 k2
          have hfe := h_fewest (oc := x.c) (ow := x.w) (os := x.s) a b e hs (k := k) (by omega) r2 k5 hne
          obtain ⟨m1, m2, t1, t2, t3, t4⟩ := m_ready (l := l) (d := d) a j5.1 j5.2.1 j5.2.2.1 hs
          obtain ⟨m3, t6, t7, t8⟩ := m_findMosts a b e hs (k := k) (by omega) m2 t3
          rw [abS_0] at t7
          have hM3 := MP_frm t3 t8
          have mfe := m_fewest (r1 := (nI k, m')) rfl a b e hs (k := k) (by omega) hM3 t7
          have few1 := fewT_en (enT (bst (cnt c s c.W) (ab c l d s) (fw c l d s) (ro l d) (k + 1)) (3 * c.need s * 2 ^ k) (d.whole s)) _ hne
          have few2 := fewT_le (enT (bst (cnt c s c.W) (ab c l d s) (fw c l d s) (ro l d) (k + 1)) (3 * c.need s * 2 ^ k) (d.whole s)) (2 ^ cnt c s c.W)
          generalize hFF : fewT (enT (bst (cnt c s c.W) (ab c l d s) (fw c l d s) (ro l d) (k + 1)) (3 * c.need s * 2 ^ k) (d.whole s)) (2 ^ cnt c s c.W) = FF at *
          obtain ⟨F, rfl⟩ : ∃ F, FF = F + 1 := ⟨FF - 1, by omega⟩
          rw [Nat.add_sub_cancel] at hfe few1
          rw [nO_s] at mfe
          have hF : F < 64 := by omega
          have hEN : EN (cnt c s c.W) k F (ab c l d s) (fw c l d s) (ro l d) (fun _ => 0) (3 * c.need s * 2 ^ k) (d.whole s) := by
            have sf := isM_en (G := 3 * c.need s * 2 ^ k) (W := d.whole s) (t7 F hF).2
            unfold enT at few1
            rw [Bool.and_eq_true, decide_eq_true_iff, decide_eq_true_iff] at few1
            have := sf.mp few1
            unfold EN
            rw [← abS_sT, abS_0]
            exact this
          obtain ⟨o2, m4, st', u1, u2, u3, u4, u5, u6, u7⟩ := p_days (oc := x.c) (ow := x.w) (os := x.s) (r1 := (nI k, m')) rfl a b e hs k1 hF (cnt c s c.W) 0 zfu zfu o' m3 (fun _ => 0) (ro l d) F 0 (by omega) (u_zfu (by omega)) (u_zfu (by omega)) FIX_0 hEN r2.1 r2.2.2.2.1 r2.2.2.2.2 (Nat.zero_le _) (fun q hq => absurd hq (Nat.not_lt_zero q)) (ro_le b d) hM3
          have pl := h_planned (w := w) (r2 := o2) (by omega) hn i1 i2 ((u6 8 (by decide)).1.trans r2.1.1) (fun i hi => by rw [(u6 1 (by decide)).2.2.1]; exact r2.2.2.1 i hi)
          have ml := m_planned (w := w) (F := F) (m := m4) (by omega) hn hF i1 i2 hW u4 (u5 i0)
          have fr : frm [39, 40, 41, 42, 43] m m4 := frm_tr s3 (frm_tr (frm_mono t4 (by decide)) (frm_tr (frm_mono t8 (by decide)) (frm_mono u7 (by decide))))
          refine ⟨(nO (st' i0), o2), (nO (st' i0), m4), ?_, ?_, rfl, c, l, d, RC_frm hR fr (by decide) e (MS_sub g3 fr (by decide)) f3⟩
          · have nk : ¬ nI k = (-1 : Int32) := fun r => by
              have := nO_inj (a := k + 1) (b := 0) (by omega) (by omega) (by rw [nO_s]; exact r)
              omega
            have u1' : pX1_setDays o' x.c x.w x.s (nI k) (nI F) = some o2 := u1
            have pd : pX1_plannedDayOf o' x.c x.w x.s (nI w) (nI k) = some (nO (st' i0), o2) := by
              unfold pX1_plannedDayOf
              rw [hfe, u_bd, u1', u_bd, pl, u3 i0 i1]
            unfold pX10_plan
            rw [e1, u_bd1, u_gd (by omega), nI_clamp (n := w) (by omega), s5, r1, u_bd]
            dsimp only
            rw [if_neg nk, pd, u_bd]
          · have fp : pX11_findPlan m (nI s) = some (nI F, m4) := by
              unfold pX11_findPlan
              rw [s1, u_bd]
              dsimp only
              rw [if_pos (show (0 : Int32) ≤ nI k from nI_le (a := 0) (Nat.zero_le _) (by omega)), t1, u_bd, t2, u_bd, t6, u_bd, u_jn, mfe]
              exact u2
            unfold pX11_plan
            rw [e2, u_bd1, u_gd (by omega), nI_clamp (n := w) (by omega), t5, fp, u_bd]
            exact ml
        · exact absurd k2 (j1 k k1)
      · subst k2
        refine ⟨(-1, o'), (-1, m'), ?_, ?_, rfl, c, l, d, RC_frm hR s3 (by decide) e (MS_sub g3 s3 (by decide)) f3⟩
        · unfold pX10_plan
          rw [e1, u_bd1, u_gd (by omega), nI_clamp (n := w) (by omega), s5, r1, u_bd]
          dsimp only
          rw [if_pos rfl]
        · have fp : pX11_findPlan m (nI s) = some (-1, m') := by
            unfold pX11_findPlan
            rw [s1, u_bd]
            dsimp only
            rw [if_neg (show ¬ (0 : Int32) ≤ -1 by decide)]
          unfold pX11_plan
          rw [e2, u_bd1, u_gd (by omega), nI_clamp (n := w) (by omega), t5, fp, u_bd]
          exact m_plan0 w m'
    · refine ⟨(-1, x.e), (-1, m), ?_, ?_, rfl, h⟩
      · unfold pX10_plan pX1_soonestOf
        rw [e1, u_bd1, u_gd (by omega), nI_clamp (n := w) (by omega), s5, e3, decide_eq_false z]
        rfl
      · have so : pX11_soonestOf m (nI s) = some (-1, m) := by
          unfold pX11_soonestOf
          rw [u_gd (by omega), nI_clamp (n := s) (by omega), w15, if_neg (show ¬ nI (d.how s) = (0 : Int32) from nI_ne0 (by omega) (by omega))]
        have fp : pX11_findPlan m (nI s) = some (-1, m) := by
          unfold pX11_findPlan
          rw [so, u_bd]
          dsimp only
          rw [if_neg (show ¬ (0 : Int32) ≤ -1 by decide)]
        unfold pX11_plan
        rw [e2, u_bd1, u_gd (by omega), nI_clamp (n := w) (by omega), t5, fp, u_bd]
        exact m_plan0 w m
