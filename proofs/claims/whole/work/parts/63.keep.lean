/-! the reference's images -/
/-- image i's places in the three rows; all else as it was -/
def outI (i : Nat) (m m' : Ob) : Prop := (∀ p, p < 60 * i ∨ 60 * i + 60 ≤ p → ga m' 49 p = ga m 49 p) ∧ (∀ p, p < 2400 * i ∨ 2400 * i + 2400 ≤ p → ga m' 50 p = ga m 50 p ∧ ga m' 51 p = ga m 51 p)
theorem m_keep1 {i : Nat} (hi : i < 2) {S : Nat} {d : SD} {m : Ob} (hd : OKS S d) (h : MS S d m) (m0 : Ob) (f0 : frm [49] m m0) : ∃ m', (∀ K : Ob → Option (Int32 × Ob), lX11_keep_54 (nI (60 * i)) K zfu 0 m0 = K m') ∧ (∀ w, w < 12 → ga m' 49 (60 * i + 3 + w) = ga m 10 w ∧ ga m' 49 (60 * i + 15 + w) = nI (d.times w) ∧ ga m' 49 (60 * i + 27 + w) = nI (d.struck w)) ∧ (∀ p, (p < 60 * i + 3 ∨ 60 * i + 39 ≤ p) → ga m' 49 p = ga m0 49 p) ∧ frm [49] m m' := by
  refine u_loopP (fun f k o => (fun K : Ob → Option (Int32 × Ob) => lX11_keep_54 (nI (60 * i)) K f (nI k) o)) (fun n o => (∀ w, w < n → ga o 49 (60 * i + 3 + w) = ga m 10 w ∧ ga o 49 (60 * i + 15 + w) = nI (d.times w) ∧ ga o 49 (60 * i + 27 + w) = nI (d.struck w)) ∧ (∀ p, (p < 60 * i + 3 ∨ 60 * i + 39 ≤ p) → ga o 49 p = ga m0 49 p) ∧ frm [49] m o) (fun r => ∃ m', (∀ K : Ob → Option (Int32 × Ob), r K = K m') ∧ (∀ w, w < 12 → ga m' 49 (60 * i + 3 + w) = ga m 10 w ∧ ga m' 49 (60 * i + 15 + w) = nI (d.times w) ∧ ga m' 49 (60 * i + 27 + w) = nI (d.struck w)) ∧ (∀ p, (p < 60 * i + 3 ∨ 60 * i + 39 ≤ p) → ga m' 49 p = ga m0 49 p) ∧ frm [49] m m') 12 (fun f k o hk hP => ?_) (fun f o hP => ?_) zfu 0 m0 (by omega) (u_zfu (by omega)) ⟨fun w hw => absurd hw (Nat.not_lt_zero w), fun p _ => rfl, f0⟩
  · obtain ⟨p1, p2, p3⟩ := hP
    obtain ⟨e10, e11, e12⟩ := h.2.2.2.1 k hk
    have b12 := (hd.2.2.2.1 k hk).2.2.2
    have g10 : ga o 10 k = ga m 10 k := by rw [(p3 10 (by decide)).2.2.1]
    have g11 : ga o 11 k = nI (d.times k) := by rw [(p3 11 (by decide)).2.2.1]; exact e11
    have g12 : ga o 12 k = nI (d.struck k) := by rw [(p3 12 (by decide)).2.2.1]; exact e12
    refine ⟨sa o 49 (upd (upd (upd (ga o 49) (60 * i + 3 + k) (ga m 10 k)) (60 * i + 15 + k) (nI (d.times k))) (60 * i + 27 + k) (nI (d.struck k))), ⟨fun w hw => ?_, fun p hp => ?_, frm_sa p3 (by decide) _⟩, ?_⟩
    · simp only [ga_sa, if_true, upd_ap]
      by_cases q : w = k
      · subst q
        rw [if_neg (show ¬ 60 * i + 3 + w = 60 * i + 27 + w by omega), if_neg (show ¬ 60 * i + 3 + w = 60 * i + 15 + w by omega), if_pos rfl, if_neg (show ¬ 60 * i + 15 + w = 60 * i + 27 + w by omega), if_pos rfl, if_pos rfl]
        exact ⟨rfl, rfl, rfl⟩
      · rw [if_neg (show ¬ 60 * i + 3 + w = 60 * i + 27 + k by omega), if_neg (show ¬ 60 * i + 3 + w = 60 * i + 15 + k by omega), if_neg (show ¬ 60 * i + 3 + w = 60 * i + 3 + k by omega), if_neg (show ¬ 60 * i + 15 + w = 60 * i + 27 + k by omega), if_neg (show ¬ 60 * i + 15 + w = 60 * i + 15 + k by omega), if_neg (show ¬ 60 * i + 15 + w = 60 * i + 3 + k by omega), if_neg (show ¬ 60 * i + 27 + w = 60 * i + 27 + k by omega), if_neg (show ¬ 60 * i + 27 + w = 60 * i + 15 + k by omega), if_neg (show ¬ 60 * i + 27 + w = 60 * i + 3 + k by omega)]
        exact p1 w (by omega)
    · simp only [ga_sa, if_true, upd_ap]
      rw [if_neg (by omega), if_neg (by omega), if_neg (by omega)]
      exact p2 p hp
    · funext K
      rcases (show d.struck k = 0 ∨ d.struck k = 1 by omega) with z | z
      · simp (disch := omega) only [lX11_keep_54, u_let, u_jn, u_bd, u_gz0, u_gz1, u_gd, u_lit, u_leT, u_leF, u_ltT, u_ltF, u_eqT, u_eqF, nI_clamp, nI_add, u_m1, pk_sub, pk_mul, if_true, if_false, ite_true, ite_false, reduceIte, Nat.reduceEqDiff, u_neM, u_bN, u_bNe, ga_sa, Nat.reduceEqDiff, sa_sa, g10, g11, g12, z]
      · simp (disch := omega) only [lX11_keep_54, u_let, u_jn, u_bd, u_gz0, u_gz1, u_gd, u_lit, u_leT, u_leF, u_ltT, u_ltF, u_eqT, u_eqF, nI_clamp, nI_add, u_m1, pk_sub, pk_mul, if_true, if_false, ite_true, ite_false, reduceIte, Nat.reduceEqDiff, u_neM, u_bN, u_bNe, ga_sa, Nat.reduceEqDiff, sa_sa, g10, g11, g12, z]
  · refine ⟨o, fun K => ?_, hP⟩
    simp (disch := omega) only [lX11_keep_54, u_let, u_jn, u_bd, u_gz0, u_gz1, u_gd, u_lit, u_leT, u_leF, u_ltT, u_ltF, u_eqT, u_eqF, nI_clamp, nI_add, u_m1, pk_sub, pk_mul, if_true, if_false, ite_true, ite_false, reduceIte, Nat.reduceEqDiff, u_neM, u_bN, u_bNe]
theorem m_keep2 {i : Nat} (hi : i < 2) {m : Ob} (m0 : Ob) (f0 : frm [49] m m0) : ∃ m', (∀ K : Ob → Option (Int32 × Ob), lX11_keep_126 (nI (60 * i)) K zfu 0 m0 = K m') ∧ (∀ w, w < 6 → ga m' 49 (60 * i + 51 + w) = ga m 17 w ∧ ga m' 49 (60 * i + 39 + w) = ga m 15 w ∧ ga m' 49 (60 * i + 45 + w) = ga m 16 w) ∧ (∀ p, (p < 60 * i + 39 ∨ 60 * i + 57 ≤ p) → ga m' 49 p = ga m0 49 p) ∧ frm [49] m m' := by
  refine u_loopP (fun f k o => (fun K : Ob → Option (Int32 × Ob) => lX11_keep_126 (nI (60 * i)) K f (nI k) o)) (fun n o => (∀ w, w < n → ga o 49 (60 * i + 51 + w) = ga m 17 w ∧ ga o 49 (60 * i + 39 + w) = ga m 15 w ∧ ga o 49 (60 * i + 45 + w) = ga m 16 w) ∧ (∀ p, (p < 60 * i + 39 ∨ 60 * i + 57 ≤ p) → ga o 49 p = ga m0 49 p) ∧ frm [49] m o) (fun r => ∃ m', (∀ K : Ob → Option (Int32 × Ob), r K = K m') ∧ (∀ w, w < 6 → ga m' 49 (60 * i + 51 + w) = ga m 17 w ∧ ga m' 49 (60 * i + 39 + w) = ga m 15 w ∧ ga m' 49 (60 * i + 45 + w) = ga m 16 w) ∧ (∀ p, (p < 60 * i + 39 ∨ 60 * i + 57 ≤ p) → ga m' 49 p = ga m0 49 p) ∧ frm [49] m m') 6 (fun f k o hk hP => ?_) (fun f o hP => ?_) zfu 0 m0 (by omega) (u_zfu (by omega)) ⟨fun w hw => absurd hw (Nat.not_lt_zero w), fun p _ => rfl, f0⟩
  · obtain ⟨p1, p2, p3⟩ := hP
    have g15 : ga o 15 = ga m 15 := (p3 15 (by decide)).2.2.1
    have g16 : ga o 16 = ga m 16 := (p3 16 (by decide)).2.2.1
    have g17 : ga o 17 = ga m 17 := (p3 17 (by decide)).2.2.1
    refine ⟨sa o 49 (upd (upd (upd (ga o 49) (60 * i + 39 + k) (ga m 15 k)) (60 * i + 45 + k) (ga m 16 k)) (60 * i + 51 + k) (ga m 17 k)), ⟨fun w hw => ?_, fun p hp => ?_, frm_sa p3 (by decide) _⟩, ?_⟩
    · simp only [ga_sa, if_true, upd_ap]
      by_cases q : w = k
      · subst q
        rw [if_neg (show ¬ 60 * i + 39 + w = 60 * i + 51 + w by omega), if_neg (show ¬ 60 * i + 39 + w = 60 * i + 45 + w by omega), if_pos rfl, if_neg (show ¬ 60 * i + 45 + w = 60 * i + 51 + w by omega), if_pos rfl, if_pos rfl]
        exact ⟨rfl, rfl, rfl⟩
      · rw [if_neg (show ¬ 60 * i + 51 + w = 60 * i + 51 + k by omega), if_neg (show ¬ 60 * i + 51 + w = 60 * i + 45 + k by omega), if_neg (show ¬ 60 * i + 51 + w = 60 * i + 39 + k by omega), if_neg (show ¬ 60 * i + 39 + w = 60 * i + 51 + k by omega), if_neg (show ¬ 60 * i + 39 + w = 60 * i + 45 + k by omega), if_neg (show ¬ 60 * i + 39 + w = 60 * i + 39 + k by omega), if_neg (show ¬ 60 * i + 45 + w = 60 * i + 51 + k by omega), if_neg (show ¬ 60 * i + 45 + w = 60 * i + 45 + k by omega), if_neg (show ¬ 60 * i + 45 + w = 60 * i + 39 + k by omega)]
        exact p1 w (by omega)
    · simp only [ga_sa, if_true, upd_ap]
      rw [if_neg (by omega), if_neg (by omega), if_neg (by omega)]
      exact p2 p hp
    · funext K
      simp (disch := omega) only [lX11_keep_126, u_let, u_jn, u_bd, u_gz0, u_gz1, u_gd, u_lit, u_leT, u_leF, u_ltT, u_ltF, u_eqT, u_eqF, nI_clamp, nI_add, u_m1, pk_sub, pk_mul, if_true, if_false, ite_true, ite_false, reduceIte, Nat.reduceEqDiff, u_neM, u_bN, u_bNe, ga_sa, Nat.reduceEqDiff, sa_sa, g15, g16, g17]
  · refine ⟨o, fun K => ?_, hP⟩
    simp (disch := omega) only [lX11_keep_126, u_let, u_jn, u_bd, u_gz0, u_gz1, u_gd, u_lit, u_leT, u_leF, u_ltT, u_ltF, u_eqT, u_eqF, nI_clamp, nI_add, u_m1, pk_sub, pk_mul, if_true, if_false, ite_true, ite_false, reduceIte, Nat.reduceEqDiff, u_neM, u_bN, u_bNe]
theorem m_keep3 {i : Nat} (hi : i < 2) {m : Ob} (m0 : Ob) (f0 : frm [49, 50, 51] m m0) : ∃ m', (∀ K : Ob → Option (Int32 × Ob), lX11_keep_191 (nI i) K zfu 0 m0 = K m') ∧ (∀ p, p < 2400 → ga m' 50 (2400 * i + p) = ga m 18 p ∧ ga m' 51 (2400 * i + p) = ga m 19 p) ∧ (∀ p, (p < 2400 * i ∨ 2400 * i + 2400 ≤ p) → ga m' 50 p = ga m0 50 p ∧ ga m' 51 p = ga m0 51 p) ∧ frm [50, 51] m0 m' := by
  refine u_loopP (fun f k o => (fun K : Ob → Option (Int32 × Ob) => lX11_keep_191 (nI i) K f (nI k) o)) (fun n o => (∀ p, p < n → ga o 50 (2400 * i + p) = ga m 18 p ∧ ga o 51 (2400 * i + p) = ga m 19 p) ∧ (∀ p, (p < 2400 * i ∨ 2400 * i + 2400 ≤ p) → ga o 50 p = ga m0 50 p ∧ ga o 51 p = ga m0 51 p) ∧ frm [50, 51] m0 o) (fun r => ∃ m', (∀ K : Ob → Option (Int32 × Ob), r K = K m') ∧ (∀ p, p < 2400 → ga m' 50 (2400 * i + p) = ga m 18 p ∧ ga m' 51 (2400 * i + p) = ga m 19 p) ∧ (∀ p, (p < 2400 * i ∨ 2400 * i + 2400 ≤ p) → ga m' 50 p = ga m0 50 p ∧ ga m' 51 p = ga m0 51 p) ∧ frm [50, 51] m0 m') 2400 (fun f k o hk hP => ?_) (fun f o hP => ?_) zfu 0 m0 (by omega) (u_zfu (by omega)) ⟨fun w hw => absurd hw (Nat.not_lt_zero w), fun p _ => ⟨rfl, rfl⟩, frm_rf _ _⟩
  · obtain ⟨p1, p2, p3⟩ := hP
    have g18 : ga o 18 = ga m 18 := ((p3 18 (by decide)).2.2.1).trans (f0 18 (by decide)).2.2.1
    have g19 : ga o 19 = ga m 19 := ((p3 19 (by decide)).2.2.1).trans (f0 19 (by decide)).2.2.1
    refine ⟨sa (sa o 50 (upd (ga o 50) (2400 * i + k) (ga m 18 k))) 51 (upd (ga o 51) (2400 * i + k) (ga m 19 k)), ⟨fun w hw => ?_, fun p hp => ?_, frm_sa (frm_sa p3 (by decide) _) (by decide) _⟩, ?_⟩
    · simp only [ga_sa, Nat.reduceEqDiff, if_false, if_true, upd_ap]
      by_cases q : w = k
      · subst q
        rw [if_pos rfl, if_pos rfl]
        exact ⟨rfl, rfl⟩
      · rw [if_neg (show ¬ 2400 * i + w = 2400 * i + k by omega), if_neg (show ¬ 2400 * i + w = 2400 * i + k by omega)]
        exact p1 w (by omega)
    · simp only [ga_sa, Nat.reduceEqDiff, if_false, if_true, upd_ap]
      rw [if_neg (by omega), if_neg (by omega)]
      exact p2 p hp
    · funext K
      simp (disch := omega) only [lX11_keep_191, u_let, u_jn, u_bd, u_gz0, u_gz1, u_gd, u_lit, u_leT, u_leF, u_ltT, u_ltF, u_eqT, u_eqF, nI_clamp, nI_add, u_m1, pk_sub, pk_mul, if_true, if_false, ite_true, ite_false, reduceIte, Nat.reduceEqDiff, u_neM, u_bN, u_bNe, ga_sa, Nat.reduceEqDiff, g18, g19]
  · refine ⟨o, fun K => ?_, hP⟩
    simp (disch := omega) only [lX11_keep_191, u_let, u_jn, u_bd, u_gz0, u_gz1, u_gd, u_lit, u_leT, u_leF, u_ltT, u_ltF, u_eqT, u_eqF, nI_clamp, nI_add, u_m1, pk_sub, pk_mul, if_true, if_false, ite_true, ite_false, reduceIte, Nat.reduceEqDiff, u_neM, u_bN, u_bNe]
theorem m_keep {i : Nat} (hi : i < 2) {S : Nat} {d : SD} {m : Ob} (hS : S ≤ 6) (hd : OKS S d) (h : MS S d m) : ∃ m', pX11_keep m (nI i) = some (nI 1, m') ∧ MI S d i m' ∧ outI i m m' ∧ ga m' 52 i = nI 1 ∧ (∀ j, j ≠ i → ga m' 52 j = ga m 52 j) ∧ frm [49, 50, 51, 52] m m' := by
  have bd := hd.1
  have qi : pX11_in (nI i).toInt64 0 1 = some (nI 1) := good_in (by omega) (by have z : (0 : Int64).toInt = 0 := by decide
                                                                               omega) (by have z : (1 : Int64).toInt = 1 := by decide
                                                                                          omega)
  obtain ⟨m1, a1, a2, a3, a4⟩ := m_keep1 hi hd h (sa m 49 (upd (upd (upd (ga m 49) (60 * i) (nI d.day)) (60 * i + 1) (nI d.spk)) (60 * i + 2) (nI d.seed))) (frm_sa (frm_rf _ _) (by decide) _)
  obtain ⟨m2, b1, b2, b3, b4⟩ := m_keep2 hi m1 a4
  obtain ⟨m3, c1, c2, c3, c4⟩ := m_keep3 hi m2 (frm_mono b4 (by decide))
  have g49 : ga m3 49 = ga m2 49 := (c4 49 (by decide)).2.2.1
  have g52 : ga m3 52 = ga m 52 := ((c4 52 (by decide)).2.2.1).trans (b4 52 (by decide)).2.2.1
  have g50 : ga m2 50 = ga m 50 := (b4 50 (by decide)).2.2.1
  have g51 : ga m2 51 = ga m 51 := (b4 51 (by decide)).2.2.1
  have nar : vp_nar .boolean (nI 1) = nI 1 := rfl
  have fr : frm [49, 50, 51, 52] m m3 := frm_tr (frm_mono b4 (by decide)) (frm_mono c4 (by decide))
  refine ⟨sa m3 52 (upd (ga m3 52) i (nI 1)), ?_, ?_, ?_, ?_, ?_, frm_sa fr (by decide) _⟩
  · unfold pX11_keep
    rw [qi, u_bd1, u_let, u_lit, pk_mul, u_gd (by omega), u_let, nI_clamp (by omega)]
    rw [u_lit, nI_add, u_gd (by omega), u_let, nI_clamp (n := 60 * i + 1) (by omega), gi_sa, h.1, h.2.1]
    rw [u_lit, nI_add, u_gd (by omega), u_let, nI_clamp (n := 60 * i + 2) (by omega), gi_sa, gi_sa, h.2.2.1]
    rw [ga_sa, if_pos rfl, sa_sa, ga_sa, if_pos rfl, sa_sa]
    rw [u_jn, a1, u_jn, b1, u_jn, c1, u_gd (by omega), u_let, nI_clamp (n := i) (by omega), nar]
  · refine ⟨?_, ?_, ?_, fun w hw => ?_, fun s hs => ?_, fun s hs k hk => ?_, fun s hs k hk => ?_⟩
    · rw [ga_sa, if_neg (by decide), g49, b3 _ (by omega), a3 _ (by omega), ga_sa, if_pos rfl, upd_ap, if_neg (by omega), upd_ap, if_neg (by omega), upd_ap, if_pos rfl]
    · rw [ga_sa, if_neg (by decide), g49, b3 _ (by omega), a3 _ (by omega), ga_sa, if_pos rfl, upd_ap, if_neg (by omega), upd_ap, if_pos rfl]
    · rw [ga_sa, if_neg (by decide), g49, b3 _ (by omega), a3 _ (by omega), ga_sa, if_pos rfl, upd_ap, if_pos rfl]
    · rw [ga_sa, if_neg (by decide), g49, b3 _ (by omega), b3 _ (by omega), b3 _ (by omega)]
      exact ⟨fun hS => (a2 w hw).1.trans ((h.2.2.2.1 w hw).1 hS), (a2 w hw).2⟩
    · rw [ga_sa, if_neg (by decide), g49]
      obtain ⟨e1, e2, e3⟩ := h.2.2.2.2.1 s hs
      obtain ⟨y1, y2, y3⟩ := b2 s (by omega)
      exact ⟨y1.trans e1, y2.trans e2, y3.trans e3⟩
    · rw [ga_sa, if_neg (by decide), (c2 (400 * s + k) (by omega)).2]
      exact h.2.2.2.2.2.1 s hs k hk
    · rw [ga_sa, if_neg (by decide), (c2 (400 * s + k) (by omega)).1]
      exact h.2.2.2.2.2.2 s hs k hk
  · refine ⟨fun p hp => ?_, fun p hp => ?_⟩
    · rw [ga_sa, if_neg (by decide), g49, b3 _ (by omega), a3 _ (by omega), ga_sa, if_pos rfl, upd_ap, if_neg (by omega), upd_ap, if_neg (by omega), upd_ap, if_neg (by omega)]
    · rw [ga_sa, if_neg (by decide), ga_sa, if_neg (by decide), (c3 p hp).1, (c3 p hp).2, g50, g51]
      exact ⟨rfl, rfl⟩
  · rw [ga_sa, if_pos rfl, upd_ap, if_pos rfl]
  · intro j hj
    rw [ga_sa, if_pos rfl, upd_ap, if_neg hj, g52]
theorem RImg_out {S i j : Nat} (hij : j ≠ i) (hi : i < 2) (hj : j < 2) (hS : S ≤ 6) {fl : Int32} {o m m' : Ob} (h : RImg S j fl o m) (ho : outI i m m') (h52 : ga m' 52 j = ga m 52 j) : RImg S j fl o m' := by
  unfold RImg
  rw [h52]
  rcases h with h | ⟨h1, h2, e, h3, h4, y0, y1, y2, y3, y4, y5, y6⟩
  · exact Or.inl h
  · have bd := h3.1
    refine Or.inr ⟨h1, h2, e, h3, h4, ?_, ?_, ?_, fun w hw => ?_, fun s hs => ?_, fun s hs k hk => ?_, fun s hs k hk => ?_⟩
    · rw [ho.1 _ (by omega)]; exact y0
    · rw [ho.1 _ (by omega)]; exact y1
    · rw [ho.1 _ (by omega)]; exact y2
    · rw [ho.1 _ (by omega), ho.1 _ (by omega), ho.1 _ (by omega)]; exact y3 w hw
    · rw [ho.1 _ (by omega), ho.1 _ (by omega), ho.1 _ (by omega)]; exact y4 s hs
    · rw [(ho.2 _ (by omega)).2]; exact y5 s hs k hk
    · rw [(ho.2 _ (by omega)).1]; exact y6 s hs k hk
