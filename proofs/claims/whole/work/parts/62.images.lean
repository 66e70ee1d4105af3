/-! feed, keep, goBack -/
theorem u_byte (y : Int64) : ∃ t, t < 256 ∧ (vp_nar .byte (y.toInt32.toInt8.toInt32)) &&& nI 255 = nI t ∧ (y &&& lN 255).toInt32 = nI t := by
  refine ⟨y.toInt32.toBitVec.toNat % 256, Nat.mod_lt _ (by omega), ?_, ?_⟩
  · rw [pk_vb]
    have h := bp_b y.toInt32
    have h2 := pk_and y.toInt32 (m := 255) 8 (by decide)
    exact h.trans h2
  · have h2 := pk_and y.toInt32 (m := 255) 8 (by decide)
    have h3 : (y &&& lN 255).toInt32 = y.toInt32 &&& 255 := Int64.toInt32_and y (lN 255)
    exact h3.trans h2
theorem feed_loop {a2 : Int64} : ∀ i f (L : Nat) (tb : Nat → Nat) (ot m : Ob), i < f → L + i ≤ 500 → gi ot 1 = nI L → gi m 22 = nI L → (∀ j, j < L → tb j < 256 ∧ ga ot 0 j &&& nI 255 = nI (tb j) ∧ ga m 21 j = nI (tb j)) → ∃ ot' m', lX10_feed_37 a2 f (nI i - nI 1) ot = some (nI (L + i), ot') ∧ lX11_feed_35 a2 f (nI i - nI 1) m = some (nI (L + i), m') ∧ RText ot' m' ∧ frm [21, 22] m m' := by
  intro i
  induction i with
  | zero =>
    intro f L tb ot m hf hL e1 e2 e3
    obtain ⟨f, rfl⟩ : ∃ g, f = g + 1 := ⟨f - 1, by omega⟩
    have neg : nI 0 - nI 1 < (0 : Int32) := by decide
    refine ⟨ot, m, ?_, ?_, ⟨L, tb, hL, e1, e2, e3⟩, frm_rf _ _⟩
    · rw [lX10_feed_37, if_pos neg, e1, Nat.add_zero]
    · rw [lX11_feed_35, if_pos neg, e2, Nat.add_zero]
  | succ i ih =>
    intro f L tb ot m hf hL e1 e2 e3
    obtain ⟨f, rfl⟩ : ∃ g, f = g + 1 := ⟨f - 1, by omega⟩
    have e0 : nI (i + 1) - nI 1 = nI i := pk_sub (by omega)
    obtain ⟨t, t1, t2, t3⟩ := u_byte (a2 >>> (((nI 8) * (nI i)).toInt64 &&& lN 63))
    have em : nI i + -(nI 1) = nI i - nI 1 := by
      rcases Nat.eq_zero_or_pos i with z | z
      · subst z; decide
      · rw [u_m1 z, pk_sub (by omega)]
    obtain ⟨ot', m', r1, r2, r3, r4⟩ := ih f (L + 1) (nup tb L t) (si (sa ot 0 (upd (ga ot 0) L (vp_nar .byte ((a2 >>> (((nI 8) * (nI i)).toInt64 &&& lN 63)).toInt32.toInt8.toInt32)))) 1 (nI (L + 1))) (si (sa m 21 (upd (ga m 21) L (nI t))) 22 (nI (L + 1))) (by omega) (by omega) rfl rfl (fun j hj => by
      rw [ga_si, ga_si, ga_sa, ga_sa, if_pos rfl, if_pos rfl, upd_ap, upd_ap]
      unfold nup
      by_cases z : j = L
      · rw [if_pos z, if_pos z, if_pos z]
        exact ⟨t1, t2, rfl⟩
      · rw [if_neg z, if_neg z, if_neg z]
        exact e3 j (by omega))
    refine ⟨ot', m', ?_, ?_, r3, frm_tr (frm_si (frm_sa (frm_rf _ _) (by decide) _) (by decide) _) r4⟩
    · rw [show L + (i + 1) = L + 1 + i by omega, e0]
      unfold lX10_feed_37
      simp only [u_lit, u_litL] at r1 ⊢
      rw [if_neg (nI_nlt (by omega) (by omega))]
      have ap : ∀ b : Int32, pX7_append ot b = some (si (sa ot 0 (upd (ga ot 0) L (vp_nar .byte b))) 1 (nI (L + 1))) := by
        intro b
        simp (disch := omega) only [pX7_append, u_let, u_jn, u_bd, u_gz0, u_gz1, u_gd, u_lit, u_leT, u_leF, u_ltT, u_ltF, u_eqT, u_eqF, nI_clamp, nI_add, u_m1, pk_sub, pk_mul, if_true, if_false, ite_true, ite_false, reduceIte, Nat.reduceEqDiff, u_neM, u_bN, u_bNe, e1, gi_sa]
      rw [ap, u_bd, u_let, em]
      exact r1
    · rw [show L + (i + 1) = L + 1 + i by omega, e0]
      unfold lX11_feed_35
      simp only [u_lit, u_litL] at r2 ⊢
      rw [if_neg (nI_nlt (by omega) (by omega)), e2, u_gd (by omega), u_let, u_let, u_let, em, t3, nI_clamp (by omega), gi_sa, e2, nI_add]
      exact r2
theorem ok_feed {x : Cst} {m : Ob} (a1 : Int32) (a2 : Int64) (h : RR x m) : ∃ (r : Int32 × Ob) (u : Int32 × Ob), pX10_feed x.z x.d x.t x.c x.w x.s x.e x.f x.h x.b x.i x.j x.p x.q a1 a2 = some r ∧ pX11_feed m a1 a2 = some u ∧ r.1 = u.1 ∧ RR (x.z, x.d, r.2, x.c, x.w, x.s, x.e, x.f, x.h, x.b, x.i, x.j, x.p, x.q) u.2 := by
  have h' := h
  obtain ⟨c, l, d, ⟨A1, A2, A3⟩, ⟨B1, B2, B3⟩, ⟨C1, C2, C3⟩, ⟨n, tb, t1, t2, t3, t4⟩, E1, F1, G1, G2⟩ := h'
  rcases arg_in a1 1 8 (by omega) (by omega) 1 8 (by decide) (by decide) with ⟨q, qi⟩ | ⟨j, j1, j2, rfl, qi⟩
  · refine ⟨(-(nI 1000000002), x.t), (-(nI 1000000002), m), ?_, ?_, rfl, h⟩
    · unfold pX10_feed
      simp only [u_lit]
      rcases q with q | q
      · rw [if_pos q]
      · by_cases z : a1 < nI 1
        · rw [if_pos z]
        · rw [if_neg z, if_neg (by rw [u_leN (by omega)]; rw [u_Nlt (by omega)] at q; omega)]
    · unfold pX11_feed
      rw [qi, u_bd0]; rfl
  · by_cases g : n + j ≤ 500
    · obtain ⟨ot', m', r1, r2, r3, r4⟩ := feed_loop (a2 := a2) j zfu n tb x.t m (u_zfu (by omega)) g t2 t3 t4
      refine ⟨(nI (n + j), ot'), (nI (n + j), m'), ?_, ?_, rfl, c, l, d, ⟨A1, A2, A3⟩, ⟨B1, B2, B3⟩, ⟨MC_frm C1 r4 (by decide), ML_frm C2 r4 (by decide) (by decide), ?_⟩, r3, E1.trans (r4 23 (by decide)).1.symm, RBook_frm F1 r4 (by decide) (by decide), RImg_frm G1 r4 (by decide) (by decide) (by decide) (by decide), RImg_frm G2 r4 (by decide) (by decide) (by decide) (by decide)⟩
      · unfold pX10_feed
        rw [u_lit, u_lit, u_lit, u_lit, if_neg (nI_nlt j1 (by omega)), if_pos (nI_le j2 (by omega)), t2, nI_add, if_pos (nI_le g (by omega)), u_let]
        exact r1
      · unfold pX11_feed
        rw [qi, u_bd1, u_lit, u_lit, t3, nI_add, if_pos (nI_le g (by omega)), u_let]
        exact r2
      · unfold MS
        rw [(r4 13 (by decide)).1, (r4 14 (by decide)).1, (r4 20 (by decide)).1, (r4 10 (by decide)).2.2.1, (r4 11 (by decide)).2.2.1, (r4 12 (by decide)).2.2.1, (r4 17 (by decide)).2.2.1, (r4 15 (by decide)).2.2.1, (r4 16 (by decide)).2.2.1, (r4 19 (by decide)).2.2.1, (r4 18 (by decide)).2.2.1]
        exact C3
    · refine ⟨(-(nI 1000000004), x.t), (-(nI 1000000004), m), ?_, ?_, rfl, h⟩
      · unfold pX10_feed
        rw [u_lit, u_lit, u_lit, if_neg (nI_nlt j1 (by omega)), if_pos (nI_le j2 (by omega)), t2, nI_add, if_neg (show ¬ nI (n + j) ≤ (500 : Int32) from nI_ge (a := 500) (by omega) (by omega))]
        rfl
      · unfold pX11_feed
        rw [qi, u_bd1, t3, nI_add, if_neg (show ¬ nI (n + j) ≤ (500 : Int32) from nI_ge (a := 500) (by omega) (by omega))]
        rfl
/-! images -/
theorem cpy_at {α : Type} (f g : Nat → α) {n k : Nat} (h : k < n) : va_cpy f g 0 0 n k = f k := by
  rw [pk_cpy_in (by omega) (by omega)]
  simp only [Nat.zero_add, Nat.sub_zero]
theorem h_bec1 (ou o9 : Ob) : ∃ o', lX6_become_116 ou zfu 0 o9 = some o' ∧ (∀ s, s < 6 → ∀ k, k < 400 → ga o' (20 + s) k = ga ou (20 + s) k) ∧ (∀ j, j < 20 → gi o' j = gi o9 j ∧ ga o' j = ga o9 j) := by
  refine u_loopP (fun f k o => lX6_become_116 ou f (nI k) o) (fun n o => (∀ s, s < n → ∀ k, k < 400 → ga o (20 + s) k = ga ou (20 + s) k) ∧ (∀ j, j < 20 → gi o j = gi o9 j ∧ ga o j = ga o9 j)) (fun r => ∃ o', r = some o' ∧ (∀ s, s < 6 → ∀ k, k < 400 → ga o' (20 + s) k = ga ou (20 + s) k) ∧ (∀ j, j < 20 → gi o' j = gi o9 j ∧ ga o' j = ga o9 j)) 6 (fun f k o hk hP => ?_) (fun f o hP => ?_) zfu 0 o9 (by omega) (u_zfu (by omega)) ⟨fun s hs => absurd hs (Nat.not_lt_zero s), fun j hj => ⟨rfl, rfl⟩⟩
  · obtain ⟨p1, p2⟩ := hP
    refine ⟨sa o (20 + k) (va_cpy (ga ou (20 + k)) (ga o (20 + k)) 0 0 400), ⟨fun s hs i hi => ?_, fun j hj => ?_⟩, ?_⟩
    · rw [ga_sa]
      by_cases q : s = k
      · subst q
        rw [if_pos rfl, cpy_at _ _ hi]
      · rw [if_neg (by omega)]
        exact p1 s (by omega) i hi
    · rw [gi_sa, ga_sa, if_neg (by omega)]
      exact p2 j hj
    · simp (disch := omega) only [lX6_become_116, u_let, u_jn, u_bd, u_gz0, u_gz1, u_gd, u_lit, u_leT, u_leF, u_ltT, u_ltF, u_eqT, u_eqF, nI_clamp, nI_add, u_m1, pk_sub, pk_mul, if_true, if_false, ite_true, ite_false, reduceIte, Nat.reduceEqDiff, u_neM, u_bN, u_bNe]
  · refine ⟨o, ?_, hP⟩
    simp (disch := omega) only [lX6_become_116, u_let, u_jn, u_bd, u_gz0, u_gz1, u_gd, u_lit, u_leT, u_leF, u_ltT, u_ltF, u_eqT, u_eqF, nI_clamp, nI_add, u_m1, pk_sub, pk_mul, if_true, if_false, ite_true, ite_false, reduceIte, Nat.reduceEqDiff, u_neM, u_bN, u_bNe]
theorem h_become {S : Nat} {e : SD} {os ou : Ob} (hS : S ≤ 6) (he : e.day ≤ 399) (h : CS S e ou) : ∃ o', pX6_become os ou = some o' ∧ CS S e o' := by
  obtain ⟨h0, h1, h2, h3, h4, h5⟩ := h
  unfold pX6_become
  rw [u_let, u_let, u_let, u_let, u_let, u_let, u_let, u_let, u_let]
  obtain ⟨o', r1, r2, r3⟩ := h_bec1 ou (sa (sa (sa (sa (sa (sa (si (si (si os 0 (gi ou 0)) 1 (gi ou 1)) 2 (gi ou 2)) 3 (va_cpy (ga ou 3) (ga (si (si (si os 0 (gi ou 0)) 1 (gi ou 1)) 2 (gi ou 2)) 3) 0 0 12)) 4 (va_cpy (ga ou 4) (ga (sa (si (si (si os 0 (gi ou 0)) 1 (gi ou 1)) 2 (gi ou 2)) 3 (va_cpy (ga ou 3) (ga (si (si (si os 0 (gi ou 0)) 1 (gi ou 1)) 2 (gi ou 2)) 3) 0 0 12)) 4) 0 0 12)) 5 (va_cpy (ga ou 5) (ga os 5) 0 0 12)) 6 (va_cpy (ga ou 6) (ga os 6) 0 0 6)) 7 (va_cpy (ga ou 7) (ga os 7) 0 0 6)) 8 (va_cpy (ga ou 8) (ga os 8) 0 0 6))
  refine ⟨o', r1, ?_⟩
  refine ⟨?_, ?_, ?_, fun w hw => ?_, fun s hs => ?_, fun s hs k hk => ?_⟩
  · rw [(r3 0 (by omega)).1]
    simp only [gi_sa, gi_si, Nat.reduceEqDiff, if_false, if_true]
    exact h0
  · rw [(r3 1 (by omega)).1]
    simp only [gi_sa, gi_si, Nat.reduceEqDiff, if_false, if_true]
    exact h1
  · rw [(r3 2 (by omega)).1]
    simp only [gi_sa, gi_si, Nat.reduceEqDiff, if_false, if_true]
    exact h2
  · rw [(r3 3 (by omega)).2, (r3 4 (by omega)).2, (r3 5 (by omega)).2]
    simp only [ga_sa, Nat.reduceEqDiff, if_false, if_true]
    rw [cpy_at _ _ hw, cpy_at _ _ hw, cpy_at _ _ hw]
    exact h3 w hw
  · rw [(r3 6 (by omega)).2, (r3 7 (by omega)).2, (r3 8 (by omega)).2]
    simp only [ga_sa, Nat.reduceEqDiff, if_false, if_true]
    rw [cpy_at _ _ (by omega), cpy_at _ _ (by omega), cpy_at _ _ (by omega)]
    exact h4 s hs
  · rw [r2 s (by omega) k (by omega)]
    exact h5 s hs k hk
