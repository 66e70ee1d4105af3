/-! kinds -/
theorem h_refHereF {od ot : Ob} {f q : Nat} (h : RdF od f q) (b : Int32) : pX5_refuseHere od ot b = some od := by
  unfold pX5_refuseHere
  rw [h_refuseF h, u_bd]
theorem h_refHere {od ot : Ob} {p t f : Nat} (hr : RdS od p t) (h0 : 0 < f) (h4 : f ≤ 4) : ∃ od', pX5_refuseHere od ot (nI f) = some od' ∧ RdF od' f p := by
  obtain ⟨od', r1, r2⟩ := h_refuse (ot := ot) (q := p) hr h0 h4
  refine ⟨od', ?_, r2⟩
  unfold pX5_refuseHere
  rw [hr.2.2.1, r1, u_bd]
theorem h_refTaken {od ot : Ob} {p t f : Nat} (hr : RdS od p t) (h0 : 0 < f) (h4 : f ≤ 4) : ∃ od', pX5_refuseTaken od ot (nI f) = some od' ∧ RdF od' f t := by
  obtain ⟨od', r1, r2⟩ := h_refuse (ot := ot) (q := t) hr h0 h4
  refine ⟨od', ?_, r2⟩
  unfold pX5_refuseTaken
  rw [hr.2.2.2, r1, u_bd]
theorem k_sworn : ∀ K : Int64 → Option (Int32 × Ob), (Option.bind (pX11_code 115 119 111 114) fun r2 => Option.bind (pX11_longer r2 110) fun r3 => K r3) = K (lN (wcode 3)) := by
  intro K
  rw [show pX11_code 115 119 111 114 = some (lN 391167) by decide, u_bd, show pX11_longer (lN 391167) 110 = some (lN (wcode 3)) by decide, u_bd]
theorem k_copied : ∀ K : Int64 → Option (Int32 × Ob), (Option.bind (pX11_code 99 111 112 105) fun r8 => Option.bind (pX11_longer r8 101) fun r9 => Option.bind (pX11_longer r9 100) fun r10 => K r10) = K (lN (wcode 4)) := by
  intro K
  rw [show pX11_code 99 111 112 105 = some (lN 70425) by decide, u_bd, show pX11_longer (lN 70425) 101 = some (lN 1901480) by decide, u_bd, show pX11_longer (lN 1901480) 100 = some (lN (wcode 4)) by decide, u_bd]
theorem k_shown : ∀ K : Int64 → Option (Int32 × Ob), (Option.bind (pX11_code 115 104 111 119) fun r11 => Option.bind (pX11_longer r11 110) fun r12 => K r12) = K (lN (wcode 5)) := by
  intro K
  rw [show pX11_code 115 104 111 119 = some (lN 380237) by decide, u_bd, show pX11_longer (lN 380237) 110 = some (lN (wcode 5)) by decide, u_bd]
theorem k_against : ∀ K : Int64 → Option (Int32 × Ob), (Option.bind (pX11_code 97 103 97 105) fun r13 => Option.bind (pX11_longer r13 110) fun r14 => Option.bind (pX11_longer r14 115) fun r15 => Option.bind (pX11_longer r15 116) fun r16 => K r16) = K (lN (wcode 6)) := by
  intro K
  rw [show pX11_code 97 103 97 105 = some (lN 24822) by decide, u_bd, show pX11_longer (lN 24822) 110 = some (lN 670208) by decide, u_bd, show pX11_longer (lN 670208) 115 = some (lN 18095635) by decide, u_bd, show pX11_longer (lN 18095635) 116 = some (lN (wcode 6)) by decide, u_bd]
theorem t_kind {n : Nat} {tb : Nat → Nat} {ot m od : Ob} {p t a W : Nat} (hT : TX n tb ot m) (hr : RdS od p t) (ha : gi m 24 = nI a) (han : a ≤ n) (hp : rn isB n tb a = p) (hW : W < 12) (h33 : gi m 33 = nI W) :
    (∃ k e od' m', pX2_readKind od ot = some (nI k, od') ∧ pX11_takeKind m = some (nI 0, m') ∧ k ≤ 3 ∧ RdS od' (rn isB n tb e) p ∧ gi m' 24 = nI e ∧ p < e ∧ e ≤ n ∧ ga m' 36 = upd (ga m 36) W (nI k) ∧ frm [24, 25, 26, 36] m m') ∨ (∃ od' m', pX2_readKind od ot = some (nI 0, od') ∧ pX11_takeKind m = some (nI 1, m') ∧ RdF od' 1 p ∧ gi m' 23 = nI p ∧ frm [23, 24, 25, 26] m m') := by
  have hn := hT.1
  obtain ⟨m1, w1, w2, w3, w4, w5⟩ := m_word hT ha han
  rw [hp] at w2 w3 w4
  have hpn : p ≤ n := by rw [← hp]; exact rn_le han
  have c33 : gi m1 33 = nI W := by rw [(w5 33 (by decide)).1]; exact h33
  have g36 : ga m1 36 = ga m 36 := (w5 36 (by decide)).2.2.1
  -- the reference's end, by the kind
  have good : ∀ k w, k ≤ 3 → w < 8 → isW n tb w p → ∃ e od' m', pX5_takesWord w od ot = some (nI 1, od') ∧ (fun (x4 : Int32) => if 0 ≤ x4 then (zgd (gi m1 33) 12 <| zlet (sa m1 36 (upd (ga m1 36) ((gi m1 33).toNatClampNeg) x4)) fun (o5 : Ob) => zlet (si o5 24 (gi o5 26)) fun (o6 : Ob) => some ((0 : Int32), o6)) else (Option.bind (pX11_fails m1 (1 : Int32) (gi m1 24)) fun (r7 : Int32 × Ob) => some ((r7.1), (r7.2)))) (nI k) = some (nI 0, m') ∧ RdS od' (rn isB n tb e) p ∧ gi m' 24 = nI e ∧ p < e ∧ e ≤ n ∧ ga m' 36 = upd (ga m 36) W (nI k) ∧ frm [24, 25, 26, 36] m m' := by
    intro k w hk hw g
    obtain ⟨od1, s1, s2⟩ := (h_word hT hr hpn hw).1 g
    have hL : rn isL n tb p = p + wlen w := g.1
    have hLn : p + wlen w ≤ n := by rw [← hL]; exact rn_le hpn
    have hl := w_len hw
    refine ⟨p + wlen w, od1, si (sa m1 36 (upd (ga m1 36) W (nI k))) 24 (nI (p + wlen w)), s1, ?_, s2, rfl, by omega, hLn, ?_, frm_si (frm_sa (frm_mono w5 (by decide)) (by decide) _) (by decide) _⟩
    · show (if nI 0 ≤ nI k then _ else _ : Option (Int32 × Ob)) = _
      rw [if_pos (nI_le (by omega) (by omega)), c33, u_gd (by omega), nI_clamp (by omega), u_let, u_let, gi_sa, w3, hL]
      rfl
    · rw [ga_si, ga_sa, if_pos rfl, g36]
  unfold pX2_readKind pX11_takeKind
  rw [w1, u_bd, k_sworn (fun r3 => zjn _ _), u_jn]
  by_cases g3 : isW n tb 3 p
  · left
    obtain ⟨e, od', m', y1, y2, y3⟩ := good 0 3 (by omega) (by omega) g3
    refine ⟨0, e, od', m', ?_, ?_, by omega, y3⟩
    · rw [y1, u_bd]
      exact if_neg (show ¬ nI 1 = (0 : Int32) by decide)
    · dsimp only
      rw [if_pos ((w4 3 (by omega)).mpr g3)]
      exact y2
  · dsimp only
    rw [(h_word hT hr hpn (w := 3) (by omega)).2 g3, u_bd, if_neg (fun r => g3 ((w4 3 (by omega)).mp r)), k_copied]
    dsimp only
    rw [if_pos (show nI 0 = (0 : Int32) from rfl)]
    by_cases g4 : isW n tb 4 p
    · left
      obtain ⟨e, od', m', y1, y2, y3⟩ := good 1 4 (by omega) (by omega) g4
      refine ⟨1, e, od', m', ?_, ?_, by omega, y3⟩
      · rw [y1, u_bd]
        exact if_neg (show ¬ nI 1 = (0 : Int32) by decide)
      · rw [if_pos ((w4 4 (by omega)).mpr g4)]
        exact y2
    · rw [(h_word hT hr hpn (w := 4) (by omega)).2 g4, u_bd, if_neg (fun r => g4 ((w4 4 (by omega)).mp r)), k_shown]
      dsimp only
      rw [if_pos (show nI 0 = (0 : Int32) from rfl)]
      by_cases g5 : isW n tb 5 p
      · left
        obtain ⟨e, od', m', y1, y2, y3⟩ := good 2 5 (by omega) (by omega) g5
        refine ⟨2, e, od', m', ?_, ?_, by omega, y3⟩
        · rw [y1, u_bd]
          exact if_neg (show ¬ nI 1 = (0 : Int32) by decide)
        · rw [if_pos ((w4 5 (by omega)).mpr g5)]
          exact y2
      · rw [(h_word hT hr hpn (w := 5) (by omega)).2 g5, u_bd, if_neg (fun r => g5 ((w4 5 (by omega)).mp r)), k_against]
        dsimp only
        rw [if_pos (show nI 0 = (0 : Int32) from rfl)]
        by_cases g6 : isW n tb 6 p
        · left
          obtain ⟨e, od', m', y1, y2, y3⟩ := good 3 6 (by omega) (by omega) g6
          refine ⟨3, e, od', m', ?_, ?_, by omega, y3⟩
          · rw [y1, u_bd]
            exact if_neg (show ¬ nI 1 = (0 : Int32) by decide)
          · rw [if_pos ((w4 6 (by omega)).mpr g6)]
            exact y2
        · right
          rw [(h_word hT hr hpn (w := 6) (by omega)).2 g6, u_bd, if_neg (fun r => g6 ((w4 6 (by omega)).mp r))]
          dsimp only
          rw [if_pos (show nI 0 = (0 : Int32) from rfl), if_neg (show ¬ (0 : Int32) ≤ -1 by decide)]
          obtain ⟨od', r1, r2⟩ := h_refHere (ot := ot) (f := 1) hr (by omega) (by omega)
          refine ⟨od', si m1 23 (nI p), ?_, ?_, r2, rfl, frm_si (frm_mono w5 (by decide)) (by decide) _⟩
          · show Option.bind (pX5_refuseHere od ot (nI 1)) _ = _
            rw [r1, u_bd]
            rfl
          · show Option.bind (pX11_fails m1 (nI 1) (gi m1 24)) _ = _
            unfold pX11_fails
            rw [w2, u_let, u_bd]
theorem h_kindF {od ot : Ob} {f q : Nat} (h : RdF od f q) : pX2_readKind od ot = some (nI 0, od) := by
  unfold pX2_readKind
  rw [h_wordF h, u_bd]
  dsimp only
  rw [if_pos (show nI 0 = (0 : Int32) from rfl), h_wordF h, u_bd]
  dsimp only
  rw [if_pos (show nI 0 = (0 : Int32) from rfl), h_wordF h, u_bd]
  dsimp only
  rw [if_pos (show nI 0 = (0 : Int32) from rfl), h_wordF h, u_bd]
  dsimp only
  rw [if_pos (show nI 0 = (0 : Int32) from rfl), h_refHereF h, u_bd]
  rfl
/-! how many the suit has, by the reference -/
theorem m_own {c : CD} {m : Ob} (hc : OKC c) (h33 : gi m 33 = nI c.W) (h34 : ∀ w, w < c.W → ga m 34 w = nI (c.suit w)) {v : Nat} (hv : v < 1000) (h27 : gi m 27 = nI v) (x : Int32) (K : Int32 → Option (Int32 × Ob)) : lX11_takeWitness_22 (x, m) K zfu 0 0 = K (nI (cnt c v c.W)) := by
  have hW := hc.2.1
  have hle : ∀ k, cnt c v k ≤ k := by
    intro k
    induction k with
    | zero => exact Nat.le_refl _
    | succ k ih => rw [cnt]; split <;> omega
  refine u_loop (fun f k => lX11_takeWitness_22 (x, m) K f (nI (cnt c v k)) (nI k)) c.W _ (fun f k hk => ?_) (fun f => ?_) zfu 0 (by omega) (u_zfu (by omega))
  · have e := h34 k hk
    have b := (hc.2.2.2.1 k hk).1
    have h6 := hc.1
    have hl := hle k
    by_cases g : c.suit k = v
    · simp (disch := omega) only [lX11_takeWitness_22, u_let, u_jn, u_bd, u_gz0, u_gz1, u_gd, u_lit, u_leT, u_leF, u_ltT, u_ltF, u_eqT, u_eqF, nI_clamp, nI_add, u_m1, pk_sub, pk_mul, if_true, if_false, ite_true, ite_false, reduceIte, Nat.reduceEqDiff, u_neM, u_bN, u_bNe, h33, e, h27, g, cnt]
    · simp (disch := omega) only [lX11_takeWitness_22, u_let, u_jn, u_bd, u_gz0, u_gz1, u_gd, u_lit, u_leT, u_leF, u_ltT, u_ltF, u_eqT, u_eqF, nI_clamp, nI_add, u_m1, pk_sub, pk_mul, if_true, if_false, ite_true, ite_false, reduceIte, Nat.reduceEqDiff, u_neM, u_bN, u_bNe, h33, e, h27, g, cnt]
  · simp (disch := omega) only [lX11_takeWitness_22, u_let, u_jn, u_bd, u_gz0, u_gz1, u_gd, u_lit, u_leT, u_leF, u_ltT, u_ltF, u_eqT, u_eqF, nI_clamp, nI_add, u_m1, pk_sub, pk_mul, if_true, if_false, ite_true, ite_false, reduceIte, Nat.reduceEqDiff, u_neM, u_bN, u_bNe, h33]
