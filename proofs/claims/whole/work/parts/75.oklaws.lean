/-! the laws' text -/
def lwA (od ot ow : Ob) : Option (Ob × Ob) := Option.bind (pX5_takesWord 7 od ot) fun (r6 : Int32 × Ob) => if (r6.1) = 0 then (Option.bind (pX5_refuseHere (r6.2) ot (1 : Int32)) fun (r10 : Ob) => some (ow, r10)) else (pX4_readClause ow (r6.2) ot)
theorem k_from : pX11_code 102 114 111 109 = some (lN (wcode 7)) := by decide
theorem readClause_eq (ow od ot : Ob) : pX4_readClause ow od ot = if (gi ow 0) < (6 : Int32) then (Option.bind (pX5_takeNumber od ot (0 : Int32) (399 : Int32)) fun (r1 : Int32 × Ob) => zgd (gi ow 0) 6 <| zlet (sa ow 1 (upd (ga ow 1) ((gi ow 0).toNatClampNeg) (r1.1))) fun (o2 : Ob) => Option.bind (pX5_isSound (r1.2) ot) fun (r3 : Int32) => zjn (fun (o4 : Ob) => lwC2 ot o2 o4) fun (K74 : Ob → Option (Ob × Ob)) => if r3 = 0 then (K74 (r1.2)) else (if (gi o2 0) ≤ 0 then (K74 (r1.2)) else (zgd (gi o2 0) 6 <| zgd ((gi o2 0) - (1 : Int32)) 6 <| if (ga o2 1 (((gi o2 0) - (1 : Int32)).toNatClampNeg)) < (ga o2 1 ((gi o2 0).toNatClampNeg)) then (K74 (r1.2)) else (Option.bind (pX5_refuseTaken (r1.2) ot (4 : Int32)) fun (r13 : Ob) => K74 r13)))) else (Option.bind (pX5_refuseTaken od ot (3 : Int32)) fun (r14 : Ob) => some (ow, r14)) := rfl
theorem takeLaw_eq (o : Ob) : pX11_takeLaw o = Option.bind (pX11_readWord o) fun (r1 : Ob) => Option.bind (pX11_code (102 : Int32) (114 : Int32) (111 : Int32) (109 : Int32)) fun (r2 : Int64) => if (gl r1 25) = r2 then (if (gi r1 37) = (6 : Int32) then (Option.bind (pX11_fails r1 (3 : Int32) (gi r1 24)) fun (r24 : Int32 × Ob) => some ((r24.1), (r24.2))) else (zlet (si r1 24 (gi r1 26)) fun (o3 : Ob) => zlet (((4 : Int32) * (gi o3 37))) fun (x4 : Int32) => Option.bind (pX11_takeNumber o3 (0 : Int32) (399 : Int32)) fun (r5 : Int32 × Ob) => zjn (fun (x6 : Int32) (o7 : Ob) => lwM2 x4 x6 o7) fun (K115 : Int32 → Ob → Option (Int32 × Ob)) => zjn (K115 (r5.1) (r5.2)) fun (K114 : Option (Int32 × Ob)) => if (r5.1) = 0 then (if (gi (r5.2) 37) ≤ 0 then (K114) else (zgd (x4 - (4 : Int32)) 24 <| if (ga (r5.2) 38 ((x4 - (4 : Int32)).toNatClampNeg)) < (gi (r5.2) 27) then (K114) else (Option.bind (pX11_fails (r5.2) (4 : Int32) (gi (r5.2) 28)) fun (r23 : Int32 × Ob) => K115 (r23.1) (r23.2)))) else (K114))) else (Option.bind (pX11_fails r1 (1 : Int32) (gi r1 24)) fun (r25 : Int32 × Ob) => some ((r25.1), (r25.2))) := rfl
set_option maxHeartbeats 4000000 in
theorem t_law {n : Nat} {tb : Nat → Nat} {ot m od ow : Ob} {p t a : Nat} {l : LD} (hl : OKL l) (hT : TX n tb ot m) (hr : RdS od p t) (ha : gi m 24 = nI a) (han : a ≤ n) (hp : rn isB n tb a = p) (hC : CL l ow) (hM : MRL l m) :
    ClOut n tb a m (lwA od ot ow) (pX11_takeLaw m) (LwG l) := by
  have hn := hT.1
  have h6 := hl.1
  have hpa : a ≤ p := by rw [← hp]; exact rn_ge _ _ _ _
  obtain ⟨m1, w1, w2, w3, w4, w5⟩ := m_word hT ha han
  rw [hp] at w2 w3 w4
  have hpn : p ≤ n := by rw [← hp]; exact rn_le han
  have k37 : gi m1 37 = nI l.L := by rw [(w5 37 (by decide)).1]; exact hM.1
  have k38 : ga m1 38 = ga m 38 := (w5 38 (by decide)).2.2.1
  have rf : ∀ (f : Nat), pX11_fails m1 (nI f) (gi m1 24) = some (nI f, si m1 23 (nI p)) := fun f => by
    unfold pX11_fails
    rw [w2, u_let]
  by_cases g : isW n tb 7 p
  · obtain ⟨od1, s1, s2⟩ := (h_word hT hr hpn (w := 7) (by omega)).1 g
    have hL : rn isL n tb p = p + wlen 7 := g.1
    have hLn : p + wlen 7 ≤ n := by rw [← hL]; exact rn_le hpn
    have eA : lwA od ot ow = pX4_readClause ow od1 ot := by
      unfold lwA
      rw [s1, u_bd]
      exact if_neg (show ¬ nI 1 = (0 : Int32) by decide)
    rw [eA]
    by_cases hS : l.L = 6
    · right
      obtain ⟨od2, r1, r2⟩ := h_refTaken (ot := ot) (f := 3) s2 (by omega) (by omega)
      refine ⟨3, p, ow, od2, si m1 23 (nI p), ?_, ?_, r2, rfl, frm_si (frm_mono w5 (by decide)) (by decide) _⟩
      · rw [readClause_eq]
        rw [hC.1, if_neg (show ¬ nI l.L < (6 : Int32) by rw [hS]; decide)]
        show Option.bind (pX5_refuseTaken od1 ot (nI 3)) _ = _
        rw [r1, u_bd]
      · rw [takeLaw_eq]
        rw [w1, u_bd, k_from, u_bd, if_pos ((w4 7 (by omega)).mpr g), k37, hS, if_pos (show nI 6 = (6 : Int32) from rfl)]
        show Option.bind (pX11_fails m1 (nI 3) (gi m1 24)) _ = _
        rw [rf, u_bd]
    · have hL6 : l.L < 6 := by omega
      have fO : frm kO m (si m1 24 (gi m1 26)) := frm_si (frm_mono w5 (by decide)) (by decide) _
      have a1 : gi (si m1 24 (gi m1 26)) 24 = nI (p + wlen 7) := by rw [gi_si, if_pos rfl, w3, hL]
      have q37 : gi (si m1 24 (gi m1 26)) 37 = nI l.L := by rw [gi_si, if_neg (by decide)]; exact k37
      have lt6 : nI l.L < (6 : Int32) := nI_lt (b := 6) hL6 (by omega)
      rcases t_num (lo := 0) (h := 400) (TX_frm hT fO (by decide) (by decide)) s2 a1 hLn rfl (by omega) (by omega) with ⟨v, e1, od2, m2, x1, x2, x3, x4, x5, x6, x7, x8, x9, x10, x11⟩ | ⟨f, od2, m2, x1, x2, x3, x4, x5⟩
      · have z37 : gi m2 37 = nI l.L := by rw [(x11 37 (by decide)).1]; exact q37
        have z38 : ga m2 38 = ga m 38 := by rw [(x11 38 (by decide)).2.2.1, ga_si]; exact k38
        have ge7 := rn_ge isB n tb (p + wlen 7)
        -- the class as far as the order of days
        have preC : ∀ A, (zjn (fun (o4 : Ob) => lwC2 ot (sa ow 1 (upd (ga ow 1) l.L (nI v))) o4) fun (K74 : Ob → Option (Ob × Ob)) => if (nI 1 : Int32) = 0 then (K74 od2) else (if (gi (sa ow 1 (upd (ga ow 1) l.L (nI v))) 0) ≤ 0 then (K74 od2) else (zgd (gi (sa ow 1 (upd (ga ow 1) l.L (nI v))) 0) 6 <| zgd ((gi (sa ow 1 (upd (ga ow 1) l.L (nI v))) 0) - (1 : Int32)) 6 <| if (ga (sa ow 1 (upd (ga ow 1) l.L (nI v))) 1 (((gi (sa ow 1 (upd (ga ow 1) l.L (nI v))) 0) - (1 : Int32)).toNatClampNeg)) < (ga (sa ow 1 (upd (ga ow 1) l.L (nI v))) 1 ((gi (sa ow 1 (upd (ga ow 1) l.L (nI v))) 0).toNatClampNeg)) then (K74 od2) else (Option.bind (pX5_refuseTaken od2 ot (4 : Int32)) fun (r13 : Ob) => K74 r13)))) = A → pX4_readClause ow od1 ot = A := by
          intro A hA
          rw [readClause_eq]
          rw [hC.1, if_pos lt6, l399]
          show Option.bind (pX5_takeNumber od1 ot (nI 0) (nO 400)) _ = _
          rw [x1, u_bd, u_gd (by omega), nI_clamp (by omega), u_let]
          dsimp only
          rw [h_soundS x7, u_bd]
          exact hA
        have preM : ∀ B, (zjn (fun (x6 : Int32) (o7 : Ob) => lwM2 (nI (4 * l.L)) x6 o7) fun (K115 : Int32 → Ob → Option (Int32 × Ob)) => zjn (K115 (nI 0) m2) fun (K114 : Option (Int32 × Ob)) => if (nI 0 : Int32) = 0 then (if (gi m2 37) ≤ 0 then (K114) else (zgd (nI (4 * l.L) - (4 : Int32)) 24 <| if (ga m2 38 ((nI (4 * l.L) - (4 : Int32)).toNatClampNeg)) < (gi m2 27) then (K114) else (Option.bind (pX11_fails m2 (4 : Int32) (gi m2 28)) fun (r23 : Int32 × Ob) => K115 (r23.1) (r23.2)))) else (K114)) = B → pX11_takeLaw m = B := by
          intro B hB
          rw [takeLaw_eq]
          rw [w1, u_bd, k_from, u_bd, if_pos ((w4 7 (by omega)).mpr g), k37, if_neg (show ¬ nI l.L = (6 : Int32) from fun r => hS ((nI_eq (a := l.L) (b := 6) (by omega) (by omega)).mp r)), u_let, q37, l399, show (4 : Int32) * nI l.L = nI (4 * l.L) from pk_mul _ _, u_let]
          show Option.bind (pX11_takeNumber (si m1 24 (gi m1 26)) (nI 0) (nO 400)) _ = _
          rw [x2, u_bd]
          exact hB
        have l24 : ∀ i, i < l.L → 4 * i + 3 < 24 := fun i hi => by omega
        by_cases go : 0 < l.L → l.fr (l.L - 1) < v
        · -- in order
          have f1 : frm kO m (sa m2 38 (upd (ga m2 38) (4 * l.L) (nI v))) := frm_sa (frm_tr fO (frm_mono x11 (by decide))) (by decide) _
          have q := ClOut_frm f1 (t_l2 (p0 := a) (od := od2) (ow := sa ow 1 (upd (ga ow 1) l.L (nI v))) hl hL6 x4 go (TX_frm hT f1 (by decide) (by decide)) x7 (show gi _ 24 = nI e1 by rw [gi_sa]; exact x8) x6 rfl (by omega) (by rw [gi_sa]; exact z37)
            (fun i hi => by
              rw [ga_sa, if_pos rfl, z38, upd_ap, upd_ap, upd_ap, upd_ap, if_neg (by omega), if_neg (by omega), if_neg (by omega), if_neg (by omega)]
              exact hM.2 i hi)
            (by rw [ga_sa, if_pos rfl, upd_ap, if_pos rfl])
            hC.1
            (fun i hi => by
              simp only [ga_sa, Nat.reduceEqDiff, if_false, if_true, upd_ap]
              rw [if_neg (by omega)]
              exact hC.2 i hi)
            (by rw [ga_sa, if_pos rfl, upd_ap, if_pos rfl]))
          have eC : pX4_readClause ow od1 ot = lwC2 ot (sa ow 1 (upd (ga ow 1) l.L (nI v))) od2 := by
            refine preC _ ?_
            rw [u_jn, if_neg (show ¬ (nI 1 : Int32) = 0 by decide), gi_sa, hC.1]
            rcases Nat.eq_zero_or_pos l.L with z | z
            · rw [z, if_pos (show nI 0 ≤ (0 : Int32) by decide)]
            · have e := (hC.2 (l.L - 1) (by omega)).1
              have b := (hl.2.1 (l.L - 1) (by omega)).1
              have o := go z
              rw [if_neg (nI_nle z (by omega)), u_gd (by omega), show nI l.L - (1 : Int32) = nI (l.L - 1) from pk_sub (a := l.L) (b := 1) (by omega), u_gd (by omega), nI_clamp (by omega), nI_clamp (by omega), ga_sa, if_pos rfl, upd_ap, upd_ap, if_neg (show ¬ l.L - 1 = l.L by omega), if_pos (show l.L = l.L from rfl), e, if_pos (nI_lt o (by omega))]
          have eM : pX11_takeLaw m = (Option.bind (pX11_takeNumber (sa m2 38 (upd (ga m2 38) (4 * l.L) (nI v))) (0 : Int32) (6 : Int32)) fun (r22 : Int32 × Ob) => lwM3 (nI (4 * l.L)) (r22.1) (r22.2)) := by
            have fin : lwM2 (nI (4 * l.L)) (nI 0) m2 = (Option.bind (pX11_takeNumber (sa m2 38 (upd (ga m2 38) (4 * l.L) (nI v))) (0 : Int32) (6 : Int32)) fun (r22 : Int32 × Ob) => lwM3 (nI (4 * l.L)) (r22.1) (r22.2)) := by
              unfold lwM2
              rw [u_gd (by omega), nI_clamp (by omega), u_let, if_pos (u_le0 ▸ trivial), x9]
            refine preM _ ?_
            rw [u_jn, u_jn, if_pos (show (nI 0 : Int32) = 0 from rfl), z37]
            rcases Nat.eq_zero_or_pos l.L with z | z
            · rw [if_pos (show nI l.L ≤ (0 : Int32) by rw [z]; decide)]
              exact fin
            · have e := (hM.2 (l.L - 1) (by omega)).1
              rw [show 4 * (l.L - 1) = 4 * l.L - 4 by omega, ← z38] at e
              have b := (hl.2.1 (l.L - 1) (by omega)).1
              have o := go z
              rw [if_neg (nI_nle z (by omega)), show nI (4 * l.L) - (4 : Int32) = nI (4 * l.L - 4) from pk_sub (a := 4 * l.L) (b := 4) (by omega), u_gd (by omega), nI_clamp (by omega), e, x9, if_pos (nI_lt o (by omega))]
              exact fin
          rw [eC, eM]
          exact q
        · -- not above the one ahead
          right
          have z : 0 < l.L := Classical.byContradiction (fun r => go (fun y => absurd y r))
          have o : v ≤ l.fr (l.L - 1) := Nat.not_lt.mp (fun r => go (fun _ => r))
          have e := (hC.2 (l.L - 1) (by omega)).1
          have e' := (hM.2 (l.L - 1) (by omega)).1
          rw [show 4 * (l.L - 1) = 4 * l.L - 4 by omega] at e'
          have b := (hl.2.1 (l.L - 1) (by omega)).1
          obtain ⟨od3, r1, r2⟩ := h_refTaken (ot := ot) (f := 4) x7 (by omega) (by omega)
          obtain ⟨w, y⟩ := lC2F (ot := ot) (o2 := sa ow 1 (upd (ga ow 1) l.L (nI v))) (L := l.L) r2 hC.1 hL6
          obtain ⟨m', y1, y2⟩ := lM2F (o := si m2 23 (nI (rn isB n tb (p + wlen 7)))) (f := 4) (L := l.L) ⟨by omega, by omega⟩ hL6
          refine ⟨4, rn isB n tb (p + wlen 7), w, od3, m', preC _ ?_, preM _ ?_, r2, ?_, frm_tr (frm_si (frm_tr (kOC fO) (frm_mono x11 (by decide))) (by decide) _) (frm_mono y2 (by decide))⟩
          · rw [u_jn, if_neg (show ¬ (nI 1 : Int32) = 0 by decide), gi_sa, hC.1, if_neg (nI_nle z (by omega)), u_gd (by omega), show nI l.L - (1 : Int32) = nI (l.L - 1) from pk_sub (a := l.L) (b := 1) (by omega), u_gd (by omega), nI_clamp (by omega), nI_clamp (by omega), ga_sa, if_pos rfl, upd_ap, upd_ap, if_neg (show ¬ l.L - 1 = l.L by omega), if_pos (show l.L = l.L from rfl), e, if_neg (nI_nlt o (by omega))]
            show Option.bind (pX5_refuseTaken od2 ot (nI 4)) _ = _
            rw [r1, u_bd]
            exact y
          · rw [u_jn, u_jn, if_pos (show (nI 0 : Int32) = 0 from rfl), z37, if_neg (nI_nle z (by omega)), show nI (4 * l.L) - (4 : Int32) = nI (4 * l.L - 4) from pk_sub (a := 4 * l.L) (b := 4) (by omega), u_gd (by omega), nI_clamp (by omega), z38, e', x9, if_neg (nI_nlt o (by omega))]
            show Option.bind (pX11_fails m2 (nI 4) (gi m2 28)) _ = _
            unfold pX11_fails
            rw [x10, u_let, u_bd]
            exact y1
          · rw [(y2 23 (by decide)).1, gi_si, if_pos rfl]
      · -- a fault in the day
        right
        have hf := x3
        obtain ⟨f0, f4, _, _⟩ := x3
        obtain ⟨w, y⟩ := lC2F (ot := ot) (o2 := sa ow 1 (upd (ga ow 1) l.L (nI 0))) (L := l.L) hf hC.1 hL6
        obtain ⟨m', y1, y2⟩ := lM2F (o := m2) (f := f) (L := l.L) ⟨f0, f4⟩ hL6
        refine ⟨f, rn isB n tb (p + wlen 7), w, od2, m', ?_, ?_, hf, ?_, frm_tr (frm_tr (kOC fO) (frm_mono x5 (by decide))) (frm_mono y2 (by decide))⟩
        · rw [readClause_eq]
          rw [hC.1, if_pos lt6, l399]
          show Option.bind (pX5_takeNumber od1 ot (nI 0) (nO 400)) _ = _
          rw [x1, u_bd, u_gd (by omega), nI_clamp (by omega), u_let]
          dsimp only
          rw [h_soundF hf, u_bd, u_jn, if_pos (show nI 0 = (0 : Int32) from rfl)]
          exact y
        · rw [takeLaw_eq]
          rw [w1, u_bd, k_from, u_bd, if_pos ((w4 7 (by omega)).mpr g), k37, if_neg (show ¬ nI l.L = (6 : Int32) from fun r => hS ((nI_eq (a := l.L) (b := 6) (by omega) (by omega)).mp r)), u_let, q37, l399, show (4 : Int32) * nI l.L = nI (4 * l.L) from pk_mul _ _, u_let]
          show Option.bind (pX11_takeNumber (si m1 24 (gi m1 26)) (nI 0) (nO 400)) _ = _
          rw [x2, u_bd, u_jn, u_jn]
          dsimp only
          rw [if_neg (nI_ne0 f0 (by omega))]
          exact y1
        · rw [(y2 23 (by decide)).1]; exact x4
  · have nw := (h_word hT hr hpn (w := 7) (by omega)).2 g
    right
    obtain ⟨od2, r1, r2⟩ := h_refHere (ot := ot) (f := 1) hr (by omega) (by omega)
    refine ⟨1, p, ow, od2, si m1 23 (nI p), ?_, ?_, r2, rfl, frm_si (frm_mono w5 (by decide)) (by decide) _⟩
    · unfold lwA
      rw [nw, u_bd]
      dsimp only
      rw [if_pos (show nI 0 = (0 : Int32) from rfl)]
      show Option.bind (pX5_refuseHere od ot (nI 1)) _ = _
      rw [r1, u_bd]
    · rw [takeLaw_eq]
      rw [w1, u_bd, k_from, u_bd, if_neg (fun r => g ((w4 7 (by omega)).mp r))]
      show Option.bind (pX11_fails m1 (nI 1) (gi m1 24)) _ = _
      rw [rf, u_bd]
theorem law_step {ot ow od : Ob} {f i : Nat} (hi : i < 500) (hm : pX5_hasMore od ot = some (nI 1)) : lX4_readFrom_7 ot (f + 1) (nI i) od ow = Option.bind (lwA od ot ow) fun r => lX4_readFrom_7 ot f (nI (i + 1)) r.2 r.1 := by
  rw [lX4_readFrom_7, if_neg (show ¬ (500 : Int32) ≤ nI i from nI_ge (b := 500) hi (by omega)), hm, u_bd1]
  unfold lwA
  cases h0 : pX5_takesWord 7 od ot with
  | none => rfl
  | some r7 =>
    rw [u_bd, u_bd, u_jn]
    by_cases g : r7.1 = 0
    · rw [if_pos g, if_pos g]
      cases h2 : pX5_refuseHere r7.2 ot 1 with
      | none => rfl
      | some r12 =>
        rw [u_bd, u_bd, u_bd]
        dsimp only
        rw [u_let, show nI i + (1 : Int32) = nI (i + 1) from nI_add _ _]
    · rw [if_neg g, if_neg g]
      cases h2 : pX4_readClause ow r7.2 ot with
      | none => rfl
      | some r14 =>
        rw [u_bd, u_bd]
        dsimp only
        rw [u_let, show nI i + (1 : Int32) = nI (i + 1) from nI_add _ _]
theorem law_loop2 {n : Nat} {tb : Nat → Nat} {ot m0 : Ob} (hT0 : TX n tb ot m0) : ∀ k a i f f' t (ow od m : Ob) (l : LD), n - a ≤ k → i ≤ a → a ≤ n → 500 - i < f → k < f' → OKL l → CL l ow → MRL l m → RdS od (rn isB n tb a) t → gi m 24 = nI a → frm kO m0 m →
    (∃ l' ow' od' m', lX4_readFrom_7 ot f (nI i) od ow = some (ow', od') ∧ (∀ K : Int32 → Ob → Option (Int32 × Ob), lX11_laws_30 K f' (nI 0) m = K (nI 0) m') ∧ OKL l' ∧ CL l' ow' ∧ MRL l' m' ∧ gi od' 1 = nI 0 ∧ gi od' 2 = -(nI 1) ∧ frm kO m0 m') ∨ (∃ g q ow' od' m', lX4_readFrom_7 ot f (nI i) od ow = some (ow', od') ∧ (∀ K : Int32 → Ob → Option (Int32 × Ob), lX11_laws_30 K f' (nI 0) m = K (nI g) m') ∧ RdF od' g q ∧ gi m' 23 = nI q ∧ frm kC m0 m') := by
  intro k
  induction k with
  | zero =>
    intro a i f f' t ow od m l h1 h2 h3 h4 h5 hl hC hM hr ha hf
    have hn := hT0.1
    have hT := TX_frm hT0 hf (by decide) (by decide)
    obtain ⟨f, rfl⟩ : ∃ g, f = g + 1 := ⟨f - 1, by omega⟩
    obtain ⟨f', rfl⟩ : ∃ g, f' = g + 1 := ⟨f' - 1, by omega⟩
    have e1 : rn isB n tb a = a := rn_no (fun q => by omega)
    obtain ⟨m', b1, b2, b3⟩ := m_here hT ha h3
    rw [e1] at b1 b2 hr
    have e2 : tO n tb a = 0 := by unfold tO; rw [if_neg (by omega)]
    rw [e2] at b1
    left
    refine ⟨l, ow, od, m', ?_, fun K => ?_, hl, hC, MRL_frm hM b3 (by decide) (by decide), hr.1, hr.2.1, frm_tr hf (frm_mono b3 (by decide))⟩
    · have hm : pX5_hasMore od ot = some (nI 0) := by
        unfold pX5_hasMore
        rw [hr.1, if_pos (show nI 0 = (0 : Int32) from rfl), hT.2.1, hr.2.2.1, if_pos (nI_le (by omega) (by omega))]
        rfl
      rw [lX4_readFrom_7]
      by_cases z : i < 500
      · rw [if_neg (show ¬ (500 : Int32) ≤ nI i from nI_ge (b := 500) z (by omega)), hm, u_bd0]
      · rw [if_pos (show (500 : Int32) ≤ nI i from nI_le (a := 500) (by omega) (by omega))]
    · rw [lX11_laws_30, if_pos (show nI 0 = (0 : Int32) from rfl), b1, u_bd]
      exact if_pos (show nO 0 < (0 : Int32) by decide)
  | succ k ih =>
    intro a i f f' t ow od m l h1 h2 h3 h4 h5 hl hC hM hr ha hf
    have hn := hT0.1
    have hT := TX_frm hT0 hf (by decide) (by decide)
    obtain ⟨f, rfl⟩ : ∃ g, f = g + 1 := ⟨f - 1, by omega⟩
    obtain ⟨f', rfl⟩ : ∃ g, f' = g + 1 := ⟨f' - 1, by omega⟩
    obtain ⟨m1, b1, b2, b3⟩ := m_here hT ha h3
    have hpn := rn_le (P := isB) (tb := tb) h3
    have hpa := rn_ge isB n tb a
    have hM1 : MRL l m1 := MRL_frm hM b3 (by decide) (by decide)
    have hf1 : frm kO m0 m1 := frm_tr hf (frm_mono b3 (by decide))
    rcases Nat.lt_or_ge (rn isB n tb a) n with z | z
    · have e2 : tO n tb (rn isB n tb a) = tb (rn isB n tb a) + 1 := by unfold tO; rw [if_pos z]
      rw [e2, nO_s] at b1
      have tl := (hT.2.2.2 _ z).1
      have hm : pX5_hasMore od ot = some (nI 1) := by
        unfold pX5_hasMore
        rw [hr.1, if_pos (show nI 0 = (0 : Int32) from rfl), hT.2.1, hr.2.2.1, if_neg (nI_ge (by omega) (by omega))]
        rfl
      have sC := law_step (ow := ow) (f := f) (i := i) (by omega) hm
      have sM : ∀ K : Int32 → Ob → Option (Int32 × Ob), lX11_laws_30 K (f' + 1) (nI 0) m = Option.bind (pX11_takeLaw m1) fun (r31 : Int32 × Ob) => lX11_laws_30 K f' (r31.1) (r31.2) := by
        intro K
        rw [lX11_laws_30, if_pos (show nI 0 = (0 : Int32) from rfl), b1, u_bd]
        exact if_neg (show ¬ nI (tb (rn isB n tb a)) < (0 : Int32) from nI_nlt (b := 0) (by omega) (by omega))
      rcases t_law hl (TX_frm hT0 hf1 (by decide) (by decide)) hr b2 hpn (rn_idem _ _ _ _) hC hM1 with ⟨e, t', ow', od', m', x1, x2, ⟨l', x3, x4, x5⟩, x6, x7, x8, x9, x10⟩ | ⟨g, q, ow', od', m', x1, x2, x3, x4, x5⟩
      · rw [x1, u_bd] at sC
        rcases ih e (i + 1) f f' t' ow' od' m' l' (by omega) (by omega) x9 (by omega) (by omega) x3 x4 x5 x6 x7 (frm_tr hf1 x10) with ⟨c2, oc2, od2, m2, y1, y2, y3⟩ | ⟨g, q, oc2, od2, m2, y1, y2, y3⟩
        · left
          refine ⟨c2, oc2, od2, m2, sC.trans y1, fun K => ?_, y3⟩
          rw [sM, x2, u_bd]
          exact y2 K
        · right
          refine ⟨g, q, oc2, od2, m2, sC.trans y1, fun K => ?_, y3⟩
          rw [sM, x2, u_bd]
          exact y2 K
      · right
        rw [x1, u_bd] at sC
        obtain ⟨f0, f4, g1, g2⟩ := x3
        obtain ⟨f, rfl⟩ : ∃ g, f = g + 1 := ⟨f - 1, by omega⟩
        refine ⟨g, q, ow', od', m', ?_, fun K => ?_, ⟨f0, f4, g1, g2⟩, x4, frm_tr (kOC hf1) x5⟩
        · rw [sC, lX4_readFrom_7]
          have hm2 : pX5_hasMore od' ot = some (nI 0) := by
            unfold pX5_hasMore
            rw [g1, if_neg (nI_ne0 f0 (by omega))]
            rfl
          by_cases y : i + 1 < 500
          · rw [if_neg (show ¬ (500 : Int32) ≤ nI (i + 1) from nI_ge (b := 500) y (by omega)), hm2, u_bd0]
          · rw [if_pos (show (500 : Int32) ≤ nI (i + 1) from nI_le (a := 500) (by omega) (by omega))]
        · rw [sM, x2, u_bd]
          obtain ⟨f', rfl⟩ : ∃ g, f' = g + 1 := ⟨f' - 1, by omega⟩
          rw [lX11_laws_30, if_neg (nI_ne0 f0 (by omega))]
    · have e2 : tO n tb (rn isB n tb a) = 0 := by unfold tO; rw [if_neg (by omega)]
      rw [e2] at b1
      left
      refine ⟨l, ow, od, m1, ?_, fun K => ?_, hl, hC, hM1, hr.1, hr.2.1, hf1⟩
      · have hm : pX5_hasMore od ot = some (nI 0) := by
          unfold pX5_hasMore
          rw [hr.1, if_pos (show nI 0 = (0 : Int32) from rfl), hT.2.1, hr.2.2.1, if_pos (nI_le (by omega) (by omega))]
          rfl
        rw [lX4_readFrom_7]
        by_cases z : i < 500
        · rw [if_neg (show ¬ (500 : Int32) ≤ nI i from nI_ge (b := 500) z (by omega)), hm, u_bd0]
        · rw [if_pos (show (500 : Int32) ≤ nI i from nI_le (a := 500) (by omega) (by omega))]
      · rw [lX11_laws_30, if_pos (show nI 0 = (0 : Int32) from rfl), b1, u_bd]
        exact if_pos (show nO 0 < (0 : Int32) by decide)
theorem m_laws73 (m0 : Ob) : ∃ m', lX11_laws_73 zfu 0 m0 = some (gi m0 8, m') ∧ (∀ s, s < 24 → ga m' 9 s = ga m0 38 s) ∧ frm [9] m0 m' := by
  refine u_loopP (fun f k o => lX11_laws_73 f (nI k) o) (fun n o => (∀ s, s < n → ga o 9 s = ga m0 38 s) ∧ frm [9] m0 o) (fun r => ∃ m', r = some (gi m0 8, m') ∧ (∀ s, s < 24 → ga m' 9 s = ga m0 38 s) ∧ frm [9] m0 m') 24 (fun f k o hk hP => ?_) (fun f o hP => ?_) zfu 0 m0 (by omega) (u_zfu (by omega)) ⟨fun w hw => absurd hw (Nat.not_lt_zero w), frm_rf _ _⟩
  · obtain ⟨p1, p2⟩ := hP
    have g38 : ga o 38 = ga m0 38 := (p2 38 (by decide)).2.2.1
    refine ⟨sa o 9 (upd (ga o 9) k (ga m0 38 k)), ⟨fun w hw => ?_, frm_sa p2 (by decide) _⟩, ?_⟩
    · rw [ga_sa, if_pos rfl, upd_ap]
      by_cases q : w = k
      · rw [if_pos q, q]
      · rw [if_neg q]; exact p1 w (by omega)
    · simp (disch := omega) only [lX11_laws_73, u_let, u_jn, u_bd, u_gz0, u_gz1, u_gd, u_lit, u_leT, u_leF, u_ltT, u_ltF, u_eqT, u_eqF, nI_clamp, nI_add, u_m1, pk_sub, pk_mul, if_true, if_false, ite_true, ite_false, reduceIte, Nat.reduceEqDiff, u_neM, u_bN, u_bNe, g38]
  · have e8 : gi o 8 = gi m0 8 := (hP.2 8 (by decide)).1
    refine ⟨o, ?_, hP⟩
    simp (disch := omega) only [lX11_laws_73, u_let, u_jn, u_bd, u_gz0, u_gz1, u_gd, u_lit, u_leT, u_leF, u_ltT, u_ltF, u_eqT, u_eqF, nI_clamp, nI_add, u_m1, pk_sub, pk_mul, if_true, if_false, ite_true, ite_false, reduceIte, Nat.reduceEqDiff, u_neM, u_bN, u_bNe, e8]
theorem ok_laws {x : Cst} {m : Ob} (h : RR x m) : ∃ (r : Int32 × Nat × Ob × Ob × Ob × Ob × Ob) (u : Int32 × Ob), pX10_laws x.z x.d x.t x.c x.w x.s x.e x.f x.h x.b x.i x.j x.p x.q = some r ∧ pX11_laws m = some u ∧ r.1 = u.1 ∧ RR (r.2.2.1, r.2.2.2.1, r.2.2.2.2.1, x.c, r.2.2.2.2.2.1, x.s, x.e, x.f, x.h, x.b, x.i, x.j, x.p, r.2.2.2.2.2.2) u.2 := by
  have h' := h
  obtain ⟨c, l, d, ⟨A1, A2, A3⟩, ⟨B1, B2, B3⟩, ⟨C1, C2, C3⟩, ⟨n, tb, hT⟩, E1, F1, G1, G2⟩ := h'
  have hT0 : TX n tb x.t m := hT
  have hn := hT0.1
  by_cases g200 : n ≤ 200
  · obtain ⟨od1, t1, s1, s2⟩ := h_start hT0 x.d
    have c200 : gi x.t 1 ≤ (200 : Int32) := by rw [hT0.2.1]; exact nI_le (b := 200) g200 (by omega)
    have m200 : gi m 22 ≤ (200 : Int32) := by rw [hT0.2.2.1]; exact nI_le (b := 200) g200 (by omega)
    have f0 : frm [23, 24, 37] m (si (si (si m 23 (-1)) 24 0) 37 0) := frm_si (frm_si (frm_si (frm_rf _ _) (by decide) _) (by decide) _) (by decide) _
    have c0 : OKL (ldm 0 (fun _ => 0) (fun _ => 0) (fun _ => 0) (fun _ => 0)) := ⟨Nat.zero_le _, fun s hs => absurd hs (Nat.not_lt_zero s), fun s hs => absurd hs (Nat.not_lt_zero _)⟩
    have L := law_loop2 (TX_frm hT0 f0 (by decide) (by decide)) n 0 0 zfu zfu t1 (si x.q 0 0) od1 (si (si (si m 23 (-1)) 24 0) 37 0) _ (by omega) (by omega) (by omega) (u_zfu (by omega)) (u_zfu (by omega)) c0 ⟨rfl, fun s hs => absurd hs (Nat.not_lt_zero s)⟩ ⟨rfl, fun s hs => absurd hs (Nat.not_lt_zero s)⟩ s2 rfl (frm_rf _ _)
    rcases L with ⟨l', ow', od', m', y1, y2, y3, y4, y5, y6, y7, y8⟩ | ⟨g, q, ow', od', m', y1, y2, y3, y4, y5⟩
    · have y2' : ∀ K : Int32 → Ob → Option (Int32 × Ob), lX11_laws_30 K zfu 0 (si (si (si m 23 (-1)) 24 0) 37 0) = K (nI 0) m' := y2
      have h6 := y3.1
      have y1' : pX4_readFrom x.q od1 x.t = some (ow', od') := by
        unfold pX4_readFrom
        rw [u_let]
        exact y1
      obtain ⟨m1, d1, d2, d3⟩ := m_laws73 (si (si m' 22 0) 8 (gi m' 37))
      have fA : frm [8, 9, 22, 23, 24, 25, 26, 27, 28, 29, 30, 31, 32, 33, 34, 35, 36, 37, 38] m m1 := frm_tr (frm_si (frm_si (frm_tr (frm_mono f0 (by decide)) (frm_mono y8 (by decide))) (by decide) _) (by decide) _) (frm_mono d3 (by decide))
      refine ⟨(nI l'.L, 1, si x.z 11 (gi od' 2), od', si x.t 1 0, ow', x.w), (nI l'.L, m1), ?_, ?_, rfl, c, l', d, ⟨A1, y3, A3⟩, ⟨B1, y4, B3⟩, ⟨MC_frm C1 fA (by decide), ⟨?_, fun i hi => ?_⟩, MS_sub C3 fA (by decide)⟩, ⟨0, fun _ => 0, Nat.zero_le _, rfl, ?_, fun i hi => absurd hi (Nat.not_lt_zero i)⟩, ?_, RBook_frm F1 fA (by decide) (by decide), RImg_frm G1 fA (by decide) (by decide) (by decide) (by decide), RImg_frm G2 fA (by decide) (by decide) (by decide) (by decide)⟩
      · unfold pX10_laws
        rw [if_pos c200, s1, u_bd, y1', u_bd, u_let, u_let]
        dsimp only
        rw [if_pos (show gi od' 1 = (0 : Int32) from y6), y4.1]
      · unfold pX11_laws
        rw [if_pos m200, u_let, u_let, u_let, u_jn, y2']
        rw [u_let, if_pos (u_le0 ▸ trivial), u_let, gi_si, if_neg (by decide), d1, gi_si, if_pos rfl, y5.1]
      · rw [(d3 8 (by decide)).1, gi_si, if_pos rfl]; exact y5.1
      · have hi6 : i < 6 := Nat.lt_of_lt_of_le hi h6
        rw [d2 _ (by omega), d2 _ (by omega), d2 _ (by omega), d2 _ (by omega)]
        exact y5.2 i hi
      · show gi m1 22 = nI 0
        rw [(d3 22 (by decide)).1]
        rfl
      · show gi od' 2 = gi m1 23
        rw [(d3 23 (by decide)).1, gi_si, if_neg (by decide), gi_si, if_neg (by decide), (y8 23 (by decide)).1, y7]
        rfl
    · have y2' : ∀ K : Int32 → Ob → Option (Int32 × Ob), lX11_laws_30 K zfu 0 (si (si (si m 23 (-1)) 24 0) 37 0) = K (nI g) m' := y2
      obtain ⟨f0', f4, g1, g2⟩ := y3
      have y1' : pX4_readFrom x.q od1 x.t = some (ow', od') := by
        unfold pX4_readFrom
        rw [u_let]
        exact y1
      have fA : frm [22, 23, 24, 25, 26, 27, 28, 29, 30, 31, 32, 33, 34, 35, 36, 37, 38] m (si m' 22 0) := frm_si (frm_tr (frm_mono f0 (by decide)) (frm_mono y5 (by decide))) (by decide) _
      refine ⟨(-(nI 10) - nI g, 0, si x.z 11 (gi od' 2), od', si x.t 1 0, x.w, ow'), (-(nI 10) - nI g, si m' 22 0), ?_, ?_, rfl, c, l, d, ⟨A1, A2, A3⟩, ⟨B1, B2, B3⟩, ⟨MC_frm C1 fA (by decide), ML_frm C2 fA (by decide) (by decide), MS_sub C3 fA (by decide)⟩, ⟨0, fun _ => 0, Nat.zero_le _, rfl, rfl, fun i hi => absurd hi (Nat.not_lt_zero i)⟩, ?_, RBook_frm F1 fA (by decide) (by decide), RImg_frm G1 fA (by decide) (by decide) (by decide) (by decide), RImg_frm G2 fA (by decide) (by decide) (by decide) (by decide)⟩
      · unfold pX10_laws
        rw [if_pos c200, s1, u_bd, y1', u_bd, u_let, u_let]
        dsimp only
        rw [g1, if_neg (nI_ne0 f0' (by omega))]
        rfl
      · unfold pX11_laws
        rw [if_pos m200, u_let, u_let, u_let, u_jn, y2']
        rw [u_let, if_neg (nI_nle f0' (by omega))]
        rfl
      · show gi od' 2 = gi (si m' 22 0) 23
        rw [gi_si, if_neg (by decide), y4, g2]
  · refine ⟨(-(nI 1000000003), 0, x.z, x.d, x.t, x.w, x.q), (-(nI 1000000003), m), ?_, ?_, rfl, h⟩
    · unfold pX10_laws
      rw [if_neg (show ¬ gi x.t 1 ≤ (200 : Int32) by rw [hT0.2.1]; exact nI_ge (a := 200) (by omega) (by omega))]
      rfl
    · unfold pX11_laws
      rw [if_neg (show ¬ gi m 22 ≤ (200 : Int32) by rw [hT0.2.2.1]; exact nI_ge (a := 200) (by omega) (by omega))]
      rfl
