/-! a clause of the court, the whole text -/
def clA (od ot oc : Ob) : Option (Ob × Ob) := Option.bind (pX5_takesWord 0 od ot) fun (r7 : Int32 × Ob) => if (r7.1) = 0 then (Option.bind (pX5_takesWord 1 (r7.2) ot) fun (r11 : Int32 × Ob) => if (r11.1) = 0 then (Option.bind (pX5_refuseHere (r11.2) ot (1 : Int32)) fun (r12 : Ob) => some (oc, r12)) else (pX2_readWitness oc (r11.2) ot)) else (pX2_readSuit oc (r7.2) ot)
theorem k_suit : pX11_code 115 117 105 116 = some (lN (wcode 0)) := by decide
theorem k_witness : ∀ K : Int64 → Option (Int32 × Ob), (Option.bind (pX11_code 119 105 116 110) fun r11 => Option.bind (pX11_longer r11 101) fun r12 => Option.bind (pX11_longer r12 115) fun r13 => Option.bind (pX11_longer r13 115) fun r14 => K r14) = K (lN (wcode 1)) := by
  intro K
  rw [show pX11_code 119 105 116 110 = some (lN 459824) by decide, u_bd, show pX11_longer (lN 459824) 101 = some (lN 12415253) by decide, u_bd, show pX11_longer (lN 12415253) 115 = some (lN 335211850) by decide, u_bd, show pX11_longer (lN 335211850) 115 = some (lN (wcode 1)) by decide, u_bd]
theorem t_clause {n : Nat} {tb : Nat → Nat} {ot m od oc : Ob} {p t a : Nat} {c : CD} (hc : OKC c) (hT : TX n tb ot m) (hr : RdS od p t) (ha : gi m 24 = nI a) (han : a ≤ n) (hp : rn isB n tb a = p) (hC : CC c oc) (hM : MR c m) :
    ClOut n tb a m (clA od ot oc) (pX11_takeClause m) (fun oc' m' => ∃ c', OKC c' ∧ CC c' oc' ∧ MR c' m') := by
  have hn := hT.1
  have h6 := hc.1
  have h12 := hc.2.1
  have hpa : a ≤ p := by rw [← hp]; exact rn_ge _ _ _ _
  obtain ⟨m1, w1, w2, w3, w4, w5⟩ := m_word hT ha han
  rw [hp] at w2 w3 w4
  have hpn : p ≤ n := by rw [← hp]; exact rn_le han
  have k29 : gi m1 29 = nI c.S := by rw [(w5 29 (by decide)).1]; exact hM.1
  have k33 : gi m1 33 = nI c.W := by rw [(w5 33 (by decide)).1]; exact hM.2.1
  have fO : frm kO m (si m1 24 (gi m1 26)) := frm_si (frm_mono w5 (by decide)) (by decide) _
  have hMO : MR c (si m1 24 (gi m1 26)) := MR_frm hM (frm_si (frm_mono (ls := [24, 25, 26]) w5 (by decide)) (by decide) _) (fun k h1 h2 => by simp only [List.mem_cons, List.not_mem_nil, or_false]; omega)
  have rf : ∀ (f : Nat) (x : Nat), f ≤ 4 → 0 < f → pX11_fails m1 (nI f) (gi m1 24) = some (nI f, si m1 23 (nI p)) := fun f x _ _ => by
    unfold pX11_fails
    rw [w2, u_let]
  by_cases g : isW n tb 0 p
  · obtain ⟨od1, s1, s2⟩ := (h_word hT hr hpn (w := 0) (by omega)).1 g
    have hL : rn isL n tb p = p + wlen 0 := g.1
    have hLn : p + wlen 0 ≤ n := by rw [← hL]; exact rn_le hpn
    have eA : clA od ot oc = pX2_readSuit oc od1 ot := by
      unfold clA
      rw [s1, u_bd]
      exact if_neg (show ¬ nI 1 = (0 : Int32) by decide)
    rw [eA]
    by_cases hS : c.S = 6
    · right
      obtain ⟨od2, r1, r2⟩ := h_refTaken (ot := ot) (f := 3) s2 (by omega) (by omega)
      refine ⟨3, p, oc, od2, si m1 23 (nI p), ?_, ?_, r2, rfl, frm_si (frm_mono w5 (by decide)) (by decide) _⟩
      · unfold pX2_readSuit
        rw [hC.1, if_neg (show ¬ nI c.S < (6 : Int32) by rw [hS]; decide)]
        show Option.bind (pX5_refuseTaken od1 ot (nI 3)) _ = _
        rw [r1, u_bd]
      · unfold pX11_takeClause
        rw [w1, u_bd, k_suit, u_bd, u_jn, if_pos ((w4 0 (by omega)).mpr g)]
        dsimp only
        rw [u_jn, u_jn, u_jn]
        rw [if_neg (show ¬ (1 : Int32) = 0 by decide), if_neg (show ¬ (1 : Int32) = 0 by decide), k29, hS, if_pos (show nI 6 = (6 : Int32) from rfl)]
        show Option.bind (pX11_fails m1 (nI 3) (gi m1 24)) _ = _
        rw [rf 3 0 (by omega) (by omega), u_bd]
    · have q := ClOut_lo (p' := a) (by omega) (ClOut_frm fO (t_suit hc (by omega) (TX_frm hT fO (by decide) (by decide)) s2 (show gi (si m1 24 (gi m1 26)) 24 = nI (p + wlen 0) by rw [gi_si, if_pos rfl, w3, hL]) hLn rfl hC hMO))
      have eB : ∀ B, (Option.bind (pX11_takeSuit (si m1 24 (gi m1 26))) fun (r9 : Int32 × Ob) => if r9.1 ≤ 0 then (Option.bind (pX11_takeStop r9.2) fun (r7 : Int32 × Ob) => some ((r7.1), (r7.2))) else (some (r9.1, r9.2))) = B → pX11_takeClause m = B := by
        intro B hB
        unfold pX11_takeClause
        rw [w1, u_bd, k_suit, u_bd, u_jn, if_pos ((w4 0 (by omega)).mpr g)]
        dsimp only
        rw [u_jn, u_jn, u_jn]
        rw [if_neg (show ¬ (1 : Int32) = 0 by decide), if_neg (show ¬ (1 : Int32) = 0 by decide), k29, if_neg (show ¬ nI c.S = (6 : Int32) from fun r => hS ((nI_eq (a := c.S) (b := 6) (by omega) (by omega)).mp r)), u_let, u_jn, if_neg (show ¬ (1 : Int32) = 0 by decide)]
        exact hB
      rcases q with ⟨e, t', oc', od', m', h1, h2, h3⟩ | ⟨f, r, oc', od', m', h1, h2, h3⟩
      · exact Or.inl ⟨e, t', oc', od', m', h1, eB _ h2, h3⟩
      · exact Or.inr ⟨f, r, oc', od', m', h1, eB _ h2, h3⟩
  · have nw := (h_word hT hr hpn (w := 0) (by omega)).2 g
    by_cases g1 : isW n tb 1 p
    · obtain ⟨od1, s1, s2⟩ := (h_word hT hr hpn (w := 1) (by omega)).1 g1
      have hL : rn isL n tb p = p + wlen 1 := g1.1
      have hLn : p + wlen 1 ≤ n := by rw [← hL]; exact rn_le hpn
      have eA : clA od ot oc = pX2_readWitness oc od1 ot := by
        unfold clA
        rw [nw, u_bd]
        dsimp only
        rw [if_pos (show nI 0 = (0 : Int32) from rfl), s1, u_bd]
        exact if_neg (show ¬ nI 1 = (0 : Int32) by decide)
      rw [eA]
      by_cases hW : c.W = 12
      · right
        obtain ⟨od2, r1, r2⟩ := h_refTaken (ot := ot) (f := 3) s2 (by omega) (by omega)
        refine ⟨3, p, oc, od2, si m1 23 (nI p), ?_, ?_, r2, rfl, frm_si (frm_mono w5 (by decide)) (by decide) _⟩
        · unfold pX2_readWitness
          rw [hC.2.1, if_neg (show ¬ nI c.W < (12 : Int32) by rw [hW]; decide)]
          show Option.bind (pX5_refuseTaken od1 ot (nI 3)) _ = _
          rw [r1, u_bd]
        · unfold pX11_takeClause
          rw [w1, u_bd, k_suit, u_bd, u_jn, if_neg (fun r => g ((w4 0 (by omega)).mp r))]
          dsimp only
          rw [u_jn, u_jn, u_jn]
          rw [if_pos (show (0 : Int32) = 0 from rfl), k_witness, if_pos ((w4 1 (by omega)).mpr g1), if_pos (show (0 : Int32) = 0 from rfl), k33, hW, if_pos (show nI 12 = (12 : Int32) from rfl)]
          show Option.bind (pX11_fails m1 (nI 3) (gi m1 24)) _ = _
          rw [rf 3 0 (by omega) (by omega), u_bd]
      · have q := ClOut_lo (p' := a) (by omega) (ClOut_frm fO (t_witness hc (by omega) (TX_frm hT fO (by decide) (by decide)) s2 (show gi (si m1 24 (gi m1 26)) 24 = nI (p + wlen 1) by rw [gi_si, if_pos rfl, w3, hL]) hLn rfl hC hMO))
        have eB : ∀ B, (Option.bind (pX11_takeWitness (si m1 24 (gi m1 26))) fun (r9 : Int32 × Ob) => if r9.1 ≤ 0 then (Option.bind (pX11_takeStop r9.2) fun (r7 : Int32 × Ob) => some ((r7.1), (r7.2))) else (some (r9.1, r9.2))) = B → pX11_takeClause m = B := by
          intro B hB
          unfold pX11_takeClause
          rw [w1, u_bd, k_suit, u_bd, u_jn, if_neg (fun r => g ((w4 0 (by omega)).mp r))]
          dsimp only
          rw [u_jn, u_jn, u_jn]
          rw [if_pos (show (0 : Int32) = 0 from rfl), k_witness, if_pos ((w4 1 (by omega)).mpr g1), if_pos (show (0 : Int32) = 0 from rfl), k33, if_neg (show ¬ nI c.W = (12 : Int32) from fun r => hW ((nI_eq (a := c.W) (b := 12) (by omega) (by omega)).mp r)), u_let, u_jn, if_pos (show (0 : Int32) = 0 from rfl)]
          exact hB
        rcases q with ⟨e, t', oc', od', m', h1, h2, h3⟩ | ⟨f, r, oc', od', m', h1, h2, h3⟩
        · exact Or.inl ⟨e, t', oc', od', m', h1, eB _ h2, h3⟩
        · exact Or.inr ⟨f, r, oc', od', m', h1, eB _ h2, h3⟩
    · right
      obtain ⟨od2, r1, r2⟩ := h_refHere (ot := ot) (f := 1) hr (by omega) (by omega)
      refine ⟨1, p, oc, od2, si m1 23 (nI p), ?_, ?_, r2, rfl, frm_si (frm_mono w5 (by decide)) (by decide) _⟩
      · unfold clA
        rw [nw, u_bd]
        dsimp only
        rw [if_pos (show nI 0 = (0 : Int32) from rfl), (h_word hT hr hpn (w := 1) (by omega)).2 g1, u_bd]
        dsimp only
        rw [if_pos (show nI 0 = (0 : Int32) from rfl)]
        show Option.bind (pX5_refuseHere od ot (nI 1)) _ = _
        rw [r1, u_bd]
      · unfold pX11_takeClause
        rw [w1, u_bd, k_suit, u_bd, u_jn, if_neg (fun r => g ((w4 0 (by omega)).mp r))]
        dsimp only
        rw [u_jn, u_jn, u_jn]
        rw [if_pos (show (0 : Int32) = 0 from rfl), k_witness, if_neg (fun r => g1 ((w4 1 (by omega)).mp r))]
        show Option.bind (pX11_fails m1 (nI 1) (gi m1 24)) _ = _
        rw [rf 1 0 (by omega) (by omega), u_bd]
theorem court_step {ot oc od : Ob} {f i : Nat} (hi : i < 500) (hm : pX5_hasMore od ot = some (nI 1)) : lX2_readFrom_12 ot (f + 1) (nI i) oc od = Option.bind (clA od ot oc) fun r => lX2_readFrom_12 ot f (nI (i + 1)) r.1 r.2 := by
  rw [lX2_readFrom_12, if_neg (show ¬ (500 : Int32) ≤ nI i from nI_ge (b := 500) hi (by omega)), hm, u_bd1]
  unfold clA
  cases h0 : pX5_takesWord 0 od ot with
  | none => rfl
  | some r7 =>
    rw [u_bd, u_bd, u_jn]
    by_cases g : r7.1 = 0
    · rw [if_pos g, if_pos g]
      cases h1 : pX5_takesWord 1 r7.2 ot with
      | none => rfl
      | some r11 =>
        rw [u_bd, u_bd]
        by_cases g1 : r11.1 = 0
        · rw [if_pos g1, if_pos g1]
          cases h2 : pX5_refuseHere r11.2 ot 1 with
          | none => rfl
          | some r12 =>
            rw [u_bd, u_bd, u_bd]
            dsimp only
            rw [u_let, show nI i + (1 : Int32) = nI (i + 1) from nI_add _ _]
        · rw [if_neg g1, if_neg g1]
          cases h2 : pX2_readWitness oc r11.2 ot with
          | none => rfl
          | some r13 =>
            rw [u_bd, u_bd]
            dsimp only
            rw [u_let, show nI i + (1 : Int32) = nI (i + 1) from nI_add _ _]
    · rw [if_neg g, if_neg g]
      cases h2 : pX2_readSuit oc r7.2 ot with
      | none => rfl
      | some r14 =>
        rw [u_bd, u_bd]
        dsimp only
        rw [u_let, show nI i + (1 : Int32) = nI (i + 1) from nI_add _ _]
theorem court_loop {n : Nat} {tb : Nat → Nat} {ot m0 : Ob} (hT0 : TX n tb ot m0) : ∀ k a i f f' t (oc od m : Ob) (c : CD), n - a ≤ k → i ≤ a → a ≤ n → 500 - i < f → k < f' → OKC c → CC c oc → MR c m → RdS od (rn isB n tb a) t → gi m 24 = nI a → frm kO m0 m →
    (∃ c' oc' od' m', lX2_readFrom_12 ot f (nI i) oc od = some (oc', od') ∧ (∀ K : Int32 → Ob → Option (Int32 × Ob), lX11_court_22 K f' (nI 0) m = K (nI 0) m') ∧ OKC c' ∧ CC c' oc' ∧ MR c' m' ∧ gi od' 1 = nI 0 ∧ gi od' 2 = -(nI 1) ∧ frm kO m0 m') ∨ (∃ g q oc' od' m', lX2_readFrom_12 ot f (nI i) oc od = some (oc', od') ∧ (∀ K : Int32 → Ob → Option (Int32 × Ob), lX11_court_22 K f' (nI 0) m = K (nI g) m') ∧ RdF od' g q ∧ gi m' 23 = nI q ∧ frm kC m0 m') := by
  intro k
  induction k with
  | zero =>
    intro a i f f' t oc od m c h1 h2 h3 h4 h5 hc hC hM hr ha hf
    have hn := hT0.1
    have hT := TX_frm hT0 hf (by decide) (by decide)
    obtain ⟨f, rfl⟩ : ∃ g, f = g + 1 := ⟨f - 1, by omega⟩
    obtain ⟨f', rfl⟩ : ∃ g, f' = g + 1 := ⟨f' - 1, by omega⟩
    have e1 : rn isB n tb a = a := rn_no (fun q => by omega)
    obtain ⟨m', b1, b2, b3⟩ := m_here hT ha h3
    rw [e1] at b1 b2 hr
    have e2 : tO n tb a = 0 := by unfold tO; rw [if_neg (by omega)]
    rw [e2] at b1
    left
    refine ⟨c, oc, od, m', ?_, fun K => ?_, hc, hC, MR_frm hM b3 (fun k h1 h2 => by simp only [List.mem_cons, List.not_mem_nil, or_false]; omega), hr.1, hr.2.1, frm_tr hf (frm_mono b3 (by decide))⟩
    · have hm : pX5_hasMore od ot = some (nI 0) := by
        unfold pX5_hasMore
        rw [hr.1, if_pos (show nI 0 = (0 : Int32) from rfl), hT.2.1, hr.2.2.1, if_pos (nI_le (by omega) (by omega))]
        rfl
      rw [lX2_readFrom_12]
      by_cases z : i < 500
      · rw [if_neg (show ¬ (500 : Int32) ≤ nI i from nI_ge (b := 500) z (by omega)), hm, u_bd0]
      · rw [if_pos (show (500 : Int32) ≤ nI i from nI_le (a := 500) (by omega) (by omega))]
    · rw [lX11_court_22, if_pos (show nI 0 = (0 : Int32) from rfl), b1, u_bd]
      exact if_pos (show nO 0 < (0 : Int32) by decide)
  | succ k ih =>
    intro a i f f' t oc od m c h1 h2 h3 h4 h5 hc hC hM hr ha hf
    have hn := hT0.1
    have hT := TX_frm hT0 hf (by decide) (by decide)
    obtain ⟨f, rfl⟩ : ∃ g, f = g + 1 := ⟨f - 1, by omega⟩
    obtain ⟨f', rfl⟩ : ∃ g, f' = g + 1 := ⟨f' - 1, by omega⟩
    obtain ⟨m1, b1, b2, b3⟩ := m_here hT ha h3
    have hpn := rn_le (P := isB) (tb := tb) h3
    have hpa := rn_ge isB n tb a
    have hM1 : MR c m1 := MR_frm hM b3 (fun k h1 h2 => by simp only [List.mem_cons, List.not_mem_nil, or_false]; omega)
    have hf1 : frm kO m0 m1 := frm_tr hf (frm_mono b3 (by decide))
    rcases Nat.lt_or_ge (rn isB n tb a) n with z | z
    · have e2 : tO n tb (rn isB n tb a) = tb (rn isB n tb a) + 1 := by unfold tO; rw [if_pos z]
      rw [e2, nO_s] at b1
      have tl := (hT.2.2.2 _ z).1
      have hm : pX5_hasMore od ot = some (nI 1) := by
        unfold pX5_hasMore
        rw [hr.1, if_pos (show nI 0 = (0 : Int32) from rfl), hT.2.1, hr.2.2.1, if_neg (nI_ge (by omega) (by omega))]
        rfl
      have sC := court_step (oc := oc) (f := f) (i := i) (by omega) hm
      have sM : ∀ K : Int32 → Ob → Option (Int32 × Ob), lX11_court_22 K (f' + 1) (nI 0) m = Option.bind (pX11_takeClause m1) fun (r31 : Int32 × Ob) => lX11_court_22 K f' (r31.1) (r31.2) := by
        intro K
        rw [lX11_court_22, if_pos (show nI 0 = (0 : Int32) from rfl), b1, u_bd]
        exact if_neg (show ¬ nI (tb (rn isB n tb a)) < (0 : Int32) from nI_nlt (b := 0) (by omega) (by omega))
      rcases t_clause hc (TX_frm hT0 hf1 (by decide) (by decide)) hr b2 hpn (rn_idem _ _ _ _) hC hM1 with ⟨e, t', oc', od', m', x1, x2, ⟨c', x3, x4, x5⟩, x6, x7, x8, x9, x10⟩ | ⟨g, q, oc', od', m', x1, x2, x3, x4, x5⟩
      · rw [x1, u_bd] at sC
        rcases ih e (i + 1) f f' t' oc' od' m' c' (by omega) (by omega) x9 (by omega) (by omega) x3 x4 x5 x6 x7 (frm_tr hf1 x10) with ⟨c2, oc2, od2, m2, y1, y2, y3⟩ | ⟨g, q, oc2, od2, m2, y1, y2, y3⟩
        · left
          refine ⟨c2, oc2, od2, m2, sC.trans y1, fun K => ?_, y3⟩
          rw [sM, x2, u_bd]
          exact y2 K
        · right
          refine ⟨g, q, oc2, od2, m2, sC.trans y1, fun K => ?_, y3⟩
          rw [sM, x2, u_bd]
          exact y2 K
      · right
        rw [x1, u_bd] at sC
        obtain ⟨f0, f4, g1, g2⟩ := x3
        obtain ⟨f, rfl⟩ : ∃ g, f = g + 1 := ⟨f - 1, by omega⟩
        refine ⟨g, q, oc', od', m', ?_, fun K => ?_, ⟨f0, f4, g1, g2⟩, x4, frm_tr (kOC hf1) x5⟩
        · rw [sC, lX2_readFrom_12]
          have hm2 : pX5_hasMore od' ot = some (nI 0) := by
            unfold pX5_hasMore
            rw [g1, if_neg (nI_ne0 f0 (by omega))]
            rfl
          by_cases y : i + 1 < 500
          · rw [if_neg (show ¬ (500 : Int32) ≤ nI (i + 1) from nI_ge (b := 500) y (by omega)), hm2, u_bd0]
          · rw [if_pos (show (500 : Int32) ≤ nI (i + 1) from nI_le (a := 500) (by omega) (by omega))]
        · rw [sM, x2, u_bd]
          obtain ⟨f', rfl⟩ : ∃ g, f' = g + 1 := ⟨f' - 1, by omega⟩
          rw [lX11_court_22, if_neg (nI_ne0 f0 (by omega))]
    · have e2 : tO n tb (rn isB n tb a) = 0 := by unfold tO; rw [if_neg (by omega)]
      rw [e2] at b1
      left
      refine ⟨c, oc, od, m1, ?_, fun K => ?_, hc, hC, hM1, hr.1, hr.2.1, hf1⟩
      · have hm : pX5_hasMore od ot = some (nI 0) := by
          unfold pX5_hasMore
          rw [hr.1, if_pos (show nI 0 = (0 : Int32) from rfl), hT.2.1, hr.2.2.1, if_pos (nI_le (by omega) (by omega))]
          rfl
        rw [lX2_readFrom_12]
        by_cases z : i < 500
        · rw [if_neg (show ¬ (500 : Int32) ≤ nI i from nI_ge (b := 500) z (by omega)), hm, u_bd0]
        · rw [if_pos (show (500 : Int32) ≤ nI i from nI_le (a := 500) (by omega) (by omega))]
      · rw [lX11_court_22, if_pos (show nI 0 = (0 : Int32) from rfl), b1, u_bd]
        exact if_pos (show nO 0 < (0 : Int32) by decide)
