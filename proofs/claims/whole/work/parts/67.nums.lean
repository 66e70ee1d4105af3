/-! numbers -/
def dv (tb : Nat → Nat) (p : Nat) : Nat → Nat
  | 0 => 0
  | k + 1 => 10 * dv tb p k + (tb (p + k) - 48)
def mv (tb : Nat → Nat) (p : Nat) : Nat → Nat
  | 0 => 0
  | k + 1 => if 10000 < mv tb p k then mv tb p k else 10 * mv tb p k + (tb (p + k) - 48)
theorem mv_le {tb : Nat → Nat} {p : Nat} : ∀ k, (∀ i, i < k → 48 ≤ tb (p + i) ∧ tb (p + i) ≤ 57) → mv tb p k ≤ 100009
  | 0, _ => by simp only [mv]; omega
  | k + 1, h => by
    have := mv_le k (fun i hi => h i (by omega))
    have := h k (by omega)
    rw [mv]
    split <;> omega
theorem dv_lt {tb : Nat → Nat} {p : Nat} : ∀ k, k ≤ 3 → (∀ i, i < k → 48 ≤ tb (p + i) ∧ tb (p + i) ≤ 57) → dv tb p k < 10 ^ k ∧ mv tb p k = dv tb p k
  | 0, _, _ => ⟨Nat.zero_lt_one, rfl⟩
  | k + 1, hk, h => by
    obtain ⟨a, b⟩ := dv_lt k (by omega) (fun i hi => h i (by omega))
    have := h k (by omega)
    have h10 : 10 ^ k ≤ 100 := by
      rcases (show k = 0 ∨ k = 1 ∨ k = 2 by omega) with rfl | rfl | rfl <;> decide
    rw [mv, if_neg (by omega), b, dv, Nat.pow_succ]
    exact ⟨by omega, rfl⟩
theorem nO_toInt {h : Nat} (hh : h < 1000000) : (nO h).toInt = (h : Int) - 1 := by
  unfold nO
  rw [pk_sub_toInt (by omega) (by omega)]
  rfl
theorem h_fig {n : Nat} {tb : Nat → Nat} {ot m : Ob} (h : TX n tb ot m) (p : Nat) : (p < n ∧ isF (tb p) = true → pX5_isFigure (nO (tO n tb p)) = some (nI 1)) ∧ (¬ (p < n ∧ isF (tb p) = true) → pX5_isFigure (nO (tO n tb p)) = some (nI 0)) := by
  unfold tO
  by_cases q : p < n
  · rw [if_pos q, nO_s]
    have b := (h.2.2.2 p q).1
    refine ⟨fun z => ?_, fun z => ?_⟩
    · have y := of_decide_eq_true z.2
      simp (disch := omega) only [pX5_isFigure, u_let, u_jn, u_bd, u_gz0, u_gz1, u_gd, u_lit, u_leT, u_leF, u_ltT, u_ltF, u_eqT, u_eqF, nI_clamp, nI_add, u_m1, pk_sub, pk_mul, if_true, if_false, ite_true, ite_false, reduceIte, Nat.reduceEqDiff, u_neM, u_bN, u_bNe]
    · have y : ¬ (48 ≤ tb p ∧ tb p ≤ 57) := fun r => z ⟨q, decide_eq_true r⟩
      by_cases g : tb p < 48
      · simp (disch := omega) only [pX5_isFigure, u_let, u_jn, u_bd, u_gz0, u_gz1, u_gd, u_lit, u_leT, u_leF, u_ltT, u_ltF, u_eqT, u_eqF, nI_clamp, nI_add, u_m1, pk_sub, pk_mul, if_true, if_false, ite_true, ite_false, reduceIte, Nat.reduceEqDiff, u_neM, u_bN, u_bNe]
      · simp (disch := omega) only [pX5_isFigure, u_let, u_jn, u_bd, u_gz0, u_gz1, u_gd, u_lit, u_leT, u_leF, u_ltT, u_ltF, u_eqT, u_eqF, nI_clamp, nI_add, u_m1, pk_sub, pk_mul, if_true, if_false, ite_true, ite_false, reduceIte, Nat.reduceEqDiff, u_neM, u_bN, u_bNe]
  · rw [if_neg q]
    refine ⟨fun z => absurd z.1 q, fun _ => ?_⟩
    decide
def d3 (tb : Nat → Nat) (p k : Nat) : Nat := dv tb p (if k ≤ 3 then k else 3)
/-- the class: the figures at a place -/
theorem h_figs {n : Nat} {tb : Nat → Nat} {ot m : Ob} (h : TX n tb ot m) (od : Ob) {p : Nat} (hp : p ≤ n) (K : Int32 → Int32 → Option (Int32 × Ob)) : lX5_takeNumber_20 od ot K zfu 0 0 (nI p) = K (nI (rn isF n tb p - p)) (nI (d3 tb p (rn isF n tb p - p))) := by
  have hn := h.1
  have hE := rn_le (P := isF) (tb := tb) hp
  have ge := rn_ge isF n tb p
  have dg : ∀ i, i < rn isF n tb p - p → 48 ≤ tb (p + i) ∧ tb (p + i) ≤ 57 := fun i hi => of_decide_eq_true (rn_in (P := isF) (tb := tb) (n := n) (p := p) (i := p + i) (by omega) (by omega)).2
  refine u_loop (fun f k => lX5_takeNumber_20 od ot K f (nI k) (nI (d3 tb p k)) (nI (p + k))) (rn isF n tb p - p) _ (fun f k hk => ?_) (fun f => ?_) zfu 0 (by omega) (u_zfu (by omega))
  · have hin := rn_in (P := isF) (tb := tb) (n := n) (p := p) (i := p + k) (by omega) (by omega)
    have hb := h_byteAt h od (p := p + k) (by omega)
    have hf := (h_fig h (p + k)).1 hin
    have hd := dg k hk
    have e : tO n tb (p + k) = tb (p + k) + 1 := by unfold tO; rw [if_pos hin.1]
    have e2 : h.2.1 = h.2.1 := rfl
    by_cases g : k < 3
    · have b := (dv_lt (tb := tb) (p := p) k (by omega) (fun i hi => dg i (by omega))).1
      have b2 : 10 ^ k ≤ 100 := by
        rcases (show k = 0 ∨ k = 1 ∨ k = 2 by omega) with rfl | rfl | rfl <;> decide
      have v1 : d3 tb p k = dv tb p k := by unfold d3; rw [if_pos (by omega)]
      have v2 : d3 tb p (k + 1) = dv tb p k * 10 + tb (p + k) - 48 := by
        unfold d3; rw [if_pos (by omega), dv]; omega
      rw [v1, v2]
      rw [e, nO_s] at hb hf
      simp (disch := omega) only [lX5_takeNumber_20, u_let, u_jn, u_bd, u_gz0, u_gz1, u_gd, u_lit, u_leT, u_leF, u_ltT, u_ltF, u_eqT, u_eqF, nI_clamp, nI_add, u_m1, pk_sub, pk_mul, if_true, if_false, ite_true, ite_false, reduceIte, Nat.reduceEqDiff, u_neM, u_bN, u_bNe, h.2.1, hb, hf]
      rfl
    · have v1 : d3 tb p k = d3 tb p (k + 1) := by
        unfold d3
        rw [if_neg (show ¬ k + 1 ≤ 3 by omega)]
        by_cases y : k ≤ 3
        · rw [if_pos y, show k = 3 by omega]
        · rw [if_neg y]
      rw [v1]
      simp (disch := omega) only [lX5_takeNumber_20, u_let, u_jn, u_bd, u_gz0, u_gz1, u_gd, u_lit, u_leT, u_leF, u_ltT, u_ltF, u_eqT, u_eqF, nI_clamp, nI_add, u_m1, pk_sub, pk_mul, if_true, if_false, ite_true, ite_false, reduceIte, Nat.reduceEqDiff, u_neM, u_bN, u_bNe, h.2.1, hb, hf]
      rfl
  · have hout := rn_out isF n tb p
    have e : p + (rn isF n tb p - p) = rn isF n tb p := by omega
    have hb := h_byteAt h od (p := rn isF n tb p) (by omega)
    have hf := (h_fig h (rn isF n tb p)).2 hout
    rw [e]
    by_cases y : rn isF n tb p < n
    · simp (disch := omega) only [lX5_takeNumber_20, u_let, u_jn, u_bd, u_gz0, u_gz1, u_gd, u_lit, u_leT, u_leF, u_ltT, u_ltF, u_eqT, u_eqF, nI_clamp, nI_add, u_m1, pk_sub, pk_mul, if_true, if_false, ite_true, ite_false, reduceIte, Nat.reduceEqDiff, u_neM, u_bN, u_bNe, h.2.1, hb, hf]
    · simp (disch := omega) only [lX5_takeNumber_20, u_let, u_jn, u_bd, u_gz0, u_gz1, u_gd, u_lit, u_leT, u_leF, u_ltT, u_ltF, u_eqT, u_eqF, nI_clamp, nI_add, u_m1, pk_sub, pk_mul, if_true, if_false, ite_true, ite_false, reduceIte, Nat.reduceEqDiff, u_neM, u_bN, u_bNe, h.2.1]
/-- the reference: the figures at a place -/
theorem m_figs {n : Nat} {tb : Nat → Nat} {ot m : Ob} (h : TX n tb ot m) {p : Nat} (hp : p ≤ n) (e24 : gi m 24 = nI p) (e27 : gi m 27 = nI 0) : ∃ m', (∀ K : Ob → Option (Int32 × Ob), lX11_takeNumber_42 K zfu m = K m') ∧ gi m' 24 = nI (rn isF n tb p) ∧ gi m' 27 = nI (mv tb p (rn isF n tb p - p)) ∧ frm [24, 27] m m' := by
  have hn := h.1
  have hE := rn_le (P := isF) (tb := tb) hp
  have ge := rn_ge isF n tb p
  have dg : ∀ i, i < rn isF n tb p - p → 48 ≤ tb (p + i) ∧ tb (p + i) ≤ 57 := fun i hi => of_decide_eq_true (rn_in (P := isF) (tb := tb) (n := n) (p := p) (i := p + i) (by omega) (by omega)).2
  refine u_loopP (fun f k o => (fun K : Ob → Option (Int32 × Ob) => lX11_takeNumber_42 K f o)) (fun k o => gi o 24 = nI (p + k) ∧ gi o 27 = nI (mv tb p k) ∧ frm [24, 27] m o) (fun r => ∃ m', (∀ K : Ob → Option (Int32 × Ob), r K = K m') ∧ gi m' 24 = nI (rn isF n tb p) ∧ gi m' 27 = nI (mv tb p (rn isF n tb p - p)) ∧ frm [24, 27] m m') (rn isF n tb p - p) (fun f k o hk hP => ?_) (fun f o hP => ?_) zfu 0 m (by omega) (u_zfu (by omega)) ⟨e24, e27, frm_rf _ _⟩
  · obtain ⟨p1, p2, p3⟩ := hP
    have hT := TX_frm h p3 (by decide) (by decide)
    have e22 := hT.2.2.1
    have hin := rn_in (P := isF) (tb := tb) (n := n) (p := p) (i := p + k) (by omega) (by omega)
    obtain ⟨t1, _, t3⟩ := hT.2.2.2 (p + k) hin.1
    have hd := dg k hk
    have bm := mv_le (tb := tb) (p := p) k (fun i hi => dg i (by omega))
    have e9 : pX11_in (nI (tb (p + k))).toInt64 48 57 = some (nI 1) := good_in (by omega) (by have z : (48 : Int64).toInt = 48 := by decide
                                                                                              omega) (by have z : (57 : Int64).toInt = 57 := by decide
                                                                                                         omega)
    refine ⟨si (si o 27 (nI (mv tb p (k + 1)))) 24 (nI (p + (k + 1))), ⟨rfl, rfl, frm_si (frm_si p3 (by decide) _) (by decide) _⟩, ?_⟩
    funext K
    show lX11_takeNumber_42 K (f + 1) o = _
    rw [lX11_takeNumber_42, e22, p1, if_neg (nI_ge hin.1 (by omega)), u_gd (by omega), nI_clamp (by omega), t3, e9, u_bd1, u_jn, p2, mv]
    by_cases g : mv tb p k ≤ 10000
    · rw [if_neg (show ¬ 10000 < mv tb p k by omega), u_lit, if_pos (nI_le g (by omega)), u_gd (by omega)]
      show (zlet _ _ : Option (Int32 × Ob)) = _
      rw [u_let, u_let, u_lit, u_lit, pk_mul, nI_add, pk_sub (by omega), gi_si, if_neg (by decide), p1, u_lit, nI_add, show 10 * mv tb p k + tb (p + k) - 48 = 10 * mv tb p k + (tb (p + k) - 48) by omega]
      rfl
    · rw [if_pos (show 10000 < mv tb p k by omega), u_lit, if_neg (nI_ge (by omega) (by omega))]
      show (zlet _ _ : Option (Int32 × Ob)) = _
      rw [u_let, u_let, gi_si, if_neg (by decide), p1, u_lit, nI_add]
      rfl
  · obtain ⟨p1, p2, p3⟩ := hP
    have hT := TX_frm h p3 (by decide) (by decide)
    have e22 := hT.2.2.1
    have hout := rn_out isF n tb p
    rw [show p + (rn isF n tb p - p) = rn isF n tb p by omega] at p1
    refine ⟨o, fun K => ?_, p1, p2, p3⟩
    show lX11_takeNumber_42 K (f + 1) o = K o
    by_cases y : rn isF n tb p < n
    · obtain ⟨t1, _, t3⟩ := hT.2.2.2 (rn isF n tb p) y
      have y3 : ¬ (48 ≤ tb (rn isF n tb p) ∧ tb (rn isF n tb p) ≤ 57) := fun r => hout ⟨y, decide_eq_true r⟩
      have e9 : pX11_in (nI (tb (rn isF n tb p))).toInt64 48 57 = some (nI 0) := off_in (by omega) (by have z : (48 : Int64).toInt = 48 := by decide
                                                                                                       have z2 : (57 : Int64).toInt = 57 := by decide
                                                                                                       omega)
      rw [lX11_takeNumber_42, e22, p1, if_neg (nI_ge y (by omega)), u_gd (by omega), nI_clamp (by omega), t3, e9, u_bd0]
    · rw [lX11_takeNumber_42, e22, p1, if_pos (nI_le (by omega) (by omega))]
theorem h_refuse {od ot : Ob} {p t q f : Nat} (hr : RdS od p t) (h0 : 0 < f) (h4 : f ≤ 4) : ∃ od', pX5_refuseAt od ot (nI q) (nI f) = some od' ∧ RdF od' f q := by
  refine ⟨si (si od 1 (nI f)) 2 (nI q), ?_, h0, h4, rfl, rfl⟩
  unfold pX5_refuseAt
  rw [hr.1, if_pos (show nI 0 = (0 : Int32) from rfl), u_let, u_let]
theorem h_refuseF {od ot : Ob} {f q : Nat} (h : RdF od f q) (a b : Int32) : pX5_refuseAt od ot a b = some od := by
  obtain ⟨h0, h4, h1, h2⟩ := h
  unfold pX5_refuseAt
  rw [h1, if_neg (nI_ne0 h0 (by omega))]
theorem h_soundS {od ot : Ob} {p t : Nat} (hr : RdS od p t) : pX5_isSound od ot = some (nI 1) := by
  unfold pX5_isSound
  rw [hr.1]
  rfl
theorem h_soundF {od ot : Ob} {f q : Nat} (h : RdF od f q) : pX5_isSound od ot = some (nI 0) := by
  obtain ⟨h0, h4, h1, h2⟩ := h
  unfold pX5_isSound
  rw [h1, if_neg (nI_ne0 h0 (by omega))]
  rfl
theorem h_numF {od ot : Ob} {f q : Nat} (h : RdF od f q) (a b : Int32) : pX5_takeNumber od ot a b = some (a, od) := by
  unfold pX5_takeNumber
  rw [h_soundF h, u_bd0]
theorem t_num {n : Nat} {tb : Nat → Nat} {ot m od : Ob} {p t a lo h : Nat} (hT : TX n tb ot m) (hr : RdS od p t) (ha : gi m 24 = nI a) (han : a ≤ n) (hp : rn isB n tb a = p) (hlo : lo ≤ 1000) (hh : h ≤ 1000) :
    (∃ v e od' m', pX5_takeNumber od ot (nI lo) (nO h) = some (nI v, od') ∧ pX11_takeNumber m (nI lo) (nO h) = some (nI 0, m') ∧ lo ≤ v ∧ v < h ∧ p < e ∧ e ≤ n ∧ RdS od' (rn isB n tb e) p ∧ gi m' 24 = nI e ∧ gi m' 27 = nI v ∧ gi m' 28 = nI p ∧ frm [24, 27, 28] m m') ∨ (∃ f od' m', pX5_takeNumber od ot (nI lo) (nO h) = some (nI lo, od') ∧ pX11_takeNumber m (nI lo) (nO h) = some (nI f, m') ∧ RdF od' f p ∧ gi m' 23 = nI p ∧ frm [23, 24, 27, 28] m m') := by
  have hn := hT.1
  obtain ⟨m1, a1, a2, a3⟩ := m_here hT ha han
  rw [hp] at a1 a2
  have hpn : p ≤ n := by rw [← hp]; exact rn_le han
  have hE := rn_le (P := isF) (tb := tb) hpn
  have ge := rn_ge isF n tb p
  have hT1 := TX_frm hT a3 (by decide) (by decide)
  have dg : ∀ i, i < rn isF n tb p - p → 48 ≤ tb (p + i) ∧ tb (p + i) ≤ 57 := fun i hi => of_decide_eq_true (rn_in (P := isF) (tb := tb) (n := n) (p := p) (i := p + i) (by omega) (by omega)).2
  have hC := h_figs hT od hpn
  have e3 := hr.2.2.1
  have v48 : (48 : Int64).toInt = 48 := by decide
  have v57 : (57 : Int64).toInt = 57 := by decide
  -- the class behind its figures
  have cls : ∀ r, (fun (x3 : Int32) (x4 : Int32) => if x3 = 0 then (Option.bind (pX5_refuseHere od ot (1 : Int32)) fun (r7 : Ob) => some ((nI lo), r7)) else (zjn (Option.bind (pX5_refuseHere od ot (2 : Int32)) fun (r5 : Ob) => some ((nI lo), r5)) fun (K103 : Option (Int32 × Ob)) => if (3 : Int32) < x3 then (K103) else (if x4 < (nI lo) then (K103) else (if x4 ≤ (nO h) then (Option.bind (pX5_pass od ot x3) fun (r6 : Ob) => some (x4, r6)) else (K103))))) (nI (rn isF n tb p - p)) (nI (d3 tb p (rn isF n tb p - p))) = r → pX5_takeNumber od ot (nI lo) (nO h) = r := by
    intro r hrr
    unfold pX5_takeNumber
    rw [h_soundS hr, u_bd1, u_let, u_jn, e3, hC]
    exact hrr
  by_cases g : p < n ∧ isF (tb p) = true
  · -- figures
    have g1 : p < rn isF n tb p := by
      rw [rn_go g]
      have := rn_ge isF n tb (p + 1)
      omega
    obtain ⟨t1, _, t3⟩ := hT1.2.2.2 p g.1
    have y3 := of_decide_eq_true g.2
    have e9 : pX11_in (nI (tb p)).toInt64 48 57 = some (nI 1) := good_in (by omega) (by omega) (by omega)
    obtain ⟨m2, b1, b2, b3, b4⟩ := m_figs (m := si (si m1 28 (nI p)) 27 0) (TX_frm hT1 (frm_si (frm_si (frm_rf [27, 28] _) (by decide) _) (by decide) _) (by decide) (by decide)) hpn a2 rfl
    have f2 : frm [24, 27, 28] m m2 := frm_tr (frm_si (frm_si (frm_mono a3 (by decide)) (by decide) _) (by decide) _) (frm_mono b4 (by decide))
    have b28 : gi m2 28 = nI p := (b4 28 (by decide)).1
    have tOp : tO n tb p = tb p + 1 := by unfold tO; rw [if_pos g.1]
    -- the reference behind its figures
    have ref : ∀ r, (zjn (Option.bind (pX11_fails m2 (2 : Int32) (gi m2 28)) fun (r6 : Int32 × Ob) => some ((r6.1), (r6.2))) fun (K157 : Option (Int32 × Ob)) => if (3 : Int32) < ((gi m2 24) - (gi m2 28)) then (K157) else (Option.bind (pX11_in ((gi m2 27).toInt64) ((nI lo).toInt64) ((nO h).toInt64)) fun (r7 : Int32) => if r7 = 0 then (K157) else (some ((0 : Int32), m2)))) = r → pX11_takeNumber m (nI lo) (nO h) = r := by
      intro r hrr
      unfold pX11_takeNumber
      rw [a1, u_bd, tOp]
      show Option.bind (pX11_in ((nO (tb p + 1)).toInt64) 48 57) _ = _
      rw [nO_s, e9, u_bd1]
      show zlet (si m1 28 (gi m1 24)) _ = _
      rw [u_let, u_let, u_jn, a2, b1]
      exact hrr
    have bad : ∃ f od' m', pX5_refuseHere od ot (nI f) = some od' ∧ f = 2 ∧ RdF od' f p ∧ pX11_fails m2 (nI f) (gi m2 28) = some (nI f, m') ∧ gi m' 23 = nI p ∧ frm [23, 24, 27, 28] m m' := by
      obtain ⟨od', r1, r2⟩ := h_refuse (ot := ot) (q := p) (f := 2) hr (by omega) (by omega)
      refine ⟨2, od', si m2 23 (nI p), ?_, rfl, r2, ?_, rfl, frm_si (frm_mono f2 (by decide)) (by decide) _⟩
      · unfold pX5_refuseHere
        rw [e3, r1, u_bd]
      · unfold pX11_fails
        rw [b28, u_let]
    obtain ⟨f, odb, mb, c1, c2, c3, c4, c5, c6⟩ := bad
    subst c2
    have nz : ¬ nI (rn isF n tb p - p) = (0 : Int32) := nI_ne0 (by omega) (by omega)
    have e24 : gi m2 24 - gi m2 28 = nI (rn isF n tb p - p) := by rw [b2, b28, pk_sub (by omega)]
    by_cases g3 : 3 < rn isF n tb p - p
    · right
      refine ⟨2, odb, mb, cls _ ?_, ref _ ?_, c3, c5, c6⟩
      · show (if _ then _ else _ : Option (Int32 × Ob)) = _
        rw [if_neg nz, u_jn, if_pos (show (3 : Int32) < nI (rn isF n tb p - p) from nI_lt (a := 3) g3 (by omega))]
        show Option.bind (pX5_refuseHere od ot (nI 2)) _ = _
        rw [c1, u_bd]
      · rw [u_jn, e24, if_pos (show (3 : Int32) < nI (rn isF n tb p - p) from nI_lt (a := 3) g3 (by omega))]
        show Option.bind (pX11_fails m2 (nI 2) (gi m2 28)) _ = _
        rw [c4, u_bd]
    · have b := dv_lt (tb := tb) (p := p) (rn isF n tb p - p) (by omega) dg
      have b10 : 10 ^ (rn isF n tb p - p) ≤ 1000 := by
        rcases (show rn isF n tb p - p = 1 ∨ rn isF n tb p - p = 2 ∨ rn isF n tb p - p = 3 by omega) with z | z | z <;> rw [z] <;> decide
      have d3e : d3 tb p (rn isF n tb p - p) = dv tb p (rn isF n tb p - p) := by unfold d3; rw [if_pos (by omega)]
      rw [b.2] at b3
      rw [d3e] at cls
      generalize dv tb p (rn isF n tb p - p) = v at *
      have n3 : ¬ (3 : Int32) < nI (rn isF n tb p - p) := nI_nlt (a := 3) (by omega) (by omega)
      have eh : (nO h).toInt64.toInt = (h : Int) - 1 := by rw [Int32.toInt_toInt64, nO_toInt (by omega)]
      have el : (nI lo).toInt64.toInt = (lo : Int) := by rw [Int32.toInt_toInt64, nI_toInt (by omega)]
      by_cases gl : lo ≤ v ∧ v < h
      · left
        obtain ⟨od', r1, r2⟩ := h_pass hT hr (k := rn isF n tb p - p) (by omega)
        rw [show p + (rn isF n tb p - p) = rn isF n tb p by omega] at r2
        refine ⟨v, rn isF n tb p, od', m2, cls _ ?_, ref _ ?_, gl.1, gl.2, g1, hE, r2, b2, b3, b28, f2⟩
        · show (if _ then _ else _ : Option (Int32 × Ob)) = _
          rw [if_neg nz, u_jn, if_neg n3, if_neg (nI_nlt gl.1 (by omega)), if_pos (by rw [nO_p (by omega)]; exact nI_le (by omega) (by omega)), r1, u_bd]
        · rw [u_jn, e24, if_neg n3, b3, good_in (by omega) (by rw [el]; omega) (by rw [eh]; omega), u_bd1]
          rfl
      · right
        refine ⟨2, odb, mb, cls _ ?_, ref _ ?_, c3, c5, c6⟩
        · show (if _ then _ else _ : Option (Int32 × Ob)) = _
          rw [if_neg nz, u_jn, if_neg n3]
          have fin : Option.bind (pX5_refuseHere od ot (2 : Int32)) (fun (r5 : Ob) => some ((nI lo), r5)) = some (nI lo, odb) := by
            show Option.bind (pX5_refuseHere od ot (nI 2)) _ = _
            rw [c1, u_bd]
          by_cases gg : v < lo
          · rw [if_pos (nI_lt gg (by omega))]; exact fin
          · rw [if_neg (nI_nlt (by omega) (by omega)), if_neg (by
              rw [Int32.le_iff_toInt_le, nO_toInt (by omega), nI_toInt (by omega)]
              omega)]
            exact fin
        · rw [u_jn, e24, if_neg n3, b3, off_in (by omega) (by rw [el, eh]; omega), u_bd0]
          show Option.bind (pX11_fails m2 (nI 2) (gi m2 28)) _ = _
          rw [c4, u_bd]
  · -- none
    right
    have e0 : rn isF n tb p - p = 0 := by rw [rn_no g]; omega
    obtain ⟨od', r1, r2⟩ := h_refuse (ot := ot) (q := p) (f := 1) hr (by omega) (by omega)
    refine ⟨1, od', si m1 23 (nI p), cls _ ?_, ?_, r2, rfl, frm_si (frm_mono a3 (by decide)) (by decide) _⟩
    · rw [e0]
      show (if (nI 0) = (0 : Int32) then _ else _ : Option (Int32 × Ob)) = _
      rw [if_pos (show nI 0 = (0 : Int32) from rfl)]
      unfold pX5_refuseHere
      rw [e3]
      show Option.bind (Option.bind (pX5_refuseAt od ot (nI p) (nI 1)) _) _ = _
      rw [r1, u_bd, u_bd]
    · have e9 : pX11_in (nO (tO n tb p)).toInt64 48 57 = some (nI 0) := by
        unfold tO
        by_cases y : p < n
        · rw [if_pos y, nO_s]
          have y3 : ¬ (48 ≤ tb p ∧ tb p ≤ 57) := fun r => g ⟨y, decide_eq_true r⟩
          have := (hT.2.2.2 p y).1
          exact off_in (by omega) (by omega)
        · rw [if_neg y]
          decide
      unfold pX11_takeNumber
      rw [a1, u_bd]
      show Option.bind (pX11_in ((nO (tO n tb p)).toInt64) 48 57) _ = _
      rw [e9, u_bd0]
      show Option.bind (pX11_fails m1 (nI 1) (gi m1 24)) _ = _
      unfold pX11_fails
      rw [a2, u_let, u_bd]
/-! the stop -/
theorem t_stop {n : Nat} {tb : Nat → Nat} {ot m od : Ob} {p t a : Nat} (hT : TX n tb ot m) (hr : RdS od p t) (ha : gi m 24 = nI a) (han : a ≤ n) (hp : rn isB n tb a = p) :
    (∃ od' m', pX5_takeSemicolon od ot = some od' ∧ pX11_takeStop m = some (nI 0, m') ∧ p < n ∧ RdS od' (rn isB n tb (p + 1)) p ∧ gi m' 24 = nI (p + 1) ∧ frm [24] m m') ∨ (∃ f od' m', pX5_takeSemicolon od ot = some od' ∧ pX11_takeStop m = some (nI f, m') ∧ RdF od' f p ∧ gi m' 23 = nI p ∧ frm [23, 24] m m') := by
  have hn := hT.1
  obtain ⟨m1, a1, a2, a3⟩ := m_here hT ha han
  rw [hp] at a1 a2
  have hpn : p ≤ n := by rw [← hp]; exact rn_le han
  have hb := h_byteAt hT od (p := p) (by omega)
  have hle := tO_le hT p
  have e3 := hr.2.2.1
  by_cases g : tO n tb p = 60
  · left
    have hlt : p < n := by
      refine Classical.byContradiction (fun z => ?_)
      unfold tO at g
      rw [if_neg z] at g
      omega
    obtain ⟨od', r1, r2⟩ := h_pass hT hr (k := 1) (by omega)
    rw [g, nO_s] at a1 hb
    refine ⟨od', si m1 24 (nI (p + 1)), ?_, ?_, hlt, r2, rfl, frm_si a3 (by decide) _⟩
    · unfold pX5_takeSemicolon
      rw [h_soundS hr, u_bd1, e3, hb, u_bd]
      show (if nI 59 = nI 59 then Option.bind (pX5_pass od ot (nI 1)) _ else _ : Option Ob) = _
      rw [if_pos rfl, r1, u_bd]
    · unfold pX11_takeStop
      rw [a1, u_bd]
      show (if nI 59 = nI 59 then zlet (si m1 24 (gi m1 24 + nI 1)) _ else _ : Option (Int32 × Ob)) = _
      rw [if_pos rfl, u_let, a2, nI_add]
      rfl
  · right
    obtain ⟨od', r1, r2⟩ := h_refuse (ot := ot) (q := p) (f := 1) hr (by omega) (by omega)
    have ne : ¬ nO (tO n tb p) = (59 : Int32) := fun z => by
      have := (nO_eqF (a := tO n tb p) (b := 59) ⟨g, by omega, by omega⟩)
      exact this ▸ z
    refine ⟨1, od', si m1 23 (nI p), ?_, ?_, r2, rfl, frm_si (frm_mono a3 (by decide)) (by decide) _⟩
    · unfold pX5_takeSemicolon
      rw [h_soundS hr, u_bd1, e3, hb, u_bd, if_neg ne]
      unfold pX5_refuseHere
      rw [e3]
      show Option.bind (Option.bind (pX5_refuseAt od ot (nI p) (nI 1)) _) _ = _
      rw [r1, u_bd, u_bd]
    · unfold pX11_takeStop
      rw [a1, u_bd, if_neg ne]
      show Option.bind (pX11_fails m1 (nI 1) (gi m1 24)) _ = _
      unfold pX11_fails
      rw [a2, u_let, u_bd]
theorem h_stopF {od ot : Ob} {f q : Nat} (h : RdF od f q) : pX5_takeSemicolon od ot = some od := by
  unfold pX5_takeSemicolon
  rw [h_soundF h, u_bd0]
