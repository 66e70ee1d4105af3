/-! look, hear, dusk -/
def endS (d : SD) (s v : Nat) : SD := sdm d.day d.spk d.seed d.last d.times d.struck d.whole (nup d.how s v) (nup d.howd s (d.day + 1)) d.dusk
def looks (c : CD) (d : SD) (s : Nat) : Bool := decide (d.how s = 0 ∧ 3 * c.need s ≤ d.whole s ∧ (c.hang s = 0 ∨ d.how (c.hang s - 1) = 1))
def lookS (c : CD) (d : SD) (s : Nat) : SD := if looks c d s = true then endS d s 1 else d
def hear0 (c : CD) (l : LD) (d : SD) (w : Nat) : SD := sdm d.day (d.spk + 1) d.seed (nup d.last w (d.day + 1)) (nup d.times w (d.times w + 1)) d.struck (nup d.whole (c.suit w) (d.whole (c.suit w) + fresh c l w d.day)) d.how d.howd d.dusk
def hearS (c : CD) (l : LD) (d : SD) (w : Nat) : SD := lookS c (hear0 c l d w) (c.suit w)
def fallS (c : CD) (d : SD) (s : Nat) : SD := if d.how s = 0 ∧ d.day = c.fall s then endS d s 2 else d
/-- what only touches how it is -/
theorem CS_how {S : Nat} {d : SD} {o o' : Ob} (h : CS S d o) (f : frm [7, 8] o o') {hw hd : Nat → Nat} (hh : ∀ s, s < S → ga o' 7 s = nI (hw s) ∧ ga o' 8 s = nO (hd s)) : CS S (sdm d.day d.spk d.seed d.last d.times d.struck d.whole hw hd d.dusk) o' := by
  refine ⟨(f 0 (by decide)).1.trans h.1, (f 1 (by decide)).1.trans h.2.1, (f 2 (by decide)).1.trans h.2.2.1, fun w hw => ?_, fun s hs => ?_, fun s hs k hk => ?_⟩
  · rw [(f 3 (by decide)).2.2.1, (f 4 (by decide)).2.2.1, (f 5 (by decide)).2.2.1]; exact h.2.2.2.1 w hw
  · rw [(f 6 (by decide)).2.2.1]; exact ⟨(h.2.2.2.2.1 s hs).1, hh s hs⟩
  · rw [(f (20 + s) (by simp only [List.mem_cons, List.not_mem_nil, or_false]; omega)).2.2.1]; exact h.2.2.2.2.2 s hs k hk
theorem MS_how {S : Nat} {d : SD} {m m' : Ob} (h : MS S d m) (f : frm [15, 16] m m') {hw hd : Nat → Nat} (hh : ∀ s, s < S → ga m' 15 s = nI (hw s) ∧ ga m' 16 s = nO (hd s)) : MS S (sdm d.day d.spk d.seed d.last d.times d.struck d.whole hw hd d.dusk) m' := by
  refine ⟨(f 13 (by decide)).1.trans h.1, (f 14 (by decide)).1.trans h.2.1, (f 20 (by decide)).1.trans h.2.2.1, fun w hw => ?_, fun s hs => ?_, fun s hs k hk => ?_, fun s hs k hk => ?_⟩
  · rw [(f 10 (by decide)).2.2.1, (f 11 (by decide)).2.2.1, (f 12 (by decide)).2.2.1]; exact h.2.2.2.1 w hw
  · rw [(f 17 (by decide)).2.2.1]; exact ⟨(h.2.2.2.2.1 s hs).1, hh s hs⟩
  · rw [(f 19 (by decide)).2.2.1]; exact h.2.2.2.2.2.1 s hs k hk
  · rw [(f 18 (by decide)).2.2.1]; exact h.2.2.2.2.2.2 s hs k hk
theorem MC_frm {c : CD} {m m' : Ob} {ks : List Nat} (h : MC c m) (f : frm ks m m') (hk : ∀ k, k < 8 → k ∉ ks) : MC c m' := by
  refine ⟨(f 0 (hk 0 (by omega))).1.trans h.1, (f 4 (hk 4 (by omega))).1.trans h.2.1, fun s hs => ?_, fun w hw => ?_⟩
  · rw [(f 1 (hk 1 (by omega))).2.2.1, (f 2 (hk 2 (by omega))).2.2.1, (f 3 (hk 3 (by omega))).2.2.1]; exact h.2.2.1 s hs
  · rw [(f 5 (hk 5 (by omega))).2.2.1, (f 6 (hk 6 (by omega))).2.2.1, (f 7 (hk 7 (by omega))).2.2.1]; exact h.2.2.2 w hw
theorem ML_frm {l : LD} {m m' : Ob} {ks : List Nat} (h : ML l m) (f : frm ks m m') (h8 : 8 ∉ ks) (h9 : 9 ∉ ks) : ML l m' := by
  refine ⟨(f 8 h8).1.trans h.1, fun i hi => ?_⟩
  rw [(f 9 h9).2.2.1]; exact h.2 i hi
theorem h_end {S : Nat} {d : SD} {o : Ob} (h : CS S d o) {s v : Nat} (hs : s < 6) : ∃ o', pX6_end o (nI s) (nI v) = some o' ∧ CS S (endS d s v) o' ∧ frm [7, 8] o o' := by
  have f : frm [7, 8] o (sa (sa o 7 (upd (ga o 7) s (nI v))) 8 (upd (ga o 8) s (gi o 0))) := frm_sa (frm_sa (frm_rf _ _) (by decide) _) (by decide) _
  refine ⟨sa (sa o 7 (upd (ga o 7) s (nI v))) 8 (upd (ga o 8) s (gi o 0)), ?_, ?_, f⟩
  · simp (disch := omega) only [pX6_end, u_let, u_jn, u_bd, u_gz0, u_gz1, u_gd, u_lit, u_leT, u_leF, u_ltT, u_ltF, u_eqT, u_eqF, nI_clamp, nI_add, u_m1, pk_sub, pk_mul, if_true, if_false, ite_true, ite_false, reduceIte, Nat.reduceEqDiff, u_neM, u_bN, u_bNe, ga_sa, gi_sa, Nat.reduceEqDiff]
  · refine CS_how h f (fun j hj => ?_)
    obtain ⟨_, e7, e8⟩ := h.2.2.2.2.1 j hj
    simp only [ga_sa, Nat.reduceEqDiff, if_true, if_false, upd_ap, e7, e8, h.1]
    by_cases q : j = s
    · subst q
      rw [if_pos rfl, if_pos rfl, nup_s, nup_s, nO_s]; exact ⟨rfl, rfl⟩
    · rw [if_neg q, if_neg q, nup_n _ _ q, nup_n _ _ q]; exact ⟨rfl, rfl⟩
theorem h_carried {c : CD} {d : SD} {oc ow os : Ob} (hc : OKC c) (hd : OKS c.S d) (h : CC c oc) (h3 : CS c.S d os) {s : Nat} (hs : s < c.S) : pX9_isCarried oc ow os (nI s) = some (nI (bN (decide (c.hang s = 0 ∨ d.how (c.hang s - 1) = 1)))) := by
  have h6 := hc.1
  have e := h_suitT hc h hs
  have e4 := (h.2.2.1 s hs).2.2
  obtain ⟨_, _, _, _, hh⟩ := hc.2.2.1 s hs
  rcases Nat.eq_zero_or_pos (c.hang s) with g | g
  · have e0 := h_suitF (x := nO 0) hc h (Or.inl (by decide))
    simp (disch := omega) only [pX9_isCarried, e, u_let, u_jn, u_bd, u_gz0, u_gz1, u_gd, u_lit, u_leT, u_leF, u_ltT, u_ltF, u_eqT, u_eqF, nI_clamp, nI_add, u_m1, pk_sub, pk_mul, if_true, if_false, ite_true, ite_false, reduceIte, Nat.reduceEqDiff, u_neM, u_bN, u_bNe, e4, g, e0, true_or, decide_true, bN_t]
  · have p := nO_p g
    have e1 := h_suitT (s := c.hang s - 1) hc h (by omega)
    obtain ⟨_, e7, _⟩ := h3.2.2.2.2.1 (c.hang s - 1) (by omega)
    obtain ⟨_, b7, _⟩ := hd.2.2.2.2.1 (c.hang s - 1) (by omega)
    have g' : ¬ c.hang s = 0 := by omega
    by_cases q : d.how (c.hang s - 1) = 1
    · simp (disch := omega) only [pX9_isCarried, e, u_let, u_jn, u_bd, u_gz0, u_gz1, u_gd, u_lit, u_leT, u_leF, u_ltT, u_ltF, u_eqT, u_eqF, nI_clamp, nI_add, u_m1, pk_sub, pk_mul, if_true, if_false, ite_true, ite_false, reduceIte, Nat.reduceEqDiff, u_neM, u_bN, u_bNe, e4, p, e1, e7, q, or_true, decide_true, bN_t]
    · simp (disch := omega) only [pX9_isCarried, e, u_let, u_jn, u_bd, u_gz0, u_gz1, u_gd, u_lit, u_leT, u_leF, u_ltT, u_ltF, u_eqT, u_eqF, nI_clamp, nI_add, u_m1, pk_sub, pk_mul, if_true, if_false, ite_true, ite_false, reduceIte, Nat.reduceEqDiff, u_neM, u_bN, u_bNe, e4, p, e1, e7, q, g', or_self, decide_false, bN_f]
theorem h_goal {c : CD} {oc : Ob} (hc : OKC c) (h : CC c oc) {s : Nat} (hs : s < c.S) : pX2_goalOf oc (nI s) = some (nI (3 * c.need s)) := by
  have h6 := hc.1
  have e := h_suitT hc h hs
  have e2 := (h.2.2.1 s hs).1
  simp (disch := omega) only [pX2_goalOf, e, u_let, u_jn, u_bd, u_gz0, u_gz1, u_gd, u_lit, u_leT, u_leF, u_ltT, u_ltF, u_eqT, u_eqF, nI_clamp, nI_add, u_m1, pk_sub, pk_mul, if_true, if_false, ite_true, ite_false, reduceIte, Nat.reduceEqDiff, u_neM, u_bN, u_bNe, e2]
theorem h_look {c : CD} {d : SD} {oc ow os : Ob} (hc : OKC c) (hd : OKS c.S d) (h : CC c oc) (h3 : CS c.S d os) {s : Nat} (hs : s < c.S) : ∃ o', pX9_look oc ow os (nI s) = some o' ∧ CS c.S (lookS c d s) o' ∧ frm [7, 8] os o' := by
  have h6 := hc.1
  have eg := h_goesT (ow := ow) hc h h3 hd hs
  have e2 := h_goal hc h hs
  have ec := h_carried (ow := ow) hc hd h h3 hs
  obtain ⟨e6, e7, _⟩ := h3.2.2.2.2.1 s (by omega)
  obtain ⟨b6, b7, _⟩ := hd.2.2.2.2.1 s (by omega)
  have bs := hd.2.1
  obtain ⟨_, bn, _, _, _⟩ := hc.2.2.1 s hs
  unfold lookS
  by_cases g : looks c d s = true
  · obtain ⟨o', r1, r2, r3⟩ := h_end (s := s) (v := 1) h3 (by omega)
    rw [if_pos g]
    have g2 := of_decide_eq_true g
    refine ⟨o', ?_, r2, r3⟩
    simp (disch := omega) only [pX9_look, eg, u_let, u_jn, u_bd, u_gz0, u_gz1, u_gd, u_lit, u_leT, u_leF, u_ltT, u_ltF, u_eqT, u_eqF, nI_clamp, nI_add, u_m1, pk_sub, pk_mul, if_true, if_false, ite_true, ite_false, reduceIte, Nat.reduceEqDiff, u_neM, u_bN, u_bNe, e2, e6, ec, g2.1, g2.2.2, decide_true, bN_t, r1, reduceCtorEq]
  · rw [if_neg g]
    refine ⟨os, ?_, h3, frm_rf _ _⟩
    have g2 : ¬ (d.how s = 0 ∧ 3 * c.need s ≤ d.whole s ∧ (c.hang s = 0 ∨ d.how (c.hang s - 1) = 1)) := fun q => g (decide_eq_true q)
    by_cases q1 : d.how s = 0
    · by_cases q2 : 3 * c.need s ≤ d.whole s
      · have q3 : ¬ (c.hang s = 0 ∨ d.how (c.hang s - 1) = 1) := fun q => g2 ⟨q1, q2, q⟩
        simp (disch := omega) only [pX9_look, eg, u_let, u_jn, u_bd, u_gz0, u_gz1, u_gd, u_lit, u_leT, u_leF, u_ltT, u_ltF, u_eqT, u_eqF, nI_clamp, nI_add, u_m1, pk_sub, pk_mul, if_true, if_false, ite_true, ite_false, reduceIte, Nat.reduceEqDiff, u_neM, u_bN, u_bNe, e2, e6, ec, q1, q3, decide_true, decide_false, bN_t, bN_f, reduceCtorEq]
      · simp (disch := omega) only [pX9_look, eg, u_let, u_jn, u_bd, u_gz0, u_gz1, u_gd, u_lit, u_leT, u_leF, u_ltT, u_ltF, u_eqT, u_eqF, nI_clamp, nI_add, u_m1, pk_sub, pk_mul, if_true, if_false, ite_true, ite_false, reduceIte, Nat.reduceEqDiff, u_neM, u_bN, u_bNe, e2, e6, q1, decide_true, bN_t, reduceCtorEq]
    · simp (disch := omega) only [pX9_look, eg, u_let, u_jn, u_bd, u_gz0, u_gz1, u_gd, u_lit, u_leT, u_leF, u_ltT, u_ltF, u_eqT, u_eqF, nI_clamp, nI_add, u_m1, pk_sub, pk_mul, if_true, if_false, ite_true, ite_false, reduceIte, Nat.reduceEqDiff, u_neM, u_bN, u_bNe, q1, decide_false, bN_f]
theorem m_enough {c : CD} {d : SD} {m : Ob} (hc : OKC c) (hd : OKS c.S d) (h : MC c m) (h3 : MS c.S d m) {s : Nat} (hs : s < c.S) : pX11_isEnough m (nI s) = some (nI (bN (decide (3 * c.need s ≤ d.whole s)))) := by
  have h6 := hc.1
  obtain ⟨e6, e7, _⟩ := h3.2.2.2.2.1 s (by omega)
  obtain ⟨b6, b7, _⟩ := hd.2.2.2.2.1 s (by omega)
  have bs := hd.2.1
  have en := (h.2.2.1 s hs).1
  obtain ⟨_, bn, _, _, _⟩ := hc.2.2.1 s hs
  by_cases q2 : 3 * c.need s ≤ d.whole s
  · simp (disch := omega) only [pX11_isEnough, u_let, u_jn, u_bd, u_gz0, u_gz1, u_gd, u_lit, u_leT, u_leF, u_ltT, u_ltF, u_eqT, u_eqF, nI_clamp, nI_add, u_m1, pk_sub, pk_mul, if_true, if_false, ite_true, ite_false, reduceIte, Nat.reduceEqDiff, u_neM, u_bN, u_bNe, e6, en, q2, decide_true, bN_t]
  · simp (disch := omega) only [pX11_isEnough, u_let, u_jn, u_bd, u_gz0, u_gz1, u_gd, u_lit, u_leT, u_leF, u_ltT, u_ltF, u_eqT, u_eqF, nI_clamp, nI_add, u_m1, pk_sub, pk_mul, if_true, if_false, ite_true, ite_false, reduceIte, Nat.reduceEqDiff, u_neM, u_bN, u_bNe, e6, en, q2, decide_false, bN_f]
theorem m_look {c : CD} {d : SD} {m : Ob} (hc : OKC c) (hd : OKS c.S d) (h : MC c m) (h3 : MS c.S d m) {s : Nat} (hs : s < c.S) : ∃ m', pX11_lookAt m (nI s) = some m' ∧ MS c.S (lookS c d s) m' ∧ frm [15, 16] m m' := by
  have h6 := hc.1
  have ee := m_enough hc hd h h3 hs
  obtain ⟨e6, e7, _⟩ := h3.2.2.2.2.1 s (by omega)
  obtain ⟨b6, b7, _⟩ := hd.2.2.2.2.1 s (by omega)
  have e3 := (h.2.2.1 s hs).2.2
  obtain ⟨_, bn, _, _, hh⟩ := hc.2.2.1 s hs
  have f : frm [15, 16] m (sa (sa m 15 (upd (ga m 15) s (nI 1))) 16 (upd (ga m 16) s (gi m 13))) := frm_sa (frm_sa (frm_rf _ _) (by decide) _) (by decide) _
  have fin : MS c.S (endS d s 1) (sa (sa m 15 (upd (ga m 15) s (nI 1))) 16 (upd (ga m 16) s (gi m 13))) := by
    refine MS_how h3 f (fun j hj => ?_)
    obtain ⟨_, e7, e8⟩ := h3.2.2.2.2.1 j hj
    simp only [ga_sa, Nat.reduceEqDiff, if_true, if_false, upd_ap, e7, e8, h3.1]
    by_cases q : j = s
    · subst q
      rw [if_pos rfl, if_pos rfl, nup_s, nup_s, nO_s]; exact ⟨rfl, rfl⟩
    · rw [if_neg q, if_neg q, nup_n _ _ q, nup_n _ _ q]; exact ⟨rfl, rfl⟩
  unfold lookS
  by_cases g : looks c d s = true
  · rw [if_pos g]
    have g2 := of_decide_eq_true g
    refine ⟨_, ?_, fin, f⟩
    rcases Nat.eq_zero_or_pos (c.hang s) with q | q
    · simp (disch := omega) only [pX11_lookAt, ee, u_let, u_jn, u_bd, u_gz0, u_gz1, u_gd, u_lit, u_leT, u_leF, u_ltT, u_ltF, u_eqT, u_eqF, nI_clamp, nI_add, u_m1, pk_sub, pk_mul, if_true, if_false, ite_true, ite_false, reduceIte, Nat.reduceEqDiff, u_neM, u_bN, u_bNe, e3, e7, g2.1, g2.2.1, decide_true, bN_t, nO_ltT, ga_sa, gi_sa, Nat.reduceEqDiff, reduceCtorEq]
    · have p := nO_p q
      obtain ⟨_, f7, _⟩ := h3.2.2.2.2.1 (c.hang s - 1) (by omega)
      have g4 : d.how (c.hang s - 1) = 1 := by
        rcases g2.2.2 with r | r
        · omega
        · exact r
      simp (disch := omega) only [pX11_lookAt, ee, u_let, u_jn, u_bd, u_gz0, u_gz1, u_gd, u_lit, u_leT, u_leF, u_ltT, u_ltF, u_eqT, u_eqF, nI_clamp, nI_add, u_m1, pk_sub, pk_mul, if_true, if_false, ite_true, ite_false, reduceIte, Nat.reduceEqDiff, u_neM, u_bN, u_bNe, e3, e7, g2.1, g2.2.1, decide_true, bN_t, nO_ltF, p, f7, g4, ga_sa, gi_sa, Nat.reduceEqDiff, reduceCtorEq]
  · rw [if_neg g]
    refine ⟨m, ?_, h3, frm_rf _ _⟩
    have g2 : ¬ (d.how s = 0 ∧ 3 * c.need s ≤ d.whole s ∧ (c.hang s = 0 ∨ d.how (c.hang s - 1) = 1)) := fun q => g (decide_eq_true q)
    by_cases q1 : d.how s = 0
    · by_cases q2 : 3 * c.need s ≤ d.whole s
      · have q3 : ¬ (c.hang s = 0 ∨ d.how (c.hang s - 1) = 1) := fun q => g2 ⟨q1, q2, q⟩
        have q4 : 0 < c.hang s := by
          rcases Nat.eq_zero_or_pos (c.hang s) with r | r
          · exact absurd (Or.inl r) q3
          · exact r
        have p := nO_p q4
        obtain ⟨_, f7, _⟩ := h3.2.2.2.2.1 (c.hang s - 1) (by omega)
        obtain ⟨_, b7, _⟩ := hd.2.2.2.2.1 (c.hang s - 1) (by omega)
        have q5 : ¬ d.how (c.hang s - 1) = 1 := fun r => q3 (Or.inr r)
        simp (disch := omega) only [pX11_lookAt, ee, u_let, u_jn, u_bd, u_gz0, u_gz1, u_gd, u_lit, u_leT, u_leF, u_ltT, u_ltF, u_eqT, u_eqF, nI_clamp, nI_add, u_m1, pk_sub, pk_mul, if_true, if_false, ite_true, ite_false, reduceIte, Nat.reduceEqDiff, u_neM, u_bN, u_bNe, e3, e7, q1, q2, decide_true, bN_t, nO_ltF, p, f7, reduceCtorEq]
      · simp (disch := omega) only [pX11_lookAt, ee, u_let, u_jn, u_bd, u_gz0, u_gz1, u_gd, u_lit, u_leT, u_leF, u_ltT, u_ltF, u_eqT, u_eqF, nI_clamp, nI_add, u_m1, pk_sub, pk_mul, if_true, if_false, ite_true, ite_false, reduceIte, Nat.reduceEqDiff, u_neM, u_bN, u_bNe, e7, q1, q2, decide_false, bN_f]
    · simp (disch := omega) only [pX11_lookAt, u_let, u_jn, u_bd, u_gz0, u_gz1, u_gd, u_lit, u_leT, u_leF, u_ltT, u_ltF, u_eqT, u_eqF, nI_clamp, nI_add, u_m1, pk_sub, pk_mul, if_true, if_false, ite_true, ite_false, reduceIte, Nat.reduceEqDiff, u_neM, u_bN, u_bNe, e7]
