/-! a witness speaks -/
theorem hear0_S {c : CD} {l : LD} {d : SD} {w : Nat} : (hear0 c l d w).day = d.day ∧ (hear0 c l d w).how = d.how := ⟨rfl, rfl⟩
theorem OKS_end {S : Nat} {d : SD} (h : OKS S d) {s v : Nat} (hv : v ≤ 2) : OKS S (endS d s v) := by
  refine ⟨h.1, h.2.1, h.2.2.1, h.2.2.2.1, fun j hj => ?_, h.2.2.2.2.2⟩
  obtain ⟨a, b, e⟩ := h.2.2.2.2.1 j hj
  have h1 := h.1
  show d.whole j ≤ 3564 + 594 * d.spk ∧ nup d.how s v j ≤ 2 ∧ nup d.howd s (d.day + 1) j ≤ 400
  unfold nup
  refine ⟨a, ?_, ?_⟩
  · split <;> omega
  · split <;> omega
theorem OKS_look {c : CD} {d : SD} (h : OKS c.S d) (s : Nat) : OKS c.S (lookS c d s) := by
  unfold lookS
  split
  · exact OKS_end h (by omega)
  · exact h
theorem OKS_fall {c : CD} {d : SD} (h : OKS c.S d) (s : Nat) : OKS c.S (fallS c d s) := by
  unfold fallS
  split
  · exact OKS_end h (by omega)
  · exact h
theorem OKS_hear0 {c : CD} {l : LD} {d : SD} (hc : OKC c) (hl : OKL l) (h : OKS c.S d) {w : Nat} (hw : w < c.W) (hm : mayM c l d w d.day = true) (hs : d.spk < 6) : OKS c.S (hear0 c l d w) := by
  have hf := fresh_le hc hl hw d.day
  have m1 := of_decide_eq_true hm
  have bm := lval_moon hl d.day
  refine ⟨h.1, ?_, h.2.2.1, fun v hv => ?_, fun j hj => ?_, h.2.2.2.2.2⟩
  · show d.spk + 1 ≤ 6
    omega
  · obtain ⟨b1, b2, b3, b4⟩ := h.2.2.2.1 v hv
    show nup d.last w (d.day + 1) v ≤ d.day + 1 ∧ nup d.times w (d.times w + 1) v ≤ nup d.last w (d.day + 1) v ∧ (0 < nup d.last w (d.day + 1) v → 0 < nup d.times w (d.times w + 1) v) ∧ d.struck v ≤ 1
    by_cases q : v = w
    · subst q
      rw [nup_s, nup_s]
      refine ⟨Nat.le_refl _, ?_, fun _ => by omega, b4⟩
      rcases m1.2 with r | r
      · omega
      · omega
    · rw [nup_n _ _ q, nup_n _ _ q]
      exact ⟨b1, b2, b3, b4⟩
  · obtain ⟨b1, b2, b3⟩ := h.2.2.2.2.1 j hj
    show nup d.whole (c.suit w) (d.whole (c.suit w) + fresh c l w d.day) j ≤ 3564 + 594 * (d.spk + 1) ∧ d.how j ≤ 2 ∧ d.howd j ≤ 400
    refine ⟨?_, b2, b3⟩
    by_cases q : j = c.suit w
    · subst q
      rw [nup_s]; omega
    · rw [nup_n _ _ q]; omega
theorem h_hear0 {c : CD} {l : LD} {S : Nat} {d : SD} {os : Ob} (h3 : CS S d os) {w : Nat} (hs : c.suit w < 6) {x : Int32} (hx : x = nI (d.whole (c.suit w)) + nI (fresh c l w d.day)) : CS S (hear0 c l d w) (sa (sa (sa (si os 1 (nI d.spk + nI 1)) 3 (upd (ga os 3) w (nI d.day))) 4 (upd (ga os 4) w (nI (d.times w) + nI 1))) 6 (upd (ga os 6) (c.suit w) x)) := by
  refine ⟨h3.1, ?_, h3.2.2.1, fun v hv => ?_, fun j hj => ?_, fun j hj k hk => (by rw [ga_sa, if_neg (by omega), ga_sa, if_neg (by omega), ga_sa, if_neg (by omega), ga_si]; exact h3.2.2.2.2.2 j hj k hk)⟩
  · exact nI_add _ _
  · obtain ⟨e3, e4, e5⟩ := h3.2.2.2.1 v hv
    simp only [ga_sa, ga_si, Nat.reduceEqDiff, if_true, if_false, upd_ap, e3, e4, e5]
    show (if v = w then nI d.day else nO (d.last v)) = nO (nup d.last w (d.day + 1) v) ∧ (if v = w then nI (d.times w) + nI 1 else nI (d.times v)) = nI (nup d.times w (d.times w + 1) v) ∧ _
    by_cases q : v = w
    · subst q
      rw [if_pos rfl, if_pos rfl, nup_s, nup_s, nO_s, nI_add]; exact ⟨rfl, rfl, rfl⟩
    · rw [if_neg q, if_neg q, nup_n _ _ q, nup_n _ _ q]; exact ⟨rfl, rfl, rfl⟩
  · obtain ⟨e6, e7, e8⟩ := h3.2.2.2.2.1 j hj
    simp only [ga_sa, ga_si, Nat.reduceEqDiff, if_true, if_false, upd_ap, e6, e7, e8]
    refine ⟨?_, rfl, rfl⟩
    show _ = nI (nup d.whole (c.suit w) (d.whole (c.suit w) + fresh c l w d.day) j)
    by_cases q : j = c.suit w
    · subst q
      rw [if_pos rfl, nup_s, hx, nI_add]
    · rw [if_neg q, nup_n _ _ q]
theorem h_hear {c : CD} {l : LD} {d : SD} {oc ow os : Ob} (hc : OKC c) (hl : OKL l) (hd : OKS c.S d) (h : CC c oc) (h2 : CL l ow) (h3 : CS c.S d os) {w : Nat} (hw : w < c.W) (hm : mayM c l d w d.day = true) (hs : d.spk < 6) : ∃ o', pX9_hear oc ow os (nI w) = some (nI ((hearS c l d w).how (c.suit w)), o') ∧ CS c.S (hearS c l d w) o' ∧ OKS c.S (hearS c l d w) := by
  have hW := hc.2.1
  have h6 := hc.1
  obtain ⟨e5, _, _⟩ := h.2.2.2 w hw
  obtain ⟨hsu, _, _, hk⟩ := hc.2.2.2.1 w hw
  obtain ⟨f3, f4, f5⟩ := h3.2.2.2.1 w (by omega)
  obtain ⟨f6, f7, f8⟩ := h3.2.2.2.2.1 (c.suit w) (by omega)
  have bd := hd.1
  have hok := OKS_hear0 hc hl hd hw hm hs
  have h0 := h_hear0 (l := l) (c := c) (w := w) h3 (by omega) rfl
  have hf : ∀ os : Ob, pX9_freshOn oc ow os (nI w) (nI d.day) = some (nI (fresh c l w d.day)) := fun os => h_fresh (os := os) hc hl h h2 hw (by omega)
  obtain ⟨o', r1, r2, r3⟩ := h_look (ow := ow) hc hok h h0 hsu
  have ew := h_witT hc h hw
  have es := h_suitT hc h hsu
  have eh := (r2.2.2.2.2.1 (c.suit w) (by omega)).2.1
  refine ⟨o', ?_, r2, OKS_look hok _⟩
  rw [nI_add, nI_add, nI_add] at r1
  simp (disch := omega) only [pX9_hear, ew, u_let, u_jn, u_bd, u_gz0, u_gz1, u_gd, u_lit, u_leT, u_leF, u_ltT, u_ltF, u_eqT, u_eqF, nI_clamp, nI_add, u_m1, pk_sub, pk_mul, if_true, if_false, ite_true, ite_false, reduceIte, Nat.reduceEqDiff, u_neM, u_bN, u_bNe, e5, es, h3.1, h3.2.1, gi_si, gi_sa, ga_si, ga_sa, Nat.reduceEqDiff, f4, f6, hf, r1, eh]
  rfl
theorem m_hear0 {c : CD} {l : LD} {S : Nat} {d : SD} {m : Ob} (h3 : MS S d m) {w : Nat} {x : Int32} (hx : x = nI (d.whole (c.suit w)) + nI (fresh c l w d.day)) : MS S (hear0 c l d w) (si (sa (sa (sa m 17 (upd (ga m 17) (c.suit w) x)) 10 (upd (ga m 10) w (nI d.day))) 11 (upd (ga m 11) w (nI (d.times w) + nI 1))) 14 (nI d.spk + nI 1)) := by
  refine ⟨h3.1, ?_, h3.2.2.1, fun v hv => ?_, fun j hj => ?_, h3.2.2.2.2.2.1, h3.2.2.2.2.2.2⟩
  · exact nI_add _ _
  · obtain ⟨e3, e4, e5⟩ := h3.2.2.2.1 v hv
    refine ⟨fun hS => ?_, ?_, ?_⟩
    · have e3 := e3 hS
      simp only [ga_sa, ga_si, Nat.reduceEqDiff, if_true, if_false, upd_ap, e3]
      show (if v = w then nI d.day else nO (d.last v)) = nO (nup d.last w (d.day + 1) v)
      by_cases q : v = w
      · subst q
        rw [if_pos rfl, nup_s, nO_s]
      · rw [if_neg q, nup_n _ _ q]
    · simp only [ga_sa, ga_si, Nat.reduceEqDiff, if_true, if_false, upd_ap, e4]
      show (if v = w then nI (d.times w) + nI 1 else nI (d.times v)) = nI (nup d.times w (d.times w + 1) v)
      by_cases q : v = w
      · subst q
        rw [if_pos rfl, nup_s, nI_add]
      · rw [if_neg q, nup_n _ _ q]
    · simp only [ga_sa, ga_si, Nat.reduceEqDiff, if_true, if_false, upd_ap, e5]
      rfl
  · obtain ⟨e6, e7, e8⟩ := h3.2.2.2.2.1 j hj
    simp only [ga_sa, ga_si, Nat.reduceEqDiff, if_true, if_false, upd_ap, e6, e7, e8]
    refine ⟨?_, rfl, rfl⟩
    show _ = nI (nup d.whole (c.suit w) (d.whole (c.suit w) + fresh c l w d.day) j)
    by_cases q : j = c.suit w
    · subst q
      rw [if_pos rfl, nup_s, hx, nI_add]
    · rw [if_neg q, nup_n _ _ q]
theorem m_hear {c : CD} {l : LD} {d : SD} {m : Ob} (hc : OKC c) (hl : OKL l) (hd : OKS c.S d) (h : MC c m) (h2 : ML l m) (h3 : MS c.S d m) {w : Nat} (hw : w < c.W) (hm : mayM c l d w d.day = true) (hs : d.spk < 6) : ∃ m', pX11_speak m (nI w) = some m' ∧ MS c.S (hearS c l d w) m' ∧ frm [10, 11, 14, 15, 16, 17] m m' := by
  have hW := hc.2.1
  have h6 := hc.1
  obtain ⟨e5, _, _⟩ := h.2.2.2 w hw
  obtain ⟨hsu, _, _, hk⟩ := hc.2.2.2.1 w hw
  obtain ⟨f3, f4, f5⟩ := h3.2.2.2.1 w (by omega)
  obtain ⟨f6, f7, f8⟩ := h3.2.2.2.2.1 (c.suit w) (by omega)
  have bd := hd.1
  have hok := OKS_hear0 hc hl hd hw hm hs
  have h0 := m_hear0 (l := l) (c := c) (w := w) h3 rfl
  have hf := m_fresh hc hl h h2 hw (t := d.day) (by omega)
  have fr : frm [10, 11, 14, 15, 16, 17] m (si (sa (sa (sa m 17 (upd (ga m 17) (c.suit w) (nI (d.whole (c.suit w)) + nI (fresh c l w d.day)))) 10 (upd (ga m 10) w (nI d.day))) 11 (upd (ga m 11) w (nI (d.times w) + nI 1))) 14 (nI d.spk + nI 1)) :=
    frm_si (frm_sa (frm_sa (frm_sa (frm_rf _ _) (by decide) _) (by decide) _) (by decide) _) (by decide) _
  have hMC := MC_frm h fr (by decide)
  obtain ⟨m', r1, r2, r3⟩ := m_look hc hok hMC h0 hsu
  refine ⟨m', ?_, r2, frm_tr fr (frm_mono r3 (by decide))⟩
  rw [nI_add, nI_add, nI_add] at r1
  simp (disch := omega) only [pX11_speak, u_let, u_jn, u_bd, u_gz0, u_gz1, u_gd, u_lit, u_leT, u_leF, u_ltT, u_ltF, u_eqT, u_eqF, nI_clamp, nI_add, u_m1, pk_sub, pk_mul, if_true, if_false, ite_true, ite_false, reduceIte, Nat.reduceEqDiff, u_neM, u_bN, u_bNe, e5, h3.1, h3.2.1, gi_si, gi_sa, ga_si, ga_sa, Nat.reduceEqDiff, f4, f6, hf, r1]
theorem m_mayNow {c : CD} {l : LD} {d : SD} {m : Ob} (hc : OKC c) (hl : OKL l) (hd : OKS c.S d) (h : MC c m) (h2 : ML l m) (h3 : MS c.S d m) {w : Nat} (hw : w < c.W) : pX11_mayNow m (nI w) = some (nI (bN (may c l d w d.day && decide (d.spk < talk l d.day)))) := by
  have hW := hc.2.1
  have h6 := hc.1
  have bd := hd.1
  have bs := hd.2.1
  obtain ⟨e5, _, _⟩ := h.2.2.2 w hw
  obtain ⟨hsu, _, _, hk⟩ := hc.2.2.2.1 w hw
  obtain ⟨f6, f7, f8⟩ := h3.2.2.2.2.1 (c.suit w) (by omega)
  obtain ⟨_, b7, _⟩ := hd.2.2.2.2.1 (c.suit w) (by omega)
  have em := m_may hc hl hd h h2 h3 hw (t := d.day) (by omega)
  have et := m_talk hl h2 (t := d.day) (by omega)
  have bt := lval_talk hl d.day
  unfold may
  cases q : mayM c l d w d.day with
  | false => rw [q] at em; simp (disch := omega) only [pX11_mayNow, h3.1, em, u_let, u_jn, u_bd, u_gz0, u_gz1, u_gd, u_lit, u_leT, u_leF, u_ltT, u_ltF, u_eqT, u_eqF, nI_clamp, nI_add, u_m1, pk_sub, pk_mul, if_true, if_false, ite_true, ite_false, reduceIte, Nat.reduceEqDiff, u_neM, u_bN, u_bNe, Bool.false_and, bN_f]
  | true =>
    rw [q] at em
    by_cases g : d.how (c.suit w) = 0
    · by_cases g2 : d.spk < talk l d.day
      · simp (disch := omega) only [pX11_mayNow, h3.1, h3.2.1, em, u_let, u_jn, u_bd, u_gz0, u_gz1, u_gd, u_lit, u_leT, u_leF, u_ltT, u_ltF, u_eqT, u_eqF, nI_clamp, nI_add, u_m1, pk_sub, pk_mul, if_true, if_false, ite_true, ite_false, reduceIte, Nat.reduceEqDiff, u_neM, u_bN, u_bNe, e5, f7, g, et, g2, decide_true, Bool.and_self, bN_t, reduceCtorEq]
      · simp (disch := omega) only [pX11_mayNow, h3.1, h3.2.1, em, u_let, u_jn, u_bd, u_gz0, u_gz1, u_gd, u_lit, u_leT, u_leF, u_ltT, u_ltF, u_eqT, u_eqF, nI_clamp, nI_add, u_m1, pk_sub, pk_mul, if_true, if_false, ite_true, ite_false, reduceIte, Nat.reduceEqDiff, u_neM, u_bN, u_bNe, e5, f7, g, et, g2, decide_true, decide_false, Bool.and_false, bN_t, bN_f, reduceCtorEq]
    · simp (disch := omega) only [pX11_mayNow, h3.1, em, u_let, u_jn, u_bd, u_gz0, u_gz1, u_gd, u_lit, u_leT, u_leF, u_ltT, u_ltF, u_eqT, u_eqF, nI_clamp, nI_add, u_m1, pk_sub, pk_mul, if_true, if_false, ite_true, ite_false, reduceIte, Nat.reduceEqDiff, u_neM, u_bN, u_bNe, e5, f7, g, decide_false, Bool.and_false, Bool.false_and, bN_t, bN_f, reduceCtorEq]
theorem h_maySpeak {c : CD} {l : LD} {d : SD} {oc ow os : Ob} (hc : OKC c) (hl : OKL l) (hd : OKS c.S d) (h : CC c oc) (h2 : CL l ow) (h3 : CS c.S d os) {w : Nat} (hw : w < c.W) : pX9_maySpeak oc ow os (nI w) = some (nI (bN (may c l d w d.day && decide (d.spk < talk l d.day)))) := by
  have bd := hd.1
  have bs := hd.2.1
  have em := h_mayCall hc hl hd h h2 h3 hw (t := d.day) (by omega)
  have er := h_room (oc := oc) hl hd h2 h3 (t := d.day) (by omega)
  have bt := lval_talk hl d.day
  have e0 : roomOf l d d.day = talk l d.day - d.spk := by unfold roomOf; rw [if_pos rfl]
  rw [e0] at er
  cases q : may c l d w d.day with
  | false => rw [q] at em; simp (disch := omega) only [pX9_maySpeak, h3.1, em, u_let, u_jn, u_bd, u_gz0, u_gz1, u_gd, u_lit, u_leT, u_leF, u_ltT, u_ltF, u_eqT, u_eqF, nI_clamp, nI_add, u_m1, pk_sub, pk_mul, if_true, if_false, ite_true, ite_false, reduceIte, Nat.reduceEqDiff, u_neM, u_bN, u_bNe, Bool.false_and, bN_f]
  | true =>
    rw [q] at em
    by_cases g2 : d.spk < talk l d.day
    · simp (disch := omega) only [pX9_maySpeak, h3.1, em, u_let, u_jn, u_bd, u_gz0, u_gz1, u_gd, u_lit, u_leT, u_leF, u_ltT, u_ltF, u_eqT, u_eqF, nI_clamp, nI_add, u_m1, pk_sub, pk_mul, if_true, if_false, ite_true, ite_false, reduceIte, Nat.reduceEqDiff, u_neM, u_bN, u_bNe, er, g2, decide_true, Bool.and_self, bN_t, reduceCtorEq]
    · simp (disch := omega) only [pX9_maySpeak, h3.1, em, u_let, u_jn, u_bd, u_gz0, u_gz1, u_gd, u_lit, u_leT, u_leF, u_ltT, u_ltF, u_eqT, u_eqF, nI_clamp, nI_add, u_m1, pk_sub, pk_mul, if_true, if_false, ite_true, ite_false, reduceIte, Nat.reduceEqDiff, u_neM, u_bN, u_bNe, er, g2, decide_false, Bool.and_false, bN_t, bN_f, reduceCtorEq]
