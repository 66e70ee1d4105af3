/-! who may speak, what it weighs, look, hear, dusk: both programs against the numbers -/
def sdm (day spk seed : Nat) (last times struck whole how howd : Nat → Nat) (dusk : Nat → Nat → Nat) : SD := (day, spk, seed, last, times, struck, whole, how, howd, dusk)
theorem u_in (x : Int32) (lo hi : Int64) : pX11_in x.toInt64 lo hi = some (nI (bN (decide (lo.toInt ≤ x.toInt ∧ x.toInt ≤ hi.toInt)))) := by
  unfold pX11_in
  have e1 : (x.toInt64 < lo) = (x.toInt < lo.toInt) := by rw [Int64.lt_iff_toInt_lt, Int32.toInt_toInt64]
  have e2 : (hi < x.toInt64) = (hi.toInt < x.toInt) := by rw [Int64.lt_iff_toInt_lt, Int32.toInt_toInt64]
  by_cases h1 : x.toInt < lo.toInt
  · rw [if_pos (by rw [e1]; exact h1), decide_eq_false (by omega)]; rfl
  · rw [if_neg (by rw [e1]; exact h1)]
    by_cases h2 : hi.toInt < x.toInt
    · rw [if_pos (by rw [e2]; exact h2), decide_eq_false (by omega)]; rfl
    · rw [if_neg (by rw [e2]; exact h2), decide_eq_true (by omega)]; rfl
theorem u_inT {x : Int32} {lo hi : Int64} (h : lo.toInt ≤ x.toInt ∧ x.toInt ≤ hi.toInt) : pX11_in x.toInt64 lo hi = some (nI 1) := by
  rw [u_in, decide_eq_true h]; rfl
theorem u_inF {x : Int32} {lo hi : Int64} (h : ¬ (lo.toInt ≤ x.toInt ∧ x.toInt ≤ hi.toInt)) : pX11_in x.toInt64 lo hi = some (nI 0) := by
  rw [u_in, decide_eq_false h]; rfl
theorem u_neg {x : Int32} (h : x < nI 0) : x.toInt < 0 := by
  have := Int32.lt_iff_toInt_lt.mp h
  rw [nI_toInt (by omega)] at this
  exact this
theorem u_big {x : Int32} {n : Nat} (h : nI n ≤ x) (hn : n < 2147483648) : (n : Int) ≤ x.toInt := by
  have := Int32.le_iff_toInt_le.mp h
  rw [nI_toInt (by omega)] at this
  exact this
theorem u_ltN {x : Int32} {n : Nat} (hn : n < 2147483648) : (x < nI n) ↔ (x.toInt < (n : Int)) := by rw [Int32.lt_iff_toInt_lt, nI_toInt (by omega)]
theorem u_leN {x : Int32} {n : Nat} (hn : n < 2147483648) : (x ≤ nI n) ↔ (x.toInt ≤ (n : Int)) := by rw [Int32.le_iff_toInt_le, nI_toInt (by omega)]
theorem u_Nle {x : Int32} {n : Nat} (hn : n < 2147483648) : (nI n ≤ x) ↔ ((n : Int) ≤ x.toInt) := by rw [Int32.le_iff_toInt_le, nI_toInt (by omega)]
theorem u_Nlt {x : Int32} {n : Nat} (hn : n < 2147483648) : (nI n < x) ↔ ((n : Int) < x.toInt) := by rw [Int32.lt_iff_toInt_lt, nI_toInt (by omega)]
theorem u_s1 {n : Nat} (h : n < 1000000) : ((nI n - nI 1).toInt64).toInt = (n : Int) - 1 := by
  rw [Int32.toInt_toInt64, pk_sub_toInt (by omega) (by omega)]; rfl
/-! suits and witnesses by their numbers -/
theorem h_suitT {c : CD} {o : Ob} (hc : OKC c) (h : CC c o) {s : Nat} (hs : s < c.S) : pX2_hasSuit o (nI s) = some (nI 1) := by
  have := hc.1
  simp (disch := omega) only [pX2_hasSuit, h.1, u_let, u_jn, u_bd, u_gz0, u_gz1, u_gd, u_lit, u_leT, u_leF, u_ltT, u_ltF, u_eqT, u_eqF, nI_clamp, nI_add, u_m1, pk_sub, pk_mul, if_true, if_false, ite_true, ite_false, reduceIte, Nat.reduceEqDiff, u_neM, u_bN, u_bNe]
theorem h_suitF {c : CD} {o : Ob} (hc : OKC c) (h : CC c o) {x : Int32} (hx : x < nI 0 ∨ nI c.S ≤ x) : pX2_hasSuit o x = some (nI 0) := by
  have h6 := hc.1
  unfold pX2_hasSuit
  simp only [u_lit]
  rw [h.1]
  rcases hx with hx | hx
  · rw [if_pos hx]; rfl
  · by_cases q : x < nI 0
    · rw [if_pos q]; rfl
    · rw [if_neg q, if_pos hx]; rfl
theorem h_witT {c : CD} {o : Ob} (hc : OKC c) (h : CC c o) {w : Nat} (hw : w < c.W) : pX2_hasWitness o (nI w) = some (nI 1) := by
  have := hc.2.1
  simp (disch := omega) only [pX2_hasWitness, h.2.1, u_let, u_jn, u_bd, u_gz0, u_gz1, u_gd, u_lit, u_leT, u_leF, u_ltT, u_ltF, u_eqT, u_eqF, nI_clamp, nI_add, u_m1, pk_sub, pk_mul, if_true, if_false, ite_true, ite_false, reduceIte, Nat.reduceEqDiff, u_neM, u_bN, u_bNe]
theorem h_witF {c : CD} {o : Ob} (hc : OKC c) (h : CC c o) {x : Int32} (hx : x < nI 0 ∨ nI c.W ≤ x) : pX2_hasWitness o x = some (nI 0) := by
  unfold pX2_hasWitness
  simp only [u_lit]
  rw [h.2.1]
  rcases hx with hx | hx
  · rw [if_pos hx]; rfl
  · by_cases q : x < nI 0
    · rw [if_pos q]; rfl
    · rw [if_neg q, if_pos hx]; rfl
theorem m_suitT {c : CD} {m : Ob} (hc : OKC c) (h : MC c m) {s : Nat} (hs : s < c.S) : pX11_isSuit m (nI s) = some (nI 1) := by
  have := hc.1
  unfold pX11_isSuit
  rw [h.1, u_lit, u_inT ⟨by rw [nI_toInt (by omega)]; exact Int.natCast_nonneg s, by rw [u_s1 (by omega), nI_toInt (by omega)]; omega⟩]
  rfl
theorem m_suitF {c : CD} {m : Ob} (hc : OKC c) (h : MC c m) {x : Int32} (hx : x < nI 0 ∨ nI c.S ≤ x) : pX11_isSuit m x = some (nI 0) := by
  have := hc.1
  unfold pX11_isSuit
  rw [h.1, u_lit, u_inF (by
    rw [u_s1 (by omega)]
    have e0 : (0 : Int64).toInt = 0 := by decide
    rw [e0]
    rcases hx with hx | hx
    · have := u_neg hx; omega
    · have := u_big hx (by omega); omega)]
  rfl
theorem m_witT {c : CD} {m : Ob} (hc : OKC c) (h : MC c m) {w : Nat} (hw : w < c.W) : pX11_isWitness m (nI w) = some (nI 1) := by
  have := hc.2.1
  unfold pX11_isWitness
  rw [h.2.1, u_lit, u_inT ⟨by rw [nI_toInt (by omega)]; exact Int.natCast_nonneg w, by rw [u_s1 (by omega), nI_toInt (by omega)]; omega⟩]
  rfl
theorem m_witF {c : CD} {m : Ob} (hc : OKC c) (h : MC c m) {x : Int32} (hx : x < nI 0 ∨ nI c.W ≤ x) : pX11_isWitness m x = some (nI 0) := by
  have := hc.2.1
  unfold pX11_isWitness
  rw [h.2.1, u_lit, u_inF (by
    rw [u_s1 (by omega)]
    have e0 : (0 : Int64).toInt = 0 := by decide
    rw [e0]
    rcases hx with hx | hx
    · have := u_neg hx; omega
    · have := u_big hx (by omega); omega)]
  rfl
/-! what a witness weighs -/
def fresh (c : CD) (l : LD) (w t : Nat) : Nat := c.wt w * (if c.kind w = 1 then copies l t else if c.kind w = 3 then 6 else 3)
theorem fresh_le {c : CD} {l : LD} (hc : OKC c) (hl : OKL l) {w : Nat} (hw : w < c.W) (t : Nat) : fresh c l w t ≤ 594 := by
  have h1 := (hc.2.2.2.1 w hw).2.2.1
  have h2 := lval_copies hl t
  unfold fresh
  have : (if c.kind w = 1 then copies l t else if c.kind w = 3 then 6 else 3) ≤ 6 := by
    split
    · exact h2
    · split <;> omega
  calc _ ≤ 99 * 6 := Nat.mul_le_mul h1 this
    _ = 594 := rfl
theorem h_fresh {c : CD} {l : LD} {oc ow os : Ob} (hc : OKC c) (hl : OKL l) (h : CC c oc) (h2 : CL l ow) {w t : Nat} (hw : w < c.W) (ht : t < 2147483648) : pX9_freshOn oc ow os (nI w) (nI t) = some (nI (fresh c l w t)) := by
  have hW := hc.2.1
  obtain ⟨_, e6, e7⟩ := h.2.2.2 w hw
  obtain ⟨_, _, _, hk⟩ := hc.2.2.2.1 w hw
  have ew := h_witT hc h hw
  have ec := h_copies hl h2 ht
  unfold fresh
  by_cases k1 : c.kind w = 1
  · simp (disch := omega) only [pX9_freshOn, ew, ec, u_let, u_jn, u_bd, u_gz0, u_gz1, u_gd, u_lit, u_leT, u_leF, u_ltT, u_ltF, u_eqT, u_eqF, nI_clamp, nI_add, u_m1, pk_sub, pk_mul, if_true, if_false, ite_true, ite_false, reduceIte, Nat.reduceEqDiff, u_neM, u_bN, u_bNe, e6, e7, k1]
  · by_cases k3 : c.kind w = 3
    · simp (disch := omega) only [pX9_freshOn, ew, ec, u_let, u_jn, u_bd, u_gz0, u_gz1, u_gd, u_lit, u_leT, u_leF, u_ltT, u_ltF, u_eqT, u_eqF, nI_clamp, nI_add, u_m1, pk_sub, pk_mul, if_true, if_false, ite_true, ite_false, reduceIte, Nat.reduceEqDiff, u_neM, u_bN, u_bNe, e6, e7, k3]
    · simp (disch := omega) only [pX9_freshOn, ew, ec, u_let, u_jn, u_bd, u_gz0, u_gz1, u_gd, u_lit, u_leT, u_leF, u_ltT, u_ltF, u_eqT, u_eqF, nI_clamp, nI_add, u_m1, pk_sub, pk_mul, if_true, if_false, ite_true, ite_false, reduceIte, Nat.reduceEqDiff, u_neM, u_bN, u_bNe, e6, e7, k1, k3]
theorem m_fresh {c : CD} {l : LD} {m : Ob} (hc : OKC c) (hl : OKL l) (h : MC c m) (h2 : ML l m) {w t : Nat} (hw : w < c.W) (ht : t < 2147483648) : pX11_freshOn m (nI w) (nI t) = some (nI (fresh c l w t)) := by
  have hW := hc.2.1
  obtain ⟨_, e6, e7⟩ := h.2.2.2 w hw
  obtain ⟨_, _, _, hk⟩ := hc.2.2.2.1 w hw
  have ec := m_copies hl h2 ht
  unfold fresh
  by_cases k1 : c.kind w = 1
  · simp (disch := omega) only [pX11_freshOn, ec, u_let, u_jn, u_bd, u_gz0, u_gz1, u_gd, u_lit, u_leT, u_leF, u_ltT, u_ltF, u_eqT, u_eqF, nI_clamp, nI_add, u_m1, pk_sub, pk_mul, if_true, if_false, ite_true, ite_false, reduceIte, Nat.reduceEqDiff, u_neM, u_bN, u_bNe, e6, e7, k1]
  · by_cases k3 : c.kind w = 3
    · simp (disch := omega) only [pX11_freshOn, ec, u_let, u_jn, u_bd, u_gz0, u_gz1, u_gd, u_lit, u_leT, u_leF, u_ltT, u_ltF, u_eqT, u_eqF, nI_clamp, nI_add, u_m1, pk_sub, pk_mul, if_true, if_false, ite_true, ite_false, reduceIte, Nat.reduceEqDiff, u_neM, u_bN, u_bNe, e6, e7, k3]
    · simp (disch := omega) only [pX11_freshOn, ec, u_let, u_jn, u_bd, u_gz0, u_gz1, u_gd, u_lit, u_leT, u_leF, u_ltT, u_ltF, u_eqT, u_eqF, nI_clamp, nI_add, u_m1, pk_sub, pk_mul, if_true, if_false, ite_true, ite_false, reduceIte, Nat.reduceEqDiff, u_neM, u_bN, u_bNe, e6, e7, k1, k3]
/-! who may speak -/
def mayM (c : CD) (l : LD) (d : SD) (w t : Nat) : Bool := decide (d.struck w = 0 ∧ (d.last w = 0 ∨ (c.kind w ≠ 2 ∧ d.last w - 1 + moon l t ≤ t)))
def may (c : CD) (l : LD) (d : SD) (w t : Nat) : Bool := mayM c l d w t && decide (d.how (c.suit w) = 0)
theorem h_goesT {c : CD} {d : SD} {oc ow os : Ob} (hc : OKC c) (h : CC c oc) (h3 : CS c.S d os) (hd : OKS c.S d) {s : Nat} (hs : s < c.S) : pX9_goesOn oc ow os (nI s) = some (nI (bN (decide (d.how s = 0)))) := by
  have h6 := hc.1
  have e := h_suitT hc h hs
  have e7 := (h3.2.2.2.2.1 s (by omega)).2.1
  have b := (hd.2.2.2.2.1 s (by omega)).2.1
  by_cases g : d.how s = 0
  · simp (disch := omega) only [pX9_goesOn, e, u_let, u_jn, u_bd, u_gz0, u_gz1, u_gd, u_lit, u_leT, u_leF, u_ltT, u_ltF, u_eqT, u_eqF, nI_clamp, nI_add, u_m1, pk_sub, pk_mul, if_true, if_false, ite_true, ite_false, reduceIte, Nat.reduceEqDiff, u_neM, u_bN, u_bNe, e7, decide_true, g, bN_t]
  · simp (disch := omega) only [pX9_goesOn, e, u_let, u_jn, u_bd, u_gz0, u_gz1, u_gd, u_lit, u_leT, u_leF, u_ltT, u_ltF, u_eqT, u_eqF, nI_clamp, nI_add, u_m1, pk_sub, pk_mul, if_true, if_false, ite_true, ite_false, reduceIte, Nat.reduceEqDiff, u_neM, u_bN, u_bNe, e7, g, decide_false, bN_f]
theorem h_mayCall {c : CD} {l : LD} {d : SD} {oc ow os : Ob} (hc : OKC c) (hl : OKL l) (hd : OKS c.S d) (h : CC c oc) (h2 : CL l ow) (h3 : CS c.S d os) {w t : Nat} (hw : w < c.W) (ht : t < 1000000) : pX9_mayBeCalled oc ow os (nI w) (nI t) = some (nI (bN (may c l d w t))) := by
  have hW := hc.2.1
  have h6 := hc.1
  obtain ⟨e5, e6, e7⟩ := h.2.2.2 w hw
  obtain ⟨hsu, _, _, hk⟩ := hc.2.2.2.1 w hw
  obtain ⟨f3, f4, f5⟩ := h3.2.2.2.1 w (by omega)
  obtain ⟨b1, b2, b3, b4⟩ := hd.2.2.2.1 w (by omega)
  have bd := hd.1
  have ew := h_witT hc h hw
  have em := h_moon hl h2 (t := t) (by omega)
  have bm := lval_moon hl t
  have eg := h_goesT (ow := ow) hc h h3 hd hsu
  unfold may mayM
  by_cases g1 : d.struck w = 1
  · have : ¬ d.struck w = 0 := by omega
    simp (disch := omega) only [pX9_mayBeCalled, ew, u_let, u_jn, u_bd, u_gz0, u_gz1, u_gd, u_lit, u_leT, u_leF, u_ltT, u_ltF, u_eqT, u_eqF, nI_clamp, nI_add, u_m1, pk_sub, pk_mul, if_true, if_false, ite_true, ite_false, reduceIte, Nat.reduceEqDiff, u_neM, u_bN, u_bNe, f5, g1, Nat.one_ne_zero, false_and, decide_false, Bool.false_and, bN_f]
  · have g0 : d.struck w = 0 := by omega
    by_cases g2 : d.how (c.suit w) = 0
    · by_cases g3 : d.last w = 0
      · have : d.times w = 0 := by omega
        simp (disch := omega) only [pX9_mayBeCalled, ew, u_let, u_jn, u_bd, u_gz0, u_gz1, u_gd, u_lit, u_leT, u_leF, u_ltT, u_ltF, u_eqT, u_eqF, nI_clamp, nI_add, u_m1, pk_sub, pk_mul, if_true, if_false, ite_true, ite_false, reduceIte, Nat.reduceEqDiff, u_neM, u_bN, u_bNe, f5, g0, e5, eg, g2, f4, this, g3, decide_true, true_or, and_self, Bool.and_self, bN_t, reduceCtorEq]
      · have : 0 < d.times w := by omega
        have p := nO_p (n := d.last w) (by omega)
        by_cases g4 : c.kind w = 2
        · simp (disch := omega) only [pX9_mayBeCalled, ew, u_let, u_jn, u_bd, u_gz0, u_gz1, u_gd, u_lit, u_leT, u_leF, u_ltT, u_ltF, u_eqT, u_eqF, nI_clamp, nI_add, u_m1, pk_sub, pk_mul, if_true, if_false, ite_true, ite_false, reduceIte, Nat.reduceEqDiff, u_neM, u_bN, u_bNe, f5, g0, e5, eg, g2, f4, f3, p, e7, g4, g3, ne_eq, not_true, false_and, or_self, and_false, decide_false, Bool.false_and, decide_true, bN_f, bN_t, reduceCtorEq]
        · by_cases g5 : d.last w - 1 + moon l t ≤ t
          · simp (disch := omega) only [pX9_mayBeCalled, ew, u_let, u_jn, u_bd, u_gz0, u_gz1, u_gd, u_lit, u_leT, u_leF, u_ltT, u_ltF, u_eqT, u_eqF, nI_clamp, nI_add, u_m1, pk_sub, pk_mul, if_true, if_false, ite_true, ite_false, reduceIte, Nat.reduceEqDiff, u_neM, u_bN, u_bNe, f5, g0, e5, eg, g2, f4, f3, p, e7, em, g4, g3, g5, ne_eq, not_false_eq_true, and_self, or_true, decide_true, Bool.and_self, bN_t, reduceCtorEq]
          · simp (disch := omega) only [pX9_mayBeCalled, ew, u_let, u_jn, u_bd, u_gz0, u_gz1, u_gd, u_lit, u_leT, u_leF, u_ltT, u_ltF, u_eqT, u_eqF, nI_clamp, nI_add, u_m1, pk_sub, pk_mul, if_true, if_false, ite_true, ite_false, reduceIte, Nat.reduceEqDiff, u_neM, u_bN, u_bNe, f5, g0, e5, eg, g2, f4, f3, p, e7, em, g4, g3, g5, ne_eq, not_false_eq_true, and_false, or_self, decide_true, decide_false, Bool.false_and, bN_t, bN_f, reduceCtorEq]
    · simp (disch := omega) only [pX9_mayBeCalled, ew, u_let, u_jn, u_bd, u_gz0, u_gz1, u_gd, u_lit, u_leT, u_leF, u_ltT, u_ltF, u_eqT, u_eqF, nI_clamp, nI_add, u_m1, pk_sub, pk_mul, if_true, if_false, ite_true, ite_false, reduceIte, Nat.reduceEqDiff, u_neM, u_bN, u_bNe, f5, g0, e5, eg, g2, decide_false, Bool.and_false, bN_f]
theorem m_may {c : CD} {l : LD} {d : SD} {m : Ob} (hc : OKC c) (hl : OKL l) (hd : OKS c.S d) (h : MC c m) (h2 : ML l m) (h3 : MS c.S d m) {w t : Nat} (hw : w < c.W) (ht : t < 1000000) : pX11_mayOn m (nI w) (nI t) = some (nI (bN (mayM c l d w t))) := by
  have hW := hc.2.1
  obtain ⟨e5, e6, e7⟩ := h.2.2.2 w hw
  obtain ⟨hsu, _, _, hk⟩ := hc.2.2.2.1 w hw
  obtain ⟨f3, f4, f5⟩ := h3.2.2.2.1 w (by omega)
  have f3 := f3 (by omega)
  obtain ⟨b1, b2, b3, b4⟩ := hd.2.2.2.1 w (by omega)
  have bd := hd.1
  have em := m_moon hl h2 (t := t) (by omega)
  have bm := lval_moon hl t
  unfold mayM
  have K : ∀ x : Nat, x ≤ 1 → d.struck w = x → (zgd (nI w) 12 (if ga m 12 w = nI 0 then some (nI 1) else some (nI 0))) = some (nI (bN (decide (x = 0)))) := by
    intro x hx e
    rcases (show x = 0 ∨ x = 1 by omega) with rfl | rfl
    · simp (disch := omega) only [u_let, u_jn, u_bd, u_gz0, u_gz1, u_gd, u_lit, u_leT, u_leF, u_ltT, u_ltF, u_eqT, u_eqF, nI_clamp, nI_add, u_m1, pk_sub, pk_mul, if_true, if_false, ite_true, ite_false, reduceIte, Nat.reduceEqDiff, u_neM, u_bN, u_bNe, f5, e, decide_true, bN_t]
    · simp (disch := omega) only [u_let, u_jn, u_bd, u_gz0, u_gz1, u_gd, u_lit, u_leT, u_leF, u_ltT, u_ltF, u_eqT, u_eqF, nI_clamp, nI_add, u_m1, pk_sub, pk_mul, if_true, if_false, ite_true, ite_false, reduceIte, Nat.reduceEqDiff, u_neM, u_bN, u_bNe, f5, e, Nat.one_ne_zero, decide_false, bN_f]
  have K1 := K (d.struck w) b4 rfl
  by_cases g3 : d.last w = 0
  · simp (disch := omega) only [pX11_mayOn, u_let, u_jn, u_bd, u_gz0, u_gz1, u_gd, u_lit, u_leT, u_leF, u_ltT, u_ltF, u_eqT, u_eqF, nI_clamp, nI_add, u_m1, pk_sub, pk_mul, if_true, if_false, ite_true, ite_false, reduceIte, Nat.reduceEqDiff, u_neM, u_bN, u_bNe, f3, nO_ltT, g3, K1, true_or, and_true]
  · have p := nO_p (n := d.last w) (by omega)
    by_cases g4 : c.kind w = 2
    · simp (disch := omega) only [pX11_mayOn, u_let, u_jn, u_bd, u_gz0, u_gz1, u_gd, u_lit, u_leT, u_leF, u_ltT, u_ltF, u_eqT, u_eqF, nI_clamp, nI_add, u_m1, pk_sub, pk_mul, if_true, if_false, ite_true, ite_false, reduceIte, Nat.reduceEqDiff, u_neM, u_bN, u_bNe, f3, nO_ltF, e7, g4, g3, ne_eq, not_true, false_and, or_self, and_false, decide_false, bN_f]
    · by_cases g5 : d.last w - 1 + moon l t ≤ t
      · simp (disch := omega) only [pX11_mayOn, u_let, u_jn, u_bd, u_gz0, u_gz1, u_gd, u_lit, u_leT, u_leF, u_ltT, u_ltF, u_eqT, u_eqF, nI_clamp, nI_add, u_m1, pk_sub, pk_mul, if_true, if_false, ite_true, ite_false, reduceIte, Nat.reduceEqDiff, u_neM, u_bN, u_bNe, f3, nO_ltF, e7, em, p, K1, g4, g3, g5, ne_eq, not_false_eq_true, and_self, or_true, and_true]
      · simp (disch := omega) only [pX11_mayOn, u_let, u_jn, u_bd, u_gz0, u_gz1, u_gd, u_lit, u_leT, u_leF, u_ltT, u_ltF, u_eqT, u_eqF, nI_clamp, nI_add, u_m1, pk_sub, pk_mul, if_true, if_false, ite_true, ite_false, reduceIte, Nat.reduceEqDiff, u_neM, u_bN, u_bNe, f3, nO_ltF, e7, em, p, g4, g3, g5, ne_eq, not_false_eq_true, and_false, or_self, decide_false, bN_f]
/-! how many more may speak -/
def roomOf (l : LD) (d : SD) (t : Nat) : Nat := talk l t - (if t = d.day then d.spk else 0)
theorem u_max0 {a b : Nat} {dc : Decidable (nI 0 < nI a - nI b)} (h : a < 1000 ∧ b < 1000) : (@ite _ (nI 0 < nI a - nI b) dc (nI a - nI b) (nI 0)) = nI (a - b) := by
  rcases Nat.lt_or_ge b a with h | h
  · rw [if_pos (by rw [pk_sub (by omega)]; exact nI_lt (by omega) (by omega)), pk_sub (by omega)]
  · have e : a - b = 0 := by omega
    rw [e]
    rcases Nat.lt_or_ge a b with q | q
    · have := pk_sneg (a := a) (b := b) (by omega) q
      rw [if_neg (fun r => by
        have r1 := Int32.lt_iff_toInt_lt.mp this
        have r2 := Int32.lt_iff_toInt_lt.mp r
        have e0 : (nI 0).toInt = (0 : Int32).toInt := rfl
        rw [e0] at r2
        omega)]
    · have : a = b := by omega
      subst this
      rw [if_neg (fun r => by
        rw [pk_sub (Nat.le_refl _), Nat.sub_self] at r
        exact (nI_nlt (Nat.le_refl 0) (by omega)) r)]
theorem u_max1 {a b : Nat} {dc : Decidable (nI 0 ≤ nI a - nI b)} (h : a < 1000 ∧ b < 1000) : (@ite _ (nI 0 ≤ nI a - nI b) dc (some (nI a - nI b)) (some (nI 0))) = some (nI (a - b)) := by
  rcases Nat.lt_or_ge a b with q | q
  · have := pk_sneg (a := a) (b := b) (by omega) q
    rw [if_neg (fun r => by
      have r1 := Int32.lt_iff_toInt_lt.mp this
      have r2 := Int32.le_iff_toInt_le.mp r
      have e0 : (nI 0).toInt = (0 : Int32).toInt := rfl
      rw [e0] at r2
      omega), show a - b = 0 by omega]
  · rw [if_pos (by rw [pk_sub q]; exact nI_le (by omega) (by omega)), pk_sub q]
theorem h_room {c : CD} {l : LD} {d : SD} {oc ow os : Ob} (hl : OKL l) (hd : OKS c.S d) (h2 : CL l ow) (h3 : CS c.S d os) {t : Nat} (ht : t < 1000000) : pX9_roomOn oc ow os (nI t) = some (nI (roomOf l d t)) := by
  have e := h_talk hl h2 (t := t) (by omega)
  have b := lval_talk hl t
  have b2 := hd.2.1
  have b3 := hd.1
  unfold roomOf
  by_cases g : t = d.day
  · simp (disch := omega) only [pX9_roomOn, h3.1, h3.2.1, u_let, u_jn, u_bd, u_gz0, u_gz1, u_gd, u_lit, u_leT, u_leF, u_ltT, u_ltF, u_eqT, u_eqF, nI_clamp, nI_add, u_m1, pk_sub, pk_mul, if_true, if_false, ite_true, ite_false, reduceIte, Nat.reduceEqDiff, u_neM, u_bN, u_bNe, e, u_max0, if_pos g]
  · simp (disch := omega) only [pX9_roomOn, h3.1, h3.2.1, u_let, u_jn, u_bd, u_gz0, u_gz1, u_gd, u_lit, u_leT, u_leF, u_ltT, u_ltF, u_eqT, u_eqF, nI_clamp, nI_add, u_m1, pk_sub, pk_mul, if_true, if_false, ite_true, ite_false, reduceIte, Nat.reduceEqDiff, u_neM, u_bN, u_bNe, e, u_max0, if_neg g]
theorem m_room {c : CD} {l : LD} {d : SD} {m : Ob} (hl : OKL l) (hd : OKS c.S d) (h2 : ML l m) (h3 : MS c.S d m) {k : Nat} (hk : k < 1000000) : pX11_room m (nI k) = some (nI (roomOf l d (d.day + k))) := by
  have b3 := hd.1
  have e := m_talk hl h2 (t := d.day + k) (by omega)
  have b := lval_talk hl (d.day + k)
  have b2 := hd.2.1
  unfold roomOf
  by_cases g : k = 0
  · subst g
    rw [Nat.add_zero] at e b
    simp (disch := omega) only [pX11_room, h3.1, h3.2.1, u_let, u_jn, u_bd, u_gz0, u_gz1, u_gd, u_lit, u_leT, u_leF, u_ltT, u_ltF, u_eqT, u_eqF, nI_clamp, nI_add, u_m1, pk_sub, pk_mul, if_true, if_false, ite_true, ite_false, reduceIte, Nat.reduceEqDiff, u_neM, u_bN, u_bNe, e, u_max1, Nat.add_zero]
  · simp (disch := omega) only [pX11_room, h3.1, h3.2.1, u_let, u_jn, u_bd, u_gz0, u_gz1, u_gd, u_lit, u_leT, u_leF, u_ltT, u_ltF, u_eqT, u_eqF, nI_clamp, nI_add, u_m1, pk_sub, pk_mul, if_true, if_false, ite_true, ite_false, reduceIte, Nat.reduceEqDiff, u_neM, u_bN, u_bNe, e, u_max1]
    rw [if_neg (by omega)]
