/-! runs of bytes: blanks, letters, figures -/
def rnF (P : Nat → Bool) (n : Nat) (tb : Nat → Nat) : Nat → Nat → Nat
  | 0, p => p
  | f + 1, p => if p < n ∧ P (tb p) = true then rnF P n tb f (p + 1) else p
def rn (P : Nat → Bool) (n : Nat) (tb : Nat → Nat) (p : Nat) : Nat := rnF P n tb (n - p) p
theorem rn_go {P : Nat → Bool} {n : Nat} {tb : Nat → Nat} {p : Nat} (h : p < n ∧ P (tb p) = true) : rn P n tb p = rn P n tb (p + 1) := by
  unfold rn
  obtain ⟨k, hk⟩ : ∃ k, n - p = k + 1 := ⟨n - p - 1, by omega⟩
  rw [hk, rnF, if_pos h, show n - (p + 1) = k by omega]
theorem rn_no {P : Nat → Bool} {n : Nat} {tb : Nat → Nat} {p : Nat} (h : ¬ (p < n ∧ P (tb p) = true)) : rn P n tb p = p := by
  unfold rn
  cases n - p with
  | zero => rfl
  | succ k => rw [rnF, if_neg h]
theorem rn_all {P : Nat → Bool} {n : Nat} {tb : Nat → Nat} : ∀ k p, n - p = k → p ≤ rn P n tb p ∧ (p ≤ n → rn P n tb p ≤ n) ∧ (∀ i, p ≤ i → i < rn P n tb p → i < n ∧ P (tb i) = true) ∧ ¬ (rn P n tb p < n ∧ P (tb (rn P n tb p)) = true) := by
  intro k
  induction k with
  | zero =>
    intro p hp
    have h : ¬ (p < n ∧ P (tb p) = true) := fun q => by omega
    rw [rn_no h]
    exact ⟨Nat.le_refl _, fun q => q, fun i a b => by omega, h⟩
  | succ k ih =>
    intro p hp
    by_cases h : p < n ∧ P (tb p) = true
    · obtain ⟨a, b, e, g⟩ := ih (p + 1) (by omega)
      rw [rn_go h]
      refine ⟨by omega, fun q => b (by omega), fun i h1 h2 => ?_, g⟩
      rcases Nat.eq_or_lt_of_le h1 with z | z
      · subst z; exact h
      · exact e i (by omega) h2
    · rw [rn_no h]
      exact ⟨Nat.le_refl _, fun q => q, fun i a b => by omega, h⟩
theorem rn_ge (P : Nat → Bool) (n : Nat) (tb : Nat → Nat) (p : Nat) : p ≤ rn P n tb p := (rn_all _ p rfl).1
theorem rn_le {P : Nat → Bool} {n : Nat} {tb : Nat → Nat} {p : Nat} (h : p ≤ n) : rn P n tb p ≤ n := (rn_all _ p rfl).2.1 h
theorem rn_in {P : Nat → Bool} {n : Nat} {tb : Nat → Nat} {p i : Nat} (h1 : p ≤ i) (h2 : i < rn P n tb p) : i < n ∧ P (tb i) = true := (rn_all _ p rfl).2.2.1 i h1 h2
theorem rn_out (P : Nat → Bool) (n : Nat) (tb : Nat → Nat) (p : Nat) : ¬ (rn P n tb p < n ∧ P (tb (rn P n tb p)) = true) := (rn_all _ p rfl).2.2.2
theorem rn_idem (P : Nat → Bool) (n : Nat) (tb : Nat → Nat) (p : Nat) : rn P n tb (rn P n tb p) = rn P n tb p := rn_no (rn_out P n tb p)
/-- a run that is known -/
theorem rn_is {P : Nat → Bool} {n : Nat} {tb : Nat → Nat} {p : Nat} : ∀ k, (∀ i, i < k → p + i < n ∧ P (tb (p + i)) = true) → ¬ (p + k < n ∧ P (tb (p + k)) = true) → rn P n tb p = p + k := by
  intro k
  induction k generalizing p with
  | zero => intro _ h; exact rn_no h
  | succ k ih =>
    intro h1 h2
    have := ih (p := p + 1) (fun i hi => by
      have := h1 (i + 1) (by omega)
      rw [show p + 1 + i = p + (i + 1) by omega]; exact this) (by rw [show p + 1 + k = p + (k + 1) by omega]; exact h2)
    rw [rn_go (p := p) (h1 0 (by omega)), this]
    omega
def isB (b : Nat) : Bool := decide (b = 32)
def isL (b : Nat) : Bool := decide (97 ≤ b ∧ b ≤ 122)
def isF (b : Nat) : Bool := decide (48 ≤ b ∧ b ≤ 57)
/-- the text in both programs -/
def TX (n : Nat) (tb : Nat → Nat) (ot m : Ob) : Prop := n ≤ 500 ∧ gi ot 1 = nI n ∧ gi m 22 = nI n ∧ ∀ i, i < n → tb i < 256 ∧ ga ot 0 i &&& nI 255 = nI (tb i) ∧ ga m 21 i = nI (tb i)
theorem TX_frm {n : Nat} {tb : Nat → Nat} {ot m m' : Ob} {ks : List Nat} (h : TX n tb ot m) (f : frm ks m m') (h1 : 21 ∉ ks) (h2 : 22 ∉ ks) : TX n tb ot m' := by
  obtain ⟨a, b, e, g⟩ := h
  refine ⟨a, b, (f 22 h2).1.trans e, fun i hi => ?_⟩
  rw [(f 21 h1).2.2.1]
  exact g i hi
/-- a byte, or -1 -/
def tO (n : Nat) (tb : Nat → Nat) (p : Nat) : Nat := if p < n then tb p + 1 else 0
theorem h_byteAt {n : Nat} {tb : Nat → Nat} {ot m : Ob} (h : TX n tb ot m) (od : Ob) {p : Nat} (hp : p < 1000000) : pX5_byteAt od ot (nI p) = some (nO (tO n tb p)) := by
  obtain ⟨a, b, e, g⟩ := h
  unfold tO
  by_cases q : p < n
  · have := (g p q).2.1
    rw [if_pos q, nO_s]
    simp (disch := omega) only [pX5_byteAt, u_let, u_jn, u_bd, u_gz0, u_gz1, u_gd, u_lit, u_leT, u_leF, u_ltT, u_ltF, u_eqT, u_eqF, nI_clamp, nI_add, u_m1, pk_sub, pk_mul, if_true, if_false, ite_true, ite_false, reduceIte, Nat.reduceEqDiff, u_neM, u_bN, u_bNe, b, this]
  · rw [if_neg q, nO_0]
    simp (disch := omega) only [pX5_byteAt, u_let, u_jn, u_bd, u_gz0, u_gz1, u_gd, u_lit, u_leT, u_leF, u_ltT, u_ltF, u_eqT, u_eqF, nI_clamp, nI_add, u_m1, pk_sub, pk_mul, if_true, if_false, ite_true, ite_false, reduceIte, Nat.reduceEqDiff, u_neM, u_bN, u_bNe, b]
theorem nO_eqT {a b : Nat} (h : a = b + 1) : (nO a = nI b) = True := by subst h; rw [nO_s]; exact eq_true rfl
theorem nO_eqF {a b : Nat} (h : a ≠ b + 1 ∧ a < 1000000 ∧ b < 1000000) : (nO a = nI b) = False := eq_false (fun e => by
  have := nO_inj (a := a) (b := b + 1) (by omega) (by omega) (by rw [nO_s]; exact e)
  exact h.1 this)
/-- the reader: sound at place p, the last taken at t; or with a fault f at q -/
def RdS (od : Ob) (p t : Nat) : Prop := gi od 1 = nI 0 ∧ gi od 2 = -(nI 1) ∧ gi od 3 = nI p ∧ gi od 4 = nI t
def RdF (od : Ob) (f q : Nat) : Prop := 0 < f ∧ f ≤ 4 ∧ gi od 1 = nI f ∧ gi od 2 = nI q
theorem tO_le {n : Nat} {tb : Nat → Nat} {ot m : Ob} (h : TX n tb ot m) (p : Nat) : tO n tb p ≤ 256 := by
  unfold tO
  split
  · rename_i q
    have := (h.2.2.2 p q).1
    omega
  · omega
theorem h_pass {n : Nat} {tb : Nat → Nat} {ot m : Ob} (h : TX n tb ot m) {od : Ob} {p t k : Nat} (hr : RdS od p t) (hk : p + k ≤ n) : ∃ od', pX5_pass od ot (nI k) = some od' ∧ RdS od' (rn isB n tb (p + k)) p := by
  have hn := h.1
  have key : ∀ f i (q : Nat) (o : Ob), 500 - i < f → i ≤ q → q ≤ n → RdS o q p → ∃ od', lX5_pass_20 ot f (nI i) o = some od' ∧ RdS od' (rn isB n tb q) p := by
    intro f
    induction f with
    | zero => intro i q o h1; omega
    | succ f ih =>
      intro i q o h1 h2 h3 h4
      have hb := h_byteAt h o (p := q) (by omega)
      have hle := tO_le h q
      obtain ⟨r1, r2, r3, r4⟩ := h4
      by_cases g : i < 500
      · by_cases z : q < n ∧ isB (tb q) = true
        · have z2 : tO n tb q = 33 := by
            unfold tO
            rw [if_pos z.1, of_decide_eq_true z.2]
          obtain ⟨od', s1, s2⟩ := ih (i + 1) (q + 1) (si o 3 (nI (q + 1))) (by omega) (by omega) (by omega) ⟨r1, r2, rfl, r4⟩
          refine ⟨od', ?_, by rw [rn_go z]; exact s2⟩
          rw [z2] at hb
          simp (disch := omega) only [lX5_pass_20, u_let, u_jn, u_bd, u_gz0, u_gz1, u_gd, u_lit, u_leT, u_leF, u_ltT, u_ltF, u_eqT, u_eqF, nI_clamp, nI_add, u_m1, pk_sub, pk_mul, if_true, if_false, ite_true, ite_false, reduceIte, Nat.reduceEqDiff, u_neM, u_bN, u_bNe, r3, hb, nO_eqT, s1]
        · have z2 : tO n tb q ≠ 33 := by
            intro y
            unfold tO at y
            by_cases x : q < n
            · rw [if_pos x] at y
              exact z ⟨x, decide_eq_true (by omega)⟩
            · rw [if_neg x] at y
              omega
          refine ⟨o, ?_, by rw [rn_no z]; exact ⟨r1, r2, r3, r4⟩⟩
          simp (disch := omega) only [lX5_pass_20, u_let, u_jn, u_bd, u_gz0, u_gz1, u_gd, u_lit, u_leT, u_leF, u_ltT, u_ltF, u_eqT, u_eqF, nI_clamp, nI_add, u_m1, pk_sub, pk_mul, if_true, if_false, ite_true, ite_false, reduceIte, Nat.reduceEqDiff, u_neM, u_bN, u_bNe, r3, hb, nO_eqF]
      · have z : ¬ (q < n ∧ isB (tb q) = true) := fun y => by omega
        refine ⟨o, ?_, by rw [rn_no z]; exact ⟨r1, r2, r3, r4⟩⟩
        simp (disch := omega) only [lX5_pass_20, u_let, u_jn, u_bd, u_gz0, u_gz1, u_gd, u_lit, u_leT, u_leF, u_ltT, u_ltF, u_eqT, u_eqF, nI_clamp, nI_add, u_m1, pk_sub, pk_mul, if_true, if_false, ite_true, ite_false, reduceIte, Nat.reduceEqDiff, u_neM, u_bN, u_bNe]
  obtain ⟨r1, r2, r3, r4⟩ := hr
  obtain ⟨od', s1, s2⟩ := key zfu 0 (p + k) (si (si od 4 (nI p)) 3 (nI (p + k))) (u_zfu (by omega)) (by omega) hk ⟨r1, r2, rfl, rfl⟩
  refine ⟨od', ?_, s2⟩
  unfold pX5_pass
  rw [u_let, u_let, r3, gi_si, if_neg (by decide), r3, nI_add]
  exact s1
/-! the reference: blanks -/
theorem m_here {n : Nat} {tb : Nat → Nat} {ot m : Ob} (h : TX n tb ot m) {a : Nat} (ha : gi m 24 = nI a) (han : a ≤ n) : ∃ m', pX11_here m = some (nO (tO n tb (rn isB n tb a)), m') ∧ gi m' 24 = nI (rn isB n tb a) ∧ frm [24] m m' := by
  have hn := h.1
  have key : ∀ f (q : Nat) (o : Ob), n - q < f → q ≤ n → gi o 24 = nI q → frm [24] m o → ∃ m', (∀ K : Ob → Option (Int32 × Ob), lX11_here_0 K f o = K m') ∧ gi m' 24 = nI (rn isB n tb q) ∧ frm [24] m m' := by
    intro f
    induction f with
    | zero => intro q o h1; omega
    | succ f ih =>
      intro q o h1 h2 h3 h4
      have hT := TX_frm h h4 (by decide) (by decide)
      have e22 := hT.2.2.1
      by_cases y : q < n
      · obtain ⟨t1, _, t3⟩ := hT.2.2.2 q y
        by_cases z : isB (tb q) = true
        · have z2 : tb q = 32 := of_decide_eq_true z
          obtain ⟨m', s1, s2, s3⟩ := ih (q + 1) (si o 24 (nI (q + 1))) (by omega) (by omega) rfl (frm_si h4 (by decide) _)
          refine ⟨m', fun K => ?_, by rw [rn_go ⟨y, z⟩]; exact s2, s3⟩
          simp (disch := omega) only [lX11_here_0, u_let, u_jn, u_bd, u_gz0, u_gz1, u_gd, u_lit, u_leT, u_leF, u_ltT, u_ltF, u_eqT, u_eqF, nI_clamp, nI_add, u_m1, pk_sub, pk_mul, if_true, if_false, ite_true, ite_false, reduceIte, Nat.reduceEqDiff, u_neM, u_bN, u_bNe, h3, e22, t3, z2, s1]
        · have z2 : tb q ≠ 32 := fun x => z (decide_eq_true x)
          refine ⟨o, fun K => ?_, by rw [rn_no (fun x => z x.2)]; exact h3, h4⟩
          simp (disch := omega) only [lX11_here_0, u_let, u_jn, u_bd, u_gz0, u_gz1, u_gd, u_lit, u_leT, u_leF, u_ltT, u_ltF, u_eqT, u_eqF, nI_clamp, nI_add, u_m1, pk_sub, pk_mul, if_true, if_false, ite_true, ite_false, reduceIte, Nat.reduceEqDiff, u_neM, u_bN, u_bNe, h3, e22, t3]
      · refine ⟨o, fun K => ?_, by rw [rn_no (fun x => y x.1)]; exact h3, h4⟩
        simp (disch := omega) only [lX11_here_0, u_let, u_jn, u_bd, u_gz0, u_gz1, u_gd, u_lit, u_leT, u_leF, u_ltT, u_ltF, u_eqT, u_eqF, nI_clamp, nI_add, u_m1, pk_sub, pk_mul, if_true, if_false, ite_true, ite_false, reduceIte, Nat.reduceEqDiff, u_neM, u_bN, u_bNe, h3, e22]
  obtain ⟨m', s1, s2, s3⟩ := key zfu a m (u_zfu (by omega)) han ha (frm_rf _ _)
  have hT := TX_frm h s3 (by decide) (by decide)
  have e22 := hT.2.2.1
  have hle := rn_le (P := isB) (tb := tb) han
  refine ⟨m', ?_, s2, s3⟩
  unfold pX11_here
  rw [u_jn, s1]
  generalize rn isB n tb a = p at *
  unfold tO
  by_cases y : p < n
  · obtain ⟨t1, _, t3⟩ := hT.2.2.2 p y
    rw [if_pos y, nO_s]
    simp (disch := omega) only [u_let, u_jn, u_bd, u_gz0, u_gz1, u_gd, u_lit, u_leT, u_leF, u_ltT, u_ltF, u_eqT, u_eqF, nI_clamp, nI_add, u_m1, pk_sub, pk_mul, if_true, if_false, ite_true, ite_false, reduceIte, Nat.reduceEqDiff, u_neM, u_bN, u_bNe, s2, e22, t3]
  · rw [if_neg y, nO_0]
    simp (disch := omega) only [u_let, u_jn, u_bd, u_gz0, u_gz1, u_gd, u_lit, u_leT, u_leF, u_ltT, u_ltF, u_eqT, u_eqF, nI_clamp, nI_add, u_m1, pk_sub, pk_mul, if_true, if_false, ite_true, ite_false, reduceIte, Nat.reduceEqDiff, u_neM, u_bN, u_bNe, s2, e22]
