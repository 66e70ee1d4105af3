/-! the court, the laws, the state as numbers; what the two programs hold of them -/
abbrev CD : Type := Nat × Nat × (Nat → Nat) × (Nat → Nat) × (Nat → Nat) × (Nat → Nat) × (Nat → Nat) × (Nat → Nat)
def CD.S (c : CD) : Nat := c.1
def CD.W (c : CD) : Nat := c.2.1
def CD.need (c : CD) : Nat → Nat := c.2.2.1
def CD.fall (c : CD) : Nat → Nat := c.2.2.2.1
def CD.hang (c : CD) : Nat → Nat := c.2.2.2.2.1
def CD.suit (c : CD) : Nat → Nat := c.2.2.2.2.2.1
def CD.wt (c : CD) : Nat → Nat := c.2.2.2.2.2.2.1
def CD.kind (c : CD) : Nat → Nat := c.2.2.2.2.2.2.2
abbrev LD : Type := Nat × (Nat → Nat) × (Nat → Nat) × (Nat → Nat) × (Nat → Nat)
def LD.L (l : LD) : Nat := l.1
def LD.fr (l : LD) : Nat → Nat := l.2.1
def LD.cp (l : LD) : Nat → Nat := l.2.2.1
def LD.mn (l : LD) : Nat → Nat := l.2.2.2.1
def LD.tk (l : LD) : Nat → Nat := l.2.2.2.2
abbrev SD : Type := Nat × Nat × Nat × (Nat → Nat) × (Nat → Nat) × (Nat → Nat) × (Nat → Nat) × (Nat → Nat) × (Nat → Nat) × (Nat → Nat → Nat)
def SD.day (d : SD) : Nat := d.1
def SD.spk (d : SD) : Nat := d.2.1
def SD.seed (d : SD) : Nat := d.2.2.1
def SD.last (d : SD) : Nat → Nat := d.2.2.2.1
def SD.times (d : SD) : Nat → Nat := d.2.2.2.2.1
def SD.struck (d : SD) : Nat → Nat := d.2.2.2.2.2.1
def SD.whole (d : SD) : Nat → Nat := d.2.2.2.2.2.2.1
def SD.how (d : SD) : Nat → Nat := d.2.2.2.2.2.2.2.1
def SD.howd (d : SD) : Nat → Nat := d.2.2.2.2.2.2.2.2.1
def SD.dusk (d : SD) : Nat → Nat → Nat := d.2.2.2.2.2.2.2.2.2
def nup (f : Nat → Nat) (k x : Nat) : Nat → Nat := fun j => if j = k then x else f j
theorem nup_s (f : Nat → Nat) (k x : Nat) : nup f k x k = x := if_pos rfl
theorem nup_n (f : Nat → Nat) {k j : Nat} (x : Nat) (h : j ≠ k) : nup f k x j = f j := if_neg h
/-- how many of the first n witnesses are of a suit -/
def cnt (c : CD) (s : Nat) : Nat → Nat
  | 0 => 0
  | n + 1 => cnt c s n + (if c.suit n = s then 1 else 0)
def OKC (c : CD) : Prop := c.S ≤ 6 ∧ c.W ≤ 12 ∧ (∀ s, s < c.S → 1 ≤ c.need s ∧ c.need s ≤ 999 ∧ 1 ≤ c.fall s ∧ c.fall s ≤ 399 ∧ c.hang s ≤ s) ∧ (∀ w, w < c.W → c.suit w < c.S ∧ 1 ≤ c.wt w ∧ c.wt w ≤ 99 ∧ c.kind w ≤ 3) ∧ (∀ s, s < c.S → cnt c s c.W ≤ 6)
def OKL (l : LD) : Prop := l.L ≤ 6 ∧ (∀ i, i < l.L → l.fr i ≤ 399 ∧ l.cp i ≤ 6 ∧ 1 ≤ l.mn i ∧ l.mn i ≤ 60 ∧ 1 ≤ l.tk i ∧ l.tk i ≤ 6) ∧ (∀ i, i + 1 < l.L → l.fr i < l.fr (i + 1))
def OKS (S : Nat) (d : SD) : Prop := d.day ≤ 399 ∧ d.spk ≤ 6 ∧ d.seed < 2147483648 ∧ (∀ w, w < 12 → d.last w ≤ d.day + 1 ∧ d.times w ≤ d.last w ∧ (0 < d.last w → 0 < d.times w) ∧ d.struck w ≤ 1) ∧ (∀ s, s < S → d.whole s ≤ 3564 + 594 * d.spk ∧ d.how s ≤ 2 ∧ d.howd s ≤ 400) ∧ (∀ s, s < S → ∀ k, k < d.day → d.dusk s k ≤ 7128)
def CC (c : CD) (o : Ob) : Prop := gi o 0 = nI c.S ∧ gi o 1 = nI c.W ∧ (∀ s, s < c.S → ga o 2 s = nI (c.need s) ∧ ga o 3 s = nI (c.fall s) ∧ ga o 4 s = nO (c.hang s)) ∧ (∀ w, w < c.W → ga o 5 w = nI (c.suit w) ∧ ga o 6 w = nI (c.wt w) ∧ ga o 7 w = nI (c.kind w))
def MC (c : CD) (m : Ob) : Prop := gi m 0 = nI c.S ∧ gi m 4 = nI c.W ∧ (∀ s, s < c.S → ga m 1 s = nI (c.need s) ∧ ga m 2 s = nI (c.fall s) ∧ ga m 3 s = nO (c.hang s)) ∧ (∀ w, w < c.W → ga m 5 w = nI (c.suit w) ∧ ga m 6 w = nI (c.wt w) ∧ ga m 7 w = nI (c.kind w))
def CL (l : LD) (o : Ob) : Prop := gi o 0 = nI l.L ∧ ∀ i, i < l.L → ga o 1 i = nI (l.fr i) ∧ ga o 2 i = nI (l.cp i) ∧ ga o 3 i = nI (l.mn i) ∧ ga o 4 i = nI (l.tk i)
def ML (l : LD) (m : Ob) : Prop := gi m 8 = nI l.L ∧ ∀ i, i < l.L → ga m 9 (4 * i) = nI (l.fr i) ∧ ga m 9 (4 * i + 1) = nI (l.cp i) ∧ ga m 9 (4 * i + 2) = nI (l.mn i) ∧ ga m 9 (4 * i + 3) = nI (l.tk i)
def CS (S : Nat) (d : SD) (o : Ob) : Prop := gi o 0 = nI d.day ∧ gi o 1 = nI d.spk ∧ gi o 2 = nI d.seed ∧ (∀ w, w < 12 → ga o 3 w = nO (d.last w) ∧ ga o 4 w = nI (d.times w) ∧ ga o 5 w = nI (d.struck w)) ∧ (∀ s, s < S → ga o 6 s = nI (d.whole s) ∧ ga o 7 s = nI (d.how s) ∧ ga o 8 s = nO (d.howd s)) ∧ (∀ s, s < S → ∀ k, k < d.day → ga o (20 + s) k = nI (d.dusk s k))
def MS (S : Nat) (d : SD) (m : Ob) : Prop := gi m 13 = nI d.day ∧ gi m 14 = nI d.spk ∧ gi m 20 = nI d.seed ∧ (∀ w, w < 12 → (0 < S → ga m 10 w = nO (d.last w)) ∧ ga m 11 w = nI (d.times w) ∧ ga m 12 w = nI (d.struck w)) ∧ (∀ s, s < S → ga m 17 s = nI (d.whole s) ∧ ga m 15 s = nI (d.how s) ∧ ga m 16 s = nO (d.howd s)) ∧ (∀ s, s < S → ∀ k, k < d.day → ga m 19 (400 * s + k) = nI (d.dusk s k)) ∧ (∀ s, s < S → ∀ k, k < 400 → ga m 18 (400 * s + k) = nI (if k < d.day then d.dusk s (d.day - 1 - k) % 2 else 0))
/-! the laws of a day -/
def lcnt (l : LD) (t : Nat) : Nat → Nat
  | 0 => 0
  | n + 1 => if l.fr n ≤ t then n + 1 else lcnt l t n
def lval (v : Nat → Nat) (dd : Nat) (i : Nat) : Nat := if i = 0 then dd else v (i - 1)
def copies (l : LD) (t : Nat) : Nat := lval l.cp 1 (lcnt l t l.L)
def moon (l : LD) (t : Nat) : Nat := lval l.mn 28 (lcnt l t l.L)
def talk (l : LD) (t : Nat) : Nat := lval l.tk 2 (lcnt l t l.L)
theorem lcnt_le (l : LD) (t : Nat) : ∀ n, lcnt l t n ≤ n
  | 0 => Nat.le_refl 0
  | n + 1 => by
    have := lcnt_le l t n
    unfold lcnt
    split <;> omega
theorem lcnt_lo {l : LD} {t : Nat} : ∀ {i : Nat}, (∀ j, j < i → l.fr j ≤ t) → lcnt l t i = i
  | 0, _ => rfl
  | i + 1, h => by unfold lcnt; exact if_pos (h i (by omega))
theorem lcnt_hi {l : LD} {t i : Nat} : ∀ {n : Nat}, i ≤ n → (∀ j, i ≤ j → j < n → t < l.fr j) → lcnt l t n = lcnt l t i
  | 0, h, _ => by have : i = 0 := by omega
                  subst this; rfl
  | n + 1, h, h2 => by
    rcases Nat.lt_or_ge i (n + 1) with q | q
    · have := h2 n (by omega) (by omega)
      rw [lcnt, if_neg (by omega)]
      exact lcnt_hi (by omega) (fun j a b => h2 j a (by omega))
    · have : i = n + 1 := by omega
      subst this; rfl
theorem okl_mono {l : LD} (h : OKL l) {i : Nat} : ∀ {j : Nat}, i ≤ j → j < l.L → l.fr i ≤ l.fr j
  | 0, a, _ => by have : i = 0 := by omega
                  subst this; exact Nat.le_refl _
  | j + 1, a, b => by
    rcases Nat.lt_or_ge i (j + 1) with q | q
    · have h1 := okl_mono h (i := i) (j := j) (by omega) (by omega)
      have h2 := h.2.2 j b
      omega
    · have : i = j + 1 := by omega
      subst this; exact Nat.le_refl _
theorem lval_copies {l : LD} (h : OKL l) (t : Nat) : copies l t ≤ 6 := by
  unfold copies lval
  have := lcnt_le l t l.L
  split
  · omega
  · exact (h.2.1 _ (by omega)).2.1
theorem lval_moon {l : LD} (h : OKL l) (t : Nat) : 1 ≤ moon l t ∧ moon l t ≤ 60 := by
  unfold moon lval
  have := lcnt_le l t l.L
  split
  · omega
  · exact ⟨(h.2.1 _ (by omega)).2.2.1, (h.2.1 _ (by omega)).2.2.2.1⟩
theorem lval_talk {l : LD} (h : OKL l) (t : Nat) : 1 ≤ talk l t ∧ talk l t ≤ 6 := by
  unfold talk lval
  have := lcnt_le l t l.L
  split
  · omega
  · exact ⟨(h.2.1 _ (by omega)).2.2.2.2.1, (h.2.1 _ (by omega)).2.2.2.2.2⟩
/-- the class: the clause of a day -/
theorem h_clause {l : LD} {o : Ob} (hl : OKL l) (h : CL l o) {t : Nat} (ht : t < 2147483648) : pX4_clauseOn o (nI t) = some (nO (lcnt l t l.L)) := by
  have h6 : l.L ≤ 6 := hl.1
  have key : ∀ f i, i ≤ l.L → l.L - i < f → (∀ j, j < i → l.fr j ≤ t) → lX4_clauseOn_4 o (nI t) f (nO i) (nI i) = some (nO (lcnt l t l.L)) := by
    intro f
    induction f with
    | zero => intro i h1 h2; omega
    | succ f ih =>
      intro i h1 h2 h3
      rcases Nat.lt_or_ge i l.L with q | q
      · have e1 := (h.2 i q).1
        have b1 := (hl.2.1 i q).1
        by_cases g : l.fr i ≤ t
        · have := ih (i + 1) (by omega) (by omega) (fun j hj => by
            rcases Nat.lt_or_ge j i with a | a
            · exact h3 j a
            · have : j = i := by omega
              subst this; exact g)
          rw [nO_s] at this
          simp (disch := omega) only [lX4_clauseOn_4, h.1, u_let, u_jn, u_bd, u_gz0, u_gz1, u_gd, u_lit, u_leT, u_leF, u_ltT, u_ltF, u_eqT, u_eqF, nI_clamp, nI_add, u_m1, pk_sub, pk_mul, if_true, if_false, ite_true, ite_false, reduceIte, Nat.reduceEqDiff, u_neM, u_bN, u_bNe, e1, this]
        · have e2 : lcnt l t l.L = i := by
            rw [lcnt_hi (i := i) (by omega) (fun j a b => by
              have := okl_mono hl a b
              omega)]
            exact lcnt_lo h3
          simp (disch := omega) only [lX4_clauseOn_4, h.1, u_let, u_jn, u_bd, u_gz0, u_gz1, u_gd, u_lit, u_leT, u_leF, u_ltT, u_ltF, u_eqT, u_eqF, nI_clamp, nI_add, u_m1, pk_sub, pk_mul, if_true, if_false, ite_true, ite_false, reduceIte, Nat.reduceEqDiff, u_neM, u_bN, u_bNe, e1, e2]
      · have e0 : i = l.L := by omega
        subst e0
        have e2 := lcnt_lo h3
        simp (disch := omega) only [lX4_clauseOn_4, h.1, u_let, u_jn, u_bd, u_gz0, u_gz1, u_gd, u_lit, u_leT, u_leF, u_ltT, u_ltF, u_eqT, u_eqF, nI_clamp, nI_add, u_m1, pk_sub, pk_mul, if_true, if_false, ite_true, ite_false, reduceIte, Nat.reduceEqDiff, u_neM, u_bN, u_bNe, e2]
  unfold pX4_clauseOn
  have := key zfu 0 (by omega) (u_zfu (by omega)) (fun j hj => by omega)
  rw [nO_0] at this
  exact this
theorem h_of {l : LD} {o : Ob} (hl : OKL l) (h : CL l o) {t : Nat} (ht : t < 2147483648) {k dd : Nat} {v : Nat → Nat} (hv : ∀ i, i < l.L → ga o k i = nI (v i)) : (Option.bind (pX4_clauseOn o (nI t)) fun (r1 : Int32) => if r1 < 0 then (some (nI dd)) else (zgd r1 6 <| some (ga o k (r1.toNatClampNeg)))) = some (nI (lval v dd (lcnt l t l.L))) := by
  have h6 : l.L ≤ 6 := hl.1
  have hle := lcnt_le l t l.L
  rw [h_clause hl h ht]
  generalize hn : lcnt l t l.L = n
  rw [hn] at hle
  unfold lval
  rcases Nat.eq_zero_or_pos n with h0 | h0
  · subst h0
    simp (disch := omega) only [u_let, u_jn, u_bd, u_gz0, u_gz1, u_gd, u_lit, u_leT, u_leF, u_ltT, u_ltF, u_eqT, u_eqF, nI_clamp, nI_add, u_m1, pk_sub, pk_mul, if_true, if_false, ite_true, ite_false, reduceIte, Nat.reduceEqDiff, u_neM, u_bN, u_bNe, nO_ltT]
  · have e := hv (n - 1) (by omega)
    simp (disch := omega) only [u_let, u_jn, u_bd, u_gz0, u_gz1, u_gd, u_lit, u_leT, u_leF, u_ltT, u_ltF, u_eqT, u_eqF, nI_clamp, nI_add, u_m1, pk_sub, pk_mul, if_true, if_false, ite_true, ite_false, reduceIte, Nat.reduceEqDiff, u_neM, u_bN, u_bNe, nO_ltF]
    rw [nO_p h0]
    simp (disch := omega) only [u_let, u_jn, u_bd, u_gz0, u_gz1, u_gd, u_lit, u_leT, u_leF, u_ltT, u_ltF, u_eqT, u_eqF, nI_clamp, nI_add, u_m1, pk_sub, pk_mul, if_true, if_false, ite_true, ite_false, reduceIte, Nat.reduceEqDiff, u_neM, u_bN, u_bNe, e]
    rw [if_neg (by omega)]
theorem h_copies {l : LD} {o : Ob} (hl : OKL l) (h : CL l o) {t : Nat} (ht : t < 2147483648) : pX4_copiesOn o (nI t) = some (nI (copies l t)) :=
  h_of hl h ht (k := 2) (dd := 1) (fun i hi => (h.2 i hi).2.1)
theorem h_moon {l : LD} {o : Ob} (hl : OKL l) (h : CL l o) {t : Nat} (ht : t < 2147483648) : pX4_moonOn o (nI t) = some (nI (moon l t)) :=
  h_of hl h ht (k := 3) (dd := 28) (fun i hi => (h.2 i hi).2.2.1)
theorem h_talk {l : LD} {o : Ob} (hl : OKL l) (h : CL l o) {t : Nat} (ht : t < 2147483648) : pX4_talkersOn o (nI t) = some (nI (talk l t)) :=
  h_of hl h ht (k := 4) (dd := 2) (fun i hi => (h.2 i hi).2.2.2)
/-- the reference: the law of a day -/
theorem m_lawg {l : LD} {m : Ob} (hl : OKL l) (h : ML l m) {t q dd : Nat} (ht : t < 2147483648) (hq : q < 4) {v : Nat → Nat} (hv : ∀ i, i < l.L → ga m 9 (4 * i + q) = nI (v i)) : lX11_lawOf_24 m (nI t) (nI q) zfu (nI dd) (nI 0) = some (nI (lval v dd (lcnt l t l.L))) := by
  have h6 : l.L ≤ 6 := hl.1
  refine u_loop (fun f k => lX11_lawOf_24 m (nI t) (nI q) f (nI (lval v dd (lcnt l t k))) (nI k)) l.L _ (fun f k hk => ?_) (fun f => ?_) zfu 0 (by omega) (u_zfu (by omega))
  · have e1 := (h.2 k hk).1
    have b1 := (hl.2.1 k hk).1
    have e2 := hv k hk
    by_cases g : l.fr k ≤ t
    · have e3 : lcnt l t (k + 1) = k + 1 := by rw [lcnt, if_pos g]
      have e4 : lval v dd (k + 1) = v k := by unfold lval; rw [if_neg (by omega)]; rfl
      simp (disch := omega) only [lX11_lawOf_24, h.1, u_let, u_jn, u_bd, u_gz0, u_gz1, u_gd, u_lit, u_leT, u_leF, u_ltT, u_ltF, u_eqT, u_eqF, nI_clamp, nI_add, u_m1, pk_sub, pk_mul, if_true, if_false, ite_true, ite_false, reduceIte, Nat.reduceEqDiff, u_neM, u_bN, u_bNe, e1, e2, e3, e4]
    · have e3 : lcnt l t (k + 1) = lcnt l t k := by rw [lcnt, if_neg g]
      simp (disch := omega) only [lX11_lawOf_24, h.1, u_let, u_jn, u_bd, u_gz0, u_gz1, u_gd, u_lit, u_leT, u_leF, u_ltT, u_ltF, u_eqT, u_eqF, nI_clamp, nI_add, u_m1, pk_sub, pk_mul, if_true, if_false, ite_true, ite_false, reduceIte, Nat.reduceEqDiff, u_neM, u_bN, u_bNe, e1, e2, e3]
  · simp (disch := omega) only [lX11_lawOf_24, h.1, u_let, u_jn, u_bd, u_gz0, u_gz1, u_gd, u_lit, u_leT, u_leF, u_ltT, u_ltF, u_eqT, u_eqF, nI_clamp, nI_add, u_m1, pk_sub, pk_mul, if_true, if_false, ite_true, ite_false, reduceIte, Nat.reduceEqDiff, u_neM, u_bN, u_bNe]
theorem m_copies {l : LD} {m : Ob} (hl : OKL l) (h : ML l m) {t : Nat} (ht : t < 2147483648) : pX11_lawOf m (nI t) (nI 1) = some (nI (copies l t)) := by
  have := m_lawg hl h (q := 1) (dd := 1) ht (by omega) (fun i hi => (h.2 i hi).2.1)
  simp (disch := omega) only [pX11_lawOf, u_let, u_jn, u_bd, u_gz0, u_gz1, u_gd, u_lit, u_leT, u_leF, u_ltT, u_ltF, u_eqT, u_eqF, nI_clamp, nI_add, u_m1, pk_sub, pk_mul, if_true, if_false, ite_true, ite_false, reduceIte, Nat.reduceEqDiff, u_neM, u_bN, u_bNe, this]
  rfl
theorem m_moon {l : LD} {m : Ob} (hl : OKL l) (h : ML l m) {t : Nat} (ht : t < 2147483648) : pX11_lawOf m (nI t) (nI 2) = some (nI (moon l t)) := by
  have := m_lawg hl h (q := 2) (dd := 28) ht (by omega) (fun i hi => (h.2 i hi).2.2.1)
  simp (disch := omega) only [pX11_lawOf, u_let, u_jn, u_bd, u_gz0, u_gz1, u_gd, u_lit, u_leT, u_leF, u_ltT, u_ltF, u_eqT, u_eqF, nI_clamp, nI_add, u_m1, pk_sub, pk_mul, if_true, if_false, ite_true, ite_false, reduceIte, Nat.reduceEqDiff, u_neM, u_bN, u_bNe, this]
  rfl
theorem m_talk {l : LD} {m : Ob} (hl : OKL l) (h : ML l m) {t : Nat} (ht : t < 2147483648) : pX11_lawOf m (nI t) (nI 3) = some (nI (talk l t)) := by
  have := m_lawg hl h (q := 3) (dd := 2) ht (by omega) (fun i hi => (h.2 i hi).2.2.2)
  simp (disch := omega) only [pX11_lawOf, u_let, u_jn, u_bd, u_gz0, u_gz1, u_gd, u_lit, u_leT, u_leF, u_ltT, u_ltF, u_eqT, u_eqF, nI_clamp, nI_add, u_m1, pk_sub, pk_mul, if_true, if_false, ite_true, ite_false, reduceIte, Nat.reduceEqDiff, u_neM, u_bN, u_bNe, this]
  rfl
