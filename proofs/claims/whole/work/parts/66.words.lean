/-! words -/
def wl : List (List Nat) := [[115, 117, 105, 116], [119, 105, 116, 110, 101, 115, 115], [111, 110], [115, 119, 111, 114, 110], [99, 111, 112, 105, 101, 100], [115, 104, 111, 119, 110], [97, 103, 97, 105, 110, 115, 116], [102, 114, 111, 109]]
def wlen (w : Nat) : Nat := (wl.getD w []).length
def wch (w k : Nat) : Nat := (wl.getD w []).getD k 0
theorem w_tab : ∀ w : Fin 8, zlen.getD w.val 0 = wlen w.val ∧ 1 ≤ wlen w.val ∧ wlen w.val ≤ 7 ∧ ∀ k : Fin 7, k.val < wlen w.val → zchr w.val (nI k.val) = nI (wch w.val k.val) ∧ 97 ≤ wch w.val k.val ∧ wch w.val k.val ≤ 122 := by decide +kernel
theorem w_len {w : Nat} (h : w < 8) : zlen.getD w 0 = wlen w ∧ 1 ≤ wlen w ∧ wlen w ≤ 7 := ⟨(w_tab ⟨w, h⟩).1, (w_tab ⟨w, h⟩).2.1, (w_tab ⟨w, h⟩).2.2.1⟩
theorem w_chr {w k : Nat} (h : w < 8) (hk : k < wlen w) : zchr w (nI k) = nI (wch w k) ∧ 97 ≤ wch w k ∧ wch w k ≤ 122 := (w_tab ⟨w, h⟩).2.2.2 ⟨k, by have := (w_len h).2.2; omega⟩ hk
def isW (n : Nat) (tb : Nat → Nat) (w p : Nat) : Prop := rn isL n tb p = p + wlen w ∧ ∀ i, i < wlen w → tb (p + i) = wch w i
theorem h_letter {n : Nat} {tb : Nat → Nat} {ot m : Ob} (h : TX n tb ot m) (p : Nat) : (p < n ∧ isL (tb p) = true → pX5_isLetter (nO (tO n tb p)) = some (nI 1)) ∧ (¬ (p < n ∧ isL (tb p) = true) → pX5_isLetter (nO (tO n tb p)) = some (nI 0)) := by
  unfold tO
  by_cases q : p < n
  · rw [if_pos q, nO_s]
    have b := (h.2.2.2 p q).1
    refine ⟨fun z => ?_, fun z => ?_⟩
    · have y := of_decide_eq_true z.2
      simp (disch := omega) only [pX5_isLetter, u_let, u_jn, u_bd, u_gz0, u_gz1, u_gd, u_lit, u_leT, u_leF, u_ltT, u_ltF, u_eqT, u_eqF, nI_clamp, nI_add, u_m1, pk_sub, pk_mul, if_true, if_false, ite_true, ite_false, reduceIte, Nat.reduceEqDiff, u_neM, u_bN, u_bNe]
    · have y : ¬ (97 ≤ tb p ∧ tb p ≤ 122) := fun r => z ⟨q, decide_eq_true r⟩
      by_cases g : tb p < 97
      · simp (disch := omega) only [pX5_isLetter, u_let, u_jn, u_bd, u_gz0, u_gz1, u_gd, u_lit, u_leT, u_leF, u_ltT, u_ltF, u_eqT, u_eqF, nI_clamp, nI_add, u_m1, pk_sub, pk_mul, if_true, if_false, ite_true, ite_false, reduceIte, Nat.reduceEqDiff, u_neM, u_bN, u_bNe]
      · simp (disch := omega) only [pX5_isLetter, u_let, u_jn, u_bd, u_gz0, u_gz1, u_gd, u_lit, u_leT, u_leF, u_ltT, u_ltF, u_eqT, u_eqF, nI_clamp, nI_add, u_m1, pk_sub, pk_mul, if_true, if_false, ite_true, ite_false, reduceIte, Nat.reduceEqDiff, u_neM, u_bN, u_bNe]
  · rw [if_neg q]
    refine ⟨fun z => absurd z.1 q, fun _ => ?_⟩
    decide
theorem h_sees {n : Nat} {tb : Nat → Nat} {ot m : Ob} (h : TX n tb ot m) {od : Ob} {p t w : Nat} (hr : RdS od p t) (hp : p ≤ n) (hw : w < 8) : (isW n tb w p → pX5_seesWord w od ot = some (nI 1)) ∧ (¬ isW n tb w p → pX5_seesWord w od ot = some (nI 0)) := by
  have hn := h.1
  obtain ⟨l1, l2, l3⟩ := w_len hw
  have e3 := hr.2.2.1
  have key : ∀ (K : Option Int32) f k, wlen w - k < f → k ≤ wlen w → (∀ i, i < k → p + i < n ∧ tb (p + i) = wch w i) → ((∀ i, i < wlen w → p + i < n ∧ tb (p + i) = wch w i) → lX5_seesWord_2 w od ot K f (nI k) = K) ∧ (¬ (∀ i, i < wlen w → p + i < n ∧ tb (p + i) = wch w i) → lX5_seesWord_2 w od ot K f (nI k) = some (nI 0)) := by
    intro K f
    induction f with
    | zero => intro k h1; omega
    | succ f ih =>
      intro k h1 h2 h3
      rcases Nat.lt_or_ge k (wlen w) with g | g
      · have hb := h_byteAt h od (p := p + k) (by omega)
        obtain ⟨c1, c2, c3⟩ := w_chr hw g
        have hle := tO_le h (p + k)
        by_cases z : p + k < n ∧ tb (p + k) = wch w k
        · obtain ⟨r1, r2⟩ := ih (k + 1) (by omega) (by omega) (fun i hi => by
            rcases Nat.lt_or_ge i k with y | y
            · exact h3 i y
            · have : i = k := by omega
              subst this; exact z)
          have e : tO n tb (p + k) = wch w k + 1 := by unfold tO; rw [if_pos z.1, z.2]
          have step : lX5_seesWord_2 w od ot K (f + 1) (nI k) = lX5_seesWord_2 w od ot K f (nI (k + 1)) := by
            simp (disch := omega) only [lX5_seesWord_2, u_let, u_jn, u_bd, u_gz0, u_gz1, u_gd, u_lit, u_leT, u_leF, u_ltT, u_ltF, u_eqT, u_eqF, nI_clamp, nI_add, u_m1, pk_sub, pk_mul, if_true, if_false, ite_true, ite_false, reduceIte, Nat.reduceEqDiff, u_neM, u_bN, u_bNe, e3, l1, hb, c1, nO_eqT]
          rw [step]
          exact ⟨r1, r2⟩
        · have e : tO n tb (p + k) ≠ wch w k + 1 := by
            unfold tO
            by_cases x : p + k < n
            · rw [if_pos x]
              exact fun y => z ⟨x, by omega⟩
            · rw [if_neg x]; omega
          have step : lX5_seesWord_2 w od ot K (f + 1) (nI k) = some (nI 0) := by
            simp (disch := omega) only [lX5_seesWord_2, u_let, u_jn, u_bd, u_gz0, u_gz1, u_gd, u_lit, u_leT, u_leF, u_ltT, u_ltF, u_eqT, u_eqF, nI_clamp, nI_add, u_m1, pk_sub, pk_mul, if_true, if_false, ite_true, ite_false, reduceIte, Nat.reduceEqDiff, u_neM, u_bN, u_bNe, e3, l1, hb, c1, nO_eqF]
          rw [step]
          exact ⟨fun y => absurd (y k g) z, fun _ => rfl⟩
      · have : k = wlen w := by omega
        subst this
        have step : lX5_seesWord_2 w od ot K (f + 1) (nI (wlen w)) = K := by
          simp (disch := omega) only [lX5_seesWord_2, u_let, u_jn, u_bd, u_gz0, u_gz1, u_gd, u_lit, u_leT, u_leF, u_ltT, u_ltF, u_eqT, u_eqF, nI_clamp, nI_add, u_m1, pk_sub, pk_mul, if_true, if_false, ite_true, ite_false, reduceIte, Nat.reduceEqDiff, u_neM, u_bN, u_bNe, e3, l1]
        rw [step]
        exact ⟨fun _ => rfl, fun y => absurd h3 y⟩
  have hb := h_byteAt h od (p := p + wlen w) (by omega)
  obtain ⟨hl1, hl2⟩ := h_letter h (p + wlen w)
  have go : ∀ (K : Option Int32), (∀ i, i < wlen w → p + i < n ∧ tb (p + i) = wch w i) → lX5_seesWord_2 w od ot K zfu 0 = K := fun K q => (key K zfu 0 (u_zfu (by omega)) (by omega) (fun i hi => absurd hi (Nat.not_lt_zero i))).1 q
  have no : ∀ (K : Option Int32), ¬ (∀ i, i < wlen w → p + i < n ∧ tb (p + i) = wch w i) → lX5_seesWord_2 w od ot K zfu 0 = some (nI 0) := fun K q => (key K zfu 0 (u_zfu (by omega)) (by omega) (fun i hi => absurd hi (Nat.not_lt_zero i))).2 q
  unfold pX5_seesWord
  rw [u_jn]
  refine ⟨fun q => ?_, fun q => ?_⟩
  · have q1 : ∀ i, i < wlen w → p + i < n ∧ tb (p + i) = wch w i := fun i hi => ⟨(rn_in (P := isL) (tb := tb) (p := p) (i := p + i) (by omega) (by rw [q.1]; omega)).1, q.2 i hi⟩
    have q2 := rn_out isL n tb p
    rw [q.1] at q2
    rw [go _ q1, u_bd, e3, l1, nI_add, hb, u_bd, hl2 q2, u_bd0]
    rfl
  · by_cases q1 : ∀ i, i < wlen w → p + i < n ∧ tb (p + i) = wch w i
    · have q2 : p + wlen w < n ∧ isL (tb (p + wlen w)) = true := by
        refine Classical.byContradiction (fun z => q ⟨rn_is (wlen w) (fun i hi => ⟨(q1 i hi).1, ?_⟩) z, fun i hi => (q1 i hi).2⟩)
        rw [(q1 i hi).2]
        exact decide_eq_true (w_chr hw hi).2
      rw [go _ q1, u_bd, e3, l1, nI_add, hb, u_bd, hl1 q2, u_bd1]
      rfl
    · rw [no _ q1]
theorem h_word {n : Nat} {tb : Nat → Nat} {ot m : Ob} (h : TX n tb ot m) {od : Ob} {p t w : Nat} (hr : RdS od p t) (hp : p ≤ n) (hw : w < 8) : (isW n tb w p → ∃ od', pX5_takesWord w od ot = some (nI 1, od') ∧ RdS od' (rn isB n tb (p + wlen w)) p) ∧ (¬ isW n tb w p → pX5_takesWord w od ot = some (nI 0, od)) := by
  obtain ⟨s1, s2⟩ := h_sees h hr hp hw
  obtain ⟨l1, l2, l3⟩ := w_len hw
  have e1 : pX5_isSound od ot = some (nI 1) := by
    unfold pX5_isSound
    rw [hr.1]
    rfl
  refine ⟨fun q => ?_, fun q => ?_⟩
  · have hle : p + wlen w ≤ n := by
      have := rn_le (P := isL) (tb := tb) hp
      rw [q.1] at this; exact this
    obtain ⟨od', r1, r2⟩ := h_pass h hr hle
    refine ⟨od', ?_, r2⟩
    unfold pX5_takesWord
    rw [e1, u_bd1, s1 q, u_bd1, u_bd, l1, r1, u_bd]
    rfl
  · unfold pX5_takesWord
    rw [e1, u_bd1, s2 q, u_bd0]
    rfl
theorem h_wordF {ot od : Ob} {f q : Nat} (h : RdF od f q) (w : Nat) : pX5_takesWord w od ot = some (nI 0, od) := by
  obtain ⟨h0, h4, h1, h2⟩ := h
  have e1 : pX5_isSound od ot = some (nI 0) := by
    simp (disch := omega) only [pX5_isSound, u_let, u_jn, u_bd, u_gz0, u_gz1, u_gd, u_lit, u_leT, u_leF, u_ltT, u_ltF, u_eqT, u_eqF, nI_clamp, nI_add, u_m1, pk_sub, pk_mul, if_true, if_false, ite_true, ite_false, reduceIte, Nat.reduceEqDiff, u_neM, u_bN, u_bNe, h1]
  unfold pX5_takesWord
  rw [e1, u_bd0]
  rfl
/-! the reference's words: a number for each -/
def Vf (f : Nat → Nat) : Nat → Nat
  | 0 => 0
  | k + 1 => 27 * Vf f k + (f k - 96)
def Hf (f : Nat → Nat) : Nat → Nat
  | 0 => 0
  | k + 1 => if 1000000000000 < Hf f k then 2000000000000 else 27 * Hf f k + (f k - 96)
theorem Vf_inj {f g : Nat → Nat} : ∀ a b, (∀ i, i < a → 97 ≤ f i ∧ f i ≤ 122) → (∀ i, i < b → 97 ≤ g i ∧ g i ≤ 122) → Vf f a = Vf g b → a = b ∧ ∀ i, i < a → f i = g i := by
  intro a
  induction a with
  | zero =>
    intro b h1 h2 h3
    cases b with
    | zero => exact ⟨rfl, fun i hi => absurd hi (Nat.not_lt_zero i)⟩
    | succ b =>
      have := h2 b (by omega)
      simp only [Vf] at h3
      omega
  | succ a ih =>
    intro b h1 h2 h3
    cases b with
    | zero =>
      have := h1 a (by omega)
      simp only [Vf] at h3
      omega
    | succ b =>
      have x := h1 a (by omega)
      have y := h2 b (by omega)
      simp only [Vf] at h3
      obtain ⟨r1, r2⟩ := ih b (fun i hi => h1 i (by omega)) (fun i hi => h2 i (by omega)) (by omega)
      refine ⟨by omega, fun i hi => ?_⟩
      rcases Nat.lt_or_ge i a with z | z
      · exact r2 i z
      · have : i = a := by omega
        subst this
        have : i = b := by omega
        subst this
        omega
theorem Hf_le {f : Nat → Nat} : ∀ a, (∀ i, i < a → 97 ≤ f i ∧ f i ≤ 122) → Hf f a ≤ 27000000000026
  | 0, _ => by simp only [Hf]; omega
  | a + 1, h => by
    have := Hf_le a (fun i hi => h i (by omega))
    have := h a (by omega)
    rw [Hf]
    split <;> omega
theorem Hf_or {f : Nat → Nat} : ∀ a, (∀ i, i < a → 97 ≤ f i ∧ f i ≤ 122) → Hf f a = Vf f a ∨ (1000000000000 ≤ Hf f a ∧ 1000000000000 ≤ Vf f a)
  | 0, _ => Or.inl rfl
  | a + 1, h => by
    have h1 := Hf_or a (fun i hi => h i (by omega))
    have h2 := h a (by omega)
    rw [Hf, Vf]
    rcases h1 with z | z
    · by_cases y : 1000000000000 < Hf f a
      · rw [if_pos y]; right; omega
      · rw [if_neg y, z]; left; rfl
    · right
      split <;> omega
def wcode (w : Nat) : Nat := Vf (wch w) (wlen w)
theorem wcode_lt : ∀ w : Fin 8, wcode w.val < 1000000000000 := by decide +kernel
theorem Hf_word {n : Nat} {tb : Nat → Nat} {p w : Nat} (hw : w < 8) : Hf (fun i => tb (p + i)) (rn isL n tb p - p) = wcode w ↔ isW n tb w p := by
  have hd : ∀ i, i < rn isL n tb p - p → 97 ≤ (fun i => tb (p + i)) i ∧ (fun i => tb (p + i)) i ≤ 122 := fun i hi => of_decide_eq_true (rn_in (P := isL) (tb := tb) (n := n) (p := p) (i := p + i) (by omega) (by omega)).2
  have ge := rn_ge isL n tb p
  have lt := wcode_lt ⟨w, hw⟩
  have lt' : wcode w < 1000000000000 := lt
  have ho := Hf_or _ hd
  constructor
  · intro e
    have e2 : Vf (fun i => tb (p + i)) (rn isL n tb p - p) = Vf (wch w) (wlen w) := by
      rcases ho with z | z
      · rw [← z, e]; rfl
      · omega
    obtain ⟨r1, r2⟩ := Vf_inj _ _ hd (fun i hi => (w_chr hw hi).2) e2
    exact ⟨by omega, fun i hi => r2 i (by omega)⟩
  · intro e
    have e2 : Vf (fun i => tb (p + i)) (rn isL n tb p - p) = wcode w := by
      rw [show rn isL n tb p - p = wlen w by rw [e.1]; omega]
      have : ∀ k, k ≤ wlen w → Vf (fun i => tb (p + i)) k = Vf (wch w) k := by
        intro k
        induction k with
        | zero => intro _; rfl
        | succ k ih =>
          intro hk
          rw [Vf, Vf, ih (by omega), e.2 k (by omega)]
      exact this (wlen w) (Nat.le_refl _)
    rcases ho with z | z
    · rw [z, e2]
    · omega
theorem m_word {n : Nat} {tb : Nat → Nat} {ot m : Ob} (h : TX n tb ot m) {a : Nat} (ha : gi m 24 = nI a) (han : a ≤ n) : ∃ m', pX11_readWord m = some m' ∧ gi m' 24 = nI (rn isB n tb a) ∧ gi m' 26 = nI (rn isL n tb (rn isB n tb a)) ∧ (∀ w, w < 8 → (gl m' 25 = lN (wcode w) ↔ isW n tb w (rn isB n tb a))) ∧ frm [24, 25, 26] m m' := by
  have hn := h.1
  obtain ⟨m1, a1, a2, a3⟩ := m_here h ha han
  have hp := rn_le (P := isB) (tb := tb) han
  generalize rn isB n tb a = p at *
  have key : ∀ f (k : Nat) (o : Ob), n - (p + k) < f → p + k ≤ rn isL n tb p → gi o 24 = nI p → gi o 26 = nI (p + k) → gl o 25 = lN (Hf (fun i => tb (p + i)) k) → frm [24, 25, 26] m o → ∃ m', lX11_readWord_18 f o = some m' ∧ gi m' 24 = nI p ∧ gi m' 26 = nI (rn isL n tb p) ∧ gl m' 25 = lN (Hf (fun i => tb (p + i)) (rn isL n tb p - p)) ∧ frm [24, 25, 26] m m' := by
    intro f
    induction f with
    | zero => intro k o h1; omega
    | succ f ih =>
      intro k o h1 h2 h3 h4 h5 h6
      have hT := TX_frm h h6 (by decide) (by decide)
      have e22 := hT.2.2.1
      have hL := rn_le (P := isL) (tb := tb) hp
      rcases Nat.lt_or_ge (p + k) (rn isL n tb p) with z | z
      · obtain ⟨y1, y2⟩ := rn_in (P := isL) (tb := tb) (p := p) (i := p + k) (by omega) z
        have y3 := of_decide_eq_true y2
        obtain ⟨t1, _, t3⟩ := hT.2.2.2 (p + k) y1
        have hH := Hf_le (f := fun i => tb (p + i)) k (fun i hi => of_decide_eq_true (rn_in (P := isL) (tb := tb) (n := n) (p := p) (i := p + i) (by omega) (by omega)).2)
        have e9 : pX11_in (nI (tb (p + k))).toInt64 97 122 = some (nI 1) := good_in (by omega) (by have z : (97 : Int64).toInt = 97 := by decide
                                                                                                   omega) (by have z : (122 : Int64).toInt = 122 := by decide
                                                                                                              omega)
        obtain ⟨m', s1, s2⟩ := ih (k + 1) (si (sl o 25 (lN (Hf (fun i => tb (p + i)) (k + 1)))) 26 (nI (p + (k + 1)))) (by omega) (by omega) h3 rfl rfl (frm_si (frm_sl h6 (by decide) _) (by decide) _)
        refine ⟨m', ?_, s2⟩
        rw [lX11_readWord_18, e22, h4, if_neg (nI_ge y1 (by omega)), u_gd (by omega), nI_clamp (by omega), t3, e9, u_bd1, u_jn, h5, u_litL]
        rw [Hf] at s1
        by_cases g : Hf (fun i => tb (p + i)) k ≤ 1000000000000
        · rw [if_neg (by omega)] at s1
          rw [if_pos ((pk_lLE (by omega) (by omega)).mpr g), u_gd (by omega)]
          show (zlet _ _ : Option Ob) = _
          rw [u_let, u_let, u_litL, u_litL, lN_mul, nI_l (by omega), lN_add, lN_sub (by omega), gi_sl, h4, u_lit, nI_add, show 27 * Hf (fun i => tb (p + i)) k + tb (p + k) - 96 = 27 * Hf (fun i => tb (p + i)) k + (tb (p + k) - 96) by omega]
          exact s1
        · rw [if_pos (by omega)] at s1
          rw [if_neg (fun r => g ((pk_lLE (by omega) (by omega)).mp r))]
          show (zlet _ _ : Option Ob) = _
          rw [u_let, u_let, gi_sl, h4, u_lit, u_litL, nI_add]
          exact s1
      · have hk : rn isL n tb p = p + k := by omega
        have hout := rn_out isL n tb p
        rw [hk] at hout
        refine ⟨o, ?_, h3, by rw [hk]; exact h4, by rw [hk, show p + k - p = k by omega]; exact h5, h6⟩
        by_cases y : p + k < n
        · obtain ⟨t1, _, t3⟩ := hT.2.2.2 (p + k) y
          have y3 : ¬ (97 ≤ tb (p + k) ∧ tb (p + k) ≤ 122) := fun r => hout ⟨y, decide_eq_true r⟩
          have e9 : pX11_in (nI (tb (p + k))).toInt64 97 122 = some (nI 0) := off_in (by omega) (by have z : (97 : Int64).toInt = 97 := by decide
                                                                                                    have z2 : (122 : Int64).toInt = 122 := by decide
                                                                                                    omega)
          rw [lX11_readWord_18, e22, h4, if_neg (nI_ge y (by omega)), u_gd (by omega), nI_clamp (by omega), t3, e9, u_bd0]
        · rw [lX11_readWord_18, e22, h4, if_pos (nI_le (by omega) (by omega))]
  obtain ⟨m', s1, s2, s3, s4, s5⟩ := key zfu 0 (si (sl m1 25 (lN 0)) 26 (nI p)) (u_zfu (by omega)) (rn_ge isL n tb p) a2 rfl rfl (frm_si (frm_sl (frm_mono a3 (by decide)) (by decide) _) (by decide) _)
  refine ⟨m', ?_, s2, s3, fun w hw => ?_, s5⟩
  · unfold pX11_readWord
    rw [a1, u_bd, u_let, u_let, gi_sl, a2]
    exact s1
  · rw [s4, pk_lEQ (by have := Hf_le (f := fun i => tb (p + i)) (rn isL n tb p - p) (fun i hi => of_decide_eq_true (rn_in (P := isL) (tb := tb) (n := n) (p := p) (i := p + i) (by omega) (by omega)).2)
                       omega) (by have : wcode w < 1000000000000 := wcode_lt ⟨w, hw⟩
                                  omega)]
    exact Hf_word hw
