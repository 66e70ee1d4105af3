/-! the reference: enough by a day; the days one by one -/
theorem MP_set {c : CD} {l : LD} {d : SD} {s i v : Nat} {st : Nat → Nat} {m : Ob} (h : MP c l d s st m) (hv : v ≤ 400) {x : Int32} (hx : x = nO v) : MP c l d s (nup st i v) (sa m 41 (upd (ga m 41) i x)) := by
  have f : frm [41] m (sa m 41 (upd (ga m 41) i x)) := frm_sa (frm_rf _ _) (by decide) _
  obtain ⟨h1, h2, h3, h4, h5, h6⟩ := h
  refine ⟨MC_frm h1 f (by decide), ML_frm h2 f (by decide) (by decide), MS_sub h3 f (by decide), h4, fun q hq => ?_, fun q hq => ?_⟩
  · rw [ga_sa, if_neg (by decide)]; exact h5 q hq
  · rw [ga_sa, if_pos rfl, upd_ap]
    by_cases z : q = i
    · rw [if_pos z, z, nup_s]; exact ⟨hx, hv⟩
    · rw [if_neg z, nup_n _ _ z]; exact h6 q hq
theorem m_isEnough {c : CD} {l : LD} {d : SD} {s k F : Nat} {st : Nat → Nat} {m : Ob} (hc : OKC c) (hl : OKL l) (hd : OKS c.S d) (hs : s < c.S) (hk : k ≤ 30) (hF : F < 64) (h : MP c l d s st m) : ∃ b m', pX11_isEnoughBy m (nI s) (nI k) (nI F) = some (nI (bN b), m') ∧ (b = true ↔ EN (cnt c s c.W) k F (ab c l d s) (fw c l d s) (ro l d) st (3 * c.need s * 2 ^ k) (d.whole s)) ∧ frm [42, 43] m m' := by
  have h6 := hc.1
  have hnd := (hc.2.2.1 s hs).2.1
  have hw := (hd.2.2.2.2.1 s hs).1
  have hsp := hd.2.1
  have prod : 2 ^ k * 2 ^ (30 - k) = 2 ^ 30 := by rw [← Nat.pow_add, show k + (30 - k) = 30 by omega]
  have pk : 3564 * 2 ^ (k + 1) = 7128 * 2 ^ k := by rw [Nat.pow_succ]; omega
  have pp : 2 ^ k ≤ 2 ^ 30 := Nat.pow_le_pow_right (by omega) (by omega)
  have pos := Nat.two_pow_pos k
  obtain ⟨m', a1, a2, a3⟩ := m_findMosts hc hl hd hs hk m h
  obtain ⟨g1, g2⟩ := a2 F hF
  have be : bst (cnt c s c.W) (abS c l d s st) (fw c l d s) (ro l d) (k + 1) F ≤ 7128 * 2 ^ k + 1 := by
    rw [← pk]
    exact isM_lt g2 (fun x hx => PP_le (fw_le hc hl d s) hx)
  have hM := MP_frm h a3
  have w1 := (hM.1.2.2.1 s hs).1
  have sf := isM_en (G := 3 * c.need s * 2 ^ k) (W := d.whole s) g2
  have sf2 : EN (cnt c s c.W) k F (ab c l d s) (fw c l d s) (ro l d) st (3 * c.need s * 2 ^ k) (d.whole s) ↔ _ := sf.symm
  rw [sf2]
  generalize bst (cnt c s c.W) (abS c l d s st) (fw c l d s) (ro l d) (k + 1) F = E at *
  have sca : ∀ e, e ≤ 20000 * 2 ^ k → e * 2 ^ (30 - k) < 2 ^ 60 := fun e he => by
    have h1 := Nat.mul_le_mul_right (2 ^ (30 - k)) he
    rw [Nat.mul_assoc, prod] at h1
    omega
  have scE := sca E (by omega)
  have scE1 := sca (E - 1) (by omega)
  refine ⟨decide (E ≠ 0) && decide (3 * c.need s * 2 ^ k ≤ d.whole s + (E - 1)), m', ?_, by rw [Bool.and_eq_true, decide_eq_true_iff, decide_eq_true_iff], a3⟩
  unfold pX11_isEnoughBy
  rw [a1, u_bd, u_gd (by omega), nI_clamp (n := F) (by omega), g1]
  by_cases z : E = 0
  · rw [if_pos ((sc_neg (by omega)).mpr z), z]
    rfl
  · have eS : sc E (30 - k) = lN ((E - 1) * 2 ^ (30 - k)) := if_neg z
    have dl : (d.whole s + (E - 1)) / 2 ^ k ≤ d.whole s + (E - 1) := Nat.div_le_self _ _
    have iff : lN ((d.whole s + (E - 1)) / 2 ^ k) < (3 : Int64) * (nI (c.need s)).toInt64 ↔ ¬ 3 * c.need s * 2 ^ k ≤ d.whole s + (E - 1) := by
      rw [nI_l (by omega), show (3 : Int64) * lN (c.need s) = lN (3 * c.need s) from lN_mul 3 _, pk_lLT (by omega) (by omega), Nat.div_lt_iff_lt_mul pos]
      omega
    rw [if_neg (fun r => z ((sc_neg (by omega)).mp r)), u_gd (by omega), eS, m_wholeBy (l := l) hc hd hs hM.2.2.1 hk (by omega), u_bd, u_gd (by omega), nI_clamp (n := s) (by omega), w1, decide_eq_true z, Bool.true_and]
    by_cases y : 3 * c.need s * 2 ^ k ≤ d.whole s + (E - 1)
    · rw [if_neg (fun r => iff.mp r y), decide_eq_true y]
      rfl
    · rw [if_pos (iff.mpr y), decide_eq_false y]
      rfl
theorem m_set152 {c : CD} {l : LD} {d : SD} {s k F i : Nat} {st : Nat → Nat} {r1 : Int32 × Ob} (hr1 : r1.1 = nI k) (hc : OKC c) (hl : OKL l) (hd : OKS c.S d) (hs : s < c.S) (hk : k ≤ 30) (hF : F < 64) (h6 : i < 6) : ∀ g f m, g < f → g ≤ k → (∃ e, e ≤ g ∧ EN (cnt c s c.W) k F (ab c l d s) (fw c l d s) (ro l d) (nup st i (e + 1)) (3 * c.need s * 2 ^ k) (d.whole s)) → MP c l d s (nup st i (g + 1)) m → ∃ e m', (∀ KK : Int32 → Int32 → Ob → Option (Int32 × Ob), lX11_findPlan_152 (nI s) r1 KK f (nI F) (nI i) m = KK (nI F) (nI i) m') ∧ e ≤ g ∧ EN (cnt c s c.W) k F (ab c l d s) (fw c l d s) (ro l d) (nup st i (e + 1)) (3 * c.need s * 2 ^ k) (d.whole s) ∧ (∀ e', e < e' → e' ≤ g → ¬ EN (cnt c s c.W) k F (ab c l d s) (fw c l d s) (ro l d) (nup st i (e' + 1)) (3 * c.need s * 2 ^ k) (d.whole s)) ∧ MP c l d s (nup st i (e + 1)) m' ∧ frm [41, 42, 43] m m' := by
  intro g
  induction g with
  | zero =>
    intro f m hf hg ⟨e0, e1, e2⟩ hM
    have : e0 = 0 := by omega
    subst this
    obtain ⟨f, rfl⟩ : ∃ g, f = g + 1 := ⟨f - 1, by omega⟩
    obtain ⟨b, m', b1, b2, b3⟩ := m_isEnough hc hl hd hs hk hF hM
    have bt : b = true := b2.mpr e2
    subst bt
    refine ⟨0, m', fun KK => ?_, Nat.le_refl _, e2, fun e' h1 h2 => by omega, MP_frm hM b3, frm_mono b3 (by decide)⟩
    rw [lX11_findPlan_152, hr1, b1, u_bd]
    dsimp only
    rw [if_neg (show ¬ nI (bN true) = (0 : Int32) by decide)]
  | succ g ih =>
    intro f m hf hg ⟨e0, e1, e2⟩ hM
    obtain ⟨f, rfl⟩ : ∃ g, f = g + 1 := ⟨f - 1, by omega⟩
    obtain ⟨b, m', b1, b2, b3⟩ := m_isEnough hc hl hd hs hk hF hM
    have hM' := MP_frm hM b3
    cases cb : b with
    | true =>
      subst cb
      refine ⟨g + 1, m', fun KK => ?_, Nat.le_refl _, b2.mp rfl, fun e' h1 h2 => by omega, hM', frm_mono b3 (by decide)⟩
      rw [lX11_findPlan_152, hr1, b1, u_bd]
      dsimp only
      rw [if_neg (show ¬ nI (bN true) = (0 : Int32) by decide)]
    | false =>
      subst cb
      have ne : ¬ EN (cnt c s c.W) k F (ab c l d s) (fw c l d s) (ro l d) (nup st i (g + 1 + 1)) (3 * c.need s * 2 ^ k) (d.whole s) := fun r => by
        have := b2.mpr r
        exact absurd this (by decide)
      have e0n : e0 ≠ g + 1 := fun r => ne (r ▸ e2)
      have e41 : ga m' 41 i - (1 : Int32) = nO (g + 1) := by
        rw [(hM'.2.2.2.2.2 i h6).1, nup_s, nO_s, nO_s]
        exact pk_sub (a := g + 1) (b := 1) (by omega)
      have hM2 : MP c l d s (nup st i (g + 1)) (sa m' 41 (upd (ga m' 41) i (nO (g + 1)))) := by
        have := MP_set (i := i) hM' (v := g + 1) (by omega) rfl
        have e : nup (nup st i (g + 1 + 1)) i (g + 1) = nup st i (g + 1) := by
          funext q
          unfold nup
          split <;> rfl
        rw [e] at this
        exact this
      obtain ⟨e, m2, r1', r2, r3, r4, r5, r6⟩ := ih f (sa m' 41 (upd (ga m' 41) i (nO (g + 1)))) (by omega) (by omega) ⟨e0, by omega, e2⟩ hM2
      refine ⟨e, m2, fun KK => ?_, by omega, r3, fun e' h1 h2 => ?_, r5, frm_tr (frm_mono b3 (by decide)) (frm_tr (frm_sa (frm_rf _ _) (by decide) _) r6)⟩
      · rw [lX11_findPlan_152, hr1, b1, u_bd]
        dsimp only
        rw [if_pos (show nI (bN false) = (0 : Int32) by decide), u_gd (by omega), u_gd (by omega), nI_clamp (n := i) (by omega), e41, u_let]
        exact r1' KK
      · by_cases y : e' = g + 1
        · rw [y]; exact ne
        · exact r4 e' h1 (by omega)
