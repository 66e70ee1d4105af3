/-! a suit's witnesses by their places -/
def own (c : CD) (s : Nat) : Nat → Nat → Nat
  | 0 => fun _ => 0
  | n + 1 => if c.suit n = s then nup (own c s n) (cnt c s n) n else own c s n
theorem cnt_s {c : CD} {s n : Nat} (h : c.suit n = s) : cnt c s (n + 1) = cnt c s n + 1 := by rw [cnt, if_pos h]
theorem cnt_n {c : CD} {s n : Nat} (h : c.suit n ≠ s) : cnt c s (n + 1) = cnt c s n := by rw [cnt, if_neg h]; rfl
theorem cnt_mono {c : CD} {s : Nat} : ∀ {n k : Nat}, k ≤ n → cnt c s k ≤ cnt c s n
  | 0, k, h => by have : k = 0 := by omega
                  subst this; exact Nat.le_refl _
  | n + 1, k, h => by
    rcases Nat.lt_or_ge k (n + 1) with q | q
    · have := cnt_mono (c := c) (s := s) (n := n) (k := k) (by omega)
      rw [cnt]; omega
    · have : k = n + 1 := by omega
      subst this; exact Nat.le_refl _
theorem own_at (c : CD) (s : Nat) : ∀ n i, i < cnt c s n → own c s n i < n ∧ c.suit (own c s n i) = s
  | 0, i, h => absurd h (Nat.not_lt_zero i)
  | n + 1, i, h => by
    rw [own]
    by_cases q : c.suit n = s
    · rw [if_pos q]
      rw [cnt_s q] at h
      by_cases y : i = cnt c s n
      · subst y; rw [nup_s]; exact ⟨by omega, q⟩
      · rw [nup_n _ _ y]
        have := own_at c s n i (by omega)
        exact ⟨by omega, this.2⟩
    · rw [if_neg q]
      rw [cnt_n q] at h
      have := own_at c s n i h
      exact ⟨by omega, this.2⟩
theorem own_mono (c : CD) (s : Nat) : ∀ n i j, i < j → j < cnt c s n → own c s n i < own c s n j
  | 0, i, j, _, h => absurd h (Nat.not_lt_zero j)
  | n + 1, i, j, hij, h => by
    rw [own]
    by_cases q : c.suit n = s
    · rw [if_pos q]
      rw [cnt_s q] at h
      by_cases y : j = cnt c s n
      · subst y
        rw [nup_s, nup_n _ _ (by omega)]
        exact (own_at c s n i hij).1
      · rw [nup_n _ _ y, nup_n _ _ (by omega)]
        exact own_mono c s n i j hij (by omega)
    · rw [if_neg q]
      rw [cnt_n q] at h
      exact own_mono c s n i j hij h
theorem own_of (c : CD) (s : Nat) : ∀ n w, w < n → c.suit w = s → ∃ i, i < cnt c s n ∧ own c s n i = w
  | 0, w, h, _ => absurd h (Nat.not_lt_zero w)
  | n + 1, w, h, hs => by
    rw [own]
    by_cases q : c.suit n = s
    · rw [if_pos q, cnt_s q]
      by_cases y : w = n
      · subst y
        exact ⟨cnt c s w, by omega, nup_s _ _ _⟩
      · obtain ⟨i, h1, h2⟩ := own_of c s n w (by omega) hs
        exact ⟨i, by omega, by rw [nup_n _ _ (by omega)]; exact h2⟩
    · rw [if_neg q, cnt_n q]
      have y : w ≠ n := fun e => q (e ▸ hs)
      exact own_of c s n w (by omega) hs
/-- the class's list -/
theorem h_list {c : CD} {oc : Ob} (hc : OKC c) (h : CC c oc) {s : Nat} (hs : s < c.S) (o0 : Ob) (e8 : gi o0 8 = nI 0) : ∃ o', (∀ K : Ob → Option Ob, lX1_prepare_7 oc (nI s) K zfu 0 o0 = K o') ∧ gi o' 8 = nI (cnt c s c.W) ∧ (∀ i, i < cnt c s c.W → ga o' 1 i = nI (own c s c.W i)) ∧ frm [1, 8] o0 o' := by
  have hW := hc.2.1
  have h6 := hc.1
  refine u_loopP (fun f k o => (fun K : Ob → Option Ob => lX1_prepare_7 oc (nI s) K f (nI k) o)) (fun n o => gi o 8 = nI (cnt c s n) ∧ (∀ i, i < cnt c s n → ga o 1 i = nI (own c s n i)) ∧ frm [1, 8] o0 o) (fun r => ∃ o', (∀ K : Ob → Option Ob, r K = K o') ∧ gi o' 8 = nI (cnt c s c.W) ∧ (∀ i, i < cnt c s c.W → ga o' 1 i = nI (own c s c.W i)) ∧ frm [1, 8] o0 o') c.W (fun f k o hk hP => ?_) (fun f o hP => ?_) zfu 0 o0 (by omega) (u_zfu (by omega)) ⟨e8, fun w hw => absurd hw (Nat.not_lt_zero w), frm_rf _ _⟩
  · obtain ⟨p1, p2, p3⟩ := hP
    have e := (h.2.2.2 k hk).1
    have b := (hc.2.2.2.1 k hk).1
    by_cases g : c.suit k = s
    · have m1 := cnt_mono (c := c) (s := s) (n := c.W) (k := k + 1) hk
      have m2 := hc.2.2.2.2 s hs
      rw [cnt_s g] at m1
      refine ⟨si (sa o 1 (upd (ga o 1) (cnt c s k) (nI k))) 8 (nI (cnt c s (k + 1))), ⟨rfl, fun i hi => ?_, frm_si (frm_sa p3 (by decide) _) (by decide) _⟩, ?_⟩
      · rw [ga_si, ga_sa, if_pos rfl, upd_ap, own, if_pos g]
        rw [cnt_s g] at hi
        by_cases y : i = cnt c s k
        · rw [if_pos y, y, nup_s]
        · rw [if_neg y, nup_n _ _ y]
          exact p2 i (by omega)
      · funext K
        simp (disch := omega) only [lX1_prepare_7, u_let, u_jn, u_bd, u_gz0, u_gz1, u_gd, u_lit, u_leT, u_leF, u_ltT, u_ltF, u_eqT, u_eqF, nI_clamp, nI_add, u_m1, pk_sub, pk_mul, if_true, if_false, ite_true, ite_false, reduceIte, Nat.reduceEqDiff, u_neM, u_bN, u_bNe, h.2.1, e, g, p1, gi_sa, cnt_s g]
    · refine ⟨o, ⟨by rw [cnt_n g]; exact p1, fun i hi => ?_, p3⟩, ?_⟩
      · rw [cnt_n g] at hi
        rw [own, if_neg g]
        exact p2 i hi
      · funext K
        simp (disch := omega) only [lX1_prepare_7, u_let, u_jn, u_bd, u_gz0, u_gz1, u_gd, u_lit, u_leT, u_leF, u_ltT, u_ltF, u_eqT, u_eqF, nI_clamp, nI_add, u_m1, pk_sub, pk_mul, if_true, if_false, ite_true, ite_false, reduceIte, Nat.reduceEqDiff, u_neM, u_bN, u_bNe, h.2.1, e]
  · refine ⟨o, fun K => ?_, hP⟩
    simp (disch := omega) only [lX1_prepare_7, u_let, u_jn, u_bd, u_gz0, u_gz1, u_gd, u_lit, u_leT, u_leF, u_ltT, u_ltF, u_eqT, u_eqF, nI_clamp, nI_add, u_m1, pk_sub, pk_mul, if_true, if_false, ite_true, ite_false, reduceIte, Nat.reduceEqDiff, u_neM, u_bN, u_bNe, h.2.1]
/-- the reference's list -/
theorem m_list {c : CD} {m : Ob} (hc : OKC c) (h : MC c m) {s : Nat} (hs : s < c.S) : ∃ m', pX11_listOwn m (nI s) = some m' ∧ gi m' 40 = nI (cnt c s c.W) ∧ (∀ i, i < cnt c s c.W → ga m' 39 i = nI (own c s c.W i)) ∧ frm [39, 40] m m' := by
  have hW := hc.2.1
  have h6 := hc.1
  have key : ∃ m', lX11_listOwn_7 (nI s) zfu 0 (si m 40 0) = some m' ∧ gi m' 40 = nI (cnt c s c.W) ∧ (∀ i, i < cnt c s c.W → ga m' 39 i = nI (own c s c.W i)) ∧ frm [39, 40] m m' := by
    refine u_loopP (fun f k o => lX11_listOwn_7 (nI s) f (nI k) o) (fun n o => gi o 40 = nI (cnt c s n) ∧ (∀ i, i < cnt c s n → ga o 39 i = nI (own c s n i)) ∧ frm [39, 40] m o) (fun r => ∃ m', r = some m' ∧ gi m' 40 = nI (cnt c s c.W) ∧ (∀ i, i < cnt c s c.W → ga m' 39 i = nI (own c s c.W i)) ∧ frm [39, 40] m m') c.W (fun f k o hk hP => ?_) (fun f o hP => ?_) zfu 0 (si m 40 0) (by omega) (u_zfu (by omega)) ⟨rfl, fun w hw => absurd hw (Nat.not_lt_zero w), frm_si (frm_rf _ _) (by decide) _⟩
    · obtain ⟨p1, p2, p3⟩ := hP
      have hM := MC_frm h p3 (by decide)
      have e := (hM.2.2.2 k hk).1
      have b := (hc.2.2.2.1 k hk).1
      by_cases g : c.suit k = s
      · have m1 := cnt_mono (c := c) (s := s) (n := c.W) (k := k + 1) hk
        have m2 := hc.2.2.2.2 s hs
        rw [cnt_s g] at m1
        refine ⟨si (sa o 39 (upd (ga o 39) (cnt c s k) (nI k))) 40 (nI (cnt c s (k + 1))), ⟨rfl, fun i hi => ?_, frm_si (frm_sa p3 (by decide) _) (by decide) _⟩, ?_⟩
        · rw [ga_si, ga_sa, if_pos rfl, upd_ap, own, if_pos g]
          rw [cnt_s g] at hi
          by_cases y : i = cnt c s k
          · rw [if_pos y, y, nup_s]
          · rw [if_neg y, nup_n _ _ y]
            exact p2 i (by omega)
        · simp (disch := omega) only [lX11_listOwn_7, u_let, u_jn, u_bd, u_gz0, u_gz1, u_gd, u_lit, u_leT, u_leF, u_ltT, u_ltF, u_eqT, u_eqF, nI_clamp, nI_add, u_m1, pk_sub, pk_mul, if_true, if_false, ite_true, ite_false, reduceIte, Nat.reduceEqDiff, u_neM, u_bN, u_bNe, hM.2.1, e, g, p1, gi_sa, cnt_s g]
      · refine ⟨o, ⟨by rw [cnt_n g]; exact p1, fun i hi => ?_, p3⟩, ?_⟩
        · rw [cnt_n g] at hi
          rw [own, if_neg g]
          exact p2 i hi
        · simp (disch := omega) only [lX11_listOwn_7, u_let, u_jn, u_bd, u_gz0, u_gz1, u_gd, u_lit, u_leT, u_leF, u_ltT, u_ltF, u_eqT, u_eqF, nI_clamp, nI_add, u_m1, pk_sub, pk_mul, if_true, if_false, ite_true, ite_false, reduceIte, Nat.reduceEqDiff, u_neM, u_bN, u_bNe, hM.2.1, e]
    · have hM := MC_frm h hP.2.2 (by decide)
      refine ⟨o, ?_, hP⟩
      simp (disch := omega) only [lX11_listOwn_7, u_let, u_jn, u_bd, u_gz0, u_gz1, u_gd, u_lit, u_leT, u_leF, u_ltT, u_ltF, u_eqT, u_eqF, nI_clamp, nI_add, u_m1, pk_sub, pk_mul, if_true, if_false, ite_true, ite_false, reduceIte, Nat.reduceEqDiff, u_neM, u_bN, u_bNe, hM.2.1]
  obtain ⟨m', a1, a2⟩ := key
  refine ⟨m', ?_, a2⟩
  unfold pX11_listOwn
  rw [u_let]
  exact a1
