/-! cut: both programs -/
theorem h_cut {c : CD} {l : LD} {d : SD} {oe oc ow os : Ob} (hc : OKC c) (hl : OKL l) (hd : OKS c.S d) (h : CC c oc) (h2 : CL l ow) (h3 : CS c.S d os) {s : Nat} (hs : s < c.S) (hg : d.how s = 0) : ∃ o', pX1_fewestToStrike oe oc ow os (nI s) = some (if 3 * c.need s ≤ d.whole s then -1 else nI (wmask c s (fewT (fun x => stB (winU c l d s (lastK d + 1)) x (2 ^ cnt c s c.W)) (2 ^ cnt c s c.W) - 1) c.W), o') := by
  have hn := hc.2.2.2.2 s hs
  have hW := hc.2.1
  have p2 := p2_le hn
  obtain ⟨o1, a1, a2⟩ := h_prepare (oe := oe) hc hl hd h h2 h3 hs hg
  obtain ⟨o2, b1, b2, b3⟩ := h_wins (oc := oc) (ow := ow) (os := os) hc hl hd hs o1 a2
  have w0 := b3 0 (by omega)
  rw [win_0 hc hl] at w0
  refine ⟨o2, ?_⟩
  unfold pX1_fewestToStrike
  rw [a1, u_bd, b1, u_bd]
  show zgd (nI 0) 64 _ = _
  rw [u_gd (by omega), show ga o2 6 ((0 : Int32).toNatClampNeg) = ga o2 6 0 from rfl, w0]
  by_cases z : 3 * c.need s ≤ d.whole s
  · rw [decide_eq_true z, if_neg (show ¬ nI (bN true) = (0 : Int32) by decide), if_pos z]
  · have wn : winU c l d s (lastK d + 1) 0 = false := by rw [win_0 hc hl, decide_eq_false z]
    rw [decide_eq_false z, if_pos (show nI (bN false) = (0 : Int32) by decide), if_neg z, h_all hn b2.1.1, u_bd, u_jn]
    have hs := h_strikes (oc := oc) (ow := ow) (os := os) (win := winU c l d s (lastK d + 1)) hn b2.1.1 b3
    have hA : stB (winU c l d s (lastK d + 1)) (2 ^ cnt c s c.W - 1) (2 ^ cnt c s c.W) = true := (stB_iff _ _ _).mpr (fun T hT hw hx => by
      rw [sub_all.mpr hT] at hx
      subst hx
      rw [wn] at hw
      exact absurd hw (by decide))
    have oa := orAll_is (en := fun x => stB (winU c l d s (lastK d + 1)) x (2 ^ cnt c s c.W)) hn hA
    have fle := fewT_le (fun x => stB (winU c l d s (lastK d + 1)) x (2 ^ cnt c s c.W)) (2 ^ cnt c s c.W)
    have hs' : ∀ K : Int32 → Option (Int32 × Ob), lX1_fewestToStrike_27 oc ow os o2 K zfu (nI (2 ^ cnt c s c.W - 1)) (0 : Int32) = K (nI (orAll (fewT (fun x => stB (winU c l d s (lastK d + 1)) x (2 ^ cnt c s c.W)) (2 ^ cnt c s c.W - 1)) (2 ^ cnt c s c.W - 1))) := hs
    rw [hs', oa, Nat.add_sub_cancel, h_asW hW hn b2.1.1 b2.2.2.1 (by omega), u_bd]
theorem m_witsOf {c : CD} {m : Ob} (hc : OKC c) (h : MC c m) {s : Nat} (hs : s < c.S) : pX11_witnessesOf m (nI s) = some (nI (memb c s c.W)) := by
  have h6 := hc.1
  have hW := hc.2.1
  unfold pX11_witnessesOf
  refine u_loop (fun f q => lX11_witnessesOf_4 m (nI s) f (nI (memb c s q)) (nI q)) c.W _ (fun f q hq => ?_) (fun f => ?_) zfu 0 (by omega) (u_zfu (by omega))
  · have sl := (hc.2.2.2.1 q hq).1
    show lX11_witnessesOf_4 m (nI s) (f + 1) (nI (memb c s q)) (nI q) = _
    rw [lX11_witnessesOf_4, h.2.1, if_neg (nI_ge hq (by omega)), u_gd (by omega), u_jn, nI_clamp (n := q) (by omega), (h.2.2.2 q hq).1, memb]
    by_cases z : c.suit q = s
    · rw [if_pos (show nI (c.suit q) = nI s by rw [z]), if_pos z, show (1 : Int32) <<< (nI q &&& 31) = nI (1 <<< q) from u_shl1 (by omega)]
      dsimp only
      rw [fa_or, u_let, u_let, show nI q + (1 : Int32) = nI (q + 1) from nI_add _ _]
    · rw [if_neg (fun r => z ((nI_eq (a := c.suit q) (b := s) (by omega) (by omega)).mp r)), if_neg z]
      dsimp only
      rw [show nI (memb c s q) ||| (0 : Int32) = nI (memb c s q ||| 0) from fa_or _ 0, Nat.or_zero, u_let, u_let, show nI q + (1 : Int32) = nI (q + 1) from nI_add _ _]
  · show lX11_witnessesOf_4 m (nI s) (f + 1) (nI (memb c s c.W)) (nI c.W) = _
    rw [lX11_witnessesOf_4, h.2.1, if_pos (nI_le (Nat.le_refl _) (by omega))]
theorem nar01 {v : Nat} (h : v ≤ 1) : vp_nar .boolean (nI v) = nI v := by
  rcases (show v = 0 ∨ v = 1 by omega) with rfl | rfl <;> rfl
theorem m_cut35 {c : CD} {d : SD} (hd : OKS c.S d) (m0 : Ob) (h3 : MS c.S d m0) : ∃ m', (∀ K : Ob → Option (Int32 × Ob), lX11_cut_35 K zfu 0 m0 = K m') ∧ (∀ i, i < 12 → ga m' 44 i = nI (d.struck i)) ∧ frm [44] m0 m' := by
  refine u_loopP (fun f q o => (fun K : Ob → Option (Int32 × Ob) => lX11_cut_35 K f (nI q) o)) (fun q o => (∀ i, i < q → ga o 44 i = nI (d.struck i)) ∧ frm [44] m0 o) (fun r => ∃ m', (∀ K : Ob → Option (Int32 × Ob), r K = K m') ∧ (∀ i, i < 12 → ga m' 44 i = nI (d.struck i)) ∧ frm [44] m0 m') 12 (fun f q o hq hP => ?_) (fun f o hP => ?_) zfu 0 m0 (by omega) (u_zfu (by omega)) ⟨fun T hT => absurd hT (Nat.not_lt_zero T), frm_rf _ _⟩
  · have b4 := (hd.2.2.2.1 q hq).2.2.2
    have e12 : ga o 12 q = nI (d.struck q) := by rw [(hP.2 12 (by decide)).2.2.1]; exact (h3.2.2.2.1 q hq).2.2
    refine ⟨sa o 44 (upd (ga o 44) q (nI (d.struck q))), ⟨fun i hi => ?_, frm_sa hP.2 (by decide) _⟩, ?_⟩
    · rw [ga_sa, if_pos rfl, upd_ap]
      by_cases z : i = q
      · rw [if_pos z, z]
      · rw [if_neg z]; exact hP.1 i (by omega)
    · funext K
      show lX11_cut_35 K (f + 1) (nI q) o = _
      rw [lX11_cut_35, if_neg (show ¬ (12 : Int32) ≤ nI q from nI_ge (b := 12) hq (by omega)), u_gd (by omega), u_gd (by omega), nI_clamp (n := q) (by omega), e12, nar01 b4, u_let, u_let, show nI q + (1 : Int32) = nI (q + 1) from nI_add _ _]
  · refine ⟨o, fun K => ?_, hP.1, hP.2⟩
    show lX11_cut_35 K (f + 1) (nI 12) o = _
    rw [lX11_cut_35, if_pos (show (12 : Int32) ≤ nI 12 by decide)]
theorem m_cut106 {S : Nat} {d : SD} (hd : OKS S d) {v : Nat} (hv : v < 4096) (x12 : Int32) (m0 : Ob) (h44 : ∀ i, i < 12 → ga m0 44 i = nI (d.struck i)) : ∃ m', (∀ K : Int32 → Int32 → Ob → Option (Int32 × Ob), lX11_cut_106 K zfu x12 (nI v) 0 m0 = K x12 (nI v) m') ∧ (∀ i, i < 12 → ga m' 12 i = nI ((cutS d v).struck i)) ∧ frm [12] m0 m' := by
  refine u_loopP (fun f q o => (fun K : Int32 → Int32 → Ob → Option (Int32 × Ob) => lX11_cut_106 K f x12 (nI v) (nI q) o)) (fun q o => (∀ i, i < q → ga o 12 i = nI ((cutS d v).struck i)) ∧ frm [12] m0 o) (fun r => ∃ m', (∀ K : Int32 → Int32 → Ob → Option (Int32 × Ob), r K = K x12 (nI v) m') ∧ (∀ i, i < 12 → ga m' 12 i = nI ((cutS d v).struck i)) ∧ frm [12] m0 m') 12 (fun f q o hq hP => ?_) (fun f o hP => ?_) zfu 0 m0 (by omega) (u_zfu (by omega)) ⟨fun T hT => absurd hT (Nat.not_lt_zero T), frm_rf _ _⟩
  · have b4 := (hd.2.2.2.1 q hq).2.2.2
    have e44 : ga o 44 q = nI (d.struck q) := by rw [(hP.2 44 (by decide)).2.2.1]; exact h44 q hq
    have es : (cutS d v).struck q = if d.struck q = 0 ∧ v.testBit q = false then 0 else 1 := rfl
    refine ⟨sa o 12 (upd (ga o 12) q (nI ((cutS d v).struck q))), ⟨fun i hi => ?_, frm_sa hP.2 (by decide) _⟩, ?_⟩
    · rw [ga_sa, if_pos rfl, upd_ap]
      by_cases z : i = q
      · rw [if_pos z, z]
      · rw [if_neg z]; exact hP.1 i (by omega)
    · funext K
      show lX11_cut_106 K (f + 1) x12 (nI v) (nI q) o = _
      rw [lX11_cut_106, if_neg (show ¬ (12 : Int32) ≤ nI q from nI_ge (b := 12) hq (by omega)), u_gd (by omega), u_jn, u_jn, nI_clamp (n := q) (by omega), e44, m_has (by omega) (by omega), es]
      by_cases z : d.struck q = 0
      · rw [z, if_pos (show nI 0 = (0 : Int32) from rfl), u_bd]
        cases y : v.testBit q with
        | false =>
          rw [if_pos (show nI (bN false) = (0 : Int32) by decide), if_pos ⟨rfl, rfl⟩]
          dsimp only
          rw [u_gd (by omega), u_let, u_let, show nI q + (1 : Int32) = nI (q + 1) from nI_add _ _]
          rfl
        | true =>
          rw [if_neg (show ¬ nI (bN true) = (0 : Int32) by decide), if_neg (fun r => absurd r.2 (by decide))]
          dsimp only
          rw [u_gd (by omega), u_let, u_let, show nI q + (1 : Int32) = nI (q + 1) from nI_add _ _]
          rfl
      · rw [if_neg (show ¬ nI (d.struck q) = (0 : Int32) from nI_ne0 (by omega) (by omega)), if_neg (fun r => z r.1)]
        dsimp only
        rw [u_gd (by omega), u_let, u_let, show nI q + (1 : Int32) = nI (q + 1) from nI_add _ _]
        rfl
  · refine ⟨o, fun K => ?_, hP.1, hP.2⟩
    show lX11_cut_106 K (f + 1) x12 (nI v) (nI 12) o = _
    rw [lX11_cut_106, if_pos (show (12 : Int32) ≤ nI 12 by decide)]
theorem m_cut175 {S : Nat} {d : SD} (hd : OKS S d) (x7 : Int32) (m0 : Ob) (h44 : ∀ i, i < 12 → ga m0 44 i = nI (d.struck i)) : ∃ m', lX11_cut_175 zfu x7 0 m0 = some (x7, m') ∧ (∀ i, i < 12 → ga m' 12 i = nI (d.struck i)) ∧ frm [12] m0 m' := by
  refine u_loopP (fun f q o => lX11_cut_175 f x7 (nI q) o) (fun q o => (∀ i, i < q → ga o 12 i = nI (d.struck i)) ∧ frm [12] m0 o) (fun r => ∃ m', r = some (x7, m') ∧ (∀ i, i < 12 → ga m' 12 i = nI (d.struck i)) ∧ frm [12] m0 m') 12 (fun f q o hq hP => ?_) (fun f o hP => ?_) zfu 0 m0 (by omega) (u_zfu (by omega)) ⟨fun T hT => absurd hT (Nat.not_lt_zero T), frm_rf _ _⟩
  · have b4 := (hd.2.2.2.1 q hq).2.2.2
    have e44 : ga o 44 q = nI (d.struck q) := by rw [(hP.2 44 (by decide)).2.2.1]; exact h44 q hq
    refine ⟨sa o 12 (upd (ga o 12) q (nI (d.struck q))), ⟨fun i hi => ?_, frm_sa hP.2 (by decide) _⟩, ?_⟩
    · rw [ga_sa, if_pos rfl, upd_ap]
      by_cases z : i = q
      · rw [if_pos z, z]
      · rw [if_neg z]; exact hP.1 i (by omega)
    · show lX11_cut_175 (f + 1) x7 (nI q) o = _
      rw [lX11_cut_175, if_neg (show ¬ (12 : Int32) ≤ nI q from nI_ge (b := 12) hq (by omega)), u_gd (by omega), u_gd (by omega), nI_clamp (n := q) (by omega), e44, nar01 b4, u_let, u_let, show nI q + (1 : Int32) = nI (q + 1) from nI_add _ _]
  · refine ⟨o, ?_, hP.1, hP.2⟩
    show lX11_cut_175 (f + 1) x7 (nI 12) o = _
    rw [lX11_cut_175, if_pos (show (12 : Int32) ≤ nI 12 by decide)]
theorem MS_cut {S : Nat} {d d' : SD} {m m' : Ob} (h : MS S d m) (f : frm [12, 39, 40, 41, 42, 43, 44] m m') (hd : d' = d ∨ ∃ v, d' = cutS d v) (h12 : ∀ i, i < 12 → ga m' 12 i = nI (d'.struck i)) : MS S d' m' := by
  have parts : d'.day = d.day ∧ d'.spk = d.spk ∧ d'.seed = d.seed ∧ d'.last = d.last ∧ d'.times = d.times ∧ d'.whole = d.whole ∧ d'.how = d.how ∧ d'.howd = d.howd ∧ d'.dusk = d.dusk := by
    rcases hd with rfl | ⟨v, rfl⟩
    · exact ⟨rfl, rfl, rfl, rfl, rfl, rfl, rfl, rfl, rfl⟩
    · exact ⟨rfl, rfl, rfl, rfl, rfl, rfl, rfl, rfl, rfl⟩
  obtain ⟨p1, p2, p3, p4, p5, p6, p7, p8, p9⟩ := parts
  obtain ⟨h1, h2, h3, h4, h5, h6, h7⟩ := h
  unfold MS
  rw [p1, p2, p3, p4, p5, p6, p7, p8, p9, (f 13 (by decide)).1, (f 14 (by decide)).1, (f 20 (by decide)).1, (f 10 (by decide)).2.2.1, (f 11 (by decide)).2.2.1, (f 17 (by decide)).2.2.1, (f 15 (by decide)).2.2.1, (f 16 (by decide)).2.2.1, (f 19 (by decide)).2.2.1, (f 18 (by decide)).2.2.1]
  exact ⟨h1, h2, h3, fun w hw => ⟨(h4 w hw).1, (h4 w hw).2.1, h12 w hw⟩, h5, h6, h7⟩
