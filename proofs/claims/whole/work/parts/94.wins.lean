/-! cut: the class's wins -/
noncomputable def winT (c : CD) (l : LD) (d : SD) (s k T : Nat) : Bool := enT (bst (cnt c s c.W) (ab c l d s) (fw c l d s) (ro l d) (k + 1)) (3 * c.need s * 2 ^ k) (d.whole s) T
/-- some day below q is enough for the set -/
noncomputable def winU (c : CD) (l : LD) (d : SD) (s : Nat) : Nat → Nat → Bool
  | 0, _ => false
  | k + 1, T => winU c l d s k T || winT c l d s k T
theorem winU_iff {c : CD} {l : LD} {d : SD} {s : Nat} : ∀ {q T : Nat}, winU c l d s q T = true ↔ ∃ k, k < q ∧ winT c l d s k T = true
  | 0, T => ⟨fun h => absurd h (by rw [winU]; decide), fun ⟨k, h, _⟩ => absurd h (Nat.not_lt_zero k)⟩
  | q + 1, T => by
    rw [winU, Bool.or_eq_true, winU_iff]
    constructor
    · rintro (⟨k, k1, k2⟩ | h)
      · exact ⟨k, by omega, k2⟩
      · exact ⟨q, by omega, h⟩
    · rintro ⟨k, k1, k2⟩
      by_cases z : k = q
      · subst z; exact Or.inr k2
      · exact Or.inl ⟨k, by omega, k2⟩
theorem h_wins6 (o0 : Ob) : ∃ o', (∀ K : Ob → Option Ob, lX1_findWins_6 K zfu 0 o0 = K o') ∧ (∀ T, T < 64 → ga o' 6 T = nI 0) ∧ frm [6] o0 o' := by
  refine u_loopP (fun f q o => (fun K : Ob → Option Ob => lX1_findWins_6 K f (nI q) o)) (fun q o => (∀ T, T < q → ga o 6 T = nI 0) ∧ frm [6] o0 o) (fun r => ∃ o', (∀ K : Ob → Option Ob, r K = K o') ∧ (∀ T, T < 64 → ga o' 6 T = nI 0) ∧ frm [6] o0 o') 64 (fun f q o hq hP => ?_) (fun f o hP => ?_) zfu 0 o0 (by omega) (u_zfu (by omega)) ⟨fun T hT => absurd hT (Nat.not_lt_zero T), frm_rf _ _⟩
  · refine ⟨sa o 6 (upd (ga o 6) q (nI 0)), ⟨fun T hT => ?_, frm_sa hP.2 (by decide) _⟩, ?_⟩
    · rw [ga_sa, if_pos rfl, upd_ap]
      by_cases z : T = q
      · rw [if_pos z]
      · rw [if_neg z]; exact hP.1 T (by omega)
    · funext K
      show lX1_findWins_6 K (f + 1) (nI q) o = _
      rw [lX1_findWins_6, if_neg (show ¬ (64 : Int32) ≤ nI q from nI_ge (b := 64) hq (by omega)), u_gd (by omega), u_let, u_let, nI_clamp (n := q) (by omega), show nI q + (1 : Int32) = nI (q + 1) from nI_add _ _]
      rfl
  · refine ⟨o, fun K => ?_, hP.1, hP.2⟩
    show lX1_findWins_6 K (f + 1) (nI 64) o = _
    rw [lX1_findWins_6, if_pos (show (64 : Int32) ≤ nI 64 by decide)]
theorem h_wins46 {c : CD} {l : LD} {d : SD} {s k : Nat} {oc ow os : Ob} (hc : OKC c) (hl : OKL l) (hd : OKS c.S d) (hs : s < c.S) (hk : k ≤ 30) (o0 : Ob) (hP : CP c l d s o0) (hB : Bes (cnt c s c.W) (ab c l d s) (fw c l d s) (ro l d) (k + 1) (2 ^ cnt c s c.W - 1) o0) (h6 : ∀ T, T < 2 ^ cnt c s c.W → ga o0 6 T = nI (bN (winU c l d s k T))) : ∃ o', (∀ K : Int32 → Ob → Option Ob, lX1_findWins_46 oc ow os K zfu (nI k) 0 o0 = K (nI k) o') ∧ (∀ T, T < 2 ^ cnt c s c.W → ga o' 6 T = nI (bN (winU c l d s (k + 1) T))) ∧ frm [6] o0 o' := by
  have hn := hc.2.2.2.2 s hs
  have p2 := p2_le hn
  have pk : 3564 * 2 ^ (k + 1) ≤ 3564 * 2 ^ 31 := Nat.mul_le_mul_left _ (Nat.pow_le_pow_right (by omega) (by omega))
  have be : ∀ T, T < 2 ^ cnt c s c.W → bst (cnt c s c.W) (ab c l d s) (fw c l d s) (ro l d) (k + 1) T ≤ 3564 * 2 ^ (k + 1) + 1 := fun T hT => isM_lt (hB T (sub_all.mpr hT)).2 (fun x hx => PP_le (fw_le hc hl d s) hx)
  have hE : ∀ T, T < 2 ^ cnt c s c.W → gb o0 4 T = lO (bst (cnt c s c.W) (ab c l d s) (fw c l d s) (ro l d) (k + 1) T) := fun T hT => (hB T (sub_all.mpr hT)).1
  have enE : ∀ T, winT c l d s k T = (decide (bst (cnt c s c.W) (ab c l d s) (fw c l d s) (ro l d) (k + 1) T ≠ 0) && decide (3 * c.need s * 2 ^ k ≤ d.whole s + (bst (cnt c s c.W) (ab c l d s) (fw c l d s) (ro l d) (k + 1) T - 1))) := fun T => rfl
  generalize bst (cnt c s c.W) (ab c l d s) (fw c l d s) (ro l d) (k + 1) = E at *
  refine u_loopP (fun f q o => (fun K : Int32 → Ob → Option Ob => lX1_findWins_46 oc ow os K f (nI k) (nI q) o)) (fun q o => (∀ T, T < 2 ^ cnt c s c.W → ga o 6 T = nI (bN (if T < q then winU c l d s (k + 1) T else winU c l d s k T))) ∧ frm [6] o0 o) (fun r => ∃ o', (∀ K : Int32 → Ob → Option Ob, r K = K (nI k) o') ∧ (∀ T, T < 2 ^ cnt c s c.W → ga o' 6 T = nI (bN (winU c l d s (k + 1) T))) ∧ frm [6] o0 o') (2 ^ cnt c s c.W) (fun f q o hq hQ => ?_) (fun f o hQ => ?_) zfu 0 o0 (by omega) (u_zfu (by omega)) ⟨fun T hT => by rw [if_neg (Nat.not_lt_zero T)]; exact h6 T hT, frm_rf _ _⟩
  · obtain ⟨q1, q2⟩ := hQ
    have hPo := CP_frm (ks := [6]) hn hP q2 (by decide)
    have eA := h_all (oc := oc) (ow := ow) (os := os) hn hPo.1.1
    have eg : gb o 4 q = lO (E q) := by rw [(q2 4 (by decide)).2.2.2]; exact hE q hq
    have bq := be q hq
    -- either nothing is written, or the mark
    have no : winT c l d s k q = false → ∃ o', ((∀ T, T < 2 ^ cnt c s c.W → ga o' 6 T = nI (bN (if T < q + 1 then winU c l d s (k + 1) T else winU c l d s k T))) ∧ frm [6] o0 o') ∧ o' = o := fun h => by
      refine ⟨o, ⟨fun T hT => ?_, q2⟩, rfl⟩
      rw [q1 T hT]
      by_cases y : T < q
      · rw [if_pos y, if_pos (by omega)]
      · rw [if_neg y]
        by_cases y2 : T < q + 1
        · have : T = q := by omega
          subst this
          rw [if_pos y2, winU, h, Bool.or_false]
        · rw [if_neg y2]
    by_cases e0 : E q = 0
    · have en0 : winT c l d s k q = false := by rw [enE, e0]; rfl
      obtain ⟨o', a1, a2⟩ := no en0
      subst a2
      refine ⟨o', a1, ?_⟩
      funext K
      show lX1_findWins_46 oc ow os K (f + 1) (nI k) (nI q) o' = _
      rw [lX1_findWins_46, eA, u_bd, if_neg (nI_nlt (by omega) (by omega)), u_gd (by omega), u_jn, nI_clamp (n := q) (by omega), eg, if_pos ((lO_neg (by omega)).mpr e0)]
      dsimp only
      rw [u_let, show nI q + (1 : Int32) = nI (q + 1) from nI_add _ _]
    · have eO : lO (E q) = lN (E q - 1) := if_neg e0
      have sf := h_suff (oc := oc) (ow := ow) (os := os) (y := E q - 1) hc hd hs hk hPo.2.2.2.1 hPo.2.2.2.2 (by omega)
      have enq : winT c l d s k q = decide (3 * c.need s * 2 ^ k ≤ d.whole s + (E q - 1)) := by
        rw [enE, decide_eq_true e0, Bool.true_and]
      rw [← enq] at sf
      cases z : winT c l d s k q with
      | false =>
        rw [z] at sf
        obtain ⟨o', a1, a2⟩ := no z
        subst a2
        refine ⟨o', a1, ?_⟩
        funext K
        show lX1_findWins_46 oc ow os K (f + 1) (nI k) (nI q) o' = _
        rw [lX1_findWins_46, eA, u_bd, if_neg (nI_nlt (by omega) (by omega)), u_gd (by omega), u_jn, nI_clamp (n := q) (by omega), eg, if_neg (fun r => e0 ((lO_neg (by omega)).mp r)), u_gd (by omega), eO, sf, u_bd, if_pos (show nI (bN false) = (0 : Int32) by decide)]
        dsimp only
        rw [u_let, show nI q + (1 : Int32) = nI (q + 1) from nI_add _ _]
      | true =>
        rw [z] at sf
        refine ⟨sa o 6 (upd (ga o 6) q (nI 1)), ⟨fun T hT => ?_, frm_sa q2 (by decide) _⟩, ?_⟩
        · rw [ga_sa, if_pos rfl, upd_ap]
          by_cases y : T = q
          · subst y
            rw [if_pos rfl, if_pos (by omega), winU, z, Bool.or_true]
            rfl
          · rw [if_neg y, q1 T hT]
            by_cases y2 : T < q
            · rw [if_pos y2, if_pos (by omega)]
            · rw [if_neg y2, if_neg (by omega)]
        · funext K
          show lX1_findWins_46 oc ow os K (f + 1) (nI k) (nI q) o = _
          rw [lX1_findWins_46, eA, u_bd, if_neg (nI_nlt (by omega) (by omega)), u_gd (by omega), u_jn, nI_clamp (n := q) (by omega), eg, if_neg (fun r => e0 ((lO_neg (by omega)).mp r)), u_gd (by omega), eO, sf, u_bd, if_neg (show ¬ nI (bN true) = (0 : Int32) by decide), u_gd (by omega), u_let]
          dsimp only
          rw [u_let, show nI q + (1 : Int32) = nI (q + 1) from nI_add _ _]
          rfl
  · obtain ⟨q1, q2⟩ := hQ
    have hPo := CP_frm (ks := [6]) hn hP q2 (by decide)
    have eA := h_all (oc := oc) (ow := ow) (os := os) hn hPo.1.1
    refine ⟨o, fun K => ?_, fun T hT => ?_, q2⟩
    · show lX1_findWins_46 oc ow os K (f + 1) (nI k) (nI (2 ^ cnt c s c.W)) o = _
      rw [lX1_findWins_46, eA, u_bd, if_pos (nI_lt (by omega) (by omega))]
    · rw [q1 T hT, if_pos hT]
theorem h_wins {c : CD} {l : LD} {d : SD} {s : Nat} {oc ow os : Ob} (hc : OKC c) (hl : OKL l) (hd : OKS c.S d) (hs : s < c.S) (o0 : Ob) (hP : CP c l d s o0) : ∃ o', pX1_findWins o0 oc ow os = some o' ∧ CP c l d s o' ∧ (∀ T, T < 2 ^ cnt c s c.W → ga o' 6 T = nI (bN (winU c l d s (lastK d + 1) T))) := by
  have hn := hc.2.2.2.2 s hs
  have p2 := p2_le hn
  have hK := lastK_le d
  obtain ⟨o1, a1, a2, a3⟩ := h_clear o0 oc ow os (cnt c s c.W) (ab c l d s) (fw c l d s) (ro l d) (2 ^ cnt c s c.W - 1)
  obtain ⟨o2, b1, b2, b3⟩ := h_wins6 o1
  have hP2 := CP_frm (ks := [6]) hn (CP_frm hn hP a3 (by decide)) b3 (by decide)
  have B2 : Bes (cnt c s c.W) (ab c l d s) (fw c l d s) (ro l d) 0 (2 ^ cnt c s c.W - 1) o2 := fun T hT => by
    rw [(b3 4 (by decide)).2.2.2]; exact a2 T hT
  have main := u_loopP (fun f q o => lX1_findWins_27 oc ow os f (nI q) o) (fun q o => CP c l d s o ∧ Bes (cnt c s c.W) (ab c l d s) (fw c l d s) (ro l d) q (2 ^ cnt c s c.W - 1) o ∧ (∀ T, T < 2 ^ cnt c s c.W → ga o 6 T = nI (bN (winU c l d s q T)))) (fun r => ∃ o', r = some o' ∧ CP c l d s o' ∧ (∀ T, T < 2 ^ cnt c s c.W → ga o' 6 T = nI (bN (winU c l d s (lastK d + 1) T)))) (lastK d + 1) (fun f q o hq hQ => ?_) (fun f o hQ => ?_) zfu 0 o2 (by omega) (u_zfu (by omega)) ⟨hP2, B2, fun T hT => b2 T (by omega)⟩
  · obtain ⟨o', c1, c2, c3⟩ := main
    refine ⟨o', ?_, c2, c3⟩
    unfold pX1_findWins
    rw [a1, u_bd, u_jn, b1]
    exact c1
  · obtain ⟨q1, q2, q3⟩ := hQ
    have hA : 2 ^ cnt c s c.W - 1 < 64 := by omega
    obtain ⟨o', d1, d2, d3⟩ := h_callOn (oc := oc) (ow := ow) (os := os) hn hK.1 (k := q) (by omega) (fw_le hc hl d s) (ro_le hl d) hA q1.1 (Bes_ex q2)
    have f2 := CP_frm hn q1 d3 (by decide)
    have d2' := Bes_of d2
    obtain ⟨o3, e1, e2, e3⟩ := h_wins46 (oc := oc) (ow := ow) (os := os) hc hl hd hs (k := q) (by omega) o' f2 d2' (fun T hT => by rw [(d3 6 (by decide)).2.2.1]; exact q3 T hT)
    refine ⟨o3, ⟨CP_frm (ks := [6]) hn f2 e3 (by decide), fun T hT => by rw [(e3 4 (by decide)).2.2.2]; exact d2' T hT, e2⟩, ?_⟩
    show lX1_findWins_27 oc ow os (f + 1) (nI q) o = _
    rw [lX1_findWins_27, q1.2.1, if_neg (nI_nlt (by omega) (by omega)), h_all hn q1.1.1, u_bd, d1, u_bd, u_jn, e1, u_let, show nI q + (1 : Int32) = nI (q + 1) from nI_add _ _]
  · refine ⟨o, ?_, hQ.1, hQ.2.2⟩
    show lX1_findWins_27 oc ow os (f + 1) (nI (lastK d + 1)) o = _
    rw [lX1_findWins_27, hQ.1.2.1, if_pos (nI_lt (by omega) (by omega))]
