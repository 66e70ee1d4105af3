/-! the class: the others make up for it; the days one by one -/
theorem CE_dn {n K e : Nat} {able : Nat → Nat → Bool} {fr : Nat → Nat → Nat} {rm : Nat → Nat} {o : Ob} (h : CE n K able fr rm o) (hr : 1 ≤ rm e) {x : Int32} (hx : x = nI (rm e - 1)) : CE n K able fr (dn rm e) (sa o 3 (upd (ga o 3) e x)) := by
  refine ⟨h.1, fun j hj => ?_, h.2.2⟩
  rw [ga_sa, if_pos rfl, upd_ap]
  unfold dn
  by_cases z : j = e
  · rw [if_pos z, if_pos z, hx, z]
  · rw [if_neg z, if_neg z]; exact h.2.1 j hj
theorem h_others {c : CD} {d : SD} {s n K k e R S : Nat} {able : Nat → Nat → Bool} {fr : Nat → Nat → Nat} {rm : Nat → Nat} {o oc ow os : Ob} (hc : OKC c) (hd : OKS c.S d) (hs : s < c.S) (hn : n ≤ 6) (hK : K ≤ 30) (hk : k ≤ K) (hf : ∀ i j, i < 6 → fr i j ≤ 594) (hr : ∀ j, rm j ≤ 6) (he : e ≤ k) (hr1 : 1 ≤ rm e) (hR : R < 64) (hE : CE n K able fr rm o) (h10 : gl o 10 = lN (d.whole s)) (h11 : gl o 11 = lN (3 * c.need s)) (hS : S < 2 ^ 50) : ∃ b o', pX1_othersMakeUp o oc ow os (nI k) (nI e) (nI R) (lN S) = some (nI (bN b), o') ∧ (b = true ↔ ∃ z, PP n able fr (dn rm e) (k + 1) R z ∧ 3 * c.need s * 2 ^ k ≤ d.whole s + (S + z)) ∧ frm [3, 4, 5] o o' ∧ CE n K able fr rm o' := by
  obtain ⟨o1, a1, a2, a3⟩ := h_clear o oc ow os n able fr (dn rm e) R
  have hE1 : CE n K able fr rm o1 := CE_frm hn hE a3 (by decide) (by decide) (fun k h => by simp only [List.mem_cons, List.not_mem_nil, or_false]; omega)
  have e31 : ga o1 3 e - (1 : Int32) = nI (rm e - 1) := by rw [hE1.2.1 e (by omega)]; exact pk_sub (b := 1) hr1
  have hE2 := CE_dn hE1 hr1 e31
  have hrd : ∀ j, dn rm e j ≤ 6 := fun j => by
    have := hr j
    unfold dn
    split <;> omega
  have key := u_loopP (fun f q p => (fun KK : Ob → Option (Int32 × Ob) => lX1_othersMakeUp_17 oc ow os (nI k) (nI R) KK f (nI q) p)) (fun q p => CE n K able fr (dn rm e) p ∧ Bes n able fr (dn rm e) q R p ∧ frm [4, 5] (sa o1 3 (upd (ga o1 3) e (ga o1 3 e - 1))) p) (fun r => ∃ p, (∀ KK : Ob → Option (Int32 × Ob), r KK = KK p) ∧ CE n K able fr (dn rm e) p ∧ Bes n able fr (dn rm e) (k + 1) R p ∧ frm [4, 5] (sa o1 3 (upd (ga o1 3) e (ga o1 3 e - 1))) p) (k + 1) (fun f q p hq hP => ?_) (fun f p hP => ?_) zfu 0 (sa o1 3 (upd (ga o1 3) e (ga o1 3 e - 1))) (by omega) (u_zfu (by omega)) ⟨hE2, a2, frm_rf _ _⟩
  · obtain ⟨o3, b1, b2, b3, b4⟩ := key
    have b1' : ∀ KK : Ob → Option (Int32 × Ob), lX1_othersMakeUp_17 oc ow os (nI k) (nI R) KK zfu 0 (sa o1 3 (upd (ga o1 3) e (ga o1 3 e - 1))) = KK o3 := b1
    have e3 : ga o3 3 e + (1 : Int32) = nI (rm e) := by
      rw [b2.2.1 e (by omega)]
      unfold dn
      rw [if_pos rfl]
      show nI (rm e - 1) + nI 1 = _
      rw [nI_add, show rm e - 1 + 1 = rm e by omega]
    have fr4 : frm [3, 4, 5] o (sa o3 3 (upd (ga o3 3) e (nI (rm e)))) := frm_sa (frm_tr (frm_mono a3 (by decide)) (frm_tr (frm_sa (frm_rf _ _) (by decide) _) (frm_mono b4 (by decide)))) (by decide) _
    have hE4 : CE n K able fr rm (sa o3 3 (upd (ga o3 3) e (nI (rm e)))) := by
      refine ⟨b2.1, fun j hj => ?_, b2.2.2⟩
      rw [ga_sa, if_pos rfl, upd_ap]
      by_cases z : j = e
      · rw [if_pos z, z]
      · have := b2.2.1 j hj
        unfold dn at this
        rw [if_neg z] at this ⊢
        exact this
    obtain ⟨g1, g2⟩ := b3 R (Nat.and_self R)
    have g1' : gb (sa o3 3 (upd (ga o3 3) e (nI (rm e)))) 4 R = lO (bst n able fr (dn rm e) (k + 1) R) := g1
    have be := isM_lt g2 (fun x hx => PP_le hf hx)
    have pk : 3564 * 2 ^ (k + 1) ≤ 3564 * 2 ^ 31 := Nat.mul_le_mul_left _ (Nat.pow_le_pow_right (by omega) (by omega))
    have sf := isM_en (G := 3 * c.need s * 2 ^ k) (W := d.whole s + S) g2
    have sf2 : (∃ z, PP n able fr (dn rm e) (k + 1) R z ∧ 3 * c.need s * 2 ^ k ≤ d.whole s + (S + z)) ↔ (bst n able fr (dn rm e) (k + 1) R ≠ 0 ∧ 3 * c.need s * 2 ^ k ≤ d.whole s + S + (bst n able fr (dn rm e) (k + 1) R - 1)) := by
      rw [sf]
      constructor
      · rintro ⟨z, z1, z2⟩; exact ⟨z, z1, by omega⟩
      · rintro ⟨z, z1, z2⟩; exact ⟨z, z1, by omega⟩
    rw [sf2]
    generalize bst n able fr (dn rm e) (k + 1) R = E at *
    refine ⟨decide (E ≠ 0) && decide (3 * c.need s * 2 ^ k ≤ d.whole s + S + (E - 1)), sa o3 3 (upd (ga o3 3) e (nI (rm e))), ?_, by rw [Bool.and_eq_true, decide_eq_true_iff, decide_eq_true_iff], fr4, hE4⟩
    unfold pX1_othersMakeUp
    rw [a1, u_bd, u_gd (by omega), u_gd (by omega), nI_clamp (n := e) (by omega), u_let, u_jn, b1', u_gd (by omega), u_gd (by omega), e3, u_let, u_gd (by omega), nI_clamp (n := R) (by omega), g1']
    by_cases z : E = 0
    · rw [if_pos ((lO_neg (by omega)).mpr z), z]
      rfl
    · rw [if_neg (fun r => z ((lO_neg (by omega)).mp r)), u_gd (by omega), show lO E = lN (E - 1) from if_neg z, lN_add, h_suff hc hd hs (by omega) ((fr4 10 (by decide)).2.1.trans h10) ((fr4 11 (by decide)).2.1.trans h11) (by omega), u_bd, decide_eq_true z, Bool.true_and, show d.whole s + (S + (E - 1)) = d.whole s + S + (E - 1) by omega]
      cases decide (3 * c.need s * 2 ^ k ≤ d.whole s + S + (E - 1)) with
      | false => rfl
      | true => rfl
  · obtain ⟨p', d1, d2, d3⟩ := h_callOn (oc := oc) (ow := ow) (os := os) hn hK (k := q) (by omega) hf hrd hR hP.1 (Bes_ex hP.2.1)
    refine ⟨p', ⟨CE_frm hn hP.1 d3 (by decide) (by decide) (fun k h => by simp only [List.mem_cons, List.not_mem_nil, or_false]; omega), Bes_of d2, frm_tr hP.2.2 d3⟩, ?_⟩
    funext KK
    show lX1_othersMakeUp_17 oc ow os (nI k) (nI R) KK (f + 1) (nI q) p = _
    rw [lX1_othersMakeUp_17, if_neg (nI_nlt (by omega) (by omega)), d1, u_bd, u_let, show nI q + (1 : Int32) = nI (q + 1) from nI_add _ _]
  · refine ⟨p, fun KK => ?_, hP.1, hP.2.1, hP.2.2⟩
    show lX1_othersMakeUp_17 oc ow os (nI k) (nI R) KK (f + 1) (nI (k + 1)) p = _
    rw [lX1_othersMakeUp_17, if_pos (nI_lt (by omega) (by omega))]
theorem h_set51 {c : CD} {d : SD} {s n K k i R S : Nat} {able : Nat → Nat → Bool} {fr : Nat → Nat → Nat} {rm : Nat → Nat} {oc ow os : Ob} {En : Nat → Prop} (hc : OKC c) (hd : OKS c.S d) (hs : s < c.S) (hn : n ≤ 6) (hK : K ≤ 30) (hk : k ≤ K) (hf : ∀ i j, i < 6 → fr i j ≤ 594) (hr : ∀ j, rm j ≤ 6) (hR : R < 64) (hi : i < n) (hS : S < 2 ^ 49) (hEn : ∀ e, e ≤ k → (En e ↔ (i < n ∧ able i e = true ∧ 1 ≤ rm e ∧ ∃ z, PP n able fr (dn rm e) (k + 1) R z ∧ 3 * c.need s * 2 ^ k ≤ d.whole s + (S + fr i e * 2 ^ e + z)))) : ∀ g f o, g + 1 < f → g ≤ k → (∃ e, e ≤ g ∧ En e) → CE n K able fr rm o → gl o 10 = lN (d.whole s) → gl o 11 = lN (3 * c.need s) → ga o 7 i = -1 → ∃ e o', (∀ KK : Int64 → Int32 → Int32 → Ob → Option Ob, lX1_setDays_51 oc ow os (nI k) (nI R) KK f (lN S) (nI i) (nI g) o = KK (lN (S + fr i e * 2 ^ e)) (nI R) (nI i) o') ∧ e ≤ g ∧ En e ∧ (∀ e', e < e' → e' ≤ g → ¬ En e') ∧ CE n K able fr (dn rm e) o' ∧ ga o' 7 i = nI e ∧ (∀ q, q ≠ i → ga o' 7 q = ga o 7 q) ∧ frm [3, 4, 5, 7] o o' := by
  intro g
  induction g with
  | zero =>
    intro f o hf2 hg ⟨e0, e1, e2⟩ hE h10 h11 h7
    have : e0 = 0 := by omega
    subst this
    obtain ⟨f, rfl⟩ : ∃ g, f = g + 2 := ⟨f - 2, by omega⟩
    obtain ⟨c1, c2, c3, c4⟩ := (hEn 0 (by omega)).mp e2
    have hfi := hf i 0 (by omega)
    have e20 : gb o (20 + i) 0 = lN (fr i 0 * 2 ^ 0) := by rw [hE.2.2 i hi 0 (by omega), if_pos c2]
    obtain ⟨b, o', b1, b2, b3, b4⟩ := h_others (oc := oc) (ow := ow) (os := os) (e := 0) (S := S + fr i 0 * 2 ^ 0) hc hd hs hn hK hk hf hr (by omega) c3 hR hE h10 h11 (by omega)
    have bt : b = true := b2.mpr c4
    subst bt
    have e20' : gb o' (20 + i) 0 = lN (fr i 0 * 2 ^ 0) := by rw [b4.2.2 i hi 0 (by omega), if_pos c2]
    have e3 : ga o' 3 0 = nI (rm 0) := b4.2.1 0 (by omega)
    have e31 : ga o' 3 0 - (1 : Int32) = nI (rm 0 - 1) := by rw [e3]; exact pk_sub (b := 1) c3
    have hr0 := hr 0
    refine ⟨0, sa (sa o' 7 (upd (ga o' 7) i (nI 0))) 3 (upd (ga o' 3) 0 (nI (rm 0 - 1))), fun KK => ?_, Nat.le_refl _, e2, fun e' h1 h2 => by omega, ?_, ?_, fun q hq => ?_, ?_⟩
    · rw [lX1_setDays_51, if_neg (show ¬ nI 0 < (0 : Int32) by decide), u_gd (by omega), nI_clamp (n := i) (by omega), h7, if_pos rfl, u_gd (by omega), u_gd (by omega), u_jn, nI_clamp (n := 0) (by omega), e20, if_neg (lN_nneg (by omega)), u_gd (by omega), hE.2.1 0 (by omega), if_neg (show ¬ nI (rm 0) ≤ (0 : Int32) from nI_nle (by omega) (by omega)), u_gd (by omega), u_gd (by omega), lN_add, b1, u_bd]
      dsimp only
      rw [if_neg (show ¬ nI (bN true) = (0 : Int32) by decide), u_gd (by omega), u_let, u_gd (by omega), u_gd (by omega)]
      simp only [gb_sa, ga_sa, Nat.reduceEqDiff, if_false]
      rw [e20', lN_add, u_let, u_gd (by omega), u_gd (by omega), e31, u_let, u_let, lX1_setDays_51, if_pos (show nI 0 + (-1 : Int32) < 0 by decide)]
    · have t : CE n K able fr rm (sa o' 7 (upd (ga o' 7) i (nI 0))) := ⟨b4.1, fun j hj => by rw [ga_sa, if_neg (by decide)]; exact b4.2.1 j hj, b4.2.2⟩
      exact CE_dn t c3 rfl
    · rw [ga_sa, if_neg (by decide), ga_sa, if_pos rfl, upd_ap, if_pos rfl]
    · rw [ga_sa, if_neg (by decide), ga_sa, if_pos rfl, upd_ap, if_neg hq, (b3 7 (by decide)).2.2.1]
    · exact frm_sa (frm_sa (frm_mono b3 (by decide)) (by decide) _) (by decide) _
  | succ g ih =>
    intro f o hf2 hg hex hE h10 h11 h7
    obtain ⟨f, rfl⟩ : ∃ g, f = g + 2 := ⟨f - 2, by omega⟩
    have hfi := hf i (g + 1) (by omega)
    have hr0 := hr (g + 1)
    have pp : 2 ^ (g + 1) ≤ 2 ^ 30 := Nat.pow_le_pow_right (by omega) (by omega)
    have hv := Nat.mul_le_mul hfi pp
    -- one day less
    have cont : ¬ En (g + 1) → ∀ o1, frm [3, 4, 5] o o1 → CE n K able fr rm o1 → (∀ KK : Int64 → Int32 → Int32 → Ob → Option Ob, lX1_setDays_51 oc ow os (nI k) (nI R) KK (f + 2) (lN S) (nI i) (nI (g + 1)) o = lX1_setDays_51 oc ow os (nI k) (nI R) KK (f + 1) (lN S) (nI i) (nI g) o1) → ∃ e o', (∀ KK : Int64 → Int32 → Int32 → Ob → Option Ob, lX1_setDays_51 oc ow os (nI k) (nI R) KK (f + 2) (lN S) (nI i) (nI (g + 1)) o = KK (lN (S + fr i e * 2 ^ e)) (nI R) (nI i) o') ∧ e ≤ g + 1 ∧ En e ∧ (∀ e', e < e' → e' ≤ g + 1 → ¬ En e') ∧ CE n K able fr (dn rm e) o' ∧ ga o' 7 i = nI e ∧ (∀ q, q ≠ i → ga o' 7 q = ga o 7 q) ∧ frm [3, 4, 5, 7] o o' := by
      intro ne o1 fo hE1 hst
      obtain ⟨e0, e1, e2⟩ := hex
      have : e0 ≠ g + 1 := fun r => ne (r ▸ e2)
      obtain ⟨e, o', r1, r2, r3, r4, r5, r6, r7, r8⟩ := ih (f + 1) o1 (by omega) (by omega) ⟨e0, by omega, e2⟩ hE1 ((fo 10 (by decide)).2.1.trans h10) ((fo 11 (by decide)).2.1.trans h11) (by rw [(fo 7 (by decide)).2.2.1]; exact h7)
      refine ⟨e, o', fun KK => (hst KK).trans (r1 KK), by omega, r3, fun e' h1 h2 => ?_, r5, r6, fun q hq => by rw [r7 q hq, (fo 7 (by decide)).2.2.1], frm_tr (frm_mono fo (by decide)) r8⟩
      by_cases y : e' = g + 1
      · rw [y]; exact ne
      · exact r4 e' h1 (by omega)
    have m1 : nI (g + 1) + (-1 : Int32) = nI g := pk_m1 g
    have pre : ∀ KK : Int64 → Int32 → Int32 → Ob → Option Ob, lX1_setDays_51 oc ow os (nI k) (nI R) KK (f + 2) (lN S) (nI i) (nI (g + 1)) o = (zjn (fun (y17 : Int64) (o18 : Ob) => zlet (nI (g + 1) + (-1 : Int32)) fun (x19 : Int32) => lX1_setDays_51 oc ow os (nI k) (nI R) KK (f + 1) y17 (nI i) x19 o18) fun (K149 : Int64 → Ob → Option Ob) => if (gb o (20 + i) (g + 1)) < (0 : Int64) then (K149 (lN S) o) else (zgd (nI (g + 1)) 31 <| if (ga o 3 (g + 1)) ≤ 0 then (K149 (lN S) o) else (zgd (nI i) 6 <| zgd (nI (g + 1)) 31 <| Option.bind (pX1_othersMakeUp o oc ow os (nI k) (nI (g + 1)) (nI R) (lN S + (gb o (20 + i) (g + 1)))) fun (r21 : Int32 × Ob) => if (r21.1) = 0 then (K149 (lN S) (r21.2)) else (zgd (nI i) 6 <| zlet (sa (r21.2) 7 (upd (ga (r21.2) 7) i (nI (g + 1)))) fun (o22 : Ob) => zgd (nI i) 6 <| zgd (nI (g + 1)) 31 <| zlet ((lN S + (gb o22 (20 + i) (g + 1)))) fun (y24 : Int64) => zgd (nI (g + 1)) 31 <| zgd (nI (g + 1)) 31 <| zlet (sa o22 3 (upd (ga o22 3) (g + 1) ((ga o22 3 (g + 1)) - (1 : Int32)))) fun (o25 : Ob) => K149 y24 o25)))) := by
      intro KK
      rw [lX1_setDays_51, if_neg (show ¬ nI (g + 1) < (0 : Int32) from nI_nlt (b := 0) (Nat.zero_le _) (by omega)), u_gd (by omega), nI_clamp (n := i) (by omega), h7, if_pos rfl, u_gd (by omega), u_gd (by omega), nI_clamp (n := g + 1) (by omega)]
    cases ca : able i (g + 1) with
    | false =>
      refine cont (fun r => by
        have := ((hEn _ hg).mp r).2.1
        rw [ca] at this; exact absurd this (by decide)) o (frm_rf _ _) hE (fun KK => ?_)
      rw [pre, u_jn, hE.2.2 i hi (g + 1) (by omega), ca, if_neg (show ¬ false = true by decide), if_pos (show (-1 : Int64) < 0 by decide)]
      dsimp only
      rw [u_let, m1]
    | true =>
      have e20 : gb o (20 + i) (g + 1) = lN (fr i (g + 1) * 2 ^ (g + 1)) := by rw [hE.2.2 i hi (g + 1) (by omega), if_pos ca]
      by_cases cr : rm (g + 1) = 0
      · refine cont (fun r => by
          have := ((hEn _ hg).mp r).2.2.1
          omega) o (frm_rf _ _) hE (fun KK => ?_)
        rw [pre, u_jn, e20, if_neg (lN_nneg (by omega)), u_gd (by omega), hE.2.1 (g + 1) (by omega), cr, if_pos (show nI 0 ≤ (0 : Int32) by decide)]
        dsimp only
        rw [u_let, m1]
      · obtain ⟨b, o', b1, b2, b3, b4⟩ := h_others (oc := oc) (ow := ow) (os := os) (e := g + 1) (S := S + fr i (g + 1) * 2 ^ (g + 1)) hc hd hs hn hK hk hf hr (by omega) (by omega) hR hE h10 h11 (by omega)
        have pre2 : ∀ KK : Int64 → Int32 → Int32 → Ob → Option Ob, lX1_setDays_51 oc ow os (nI k) (nI R) KK (f + 2) (lN S) (nI i) (nI (g + 1)) o = (if nI (bN b) = (0 : Int32) then lX1_setDays_51 oc ow os (nI k) (nI R) KK (f + 1) (lN S) (nI i) (nI g) o' else (zgd (nI i) 6 <| zlet (sa o' 7 (upd (ga o' 7) i (nI (g + 1)))) fun (o22 : Ob) => zgd (nI i) 6 <| zgd (nI (g + 1)) 31 <| zlet ((lN S + (gb o22 (20 + i) (g + 1)))) fun (y24 : Int64) => zgd (nI (g + 1)) 31 <| zgd (nI (g + 1)) 31 <| zlet (sa o22 3 (upd (ga o22 3) (g + 1) ((ga o22 3 (g + 1)) - (1 : Int32)))) fun (o25 : Ob) => zlet (nI (g + 1) + (-1 : Int32)) fun (x19 : Int32) => lX1_setDays_51 oc ow os (nI k) (nI R) KK (f + 1) y24 (nI i) x19 o25)) := by
          intro KK
          rw [pre, u_jn, e20, if_neg (lN_nneg (by omega)), u_gd (by omega), hE.2.1 (g + 1) (by omega), if_neg (show ¬ nI (rm (g + 1)) ≤ (0 : Int32) from nI_nle (by omega) (by omega)), u_gd (by omega), u_gd (by omega), lN_add, b1, u_bd]
          dsimp only
          rw [u_let, m1]
        cases cb : b with
        | false =>
          subst cb
          refine cont (fun r => by
            have := b2.mpr ((hEn _ hg).mp r).2.2.2
            exact absurd this (by decide)) o' b3 b4 (fun KK => ?_)
          rw [pre2, if_pos (show nI (bN false) = (0 : Int32) by decide)]
        | true =>
          subst cb
          have e2 : En (g + 1) := (hEn _ hg).mpr ⟨hi, ca, by omega, b2.mp rfl⟩
          have e20' : gb o' (20 + i) (g + 1) = lN (fr i (g + 1) * 2 ^ (g + 1)) := by rw [b4.2.2 i hi (g + 1) (by omega), if_pos ca]
          have e3 : ga o' 3 (g + 1) = nI (rm (g + 1)) := b4.2.1 (g + 1) (by omega)
          have e31 : ga o' 3 (g + 1) - (1 : Int32) = nI (rm (g + 1) - 1) := by rw [e3]; exact pk_sub (b := 1) (by omega)
          refine ⟨g + 1, sa (sa o' 7 (upd (ga o' 7) i (nI (g + 1)))) 3 (upd (ga o' 3) (g + 1) (nI (rm (g + 1) - 1))), fun KK => ?_, Nat.le_refl _, e2, fun e' h1 h2 => by omega, ?_, ?_, fun q hq => ?_, ?_⟩
          · rw [pre2, if_neg (show ¬ nI (bN true) = (0 : Int32) by decide), u_gd (by omega), u_let, u_gd (by omega), u_gd (by omega)]
            simp only [gb_sa, ga_sa, Nat.reduceEqDiff, if_false]
            rw [e20', lN_add, u_let, u_gd (by omega), u_gd (by omega), e31, u_let, u_let, m1, lX1_setDays_51, if_neg (show ¬ nI g < (0 : Int32) from nI_nlt (b := 0) (Nat.zero_le _) (by omega)), u_gd (by omega), nI_clamp (n := i) (by omega), ga_sa, if_neg (show ¬ (7 : Nat) = 3 by decide), ga_sa, if_pos (show (7 : Nat) = 7 from rfl), upd_ap, if_pos (show i = i from rfl), if_neg (show ¬ nI (g + 1) = (-1 : Int32) from fun r => by
              have := nO_inj (a := g + 2) (b := 0) (by omega) (by omega) (by rw [nO_s]; exact r)
              omega)]
          · have t : CE n K able fr rm (sa o' 7 (upd (ga o' 7) i (nI (g + 1)))) := ⟨b4.1, fun j hj => by rw [ga_sa, if_neg (by decide)]; exact b4.2.1 j hj, b4.2.2⟩
            exact CE_dn t (by omega) rfl
          · rw [ga_sa, if_neg (by decide), ga_sa, if_pos rfl, upd_ap, if_pos rfl]
          · rw [ga_sa, if_neg (by decide), ga_sa, if_pos rfl, upd_ap, if_neg hq, (b3 7 (by decide)).2.2.1]
          · exact frm_sa (frm_sa (frm_mono b3 (by decide)) (by decide) _) (by decide) _
