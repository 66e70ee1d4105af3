/-! plan -/
theorem p_days {c : CD} {l : LD} {d : SD} {s k F : Nat} {oc ow os : Ob} {r1 : Int32 × Ob} (hr1 : r1.1 = nI k) (hc : OKC c) (hl : OKL l) (hd : OKS c.S d) (hs : s < c.S) (hk : k ≤ lastK d) (hF : F < 64) : ∀ g i f f' o m st rm R S, i + g = cnt c s c.W → g < f → g < f' → FIX (cnt c s c.W) k F i (ab c l d s) (fw c l d s) (ro l d) st rm R S → EN (cnt c s c.W) k F (ab c l d s) (fw c l d s) (ro l d) st (3 * c.need s * 2 ^ k) (d.whole s) → CE (cnt c s c.W) (lastK d) (ab c l d s) (fw c l d s) rm o → gl o 10 = lN (d.whole s) → gl o 11 = lN (3 * c.need s) → S ≤ i * (594 * 2 ^ 30) → (∀ q, q < i → ga o 7 q = nO (st q)) → (∀ j, rm j ≤ 6) → MP c l d s st m → ∃ o' m' st', lX1_setDays_8 oc ow os (nI k) (nI F) f (lN S) (nI R) (nI i) o = some o' ∧ lX11_findPlan_126 (nI s) r1 f' (nI F) (nI i) m = some (nI F, m') ∧ (∀ q, q < cnt c s c.W → ga o' 7 q = nO (st' q)) ∧ MP c l d s st' m' ∧ (∀ q, F.testBit q = false → st' q = 0) ∧ frm [3, 4, 5, 7] o o' ∧ frm [41, 42, 43] m m' := by
  have hn := hc.2.2.2.2 s hs
  have hK := lastK_le d
  have hf := fw_le hc hl d s
  intro g
  induction g with
  | zero =>
    intro i f f' o m st rm R S hi h1 h2 hX hE hC h10 h11 hS h7 hr hM
    have : i = cnt c s c.W := by omega
    subst this
    obtain ⟨f, rfl⟩ : ∃ g, f = g + 1 := ⟨f - 1, by omega⟩
    obtain ⟨f', rfl⟩ : ∃ g, f' = g + 1 := ⟨f' - 1, by omega⟩
    refine ⟨o, m, st, ?_, ?_, h7, hM, fun q hq => hX.2.2.1 q (fun r => by rw [hq] at r; exact absurd r.2 (by decide)), frm_rf _ _, frm_rf _ _⟩
    · rw [lX1_setDays_8, hC.1, if_pos (nI_le (Nat.le_refl _) (by omega))]
    · rw [lX11_findPlan_126, hM.2.2.2.1, if_pos (nI_le (Nat.le_refl _) (by omega))]
  | succ g ih =>
    intro i f f' o m st rm R S hi h1 h2 hX hE hC h10 h11 hS h7 hr hM
    obtain ⟨f, rfl⟩ : ∃ g, f = g + 1 := ⟨f - 1, by omega⟩
    obtain ⟨f', rfl⟩ : ∃ g, f' = g + 1 := ⟨f' - 1, by omega⟩
    have hin : i < cnt c s c.W := by omega
    have st0 := hX.2.2.1 i (fun r => absurd r.1 (Nat.lt_irrefl i))
    have hR := FIX_lt hX hF
    have sS : S ≤ 6 * (594 * 2 ^ 30) := Nat.le_trans hS (Nat.mul_le_mul_right _ (by omega))
    have c5 : CE (cnt c s c.W) (lastK d) (ab c l d s) (fw c l d s) rm (sa o 7 (upd (ga o 7) i (-1))) := ⟨hC.1, fun j hj => by rw [ga_sa, if_neg (by decide)]; exact hC.2.1 j hj, hC.2.2⟩
    have bit : (nI F >>> (nI i &&& 31)) &&& (1 : Int32) = nI (bN (F.testBit i)) := by
      have h1 : F >>> i < 2147483648 := by rw [Nat.shiftRight_eq_div_pow]; exact Nat.lt_of_le_of_lt (Nat.div_le_self _ _) (by omega)
      rw [show nI F >>> (nI i &&& 31) = nI (F >>> i) from u_shr (by omega) (by omega), show nI (F >>> i) &&& (1 : Int32) = nI (F >>> i % 2) from u_and1 h1, bt1]
      cases F.testBit i <;> rfl
    cases z : F.testBit i with
    | false =>
      rw [z] at bit
      have h7' : ∀ q, q < i + 1 → ga (sa o 7 (upd (ga o 7) i (-1))) 7 q = nO (st q) := fun q hq => by
        rw [ga_sa, if_pos rfl, upd_ap]
        by_cases y : q = i
        · rw [if_pos y, y, st0]; rfl
        · rw [if_neg y]; exact h7 q (by omega)
      obtain ⟨o', m', st', a1, a2, a3, a4, a5, a6, a7⟩ := ih (i + 1) f f' (sa o 7 (upd (ga o 7) i (-1))) m st rm R S (by omega) (by omega) (by omega) (FIX_n hX z) hE c5 h10 h11 (Nat.le_trans hS (Nat.mul_le_mul_right _ (by omega))) h7' hr hM
      refine ⟨o', m', st', ?_, ?_, a3, a4, a5, frm_tr (frm_sa (frm_rf _ _) (by decide) _) a6, a7⟩
      · rw [lX1_setDays_8, hC.1, if_neg (nI_ge hin (by omega)), u_gd (by omega), nI_clamp (n := i) (by omega), u_let, u_jn, bit, if_pos (show nI (bN false) = (0 : Int32) by decide)]
        dsimp only
        rw [u_let, show nI i + (1 : Int32) = nI (i + 1) from nI_add _ _]
        exact a1
      · rw [lX11_findPlan_126, hM.2.2.2.1, if_neg (nI_ge hin (by omega)), m_has (by omega) (by omega), u_bd, u_jn, z, if_pos (show nI (bN false) = (0 : Int32) by decide)]
        dsimp only
        rw [u_let, show nI i + (1 : Int32) = nI (i + 1) from nI_add _ _]
        exact a2
    | true =>
      rw [z] at bit
      have Ri : R.testBit i = true := by rw [hX.2.2.2 i, z, decide_eq_true (Nat.le_refl i)]; rfl
      have hex := EN_day hF (by omega) z st0 hE
      have hflip := flip_lt hR (show i < 6 by omega)
      have hEn : ∀ e, e ≤ k → (EN (cnt c s c.W) k F (ab c l d s) (fw c l d s) (ro l d) (nup st i (e + 1)) (3 * c.need s * 2 ^ k) (d.whole s) ↔ (i < cnt c s c.W ∧ ab c l d s i e = true ∧ 1 ≤ rm e ∧ ∃ w, PP (cnt c s c.W) (ab c l d s) (fw c l d s) (dn rm e) (k + 1) (R ^^^ 1 <<< i) w ∧ 3 * c.need s * 2 ^ k ≤ d.whole s + (S + fw c l d s i e * 2 ^ e + w))) := fun e he => FIX_en hX hF (by omega) z he
      obtain ⟨e, o1, r1', r2, r3, r4, r5, r6, r7, r8⟩ := h_set51 (oc := oc) (ow := ow) (os := os) (En := fun e => EN (cnt c s c.W) k F (ab c l d s) (fw c l d s) (ro l d) (nup st i (e + 1)) (3 * c.need s * 2 ^ k) (d.whole s)) hc hd hs hn hK.1 hk hf hr hflip hin (by omega) hEn k zfu (sa o 7 (upd (ga o 7) i (-1))) (u_zfu (by omega)) (Nat.le_refl k) hex c5 h10 h11 (by rw [ga_sa, if_pos rfl, upd_ap, if_pos rfl])
      have hM1 : MP c l d s (nup st i (k + 1)) (sa m 41 (upd (ga m 41) i (nI k))) := MP_set hM (by omega) (nO_s k).symm
      obtain ⟨e', m1, s1, s2, s3, s4, s5, s6⟩ := m_set152 hr1 hc hl hd hs (by omega) hF (show i < 6 by omega) k zfu (sa m 41 (upd (ga m 41) i (nI k))) (u_zfu (by omega)) (Nat.le_refl k) hex hM1
      have ee : e = e' := by
        rcases Nat.lt_trichotomy e e' with y | y | y
        · exact absurd s3 (r4 e' y s2)
        · exact y
        · exact absurd r3 (s4 e y r2)
      subst ee
      obtain ⟨d1, d2, d3, d4⟩ := (hEn e r2).mp r3
      have hfi := hf i e (by omega)
      have pp : 2 ^ e ≤ 2 ^ 30 := Nat.pow_le_pow_right (by omega) (by omega)
      have hv := Nat.mul_le_mul hfi pp
      have hS' : S + fw c l d s i e * 2 ^ e ≤ (i + 1) * (594 * 2 ^ 30) := by rw [Nat.succ_mul]; omega
      have h7' : ∀ q, q < i + 1 → ga o1 7 q = nO (nup st i (e + 1) q) := fun q hq => by
        by_cases y : q = i
        · rw [y, r6, nup_s, nO_s]
        · rw [r7 q y, nup_n _ _ y, ga_sa, if_pos rfl, upd_ap, if_neg y]; exact h7 q (by omega)
      have hrd : ∀ j, dn rm e j ≤ 6 := fun j => by
        have := hr j
        unfold dn
        split <;> omega
      obtain ⟨o', m', st', a1, a2, a3, a4, a5, a6, a7⟩ := ih (i + 1) f f' o1 m1 (nup st i (e + 1)) (dn rm e) (R ^^^ 1 <<< i) (S + fw c l d s i e * 2 ^ e) (by omega) (by omega) (by omega) (FIX_s hX hF (by omega) z r2 hin d2 d3) r3 r5 ((r8 10 (by decide)).2.1.trans h10) ((r8 11 (by decide)).2.1.trans h11) hS' h7' hrd s5
      refine ⟨o', m', st', ?_, ?_, a3, a4, a5, frm_tr (frm_sa (frm_rf _ _) (by decide) _) (frm_tr r8 a6), frm_tr (frm_sa (frm_rf _ _) (by decide) _) (frm_tr s6 a7)⟩
      · have sub : (1 <<< i) &&& R = 1 <<< i := sub_of (fun q hq => by
          rw [Nat.one_shiftLeft, Nat.testBit_two_pow] at hq
          have := of_decide_eq_true hq
          rw [← this]; exact Ri)
        have mk : nI R &&& (((1 : Int32) <<< (nI i &&& 31)) ^^^ (-1 : Int32)) = nI (R ^^^ 1 <<< i) := by
          rw [show (1 : Int32) <<< (nI i &&& 31) = nI (1 <<< i) from u_shl1 (by omega)]
          have := u_andn R (1 <<< i)
          rw [xor_and sub] at this
          exact this
        rw [lX1_setDays_8, hC.1, if_neg (nI_ge hin (by omega)), u_gd (by omega), nI_clamp (n := i) (by omega), u_let, u_jn, bit, if_neg (show ¬ nI (bN true) = (0 : Int32) by decide), mk, u_let, r1', u_let, show nI i + (1 : Int32) = nI (i + 1) from nI_add _ _]
        exact a1
      · rw [lX11_findPlan_126, hM.2.2.2.1, if_neg (nI_ge hin (by omega)), m_has (by omega) (by omega), u_bd, u_jn, z, if_neg (show ¬ nI (bN true) = (0 : Int32) by decide), u_gd (by omega), nI_clamp (n := i) (by omega), hr1, u_let, s1, u_let, show nI i + (1 : Int32) = nI (i + 1) from nI_add _ _]
        exact a2
