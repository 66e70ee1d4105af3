theorem m_fewest {c : CD} {l : LD} {d : SD} {s k : Nat} {st : Nat → Nat} {m : Ob} {r1 : Int32 × Ob} (hr1 : r1.1 = nI k) (hc : OKC c) (hl : OKL l) (hd : OKS c.S d) (hs : s < c.S) (hk : k ≤ 30) (hM : MP c l d s st m) (hB : RB (cnt c s c.W) (ab c l d s) (fw c l d s) (ro l d) (k + 1) (30 - k) m) (K : Int32 → Option (Int32 × Ob)) : lX11_findPlan_31 (nI s) r1 m K zfu (-1) 0 = K (nO (fewT (enT (bst (cnt c s c.W) (ab c l d s) (fw c l d s) (ro l d) (k + 1)) (3 * c.need s * 2 ^ k) (d.whole s)) (2 ^ cnt c s c.W))) := by
  have h6 := hc.1
  have hn := hc.2.2.2.2 s hs
  have p2 := p2_le hn
  have hnd := (hc.2.2.1 s hs).2.1
  have hw := (hd.2.2.2.2.1 s hs).1
  have hsp := hd.2.1
  have prod : 2 ^ k * 2 ^ (30 - k) = 2 ^ 30 := by rw [← Nat.pow_add, show k + (30 - k) = 30 by omega]
  have pk : 3564 * 2 ^ (k + 1) = 7128 * 2 ^ k := by rw [Nat.pow_succ]; omega
  have pp : 2 ^ k ≤ 2 ^ 30 := Nat.pow_le_pow_right (by omega) (by omega)
  have be : ∀ T, T < 64 → bst (cnt c s c.W) (ab c l d s) (fw c l d s) (ro l d) (k + 1) T ≤ 7128 * 2 ^ k + 1 := fun T hT => by
    rw [← pk]
    exact isM_lt (hB T hT).2 (fun x hx => PP_le (fw_le hc hl d s) hx)
  have hE : ∀ T, T < 64 → gb m 42 T = sc (bst (cnt c s c.W) (ab c l d s) (fw c l d s) (ro l d) (k + 1) T) (30 - k) := fun T hT => (hB T hT).1
  generalize bst (cnt c s c.W) (ab c l d s) (fw c l d s) (ro l d) (k + 1) = E at *
  have enE : ∀ T, enT E (3 * c.need s * 2 ^ k) (d.whole s) T = (decide (E T ≠ 0) && decide (3 * c.need s * 2 ^ k ≤ d.whole s + (E T - 1))) := fun T => rfl
  generalize enT E (3 * c.need s * 2 ^ k) (d.whole s) = en at *
  have sca : ∀ e, e ≤ 20000 * 2 ^ k → e * 2 ^ (30 - k) < 2 ^ 60 := fun e he => by
    have h1 := Nat.mul_le_mul_right (2 ^ (30 - k)) he
    rw [Nat.mul_assoc, prod] at h1
    omega
  have pos := Nat.two_pow_pos k
  have fl := fewT_le en
  have g40 := hM.2.2.2.1
  have w1 := (hM.1.2.2.1 s hs).1
  refine u_loop (fun f q => lX11_findPlan_31 (nI s) r1 m K f (nO (fewT en q)) (nI q)) (2 ^ cnt c s c.W) _ (fun f q hq => ?_) (fun f => ?_) zfu 0 (by omega) (u_zfu (by omega))
  · have flq := fl q
    have bq := be q (by omega)
    have scq := sca (E q) (by omega)
    show lX11_findPlan_31 (nI s) r1 m K (f + 1) (nO (fewT en q)) (nI q) = _
    rw [lX11_findPlan_31, g40, show (1 : Int32) <<< (nI (cnt c s c.W) &&& 31) = nI (1 <<< cnt c s c.W) from u_shl1 (by omega), Nat.one_shiftLeft, if_neg (nI_ge hq (by omega)), u_gd (by omega), nI_clamp (n := q) (by omega), hE q (by omega), u_jn, u_jn]
    by_cases e0 : E q = 0
    · have en0 : en q = false := by rw [enE, e0]; rfl
      rw [if_pos ((sc_neg (by omega)).mpr e0)]
      dsimp only
      rw [u_jn, u_jn, if_pos rfl]
      dsimp only
      rw [u_let, show nI q + (1 : Int32) = nI (q + 1) from nI_add _ _, fewT, if_neg (fun r => by
        rw [en0] at r
        exact absurd r.1 (by decide))]
    · have eS : sc (E q) (30 - k) = lN ((E q - 1) * 2 ^ (30 - k)) := if_neg e0
      have enq : en q = decide (3 * c.need s * 2 ^ k ≤ d.whole s + (E q - 1)) := by
        rw [enE, decide_eq_true e0, Bool.true_and]
      have dl : (d.whole s + (E q - 1)) / 2 ^ k ≤ d.whole s + (E q - 1) := Nat.div_le_self _ _
      have iff : lN ((d.whole s + (E q - 1)) / 2 ^ k) < (3 : Int64) * (nI (c.need s)).toInt64 ↔ ¬ 3 * c.need s * 2 ^ k ≤ d.whole s + (E q - 1) := by
        rw [nI_l (by omega), show (3 : Int64) * lN (c.need s) = lN (3 * c.need s) from lN_mul 3 _, pk_lLT (by omega) (by omega), Nat.div_lt_iff_lt_mul pos]
        omega
      rw [if_neg (fun r => e0 ((sc_neg (by omega)).mp r)), u_gd (by omega), eS, hr1, m_wholeBy (l := l) hc hd hs hM.2.2.1 hk (by have := sca (E q - 1) (by omega); omega), u_bd, u_gd (by omega), nI_clamp (n := s) (by omega), w1]
      by_cases z : 3 * c.need s * 2 ^ k ≤ d.whole s + (E q - 1)
      · have en1 : en q = true := by rw [enq, decide_eq_true z]
        rw [if_neg (fun r => iff.mp r z)]
        dsimp only
        rw [u_jn, u_jn, if_neg (show ¬ (1 : Int32) = 0 by decide), u_jn]
        by_cases c0 : fewT en q = 0
        · rw [if_pos (show nO (fewT en q) < (0 : Int32) by rw [c0]; decide)]
          dsimp only
          rw [u_let, show nI q + (1 : Int32) = nI (q + 1) from nI_add _ _, fewT, if_pos ⟨en1, Or.inl c0⟩, nO_s]
        · have eF : nO (fewT en q) = nI (fewT en q - 1) := by
            obtain ⟨g, hg⟩ : ∃ g, fewT en q = g + 1 := ⟨fewT en q - 1, by omega⟩
            rw [hg, nO_s]; rfl
          have b1 := bsum_le q 12
          have b2 := bsum_le (fewT en q - 1) 12
          have nn : ¬ nO (fewT en q) < (0 : Int32) := fun r => by
            have := nO_ltF (n := fewT en q) ⟨by omega, by omega⟩
            exact this ▸ r
          rw [if_neg nn, m_bits (a := q) (by omega), u_bd, show pX11_bits (nO (fewT en q)) = some (nI (bsum (fewT en q - 1) 12)) by rw [eF]; exact m_bits (by omega), u_bd]
          by_cases c1 : bsum q 12 < bsum (fewT en q - 1) 12
          · rw [if_neg (nI_ge c1 (by omega))]
            dsimp only
            rw [u_let, show nI q + (1 : Int32) = nI (q + 1) from nI_add _ _, fewT, if_pos ⟨en1, Or.inr c1⟩, nO_s]
          · rw [if_pos (nI_le (by omega) (by omega))]
            dsimp only
            rw [u_let, show nI q + (1 : Int32) = nI (q + 1) from nI_add _ _, fewT, if_neg (fun r => by
              rcases r.2 with r | r
              · exact c0 r
              · exact c1 r)]
      · have en0 : en q = false := by rw [enq, decide_eq_false z]
        rw [if_pos (iff.mpr z)]
        dsimp only
        rw [u_jn, u_jn, if_pos rfl]
        dsimp only
        rw [u_let, show nI q + (1 : Int32) = nI (q + 1) from nI_add _ _, fewT, if_neg (fun r => by
          rw [en0] at r
          exact absurd r.1 (by decide))]
  · show lX11_findPlan_31 (nI s) r1 m K (f + 1) _ (nI (2 ^ cnt c s c.W)) = _
    rw [lX11_findPlan_31, g40, show (1 : Int32) <<< (nI (cnt c s c.W) &&& 31) = nI (1 <<< cnt c s c.W) from u_shl1 (by omega), Nat.one_shiftLeft, if_pos (nI_le (Nat.le_refl _) (by omega))]
