/-! the fewest who make it enough -/
def enT (E : Nat → Nat) (G W T : Nat) : Bool := decide (E T ≠ 0) && decide (G ≤ W + (E T - 1))
def fewT (en : Nat → Bool) : Nat → Nat
  | 0 => 0
  | q + 1 => if en q = true ∧ (fewT en q = 0 ∨ bsum q 12 < bsum (fewT en q - 1) 12) then q + 1 else fewT en q
theorem fewT_le (en : Nat → Bool) : ∀ q, fewT en q ≤ q
  | 0 => Nat.le_refl 0
  | q + 1 => by
    have := fewT_le en q
    rw [fewT]
    split <;> omega
theorem fewT_en (en : Nat → Bool) : ∀ q, fewT en q ≠ 0 → en (fewT en q - 1) = true
  | 0, h => absurd rfl h
  | q + 1, h => by
    have ih := fewT_en en q
    rw [fewT] at h ⊢
    by_cases z : en q = true ∧ (fewT en q = 0 ∨ bsum q 12 < bsum (fewT en q - 1) 12)
    · rw [if_pos z]; exact z.1
    · rw [if_neg z] at h ⊢; exact ih h
theorem fewT_ex (en : Nat → Bool) : ∀ q T, T < q → en T = true → fewT en q ≠ 0
  | 0, _, h, _ => absurd h (Nat.not_lt_zero _)
  | q + 1, T, h, e => by
    rw [fewT]
    by_cases z : en q = true ∧ (fewT en q = 0 ∨ bsum q 12 < bsum (fewT en q - 1) 12)
    · rw [if_pos z]; omega
    · rw [if_neg z]
      by_cases y : T = q
      · subst y
        intro r
        exact z ⟨e, Or.inl r⟩
      · exact fewT_ex en q T (by omega) e
theorem gm_at {e : Nat → Nat} (h0 : e 0 ≠ 0) : ∀ q, 0 < q → ∃ T, T < q ∧ e T ≠ 0 ∧ gm e q ≤ e T - 1
  | 0, h => absurd h (Nat.lt_irrefl 0)
  | q + 1, _ => by
    rw [gm]
    by_cases z : e q ≤ gm e q
    · rw [if_pos z]
      rcases Nat.eq_zero_or_pos q with y | y
      · subst y; exact absurd (Nat.le_zero.mp z) h0
      · obtain ⟨T, t1, t2, t3⟩ := gm_at h0 q y
        exact ⟨T, by omega, t2, t3⟩
    · rw [if_neg z]
      exact ⟨q, by omega, by omega, Nat.le_refl _⟩
theorem bsum_le (a : Nat) : ∀ m, bsum a m ≤ m
  | 0 => Nat.le_refl _
  | m + 1 => by
    have := bsum_le a m
    rw [bsum]; omega
theorem h_suff {c : CD} {d : SD} {s k y : Nat} {o oc ow os : Ob} (hc : OKC c) (hd : OKS c.S d) (hs : s < c.S) (hk : k ≤ 30) (h10 : gl o 10 = lN (d.whole s)) (h11 : gl o 11 = lN (3 * c.need s)) (hy : y < 2 ^ 60) : pX1_suffices o oc ow os (lN y) (nI k) = some (nI (bN (decide (3 * c.need s * 2 ^ k ≤ d.whole s + y)))) := by
  have hnd := (hc.2.2.1 s hs).2.1
  have hw := (hd.2.2.2.2.1 s hs).1
  have hsp := hd.2.1
  have pp : 2 ^ k ≤ 2 ^ 30 := Nat.pow_le_pow_right (by omega) (by omega)
  have nle : 3 * c.need s * 2 ^ k ≤ 2997 * 2 ^ 30 := Nat.mul_le_mul (by omega) pp
  unfold pX1_suffices
  rw [h10, h11, wb_shl (k := k) _ (by omega), lN_add]
  by_cases z : 3 * c.need s * 2 ^ k ≤ d.whole s + y
  · rw [if_neg (fun r => by
      have := (pk_lLT (by omega) (by omega)).mp r
      omega), decide_eq_true z]
    rfl
  · rw [if_pos ((pk_lLT (by omega) (by omega)).mpr (by omega)), decide_eq_false z]
    rfl
theorem h_fewest {c : CD} {l : LD} {d : SD} {s k : Nat} {o oc ow os : Ob} (hc : OKC c) (hl : OKL l) (hd : OKS c.S d) (hs : s < c.S) (hk : k ≤ 30) (hP : CP c l d s o) (hB : Bes (cnt c s c.W) (ab c l d s) (fw c l d s) (ro l d) (k + 1) (2 ^ cnt c s c.W - 1) o) (hne : fewT (enT (bst (cnt c s c.W) (ab c l d s) (fw c l d s) (ro l d) (k + 1)) (3 * c.need s * 2 ^ k) (d.whole s)) (2 ^ cnt c s c.W) ≠ 0) : pX1_fewestSpeakers o oc ow os (nI k) = some (nI (fewT (enT (bst (cnt c s c.W) (ab c l d s) (fw c l d s) (ro l d) (k + 1)) (3 * c.need s * 2 ^ k) (d.whole s)) (2 ^ cnt c s c.W) - 1)) := by
  have hn := hc.2.2.2.2 s hs
  have p2 := p2_le hn
  have pk : 3564 * 2 ^ (k + 1) ≤ 3564 * 2 ^ 31 := Nat.mul_le_mul_left _ (Nat.pow_le_pow_right (by omega) (by omega))
  have be : ∀ T, T < 2 ^ cnt c s c.W → bst (cnt c s c.W) (ab c l d s) (fw c l d s) (ro l d) (k + 1) T ≤ 3564 * 2 ^ (k + 1) + 1 := fun T hT => isM_lt (hB T (sub_all.mpr hT)).2 (fun x hx => PP_le (fw_le hc hl d s) hx)
  have eA := h_all (oc := oc) (ow := ow) (os := os) hn hP.1.1
  have hE : ∀ T, T < 2 ^ cnt c s c.W → gb o 4 T = lO (bst (cnt c s c.W) (ab c l d s) (fw c l d s) (ro l d) (k + 1) T) := fun T hT => (hB T (sub_all.mpr hT)).1
  generalize bst (cnt c s c.W) (ab c l d s) (fw c l d s) (ro l d) (k + 1) = E at *
  have enE : ∀ T, enT E (3 * c.need s * 2 ^ k) (d.whole s) T = (decide (E T ≠ 0) && decide (3 * c.need s * 2 ^ k ≤ d.whole s + (E T - 1))) := fun T => rfl
  generalize enT E (3 * c.need s * 2 ^ k) (d.whole s) = en at *
  unfold pX1_fewestSpeakers
  rw [u_jn]
  have fl := fewT_le en
  have main : ∀ K : Int32 → Option Int32, lX1_fewestSpeakers_4 o oc ow os (nI k) K zfu (-1) 0 = K (nO (fewT en (2 ^ cnt c s c.W))) := by
    intro K
    refine u_loop (fun f q => lX1_fewestSpeakers_4 o oc ow os (nI k) K f (nO (fewT en q)) (nI q)) (2 ^ cnt c s c.W) _ (fun f q hq => ?_) (fun f => ?_) zfu 0 (by omega) (u_zfu (by omega))
    · have flq := fl q
      have last : ∀ x7 : Int32, x7 = nO (fewT en (q + 1)) → (zlet (nI q + (1 : Int32)) fun (x8 : Int32) => lX1_fewestSpeakers_4 o oc ow os (nI k) K f x7 x8) = lX1_fewestSpeakers_4 o oc ow os (nI k) K f (nO (fewT en (q + 1))) (nI (q + 1)) := by
        intro x7 hx
        rw [hx, u_let, show nI q + (1 : Int32) = nI (q + 1) from nI_add _ _]
      show lX1_fewestSpeakers_4 o oc ow os (nI k) K (f + 1) (nO (fewT en q)) (nI q) = _
      rw [lX1_fewestSpeakers_4, eA, u_bd, if_neg (nI_nlt (by omega) (by omega)), u_jn, u_jn, h_bits (x := q) (by omega), u_bd]
      -- is the set a candidate
      have b1 := bsum_le q 12
      have bq := be q hq
      have yes : (fewT en q = 0 ∨ bsum q 12 < bsum (fewT en q - 1) 12) → (zjn (fun (x7 : Int32) => zlet (nI q + (1 : Int32)) fun (x8 : Int32) => lX1_fewestSpeakers_4 o oc ow os (nI k) K f x7 x8) fun (K67 : Int32 → Option Int32) => if (1 : Int32) = 0 then (K67 (nO (fewT en q))) else (zgd (nI q) 64 <| if (gb o 4 ((nI q).toNatClampNeg)) < (0 : Int64) then (K67 (nO (fewT en q))) else (zgd (nI q) 64 <| Option.bind (pX1_suffices o oc ow os (gb o 4 ((nI q).toNatClampNeg)) (nI k)) fun (r9 : Int32) => if r9 = 0 then (K67 (nO (fewT en q))) else (K67 (nI q))))) = lX1_fewestSpeakers_4 o oc ow os (nI k) K f (nO (fewT en (q + 1))) (nI (q + 1)) := by
        intro hcand
        rw [u_jn, if_neg (by decide), u_gd (by omega), nI_clamp (n := q) (by omega), hE q hq, u_gd (by omega)]
        by_cases e0 : E q = 0
        · have en0 : en q = false := by rw [enE, e0]; rfl
          rw [if_pos ((lO_neg (by omega)).mpr e0)]
          exact last _ (by rw [fewT, en0, if_neg (fun r => absurd r.1 (by decide))])
        · rw [if_neg (fun r => e0 ((lO_neg (by omega)).mp r))]
          have eO : lO (E q) = lN (E q - 1) := if_neg e0
          rw [eO, h_suff hc hd hs hk hP.2.2.2.1 hP.2.2.2.2 (by omega), u_bd]
          have enq : en q = decide (3 * c.need s * 2 ^ k ≤ d.whole s + (E q - 1)) := by
            rw [enE, decide_eq_true e0, Bool.true_and]
          rw [← enq]
          cases z : en q with
          | false =>
            rw [if_pos (show nI (bN false) = (0 : Int32) by decide)]
            exact last _ (by rw [fewT, z, if_neg (fun r => absurd r.1 (by decide))])
          | true =>
            rw [if_neg (show ¬ nI (bN true) = (0 : Int32) by decide)]
            exact last _ (by rw [fewT, if_pos ⟨z, hcand⟩, nO_s])
      by_cases c0 : fewT en q = 0
      · rw [if_pos (show nO (fewT en q) = (-1 : Int32) by rw [c0]; rfl)]
        exact yes (Or.inl c0)
      · have eF : nO (fewT en q) = nI (fewT en q - 1) := by
          obtain ⟨g, hg⟩ : ∃ g, fewT en q = g + 1 := ⟨fewT en q - 1, by omega⟩
          rw [hg, nO_s]; rfl
        rw [if_neg (show ¬ nO (fewT en q) = (-1 : Int32) from fun r => c0 (nO_inj (a := fewT en q) (b := 0) (by omega) (by omega) r))]
        have b2 := bsum_le (fewT en q - 1) 12
        rw [show pJ6_bitCount_0f7a4 (nO (fewT en q)) = some (nI (bsum (fewT en q - 1) 12)) by rw [eF]; exact h_bits (by omega), u_bd]
        by_cases c1 : bsum q 12 < bsum (fewT en q - 1) 12
        · rw [if_neg (nI_ge c1 (by omega))]
          exact yes (Or.inr c1)
        · rw [if_pos (nI_le (by omega) (by omega))]
          dsimp only
          rw [u_jn, if_pos rfl]
          exact last _ (by rw [fewT, if_neg (fun r => by
            rcases r.2 with r | r
            · exact c0 r
            · exact c1 r)])
    · show lX1_fewestSpeakers_4 o oc ow os (nI k) K (f + 1) _ (nI (2 ^ cnt c s c.W)) = _
      rw [lX1_fewestSpeakers_4, eA, u_bd, if_pos (nI_lt (by omega) (by omega))]
  rw [main, u_let]
  have fq := fl (2 ^ cnt c s c.W)
  obtain ⟨g, hg⟩ : ∃ g, fewT en (2 ^ cnt c s c.W) = g + 1 := ⟨fewT en (2 ^ cnt c s c.W) - 1, by omega⟩
  rw [hg, nO_s, Nat.add_sub_cancel]
  rcases Nat.eq_zero_or_pos g with z | z
  · rw [z]; rfl
  · rw [if_pos (show (0 : Int32) < nI g from nI_lt (a := 0) z (by omega))]
