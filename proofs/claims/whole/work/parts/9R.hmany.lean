/-! many: the class -/
def ndS (c : CD) (l : LD) (d : SD) (s : Nat) : Nat := if d.how s = 0 then ndN c l d s else 1000
theorem hvL_stay {c : CD} {l : LD} {d : SD} {s L k : Nat} (h : 3 * c.need s ≤ (hvL c l d s L k).1) : ∀ g, hvL c l d s L (k + g) = hvL c l d s L k
  | 0 => rfl
  | g + 1 => by
    have ih := hvL_stay h g
    rw [← Nat.add_assoc, hvL, ih]
    exact if_neg (fun r => by have := r.2.1; omega)
theorem ndN_le {c : CD} {l : LD} {d : SD} {s : Nat} (hc : OKC c) : ndN c l d s ≤ 1000 := by
  have := hvL_n c l d s 1000 c.W
  have hW := hc.2.1
  unfold ndN
  split <;> omega
theorem ndS_le {c : CD} {l : LD} {d : SD} {s : Nat} (hc : OKC c) : ndS c l d s ≤ 1000 := by
  have := ndN_le (l := l) (d := d) (s := s) hc
  unfold ndS
  split <;> omega
theorem h_need {c : CD} {l : LD} {d : SD} {s : Nat} {oh oc ow os : Ob} (hc : OKC c) (hl : OKL l) (hd : OKS c.S d) (h : CC c oc) (h2 : CL l ow) (h3 : CS c.S d os) (hs : s < c.S) : pX8_speakersNeeded oh oc ow os (nI s) = some (nI (ndS c l d s)) := by
  have h6 := hc.1
  have hW := hc.2.1
  have bd := hd.1
  have hsp := hd.2.1
  have hww := (hd.2.2.2.2.1 s hs).1
  have hnd := (hc.2.2.1 s hs).2.1
  have w6 := (h3.2.2.2.2.1 s hs).1
  have e3 := h_goesT (ow := ow) hc h h3 hd hs
  unfold pX8_speakersNeeded ndS
  by_cases z : d.how s = 0
  · have loop : ∀ (K : Int32 → Int32 → Option Int32) (g k f : Nat), k + g = c.W → g < f → lX8_speakersNeeded_58 oc ow os (nI s) (nI d.day) (nI (3 * c.need s)) K f (nI (hvL c l d s 1000 k).1) (nI (hvL c l d s 1000 k).2) (nI k) = K (nI (hvL c l d s 1000 c.W).1) (nI (hvL c l d s 1000 c.W).2) := by
      intro K g
      induction g with
      | zero =>
        intro k f hk hf
        have : k = c.W := by omega
        subst this
        obtain ⟨f, rfl⟩ : ∃ g, f = g + 1 := ⟨f - 1, by omega⟩
        rw [lX8_speakersNeeded_58, h.2.1, if_pos (nI_le (Nat.le_refl _) (by omega))]
      | succ g ih =>
        intro k f hk hf
        obtain ⟨f, rfl⟩ : ∃ g, f = g + 1 := ⟨f - 1, by omega⟩
        have kW : k < c.W := by omega
        have b2 := hvL_bd (d := d) (s := s) (L := 1000) hc hl k (by omega)
        have e5 := (h.2.2.2 k kW).1
        have b5 := (hc.2.2.2.1 k kW).1
        have hm := h_mayCall (t := d.day) hc hl hd h h2 h3 kW (by omega)
        have hf' := h_fresh (os := os) (t := d.day) hc hl h h2 kW (by omega)
        have bn := hvL_n c l d s 1000 k
        rw [lX8_speakersNeeded_58, h.2.1, if_neg (nI_ge kW (by omega)), if_neg (show ¬ (12 : Int32) ≤ nI k from nI_ge (b := 12) (by omega) (by omega))]
        by_cases y : 3 * c.need s ≤ (hvL c l d s 1000 k).1
        · rw [if_pos (nI_le y (by omega))]
          have st := hvL_stay y (g + 1)
          rw [hk] at st
          rw [st]
        · have ih' := ih (k + 1) f (by omega) (by omega)
          rw [hvL] at ih'
          rw [if_neg (nI_ge (by omega) (by omega)), u_gd (by omega), u_jn, nI_clamp (n := k) (by omega), e5]
          generalize hvL c l d s 1000 k = p at *
          by_cases w : c.suit k = s
          · rw [if_pos (by rw [w]), hm, u_bd]
            have ema : may c l d k d.day = mayM c l d k d.day := by
              unfold may
              rw [w, decide_eq_true z, Bool.and_true]
            rw [ema]
            cases v : mayM c l d k d.day with
            | false =>
              rw [if_pos (show nI (bN false) = (0 : Int32) by decide)]
              dsimp only
              rw [u_let, show nI k + (1 : Int32) = nI (k + 1) from nI_add _ _]
              have e1 : hvS c l d s 1000 k p = p := if_neg (fun r => by rw [v] at r; exact absurd r.2.2.2 (by decide))
              rw [e1] at ih'
              exact ih'
            | true =>
              rw [if_neg (show ¬ nI (bN true) = (0 : Int32) by decide), hf', u_bd, u_let, u_let]
              dsimp only
              rw [u_let, nI_add, show nI p.2 + (1 : Int32) = nI (p.2 + 1) from nI_add _ _, show nI k + (1 : Int32) = nI (k + 1) from nI_add _ _]
              have e1 : hvS c l d s 1000 k p = (p.1 + fresh c l k d.day, p.2 + 1) := if_pos ⟨w, by omega, by omega, v⟩
              rw [e1] at ih'
              exact ih'
          · rw [if_neg (fun r => w ((nI_eq (by omega) (by omega)).mp r))]
            dsimp only
            rw [u_let, show nI k + (1 : Int32) = nI (k + 1) from nI_add _ _]
            have e1 : hvS c l d s 1000 k p = p := if_neg (fun r => w r.1)
            rw [e1] at ih'
            exact ih'
    have bW := hvL_bd (d := d) (s := s) (L := 1000) hc hl c.W (Nat.le_refl _)
    have l0 := fun K => loop K c.W 0 zfu (by omega) (u_zfu (by omega))
    have l0' : ∀ K : Int32 → Int32 → Option Int32, lX8_speakersNeeded_58 oc ow os (nI s) (nI d.day) (nI (3 * c.need s)) K zfu (nI (d.whole s)) (0 : Int32) (0 : Int32) = K (nI (hvL c l d s 1000 c.W).1) (nI (hvL c l d s 1000 c.W).2) := l0
    rw [e3, decide_eq_true z, if_pos z]
    show Option.bind (some (nI 1)) _ = _
    rw [u_bd1, h3.1, u_let, h_goal hc h hs, u_bd, u_gd (by omega), nI_clamp (n := s) (by omega), w6, u_let, u_jn, l0', ndN]
    by_cases y : 3 * c.need s ≤ (hvL c l d s 1000 c.W).1
    · rw [if_neg (nI_nlt y (by omega)), if_pos y]
    · rw [if_pos (nI_lt (by omega) (by omega)), if_neg y]
      rfl
  · rw [e3, decide_eq_false z, if_neg z]
    show Option.bind (some (nI 0)) _ = _
    rw [u_bd0]
    rfl
theorem vs_bd {g : Nat → Nat} {U B : Nat} (h : ∀ i, g i ≤ B) : ∀ m, vs g U m ≤ m * B
  | 0 => Nat.zero_le _
  | m + 1 => by
    have := vs_bd (U := U) h m
    have := h m
    rw [vs, Nat.succ_mul]
    split <;> omega
theorem h_sof {oh oc ow os : Ob} {g : Nat → Nat} {U : Nat} (hU : U < 64) (hg : ∀ i, g i ≤ 1000) (h1 : ∀ i, U.testBit i = true → ga oh 1 i = nI (g i)) : pX8_speakersOf oh oc ow os (nI U) = some (nI (vs g U 6)) := by
  refine u_loop (fun f k => lX8_speakersOf_4 oh (nI U) f (nI (vs g U k)) (nI k)) 6 _ (fun f k hk => ?_) (fun f => ?_) zfu 0 (Nat.zero_le _) (u_zfu (by omega))
  · have b := vs_bd (U := U) hg k
    have h1' : U >>> k < 2147483648 := by rw [Nat.shiftRight_eq_div_pow]; exact Nat.lt_of_le_of_lt (Nat.div_le_self _ _) (by omega)
    show lX8_speakersOf_4 oh (nI U) (f + 1) (nI (vs g U k)) (nI k) = lX8_speakersOf_4 oh (nI U) f (nI (vs g U (k + 1))) (nI (k + 1))
    rw [lX8_speakersOf_4, if_neg (show ¬ (6 : Int32) ≤ nI k from nI_ge (b := 6) hk (by omega)), u_jn, show nI U >>> (nI k &&& 31) = nI (U >>> k) from u_shr (by omega) (by omega), show nI (U >>> k) &&& (1 : Int32) = nI (U >>> k % 2) from u_and1 h1', bt1, vs]
    cases z : U.testBit k with
    | false =>
      rw [if_neg (show ¬ nI (Bool.toNat false) = (1 : Int32) by decide)]
      dsimp only
      rw [u_let, show nI k + (1 : Int32) = nI (k + 1) from nI_add _ _, if_neg (show ¬ false = true by decide)]
      rfl
    | true =>
      rw [if_pos (show nI (Bool.toNat true) = (1 : Int32) by decide), u_gd (by omega), nI_clamp (n := k) (by omega), h1 k z, nI_add, u_let]
      dsimp only
      rw [u_let, show nI k + (1 : Int32) = nI (k + 1) from nI_add _ _, if_pos rfl]
  · show lX8_speakersOf_4 oh (nI U) (f + 1) _ (nI 6) = _
    rw [lX8_speakersOf_4, if_pos (show (6 : Int32) ≤ nI 6 by decide)]
/-- the class's choice: the first with the most -/
def mb (ok : Nat → Bool) : Nat → Nat
  | 0 => 0
  | q + 1 => if bsum (mb ok q) 12 < bsum q 12 ∧ ok q = true then q else mb ok q
theorem mb_lt (ok : Nat → Bool) : ∀ q, mb ok q = 0 ∨ (mb ok q < q ∧ ok (mb ok q) = true)
  | 0 => Or.inl rfl
  | q + 1 => by
    rw [mb]
    by_cases z : bsum (mb ok q) 12 < bsum q 12 ∧ ok q = true
    · rw [if_pos z]; exact Or.inr ⟨by omega, z.2⟩
    · rw [if_neg z]
      rcases mb_lt ok q with h | h
      · exact Or.inl h
      · exact Or.inr ⟨by omega, h.2⟩
theorem mb_opt (ok : Nat → Bool) : ∀ q F, F < q → ok F = true → mkO (mb ok q) F
  | 0, F, h, _ => absurd h (Nat.not_lt_zero F)
  | q + 1, F, h, hF => by
    have lt := mb_lt ok q
    rw [mb]
    by_cases z : bsum (mb ok q) 12 < bsum q 12 ∧ ok q = true
    · rw [if_pos z]
      unfold mkO
      by_cases y : F = q
      · subst y; omega
      · have := mb_opt ok q F (by omega) hF
        unfold mkO at this
        omega
    · rw [if_neg z]
      by_cases y : F = q
      · subst y
        have : ¬ bsum (mb ok F) 12 < bsum F 12 := fun r => z ⟨r, hF⟩
        unfold mkO
        omega
      · exact mb_opt ok q F (by omega) hF
theorem h_many36 {c : CD} {l : LD} {d : SD} {oc ow os : Ob} (hc : OKC c) (hl : OKL l) (hd : OKS c.S d) (h : CC c oc) (h2 : CL l ow) (h3 : CS c.S d os) (o0 : Ob) : ∃ o', (∀ K : Ob → Option (Int32 × Ob), lX8_winnableTogether_36 oc ow os (nI c.S) K zfu 0 o0 = K o') ∧ (∀ s, s < c.S → ga o' 1 s = nI (ndS c l d s)) := by
  have h6 := hc.1
  refine u_loopP (fun f q o => (fun K : Ob → Option (Int32 × Ob) => lX8_winnableTogether_36 oc ow os (nI c.S) K f (nI q) o)) (fun q o => ∀ s, s < q → ga o 1 s = nI (ndS c l d s)) (fun r => ∃ o', (∀ K : Ob → Option (Int32 × Ob), r K = K o') ∧ (∀ s, s < c.S → ga o' 1 s = nI (ndS c l d s))) c.S (fun f q o hq hP => ?_) (fun f o hP => ?_) zfu 0 o0 (Nat.zero_le _) (u_zfu (by omega)) (fun s hs => absurd hs (Nat.not_lt_zero s))
  · refine ⟨sa o 1 (upd (ga o 1) q (nI (ndS c l d q))), fun s hs => ?_, ?_⟩
    · rw [ga_sa, if_pos rfl, upd_ap]
      by_cases z : s = q
      · rw [if_pos z, z]
      · rw [if_neg z]; exact hP s (by omega)
    · funext K
      show lX8_winnableTogether_36 oc ow os (nI c.S) K (f + 1) (nI q) o = _
      rw [lX8_winnableTogether_36, if_neg (nI_ge hq (by omega)), h_need hc hl hd h h2 h3 hq, u_bd, u_gd (by omega), nI_clamp (n := q) (by omega), u_let, u_let, show nI q + (1 : Int32) = nI (q + 1) from nI_add _ _]
  · refine ⟨o, fun K => ?_, hP⟩
    show lX8_winnableTogether_36 oc ow os (nI c.S) K (f + 1) (nI c.S) o = _
    rw [lX8_winnableTogether_36, if_pos (nI_le (Nat.le_refl _) (by omega))]
theorem lt_bit {U n i : Nat} (h : U < 2 ^ n) (hi : U.testBit i = true) : i < n := by
  refine Classical.byContradiction (fun r => ?_)
  have : U.testBit i = false := Nat.testBit_lt_two_pow (Nat.lt_of_lt_of_le h (Nat.pow_le_pow_right (by omega) (by omega)))
  rw [this] at hi
  exact absurd hi (by decide)
def okF (c : CD) (l : LD) (d : SD) (U : Nat) : Bool := decide (vs (ndS c l d) U 6 ≤ roomOf l d d.day)
theorem h_many {c : CD} {l : LD} {d : SD} {oh oc ow os : Ob} (hc : OKC c) (hl : OKL l) (hd : OKS c.S d) (h : CC c oc) (h2 : CL l ow) (h3 : CS c.S d os) : ∃ o', pX8_winnableTogether oh oc ow os = some (nI (mb (okF c l d) (2 ^ c.S)), o') := by
  have h6 := hc.1
  have p2 := p2_le h6
  have bd := hd.1
  have tk := lval_talk hl d.day
  have r6 : roomOf l d d.day ≤ 6 := by unfold roomOf; omega
  obtain ⟨o1, a1, a2⟩ := h_many36 (l := l) hc hl hd h h2 h3 oh
  have a1' : ∀ K : Ob → Option (Int32 × Ob), lX8_winnableTogether_36 oc ow os (nI c.S) K zfu (0 : Int32) oh = K o1 := a1
  have mn : (if nI c.S < (6 : Int32) then nI c.S else (6 : Int32)) = nI c.S := by
    by_cases z : c.S < 6
    · rw [if_pos (show nI c.S < (6 : Int32) from nI_lt (b := 6) z (by omega))]
    · have : c.S = 6 := by omega
      rw [this, if_neg (show ¬ nI 6 < (6 : Int32) by decide)]
      rfl
  refine ⟨o1, ?_⟩
  unfold pX8_winnableTogether
  rw [h.1, mn, u_let, h3.1, h_room (c := c) (oc := oc) hl hd h2 h3 (by omega), u_bd, u_jn, a1']
  have lt : ∀ q, q ≤ 2 ^ c.S → mb (okF c l d) q < 64 := fun q hq => by
    rcases mb_lt (okF c l d) q with z | z
    · rw [z]; omega
    · omega
  refine u_loop (fun f q => lX8_winnableTogether_63 oc ow os (nI c.S) (nI (roomOf l d d.day)) f (nI (mb (okF c l d) q)) (nI q) o1) (2 ^ c.S) _ (fun f q hq => ?_) (fun f => ?_) zfu 0 (Nat.zero_le _) (u_zfu (by omega))
  · have ltq := lt q (by omega)
    have sf := h_sof (oh := o1) (oc := oc) (ow := ow) (os := os) (g := ndS c l d) (U := q) (by omega) (fun i => ndS_le hc) (fun i hi => a2 i (lt_bit hq hi))
    have b0 := vs_bd (U := q) (g := ndS c l d) (fun i => ndS_le hc) 6
    have b1 := bsum_le q 12
    have b2 := bsum_le (mb (okF c l d) q) 12
    show lX8_winnableTogether_63 oc ow os (nI c.S) (nI (roomOf l d d.day)) (f + 1) (nI (mb (okF c l d) q)) (nI q) o1 = lX8_winnableTogether_63 oc ow os (nI c.S) (nI (roomOf l d d.day)) f (nI (mb (okF c l d) (q + 1))) (nI (q + 1)) o1
    rw [lX8_winnableTogether_63, show (1 : Int32) <<< (nI c.S &&& 31) = nI (1 <<< c.S) from u_shl1 (by omega), Nat.one_shiftLeft, if_neg (nI_ge hq (by omega)), h_bits (by omega), u_bd, h_bits (by omega), u_bd, u_jn, mb]
    by_cases z : bsum (mb (okF c l d) q) 12 < bsum q 12
    · rw [if_neg (nI_ge z (by omega)), sf, u_bd]
      by_cases y : vs (ndS c l d) q 6 ≤ roomOf l d d.day
      · rw [if_neg (nI_nlt y (by omega)), if_pos ⟨z, decide_eq_true y⟩]
        dsimp only
        rw [u_let, show nI q + (1 : Int32) = nI (q + 1) from nI_add _ _]
      · rw [if_pos (nI_lt (by omega) (by omega)), if_neg (fun r => y (of_decide_eq_true r.2))]
        dsimp only
        rw [u_let, show nI q + (1 : Int32) = nI (q + 1) from nI_add _ _]
    · rw [if_pos (nI_le (by omega) (by omega)), if_neg (fun r => z r.1)]
      dsimp only
      rw [u_let, show nI q + (1 : Int32) = nI (q + 1) from nI_add _ _]
  · show lX8_winnableTogether_63 oc ow os (nI c.S) (nI (roomOf l d d.day)) (f + 1) _ (nI (2 ^ c.S)) o1 = _
    rw [lX8_winnableTogether_63, show (1 : Int32) <<< (nI c.S &&& 31) = nI (1 <<< c.S) from u_shl1 (by omega), Nat.one_shiftLeft, if_pos (nI_le (Nat.le_refl _) (by omega))]
