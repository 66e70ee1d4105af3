/-! many: both choose the same -/
theorem og_up (d : SD) {S : Nat} (hS : S ≤ 6) : o_up (cnt (gC d) 0 S) (own (gC d) 0 S) := ⟨fun i j h1 h2 => own_mono (gC d) 0 S i j h1 h2, fun i hi => by
  have := (own_at (gC d) 0 S i hi).1
  omega⟩
theorem gcnt_le (d : SD) : ∀ n, cnt (gC d) 0 n ≤ n
  | 0 => Nat.le_refl _
  | n + 1 => by
    have := gcnt_le d n
    rw [cnt]
    split <;> omega
theorem many_same {c : CD} {l : LD} {d : SD} (hc : OKC c) (hl : OKL l) {ys : List (List Nat)} (hv : ∀ y, y ∈ o_id (cnt (gC d) 0 c.S) :: ys → o_va (cnt (gC d) 0 c.S) y) (hB : ∀ B, B < 2 ^ cnt (gC d) 0 c.S → ∃ y, y ∈ o_id (cnt (gC d) 0 c.S) :: ys ∧ ∃ q, q ≤ cnt (gC d) 0 c.S ∧ o_pm y q = B) : o_best (eO c l d (own (gC d) 0 c.S) (cnt (gC d) 0 c.S)) (o_id (cnt (gC d) 0 c.S) :: ys) 0 = mb (okF c l d) (2 ^ c.S) + 1 := by
  have h6 := hc.1
  have p2 := p2_le h6
  have tk := lval_talk hl d.day
  have r6 : roomOf l d d.day ≤ 6 := by unfold roomOf; omega
  have up := og_up d h6
  have at' : ∀ i, i < cnt (gC d) 0 c.S → own (gC d) 0 c.S i < c.S ∧ d.how (own (gC d) 0 c.S i) = 0 := fun i hi => own_at (gC d) 0 c.S i hi
  have of' : ∀ s, s < c.S → d.how s = 0 → ∃ i, i < cnt (gC d) 0 c.S ∧ own (gC d) 0 c.S i = s := fun s hs hg => own_of (gC d) 0 c.S s hs hg
  have ok0 : okF c l d 0 = true := decide_eq_true (by rw [vs_0]; omega)
  generalize own (gC d) 0 c.S = gs at *
  generalize cnt (gC d) 0 c.S = n at *
  have inj : ∀ y, o_va n y → ∀ i j, i < j → j < n → (fun i => gs (o_gt y i)) i ≠ (fun i => gs (o_gt y i)) j := fun y hy i j h1 h2 h => by
    have e1 := hy.2.1 i (by omega)
    have e2 := hy.2.1 j h2
    have ne := hy.2.2 i j h1 h2
    have h' : gs (o_gt y i) = gs (o_gt y j) := h
    have a := (o_up_le up e1 e2).mp (by omega)
    have b := (o_up_le up e2 e1).mp (by omega)
    omega
  have l6 : ∀ y, o_va n y → ∀ i, i < n → (fun i => gs (o_gt y i)) i < 6 := fun y hy i hi => up.2 _ (hy.2.1 i hi)
  obtain ⟨b1, b2⟩ : mb (okF c l d) (2 ^ c.S) < 2 ^ c.S ∧ okF c l d (mb (okF c l d) (2 ^ c.S)) = true := by
    rcases mb_lt (okF c l d) (2 ^ c.S) with h | h
    · rw [h]; exact ⟨by omega, ok0⟩
    · exact h
  have opt := mb_opt (okF c l d) (2 ^ c.S)
  generalize mb (okF c l d) (2 ^ c.S) = B at *
  have b3 : vs (ndS c l d) B 6 ≤ roomOf l d d.day := of_decide_eq_true b2
  -- every order's set fits
  have fit : ∀ y, o_va n y → mkO B (eO c l d gs n y) := fun y hy => by
    obtain ⟨s1, s2⟩ := eS_sum (l := l) (d := d) (R := roomOf l d d.day) hc r6 (l6 y hy) (inj y hy) n (Nat.le_refl n)
    have bits : ∀ b, (eO c l d gs n y).testBit b = true → b < c.S ∧ d.how b = 0 := fun b hb => by
      obtain ⟨j, j1, j2⟩ := s2 b hb
      have := at' _ (hy.2.1 j j1)
      rw [← j2]
      exact this
    refine opt _ (Nat.lt_pow_two_of_testBit _ (fun i hi => not_b (fun r => by
      have := (bits i r).1
      omega))) (decide_eq_true ?_)
    rw [vs_congr (g := ndS c l d) (g' := ndN c l d) 6 (fun i _ hb => if_pos (bits i hb).2)]
    have : vs (ndN c l d) (eO c l d gs n y) 6 + (eS c l d (fun i => gs (o_gt y i)) (roomOf l d d.day) n).2 ≤ roomOf l d d.day := s1
    omega
  refine o_best_e _ 0 (Or.inl rfl) (fun y hy => fit y (hv y hy)) (Or.inr ?_)
  -- an order that has it first
  obtain ⟨y, y1, q, q1, q2⟩ := hB (am (fun i _ => B.testBit (gs i)) 0 n) (am_lt _ 0 n)
  have hy := hv y y1
  refine ⟨y, y1, ?_⟩
  have pm : pmo (fun i => gs (o_gt y i)) q = B := by
    apply Nat.eq_of_testBit_eq
    intro b
    have iff : (pmo (fun i => gs (o_gt y i)) q).testBit b = true ↔ B.testBit b = true := by
      rw [pmo_b]
      constructor
      · rintro ⟨j, j1, j2⟩
        have h1 := (o_pm_b y (o_gt y j) q).mpr ⟨j, j1, rfl⟩
        rw [q2, am_bit, Bool.and_eq_true] at h1
        have h2 : B.testBit (gs (o_gt y j)) = true := h1.2
        have j2' : gs (o_gt y j) = b := j2
        rw [j2'] at h2
        exact h2
      · intro hb
        have bS := lt_bit b1 hb
        have hg : d.how b = 0 := Classical.byContradiction (fun r => by
          have := vs_ge (g := ndS c l d) hb 6 (by omega)
          rw [show ndS c l d b = 1000 from if_neg r] at this
          omega)
        obtain ⟨i, i1, i2⟩ := of' b bS hg
        have h1 : (o_pm y q).testBit i = true := by
          rw [q2, am_bit, decide_eq_true i1, Bool.true_and]
          show B.testBit (gs i) = true
          rw [i2]; exact hb
        obtain ⟨j, j1, j2⟩ := (o_pm_b y i q).mp h1
        exact ⟨j, j1, by show gs (o_gt y j) = b; rw [j2, i2]⟩
    cases z : B.testBit b with
    | true => exact iff.mpr z
    | false => exact not_b (fun r => by rw [iff.mp r] at z; exact absurd z (by decide))
  have hgo : ∀ b, B.testBit b = true → d.how b = 0 := fun b hb => Classical.byContradiction (fun r => by
    have bS := lt_bit b1 hb
    have := vs_ge (g := ndS c l d) hb 6 (by omega)
    rw [show ndS c l d b = 1000 from if_neg r] at this
    omega)
  have sum : vs (ndN c l d) (pmo (fun i => gs (o_gt y i)) q) 6 ≤ roomOf l d d.day := by
    rw [pm, ← vs_congr (g := ndS c l d) (g' := ndN c l d) 6 (fun i _ hb => if_pos (hgo i hb))]
    exact b3
  have pre := (eS_pre (l := l) (d := d) hc r6 (l6 y hy) (inj y hy) q1 sum q (Nat.le_refl q)).2
  have sub : B &&& eO c l d gs n y = B := sub_of (fun b hb => by
    rw [← pm] at hb
    obtain ⟨j, j1, j2⟩ := (pmo_b _ b q).mp hb
    have h1 := eS_mono (pre j j1) (n - q)
    rw [show q + (n - q) = n by omega] at h1
    rw [← j2]
    exact h1)
  have el := eO_lt (c := c) (l := l) (d := d) up hy
  have sup := mk_sup ⟨B, by omega⟩ ⟨eO c l d gs n y, el⟩ sub
  have f := fit y hy
  unfold mkO at f
  have s1 : bsum B 12 ≤ bsum (eO c l d gs n y) 12 := sup.1
  exact (sup.2 (show bsum B 12 = bsum (eO c l d gs n y) 12 by omega)).symm
theorem ok_many {x : Cst} {m : Ob} (a1 : Int32) (h : RR x m) : ∃ (r : Int32 × Ob) (u : Int32 × Ob), pX10_many x.z x.d x.t x.c x.w x.s x.e x.f x.h x.b x.i x.j x.p x.q a1 = some r ∧ pX11_many m a1 = some u ∧ r.1 = u.1 ∧ RR (x.z, x.d, x.t, x.c, x.w, x.s, x.e, x.f, r.2, x.b, x.i, x.j, x.p, x.q) u.2 := by
  have h' := h
  obtain ⟨c, l, d, hR⟩ := h'
  have hR' := hR
  obtain ⟨⟨a, b, e⟩, ⟨f1, f2, f3⟩, ⟨g1, g2, g3⟩, _⟩ := hR'
  have h6 := a.1
  rcases arg_in a1 0 1 (by omega) (by omega) 0 1 (by decide) (by decide) with ⟨q, qi⟩ | ⟨k, j1, j2, rfl, qi⟩
  · refine ⟨(-(nI 1000000002), x.h), (-(nI 1000000002), m), ?_, ?_, rfl, h⟩
    · unfold pX10_many
      rcases q with q | q
      · rw [if_pos (show a1 < 0 from q)]
        rfl
      · by_cases z : a1 < 0
        · rw [if_pos z]
          rfl
        · rw [if_neg z, if_neg (fun r => by
            have r' : a1 ≤ nI 1 := r
            rw [u_leN (by omega)] at r'
            rw [u_Nlt (by omega)] at q
            omega)]
          rfl
    · unfold pX11_many
      rw [qi, u_bd0]; rfl
  · have c1 : ¬ nI k < (0 : Int32) := nI_nlt (b := 0) (Nat.zero_le _) (by omega)
    have c2 : nI k ≤ (1 : Int32) := nI_le (b := 1) (by omega) (by omega)
    have p2 := p2_le h6
    obtain ⟨o', r1⟩ := h_many (oh := x.h) a b e f1 f2 f3
    obtain ⟨m1, k1, k2, k3⟩ := m_many17 a e m g1 g3
    have nle := gcnt_le d c.S
    obtain ⟨ys, y1, y2, y3, y4⟩ := o_all (n := cnt (gC d) 0 c.S) (by omega)
    have idl : o_va (cnt (gC d) 0 c.S) (o_id (cnt (gC d) 0 c.S)) := y3 _ List.mem_cons_self
    have hOR : o_R (cnt (gC d) 0 c.S) (own (gC d) 0 c.S) (o_id (cnt (gC d) 0 c.S)) m1 := ⟨idl.1, fun i hi => by
      have : o_gt (o_id (cnt (gC d) 0 c.S)) i = i := o_idg ⟨cnt (gC d) 0 c.S, by omega⟩ ⟨i, by omega⟩ hi
      rw [this]; exact k2 i hi⟩
    obtain ⟨m2, n1, n2⟩ := m_many55 (l := l) a b e (by omega) (og_up d h6) (fun i hi => (own_at (gC d) 0 c.S i hi).1) ys _ 0 zfu m1 y2 y3 hOR (MC_frm g1 k3 (by decide)) (ML_frm g2 k3 (by decide) (by decide)) (MS_sub g3 k3 (by decide)) (by omega) (u_zfu (by omega))
    rw [many_same a b y3 y4, nO_s] at n1
    have k1' : ∀ K : Int32 → Ob → Option (Int32 × Ob), lX11_many_17 K zfu (0 : Int32) (0 : Int32) m = K (nI (cnt (gC d) 0 c.S)) m1 := k1
    have n1' : ∀ K : Int32 → Ob → Option (Int32 × Ob), lX11_many_55 K zfu (nI (cnt (gC d) 0 c.S)) (-1 : Int32) (1 : Int32) m1 = K (nI (mb (okF c l d) (2 ^ c.S))) m2 := n1
    have f2' := frm_tr k3 n2
    have S2 := MS_sub g3 f2' (by decide)
    have RRn : RR (x.z, x.d, x.t, x.c, x.w, x.s, x.e, x.f, o', x.b, x.i, x.j, x.p, x.q) m2 := ⟨c, l, d, RC_frm hR f2' (by decide) e S2 f3⟩
    have lt : mb (okF c l d) (2 ^ c.S) < 64 := by
      rcases mb_lt (okF c l d) (2 ^ c.S) with z | z
      · rw [z]; omega
      · omega
    by_cases k0 : k = 0
    · subst k0
      refine ⟨(nI (bsum (mb (okF c l d) (2 ^ c.S)) 12), o'), (nI (bsum (mb (okF c l d) (2 ^ c.S)) 12), m2), ?_, ?_, rfl, RRn⟩
      · unfold pX10_many
        rw [if_neg c1, if_pos c2, r1, u_bd, if_pos (show nI 0 = (0 : Int32) from rfl), h_bits (by omega), u_bd]
      · unfold pX11_many
        rw [qi, u_bd1, u_jn, k1', u_jn, n1', if_pos (show nI 0 = (0 : Int32) from rfl), m_bits (by omega), u_bd]
    · have k1 : k = 1 := by omega
      subst k1
      refine ⟨(nI (mb (okF c l d) (2 ^ c.S)), o'), (nI (mb (okF c l d) (2 ^ c.S)), m2), ?_, ?_, rfl, RRn⟩
      · unfold pX10_many
        rw [if_neg c1, if_pos c2, r1, u_bd, if_neg (show ¬ nI 1 = (0 : Int32) by decide)]
      · unfold pX11_many
        rw [qi, u_bd1, u_jn, k1', u_jn, n1', if_neg (show ¬ nI 1 = (0 : Int32) by decide)]
