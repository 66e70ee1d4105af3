/-! many: who is called for a suit, so many at the most -/
def hvS (c : CD) (l : LD) (d : SD) (s L n : Nat) (p : Nat × Nat) : Nat × Nat := if c.suit n = s ∧ p.1 < 3 * c.need s ∧ p.2 < L ∧ mayM c l d n d.day = true then (p.1 + fresh c l n d.day, p.2 + 1) else p
def hvL (c : CD) (l : LD) (d : SD) (s L : Nat) : Nat → Nat × Nat
  | 0 => (d.whole s, 0)
  | n + 1 => hvS c l d s L n (hvL c l d s L n)
theorem hvL_le (c : CD) (l : LD) (d : SD) (s L : Nat) : ∀ n, (hvL c l d s L n).2 ≤ L
  | 0 => Nat.zero_le _
  | n + 1 => by
    have ih := hvL_le c l d s L n
    rw [hvL, hvS]
    split
    · next h => exact h.2.2.1
    · exact ih
theorem hvL_n (c : CD) (l : LD) (d : SD) (s L : Nat) : ∀ n, (hvL c l d s L n).2 ≤ n
  | 0 => Nat.le_refl _
  | n + 1 => by
    have ih := hvL_n c l d s L n
    rw [hvL, hvS]
    split
    · exact Nat.succ_le_succ ih
    · omega
theorem hvL_bd {c : CD} {l : LD} {d : SD} {s L : Nat} (hc : OKC c) (hl : OKL l) : ∀ n, n ≤ c.W → (hvL c l d s L n).1 ≤ d.whole s + 594 * n
  | 0, _ => Nat.le_refl _
  | n + 1, h => by
    have ih := hvL_bd (d := d) (s := s) (L := L) hc hl n (by omega)
    have bf := fresh_le hc hl (w := n) (by omega) d.day
    rw [hvL, hvS]
    split
    · show (hvL c l d s L n).1 + fresh c l n d.day ≤ _
      omega
    · omega
/-- with a bound: as without, or the bound is used up -/
theorem hvL_lim (c : CD) (l : LD) (d : SD) (s L : Nat) : ∀ n, n ≤ 12 → ((hvL c l d s 1000 n).2 ≤ L ∧ hvL c l d s L n = hvL c l d s 1000 n) ∨ (L < (hvL c l d s 1000 n).2 ∧ (hvL c l d s L n).2 = L ∧ (hvL c l d s L n).1 < 3 * c.need s)
  | 0, _ => Or.inl ⟨Nat.zero_le _, rfl⟩
  | n + 1, h => by
    have ih := hvL_lim c l d s L n (by omega)
    have b1 := hvL_n c l d s 1000 n
    rw [hvL, hvL]
    rcases ih with ⟨i1, i2⟩ | ⟨i1, i2, i3⟩
    · rw [i2]
      generalize hvL c l d s 1000 n = p at *
      by_cases z : c.suit n = s ∧ p.1 < 3 * c.need s ∧ mayM c l d n d.day = true
      · have e1 : hvS c l d s 1000 n p = (p.1 + fresh c l n d.day, p.2 + 1) := if_pos ⟨z.1, z.2.1, by omega, z.2.2⟩
        rw [e1]
        by_cases y : p.2 < L
        · have e2 : hvS c l d s L n p = (p.1 + fresh c l n d.day, p.2 + 1) := if_pos ⟨z.1, z.2.1, y, z.2.2⟩
          rw [e2]
          exact Or.inl ⟨y, rfl⟩
        · have e2 : hvS c l d s L n p = p := if_neg (fun r => y r.2.2.1)
          rw [e2]
          exact Or.inr ⟨by show L < p.2 + 1; omega, by omega, z.2.1⟩
      · have e1 : hvS c l d s 1000 n p = p := if_neg (fun r => z ⟨r.1, r.2.1, r.2.2.2⟩)
        have e2 : hvS c l d s L n p = p := if_neg (fun r => z ⟨r.1, r.2.1, r.2.2.2⟩)
        rw [e1, e2]
        exact Or.inl ⟨i1, rfl⟩
    · have e2 : hvS c l d s L n (hvL c l d s L n) = hvL c l d s L n := if_neg (fun r => by have := r.2.2.1; omega)
      rw [e2]
      refine Or.inr ⟨?_, i2, i3⟩
      rw [hvS]
      split
      · show L < (hvL c l d s 1000 n).2 + 1
        omega
      · exact i1
/-- how many a suit needs; 1000: all are too few -/
def ndN (c : CD) (l : LD) (d : SD) (s : Nat) : Nat := if 3 * c.need s ≤ (hvL c l d s 1000 c.W).1 then (hvL c l d s 1000 c.W).2 else 1000
theorem ndN_iff {c : CD} {l : LD} {d : SD} {s L : Nat} (hc : OKC c) (hL : L ≤ 6) : 3 * c.need s ≤ (hvL c l d s L c.W).1 ↔ ndN c l d s ≤ L := by
  have h := hvL_lim c l d s L c.W hc.2.1
  unfold ndN
  rcases h with ⟨h1, h2⟩ | ⟨h1, h2, h3⟩
  · rw [h2]
    by_cases z : 3 * c.need s ≤ (hvL c l d s 1000 c.W).1
    · rw [if_pos z]; exact ⟨fun _ => h1, fun _ => z⟩
    · rw [if_neg z]; exact ⟨fun r => absurd r z, fun r => by omega⟩
  · by_cases z : 3 * c.need s ≤ (hvL c l d s 1000 c.W).1
    · rw [if_pos z]; omega
    · rw [if_neg z]; omega
theorem ndN_cnt {c : CD} {l : LD} {d : SD} {s L : Nat} (hc : OKC c) (hL : L ≤ 6) (h : ndN c l d s ≤ L) : (hvL c l d s L c.W).2 = ndN c l d s := by
  have h0 := (ndN_iff hc hL).mpr h
  have hl := hvL_lim c l d s L c.W hc.2.1
  rcases hl with ⟨h1, h2⟩ | ⟨h1, h2, h3⟩
  · rw [h2] at h0
    rw [h2]
    unfold ndN
    rw [if_pos h0]
  · omega
/-! the reference: who is called for one suit of an order -/
theorem m_eb38 {c : CD} {l : LD} {d : SD} {s L : Nat} {o : Ob} (hc : OKC c) (hl : OKL l) (hd : OKS c.S d) (hs : s < c.S) (h1 : MC c o) (h2 : ML l o) (h3 : MS c.S d o) (hL : L ≤ 6) (X I : Int32) (K : Int32 → Int32 → Int32 → Int32 → Option Int32) : lX11_enoughBy_38 o (nI s) K zfu X (nI L) I (nI (d.whole s)) 0 = K X (nI (L - (hvL c l d s L c.W).2)) I (nI (hvL c l d s L c.W).1) := by
  have h6 := hc.1
  have hW := hc.2.1
  have bd := hd.1
  have hsp := hd.2.1
  have hww := (hd.2.2.2.2.1 s hs).1
  have hnd := (hc.2.2.1 s hs).2.1
  have w1 := (h1.2.2.1 s hs).1
  refine u_loop (fun f k => lX11_enoughBy_38 o (nI s) K f X (nI (L - (hvL c l d s L k).2)) I (nI (hvL c l d s L k).1) (nI k)) c.W _ (fun f k hk => ?_) (fun f => ?_) zfu 0 (Nat.zero_le _) (u_zfu (by omega))
  · have b1 := hvL_le c l d s L k
    have b2 := hvL_bd (d := d) (s := s) (L := L) hc hl k (by omega)
    have e5 := (h1.2.2.2 k hk).1
    have b5 := (hc.2.2.2.1 k hk).1
    have hm := m_may (t := d.day) hc hl hd h1 h2 h3 hk (by omega)
    have hf := m_fresh (t := d.day) hc hl h1 h2 hk (by omega)
    show lX11_enoughBy_38 o (nI s) K (f + 1) X (nI (L - (hvL c l d s L k).2)) I (nI (hvL c l d s L k).1) (nI k) = lX11_enoughBy_38 o (nI s) K f X (nI (L - (hvL c l d s L (k + 1)).2)) I (nI (hvL c l d s L (k + 1)).1) (nI (k + 1))
    rw [hvL]
    generalize hvL c l d s L k = p at *
    have pick : ∀ T0 T1 : Option Int32, (if nI (c.suit k) = nI s then (zgd (nI s) 6 <| if ((3 : Int32) * (nI (c.need s))) ≤ nI p.1 then T0 else (if nI (L - p.2) ≤ 0 then T0 else (Option.bind (some (nI (bN (mayM c l d k d.day)))) fun (r26 : Int32) => if r26 = 0 then T0 else T1))) else T0) = if c.suit k = s ∧ p.1 < 3 * c.need s ∧ p.2 < L ∧ mayM c l d k d.day = true then T1 else T0 := by
      intro T0 T1
      by_cases z1 : c.suit k = s
      · rw [if_pos (by rw [z1]), u_gd (by omega), show (3 : Int32) * nI (c.need s) = nI (3 * c.need s) from pk_mul 3 _]
        by_cases z2 : p.1 < 3 * c.need s
        · rw [if_neg (nI_ge z2 (by omega))]
          by_cases z3 : p.2 < L
          · rw [if_neg (show ¬ nI (L - p.2) ≤ (0 : Int32) from nI_ge (a := 0) (by omega) (by omega)), u_bd]
            cases z4 : mayM c l d k d.day with
            | false => rw [if_pos (show nI (bN false) = (0 : Int32) by decide), if_neg (fun r => absurd r.2.2.2 (by decide))]
            | true => rw [if_neg (show ¬ nI (bN true) = (0 : Int32) by decide), if_pos ⟨z1, z2, z3, rfl⟩]
          · rw [if_pos (show nI (L - p.2) ≤ (0 : Int32) from nI_le (b := 0) (by omega) (by omega)), if_neg (fun r => z3 r.2.2.1)]
        · rw [if_pos (nI_le (by omega) (by omega)), if_neg (fun r => z2 r.2.1)]
      · rw [if_neg (fun r => z1 ((nI_eq (by omega) (by omega)).mp r)), if_neg (fun r => z1 r.1)]
    rw [lX11_enoughBy_38, h1.2.1, if_neg (nI_ge hk (by omega)), u_gd (by omega), u_jn]
    dsimp only
    rw [u_jn, nI_clamp (n := k) (by omega), nI_clamp (n := s) (by omega), e5, w1, h3.1, hm, hf, pick, hvS]
    by_cases z : c.suit k = s ∧ p.1 < 3 * c.need s ∧ p.2 < L ∧ mayM c l d k d.day = true
    · rw [if_pos z, if_pos z, u_jn, if_neg (show ¬ (1 : Int32) = 0 by decide), u_bd]
      dsimp only
      rw [nI_add, u_let, u_jn, if_neg (show ¬ (1 : Int32) = 0 by decide)]
      dsimp only
      rw [show nI (L - p.2) - (1 : Int32) = nI (L - (p.2 + 1)) from (pk_sub (a := L - p.2) (b := 1) (by omega)).trans (by rw [Nat.sub_sub]), u_let, u_let, show nI k + (1 : Int32) = nI (k + 1) from nI_add _ _]
    · rw [if_neg z, if_neg z, u_jn, if_pos rfl]
      dsimp only
      rw [show nI p.1 + (0 : Int32) = nI p.1 from nI_add p.1 0, u_let, u_jn, if_pos rfl]
      dsimp only
      rw [show nI (L - p.2) - (0 : Int32) = nI (L - p.2) from pk_sub (a := L - p.2) (b := 0) (Nat.zero_le _), u_let, u_let, show nI k + (1 : Int32) = nI (k + 1) from nI_add _ _]
  · show lX11_enoughBy_38 o (nI s) K (f + 1) X _ I _ (nI c.W) = _
    rw [lX11_enoughBy_38, h1.2.1, if_pos (nI_le (Nat.le_refl _) (by omega))]
/-- the suits that have enough, and what is left, after so many of an order -/
def eS (c : CD) (l : LD) (d : SD) (od : Nat → Nat) (R : Nat) : Nat → Nat × Nat
  | 0 => (0, R)
  | i + 1 => ((if ndN c l d (od i) ≤ (eS c l d od R i).2 then (eS c l d od R i).1 ||| 1 <<< od i else (eS c l d od R i).1), (eS c l d od R i).2 - (hvL c l d (od i) (eS c l d od R i).2 c.W).2)
theorem eS_le (c : CD) (l : LD) (d : SD) (od : Nat → Nat) (R : Nat) : ∀ i, (eS c l d od R i).2 ≤ R
  | 0 => Nat.le_refl _
  | i + 1 => by
    have := eS_le c l d od R i
    show (eS c l d od R i).2 - _ ≤ R
    omega
theorem m_enoughBy {c : CD} {l : LD} {d : SD} {n : Nat} {od : Nat → Nat} {o : Ob} (hc : OKC c) (hl : OKL l) (hd : OKS c.S d) (hn : n ≤ 6) (h1 : MC c o) (h2 : ML l o) (h3 : MS c.S d o) (ho : ∀ i, i < n → ga o 46 i = nI (od i) ∧ od i < c.S) : pX11_enoughBy o (nI n) = some (nI (eS c l d od (roomOf l d d.day) n).1) := by
  have h6 := hc.1
  have hW := hc.2.1
  have hsp := hd.2.1
  have hr := m_room (k := 0) hl hd h2 h3 (by omega)
  have tk := lval_talk hl d.day
  have r6 : roomOf l d d.day ≤ 6 := by unfold roomOf; omega
  rw [Nat.add_zero] at hr
  unfold pX11_enoughBy
  rw [show pX11_room o (0 : Int32) = some (nI (roomOf l d d.day)) from hr, u_bd]
  generalize roomOf l d d.day = R at *
  refine u_loop (fun f i => lX11_enoughBy_11 o (nI n) f (nI (eS c l d od R i).1) (nI (eS c l d od R i).2) (nI i)) n _ (fun f i hi => ?_) (fun f => ?_) zfu 0 (Nat.zero_le _) (u_zfu (by omega))
  · obtain ⟨o1, o2⟩ := ho i hi
    have b1 := eS_le c l d od R i
    have w17 := (h3.2.2.2.2.1 _ o2).1
    have w1 := (h1.2.2.1 _ o2).1
    have hnd := (hc.2.2.1 _ o2).2.1
    have hww := (hd.2.2.2.2.1 _ o2).1
    have b2 := hvL_bd (d := d) (s := od i) (L := (eS c l d od R i).2) hc hl c.W (Nat.le_refl _)
    have iff := ndN_iff (l := l) (d := d) (s := od i) (L := (eS c l d od R i).2) hc (by omega)
    show lX11_enoughBy_11 o (nI n) (f + 1) (nI (eS c l d od R i).1) (nI (eS c l d od R i).2) (nI i) = lX11_enoughBy_11 o (nI n) f (nI (eS c l d od R (i + 1)).1) (nI (eS c l d od R (i + 1)).2) (nI (i + 1))
    rw [eS]
    dsimp only
    generalize eS c l d od R i = p at *
    rw [lX11_enoughBy_11, if_neg (nI_ge hi (by omega)), u_gd (by omega), nI_clamp (n := i) (by omega), o1, u_let, u_gd (by omega), nI_clamp (n := od i) (by omega), w17, u_let, u_jn, m_eb38 hc hl hd o2 h1 h2 h3 (by omega), u_gd (by omega), u_jn, w1, show (3 : Int32) * nI (c.need (od i)) = nI (3 * c.need (od i)) from pk_mul 3 _]
    by_cases z : ndN c l d (od i) ≤ p.2
    · rw [if_neg (nI_nlt (iff.mpr z) (by omega)), if_pos z, show (1 : Int32) <<< (nI (od i) &&& 31) = nI (1 <<< od i) from u_shl1 (by omega)]
      dsimp only
      rw [fa_or, u_let, u_let, show nI i + (1 : Int32) = nI (i + 1) from nI_add _ _]
    · rw [if_pos (nI_lt (show (hvL c l d (od i) p.2 c.W).1 < 3 * c.need (od i) by
        have := fun r => z (iff.mp r)
        omega) (by omega)), if_neg z]
      dsimp only
      rw [show nI p.1 ||| (0 : Int32) = nI (p.1 ||| 0) from fa_or _ 0, Nat.or_zero, u_let, u_let, show nI i + (1 : Int32) = nI (i + 1) from nI_add _ _]
  · show lX11_enoughBy_11 o (nI n) (f + 1) _ _ (nI n) = _
    rw [lX11_enoughBy_11, if_pos (nI_le (Nat.le_refl _) (by omega))]
