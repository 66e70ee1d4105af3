/-! dusk of the reference -/
def hG (f : Nat → Int32) (s i : Nat) : Nat → Int32 := fun j => if 400 * s + (399 - i) < j ∧ j ≤ 400 * s + 399 then f (j - 1) else f j
theorem hG_step (f : Nat → Int32) (s : Nat) {i : Nat} (hi : i < 399) : upd (hG f s i) (400 * s + (399 - i)) (hG f s i (400 * s + (399 - i) - 1)) = hG f s (i + 1) := by
  funext j
  unfold hG
  rw [upd_ap]
  by_cases a : j = 400 * s + (399 - i)
  · rw [if_pos a, if_neg (by omega), if_pos (by omega), a]
  · rw [if_neg a]
    by_cases b : 400 * s + (399 - i) < j ∧ j ≤ 400 * s + 399
    · rw [if_pos b, if_pos (by omega)]
    · rw [if_neg b, if_neg (by omega)]
theorem hG_0 (f : Nat → Int32) (s : Nat) : hG f s 0 = f := by
  funext j
  unfold hG
  rw [if_neg (by omega)]
def hF (f : Nat → Int32) (s v : Nat) : Nat → Int32 := upd (hG f s 399) (400 * s) (nI (v % 2))
theorem m_halve {m : Ob} {s v : Nat} (hs : s < 6) (hv : v < 1000000) (e : ga m 17 s = nI v) : pX11_halve m (nI s) = some (sa (sa m 18 (hF (ga m 18) s v)) 17 (upd (ga m 17) s (nI (v / 2)))) := by
  have hz : ∀ o : Option Ob, znz (nI 2) o = o := fun _ => rfl
  have key : ∀ K : Ob → Option Ob, lX11_halve_4 (nI s) K zfu (nI 399) m = K (sa m 18 (hG (ga m 18) s 399)) := by
    intro K
    have e0 : m = sa m 18 (hG (ga m 18) s 0) := by rw [hG_0, sa_id]
    have := u_loop (fun f i => lX11_halve_4 (nI s) K f (nI (399 - i)) (sa m 18 (hG (ga m 18) s i))) 399 (K (sa m 18 (hG (ga m 18) s 399))) (fun f i hi => ?_) (fun f => ?_) zfu 0 (by omega) (u_zfu (by omega))
    · rw [← e0] at this
      exact this
    · have q : 399 - i - 1 = 399 - (i + 1) := by omega
      simp (disch := omega) only [lX11_halve_4, u_let, u_jn, u_bd, u_gz0, u_gz1, u_gd, u_lit, u_leT, u_leF, u_ltT, u_ltF, u_eqT, u_eqF, nI_clamp, nI_add, u_m1, pk_sub, pk_mul, if_true, if_false, ite_true, ite_false, reduceIte, Nat.reduceEqDiff, u_neM, u_bN, u_bNe, ga_sa, sa_sa, hG_step, q]
    · simp (disch := omega) only [lX11_halve_4, u_let, u_jn, u_bd, u_gz0, u_gz1, u_gd, u_lit, u_leT, u_leF, u_ltT, u_ltF, u_eqT, u_eqF, nI_clamp, nI_add, u_m1, pk_sub, pk_mul, if_true, if_false, ite_true, ite_false, reduceIte, Nat.reduceEqDiff, u_neM, u_bN, u_bNe, Nat.sub_self]
  unfold pX11_halve
  simp (disch := omega) only [u_let, u_jn, u_bd, u_gz0, u_gz1, u_gd, u_lit, u_leT, u_leF, u_ltT, u_ltF, u_eqT, u_eqF, nI_clamp, nI_add, u_m1, pk_sub, pk_mul, if_true, if_false, ite_true, ite_false, reduceIte, Nat.reduceEqDiff, u_neM, u_bN, u_bNe, key, ga_sa, e, hz, pk_div, sa_sa, show v - v / 2 * 2 = v % 2 by omega]
  rfl
theorem m_fall {c : CD} {d : SD} {m : Ob} (hc : OKC c) (hd : OKS c.S d) (h : MC c m) (h3 : MS c.S d m) {s : Nat} (hs : s < c.S) {τ : Type} (K : Ob → Option τ) : ∃ m', (if ga m 15 s = nI 0 then (if gi m 13 = ga m 2 s then K (sa (sa m 15 (upd (ga m 15) s (nI 2))) 16 (upd (ga m 16) s (gi m 13))) else K m) else K m) = K m' ∧ MS c.S (fallS c d s) m' ∧ frm [15, 16] m m' := by
  have h6 := hc.1
  have e3 := (h.2.2.1 s hs).2.1
  obtain ⟨_, e7, _⟩ := h3.2.2.2.2.1 s hs
  obtain ⟨_, b7, _⟩ := hd.2.2.2.2.1 s hs
  obtain ⟨_, _, _, b4, _⟩ := hc.2.2.1 s hs
  have bd := hd.1
  unfold fallS
  by_cases g : d.how s = 0
  · by_cases g2 : d.day = c.fall s
    · have f : frm [15, 16] m (sa (sa m 15 (upd (ga m 15) s (nI 2))) 16 (upd (ga m 16) s (gi m 13))) := frm_sa (frm_sa (frm_rf _ _) (by decide) _) (by decide) _
      refine ⟨_, by rw [if_pos (by rw [e7, g]), if_pos (by rw [h3.1, e3, g2])], ?_, f⟩
      rw [if_pos ⟨g, g2⟩]
      refine MS_how h3 f (fun j hj => ?_)
      obtain ⟨_, e7, e8⟩ := h3.2.2.2.2.1 j hj
      simp only [ga_sa, Nat.reduceEqDiff, if_true, if_false, upd_ap, e7, e8, h3.1]
      by_cases q : j = s
      · subst q
        rw [if_pos rfl, if_pos rfl, nup_s, nup_s, nO_s]; exact ⟨rfl, rfl⟩
      · rw [if_neg q, if_neg q, nup_n _ _ q, nup_n _ _ q]; exact ⟨rfl, rfl⟩
    · refine ⟨m, ?_, by rw [if_neg (fun q => g2 q.2)]; exact h3, frm_rf _ _⟩
      rw [if_pos (by rw [e7, g]), if_neg (by rw [h3.1, e3, nI_eq (by omega) (by omega)]; exact g2)]
  · refine ⟨m, ?_, by rw [if_neg (fun q => g q.1)]; exact h3, frm_rf _ _⟩
    rw [if_neg (by rw [e7, nI_eq (by omega) (by omega)]; exact g)]
theorem m_dark1 {c : CD} {d : SD} {m : Ob} (hc : OKC c) (hd : OKS c.S d) (h : MC c m) (h3 : MS c.S d m) (hday : d.day < 399) (K : Ob → Option Ob) : ∃ m', lX11_darken_2 K zfu (nI 0) m = K m' ∧ MS c.S (lk c d c.S) m' ∧ (∀ s, s < c.S → ga m' 19 (400 * s + d.day) = nI (d.whole s)) ∧ frm [15, 16, 19] m m' := by
  have h6 := hc.1
  have key := u_loopP (fun f n m' => lX11_darken_2 K f (nI n) m') (fun n m' => MS c.S (lk c d n) m' ∧ (∀ s, s < n → ga m' 19 (400 * s + d.day) = nI (d.whole s)) ∧ frm [15, 16, 19] m m') (fun r => ∃ m', r = K m' ∧ MS c.S (lk c d c.S) m' ∧ (∀ s, s < c.S → ga m' 19 (400 * s + d.day) = nI (d.whole s)) ∧ frm [15, 16, 19] m m') c.S (fun f n m' hn hP => ?_) (fun f m' hP => ?_)
  · exact key zfu 0 m (by omega) (u_zfu (by omega)) ⟨h3, fun s hs => by omega, frm_rf _ _⟩
  · obtain ⟨p1, p2, p3⟩ := hP
    have q := lk_same c d n
    have hok := OKS_lk (c := c) hd n
    have hMC := MC_frm h p3 (by decide)
    have ed : gi m' 13 = nI d.day := by rw [p1.1, q.1]
    have ew : ga m' 17 n = nI (d.whole n) := by rw [(p1.2.2.2.2.1 n hn).1, q.2.2.2.2.2.2.1]
    have f1 : frm [19] m' (sa m' 19 (upd (ga m' 19) (400 * n + d.day) (nI (d.whole n)))) := frm_sa (frm_rf _ _) (by decide) _
    have hS1 : MS c.S (lk c d n) (sa m' 19 (upd (ga m' 19) (400 * n + d.day) (nI (d.whole n)))) := by
      refine ⟨p1.1, p1.2.1, p1.2.2.1, p1.2.2.2.1, p1.2.2.2.2.1, fun s hs k hk => ?_, p1.2.2.2.2.2.2⟩
      have hk' : k < d.day := by rw [q.1] at hk; exact hk
      rw [ga_sa, if_pos rfl, upd_ap, if_neg (by omega)]
      exact p1.2.2.2.2.2.1 s hs k hk
    have hMC1 := MC_frm hMC f1 (by decide)
    obtain ⟨m2, r1, r2, r3⟩ := m_look hc hok hMC1 hS1 hn
    have hMC2 := MC_frm hMC1 r3 (by decide)
    obtain ⟨m3, t1, t2, t3⟩ := m_fall hc (OKS_look hok n) hMC2 r2 hn (fun o13 => lX11_darken_2 K f (nI (n + 1)) o13)
    refine ⟨m3, ⟨t2, fun s hs => ?_, ?_⟩, ?_⟩
    · rw [(t3 19 (by decide)).2.2.1, (r3 19 (by decide)).2.2.1, ga_sa, if_pos rfl, upd_ap]
      rcases Nat.lt_or_ge s n with a | a
      · rw [if_neg (by omega)]; exact p2 s a
      · have : s = n := by omega
        subst this
        rw [if_pos rfl]
    · exact frm_tr p3 (frm_tr (frm_mono f1 (by decide)) (frm_tr (frm_mono r3 (by decide)) (frm_mono t3 (by decide))))
    · have e0 : gi m' 0 = nI c.S := hMC.1
      simp (disch := omega) only [lX11_darken_2, u_let, u_jn, u_bd, u_gz0, u_gz1, u_gd, u_lit, u_leT, u_leF, u_ltT, u_ltF, u_eqT, u_eqF, nI_clamp, nI_add, u_m1, pk_sub, pk_mul, if_true, if_false, ite_true, ite_false, reduceIte, Nat.reduceEqDiff, u_neM, u_bN, u_bNe, e0, ed, ew, r1, ga_sa, gi_sa]
      exact t1
  · obtain ⟨p1, p2, p3⟩ := hP
    have e0 : gi m' 0 = nI c.S := (MC_frm h p3 (by decide)).1
    refine ⟨m', ?_, p1, p2, p3⟩
    simp (disch := omega) only [lX11_darken_2, u_let, u_jn, u_bd, u_gz0, u_gz1, u_gd, u_lit, u_leT, u_leF, u_ltT, u_ltF, u_eqT, u_eqF, nI_clamp, nI_add, u_m1, pk_sub, pk_mul, if_true, if_false, ite_true, ite_false, reduceIte, Nat.reduceEqDiff, u_neM, u_bN, u_bNe, e0]
theorem m_darken {c : CD} {d : SD} {m : Ob} (hc : OKC c) (hd : OKS c.S d) (h : MC c m) (h3 : MS c.S d m) (hday : d.day < 399) : ∃ m', pX11_darken m = some m' ∧ MS c.S (dayS c d) m' ∧ frm [13, 14, 15, 16, 17, 18, 19] m m' := by
  have h6 := hc.1
  obtain ⟨m1, r1, r2, r3, r4⟩ := m_dark1 hc hd h h3 hday (fun o1 => lX11_darken_83 (fun o2 => some (si (si o2 13 (gi o2 13 + nI 1)) 14 (nI 0))) zfu (nI 0) o1)
  have q := lk_same c d c.S
  have e0 : gi m1 0 = nI c.S := (MC_frm h r4 (by decide)).1
  have key := u_loopP (fun f n m' => lX11_darken_83 (fun o2 => some (si (si o2 13 (gi o2 13 + nI 1)) 14 (nI 0))) f (nI n) m') (fun n m' => (∀ s, s < c.S → ga m' 17 s = nI (if s < n then d.whole s / 2 else d.whole s)) ∧ (∀ s, s < c.S → ∀ k, k < 400 → ga m' 18 (400 * s + k) = nI (if s < n then (if k < d.day + 1 then (if d.day - k = d.day then d.whole s else d.dusk s (d.day - k)) % 2 else 0) else (if k < d.day then d.dusk s (d.day - 1 - k) % 2 else 0))) ∧ frm [17, 18] m1 m') (fun r => ∃ m', r = some m' ∧ MS c.S (dayS c d) m' ∧ frm [13, 14, 15, 16, 17, 18, 19] m m') c.S (fun f n m' hn hP => ?_) (fun f m' hP => ?_)
  · obtain ⟨m', a1, a2, a3⟩ := key zfu 0 m1 (by omega) (u_zfu (by omega)) ⟨fun s hs => by rw [if_neg (by omega), (r2.2.2.2.2.1 s hs).1, q.2.2.2.2.2.2.1], fun s hs k hk => by rw [if_neg (by omega), r2.2.2.2.2.2.2 s hs k hk, q.1, q.2.2.2.2.2.2.2], frm_rf _ _⟩
    refine ⟨m', ?_, a2, a3⟩
    unfold pX11_darken
    simp only [u_jn, u_let, u_lit]
    rw [r1]
    exact a1
  · obtain ⟨p1, p2, p3⟩ := hP
    have bs := hd.2.1
    have b1 := (hd.2.2.2.2.1 n hn).1
    have e17 := p1 n hn
    rw [if_neg (by omega)] at e17
    have hh := m_halve (m := m') (s := n) (v := d.whole n) (by omega) (by omega) e17
    refine ⟨sa (sa m' 18 (hF (ga m' 18) n (d.whole n))) 17 (upd (ga m' 17) n (nI (d.whole n / 2))), ⟨fun s hs => ?_, fun s hs k hk => ?_, ?_⟩, ?_⟩
    · rw [ga_sa, if_pos rfl, upd_ap]
      rcases Nat.lt_trichotomy s n with a | a | a
      · rw [if_neg (by omega), p1 s hs, if_pos a, if_pos (by omega)]
      · subst a; rw [if_pos rfl, if_pos (by omega)]
      · rw [if_neg (by omega), p1 s hs, if_neg (by omega), if_neg (by omega)]
    · rw [ga_sa, if_neg (by omega), ga_sa, if_pos rfl]
      unfold hF hG
      rw [upd_ap]
      rcases Nat.lt_trichotomy s n with a | a | a
      · rw [if_neg (by omega), if_neg (by omega), p2 s hs k hk, if_pos a, if_pos (show s < n + 1 by omega)]
      · subst a
        rw [if_pos (show s < s + 1 by omega)]
        rcases Nat.eq_zero_or_pos k with b | b
        · subst b
          rw [if_pos (show 400 * s + 0 = 400 * s by omega), if_pos (show 0 < d.day + 1 by omega), if_pos (show d.day - 0 = d.day by omega)]
        · rw [if_neg (show ¬ 400 * s + k = 400 * s by omega), if_pos (show 400 * s + (399 - 399) < 400 * s + k ∧ 400 * s + k ≤ 400 * s + 399 by omega), show 400 * s + k - 1 = 400 * s + (k - 1) by omega, p2 s hs (k - 1) (by omega), if_neg (show ¬ s < s by omega)]
          by_cases b2 : k < d.day + 1
          · rw [if_pos (show k - 1 < d.day by omega), if_pos b2, if_neg (show ¬ d.day - k = d.day by omega), show d.day - 1 - (k - 1) = d.day - k by omega]
          · rw [if_neg (show ¬ k - 1 < d.day by omega), if_neg b2]
      · rw [if_neg (by omega), if_neg (by omega), p2 s hs k hk, if_neg (show ¬ s < n by omega), if_neg (show ¬ s < n + 1 by omega)]
    · exact frm_sa (frm_sa p3 (by decide) _) (by decide) _
    · have e0' : gi m' 0 = nI c.S := by rw [(p3 0 (by decide)).1]; exact e0
      simp (disch := omega) only [lX11_darken_83, u_let, u_jn, u_bd, u_gz0, u_gz1, u_gd, u_lit, u_leT, u_leF, u_ltT, u_ltF, u_eqT, u_eqF, nI_clamp, nI_add, u_m1, pk_sub, pk_mul, if_true, if_false, ite_true, ite_false, reduceIte, Nat.reduceEqDiff, u_neM, u_bN, u_bNe, e0', hh]
  · obtain ⟨p1, p2, p3⟩ := hP
    have e0' : gi m' 0 = nI c.S := by rw [(p3 0 (by decide)).1]; exact e0
    refine ⟨si (si m' 13 (gi m' 13 + nI 1)) 14 (nI 0), ?_, ?_, ?_⟩
    · simp (disch := omega) only [lX11_darken_83, u_let, u_jn, u_bd, u_gz0, u_gz1, u_gd, u_lit, u_leT, u_leF, u_ltT, u_ltF, u_eqT, u_eqF, nI_clamp, nI_add, u_m1, pk_sub, pk_mul, if_true, if_false, ite_true, ite_false, reduceIte, Nat.reduceEqDiff, u_neM, u_bN, u_bNe, e0']
    · refine ⟨?_, rfl, ?_, fun v hv => ?_, fun j hj => ?_, fun j hj k hk => ?_, fun j hj k hk => ?_⟩
      · show gi (si (si m' 13 (gi m' 13 + nI 1)) 14 (nI 0)) 13 = nI (d.day + 1)
        rw [gi_si, if_neg (by omega), gi_si, if_pos rfl, (p3 13 (by decide)).1, r2.1, q.1, nI_add]
      · show gi (si (si m' 13 (gi m' 13 + nI 1)) 14 (nI 0)) 20 = nI d.seed
        rw [gi_si, if_neg (by omega), gi_si, if_neg (by omega), (p3 20 (by decide)).1, r2.2.2.1, q.2.2.1]
      · have := r2.2.2.2.1 v hv
        rw [q.2.2.2.1, q.2.2.2.2.1, q.2.2.2.2.2.1] at this
        show (0 < c.S → ga m' 10 v = nO (d.last v)) ∧ ga m' 11 v = _ ∧ ga m' 12 v = _
        rw [(p3 10 (by decide)).2.2.1, (p3 11 (by decide)).2.2.1, (p3 12 (by decide)).2.2.1]
        exact this
      · have := r2.2.2.2.2.1 j hj
        have p := p1 j hj
        rw [if_pos hj] at p
        show ga m' 17 j = nI (d.whole j / 2) ∧ ga m' 15 j = _ ∧ ga m' 16 j = _
        rw [(p3 15 (by decide)).2.2.1, (p3 16 (by decide)).2.2.1]
        exact ⟨p, this.2⟩
      · show ga m' 19 (400 * j + k) = nI (if k = d.day then d.whole j else d.dusk j k)
        rw [(p3 19 (by decide)).2.2.1]
        have hk' : k < d.day + 1 := hk
        by_cases a : k = d.day
        · rw [if_pos a, a]; exact r3 j hj
        · rw [if_neg a]
          have := r2.2.2.2.2.2.1 j hj k (by rw [q.1]; omega)
          rw [q.2.2.2.2.2.2.2] at this
          exact this
      · have p := p2 j hj k hk
        rw [if_pos hj] at p
        exact p
    · exact frm_si (frm_si (frm_tr (frm_mono r4 (by decide)) (frm_mono p3 (by decide))) (by decide) _) (by decide) _
