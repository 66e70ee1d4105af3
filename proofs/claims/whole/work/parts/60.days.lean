/-! strike, dusk, drift, begin, seed, evening -/
def strS (d : SD) (w v : Nat) : SD := sdm d.day d.spk d.seed d.last d.times (nup d.struck w v) d.whole d.how d.howd d.dusk
theorem ok_strike {x : Cst} {m : Ob} (a1 a2 : Int32) (h : RR x m) (h2 : a2 = 0 ∨ a2 = 1) : ∃ (r : Int32 × Ob) (u : Int32 × Ob), pX10_strike x.z x.d x.t x.c x.w x.s x.e x.f x.h x.b x.i x.j x.p x.q a1 a2 = some r ∧ pX11_strike m a1 a2 = some u ∧ r.1 = u.1 ∧ RR (x.z, x.d, x.t, x.c, x.w, r.2, x.e, x.f, x.h, x.b, x.i, x.j, x.p, x.q) u.2 := by
  have h' := h
  obtain ⟨c, l, d, hR⟩ := h'
  have hR' := hR
  obtain ⟨⟨a, b, e⟩, ⟨f1, f2, f3⟩, ⟨g1, g2, g3⟩, _⟩ := hR'
  have h6 := a.1
  have hW := a.2.1
  rcases u_ix a1 c.W (by omega) with q | ⟨w, hw, rfl⟩
  · refine ⟨(-(nI 1000000001), x.s), (-(nI 1000000001), m), ?_, ?_, rfl, h⟩
    · unfold pX10_strike; rw [h_witF a f1 q, u_bd0]; rfl
    · unfold pX11_strike; rw [m_witF a g1 q, u_bd0]; rfl
  · have e1 := h_witT a f1 hw
    have e2 := m_witT a g1 hw
    obtain ⟨r3, r4, r5⟩ := f3.2.2.2.1 w (by omega)
    obtain ⟨s3, s4, s5⟩ := g3.2.2.2.1 w (by omega)
    have b5 := (e.2.2.2.1 w (by omega)).2.2.2
    obtain ⟨v, hv, rfl⟩ : ∃ v, v ≤ 1 ∧ a2 = nI v := by
      rcases h2 with z | z
      · exact ⟨0, by omega, z⟩
      · exact ⟨1, by omega, z⟩
    have nar : vp_nar .boolean (nI v) = nI v := by
      rcases (show v = 0 ∨ v = 1 by omega) with rfl | rfl <;> rfl
    have one : pX10_oneIf (nI v) = some (nI v) := by
      rcases (show v = 0 ∨ v = 1 by omega) with rfl | rfl <;> rfl
    have fr : frm [12] m (sa m 12 (upd (ga m 12) w (nI v))) := frm_sa (frm_rf _ _) (by decide) _
    have ok : OKS c.S (strS d w v) := by
      refine ⟨e.1, e.2.1, e.2.2.1, fun k hk => ?_, e.2.2.2.2.1, e.2.2.2.2.2⟩
      obtain ⟨b1, b2, b3, b4⟩ := e.2.2.2.1 k hk
      refine ⟨b1, b2, b3, ?_⟩
      show nup d.struck w v k ≤ 1
      unfold nup; split <;> omega
    have hs : CS c.S (strS d w v) (sa x.s 5 (upd (ga x.s 5) w (nI v))) := by
      refine ⟨f3.1, f3.2.1, f3.2.2.1, fun k hk => ?_, f3.2.2.2.2.1, fun j hj k hk => ?_⟩
      · obtain ⟨b1, b2, b3⟩ := f3.2.2.2.1 k hk
        refine ⟨b1, b2, ?_⟩
        show upd (ga x.s 5) w (nI v) k = nI (nup d.struck w v k)
        rw [upd_ap]
        unfold nup
        split
        · rfl
        · exact b3
      · rw [ga_sa, if_neg (by omega)]
        exact f3.2.2.2.2.2 j hj k hk
    have ms : MS c.S (strS d w v) (sa m 12 (upd (ga m 12) w (nI v))) := by
      refine ⟨g3.1, g3.2.1, g3.2.2.1, fun k hk => ?_, g3.2.2.2.2.1, g3.2.2.2.2.2.1, g3.2.2.2.2.2.2⟩
      obtain ⟨b1, b2, b3⟩ := g3.2.2.2.1 k hk
      refine ⟨b1, b2, ?_⟩
      show upd (ga m 12) w (nI v) k = nI (nup d.struck w v k)
      rw [upd_ap]
      unfold nup
      split
      · rfl
      · exact b3
    refine ⟨(nI (d.struck w), sa x.s 5 (upd (ga x.s 5) w (nI v))), (nI (d.struck w), sa m 12 (upd (ga m 12) w (nI v))), ?_, ?_, rfl, c, l, strS d w v, RC_frm hR fr (by decide) ok ms hs⟩
    · unfold pX10_strike
      rw [e1, u_bd1]
      simp (disch := omega) only [u_let, u_jn, u_bd, u_gz0, u_gz1, u_gd, u_lit, u_leT, u_leF, u_ltT, u_ltF, u_eqT, u_eqF, nI_clamp, nI_add, u_m1, pk_sub, pk_mul, if_true, if_false, ite_true, ite_false, reduceIte, Nat.reduceEqDiff, u_neM, u_bN, u_bNe, r5, one]
    · unfold pX11_strike
      rw [e2, u_bd1]
      rcases (show d.struck w = 0 ∨ d.struck w = 1 by omega) with z | z
      · simp (disch := omega) only [u_let, u_jn, u_bd, u_gz0, u_gz1, u_gd, u_lit, u_leT, u_leF, u_ltT, u_ltF, u_eqT, u_eqF, nI_clamp, nI_add, u_m1, pk_sub, pk_mul, if_true, if_false, ite_true, ite_false, reduceIte, Nat.reduceEqDiff, u_neM, u_bN, u_bNe, s5, z, nar]
      · simp (disch := omega) only [u_let, u_jn, u_bd, u_gz0, u_gz1, u_gd, u_lit, u_leT, u_leF, u_ltT, u_ltF, u_eqT, u_eqF, nI_clamp, nI_add, u_m1, pk_sub, pk_mul, if_true, if_false, ite_true, ite_false, reduceIte, Nat.reduceEqDiff, u_neM, u_bN, u_bNe, s5, z, nar]
/-! dusk -/
def duskN (c : CD) : Nat → SD → SD
  | 0, d => d
  | n + 1, d => if d.day < 399 then duskN c n (dayS c d) else d
theorem h_duskN {c : CD} {oc ow : Ob} (hc : OKC c) (h : CC c oc) {N : Nat} (hN : N < 1000) : ∀ n f i (d : SD) (o : Ob), n < f → i + n = N → OKS c.S d → CS c.S d o → ∃ o', lX10_dusk_17 oc ow (nI N) f (nI i) o = some (nI (duskN c n d).day, o') ∧ CS c.S (duskN c n d) o' ∧ OKS c.S (duskN c n d) := by
  intro n
  induction n with
  | zero =>
    intro f i d o hf hi hd hs
    obtain ⟨f, rfl⟩ : ∃ g, f = g + 1 := ⟨f - 1, by omega⟩
    refine ⟨o, ?_, hs, hd⟩
    have := hs.1
    simp (disch := omega) only [lX10_dusk_17, u_let, u_jn, u_bd, u_gz0, u_gz1, u_gd, u_lit, u_leT, u_leF, u_ltT, u_ltF, u_eqT, u_eqF, nI_clamp, nI_add, u_m1, pk_sub, pk_mul, if_true, if_false, ite_true, ite_false, reduceIte, Nat.reduceEqDiff, u_neM, u_bN, u_bNe, this, duskN]
  | succ n ih =>
    intro f i d o hf hi hd hs
    obtain ⟨f, rfl⟩ : ∃ g, f = g + 1 := ⟨f - 1, by omega⟩
    have e0 := hs.1
    have bd := hd.1
    rw [duskN]
    by_cases g : d.day < 399
    · rw [if_pos g]
      obtain ⟨o1, r1, r2⟩ := h_endDay (ow := ow) hc hd h hs g
      obtain ⟨o2, t1, t2, t3⟩ := ih f (i + 1) (dayS c d) o1 (by omega) (by omega) (OKS_day hd g) r2
      refine ⟨o2, ?_, t2, t3⟩
      simp (disch := omega) only [lX10_dusk_17, u_let, u_jn, u_bd, u_gz0, u_gz1, u_gd, u_lit, u_leT, u_leF, u_ltT, u_ltF, u_eqT, u_eqF, nI_clamp, nI_add, u_m1, pk_sub, pk_mul, if_true, if_false, ite_true, ite_false, reduceIte, Nat.reduceEqDiff, u_neM, u_bN, u_bNe, e0, r1, t1]
    · rw [if_neg g]
      refine ⟨o, ?_, hs, hd⟩
      simp (disch := omega) only [lX10_dusk_17, u_let, u_jn, u_bd, u_gz0, u_gz1, u_gd, u_lit, u_leT, u_leF, u_ltT, u_ltF, u_eqT, u_eqF, nI_clamp, nI_add, u_m1, pk_sub, pk_mul, if_true, if_false, ite_true, ite_false, reduceIte, Nat.reduceEqDiff, u_neM, u_bN, u_bNe, e0]
theorem m_duskN {c : CD} {N : Nat} (hc : OKC c) (hN : N < 1000) : ∀ n f i (d : SD) (m : Ob), n < f → i + n = N → OKS c.S d → MC c m → MS c.S d m → ∃ m', lX11_dusk_17 (nI N) f (nI i) m = some (nI (duskN c n d).day, m') ∧ MS c.S (duskN c n d) m' ∧ frm [13, 14, 15, 16, 17, 18, 19] m m' := by
  intro n
  induction n with
  | zero =>
    intro f i d o hf hi hd hm hs
    obtain ⟨f, rfl⟩ : ∃ g, f = g + 1 := ⟨f - 1, by omega⟩
    refine ⟨o, ?_, hs, frm_rf _ _⟩
    have := hs.1
    simp (disch := omega) only [lX11_dusk_17, u_let, u_jn, u_bd, u_gz0, u_gz1, u_gd, u_lit, u_leT, u_leF, u_ltT, u_ltF, u_eqT, u_eqF, nI_clamp, nI_add, u_m1, pk_sub, pk_mul, if_true, if_false, ite_true, ite_false, reduceIte, Nat.reduceEqDiff, u_neM, u_bN, u_bNe, this, duskN]
  | succ n ih =>
    intro f i d o hf hi hd hm hs
    obtain ⟨f, rfl⟩ : ∃ g, f = g + 1 := ⟨f - 1, by omega⟩
    have e0 := hs.1
    have bd := hd.1
    rw [duskN]
    by_cases g : d.day < 399
    · rw [if_pos g]
      obtain ⟨o1, r1, r2, r3⟩ := m_darken hc hd hm hs g
      obtain ⟨o2, t1, t2, t3⟩ := ih f (i + 1) (dayS c d) o1 (by omega) (by omega) (OKS_day hd g) (MC_frm hm r3 (by decide)) r2
      refine ⟨o2, ?_, t2, frm_tr r3 t3⟩
      simp (disch := omega) only [lX11_dusk_17, u_let, u_jn, u_bd, u_gz0, u_gz1, u_gd, u_lit, u_leT, u_leF, u_ltT, u_ltF, u_eqT, u_eqF, nI_clamp, nI_add, u_m1, pk_sub, pk_mul, if_true, if_false, ite_true, ite_false, reduceIte, Nat.reduceEqDiff, u_neM, u_bN, u_bNe, e0, r1, t1]
    · rw [if_neg g]
      refine ⟨o, ?_, hs, frm_rf _ _⟩
      simp (disch := omega) only [lX11_dusk_17, u_let, u_jn, u_bd, u_gz0, u_gz1, u_gd, u_lit, u_leT, u_leF, u_ltT, u_ltF, u_eqT, u_eqF, nI_clamp, nI_add, u_m1, pk_sub, pk_mul, if_true, if_false, ite_true, ite_false, reduceIte, Nat.reduceEqDiff, u_neM, u_bN, u_bNe, e0]
/-- an argument between two numbers, or refused by both -/
theorem arg_in (x : Int32) (lo hi : Nat) (h : lo ≤ hi) (hh : hi < 1000000) (Lo Hi : Int64) (e1 : Lo.toInt = (lo : Int)) (e2 : Hi.toInt = (hi : Int)) : ((x < nI lo ∨ nI hi < x) ∧ pX11_in x.toInt64 Lo Hi = some (nI 0)) ∨ ∃ j, lo ≤ j ∧ j ≤ hi ∧ x = nI j ∧ pX11_in (nI j).toInt64 Lo Hi = some (nI 1) := by
  by_cases q : lo ≤ x.toInt ∧ x.toInt ≤ hi
  · right
    obtain ⟨j, hj1, hj2⟩ := nI_of (x := x) (by rw [Int32.lt_iff_toInt_lt]; have : (0 : Int32).toInt = 0 := by decide
                                               omega)
    have e3 : x.toInt = (j : Int) := by rw [hj2, nI_toInt hj1]
    exact ⟨j, by omega, by omega, hj2, by rw [← hj2]; exact u_inT (by rw [e1, e2]; exact q)⟩
  · left
    refine ⟨?_, u_inF (by rw [e1, e2]; exact q)⟩
    rw [u_ltN (by omega), u_Nlt (by omega)]
    omega
theorem ok_dusk {x : Cst} {m : Ob} (a1 : Int32) (h : RR x m) : ∃ (r : Int32 × Ob) (u : Int32 × Ob), pX10_dusk x.z x.d x.t x.c x.w x.s x.e x.f x.h x.b x.i x.j x.p x.q a1 = some r ∧ pX11_dusk m a1 = some u ∧ r.1 = u.1 ∧ RR (x.z, x.d, x.t, x.c, x.w, r.2, x.e, x.f, x.h, x.b, x.i, x.j, x.p, x.q) u.2 := by
  have h' := h
  obtain ⟨c, l, d, hR⟩ := h'
  have hR' := hR
  obtain ⟨⟨a, b, e⟩, ⟨f1, f2, f3⟩, ⟨g1, g2, g3⟩, _⟩ := hR'
  rcases arg_in a1 1 400 (by omega) (by omega) 1 400 (by decide) (by decide) with ⟨q, qi⟩ | ⟨j, j1, j2, rfl, qi⟩
  · refine ⟨(-(nI 1000000002), x.s), (-(nI 1000000002), m), ?_, ?_, rfl, h⟩
    · unfold pX10_dusk
      simp only [u_lit]
      rcases q with q | q
      · rw [if_pos q]
      · by_cases z : a1 < nI 1
        · rw [if_pos z]
        · rw [if_neg z, if_neg (by rw [u_leN (by omega)]; rw [u_Nlt (by omega)] at q; omega)]
    · unfold pX11_dusk
      rw [qi, u_bd0]; rfl
  · obtain ⟨o', r1, r2, r3⟩ := h_duskN (ow := x.w) (N := j) a f1 (by omega) j zfu 0 d x.s (u_zfu (by omega)) (by omega) e f3
    obtain ⟨m', t1, t2, t3⟩ := m_duskN (N := j) a (by omega) j zfu 0 d m (u_zfu (by omega)) (by omega) e g1 g3
    refine ⟨(nI (duskN c j d).day, o'), (nI (duskN c j d).day, m'), ?_, ?_, rfl, c, l, duskN c j d, RC_frm hR t3 (by decide) r3 t2 r2⟩
    · unfold pX10_dusk
      simp (disch := omega) only [u_let, u_jn, u_bd, u_gz0, u_gz1, u_gd, u_lit, u_leT, u_leF, u_ltT, u_ltF, u_eqT, u_eqF, nI_clamp, nI_add, u_m1, pk_sub, pk_mul, if_true, if_false, ite_true, ite_false, reduceIte, Nat.reduceEqDiff, u_neM, u_bN, u_bNe, r1]
    · unfold pX11_dusk
      rw [qi, u_bd1, u_lit]
      exact t1
/-! draws -/
def nx (s : Nat) : Nat := (s * 1103515245 + 12345) % 2147483648
theorem nx_lt (s : Nat) : nx s < 2147483648 := Nat.mod_lt _ (by omega)
theorem u_rem {a b : Nat} (ha : a < 2147483648) (hb : 0 < b ∧ b < 2147483648) : nI a - nI a / nI b * nI b = nI (a % b) := pk_rem (by omega) hb.1 (by omega)
theorem h_draw {os : Ob} {s : Nat} (hs : s < 2147483648) (e : gi os 2 = nI s) : pX6_draw os (nI 100) = some (nI (nx s / 65536 % 100), si os 2 (nI (nx s))) := by
  have hz : ∀ (k : Nat) (o : Option (Int32 × Ob)), 0 < k → k < 1000000 → znz (nI k) o = o := fun k o h1 h2 => if_neg (nI_ne0 h1 (by omega))
  have hm : lN (s * 1103515245 + 12345) &&& lN 2147483647 = lN (nx s) := wb_mask (n := s * 1103515245 + 12345) (k := 31) (by omega) (by omega)
  have hx := nx_lt s
  have hr := u_rem (a := nx s / 65536) (b := 100) (by omega) (by omega)
  unfold pX6_draw
  rw [e, nI_l (by omega)]
  simp only [u_litL, lN_mul, lN_add, hm, lN_i, u_let, u_lit, gi_si, if_true]
  rw [if_neg (show ¬ nI 100 ≤ nI 0 from nI_ge (by omega) (by omega)), hz 65536 _ (by omega) (by omega), hz 100 _ (by omega) (by omega), pk_div (by omega) (by omega) (by omega), hr]
theorem m_draw {m : Ob} {s : Nat} (hs : s < 2147483648) (e : gi m 20 = nI s) : pX11_draw m (nI 100) = some (nI (nx s / 65536 % 100), si m 20 (nI (nx s))) := by
  have hz : ∀ (k : Nat) (o : Option (Int32 × Ob)), 0 < k → k < 1000000 → znz (nI k) o = o := fun k o h1 h2 => if_neg (nI_ne0 h1 (by omega))
  have hL : ∀ (o : Option (Int32 × Ob)), znl (lN 2147483648) o = o := fun o => if_neg (by decide)
  have hm : lN (s * 1103515245 + 12345) - lN (s * 1103515245 + 12345) / lN 2147483648 * lN 2147483648 = lN (nx s) := pk_lRem (by omega) (by omega) (by omega)
  have hx := nx_lt s
  have hr := u_rem (a := nx s / 65536) (b := 100) (by omega) (by omega)
  unfold pX11_draw
  rw [e, nI_l (by omega)]
  rw [u_litL, u_litL, u_litL, lN_mul, lN_add, hm, lN_i]
  simp only [hL, u_let, u_lit, gi_si, if_true]
  rw [hz 65536 _ (by omega) (by omega), hz 100 _ (by omega) (by omega), pk_div (by omega) (by omega) (by omega), hr]
def seedS (d : SD) (v : Nat) : SD := sdm d.day d.spk v d.last d.times d.struck d.whole d.how d.howd d.dusk
theorem CS_seed {S : Nat} {d : SD} {o : Ob} (h : CS S d o) (v : Nat) : CS S (seedS d v) (si o 2 (nI v)) := ⟨h.1, h.2.1, rfl, h.2.2.2.1, h.2.2.2.2.1, h.2.2.2.2.2⟩
theorem MS_seed {S : Nat} {d : SD} {o : Ob} (h : MS S d o) (v : Nat) : MS S (seedS d v) (si o 20 (nI v)) := ⟨h.1, h.2.1, rfl, h.2.2.2.1, h.2.2.2.2.1, h.2.2.2.2.2.1, h.2.2.2.2.2.2⟩
theorem OKS_seed {S : Nat} {d : SD} (h : OKS S d) {v : Nat} (hv : v < 2147483648) : OKS S (seedS d v) := ⟨h.1, h.2.1, hv, h.2.2.2.1, h.2.2.2.2.1, h.2.2.2.2.2⟩
/-- one witness of a day by draws; v is the seed then -/
def drStep (c : CD) (l : LD) (q n v : Nat) (d : SD) (k : Nat) : SD × Nat := if v / 65536 % 100 < q ∧ (may c l (seedS d v) n d.day && decide (d.spk < talk l d.day)) = true then (hearS c l (seedS d v) n, k + 1) else (seedS d v, k)
theorem drStep_day (c : CD) (l : LD) (q n v : Nat) (d : SD) (k : Nat) : (drStep c l q n v d k).1.day = d.day ∧ (drStep c l q n v d k).2 ≤ k + 1 := by
  unfold drStep
  split
  · refine ⟨?_, Nat.le_refl _⟩
    show (lookS c (hear0 c l (seedS d v) n) (c.suit n)).day = d.day
    rw [(lookS_same c _ _).1]
    rfl
  · exact ⟨rfl, Nat.le_succ _⟩
theorem drStep_ok {c : CD} {l : LD} (hc : OKC c) (hl : OKL l) {q n v : Nat} {d : SD} (k : Nat) (hn : n < c.W) (hv : v < 2147483648) (hd : OKS c.S d) : OKS c.S (drStep c l q n v d k).1 := by
  have h2 := OKS_seed hd hv
  unfold drStep
  split
  · rename_i z
    have z1 := (Bool.and_eq_true _ _ ▸ z.2 : _ ∧ _)
    have z2 := of_decide_eq_true z1.2
    have z3 := (Bool.and_eq_true _ _ ▸ z1.1 : _ ∧ _).1
    have bt := lval_talk hl d.day
    exact OKS_look (OKS_hear0 hc hl h2 hn z3 (show d.spk < 6 by omega)) _
  · exact h2
theorem h_drStepV {c : CD} {l : LD} {oc ow : Ob} (hc : OKC c) (hl : OKL l) (h : CC c oc) (h2 : CL l ow) {q n : Nat} (hq : q ≤ 100) {d : SD} (k : Nat) (hn : n < c.W) (hd : OKS c.S d) {o : Ob} (hs : CS c.S d o) (K : Int32 → Ob → Option (Int32 × Ob)) (f : Nat) {v : Nat} (hv : v < 2147483648) (e1 : pX6_draw o (nI 100) = some (nI (v / 65536 % 100), si o 2 (nI v))) : ∃ o', lX9_passDayByDraws_4 oc ow (nI q) K (f + 1) (nI k) (nI n) o = lX9_passDayByDraws_4 oc ow (nI q) K f (nI (drStep c l q n v d k).2) (nI (n + 1)) o' ∧ CS c.S (drStep c l q n v d k).1 o' := by
  have hW := hc.2.1
  have hS := CS_seed hs v
  have hO := OKS_seed hd hv
  have em : pX9_maySpeak oc ow (si o 2 (nI v)) (nI n) = some (nI (bN (may c l (seedS d v) n d.day && decide (d.spk < talk l d.day)))) := h_maySpeak hc hl hO h h2 hS hn
  have b9 : v / 65536 % 100 < 100 := Nat.mod_lt _ (by omega)
  unfold drStep
  by_cases g : v / 65536 % 100 < q
  · cases z : (may c l (seedS d v) n d.day && decide (d.spk < talk l d.day)) with
    | false =>
      rw [if_neg (by intro r; exact absurd r.2 (by decide))]
      rw [z] at em
      refine ⟨si o 2 (nI v), ?_, hS⟩
      simp (disch := omega) only [lX9_passDayByDraws_4, u_let, u_jn, u_bd, u_gz0, u_gz1, u_gd, u_lit, u_leT, u_leF, u_ltT, u_ltF, u_eqT, u_eqF, nI_clamp, nI_add, u_m1, pk_sub, pk_mul, if_true, if_false, ite_true, ite_false, reduceIte, Nat.reduceEqDiff, u_neM, u_bN, u_bNe, h.2.1, e1, em, bN_f]
    | true =>
      rw [if_pos ⟨g, rfl⟩]
      rw [z] at em
      have z1 := (Bool.and_eq_true _ _ ▸ z : _ ∧ _)
      have z2 := of_decide_eq_true z1.2
      have z3 := (Bool.and_eq_true _ _ ▸ z1.1 : _ ∧ _).1
      have bt := lval_talk hl d.day
      obtain ⟨o2, r1, r2, r3⟩ := h_hear hc hl hO h h2 hS hn z3 (show d.spk < 6 by omega)
      refine ⟨o2, ?_, r2⟩
      simp (disch := omega) only [lX9_passDayByDraws_4, u_let, u_jn, u_bd, u_gz0, u_gz1, u_gd, u_lit, u_leT, u_leF, u_ltT, u_ltF, u_eqT, u_eqF, nI_clamp, nI_add, u_m1, pk_sub, pk_mul, if_true, if_false, ite_true, ite_false, reduceIte, Nat.reduceEqDiff, u_neM, u_bN, u_bNe, h.2.1, e1, em, bN_t, r1]
  · rw [if_neg (fun r => g r.1)]
    refine ⟨si o 2 (nI v), ?_, hS⟩
    simp (disch := omega) only [lX9_passDayByDraws_4, u_let, u_jn, u_bd, u_gz0, u_gz1, u_gd, u_lit, u_leT, u_leF, u_ltT, u_ltF, u_eqT, u_eqF, nI_clamp, nI_add, u_m1, pk_sub, pk_mul, if_true, if_false, ite_true, ite_false, reduceIte, Nat.reduceEqDiff, u_neM, u_bN, u_bNe, h.2.1, e1]
theorem h_drStep {c : CD} {l : LD} {oc ow : Ob} (hc : OKC c) (hl : OKL l) (h : CC c oc) (h2 : CL l ow) {q n : Nat} (hq : q ≤ 100) {d : SD} (k : Nat) (hn : n < c.W) (hd : OKS c.S d) {o : Ob} (hs : CS c.S d o) (K : Int32 → Ob → Option (Int32 × Ob)) (f : Nat) : ∃ o', lX9_passDayByDraws_4 oc ow (nI q) K (f + 1) (nI k) (nI n) o = lX9_passDayByDraws_4 oc ow (nI q) K f (nI (drStep c l q n (nx d.seed) d k).2) (nI (n + 1)) o' ∧ CS c.S (drStep c l q n (nx d.seed) d k).1 o' :=
  h_drStepV hc hl h h2 hq k hn hd hs K f (nx_lt d.seed) (h_draw hd.2.2.1 hs.2.2.1)
theorem m_drStepV {c : CD} {l : LD} (hc : OKC c) (hl : OKL l) {q n : Nat} (hq : q ≤ 100) {d : SD} (k : Nat) (x : Int32) (hn : n < c.W) (hd : OKS c.S d) {m : Ob} (g1 : MC c m) (g2 : ML l m) (hs : MS c.S d m) (K : Int32 → Int32 → Ob → Option (Int32 × Ob)) (f : Nat) {v : Nat} (hv : v < 2147483648) (e1 : pX11_draw m (nI 100) = some (nI (v / 65536 % 100), si m 20 (nI v))) : ∃ m', lX11_drift_51 (nI q) K (f + 1) (nI k) x (nI n) m = lX11_drift_51 (nI q) K f (nI (drStep c l q n v d k).2) x (nI (n + 1)) m' ∧ MS c.S (drStep c l q n v d k).1 m' ∧ frm [10, 11, 14, 15, 16, 17, 20] m m' := by
  have hW := hc.2.1
  have hS := MS_seed hs v
  have hO := OKS_seed hd hv
  have f0 : frm [10, 11, 14, 15, 16, 17, 20] m (si m 20 (nI v)) := frm_si (frm_rf _ _) (by decide) _
  have g1' := MC_frm g1 f0 (by decide)
  have g2' := ML_frm g2 f0 (by decide) (by decide)
  have em : pX11_mayNow (si m 20 (nI v)) (nI n) = some (nI (bN (may c l (seedS d v) n d.day && decide (d.spk < talk l d.day)))) := m_mayNow hc hl hO g1' g2' hS hn
  have b9 : v / 65536 % 100 < 100 := Nat.mod_lt _ (by omega)
  unfold drStep
  by_cases g : v / 65536 % 100 < q
  · cases z : (may c l (seedS d v) n d.day && decide (d.spk < talk l d.day)) with
    | false =>
      rw [if_neg (by intro r; exact absurd r.2 (by decide))]
      rw [z] at em
      refine ⟨si m 20 (nI v), ?_, hS, f0⟩
      simp (disch := omega) only [lX11_drift_51, u_let, u_jn, u_bd, u_gz0, u_gz1, u_gd, u_lit, u_leT, u_leF, u_ltT, u_ltF, u_eqT, u_eqF, nI_clamp, nI_add, u_m1, pk_sub, pk_mul, if_true, if_false, ite_true, ite_false, reduceIte, Nat.reduceEqDiff, u_neM, u_bN, u_bNe, g1.2.1, e1, em, bN_f]
    | true =>
      rw [if_pos ⟨g, rfl⟩]
      rw [z] at em
      have z1 := (Bool.and_eq_true _ _ ▸ z : _ ∧ _)
      have z2 := of_decide_eq_true z1.2
      have z3 := (Bool.and_eq_true _ _ ▸ z1.1 : _ ∧ _).1
      have bt := lval_talk hl d.day
      obtain ⟨m2, r1, r2, r3⟩ := m_hear hc hl hO g1' g2' hS hn z3 (show d.spk < 6 by omega)
      refine ⟨m2, ?_, r2, frm_tr f0 (frm_mono r3 (by decide))⟩
      simp (disch := omega) only [lX11_drift_51, u_let, u_jn, u_bd, u_gz0, u_gz1, u_gd, u_lit, u_leT, u_leF, u_ltT, u_ltF, u_eqT, u_eqF, nI_clamp, nI_add, u_m1, pk_sub, pk_mul, if_true, if_false, ite_true, ite_false, reduceIte, Nat.reduceEqDiff, u_neM, u_bN, u_bNe, g1.2.1, e1, em, bN_t, r1]
  · rw [if_neg (fun r => g r.1)]
    refine ⟨si m 20 (nI v), ?_, hS, f0⟩
    simp (disch := omega) only [lX11_drift_51, u_let, u_jn, u_bd, u_gz0, u_gz1, u_gd, u_lit, u_leT, u_leF, u_ltT, u_ltF, u_eqT, u_eqF, nI_clamp, nI_add, u_m1, pk_sub, pk_mul, if_true, if_false, ite_true, ite_false, reduceIte, Nat.reduceEqDiff, u_neM, u_bN, u_bNe, g1.2.1, e1]
theorem m_drStep {c : CD} {l : LD} (hc : OKC c) (hl : OKL l) {q n : Nat} (hq : q ≤ 100) {d : SD} (k : Nat) (x : Int32) (hn : n < c.W) (hd : OKS c.S d) {m : Ob} (g1 : MC c m) (g2 : ML l m) (hs : MS c.S d m) (K : Int32 → Int32 → Ob → Option (Int32 × Ob)) (f : Nat) : ∃ m', lX11_drift_51 (nI q) K (f + 1) (nI k) x (nI n) m = lX11_drift_51 (nI q) K f (nI (drStep c l q n (nx d.seed) d k).2) x (nI (n + 1)) m' ∧ MS c.S (drStep c l q n (nx d.seed) d k).1 m' ∧ frm [10, 11, 14, 15, 16, 17, 20] m m' :=
  m_drStepV hc hl hq k x hn hd g1 g2 hs K f (nx_lt d.seed) (m_draw hd.2.2.1 hs.2.2.1)
/-- a day by draws, ahead of witness n, so many spoke before -/
def drW (c : CD) (l : LD) (q : Nat) (d : SD) (k : Nat) : Nat → SD × Nat
  | 0 => (d, k)
  | n + 1 => drStep c l q n (nx (drW c l q d k n).1.seed) (drW c l q d k n).1 (drW c l q d k n).2
theorem drW_day (c : CD) (l : LD) (q : Nat) (d : SD) (k : Nat) : ∀ n, (drW c l q d k n).1.day = d.day ∧ (drW c l q d k n).2 ≤ k + n
  | 0 => ⟨rfl, Nat.le_refl _⟩
  | n + 1 => by
    obtain ⟨a, b⟩ := drW_day c l q d k n
    obtain ⟨a', b'⟩ := drStep_day c l q n (nx (drW c l q d k n).1.seed) (drW c l q d k n).1 (drW c l q d k n).2
    rw [drW]
    exact ⟨a'.trans a, by omega⟩
theorem drW_ok {c : CD} {l : LD} (hc : OKC c) (hl : OKL l) {q : Nat} {d : SD} (k : Nat) (hd : OKS c.S d) : ∀ n, n ≤ c.W → OKS c.S (drW c l q d k n).1
  | 0, _ => hd
  | n + 1, hn => by
    rw [drW]
    exact drStep_ok hc hl _ (by omega) (nx_lt _) (drW_ok hc hl k hd n (by omega))
/-- how many spoke does not touch the rest -/
theorem drStep_k (c : CD) (l : LD) (q n v : Nat) (d : SD) (j k : Nat) : drStep c l q n v d (j + k) = ((drStep c l q n v d k).1, j + (drStep c l q n v d k).2) := by
  unfold drStep
  split
  · rw [Nat.add_assoc]
  · rfl
theorem drW_k (c : CD) (l : LD) (q : Nat) (d : SD) (k : Nat) : ∀ n, drW c l q d k n = ((drW c l q d 0 n).1, k + (drW c l q d 0 n).2)
  | 0 => rfl
  | n + 1 => by
    rw [drW, drW_k c l q d k n, drW]
    exact drStep_k _ _ _ _ _ _ _ _
theorem h_drW {c : CD} {l : LD} {oc ow : Ob} (hc : OKC c) (hl : OKL l) (h : CC c oc) (h2 : CL l ow) {q : Nat} (hq : q ≤ 100) {d : SD} (hd : OKS c.S d) {os : Ob} (hs : CS c.S d os) (K : Int32 → Ob → Option (Int32 × Ob)) : ∃ o', lX9_passDayByDraws_4 oc ow (nI q) K zfu (nI 0) (nI 0) os = K (nI (drW c l q d 0 c.W).2) o' ∧ CS c.S (drW c l q d 0 c.W).1 o' := by
  have hW := hc.2.1
  refine u_loopP (fun f n (s : Int32 × Ob) => lX9_passDayByDraws_4 oc ow (nI q) K f s.1 (nI n) s.2) (fun n s => s.1 = nI (drW c l q d 0 n).2 ∧ CS c.S (drW c l q d 0 n).1 s.2) (fun r => ∃ o', r = K (nI (drW c l q d 0 c.W).2) o' ∧ CS c.S (drW c l q d 0 c.W).1 o') c.W ?_ ?_ zfu 0 (nI 0, os) (by omega) (u_zfu (by omega)) ⟨rfl, hs⟩
  · intro f n s hn hP
    obtain ⟨x, o⟩ := s
    obtain ⟨p1, p2⟩ := hP
    have hok := drW_ok hc hl (q := q) 0 hd n (by omega)
    obtain ⟨o2, r1, r2⟩ := h_drStep hc hl h h2 (q := q) hq (drW c l q d 0 n).2 hn hok p2 K f
    refine ⟨(nI (drW c l q d 0 (n + 1)).2, o2), ⟨rfl, ?_⟩, ?_⟩
    · rw [drW]; exact r2
    · rw [show x = nI (drW c l q d 0 n).2 from p1, drW]
      exact r1
  · intro f s hP
    obtain ⟨x, o⟩ := s
    obtain ⟨p1, p2⟩ := hP
    refine ⟨o, ?_, p2⟩
    rw [show x = nI (drW c l q d 0 c.W).2 from p1]
    simp (disch := omega) only [lX9_passDayByDraws_4, u_let, u_jn, u_bd, u_gz0, u_gz1, u_gd, u_lit, u_leT, u_leF, u_ltT, u_ltF, u_eqT, u_eqF, nI_clamp, nI_add, u_m1, pk_sub, pk_mul, if_true, if_false, ite_true, ite_false, reduceIte, Nat.reduceEqDiff, u_neM, u_bN, u_bNe, h.2.1]
theorem m_drW {c : CD} {l : LD} (hc : OKC c) (hl : OKL l) {q : Nat} (hq : q ≤ 100) {d : SD} (k : Nat) (x : Int32) (hd : OKS c.S d) {m : Ob} (g1 : MC c m) (g2 : ML l m) (hs : MS c.S d m) (K : Int32 → Int32 → Ob → Option (Int32 × Ob)) : ∃ m', lX11_drift_51 (nI q) K zfu (nI k) x (nI 0) m = K (nI (drW c l q d k c.W).2) x m' ∧ MS c.S (drW c l q d k c.W).1 m' ∧ frm [10, 11, 14, 15, 16, 17, 20] m m' := by
  have hW := hc.2.1
  refine u_loopP (fun f n (s : Int32 × Ob) => lX11_drift_51 (nI q) K f s.1 x (nI n) s.2) (fun n s => s.1 = nI (drW c l q d k n).2 ∧ MS c.S (drW c l q d k n).1 s.2 ∧ frm [10, 11, 14, 15, 16, 17, 20] m s.2) (fun r => ∃ m', r = K (nI (drW c l q d k c.W).2) x m' ∧ MS c.S (drW c l q d k c.W).1 m' ∧ frm [10, 11, 14, 15, 16, 17, 20] m m') c.W ?_ ?_ zfu 0 (nI k, m) (by omega) (u_zfu (by omega)) ⟨rfl, hs, frm_rf _ _⟩
  · intro f n s hn hP
    obtain ⟨y, o⟩ := s
    obtain ⟨p1, p2, p3⟩ := hP
    have hok := drW_ok hc hl (q := q) k hd n (by omega)
    obtain ⟨o2, r1, r2, r3⟩ := m_drStep hc hl (q := q) hq (drW c l q d k n).2 x hn hok (MC_frm g1 p3 (by decide)) (ML_frm g2 p3 (by decide) (by decide)) p2 K f
    refine ⟨(nI (drW c l q d k (n + 1)).2, o2), ⟨rfl, ?_, frm_tr p3 r3⟩, ?_⟩
    · rw [drW]; exact r2
    · rw [show y = nI (drW c l q d k n).2 from p1, drW]
      exact r1
  · intro f s hP
    obtain ⟨y, o⟩ := s
    obtain ⟨p1, p2, p3⟩ := hP
    refine ⟨o, ?_, p2, p3⟩
    have e0 := (MC_frm g1 p3 (by decide)).2.1
    rw [show y = nI (drW c l q d k c.W).2 from p1]
    simp (disch := omega) only [lX11_drift_51, u_let, u_jn, u_bd, u_gz0, u_gz1, u_gd, u_lit, u_leT, u_leF, u_ltT, u_ltF, u_eqT, u_eqF, nI_clamp, nI_add, u_m1, pk_sub, pk_mul, if_true, if_false, ite_true, ite_false, reduceIte, Nat.reduceEqDiff, u_neM, u_bN, u_bNe, e0]
/-- days by draws -/
def drN (c : CD) (l : LD) (q : Nat) : Nat → SD → Nat → SD × Nat
  | 0, d, k => (d, k)
  | n + 1, d, k => if d.day < 399 then drN c l q n (dayS c (drW c l q d k c.W).1) (drW c l q d k c.W).2 else (d, k)
theorem h_drN {c : CD} {l : LD} {oc ow : Ob} (hc : OKC c) (hl : OKL l) (h : CC c oc) (h2 : CL l ow) {q N : Nat} (hq : q ≤ 100) (hN : N < 1000) : ∀ n f i (d : SD) (k : Nat) (o : Ob), n < f → i + n = N → OKS c.S d → CS c.S d o → ∃ o', lX10_drift_29 oc ow (nI N) (nI q) f (nI k) (nI i) o = some (nI (drN c l q n d k).2, o') ∧ CS c.S (drN c l q n d k).1 o' ∧ OKS c.S (drN c l q n d k).1 := by
  intro n
  induction n with
  | zero =>
    intro f i d k o hf hi hd hs
    obtain ⟨f, rfl⟩ : ∃ g, f = g + 1 := ⟨f - 1, by omega⟩
    refine ⟨o, ?_, hs, hd⟩
    simp (disch := omega) only [lX10_drift_29, u_let, u_jn, u_bd, u_gz0, u_gz1, u_gd, u_lit, u_leT, u_leF, u_ltT, u_ltF, u_eqT, u_eqF, nI_clamp, nI_add, u_m1, pk_sub, pk_mul, if_true, if_false, ite_true, ite_false, reduceIte, Nat.reduceEqDiff, u_neM, u_bN, u_bNe, drN]
  | succ n ih =>
    intro f i d k o hf hi hd hs
    obtain ⟨f, rfl⟩ : ∃ g, f = g + 1 := ⟨f - 1, by omega⟩
    have e0 := hs.1
    have bd := hd.1
    rw [drN]
    by_cases g : d.day < 399
    · rw [if_pos g]
      obtain ⟨o1, r1, r2⟩ := h_drW hc hl h h2 hq hd hs (fun x1 o2 => Option.bind (pX9_endDay oc ow o2) fun (r3 : Ob) => some (x1, r3))
      have hdy : (drW c l q d 0 c.W).1.day < 399 := by rw [(drW_day c l q d 0 c.W).1]; exact g
      obtain ⟨o2, s1, s2⟩ := h_endDay (ow := ow) hc (drW_ok hc hl (q := q) 0 hd c.W (Nat.le_refl _)) h r2 hdy
      have ek := drW_k c l q d k c.W
      rw [s1, u_bd] at r1
      rw [ek]
      obtain ⟨o3, t1, t2, t3⟩ := ih f (i + 1) (dayS c (drW c l q d 0 c.W).1) (k + (drW c l q d 0 c.W).2) o2 (by omega) (by omega) (OKS_day (drW_ok hc hl 0 hd c.W (Nat.le_refl _)) hdy) s2
      refine ⟨o3, ?_, t2, t3⟩
      have r1' : pX9_passDayByDraws oc ow o (nI q) = some (nI (drW c l q d 0 c.W).2, o2) := by
        unfold pX9_passDayByDraws
        simp only [u_jn, u_lit]
        exact r1
      simp (disch := omega) only [lX10_drift_29, u_let, u_jn, u_bd, u_gz0, u_gz1, u_gd, u_lit, u_leT, u_leF, u_ltT, u_ltF, u_eqT, u_eqF, nI_clamp, nI_add, u_m1, pk_sub, pk_mul, if_true, if_false, ite_true, ite_false, reduceIte, Nat.reduceEqDiff, u_neM, u_bN, u_bNe, e0, r1', t1]
    · rw [if_neg g]
      refine ⟨o, ?_, hs, hd⟩
      simp (disch := omega) only [lX10_drift_29, u_let, u_jn, u_bd, u_gz0, u_gz1, u_gd, u_lit, u_leT, u_leF, u_ltT, u_ltF, u_eqT, u_eqF, nI_clamp, nI_add, u_m1, pk_sub, pk_mul, if_true, if_false, ite_true, ite_false, reduceIte, Nat.reduceEqDiff, u_neM, u_bN, u_bNe, e0]
theorem m_drN {c : CD} {l : LD} (hc : OKC c) (hl : OKL l) {q N : Nat} (hq : q ≤ 100) (hN : N < 1000) : ∀ n f i (d : SD) (k : Nat) (m : Ob), n < f → i + n = N → OKS c.S d → MC c m → ML l m → MS c.S d m → ∃ m', lX11_drift_32 (nI N) (nI q) f (nI k) (nI i) m = some (nI (drN c l q n d k).2, m') ∧ MS c.S (drN c l q n d k).1 m' ∧ frm [10, 11, 13, 14, 15, 16, 17, 18, 19, 20] m m' := by
  intro n
  induction n with
  | zero =>
    intro f i d k o hf hi hd h1 h2 hs
    obtain ⟨f, rfl⟩ : ∃ g, f = g + 1 := ⟨f - 1, by omega⟩
    refine ⟨o, ?_, hs, frm_rf _ _⟩
    simp (disch := omega) only [lX11_drift_32, u_let, u_jn, u_bd, u_gz0, u_gz1, u_gd, u_lit, u_leT, u_leF, u_ltT, u_ltF, u_eqT, u_eqF, nI_clamp, nI_add, u_m1, pk_sub, pk_mul, if_true, if_false, ite_true, ite_false, reduceIte, Nat.reduceEqDiff, u_neM, u_bN, u_bNe, drN]
  | succ n ih =>
    intro f i d k o hf hi hd h1 h2 hs
    obtain ⟨f, rfl⟩ : ∃ g, f = g + 1 := ⟨f - 1, by omega⟩
    have e0 := hs.1
    have bd := hd.1
    rw [drN]
    by_cases g : d.day < 399
    · rw [if_pos g]
      obtain ⟨o1, r1, r2, r3⟩ := m_drW hc hl hq k (nI i) hd h1 h2 hs (fun x6 x7 o8 => Option.bind (pX11_darken o8) fun (r9 : Ob) => lX11_drift_32 (nI N) (nI q) f x6 (x7 + nI 1) r9)
      have hdy : (drW c l q d k c.W).1.day < 399 := by rw [(drW_day c l q d k c.W).1]; exact g
      obtain ⟨o2, s1, s2, s3⟩ := m_darken hc (drW_ok hc hl (q := q) k hd c.W (Nat.le_refl _)) (MC_frm h1 r3 (by decide)) r2 hdy
      rw [s1, u_bd, nI_add] at r1
      have fr : frm [10, 11, 13, 14, 15, 16, 17, 18, 19, 20] o o2 := frm_tr (frm_mono r3 (by decide)) (frm_mono s3 (by decide))
      obtain ⟨o3, t1, t2, t3⟩ := ih f (i + 1) (dayS c (drW c l q d k c.W).1) (drW c l q d k c.W).2 o2 (by omega) (by omega) (OKS_day (drW_ok hc hl k hd c.W (Nat.le_refl _)) hdy) (MC_frm h1 fr (by decide)) (ML_frm h2 fr (by decide) (by decide)) s2
      refine ⟨o3, ?_, t2, frm_tr fr t3⟩
      rw [t1] at r1
      simp only [lX11_drift_32, u_jn, u_let, u_lit]
      rw [if_neg (nI_ge (by omega) (by omega)), if_neg (by rw [e0]; exact nI_ge (by omega) (by omega))]
      exact r1
    · rw [if_neg g]
      refine ⟨o, ?_, hs, frm_rf _ _⟩
      simp (disch := omega) only [lX11_drift_32, u_let, u_jn, u_bd, u_gz0, u_gz1, u_gd, u_lit, u_leT, u_leF, u_ltT, u_ltF, u_eqT, u_eqF, nI_clamp, nI_add, u_m1, pk_sub, pk_mul, if_true, if_false, ite_true, ite_false, reduceIte, Nat.reduceEqDiff, u_neM, u_bN, u_bNe, e0]
theorem ok_drift {x : Cst} {m : Ob} (a1 a2 : Int32) (h : RR x m) : ∃ (r : Int32 × Ob) (u : Int32 × Ob), pX10_drift x.z x.d x.t x.c x.w x.s x.e x.f x.h x.b x.i x.j x.p x.q a1 a2 = some r ∧ pX11_drift m a1 a2 = some u ∧ r.1 = u.1 ∧ RR (x.z, x.d, x.t, x.c, x.w, r.2, x.e, x.f, x.h, x.b, x.i, x.j, x.p, x.q) u.2 := by
  have h' := h
  obtain ⟨c, l, d, hR⟩ := h'
  have hR' := hR
  obtain ⟨⟨a, b, e⟩, ⟨f1, f2, f3⟩, ⟨g1, g2, g3⟩, _⟩ := hR'
  rcases arg_in a1 1 60 (by omega) (by omega) 1 60 (by decide) (by decide) with ⟨q, qi⟩ | ⟨j, j1, j2, rfl, qi⟩
  · refine ⟨(-(nI 1000000002), x.s), (-(nI 1000000002), m), ?_, ?_, rfl, h⟩
    · unfold pX10_drift
      simp only [u_lit]
      rcases q with q | q
      · rw [if_pos q]
      · by_cases z : a1 < nI 1
        · rw [if_pos z]
        · rw [if_neg z, if_pos q]
    · unfold pX11_drift
      rw [qi, u_bd0]; rfl
  · rcases arg_in a2 0 100 (by omega) (by omega) 0 100 (by decide) (by decide) with ⟨q, qj⟩ | ⟨k, k1, k2, rfl, qj⟩
    · refine ⟨(-(nI 1000000002), x.s), (-(nI 1000000002), m), ?_, ?_, rfl, h⟩
      · unfold pX10_drift
        simp only [u_lit]
        rw [if_neg (nI_nlt (by omega) (by omega)), if_neg (nI_nlt (by omega) (by omega))]
        rcases q with q | q
        · rw [if_pos q]
        · by_cases z : a2 < nI 0
          · rw [if_pos z]
          · rw [if_neg z, if_neg (by rw [u_leN (by omega)]; rw [u_Nlt (by omega)] at q; omega)]
      · unfold pX11_drift
        rw [qi, u_bd1, qj, u_bd0]; rfl
    · obtain ⟨o', r1, r2, r3⟩ := h_drN a b f1 f2 (N := j) k2 (by omega) j zfu 0 d 0 x.s (u_zfu (by omega)) (by omega) e f3
      obtain ⟨m', t1, t2, t3⟩ := m_drN a b (N := j) k2 (by omega) j zfu 0 d 0 m (u_zfu (by omega)) (by omega) e g1 g2 g3
      refine ⟨(nI (drN c l k j d 0).2, o'), (nI (drN c l k j d 0).2, m'), ?_, ?_, rfl, c, l, (drN c l k j d 0).1, RC_frm hR t3 (by decide) r3 t2 r2⟩
      · unfold pX10_drift
        simp (disch := omega) only [u_let, u_jn, u_bd, u_gz0, u_gz1, u_gd, u_lit, u_leT, u_leF, u_ltT, u_ltF, u_eqT, u_eqF, nI_clamp, nI_add, u_m1, pk_sub, pk_mul, if_true, if_false, ite_true, ite_false, reduceIte, Nat.reduceEqDiff, u_neM, u_bN, u_bNe, r1]
      · unfold pX11_drift
        rw [qi, u_bd1, qj, u_bd1, u_lit]
        exact t1
