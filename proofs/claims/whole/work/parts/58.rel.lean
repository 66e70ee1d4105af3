/-! the relation of the two states; the small calls -/
def RText (ot m : Ob) : Prop := ∃ (n : Nat) (tb : Nat → Nat), n ≤ 500 ∧ gi ot 1 = nI n ∧ gi m 22 = nI n ∧ ∀ i, i < n → tb i < 256 ∧ ga ot 0 i &&& nI 255 = nI (tb i) ∧ ga m 21 i = nI (tb i)
def RBook (S : Nat) (ob m : Ob) : Prop := ∀ s, s < S → ∃ n, n ≤ 60 ∧ ga ob 0 s = nI n ∧ ga m 47 s = nI n ∧ ∀ k, k < n → ga ob (20 + s) k = ga m 48 (60 * s + k)
def MI (S : Nat) (e : SD) (i : Nat) (m : Ob) : Prop := ga m 49 (60 * i) = nI e.day ∧ ga m 49 (60 * i + 1) = nI e.spk ∧ ga m 49 (60 * i + 2) = nI e.seed ∧ (∀ w, w < 12 → (0 < S → ga m 49 (60 * i + 3 + w) = nO (e.last w)) ∧ ga m 49 (60 * i + 15 + w) = nI (e.times w) ∧ ga m 49 (60 * i + 27 + w) = nI (e.struck w)) ∧ (∀ s, s < S → ga m 49 (60 * i + 51 + s) = nI (e.whole s) ∧ ga m 49 (60 * i + 39 + s) = nI (e.how s) ∧ ga m 49 (60 * i + 45 + s) = nO (e.howd s)) ∧ (∀ s, s < S → ∀ k, k < e.day → ga m 51 (2400 * i + (400 * s + k)) = nI (e.dusk s k)) ∧ (∀ s, s < S → ∀ k, k < 400 → ga m 50 (2400 * i + (400 * s + k)) = nI (if k < e.day then e.dusk s (e.day - 1 - k) % 2 else 0))
def RImg (S i : Nat) (fl : Int32) (o m : Ob) : Prop := (fl = nI 0 ∧ ga m 52 i = nI 0) ∨ (fl = nI 1 ∧ ga m 52 i = nI 1 ∧ ∃ e, OKS S e ∧ CS S e o ∧ MI S e i m)
def RC (c : CD) (l : LD) (d : SD) (x : Cst) (m : Ob) : Prop := (OKC c ∧ OKL l ∧ OKS c.S d) ∧ (CC c x.c ∧ CL l x.w ∧ CS c.S d x.s) ∧ (MC c m ∧ ML l m ∧ MS c.S d m) ∧ RText x.t m ∧ gi x.z 11 = gi m 23 ∧ RBook c.S x.b m ∧ RImg c.S 0 (ga x.z 8 0) x.i m ∧ RImg c.S 1 (ga x.z 8 1) x.j m
def RR (x : Cst) (m : Ob) : Prop := ∃ c l d, RC c l d x m
theorem RText_frm {ot m m' : Ob} {ks : List Nat} (h : RText ot m) (f : frm ks m m') (h1 : 21 ∉ ks) (h2 : 22 ∉ ks) : RText ot m' := by
  obtain ⟨n, tb, a, b, e, g⟩ := h
  refine ⟨n, tb, a, b, (f 22 h2).1.trans e, fun i hi => ?_⟩
  rw [(f 21 h1).2.2.1]
  exact g i hi
theorem RBook_frm {S : Nat} {ob m m' : Ob} {ks : List Nat} (h : RBook S ob m) (f : frm ks m m') (h1 : 47 ∉ ks) (h2 : 48 ∉ ks) : RBook S ob m' := by
  intro s hs
  rw [(f 47 h1).2.2.1, (f 48 h2).2.2.1]
  exact h s hs
theorem RImg_frm {S i : Nat} {fl : Int32} {o m m' : Ob} {ks : List Nat} (h : RImg S i fl o m) (f : frm ks m m') (h1 : 49 ∉ ks) (h2 : 50 ∉ ks) (h3 : 51 ∉ ks) (h4 : 52 ∉ ks) : RImg S i fl o m' := by
  unfold RImg MI
  rw [(f 49 h1).2.2.1, (f 50 h2).2.2.1, (f 51 h3).2.2.1, (f 52 h4).2.2.1]
  exact h
/-- the reference has written no more than its state's fields and its own scratch -/
theorem RC_frm {c : CD} {l : LD} {d d' : SD} {x : Cst} {m m' : Ob} {ks : List Nat} (h : RC c l d x m) (f : frm ks m m') (hk : (ks.all fun k => decide (k ∈ [10, 11, 12, 13, 14, 15, 16, 17, 18, 19, 20, 39, 40, 41, 42, 43, 44, 45, 46])) = true) (hd : OKS c.S d') (hm : MS c.S d' m') {s' e' f' h' : Ob} (hs : CS c.S d' s') : RC c l d' (x.z, x.d, x.t, x.c, x.w, s', e', f', h', x.b, x.i, x.j, x.p, x.q) m' := by
  have no : ∀ k, k ∉ [10, 11, 12, 13, 14, 15, 16, 17, 18, 19, 20, 39, 40, 41, 42, 43, 44, 45, 46] → k ∉ ks := fun k hn q => by
    have := List.all_eq_true.mp hk k q
    exact hn (of_decide_eq_true this)
  obtain ⟨⟨a1, a2, a3⟩, ⟨b1, b2, b3⟩, ⟨c1, c2, c3⟩, d1, e1, f1, g1, g2⟩ := h
  exact ⟨⟨a1, a2, hd⟩, ⟨b1, b2, hs⟩, ⟨MC_frm c1 f (fun k hk => no k (by
    rcases (show k = 0 ∨ k = 1 ∨ k = 2 ∨ k = 3 ∨ k = 4 ∨ k = 5 ∨ k = 6 ∨ k = 7 by omega) with rfl | rfl | rfl | rfl | rfl | rfl | rfl | rfl <;> decide)), ML_frm c2 f (no 8 (by decide)) (no 9 (by decide)), hm⟩, RText_frm d1 f (no 21 (by decide)) (no 22 (by decide)), e1.trans (f 23 (no 23 (by decide))).1.symm, RBook_frm f1 f (no 47 (by decide)) (no 48 (by decide)), RImg_frm g1 f (no 49 (by decide)) (no 50 (by decide)) (no 51 (by decide)) (no 52 (by decide)), RImg_frm g2 f (no 49 (by decide)) (no 50 (by decide)) (no 51 (by decide)) (no 52 (by decide))⟩
theorem bad_ne {x : Int32} {n k : Nat} (h : x < nI 0 ∨ nI n ≤ x) (hk : k < n ∧ n < 1000000) : (x = nI k) = False := eq_false (fun e => by
  subst e
  rcases h with h | h
  · exact nI_nlt (Nat.zero_le k) (by omega) h
  · exact nI_ge (a := k) (b := n) hk.1 (by omega) h)
theorem bad_in {x : Int32} {n : Nat} (h : x < nI 0 ∨ nI n ≤ x) (hn : n < 1000000) {lo hi : Int64} (h1 : 0 ≤ lo.toInt) (h2 : hi.toInt < n) : pX11_in x.toInt64 lo hi = some (nI 0) := u_inF (fun q => by
  rcases h with h | h
  · have := u_neg h; omega
  · have := u_big h (by omega); omega)
theorem good_in {j : Nat} (hj : j < 1000000) {lo hi : Int64} (h1 : lo.toInt ≤ (j : Int)) (h2 : (j : Int) ≤ hi.toInt) : pX11_in (nI j).toInt64 lo hi = some (nI 1) := u_inT (by rw [nI_toInt (by omega)]; exact ⟨h1, h2⟩)
theorem off_in {j : Nat} (hj : j < 1000000) {lo hi : Int64} (h : (j : Int) < lo.toInt ∨ hi.toInt < (j : Int)) : pX11_in (nI j).toInt64 lo hi = some (nI 0) := u_inF (by rw [nI_toInt (by omega)]; omega)
theorem ok_fault {x : Cst} {m : Ob} (h : RR x m) : ∃ (r : Int32) (u : Int32), pX10_fault x.z x.d x.t x.c x.w x.s x.e x.f x.h x.b x.i x.j x.p x.q = some r ∧ pX11_fault m = some u ∧ r = u ∧ RR x m := by
  have h' := h
  obtain ⟨c, l, d, _, _, _, _, e1, _⟩ := h'
  exact ⟨_, _, rfl, rfl, e1, h⟩
theorem ok_told {x : Cst} {m : Ob} (a1 : Int32) (h : RR x m) : ∃ (r : Int32) (u : Int32), pX10_told x.z x.d x.t x.c x.w x.s x.e x.f x.h x.b x.i x.j x.p x.q a1 = some r ∧ pX11_told m a1 = some u ∧ r = u ∧ RR x m := by
  have h' := h
  obtain ⟨c, l, d, ⟨a, b, e⟩, ⟨f1, f2, f3⟩, ⟨g1, g2, g3⟩, ⟨n, tb, t1, t2, t3, t4⟩, _⟩ := h'
  have bd := e.1
  have v6 := h_copies b f2 (t := d.day) (by omega)
  have v7 := h_moon b f2 (t := d.day) (by omega)
  have v8 := h_talk b f2 (t := d.day) (by omega)
  have w6 := m_copies b g2 (t := d.day) (by omega)
  have w7 := m_moon b g2 (t := d.day) (by omega)
  have w8 := m_talk b g2 (t := d.day) (by omega)
  rcases u_ix a1 9 (by omega) with q | ⟨j, hj, rfl⟩
  · refine ⟨-(nI 1000000002), -(nI 1000000002), ?_, ?_, rfl, h⟩
    · simp (disch := omega) only [pX10_told, u_let, u_jn, u_bd, u_gz0, u_gz1, u_gd, u_lit, u_leT, u_leF, u_ltT, u_ltF, u_eqT, u_eqF, nI_clamp, nI_add, u_m1, pk_sub, pk_mul, if_true, if_false, ite_true, ite_false, reduceIte, Nat.reduceEqDiff, u_neM, u_bN, u_bNe, bad_ne q]
    · have := bad_in q (by omega) (lo := 6) (hi := 8) (by decide) (by decide)
      simp (disch := omega) only [pX11_told, u_let, u_jn, u_bd, u_gz0, u_gz1, u_gd, u_lit, u_leT, u_leF, u_ltT, u_ltF, u_eqT, u_eqF, nI_clamp, nI_add, u_m1, pk_sub, pk_mul, if_true, if_false, ite_true, ite_false, reduceIte, Nat.reduceEqDiff, u_neM, u_bN, u_bNe, bad_ne q, this]
  · rcases (show j = 0 ∨ j = 1 ∨ j = 2 ∨ j = 3 ∨ j = 4 ∨ j = 5 ∨ j = 6 ∨ j = 7 ∨ j = 8 by omega) with rfl | rfl | rfl | rfl | rfl | rfl | rfl | rfl | rfl
    · refine ⟨nI c.S, nI c.S, ?_, ?_, rfl, h⟩
      · simp (disch := omega) only [pX10_told, u_let, u_jn, u_bd, u_gz0, u_gz1, u_gd, u_lit, u_leT, u_leF, u_ltT, u_ltF, u_eqT, u_eqF, nI_clamp, nI_add, u_m1, pk_sub, pk_mul, if_true, if_false, ite_true, ite_false, reduceIte, Nat.reduceEqDiff, u_neM, u_bN, u_bNe, f1.1]
      · simp (disch := omega) only [pX11_told, u_let, u_jn, u_bd, u_gz0, u_gz1, u_gd, u_lit, u_leT, u_leF, u_ltT, u_ltF, u_eqT, u_eqF, nI_clamp, nI_add, u_m1, pk_sub, pk_mul, if_true, if_false, ite_true, ite_false, reduceIte, Nat.reduceEqDiff, u_neM, u_bN, u_bNe, g1.1]
    · refine ⟨nI c.W, nI c.W, ?_, ?_, rfl, h⟩
      · simp (disch := omega) only [pX10_told, u_let, u_jn, u_bd, u_gz0, u_gz1, u_gd, u_lit, u_leT, u_leF, u_ltT, u_ltF, u_eqT, u_eqF, nI_clamp, nI_add, u_m1, pk_sub, pk_mul, if_true, if_false, ite_true, ite_false, reduceIte, Nat.reduceEqDiff, u_neM, u_bN, u_bNe, f1.2.1]
      · simp (disch := omega) only [pX11_told, u_let, u_jn, u_bd, u_gz0, u_gz1, u_gd, u_lit, u_leT, u_leF, u_ltT, u_ltF, u_eqT, u_eqF, nI_clamp, nI_add, u_m1, pk_sub, pk_mul, if_true, if_false, ite_true, ite_false, reduceIte, Nat.reduceEqDiff, u_neM, u_bN, u_bNe, g1.2.1]
    · refine ⟨nI l.L, nI l.L, ?_, ?_, rfl, h⟩
      · simp (disch := omega) only [pX10_told, u_let, u_jn, u_bd, u_gz0, u_gz1, u_gd, u_lit, u_leT, u_leF, u_ltT, u_ltF, u_eqT, u_eqF, nI_clamp, nI_add, u_m1, pk_sub, pk_mul, if_true, if_false, ite_true, ite_false, reduceIte, Nat.reduceEqDiff, u_neM, u_bN, u_bNe, f2.1]
      · simp (disch := omega) only [pX11_told, u_let, u_jn, u_bd, u_gz0, u_gz1, u_gd, u_lit, u_leT, u_leF, u_ltT, u_ltF, u_eqT, u_eqF, nI_clamp, nI_add, u_m1, pk_sub, pk_mul, if_true, if_false, ite_true, ite_false, reduceIte, Nat.reduceEqDiff, u_neM, u_bN, u_bNe, g2.1]
    · refine ⟨nI d.day, nI d.day, ?_, ?_, rfl, h⟩
      · simp (disch := omega) only [pX10_told, u_let, u_jn, u_bd, u_gz0, u_gz1, u_gd, u_lit, u_leT, u_leF, u_ltT, u_ltF, u_eqT, u_eqF, nI_clamp, nI_add, u_m1, pk_sub, pk_mul, if_true, if_false, ite_true, ite_false, reduceIte, Nat.reduceEqDiff, u_neM, u_bN, u_bNe, f3.1]
      · simp (disch := omega) only [pX11_told, u_let, u_jn, u_bd, u_gz0, u_gz1, u_gd, u_lit, u_leT, u_leF, u_ltT, u_ltF, u_eqT, u_eqF, nI_clamp, nI_add, u_m1, pk_sub, pk_mul, if_true, if_false, ite_true, ite_false, reduceIte, Nat.reduceEqDiff, u_neM, u_bN, u_bNe, g3.1]
    · refine ⟨nI n, nI n, ?_, ?_, rfl, h⟩
      · simp (disch := omega) only [pX10_told, u_let, u_jn, u_bd, u_gz0, u_gz1, u_gd, u_lit, u_leT, u_leF, u_ltT, u_ltF, u_eqT, u_eqF, nI_clamp, nI_add, u_m1, pk_sub, pk_mul, if_true, if_false, ite_true, ite_false, reduceIte, Nat.reduceEqDiff, u_neM, u_bN, u_bNe, t2]
      · simp (disch := omega) only [pX11_told, u_let, u_jn, u_bd, u_gz0, u_gz1, u_gd, u_lit, u_leT, u_leF, u_ltT, u_ltF, u_eqT, u_eqF, nI_clamp, nI_add, u_m1, pk_sub, pk_mul, if_true, if_false, ite_true, ite_false, reduceIte, Nat.reduceEqDiff, u_neM, u_bN, u_bNe, t3]
    · refine ⟨nI d.spk, nI d.spk, ?_, ?_, rfl, h⟩
      · simp (disch := omega) only [pX10_told, u_let, u_jn, u_bd, u_gz0, u_gz1, u_gd, u_lit, u_leT, u_leF, u_ltT, u_ltF, u_eqT, u_eqF, nI_clamp, nI_add, u_m1, pk_sub, pk_mul, if_true, if_false, ite_true, ite_false, reduceIte, Nat.reduceEqDiff, u_neM, u_bN, u_bNe, f3.2.1]
      · simp (disch := omega) only [pX11_told, u_let, u_jn, u_bd, u_gz0, u_gz1, u_gd, u_lit, u_leT, u_leF, u_ltT, u_ltF, u_eqT, u_eqF, nI_clamp, nI_add, u_m1, pk_sub, pk_mul, if_true, if_false, ite_true, ite_false, reduceIte, Nat.reduceEqDiff, u_neM, u_bN, u_bNe, g3.2.1]
    · refine ⟨nI (copies l d.day), nI (copies l d.day), ?_, ?_, rfl, h⟩
      · simp (disch := omega) only [pX10_told, u_let, u_jn, u_bd, u_gz0, u_gz1, u_gd, u_lit, u_leT, u_leF, u_ltT, u_ltF, u_eqT, u_eqF, nI_clamp, nI_add, u_m1, pk_sub, pk_mul, if_true, if_false, ite_true, ite_false, reduceIte, Nat.reduceEqDiff, u_neM, u_bN, u_bNe, f3.1, v6]
      · have := good_in (j := 6) (by omega) (lo := 6) (hi := 8) (by decide) (by decide)
        simp (disch := omega) only [pX11_told, u_let, u_jn, u_bd, u_gz0, u_gz1, u_gd, u_lit, u_leT, u_leF, u_ltT, u_ltF, u_eqT, u_eqF, nI_clamp, nI_add, u_m1, pk_sub, pk_mul, if_true, if_false, ite_true, ite_false, reduceIte, Nat.reduceEqDiff, u_neM, u_bN, u_bNe, this, g3.1, w6, Nat.reduceSub]
    · refine ⟨nI (moon l d.day), nI (moon l d.day), ?_, ?_, rfl, h⟩
      · simp (disch := omega) only [pX10_told, u_let, u_jn, u_bd, u_gz0, u_gz1, u_gd, u_lit, u_leT, u_leF, u_ltT, u_ltF, u_eqT, u_eqF, nI_clamp, nI_add, u_m1, pk_sub, pk_mul, if_true, if_false, ite_true, ite_false, reduceIte, Nat.reduceEqDiff, u_neM, u_bN, u_bNe, f3.1, v7]
      · have := good_in (j := 7) (by omega) (lo := 6) (hi := 8) (by decide) (by decide)
        simp (disch := omega) only [pX11_told, u_let, u_jn, u_bd, u_gz0, u_gz1, u_gd, u_lit, u_leT, u_leF, u_ltT, u_ltF, u_eqT, u_eqF, nI_clamp, nI_add, u_m1, pk_sub, pk_mul, if_true, if_false, ite_true, ite_false, reduceIte, Nat.reduceEqDiff, u_neM, u_bN, u_bNe, this, g3.1, w7, Nat.reduceSub]
    · refine ⟨nI (talk l d.day), nI (talk l d.day), ?_, ?_, rfl, h⟩
      · simp (disch := omega) only [pX10_told, u_let, u_jn, u_bd, u_gz0, u_gz1, u_gd, u_lit, u_leT, u_leF, u_ltT, u_ltF, u_eqT, u_eqF, nI_clamp, nI_add, u_m1, pk_sub, pk_mul, if_true, if_false, ite_true, ite_false, reduceIte, Nat.reduceEqDiff, u_neM, u_bN, u_bNe, f3.1, v8]
      · have := good_in (j := 8) (by omega) (lo := 6) (hi := 8) (by decide) (by decide)
        simp (disch := omega) only [pX11_told, u_let, u_jn, u_bd, u_gz0, u_gz1, u_gd, u_lit, u_leT, u_leF, u_ltT, u_ltF, u_eqT, u_eqF, nI_clamp, nI_add, u_m1, pk_sub, pk_mul, if_true, if_false, ite_true, ite_false, reduceIte, Nat.reduceEqDiff, u_neM, u_bN, u_bNe, this, g3.1, w8, Nat.reduceSub]
/-! the set of a suit's witnesses -/
def wset (c : CD) (s : Nat) : Nat → Nat
  | 0 => 0
  | n + 1 => wset c s n ||| (if c.suit n = s then 1 <<< n else 0)
theorem u_shl1 {k : Nat} (hk : k < 31) : nI 1 <<< (nI k &&& nI 31) = nI (1 <<< k) := by
  have := (by decide +kernel : ∀ k : Fin 31, nI 1 <<< (nI k.val &&& nI 31) = nI (1 <<< k.val)) ⟨k, hk⟩
  exact this
theorem wset_le (c : CD) (s : Nat) : ∀ n, wset c s n < 2 ^ n
  | 0 => Nat.zero_lt_one
  | n + 1 => by
    have h := wset_le c s n
    unfold wset
    refine Nat.or_lt_two_pow ?_ ?_
    · rw [Nat.pow_succ]; omega
    · split
      · rw [Nat.one_shiftLeft, Nat.pow_succ]
        have := Nat.two_pow_pos n
        omega
      · exact Nat.two_pow_pos _
theorem h_wset {c : CD} {oc : Ob} (hc : OKC c) (h : CC c oc) (s : Nat) (hs : s < 1000) : pX2_witnessesOf oc (nI s) = some (nI (wset c s c.W)) := by
  have hW := hc.2.1
  unfold pX2_witnessesOf
  refine u_loop (fun f k => lX2_witnessesOf_4 oc (nI s) f (nI (wset c s k)) (nI k)) c.W _ (fun f k hk => ?_) (fun f => ?_) zfu 0 (by omega) (u_zfu (by omega))
  · have e := (h.2.2.2 k hk).1
    have b := (hc.2.2.2.1 k hk).1
    have h6 := hc.1
    by_cases g : c.suit k = s
    · simp (disch := omega) only [lX2_witnessesOf_4, u_let, u_jn, u_bd, u_gz0, u_gz1, u_gd, u_lit, u_leT, u_leF, u_ltT, u_ltF, u_eqT, u_eqF, nI_clamp, nI_add, u_m1, pk_sub, pk_mul, if_true, if_false, ite_true, ite_false, reduceIte, Nat.reduceEqDiff, u_neM, u_bN, u_bNe, h.2.1, e, g, u_shl1, fa_or, wset]
    · simp (disch := omega) only [lX2_witnessesOf_4, u_let, u_jn, u_bd, u_gz0, u_gz1, u_gd, u_lit, u_leT, u_leF, u_ltT, u_ltF, u_eqT, u_eqF, nI_clamp, nI_add, u_m1, pk_sub, pk_mul, if_true, if_false, ite_true, ite_false, reduceIte, Nat.reduceEqDiff, u_neM, u_bN, u_bNe, h.2.1, e, g, wset, Nat.or_zero]
  · simp (disch := omega) only [lX2_witnessesOf_4, u_let, u_jn, u_bd, u_gz0, u_gz1, u_gd, u_lit, u_leT, u_leF, u_ltT, u_ltF, u_eqT, u_eqF, nI_clamp, nI_add, u_m1, pk_sub, pk_mul, if_true, if_false, ite_true, ite_false, reduceIte, Nat.reduceEqDiff, u_neM, u_bN, u_bNe, h.2.1]
theorem m_wset {c : CD} {m : Ob} (hc : OKC c) (h : MC c m) (s : Nat) (hs : s < 1000) : pX11_witnessesOf m (nI s) = some (nI (wset c s c.W)) := by
  have hW := hc.2.1
  unfold pX11_witnessesOf
  refine u_loop (fun f k => lX11_witnessesOf_4 m (nI s) f (nI (wset c s k)) (nI k)) c.W _ (fun f k hk => ?_) (fun f => ?_) zfu 0 (by omega) (u_zfu (by omega))
  · have e := (h.2.2.2 k hk).1
    have b := (hc.2.2.2.1 k hk).1
    have h6 := hc.1
    by_cases g : c.suit k = s
    · simp (disch := omega) only [lX11_witnessesOf_4, u_let, u_jn, u_bd, u_gz0, u_gz1, u_gd, u_lit, u_leT, u_leF, u_ltT, u_ltF, u_eqT, u_eqF, nI_clamp, nI_add, u_m1, pk_sub, pk_mul, if_true, if_false, ite_true, ite_false, reduceIte, Nat.reduceEqDiff, u_neM, u_bN, u_bNe, h.2.1, e, g, u_shl1, fa_or, wset]
    · simp (disch := omega) only [lX11_witnessesOf_4, u_let, u_jn, u_bd, u_gz0, u_gz1, u_gd, u_lit, u_leT, u_leF, u_ltT, u_ltF, u_eqT, u_eqF, nI_clamp, nI_add, u_m1, pk_sub, pk_mul, if_true, if_false, ite_true, ite_false, reduceIte, Nat.reduceEqDiff, u_neM, u_bN, u_bNe, h.2.1, e, g, fa_or, wset, Nat.or_zero]
  · simp (disch := omega) only [lX11_witnessesOf_4, u_let, u_jn, u_bd, u_gz0, u_gz1, u_gd, u_lit, u_leT, u_leF, u_ltT, u_ltF, u_eqT, u_eqF, nI_clamp, nI_add, u_m1, pk_sub, pk_mul, if_true, if_false, ite_true, ite_false, reduceIte, Nat.reduceEqDiff, u_neM, u_bN, u_bNe, h.2.1]
theorem ok_suit {x : Cst} {m : Ob} (a1 a2 : Int32) (h : RR x m) : ∃ (r : Int32) (u : Int32), pX10_suit x.z x.d x.t x.c x.w x.s x.e x.f x.h x.b x.i x.j x.p x.q a1 a2 = some r ∧ pX11_suit m a1 a2 = some u ∧ r = u ∧ RR x m := by
  have h' := h
  obtain ⟨c, l, d, ⟨a, b, e⟩, ⟨f1, f2, f3⟩, ⟨g1, g2, g3⟩, _⟩ := h'
  have h6 := a.1
  rcases u_ix a1 c.S (by omega) with q | ⟨s, hs, rfl⟩
  · refine ⟨-(nI 1000000001), -(nI 1000000001), ?_, ?_, rfl, h⟩
    · simp (disch := omega) only [pX10_suit, u_let, u_jn, u_bd, u_gz0, u_gz1, u_gd, u_lit, u_leT, u_leF, u_ltT, u_ltF, u_eqT, u_eqF, nI_clamp, nI_add, u_m1, pk_sub, pk_mul, if_true, if_false, ite_true, ite_false, reduceIte, Nat.reduceEqDiff, u_neM, u_bN, u_bNe, h_suitF a f1 q]
    · simp (disch := omega) only [pX11_suit, u_let, u_jn, u_bd, u_gz0, u_gz1, u_gd, u_lit, u_leT, u_leF, u_ltT, u_ltF, u_eqT, u_eqF, nI_clamp, nI_add, u_m1, pk_sub, pk_mul, if_true, if_false, ite_true, ite_false, reduceIte, Nat.reduceEqDiff, u_neM, u_bN, u_bNe, m_suitF a g1 q]
  · have e1 := h_suitT a f1 hs
    have e2 := m_suitT a g1 hs
    obtain ⟨p2, p3, p4⟩ := f1.2.2.1 s hs
    obtain ⟨q2, q3, q4⟩ := g1.2.2.1 s hs
    obtain ⟨p6, p7, p8⟩ := f3.2.2.2.2.1 s hs
    obtain ⟨q6, q7, q8⟩ := g3.2.2.2.2.1 s hs
    have v := h_wset a f1 s (by omega)
    have w := m_wset a g1 s (by omega)
    rcases u_ix a2 6 (by omega) with q | ⟨j, hj, rfl⟩
    · refine ⟨-(nI 1000000002), -(nI 1000000002), ?_, ?_, rfl, h⟩
      · simp (disch := omega) only [pX10_suit, u_let, u_jn, u_bd, u_gz0, u_gz1, u_gd, u_lit, u_leT, u_leF, u_ltT, u_ltF, u_eqT, u_eqF, nI_clamp, nI_add, u_m1, pk_sub, pk_mul, if_true, if_false, ite_true, ite_false, reduceIte, Nat.reduceEqDiff, u_neM, u_bN, u_bNe, e1, bad_ne q]
      · simp (disch := omega) only [pX11_suit, u_let, u_jn, u_bd, u_gz0, u_gz1, u_gd, u_lit, u_leT, u_leF, u_ltT, u_ltF, u_eqT, u_eqF, nI_clamp, nI_add, u_m1, pk_sub, pk_mul, if_true, if_false, ite_true, ite_false, reduceIte, Nat.reduceEqDiff, u_neM, u_bN, u_bNe, e2, bad_ne q]
    · rcases (show j = 0 ∨ j = 1 ∨ j = 2 ∨ j = 3 ∨ j = 4 ∨ j = 5 by omega) with rfl | rfl | rfl | rfl | rfl | rfl
      · refine ⟨nI (c.need s), nI (c.need s), ?_, ?_, rfl, h⟩
        · simp (disch := omega) only [pX10_suit, u_let, u_jn, u_bd, u_gz0, u_gz1, u_gd, u_lit, u_leT, u_leF, u_ltT, u_ltF, u_eqT, u_eqF, nI_clamp, nI_add, u_m1, pk_sub, pk_mul, if_true, if_false, ite_true, ite_false, reduceIte, Nat.reduceEqDiff, u_neM, u_bN, u_bNe, e1, p2]
        · simp (disch := omega) only [pX11_suit, u_let, u_jn, u_bd, u_gz0, u_gz1, u_gd, u_lit, u_leT, u_leF, u_ltT, u_ltF, u_eqT, u_eqF, nI_clamp, nI_add, u_m1, pk_sub, pk_mul, if_true, if_false, ite_true, ite_false, reduceIte, Nat.reduceEqDiff, u_neM, u_bN, u_bNe, e2, q2]
      · refine ⟨nI (c.fall s), nI (c.fall s), ?_, ?_, rfl, h⟩
        · simp (disch := omega) only [pX10_suit, u_let, u_jn, u_bd, u_gz0, u_gz1, u_gd, u_lit, u_leT, u_leF, u_ltT, u_ltF, u_eqT, u_eqF, nI_clamp, nI_add, u_m1, pk_sub, pk_mul, if_true, if_false, ite_true, ite_false, reduceIte, Nat.reduceEqDiff, u_neM, u_bN, u_bNe, e1, p3]
        · simp (disch := omega) only [pX11_suit, u_let, u_jn, u_bd, u_gz0, u_gz1, u_gd, u_lit, u_leT, u_leF, u_ltT, u_ltF, u_eqT, u_eqF, nI_clamp, nI_add, u_m1, pk_sub, pk_mul, if_true, if_false, ite_true, ite_false, reduceIte, Nat.reduceEqDiff, u_neM, u_bN, u_bNe, e2, q3]
      · refine ⟨nO (c.hang s), nO (c.hang s), ?_, ?_, rfl, h⟩
        · simp (disch := omega) only [pX10_suit, u_let, u_jn, u_bd, u_gz0, u_gz1, u_gd, u_lit, u_leT, u_leF, u_ltT, u_ltF, u_eqT, u_eqF, nI_clamp, nI_add, u_m1, pk_sub, pk_mul, if_true, if_false, ite_true, ite_false, reduceIte, Nat.reduceEqDiff, u_neM, u_bN, u_bNe, e1, p4]
        · simp (disch := omega) only [pX11_suit, u_let, u_jn, u_bd, u_gz0, u_gz1, u_gd, u_lit, u_leT, u_leF, u_ltT, u_ltF, u_eqT, u_eqF, nI_clamp, nI_add, u_m1, pk_sub, pk_mul, if_true, if_false, ite_true, ite_false, reduceIte, Nat.reduceEqDiff, u_neM, u_bN, u_bNe, e2, q4]
      · refine ⟨nI (d.how s), nI (d.how s), ?_, ?_, rfl, h⟩
        · simp (disch := omega) only [pX10_suit, u_let, u_jn, u_bd, u_gz0, u_gz1, u_gd, u_lit, u_leT, u_leF, u_ltT, u_ltF, u_eqT, u_eqF, nI_clamp, nI_add, u_m1, pk_sub, pk_mul, if_true, if_false, ite_true, ite_false, reduceIte, Nat.reduceEqDiff, u_neM, u_bN, u_bNe, e1, p7]
        · simp (disch := omega) only [pX11_suit, u_let, u_jn, u_bd, u_gz0, u_gz1, u_gd, u_lit, u_leT, u_leF, u_ltT, u_ltF, u_eqT, u_eqF, nI_clamp, nI_add, u_m1, pk_sub, pk_mul, if_true, if_false, ite_true, ite_false, reduceIte, Nat.reduceEqDiff, u_neM, u_bN, u_bNe, e2, q7]
      · refine ⟨nO (d.howd s), nO (d.howd s), ?_, ?_, rfl, h⟩
        · simp (disch := omega) only [pX10_suit, u_let, u_jn, u_bd, u_gz0, u_gz1, u_gd, u_lit, u_leT, u_leF, u_ltT, u_ltF, u_eqT, u_eqF, nI_clamp, nI_add, u_m1, pk_sub, pk_mul, if_true, if_false, ite_true, ite_false, reduceIte, Nat.reduceEqDiff, u_neM, u_bN, u_bNe, e1, p8]
        · simp (disch := omega) only [pX11_suit, u_let, u_jn, u_bd, u_gz0, u_gz1, u_gd, u_lit, u_leT, u_leF, u_ltT, u_ltF, u_eqT, u_eqF, nI_clamp, nI_add, u_m1, pk_sub, pk_mul, if_true, if_false, ite_true, ite_false, reduceIte, Nat.reduceEqDiff, u_neM, u_bN, u_bNe, e2, q8]
      · refine ⟨nI (wset c s c.W), nI (wset c s c.W), ?_, ?_, rfl, h⟩
        · simp (disch := omega) only [pX10_suit, u_let, u_jn, u_bd, u_gz0, u_gz1, u_gd, u_lit, u_leT, u_leF, u_ltT, u_ltF, u_eqT, u_eqF, nI_clamp, nI_add, u_m1, pk_sub, pk_mul, if_true, if_false, ite_true, ite_false, reduceIte, Nat.reduceEqDiff, u_neM, u_bN, u_bNe, e1, v]
        · simp (disch := omega) only [pX11_suit, u_let, u_jn, u_bd, u_gz0, u_gz1, u_gd, u_lit, u_leT, u_leF, u_ltT, u_ltF, u_eqT, u_eqF, nI_clamp, nI_add, u_m1, pk_sub, pk_mul, if_true, if_false, ite_true, ite_false, reduceIte, Nat.reduceEqDiff, u_neM, u_bN, u_bNe, e2, w]
