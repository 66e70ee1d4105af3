/-! dusk -/
theorem zup_zup {α : Type} (f : Nat → α) (k : Nat) (x y : α) : zup (zup f k x) k y = zup f k y := by
  funext j
  rw [zup_ap, zup_ap, zup_ap]
  split <;> rfl
theorem zup_id {α : Type} (f : Nat → α) (k : Nat) : zup f k (f k) = f := by
  funext j
  rw [zup_ap]
  split
  · rename_i h; rw [h]
  · rfl
theorem sa_sa (o : Ob) (k : Nat) (f g : Nat → Int32) : sa (sa o k f) k g = sa o k g := by unfold sa; rw [zup_zup]
theorem sb_sb (o : Ob) (k : Nat) (f g : Nat → Int64) : sb (sb o k f) k g = sb o k g := by unfold sb; rw [zup_zup]
theorem si_si (o : Ob) (k : Nat) (f g : Int32) : si (si o k f) k g = si o k g := by unfold si; rw [zup_zup]
theorem sa_id (o : Ob) (k : Nat) : sa o k (ga o k) = o := by unfold sa ga; rw [zup_id]
theorem sb_id (o : Ob) (k : Nat) : sb o k (gb o k) = o := by unfold sb gb; rw [zup_id]
theorem si_id (o : Ob) (k : Nat) : si o k (gi o k) = o := by unfold si gi; rw [zup_id]
def lk (c : CD) (d : SD) : Nat → SD
  | 0 => d
  | n + 1 => fallS c (lookS c (lk c d n) n) n
def dayS (c : CD) (d : SD) : SD := sdm (d.day + 1) 0 d.seed d.last d.times d.struck (fun s => d.whole s / 2) (lk c d c.S).how (lk c d c.S).howd (fun s k => if k = d.day then d.whole s else d.dusk s k)
theorem lookS_same (c : CD) (d : SD) (s : Nat) : (lookS c d s).day = d.day ∧ (lookS c d s).spk = d.spk ∧ (lookS c d s).seed = d.seed ∧ (lookS c d s).last = d.last ∧ (lookS c d s).times = d.times ∧ (lookS c d s).struck = d.struck ∧ (lookS c d s).whole = d.whole ∧ (lookS c d s).dusk = d.dusk := by
  unfold lookS
  split
  · exact ⟨rfl, rfl, rfl, rfl, rfl, rfl, rfl, rfl⟩
  · exact ⟨rfl, rfl, rfl, rfl, rfl, rfl, rfl, rfl⟩
theorem fallS_same (c : CD) (d : SD) (s : Nat) : (fallS c d s).day = d.day ∧ (fallS c d s).spk = d.spk ∧ (fallS c d s).seed = d.seed ∧ (fallS c d s).last = d.last ∧ (fallS c d s).times = d.times ∧ (fallS c d s).struck = d.struck ∧ (fallS c d s).whole = d.whole ∧ (fallS c d s).dusk = d.dusk := by
  unfold fallS
  split
  · exact ⟨rfl, rfl, rfl, rfl, rfl, rfl, rfl, rfl⟩
  · exact ⟨rfl, rfl, rfl, rfl, rfl, rfl, rfl, rfl⟩
theorem lk_same (c : CD) (d : SD) : ∀ n, (lk c d n).day = d.day ∧ (lk c d n).spk = d.spk ∧ (lk c d n).seed = d.seed ∧ (lk c d n).last = d.last ∧ (lk c d n).times = d.times ∧ (lk c d n).struck = d.struck ∧ (lk c d n).whole = d.whole ∧ (lk c d n).dusk = d.dusk
  | 0 => ⟨rfl, rfl, rfl, rfl, rfl, rfl, rfl, rfl⟩
  | n + 1 => by
    obtain ⟨a1, a2, a3, a4, a5, a6, a7, a8⟩ := lk_same c d n
    obtain ⟨b1, b2, b3, b4, b5, b6, b7, b8⟩ := lookS_same c (lk c d n) n
    obtain ⟨c1, c2, c3, c4, c5, c6, c7, c8⟩ := fallS_same c (lookS c (lk c d n) n) n
    exact ⟨c1.trans (b1.trans a1), c2.trans (b2.trans a2), c3.trans (b3.trans a3), c4.trans (b4.trans a4), c5.trans (b5.trans a5), c6.trans (b6.trans a6), c7.trans (b7.trans a7), c8.trans (b8.trans a8)⟩
theorem OKS_lk {c : CD} {d : SD} (h : OKS c.S d) : ∀ n, OKS c.S (lk c d n)
  | 0 => h
  | n + 1 => OKS_fall (OKS_look (OKS_lk h n) n) n
theorem OKS_day {c : CD} {d : SD} (h : OKS c.S d) (hd : d.day < 399) : OKS c.S (dayS c d) := by
  have hk := OKS_lk (c := c) h c.S
  refine ⟨hd, Nat.zero_le _, h.2.2.1, fun v hv => ?_, fun j hj => ?_, fun j hj k hk => ?_⟩
  · obtain ⟨b1, b2, b3, b4⟩ := h.2.2.2.1 v hv
    exact ⟨Nat.le_trans b1 (Nat.le_succ _), b2, b3, b4⟩
  · obtain ⟨_, b2, b3⟩ := hk.2.2.2.2.1 j hj
    have b1 := (h.2.2.2.2.1 j hj).1
    have bs := h.2.1
    refine ⟨?_, b2, b3⟩
    show d.whole j / 2 ≤ 3564 + 594 * 0
    omega
  · show (if k = d.day then d.whole j else d.dusk j k) ≤ 7128
    have b1 := (h.2.2.2.2.1 j hj).1
    have bs := h.2.1
    have hk' : k < d.day + 1 := hk
    split
    · omega
    · exact h.2.2.2.2.2 j hj k (by omega)
theorem looks_eq {c : CD} {d1 d2 : SD} {k : Nat} (h1 : d1.how = d2.how) (h4 : d1.whole k = d2.whole k) : looks c d1 k = looks c d2 k := by
  unfold looks
  rw [h1, h4]
theorem look_eq {c : CD} {d1 d2 : SD} {k : Nat} (h1 : d1.how = d2.how) (h2 : d1.howd = d2.howd) (h3 : d1.day = d2.day) (h4 : d1.whole k = d2.whole k) : (lookS c d1 k).how = (lookS c d2 k).how ∧ (lookS c d1 k).howd = (lookS c d2 k).howd ∧ (lookS c d1 k).day = (lookS c d2 k).day := by
  unfold lookS
  rw [looks_eq h1 h4]
  split
  · exact ⟨by show nup d1.how k 1 = nup d2.how k 1; rw [h1], by show nup d1.howd k (d1.day + 1) = nup d2.howd k (d2.day + 1); rw [h2, h3], h3⟩
  · exact ⟨h1, h2, h3⟩
theorem fall_eq {c : CD} {d1 d2 : SD} {k : Nat} (h1 : d1.how = d2.how) (h2 : d1.howd = d2.howd) (h3 : d1.day = d2.day) : (fallS c d1 k).how = (fallS c d2 k).how ∧ (fallS c d1 k).howd = (fallS c d2 k).howd := by
  unfold fallS
  by_cases g : d2.how k = 0 ∧ d2.day = c.fall k
  · rw [if_pos g, if_pos (by rw [h1, h3]; exact g)]
    exact ⟨by show nup d1.how k 2 = nup d2.how k 2; rw [h1], by show nup d1.howd k (d1.day + 1) = nup d2.howd k (d2.day + 1); rw [h2, h3]⟩
  · rw [if_neg g, if_neg (by rw [h1, h3]; exact g)]
    exact ⟨h1, h2⟩
theorem lf_eq {c : CD} {d1 d2 : SD} {k : Nat} (h1 : d1.how = d2.how) (h2 : d1.howd = d2.howd) (h3 : d1.day = d2.day) (h4 : d1.whole k = d2.whole k) : (fallS c (lookS c d1 k) k).how = (fallS c (lookS c d2 k) k).how ∧ (fallS c (lookS c d1 k) k).howd = (fallS c (lookS c d2 k) k).howd := by
  obtain ⟨a, b, e⟩ := look_eq (c := c) h1 h2 h3 h4
  exact fall_eq a b e
/-- the class: fall -/
theorem h_fall {c : CD} {d : SD} {oc ow os : Ob} (hc : OKC c) (hd : OKS c.S d) (h : CC c oc) (h3 : CS c.S d os) {s : Nat} (hs : s < c.S) {τ : Type} (K : Ob → Option τ) : ∃ o', (Option.bind (pX9_goesOn oc ow os (nI s)) fun (r7 : Int32) => if r7 = 0 then (K os) else (zgd (nI s) 6 <| if (gi os 0) = (ga oc 3 ((nI s).toNatClampNeg)) then (Option.bind (pX6_end os (nI s) (2 : Int32)) fun (r11 : Ob) => K r11) else (K os))) = K o' ∧ CS c.S (fallS c d s) o' ∧ frm [7, 8] os o' := by
  have h6 := hc.1
  have eg := h_goesT (ow := ow) hc h h3 hd hs
  have e3 := (h.2.2.1 s hs).2.1
  obtain ⟨_, _, _, b4, _⟩ := hc.2.2.1 s hs
  have bd := hd.1
  unfold fallS
  by_cases g : d.how s = 0
  · by_cases g2 : d.day = c.fall s
    · obtain ⟨o', r1, r2, r3⟩ := h_end (s := s) (v := 2) h3 (by omega)
      refine ⟨o', ?_, by rw [if_pos ⟨g, g2⟩]; exact r2, r3⟩
      simp (disch := omega) only [eg, u_let, u_jn, u_bd, u_gz0, u_gz1, u_gd, u_lit, u_leT, u_leF, u_ltT, u_ltF, u_eqT, u_eqF, nI_clamp, nI_add, u_m1, pk_sub, pk_mul, if_true, if_false, ite_true, ite_false, reduceIte, Nat.reduceEqDiff, u_neM, u_bN, u_bNe, g, decide_true, bN_t, reduceCtorEq, h3.1, e3, r1]
    · refine ⟨os, ?_, by rw [if_neg (fun q => g2 q.2)]; exact h3, frm_rf _ _⟩
      simp (disch := omega) only [eg, u_let, u_jn, u_bd, u_gz0, u_gz1, u_gd, u_lit, u_leT, u_leF, u_ltT, u_ltF, u_eqT, u_eqF, nI_clamp, nI_add, u_m1, pk_sub, pk_mul, if_true, if_false, ite_true, ite_false, reduceIte, Nat.reduceEqDiff, u_neM, u_bN, u_bNe, g, decide_true, bN_t, reduceCtorEq, h3.1, e3]
  · refine ⟨os, ?_, by rw [if_neg (fun q => g q.1)]; exact h3, frm_rf _ _⟩
    simp (disch := omega) only [eg, u_let, u_jn, u_bd, u_gz0, u_gz1, u_gd, u_lit, u_leT, u_leF, u_ltT, u_ltF, u_eqT, u_eqF, nI_clamp, nI_add, u_m1, pk_sub, pk_mul, if_true, if_false, ite_true, ite_false, reduceIte, Nat.reduceEqDiff, u_neM, u_bN, u_bNe, g, decide_false, bN_f]
/-- the class's evening: what holds ahead of suit n -/
def CSn (c : CD) (d : SD) (n : Nat) (o : Ob) : Prop := gi o 0 = nI d.day ∧ gi o 1 = nI d.spk ∧ gi o 2 = nI d.seed ∧ (∀ w, w < 12 → ga o 3 w = nO (d.last w) ∧ ga o 4 w = nI (d.times w) ∧ ga o 5 w = nI (d.struck w)) ∧ (∀ s, s < c.S → ga o 6 s = nI (if s < n then d.whole s / 2 else d.whole s) ∧ ga o 7 s = nI ((lk c d n).how s) ∧ ga o 8 s = nO ((lk c d n).howd s)) ∧ (∀ s, s < c.S → ∀ k, k < d.day → ga o (20 + s) k = nI (d.dusk s k)) ∧ (∀ s, s < n → ga o (20 + s) d.day = nI (d.whole s))
theorem h_endDay {c : CD} {d : SD} {oc ow os : Ob} (hc : OKC c) (hd : OKS c.S d) (h : CC c oc) (h3 : CS c.S d os) (hday : d.day < 399) : ∃ o', pX9_endDay oc ow os = some o' ∧ CS c.S (dayS c d) o' := by
  have h6 := hc.1
  have bs := hd.2.1
  have main : ∀ f k o, k ≤ c.S → c.S - k < f → CSn c d k o → ∃ o', lX9_endDay_2 oc ow (fun o1 => some (si (si o1 0 (gi o1 0 + nI 1)) 1 (nI 0))) f (nI k) o = some o' ∧ CS c.S (dayS c d) o' := by
    refine u_loopP (fun f k o => lX9_endDay_2 oc ow (fun o1 => some (si (si o1 0 (gi o1 0 + nI 1)) 1 (nI 0))) f (nI k) o) (CSn c d) (fun r => ∃ o', r = some o' ∧ CS c.S (dayS c d) o') c.S ?_ ?_
    · intro f k o hk hP
      obtain ⟨p1, p2, p3, p4, p5, p6, p7⟩ := hP
      have q := lk_same c d k
      -- at suit k the weight is still as it was: a state for look and fall
      have hS : CS c.S (sdm d.day d.spk d.seed d.last d.times d.struck (fun s => if s < k then d.whole s / 2 else d.whole s) (lk c d k).how (lk c d k).howd d.dusk) o := ⟨p1, p2, p3, p4, p5, p6⟩
      have hok := OKS_lk (c := c) hd k
      have hSo : OKS c.S (sdm d.day d.spk d.seed d.last d.times d.struck (fun s => if s < k then d.whole s / 2 else d.whole s) (lk c d k).how (lk c d k).howd d.dusk) := by
        refine ⟨hd.1, hd.2.1, hd.2.2.1, hd.2.2.2.1, fun j hj => ?_, hd.2.2.2.2.2⟩
        obtain ⟨_, b2, b3⟩ := hok.2.2.2.2.1 j hj
        have b1 := (hd.2.2.2.2.1 j hj).1
        refine ⟨?_, b2, b3⟩
        show (if j < k then d.whole j / 2 else d.whole j) ≤ 3564 + 594 * d.spk
        split <;> omega
      obtain ⟨o1, r1, r2, r3⟩ := h_look (ow := ow) hc hSo h hS hk
      obtain ⟨o2, t1, t2, t3⟩ := h_fall (ow := ow) (τ := Ob) hc (OKS_look hSo k) h r2 hk (fun o8 => Option.bind (pX6_halve o8 (nI k)) fun (r9 : Ob) => lX9_endDay_2 oc ow (fun o1 => some (si (si o1 0 (gi o1 0 + nI 1)) 1 (nI 0))) f (nI (k + 1)) r9)
      -- how it is then, as on the way of lk
      have hlk : (fallS c (lookS c (sdm d.day d.spk d.seed d.last d.times d.struck (fun s => if s < k then d.whole s / 2 else d.whole s) (lk c d k).how (lk c d k).howd d.dusk) k) k).how = (lk c d (k + 1)).how ∧ (fallS c (lookS c (sdm d.day d.spk d.seed d.last d.times d.struck (fun s => if s < k then d.whole s / 2 else d.whole s) (lk c d k).how (lk c d k).howd d.dusk) k) k).howd = (lk c d (k + 1)).howd := by
        exact lf_eq rfl rfl q.1.symm (by show (if k < k then d.whole k / 2 else d.whole k) = _; rw [if_neg (by omega), q.2.2.2.2.2.2.1])
      obtain ⟨s1, s2, s3, s4, s5, s6⟩ := t2
      have w0 := lookS_same c (sdm d.day d.spk d.seed d.last d.times d.struck (fun s => if s < k then d.whole s / 2 else d.whole s) (lk c d k).how (lk c d k).howd d.dusk) k
      have w1 := fallS_same c (lookS c (sdm d.day d.spk d.seed d.last d.times d.struck (fun s => if s < k then d.whole s / 2 else d.whole s) (lk c d k).how (lk c d k).howd d.dusk) k) k
      rw [w1.1, w0.1] at s1
      rw [w1.2.1, w0.2.1] at s2
      rw [w1.2.2.1, w0.2.2.1] at s3
      rw [w1.2.2.2.1, w0.2.2.2.1, w1.2.2.2.2.1, w0.2.2.2.2.1, w1.2.2.2.2.2.1, w0.2.2.2.2.2.1] at s4
      rw [hlk.1, hlk.2, w1.2.2.2.2.2.2.1, w0.2.2.2.2.2.2.1] at s5
      rw [w1.2.2.2.2.2.2.2, w0.2.2.2.2.2.2.2, w1.1, w0.1] at s6
      have s1' : gi o2 0 = nI d.day := s1
      obtain ⟨s56, s57, s58⟩ := s5 k hk
      have s56' : ga o2 6 k = nI (d.whole k) := by
        rw [s56]
        show nI (if k < k then d.whole k / 2 else d.whole k) = _
        rw [if_neg (by omega)]
      have b1 := (hd.2.2.2.2.1 k hk).1
      refine ⟨sa (sa o2 (20 + k) (upd (ga o2 (20 + k)) d.day (nI (d.whole k)))) 6 (upd (ga o2 6) k (nI (d.whole k / 2))), ?_, ?_⟩
      · have n3 : ¬ 3 = 20 + k := by omega
        have n4 : ¬ 4 = 20 + k := by omega
        have n5 : ¬ 5 = 20 + k := by omega
        have n6 : ¬ 6 = 20 + k := by omega
        have n7 : ¬ 7 = 20 + k := by omega
        have n8 : ¬ 8 = 20 + k := by omega
        refine ⟨s1, s2, s3, fun v hv => ?_, fun j hj => ?_, fun j hj i hi => ?_, fun j hj => ?_⟩
        · simp only [ga_sa, n3, n4, n5, Nat.reduceEqDiff, if_false]
          exact s4 v hv
        · obtain ⟨u1, u2, u3⟩ := s5 j hj
          simp only [ga_sa, n7, n8, Nat.reduceEqDiff, if_false, if_true, upd_ap]
          refine ⟨?_, u2, u3⟩
          rcases Nat.lt_trichotomy j k with a | a | a
          · rw [if_neg (by omega), u1, if_pos (by omega)]
            show nI (if j < k then _ else _) = _
            rw [if_pos a]
          · subst a
            rw [if_pos rfl, if_pos (by omega)]
          · rw [if_neg (by omega), u1, if_neg (by omega)]
            show nI (if j < k then _ else _) = _
            rw [if_neg (by omega)]
        · rw [ga_sa, if_neg (by omega), ga_sa]
          by_cases a : 20 + j = 20 + k
          · rw [if_pos a, upd_ap, if_neg (by omega), ← a]
            exact s6 j hj i hi
          · rw [if_neg a]
            exact s6 j hj i hi
        · rw [ga_sa, if_neg (by omega), ga_sa]
          by_cases a : 20 + j = 20 + k
          · have : j = k := by omega
            subst this
            rw [if_pos rfl, upd_ap, if_pos rfl]
          · rw [if_neg a, (t3 (20 + j) (by simp only [List.mem_cons, List.not_mem_nil, or_false]; omega)).2.2.1, (r3 (20 + j) (by simp only [List.mem_cons, List.not_mem_nil, or_false]; omega)).2.2.1]
            exact p7 j (by omega)
      · have hhalve : pX6_halve o2 (nI k) = some (sa (sa o2 (20 + k) (upd (ga o2 (20 + k)) d.day (nI (d.whole k)))) 6 (upd (ga o2 6) k (nI (d.whole k / 2)))) := by
          have n6 : ¬ 6 = 20 + k := by omega
          have hz : ∀ o : Option Ob, znz (nI 2) o = o := fun _ => rfl
          simp (disch := omega) only [pX6_halve, u_let, u_jn, u_bd, u_gz0, u_gz1, u_gd, u_lit, u_leT, u_leF, u_ltT, u_ltF, u_eqT, u_eqF, nI_clamp, nI_add, u_m1, pk_sub, pk_mul, if_true, if_false, ite_true, ite_false, reduceIte, Nat.reduceEqDiff, u_neM, u_bN, u_bNe, s1', s56', ga_sa, n6, hz, pk_div]
        rw [hhalve, u_bd] at t1
        simp (disch := omega) only [u_let, u_jn, u_bd, u_gz0, u_gz1, u_gd, u_lit, u_leT, u_leF, u_ltT, u_ltF, u_eqT, u_eqF, nI_clamp, nI_add, u_m1, pk_sub, pk_mul, if_true, if_false, ite_true, ite_false, reduceIte, Nat.reduceEqDiff, u_neM, u_bN, u_bNe] at t1
        simp (disch := omega) only [lX9_endDay_2, u_let, u_jn, u_bd, u_gz0, u_gz1, u_gd, u_lit, u_leT, u_leF, u_ltT, u_ltF, u_eqT, u_eqF, nI_clamp, nI_add, u_m1, pk_sub, pk_mul, if_true, if_false, ite_true, ite_false, reduceIte, Nat.reduceEqDiff, u_neM, u_bN, u_bNe, h.1, r1]
        exact t1
    · intro f o hP
      obtain ⟨p1, p2, p3, p4, p5, p6, p7⟩ := hP
      refine ⟨si (si o 0 (gi o 0 + nI 1)) 1 (nI 0), ?_, ?_⟩
      · simp (disch := omega) only [lX9_endDay_2, u_let, u_jn, u_bd, u_gz0, u_gz1, u_gd, u_lit, u_leT, u_leF, u_ltT, u_ltF, u_eqT, u_eqF, nI_clamp, nI_add, u_m1, pk_sub, pk_mul, if_true, if_false, ite_true, ite_false, reduceIte, Nat.reduceEqDiff, u_neM, u_bN, u_bNe, h.1]
      · refine ⟨?_, rfl, p3, p4, fun j hj => ?_, fun j hj i hi => ?_⟩
        · show gi (si (si o 0 (gi o 0 + nI 1)) 1 (nI 0)) 0 = nI (d.day + 1)
          rw [gi_si, if_neg (by omega), gi_si, if_pos rfl, p1, nI_add]
        · obtain ⟨u1, u2, u3⟩ := p5 j hj
          rw [if_pos hj] at u1
          exact ⟨u1, u2, u3⟩
        · show ga o (20 + j) i = nI (if i = d.day then d.whole j else d.dusk j i)
          have hi' : i < d.day + 1 := hi
          by_cases a : i = d.day
          · rw [if_pos a, a]; exact p7 j hj
          · rw [if_neg a]; exact p6 j hj i (by omega)
  have start : CSn c d 0 os := by
    obtain ⟨p1, p2, p3, p4, p5, p6⟩ := h3
    refine ⟨p1, p2, p3, p4, fun j hj => ?_, p6, fun j hj => by omega⟩
    obtain ⟨u1, u2, u3⟩ := p5 j hj
    rw [if_neg (by omega)]
    exact ⟨u1, u2, u3⟩
  have r := main zfu 0 os (by omega) (u_zfu (by omega)) start
  unfold pX9_endDay
  simp only [u_jn, u_let, u_lit]
  exact r
