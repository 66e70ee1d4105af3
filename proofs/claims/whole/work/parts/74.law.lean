/-! a clause of the laws -/
def lwC4 (ot o8 o : Ob) : Option (Ob × Ob) := Option.bind (pX5_takeNumber o ot (1 : Int32) (6 : Int32)) fun (r9 : Int32 × Ob) => zgd (gi o8 0) 6 <| zlet (sa o8 4 (upd (ga o8 4) ((gi o8 0).toNatClampNeg) (r9.1))) fun (o10 : Ob) => Option.bind (pX5_takeSemicolon (r9.2) ot) fun (r11 : Ob) => zlet (si o10 0 ((gi o10 0) + (1 : Int32))) fun (o12 : Ob) => some (o12, r11)
def lwC3 (ot o6 o : Ob) : Option (Ob × Ob) := Option.bind (pX5_takeNumber o ot (1 : Int32) (60 : Int32)) fun (r7 : Int32 × Ob) => zgd (gi o6 0) 6 <| zlet (sa o6 3 (upd (ga o6 3) ((gi o6 0).toNatClampNeg) (r7.1))) fun (o8 : Ob) => lwC4 ot o8 r7.2
def lwC2 (ot o2 o : Ob) : Option (Ob × Ob) := Option.bind (pX5_takeNumber o ot (0 : Int32) (6 : Int32)) fun (r5 : Int32 × Ob) => zgd (gi o2 0) 6 <| zlet (sa o2 2 (upd (ga o2 2) ((gi o2 0).toNatClampNeg) (r5.1))) fun (o6 : Ob) => lwC3 ot o6 r5.2
def lwM5 (x4 x15 : Int32) (o16 : Ob) : Option (Int32 × Ob) := zgd (x4 + (3 : Int32)) 24 <| zlet (sa o16 38 (upd (ga o16 38) ((x4 + (3 : Int32)).toNatClampNeg) (gi o16 27))) fun (o17 : Ob) => zlet (si o17 37 ((gi o17 37) + (1 : Int32))) fun (o18 : Ob) => if x15 ≤ 0 then (Option.bind (pX11_takeStop o18) fun (r19 : Int32 × Ob) => some ((r19.1), (r19.2))) else (some (x15, o18))
def lwM4 (x4 x12 : Int32) (o13 : Ob) : Option (Int32 × Ob) := zgd (x4 + (2 : Int32)) 24 <| zlet (sa o13 38 (upd (ga o13 38) ((x4 + (2 : Int32)).toNatClampNeg) (gi o13 27))) fun (o14 : Ob) => if x12 ≤ 0 then (Option.bind (pX11_takeNumber o14 (1 : Int32) (6 : Int32)) fun (r20 : Int32 × Ob) => lwM5 x4 (r20.1) (r20.2)) else (lwM5 x4 x12 o14)
def lwM3 (x4 x9 : Int32) (o10 : Ob) : Option (Int32 × Ob) := zgd (x4 + (1 : Int32)) 24 <| zlet (sa o10 38 (upd (ga o10 38) ((x4 + (1 : Int32)).toNatClampNeg) (gi o10 27))) fun (o11 : Ob) => if x9 ≤ 0 then (Option.bind (pX11_takeNumber o11 (1 : Int32) (60 : Int32)) fun (r21 : Int32 × Ob) => lwM4 x4 (r21.1) (r21.2)) else (lwM4 x4 x9 o11)
def lwM2 (x4 x6 : Int32) (o7 : Ob) : Option (Int32 × Ob) := zgd x4 24 <| zlet (sa o7 38 (upd (ga o7 38) (x4.toNatClampNeg) (gi o7 27))) fun (o8 : Ob) => if x6 ≤ 0 then (Option.bind (pX11_takeNumber o8 (0 : Int32) (6 : Int32)) fun (r22 : Int32 × Ob) => lwM3 x4 (r22.1) (r22.2)) else (lwM3 x4 x6 o8)
theorem lC4F {ot o8 o : Ob} {f q L : Nat} (h : RdF o f q) (h0 : gi o8 0 = nI L) (hL : L < 6) : ∃ w, lwC4 ot o8 o = some (w, o) := by
  unfold lwC4
  rw [h_numF h, u_bd, h0, u_gd (by omega), u_let]
  dsimp only
  rw [h_stopF h, u_bd, u_let]
  exact ⟨_, rfl⟩
theorem lC3F {ot o6 o : Ob} {f q L : Nat} (h : RdF o f q) (h0 : gi o6 0 = nI L) (hL : L < 6) : ∃ w, lwC3 ot o6 o = some (w, o) := by
  unfold lwC3
  rw [h_numF h, u_bd, h0, u_gd (by omega), u_let]
  exact lC4F (L := L) h (by rw [gi_sa]; exact h0) hL
theorem lC2F {ot o2 o : Ob} {f q L : Nat} (h : RdF o f q) (h0 : gi o2 0 = nI L) (hL : L < 6) : ∃ w, lwC2 ot o2 o = some (w, o) := by
  unfold lwC2
  rw [h_numF h, u_bd, h0, u_gd (by omega), u_let]
  exact lC3F (L := L) h (by rw [gi_sa]; exact h0) hL
theorem lM5F {o : Ob} {f L : Nat} (hf : 0 < f ∧ f ≤ 4) (hL : L < 6) : ∃ m', lwM5 (nI (4 * L)) (nI f) o = some (nI f, m') ∧ frm [37, 38] o m' := by
  unfold lwM5
  rw [show nI (4 * L) + (3 : Int32) = nI (4 * L + 3) from nI_add _ _, u_gd (by omega), u_let, u_let, if_neg (nI_nle hf.1 (by omega))]
  exact ⟨_, rfl, frm_si (frm_sa (frm_rf _ _) (by decide) _) (by decide) _⟩
theorem lM4F {o : Ob} {f L : Nat} (hf : 0 < f ∧ f ≤ 4) (hL : L < 6) : ∃ m', lwM4 (nI (4 * L)) (nI f) o = some (nI f, m') ∧ frm [37, 38] o m' := by
  unfold lwM4
  rw [show nI (4 * L) + (2 : Int32) = nI (4 * L + 2) from nI_add _ _, u_gd (by omega), u_let, if_neg (nI_nle hf.1 (by omega))]
  obtain ⟨m', a, b⟩ := lM5F (o := sa o 38 (upd (ga o 38) ((nI (4 * L + 2)).toNatClampNeg) (gi o 27))) hf hL
  exact ⟨m', a, frm_tr (frm_sa (frm_rf _ _) (by decide) _) b⟩
theorem lM3F {o : Ob} {f L : Nat} (hf : 0 < f ∧ f ≤ 4) (hL : L < 6) : ∃ m', lwM3 (nI (4 * L)) (nI f) o = some (nI f, m') ∧ frm [37, 38] o m' := by
  unfold lwM3
  rw [show nI (4 * L) + (1 : Int32) = nI (4 * L + 1) from nI_add _ _, u_gd (by omega), u_let, if_neg (nI_nle hf.1 (by omega))]
  obtain ⟨m', a, b⟩ := lM4F (o := sa o 38 (upd (ga o 38) ((nI (4 * L + 1)).toNatClampNeg) (gi o 27))) hf hL
  exact ⟨m', a, frm_tr (frm_sa (frm_rf _ _) (by decide) _) b⟩
theorem lM2F {o : Ob} {f L : Nat} (hf : 0 < f ∧ f ≤ 4) (hL : L < 6) : ∃ m', lwM2 (nI (4 * L)) (nI f) o = some (nI f, m') ∧ frm [37, 38] o m' := by
  unfold lwM2
  rw [u_gd (by omega), u_let, if_neg (nI_nle hf.1 (by omega))]
  obtain ⟨m', a, b⟩ := lM3F (o := sa o 38 (upd (ga o 38) ((nI (4 * L)).toNatClampNeg) (gi o 27))) hf hL
  exact ⟨m', a, frm_tr (frm_sa (frm_rf _ _) (by decide) _) b⟩
def MRL (l : LD) (m : Ob) : Prop := gi m 37 = nI l.L ∧ ∀ i, i < l.L → ga m 38 (4 * i) = nI (l.fr i) ∧ ga m 38 (4 * i + 1) = nI (l.cp i) ∧ ga m 38 (4 * i + 2) = nI (l.mn i) ∧ ga m 38 (4 * i + 3) = nI (l.tk i)
theorem MRL_frm {l : LD} {m m' : Ob} {ks : List Nat} (h : MRL l m) (f : frm ks m m') (h1 : 37 ∉ ks) (h2 : 38 ∉ ks) : MRL l m' := by
  unfold MRL
  rw [(f 37 h1).1, (f 38 h2).2.2.1]
  exact h
def ldm (L : Nat) (fr cp mn tk : Nat → Nat) : LD := (L, fr, cp, mn, tk)
def addL (l : LD) (a b e g : Nat) : LD := ldm (l.L + 1) (nup l.fr l.L a) (nup l.cp l.L b) (nup l.mn l.L e) (nup l.tk l.L g)
theorem OKL_add {l : LD} (h : OKL l) (hL : l.L < 6) {a b e g : Nat} (ha : a < 400) (ho : 0 < l.L → l.fr (l.L - 1) < a) (hb : b < 7) (he : 1 ≤ e ∧ e < 61) (hg : 1 ≤ g ∧ g < 7) : OKL (addL l a b e g) := by
  refine ⟨hL, fun i hi => ?_, fun i hi => ?_⟩
  · show nup l.fr l.L a i ≤ 399 ∧ nup l.cp l.L b i ≤ 6 ∧ 1 ≤ nup l.mn l.L e i ∧ nup l.mn l.L e i ≤ 60 ∧ 1 ≤ nup l.tk l.L g i ∧ nup l.tk l.L g i ≤ 6
    have hi' : i < l.L + 1 := hi
    by_cases q : i = l.L
    · subst q; rw [nup_s, nup_s, nup_s, nup_s]; omega
    · rw [nup_n _ _ q, nup_n _ _ q, nup_n _ _ q, nup_n _ _ q]
      exact h.2.1 i (by omega)
  · show nup l.fr l.L a i < nup l.fr l.L a (i + 1)
    have hi' : i + 1 < l.L + 1 := hi
    rw [nup_n _ _ (by omega)]
    by_cases q : i + 1 = l.L
    · rw [q, nup_s]
      have := ho (by omega)
      rw [show l.L - 1 = i by omega] at this
      exact this
    · rw [nup_n _ _ q]
      exact h.2.2 i (by omega)
def LwG (l : LD) (ow' m' : Ob) : Prop := ∃ l', OKL l' ∧ CL l' ow' ∧ MRL l' m'
/-- the fourth number and the stop -/
theorem t_l4 {n : Nat} {tb : Nat → Nat} {ot m od ow : Ob} {p t a p0 : Nat} {l : LD} (hl : OKL l) (hL : l.L < 6) {v0 v1 v2 : Nat} (b0 : v0 < 400) (ho : 0 < l.L → l.fr (l.L - 1) < v0) (b1 : v1 < 7) (b2 : 1 ≤ v2 ∧ v2 < 61) (hT : TX n tb ot m) (hr : RdS od p t) (ha : gi m 24 = nI a) (han : a ≤ n) (hp : rn isB n tb a = p) (hp0 : p0 < a)
    (h37 : gi m 37 = nI l.L) (hm : ∀ i, i < l.L → ga m 38 (4 * i) = nI (l.fr i) ∧ ga m 38 (4 * i + 1) = nI (l.cp i) ∧ ga m 38 (4 * i + 2) = nI (l.mn i) ∧ ga m 38 (4 * i + 3) = nI (l.tk i)) (hm2 : ga m 38 (4 * l.L) = nI v0 ∧ ga m 38 (4 * l.L + 1) = nI v1 ∧ ga m 38 (4 * l.L + 2) = nI v2)
    (g0 : gi ow 0 = nI l.L) (g1 : ∀ i, i < l.L → ga ow 1 i = nI (l.fr i) ∧ ga ow 2 i = nI (l.cp i) ∧ ga ow 3 i = nI (l.mn i) ∧ ga ow 4 i = nI (l.tk i)) (g2 : ga ow 1 l.L = nI v0 ∧ ga ow 2 l.L = nI v1 ∧ ga ow 3 l.L = nI v2) :
    ClOut n tb p0 m (lwC4 ot ow od) (Option.bind (pX11_takeNumber m (1 : Int32) (6 : Int32)) fun (r20 : Int32 × Ob) => lwM5 (nI (4 * l.L)) (r20.1) (r20.2)) (LwG l) := by
  have hn := hT.1
  have hpa : a ≤ p := by rw [← hp]; exact rn_ge _ _ _ _
  rw [show (1 : Int32) = nI 1 from rfl, l6]
  rcases t_num (lo := 1) (h := 7) hT hr ha han hp (by omega) (by omega) with ⟨v, e1, od1, m1, x1, x2, x3, x4, x5, x6, x7, x8, x9, x10, x11⟩ | ⟨f, od1, m1, x1, x2, x3, x4, x5⟩
  · have k37 : gi m1 37 = nI l.L := by rw [(x11 37 (by decide)).1]; exact h37
    have k38 : ga m1 38 = ga m 38 := (x11 38 (by decide)).2.2.1
    have f1 : frm kO m (si (sa m1 38 (upd (ga m1 38) (4 * l.L + 3) (nI v))) 37 (nI (l.L + 1))) := frm_si (frm_sa (frm_mono x11 (by decide)) (by decide) _) (by decide) _
    have hT1 := TX_frm hT f1 (by decide) (by decide)
    have clsE : ∀ (od4 : Ob), pX5_takeSemicolon od1 ot = some od4 → lwC4 ot ow od = some (si (sa ow 4 (upd (ga ow 4) l.L (nI v))) 0 (nI (l.L + 1)), od4) := by
      intro od4 h4
      unfold lwC4
      rw [show (1 : Int32) = nI 1 from rfl, l6, x1, u_bd, g0, u_gd (by omega), nI_clamp (by omega), u_let]
      dsimp only
      rw [h4, u_bd, u_let, gi_sa, g0, nI_add]
    have mdlE : ∀ B, Option.bind (pX11_takeStop (si (sa m1 38 (upd (ga m1 38) (4 * l.L + 3) (nI v))) 37 (nI (l.L + 1)))) (fun (r7 : Int32 × Ob) => some ((r7.1), (r7.2))) = B → (Option.bind (pX11_takeNumber m (nI 1) (nO 7)) fun (r20 : Int32 × Ob) => lwM5 (nI (4 * l.L)) (r20.1) (r20.2)) = B := by
      intro B hB
      rw [x2, u_bd]
      unfold lwM5
      rw [show nI (4 * l.L) + (3 : Int32) = nI (4 * l.L + 3) from nI_add _ _, u_gd (by omega), nI_clamp (by omega), u_let, u_let]
      dsimp only
      rw [if_pos (u_le0 ▸ trivial), gi_sa, k37, x9, show nI l.L + (1 : Int32) = nI (l.L + 1) from nI_add _ _]
      exact hB
    rcases t_stop hT1 x7 (by rw [gi_si, if_neg (by decide), gi_sa]; exact x8) x6 rfl with ⟨od4, m4, s1, s2, s3, s4, s5, s6⟩ | ⟨f, od4, m4, s1, s2, s3, s4, s5⟩
    · left
      have ge1 := rn_ge isB n tb e1
      refine ⟨rn isB n tb e1 + 1, rn isB n tb e1, _, od4, m4, clsE od4 s1, mdlE _ (by rw [s2, u_bd]), ?_, s4, s5, by omega, by omega, frm_tr f1 (frm_mono s6 (by decide))⟩
      have z38 : ga m4 38 = upd (ga m 38) (4 * l.L + 3) (nI v) := by rw [(s6 38 (by decide)).2.2.1, ga_si, ga_sa, if_pos rfl, k38]
      refine ⟨addL l v0 v1 v2 v, OKL_add hl hL b0 ho b1 b2 ⟨x3, x4⟩, ⟨rfl, fun i hi => ?_⟩, ⟨?_, fun i hi => ?_⟩⟩
      · have hi' : i < l.L + 1 := hi
        simp only [ga_si, ga_sa, Nat.reduceEqDiff, if_false, if_true, upd_ap]
        show _ = nI (nup l.fr l.L v0 i) ∧ _ = nI (nup l.cp l.L v1 i) ∧ _ = nI (nup l.mn l.L v2 i) ∧ _ = nI (nup l.tk l.L v i)
        by_cases q : i = l.L
        · subst q; rw [nup_s, nup_s, nup_s, nup_s, if_pos rfl]; exact ⟨g2.1, g2.2.1, g2.2.2, rfl⟩
        · rw [nup_n _ _ q, nup_n _ _ q, nup_n _ _ q, nup_n _ _ q, if_neg q]; exact g1 i (by omega)
      · rw [(s6 37 (by decide)).1, gi_si, if_pos rfl]; rfl
      · have hi' : i < l.L + 1 := hi
        rw [z38, upd_ap, upd_ap, upd_ap, upd_ap]
        show _ = nI (nup l.fr l.L v0 i) ∧ _ = nI (nup l.cp l.L v1 i) ∧ _ = nI (nup l.mn l.L v2 i) ∧ _ = nI (nup l.tk l.L v i)
        rw [if_neg (show ¬ 4 * i = 4 * l.L + 3 by omega), if_neg (show ¬ 4 * i + 1 = 4 * l.L + 3 by omega), if_neg (show ¬ 4 * i + 2 = 4 * l.L + 3 by omega)]
        by_cases q : i = l.L
        · subst q; rw [nup_s, nup_s, nup_s, nup_s, if_pos rfl]; exact ⟨hm2.1, hm2.2.1, hm2.2.2, rfl⟩
        · rw [nup_n _ _ q, nup_n _ _ q, nup_n _ _ q, nup_n _ _ q, if_neg (by omega)]; exact hm i (by omega)
    · right
      exact ⟨f, rn isB n tb e1, _, od4, m4, clsE od4 s1, mdlE _ (by rw [s2, u_bd]), s3, s4, frm_tr (kOC f1) (frm_mono s5 (by decide))⟩
  · right
    have hf := x3
    obtain ⟨f0, f4, _, _⟩ := x3
    obtain ⟨m', y1, y2⟩ := lM5F (o := m1) (L := l.L) ⟨f0, f4⟩ hL
    refine ⟨f, p, si (sa ow 4 (upd (ga ow 4) l.L (nI 1))) 0 (nI (l.L + 1)), od1, m', ?_, by rw [x2, u_bd]; exact y1, hf, ?_, frm_tr (frm_mono x5 (by decide)) (frm_mono y2 (by decide))⟩
    · unfold lwC4
      rw [show (1 : Int32) = nI 1 from rfl, l6, x1, u_bd, g0, u_gd (by omega), nI_clamp (by omega), u_let]
      dsimp only
      rw [h_stopF hf, u_bd, u_let, gi_sa, g0, nI_add]
    · rw [(y2 23 (by decide)).1]; exact x4
/-- the third number on -/
theorem t_l3 {n : Nat} {tb : Nat → Nat} {ot m od ow : Ob} {p t a p0 : Nat} {l : LD} (hl : OKL l) (hL : l.L < 6) {v0 v1 : Nat} (b0 : v0 < 400) (ho : 0 < l.L → l.fr (l.L - 1) < v0) (b1 : v1 < 7) (hT : TX n tb ot m) (hr : RdS od p t) (ha : gi m 24 = nI a) (han : a ≤ n) (hp : rn isB n tb a = p) (hp0 : p0 < a)
    (h37 : gi m 37 = nI l.L) (hm : ∀ i, i < l.L → ga m 38 (4 * i) = nI (l.fr i) ∧ ga m 38 (4 * i + 1) = nI (l.cp i) ∧ ga m 38 (4 * i + 2) = nI (l.mn i) ∧ ga m 38 (4 * i + 3) = nI (l.tk i)) (hm2 : ga m 38 (4 * l.L) = nI v0 ∧ ga m 38 (4 * l.L + 1) = nI v1)
    (g0 : gi ow 0 = nI l.L) (g1 : ∀ i, i < l.L → ga ow 1 i = nI (l.fr i) ∧ ga ow 2 i = nI (l.cp i) ∧ ga ow 3 i = nI (l.mn i) ∧ ga ow 4 i = nI (l.tk i)) (g2 : ga ow 1 l.L = nI v0 ∧ ga ow 2 l.L = nI v1) :
    ClOut n tb p0 m (lwC3 ot ow od) (Option.bind (pX11_takeNumber m (1 : Int32) (60 : Int32)) fun (r21 : Int32 × Ob) => lwM4 (nI (4 * l.L)) (r21.1) (r21.2)) (LwG l) := by
  have hn := hT.1
  have hpa : a ≤ p := by rw [← hp]; exact rn_ge _ _ _ _
  rw [show (1 : Int32) = nI 1 from rfl, l60]
  rcases t_num (lo := 1) (h := 61) hT hr ha han hp (by omega) (by omega) with ⟨v, e1, od1, m1, x1, x2, x3, x4, x5, x6, x7, x8, x9, x10, x11⟩ | ⟨f, od1, m1, x1, x2, x3, x4, x5⟩
  · have k37 : gi m1 37 = nI l.L := by rw [(x11 37 (by decide)).1]; exact h37
    have k38 : ga m1 38 = ga m 38 := (x11 38 (by decide)).2.2.1
    have f1 : frm kO m (sa m1 38 (upd (ga m1 38) (4 * l.L + 2) (nI v))) := frm_sa (frm_mono x11 (by decide)) (by decide) _
    have q := ClOut_frm f1 (t_l4 (p0 := p0) (od := od1) (ow := sa ow 3 (upd (ga ow 3) l.L (nI v))) hl hL b0 ho b1 ⟨x3, x4⟩ (TX_frm hT f1 (by decide) (by decide)) x7 (show gi _ 24 = nI e1 by rw [gi_sa]; exact x8) x6 rfl (by omega) (by rw [gi_sa]; exact k37)
      (fun i hi => by
        rw [ga_sa, if_pos rfl, k38, upd_ap, upd_ap, upd_ap, upd_ap, if_neg (by omega), if_neg (by omega), if_neg (by omega), if_neg (by omega)]
        exact hm i hi)
      (by
        rw [ga_sa, if_pos rfl, k38, upd_ap, upd_ap, upd_ap, if_neg (by omega), if_neg (by omega), if_pos rfl]
        exact ⟨hm2.1, hm2.2, rfl⟩)
      g0
      (fun i hi => by
        simp only [ga_sa, Nat.reduceEqDiff, if_false, if_true, upd_ap]
        rw [if_neg (by omega)]
        exact g1 i hi)
      (by
        simp only [ga_sa, Nat.reduceEqDiff, if_false, if_true, upd_ap]
        exact ⟨g2.1, g2.2, trivial⟩))
    have eA : lwC3 ot ow od = lwC4 ot (sa ow 3 (upd (ga ow 3) l.L (nI v))) od1 := by
      unfold lwC3
      rw [show (1 : Int32) = nI 1 from rfl, l60, x1, u_bd, g0, u_gd (by omega), nI_clamp (by omega), u_let]
    have eB : (Option.bind (pX11_takeNumber m (nI 1) (nO 61)) fun (r21 : Int32 × Ob) => lwM4 (nI (4 * l.L)) (r21.1) (r21.2)) = (Option.bind (pX11_takeNumber (sa m1 38 (upd (ga m1 38) (4 * l.L + 2) (nI v))) (1 : Int32) (6 : Int32)) fun (r20 : Int32 × Ob) => lwM5 (nI (4 * l.L)) (r20.1) (r20.2)) := by
      rw [x2, u_bd]
      unfold lwM4
      rw [show nI (4 * l.L) + (2 : Int32) = nI (4 * l.L + 2) from nI_add _ _, u_gd (by omega), nI_clamp (by omega), u_let]
      dsimp only
      rw [if_pos (u_le0 ▸ trivial), x9]
    rw [eA, eB]
    exact q
  · right
    have hf := x3
    obtain ⟨f0, f4, _, _⟩ := x3
    obtain ⟨m', y1, y2⟩ := lM4F (o := m1) (L := l.L) ⟨f0, f4⟩ hL
    obtain ⟨w, z⟩ := lC4F (ot := ot) (o8 := sa ow 3 (upd (ga ow 3) l.L (nI 1))) (L := l.L) hf (by rw [gi_sa]; exact g0) hL
    refine ⟨f, p, w, od1, m', ?_, by rw [x2, u_bd]; exact y1, hf, ?_, frm_tr (frm_mono x5 (by decide)) (frm_mono y2 (by decide))⟩
    · unfold lwC3
      rw [show (1 : Int32) = nI 1 from rfl, l60, x1, u_bd, g0, u_gd (by omega), nI_clamp (by omega), u_let]
      exact z
    · rw [(y2 23 (by decide)).1]; exact x4
/-- the second number on -/
theorem t_l2 {n : Nat} {tb : Nat → Nat} {ot m od ow : Ob} {p t a p0 : Nat} {l : LD} (hl : OKL l) (hL : l.L < 6) {v0 : Nat} (b0 : v0 < 400) (ho : 0 < l.L → l.fr (l.L - 1) < v0) (hT : TX n tb ot m) (hr : RdS od p t) (ha : gi m 24 = nI a) (han : a ≤ n) (hp : rn isB n tb a = p) (hp0 : p0 < a)
    (h37 : gi m 37 = nI l.L) (hm : ∀ i, i < l.L → ga m 38 (4 * i) = nI (l.fr i) ∧ ga m 38 (4 * i + 1) = nI (l.cp i) ∧ ga m 38 (4 * i + 2) = nI (l.mn i) ∧ ga m 38 (4 * i + 3) = nI (l.tk i)) (hm2 : ga m 38 (4 * l.L) = nI v0)
    (g0 : gi ow 0 = nI l.L) (g1 : ∀ i, i < l.L → ga ow 1 i = nI (l.fr i) ∧ ga ow 2 i = nI (l.cp i) ∧ ga ow 3 i = nI (l.mn i) ∧ ga ow 4 i = nI (l.tk i)) (g2 : ga ow 1 l.L = nI v0) :
    ClOut n tb p0 m (lwC2 ot ow od) (Option.bind (pX11_takeNumber m (0 : Int32) (6 : Int32)) fun (r22 : Int32 × Ob) => lwM3 (nI (4 * l.L)) (r22.1) (r22.2)) (LwG l) := by
  have hn := hT.1
  have hpa : a ≤ p := by rw [← hp]; exact rn_ge _ _ _ _
  rw [show (0 : Int32) = nI 0 from rfl, l6]
  rcases t_num (lo := 0) (h := 7) hT hr ha han hp (by omega) (by omega) with ⟨v, e1, od1, m1, x1, x2, x3, x4, x5, x6, x7, x8, x9, x10, x11⟩ | ⟨f, od1, m1, x1, x2, x3, x4, x5⟩
  · have k37 : gi m1 37 = nI l.L := by rw [(x11 37 (by decide)).1]; exact h37
    have k38 : ga m1 38 = ga m 38 := (x11 38 (by decide)).2.2.1
    have f1 : frm kO m (sa m1 38 (upd (ga m1 38) (4 * l.L + 1) (nI v))) := frm_sa (frm_mono x11 (by decide)) (by decide) _
    have q := ClOut_frm f1 (t_l3 (p0 := p0) (od := od1) (ow := sa ow 2 (upd (ga ow 2) l.L (nI v))) hl hL b0 ho x4 (TX_frm hT f1 (by decide) (by decide)) x7 (show gi _ 24 = nI e1 by rw [gi_sa]; exact x8) x6 rfl (by omega) (by rw [gi_sa]; exact k37)
      (fun i hi => by
        rw [ga_sa, if_pos rfl, k38, upd_ap, upd_ap, upd_ap, upd_ap, if_neg (by omega), if_neg (by omega), if_neg (by omega), if_neg (by omega)]
        exact hm i hi)
      (by
        rw [ga_sa, if_pos rfl, k38, upd_ap, upd_ap, if_neg (by omega), if_pos rfl]
        exact ⟨hm2, rfl⟩)
      g0
      (fun i hi => by
        simp only [ga_sa, Nat.reduceEqDiff, if_false, if_true, upd_ap]
        rw [if_neg (by omega)]
        exact g1 i hi)
      (by
        simp only [ga_sa, Nat.reduceEqDiff, if_false, if_true, upd_ap]
        exact ⟨g2, trivial⟩))
    have eA : lwC2 ot ow od = lwC3 ot (sa ow 2 (upd (ga ow 2) l.L (nI v))) od1 := by
      unfold lwC2
      rw [show (0 : Int32) = nI 0 from rfl, l6, x1, u_bd, g0, u_gd (by omega), nI_clamp (by omega), u_let]
    have eB : (Option.bind (pX11_takeNumber m (nI 0) (nO 7)) fun (r22 : Int32 × Ob) => lwM3 (nI (4 * l.L)) (r22.1) (r22.2)) = (Option.bind (pX11_takeNumber (sa m1 38 (upd (ga m1 38) (4 * l.L + 1) (nI v))) (1 : Int32) (60 : Int32)) fun (r20 : Int32 × Ob) => lwM4 (nI (4 * l.L)) (r20.1) (r20.2)) := by
      rw [x2, u_bd]
      unfold lwM3
      rw [show nI (4 * l.L) + (1 : Int32) = nI (4 * l.L + 1) from nI_add _ _, u_gd (by omega), nI_clamp (by omega), u_let]
      dsimp only
      rw [if_pos (u_le0 ▸ trivial), x9]
    rw [eA, eB]
    exact q
  · right
    have hf := x3
    obtain ⟨f0, f4, _, _⟩ := x3
    obtain ⟨m', y1, y2⟩ := lM3F (o := m1) (L := l.L) ⟨f0, f4⟩ hL
    obtain ⟨w, z⟩ := lC3F (ot := ot) (o6 := sa ow 2 (upd (ga ow 2) l.L (nI 0))) (L := l.L) hf (by rw [gi_sa]; exact g0) hL
    refine ⟨f, p, w, od1, m', ?_, by rw [x2, u_bd]; exact y1, hf, ?_, frm_tr (frm_mono x5 (by decide)) (frm_mono y2 (by decide))⟩
    · unfold lwC2
      rw [show (0 : Int32) = nI 0 from rfl, l6, x1, u_bd, g0, u_gd (by omega), nI_clamp (by omega), u_let]
      exact z
    · rw [(y2 23 (by decide)).1]; exact x4
