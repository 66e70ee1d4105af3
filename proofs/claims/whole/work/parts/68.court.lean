/-! counting bits -/
theorem bt1 (a k : Nat) : (a >>> k) % 2 = (a.testBit k).toNat := by
  rw [Nat.toNat_testBit, Nat.shiftRight_eq_div_pow]
theorem bsum_or (a n : Nat) (h : a < 2 ^ n) : ∀ m, bsum (a ||| 1 <<< n) m = bsum a m + (if n < m then 1 else 0)
  | 0 => rfl
  | m + 1 => by
    have ih := bsum_or a n h m
    rw [bsum, bsum, ih, bt1, bt1, Nat.testBit_or, Nat.one_shiftLeft, Nat.testBit_two_pow]
    by_cases q : n = m
    · subst q
      have z : a.testBit n = false := Nat.testBit_lt_two_pow h
      rw [z, decide_eq_true rfl, if_neg (Nat.lt_irrefl n), if_pos (Nat.lt_succ_self n)]
      rfl
    · rw [decide_eq_false q, Bool.or_false]
      by_cases y : n < m
      · rw [if_pos y, if_pos (by omega)]; omega
      · rw [if_neg y, if_neg (by omega)]; omega
theorem bsum_wset (c : CD) (s : Nat) : ∀ n, n ≤ 12 → bsum (wset c s n) 12 = cnt c s n
  | 0, _ => by
    show bsum 0 12 = 0
    decide
  | n + 1, h => by
    have ih := bsum_wset c s n (by omega)
    rw [wset, cnt]
    by_cases q : c.suit n = s
    · rw [if_pos q, if_pos q, bsum_or _ _ (wset_le c s n), ih, if_pos (by omega)]
    · rw [if_neg q, if_neg q, Nat.or_zero, ih]; rfl
theorem bc_tab : ∀ x : Fin 64, ∀ y : Fin 64, pJ6_bitCount_0f7a4 (nI (64 * x.val + y.val)) = some (nI (bsum (64 * x.val + y.val) 12)) := by decide +kernel
theorem h_bits {x : Nat} (h : x < 4096) : pJ6_bitCount_0f7a4 (nI x) = some (nI (bsum x 12)) := by
  have := bc_tab ⟨x / 64, by omega⟩ ⟨x % 64, by omega⟩
  have e : 64 * (x / 64) + x % 64 = x := by omega
  simp only [e] at this
  exact this
/-! the court as it is read -/
def MR (c : CD) (m : Ob) : Prop := gi m 29 = nI c.S ∧ gi m 33 = nI c.W ∧ (∀ s, s < c.S → ga m 30 s = nI (c.need s) ∧ ga m 31 s = nI (c.fall s) ∧ ga m 32 s = nO (c.hang s)) ∧ (∀ w, w < c.W → ga m 34 w = nI (c.suit w) ∧ ga m 35 w = nI (c.wt w) ∧ ga m 36 w = nI (c.kind w))
theorem MR_frm {c : CD} {m m' : Ob} {ks : List Nat} (h : MR c m) (f : frm ks m m') (hk : ∀ k, 29 ≤ k → k ≤ 36 → k ∉ ks) : MR c m' := by
  unfold MR
  rw [(f 29 (hk 29 (by omega) (by omega))).1, (f 33 (hk 33 (by omega) (by omega))).1, (f 30 (hk 30 (by omega) (by omega))).2.2.1, (f 31 (hk 31 (by omega) (by omega))).2.2.1, (f 32 (hk 32 (by omega) (by omega))).2.2.1, (f 34 (hk 34 (by omega) (by omega))).2.2.1, (f 35 (hk 35 (by omega) (by omega))).2.2.1, (f 36 (hk 36 (by omega) (by omega))).2.2.1]
  exact h
def cdm (S W : Nat) (need fall hang suit wt kind : Nat → Nat) : CD := (S, W, need, fall, hang, suit, wt, kind)
def addS (c : CD) (a b e : Nat) : CD := cdm (c.S + 1) c.W (nup c.need c.S a) (nup c.fall c.S b) (nup c.hang c.S e) c.suit c.wt c.kind
def addW (c : CD) (s a b : Nat) : CD := cdm c.S (c.W + 1) c.need c.fall c.hang (nup c.suit c.W s) (nup c.wt c.W a) (nup c.kind c.W b)
theorem cnt_none {c : CD} {s : Nat} : ∀ n, (∀ w, w < n → c.suit w < s) → cnt c s n = 0
  | 0, _ => rfl
  | n + 1, h => by
    have := h n (by omega)
    rw [cnt, cnt_none n (fun w hw => h w (by omega)), if_neg (by omega)]
theorem cnt_eq {c c' : CD} {s : Nat} : ∀ n, (∀ w, w < n → c'.suit w = c.suit w) → cnt c' s n = cnt c s n
  | 0, _ => rfl
  | n + 1, h => by rw [cnt, cnt, cnt_eq n (fun w hw => h w (by omega)), h n (by omega)]
theorem OKC_addS {c : CD} (h : OKC c) (hS : c.S < 6) {a b e : Nat} (ha : 1 ≤ a ∧ a < 1000) (hb : 1 ≤ b ∧ b < 400) (he : e ≤ c.S) : OKC (addS c a b e) := by
  refine ⟨hS, h.2.1, fun s hs => ?_, fun w hw => ?_, fun s hs => ?_⟩
  · show 1 ≤ nup c.need c.S a s ∧ nup c.need c.S a s ≤ 999 ∧ 1 ≤ nup c.fall c.S b s ∧ nup c.fall c.S b s ≤ 399 ∧ nup c.hang c.S e s ≤ s
    by_cases q : s = c.S
    · subst q; rw [nup_s, nup_s, nup_s]; omega
    · rw [nup_n _ _ q, nup_n _ _ q, nup_n _ _ q]
      exact h.2.2.1 s (by have : s < c.S + 1 := hs
                          omega)
  · have := h.2.2.2.1 w hw
    exact ⟨Nat.lt_succ_of_lt this.1, this.2⟩
  · have e1 : cnt (addS c a b e) s c.W = cnt c s c.W := cnt_eq _ (fun w hw => rfl)
    show cnt (addS c a b e) s c.W ≤ 6
    rw [e1]
    by_cases q : s = c.S
    · subst q
      rw [cnt_none c.W (fun w hw => (h.2.2.2.1 w hw).1)]
      omega
    · exact h.2.2.2.2 s (by have : s < c.S + 1 := hs
                            omega)
theorem OKC_addW {c : CD} (h : OKC c) (hW : c.W < 12) {s a b : Nat} (hs : s < c.S) (hn : cnt c s c.W < 6) (ha : 1 ≤ a ∧ a < 100) (hb : b ≤ 3) : OKC (addW c s a b) := by
  refine ⟨h.1, hW, h.2.2.1, fun w hw => ?_, fun j hj => ?_⟩
  · show nup c.suit c.W s w < c.S ∧ 1 ≤ nup c.wt c.W a w ∧ nup c.wt c.W a w ≤ 99 ∧ nup c.kind c.W b w ≤ 3
    by_cases q : w = c.W
    · subst q; rw [nup_s, nup_s, nup_s]; omega
    · rw [nup_n _ _ q, nup_n _ _ q, nup_n _ _ q]
      exact h.2.2.2.1 w (by have : w < c.W + 1 := hw
                            omega)
  · show cnt (addW c s a b) j (c.W + 1) ≤ 6
    rw [cnt, cnt_eq (c := c) (c' := addW c s a b) c.W (fun w hw => nup_n c.suit s (by omega))]
    have e1 : (addW c s a b).suit c.W = s := nup_s _ _ _
    rw [e1]
    have := h.2.2.2.2 j hj
    by_cases q : s = j
    · subst q; rw [if_pos rfl]; omega
    · rw [if_neg q]; omega
def kC : List Nat := [23, 24, 25, 26, 27, 28, 29, 30, 31, 32, 33, 34, 35, 36, 37, 38]
def kO : List Nat := [24, 25, 26, 27, 28, 29, 30, 31, 32, 33, 34, 35, 36, 37, 38]
theorem kOC {a b : Ob} (h : frm kO a b) : frm kC a b := frm_mono h (by decide)
/-- what a clause comes to, in both programs: read on to e, or a fault f at q -/
def ClOut (n : Nat) (tb : Nat → Nat) (p : Nat) (m : Ob) (A : Option (Ob × Ob)) (B : Option (Int32 × Ob)) (G : Ob → Ob → Prop) : Prop :=
  (∃ e t oc' od' m', A = some (oc', od') ∧ B = some (nI 0, m') ∧ G oc' m' ∧ RdS od' (rn isB n tb e) t ∧ gi m' 24 = nI e ∧ p < e ∧ e ≤ n ∧ frm kO m m') ∨ (∃ f q oc' od' m', A = some (oc', od') ∧ B = some (nI f, m') ∧ RdF od' f q ∧ gi m' 23 = nI q ∧ frm kC m m')
theorem on_code : (419 : Int64) = lN (wcode 2) := by decide
/-- behind the numbers of a suit: 'on', the stop -/
theorem t_suit2 {n : Nat} {tb : Nat → Nat} {ot m od oc : Ob} {p t a p0 : Nat} {c : CD} (hc : OKC c) (hS : c.S < 6) {v1 v2 : Nat} (hv1 : 1 ≤ v1 ∧ v1 < 1000) (hv2 : 1 ≤ v2 ∧ v2 < 400) (hT : TX n tb ot m) (hr : RdS od p t) (ha : gi m 24 = nI a) (han : a ≤ n) (hp : rn isB n tb a = p) (hp0 : p0 < a)
    (h29 : gi m 29 = nI c.S) (hW : gi m 33 = nI c.W) (hm : ∀ s, s < c.S → ga m 30 s = nI (c.need s) ∧ ga m 31 s = nI (c.fall s) ∧ ga m 32 s = nO (c.hang s)) (hm2 : ga m 30 c.S = nI v1 ∧ ga m 31 c.S = nI v2 ∧ ga m 32 c.S = nO 0) (hm3 : ∀ w, w < c.W → ga m 34 w = nI (c.suit w) ∧ ga m 35 w = nI (c.wt w) ∧ ga m 36 w = nI (c.kind w))
    (g0 : gi oc 0 = nI c.S) (g1 : gi oc 1 = nI c.W) (g2 : ∀ s, s < c.S → ga oc 2 s = nI (c.need s) ∧ ga oc 3 s = nI (c.fall s) ∧ ga oc 4 s = nO (c.hang s)) (g3 : ga oc 2 c.S = nI v1 ∧ ga oc 3 c.S = nI v2) (g4 : ∀ w, w < c.W → ga oc 5 w = nI (c.suit w) ∧ ga oc 6 w = nI (c.wt w) ∧ ga oc 7 w = nI (c.kind w)) :
    ClOut n tb p0 m (Option.bind (pX5_takesWord 2 od ot) fun (r5 : Int32 × Ob) => zjn (fun (x6 : Int32) (o7 : Ob) => zgd (gi oc 0) 6 <| zlet (sa oc 4 (upd (ga oc 4) ((gi oc 0).toNatClampNeg) x6)) fun (o8 : Ob) => Option.bind (pX5_takeSemicolon o7 ot) fun (r9 : Ob) => zlet (si o8 0 ((gi o8 0) + (1 : Int32))) fun (o10 : Ob) => some (o10, r9)) fun (K81 : Int32 → Ob → Option (Ob × Ob)) => if (r5.1) = 0 then (K81 (-1 : Int32) (r5.2)) else (Option.bind (pX5_takeNumber (r5.2) ot (0 : Int32) ((gi oc 0) - (1 : Int32))) fun (r11 : Int32 × Ob) => K81 (r11.1) (r11.2)))
      (Option.bind (zjn (fun (x7 : Int32) (o8 : Ob) => zlet (si o8 29 ((gi o8 29) + (1 : Int32))) fun (o9 : Ob) => some (x7, o9)) fun (K114 : Int32 → Ob → Option (Int32 × Ob)) => (Option.bind (pX11_readWord m) fun (r10 : Ob) => if (gl r10 25) = (419 : Int64) then (zlet (si r10 24 (gi r10 26)) fun (o11 : Ob) => Option.bind (pX11_takeNumber o11 (0 : Int32) ((gi o11 29) - (1 : Int32))) fun (r12 : Int32 × Ob) => zgd (gi (r12.2) 29) 6 <| zlet (sa (r12.2) 32 (upd (ga (r12.2) 32) ((gi (r12.2) 29).toNatClampNeg) (gi (r12.2) 27))) fun (o13 : Ob) => K114 (r12.1) o13) else (K114 (nI 0) r10))) fun (r9 : Int32 × Ob) => if r9.1 ≤ 0 then (Option.bind (pX11_takeStop r9.2) fun (r7 : Int32 × Ob) => some ((r7.1), (r7.2))) else (some (r9.1, r9.2))) (fun oc' m' => ∃ c', OKC c' ∧ CC c' oc' ∧ MR c' m') := by
  have hn := hT.1
  have h6 := hc.1
  obtain ⟨m1, w1, w2, w3, w4, w5⟩ := m_word hT ha han
  rw [hp] at w2 w3 w4
  have hpn : p ≤ n := by rw [← hp]; exact rn_le han
  have hap : a ≤ p := by rw [← hp]; exact rn_ge _ _ _ _
  have l0 : nI 0 ≤ (0 : Int32) := by decide
  -- what stands at the end
  have fin : ∀ (e : Nat) (o : Ob) (m' : Ob), e ≤ c.S → (∀ s, s < c.S → ga m' 30 s = nI (c.need s) ∧ ga m' 31 s = nI (c.fall s) ∧ ga m' 32 s = nO (c.hang s)) → (ga m' 30 c.S = nI v1 ∧ ga m' 31 c.S = nI v2 ∧ ga m' 32 c.S = nO e) → (∀ w, w < c.W → ga m' 34 w = nI (c.suit w) ∧ ga m' 35 w = nI (c.wt w) ∧ ga m' 36 w = nI (c.kind w)) → gi m' 29 = nI (c.S + 1) → gi m' 33 = nI c.W → ∃ c', OKC c' ∧ CC c' (si (sa oc 4 (upd (ga oc 4) c.S (nO e))) 0 (nI (c.S + 1))) ∧ MR c' m' := by
    intro e o m' he y1 y2 y3 y4 y5
    refine ⟨addS c v1 v2 e, OKC_addS hc hS hv1 hv2 he, ⟨rfl, g1, fun s hs => ?_, g4⟩, ⟨y4, y5, fun s hs => ?_, y3⟩⟩
    · have hs' : s < c.S + 1 := hs
      rw [ga_si, ga_si, ga_si, ga_sa, if_neg (by decide), ga_sa, if_neg (by decide), ga_sa, if_pos rfl, upd_ap]
      show ga oc 2 s = nI (nup c.need c.S v1 s) ∧ ga oc 3 s = nI (nup c.fall c.S v2 s) ∧ _ = nO (nup c.hang c.S e s)
      by_cases q : s = c.S
      · subst q; rw [nup_s, nup_s, nup_s, if_pos rfl]; exact ⟨g3.1, g3.2, rfl⟩
      · rw [nup_n _ _ q, nup_n _ _ q, nup_n _ _ q, if_neg q]; exact g2 s (by omega)
    · have hs' : s < c.S + 1 := hs
      show ga m' 30 s = nI (nup c.need c.S v1 s) ∧ ga m' 31 s = nI (nup c.fall c.S v2 s) ∧ ga m' 32 s = nO (nup c.hang c.S e s)
      by_cases q : s = c.S
      · subst q; rw [nup_s, nup_s, nup_s]; exact y2
      · rw [nup_n _ _ q, nup_n _ _ q, nup_n _ _ q]; exact y1 s (by omega)
  -- the class's end: store, stop
  have clsK : ∀ (x : Int32) (o r9 : Ob), pX5_takeSemicolon o ot = some r9 → (fun (x6 : Int32) (o7 : Ob) => zgd (gi oc 0) 6 <| zlet (sa oc 4 (upd (ga oc 4) ((gi oc 0).toNatClampNeg) x6)) fun (o8 : Ob) => Option.bind (pX5_takeSemicolon o7 ot) fun (r9 : Ob) => zlet (si o8 0 ((gi o8 0) + (1 : Int32))) fun (o10 : Ob) => some (o10, r9)) x o = some (si (sa oc 4 (upd (ga oc 4) c.S x)) 0 (nI (c.S + 1)), r9) := by
    intro x o r9 hx
    show zgd (gi oc 0) 6 _ = _
    rw [g0, u_gd (by omega), nI_clamp (by omega), u_let, hx, u_bd, u_let, gi_sa, g0, u_lit, nI_add]
  obtain ⟨wy, wn⟩ := h_word hT hr hpn (w := 2) (by omega)
  by_cases g : isW n tb 2 p
  · -- 'on'
    obtain ⟨od1, s1, s2⟩ := wy g
    have e1 : gl m1 25 = (419 : Int64) := by rw [on_code]; exact (w4 2 (by omega)).mpr g
    have hL : rn isL n tb p = p + wlen 2 := g.1
    have hLn : p + wlen 2 ≤ n := by rw [← hL]; exact rn_le hpn
    have f1 : frm kO m (si m1 24 (gi m1 26)) := frm_si (frm_mono w5 (by decide)) (by decide) _
    have a1 : gi (si m1 24 (gi m1 26)) 24 = nI (p + wlen 2) := by rw [gi_si, if_pos rfl, w3, hL]
    have b29 : gi (si m1 24 (gi m1 26)) 29 = nI c.S := by rw [gi_si, if_neg (by decide), (w5 29 (by decide)).1]; exact h29
    have hl2 : wlen 2 = 2 := rfl
    rcases t_num (lo := 0) (h := c.S) (TX_frm hT f1 (by decide) (by decide)) s2 a1 hLn rfl (by omega) (by omega) with ⟨v, e, od2, m2, x1, x2, x3, x4, x5, x6, x7, x8, x9, x10, x11⟩ | ⟨f, od2, m2, x1, x2, x3, x4, x5⟩
    · -- the number stands
      have f2 : frm kO m m2 := frm_tr f1 (frm_mono x11 (by decide))
      have c29 : gi m2 29 = nI c.S := by rw [(x11 29 (by decide)).1]; exact b29
      have f3 : frm kO m (si (sa m2 32 (upd (ga m2 32) c.S (nI v))) 29 (nI (c.S + 1))) := frm_si (frm_sa f2 (by decide) _) (by decide) _
      have fld : ∀ k, 30 ≤ k → k ≤ 36 → ga m2 k = ga m k := fun k h1 h2 => by
        rcases (show k = 30 ∨ k = 31 ∨ k = 32 ∨ k = 33 ∨ k = 34 ∨ k = 35 ∨ k = 36 by omega) with rfl | rfl | rfl | rfl | rfl | rfl | rfl <;>
          exact ((x11 _ (by decide)).2.2.1).trans (w5 _ (by decide)).2.2.1
      have c33 : gi m2 33 = nI c.W := by rw [(x11 33 (by decide)).1]; rw [gi_si, if_neg (by decide), (w5 33 (by decide)).1]; exact hW
      have ge := rn_ge isB n tb (p + wlen 2)
      have mdl : ∀ B, Option.bind (pX11_takeStop (si (sa m2 32 (upd (ga m2 32) c.S (nI v))) 29 (nI (c.S + 1)))) (fun (r7 : Int32 × Ob) => some ((r7.1), (r7.2))) = B → (Option.bind (zjn (fun (x7 : Int32) (o8 : Ob) => zlet (si o8 29 ((gi o8 29) + (1 : Int32))) fun (o9 : Ob) => some (x7, o9)) fun (K114 : Int32 → Ob → Option (Int32 × Ob)) => (Option.bind (pX11_readWord m) fun (r10 : Ob) => if (gl r10 25) = (419 : Int64) then (zlet (si r10 24 (gi r10 26)) fun (o11 : Ob) => Option.bind (pX11_takeNumber o11 (0 : Int32) ((gi o11 29) - (1 : Int32))) fun (r12 : Int32 × Ob) => zgd (gi (r12.2) 29) 6 <| zlet (sa (r12.2) 32 (upd (ga (r12.2) 32) ((gi (r12.2) 29).toNatClampNeg) (gi (r12.2) 27))) fun (o13 : Ob) => K114 (r12.1) o13) else (K114 (nI 0) r10))) fun (r9 : Int32 × Ob) => if r9.1 ≤ 0 then (Option.bind (pX11_takeStop r9.2) fun (r7 : Int32 × Ob) => some ((r7.1), (r7.2))) else (some (r9.1, r9.2))) = B := by
        intro B hB
        rw [u_jn, w1, u_bd, if_pos e1, u_let, b29]
        show Option.bind (Option.bind (pX11_takeNumber (si m1 24 (gi m1 26)) (nI 0) (nO c.S)) _) _ = _
        rw [x2, u_bd]
        show Option.bind (zgd (gi m2 29) 6 _) _ = _
        rw [c29, u_gd (by omega), nI_clamp (by omega), x9, u_let]
        show Option.bind (zlet (si (sa m2 32 (upd (ga m2 32) c.S (nI v))) 29 (gi (sa m2 32 (upd (ga m2 32) c.S (nI v))) 29 + nI 1)) fun (o9 : Ob) => some (nI 0, o9)) _ = _
        rw [u_let, gi_sa, c29, nI_add, u_bd]
        show (if nI 0 ≤ (0 : Int32) then _ else _ : Option (Int32 × Ob)) = _
        rw [if_pos l0]
        exact hB
      have cls : ∀ A (r9 : Ob), pX5_takeSemicolon od2 ot = some r9 → some (si (sa oc 4 (upd (ga oc 4) c.S (nI v))) 0 (nI (c.S + 1)), r9) = A → (Option.bind (pX5_takesWord 2 od ot) fun (r5 : Int32 × Ob) => zjn (fun (x6 : Int32) (o7 : Ob) => zgd (gi oc 0) 6 <| zlet (sa oc 4 (upd (ga oc 4) ((gi oc 0).toNatClampNeg) x6)) fun (o8 : Ob) => Option.bind (pX5_takeSemicolon o7 ot) fun (r9 : Ob) => zlet (si o8 0 ((gi o8 0) + (1 : Int32))) fun (o10 : Ob) => some (o10, r9)) fun (K81 : Int32 → Ob → Option (Ob × Ob)) => if (r5.1) = 0 then (K81 (-1 : Int32) (r5.2)) else (Option.bind (pX5_takeNumber (r5.2) ot (0 : Int32) ((gi oc 0) - (1 : Int32))) fun (r11 : Int32 × Ob) => K81 (r11.1) (r11.2))) = A := by
        intro A r9 h9 hA
        rw [s1, u_bd, u_jn]
        show (if nI 1 = (0 : Int32) then _ else _ : Option (Ob × Ob)) = _
        rw [if_neg (by decide)]
        rw [← hA, ← clsK (nI v) od2 r9 h9]
        show Option.bind (pX5_takeNumber od1 ot (nI 0) (gi oc 0 - nI 1)) _ = _
        rw [g0]
        show Option.bind (pX5_takeNumber od1 ot (nI 0) (nO c.S)) _ = _
        rw [x1, u_bd]
      have hT3 := TX_frm hT f3 (by decide) (by decide)
      rcases t_stop (a := e) hT3 x7 (by rw [gi_si, if_neg (by decide), gi_sa]; exact x8) x6 rfl with ⟨od3, m3, z1, z2, z3, z4, z5, z6⟩ | ⟨f, od3, m3, z1, z2, z3, z4, z5⟩
      · left
        refine ⟨rn isB n tb e + 1, rn isB n tb e, _, od3, m3, cls _ od3 z1 rfl, mdl _ (by rw [z2, u_bd]), ?_, z4, z5, ?_, by omega, frm_tr f3 (frm_mono z6 (by decide))⟩
        · rw [← nO_s]
          have e32 : ga m3 32 = upd (ga m2 32) c.S (nI v) := by rw [(z6 32 (by decide)).2.2.1, ga_si, ga_sa, if_pos rfl]
          have eo : ∀ k, k ≠ 32 → 30 ≤ k → k ≤ 36 → ga m3 k = ga m k := fun k h0 h1 h2 => by
            rw [(z6 k (by simp only [List.mem_cons, List.not_mem_nil, or_false]; omega)).2.2.1, ga_si, ga_sa, if_neg h0]
            exact fld k h1 h2
          refine fin (v + 1) oc m3 (by omega) (fun s hs => ?_) ?_ (fun w hw => ?_) ?_ ?_
          · rw [eo 30 (by decide) (by omega) (by omega), eo 31 (by decide) (by omega) (by omega), e32, upd_ap, if_neg (by omega), fld 32 (by omega) (by omega)]
            exact hm s hs
          · rw [eo 30 (by decide) (by omega) (by omega), eo 31 (by decide) (by omega) (by omega), e32, upd_ap, if_pos rfl, nO_s]
            exact ⟨hm2.1, hm2.2.1, rfl⟩
          · rw [eo 34 (by decide) (by omega) (by omega), eo 35 (by decide) (by omega) (by omega), eo 36 (by decide) (by omega) (by omega)]
            exact hm3 w hw
          · rw [(z6 29 (by decide)).1, gi_si, if_pos rfl]
          · rw [(z6 33 (by decide)).1, gi_si, if_neg (by decide), gi_sa]; exact c33
        · have := rn_ge isB n tb e
          omega
      · right
        exact ⟨f, rn isB n tb e, _, od3, m3, cls _ od3 z1 rfl, mdl _ (by rw [z2, u_bd]), z3, z4, frm_tr (kOC f3) (frm_mono z5 (by decide))⟩
    · -- a fault in the number
      right
      have hf := x3
      obtain ⟨f0, f4, _, _⟩ := x3
      have c29 : gi m2 29 = nI c.S := by rw [(x5 29 (by decide)).1]; exact b29
      refine ⟨f, rn isB n tb (p + wlen 2), si (sa oc 4 (upd (ga oc 4) c.S (nI 0))) 0 (nI (c.S + 1)), od2, si (sa m2 32 (upd (ga m2 32) c.S (gi m2 27))) 29 (nI (c.S + 1)), ?_, ?_, hf, ?_, frm_si (frm_sa (frm_tr (kOC f1) (frm_mono x5 (by decide))) (by decide) _) (by decide) _⟩
      · rw [s1, u_bd, u_jn]
        show (if nI 1 = (0 : Int32) then _ else _ : Option (Ob × Ob)) = _
        rw [if_neg (by decide)]
        rw [← clsK (nI 0) od2 od2 (h_stopF hf)]
        show Option.bind (pX5_takeNumber od1 ot (nI 0) (gi oc 0 - nI 1)) _ = _
        rw [g0]
        show Option.bind (pX5_takeNumber od1 ot (nI 0) (nO c.S)) _ = _
        rw [x1, u_bd]
      · rw [u_jn, w1, u_bd, if_pos e1, u_let, b29]
        show Option.bind (Option.bind (pX11_takeNumber (si m1 24 (gi m1 26)) (nI 0) (nO c.S)) _) _ = _
        rw [x2, u_bd]
        show Option.bind (zgd (gi m2 29) 6 _) _ = _
        rw [c29, u_gd (by omega), nI_clamp (by omega), u_let]
        show Option.bind (zlet (si (sa m2 32 (upd (ga m2 32) c.S (gi m2 27))) 29 (gi (sa m2 32 (upd (ga m2 32) c.S (gi m2 27))) 29 + nI 1)) fun (o9 : Ob) => some (nI f, o9)) _ = _
        rw [u_let, gi_sa, c29, nI_add, u_bd]
        show (if nI f ≤ (0 : Int32) then _ else _ : Option (Int32 × Ob)) = _
        rw [if_neg (nI_nle f0 (by omega))]
      · rw [gi_si, if_neg (by decide), gi_sa]; exact x4
  · -- no 'on'
    have e1 : ¬ gl m1 25 = (419 : Int64) := by rw [on_code]; exact fun r => g ((w4 2 (by omega)).mp r)
    have c29 : gi m1 29 = nI c.S := by rw [(w5 29 (by decide)).1]; exact h29
    have f3 : frm kO m (si m1 29 (nI (c.S + 1))) := frm_si (frm_mono w5 (by decide)) (by decide) _
    have mdl : ∀ B, Option.bind (pX11_takeStop (si m1 29 (nI (c.S + 1)))) (fun (r7 : Int32 × Ob) => some ((r7.1), (r7.2))) = B → (Option.bind (zjn (fun (x7 : Int32) (o8 : Ob) => zlet (si o8 29 ((gi o8 29) + (1 : Int32))) fun (o9 : Ob) => some (x7, o9)) fun (K114 : Int32 → Ob → Option (Int32 × Ob)) => (Option.bind (pX11_readWord m) fun (r10 : Ob) => if (gl r10 25) = (419 : Int64) then (zlet (si r10 24 (gi r10 26)) fun (o11 : Ob) => Option.bind (pX11_takeNumber o11 (0 : Int32) ((gi o11 29) - (1 : Int32))) fun (r12 : Int32 × Ob) => zgd (gi (r12.2) 29) 6 <| zlet (sa (r12.2) 32 (upd (ga (r12.2) 32) ((gi (r12.2) 29).toNatClampNeg) (gi (r12.2) 27))) fun (o13 : Ob) => K114 (r12.1) o13) else (K114 (nI 0) r10))) fun (r9 : Int32 × Ob) => if r9.1 ≤ 0 then (Option.bind (pX11_takeStop r9.2) fun (r7 : Int32 × Ob) => some ((r7.1), (r7.2))) else (some (r9.1, r9.2))) = B := by
      intro B hB
      rw [u_jn, w1, u_bd, if_neg e1]
      show Option.bind (zlet (si m1 29 (gi m1 29 + nI 1)) fun (o9 : Ob) => some (nI 0, o9)) _ = _
      rw [u_let, c29, nI_add, u_bd]
      show (if nI 0 ≤ (0 : Int32) then _ else _ : Option (Int32 × Ob)) = _
      rw [if_pos l0]
      exact hB
    have cls : ∀ A (r9 : Ob), pX5_takeSemicolon od ot = some r9 → some (si (sa oc 4 (upd (ga oc 4) c.S (nO 0))) 0 (nI (c.S + 1)), r9) = A → (Option.bind (pX5_takesWord 2 od ot) fun (r5 : Int32 × Ob) => zjn (fun (x6 : Int32) (o7 : Ob) => zgd (gi oc 0) 6 <| zlet (sa oc 4 (upd (ga oc 4) ((gi oc 0).toNatClampNeg) x6)) fun (o8 : Ob) => Option.bind (pX5_takeSemicolon o7 ot) fun (r9 : Ob) => zlet (si o8 0 ((gi o8 0) + (1 : Int32))) fun (o10 : Ob) => some (o10, r9)) fun (K81 : Int32 → Ob → Option (Ob × Ob)) => if (r5.1) = 0 then (K81 (-1 : Int32) (r5.2)) else (Option.bind (pX5_takeNumber (r5.2) ot (0 : Int32) ((gi oc 0) - (1 : Int32))) fun (r11 : Int32 × Ob) => K81 (r11.1) (r11.2))) = A := by
      intro A r9 h9 hA
      rw [wn g, u_bd, u_jn]
      show (if nI 0 = (0 : Int32) then _ else _ : Option (Ob × Ob)) = _
      rw [if_pos (show nI 0 = (0 : Int32) from rfl)]
      rw [← hA, ← clsK (nO 0) od r9 h9]
      rfl
    have hT3 := TX_frm hT f3 (by decide) (by decide)
    have a3 : gi (si m1 29 (nI (c.S + 1))) 24 = nI p := by rw [gi_si, if_neg (by decide)]; exact w2
    have hpp : rn isB n tb p = p := by rw [← hp]; exact rn_idem _ _ _ _
    rcases t_stop hT3 hr a3 hpn hpp with ⟨od3, m3, z1, z2, z3, z4, z5, z6⟩ | ⟨f, od3, m3, z1, z2, z3, z4, z5⟩
    · left
      refine ⟨p + 1, p, _, od3, m3, cls _ od3 z1 rfl, mdl _ (by rw [z2, u_bd]), ?_, z4, z5, by omega, z3, frm_tr f3 (frm_mono z6 (by decide))⟩
      have eo : ∀ k, 30 ≤ k → k ≤ 36 → ga m3 k = ga m k := fun k h1 h2 => by
        rw [(z6 k (by simp only [List.mem_cons, List.not_mem_nil, or_false]; omega)).2.2.1, ga_si, (w5 k (by simp only [List.mem_cons, List.not_mem_nil, or_false]; omega)).2.2.1]
      refine fin 0 oc m3 (by omega) (fun s hs => ?_) ?_ (fun w hw => ?_) ?_ ?_
      · rw [eo 30 (by omega) (by omega), eo 31 (by omega) (by omega), eo 32 (by omega) (by omega)]
        exact hm s hs
      · rw [eo 30 (by omega) (by omega), eo 31 (by omega) (by omega), eo 32 (by omega) (by omega)]
        exact hm2
      · rw [eo 34 (by omega) (by omega), eo 35 (by omega) (by omega), eo 36 (by omega) (by omega)]
        exact hm3 w hw
      · rw [(z6 29 (by decide)).1, gi_si, if_pos rfl]
      · rw [(z6 33 (by decide)).1, gi_si, if_neg (by decide), (w5 33 (by decide)).1]; exact hW
    · right
      exact ⟨f, p, _, od3, m3, cls _ od3 z1 rfl, mdl _ (by rw [z2, u_bd]), z3, z4, frm_tr (kOC f3) (frm_mono z5 (by decide))⟩
