/-! a suit's clause -/
theorem ClOut_frm {n : Nat} {tb : Nat → Nat} {p : Nat} {m m1 : Ob} {A : Option (Ob × Ob)} {B : Option (Int32 × Ob)} {G : Ob → Ob → Prop} (f : frm kO m m1) (h : ClOut n tb p m1 A B G) : ClOut n tb p m A B G := by
  rcases h with ⟨e, t, oc', od', m', h1, h2, h3, h4, h5, h6, h7, h8⟩ | ⟨g, q, oc', od', m', h1, h2, h3, h4, h5⟩
  · exact Or.inl ⟨e, t, oc', od', m', h1, h2, h3, h4, h5, h6, h7, frm_tr f h8⟩
  · exact Or.inr ⟨g, q, oc', od', m', h1, h2, h3, h4, frm_tr (kOC f) h5⟩
theorem ClOut_lo {n : Nat} {tb : Nat → Nat} {p p' : Nat} {m : Ob} {A : Option (Ob × Ob)} {B : Option (Int32 × Ob)} {G : Ob → Ob → Prop} (hp : p' ≤ p) (h : ClOut n tb p m A B G) : ClOut n tb p' m A B G := by
  rcases h with ⟨e, t, oc', od', m', h1, h2, h3, h4, h5, h6, h7, h8⟩ | h
  · exact Or.inl ⟨e, t, oc', od', m', h1, h2, h3, h4, h5, by omega, h7, h8⟩
  · exact Or.inr h
theorem l999 : (999 : Int32) = nO 1000 := by decide
theorem l399 : (399 : Int32) = nO 400 := by decide
theorem l99 : (99 : Int32) = nO 100 := by decide
theorem l60 : (60 : Int32) = nO 61 := by decide
theorem l6 : (6 : Int32) = nO 7 := by decide
theorem u_le0 : (nI 0 ≤ (0 : Int32)) = True := by decide
theorem u_nle0 {f : Nat} (h : 0 < f ∧ f ≤ 4) : (nI f ≤ (0 : Int32)) = False := eq_false (nI_nle h.1 (by omega))
theorem u_ne0 {f : Nat} (h : 0 < f ∧ f ≤ 4) : (nI f = (0 : Int32)) = False := eq_false (nI_ne0 h.1 (by omega))
theorem u_eq0 : (nI 0 = (0 : Int32)) = True := eq_true rfl
theorem t_suit {n : Nat} {tb : Nat → Nat} {ot m od oc : Ob} {p t a : Nat} {c : CD} (hc : OKC c) (hS : c.S < 6) (hT : TX n tb ot m) (hr : RdS od p t) (ha : gi m 24 = nI a) (han : a ≤ n) (hp : rn isB n tb a = p) (hC : CC c oc) (hM : MR c m) :
    ClOut n tb a m (pX2_readSuit oc od ot) (Option.bind (pX11_takeSuit m) fun (r9 : Int32 × Ob) => if r9.1 ≤ 0 then (Option.bind (pX11_takeStop r9.2) fun (r7 : Int32 × Ob) => some ((r7.1), (r7.2))) else (some (r9.1, r9.2))) (fun oc' m' => ∃ c', OKC c' ∧ CC c' oc' ∧ MR c' m') := by
  have hn := hT.1
  have h6 := hc.1
  have hpa : a ≤ p := by rw [← hp]; exact rn_ge _ _ _ _
  have lt6 : (nI c.S < (6 : Int32)) = True := eq_true (nI_lt (b := 6) hS (by omega))
  rcases t_num (lo := 1) (h := 1000) hT hr ha han hp (by omega) (by omega) with ⟨v1, e1, od1, m1, x1, x2, x3, x4, x5, x6, x7, x8, x9, x10, x11⟩ | ⟨f, od1, m1, x1, x2, x3, x4, x5⟩
  · -- the first number stands
    have k29 : gi m1 29 = nI c.S := by rw [(x11 29 (by decide)).1]; exact hM.1
    have f1 : frm kO m (sa m1 30 (upd (ga m1 30) c.S (nI v1))) := frm_sa (frm_mono x11 (by decide)) (by decide) _
    have hT1 := TX_frm hT f1 (by decide) (by decide)
    rcases t_num (lo := 1) (h := 400) hT1 x7 (by rw [gi_sa]; exact x8) x6 rfl (by omega) (by omega) with ⟨v2, e2, od2, m2, y1, y2, y3, y4, y5, y6, y7, y8, y9, y10, y11⟩ | ⟨f, od2, m2, y1, y2, y3, y4, y5⟩
    · -- both
      have q29 : gi m2 29 = nI c.S := by rw [(y11 29 (by decide)).1, gi_sa]; exact k29
      have q33 : gi m2 33 = nI c.W := by rw [(y11 33 (by decide)).1, gi_sa, (x11 33 (by decide)).1]; exact hM.2.1
      have fS : frm kO m (sa (sa m2 31 (upd (ga m2 31) c.S (nI v2))) 32 (upd (ga (sa m2 31 (upd (ga m2 31) c.S (nI v2))) 32) c.S (nO 0))) := frm_sa (frm_sa (frm_tr f1 (frm_mono y11 (by decide))) (by decide) _) (by decide) _
      have z30 : ga m2 30 = upd (ga m 30) c.S (nI v1) := by rw [(y11 30 (by decide)).2.2.1, ga_sa, if_pos rfl, (x11 30 (by decide)).2.2.1]
      have zo : ∀ k, k ≠ 30 → 30 ≤ k → k ≤ 36 → ga m2 k = ga m k := fun k h0 h1 h2 => by
        rw [(y11 k (by simp only [List.mem_cons, List.not_mem_nil, or_false]; omega)).2.2.1, ga_sa, if_neg h0, (x11 k (by simp only [List.mem_cons, List.not_mem_nil, or_false]; omega)).2.2.1]
      have hge := rn_ge isB n tb e1
      have q := t_suit2 (p0 := a) (oc := sa (sa oc 2 (upd (ga oc 2) c.S (nI v1))) 3 (upd (ga oc 3) c.S (nI v2))) hc hS ⟨x3, x4⟩ ⟨y3, y4⟩ (TX_frm hT fS (by decide) (by decide)) y7 (show gi _ 24 = nI e2 by rw [gi_sa, gi_sa]; exact y8) y6 rfl (by omega)
        (by rw [gi_sa, gi_sa]; exact q29) (by rw [gi_sa, gi_sa]; exact q33)
        (fun s hs => by
          simp only [ga_sa, Nat.reduceEqDiff, if_true, if_false]
          rw [z30, zo 31 (by decide) (by omega) (by omega), zo 32 (by decide) (by omega) (by omega), upd_ap, upd_ap, upd_ap, if_neg (by omega), if_neg (by omega), if_neg (by omega)]
          exact hM.2.2.1 s hs)
        (by
          simp only [ga_sa, Nat.reduceEqDiff, if_true, if_false]
          rw [z30, upd_ap, upd_ap, upd_ap, if_pos rfl, if_pos rfl, if_pos rfl]
          exact ⟨rfl, rfl, rfl⟩)
        (fun w hw => by
          simp only [ga_sa, Nat.reduceEqDiff, if_true, if_false]
          rw [zo 34 (by decide) (by omega) (by omega), zo 35 (by decide) (by omega) (by omega), zo 36 (by decide) (by omega) (by omega)]
          exact hM.2.2.2 w hw)
        hC.1 hC.2.1
        (fun s hs => by
          simp only [ga_sa, Nat.reduceEqDiff, if_true, if_false]
          rw [upd_ap, upd_ap, if_neg (by omega), if_neg (by omega)]
          exact hC.2.2.1 s hs)
        (by
          simp only [ga_sa, Nat.reduceEqDiff, if_true, if_false]
          rw [upd_ap, upd_ap, if_pos rfl, if_pos rfl]
          exact ⟨rfl, rfl⟩)
        (fun w hw => by
          simp only [ga_sa, Nat.reduceEqDiff, if_true, if_false]
          exact hC.2.2.2 w hw)
      refine ClOut_frm fS ?_
      have eA : ∀ A, (Option.bind (pX5_takesWord 2 od2 ot) fun (r5 : Int32 × Ob) => zjn (fun (x6 : Int32) (o7 : Ob) => zgd (gi (sa (sa oc 2 (upd (ga oc 2) c.S (nI v1))) 3 (upd (ga oc 3) c.S (nI v2))) 0) 6 <| zlet (sa (sa (sa oc 2 (upd (ga oc 2) c.S (nI v1))) 3 (upd (ga oc 3) c.S (nI v2))) 4 (upd (ga (sa (sa oc 2 (upd (ga oc 2) c.S (nI v1))) 3 (upd (ga oc 3) c.S (nI v2))) 4) ((gi (sa (sa oc 2 (upd (ga oc 2) c.S (nI v1))) 3 (upd (ga oc 3) c.S (nI v2))) 0).toNatClampNeg) x6)) fun (o8 : Ob) => Option.bind (pX5_takeSemicolon o7 ot) fun (r9 : Ob) => zlet (si o8 0 ((gi o8 0) + (1 : Int32))) fun (o10 : Ob) => some (o10, r9)) fun (K81 : Int32 → Ob → Option (Ob × Ob)) => if (r5.1) = 0 then (K81 (-1 : Int32) (r5.2)) else (Option.bind (pX5_takeNumber (r5.2) ot (0 : Int32) ((gi (sa (sa oc 2 (upd (ga oc 2) c.S (nI v1))) 3 (upd (ga oc 3) c.S (nI v2))) 0) - (1 : Int32))) fun (r11 : Int32 × Ob) => K81 (r11.1) (r11.2))) = A → pX2_readSuit oc od ot = A := by
        intro A hA
        have g3 : ga (sa oc 2 (upd (ga oc 2) c.S (nI v1))) 3 = ga oc 3 := by rw [ga_sa, if_neg (by decide)]
        unfold pX2_readSuit
        rw [hC.1, if_pos (lt6 ▸ trivial), l999, show (1 : Int32) = nI 1 from rfl, x1, u_bd, u_gd (by omega), nI_clamp (by omega), u_let]
        dsimp only
        rw [l399, y1, u_bd, gi_sa, hC.1, u_gd (by omega), nI_clamp (by omega), u_let, g3]
        exact hA
      have eB : ∀ B, (Option.bind (zjn (fun (x7 : Int32) (o8 : Ob) => zlet (si o8 29 ((gi o8 29) + (1 : Int32))) fun (o9 : Ob) => some (x7, o9)) fun (K114 : Int32 → Ob → Option (Int32 × Ob)) => (Option.bind (pX11_readWord (sa (sa m2 31 (upd (ga m2 31) c.S (nI v2))) 32 (upd (ga (sa m2 31 (upd (ga m2 31) c.S (nI v2))) 32) c.S (nO 0)))) fun (r10 : Ob) => if (gl r10 25) = (419 : Int64) then (zlet (si r10 24 (gi r10 26)) fun (o11 : Ob) => Option.bind (pX11_takeNumber o11 (0 : Int32) ((gi o11 29) - (1 : Int32))) fun (r12 : Int32 × Ob) => zgd (gi (r12.2) 29) 6 <| zlet (sa (r12.2) 32 (upd (ga (r12.2) 32) ((gi (r12.2) 29).toNatClampNeg) (gi (r12.2) 27))) fun (o13 : Ob) => K114 (r12.1) o13) else (K114 (nI 0) r10))) fun (r9 : Int32 × Ob) => if r9.1 ≤ 0 then (Option.bind (pX11_takeStop r9.2) fun (r7 : Int32 × Ob) => some ((r7.1), (r7.2))) else (some (r9.1, r9.2))) = B → (Option.bind (pX11_takeSuit m) fun (r9 : Int32 × Ob) => if r9.1 ≤ 0 then (Option.bind (pX11_takeStop r9.2) fun (r7 : Int32 × Ob) => some ((r7.1), (r7.2))) else (some (r9.1, r9.2))) = B := by
        intro B hB
        unfold pX11_takeSuit
        rw [l999, l399, show (1 : Int32) = nI 1 from rfl, x2, u_bd]
        dsimp only
        rw [k29, u_gd (by omega), nI_clamp (by omega), u_let, u_jn, x9]
        rw [if_pos (u_le0 ▸ trivial), y2, u_bd]
        dsimp only
        rw [q29, u_gd (by omega), nI_clamp (by omega), u_let, y9, gi_sa, q29, u_gd (by omega), nI_clamp (by omega), u_let, u_jn, if_pos (u_eq0 ▸ trivial)]
        exact hB
      rcases q with ⟨e, t', oc', od', m', h1, h2, h3⟩ | ⟨g, r, oc', od', m', h1, h2, h3⟩
      · exact Or.inl ⟨e, t', oc', od', m', eA _ h1, eB _ h2, h3⟩
      · exact Or.inr ⟨g, r, oc', od', m', eA _ h1, eB _ h2, h3⟩
    · -- a fault in the second
      have hf := y3
      obtain ⟨f0, f4, _, _⟩ := y3
      have q29 : gi m2 29 = nI c.S := by rw [(y5 29 (by decide)).1, gi_sa]; exact k29
      right
      refine ⟨f, rn isB n tb e1, si (sa (sa (sa oc 2 (upd (ga oc 2) c.S (nI v1))) 3 (upd (ga oc 3) c.S (nI 1))) 4 (upd (ga oc 4) c.S (-1))) 0 (nI (c.S + 1)), od2, si (sa (sa m2 31 (upd (ga m2 31) c.S (gi m2 27))) 32 (upd (ga m2 32) c.S (-1))) 29 (nI (c.S + 1)), ?_, ?_, hf, ?_, frm_si (frm_sa (frm_sa (frm_tr (kOC f1) (frm_mono y5 (by decide))) (by decide) _) (by decide) _) (by decide) _⟩
      · unfold pX2_readSuit
        rw [hC.1, if_pos (lt6 ▸ trivial), l999, show (1 : Int32) = nI 1 from rfl, x1, u_bd, u_gd (by omega), nI_clamp (by omega), u_let]
        dsimp only
        rw [l399, y1, u_bd, gi_sa, hC.1, u_gd (by omega), nI_clamp (by omega), u_let]
        dsimp only
        rw [h_wordF hf, u_bd, u_jn]
        dsimp only
        rw [if_pos (u_eq0 ▸ trivial), gi_sa, gi_sa, hC.1, u_gd (by omega), nI_clamp (by omega), u_let, h_stopF hf, u_bd, u_let, gi_sa, gi_sa, gi_sa, hC.1, nI_add]
        simp only [ga_sa, Nat.reduceEqDiff, if_false]
      · unfold pX11_takeSuit
        rw [l999, l399, show (1 : Int32) = nI 1 from rfl, x2, u_bd]
        dsimp only
        rw [k29, u_gd (by omega), nI_clamp (by omega), u_let, u_jn, x9]
        rw [if_pos (u_le0 ▸ trivial), y2, u_bd]
        dsimp only
        rw [q29, u_gd (by omega), nI_clamp (by omega), u_let, gi_sa, q29, u_gd (by omega), nI_clamp (by omega), u_let, u_jn, if_neg (u_ne0 ⟨f0, f4⟩ ▸ fun h => h)]
        dsimp only
        rw [u_let, gi_sa, gi_sa, q29, nI_add, u_bd]
        dsimp only
        rw [if_neg (u_nle0 ⟨f0, f4⟩ ▸ fun h => h)]
        simp only [ga_sa, Nat.reduceEqDiff, if_false]
      · rw [gi_si, if_neg (by decide), gi_sa, gi_sa]; exact y4
  · -- a fault in the first
    have hf := x3
    obtain ⟨f0, f4, _, _⟩ := x3
    have k29 : gi m1 29 = nI c.S := by rw [(x5 29 (by decide)).1]; exact hM.1
    right
    refine ⟨f, p, si (sa (sa (sa oc 2 (upd (ga oc 2) c.S (nI 1))) 3 (upd (ga oc 3) c.S (nI 1))) 4 (upd (ga oc 4) c.S (-1))) 0 (nI (c.S + 1)), od1, si (sa (sa (sa m1 30 (upd (ga m1 30) c.S (gi m1 27))) 31 (upd (ga m1 31) c.S (gi m1 27))) 32 (upd (ga m1 32) c.S (-1))) 29 (nI (c.S + 1)), ?_, ?_, hf, ?_, frm_si (frm_sa (frm_sa (frm_sa (frm_mono x5 (by decide)) (by decide) _) (by decide) _) (by decide) _) (by decide) _⟩
    · unfold pX2_readSuit
      rw [hC.1, if_pos (lt6 ▸ trivial), l999, show (1 : Int32) = nI 1 from rfl, x1, u_bd, u_gd (by omega), nI_clamp (by omega), u_let]
      dsimp only
      rw [h_numF hf, u_bd, gi_sa, hC.1, u_gd (by omega), nI_clamp (by omega), u_let]
      dsimp only
      rw [h_wordF hf, u_bd, u_jn]
      dsimp only
      rw [if_pos (u_eq0 ▸ trivial), gi_sa, gi_sa, hC.1, u_gd (by omega), nI_clamp (by omega), u_let, h_stopF hf, u_bd, u_let, gi_sa, gi_sa, gi_sa, hC.1, nI_add]
      simp only [ga_sa, Nat.reduceEqDiff, if_false]
    · unfold pX11_takeSuit
      rw [l999, l399, show (1 : Int32) = nI 1 from rfl, x2, u_bd]
      dsimp only
      rw [k29, u_gd (by omega), nI_clamp (by omega), u_let, u_jn]
      rw [if_neg (u_nle0 ⟨f0, f4⟩ ▸ fun h => h)]
      dsimp only
      rw [gi_sa, k29, u_gd (by omega), nI_clamp (by omega), u_let, gi_sa, gi_sa, k29, u_gd (by omega), nI_clamp (by omega), u_let, u_jn, if_neg (u_ne0 ⟨f0, f4⟩ ▸ fun h => h)]
      dsimp only
      rw [u_let, gi_sa, gi_sa, gi_sa, gi_sa, k29, nI_add, u_bd]
      dsimp only
      rw [if_neg (u_nle0 ⟨f0, f4⟩ ▸ fun h => h)]
      simp only [ga_sa, gi_sa, Nat.reduceEqDiff, if_false]
    · rw [gi_si, if_neg (by decide), gi_sa, gi_sa, gi_sa]; exact x4
