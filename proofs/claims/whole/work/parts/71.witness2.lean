/-! a witness's clause -/
theorem l0 : (0 : Int32) = nI 0 := rfl
theorem t_witness {n : Nat} {tb : Nat → Nat} {ot m od oc : Ob} {p t a : Nat} {c : CD} (hc : OKC c) (hW : c.W < 12) (hT : TX n tb ot m) (hr : RdS od p t) (ha : gi m 24 = nI a) (han : a ≤ n) (hp : rn isB n tb a = p) (hC : CC c oc) (hM : MR c m) :
    ClOut n tb a m (pX2_readWitness oc od ot) (Option.bind (pX11_takeWitness m) fun (r9 : Int32 × Ob) => if r9.1 ≤ 0 then (Option.bind (pX11_takeStop r9.2) fun (r7 : Int32 × Ob) => some ((r7.1), (r7.2))) else (some (r9.1, r9.2))) (fun oc' m' => ∃ c', OKC c' ∧ CC c' oc' ∧ MR c' m') := by
  have hn := hT.1
  have h6 := hc.1
  have hpa : a ≤ p := by rw [← hp]; exact rn_ge _ _ _ _
  have lt12 : nI c.W < (12 : Int32) := nI_lt (b := 12) hW (by omega)
  have one6 : (6 : Int32) = nI 6 := rfl
  -- the class behind the suit's number: three more that do nothing if there is a fault
  have clsF : ∀ (x : Int32) (o : Ob) (f q : Nat), RdF o f q → (fun (o3 : Ob) => zgd (gi oc 1) 12 <| zlet (sa oc 5 (upd (ga oc 5) ((gi oc 1).toNatClampNeg) x)) fun (o4 : Ob) => Option.bind (pX5_takeNumber o3 ot (1 : Int32) (99 : Int32)) fun (r5 : Int32 × Ob) => zgd (gi o4 1) 12 <| zlet (sa o4 6 (upd (ga o4 6) ((gi o4 1).toNatClampNeg) (r5.1))) fun (o6 : Ob) => Option.bind (pX2_readKind (r5.2) ot) fun (r7 : Int32 × Ob) => zgd (gi o6 1) 12 <| zlet (sa o6 7 (upd (ga o6 7) ((gi o6 1).toNatClampNeg) (r7.1))) fun (o8 : Ob) => Option.bind (pX5_takeSemicolon (r7.2) ot) fun (r9 : Ob) => zlet (si o8 1 ((gi o8 1) + (1 : Int32))) fun (o10 : Ob) => some (o10, r9)) o = some (si (sa (sa (sa oc 5 (upd (ga oc 5) c.W x)) 6 (upd (ga oc 6) c.W (nI 1))) 7 (upd (ga oc 7) c.W (nI 0))) 1 (nI (c.W + 1)), o) := by
    intro x o f q hf
    dsimp only
    rw [hC.2.1, u_gd (by omega), nI_clamp (by omega), u_let, h_numF hf, u_bd, gi_sa, hC.2.1, u_gd (by omega), nI_clamp (by omega), u_let]
    dsimp only
    rw [h_kindF hf, u_bd, gi_sa, gi_sa, hC.2.1, u_gd (by omega), nI_clamp (by omega), u_let]
    dsimp only
    rw [h_stopF hf, u_bd, u_let, gi_sa, gi_sa, gi_sa, hC.2.1, show nI c.W + (1 : Int32) = nI (c.W + 1) from nI_add _ _]
    simp only [ga_sa, Nat.reduceEqDiff, if_false]
    rfl
  rcases t_num (lo := 0) (h := c.S) hT hr ha han hp (by omega) (by omega) with ⟨v, e1, od1, m1, x1, x2, x3, x4, x5, x6, x7, x8, x9, x10, x11⟩ | ⟨f, od1, m1, x1, x2, x3, x4, x5⟩
  · have k33 : gi m1 33 = nI c.W := by rw [(x11 33 (by decide)).1]; exact hM.2.1
    have k34 : ∀ w, w < c.W → ga m1 34 w = nI (c.suit w) := fun w hw => by rw [(x11 34 (by decide)).2.2.1]; exact (hM.2.2.2 w hw).1
    have own := m_own hc k33 k34 (v := v) (by omega) x9 (nI 0)
    have ws := h_wset hc hC v (by omega)
    have wl' : wset c v c.W < 4096 := Nat.lt_of_lt_of_le (wset_le c v c.W) (Nat.pow_le_pow_right (by omega) (show c.W ≤ 12 by omega))
    have bc := h_bits wl'
    rw [bsum_wset c v c.W (by omega)] at bc
    have cn := hc.2.2.2.2 v x4
    by_cases g : cnt c v c.W = 6
    · -- a seventh of the suit
      right
      obtain ⟨od2, r1, r2⟩ := h_refTaken (ot := ot) (f := 4) x7 (by omega) (by omega)
      refine ⟨4, p, si (sa (sa (sa oc 5 (upd (ga oc 5) c.W (nI v))) 6 (upd (ga oc 6) c.W (nI 1))) 7 (upd (ga oc 7) c.W (nI 0))) 1 (nI (c.W + 1)), od2, si m1 23 (nI p), ?_, ?_, r2, rfl, frm_si (frm_mono x11 (by decide)) (by decide) _⟩
      · unfold pX2_readWitness
        rw [hC.2.1, if_pos lt12, hC.1]
        show Option.bind (pX5_takeNumber od ot (nI 0) (nO c.S)) _ = _
        rw [x1, u_bd]
        dsimp only
        rw [h_soundS x7, u_bd, u_jn]
        dsimp only
        rw [if_neg (show ¬ nI 1 = (0 : Int32) by decide), ws, u_bd, bc, u_bd, g, if_neg (show ¬ nI 6 < (6 : Int32) by decide)]
        show Option.bind (pX5_refuseTaken od1 ot (nI 4)) _ = _
        rw [r1, u_bd, ← clsF (nI v) od2 4 p r2, hC.2.1]
      · unfold pX11_takeWitness
        rw [hM.1]
        show Option.bind (Option.bind (pX11_takeNumber m (nI 0) (nO c.S)) _) _ = _
        rw [x2, u_bd]
        dsimp only
        rw [if_pos (u_le0 ▸ trivial), u_jn, own, g]
        rw [if_pos (show nI 6 = (6 : Int32) from rfl)]
        show Option.bind (Option.bind (pX11_fails m1 (nI 4) (gi m1 28)) _) _ = _
        unfold pX11_fails
        rw [x10, u_let, u_bd, u_bd]
        rfl
    · -- the weight
      have f1 : frm kO m (sa m1 34 (upd (ga m1 34) c.W (nI v))) := frm_sa (frm_mono x11 (by decide)) (by decide) _
      have hT1 := TX_frm hT f1 (by decide) (by decide)
      have pre : ∀ A, (Option.bind (pX5_takeNumber od1 ot (nI 1) (nO 100)) fun (r5 : Int32 × Ob) => zgd (gi (sa oc 5 (upd (ga oc 5) c.W (nI v))) 1) 12 <| zlet (sa (sa oc 5 (upd (ga oc 5) c.W (nI v))) 6 (upd (ga (sa oc 5 (upd (ga oc 5) c.W (nI v))) 6) ((gi (sa oc 5 (upd (ga oc 5) c.W (nI v))) 1).toNatClampNeg) (r5.1))) fun (o6 : Ob) => Option.bind (pX2_readKind (r5.2) ot) fun (r7 : Int32 × Ob) => zgd (gi o6 1) 12 <| zlet (sa o6 7 (upd (ga o6 7) ((gi o6 1).toNatClampNeg) (r7.1))) fun (o8 : Ob) => Option.bind (pX5_takeSemicolon (r7.2) ot) fun (r9 : Ob) => zlet (si o8 1 ((gi o8 1) + (1 : Int32))) fun (o10 : Ob) => some (o10, r9)) = A → pX2_readWitness oc od ot = A := by
        intro A hA
        unfold pX2_readWitness
        rw [hC.2.1, if_pos lt12, hC.1]
        show Option.bind (pX5_takeNumber od ot (nI 0) (nO c.S)) _ = _
        rw [x1, u_bd]
        dsimp only
        rw [h_soundS x7, u_bd, u_jn]
        dsimp only
        rw [if_neg (show ¬ nI 1 = (0 : Int32) by decide), ws, u_bd, bc, u_bd, if_pos (show nI (cnt c v c.W) < (6 : Int32) from nI_lt (b := 6) (by omega) (by omega)), u_gd (by omega), nI_clamp (by omega), u_let]
        rw [l99]
        exact hA
      have preM : ∀ B, (Option.bind (Option.bind (pX11_takeNumber (sa m1 34 (upd (ga m1 34) c.W (nI v))) (nI 1) (nO 100)) fun (r4 : Int32 × Ob) => zgd (gi (r4.2) 33) 12 <| zlet (sa (r4.2) 35 (upd (ga (r4.2) 35) ((gi (r4.2) 33).toNatClampNeg) (gi (r4.2) 27))) fun (o5 : Ob) => zjn (fun (x6 : Int32) (o7 : Ob) => zlet (si o7 33 ((gi o7 33) + (1 : Int32))) fun (o8 : Ob) => some (x6, o8)) fun (K119 : Int32 → Ob → Option (Int32 × Ob)) => if (r4.1) ≤ 0 then (Option.bind (pX11_takeKind o5) fun (r9 : Int32 × Ob) => K119 (r9.1) (r9.2)) else (K119 (r4.1) o5)) fun (r9 : Int32 × Ob) => if r9.1 ≤ 0 then (Option.bind (pX11_takeStop r9.2) fun (r7 : Int32 × Ob) => some ((r7.1), (r7.2))) else (some (r9.1, r9.2))) = B → (Option.bind (pX11_takeWitness m) fun (r9 : Int32 × Ob) => if r9.1 ≤ 0 then (Option.bind (pX11_takeStop r9.2) fun (r7 : Int32 × Ob) => some ((r7.1), (r7.2))) else (some (r9.1, r9.2))) = B := by
        intro B hB
        unfold pX11_takeWitness
        rw [hM.1]
        show Option.bind (Option.bind (pX11_takeNumber m (nI 0) (nO c.S)) _) _ = _
        rw [x2, u_bd]
        dsimp only
        rw [if_pos (u_le0 ▸ trivial), u_jn, own]
        rw [if_neg (show ¬ nI (cnt c v c.W) = (6 : Int32) from fun r => g ((nI_eq (a := cnt c v c.W) (b := 6) (by omega) (by omega)).mp r)), k33, u_gd (by omega), nI_clamp (by omega), x9, u_let]
        rw [l99]
        exact hB
      rcases t_num (lo := 1) (h := 100) hT1 x7 (by rw [gi_sa]; exact x8) x6 rfl (by omega) (by omega) with ⟨v2, e2, od2, m2, y1, y2, y3, y4, y5, y6, y7, y8, y9, y10, y11⟩ | ⟨f, od2, m2, y1, y2, y3, y4, y5⟩
      · have q33 : gi m2 33 = nI c.W := by rw [(y11 33 (by decide)).1, gi_sa]; exact k33
        have f2 : frm kO m (sa m2 35 (upd (ga m2 35) c.W (nI v2))) := frm_sa (frm_tr f1 (frm_mono y11 (by decide))) (by decide) _
        have hT2 := TX_frm hT f2 (by decide) (by decide)
        rcases t_kind hT2 y7 (by rw [gi_sa]; exact y8) y6 rfl hW (by rw [gi_sa]; exact q33) with ⟨k, e3, od3, m3, z1, z2, z3, z4, z5, z6, z7, z8, z9⟩ | ⟨od3, m3, z1, z2, z3, z4, z5⟩
        · have r33 : gi m3 33 = nI c.W := by rw [(z9 33 (by decide)).1, gi_sa]; exact q33
          have f3 : frm kO m (si m3 33 (nI (c.W + 1))) := frm_si (frm_tr f2 (frm_mono z9 (by decide))) (by decide) _
          have hT3 := TX_frm hT f3 (by decide) (by decide)
          have clsE : ∀ (od4 : Ob), pX5_takeSemicolon od3 ot = some od4 → pX2_readWitness oc od ot = some (si (sa (sa (sa oc 5 (upd (ga oc 5) c.W (nI v))) 6 (upd (ga oc 6) c.W (nI v2))) 7 (upd (ga oc 7) c.W (nI k))) 1 (nI (c.W + 1)), od4) := by
            intro od4 h4
            refine pre _ ?_
            rw [y1, u_bd]
            dsimp only
            rw [gi_sa, hC.2.1, u_gd (by omega), nI_clamp (by omega), u_let, z1, u_bd]
            dsimp only
            rw [gi_sa, gi_sa, hC.2.1, u_gd (by omega), nI_clamp (by omega), u_let, h4, u_bd, u_let, gi_sa, gi_sa, gi_sa, hC.2.1, show nI c.W + (1 : Int32) = nI (c.W + 1) from nI_add _ _]
            simp only [ga_sa, Nat.reduceEqDiff, if_false]
          have mdlE : ∀ B, Option.bind (pX11_takeStop (si m3 33 (nI (c.W + 1)))) (fun (r7 : Int32 × Ob) => some ((r7.1), (r7.2))) = B → (Option.bind (pX11_takeWitness m) fun (r9 : Int32 × Ob) => if r9.1 ≤ 0 then (Option.bind (pX11_takeStop r9.2) fun (r7 : Int32 × Ob) => some ((r7.1), (r7.2))) else (some (r9.1, r9.2))) = B := by
            intro B hB
            refine preM _ ?_
            rw [y2, u_bd]
            dsimp only
            rw [q33, u_gd (by omega), nI_clamp (by omega), y9, u_let, u_jn, if_pos (u_le0 ▸ trivial), z2, u_bd]
            dsimp only
            rw [u_let, r33, show nI c.W + (1 : Int32) = nI (c.W + 1) from nI_add _ _, u_bd]
            dsimp only
            rw [if_pos (u_le0 ▸ trivial)]
            exact hB
          rcases t_stop hT3 z4 (by rw [gi_si, if_neg (by decide)]; exact z5) z7 rfl with ⟨od4, m4, s1, s2, s3, s4, s5, s6⟩ | ⟨f, od4, m4, s1, s2, s3, s4, s5⟩
          · left
            have ge1 := rn_ge isB n tb e1
            have ge2 := rn_ge isB n tb e2
            have ge3 := rn_ge isB n tb e3
            refine ⟨rn isB n tb e3 + 1, rn isB n tb e3, _, od4, m4, clsE od4 s1, mdlE _ (by rw [s2, u_bd]), ?_, s4, s5, by omega, by omega, frm_tr f3 (frm_mono s6 (by decide))⟩
            have z34 : ga m4 34 = upd (ga m 34) c.W (nI v) := by
              rw [(s6 34 (by decide)).2.2.1, ga_si, (z9 34 (by decide)).2.2.1, ga_sa, if_neg (by decide), (y11 34 (by decide)).2.2.1, ga_sa, if_pos rfl, (x11 34 (by decide)).2.2.1]
            have z35 : ga m4 35 = upd (ga m 35) c.W (nI v2) := by
              rw [(s6 35 (by decide)).2.2.1, ga_si, (z9 35 (by decide)).2.2.1, ga_sa, if_pos rfl, (y11 35 (by decide)).2.2.1, ga_sa, if_neg (by decide), (x11 35 (by decide)).2.2.1]
            have z36 : ga m4 36 = upd (ga m 36) c.W (nI k) := by
              rw [(s6 36 (by decide)).2.2.1, ga_si, z8, ga_sa, if_neg (by decide), (y11 36 (by decide)).2.2.1, ga_sa, if_neg (by decide), (x11 36 (by decide)).2.2.1]
            have zo : ∀ k, 29 ≤ k → k ≤ 32 → ga m4 k = ga m k ∧ gi m4 k = gi m k := fun k h1 h2 => by
              have n6 : k ∉ [24] := by simp only [List.mem_cons, List.not_mem_nil, or_false]; omega
              have n9 : k ∉ [24, 25, 26, 36] := by simp only [List.mem_cons, List.not_mem_nil, or_false]; omega
              have n11 : k ∉ [24, 27, 28] := by simp only [List.mem_cons, List.not_mem_nil, or_false]; omega
              rw [(s6 k n6).2.2.1, (s6 k n6).1, ga_si, gi_si, if_neg (by omega), (z9 k n9).2.2.1, (z9 k n9).1, ga_sa, if_neg (by omega), gi_sa, (y11 k n11).2.2.1, (y11 k n11).1, ga_sa, if_neg (by omega), gi_sa, (x11 k n11).2.2.1, (x11 k n11).1]
              exact ⟨rfl, rfl⟩
            refine ⟨addW c v v2 k, OKC_addW hc hW x4 (by omega) ⟨y3, y4⟩ z3, ⟨hC.1, rfl, fun s hs => ?_, fun w hw => ?_⟩, ⟨?_, ?_, fun s hs => ?_, fun w hw => ?_⟩⟩
            · simp only [ga_si, ga_sa, Nat.reduceEqDiff, if_false]
              exact hC.2.2.1 s hs
            · have hw' : w < c.W + 1 := hw
              simp only [ga_si, ga_sa, Nat.reduceEqDiff, if_false, if_true, upd_ap]
              show _ = nI (nup c.suit c.W v w) ∧ _ = nI (nup c.wt c.W v2 w) ∧ _ = nI (nup c.kind c.W k w)
              by_cases q : w = c.W
              · subst q; rw [nup_s, nup_s, nup_s, if_pos rfl, if_pos rfl, if_pos rfl]; exact ⟨rfl, rfl, rfl⟩
              · rw [nup_n _ _ q, nup_n _ _ q, nup_n _ _ q, if_neg q, if_neg q, if_neg q]; exact hC.2.2.2 w (by omega)
            · rw [(zo 29 (by omega) (by omega)).2]; exact hM.1
            · rw [(s6 33 (by decide)).1, gi_si, if_pos rfl]; rfl
            · rw [(zo 30 (by omega) (by omega)).1, (zo 31 (by omega) (by omega)).1, (zo 32 (by omega) (by omega)).1]
              exact hM.2.2.1 s hs
            · have hw' : w < c.W + 1 := hw
              rw [z34, z35, z36, upd_ap, upd_ap, upd_ap]
              show _ = nI (nup c.suit c.W v w) ∧ _ = nI (nup c.wt c.W v2 w) ∧ _ = nI (nup c.kind c.W k w)
              by_cases q : w = c.W
              · subst q; rw [nup_s, nup_s, nup_s, if_pos rfl, if_pos rfl, if_pos rfl]; exact ⟨rfl, rfl, rfl⟩
              · rw [nup_n _ _ q, nup_n _ _ q, nup_n _ _ q, if_neg q, if_neg q, if_neg q]; exact hM.2.2.2 w (by omega)
          · right
            exact ⟨f, rn isB n tb e3, _, od4, m4, clsE od4 s1, mdlE _ (by rw [s2, u_bd]), s3, s4, frm_tr (kOC f3) (frm_mono s5 (by decide))⟩
        · right
          have r33 : gi m3 33 = nI c.W := by rw [(z5 33 (by decide)).1, gi_sa]; exact q33
          refine ⟨1, rn isB n tb e2, si (sa (sa (sa oc 5 (upd (ga oc 5) c.W (nI v))) 6 (upd (ga oc 6) c.W (nI v2))) 7 (upd (ga oc 7) c.W (nI 0))) 1 (nI (c.W + 1)), od3, si m3 33 (nI (c.W + 1)), pre _ ?_, preM _ ?_, z3, z4, frm_si (frm_tr (kOC f2) (frm_mono z5 (by decide))) (by decide) _⟩
          · rw [y1, u_bd]
            dsimp only
            rw [gi_sa, hC.2.1, u_gd (by omega), nI_clamp (by omega), u_let, z1, u_bd]
            dsimp only
            rw [gi_sa, gi_sa, hC.2.1, u_gd (by omega), nI_clamp (by omega), u_let, h_stopF z3, u_bd, u_let, gi_sa, gi_sa, gi_sa, hC.2.1, show nI c.W + (1 : Int32) = nI (c.W + 1) from nI_add _ _]
            simp only [ga_sa, Nat.reduceEqDiff, if_false]
          · rw [y2, u_bd]
            dsimp only
            rw [q33, u_gd (by omega), nI_clamp (by omega), y9, u_let, u_jn, if_pos (u_le0 ▸ trivial), z2, u_bd]
            dsimp only
            rw [u_let, r33, show nI c.W + (1 : Int32) = nI (c.W + 1) from nI_add _ _, u_bd]
            dsimp only
            rw [if_neg (u_nle0 (f := 1) ⟨by omega, by omega⟩ ▸ fun h => h)]
      · right
        have hf := y3
        obtain ⟨f0, f4, _, _⟩ := y3
        have q33 : gi m2 33 = nI c.W := by rw [(y5 33 (by decide)).1, gi_sa]; exact k33
        refine ⟨f, rn isB n tb e1, si (sa (sa (sa oc 5 (upd (ga oc 5) c.W (nI v))) 6 (upd (ga oc 6) c.W (nI 1))) 7 (upd (ga oc 7) c.W (nI 0))) 1 (nI (c.W + 1)), od2, si (sa m2 35 (upd (ga m2 35) c.W (gi m2 27))) 33 (nI (c.W + 1)), pre _ ?_, preM _ ?_, hf, y4, frm_si (frm_sa (frm_tr (kOC f1) (frm_mono y5 (by decide))) (by decide) _) (by decide) _⟩
        · rw [y1, u_bd]
          dsimp only
          rw [gi_sa, hC.2.1, u_gd (by omega), nI_clamp (by omega), u_let, h_kindF hf, u_bd]
          dsimp only
          rw [gi_sa, gi_sa, hC.2.1, u_gd (by omega), nI_clamp (by omega), u_let, h_stopF hf, u_bd, u_let, gi_sa, gi_sa, gi_sa, hC.2.1, show nI c.W + (1 : Int32) = nI (c.W + 1) from nI_add _ _]
          simp only [ga_sa, Nat.reduceEqDiff, if_false]
        · rw [y2, u_bd]
          dsimp only
          rw [q33, u_gd (by omega), nI_clamp (by omega), u_let, u_jn, if_neg (u_nle0 ⟨f0, f4⟩ ▸ fun h => h)]
          dsimp only
          rw [u_let, gi_sa, q33, show nI c.W + (1 : Int32) = nI (c.W + 1) from nI_add _ _, u_bd]
          dsimp only
          rw [if_neg (u_nle0 ⟨f0, f4⟩ ▸ fun h => h)]
  · -- a fault in the suit's number
    have hf := x3
    obtain ⟨f0, f4, _, _⟩ := x3
    right
    refine ⟨f, p, si (sa (sa (sa oc 5 (upd (ga oc 5) c.W (nI 0))) 6 (upd (ga oc 6) c.W (nI 1))) 7 (upd (ga oc 7) c.W (nI 0))) 1 (nI (c.W + 1)), od1, m1, ?_, ?_, hf, x4, frm_mono x5 (by decide)⟩
    · unfold pX2_readWitness
      rw [hC.2.1, if_pos lt12, hC.1]
      show Option.bind (pX5_takeNumber od ot (nI 0) (nO c.S)) _ = _
      rw [x1, u_bd]
      dsimp only
      rw [h_soundF hf, u_bd, u_jn, if_pos (show nI 0 = (0 : Int32) from rfl), ← clsF (nI 0) od1 f p hf, hC.2.1]
    · unfold pX11_takeWitness
      rw [hM.1]
      show Option.bind (Option.bind (pX11_takeNumber m (nI 0) (nO c.S)) _) _ = _
      rw [x2, u_bd]
      dsimp only
      rw [if_neg (u_nle0 ⟨f0, f4⟩ ▸ fun h => h), u_bd]
      dsimp only
      rw [if_neg (u_nle0 ⟨f0, f4⟩ ▸ fun h => h)]
