/-! turns: the class's Duel made ready -/
def avW (c : CD) (l : LD) (d : SD) (s : Nat) : Nat → Nat
  | 0 => 0
  | n + 1 => avW c l d s n ||| (if c.suit n = s ∧ mayM c l d n d.day = true then 1 <<< n else 0)
theorem avW_lt (c : CD) (l : LD) (d : SD) (s : Nat) : ∀ n, avW c l d s n < 2 ^ n
  | 0 => Nat.zero_lt_one
  | n + 1 => by
    have ih := avW_lt c l d s n
    rw [avW]
    refine Nat.or_lt_two_pow (by rw [Nat.pow_succ]; omega) ?_
    split
    · rw [Nat.one_shiftLeft]; exact Nat.pow_lt_pow_right (by omega) (by omega)
    · exact Nat.two_pow_pos _
theorem h_duel {c : CD} {l : LD} {d : SD} {of oc ow os : Ob} (hc : OKC c) (hl : OKL l) (hd : OKS c.S d) (h : CC c oc) (h2 : CL l ow) (h3 : CS c.S d os) {s : Nat} (hs : s < c.S) (hg : d.how s = 0) : ∃ o', pX3_prepare of oc ow os (nI s) = some o' ∧ gi o' 2 = nI (avW c l d s c.W) ∧ gi o' 3 = nI (d.whole s) ∧ gi o' 4 = nI (3 * c.need s) ∧ (∀ w, w < c.W → ga o' 1 w = nI (fresh c l w d.day)) := by
  have h6 := hc.1
  have hW := hc.2.1
  have bd := hd.1
  have key := u_loopP (fun f q o => (fun K : Ob → Option Ob => lX3_prepare_7 oc ow os (nI s) K f (nI q) o)) (fun q o => gi o 2 = nI (avW c l d s q) ∧ (∀ w, w < q → ga o 1 w = nI (fresh c l w d.day))) (fun r => ∃ o', (∀ K : Ob → Option Ob, r K = K o') ∧ gi o' 2 = nI (avW c l d s c.W) ∧ (∀ w, w < c.W → ga o' 1 w = nI (fresh c l w d.day))) c.W (fun f q o hq hP => ?_) (fun f o hP => ?_) zfu 0 (si of 2 0) (by omega) (u_zfu (by omega)) ⟨rfl, fun w hw => absurd hw (Nat.not_lt_zero w)⟩
  · obtain ⟨o1, a1, a2, a3⟩ := key
    refine ⟨si (si o1 3 (nI (d.whole s))) 4 (nI (3 * c.need s)), ?_, a2, rfl, rfl, a3⟩
    have a1' : ∀ K : Ob → Option Ob, lX3_prepare_7 oc ow os (nI s) K zfu (0 : Int32) (si of 2 0) = K o1 := a1
    unfold pX3_prepare
    rw [u_let, u_jn, a1', h_suitT hc h hs, u_bd, u_jn, if_neg (show ¬ nI 1 = (0 : Int32) by decide), u_gd (by omega), nI_clamp (n := s) (by omega), (h3.2.2.2.2.1 s hs).1]
    dsimp only
    rw [u_let, h_goal hc h hs, u_bd, u_let]
  · obtain ⟨p1, p2⟩ := hP
    have sl := (hc.2.2.2.1 q hq).1
    have e1 := h.2.1
    have e5 := (h.2.2.2 q hq).1
    have hf := h_fresh (os := os) (t := d.day) hc hl h h2 hq (by omega)
    have hm := h_mayCall (t := d.day) hc hl hd h h2 h3 hq (by omega)
    have head : ∀ K : Ob → Option Ob, lX3_prepare_7 oc ow os (nI s) K (f + 1) (nI q) o = (if nI (c.suit q) = nI s then (if nI (bN (may c l d q d.day)) = (0 : Int32) then lX3_prepare_7 oc ow os (nI s) K f (nI (q + 1)) (sa o 1 (upd (ga o 1) q (nI (fresh c l q d.day)))) else lX3_prepare_7 oc ow os (nI s) K f (nI (q + 1)) (si (sa o 1 (upd (ga o 1) q (nI (fresh c l q d.day)))) 2 (nI (avW c l d s q ||| 1 <<< q)))) else lX3_prepare_7 oc ow os (nI s) K f (nI (q + 1)) (sa o 1 (upd (ga o 1) q (nI (fresh c l q d.day))))) := by
      intro K
      rw [lX3_prepare_7, e1, if_neg (nI_ge hq (by omega)), if_neg (show ¬ (12 : Int32) ≤ nI q from nI_ge (b := 12) (by omega) (by omega)), h3.1, hf, u_bd, u_gd (by omega), nI_clamp (n := q) (by omega), u_let, u_gd (by omega), u_jn, e5, hm, u_bd]
      dsimp only
      rw [u_let, u_let, u_let, show nI q + (1 : Int32) = nI (q + 1) from nI_add _ _]
      rw [show gi (sa o 1 (upd (ga o 1) q (nI (fresh c l q d.day)))) 2 = nI (avW c l d s q) from p1, show (1 : Int32) <<< (nI q &&& 31) = nI (1 <<< q) from u_shl1 (by omega), fa_or]
    have n1 : ∀ w, w < q + 1 → ga (sa o 1 (upd (ga o 1) q (nI (fresh c l q d.day)))) 1 w = nI (fresh c l w d.day) := fun w hw => by
      rw [ga_sa, if_pos rfl, upd_ap]
      by_cases z : w = q
      · rw [if_pos z, z]
      · rw [if_neg z]; exact p2 w (by omega)
    by_cases z : c.suit q = s
    · have ema : may c l d q d.day = mayM c l d q d.day := by
        unfold may
        rw [z, decide_eq_true hg, Bool.and_true]
      cases y : mayM c l d q d.day with
      | false =>
        refine ⟨sa o 1 (upd (ga o 1) q (nI (fresh c l q d.day))), ⟨?_, n1⟩, ?_⟩
        · rw [avW, y, if_neg (fun r => absurd r.2 (by decide)), Nat.or_zero]; exact p1
        · funext K
          show lX3_prepare_7 oc ow os (nI s) K (f + 1) (nI q) o = _
          rw [head, if_pos (show nI (c.suit q) = nI s by rw [z]), ema, y, if_pos (show nI (bN false) = (0 : Int32) by decide)]
      | true =>
        refine ⟨si (sa o 1 (upd (ga o 1) q (nI (fresh c l q d.day)))) 2 (nI (avW c l d s q ||| 1 <<< q)), ⟨?_, n1⟩, ?_⟩
        · rw [avW, y, if_pos ⟨z, rfl⟩]; rfl
        · funext K
          show lX3_prepare_7 oc ow os (nI s) K (f + 1) (nI q) o = _
          rw [head, if_pos (show nI (c.suit q) = nI s by rw [z]), ema, y, if_neg (show ¬ nI (bN true) = (0 : Int32) by decide)]
    · refine ⟨sa o 1 (upd (ga o 1) q (nI (fresh c l q d.day))), ⟨?_, n1⟩, ?_⟩
      · rw [avW, if_neg (fun r => z r.1), Nat.or_zero]; exact p1
      · funext K
        show lX3_prepare_7 oc ow os (nI s) K (f + 1) (nI q) o = _
        rw [head, if_neg (fun r => z ((nI_eq (a := c.suit q) (b := s) (by omega) (by omega)).mp r))]
  · refine ⟨o, fun K => ?_, hP.1, hP.2⟩
    show lX3_prepare_7 oc ow os (nI s) K (f + 1) (nI c.W) o = _
    rw [lX3_prepare_7, h.2.1, if_pos (nI_le (Nat.le_refl _) (by omega))]
