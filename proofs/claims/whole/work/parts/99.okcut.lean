noncomputable def enW (c : CD) (l : LD) (d : SD) (s v : Nat) : Bool := decide (v &&& memb c s c.W = v) && @decide (noS c l d s v) (Classical.propDecidable _)
theorem enW_iff {c : CD} {l : LD} {d : SD} {s v : Nat} : enW c l d s v = true ↔ (v &&& memb c s c.W = v ∧ noS c l d s v) := by
  unfold enW
  rw [Bool.and_eq_true, decide_eq_true_iff, @decide_eq_true_iff _ (Classical.propDecidable _)]
theorem enW_few {c : CD} {l : LD} {d : SD} {s : Nat} (hc : OKC c) (hl : OKL l) (hs : s < c.S) (hne : fewT (fun x => stB (winU c l d s (lastK d + 1)) x (2 ^ cnt c s c.W)) (2 ^ cnt c s c.W) ≠ 0) : fewT (enW c l d s) 4096 = wmask c s (fewT (fun x => stB (winU c l d s (lastK d + 1)) x (2 ^ cnt c s c.W)) (2 ^ cnt c s c.W) - 1) c.W + 1 := by
  have hn := hc.2.2.2.2 s hs
  have hW := hc.2.1
  have p2 := p2_le hn
  have fle := fewT_le (fun x => stB (winU c l d s (lastK d + 1)) x (2 ^ cnt c s c.W)) (2 ^ cnt c s c.W)
  have fen := fewT_en (fun x => stB (winU c l d s (lastK d + 1)) x (2 ^ cnt c s c.W)) _ hne
  have fmin := fewT_min (fun x => stB (winU c l d s (lastK d + 1)) x (2 ^ cnt c s c.W)) _ hne
  have p12 : 2 ^ c.W ≤ 4096 := Nat.pow_le_pow_right (n := 2) (by omega) hW
  have bits : ∀ x, x < 2 ^ cnt c s c.W → bsum (wmask c s x c.W) 12 = bsum x 12 := fun x hx => by
    rw [wmask_bits c s x c.W hW, bsum_small hx 12 (by omega)]
  refine fewT_is (Nat.lt_of_lt_of_le (wmask_lt c s _ c.W) p12) (enW_iff.mpr ⟨wmask_sub c s _ c.W, (noS_iff hc hl hs).mpr fen⟩) (fun y hy he => ?_)
  obtain ⟨y1, y2⟩ := enW_iff.mp he
  have yl : y < 2 ^ c.W := Nat.lt_of_le_of_lt (sub_le y1) (memb_lt c s c.W)
  obtain ⟨x, x1, rfl⟩ := wmask_sur c s c.W y yl y1
  have hx := fmin x x1 ((noS_iff hc hl hs).mp y2)
  rw [bits _ (by omega), bits x x1]
  rcases hx with hx | ⟨hx, hx2⟩
  · exact Or.inl hx
  · right
    refine ⟨hx, ?_⟩
    obtain ⟨w1, w2⟩ := wmask_mod c s (fewT (fun x => stB (winU c l d s (lastK d + 1)) x (2 ^ cnt c s c.W)) (2 ^ cnt c s c.W) - 1) x c.W
    rw [Nat.mod_eq_of_lt (show fewT (fun x => stB (winU c l d s (lastK d + 1)) x (2 ^ cnt c s c.W)) (2 ^ cnt c s c.W) - 1 < 2 ^ cnt c s c.W by omega), Nat.mod_eq_of_lt x1] at w1 w2
    rcases Nat.lt_or_eq_of_le hx2 with q | q
    · exact Nat.le_of_lt (w2 q)
    · exact Nat.le_of_eq (w1 q)
theorem xor_0 {a b : Nat} (h : a ^^^ b = 0) : a = b := by
  have : a ^^^ b ^^^ b = b := by rw [h, Nat.zero_xor]
  rw [xx] at this
  exact this
theorem m_cut70 {c : CD} {l : LD} {d : SD} {s : Nat} (hc : OKC c) (hl : OKL l) (hd : OKS c.S d) (hs : s < c.S) (hg : d.how s = 0) (m0 : Ob) (h1 : MC c m0) (h2 : ML l m0) (h3 : MS c.S d m0) (h44 : ∀ i, i < 12 → ga m0 44 i = nI (d.struck i)) : ∃ m', (∀ K : Int32 → Ob → Option (Int32 × Ob), lX11_cut_70 (nI s) (nI (memb c s c.W)) K zfu (-1) 0 m0 = K (nO (fewT (enW c l d s) 4096)) m') ∧ frm [12, 39, 40, 41, 42, 43] m0 m' := by
  have hW := hc.2.1
  have p12 : 2 ^ c.W ≤ 4096 := Nat.pow_le_pow_right (n := 2) (by omega) hW
  have ml := memb_lt c s c.W
  refine u_loopP (fun f q o => (fun K : Int32 → Ob → Option (Int32 × Ob) => lX11_cut_70 (nI s) (nI (memb c s c.W)) K f (nO (fewT (enW c l d s) q)) (nI q) o)) (fun q o => frm [12, 39, 40, 41, 42, 43] m0 o) (fun r => ∃ m', (∀ K : Int32 → Ob → Option (Int32 × Ob), r K = K (nO (fewT (enW c l d s) 4096)) m') ∧ frm [12, 39, 40, 41, 42, 43] m0 m') 4096 (fun f q o hq hP => ?_) (fun f o hP => ?_) zfu 0 m0 (by omega) (u_zfu (by omega)) (frm_rf _ _)
  · have fle := fewT_le (enW c l d s) q
    have mk : nI q &&& (nI (memb c s c.W) ^^^ (-1 : Int32)) = nI (q ^^^ (q &&& memb c s c.W)) := u_andn q (memb c s c.W)
    have ql : q &&& memb c s c.W ≤ q := Nat.and_le_left
    have xl : q ^^^ (q &&& memb c s c.W) < 4096 := Nat.xor_lt_two_pow (n := 12) hq (by omega)
    -- the head of the loop
    by_cases sub : q &&& memb c s c.W = q
    · -- with q struck too
      obtain ⟨o1, a1, a2, a3⟩ := m_cut106 hd (v := q) (by omega) (nO (fewT (enW c l d s) q)) o (fun i hi => by rw [(hP 44 (by decide)).2.2.1]; exact h44 i hi)
      have f1 : frm [12, 39, 40, 41, 42, 43] m0 o1 := frm_tr hP (frm_mono a3 (by decide))
      have C1 := MC_frm h1 f1 (by decide)
      have L1 := ML_frm h2 f1 (by decide) (by decide)
      have S1 : MS c.S (cutS d q) o1 := MS_cut h3 (frm_mono f1 (by decide)) (Or.inr ⟨q, rfl⟩) a2
      obtain ⟨r, o2, b1, b2, b3⟩ := m_soon hc hl (OKS_cut hd q) hs C1 L1 S1 hg
      have f2 : frm [12, 39, 40, 41, 42, 43] m0 o2 := frm_tr f1 (frm_mono b3 (by decide))
      -- the state that stays, and what is answered
      have res : ((0 : Int32) ≤ r ∧ ¬ noS c l d s q) ∨ (¬ (0 : Int32) ≤ r ∧ noS c l d s q) := by
        rcases b2 with ⟨k, k1, k2, k3, k4, _⟩ | ⟨k1, k2⟩
        · have hK := lastK_le d
          have k1' : k ≤ lastK d := k1
          left
          rw [k4]
          exact ⟨nI_le (a := 0) (Nat.zero_le _) (by omega), fun h => h k k1' k2⟩
        · right
          rw [k2]
          exact ⟨by decide, fun k hk => k1 k hk⟩
      have en : enW c l d s q = true ↔ noS c l d s q := by
        rw [enW_iff]
        exact ⟨fun h => h.2, fun h => ⟨sub, h⟩⟩
      have go : ∀ K : Int32 → Ob → Option (Int32 × Ob), (fewT (enW c l d s) q = 0 ∨ bsum q 12 < bsum (fewT (enW c l d s) q - 1) 12) → (Option.bind (pX11_soonestOf o1 (nI s)) fun (r22 : Int32 × Ob) => zjn (fun (x23 : Int32) => zlet (nI q + (1 : Int32)) fun (x18 : Int32) => lX11_cut_70 (nI s) (nI (memb c s c.W)) K f x23 x18 (r22.2)) fun (K165 : Int32 → Option (Int32 × Ob)) => if 0 ≤ (r22.1) then (K165 (nO (fewT (enW c l d s) q))) else (K165 (nI q))) = lX11_cut_70 (nI s) (nI (memb c s c.W)) K f (nO (fewT (enW c l d s) (q + 1))) (nI (q + 1)) o2 := by
        intro K hcand
        rw [b1, u_bd, u_jn]
        dsimp only
        rcases res with ⟨r1, r2⟩ | ⟨r1, r2⟩
        · rw [if_pos r1, u_let, show nI q + (1 : Int32) = nI (q + 1) from nI_add _ _, fewT, if_neg (fun h => r2 (en.mp h.1))]
        · rw [if_neg r1, u_let, show nI q + (1 : Int32) = nI (q + 1) from nI_add _ _, fewT, if_pos ⟨en.mpr r2, hcand⟩, nO_s]
      by_cases c0 : fewT (enW c l d s) q = 0
      · refine ⟨o2, f2, ?_⟩
        funext K
        show lX11_cut_70 (nI s) (nI (memb c s c.W)) K (f + 1) _ (nI q) o = _
        rw [lX11_cut_70, if_neg (show ¬ (4096 : Int32) ≤ nI q from nI_ge (b := 4096) hq (by omega)), u_jn, mk, sub, Nat.xor_self, if_pos (show nI 0 = (0 : Int32) from rfl), u_jn, u_jn, if_pos (show nO (fewT (enW c l d s) q) < (0 : Int32) by rw [c0]; decide), a1]
        exact go K (Or.inl c0)
      · have eF : nO (fewT (enW c l d s) q) = nI (fewT (enW c l d s) q - 1) := by
          obtain ⟨g, hg⟩ : ∃ g, fewT (enW c l d s) q = g + 1 := ⟨fewT (enW c l d s) q - 1, by omega⟩
          rw [hg, nO_s]; rfl
        have b1' := bsum_le q 12
        have b2' := bsum_le (fewT (enW c l d s) q - 1) 12
        have nn : ¬ nO (fewT (enW c l d s) q) < (0 : Int32) := fun r => by
          have := nO_ltF (n := fewT (enW c l d s) q) ⟨by omega, by omega⟩
          exact this ▸ r
        have eb : pX11_bits (nO (fewT (enW c l d s) q)) = some (nI (bsum (fewT (enW c l d s) q - 1) 12)) := by rw [eF]; exact m_bits (by omega)
        by_cases c1 : bsum q 12 < bsum (fewT (enW c l d s) q - 1) 12
        · refine ⟨o2, f2, ?_⟩
          funext K
          show lX11_cut_70 (nI s) (nI (memb c s c.W)) K (f + 1) _ (nI q) o = _
          rw [lX11_cut_70, if_neg (show ¬ (4096 : Int32) ≤ nI q from nI_ge (b := 4096) hq (by omega)), u_jn, mk, sub, Nat.xor_self, if_pos (show nI 0 = (0 : Int32) from rfl), u_jn, u_jn, if_neg nn, m_bits (a := q) (by omega), u_bd, eb, u_bd, if_neg (nI_ge c1 (by omega)), a1]
          exact go K (Or.inr c1)
        · refine ⟨o, hP, ?_⟩
          funext K
          show lX11_cut_70 (nI s) (nI (memb c s c.W)) K (f + 1) _ (nI q) o = lX11_cut_70 (nI s) (nI (memb c s c.W)) K f (nO (fewT (enW c l d s) (q + 1))) (nI (q + 1)) o
          rw [lX11_cut_70, if_neg (show ¬ (4096 : Int32) ≤ nI q from nI_ge (b := 4096) hq (by omega)), u_jn, mk, sub, Nat.xor_self, if_pos (show nI 0 = (0 : Int32) from rfl), u_jn, u_jn, if_neg nn, m_bits (a := q) (by omega), u_bd, eb, u_bd, if_pos (nI_le (by omega) (by omega))]
          dsimp only
          rw [u_let, show nI q + (1 : Int32) = nI (q + 1) from nI_add _ _, fewT, if_neg (fun h => by
            rcases h.2 with h | h
            · exact c0 h
            · exact c1 h)]
    · refine ⟨o, hP, ?_⟩
      funext K
      show lX11_cut_70 (nI s) (nI (memb c s c.W)) K (f + 1) _ (nI q) o = lX11_cut_70 (nI s) (nI (memb c s c.W)) K f (nO (fewT (enW c l d s) (q + 1))) (nI (q + 1)) o
      have nz : q ^^^ (q &&& memb c s c.W) ≠ 0 := fun h => sub (xor_0 h).symm
      rw [lX11_cut_70, if_neg (show ¬ (4096 : Int32) ≤ nI q from nI_ge (b := 4096) hq (by omega)), u_jn, mk, if_neg (nI_ne0 (by omega) (by omega))]
      dsimp only
      rw [u_let, show nI q + (1 : Int32) = nI (q + 1) from nI_add _ _, fewT, if_neg (fun h => sub (enW_iff.mp h.1).1)]
  · refine ⟨o, fun K => ?_, hP⟩
    show lX11_cut_70 (nI s) (nI (memb c s c.W)) K (f + 1) _ (nI 4096) o = _
    rw [lX11_cut_70, if_pos (show (4096 : Int32) ≤ nI 4096 by decide)]
theorem ok_cut {x : Cst} {m : Ob} (a1 : Int32) (h : RR x m) : ∃ (r : Int32 × Ob) (u : Int32 × Ob), pX10_cut x.z x.d x.t x.c x.w x.s x.e x.f x.h x.b x.i x.j x.p x.q a1 = some r ∧ pX11_cut m a1 = some u ∧ r.1 = u.1 ∧ RR (x.z, x.d, x.t, x.c, x.w, x.s, r.2, x.f, x.h, x.b, x.i, x.j, x.p, x.q) u.2 := by
  have h' := h
  obtain ⟨c, l, d, hR⟩ := h'
  have hR' := hR
  obtain ⟨⟨a, b, e⟩, ⟨f1, f2, f3⟩, ⟨g1, g2, g3⟩, _⟩ := hR'
  have h6 := a.1
  have bd := e.1
  rcases u_ix a1 c.S (by omega) with q | ⟨s, hs, rfl⟩
  · refine ⟨(-(nI 1000000001), x.e), (-(nI 1000000001), m), ?_, ?_, rfl, h⟩
    · unfold pX10_cut; rw [h_suitF a f1 q, u_bd0]; rfl
    · unfold pX11_cut; rw [m_suitF a g1 q, u_bd0]; rfl
  · have e1 := h_suitT a f1 hs
    have e2 := m_suitT a g1 hs
    have e3 := h_goesT (ow := x.w) a f1 f3 e hs
    have w15 := (g3.2.2.2.2.1 s hs).2.1
    have bh := (e.2.2.2.2.1 s hs).2.1
    have hn := a.2.2.2.2 s hs
    have p2 := p2_le hn
    by_cases z : d.how s = 0
    · obtain ⟨o', r1⟩ := h_cut (oe := x.e) a b e f1 f2 f3 hs z
      have me := m_enough a e g1 g3 hs
      have pc : pX10_cut x.z x.d x.t x.c x.w x.s x.e x.f x.h x.b x.i x.j x.p x.q (nI s) = some (if 3 * c.need s ≤ d.whole s then -1 else nI (wmask c s (fewT (fun x => stB (winU c l d s (lastK d + 1)) x (2 ^ cnt c s c.W)) (2 ^ cnt c s c.W) - 1) c.W), o') := by
        unfold pX10_cut
        rw [e1, u_bd1, e3, decide_eq_true z]
        show Option.bind (some (nI 1)) _ = _
        rw [u_bd1, r1, u_bd]
      by_cases y : 3 * c.need s ≤ d.whole s
      · refine ⟨(-1, o'), (-1, m), ?_, ?_, rfl, c, l, d, RC_frm hR (frm_rf [39] m) (by decide) e g3 f3⟩
        · rw [pc, if_pos y]
        · unfold pX11_cut
          rw [e2, u_bd1, u_gd (by omega), nI_clamp (n := s) (by omega), w15, z, if_pos (show nI 0 = (0 : Int32) from rfl), me, decide_eq_true y, u_bd, if_neg (show ¬ nI (bN true) = (0 : Int32) by decide)]
      · have wn : winU c l d s (lastK d + 1) 0 = false := by rw [win_0 a b, decide_eq_false y]
        have hA : stB (winU c l d s (lastK d + 1)) (2 ^ cnt c s c.W - 1) (2 ^ cnt c s c.W) = true := (stB_iff _ _ _).mpr (fun T hT hw hx => by
          rw [sub_all.mpr hT] at hx
          subst hx
          rw [wn] at hw
          exact absurd hw (by decide))
        have hne := fewT_ex (fun x => stB (winU c l d s (lastK d + 1)) x (2 ^ cnt c s c.W)) (2 ^ cnt c s c.W) (2 ^ cnt c s c.W - 1) (by omega) hA
        have hfew := enW_few a b hs hne
        obtain ⟨m1, b1, b2, b3⟩ := m_cut35 e m g3
        have C1 := MC_frm g1 b3 (by decide)
        have L1 := ML_frm g2 b3 (by decide) (by decide)
        have S1 : MS c.S d m1 := MS_sub g3 b3 (by decide)
        obtain ⟨m2, c1, c2⟩ := m_cut70 a b e hs z m1 C1 L1 S1 b2
        obtain ⟨m3, d1, d2, d3⟩ := m_cut175 e (nO (fewT (enW c l d s) 4096)) m2 (fun i hi => by rw [(c2 44 (by decide)).2.2.1]; exact b2 i hi)
        have fr : frm [12, 39, 40, 41, 42, 43, 44] m m3 := frm_tr (frm_mono b3 (by decide)) (frm_tr (frm_mono c2 (by decide)) (frm_mono d3 (by decide)))
        have S3 : MS c.S d m3 := MS_cut g3 fr (Or.inl rfl) d2
        have c1' : ∀ K : Int32 → Ob → Option (Int32 × Ob), lX11_cut_70 (nI s) (nI (memb c s c.W)) K zfu (-1 : Int32) (0 : Int32) m1 = K (nO (fewT (enW c l d s) 4096)) m2 := c1
        refine ⟨_, (nO (fewT (enW c l d s) 4096), m3), pc, ?_, ?_, c, l, d, RC_frm hR fr (by decide) e S3 f3⟩
        · unfold pX11_cut
          rw [e2, u_bd1, u_gd (by omega), nI_clamp (n := s) (by omega), w15, z, if_pos (show nI 0 = (0 : Int32) from rfl), me, decide_eq_false y, u_bd, if_pos (show nI (bN false) = (0 : Int32) by decide), u_jn]
          have b1' : ∀ K : Ob → Option (Int32 × Ob), lX11_cut_35 K zfu (0 : Int32) m = K m1 := b1
          rw [b1', m_witsOf a C1 hs, u_bd, u_jn, c1']
          exact d1
        · show (if 3 * c.need s ≤ d.whole s then (-1 : Int32) else _) = nO (fewT (enW c l d s) 4096)
          rw [if_neg y, hfew, nO_s]
    · refine ⟨(-(nI 1000000003), x.e), (-(nI 1000000003), m), ?_, ?_, rfl, h⟩
      · unfold pX10_cut
        rw [e1, u_bd1, e3, decide_eq_false z]
        show Option.bind (some (nI 0)) _ = _
        rw [u_bd0]
        rfl
      · unfold pX11_cut
        rw [e2, u_bd1, u_gd (by omega), nI_clamp (n := s) (by omega), w15, if_neg (show ¬ nI (d.how s) = (0 : Int32) from nI_ne0 (by omega) (by omega))]
        rfl
