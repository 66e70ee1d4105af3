/-! the reference: the greatest, the whole on a day; most -/
theorem l_shr {n k : Nat} (hn : n < 2 ^ 63) (hk : k < 64) : lN n >>> ((nI k).toInt64 &&& 63) = lN (n / 2 ^ k) := by
  rw [wb_c k hk]
  apply wb_inj
  rw [Int64.toBitVec_shiftRight, wb_tb, wb_tb, wb_tb, wb_sm k hk]
  have mf : (BitVec.ofNat 64 n).msb = false := by
    rw [BitVec.msb_eq_false_iff_two_mul_lt, BitVec.toNat_ofNat, Nat.mod_eq_of_lt (by omega)]
    omega
  rw [BitVec.sshiftRight_eq', BitVec.sshiftRight_eq_of_msb_false mf]
  apply BitVec.eq_of_toNat_eq
  rw [BitVec.toNat_ushiftRight, BitVec.toNat_ofNat, BitVec.toNat_ofNat, BitVec.toNat_ofNat, Nat.mod_eq_of_lt (show k < 2 ^ 64 by omega), Nat.mod_eq_of_lt (show n < 2 ^ 64 by omega), Nat.shiftRight_eq_div_pow, Nat.mod_eq_of_lt (Nat.lt_of_le_of_lt (Nat.div_le_self _ _) (by omega))]
theorem gm_up {e : Nat → Nat} {a : Nat} : ∀ b, a ≤ b → (∀ i, a ≤ i → i < b → e i = 0) → gm e b = gm e a
  | 0, h, _ => by have : a = 0 := by omega
                  subst this; rfl
  | b + 1, h, hz => by
    by_cases q : a = b + 1
    · rw [q]
    · rw [gm, gm_up b (by omega) (fun i h1 h2 => hz i h1 (by omega)), hz b (by omega) (by omega), if_pos (Nat.zero_le _)]
theorem bst_z {n k T : Nat} {able : Nat → Nat → Bool} {fr : Nat → Nat → Nat} {room : Nat → Nat} (h : isM (bst n able fr room k T) (PP n able fr room k T)) (hT : T < 64) (h2 : 2 ^ n ≤ T) : bst n able fr room k T = 0 := by
  rcases Nat.eq_zero_or_pos (bst n able fr room k T) with z | z
  · exact z
  · have := PP_big hT (h.2 z)
    omega
theorem m_great {n k t : Nat} {able : Nat → Nat → Bool} {fr : Nat → Nat → Nat} {room : Nat → Nat} (hn : n ≤ 6) (hk : k ≤ 30) (hf : ∀ i j, i < 6 → fr i j ≤ 594) {m : Ob} (hB : RB n able fr room (k + 1) (30 - k) m) : pX11_greatest m = some (lN (gm (bst n able fr room (k + 1)) (2 ^ n) * 2 ^ (30 - k))) := by
  have p2 := p2_le hn
  have prod : 2 ^ k * 2 ^ (30 - k) = 2 ^ 30 := by rw [← Nat.pow_add, show k + (30 - k) = 30 by omega]
  have pk : 3564 * 2 ^ (k + 1) = 7128 * 2 ^ k := by rw [Nat.pow_succ]; omega
  have be : ∀ T, T < 64 → bst n able fr room (k + 1) T ≤ 7128 * 2 ^ k + 1 := fun T hT => by
    rw [← pk]
    exact isM_lt (hB T hT).2 (fun x hx => PP_le hf hx)
  rw [← gm_up (e := bst n able fr room (k + 1)) 64 p2.2 (fun i h1 h2 => bst_z (hB i h2).2 h2 h1)]
  have hE : ∀ T, T < 64 → gb m 42 T = sc (bst n able fr room (k + 1) T) (30 - k) := fun T hT => (hB T hT).1
  generalize bst n able fr room (k + 1) = E at *
  have pos := Nat.two_pow_pos k
  have sca : ∀ e, e ≤ 20000 * 2 ^ k → e * 2 ^ (30 - k) < 2 ^ 62 := fun e he => by
    have h1 := Nat.mul_le_mul_right (2 ^ (30 - k)) he
    rw [Nat.mul_assoc, prod] at h1
    omega
  have gb : ∀ q, q ≤ 64 → gm E q ≤ 7128 * 2 ^ k := fun q hq => gm_le q (fun i hi => be i (by omega))
  unfold pX11_greatest
  have z0 : (0 : Int64) = lN (gm E 0 * 2 ^ (30 - k)) := by rw [gm, Nat.zero_mul]; rfl
  rw [z0]
  refine u_loop (fun f q => lX11_greatest_4 m f (lN (gm E q * 2 ^ (30 - k))) (nI q)) 64 _ (fun f q hq => ?_) (fun f => ?_) zfu 0 (by omega) (u_zfu (by omega))
  · have b1 := be q hq
    have b2 := gb q (by omega)
    have val : (if sc (E q) (30 - k) ≤ lN (gm E q * 2 ^ (30 - k)) then lN (gm E q * 2 ^ (30 - k)) else sc (E q) (30 - k)) = lN (gm E (q + 1) * 2 ^ (30 - k)) := by
      rw [gm]
      generalize gm E q = G at *
      generalize E q = e at *
      cases e with
      | zero =>
        rw [if_pos (Nat.zero_le _), if_pos (by
          rw [sc_0, Int64.le_iff_toInt_le, pk_lT (by have := sca G (by omega); omega)]
          have : (-1 : Int64).toInt = -1 := by decide
          omega)]
      | succ e =>
        have s1 := sca e (by omega)
        have s2 := sca G (by omega)
        rw [sc_s]
        by_cases w : e ≤ G
        · rw [if_pos ((pk_lLE (by omega) (by omega)).mpr (Nat.mul_le_mul_right _ w))]
          by_cases w2 : e + 1 ≤ G
          · rw [if_pos w2]
          · rw [if_neg w2, show e + 1 - 1 = G by omega]
        · rw [if_neg (fun r => w (Nat.le_of_mul_le_mul_right ((pk_lLE (by omega) (by omega)).mp r) (Nat.two_pow_pos _))), if_neg (by omega), Nat.add_sub_cancel]
    show lX11_greatest_4 m (f + 1) _ (nI q) = _
    rw [lX11_greatest_4, if_neg (show ¬ (64 : Int32) ≤ nI q from nI_ge (b := 64) hq (by omega)), u_gd (by omega), nI_clamp (n := q) (by omega), hE q hq, u_jn, u_gd (by omega), ← val]
    dsimp only
    rw [u_let, u_let, show nI q + (1 : Int32) = nI (q + 1) from nI_add _ _]
    by_cases w : sc (E q) (30 - k) ≤ lN (gm E q * 2 ^ (30 - k))
    · rw [if_pos w, if_pos w]
    · rw [if_neg w, if_neg w]
  · show lX11_greatest_4 m (f + 1) _ (nI 64) = _
    rw [lX11_greatest_4, if_pos (show (64 : Int32) ≤ nI 64 by decide)]
/-- the figures behind the point, t of them -/
def fg (b : Nat → Nat) (t : Nat) : Nat → Nat
  | 0 => 0
  | j + 1 => fg b t j + b j * 2 ^ (t - 1 - j)
theorem fg_lt {b : Nat → Nat} {t : Nat} (hb : ∀ j, b j ≤ 1) : ∀ j, j ≤ t → fg b t j + 2 ^ (t - j) ≤ 2 ^ t
  | 0, _ => by rw [fg, Nat.zero_add]; exact Nat.le_refl _
  | j + 1, h => by
    have ih := fg_lt (t := t) hb j (by omega)
    have e : 2 ^ (t - j) = 2 * 2 ^ (t - (j + 1)) := by rw [show t - j = (t - (j + 1)) + 1 by omega, Nat.pow_succ, Nat.mul_comm]
    have e2 : t - 1 - j = t - (j + 1) := by omega
    have e3 := Nat.mul_le_mul_right (2 ^ (t - (j + 1))) (hb j)
    rw [fg, e2]
    omega
theorem m_wholeBy {c : CD} {l : LD} {d : SD} {s k g : Nat} {m : Ob} (hc : OKC c) (hd : OKS c.S d) (hs : s < c.S) (h3 : MS c.S d m) (hk : k ≤ 30) (hg : g * 2 ^ (30 - k) ≤ 2 ^ 60) : pX11_wholeBy m (nI s) (nI k) (lN (g * 2 ^ (30 - k))) = some (lN ((d.whole s + g) / 2 ^ k)) := by
  have h6 := hc.1
  have bd := hd.1
  have hsp := hd.2.1
  have hw := (hd.2.2.2.2.1 s hs).1
  obtain ⟨w1, _⟩ := h3.2.2.2.2.1 s hs
  have w18 := h3.2.2.2.2.2.2 s hs
  have b1 : ∀ j, (fun j => if j < d.day then d.dusk s (d.day - 1 - j) % 2 else 0) j ≤ 1 := fun j => by
    dsimp only
    split <;> omega
  have w18' : ∀ j, j < 400 → ga m 18 (400 * s + j) = nI ((fun j => if j < d.day then d.dusk s (d.day - 1 - j) % 2 else 0) j) := w18
  generalize (fun j => if j < d.day then d.dusk s (d.day - 1 - j) % 2 else 0) = b at *
  have prod : 2 ^ (30 - k) * 2 ^ k = 2 ^ 30 := by rw [← Nat.pow_add, show (30 - k) + k = 30 by omega]
  have ple : 2 ^ (30 - k) ≤ 2 ^ 30 := Nat.pow_le_pow_right (by omega) (by omega)
  have et : (30 : Int32) - nI k = nI (30 - k) := pk_sub (a := 30) (by omega)
  have ht : 30 - k ≤ 30 := by omega
  have pos := Nat.two_pow_pos (30 - k)
  have wle := Nat.mul_le_mul hw ple
  unfold pX11_wholeBy
  rw [u_gd (by omega), nI_clamp (n := s) (by omega), w1, nI_l (by omega), et, wb_shl _ (by omega), u_let]
  have last : (d.whole s * 2 ^ (30 - k) + fg b (30 - k) (30 - k) + g * 2 ^ (30 - k)) / 2 ^ 30 = (d.whole s + g) / 2 ^ k := by
    have fl := fg_lt (t := 30 - k) b1 (30 - k) (Nat.le_refl _)
    rw [Nat.sub_self] at fl
    rw [← prod, ← Nat.div_div_eq_div_mul, show d.whole s * 2 ^ (30 - k) + fg b (30 - k) (30 - k) + g * 2 ^ (30 - k) = fg b (30 - k) (30 - k) + (d.whole s + g) * 2 ^ (30 - k) by rw [Nat.add_mul]; omega, Nat.add_mul_div_right _ _ pos, Nat.div_eq_of_lt (show fg b (30 - k) (30 - k) < 2 ^ (30 - k) by omega), Nat.zero_add]
  have fl := fg_lt (t := 30 - k) b1 (30 - k) (Nat.le_refl _)
  rw [Nat.sub_self] at fl
  generalize hT : 30 - k = t at *
  rw [← last]
  have z0 : lN (d.whole s * 2 ^ t) = lN (d.whole s * 2 ^ t + fg b t 0) := by rw [fg, Nat.add_zero]
  rw [z0]
  refine u_loop (fun f q => lX11_wholeBy_17 m (nI s) (nI k) (lN (g * 2 ^ t)) f (lN (d.whole s * 2 ^ t + fg b t q)) (nI q)) t _ (fun f q hq => ?_) (fun f => ?_) zfu 0 (by omega) (u_zfu (by omega))
  · have bb := b1 q
    show lX11_wholeBy_17 m (nI s) (nI k) _ (f + 1) _ (nI q) = _
    have e400 : (400 : Int32) * nI s = nI (400 * s) := pk_mul 400 s
    have e1 : nI t - (1 : Int32) = nI (t - 1) := pk_sub (b := 1) (by omega)
    have e2 : nI (t - 1) - nI q = nI (t - 1 - q) := pk_sub (by omega)
    rw [lX11_wholeBy_17, et, if_neg (nI_ge hq (by omega)), e400, nI_add, u_gd (by omega), nI_clamp (n := 400 * s + q) (by omega), w18' q (by omega), nI_l (by omega), e1, e2, wb_shl (k := t - 1 - q) _ (by omega), lN_add, u_let, u_let, show nI q + (1 : Int32) = nI (q + 1) from nI_add _ _, fg, Nat.add_assoc]
  · show lX11_wholeBy_17 m (nI s) (nI k) _ (f + 1) _ (nI t) = _
    rw [lX11_wholeBy_17, et, if_pos (nI_le (Nat.le_refl _) (by omega)), lN_add]
    have := l_shr (n := d.whole s * 2 ^ t + fg b t t + g * 2 ^ t) (k := 30) (by omega) (by omega)
    exact congrArg some this
theorem m_unsettle (m0 : Ob) : ∃ m', pX11_unsettle m0 = some m' ∧ (∀ i, i < 6 → ga m' 41 i = nO 0) ∧ frm [41] m0 m' := by
  unfold pX11_unsettle
  refine u_loopP (fun f q o => lX11_unsettle_2 f (nI q) o) (fun q o => (∀ i, i < q → ga o 41 i = nO 0) ∧ frm [41] m0 o) (fun r => ∃ m', r = some m' ∧ (∀ i, i < 6 → ga m' 41 i = nO 0) ∧ frm [41] m0 m') 6 (fun f q o hq hP => ?_) (fun f o hP => ?_) zfu 0 m0 (by omega) (u_zfu (by omega)) ⟨fun w hw => absurd hw (Nat.not_lt_zero w), frm_rf _ _⟩
  · refine ⟨sa o 41 (upd (ga o 41) q (-1)), ⟨fun i hi => ?_, frm_sa hP.2 (by decide) _⟩, ?_⟩
    · rw [ga_sa, if_pos rfl, upd_ap]
      by_cases z : i = q
      · rw [if_pos z]; rfl
      · rw [if_neg z]; exact hP.1 i (by omega)
    · show lX11_unsettle_2 (f + 1) (nI q) o = _
      rw [lX11_unsettle_2, if_neg (show ¬ (6 : Int32) ≤ nI q from nI_ge (b := 6) hq (by omega)), u_gd (by omega), u_let, u_let, nI_clamp (n := q) (by omega), show nI q + (1 : Int32) = nI (q + 1) from nI_add _ _]
  · refine ⟨o, ?_, hP.1, hP.2⟩
    show lX11_unsettle_2 (f + 1) (nI 6) o = _
    rw [lX11_unsettle_2, if_pos (show (6 : Int32) ≤ nI 6 by decide)]
theorem m_ready {c : CD} {l : LD} {d : SD} {s : Nat} {m : Ob} (hc : OKC c) (h1 : MC c m) (h2 : ML l m) (h3 : MS c.S d m) (hs : s < c.S) : ∃ m1 m2, pX11_listOwn m (nI s) = some m1 ∧ pX11_unsettle m1 = some m2 ∧ MP c l d s (fun _ => 0) m2 ∧ frm [39, 40, 41] m m2 := by
  obtain ⟨m1, a1, a2, a3, a4⟩ := m_list hc h1 hs
  obtain ⟨m2, b1, b2, b3⟩ := m_unsettle m1
  have f : frm [39, 40, 41] m m2 := frm_tr (frm_mono a4 (by decide)) (frm_mono b3 (by decide))
  refine ⟨m1, m2, a1, b1, ⟨MC_frm h1 f (by decide), ML_frm h2 f (by decide) (by decide), MS_sub h3 f (by decide), (b3 40 (by decide)).1.trans a2, fun i hi => ?_, fun i hi => ⟨b2 i hi, Nat.zero_le _⟩⟩, f⟩
  rw [(b3 39 (by decide)).2.2.1]
  exact a3 i hi
theorem abS_0 (c : CD) (l : LD) (d : SD) (s : Nat) : abS c l d s (fun _ => 0) = ab c l d s := by
  funext i j
  unfold abS
  rw [decide_eq_true (rfl : (0 : Nat) = 0), Bool.true_or, Bool.and_true]
theorem m_findMosts {c : CD} {l : LD} {d : SD} {s : Nat} {st : Nat → Nat} (hc : OKC c) (hl : OKL l) (hd : OKS c.S d) (hs : s < c.S) {k : Nat} (hk : k ≤ 30) (m : Ob) (h : MP c l d s st m) : ∃ m', pX11_findMosts m (nI k) = some m' ∧ RB (cnt c s c.W) (abS c l d s st) (fw c l d s) (ro l d) (k + 1) (30 - k) m' ∧ frm [42, 43] m m' := by
  unfold pX11_findMosts
  refine u_loopP (fun f q o => lX11_findMosts_2 (nI k) f (nI q) o) (fun q o => (0 < q → RB (cnt c s c.W) (abS c l d s st) (fw c l d s) (ro l d) q (30 - (q - 1)) o) ∧ frm [42, 43] m o) (fun r => ∃ m', r = some m' ∧ RB (cnt c s c.W) (abS c l d s st) (fw c l d s) (ro l d) (k + 1) (30 - k) m' ∧ frm [42, 43] m m') (k + 1) (fun f q o hq hP => ?_) (fun f o hP => ?_) zfu 0 m (by omega) (u_zfu (by omega)) ⟨fun h => absurd h (Nat.lt_irrefl 0), frm_rf _ _⟩
  · obtain ⟨m', a1, a2, a3⟩ := m_callOn hc hl hd hs (k := q) (by omega) o (MP_frm h hP.2) hP.1
    refine ⟨m', ⟨fun _ => a2, frm_tr hP.2 a3⟩, ?_⟩
    show lX11_findMosts_2 (nI k) (f + 1) (nI q) o = _
    rw [lX11_findMosts_2, if_neg (nI_nlt (by omega) (by omega)), a1, u_bd, u_let, show nI q + (1 : Int32) = nI (q + 1) from nI_add _ _]
  · refine ⟨o, ?_, hP.1 (by omega), hP.2⟩
    show lX11_findMosts_2 (nI k) (f + 1) (nI (k + 1)) o = _
    rw [lX11_findMosts_2, if_pos (nI_lt (by omega) (by omega))]
/-- the greatest of the sums on a day, in parts -/
noncomputable def gk (c : CD) (l : LD) (d : SD) (s k : Nat) : Nat := gm (bst (cnt c s c.W) (ab c l d s) (fw c l d s) (ro l d) (k + 1)) (2 ^ cnt c s c.W)
theorem m_greatBy {c : CD} {l : LD} {d : SD} {s : Nat} {m : Ob} (hc : OKC c) (hl : OKL l) (hd : OKS c.S d) (hs : s < c.S) {k : Nat} (hk : k ≤ 30) (h : MP c l d s (fun _ => 0) m) (hB : RB (cnt c s c.W) (ab c l d s) (fw c l d s) (ro l d) (k + 1) (30 - k) m) : ∃ v, pX11_greatest m = some v ∧ pX11_wholeBy m (nI s) (nI k) v = some (lN ((d.whole s + gk c l d s k) / 2 ^ k)) ∧ gk c l d s k ≤ 7128 * 2 ^ k := by
  have hn := hc.2.2.2.2 s hs
  have hf := fw_le hc hl d s
  have p2 := p2_le hn
  have pk : 3564 * 2 ^ (k + 1) = 7128 * 2 ^ k := by rw [Nat.pow_succ]; omega
  have prod : 2 ^ k * 2 ^ (30 - k) = 2 ^ 30 := by rw [← Nat.pow_add, show k + (30 - k) = 30 by omega]
  have g := m_great (t := 0) hn hk hf hB
  have gl : gk c l d s k ≤ 7128 * 2 ^ k := gm_le _ (fun i hi => by
    rw [← pk]
    exact isM_lt (hB i (by omega)).2 (fun x hx => PP_le hf hx))
  refine ⟨_, g, ?_, gl⟩
  have h1 := Nat.mul_le_mul_right (2 ^ (30 - k)) gl
  rw [Nat.mul_assoc, prod] at h1
  exact m_wholeBy (l := l) hc hd hs h.2.2.1 hk (by
    show gk c l d s k * 2 ^ (30 - k) ≤ 2 ^ 60
    omega)
theorem m_mostOn {c : CD} {l : LD} {d : SD} {s : Nat} {m : Ob} (hc : OKC c) (hl : OKL l) (hd : OKS c.S d) (hs : s < c.S) {k : Nat} (hk : k ≤ 30) (h1 : MC c m) (h2 : ML l m) (h3 : MS c.S d m) : ∃ m', pX11_mostOn m (nI s) (nI k) = some (lN ((d.whole s + gk c l d s k) / 2 ^ k), m') ∧ frm [39, 40, 41, 42, 43] m m' := by
  obtain ⟨m1, m2, a1, a2, a3, a4⟩ := m_ready (l := l) (d := d) hc h1 h2 h3 hs
  obtain ⟨m3, b1, b2, b3⟩ := m_findMosts hc hl hd hs hk m2 a3
  rw [abS_0] at b2
  obtain ⟨v, c1, c2, _⟩ := m_greatBy hc hl hd hs hk (MP_frm a3 b3) b2
  refine ⟨m3, ?_, frm_tr (frm_mono a4 (by decide)) (frm_mono b3 (by decide))⟩
  unfold pX11_mostOn
  rw [a1, u_bd, a2, u_bd, b1, u_bd, c1, u_bd, c2, u_bd]
theorem h_mostOn {c : CD} {l : LD} {d : SD} {oe oc ow os : Ob} (hc : OKC c) (hl : OKL l) (hd : OKS c.S d) (h : CC c oc) (h2 : CL l ow) (h3 : CS c.S d os) {s : Nat} (hs : s < c.S) (hg : d.how s = 0) {k : Nat} (hk : k ≤ 30) (hday : d.day + k ≤ 399) : ∃ o', pX1_mostOn oe oc ow os (nI s) (nI k) = some (nI ((d.whole s + gk c l d s k) / 2 ^ k), o') := by
  have hn := hc.2.2.2.2 s hs
  have p2 := p2_le hn
  have hw := (hd.2.2.2.2.1 s hs).1
  have hsp := hd.2.1
  have hK := lastK_le d
  have hkK : k ≤ lastK d := by unfold lastK; split <;> omega
  obtain ⟨o1, a1, a2⟩ := h_prepare (oe := oe) hc hl hd h h2 h3 hs hg
  obtain ⟨o2, b1, b2, b3⟩ := h_clear o1 oc ow os (cnt c s c.W) (ab c l d s) (fw c l d s) (ro l d) (2 ^ cnt c s c.W - 1)
  have a2' := CP_frm hn a2 b3 (by decide)
  have key := u_loopP (fun f q o => (fun K : Ob → Option (Int32 × Ob) => lX1_mostOn_11 oc ow os (nI k) K f (nI q) o)) (fun q o => CP c l d s o ∧ Bes (cnt c s c.W) (ab c l d s) (fw c l d s) (ro l d) q (2 ^ cnt c s c.W - 1) o) (fun r => ∃ o', (∀ K : Ob → Option (Int32 × Ob), r K = K o') ∧ CP c l d s o' ∧ Bes (cnt c s c.W) (ab c l d s) (fw c l d s) (ro l d) (k + 1) (2 ^ cnt c s c.W - 1) o') (k + 1) (fun f q o hq hP => ?_) (fun f o hP => ?_) zfu 0 o2 (by omega) (u_zfu (by omega)) ⟨a2', b2⟩
  · obtain ⟨o3, c1, c2, c3⟩ := key
    have g := h_great (oc := oc) (ow := ow) (os := os) hc hl hd hs (k := k + 1) (by omega) c2 c3
    refine ⟨o3, ?_⟩
    unfold pX1_mostOn
    rw [a1, u_bd, b1, u_bd, u_jn]
    have c1' : ∀ K : Ob → Option (Int32 × Ob), lX1_mostOn_11 oc ow os (nI k) K zfu 0 o2 = K o3 := c1
    rw [c1', g, u_bd]
    have gl : gk c l d s k ≤ 3564 * 2 ^ (k + 1) := gm_le _ (fun i hi => isM_lt (c3 i (sub_all.mpr hi)).2 (fun x hx => PP_le (fw_le hc hl d s) hx))
    have pk3 : 3564 * 2 ^ (k + 1) ≤ 3564 * 2 ^ 31 := Nat.mul_le_mul_left _ (Nat.pow_le_pow_right (by omega) (by omega))
    have := l_shr (n := d.whole s + gk c l d s k) (k := k) (by omega) (by omega)
    show some ((lN (d.whole s + gk c l d s k) >>> ((nI k).toInt64 &&& 63)).toInt32, o3) = _
    rw [this, lN_i]
  · have hA : 2 ^ cnt c s c.W - 1 < 64 := by omega
    obtain ⟨o', d1, d2, d3⟩ := h_callOn (oc := oc) (ow := ow) (os := os) hn hK.1 (k := q) (by omega) (fw_le hc hl d s) (ro_le hl d) hA hP.1.1 (Bes_ex hP.2)
    refine ⟨o', ⟨CP_frm hn hP.1 d3 (by decide), Bes_of d2⟩, ?_⟩
    funext K
    show lX1_mostOn_11 oc ow os (nI k) K (f + 1) (nI q) o = _
    rw [lX1_mostOn_11, if_neg (nI_nlt (by omega) (by omega)), hP.1.2.1, if_neg (nI_nlt (by omega) (by omega)), h_all hn hP.1.1.1, u_bd, d1, u_bd, u_let, show nI q + (1 : Int32) = nI (q + 1) from nI_add _ _]
  · refine ⟨o, fun K => ?_, hP.1, hP.2⟩
    show lX1_mostOn_11 oc ow os (nI k) K (f + 1) (nI (k + 1)) o = _
    rw [lX1_mostOn_11, if_pos (nI_lt (by omega) (by omega))]
