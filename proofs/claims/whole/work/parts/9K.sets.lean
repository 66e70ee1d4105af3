/-! turns: what the reference's rows say -/
def goodW (G W0 A : Nat) (fp : Nat → Nat) (v : Nat → Int) (T : Nat) : Prop := T &&& A = T → ∀ t, bsum A 12 = bsum T 12 + 2 * t → ∀ N, bsum T 12 ≤ 2 * N → ∀ a : Nat, a ≤ 594 * 2 ^ t → (W0 + a) / 2 ^ t < G → (v T ≤ (a : Int) ↔ gS G fp N T ((W0 + a) / 2 ^ t) t)
theorem goodW_congr {G W0 A T : Nat} {fp : Nat → Nat} {v v' : Nat → Int} (e : v T = v' T) (h : goodW G W0 A fp v T) : goodW G W0 A fp v' T := by
  unfold goodW at *
  rw [← e]
  exact h
/-- one call, once the smaller sets are good -/
theorem good_one {G W0 A n P t N i a : Nat} {fp : Nat → Nat} {v : Nat → Int} (hP : P < 64) (hA : A < 2 ^ n) (hf : ∀ i, i < 6 → fp i ≤ 594) (low : ∀ T, T < P → goodW G W0 A fp v T) (hs : P &&& A = P) (ht : bsum A 12 = bsum P 12 + 2 * t) (hN : bsum P 12 ≤ 2 * (N + 1)) (ha : a ≤ 594 * 2 ^ t) (hi : P.testBit i = true) : wantC G W0 n fp v P i t a ↔ gW G fp N P ((W0 + a) / 2 ^ t) t i := by
  have pn : P < 2 ^ n := Nat.lt_of_le_of_lt (sub_le hs) hA
  have i6 := bit_lt6 hP hi
  have b1 := bsum_rm hi 12
  rw [if_pos (show i < 12 by omega)] at b1
  exact want_gW (v := fun j => v (P ^^^ 1 <<< i ^^^ 1 <<< j)) pn hi (hf i i6) ha (fun j hjn hj a' ha' hG' => by
    have j6 := bit_lt6 (flip_lt hP i6) hj
    have b2 := bsum_rm hj 12
    rw [if_pos (show j < 12 by omega)] at b2
    exact low _ (flip2_dec hP hi hj) (sub_of (fun q hq => sub_bit hs (flip_sub hi (flip_sub hj hq)))) (t + 1) (by omega) N (by omega) a' ha' hG')
theorem wantC_congr {G W0 n P i t a : Nat} {fp : Nat → Nat} {v v' : Nat → Int} (hP : P < 64) (hi : P.testBit i = true) (e : ∀ T, T < P → v T = v' T) : wantC G W0 n fp v P i t a ↔ wantC G W0 n fp v' P i t a := by
  unfold wantC
  constructor
  · rintro (h | ⟨h, g⟩)
    · exact Or.inl h
    · exact Or.inr ⟨h, fun j hj hb => by rw [← e _ (flip2_dec hP hi hb)]; exact g j hj hb⟩
  · rintro (h | ⟨h, g⟩)
    · exact Or.inl h
    · exact Or.inr ⟨h, fun j hj hb => by rw [e _ (flip2_dec hP hi hb)]; exact g j hj hb⟩
theorem good_step {G W0 A n P : Nat} {fp : Nat → Nat} {v v0 : Nat → Int} (hP : P < 64) (hA : A < 2 ^ n) (hf : ∀ i, i < 6 → fp i ≤ 594) (low : ∀ T, T < P → goodW G W0 A fp v T) (e0 : ∀ T, T < P → v0 T = v T) (hv : P &&& A = P → ∀ t, bsum A 12 = bsum P 12 + 2 * t → ∀ a : Nat, a ≤ 594 * 2 ^ t → (v P ≤ (a : Int) ↔ ∃ i, i < n ∧ P.testBit i = true ∧ wantC G W0 n fp v0 P i t a)) : goodW G W0 A fp v P := by
  intro hs t ht N hN a ha hG
  have bA := bsum_le A 12
  have pn : P < 2 ^ n := Nat.lt_of_le_of_lt (sub_le hs) hA
  rw [hv hs t ht a ha]
  cases N with
  | zero =>
    constructor
    · rintro ⟨i, _, hi, _⟩
      have i6 := bit_lt6 hP hi
      have b1 := bsum_rm hi 12
      rw [if_pos (show i < 12 by omega)] at b1
      omega
    · intro h; exact False.elim h
  | succ N' =>
    rw [gS]
    constructor
    · rintro ⟨i, _, hi, h⟩
      exact Or.inr ⟨by omega, i, hi, (good_one hP hA hf low hs ht hN ha hi).mp ((wantC_congr hP hi e0).mp h)⟩
    · rintro (h | ⟨_, i, hi, h⟩)
      · omega
      · exact ⟨i, bit_n pn hi, hi, (wantC_congr hP hi e0).mpr ((good_one hP hA hf low hs ht hN ha hi).mpr h)⟩
theorem m_t93 {c : CD} {l : LD} {d : SD} {s A : Nat} {m : Ob} (hc : OKC c) (hl : OKL l) (hd : OKS c.S d) (hs : s < c.S) (h1 : MC c m) (h2 : ML l m) (h3 : MS c.S d m) (h40 : gi m 40 = nI (cnt c s c.W)) (h39 : ∀ i, i < cnt c s c.W → ga m 39 i = nI (own c s c.W i)) (hA : A < 2 ^ cnt c s c.W) : ∃ m', (∀ K : Int32 → Ob → Option (Int32 × Ob), lX11_turns_93 (nI s) K zfu (nI A) 0 m = K (nI A) m') ∧ frm [45] m m' ∧ (∀ T, T < 64 → (gb m' 45 T).toInt ≤ 2 ^ 60 ∧ goodW (3 * c.need s) (d.whole s) A (fun i => fw c l d s i 0) (fun T => (gb m' 45 T).toInt) T) := by
  have hn := hc.2.2.2.2 s hs
  have p2 := p2_le hn
  have big : (1152921504606846976 : Int64).toInt = 2 ^ 60 := by decide
  refine u_loopP (fun f q (o : Ob) => (fun K : Int32 → Ob → Option (Int32 × Ob) => lX11_turns_93 (nI s) K f (nI A) (nI q) o)) (fun q (o : Ob) => frm [45] m o ∧ (∀ T, T < q → (gb o 45 T).toInt ≤ 2 ^ 60 ∧ goodW (3 * c.need s) (d.whole s) A (fun i => fw c l d s i 0) (fun T => (gb o 45 T).toInt) T)) (fun r => ∃ m', (∀ K : Int32 → Ob → Option (Int32 × Ob), r K = K (nI A) m') ∧ frm [45] m m' ∧ (∀ T, T < 64 → (gb m' 45 T).toInt ≤ 2 ^ 60 ∧ goodW (3 * c.need s) (d.whole s) A (fun i => fw c l d s i 0) (fun T => (gb m' 45 T).toInt) T)) 64 (fun f q o hq hI => ?_) (fun f o hI => ?_) zfu 0 m (by omega) (u_zfu (by omega)) ⟨frm_rf _ m, fun T hT => absurd hT (Nat.not_lt_zero T)⟩
  · obtain ⟨i1, i2⟩ := hI
    have v1 : ∀ T, gb (sb o 45 (vp_updL (gb o 45) q (1152921504606846976 : Int64))) 45 T = if T = q then 1152921504606846976 else gb o 45 T := fun T => by rw [gb_sb, if_pos rfl, updL_ap]
    have f1 : frm [45] m (sb o 45 (vp_updL (gb o 45) q (1152921504606846976 : Int64))) := frm_sb i1 (by decide) _
    have hd1 : ∀ K : Int32 → Ob → Option (Int32 × Ob), lX11_turns_93 (nI s) K (f + 1) (nI A) (nI q) o = zjn (fun (x19 : Int32) (x20 : Int32) (o21 : Ob) => zlet (x20 + (1 : Int32)) fun (x22 : Int32) => lX11_turns_93 (nI s) K f x19 x22 o21) fun (K231 : Int32 → Int32 → Ob → Option (Int32 × Ob)) => lX11_turns_113 (nI s) K231 zfu (nI A) (nI q) (0 : Int32) (sb o 45 (vp_updL (gb o 45) q (1152921504606846976 : Int64))) := by
      intro K
      rw [lX11_turns_93, if_neg (show ¬ (64 : Int32) ≤ nI q from nI_ge (b := 64) hq (by omega)), u_gd ⟨hq, by omega⟩, u_let, nI_clamp (n := q) (by omega)]
    generalize sb o 45 (vp_updL (gb o 45) q (1152921504606846976 : Int64)) = o1 at *
    obtain ⟨o2, g1, g2, g3, g4, g5⟩ := m_t113 (m := o1) (P := q) (A := A) hc hl hd hs (MC_frm h1 f1 (by decide)) (ML_frm h2 f1 (by decide) (by decide)) (MS_sub h3 f1 (by decide)) (by rw [(f1 40 (by decide)).1]; exact h40) (fun i hi => by rw [(f1 39 (by decide)).2.2.1]; exact h39 i hi) hq (by omega) (fun T hT => by rw [v1, if_neg (by omega)]; exact (i2 T hT).1) (by rw [v1, if_pos rfl])
    have low : ∀ T, T < q → gb o2 45 T = gb o 45 T := fun T hT => by rw [g3 T (by omega), v1, if_neg (by omega)]
    have lowG : ∀ T, T < q → goodW (3 * c.need s) (d.whole s) A (fun i => fw c l d s i 0) (fun T => (gb o2 45 T).toInt) T := fun T hT => goodW_congr (v := fun T => (gb o 45 T).toInt) (show (gb o 45 T).toInt = (gb o2 45 T).toInt by rw [low T hT]) (i2 T hT).2
    refine ⟨o2, ⟨frm_tr f1 g2, fun T hT => ?_⟩, ?_⟩
    · by_cases z : T = q
      · subst z
        exact ⟨g4, good_step (v0 := fun T => (gb o1 45 T).toInt) hq hA (fun i hi => fw_le hc hl d s i 0 hi) lowG (fun T' hT' => by
          show (gb o1 45 T').toInt = (gb o2 45 T').toInt
          rw [g3 T' (by omega)]) g5⟩
      · have hT' : T < q := by omega
        exact ⟨by rw [low T hT']; exact (i2 T hT').1, lowG T hT'⟩
    · funext K
      show lX11_turns_93 (nI s) K (f + 1) (nI A) (nI q) o = _
      have g1' : ∀ K : Int32 → Int32 → Ob → Option (Int32 × Ob), lX11_turns_113 (nI s) K zfu (nI A) (nI q) (0 : Int32) o1 = K (nI A) (nI q) o2 := g1
      rw [hd1, u_jn, g1', u_let, show nI q + (1 : Int32) = nI (q + 1) from nI_add _ _]
  · refine ⟨o, fun K => ?_, hI⟩
    show lX11_turns_93 (nI s) K (f + 1) (nI A) (nI 64) o = _
    rw [lX11_turns_93, if_pos (show (64 : Int32) ≤ nI 64 by decide)]
