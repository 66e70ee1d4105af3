/-! turns: the reference's row of one set -/
theorem mk_flip : ∀ P : Fin 64, ∀ i : Fin 6, P.val.testBit i.val = true → P.val ^^^ 1 <<< i.val < P.val := by decide +kernel
theorem flip_dec {P i : Nat} (hP : P < 64) (hi : P.testBit i = true) : P ^^^ 1 <<< i < P := mk_flip ⟨P, hP⟩ ⟨i, bit_lt6 hP hi⟩ hi
theorem flip2_dec {P i j : Nat} (hP : P < 64) (hi : P.testBit i = true) (hj : (P ^^^ 1 <<< i).testBit j = true) : P ^^^ 1 <<< i ^^^ 1 <<< j < P := by
  have h1 := flip_dec hP hi
  have h2 := flip_dec (show P ^^^ 1 <<< i < 64 by omega) hj
  omega
theorem mk_bsub : ∀ m : Fin 64, ∀ s : Fin 64, s.val &&& m.val = s.val → bsum s.val 12 ≤ bsum m.val 12 := by decide +kernel
def wantC (G W0 n : Nat) (fp : Nat → Nat) (v : Nat → Int) (P i t a : Nat) : Prop := G * 2 ^ t ≤ W0 + a + fp i * 2 ^ t ∨ (P ^^^ 1 <<< i ≠ 0 ∧ ∀ j, j < n → (P ^^^ 1 <<< i).testBit j = true → v (P ^^^ 1 <<< i ^^^ 1 <<< j) ≤ ((a + fp i * 2 ^ t : Nat) : Int))
theorem row_if {α : Type} {A P q : Nat} (hP : P < 64) (hA : A < 64) (hq : q < 6) (T0 T1 : Option α) : (if nI P &&& (nI A ^^^ (-1 : Int32)) = 0 then Option.bind (pX11_has (nI P) (nI q)) (fun r34 => if r34 = 0 then T0 else Option.bind (pX11_bits (nI A)) fun r35 => Option.bind (pX11_bits (nI P)) fun r36 => znz (2 : Int32) (if (r35 - r36) - (r35 - r36) / (2 : Int32) * (2 : Int32) = 0 then T1 else T0)) else T0) = if P &&& A = P ∧ P.testBit q = true ∧ (bsum A 12 - bsum P 12) % 2 = 0 then T1 else T0 := by
  have bA := bsum_le A 12
  have bx : P ^^^ (P &&& A) < 64 := Nat.xor_lt_two_pow (n := 6) hP (Nat.lt_of_le_of_lt Nat.and_le_left hP)
  rw [show nI P &&& (nI A ^^^ (-1 : Int32)) = nI (P ^^^ (P &&& A)) from u_andn P A]
  by_cases z : P &&& A = P
  · have le := mk_bsub ⟨A, hA⟩ ⟨P, hP⟩ z
    have le' : bsum P 12 ≤ bsum A 12 := le
    rw [z, Nat.xor_self, if_pos (show nI 0 = (0 : Int32) from rfl), m_has (by omega) (by omega), u_bd]
    cases y : P.testBit q with
    | false => rw [if_pos (show nI (bN false) = (0 : Int32) by decide), if_neg (fun h => absurd h.2.1 (by decide))]
    | true =>
      have e := pk_div (a := bsum A 12 - bsum P 12) (d := 2) (by omega) (by omega) (by omega)
      have hz : ∀ o : Option α, znz (2 : Int32) o = o := fun o => if_neg (by decide)
      rw [if_neg (show ¬ nI (bN true) = (0 : Int32) by decide), m_bits (a := A) (by omega), u_bd, m_bits (a := P) (by omega), u_bd, hz, pk_sub le', show nI (bsum A 12 - bsum P 12) / (2 : Int32) = nI ((bsum A 12 - bsum P 12) / 2) from e, show nI ((bsum A 12 - bsum P 12) / 2) * (2 : Int32) = nI ((bsum A 12 - bsum P 12) / 2 * 2) from pk_mul _ 2, pk_sub (by omega)]
      by_cases w : (bsum A 12 - bsum P 12) % 2 = 0
      · rw [show bsum A 12 - bsum P 12 - (bsum A 12 - bsum P 12) / 2 * 2 = 0 by omega, if_pos (show nI 0 = (0 : Int32) from rfl), if_pos ⟨rfl, rfl, w⟩]
      · rw [if_neg (nI_ne0 (n := bsum A 12 - bsum P 12 - (bsum A 12 - bsum P 12) / 2 * 2) (by omega) (by omega)), if_neg (fun h => w h.2.2)]
  · have nz : P ^^^ (P &&& A) ≠ 0 := fun h => z (xor_0 h).symm
    rw [if_neg (nI_ne0 (by omega) (by omega)), if_neg (fun h => z h.1)]
theorem m_t113 {c : CD} {l : LD} {d : SD} {s P A : Nat} {m : Ob} (hc : OKC c) (hl : OKL l) (hd : OKS c.S d) (hs : s < c.S) (h1 : MC c m) (h2 : ML l m) (h3 : MS c.S d m) (h40 : gi m 40 = nI (cnt c s c.W)) (h39 : ∀ i, i < cnt c s c.W → ga m 39 i = nI (own c s c.W i)) (hP : P < 64) (hA : A < 64) (hlow : ∀ T, T < P → (gb m 45 T).toInt ≤ 2 ^ 60) (h0 : gb m 45 P = 1152921504606846976) : ∃ m', (∀ K : Int32 → Int32 → Ob → Option (Int32 × Ob), lX11_turns_113 (nI s) K zfu (nI A) (nI P) 0 m = K (nI A) (nI P) m') ∧ frm [45] m m' ∧ (∀ T, T ≠ P → gb m' 45 T = gb m 45 T) ∧ (gb m' 45 P).toInt ≤ 2 ^ 60 ∧ (P &&& A = P → ∀ t, bsum A 12 = bsum P 12 + 2 * t → ∀ a : Nat, a ≤ 594 * 2 ^ t → ((gb m' 45 P).toInt ≤ (a : Int) ↔ ∃ i, i < cnt c s c.W ∧ P.testBit i = true ∧ wantC (3 * c.need s) (d.whole s) (cnt c s c.W) (fun i => fw c l d s i 0) (fun T => (gb m 45 T).toInt) P i t a)) := by
  have hn := hc.2.2.2.2 s hs
  have bA := bsum_le A 12
  have bP := bsum_le P 12
  have big : (1152921504606846976 : Int64).toInt = 2 ^ 60 := by decide
  refine u_loopP (fun f q (o : Ob) => (fun K : Int32 → Int32 → Ob → Option (Int32 × Ob) => lX11_turns_113 (nI s) K f (nI A) (nI P) (nI q) o)) (fun q (o : Ob) => frm [45] m o ∧ (∀ T, T ≠ P → gb o 45 T = gb m 45 T) ∧ (gb o 45 P).toInt ≤ 2 ^ 60 ∧ (P &&& A = P → ∀ t, bsum A 12 = bsum P 12 + 2 * t → ∀ a : Nat, a ≤ 594 * 2 ^ t → ((gb o 45 P).toInt ≤ (a : Int) ↔ ∃ i, i < q ∧ P.testBit i = true ∧ wantC (3 * c.need s) (d.whole s) (cnt c s c.W) (fun i => fw c l d s i 0) (fun T => (gb m 45 T).toInt) P i t a))) (fun r => ∃ m', (∀ K : Int32 → Int32 → Ob → Option (Int32 × Ob), r K = K (nI A) (nI P) m') ∧ frm [45] m m' ∧ (∀ T, T ≠ P → gb m' 45 T = gb m 45 T) ∧ (gb m' 45 P).toInt ≤ 2 ^ 60 ∧ (P &&& A = P → ∀ t, bsum A 12 = bsum P 12 + 2 * t → ∀ a : Nat, a ≤ 594 * 2 ^ t → ((gb m' 45 P).toInt ≤ (a : Int) ↔ ∃ i, i < cnt c s c.W ∧ P.testBit i = true ∧ wantC (3 * c.need s) (d.whole s) (cnt c s c.W) (fun i => fw c l d s i 0) (fun T => (gb m 45 T).toInt) P i t a))) (cnt c s c.W) (fun f q o hq hI => ?_) (fun f o hI => ?_) zfu 0 m (Nat.zero_le _) (u_zfu (by omega)) ⟨frm_rf _ m, fun _ _ => rfl, by rw [h0]; omega, fun _ t ht a ha => ⟨fun h => ?_, fun ⟨i, hi, _⟩ => absurd hi (Nat.not_lt_zero i)⟩⟩
  · obtain ⟨i1, i2, i3, i4⟩ := hI
    have o40 : gi o 40 = nI (cnt c s c.W) := by rw [(i1 40 (by decide)).1]; exact h40
    have head : ∀ K : Int32 → Int32 → Ob → Option (Int32 × Ob), lX11_turns_113 (nI s) K (f + 1) (nI A) (nI P) (nI q) o = (if P &&& A = P ∧ P.testBit q = true ∧ (bsum A 12 - bsum P 12) % 2 = 0 then Option.bind (pX11_wantOf o (nI s) (nI P) (nI q) (nI (bsum A 12))) (fun r33 => lX11_turns_113 (nI s) K f (nI A) (nI P) (nI (q + 1)) (sb o 45 (vp_updL (gb o 45) P (if gb o 45 P ≤ r33 then gb o 45 P else r33)))) else lX11_turns_113 (nI s) K f (nI A) (nI P) (nI (q + 1)) (sb o 45 (vp_updL (gb o 45) P (gb o 45 P)))) := by
      intro K
      have rest : ∀ y28 : Int64, (zgd (nI P) 64 (zjn (fun y29 => zgd (nI P) 64 (zlet (sb o 45 (vp_updL (gb o 45) P y29)) fun o30 => zlet (nI q + 1) fun x31 => lX11_turns_113 (nI s) K f (nI A) (nI P) x31 o30)) fun K224 => if gb o 45 P ≤ y28 then zgd (nI P) 64 (K224 (gb o 45 P)) else K224 y28)) = lX11_turns_113 (nI s) K f (nI A) (nI P) (nI (q + 1)) (sb o 45 (vp_updL (gb o 45) P (if gb o 45 P ≤ y28 then gb o 45 P else y28))) := by
        intro y28
        rw [u_gd ⟨hP, by omega⟩, u_jn]
        dsimp only
        by_cases w : gb o 45 P ≤ y28
        · rw [if_pos w, if_pos w, u_gd ⟨hP, by omega⟩, u_gd ⟨hP, by omega⟩, u_let, u_let, show nI q + (1 : Int32) = nI (q + 1) from nI_add _ _]
        · rw [if_neg w, if_neg w, u_gd ⟨hP, by omega⟩, u_let, u_let, show nI q + (1 : Int32) = nI (q + 1) from nI_add _ _]
      rw [lX11_turns_113, o40, if_neg (nI_ge hq (by omega)), u_jn]
      dsimp only
      rw [u_jn, row_if hP hA (by omega), u_jn, u_jn]
      dsimp only
      rw [if_pos rfl, if_neg (show ¬ (1 : Int32) = 0 by decide), m_bits (a := A) (by omega), u_bd, nI_clamp (n := P) (by omega), u_gd ⟨hP, by omega⟩]
      by_cases w : P &&& A = P ∧ P.testBit q = true ∧ (bsum A 12 - bsum P 12) % 2 = 0
      · rw [if_pos w, if_pos w]
        exact congrArg (Option.bind _) (funext fun r33 => rest r33)
      · rw [if_neg w, if_neg w]
        have := rest (gb o 45 P)
        rw [if_pos (Int64.le_iff_toInt_le.mpr (Int.le_refl _))] at this
        exact this
    have mn : ∀ (r : Int64) (B : Int), (if gb o 45 P ≤ r then gb o 45 P else r).toInt ≤ B ↔ ((gb o 45 P).toInt ≤ B ∨ r.toInt ≤ B) := by
      intro r B
      by_cases w : gb o 45 P ≤ r
      · have w' := Int64.le_iff_toInt_le.mp w
        rw [if_pos w]; omega
      · have w' : ¬ (gb o 45 P).toInt ≤ r.toInt := fun x => w (Int64.le_iff_toInt_le.mpr x)
        rw [if_neg w]; omega
    by_cases w : P &&& A = P ∧ P.testBit q = true ∧ (bsum A 12 - bsum P 12) % 2 = 0
    · have w' := w
      obtain ⟨w1, w2, w3⟩ := w'
      have le : bsum P 12 ≤ bsum A 12 := mk_bsub ⟨A, hA⟩ ⟨P, hP⟩ w1
      obtain ⟨t, ht⟩ : ∃ t, bsum A 12 = bsum P 12 + 2 * t := ⟨(bsum A 12 - bsum P 12) / 2, by omega⟩
      have C1 := MC_frm h1 i1 (by decide)
      have L1 := ML_frm h2 i1 (by decide) (by decide)
      have S1 := MS_sub h3 i1 (by decide)
      have o39 : ∀ i, i < cnt c s c.W → ga o 39 i = nI (own c s c.W i) := fun i hi => by rw [(i1 39 (by decide)).2.2.1]; exact h39 i hi
      have ev : ∀ j, (P ^^^ 1 <<< q).testBit j = true → gb o 45 (P ^^^ 1 <<< q ^^^ 1 <<< j) = gb m 45 (P ^^^ 1 <<< q ^^^ 1 <<< j) := fun j hb => i2 _ (by
        have lt := flip2_dec hP w2 hb
        omega)
      obtain ⟨r, r1, r2, r3, r4⟩ := m_wantOf (t := t) hc hl hd hs C1 L1 S1 o40 o39 hP w2 hq (by omega) (fun j hj hb => by
        rw [ev j hb]; exact hlow _ (flip2_dec hP w2 hb))
      rw [← ht] at r1
      refine ⟨sb o 45 (vp_updL (gb o 45) P (if gb o 45 P ≤ r then gb o 45 P else r)), ⟨frm_sb i1 (by decide) _, ?_, ?_, ?_⟩, ?_⟩
      · intro T hT
        rw [gb_sb, if_pos rfl, updL_ap, if_neg hT]
        exact i2 T hT
      · rw [gb_sb, if_pos rfl, updL_ap, if_pos rfl, mn]
        exact Or.inl i3
      · intro _ t' ht' a ha
        have : t' = t := by omega
        subst this
        have bf := fw_le hc hl d s q 0 (by omega)
        have pt : 2 ^ t' ≤ 2 ^ 6 := Nat.pow_le_pow_right (by omega) (by omega)
        have y4b : fw c l d s q 0 * 2 ^ t' ≤ 594 * 2 ^ 6 := Nat.mul_le_mul bf pt
        have k := i4 w1 t' ht' a ha
        have k2 := r4 a (by omega)
        have k3 : r.toInt ≤ (a : Int) ↔ wantC (3 * c.need s) (d.whole s) (cnt c s c.W) (fun i => fw c l d s i 0) (fun T => (gb m 45 T).toInt) P q t' a := by
          rw [k2]
          unfold wantC
          constructor
          · rintro (h | ⟨h, g⟩)
            · exact Or.inl h
            · exact Or.inr ⟨h, fun j hj hb => by
                have := g j hj hb
                rw [ev j hb] at this
                exact this⟩
          · rintro (h | ⟨h, g⟩)
            · exact Or.inl h
            · exact Or.inr ⟨h, fun j hj hb => by
                rw [ev j hb]
                exact g j hj hb⟩
        rw [gb_sb, if_pos rfl, updL_ap, if_pos rfl, mn, k, k3]
        constructor
        · rintro (⟨i, x1, x2, x3⟩ | h)
          · exact ⟨i, by omega, x2, x3⟩
          · exact ⟨q, by omega, w2, h⟩
        · rintro ⟨i, x1, x2, x3⟩
          by_cases y : i = q
          · subst y; exact Or.inr x3
          · exact Or.inl ⟨i, by omega, x2, x3⟩
      · funext K
        show lX11_turns_113 (nI s) K (f + 1) (nI A) (nI P) (nI q) o = _
        rw [head, if_pos w, r1, u_bd]
    · refine ⟨sb o 45 (vp_updL (gb o 45) P (gb o 45 P)), ⟨frm_sb i1 (by decide) _, ?_, ?_, ?_⟩, ?_⟩
      · intro T hT
        rw [gb_sb, if_pos rfl, updL_ap, if_neg hT]
        exact i2 T hT
      · rw [gb_sb, if_pos rfl, updL_ap, if_pos rfl]
        exact i3
      · intro w1 t ht a ha
        rw [gb_sb, if_pos rfl, updL_ap, if_pos rfl, i4 w1 t ht a ha]
        constructor
        · rintro ⟨i, x1, x2, x3⟩
          exact ⟨i, by omega, x2, x3⟩
        · rintro ⟨i, x1, x2, x3⟩
          by_cases y : i = q
          · subst y; exact absurd ⟨w1, x2, by omega⟩ w
          · exact ⟨i, by omega, x2, x3⟩
      · funext K
        show lX11_turns_113 (nI s) K (f + 1) (nI A) (nI P) (nI q) o = _
        rw [head, if_neg w]
  · refine ⟨o, fun K => ?_, hI⟩
    show lX11_turns_113 (nI s) K (f + 1) (nI A) (nI P) (nI (cnt c s c.W)) o = _
    rw [lX11_turns_113, (hI.1 40 (by decide)).1, h40, if_pos (nI_le (Nat.le_refl _) (by omega))]
  · exfalso
    have pt : 2 ^ t ≤ 2 ^ 6 := Nat.pow_le_pow_right (by omega) (by omega)
    rw [h0] at h
    omega
