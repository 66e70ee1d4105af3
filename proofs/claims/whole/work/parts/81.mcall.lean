/-! the reference: a day more -/
def sc (e t : Nat) : Int64 := if e = 0 then -1 else lN ((e - 1) * 2 ^ t)
theorem sc_0 (t : Nat) : sc 0 t = -1 := rfl
theorem sc_s (e t : Nat) : sc (e + 1) t = lN (e * 2 ^ t) := if_neg (Nat.succ_ne_zero e)
theorem sc_bd {e t : Nat} (he : e ≤ 2 ^ 31) (ht : t ≤ 30) : e * 2 ^ t ≤ 2 ^ 61 := by
  have := Nat.mul_le_mul he (show 2 ^ t ≤ 2 ^ 30 from Nat.pow_le_pow_right (by omega) ht)
  omega
theorem sc_neg {e t : Nat} (he : e * 2 ^ t < 2 ^ 62) : (sc e t < (0 : Int64)) ↔ e = 0 := by
  cases e with
  | zero => exact ⟨fun _ => rfl, fun _ => by show (-1 : Int64) < 0; decide⟩
  | succ e =>
    have p := Nat.two_pow_pos t
    rw [sc_s]
    rw [Nat.succ_mul] at he
    exact ⟨fun r => absurd r (lN_nneg (by omega)), fun r => absurd r (Nat.succ_ne_zero e)⟩
theorem sc_add {a v t : Nat} (ha : 0 < a) : sc a t + lN (v * 2 ^ t) = sc (a + v) t := by
  obtain ⟨b, rfl⟩ : ∃ b, a = b + 1 := ⟨a - 1, by omega⟩
  rw [sc_s, lN_add, ← Nat.add_mul, show b + 1 + v = (b + v) + 1 by omega, sc_s]
theorem sc_le {a e t : Nat} (ha : 0 < a) (h1 : a * 2 ^ t < 2 ^ 62) (h2 : e * 2 ^ t < 2 ^ 62) : sc a t ≤ sc e t ↔ a ≤ e := by
  obtain ⟨b, rfl⟩ : ∃ b, a = b + 1 := ⟨a - 1, by omega⟩
  have p := Nat.two_pow_pos t
  rw [Nat.succ_mul] at h1
  cases e with
  | zero =>
    refine ⟨fun r => ?_, fun r => by omega⟩
    rw [sc_s, sc_0, Int64.le_iff_toInt_le, pk_lT (by omega)] at r
    have : (-1 : Int64).toInt = -1 := by decide
    omega
  | succ e =>
    rw [Nat.succ_mul] at h2
    rw [sc_s, sc_s, pk_lLE (by omega) (by omega)]
    constructor
    · intro h
      have := Nat.le_of_mul_le_mul_right h p
      omega
    · intro h
      exact Nat.mul_le_mul_right _ (by omega)
theorem m_has {U q : Nat} (hU : U < 2147483648) (hq : q < 31) : pX11_has (nI U) (nI q) = some (nI (bN (U.testBit q))) := by
  unfold pX11_has
  have h1 : U >>> q < 2147483648 := by rw [Nat.shiftRight_eq_div_pow]; exact Nat.lt_of_le_of_lt (Nat.div_le_self _ _) hU
  rw [show nI U >>> (nI q &&& 31) = nI (U >>> q) from u_shr hU (by omega), show nI (U >>> q) &&& (1 : Int32) = nI (U >>> q % 2) from u_and1 h1, bt1]
  cases U.testBit q with
  | true => exact if_pos rfl
  | false => exact if_neg (show ¬ nI 0 = (1 : Int32) by decide)
def abS (c : CD) (l : LD) (d : SD) (s : Nat) (st : Nat → Nat) (i j : Nat) : Bool := ab c l d s i j && (decide (st i = 0) || decide (st i = j + 1))
/-- what the reference's plans stand on -/
def MP (c : CD) (l : LD) (d : SD) (s : Nat) (st : Nat → Nat) (m : Ob) : Prop := MC c m ∧ ML l m ∧ MS c.S d m ∧ gi m 40 = nI (cnt c s c.W) ∧ (∀ i, i < cnt c s c.W → ga m 39 i = nI (own c s c.W i)) ∧ (∀ i, i < 6 → ga m 41 i = nO (st i) ∧ st i ≤ 400)
theorem MP_frm {c : CD} {l : LD} {d : SD} {s : Nat} {st : Nat → Nat} {m m' : Ob} (h : MP c l d s st m) (f : frm [42, 43] m m') : MP c l d s st m' := by
  obtain ⟨h1, h2, h3, h4, h5, h6⟩ := h
  refine ⟨MC_frm h1 f (by decide), ML_frm h2 f (by decide) (by decide), MS_sub h3 f (by decide), (f 40 (by decide)).1.trans h4, fun i hi => ?_, fun i hi => ?_⟩
  · rw [(f 39 (by decide)).2.2.1]; exact h5 i hi
  · rw [(f 41 (by decide)).2.2.1]; exact h6 i hi
theorem m_mayCall {c : CD} {l : LD} {d : SD} {s : Nat} {st : Nat → Nat} {m : Ob} (hc : OKC c) (hl : OKL l) (hd : OKS c.S d) (hs : s < c.S) (h : MP c l d s st m) {i k : Nat} (hi : i < cnt c s c.W) (hk : k ≤ 30) : pX11_mayCall m (nI i) (nI k) = some (nI (bN (abS c l d s st i k))) := by
  have hn := hc.2.2.2.2 s hs
  have bd := hd.1
  obtain ⟨h1, h2, h3, h4, h5, h6⟩ := h
  obtain ⟨o1, o2⟩ := own_at c s c.W i hi
  obtain ⟨e41, b41⟩ := h6 i (by omega)
  have hm := m_may (t := d.day + k) hc hl hd h1 h2 h3 o1 (by omega)
  have eab : ab c l d s i k = mayM c l d (own c s c.W i) (d.day + k) := by
    unfold ab
    rw [decide_eq_true hi, Bool.true_and]
  unfold pX11_mayCall abS
  rw [u_gd (by omega), nI_clamp (n := i) (by omega), h5 i hi, h3.1, nI_add, hm, u_bd, eab]
  cases z : mayM c l d (own c s c.W i) (d.day + k) with
  | false =>
    rw [if_pos (show nI (bN false) = (0 : Int32) by decide), Bool.false_and]
    rfl
  | true =>
    rw [if_neg (show ¬ nI (bN true) = (0 : Int32) by decide), u_gd (by omega), u_jn, e41, Bool.true_and]
    by_cases y : st i = 0
    · rw [if_pos (show nO (st i) < (0 : Int32) by rw [y]; decide), decide_eq_true y, Bool.true_or]
      rfl
    · rw [if_neg (show ¬ nO (st i) < (0 : Int32) from fun r => by
        have := nO_ltF (n := st i) ⟨by omega, by omega⟩
        exact this ▸ r), u_gd (by omega), decide_eq_false y, Bool.false_or]
      by_cases w : st i = k + 1
      · rw [if_pos (by rw [w, nO_s]), decide_eq_true w]
        rfl
      · rw [if_neg (fun r => by
          have := nO_inj (a := st i) (b := k + 1) (by omega) (by omega) (by rw [nO_s]; exact r)
          exact w this), decide_eq_false w]
        rfl
def cc (ok : Nat → Bool) (U : Nat) : Nat → Bool
  | 0 => true
  | q + 1 => cc ok U q && (!U.testBit q || ok q)
theorem cc_iff (ok : Nat → Bool) (U : Nat) : ∀ n, cc ok U n = true ↔ ∀ q, q < n → U.testBit q = true → ok q = true
  | 0 => ⟨fun _ q h => absurd h (Nat.not_lt_zero q), fun _ => rfl⟩
  | n + 1 => by
    have ih := cc_iff ok U n
    rw [cc, Bool.and_eq_true, ih]
    constructor
    · rintro ⟨a, b⟩ q hq hb
      by_cases z : q = n
      · subst z
        rw [hb] at b
        exact b
      · exact a q (by omega) hb
    · intro h
      refine ⟨fun q hq hb => h q (by omega) hb, ?_⟩
      cases z : U.testBit n with
      | false => rfl
      | true => exact h n (by omega) z
theorem m_canCall {c : CD} {l : LD} {d : SD} {s : Nat} {st : Nat → Nat} {m : Ob} (hc : OKC c) (hl : OKL l) (hd : OKS c.S d) (hs : s < c.S) (h : MP c l d s st m) {U k : Nat} (hU : U < 64) (hk : k ≤ 30) : pX11_canCall m (nI U) (nI k) = some (nI (bN (cc (fun i => abS c l d s st i k) U (cnt c s c.W)))) := by
  have hn := hc.2.2.2.2 s hs
  have e40 := h.2.2.2.1
  unfold pX11_canCall
  refine u_loop (fun f q => lX11_canCall_5 m (nI U) (nI k) f (nI (bN (cc (fun i => abS c l d s st i k) U q))) (nI q)) (cnt c s c.W) _ (fun f q hq => ?_) (fun f => ?_) zfu 0 (by omega) (u_zfu (by omega))
  · show lX11_canCall_5 m (nI U) (nI k) (f + 1) _ (nI q) = _
    rw [lX11_canCall_5, e40, if_neg (nI_ge hq (by omega)), u_jn, u_jn, cc]
    cases z : cc (fun i => abS c l d s st i k) U q with
    | false =>
      rw [if_pos (show nI (bN false) = (0 : Int32) by decide)]
      dsimp only
      rw [u_let, show nI q + (1 : Int32) = nI (q + 1) from nI_add _ _]
      rfl
    | true =>
      rw [if_neg (show ¬ nI (bN true) = (0 : Int32) by decide), m_has (by omega) (by omega), u_bd, u_jn]
      cases y : U.testBit q with
      | false =>
        rw [if_pos (show nI (bN false) = (0 : Int32) by decide)]
        dsimp only
        rw [u_let, show nI q + (1 : Int32) = nI (q + 1) from nI_add _ _]
        rfl
      | true =>
        rw [if_neg (show ¬ nI (bN true) = (0 : Int32) by decide), m_mayCall hc hl hd hs h hq hk, u_bd]
        cases w : abS c l d s st q k with
        | false =>
          rw [if_pos (show nI (bN false) = (0 : Int32) by decide)]
          dsimp only
          rw [u_let, show nI q + (1 : Int32) = nI (q + 1) from nI_add _ _]
          rfl
        | true =>
          rw [if_neg (show ¬ nI (bN true) = (0 : Int32) by decide)]
          dsimp only
          rw [u_let, show nI q + (1 : Int32) = nI (q + 1) from nI_add _ _]
          rfl
  · show lX11_canCall_5 m (nI U) (nI k) (f + 1) _ (nI (cnt c s c.W)) = _
    rw [lX11_canCall_5, e40, if_pos (nI_le (Nat.le_refl _) (by omega))]
    cases cc (fun i => abS c l d s st i k) U (cnt c s c.W) with
    | false => rfl
    | true => rfl
theorem vs_n {g : Nat → Nat} {U n : Nat} : ∀ m, n ≤ m → (∀ i, n ≤ i → g i = 0) → vs g U m = vs g U n
  | 0, h, _ => by have : n = 0 := by omega
                  subst this; rfl
  | m + 1, h, hz => by
    by_cases q : n = m + 1
    · rw [q]
    · rw [vs, vs_n m (by omega) hz, hz m (by omega)]
      split <;> rfl
theorem m_valueOf {c : CD} {l : LD} {d : SD} {s : Nat} {st : Nat → Nat} {m : Ob} (hc : OKC c) (hl : OKL l) (hd : OKS c.S d) (hs : s < c.S) (h : MP c l d s st m) {U k : Nat} (hU : U < 64) (hk : k ≤ 30) : pX11_valueOf m (nI U) (nI k) = some (lN (vs (fun i => fw c l d s i k) U 6 * 2 ^ 30)) := by
  have hn := hc.2.2.2.2 s hs
  have bd := hd.1
  obtain ⟨h1, h2, h3, e40, h5, h6⟩ := h
  rw [vs_n (g := fun i => fw c l d s i k) (n := cnt c s c.W) 6 hn (fun i hi => if_neg (show ¬ i < cnt c s c.W by omega))]
  unfold pX11_valueOf
  have z0 : (0 : Int64) = lN (vs (fun i => fw c l d s i k) U 0 * 2 ^ 30) := by rw [vs, Nat.zero_mul]; rfl
  rw [z0]
  refine u_loop (fun f q => lX11_valueOf_5 m (nI U) (nI k) f (lN (vs (fun i => fw c l d s i k) U q * 2 ^ 30)) (nI q)) (cnt c s c.W) _ (fun f q hq => ?_) (fun f => ?_) zfu 0 (by omega) (u_zfu (by omega))
  · obtain ⟨o1, o2⟩ := own_at c s c.W q hq
    have hf := m_fresh (t := d.day + k) hc hl h1 h2 o1 (by omega)
    have bf := fresh_le hc hl o1 (d.day + k)
    have efw : fw c l d s q k = fresh c l (own c s c.W q) (d.day + k) := if_pos hq
    show lX11_valueOf_5 m (nI U) (nI k) (f + 1) _ (nI q) = _
    rw [lX11_valueOf_5, e40, if_neg (nI_ge hq (by omega)), m_has (by omega) (by omega), u_bd, u_jn, vs]
    cases y : U.testBit q with
    | false =>
      rw [if_pos (show nI (bN false) = (0 : Int32) by decide)]
      dsimp only
      rw [u_let, u_let, show nI q + (1 : Int32) = nI (q + 1) from nI_add _ _, u_litL, lN_add, if_neg (show ¬ false = true by decide), Nat.add_zero (vs (fun i => fw c l d s i k) U q), Nat.add_zero (vs (fun i => fw c l d s i k) U q * 2 ^ 30)]
    | true =>
      rw [if_neg (show ¬ nI (bN true) = (0 : Int32) by decide), u_gd (by omega), nI_clamp (n := q) (by omega), h5 q hq, h3.1, nI_add, hf, u_bd]
      dsimp only
      rw [u_let, u_let, show nI q + (1 : Int32) = nI (q + 1) from nI_add _ _, nI_l (by omega), show lN (fresh c l (own c s c.W q) (d.day + k)) <<< ((30 : Int32).toInt64 &&& 63) = lN (fresh c l (own c s c.W q) (d.day + k) * 2 ^ 30) from wb_shl (k := 30) _ (by omega), lN_add, ← Nat.add_mul, if_pos rfl, efw]
  · show lX11_valueOf_5 m (nI U) (nI k) (f + 1) _ (nI (cnt c s c.W)) = _
    rw [lX11_valueOf_5, e40, if_pos (nI_le (Nat.le_refl _) (by omega))]
theorem PP_big {n : Nat} {able : Nat → Nat → Bool} {fr : Nat → Nat → Nat} {room : Nat → Nat} : ∀ {k T x : Nat}, T < 64 → PP n able fr room k T x → T < 2 ^ n
  | 0, T, x, _, h => by rw [h.1]; exact Nat.two_pow_pos n
  | k + 1, T, x, hT, ⟨U, y, a, ⟨b1, _⟩, p, _⟩ => by
    have hU : U < 64 := Nat.lt_of_le_of_lt (sub_le a) hT
    obtain ⟨x1, _, _, _, _, x6⟩ := mk_xor ⟨T, hT⟩ ⟨U, hU⟩ a
    have x1' : T ^^^ U < 64 := x1
    have x6' : (T ^^^ U) ||| U = T := x6
    have h1 := PP_big x1' p
    have h2 : U < 2 ^ n := Nat.lt_pow_two_of_testBit U (fun i hi => by
      cases z : U.testBit i with
      | false => rfl
      | true =>
        have := (b1 i (bit_lt6 hU z) z).1
        omega)
    rw [← x6']
    exact Nat.or_lt_two_pow h1 h2
