/-! cut: with some struck, what is left to plan -/
theorem isM_ex {Q : Nat → Prop} : ∀ B, (∀ x, Q x → x ≤ B) → ∃ e, isM e Q
  | 0, h => by
    by_cases z : Q 0
    · exact ⟨1, fun x hx => by have := h x hx; omega, fun _ => z⟩
    · exact ⟨0, fun x hx => by
        have := h x hx
        have : x = 0 := by omega
        subst this; exact absurd hx z, fun h => absurd h (Nat.lt_irrefl 0)⟩
  | B + 1, h => by
    by_cases z : Q (B + 1)
    · exact ⟨B + 2, fun x hx => by have := h x hx; omega, fun _ => z⟩
    · exact isM_ex B (fun x hx => by
        have := h x hx
        have : x ≠ B + 1 := fun r => z (r ▸ hx)
        omega)
theorem bst_all {n k T : Nat} {able : Nat → Nat → Bool} {fr : Nat → Nat → Nat} {room : Nat → Nat} (hf : ∀ i j, i < 6 → fr i j ≤ 594) : isM (bst n able fr room k T) (PP n able fr room k T) := by
  obtain ⟨e, he⟩ := isM_ex (Q := PP n able fr room k T) _ (fun x hx => PP_le hf hx)
  exact (bst_is he).2
theorem gm_ge {e : Nat → Nat} : ∀ q T, T < q → e T - 1 ≤ gm e q
  | 0, _, h => absurd h (Nat.not_lt_zero _)
  | q + 1, T, h => by
    rw [gm]
    by_cases y : T = q
    · subst y
      split <;> omega
    · have := gm_ge (e := e) q T (by omega)
      split <;> omega
theorem sat_iff {c : CD} {l : LD} {d : SD} {s k : Nat} (hc : OKC c) (hl : OKL l) (hs : s < c.S) : sat c l d s k ↔ ∃ T y, T < 2 ^ cnt c s c.W ∧ PP (cnt c s c.W) (ab c l d s) (fw c l d s) (ro l d) (k + 1) T y ∧ 3 * c.need s * 2 ^ k ≤ d.whole s + y := by
  have hf := fw_le hc hl d s
  have pos := Nat.two_pow_pos (cnt c s c.W)
  have bM : ∀ T, isM (bst (cnt c s c.W) (ab c l d s) (fw c l d s) (ro l d) (k + 1) T) (PP (cnt c s c.W) (ab c l d s) (fw c l d s) (ro l d) (k + 1) T) := fun T => bst_all hf
  constructor
  · intro h
    have z := (bM 0).1 0 (PP_zero _ _ _ _ _)
    obtain ⟨T, t1, t2, t3⟩ := gm_at (e := bst (cnt c s c.W) (ab c l d s) (fw c l d s) (ro l d) (k + 1)) (by omega) (2 ^ cnt c s c.W) pos
    have h' : 3 * c.need s * 2 ^ k ≤ d.whole s + gm (bst (cnt c s c.W) (ab c l d s) (fw c l d s) (ro l d) (k + 1)) (2 ^ cnt c s c.W) := h
    exact ⟨T, _, t1, (bM T).2 (by omega), by omega⟩
  · rintro ⟨T, y, t1, p, g⟩
    have a := (bM T).1 y p
    have b := gm_ge (e := bst (cnt c s c.W) (ab c l d s) (fw c l d s) (ro l d) (k + 1)) (2 ^ cnt c s c.W) T t1
    show 3 * c.need s * 2 ^ k ≤ d.whole s + gm (bst (cnt c s c.W) (ab c l d s) (fw c l d s) (ro l d) (k + 1)) (2 ^ cnt c s c.W)
    omega
theorem winT_iff {c : CD} {l : LD} {d : SD} {s k T : Nat} (hc : OKC c) (hl : OKL l) : winT c l d s k T = true ↔ ∃ y, PP (cnt c s c.W) (ab c l d s) (fw c l d s) (ro l d) (k + 1) T y ∧ 3 * c.need s * 2 ^ k ≤ d.whole s + y := by
  rw [← isM_en (bst_all (fw_le hc hl d s))]
  unfold winT enT
  rw [Bool.and_eq_true, decide_eq_true_iff, decide_eq_true_iff]
theorem PP_x {n x : Nat} {a : Nat → Nat → Bool} {fr : Nat → Nat → Nat} {room : Nat → Nat} : ∀ {k T y : Nat}, T < 64 → (PP n (fun i j => a i j && !x.testBit i) fr room k T y ↔ (T &&& x = 0 ∧ PP n a fr room k T y))
  | 0, T, y, _ => by
    constructor
    · intro h
      exact ⟨by rw [h.1, Nat.zero_and], h⟩
    · intro h
      exact h.2
  | k + 1, T, y, hT => by
    have nb : ∀ {T : Nat}, T &&& x = 0 → ∀ i, T.testBit i = true → x.testBit i = false := fun {T} h i hi => by
      have : (T &&& x).testBit i = false := by rw [h, Nat.zero_testBit]
      rw [Nat.testBit_and, hi, Bool.true_and] at this
      exact this
    have bn : ∀ {T : Nat}, (∀ i, T.testBit i = true → x.testBit i = false) → T &&& x = 0 := fun {T} h => by
      apply Nat.eq_of_testBit_eq
      intro i
      rw [Nat.testBit_and, Nat.zero_testBit]
      cases z : T.testBit i with
      | false => rfl
      | true => rw [h i z]; rfl
    constructor
    · rintro ⟨U, w, u1, ⟨u2, u3⟩, p, ex⟩
      have hU : U < 64 := Nat.lt_of_le_of_lt (sub_le u1) hT
      have xU : T ^^^ U < 64 := (mk_xor ⟨T, hT⟩ ⟨U, hU⟩ u1).1
      obtain ⟨q1, q2⟩ := (PP_x xU).mp p
      have ux : ∀ i, U.testBit i = true → x.testBit i = false := fun i hi => by
        have := (u2 i (bit_lt6 hU hi) hi).2
        rw [Bool.and_eq_true] at this
        cases z : x.testBit i with
        | false => rfl
        | true => rw [z] at this; exact absurd this.2 (by decide)
      refine ⟨bn (fun i hi => ?_), U, w, u1, ⟨fun i h6 hi => ?_, u3⟩, q2, ex⟩
      · cases z : U.testBit i with
        | true => exact ux i z
        | false => exact nb q1 i (by rw [Nat.testBit_xor, hi, z]; rfl)
      · have := u2 i h6 hi
        rw [Bool.and_eq_true] at this
        exact ⟨this.1, this.2.1⟩
    · rintro ⟨h, U, w, u1, ⟨u2, u3⟩, p, ex⟩
      have hU : U < 64 := Nat.lt_of_le_of_lt (sub_le u1) hT
      have xsub : (T ^^^ U) &&& T = T ^^^ U := (mk_xor ⟨T, hT⟩ ⟨U, hU⟩ u1).2.2.2.1
      have xU : T ^^^ U < 64 := (mk_xor ⟨T, hT⟩ ⟨U, hU⟩ u1).1
      refine ⟨U, w, u1, ⟨fun i h6 hi => ?_, u3⟩, (PP_x xU).mpr ⟨bn (fun i hi => nb h i (sub_bit xsub hi)), p⟩, ex⟩
      have := u2 i h6 hi
      rw [Bool.and_eq_true]
      exact ⟨this.1, this.2, by rw [nb h i (sub_bit u1 hi)]; rfl⟩
/-- some more struck -/
def cutS (d : SD) (v : Nat) : SD := (d.day, d.spk, d.seed, d.last, d.times, fun w => if d.struck w = 0 ∧ v.testBit w = false then 0 else 1, d.whole, d.how, d.howd, d.dusk)
theorem OKS_cut {S : Nat} {d : SD} (h : OKS S d) (v : Nat) : OKS S (cutS d v) := by
  refine ⟨h.1, h.2.1, h.2.2.1, fun w hw => ?_, h.2.2.2.2.1, h.2.2.2.2.2⟩
  obtain ⟨a1, a2, a3, a4⟩ := h.2.2.2.1 w hw
  refine ⟨a1, a2, a3, ?_⟩
  show (if d.struck w = 0 ∧ v.testBit w = false then 0 else 1) ≤ 1
  split <;> omega
theorem mayM_cut (c : CD) (l : LD) (d : SD) (v w t : Nat) : mayM c l (cutS d v) w t = (mayM c l d w t && !v.testBit w) := by
  unfold mayM
  have e : (cutS d v).struck w = if d.struck w = 0 ∧ v.testBit w = false then 0 else 1 := rfl
  have e2 : (cutS d v).last w = d.last w := rfl
  rw [e, e2]
  cases z : v.testBit w with
  | true =>
    rw [if_neg (fun r => absurd r.2 (by decide))]
    rw [decide_eq_false (fun r => absurd r.1 (by decide))]
    show false = (_ && false)
    rw [Bool.and_false]
  | false =>
    show _ = (_ && true)
    rw [Bool.and_true]
    by_cases y : d.struck w = 0
    · rw [if_pos ⟨y, rfl⟩, y]
    · rw [if_neg (fun r => y r.1), decide_eq_false (fun r => absurd r.1 (by decide)), decide_eq_false (fun r => y r.1)]
theorem ab_cut (c : CD) (l : LD) (d : SD) (s x : Nat) : ab c l (cutS d (wmask c s x c.W)) s = fun i j => ab c l d s i j && !(x.testBit i) := by
  funext i j
  unfold ab
  rw [mayM_cut]
  by_cases z : i < cnt c s c.W
  · rw [wmask_bit c s x c.W i z, Bool.and_assoc]
    rfl
  · rw [decide_eq_false z]; rfl
/-- after that nothing is soon enough -/
def noS (c : CD) (l : LD) (d : SD) (s v : Nat) : Prop := ∀ k, k ≤ lastK d → ¬ sat c l (cutS d v) s k
theorem noS_iff {c : CD} {l : LD} {d : SD} {s x : Nat} (hc : OKC c) (hl : OKL l) (hs : s < c.S) : noS c l d s (wmask c s x c.W) ↔ stB (winU c l d s (lastK d + 1)) x (2 ^ cnt c s c.W) = true := by
  have hn := hc.2.2.2.2 s hs
  have p2 := p2_le hn
  rw [stB_iff]
  have key : ∀ k, sat c l (cutS d (wmask c s x c.W)) s k ↔ ∃ T, T < 2 ^ cnt c s c.W ∧ T &&& x = 0 ∧ winT c l d s k T = true := by
    intro k
    rw [sat_iff hc hl hs, ab_cut]
    constructor
    · rintro ⟨T, y, t1, p, g⟩
      obtain ⟨q1, q2⟩ := (PP_x (by omega)).mp p
      exact ⟨T, t1, q1, (winT_iff hc hl).mpr ⟨y, q2, g⟩⟩
    · rintro ⟨T, t1, q1, w⟩
      obtain ⟨y, q2, g⟩ := (winT_iff hc hl).mp w
      exact ⟨T, y, t1, (PP_x (by omega)).mpr ⟨q1, q2⟩, g⟩
  constructor
  · intro h T hT hw hx
    obtain ⟨k, k1, k2⟩ := winU_iff.mp hw
    exact h k (by omega) ((key k).mpr ⟨T, hT, hx, k2⟩)
  · intro h k hk hsat
    obtain ⟨T, t1, t2, t3⟩ := (key k).mp hsat
    exact h T t1 (winU_iff.mpr ⟨k, by omega, t3⟩) t2
theorem PP_00 {n : Nat} {a : Nat → Nat → Bool} {fr : Nat → Nat → Nat} {room : Nat → Nat} : ∀ {k y : Nat}, PP n a fr room k 0 y → y = 0
  | 0, _, h => h.2
  | k + 1, y, ⟨U, w, u1, _, p, e⟩ => by
    rw [Nat.and_zero] at u1
    subst u1
    rw [Nat.xor_zero] at p
    have := PP_00 p
    rw [vs_0] at e
    omega
theorem win_0 {c : CD} {l : LD} {d : SD} {s : Nat} (hc : OKC c) (hl : OKL l) : winU c l d s (lastK d + 1) 0 = decide (3 * c.need s ≤ d.whole s) := by
  have : winU c l d s (lastK d + 1) 0 = true ↔ 3 * c.need s ≤ d.whole s := by
    rw [winU_iff]
    constructor
    · rintro ⟨k, _, w⟩
      obtain ⟨y, p, g⟩ := (winT_iff hc hl).mp w
      have := PP_00 p
      have h1 := Nat.two_pow_pos k
      have h2 := Nat.le_mul_of_pos_right (3 * c.need s) h1
      omega
    · intro h
      exact ⟨0, by omega, (winT_iff hc hl).mpr ⟨0, PP_zero _ _ _ _ _, by rw [Nat.pow_zero]; omega⟩⟩
  by_cases z : 3 * c.need s ≤ d.whole s
  · rw [decide_eq_true z]; exact this.mpr z
  · rw [decide_eq_false z]
    cases y : winU c l d s (lastK d + 1) 0 with
    | false => rfl
    | true => exact absurd (this.mp y) z
