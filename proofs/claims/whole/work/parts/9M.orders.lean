/-! many: the orders, as lists of places -/
def o_gt : List Nat → Nat → Nat
  | [], _ => 0
  | a :: _, 0 => a
  | _ :: t, i + 1 => o_gt t i
def o_st : List Nat → Nat → Nat → List Nat
  | [], _, _ => []
  | _ :: t, 0, v => v :: t
  | a :: t, i + 1, v => a :: o_st t i v
theorem o_gs : ∀ (x : List Nat) (i v j : Nat), i < x.length → o_gt (o_st x i v) j = if j = i then v else o_gt x j
  | [], _, _, _, h => absurd h (Nat.not_lt_zero _)
  | a :: t, 0, v, 0, _ => by rw [if_pos rfl]; rfl
  | a :: t, 0, v, j + 1, _ => by rw [if_neg (by omega)]; rfl
  | a :: t, i + 1, v, 0, _ => by rw [if_neg (by omega)]; rfl
  | a :: t, i + 1, v, j + 1, h => by
    have := o_gs t i v j (by rw [List.length_cons] at h; omega)
    show o_gt (o_st t i v) j = if j + 1 = i + 1 then v else o_gt t j
    rw [this]
    by_cases z : j = i
    · rw [if_pos z, if_pos (by omega)]
    · rw [if_neg z, if_neg (by omega)]
theorem o_sl : ∀ (x : List Nat) (i v : Nat), (o_st x i v).length = x.length
  | [], _, _ => rfl
  | a :: t, 0, v => rfl
  | a :: t, i + 1, v => by
    show (a :: o_st t i v).length = _
    rw [List.length_cons, List.length_cons, o_sl t i v]
def o_sw (x : List Nat) (a b : Nat) : List Nat := o_st (o_st x a (o_gt x b)) b (o_gt x a)
theorem o_sw_l (x : List Nat) (a b : Nat) : (o_sw x a b).length = x.length := by rw [o_sw, o_sl, o_sl]
theorem o_sw_g {x : List Nat} {a b : Nat} (ha : a < x.length) (hb : b < x.length) (j : Nat) : o_gt (o_sw x a b) j = if j = b then o_gt x a else if j = a then o_gt x b else o_gt x j := by
  rw [o_sw, o_gs _ _ _ _ (by rw [o_sl]; exact hb), o_gs _ _ _ _ ha]
def o_fk (x : List Nat) : Nat → Nat
  | 0 => 0
  | k + 1 => if o_gt x k ≤ o_gt x (k + 1) then k + 1 else o_fk x k
def o_fj (x : List Nat) (k : Nat) : Nat → Nat
  | 0 => 0
  | j + 1 => if o_gt x k ≤ o_gt x (j + 1) then j + 1 else o_fj x k j
def o_rv : Nat → List Nat → Nat → Nat → List Nat
  | 0, x, _, _ => x
  | f + 1, x, lo, hi => if hi ≤ lo then x else o_rv f (o_sw x lo hi) (lo + 1) (hi - 1)
def o_nk (n : Nat) (x : List Nat) : Nat → Option (List Nat)
  | 0 => none
  | k + 1 => some (o_rv 6 (o_sw x k (o_fj x k (n - 1))) (k + 1) (n - 1))
def o_nx (n : Nat) (x : List Nat) : Option (List Nat) := o_nk n x (o_fk x (n - 1))
def o_fn {α : Type} : Nat → (Nat → α) → α
  | 0, k => k 0
  | b + 1, k => k (b + 1)
theorem o_fn_e {α : Type} (a : Nat) (k : Nat → α) : o_fn a k = k a := by cases a <;> rfl
def o_fc {α : Type} : List Nat → (List Nat → α) → α
  | [], k => k []
  | a :: t, k => o_fn a (fun a' => o_fc t (fun t' => k (a' :: t')))
theorem o_fc_e {α : Type} : ∀ (x : List Nat) (k : List Nat → α), o_fc x k = k x
  | [], _ => rfl
  | a :: t, k => by rw [o_fc, o_fn_e, o_fc_e t]
def o_el {α β : Type} : Option β → α → (β → α) → α
  | none, e, _ => e
  | some y, _, k => k y
/-- the first q of an order, as a set -/
def o_pm (x : List Nat) : Nat → Nat
  | 0 => 0
  | q + 1 => o_pm x q ||| 1 <<< o_gt x q
def o_cv (x : List Nat) : Nat → Nat
  | 0 => 1 <<< o_pm x 0
  | q + 1 => o_cv x q ||| 1 <<< o_pm x (q + 1)
def o_di (n : Nat) (x : List Nat) : Nat → Bool
  | 0 => true
  | q + 1 => o_di n x q && (Nat.blt (o_gt x q) n && !(o_pm x q).testBit (o_gt x q))
def o_vb (n : Nat) (x : List Nat) : Bool := Nat.beq x.length n && o_di n x n
def o_ck (n : Nat) : Nat → List Nat → Nat → Option Nat
  | 0, _, _ => none
  | f + 1, x, acc => if o_vb n x = true then o_fn (acc ||| o_cv x n) (fun acc' => o_el (o_nx n x) (some acc') (fun y => o_fc y (fun y' => o_ck n f y' acc'))) else none
def o_id : Nat → List Nat
  | 0 => []
  | 1 => [0]
  | 2 => [0, 1]
  | 3 => [0, 1, 2]
  | 4 => [0, 1, 2, 3]
  | 5 => [0, 1, 2, 3, 4]
  | _ => [0, 1, 2, 3, 4, 5]
theorem o_run0 : o_ck 0 730 (o_id 0) 0 = some (2 ^ 2 ^ 0 - 1) := by decide +kernel
theorem o_run1 : o_ck 1 730 (o_id 1) 0 = some (2 ^ 2 ^ 1 - 1) := by decide +kernel
theorem o_run2 : o_ck 2 730 (o_id 2) 0 = some (2 ^ 2 ^ 2 - 1) := by decide +kernel
theorem o_run3 : o_ck 3 730 (o_id 3) 0 = some (2 ^ 2 ^ 3 - 1) := by decide +kernel
theorem o_run4 : o_ck 4 730 (o_id 4) 0 = some (2 ^ 2 ^ 4 - 1) := by decide +kernel
theorem o_run5 : o_ck 5 730 (o_id 5) 0 = some (2 ^ 2 ^ 5 - 1) := by decide +kernel
theorem o_run6 : o_ck 6 730 (o_id 6) 0 = some (2 ^ 2 ^ 6 - 1) := by decide +kernel
theorem o_run {n : Nat} (hn : n ≤ 6) : o_ck n 730 (o_id n) 0 = some (2 ^ 2 ^ n - 1) := by
  rcases (show n = 0 ∨ n = 1 ∨ n = 2 ∨ n = 3 ∨ n = 4 ∨ n = 5 ∨ n = 6 by omega) with h | h | h | h | h | h | h <;> subst h
  · exact o_run0
  · exact o_run1
  · exact o_run2
  · exact o_run3
  · exact o_run4
  · exact o_run5
  · exact o_run6
theorem o_idg : ∀ n : Fin 7, ∀ i : Fin 6, i.val < n.val → o_gt (o_id n.val) i.val = i.val := by decide +kernel
theorem o_pm_b (x : List Nat) (i : Nat) : ∀ q, (o_pm x q).testBit i = true ↔ ∃ j, j < q ∧ o_gt x j = i
  | 0 => ⟨fun h => by rw [o_pm, Nat.zero_testBit] at h; exact absurd h (by decide), fun ⟨j, h, _⟩ => absurd h (Nat.not_lt_zero j)⟩
  | q + 1 => by
    rw [o_pm, Nat.testBit_or, Bool.or_eq_true, o_pm_b x i q, Nat.one_shiftLeft, Nat.testBit_two_pow, decide_eq_true_iff]
    constructor
    · rintro (⟨j, h1, h2⟩ | h)
      · exact ⟨j, by omega, h2⟩
      · exact ⟨q, by omega, h⟩
    · rintro ⟨j, h1, h2⟩
      by_cases z : j = q
      · subst z; exact Or.inr h2
      · exact Or.inl ⟨j, by omega, h2⟩
def o_va (n : Nat) (x : List Nat) : Prop := x.length = n ∧ (∀ i, i < n → o_gt x i < n) ∧ (∀ i j, i < j → j < n → o_gt x i ≠ o_gt x j)
theorem o_di_e {n : Nat} {x : List Nat} : ∀ q, o_di n x q = true → (∀ i, i < q → o_gt x i < n) ∧ (∀ i j, i < j → j < q → o_gt x i ≠ o_gt x j)
  | 0, _ => ⟨fun i h => absurd h (Nat.not_lt_zero i), fun i j _ h => absurd h (Nat.not_lt_zero j)⟩
  | q + 1, h => by
    rw [o_di, Bool.and_eq_true, Bool.and_eq_true] at h
    obtain ⟨h1, h2, h3⟩ := h
    obtain ⟨a, b⟩ := o_di_e q h1
    have h2' : o_gt x q < n := Nat.le_of_ble_eq_true h2
    refine ⟨fun i hi => ?_, fun i j hij hj => ?_⟩
    · by_cases z : i = q
      · rw [z]; exact h2'
      · exact a i (by omega)
    · by_cases z : j = q
      · subst z
        intro r
        have := (o_pm_b x (o_gt x j) j).mpr ⟨i, hij, r⟩
        rw [this] at h3
        exact absurd h3 (by decide)
      · exact b i j hij (by omega)
theorem o_vb_e {n : Nat} {x : List Nat} (h : o_vb n x = true) : o_va n x := by
  rw [o_vb, Bool.and_eq_true] at h
  obtain ⟨a, b⟩ := o_di_e n h.2
  exact ⟨Nat.eq_of_beq_eq_true h.1, a, b⟩
theorem o_cv_b (x : List Nat) (B : Nat) : ∀ q, (o_cv x q).testBit B = true → ∃ k, k ≤ q ∧ o_pm x k = B
  | 0, h => by
    rw [o_cv, Nat.one_shiftLeft, Nat.testBit_two_pow] at h
    exact ⟨0, Nat.le_refl 0, of_decide_eq_true h⟩
  | q + 1, h => by
    rw [o_cv, Nat.testBit_or, Bool.or_eq_true] at h
    rcases h with h | h
    · obtain ⟨k, k1, k2⟩ := o_cv_b x B q h
      exact ⟨k, by omega, k2⟩
    · rw [Nat.one_shiftLeft, Nat.testBit_two_pow] at h
      exact ⟨q + 1, Nat.le_refl _, of_decide_eq_true h⟩
/-- the orders that follow -/
def o_ch (n : Nat) : List Nat → List (List Nat) → Prop
  | x, [] => o_nx n x = none
  | x, y :: ys => o_nx n x = some y ∧ o_ch n y ys
theorem o_ck_e {n : Nat} : ∀ (f : Nat) (x : List Nat) (acc r : Nat), o_ck n f x acc = some r → ∃ ys, ys.length < f ∧ o_ch n x ys ∧ (∀ y, y ∈ x :: ys → o_va n y) ∧ (∀ B, r.testBit B = true → acc.testBit B = true ∨ ∃ y, y ∈ x :: ys ∧ ∃ q, q ≤ n ∧ o_pm y q = B)
  | 0, _, _, _, h => by rw [o_ck] at h; exact absurd h (by simp)
  | f + 1, x, acc, r, h => by
    rw [o_ck] at h
    by_cases v : o_vb n x = true
    · rw [if_pos v, o_fn_e] at h
      cases e : o_nx n x with
      | none =>
        rw [e] at h
        have h' : acc ||| o_cv x n = r := Option.some.inj h
        refine ⟨[], Nat.succ_pos f, e, fun y hy => ?_, fun B hB => ?_⟩
        · rw [List.mem_singleton.mp hy]; exact o_vb_e v
        · rw [← h', Nat.testBit_or, Bool.or_eq_true] at hB
          rcases hB with g | g
          · exact Or.inl g
          · exact Or.inr ⟨x, List.mem_cons_self, o_cv_b x B n g⟩
      | some y =>
        rw [e] at h
        have h' : o_ck n f y (acc ||| o_cv x n) = some r := by
          have := h
          rw [o_el, o_fc_e] at this
          exact this
        obtain ⟨ys, a1, a2, a3, a4⟩ := o_ck_e f y _ r h'
        refine ⟨y :: ys, by rw [List.length_cons]; omega, ⟨e, a2⟩, fun z hz => ?_, fun B hB => ?_⟩
        · rcases List.mem_cons.mp hz with g | g
          · rw [g]; exact o_vb_e v
          · exact a3 z g
        · rcases a4 B hB with g | ⟨z, z1, z2⟩
          · rw [Nat.testBit_or, Bool.or_eq_true] at g
            rcases g with g | g
            · exact Or.inl g
            · exact Or.inr ⟨x, List.mem_cons_self, o_cv_b x B n g⟩
          · exact Or.inr ⟨z, List.mem_cons_of_mem _ z1, z2⟩
    · rw [if_neg v] at h
      exact absurd h (by simp)
theorem o_all {n : Nat} (hn : n ≤ 6) : ∃ ys, ys.length < 730 ∧ o_ch n (o_id n) ys ∧ (∀ y, y ∈ o_id n :: ys → o_va n y) ∧ (∀ B, B < 2 ^ n → ∃ y, y ∈ o_id n :: ys ∧ ∃ q, q ≤ n ∧ o_pm y q = B) := by
  obtain ⟨ys, a1, a2, a3, a4⟩ := o_ck_e 730 (o_id n) 0 _ (o_run hn)
  refine ⟨ys, a1, a2, a3, fun B hB => ?_⟩
  rcases a4 B (by rw [Nat.testBit_two_pow_sub_one]; exact decide_eq_true hB) with g | g
  · rw [Nat.zero_testBit] at g; exact absurd g (by decide)
  · exact g
