/-! many: the reference's next order -/
def o_R (n : Nat) (gs : Nat → Nat) (x : List Nat) (o : Ob) : Prop := x.length = n ∧ ∀ i, i < n → ga o 46 i = nI (gs (o_gt x i))
theorem m_swap {n a b : Nat} {gs : Nat → Nat} {x : List Nat} {o : Ob} (hn : n ≤ 6) (h : o_R n gs x o) (ha : a < n) (hb : b < n) : ∃ o', pX11_swap o (nI a) (nI b) = some o' ∧ o_R n gs (o_sw x a b) o' ∧ frm [46] o o' := by
  refine ⟨sa (sa o 46 (upd (ga o 46) a (ga o 46 b))) 46 (upd (ga (sa o 46 (upd (ga o 46) a (ga o 46 b))) 46) b (ga o 46 a)), ?_, ⟨by rw [o_sw_l]; exact h.1, fun i hi => ?_⟩, frm_sa (frm_sa (frm_rf _ _) (by decide) _) (by decide) _⟩
  · unfold pX11_swap
    rw [u_gd (by omega), u_let, u_gd (by omega), u_gd (by omega), u_let, u_gd (by omega), u_let, nI_clamp (n := a) (by omega), nI_clamp (n := b) (by omega)]
  · have hl := h.1
    rw [ga_sa, if_pos rfl, upd_ap, ga_sa, if_pos rfl, upd_ap, o_sw_g (by omega) (by omega), h.2 a ha, h.2 b hb, h.2 i hi]
    by_cases z : i = b
    · rw [if_pos z, if_pos z]
    · rw [if_neg z, if_neg z]
      by_cases y : i = a
      · rw [if_pos y, if_pos y]
      · rw [if_neg y, if_neg y]
theorem m_rev {n : Nat} {gs : Nat → Nat} (hn : n ≤ 6) : ∀ (f F lo hi : Nat) (x : List Nat) (o : Ob), o_R n gs x o → hi < n → hi - lo ≤ 2 * f → f < F → lo < 1000 → ∃ o', lX11_nextOrder_78 F (nI lo) (nI hi) o = some ((1 : Int32), o') ∧ o_R n gs (o_rv f x lo hi) o' ∧ frm [46] o o' := by
  intro f
  induction f with
  | zero =>
    intro F lo hi x o h1 h2 h3 h4 h5
    obtain ⟨F, rfl⟩ : ∃ g, F = g + 1 := ⟨F - 1, by omega⟩
    refine ⟨o, ?_, h1, frm_rf _ _⟩
    rw [lX11_nextOrder_78, if_pos (nI_le (by omega) (by omega))]
    rfl
  | succ f ih =>
    intro F lo hi x o h1 h2 h3 h4 h5
    obtain ⟨F, rfl⟩ : ∃ g, F = g + 1 := ⟨F - 1, by omega⟩
    rw [o_rv]
    by_cases z : hi ≤ lo
    · rw [if_pos z]
      refine ⟨o, ?_, h1, frm_rf _ _⟩
      rw [lX11_nextOrder_78, if_pos (nI_le z (by omega))]
      rfl
    · rw [if_neg z]
      obtain ⟨o1, a1, a2, a3⟩ := m_swap hn h1 (show lo < n by omega) h2
      obtain ⟨o2, b1, b2, b3⟩ := ih F (lo + 1) (hi - 1) (o_sw x lo hi) o1 a2 (by omega) (by omega) (by omega) (by omega)
      refine ⟨o2, ?_, b2, frm_tr a3 b3⟩
      rw [lX11_nextOrder_78, if_neg (nI_ge (by omega) (by omega)), a1, u_bd, u_let, u_let, show nI lo + (1 : Int32) = nI (lo + 1) from nI_add _ _, show nI hi + (-1 : Int32) = nI (hi - 1) from u_m1 (by omega)]
      exact b1
theorem nO_m (k : Nat) : nI k + (-1 : Int32) = nO k := by
  cases k with
  | zero => decide
  | succ j => rw [nO_s]; exact u_m1 (Nat.succ_pos j)
/-- places of the going suits: their numbers rise -/
def o_up (n : Nat) (gs : Nat → Nat) : Prop := (∀ i j, i < j → j < n → gs i < gs j) ∧ (∀ i, i < n → gs i < 6)
theorem o_up_le {n : Nat} {gs : Nat → Nat} (h : o_up n gs) {i j : Nat} (hi : i < n) (hj : j < n) : gs i ≤ gs j ↔ i ≤ j := by
  rcases Nat.lt_trichotomy i j with z | z | z
  · have := h.1 i j z hj; omega
  · subst z; omega
  · have := h.1 j i z hi; omega
theorem o_cmp {n a b : Nat} {gs : Nat → Nat} {x : List Nat} {o : Ob} (hn : n ≤ 6) (hg : o_up n gs) (hx : o_va n x) (h : o_R n gs x o) (ha : a < n) (hb : b < n) : (ga o 46 a ≤ ga o 46 b) ↔ o_gt x a ≤ o_gt x b := by
  have ea := hx.2.1 a ha
  have eb := hx.2.1 b hb
  have ga' := hg.2 _ ea
  have gb' := hg.2 _ eb
  rw [h.2 a ha, h.2 b hb, ← o_up_le hg ea eb]
  by_cases z : gs (o_gt x a) ≤ gs (o_gt x b)
  · exact ⟨fun _ => z, fun _ => nI_le z (by omega)⟩
  · exact ⟨fun r => absurd r (nI_ge (by omega) (by omega)), fun r => absurd r z⟩
theorem o_fk_e (x : List Nat) : ∀ m, o_fk x m = 0 ∨ ∃ k, o_fk x m = k + 1 ∧ k + 1 ≤ m ∧ o_gt x k ≤ o_gt x (k + 1)
  | 0 => Or.inl rfl
  | m + 1 => by
    rw [o_fk]
    by_cases z : o_gt x m ≤ o_gt x (m + 1)
    · rw [if_pos z]; exact Or.inr ⟨m, rfl, Nat.le_refl _, z⟩
    · rw [if_neg z]
      rcases o_fk_e x m with h | ⟨k, h1, h2, h3⟩
      · exact Or.inl h
      · exact Or.inr ⟨k, h1, by omega, h3⟩
theorem m_fk {n : Nat} {gs : Nat → Nat} {x : List Nat} {o : Ob} (hn : n ≤ 6) (hg : o_up n gs) (hx : o_va n x) (h : o_R n gs x o) (K : Int32 → Option (Int32 × Ob)) : ∀ m F, m + 1 ≤ n → m < F → lX11_nextOrder_4 o K F (nO m) = K (nO (o_fk x m)) := by
  intro m
  induction m with
  | zero =>
    intro F h1 h2
    obtain ⟨F, rfl⟩ : ∃ g, F = g + 1 := ⟨F - 1, by omega⟩
    rw [lX11_nextOrder_4, if_pos (show nO 0 < (0 : Int32) by decide)]
    rfl
  | succ k ih =>
    intro F h1 h2
    obtain ⟨F, rfl⟩ : ∃ g, F = g + 1 := ⟨F - 1, by omega⟩
    have cm := o_cmp hn hg hx h (show k < n by omega) (show k + 1 < n by omega)
    rw [o_fk, lX11_nextOrder_4, nO_s, if_neg (show ¬ nI k < (0 : Int32) from nI_nlt (b := 0) (Nat.zero_le _) (by omega)), u_gd (by omega), show nI k + (1 : Int32) = nI (k + 1) from nI_add _ _, u_gd (by omega), nI_clamp (n := k) (by omega), nI_clamp (n := k + 1) (by omega)]
    by_cases z : o_gt x k ≤ o_gt x (k + 1)
    · rw [if_pos (cm.mpr z), if_pos z, nO_s]
    · rw [if_neg (fun r => z (cm.mp r)), if_neg z, u_let, nO_m]
      exact ih F (by omega) (by omega)
theorem o_fj_e {x : List Nat} {k : Nat} (hk : o_gt x k ≤ o_gt x (k + 1)) : ∀ j, k + 1 ≤ j → k < o_fj x k j ∧ o_fj x k j ≤ j
  | 0, h => absurd h (by omega)
  | j + 1, h => by
    rw [o_fj]
    by_cases z : o_gt x k ≤ o_gt x (j + 1)
    · rw [if_pos z]; omega
    · rw [if_neg z]
      have ne : k ≠ j := fun r => z (by rw [← r]; exact hk)
      have := o_fj_e hk j (by omega)
      omega
theorem m_fj {n k : Nat} {gs : Nat → Nat} {x : List Nat} {o : Ob} (hn : n ≤ 6) (hg : o_up n gs) (hx : o_va n x) (h : o_R n gs x o) (hk : o_gt x k ≤ o_gt x (k + 1)) (K : Int32 → Int32 → Option (Int32 × Ob)) : ∀ j F, j < n → k + 1 ≤ j → j < F → lX11_nextOrder_41 o K F (nI k) (nI j) = K (nI k) (nI (o_fj x k j)) := by
  intro j
  induction j with
  | zero => intro F h1 h2; omega
  | succ j ih =>
    intro F h1 h2 h3
    obtain ⟨F, rfl⟩ : ∃ g, F = g + 1 := ⟨F - 1, by omega⟩
    have cm := o_cmp hn hg hx h (show k < n by omega) h1
    rw [o_fj, lX11_nextOrder_41, u_gd (by omega), u_gd (by omega), nI_clamp (n := k) (by omega), nI_clamp (n := j + 1) (by omega)]
    by_cases z : o_gt x k ≤ o_gt x (j + 1)
    · rw [if_pos (cm.mpr z), if_pos z]
    · have ne : k ≠ j := fun r => z (by rw [← r]; exact hk)
      rw [if_neg (fun r => z (cm.mp r)), if_neg z, u_let, nO_m, nO_s]
      exact ih F (by omega) (by omega) (by omega)
theorem m_next {n : Nat} {gs : Nat → Nat} {x : List Nat} {o : Ob} (hn : n ≤ 6) (hg : o_up n gs) (hx : o_va n x) (h : o_R n gs x o) : (o_nx n x = none → pX11_nextOrder o (nI n) = some ((0 : Int32), o)) ∧ (∀ y, o_nx n x = some y → ∃ o', pX11_nextOrder o (nI n) = some ((1 : Int32), o') ∧ o_R n gs y o' ∧ frm [46] o o') := by
  by_cases n0 : n = 0
  · subst n0
    refine ⟨fun _ => ?_, fun y hy => ?_⟩
    · unfold pX11_nextOrder
      rw [u_let, u_jn, show zfu = 99999 + 1 from rfl, lX11_nextOrder_4, if_pos (show nI 0 - (2 : Int32) < 0 by decide), if_neg (show ¬ (0 : Int32) ≤ nI 0 - (2 : Int32) by decide)]
      rfl
    · exact absurd hy (by rw [o_nx, show (0 - 1 : Nat) = 0 from rfl, o_fk, o_nk]; simp)
  · have e2 : nI n - (2 : Int32) = nO (n - 1) := by
      rcases (show n = 1 ∨ 2 ≤ n by omega) with z | z
      · subst z; decide
      · rw [nO_p (by omega)]
        exact (pk_sub (a := n) (b := 2) z).trans (by rw [show n - 2 = n - 1 - 1 by omega])
    have e1 : nI n - (1 : Int32) = nI (n - 1) := pk_sub (a := n) (b := 1) (by omega)
    have head : pX11_nextOrder o (nI n) = (if 0 ≤ nO (o_fk x (n - 1)) then (zlet (nI (n - 1)) fun (x3 : Int32) => zjn (fun (x4 : Int32) (x5 : Int32) => Option.bind (pX11_swap o x4 x5) fun (r6 : Ob) => zlet ((x4 + (1 : Int32))) fun (x7 : Int32) => zlet (nI (n - 1)) fun (x8 : Int32) => lX11_nextOrder_78 zfu x7 x8 r6) fun (K62 : Int32 → Int32 → Option (Int32 × Ob)) => lX11_nextOrder_41 o K62 zfu (nO (o_fk x (n - 1))) x3) else (zgz (0 : Int32) (some ((0 : Int32), o)))) := by
      unfold pX11_nextOrder
      rw [u_let, u_jn, e2, m_fk hn hg hx h _ (n - 1) zfu (by omega) (u_zfu (by omega)), e1]
    rw [head]
    unfold o_nx
    rcases o_fk_e x (n - 1) with z | ⟨k, k1, k2, k3⟩
    · rw [z]
      refine ⟨fun _ => ?_, fun y hy => absurd hy (by rw [o_nk]; simp)⟩
      rw [if_neg (show ¬ (0 : Int32) ≤ nO 0 by decide)]
      rfl
    · rw [k1]
      refine ⟨fun hy => absurd hy (by rw [o_nk]; simp), fun y hy => ?_⟩
      have hy' : o_rv 6 (o_sw x k (o_fj x k (n - 1))) (k + 1) (n - 1) = y := Option.some.inj hy
      have fj := o_fj_e k3 (n - 1) (by omega)
      obtain ⟨o1, a1, a2, a3⟩ := m_swap hn h (show k < n by omega) (show o_fj x k (n - 1) < n by omega)
      obtain ⟨o2, b1, b2, b3⟩ := m_rev hn 6 zfu (k + 1) (n - 1) (o_sw x k (o_fj x k (n - 1))) o1 a2 (by omega) (by omega) (u_zfu (by omega)) (by omega)
      rw [hy'] at b2
      refine ⟨o2, ?_, b2, frm_tr a3 b3⟩
      rw [nO_s, if_pos (show (0 : Int32) ≤ nI k from nI_le (a := 0) (Nat.zero_le _) (by omega)), u_let, u_jn, m_fj hn hg hx h k3 _ (n - 1) zfu (by omega) (by omega) (u_zfu (by omega)), a1, u_bd, u_let, u_let, show nI k + (1 : Int32) = nI (k + 1) from nI_add _ _]
      exact b1
