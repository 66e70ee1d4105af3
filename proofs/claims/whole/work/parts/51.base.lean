/-! the pure part: short rows that read the two programs' pure functions -/
theorem u_let {α β : Type} (e : α) (k : α → β) : zlet e k = k e := rfl
theorem u_jn {α β : Type} (k : α) (f : α → β) : zjn k f = f k := rfl
theorem u_bd {α β : Type} (x : α) (f : α → Option β) : Option.bind (some x) f = f x := rfl
theorem u_bd0 {α : Type} (A : Option α) (B : Int32 → Option α) : Option.bind (some (nI 0)) (fun r => if r = 0 then A else B r) = A := by
  rw [u_bd]
  exact if_pos rfl
theorem u_bd1 {α : Type} (A : Option α) (B : Int32 → Option α) : Option.bind (some (nI 1)) (fun r => if r = 0 then A else B r) = B (nI 1) := by
  rw [u_bd]
  exact if_neg (by decide)
theorem u_gz0 {α : Type} (o : Option α) : zgz (nI 0) o = o := if_pos (Or.inl rfl)
theorem u_gz1 {α : Type} (o : Option α) : zgz (nI 1) o = o := if_pos (Or.inr rfl)
theorem u_gd {α : Type} {i n : Nat} (h : i < n ∧ n < 2147483648) (o : Option α) : zgd (nI i) n o = o := by
  unfold zgd
  rw [nI_toInt (by omega)]
  exact if_pos ⟨by omega, by omega⟩
theorem u_lit (n : Nat) : (OfNat.ofNat n : Int32) = nI (OfNat.ofNat n) := by cases n <;> rfl
theorem u_litL (n : Nat) : (OfNat.ofNat n : Int64) = lN (OfNat.ofNat n) := by cases n <;> rfl
theorem u_leT {a b : Nat} (h : a ≤ b ∧ b < 2147483648) : (nI a ≤ nI b) = True := eq_true (nI_le h.1 h.2)
theorem u_leF {a b : Nat} (h : b < a ∧ a < 2147483648) : (nI a ≤ nI b) = False := eq_false (nI_ge h.1 h.2)
theorem u_ltT {a b : Nat} (h : a < b ∧ b < 2147483648) : (nI a < nI b) = True := eq_true (nI_lt h.1 h.2)
theorem u_ltF {a b : Nat} (h : b ≤ a ∧ a < 2147483648) : (nI a < nI b) = False := eq_false (nI_nlt h.1 h.2)
theorem u_eqT {a b : Nat} (h : a = b) : (nI a = nI b) = True := eq_true (by rw [h])
theorem u_eqF {a b : Nat} (h : a ≠ b ∧ a < 2147483648 ∧ b < 2147483648) : (nI a = nI b) = False := eq_false (fun e => h.1 ((nI_eq h.2.1 h.2.2).mp e))
theorem u_neM {a : Nat} (h : a < 2147483648) : (nI a = -(nI 1)) = False := eq_false (fun e => by
  have h1 := congrArg Int32.toInt e
  rw [nI_toInt (by omega), show (-(nI 1)).toInt = -1 from by decide] at h1
  omega)
theorem u_m1 {a : Nat} (h : 0 < a) : nI a + -(nI 1) = nI (a - 1) := by
  obtain ⟨k, rfl⟩ : ∃ k, a = k + 1 := ⟨a - 1, by omega⟩
  exact pk_m1 k
/-- 1 or 0 -/
def bN (b : Bool) : Nat := cond b 1 0
theorem bN_le (b : Bool) : bN b ≤ 1 := by cases b <;> decide
theorem u_bN (b : Bool) : (nI (bN b) = nI 0) = (b = false) := by cases b <;> simp [bN, nI] <;> decide
theorem u_bNe (b : Bool) : (nI (bN b) = nI 1) = (b = true) := by cases b <;> simp [bN, nI] <;> decide
theorem bN_t : bN true = 1 := rfl
theorem bN_f : bN false = 0 := rfl
/-- a number or nothing: 0 is -1, k + 1 is k -/
def nO (n : Nat) : Int32 := nI n - nI 1
theorem nO_0 : nO 0 = -(nI 1) := by decide
theorem nO_s (n : Nat) : nO (n + 1) = nI n := by
  unfold nO
  rw [pk_sub (by omega)]
  rfl
theorem nO_p {n : Nat} (h : 0 < n) : nO n = nI (n - 1) := by
  obtain ⟨k, rfl⟩ : ∃ k, n = k + 1 := ⟨n - 1, by omega⟩
  exact nO_s k
theorem nO_ltT {n : Nat} (h : n = 0) : (nO n < nI 0) = True := by subst h; exact eq_true (by decide)
theorem nO_ltF {n : Nat} (h : 0 < n ∧ n < 2147483648) : (nO n < nI 0) = False := by
  rw [nO_p h.1]; exact u_ltF (by omega)
theorem nO_leT {n : Nat} (h : 0 < n ∧ n < 2147483648) : (nI 0 ≤ nO n) = True := by
  rw [nO_p h.1]; exact u_leT (by omega)
theorem nO_leF {n : Nat} (h : n = 0) : (nI 0 ≤ nO n) = False := by subst h; exact eq_false (by decide)
theorem nO_inj {a b : Nat} (ha : a < 2147483648) (hb : b < 2147483648) (h : nO a = nO b) : a = b := by
  rcases Nat.eq_zero_or_pos a with h0 | h0 <;> rcases Nat.eq_zero_or_pos b with h1 | h1
  · omega
  · subst h0
    rw [nO_0, nO_p h1] at h
    exact absurd h.symm (fun e => by
      have := u_neM (a := b - 1) (by omega)
      rw [this] at e; exact e)
  · subst h1
    rw [nO_0, nO_p h0] at h
    exact absurd h (fun e => by
      have := u_neM (a := a - 1) (by omega)
      rw [this] at e; exact e)
  · rw [nO_p h0, nO_p h1] at h
    have := (nI_eq (by omega) (by omega)).mp h
    omega
/-- where an int lies: below 0, beyond, or a number -/
theorem u_ix (x : Int32) (n : Nat) (hn : n < 2147483648) : (x < nI 0 ∨ nI n ≤ x) ∨ ∃ j : Nat, j < n ∧ x = nI j := by
  rcases pk_ix x (n := n) hn with h | h | h
  · exact Or.inl (Or.inl h)
  · exact Or.inl (Or.inr h)
  · exact Or.inr h
/-- a loop upwards whose state is known at each turn -/
theorem u_loop {τ : Type} (L : Nat → Nat → τ) (n : Nat) (r : τ) (hs : ∀ f k, k < n → L (f + 1) k = L f (k + 1)) (he : ∀ f, L (f + 1) n = r) : ∀ f k, k ≤ n → n - k < f → L f k = r := by
  intro f
  induction f with
  | zero => intro k h1 h2; omega
  | succ f ih =>
    intro k h1 h2
    rcases Nat.lt_or_ge k n with h | h
    · rw [hs f k h]; exact ih (k + 1) (by omega) (by omega)
    · have : k = n := by omega
      subst this
      exact he f
/-- a loop upwards over states that keep a word -/
theorem u_loopP {σ τ : Type} (L : Nat → Nat → σ → τ) (P : Nat → σ → Prop) (Q : τ → Prop) (n : Nat) (hs : ∀ f k s, k < n → P k s → ∃ s', P (k + 1) s' ∧ L (f + 1) k s = L f (k + 1) s') (he : ∀ f s, P n s → Q (L (f + 1) n s)) : ∀ f k s, k ≤ n → n - k < f → P k s → Q (L f k s) := by
  intro f
  induction f with
  | zero => intro k s h1 h2; omega
  | succ f ih =>
    intro k s h1 h2 hp
    rcases Nat.lt_or_ge k n with h | h
    · obtain ⟨s', hp', e⟩ := hs f k s h hp
      rw [e]; exact ih (k + 1) s' (by omega) (by omega) hp'
    · have : k = n := by omega
      subst this
      exact he f s hp
theorem u_zfu {n : Nat} (h : n < 100000) : n < zfu := h
theorem upd_ap (f : Nat → Int32) (k : Nat) (x : Int32) (j : Nat) : upd f k x j = if j = k then x else f j := rfl
theorem updL_ap (f : Nat → Int64) (k : Nat) (x : Int64) (j : Nat) : vp_updL f k x j = if j = k then x else f j := rfl
theorem zup_ap {α : Type} (f : Nat → α) (k : Nat) (x : α) (j : Nat) : zup f k x j = if j = k then x else f j := by
  unfold zup
  by_cases h : j = k
  · subst h; rw [if_pos rfl, Nat.beq_refl]; rfl
  · rw [if_neg h]
    have : Nat.beq j k = false := by
      cases hb : Nat.beq j k with
      | false => rfl
      | true => exact absurd (Nat.eq_of_beq_eq_true hb) h
    rw [this]; rfl
theorem gi_si (o : Ob) (k : Nat) (x : Int32) (j : Nat) : gi (si o k x) j = if j = k then x else gi o j := zup_ap _ _ _ _
theorem gl_sl (o : Ob) (k : Nat) (x : Int64) (j : Nat) : gl (sl o k x) j = if j = k then x else gl o j := zup_ap _ _ _ _
theorem ga_sa (o : Ob) (k : Nat) (x : Nat → Int32) (j : Nat) : ga (sa o k x) j = if j = k then x else ga o j := zup_ap _ _ _ _
theorem gb_sb (o : Ob) (k : Nat) (x : Nat → Int64) (j : Nat) : gb (sb o k x) j = if j = k then x else gb o j := zup_ap _ _ _ _
theorem gi_sl (o : Ob) (k : Nat) (x : Int64) (j : Nat) : gi (sl o k x) j = gi o j := rfl
theorem gi_sa (o : Ob) (k : Nat) (x : Nat → Int32) (j : Nat) : gi (sa o k x) j = gi o j := rfl
theorem gi_sb (o : Ob) (k : Nat) (x : Nat → Int64) (j : Nat) : gi (sb o k x) j = gi o j := rfl
theorem gl_si (o : Ob) (k : Nat) (x : Int32) (j : Nat) : gl (si o k x) j = gl o j := rfl
theorem gl_sa (o : Ob) (k : Nat) (x : Nat → Int32) (j : Nat) : gl (sa o k x) j = gl o j := rfl
theorem gl_sb (o : Ob) (k : Nat) (x : Nat → Int64) (j : Nat) : gl (sb o k x) j = gl o j := rfl
theorem ga_si (o : Ob) (k : Nat) (x : Int32) (j : Nat) : ga (si o k x) j = ga o j := rfl
theorem ga_sl (o : Ob) (k : Nat) (x : Int64) (j : Nat) : ga (sl o k x) j = ga o j := rfl
theorem ga_sb (o : Ob) (k : Nat) (x : Nat → Int64) (j : Nat) : ga (sb o k x) j = ga o j := rfl
theorem gb_si (o : Ob) (k : Nat) (x : Int32) (j : Nat) : gb (si o k x) j = gb o j := rfl
theorem gb_sl (o : Ob) (k : Nat) (x : Int64) (j : Nat) : gb (sl o k x) j = gb o j := rfl
theorem gb_sa (o : Ob) (k : Nat) (x : Nat → Int32) (j : Nat) : gb (sa o k x) j = gb o j := rfl
/-- one field is the same in both -/
def same (k : Nat) (m m' : Ob) : Prop := gi m' k = gi m k ∧ gl m' k = gl m k ∧ ga m' k = ga m k ∧ gb m' k = gb m k
/-- all fields but some -/
def frm (ks : List Nat) (m m' : Ob) : Prop := ∀ k, k ∉ ks → same k m m'
theorem frm_rf (ks : List Nat) (m : Ob) : frm ks m m := fun _ _ => ⟨rfl, rfl, rfl, rfl⟩
theorem frm_tr {ks : List Nat} {a b c : Ob} (h : frm ks a b) (h2 : frm ks b c) : frm ks a c := fun k hk => ⟨(h2 k hk).1.trans (h k hk).1, (h2 k hk).2.1.trans (h k hk).2.1, (h2 k hk).2.2.1.trans (h k hk).2.2.1, (h2 k hk).2.2.2.trans (h k hk).2.2.2⟩
theorem frm_mono {ks ls : List Nat} {a b : Ob} (h : frm ks a b) (hs : ∀ k, k ∈ ks → k ∈ ls) : frm ls a b := fun k hk => h k (fun h2 => hk (hs k h2))
theorem frm_si {ks : List Nat} {a b : Ob} (h : frm ks a b) {k : Nat} (hk : k ∈ ks) (x : Int32) : frm ks a (si b k x) := fun j hj => ⟨by rw [gi_si, if_neg (fun e => hj (by rw [e]; exact hk))]; exact (h j hj).1, (h j hj).2.1, (h j hj).2.2.1, (h j hj).2.2.2⟩
theorem frm_sl {ks : List Nat} {a b : Ob} (h : frm ks a b) {k : Nat} (hk : k ∈ ks) (x : Int64) : frm ks a (sl b k x) := fun j hj => ⟨(h j hj).1, by rw [gl_sl, if_neg (fun e => hj (by rw [e]; exact hk))]; exact (h j hj).2.1, (h j hj).2.2.1, (h j hj).2.2.2⟩
theorem frm_sa {ks : List Nat} {a b : Ob} (h : frm ks a b) {k : Nat} (hk : k ∈ ks) (x : Nat → Int32) : frm ks a (sa b k x) := fun j hj => ⟨(h j hj).1, (h j hj).2.1, by rw [ga_sa, if_neg (fun e => hj (by rw [e]; exact hk))]; exact (h j hj).2.2.1, (h j hj).2.2.2⟩
theorem frm_sb {ks : List Nat} {a b : Ob} (h : frm ks a b) {k : Nat} (hk : k ∈ ks) (x : Nat → Int64) : frm ks a (sb b k x) := fun j hj => ⟨(h j hj).1, (h j hj).2.1, (h j hj).2.2.1, by rw [gb_sb, if_neg (fun e => hj (by rw [e]; exact hk))]; exact (h j hj).2.2.2⟩
/-! test: bits -/
def bsum (a : Nat) : Nat → Nat
  | 0 => 0
  | n + 1 => bsum a n + (a >>> n) % 2
theorem u_shr {a k : Nat} (ha : a < 2147483648) (hk : k < 32) : nI a >>> (nI k &&& nI 31) = nI (a >>> k) := by
  rw [pk_shrN ha (nI k &&& nI 31) k (by
    have := (by decide +kernel : ∀ k : Fin 32, ((nI k.val &&& nI 31).toBitVec.smod 32).toNat = k.val) ⟨k, hk⟩
    exact this), Nat.shiftRight_eq_div_pow]
theorem u_and1 {a : Nat} (ha : a < 2147483648) : nI a &&& nI 1 = nI (a % 2) := pk_andN (n := a) (by omega) 1 (by decide)
theorem m_bits {a : Nat} (ha : a < 2147483648) : pX11_bits (nI a) = some (nI (bsum a 12)) := by
  unfold pX11_bits
  refine u_loop (fun f k => lX11_bits_4 (nI a) f (nI (bsum a k)) (nI k)) 12 _ (fun f k hk => ?_) (fun f => ?_) zfu 0 (by omega) (u_zfu (by omega))
  · have h1 : a >>> k < 2147483648 := by rw [Nat.shiftRight_eq_div_pow]; exact Nat.lt_of_le_of_lt (Nat.div_le_self _ _) ha
    have h2 : k < 32 := by omega
    simp (disch := omega) only [lX11_bits_4, u_let, u_jn, u_bd, u_gz0, u_gz1, u_gd, u_lit, u_leT, u_leF, u_ltT, u_ltF, u_eqT, u_eqF, nI_clamp, nI_add, u_m1, pk_sub, pk_mul, if_true, if_false, ite_true, ite_false, reduceIte, Nat.reduceEqDiff, u_neM, u_bN, u_bNe, u_shr, u_and1]
    rfl
  · simp (disch := omega) only [lX11_bits_4, u_let, u_jn, u_bd, u_gz0, u_gz1, u_gd, u_lit, u_leT, u_leF, u_ltT, u_ltF, u_eqT, u_eqF, nI_clamp, nI_add, u_m1, pk_sub, pk_mul, if_true, if_false, ite_true, ite_false, reduceIte, Nat.reduceEqDiff, u_neM, u_bN, u_bNe]
