/-! many: the reference -/
/-- the suits that go on, in order -/
def gC (d : SD) : CD := (0, 0, fun _ => 0, fun _ => 0, fun _ => 0, d.how, fun _ => 0, fun _ => 0)
theorem m_many17 {c : CD} {d : SD} (hc : OKC c) (hd : OKS c.S d) (m0 : Ob) (h1 : MC c m0) (h3 : MS c.S d m0) : ∃ m', (∀ K : Int32 → Ob → Option (Int32 × Ob), lX11_many_17 K zfu 0 0 m0 = K (nI (cnt (gC d) 0 c.S)) m') ∧ (∀ i, i < cnt (gC d) 0 c.S → ga m' 46 i = nI (own (gC d) 0 c.S i)) ∧ frm [46] m0 m' := by
  have h6 := hc.1
  refine u_loopP (fun f q o => (fun K : Int32 → Ob → Option (Int32 × Ob) => lX11_many_17 K f (nI (cnt (gC d) 0 q)) (nI q) o)) (fun q o => (∀ i, i < cnt (gC d) 0 q → ga o 46 i = nI (own (gC d) 0 q i)) ∧ frm [46] m0 o) (fun r => ∃ m', (∀ K : Int32 → Ob → Option (Int32 × Ob), r K = K (nI (cnt (gC d) 0 c.S)) m') ∧ (∀ i, i < cnt (gC d) 0 c.S → ga m' 46 i = nI (own (gC d) 0 c.S i)) ∧ frm [46] m0 m') c.S (fun f q o hq hP => ?_) (fun f o hP => ?_) zfu 0 m0 (Nat.zero_le _) (u_zfu (by omega)) ⟨fun i hi => absurd hi (Nat.not_lt_zero i), frm_rf _ _⟩
  · obtain ⟨p1, p2⟩ := hP
    have hM := MC_frm h1 p2 (by decide)
    have w15 : ga o 15 q = nI (d.how q) := by rw [(p2 15 (by decide)).2.2.1]; exact (h3.2.2.2.2.1 q hq).2.1
    have bh := (hd.2.2.2.2.1 q hq).2.1
    have cq : cnt (gC d) 0 q ≤ q := by
      have : ∀ n, cnt (gC d) 0 n ≤ n := fun n => by
        induction n with
        | zero => exact Nat.le_refl _
        | succ n ih =>
          rw [cnt]
          split <;> omega
      exact this q
    by_cases g : d.how q = 0
    · have g' : (gC d).suit q = 0 := g
      refine ⟨sa o 46 (upd (ga o 46) (cnt (gC d) 0 q) (nI q)), ⟨fun i hi => ?_, frm_sa p2 (by decide) _⟩, ?_⟩
      · rw [ga_sa, if_pos rfl, upd_ap, own, if_pos g']
        rw [cnt_s g'] at hi
        by_cases y : i = cnt (gC d) 0 q
        · rw [if_pos y, y, nup_s]
        · rw [if_neg y, nup_n _ _ y]
          exact p1 i (by omega)
      · funext K
        show lX11_many_17 K (f + 1) (nI (cnt (gC d) 0 q)) (nI q) o = lX11_many_17 K f (nI (cnt (gC d) 0 (q + 1))) (nI (q + 1)) _
        rw [lX11_many_17, hM.1, if_neg (nI_ge hq (by omega)), u_gd (by omega), u_jn, nI_clamp (n := q) (by omega), w15, g, if_pos (show nI 0 = (0 : Int32) from rfl), u_gd (by omega), nI_clamp (n := cnt (gC d) 0 q) (by omega), u_let, u_let]
        dsimp only
        rw [u_let, show nI q + (1 : Int32) = nI (q + 1) from nI_add _ _, show nI (cnt (gC d) 0 q) + (1 : Int32) = nI (cnt (gC d) 0 q + 1) from nI_add _ _, cnt_s g']
    · have g' : (gC d).suit q ≠ 0 := g
      refine ⟨o, ⟨fun i hi => ?_, p2⟩, ?_⟩
      · rw [cnt_n g'] at hi
        rw [own, if_neg g']
        exact p1 i hi
      · funext K
        show lX11_many_17 K (f + 1) (nI (cnt (gC d) 0 q)) (nI q) o = lX11_many_17 K f (nI (cnt (gC d) 0 (q + 1))) (nI (q + 1)) _
        rw [lX11_many_17, hM.1, if_neg (nI_ge hq (by omega)), u_gd (by omega), u_jn, nI_clamp (n := q) (by omega), w15, if_neg (show ¬ nI (d.how q) = (0 : Int32) from nI_ne0 (by omega) (by omega))]
        dsimp only
        rw [u_let, show nI q + (1 : Int32) = nI (q + 1) from nI_add _ _, cnt_n g']
  · have hM := MC_frm h1 hP.2 (by decide)
    refine ⟨o, fun K => ?_, hP⟩
    show lX11_many_17 K (f + 1) _ (nI c.S) o = _
    rw [lX11_many_17, hM.1, if_pos (nI_le (Nat.le_refl _) (by omega))]
theorem many_if {α : Type} {b e : Nat} (hb : b ≤ 64) (he : e < 64) (T0 T1 : Option α) : (zjn T1 fun (K101 : Option α) => if nO b < 0 then (K101) else (Option.bind (pX11_bits (nI e)) fun (r15 : Int32) => Option.bind (pX11_bits (nO b)) fun (r16 : Int32) => if r16 < r15 then (K101) else (Option.bind (pX11_bits (nI e)) fun (r17 : Int32) => Option.bind (pX11_bits (nO b)) fun (r18 : Int32) => zjn T0 fun (K105 : Option α) => if r17 = r18 then (if nO b ≤ nI e then (K105) else (K101)) else (K105)))) = if b = 0 ∨ bsum (b - 1) 12 < bsum e 12 ∨ (bsum e 12 = bsum (b - 1) 12 ∧ e < b - 1) then T1 else T0 := by
  rw [u_jn]
  by_cases z : b = 0
  · rw [if_pos (Or.inl z), if_pos (show nO b < (0 : Int32) by rw [z]; decide)]
  · have eb : nO b = nI (b - 1) := nO_p (by omega)
    have b1 := bsum_le e 12
    have b2 := bsum_le (b - 1) 12
    rw [eb, if_neg (show ¬ nI (b - 1) < (0 : Int32) from nI_nlt (b := 0) (Nat.zero_le _) (by omega)), m_bits (a := e) (by omega), u_bd, m_bits (a := b - 1) (by omega), u_bd]
    by_cases y : bsum (b - 1) 12 < bsum e 12
    · rw [if_pos (nI_lt y (by omega)), if_pos (Or.inr (Or.inl y))]
    · rw [if_neg (nI_nlt (by omega) (by omega)), u_bd, u_bd, u_jn]
      by_cases w : bsum e 12 = bsum (b - 1) 12
      · rw [if_pos (by rw [w])]
        by_cases v : e < b - 1
        · rw [if_neg (nI_ge v (by omega)), if_pos (Or.inr (Or.inr ⟨w, v⟩))]
        · rw [if_pos (nI_le (by omega) (by omega)), if_neg (by omega)]
      · rw [if_neg (fun r => w ((nI_eq (by omega) (by omega)).mp r)), if_neg (by omega)]
theorem o_bet_le {b e : Nat} (hb : b ≤ 64) (he : e < 64) : o_bet b e ≤ 64 := by
  unfold o_bet
  split <;> omega
/-- the set that an order gives -/
def eO (c : CD) (l : LD) (d : SD) (gs : Nat → Nat) (n : Nat) (x : List Nat) : Nat := (eS c l d (fun i => gs (o_gt x i)) (roomOf l d d.day) n).1
theorem eO_lt {c : CD} {l : LD} {d : SD} {gs : Nat → Nat} {n : Nat} (hg : o_up n gs) {x : List Nat} (hx : o_va n x) : eO c l d gs n x < 64 := by
  unfold eO
  have : ∀ i, i ≤ n → (eS c l d (fun i => gs (o_gt x i)) (roomOf l d d.day) i).1 < 2 ^ 6 := fun i => by
    induction i with
    | zero => intro _; exact Nat.two_pow_pos 6
    | succ i ih =>
      intro h
      have ih' := ih (by omega)
      rw [eS]
      dsimp only
      split
      · refine Nat.or_lt_two_pow ih' ?_
        rw [Nat.one_shiftLeft]
        exact Nat.pow_lt_pow_right (by omega) (hg.2 _ (hx.2.1 i (by omega)))
      · exact ih'
  exact this n (Nat.le_refl n)
theorem m_many55 {c : CD} {l : LD} {d : SD} {n : Nat} {gs : Nat → Nat} (hc : OKC c) (hl : OKL l) (hd : OKS c.S d) (hn : n ≤ 6) (hg : o_up n gs) (hS : ∀ i, i < n → gs i < c.S) : ∀ (ys : List (List Nat)) (x : List Nat) (b F : Nat) (o : Ob), o_ch n x ys → (∀ y, y ∈ x :: ys → o_va n y) → o_R n gs x o → MC c o → ML l o → MS c.S d o → b ≤ 64 → ys.length + 1 < F → ∃ o', (∀ K : Int32 → Ob → Option (Int32 × Ob), lX11_many_55 K F (nI n) (nO b) 1 o = K (nO (o_best (eO c l d gs n) (x :: ys) b)) o') ∧ frm [46] o o' := by
  intro ys
  induction ys with
  | nil =>
    intro x b F o h1 h2 h3 h4 h5 h6 h7 h8
    obtain ⟨F, rfl⟩ : ∃ g, F = g + 1 := ⟨F - 1, by omega⟩
    obtain ⟨F, rfl⟩ : ∃ g, F = g + 1 := ⟨F - 1, by
      rw [List.length_nil] at h8
      omega⟩
    have hx := h2 x List.mem_cons_self
    have el := eO_lt (c := c) (l := l) (d := d) hg hx
    have eb : pX11_enoughBy o (nI n) = some (nI (eO c l d gs n x)) := m_enoughBy (od := fun i => gs (o_gt x i)) hc hl hd hn h4 h5 h6 (fun i hi => ⟨h3.2 i hi, hS _ (hx.2.1 i hi)⟩)
    have nx := (m_next hn hg hx h3).1 h1
    refine ⟨o, fun K => ?_, frm_rf _ _⟩
    rw [lX11_many_55, if_neg (show ¬ (1 : Int32) = 0 by decide), eb, u_bd, u_jn]
    dsimp only
    rw [many_if h7 el, u_jn, u_jn, if_neg (show ¬ (1 : Int32) = 0 by decide), if_pos rfl, nx]
    dsimp only
    rw [u_bd, u_bd]
    dsimp only
    show _ = K (nO (o_best (eO c l d gs n) [] (o_bet b (eO c l d gs n x)))) o
    rw [o_best, o_bet]
    by_cases z : b = 0 ∨ bsum (b - 1) 12 < bsum (eO c l d gs n x) 12 ∨ (bsum (eO c l d gs n x) 12 = bsum (b - 1) 12 ∧ eO c l d gs n x < b - 1)
    · rw [if_pos z, if_pos z, nO_s, lX11_many_55, if_pos rfl]
    · rw [if_neg z, if_neg z, lX11_many_55, if_pos rfl]
  | cons y ys ih =>
    intro x b F o h1 h2 h3 h4 h5 h6 h7 h8
    obtain ⟨F, rfl⟩ : ∃ g, F = g + 1 := ⟨F - 1, by omega⟩
    rw [List.length_cons] at h8
    have hx := h2 x List.mem_cons_self
    have el := eO_lt (c := c) (l := l) (d := d) hg hx
    have eb : pX11_enoughBy o (nI n) = some (nI (eO c l d gs n x)) := m_enoughBy (od := fun i => gs (o_gt x i)) hc hl hd hn h4 h5 h6 (fun i hi => ⟨h3.2 i hi, hS _ (hx.2.1 i hi)⟩)
    obtain ⟨o1, n1, n2, n3⟩ := (m_next hn hg hx h3).2 y h1.1
    obtain ⟨o2, k1, k2⟩ := ih y (o_bet b (eO c l d gs n x)) F o1 h1.2 (fun z hz => h2 z (List.mem_cons_of_mem _ hz)) n2 (MC_frm h4 n3 (by decide)) (ML_frm h5 n3 (by decide) (by decide)) (MS_sub h6 n3 (by decide)) (o_bet_le h7 el) (by omega)
    refine ⟨o2, fun K => ?_, frm_tr n3 k2⟩
    rw [lX11_many_55, if_neg (show ¬ (1 : Int32) = 0 by decide), eb, u_bd, u_jn]
    dsimp only
    rw [many_if h7 el, u_jn, u_jn, if_neg (show ¬ (1 : Int32) = 0 by decide), if_pos rfl, n1]
    dsimp only
    rw [u_bd, u_bd]
    dsimp only
    rw [show o_best (eO c l d gs n) (x :: y :: ys) b = o_best (eO c l d gs n) (y :: ys) (o_bet b (eO c l d gs n x)) from rfl, ← k1 K]
    by_cases z : b = 0 ∨ bsum (b - 1) 12 < bsum (eO c l d gs n x) 12 ∨ (bsum (eO c l d gs n x) 12 = bsum (b - 1) 12 ∧ eO c l d gs n x < b - 1)
    · rw [if_pos z, o_bet, if_pos z, nO_s]
    · rw [if_neg z, o_bet, if_neg z]
