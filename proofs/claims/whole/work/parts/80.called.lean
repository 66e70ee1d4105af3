/-! the class: prepare, plans cleared, the greatest, most, soonest -/
def ab (c : CD) (l : LD) (d : SD) (s : Nat) (i j : Nat) : Bool := decide (i < cnt c s c.W) && mayM c l d (own c s c.W i) (d.day + j)
def fw (c : CD) (l : LD) (d : SD) (s : Nat) (i j : Nat) : Nat := if i < cnt c s c.W then fresh c l (own c s c.W i) (d.day + j) else 0
def ro (l : LD) (d : SD) (j : Nat) : Nat := roomOf l d (d.day + j)
def lastK (d : SD) : Nat := if 399 - d.day < 30 then 399 - d.day else 30
theorem fw_le {c : CD} {l : LD} (hc : OKC c) (hl : OKL l) (d : SD) (s : Nat) : ∀ i j, i < 6 → fw c l d s i j ≤ 594 := by
  intro i j _
  unfold fw
  split
  · rename_i h
    exact fresh_le hc hl (own_at c s c.W i h).1 _
  · omega
theorem ro_le {l : LD} (hl : OKL l) (d : SD) : ∀ j, ro l d j ≤ 6 := by
  intro j
  have := (lval_talk hl (d.day + j)).2
  unfold ro roomOf
  omega
theorem lastK_le (d : SD) : lastK d ≤ 30 ∧ (d.day ≤ 399 → d.day + lastK d ≤ 399) := by
  unfold lastK
  split <;> omega
/-- all of the class's Called that stays while plans are made -/
def CP (c : CD) (l : LD) (d : SD) (s : Nat) (o : Ob) : Prop := CE (cnt c s c.W) (lastK d) (ab c l d s) (fw c l d s) (ro l d) o ∧ gi o 9 = nI (lastK d) ∧ (∀ i, i < cnt c s c.W → ga o 1 i = nI (own c s c.W i)) ∧ gl o 10 = lN (d.whole s) ∧ gl o 11 = lN (3 * c.need s)
theorem CP_frm {c : CD} {l : LD} {d : SD} {s : Nat} {o o' : Ob} {ks : List Nat} (hn : cnt c s c.W ≤ 6) (h : CP c l d s o) (f : frm ks o o') (hk : (ks.all fun k => decide (k ∈ [4, 5, 6, 7])) = true) : CP c l d s o' := by
  have no : ∀ k, k ∉ [4, 5, 6, 7] → k ∉ ks := fun k hn q => hn (of_decide_eq_true (List.all_eq_true.mp hk k q))
  refine ⟨CE_frm hn h.1 f (no 3 (by decide)) (no 8 (by decide)) (fun k h => no k (by simp only [List.mem_cons, List.not_mem_nil, or_false]; omega)), (f 9 (no 9 (by decide))).1.trans h.2.1, fun i hi => ?_, (f 10 (no 10 (by decide))).2.1.trans h.2.2.2.1, (f 11 (no 11 (by decide))).2.1.trans h.2.2.2.2⟩
  rw [(f 1 (no 1 (by decide))).2.2.1]
  exact h.2.2.1 i hi
theorem h_prep132 {c : CD} {l : LD} {d : SD} {oc ow os : Ob} (hc : OKC c) (hl : OKL l) (hd : OKS c.S d) (h : CC c oc) (h2 : CL l ow) (h3 : CS c.S d os) {s : Nat} (hs : s < c.S) (hg : d.how s = 0) {j : Nat} (hj : j ≤ lastK d) (o0 : Ob) (e8 : gi o0 8 = nI (cnt c s c.W)) (e1 : ∀ i, i < cnt c s c.W → ga o0 1 i = nI (own c s c.W i)) : ∃ o', (∀ K : Int32 → Ob → Option Ob, lX1_prepare_132 oc ow os (nI d.day) K zfu (nI j) 0 o0 = K (nI j) o') ∧ (∀ i, i < cnt c s c.W → gb o' (20 + i) j = if ab c l d s i j = true then lN (fw c l d s i j * 2 ^ j) else -1) ∧ (∀ i j', j' ≠ j → gb o' (20 + i) j' = gb o0 (20 + i) j') ∧ (∀ k, k < 20 → same k o0 o') := by
  have h6 := hc.1
  have hW := hc.2.1
  have hn := hc.2.2.2.2 s hs
  have bd := hd.1
  have hK := lastK_le d
  refine u_loopP (fun f i o => (fun K : Int32 → Ob → Option Ob => lX1_prepare_132 oc ow os (nI d.day) K f (nI j) (nI i) o)) (fun n o => (∀ i, i < n → gb o (20 + i) j = if ab c l d s i j = true then lN (fw c l d s i j * 2 ^ j) else -1) ∧ (∀ i j', j' ≠ j → gb o (20 + i) j' = gb o0 (20 + i) j') ∧ (∀ k, k < 20 → same k o0 o)) (fun r => ∃ o', (∀ K : Int32 → Ob → Option Ob, r K = K (nI j) o') ∧ (∀ i, i < cnt c s c.W → gb o' (20 + i) j = if ab c l d s i j = true then lN (fw c l d s i j * 2 ^ j) else -1) ∧ (∀ i j', j' ≠ j → gb o' (20 + i) j' = gb o0 (20 + i) j') ∧ (∀ k, k < 20 → same k o0 o')) (cnt c s c.W) (fun f i o hi hP => ?_) (fun f o hP => ?_) zfu 0 o0 (by omega) (u_zfu (by omega)) ⟨fun w hw => absurd hw (Nat.not_lt_zero w), fun i j' _ => rfl, fun k _ => ⟨rfl, rfl, rfl, rfl⟩⟩
  · obtain ⟨p1, p2, p3⟩ := hP
    obtain ⟨o1, o2⟩ := own_at c s c.W i hi
    have g8 : gi o 8 = nI (cnt c s c.W) := by rw [(p3 8 (by omega)).1]; exact e8
    have g1 : ga o 1 i = nI (own c s c.W i) := by rw [(p3 1 (by omega)).2.2.1]; exact e1 i hi
    have hm := h_mayCall (t := d.day + j) hc hl hd h h2 h3 o1 (by omega)
    have hf := h_fresh (os := os) (t := d.day + j) hc hl h h2 o1 (by omega)
    have ema : may c l d (own c s c.W i) (d.day + j) = mayM c l d (own c s c.W i) (d.day + j) := by
      unfold may
      rw [o2, decide_eq_true hg, Bool.and_true]
    rw [ema] at hm
    have eab : ab c l d s i j = mayM c l d (own c s c.W i) (d.day + j) := by
      unfold ab
      rw [decide_eq_true hi, Bool.true_and]
    have efw : fw c l d s i j = fresh c l (own c s c.W i) (d.day + j) := if_pos hi
    have bf := fresh_le hc hl o1 (d.day + j)
    have n20 : ∀ k, k < 20 → ¬ k = 20 + i := fun k hk => by omega
    refine ⟨sb o (20 + i) (vp_updL (gb o (20 + i)) j (if ab c l d s i j = true then lN (fw c l d s i j * 2 ^ j) else -1)), ⟨fun i' hi' => ?_, fun i' j' hj' => ?_, fun k hk => ?_⟩, ?_⟩
    · rw [gb_sb]
      by_cases q : i' = i
      · subst q; rw [if_pos rfl, updL_ap, if_pos rfl]
      · rw [if_neg (by omega)]; exact p1 i' (by omega)
    · rw [gb_sb]
      by_cases q : 20 + i' = 20 + i
      · have : i' = i := by omega
        subst this
        rw [if_pos rfl, updL_ap, if_neg hj']; exact p2 i' j' hj'
      · rw [if_neg q]; exact p2 i' j' hj'
    · obtain ⟨q1, q2, q3, q4⟩ := p3 k hk
      refine ⟨q1, q2, q3, ?_⟩
      rw [gb_sb, if_neg (n20 k hk)]; exact q4
    · funext K
      show lX1_prepare_132 oc ow os (nI d.day) K (f + 1) (nI j) (nI i) o = _
      rw [lX1_prepare_132, g8, if_neg (nI_ge hi (by omega)), u_gd (by omega), nI_clamp (n := i) (by omega), g1, nI_add, hm, u_bd, u_gd (by omega), u_jn]
      rw [eab, efw]
      cases z : mayM c l d (own c s c.W i) (d.day + j) with
      | true =>
        rw [if_neg (show ¬ nI (bN true) = (0 : Int32) by decide), u_gd (by omega), hf, u_bd]
        dsimp only
        rw [u_gd (by omega), u_let, u_let, nI_clamp (n := j) (by omega), show nI i + (1 : Int32) = nI (i + 1) from nI_add _ _, nI_l (by omega), show lN (fresh c l (own c s c.W i) (d.day + j)) <<< ((nI j).toInt64 &&& 63) = lN (fresh c l (own c s c.W i) (d.day + j) * 2 ^ j) from wb_shl _ (by omega)]
        rfl
      | false =>
        rw [if_pos (show nI (bN false) = (0 : Int32) by decide)]
        dsimp only
        rw [u_gd (by omega), u_let, u_let, nI_clamp (n := j) (by omega), show nI i + (1 : Int32) = nI (i + 1) from nI_add _ _]
        rfl
  · obtain ⟨p1, p2, p3⟩ := hP
    have g8 : gi o 8 = nI (cnt c s c.W) := by rw [(p3 8 (by omega)).1]; exact e8
    refine ⟨o, fun K => ?_, p1, p2, p3⟩
    show lX1_prepare_132 oc ow os (nI d.day) K (f + 1) (nI j) (nI (cnt c s c.W)) o = _
    rw [lX1_prepare_132, g8, if_pos (nI_le (Nat.le_refl _) (by omega))]
theorem h_prepare {c : CD} {l : LD} {d : SD} {oe oc ow os : Ob} (hc : OKC c) (hl : OKL l) (hd : OKS c.S d) (h : CC c oc) (h2 : CL l ow) (h3 : CS c.S d os) {s : Nat} (hs : s < c.S) (hg : d.how s = 0) : ∃ o', pX1_prepare oe oc ow os (nI s) = some o' ∧ CP c l d s o' := by
  have h6 := hc.1
  have hn := hc.2.2.2.2 s hs
  have bd := hd.1
  have hK := lastK_le d
  have hw := (hd.2.2.2.2.1 s hs).1
  have hsp := hd.2.1
  have hnd := (hc.2.2.1 s hs).2.1
  obtain ⟨o1, a1, a2, a3, a4⟩ := h_list hc h hs (si oe 8 0) rfl
  have key := u_loopP (fun f j o => (fun K : Ob → Option Ob => lX1_prepare_105 oc ow os (nI d.day) K f (nI j) o)) (fun j o => gi o 8 = nI (cnt c s c.W) ∧ gi o 9 = nI (lastK d) ∧ (∀ i, i < cnt c s c.W → ga o 1 i = nI (own c s c.W i)) ∧ (∀ j', j' < j → ga o 3 j' = nI (ro l d j')) ∧ (∀ i, i < cnt c s c.W → ∀ j', j' < j → gb o (20 + i) j' = if ab c l d s i j' = true then lN (fw c l d s i j' * 2 ^ j') else -1)) (fun r => ∃ o', (∀ K : Ob → Option Ob, r K = K o') ∧ gi o' 8 = nI (cnt c s c.W) ∧ gi o' 9 = nI (lastK d) ∧ (∀ i, i < cnt c s c.W → ga o' 1 i = nI (own c s c.W i)) ∧ (∀ j', j' < lastK d + 1 → ga o' 3 j' = nI (ro l d j')) ∧ (∀ i, i < cnt c s c.W → ∀ j', j' < lastK d + 1 → gb o' (20 + i) j' = if ab c l d s i j' = true then lN (fw c l d s i j' * 2 ^ j') else -1)) (lastK d + 1) (fun f j o hj hP => ?_) (fun f o hP => ?_) zfu 0 (si o1 9 (nI (lastK d))) (by omega) (u_zfu (by omega)) ⟨a2, rfl, a3, fun j' hj' => absurd hj' (Nat.not_lt_zero j'), fun i _ j' hj' => absurd hj' (Nat.not_lt_zero j')⟩
  · obtain ⟨o2, b1, b2, b3, b4, b5, b6⟩ := key
    refine ⟨sl (sl o2 10 (lN (d.whole s))) 11 (lN (3 * c.need s)), ?_, ⟨b2, fun j hj => b5 j (by omega), fun i hi j hj => b6 i hi j (by omega)⟩, b3, b4, rfl, rfl⟩
    unfold pX1_prepare
    rw [u_let, u_jn, a1]
    have em : (if (399 : Int32) - gi os 0 < (30 : Int32) then (399 : Int32) - gi os 0 else (30 : Int32)) = nI (lastK d) := by
      rw [h3.1, show (399 : Int32) - nI d.day = nI (399 - d.day) from pk_sub (a := 399) (by omega)]
      unfold lastK
      by_cases z : 399 - d.day < 30
      · rw [if_pos z, if_pos (show nI (399 - d.day) < (30 : Int32) from nI_lt (b := 30) z (by omega))]
      · rw [if_neg z, if_neg (show ¬ nI (399 - d.day) < (30 : Int32) from nI_nlt (b := 30) (by omega) (by omega))]
        rfl
    rw [u_let, u_let, em, u_let, u_jn, h3.1]
    show lX1_prepare_105 oc ow os (nI d.day) _ zfu (nI 0) (si o1 9 (nI (lastK d))) = _
    have b1' : ∀ K : Ob → Option Ob, lX1_prepare_105 oc ow os (nI d.day) K zfu (nI 0) (si o1 9 (nI (lastK d))) = K o2 := b1
    rw [b1']
    rw [h_suitT hc h hs, u_bd, u_jn, if_neg (show ¬ nI 1 = (0 : Int32) by decide), u_gd (by omega), nI_clamp (by omega), (h3.2.2.2.2.1 s hs).1, nI_l (by omega)]
    dsimp only
    rw [u_let, h_goal hc h hs, u_bd, u_let, nI_l (by omega)]
  · obtain ⟨p1, p2, p3, p4, p5⟩ := hP
    have hr := h_room (oc := oc) (t := d.day + j) hl hd h2 h3 (by omega)
    obtain ⟨o2, b1, b2, b3, b4⟩ := h_prep132 hc hl hd h h2 h3 hs hg (j := j) (by omega) (sa o 3 (upd (ga o 3) j (nI (ro l d j)))) p1 (fun i hi => by rw [ga_sa, if_neg (by decide)]; exact p3 i hi)
    refine ⟨o2, ⟨by rw [(b4 8 (by omega)).1]; exact p1, by rw [(b4 9 (by omega)).1]; exact p2, fun i hi => ?_, fun j' hj' => ?_, fun i hi j' hj' => ?_⟩, ?_⟩
    · rw [(b4 1 (by omega)).2.2.1, ga_sa, if_neg (by decide)]; exact p3 i hi
    · rw [(b4 3 (by omega)).2.2.1, ga_sa, if_pos rfl, upd_ap]
      by_cases q : j' = j
      · rw [if_pos q, q]
      · rw [if_neg q]; exact p4 j' (by omega)
    · by_cases q : j' = j
      · rw [q]; exact b2 i hi
      · rw [b3 i j' q, gb_sa]; exact p5 i hi j' (by omega)
    · funext K
      show lX1_prepare_105 oc ow os (nI d.day) K (f + 1) (nI j) o = _
      rw [lX1_prepare_105, p2, if_neg (nI_nlt (by omega) (by omega)), nI_add, hr, u_bd, u_gd (by omega), nI_clamp (n := j) (by omega), u_let, u_jn]
      show lX1_prepare_132 oc ow os (nI d.day) _ zfu (nI j) 0 (sa o 3 (upd (ga o 3) j (nI (ro l d j)))) = _
      rw [b1]
      rw [u_let, show nI j + (1 : Int32) = nI (j + 1) from nI_add _ _]
  · obtain ⟨p1, p2, p3, p4, p5⟩ := hP
    refine ⟨o, fun K => ?_, p1, p2, p3, p4, p5⟩
    show lX1_prepare_105 oc ow os (nI d.day) K (f + 1) (nI (lastK d + 1)) o = _
    rw [lX1_prepare_105, p2, if_pos (nI_lt (by omega) (by omega))]
/-- the best sum of a set, one more; 0 if there is none -/
noncomputable def bst (n : Nat) (able : Nat → Nat → Bool) (fr : Nat → Nat → Nat) (room : Nat → Nat) (k T : Nat) : Nat := Classical.epsilon (fun e => isM e (PP n able fr room k T))
theorem bst_is {n : Nat} {able : Nat → Nat → Bool} {fr : Nat → Nat → Nat} {room : Nat → Nat} {k T e : Nat} (h : isM e (PP n able fr room k T)) : e = bst n able fr room k T ∧ isM (bst n able fr room k T) (PP n able fr room k T) := by
  have := Classical.epsilon_spec (p := fun e => isM e (PP n able fr room k T)) ⟨e, h⟩
  exact ⟨isM_un h this, this⟩
/-- the class's best sums, of the sets among A -/
def Bes (n : Nat) (able : Nat → Nat → Bool) (fr : Nat → Nat → Nat) (room : Nat → Nat) (k A : Nat) (o : Ob) : Prop := ∀ T, T &&& A = T → gb o 4 T = lO (bst n able fr room k T) ∧ isM (bst n able fr room k T) (PP n able fr room k T)
theorem Bes_of {n : Nat} {able : Nat → Nat → Bool} {fr : Nat → Nat → Nat} {room : Nat → Nat} {k A : Nat} {o : Ob} (h : ∀ T, T &&& A = T → ∃ e, gb o 4 T = lO e ∧ isM e (PP n able fr room k T)) : Bes n able fr room k A o := by
  intro T hT
  obtain ⟨e, h1, h2⟩ := h T hT
  obtain ⟨a, b⟩ := bst_is h2
  exact ⟨by rw [h1, a], b⟩
theorem Bes_ex {n : Nat} {able : Nat → Nat → Bool} {fr : Nat → Nat → Nat} {room : Nat → Nat} {k A : Nat} {o : Ob} (h : Bes n able fr room k A o) : ∀ T, T &&& A = T → ∃ e, gb o 4 T = lO e ∧ isM e (PP n able fr room k T) := fun T hT => ⟨_, (h T hT).1, (h T hT).2⟩
theorem h_clear (oe oc ow os : Ob) (n : Nat) (able : Nat → Nat → Bool) (fr : Nat → Nat → Nat) (room : Nat → Nat) (A : Nat) : ∃ o', pX1_clearPlans oe oc ow os = some o' ∧ Bes n able fr room 0 A o' ∧ frm [4] oe o' := by
  refine ⟨sb (sb oe 4 (fun _ => (-1 : Int64))) 4 (vp_updL (gb (sb oe 4 (fun _ => (-1 : Int64))) 4) 0 0), ?_, Bes_of (fun T hT => ?_), frm_sb (frm_sb (frm_rf _ _) (by decide) _) (by decide) _⟩
  · unfold pX1_clearPlans
    rw [u_let]
    show zgd (nI 0) 64 _ = _
    rw [u_gd (by omega), u_let]
    rfl
  · rw [gb_sb, if_pos rfl, updL_ap, gb_sb, if_pos rfl]
    by_cases z : T = 0
    · rw [if_pos z]
      exact ⟨1, rfl, fun x hx => by rw [hx.2]; omega, fun _ => ⟨z, rfl⟩⟩
    · rw [if_neg z]
      exact ⟨0, rfl, fun x hx => absurd hx.1 z, fun h => absurd h (Nat.lt_irrefl 0)⟩
theorem h_all {n : Nat} (hn : n ≤ 6) {oe oc ow os : Ob} (h : gi oe 8 = nI n) : pX1_allOfThem oe oc ow os = some (nI (2 ^ n - 1)) := by
  unfold pX1_allOfThem
  rw [h, show (1 : Int32) <<< (nI n &&& 31) = nI (1 <<< n) from u_shl1 (by omega), Nat.one_shiftLeft]
  have := Nat.two_pow_pos n
  rw [show nI (2 ^ n) - (1 : Int32) = nI (2 ^ n - 1) from pk_sub (by show 1 ≤ 2 ^ n; omega)]
theorem sub_all {n T : Nat} : T &&& (2 ^ n - 1) = T ↔ T < 2 ^ n := by
  rw [Nat.and_two_pow_sub_one_eq_mod]
  have := Nat.two_pow_pos n
  constructor
  · intro h
    rw [← h]
    exact Nat.mod_lt _ this
  · intro h
    exact Nat.mod_eq_of_lt h
theorem p2_le {n : Nat} (hn : n ≤ 6) : 1 ≤ 2 ^ n ∧ 2 ^ n ≤ 64 := ⟨Nat.two_pow_pos n, Nat.pow_le_pow_right (n := 2) (by omega) hn⟩
/-- the greatest of the first q -/
def gm (e : Nat → Nat) : Nat → Nat
  | 0 => 0
  | q + 1 => if e q ≤ gm e q then gm e q else e q - 1
theorem gm_le {e : Nat → Nat} {B : Nat} : ∀ q, (∀ i, i < q → e i ≤ B + 1) → gm e q ≤ B
  | 0, _ => Nat.zero_le _
  | q + 1, h => by
    have a := gm_le q (fun i hi => h i (by omega))
    have b := h q (by omega)
    rw [gm]
    split <;> omega
theorem h_great {c : CD} {l : LD} {d : SD} {s k : Nat} {o oc ow os : Ob} (hc : OKC c) (hl : OKL l) (hd : OKS c.S d) (hs : s < c.S) (hk : k ≤ 31) (hP : CP c l d s o) (hB : Bes (cnt c s c.W) (ab c l d s) (fw c l d s) (ro l d) k (2 ^ cnt c s c.W - 1) o) : pX1_greatest o oc ow os = some (lN (d.whole s + gm (bst (cnt c s c.W) (ab c l d s) (fw c l d s) (ro l d) k) (2 ^ cnt c s c.W))) := by
  have hn := hc.2.2.2.2 s hs
  have p2 := p2_le hn
  have hw := (hd.2.2.2.2.1 s hs).1
  have hsp := hd.2.1
  have eA := h_all (oc := oc) (ow := ow) (os := os) hn hP.1.1
  have pk : 3564 * 2 ^ k ≤ 3564 * 2 ^ 31 := Nat.mul_le_mul_left _ (Nat.pow_le_pow_right (by omega) hk)
  have be : ∀ T, T < 2 ^ cnt c s c.W → bst (cnt c s c.W) (ab c l d s) (fw c l d s) (ro l d) k T ≤ 3564 * 2 ^ k + 1 := fun T hT => isM_lt (hB T (sub_all.mpr hT)).2 (fun x hx => PP_le (fw_le hc hl d s) hx)
  unfold pX1_greatest
  generalize hE : bst (cnt c s c.W) (ab c l d s) (fw c l d s) (ro l d) k = E at *
  refine u_loop (fun f q => lX1_greatest_4 o oc ow os f (lN (gm E q)) (nI q)) (2 ^ cnt c s c.W) _ (fun f q hq => ?_) (fun f => ?_) zfu 0 (by omega) (u_zfu (by omega))
  · have e4 : gb o 4 q = lO (E q) := by rw [← hE]; exact (hB q (sub_all.mpr hq)).1
    have b1 := be q hq
    have b2 := gm_le (e := E) (B := 3564 * 2 ^ k) q (fun i hi => be i (by omega))
    show lX1_greatest_4 o oc ow os (f + 1) (lN (gm E q)) (nI q) = _
    rw [lX1_greatest_4, eA, u_bd, if_neg (nI_nlt (by omega) (by omega)), u_gd (by omega), nI_clamp (n := q) (by omega), e4, u_let, u_let, show nI q + (1 : Int32) = nI (q + 1) from nI_add _ _, gm]
    by_cases z : E q ≤ gm E q
    · rw [if_pos z, if_pos (by rw [← lO_s (gm E q)]; exact (lO_lt (by omega) (by omega)).mpr (by omega))]
    · have nz : ¬ lO (E q) < lN (gm E q) := by
        rw [← lO_s (gm E q)]
        intro r
        have := (lO_lt (by omega) (by omega)).mp r
        omega
      rw [if_neg z, if_neg nz]
      obtain ⟨b, hb⟩ : ∃ b, E q = b + 1 := ⟨E q - 1, by omega⟩
      rw [hb, lO_s]
      rfl
  · show lX1_greatest_4 o oc ow os (f + 1) (lN (gm E (2 ^ cnt c s c.W))) (nI (2 ^ cnt c s c.W)) = _
    rw [lX1_greatest_4, eA, u_bd, if_pos (nI_lt (by omega) (by omega)), hP.2.2.2.1, lN_add]
