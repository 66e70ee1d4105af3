/-! turns: the reference, who may be called; the most of what is left -/
theorem m_avail {c : CD} {l : LD} {d : SD} {s : Nat} {m : Ob} (hc : OKC c) (hl : OKL l) (hd : OKS c.S d) (hs : s < c.S) (h : MP c l d s (fun _ => 0) m ∨ (MC c m ∧ ML l m ∧ MS c.S d m ∧ gi m 40 = nI (cnt c s c.W) ∧ (∀ i, i < cnt c s c.W → ga m 39 i = nI (own c s c.W i)))) (K : Int32 → Option (Int32 × Ob)) : lX11_turns_46 m K zfu 0 0 = K (nI (am (ab c l d s) 0 (cnt c s c.W))) := by
  have hn := hc.2.2.2.2 s hs
  have bd := hd.1
  obtain ⟨h1, h2, h3, h40, h39⟩ : MC c m ∧ ML l m ∧ MS c.S d m ∧ gi m 40 = nI (cnt c s c.W) ∧ (∀ i, i < cnt c s c.W → ga m 39 i = nI (own c s c.W i)) := by
    rcases h with h | h
    · exact ⟨h.1, h.2.1, h.2.2.1, h.2.2.2.1, h.2.2.2.2.1⟩
    · exact h
  refine u_loop (fun f q => lX11_turns_46 m K f (nI (am (ab c l d s) 0 q)) (nI q)) (cnt c s c.W) _ (fun f q hq => ?_) (fun f => ?_) zfu 0 (Nat.zero_le _) (u_zfu (by omega))
  · obtain ⟨o1, o2⟩ := own_at c s c.W q hq
    have hm := m_may (t := d.day) hc hl hd h1 h2 h3 o1 (by omega)
    have eab : ab c l d s q 0 = mayM c l d (own c s c.W q) d.day := by
      unfold ab
      rw [decide_eq_true hq, Bool.true_and, Nat.add_zero]
    show lX11_turns_46 m K (f + 1) (nI (am (ab c l d s) 0 q)) (nI q) = _
    rw [lX11_turns_46, h40, if_neg (nI_ge hq (by omega)), u_gd (by omega), nI_clamp (n := q) (by omega), h39 q hq, h3.1, hm, u_bd, u_jn, am, eab]
    cases z : mayM c l d (own c s c.W q) d.day with
    | false =>
      rw [if_pos (show nI (bN false) = (0 : Int32) by decide), if_neg (show ¬ false = true by decide), Nat.or_zero]
      dsimp only
      rw [show nI (am (ab c l d s) 0 q) ||| (0 : Int32) = nI (am (ab c l d s) 0 q ||| 0) from fa_or _ 0, Nat.or_zero, u_let, u_let, show nI q + (1 : Int32) = nI (q + 1) from nI_add _ _]
    | true =>
      rw [if_neg (show ¬ nI (bN true) = (0 : Int32) by decide), if_pos rfl, show (1 : Int32) <<< (nI q &&& 31) = nI (1 <<< q) from u_shl1 (by omega)]
      dsimp only
      rw [fa_or, u_let, u_let, show nI q + (1 : Int32) = nI (q + 1) from nI_add _ _]
  · show lX11_turns_46 m K (f + 1) _ (nI (cnt c s c.W)) = _
    rw [lX11_turns_46, h40, if_pos (nI_le (Nat.le_refl _) (by omega))]
/-- the most of what is left after one more -/
theorem m_want83 {n x6 : Nat} {m : Ob} (hn : n ≤ 6) (h40 : gi m 40 = nI n) (hx : x6 < 64) (lo : Int64) (hi : Int) (hlo : lo.toInt ≤ hi) (hall : ∀ j, j < n → x6.testBit j = true → (gb m 45 (x6 ^^^ 1 <<< j)).toInt ≤ hi) : ∃ y : Int64, (∀ K : Int64 → Option Int64, lX11_wantOf_83 m (nI x6) K zfu lo 0 = K y) ∧ lo.toInt ≤ y.toInt ∧ y.toInt ≤ hi ∧ (∀ B : Int, lo.toInt ≤ B → (y.toInt ≤ B ↔ ∀ j, j < n → x6.testBit j = true → (gb m 45 (x6 ^^^ 1 <<< j)).toInt ≤ B)) := by
  refine u_loopP (fun f q (y : Int64) => (fun K : Int64 → Option Int64 => lX11_wantOf_83 m (nI x6) K f y (nI q))) (fun q (y : Int64) => lo.toInt ≤ y.toInt ∧ y.toInt ≤ hi ∧ (∀ B : Int, lo.toInt ≤ B → (y.toInt ≤ B ↔ ∀ j, j < q → x6.testBit j = true → (gb m 45 (x6 ^^^ 1 <<< j)).toInt ≤ B))) (fun r => ∃ y : Int64, (∀ K : Int64 → Option Int64, r K = K y) ∧ lo.toInt ≤ y.toInt ∧ y.toInt ≤ hi ∧ (∀ B : Int, lo.toInt ≤ B → (y.toInt ≤ B ↔ ∀ j, j < n → x6.testBit j = true → (gb m 45 (x6 ^^^ 1 <<< j)).toInt ≤ B))) n (fun f q y hq hP => ?_) (fun f y hP => ?_) zfu 0 lo (Nat.zero_le _) (u_zfu (by omega)) ⟨Int.le_refl _, hlo, fun B hB => ⟨fun _ j hj => absurd hj (Nat.not_lt_zero j), fun _ => hB⟩⟩
  · obtain ⟨p1, p2, p3⟩ := hP
    cases z : x6.testBit q with
    | false =>
      refine ⟨y, ⟨p1, p2, fun B hB => (p3 B hB).trans ⟨fun h j hj hb => ?_, fun h j hj hb => h j (by omega) hb⟩⟩, ?_⟩
      · by_cases w : j = q
        · rw [w, z] at hb; exact absurd hb (by decide)
        · exact h j (by omega) hb
      · funext K
        show lX11_wantOf_83 m (nI x6) K (f + 1) y (nI q) = _
        rw [lX11_wantOf_83, h40, if_neg (nI_ge hq (by omega)), m_has (by omega) (by omega), u_bd, u_jn, z, if_pos (show nI (bN false) = (0 : Int32) by decide)]
        dsimp only
        rw [u_jn, if_pos (Int64.le_iff_toInt_le.mpr (Int.le_refl _))]
        dsimp only
        rw [u_let, show nI q + (1 : Int32) = nI (q + 1) from nI_add _ _]
    | true =>
      have fl := flip_lt hx (show q < 6 by omega)
      have head : ∀ K : Int64 → Option Int64, lX11_wantOf_83 m (nI x6) K (f + 1) y (nI q) = (if gb m 45 (x6 ^^^ 1 <<< q) ≤ y then lX11_wantOf_83 m (nI x6) K f y (nI (q + 1)) else lX11_wantOf_83 m (nI x6) K f (gb m 45 (x6 ^^^ 1 <<< q)) (nI (q + 1))) := by
        intro K
        rw [lX11_wantOf_83, h40, if_neg (nI_ge hq (by omega)), m_has (by omega) (by omega), u_bd, u_jn, z, if_neg (show ¬ nI (bN true) = (0 : Int32) by decide), rm_word z (by omega), u_gd ⟨fl, by omega⟩, nI_clamp (n := x6 ^^^ 1 <<< q) (by omega)]
        dsimp only
        rw [u_jn]
        dsimp only
        rw [u_let, u_let, show nI q + (1 : Int32) = nI (q + 1) from nI_add _ _]
      have step : ∀ y' : Int64, (y'.toInt = y.toInt ∧ (gb m 45 (x6 ^^^ 1 <<< q)).toInt ≤ y.toInt) ∨ (y'.toInt = (gb m 45 (x6 ^^^ 1 <<< q)).toInt ∧ y.toInt ≤ y'.toInt) → (lo.toInt ≤ y'.toInt ∧ y'.toInt ≤ hi ∧ (∀ B : Int, lo.toInt ≤ B → (y'.toInt ≤ B ↔ ∀ j, j < q + 1 → x6.testBit j = true → (gb m 45 (x6 ^^^ 1 <<< j)).toInt ≤ B))) := by
        intro y' hy
        have hq2 := hall q hq z
        refine ⟨by omega, by omega, fun B hB => ⟨fun h j hj hb => ?_, fun h => ?_⟩⟩
        · by_cases w : j = q
          · rw [w]; omega
          · exact (p3 B hB).mp (by omega) j (by omega) hb
        · have a := h q (by omega) z
          have b := (p3 B hB).mpr (fun j hj hb => h j (by omega) hb)
          omega
      by_cases w : gb m 45 (x6 ^^^ 1 <<< q) ≤ y
      · refine ⟨y, step y (Or.inl ⟨rfl, Int64.le_iff_toInt_le.mp w⟩), ?_⟩
        funext K
        show lX11_wantOf_83 m (nI x6) K (f + 1) y (nI q) = _
        rw [head, if_pos w]
      · have w' : ¬ (gb m 45 (x6 ^^^ 1 <<< q)).toInt ≤ y.toInt := fun r => w (Int64.le_iff_toInt_le.mpr r)
        refine ⟨gb m 45 (x6 ^^^ 1 <<< q), step _ (Or.inr ⟨rfl, by omega⟩), ?_⟩
        funext K
        show lX11_wantOf_83 m (nI x6) K (f + 1) y (nI q) = _
        rw [head, if_neg w]
  · refine ⟨y, fun K => ?_, hP⟩
    show lX11_wantOf_83 m (nI x6) K (f + 1) y (nI n) = _
    rw [lX11_wantOf_83, h40, if_pos (nI_le (Nat.le_refl _) (by omega))]
