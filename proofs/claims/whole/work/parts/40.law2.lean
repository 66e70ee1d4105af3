theorem kN_L_7 : Cond.classLink RL 7 RX10 ∈ zT ∧ Cond.instantiable RX10 12 ∈ zT ∧ Cond.initialized RX10 ∈ zT := ⟨zT_in (List.mem_of_getElem? (i := 90) (by decide +kernel)) rfl, zT_in (List.mem_of_getElem? (i := 91) (by decide +kernel)) rfl, zT_in (List.mem_of_getElem? (i := 70) (by decide +kernel)) rfl⟩
theorem kN_L_10 : Cond.classLink RL 10 RX11 ∈ zT ∧ Cond.instantiable RX11 53 ∈ zT ∧ Cond.initialized RX11 ∈ zT := ⟨zT_in (List.mem_of_getElem? (i := 979) (by decide +kernel)) rfl, zT_in (List.mem_of_getElem? (i := 980) (by decide +kernel)) rfl, zT_in (List.mem_of_getElem? (i := 82) (by decide +kernel)) rfl⟩
theorem kI_L_9 : zMi RL 9 yX10_init cX10_init 2 0 := ⟨zT_in (List.mem_of_getElem? (i := 92) (by decide +kernel)) rfl, zT_in (List.mem_of_getElem? (i := 93) (by decide +kernel)) rfl, zT_in (List.mem_of_getElem? (i := 70) (by decide +kernel)) rfl, zT_in (List.mem_of_getElem? (i := 94) (by decide +kernel)) rfl, (by decide +kernel), (by decide +kernel), rfl⟩
theorem kI_L_12 : zMi RL 12 yX11_init cX11_init 1 0 := ⟨zT_in (List.mem_of_getElem? (i := 981) (by decide +kernel)) rfl, zT_in (List.mem_of_getElem? (i := 982) (by decide +kernel)) rfl, zT_in (List.mem_of_getElem? (i := 82) (by decide +kernel)) rfl, zT_in (List.mem_of_getElem? (i := 983) (by decide +kernel)) rfl, (by decide +kernel), (by decide +kernel), rfl⟩
section LAW2
theorem zofN {k : Nat} (h : k < 2 ^ 31) : (Int32.ofNat k).toInt = (k : Int) := Int32.toInt_ofNat_of_lt h
theorem zofA (k j : Nat) : Int32.ofNat k + Int32.ofNat j = Int32.ofNat (k + j) := (Int32.ofNat_add k j).symm
theorem zvpin {k L : Nat} (h : k < L) (hL : L ≤ 2048) : vp_in (Int32.ofNat k) L := by
  have e := zofN (k := k) (by omega)
  intro q
  rcases q with q | q
  · have := Int32.lt_iff_toInt_lt.mp q
    rw [e] at this
    have e0 : (0 : Int32).toInt = 0 := by decide
    omega
  · have e1 : (Int32.ofNat k).toNatClampNeg = k := by
      show (Int32.ofNat k).toInt.toNat = k
      rw [e]; rfl
    omega
theorem zlaw_go {k L : Nat} (hk : k ≤ L) (hL : L ≤ 2048) (h : ¬ Int32.ofNat L - 4 < Int32.ofNat k) : k + 4 ≤ L := by
  have h1 : ¬ (Int32.ofNat L - 4).toInt < (Int32.ofNat k).toInt := fun q => h (Int32.lt_iff_toInt_lt.mpr q)
  rw [zofN (by omega), Int32.toInt_sub, zofN (by omega)] at h1
  have e4 : (4 : Int32).toInt = 4 := by decide
  rw [e4, Int.bmod_eq_of_le (by omega) (by omega)] at h1
  omega
variable {l : Launch} {D : va_G} {tA : Nat → ClassId} {X : ZX} {b L : Nat} {xs : Nat → Int32}
theorem law_loop {R : Cst → Ob → Prop} (ok : LawOK R) (F : zI l D tA RL cL_law 4 room_1 X) (hsc : zSc X b L xs) (hL : L ≤ 2048) (hend : ∀ (H : Heap) (locs : List Loc) (ls : Array Slot), va_S (zA X) (zH X) H locs → W (zp X) (zl X) (ze X) (zR X) (zs X) (zm X) (za X) (zb X) (zme X) (zc X) H locs 137 24829 (zQ X) (F0 (zm X) 863 ls [.int 1])) :
    ∀ n k : Nat, k ≤ L → L < k + n → LoopAt R X D tA b k 18 := by
  intro n
  induction n with
  | zero => intro k h1 h2; omega
  | succ n ih =>
    intro k hk hn x m qa qb hxm
    refine i_iload_n (pc := 18) F dL_law_18 rfl ?_
    refine i_aload_n (pc := 19) F dL_law_19 rfl ?_
    refine i_slen (pc := 20) F hsc dL_law_20 ?_
    refine i_iconst (v := 4) (pc := 21) F dL_law_21 rfl ?_
    refine i_isub (pc := 22) F dL_law_22 ?_
    refine i_icmp_gt (tgt := 862) (pc := 23) F dL_law_23 (by decide) (fun _ => ?_) (fun hg => ?_)
    · refine i_iconst (v := 1) (pc := 862) F dL_law_862 rfl ?_
      exact fun H locs ls hP hD hS hl => hend H locs ls hS
    have hk4 := zlaw_go hk hL hg
    have h1 : vp_in (Int32.ofNat k + 1) L := by rw [show (1 : Int32) = Int32.ofNat 1 from rfl, zofA]; exact zvpin (by omega) hL
    have h2 : vp_in (Int32.ofNat k + 2) L := by rw [show (2 : Int32) = Int32.ofNat 2 from rfl, zofA]; exact zvpin (by omega) hL
    have h3 : vp_in (Int32.ofNat k + 3) L := by rw [show (3 : Int32) = Int32.ofNat 3 from rfl, zofA]; exact zvpin (by omega) hL
    have next : LoopAt R X D tA b k 856 := by
      intro x m qa qb hxm
      refine i_iinc (v := Int32.ofNat (k + 4)) (lv' := [some (.ref b), some (.ref (qa 0)), some (.ref (qb 0)), some (.int (Int32.ofNat (k + 4)))]) (pc := 856) F dL_law_856 rfl (by rw [show Int32.ofInt 4 = Int32.ofNat 4 from rfl, zofA]) rfl rfl ?_
      refine i_goto (tgt := 18) (pc := 859) F dL_law_859 (by decide) ?_
      exact ih (k + 4) (by omega) (by omega) x m qa qb hxm
    refine i_aload_n (pc := 26) F dL_law_26 rfl ?_
    refine i_iload_n (pc := 27) F dL_law_27 rfl ?_
    refine i_sld (pc := 28) F hsc (zvpin (by omega) hL) dL_law_28 ?_
    refine i_bipush (v := 31) (pc := 29) F dL_law_29 rfl ?_
    refine i_iand (pc := 31) F dL_law_31 ?_
    refine i_ts (tgt := 856) (pc := 32) F dL_law_32 (fun j hj => ?_) (by decide) (next x m qa qb hxm)
    match j, hj with
    | 0, _ => exact ⟨152, rfl, law_0 ok F hsc h1 h2 h3 next x m qa qb hxm⟩
    | 1, _ => exact ⟨215, rfl, law_1 ok F hsc h1 h2 h3 next x m qa qb hxm⟩
    | 2, _ => exact ⟨228, rfl, law_2 ok F hsc h1 h2 h3 next x m qa qb hxm⟩
    | 3, _ => exact ⟨241, rfl, law_3 ok F hsc h1 h2 h3 next x m qa qb hxm⟩
    | 4, _ => exact ⟨254, rfl, law_4 ok F hsc h1 h2 h3 next x m qa qb hxm⟩
    | 5, _ => exact ⟨277, rfl, law_5 ok F hsc h1 h2 h3 next x m qa qb hxm⟩
    | 6, _ => exact ⟨310, rfl, law_6 ok F hsc h1 h2 h3 next x m qa qb hxm⟩
    | 7, _ => exact ⟨343, rfl, law_7 ok F hsc h1 h2 h3 next x m qa qb hxm⟩
    | 8, _ => exact ⟨376, rfl, law_8 ok F hsc h1 h2 h3 next x m qa qb hxm⟩
    | 9, _ => exact ⟨399, rfl, law_9 ok F hsc h1 h2 h3 next x m qa qb hxm⟩
    | 10, _ => exact ⟨448, rfl, law_10 ok F hsc h1 h2 h3 next x m qa qb hxm⟩
    | 11, _ => exact ⟨471, rfl, law_11 ok F hsc h1 h2 h3 next x m qa qb hxm⟩
    | 12, _ => exact ⟨504, rfl, law_12 ok F hsc h1 h2 h3 next x m qa qb hxm⟩
    | 13, _ => exact ⟨517, rfl, law_13 ok F hsc h1 h2 h3 next x m qa qb hxm⟩
    | 14, _ => exact ⟨550, rfl, law_14 ok F hsc h1 h2 h3 next x m qa qb hxm⟩
    | 15, _ => exact ⟨573, rfl, law_15 ok F hsc h1 h2 h3 next x m qa qb hxm⟩
    | 16, _ => exact ⟨596, rfl, law_16 ok F hsc h1 h2 h3 next x m qa qb hxm⟩
    | 17, _ => exact ⟨619, rfl, law_17 ok F hsc h1 h2 h3 next x m qa qb hxm⟩
    | 18, _ => exact ⟨652, rfl, law_18 ok F hsc h1 h2 h3 next x m qa qb hxm⟩
    | 19, _ => exact ⟨675, rfl, law_19 ok F hsc h1 h2 h3 next x m qa qb hxm⟩
    | 20, _ => exact ⟨708, rfl, law_20 ok F hsc h1 h2 h3 next x m qa qb hxm⟩
    | 21, _ => exact ⟨731, rfl, law_21 ok F hsc h1 h2 h3 next x m qa qb hxm⟩
    | 22, _ => exact ⟨754, rfl, law_22 ok F hsc h1 h2 h3 next x m qa qb hxm⟩
    | 23, _ => exact ⟨787, rfl, law_23 ok F hsc h1 h2 h3 next x m qa qb hxm⟩
    | 24, _ => exact ⟨810, rfl, law_24 ok F hsc h1 h2 h3 next x m qa qb hxm⟩
    | 25, _ => exact ⟨833, rfl, law_25 ok F hsc h1 h2 h3 next x m qa qb hxm⟩
    | j + 26, hj => exact absurd hj (by omega)
/-- from the law's entry, over a relation that every call keeps -/
theorem whole_walk {R : Cst → Ob → Prop} (ok : LawOK R) (h0 : R ⟨si oz 11 (-1), oz, oz, oz, oz, oS0, oz, oz, oz, oz, oS0, oS0, oz, oz⟩ (si oz 23 (-1))) {p : Program} {e : Env} {s : State} {m : MethodId} {below : List Frame} {meth : Method} {c : Code} (l : Launch) {b L : Nat} {xs : Nat → Int32} (hL : L ≤ 2048) (C0 : lw_At p s m meth c b L xs) : W p l e room_1 s m #[Value.ref b] below meth c s.heap [] 0 0 (lw_Z below #[Value.ref b] s) (entryFrame m ([Value.ref b] : List Value).toArray 4) := by
  obtain ⟨hx, hb, hr, hml, hown, hts, hX, hbl, hlocks, hgv⟩ := C0
  obtain ⟨D, tA, hK, hG, hCx⟩ := law_facts hts hgv
  have F : zI l D tA RL cL_law 4 room_1 (((p, l, e, room_1, s, m), (#[Value.ref b], below, meth, c, lw_Z below #[Value.ref b] s), (fun q : Nat => s.heap.size ≤ q), s.heap) : ZX) := ⟨⟨hx, hb, hown, fun w hw => hts w (zT_of hw).1, hK, fun q h => h, hml, rfl, rfl, rfl, hG, rfl⟩, fun h => absurd rfl h, rfl, rfl, hCx⟩
  have hsc : zSc (((p, l, e, room_1, s, m), (#[Value.ref b], below, meth, c, lw_Z below #[Value.ref b] s), (fun q : Nat => s.heap.size ≤ q), s.heap) : ZX) b L xs := ⟨hX, hbl, Nat.not_le.mpr hbl⟩
  have hend : ∀ (H : Heap) (locs : List Loc) (ls : Array Slot), va_S (fun q : Nat => s.heap.size ≤ q) s.heap H locs → W p l e room_1 s m #[Value.ref b] below meth c H locs 137 24829 (lw_Z below #[Value.ref b] s) (F0 m 863 ls [.int 1]) := by
    intro H locs ls hS
    refine va_forget (fun q hq => hS.2.2 q hq) ?_
    refine W.widen (k := 600000) (n := 7302250) (Nat.le_of_ble_eq_true rfl) (Nat.le_of_ble_eq_true rfl) ?_
    exact lw_ret hx hb hr hlocks dL_law_863
  have loop := law_loop ok F hsc hL hend (L + 1) 0 (Nat.zero_le L) (by omega)
  rw [lg_entry_eq]
  have hl := zh_ent (vs := [Value.ref b]) (n := 4) (Nat.le_of_ble_eq_true rfl)
  refine (?_ : zZ (((p, l, e, room_1, s, m), (#[Value.ref b], below, meth, c, lw_Z below #[Value.ref b] s), (fun q : Nat => s.heap.size ≤ q), s.heap) : ZX) D 0 0 [] 0 [some (.ref b), none, none, none] []) s.heap [] _ (fun k q h => by simp at h) ⟨fun i j p q h => by simp at h, fun k q h => by simp at h⟩ va_S.rf hl
  refine i_new (N := 12) (ci := 10) (fs := [.null, .null, .null, .null, .null, .null, .null, .null, .null, .null, .null, .int 0]) (pc := 0) F dL_law_0 rfl zin_X10 tyX10_ok kN_L_7 (fun j hj => by rcases (show j = 0 ∨ j = 1 ∨ j = 2 ∨ j = 3 ∨ j = 4 ∨ j = 5 ∨ j = 6 ∨ j = 7 ∨ j = 8 ∨ j = 9 ∨ j = 10 ∨ j = 11 by omega) with rfl | rfl | rfl | rfl | rfl | rfl | rfl | rfl | rfl | rfl | rfl | rfl <;> rfl) ⟨Nat.le_of_ble_eq_true rfl, Nat.le_of_ble_eq_true rfl⟩ (fun q1 => ?_)
  refine i_dup (pc := 3) F dL_law_3 rfl ?_
  refine i_callI (lv := [some (.ref b), none, none, none]) (cs := 1) (sl := 12) (wr := []) (w1 := fun q => WH tA q (si oz 11 (-1)) oz oz oz oz oS0 oz oz oz oz oS0 oS0 oz oz) (As := []) (st := [.ref q1]) (pc := 4) F (c_X10_init q1) dL_law_4 kI_L_9 ⟨Nat.le_of_ble_eq_true rfl, Nat.le_of_ble_eq_true rfl⟩ rfl rfl rfl (Nat.le_of_ble_eq_true rfl) ⟨Nat.le_of_ble_eq_true rfl, Nat.le_of_ble_eq_true rfl⟩ (fun u1 hu1 => ?_)
  subst hu1
  refine i_astore_n (lv' := [some (.ref b), some (.ref (u1 0)), none, none]) (pc := 7) F dL_law_7 (Nat.le_of_ble_eq_true rfl) rfl rfl ?_
  refine i_new (N := 53) (ci := 11) (fs := [.int 0, .null, .null, .null, .int 0, .null, .null, .null, .int 0, .null, .null, .null, .null, .int 0, .int 0, .null, .null, .null, .null, .null, .int 0, .null, .int 0, .int 0, .int 0, .long 0, .int 0, .int 0, .int 0, .int 0, .null, .null, .null, .int 0, .null, .null, .null, .int 0, .null, .null, .int 0, .null, .null, .null, .null, .null, .null, .null, .null, .null, .null, .null, .null]) (pc := 8) F dL_law_8 rfl zin_X11 tyX11_ok kN_L_10 (fun j hj => by rcases (show j = 0 ∨ j = 1 ∨ j = 2 ∨ j = 3 ∨ j = 4 ∨ j = 5 ∨ j = 6 ∨ j = 7 ∨ j = 8 ∨ j = 9 ∨ j = 10 ∨ j = 11 ∨ j = 12 ∨ j = 13 ∨ j = 14 ∨ j = 15 ∨ j = 16 ∨ j = 17 ∨ j = 18 ∨ j = 19 ∨ j = 20 ∨ j = 21 ∨ j = 22 ∨ j = 23 ∨ j = 24 ∨ j = 25 ∨ j = 26 ∨ j = 27 ∨ j = 28 ∨ j = 29 ∨ j = 30 ∨ j = 31 ∨ j = 32 ∨ j = 33 ∨ j = 34 ∨ j = 35 ∨ j = 36 ∨ j = 37 ∨ j = 38 ∨ j = 39 ∨ j = 40 ∨ j = 41 ∨ j = 42 ∨ j = 43 ∨ j = 44 ∨ j = 45 ∨ j = 46 ∨ j = 47 ∨ j = 48 ∨ j = 49 ∨ j = 50 ∨ j = 51 ∨ j = 52 by omega) with rfl | rfl | rfl | rfl | rfl | rfl | rfl | rfl | rfl | rfl | rfl | rfl | rfl | rfl | rfl | rfl | rfl | rfl | rfl | rfl | rfl | rfl | rfl | rfl | rfl | rfl | rfl | rfl | rfl | rfl | rfl | rfl | rfl | rfl | rfl | rfl | rfl | rfl | rfl | rfl | rfl | rfl | rfl | rfl | rfl | rfl | rfl | rfl | rfl | rfl | rfl | rfl | rfl <;> rfl) ⟨Nat.le_of_ble_eq_true rfl, Nat.le_of_ble_eq_true rfl⟩ (fun q2 => ?_)
  refine i_dup (pc := 11) F dL_law_11 rfl ?_
  refine i_callI (lv := [some (.ref b), some (.ref (u1 0)), none, none]) (cs := 101) (sl := 9009) (wr := WH tA u1 (si oz 11 (-1)) oz oz oz oz oS0 oz oz oz oz oS0 oS0 oz oz) (w1 := fun q => WM tA q (si oz 23 (-1))) (As := []) (st := [.ref q2]) (pc := 12) F (c_X11_init q2) dL_law_12 kI_L_12 ⟨Nat.le_of_ble_eq_true rfl, Nat.le_of_ble_eq_true rfl⟩ rfl rfl rfl (Nat.le_of_ble_eq_true rfl) ⟨Nat.le_of_ble_eq_true rfl, Nat.le_of_ble_eq_true rfl⟩ (fun u2 hu2 => ?_)
  subst hu2
  refine i_astore_n (lv' := [some (.ref b), some (.ref (u1 0)), some (.ref (u2 0)), none]) (pc := 15) F dL_law_15 (Nat.le_of_ble_eq_true rfl) rfl rfl ?_
  refine i_iconst (v := 0) (pc := 16) F dL_law_16 rfl ?_
  refine i_istore_n (lv' := [some (.ref b), some (.ref (u1 0)), some (.ref (u2 0)), some (.int (Int32.ofNat 0))]) (pc := 17) F dL_law_17 (Nat.le_of_ble_eq_true rfl) rfl rfl ?_
  exact loop _ _ u1 u2 h0
end LAW2
