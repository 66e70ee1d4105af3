section LAW0
theorem kY_0 : Cond.instantiable RX0 2 ∈ lw_tbl := List.mem_of_getElem? (i := 395) (by decide +kernel)
theorem kY_1 : Cond.instantiable RX1 12 ∈ lw_tbl := List.mem_of_getElem? (i := 313) (by decide +kernel)
theorem kY_2 : Cond.instantiable RX2 8 ∈ lw_tbl := List.mem_of_getElem? (i := 146) (by decide +kernel)
theorem kY_3 : Cond.instantiable RX3 5 ∈ lw_tbl := List.mem_of_getElem? (i := 360) (by decide +kernel)
theorem kY_4 : Cond.instantiable RX4 5 ∈ lw_tbl := List.mem_of_getElem? (i := 200) (by decide +kernel)
theorem kY_5 : Cond.instantiable RX5 5 ∈ lw_tbl := List.mem_of_getElem? (i := 116) (by decide +kernel)
theorem kY_6 : Cond.instantiable RX6 10 ∈ lw_tbl := List.mem_of_getElem? (i := 223) (by decide +kernel)
theorem kY_7 : Cond.instantiable RX7 2 ∈ lw_tbl := List.mem_of_getElem? (i := 99) (by decide +kernel)
theorem kY_8 : Cond.instantiable RX8 2 ∈ lw_tbl := List.mem_of_getElem? (i := 382) (by decide +kernel)
theorem kY_9 : Cond.instantiable RX9 3 ∈ lw_tbl := List.mem_of_getElem? (i := 140) (by decide +kernel)
theorem kY_10 : Cond.instantiable RX10 12 ∈ lw_tbl := List.mem_of_getElem? (i := 91) (by decide +kernel)
theorem kY_11 : Cond.instantiable RX11 53 ∈ lw_tbl := List.mem_of_getElem? (i := 980) (by decide +kernel)
theorem kW_int : Cond.arrayClass .int ∈ lw_tbl := List.mem_of_getElem? (i := 198) (by decide +kernel)
theorem kW_long : Cond.arrayClass .long ∈ lw_tbl := List.mem_of_getElem? (i := 357) (by decide +kernel)
theorem kW_boolean : Cond.arrayClass .boolean ∈ lw_tbl := List.mem_of_getElem? (i := 358) (by decide +kernel)
theorem kW_byte : Cond.arrayClass .byte ∈ lw_tbl := List.mem_of_getElem? (i := 114) (by decide +kernel)
theorem kW_o : Cond.arrayOver (.object "HalvedProof$State") ∈ lw_tbl := List.mem_of_getElem? (i := 410) (by decide +kernel)
theorem kW_ii : Cond.arrayOver (.array .int) ∈ lw_tbl := List.mem_of_getElem? (i := 229) (by decide +kernel)
theorem kW_ll : Cond.arrayOver (.array .long) ∈ lw_tbl := List.mem_of_getElem? (i := 319) (by decide +kernel)
theorem kW_cs : Cond.laysStatic "java/lang/String" "COMPACT_STRINGS" "Z" ∈ lw_tbl := List.mem_of_getElem? (i := 509) (by decide +kernel)
theorem kW_pr : Cond.laysStatic "jdk/internal/util/Preconditions" "SIOOBE_FORMATTER" "Ljava/util/function/BiFunction;" ∈ lw_tbl := List.mem_of_getElem? (i := 525) (by decide +kernel)
theorem kW_csi : Cond.initialized "java/lang/String" ∈ lw_tbl := List.mem_of_getElem? (i := 83) (by decide +kernel)
theorem kW_pri : Cond.initialized "jdk/internal/util/Preconditions" ∈ lw_tbl := List.mem_of_getElem? (i := 85) (by decide +kernel)
theorem kW_n0 : Cond.methodLinkNest "HalvedProof" 9 ⟨"HalvedProof$Text", "<init>", "()V"⟩ "HalvedProof" ∈ lw_tbl := List.mem_of_getElem? (i := 100) (by decide +kernel)
theorem kW_n1 : Cond.methodLinkNest "HalvedProof" 27 ⟨"HalvedProof$Trial", "<init>", "()V"⟩ "HalvedProof" ∈ lw_tbl := List.mem_of_getElem? (i := 141) (by decide +kernel)
theorem kW_n2 : Cond.methodLinkNest "HalvedProof$Trial" 11 ⟨"HalvedProof$Court", "<init>", "()V"⟩ "HalvedProof" ∈ lw_tbl := List.mem_of_getElem? (i := 147) (by decide +kernel)
theorem kW_n3 : Cond.methodLinkNest "HalvedProof$Trial" 20 ⟨"HalvedProof$Laws", "<init>", "()V"⟩ "HalvedProof" ∈ lw_tbl := List.mem_of_getElem? (i := 201) (by decide +kernel)
theorem kW_n4 : Cond.methodLinkNest "HalvedProof" 57 ⟨"HalvedProof$Books", "<init>", "()V"⟩ "HalvedProof" ∈ lw_tbl := List.mem_of_getElem? (i := 396) (by decide +kernel)
theorem kW_n5 : Cond.methodLinkNest "HalvedProof" 75 ⟨"HalvedProof$Court", "<init>", "()V"⟩ "HalvedProof" ∈ lw_tbl := List.mem_of_getElem? (i := 413) (by decide +kernel)
theorem kW_n6 : Cond.methodLinkNest "HalvedProof" 82 ⟨"HalvedProof$Laws", "<init>", "()V"⟩ "HalvedProof" ∈ lw_tbl := List.mem_of_getElem? (i := 415) (by decide +kernel)
theorem kW_s0 : Cond.stringRef "HalvedProof$Court" 47 "suit" ∈ lw_tbl := List.mem_of_getElem? (i := 487) (by decide +kernel)
theorem kW_s1 : Cond.stringRef "HalvedProof$Court" 57 "witness" ∈ lw_tbl := List.mem_of_getElem? (i := 579) (by decide +kernel)
theorem kW_s2 : Cond.stringRef "HalvedProof$Court" 73 "on" ∈ lw_tbl := List.mem_of_getElem? (i := 574) (by decide +kernel)
theorem kW_s3 : Cond.stringRef "HalvedProof$Court" 94 "sworn" ∈ lw_tbl := List.mem_of_getElem? (i := 598) (by decide +kernel)
theorem kW_s4 : Cond.stringRef "HalvedProof$Court" 96 "copied" ∈ lw_tbl := List.mem_of_getElem? (i := 599) (by decide +kernel)
theorem kW_s5 : Cond.stringRef "HalvedProof$Court" 98 "shown" ∈ lw_tbl := List.mem_of_getElem? (i := 600) (by decide +kernel)
theorem kW_s6 : Cond.stringRef "HalvedProof$Court" 100 "against" ∈ lw_tbl := List.mem_of_getElem? (i := 601) (by decide +kernel)
theorem kW_s7 : Cond.stringRef "HalvedProof$Laws" 38 "from" ∈ lw_tbl := List.mem_of_getElem? (i := 619) (by decide +kernel)
theorem zao_spec {args : Array Value} {first s : State} {o : Option Outcome} {idx : List Nat} {t : FieldType} (h : (Cond.arrayOver (.array t)).holds args first o s idx = true) : ∃ comp c k, s.vm.findClass (FieldType.array t).toString = some comp ∧ s.vm.classes[c]? = some k ∧ k.kind = .array comp (.array t) ∧ s.vm.findClass ("[" ++ (FieldType.array t).toString) = some c := by
  simp only [Cond.holds, Cond.value, beq_iff_eq] at h
  cases hc : s.vm.findClass (FieldType.array t).toString with
  | none => simp [hc] at h
  | some comp =>
    simp only [hc, Option.bind_some, Option.bind_eq_some_iff, Option.map_eq_some_iff] at h
    obtain ⟨c, hi, k, hk, hb⟩ := h
    obtain ⟨hlt, hp, -⟩ := Array.findIdx?_eq_some_iff_getElem.mp hi
    have hkk : s.vm.classes[c] = k := (Array.getElem?_eq_some_iff.mp hk).2
    rw [hkk] at hp
    cases hkind : k.kind with
    | array component ty =>
      rw [hkind] at hb hp
      simp at hb hp
      exact ⟨comp, c, k, rfl, hk, by rw [hkind, hp, hb.1], hb.2⟩
    | _ => rw [hkind] at hb; simp at hb
def ztm : Nat → Term := fun i => .string (zcon.getD i ("", 0, "", [])).1 (zcon.getD i ("", 0, "", [])).2.1
abbrev zFlat : List Cond := flatC (Cond.and given_1 narrow_1)
theorem zf_ex : ∀ i : Nat, i < 8 → Cond.exactly (ztm i) "java/lang/String" ∈ zFlat := by decide +kernel
theorem zf_co : ∀ i : Nat, i < 8 → Cond.eq (.field (ztm i) "java/lang/String" "coder" "B") (.int 0) ∈ zFlat := by decide +kernel
theorem zf_ar : ∀ i : Nat, i < 8 → Cond.arrayOf (.field (ztm i) "java/lang/String" "value" "[B") .byte ∈ zFlat := by decide +kernel
theorem zf_le : ∀ i : Nat, i < 8 → Cond.eq (.length (.field (ztm i) "java/lang/String" "value" "[B")) (.int (Int32.ofNat (zlen.getD i 0))) ∈ zFlat := by decide +kernel
theorem zf_el : ∀ i : Nat, i < 8 → ∀ j : Nat, j < zlen.getD i 0 → Cond.eq (.elem (.field (ztm i) "java/lang/String" "value" "[B") (.int (Int32.ofNat j))) (.int ((zbyt.getD i []).getD j 0)) ∈ zFlat := by decide +kernel
theorem zf_ne : ∀ i : Nat, i < 8 → ∀ j : Nat, j < 8 → i ≠ j → Cond.not (Cond.eq (ztm i) (ztm j)) ∈ zFlat ∨ Cond.not (Cond.eq (ztm j) (ztm i)) ∈ zFlat := by decide +kernel
theorem zf_cs : Cond.eq (.static "java/lang/String" "COMPACT_STRINGS" "Z") (.int 1) ∈ zFlat := by decide +kernel
theorem zf_pr : Cond.isRef (.static "jdk/internal/util/Preconditions" "SIOOBE_FORMATTER" "Ljava/util/function/BiFunction;") ∈ zFlat := by decide +kernel
theorem zlen_lt : ∀ i : Nat, i < 8 → zlen.getD i 0 < 2 ^ 31 := by decide +kernel
theorem zarr_p {s : State} {args : Array Value} {ty : FieldType} (h : (Cond.arrayClass ty).before args s = true) (hp : ty = .int ∨ ty = .long ∨ ty = .boolean ∨ ty = .byte) : ∃ c : ClassId, (ArrOfT s c ty ∧ va_RA s c ty) ∧ s.vm.findClass ("[" ++ ty.toString) = some c := by
  obtain ⟨c, k, comp, h1, h2, h3⟩ := Cond.arrayClass_spec h
  refine ⟨c, ⟨fun n z => ⟨(fun k h => by cases h), k, h2, comp, h3⟩, ?_⟩, h1⟩
  rcases hp with rfl | rfl | rfl | rfl <;> exact h1
theorem law_facts {args : Array Value} {s : State} (hts : ∀ w ∈ lw_tbl, w.before args s = true) (hgv : (Cond.and given_1 narrow_1).before args s = true) : ∃ (D : va_G) (tA : Nat → ClassId), va_K D classes (zt tA) s ∧ zG tA (fun q : Nat => s.heap.size ≤ q) s s.heap ∧ zCx tA s := by
  have hs := flat_of_before _ hgv
  have hA : ∀ a : Nat, a < s.heap.size → ¬ (fun q : Nat => s.heap.size ≤ q) a := fun a h => Nat.not_le.mpr h
  obtain ⟨c0, j0, hk0⟩ := u_known (C := RX0) (T := TX0) (N := 2) hts (fun w hw => (zT_of (zin_X0 w hw)).1) (hts _ kY_0)
  obtain ⟨c1, j1, hk1⟩ := u_known (C := RX1) (T := TX1) (N := 12) hts (fun w hw => (zT_of (zin_X1 w hw)).1) (hts _ kY_1)
  obtain ⟨c2, j2, hk2⟩ := u_known (C := RX2) (T := TX2) (N := 8) hts (fun w hw => (zT_of (zin_X2 w hw)).1) (hts _ kY_2)
  obtain ⟨c3, j3, hk3⟩ := u_known (C := RX3) (T := TX3) (N := 5) hts (fun w hw => (zT_of (zin_X3 w hw)).1) (hts _ kY_3)
  obtain ⟨c4, j4, hk4⟩ := u_known (C := RX4) (T := TX4) (N := 5) hts (fun w hw => (zT_of (zin_X4 w hw)).1) (hts _ kY_4)
  obtain ⟨c5, j5, hk5⟩ := u_known (C := RX5) (T := TX5) (N := 5) hts (fun w hw => (zT_of (zin_X5 w hw)).1) (hts _ kY_5)
  obtain ⟨c6, j6, hk6⟩ := u_known (C := RX6) (T := TX6) (N := 10) hts (fun w hw => (zT_of (zin_X6 w hw)).1) (hts _ kY_6)
  obtain ⟨c7, j7, hk7⟩ := u_known (C := RX7) (T := TX7) (N := 2) hts (fun w hw => (zT_of (zin_X7 w hw)).1) (hts _ kY_7)
  obtain ⟨c8, j8, hk8⟩ := u_known (C := RX8) (T := TX8) (N := 2) hts (fun w hw => (zT_of (zin_X8 w hw)).1) (hts _ kY_8)
  obtain ⟨c9, j9, hk9⟩ := u_known (C := RX9) (T := TX9) (N := 3) hts (fun w hw => (zT_of (zin_X9 w hw)).1) (hts _ kY_9)
  obtain ⟨c10, j10, hk10⟩ := u_known (C := RX10) (T := TX10) (N := 12) hts (fun w hw => (zT_of (zin_X10 w hw)).1) (hts _ kY_10)
  obtain ⟨c11, j11, hk11⟩ := u_known (C := RX11) (T := TX11) (N := 53) hts (fun w hw => (zT_of (zin_X11 w hw)).1) (hts _ kY_11)
  obtain ⟨ta, hta, hfa⟩ := zarr_p (ty := .int) (hts _ kW_int) (by decide)
  obtain ⟨tb, htb, hfb⟩ := zarr_p (ty := .long) (hts _ kW_long) (by decide)
  obtain ⟨td, htd, hfd⟩ := zarr_p (ty := .boolean) (hts _ kW_boolean) (by decide)
  obtain ⟨te, hte, hfe⟩ := zarr_p (ty := .byte) (hts _ kW_byte) (by decide)
  obtain ⟨co, to, ko, ho1, ho2, ho3, ho4, ho5⟩ := Cond.arrayOver_spec (hts _ kW_o)
  obtain ⟨ci, ti, ki, hi1, hi2, hi3, hi4⟩ := zao_spec (hts _ kW_ii)
  obtain ⟨cl, tl, kl, hl1, hl2, hl3, hl4⟩ := zao_spec (hts _ kW_ll)
  have eci : ci = ta := Option.some.inj (hi1.symm.trans hfa)
  have ecl : cl = tb := Option.some.inj (hl1.symm.trans hfb)
  subst eci
  subst ecl
  obtain ⟨adK, adV, hstr, hev⟩ := vk_Sof (tm := ztm) (len := zlen) (byt := zbyt) (A := fun q : Nat => s.heap.size ≤ q) zlen_lt (fun i hi => hs _ (zf_ex i hi)) (fun i hi => hs _ (zf_co i hi)) (fun i hi => hs _ (zf_ar i hi)) (fun i hi => hs _ (zf_le i hi)) (fun i hi j hj => hs _ (zf_el i hi j hj)) (fun i j hi hj hij => (zf_ne i hi j hj hij).imp (hs _) (hs _)) hA
  have e1 : ∀ i : Nat, i < 8 → (fun k => if k < 100 then [ci, cl, td, te, to, ti, tl].getD k 0 else if k < 200 then adK (k - 100) else adV (k - 200)) (100 + i) = adK i := fun i hi => by
    show (if 100 + i < 100 then _ else if 100 + i < 200 then adK (100 + i - 100) else _) = _
    rw [if_neg (by omega), if_pos (by omega), Nat.add_sub_cancel_left]
  have e2 : ∀ i : Nat, i < 8 → (fun k => if k < 100 then [ci, cl, td, te, to, ti, tl].getD k 0 else if k < 200 then adK (k - 100) else adV (k - 200)) (200 + i) = adV i := fun i hi => by
    show (if 200 + i < 100 then _ else if 200 + i < 200 then _ else adV (200 + i - 200)) = _
    rw [if_neg (by omega), if_neg (by omega), Nat.add_sub_cancel_left]
  refine ⟨(fun k => [c0, c1, c2, c3, c4, c5, c6, c7, c8, c9, c10, c11].getD k 0, fun k => [j0, j1, j2, j3, j4, j5, j6, j7, j8, j9, j10, j11].getD k (fun _ => 0)), (fun k => if k < 100 then [ci, cl, td, te, to, ti, tl].getD k 0 else if k < 200 then adK (k - 100) else adV (k - 200)), ⟨fun k q hq => ?_, fun k q hq => ?_⟩, ⟨⟨fun i hi => ?_, fun i j hi hj h => ?_⟩, va_Zof (hts _ kW_cs) (hts _ kW_csi) (va_eqt (hs _ zf_cs)) hA, va_Zqof (hts _ kW_pr) (hts _ kW_pri) (hs _ zf_pr) hA, fun i c hc => ?_⟩, va_AO.of (hts _ kW_o), ⟨⟨ki, hi2, hi3⟩, kl, hl2, hl3⟩, fun w hw => ?_⟩
  · match k, hq with
    | 0, hq => cases hq; exact hk0
    | 1, hq => cases hq; exact hk1
    | 2, hq => cases hq; exact hk2
    | 3, hq => cases hq; exact hk3
    | 4, hq => cases hq; exact hk4
    | 5, hq => cases hq; exact hk5
    | 6, hq => cases hq; exact hk6
    | 7, hq => cases hq; exact hk7
    | 8, hq => cases hq; exact hk8
    | 9, hq => cases hq; exact hk9
    | 10, hq => cases hq; exact hk10
    | 11, hq => cases hq; exact hk11
    | k + 12, hq => simp [classes] at hq
  · match k, hq with
    | 0, hq => cases hq; exact hta
    | 1, hq => cases hq; exact htb
    | 2, hq => cases hq; exact htd
    | 3, hq => cases hq; exact hte
    | 4, hq => cases hq; exact ⟨fun n z => ⟨(fun k h => by cases h), ko, ho3, co, ho4⟩, ko, co, ho3, ho4, ho1, ho5⟩
    | 5, hq => cases hq; exact ⟨fun n z => ⟨(fun k h => by cases h), ki, hi2, ci, hi3⟩, hi4⟩
    | 6, hq => cases hq; exact ⟨fun n z => ⟨(fun k h => by cases h), kl, hl2, cl, hl3⟩, hl4⟩
    | k + 7, hq => simp [zt] at hq
  · have h := hstr.1 i hi
    rw [e1 i hi, e2 i hi]
    exact h
  · rw [e1 i hi, e1 j hj] at h
    exact hstr.2 i j hi hj h
  · match i, hc with
    | 0, hc => cases hc; exact vk_R.of (hts _ kW_s0) (hev 0 (by decide))
    | 1, hc => cases hc; exact vk_R.of (hts _ kW_s1) (hev 1 (by decide))
    | 2, hc => cases hc; exact vk_R.of (hts _ kW_s2) (hev 2 (by decide))
    | 3, hc => cases hc; exact vk_R.of (hts _ kW_s3) (hev 3 (by decide))
    | 4, hc => cases hc; exact vk_R.of (hts _ kW_s4) (hev 4 (by decide))
    | 5, hc => cases hc; exact vk_R.of (hts _ kW_s5) (hev 5 (by decide))
    | 6, hc => cases hc; exact vk_R.of (hts _ kW_s6) (hev 6 (by decide))
    | 7, hc => cases hc; exact vk_R.of (hts _ kW_s7) (hev 7 (by decide))
    | i + 8, hc => simp [zcon] at hc
  · have hw0 : w ∈ lw_tbl := by
      simp only [zNs, List.mem_cons, List.not_mem_nil, or_false] at hw
      rcases hw with rfl | rfl | rfl | rfl | rfl | rfl | rfl
      · exact kW_n0
      · exact kW_n1
      · exact kW_n2
      · exact kW_n3
      · exact kW_n4
      · exact kW_n5
      · exact kW_n6
    exact va_Nw.of (zNs_on w hw) (hts w hw0)
end LAW0
