theorem kF_J0_38 : Cond.fieldLink RJ0 38 "java/lang/String" "COMPACT_STRINGS" "Z" ∈ zT := zT_in (List.mem_of_getElem? (i := 508) (by decide +kernel)) rfl
theorem kF_J0_1053 : Cond.fieldLink RJ0 1053 "jdk/internal/util/Preconditions" "SIOOBE_FORMATTER" "Ljava/util/function/BiFunction;" ∈ zT := zT_in (List.mem_of_getElem? (i := 524) (by decide +kernel)) rfl
theorem kF_J0_9 : Cond.fieldLink RJ0 9 "java/lang/String" "value" "[B" ∈ zT := zT_in (List.mem_of_getElem? (i := 1464) (by decide +kernel)) rfl
theorem kF_J0_15 : Cond.fieldLink RJ0 15 "java/lang/String" "coder" "B" ∈ zT := zT_in (List.mem_of_getElem? (i := 1465) (by decide +kernel)) rfl
theorem kM_J0_335 : zMv RJ0 335 yJ0_coder_7d493 cJ0_coder_7d493 1 (some .byte) 0 := ⟨zT_in (List.mem_of_getElem? (i := 504) (by decide +kernel)) rfl, zT_in (List.mem_of_getElem? (i := 505) (by decide +kernel)) rfl, zT_in (List.mem_of_getElem? (i := 506) (by decide +kernel)) rfl, zT_in (List.mem_of_getElem? (i := 83) (by decide +kernel)) rfl, zT_in (List.mem_of_getElem? (i := 507) (by decide +kernel)) rfl, by decide +kernel, by decide +kernel⟩
theorem kM_J0_492 : zMv RJ0 492 yJ0_isLatin1_aae02 cJ0_isLatin1_aae02 1 (some .boolean) 0 := ⟨zT_in (List.mem_of_getElem? (i := 514) (by decide +kernel)) rfl, zT_in (List.mem_of_getElem? (i := 515) (by decide +kernel)) rfl, zT_in (List.mem_of_getElem? (i := 516) (by decide +kernel)) rfl, zT_in (List.mem_of_getElem? (i := 83) (by decide +kernel)) rfl, zT_in (List.mem_of_getElem? (i := 517) (by decide +kernel)) rfl, by decide +kernel, by decide +kernel⟩
theorem kM_J0_495 : zMs RJ0 495 yJ1_charAt_3b067 cJ1_charAt_3b067 2 (some .char) 2 := ⟨zT_in (List.mem_of_getElem? (i := 518) (by decide +kernel)) rfl, zT_in (List.mem_of_getElem? (i := 519) (by decide +kernel)) rfl, zT_in (List.mem_of_getElem? (i := 84) (by decide +kernel)) rfl, zT_in (List.mem_of_getElem? (i := 520) (by decide +kernel)) rfl, by decide +kernel, by decide +kernel⟩
theorem kM_J1_9 : zMs RJ1 9 yJ0_checkIndex_df160 cJ0_checkIndex_df160 2 none 2 := ⟨zT_in (List.mem_of_getElem? (i := 521) (by decide +kernel)) rfl, zT_in (List.mem_of_getElem? (i := 522) (by decide +kernel)) rfl, zT_in (List.mem_of_getElem? (i := 83) (by decide +kernel)) rfl, zT_in (List.mem_of_getElem? (i := 523) (by decide +kernel)) rfl, by decide +kernel, by decide +kernel⟩
theorem kM_J0_1059 : zMs RJ0 1059 yJ3_checkIndex_8e157 cJ3_checkIndex_8e157 3 (some .int) 3 := ⟨zT_in (List.mem_of_getElem? (i := 526) (by decide +kernel)) rfl, zT_in (List.mem_of_getElem? (i := 527) (by decide +kernel)) rfl, zT_in (List.mem_of_getElem? (i := 85) (by decide +kernel)) rfl, zT_in (List.mem_of_getElem? (i := 528) (by decide +kernel)) rfl, by decide +kernel, by decide +kernel⟩
section ZTX
variable {l : Launch} {D : va_G} {tA : Nat → ClassId} {own : String} {cc : ByteArray} {nL : Nat} {rm : Room} {X : ZX} {α β : Type} {out : α} {o o1 o2 : Option α} {ws ws' : va_W} {pc : Nat} {lv lv' : List (Option Value)} {st : List Value} {cA : ClassId} {n : Nat} {a : Addr}
theorem zF.g (F : zF l D tA own cc nL rm X) {H : Heap} {locs : List Loc} (hS : va_S (zA X) (zH X) H locs) : zG tA (zA X) (zs X) (zs X).heap ∧ va_S (zA X) (zs X).heap H locs := by
  have e := F.2.2.2.2.2.2.2.2.2.2.2
  have g := F.2.2.2.2.2.2.2.2.2.2.1
  rw [e] at g hS
  exact ⟨g, hS⟩
theorem y_sval (F : zF l D tA own cc nL rm X) {i ix : Nat} (hi : i < 8) (d : decode cc pc = .ok (.getfield ix, 3)) (w : Cond.fieldLink own ix "java/lang/String" "value" "[B" ∈ zT) (k : zY X D out o ws (pc + 3) lv (.ref (tA (200 + i)) :: st)) : zY X D out o ws pc lv (.ref (tA (100 + i)) :: st) :=
  fun h H locs ls hP hD hS hl => vk_getf F.1 F.2.1 ((F.g hS).1.1.1 i hi).2.2.1 (F.g hS).2 F.2.2.1 (F.2.2.2.1 _ w) (fun _ h => h) d (k h H locs ls hP hD hS hl)
theorem y_scod (F : zF l D tA own cc nL rm X) {i ix : Nat} (hi : i < 8) (d : decode cc pc = .ok (.getfield ix, 3)) (w : Cond.fieldLink own ix "java/lang/String" "coder" "B" ∈ zT) (k : zY X D out o ws (pc + 3) lv (.int 0 :: st)) : zY X D out o ws pc lv (.ref (tA (100 + i)) :: st) :=
  fun h H locs ls hP hD hS hl => vk_getf F.1 F.2.1 ((F.g hS).1.1.1 i hi).2.1 (F.g hS).2 F.2.2.1 (F.2.2.2.1 _ w) (fun _ h => h) d (k h H locs ls hP hD hS hl)
theorem y_svlen (F : zF l D tA own cc nL rm X) {i : Nat} (hi : i < 8) (d : decode cc pc = .ok (.arraylength, 1)) (k : zY X D out o ws (pc + 1) lv (.int (nI (zlen.getD i 0)) :: st)) : zY X D out o ws pc lv (.ref (tA (200 + i)) :: st) :=
  fun h H locs ls hP hD hS hl => va_tlen F.1 F.2.1 ((F.g hS).1.1.1 i hi).2.2.2 (F.g hS).2 rfl d (k h H locs ls hP hD hS hl)
theorem y_svld (F : zF l D tA own cc nL rm X) {i : Nat} {j : Int32} (hi : i < 8) (hj : vp_in j (zlen.getD i 0)) (d : decode cc pc = .ok (.baload, 1)) (k : zY X D out o ws (pc + 1) lv (.int ((zbyt.getD i []).getD j.toNatClampNeg 0) :: st)) : zY X D out o ws pc lv (.int j :: .ref (tA (200 + i)) :: st) :=
  fun h H locs ls hP hD hS hl => va_tb F.1 F.2.1 ((F.g hS).1.1.1 i hi).2.2.2 (F.g hS).2 hj rfl d (k h H locs ls hP hD hS hl)
theorem y_scomp (F : zF l D tA own cc nL rm X) {ix : Nat} (d : decode cc pc = .ok (.getstatic ix, 3)) (w : Cond.fieldLink own ix "java/lang/String" "COMPACT_STRINGS" "Z" ∈ zT) (k : zY X D out o ws (pc + 3) lv (.int 1 :: st)) : zY X D out o ws pc lv st :=
  fun h H locs ls hP hD hS hl => va_gets F.1 F.2.1 (F.g hS).1.2.1 (F.g hS).2 F.2.2.1 (F.2.2.2.1 _ w) (fun _ h => h) d (k h H locs ls hP hD hS hl)
theorem y_sfmt (F : zF l D tA own cc nL rm X) {ix : Nat} (d : decode cc pc = .ok (.getstatic ix, 3)) (w : Cond.fieldLink own ix "jdk/internal/util/Preconditions" "SIOOBE_FORMATTER" "Ljava/util/function/BiFunction;" ∈ zT) (k : ∀ r : Option Nat, zY X D out o ws (pc + 3) lv (va_rf r :: st)) : zY X D out o ws pc lv st := by
  intro h H locs ls hP hD hS hl
  rcases (F.g hS).1.2.2.1 with hz | ⟨t, hz⟩
  · exact va_gets F.1 F.2.1 hz (F.g hS).2 F.2.2.1 (F.2.2.2.1 _ w) (fun _ h => h) d (k none h H locs ls hP hD hS hl)
  · exact va_gets F.1 F.2.1 hz (F.g hS).2 F.2.2.1 (F.2.2.2.1 _ w) (fun _ h => h) d (k (some t) h H locs ls hP hD hS hl)
theorem y_ldcS (F : zF l D tA own cc nL rm X) {i ix : Nat} {c : String × Nat × String × List Int32} (hc : zcon[i]? = some c) (ho : own = c.1 ∧ ix = c.2.1) (d : decode cc pc = .ok (.ldc ix, 2)) (k : zY X D out o ws (pc + 2) lv (.ref (tA (100 + i)) :: st)) : zY X D out o ws pc lv st := by
  intro h H locs ls hP hD hS hl
  have hR := (F.g hS).1.2.2.2 i c hc
  rw [← ho.1, ← ho.2] at hR
  exact va_ldcS F.1 F.2.1 F.2.2.1 hR d (k h H locs ls hP hD hS hl)
theorem y_i2c (F : zF l D tA own cc nL rm X) {x : Int32} (d : decode cc pc = .ok (.i2c, 1)) (k : zY X D out o ws (pc + 1) lv (.int ((x.toUInt32 % 65536).toInt32) :: st)) : zY X D out o ws pc lv (.int x :: st) :=
  fun h H locs ls hP hD hS hl => lv_i2c F.1 F.2.1 d rfl (k h H locs ls hP hD hS hl)
theorem y_tret {ty : FieldType} {rr : α → Int32} {w1 : α → va_W} {out' : α} {v : Int32} (hr : zRi X D cc ty rr w1 out) (d : decode cc pc = .ok (.ireturn, 1)) (hn : narrow ty (.int v) = .int v) (hv : v = rr out') (hw : ws = w1 out') : zY X D out (some out') ws pc lv [.int v] := by
  intro h H locs ls hP hD hS hl
  have h := Option.some.inj h
  rw [h] at hv hw
  rw [hw] at hP hD
  rw [hv] at hn ⊢
  exact hr hn H locs pc ls d hP hD hS
theorem y_callS (F : zF l D tA own cc nL rm X) {i ix nY np : Nat} {y : MethodName} {bY : ByteArray} {ty : FieldType} {rmY : Room} {rr : β → Int32} {oc : Option β} {kf : β → Option α} {As : List Value} (hi : i < 8) (hcon : zCi l D tA y bY nY ty rmY (.ref (tA (100 + i)) :: As) [] rr (fun _ => []) oc) (d : decode cc pc = .ok (.invokevirtual ix, 3)) (cw : zMv own ix y bY nY (some ty) np)
    (h0 : rmY.cells = 0 ∧ rmY.slots = 0) (hR : rmY.frames + 1 ≤ rm.frames ∧ 8 + (nY + 11) + rmY.locals ≤ rm.locals) (hlen : As.length = np) (hnL : lv.length = nL) {stk : List Value} (hst : stk = As.reverse ++ .ref (tA (100 + i)) :: st) (hcat : (st.map fun v => v.category).sum ≤ 8) (hy : y.cls = "java/lang/String")
    (kk : ∀ r : β, zY X D out (kf r) ws (pc + 3) lv (.int (rr r) :: st)) : zY X D out (oc.bind kf) ws pc lv stk := by
  intro h H locs ls hP hD hS hl
  subst hst
  have ez : zl X = l := F.2.2.2.2.2.2.2.1
  subst ez
  cases hoc : oc with
  | none => rw [hoc] at h; cases h
  | some r =>
    rw [hoc] at h
    have h : kf r = some out := h
    have hF : ∀ q : Nat, va_A [] H.size q → zA X q := fun q h => by
      rcases h with ⟨k, e, h⟩ | h
      · simp at h
      · exact F.2.2.2.2.2.1 q (Nat.le_trans hS.1 h)
    refine va_calli (va_runV (As := As) (rest := st) (g := F0 (zm X) pc ls (As.reverse ++ .ref (tA (100 + i)) :: st)) (Ts := zT) (C := y.cls) ⟨F.1, F.2.1, rfl, F.2.2.1, F.2.2.2.1⟩ (hcon r hoc H.size) ⟨zcallB F cw.1 cw.2.2.2.1 cw.2.2.2.2.1 cw.2.2.2.2.2.1 cw.2.2.2.2.2.2 h0 hR, F.2.2.2.1 _ cw.2.1, F.2.2.2.1 _ cw.2.2.1⟩ ⟨zblind, by rw [hy]; exact vk_recv (adK := fun i => tA (100 + i)) (F.g hS).1.1 hi (F.g hS).2, zpreV (is := []) F hP hD rfl rfl hS hF⟩ rfl hlen (hl.1.trans (hnL.trans F.2.2.2.2.2.2.1.symm)) rfl (lv_room hcat) d ⟨Nat.zero_le _, Nat.zero_le _⟩) hS (fun q _ h => hF q h) hF (fun r1 u t H1 locs1 ht hvm hw hB hz1 hk1 hS1 => ?_)
    obtain ⟨hP1, hD1⟩ := hB
    rw [ht] at hP1
    obtain ⟨hPj, hDj⟩ := zjoin (is := []) hP hD rfl hk1 hP1 rfl zCh_nil
    rw [hw]
    exact kk r h H1 locs1 ls hPj hDj hS1 hl
abbrev rmJ_0 : Room := { frames := 0, cells := 0, slots := 0, locals := 0 }
abbrev rmJ_1 : Room := { frames := 1, cells := 0, slots := 0, locals := 30 }
abbrev rmJ_2 : Room := { frames := 2, cells := 0, slots := 0, locals := 60 }
abbrev rmJ_3 : Room := { frames := 3, cells := 0, slots := 0, locals := 90 }
theorem c_coder (i : Nat) (hi : i < 8) : zCi l D tA yJ0_coder_7d493 cJ0_coder_7d493 1 .byte rmJ_0 [.ref (tA (100 + i))] [] (fun (r : Int32) => r) (fun _ => []) (some 0) := by
  refine zCi_of (lv0 := [some (.ref (tA (100 + i)))]) (by decide +kernel) (Nat.le_of_ble_eq_true rfl) rfl (fun X out F hr => ?_)
  refine y_scomp (pc := 0) F dJ0_coder_7d493_0 kF_J0_38 ?_
  refine y_mono (o' := if (1 : Int32) = 0 then none else some 0) (fun h => h) ?_
  refine y_if_eq (pc := 3) (tgt := 13) F dJ0_coder_7d493_3 rfl y_none ?_
  refine y_aload_n (pc := 6) F dJ0_coder_7d493_6 rfl ?_
  refine y_scod (pc := 7) F hi dJ0_coder_7d493_7 kF_J0_15 ?_
  refine y_goto (pc := 10) (tgt := 14) F dJ0_coder_7d493_10 rfl ?_
  exact y_tret hr dJ0_coder_7d493_14 rfl rfl rfl
theorem c_isLatin1 (i : Nat) (hi : i < 8) : zCi l D tA yJ0_isLatin1_aae02 cJ0_isLatin1_aae02 1 .boolean rmJ_0 [.ref (tA (100 + i))] [] (fun (r : Int32) => r) (fun _ => []) (some 1) := by
  refine zCi_of (lv0 := [some (.ref (tA (100 + i)))]) (by decide +kernel) (Nat.le_of_ble_eq_true rfl) rfl (fun X out F hr => ?_)
  refine y_scomp (pc := 0) F dJ0_isLatin1_aae02_0 kF_J0_38 ?_
  refine y_mono (o' := if (1 : Int32) = 0 then none else some 1) (fun h => h) ?_
  refine y_if_eq (pc := 3) (tgt := 17) F dJ0_isLatin1_aae02_3 rfl y_none ?_
  refine y_aload_n (pc := 6) F dJ0_isLatin1_aae02_6 rfl ?_
  refine y_scod (pc := 7) F hi dJ0_isLatin1_aae02_7 kF_J0_15 ?_
  refine y_mono (o' := if (0 : Int32) = 0 then some 1 else none) (fun h => h) ?_
  refine y_if_ne (pc := 10) (tgt := 17) F dJ0_isLatin1_aae02_10 rfl ?_ y_none
  refine y_iconst (v := 1) (pc := 13) F dJ0_isLatin1_aae02_13 rfl ?_
  refine y_goto (pc := 14) (tgt := 18) F dJ0_isLatin1_aae02_14 rfl ?_
  exact y_tret hr dJ0_isLatin1_aae02_18 rfl rfl rfl
theorem c_length (i : Nat) (hi : i < 8) : zCi l D tA yJ0_length_8abf5 cJ0_length_8abf5 1 .int rmJ_1 [.ref (tA (100 + i))] [] (fun (r : Int32) => r) (fun _ => []) (some (nI (zlen.getD i 0))) := by
  refine zCi_of (lv0 := [some (.ref (tA (100 + i)))]) (by decide +kernel) (Nat.le_of_ble_eq_true rfl) rfl (fun X out F hr => ?_)
  refine y_aload_n (pc := 0) F dJ0_length_8abf5_0 rfl ?_
  refine y_sval (pc := 1) F hi dJ0_length_8abf5_1 kF_J0_9 ?_
  refine y_svlen (pc := 4) F hi dJ0_length_8abf5_4 ?_
  refine y_aload_n (pc := 5) F dJ0_length_8abf5_5 rfl ?_
  refine y_mono (o' := Option.bind (some (0 : Int32)) fun (r : Int32) => if r = 0 then some (nI (zlen.getD i 0)) else none) (fun h => h) ?_
  refine y_callS (As := []) (st := [.int (nI (zlen.getD i 0))]) (pc := 6) F hi (c_coder i hi) dJ0_length_8abf5_6 kM_J0_335 ⟨rfl, rfl⟩ ⟨Nat.le_of_ble_eq_true rfl, Nat.le_of_ble_eq_true rfl⟩ rfl rfl rfl (Nat.le_of_ble_eq_true rfl) rfl (fun r => ?_)
  refine y_ifx (fun e => ?_) (fun _ => y_none)
  subst e
  refine y_ishr (pc := 9) F dJ0_length_8abf5_9 ?_
  exact y_tret hr dJ0_length_8abf5_10 rfl (sb_shr0 _) rfl
theorem c_pre (k : Int32) (m : Int32) (r : Option Nat) : zCi l D tA yJ3_checkIndex_8e157 cJ3_checkIndex_8e157 3 .int rmJ_0 [.int k, .int m, va_rf r] [] (fun (r : Int32) => r) (fun _ => []) (if k < 0 then none else if k < m then some k else none) := by
  cases r with
  | none =>
    refine zCi_of (lv0 := [some (.int k), some (.int m), some .null]) (by decide +kernel) (Nat.le_of_ble_eq_true rfl) rfl (fun X out F hr => ?_)
    refine y_iload_n (pc := 0) F dJ3_checkIndex_8e157_0 rfl ?_
    refine y_if_lt (pc := 1) (tgt := 9) F dJ3_checkIndex_8e157_1 rfl y_none ?_
    refine y_iload_n (pc := 4) F dJ3_checkIndex_8e157_4 rfl ?_
    refine y_iload_n (pc := 5) F dJ3_checkIndex_8e157_5 rfl ?_
    refine y_icmp_lt (pc := 6) (tgt := 16) F dJ3_checkIndex_8e157_6 rfl ?_ y_none
    refine y_iload_n (pc := 16) F dJ3_checkIndex_8e157_16 rfl ?_
    exact y_tret hr dJ3_checkIndex_8e157_17 rfl rfl rfl
  | some a =>
    refine zCi_of (lv0 := [some (.int k), some (.int m), some (.ref a)]) (by decide +kernel) (Nat.le_of_ble_eq_true rfl) rfl (fun X out F hr => ?_)
    refine y_iload_n (pc := 0) F dJ3_checkIndex_8e157_0 rfl ?_
    refine y_if_lt (pc := 1) (tgt := 9) F dJ3_checkIndex_8e157_1 rfl y_none ?_
    refine y_iload_n (pc := 4) F dJ3_checkIndex_8e157_4 rfl ?_
    refine y_iload_n (pc := 5) F dJ3_checkIndex_8e157_5 rfl ?_
    refine y_icmp_lt (pc := 6) (tgt := 16) F dJ3_checkIndex_8e157_6 rfl ?_ y_none
    refine y_iload_n (pc := 16) F dJ3_checkIndex_8e157_16 rfl ?_
    exact y_tret hr dJ3_checkIndex_8e157_17 rfl rfl rfl
theorem zvc_rf (r : Option Nat) : (va_rf r).category = 1 := by cases r <;> rfl
theorem c_check (k : Int32) (m : Int32) : zCv l D tA yJ0_checkIndex_df160 cJ0_checkIndex_df160 2 rmJ_1 [.int k, .int m] [] (fun (_ : Unit) => []) (if k < 0 then none else if k < m then some () else none) := by
  refine zCv_of (lv0 := [some (.int k), some (.int m)]) (by decide +kernel) (Nat.le_of_ble_eq_true rfl) rfl (fun X out F hr => ?_)
  refine y_iload_n (pc := 0) F dJ0_checkIndex_df160_0 rfl ?_
  refine y_iload_n (pc := 1) F dJ0_checkIndex_df160_1 rfl ?_
  refine y_sfmt (pc := 2) F dJ0_checkIndex_df160_2 kF_J0_1053 (fun r => ?_)
  refine y_mono (o' := Option.bind (if k < 0 then none else if k < m then some k else none) fun (_ : Int32) => some ()) (fun h => by
    by_cases h1 : k < 0
    · rw [if_pos h1] at h; cases h
    · by_cases h2 : k < m
      · rw [if_neg h1, if_pos h2]
        rfl
      · rw [if_neg h1, if_neg h2] at h; cases h) ?_
  refine y_scalliP (As := [.int k, .int m, va_rf r]) (st := []) (pc := 5) F (c_pre k m r) dJ0_checkIndex_df160_5 kM_J0_1059 ⟨rfl, rfl⟩ ⟨Nat.le_of_ble_eq_true rfl, Nat.le_of_ble_eq_true rfl⟩ rfl rfl rfl (Nat.le_of_ble_eq_true rfl) (fun r2 => ?_)
  refine y_pop (pc := 8) F dJ0_checkIndex_df160_8 rfl ?_
  exact y_vret hr dJ0_checkIndex_df160_9 rfl
/-- the char at a place of a constant -/
def zchr (i : Nat) (k : Int32) : Int32 := (zbyt.getD i []).getD k.toNatClampNeg 0 &&& 255
theorem zchr_c (i : Nat) (k : Int32) : ((zchr i k).toUInt32 % 65536).toInt32 = zchr i k := sc_c2 _
theorem zgd_if {i : Int32} {n : Nat} (hn : n < 2 ^ 31) {o : Option α} {x : α} (h : zgd i n o = some x) : (if i < 0 then none else if i < nI n then some () else none) = some () ∧ vp_in i n ∧ o = some x := by
  unfold zgd at h
  by_cases e : 0 ≤ i.toInt ∧ i.toInt < (n : Int)
  · rw [if_pos e] at h
    refine ⟨?_, zin_of e, h⟩
    rw [if_neg (by rw [Int32.lt_iff_toInt_lt, Int32.toInt_zero]; omega), if_pos (by rw [Int32.lt_iff_toInt_lt, nI_toInt hn]; omega)]
  · rw [if_neg e] at h
    cases h
theorem c_latCharAt (i : Nat) (hi : i < 8) (hn : zlen.getD i 0 < 2 ^ 31) (k : Int32) : zCi l D tA yJ1_charAt_3b067 cJ1_charAt_3b067 2 .char rmJ_2 [.ref (tA (200 + i)), .int k] [] (fun (r : Int32) => r) (fun _ => []) (zgd k (zlen.getD i 0) (some (zchr i k))) := by
  refine zCi_of (lv0 := [some (.ref (tA (200 + i))), some (.int k)]) (by decide +kernel) (Nat.le_of_ble_eq_true rfl) rfl (fun X out F hr => ?_)
  refine y_iload_n (pc := 0) F dJ1_charAt_3b067_0 rfl ?_
  refine y_aload_n (pc := 1) F dJ1_charAt_3b067_1 rfl ?_
  refine y_svlen (pc := 2) F hi dJ1_charAt_3b067_2 ?_
  refine y_mono (o' := Option.bind (if k < 0 then none else if k < nI (zlen.getD i 0) then some () else none) fun (_ : Unit) => zgd k (zlen.getD i 0) (some (zchr i k))) (fun h => by
    rw [(zgd_if hn h).1]
    exact h) ?_
  refine y_scallv (wf := fun _ => []) (As := [.int k, .int (nI (zlen.getD i 0))]) (st := []) (pc := 3) F (c_check k (nI (zlen.getD i 0))) dJ1_charAt_3b067_3 kM_J1_9 ⟨rfl, rfl⟩ ⟨Nat.le_of_ble_eq_true rfl, Nat.le_of_ble_eq_true rfl⟩ rfl rfl rfl (Nat.le_of_ble_eq_true rfl) [] rfl rfl (fun _ => rfl) (fun _ => zCh_nil) (fun _ => ?_)
  refine y_aload_n (pc := 6) F dJ1_charAt_3b067_6 rfl ?_
  refine y_iload_n (pc := 7) F dJ1_charAt_3b067_7 rfl ?_
  refine y_gd (fun hin => ?_)
  refine y_svld (pc := 8) F hi hin dJ1_charAt_3b067_8 ?_
  refine y_sipush (v := 255) (pc := 9) F dJ1_charAt_3b067_9 rfl ?_
  refine y_iand (pc := 12) F dJ1_charAt_3b067_12 ?_
  refine y_i2c (pc := 13) F dJ1_charAt_3b067_13 ?_
  exact y_tret hr dJ1_charAt_3b067_14 (by show narrow .char (.int ((zchr i k).toUInt32 % 65536).toInt32) = .int ((zchr i k).toUInt32 % 65536).toInt32; rw [zchr_c]; exact sc_nar _) (zchr_c i k) rfl
theorem c_charAt (i : Nat) (hi : i < 8) (hn : zlen.getD i 0 < 2 ^ 31) (k : Int32) : zCi l D tA yJ0_charAt_5068e cJ0_charAt_5068e 2 .char rmJ_3 [.ref (tA (100 + i)), .int k] [] (fun (r : Int32) => r) (fun _ => []) (zgd k (zlen.getD i 0) (some (zchr i k))) := by
  refine zCi_of (lv0 := [some (.ref (tA (100 + i))), some (.int k)]) (by decide +kernel) (Nat.le_of_ble_eq_true rfl) rfl (fun X out F hr => ?_)
  refine y_aload_n (pc := 0) F dJ0_charAt_5068e_0 rfl ?_
  refine y_mono (o' := Option.bind (some (1 : Int32)) fun (r : Int32) => if r = 0 then none else Option.bind (zgd k (zlen.getD i 0) (some (zchr i k))) fun (x : Int32) => if x = zchr i k then some x else none) (fun h => by
    show (if (1 : Int32) = 0 then none else _) = _
    rw [if_neg (by decide), h]
    have h2 : zchr i k = out := by
      unfold zgd at h
      by_cases e : 0 ≤ k.toInt ∧ k.toInt < (zlen.getD i 0 : Int)
      · rw [if_pos e] at h; exact Option.some.inj h
      · rw [if_neg e] at h; cases h
    show (if out = zchr i k then some out else none) = some out
    rw [if_pos h2.symm]) ?_
  refine y_callS (As := []) (st := []) (pc := 1) F hi (c_isLatin1 i hi) dJ0_charAt_5068e_1 kM_J0_492 ⟨rfl, rfl⟩ ⟨Nat.le_of_ble_eq_true rfl, Nat.le_of_ble_eq_true rfl⟩ rfl rfl rfl (Nat.le_of_ble_eq_true rfl) rfl (fun r => ?_)
  refine y_if_eq (pc := 4) (tgt := 16) F dJ0_charAt_5068e_4 rfl y_none ?_
  refine y_aload_n (pc := 7) F dJ0_charAt_5068e_7 rfl ?_
  refine y_sval (pc := 8) F hi dJ0_charAt_5068e_8 kF_J0_9 ?_
  refine y_iload_n (pc := 11) F dJ0_charAt_5068e_11 rfl ?_
  refine y_scalliP (As := [.ref (tA (200 + i)), .int k]) (st := []) (pc := 12) F (c_latCharAt i hi hn k) dJ0_charAt_5068e_12 kM_J0_495 ⟨rfl, rfl⟩ ⟨Nat.le_of_ble_eq_true rfl, Nat.le_of_ble_eq_true rfl⟩ rfl rfl rfl (Nat.le_of_ble_eq_true rfl) (fun x => ?_)
  refine y_ifx (fun e => ?_) (fun _ => y_none)
  exact y_tret hr dJ0_charAt_5068e_15 (by rw [e]; exact sc_nar _) rfl rfl
theorem zl8 (i : Nat) (hi : i < 8) : zlen.getD i 0 < 2 ^ 31 := by
  have h : ∀ i, i < 8 → zlen.getD i 0 < 2 ^ 31 := by decide +kernel
  exact h i hi
theorem y_putr (F : zF l D tA own cc nL rm X) {ix ci k N : Nat} {C : String} {T : u_T} {ty : Nat → FieldType} (d : decode cc pc = .ok (.putfield ix, 3)) (w : zFl own ix ci k C T N ty) (q0 : Nat) {fs : List Value} {v : Value} (he : ws[q0]? = some (a, .inr (ci, fs))) (hfin : (T k).2.2.2 = false) (hn : narrow (ty k) v = v) (hfit : fits (ty k) v = true) (hk : k < fs.length) {ws' : va_W} (hw : ws.set q0 (a, .inr (ci, fs.set k v)) = ws') (kk : zY X D out o ws' (pc + 3) lv st) : zY X D out o ws pc lv (v :: .ref a :: st) :=
  fun h H locs ls hP hD hS hl => va_put F.1 F.2.1 F.2.2.2.1 w.2.1 ty w.2.2.1 w.2.2.2.1 F.2.2.1 F.2.2.2.2.1 hP hD hS q0 he w.1 k w.2.2.2.2.1 (F.2.2.2.1 _ w.2.2.2.2.2) (fun _ h => h) hfin (w.2.2.1 k w.2.2.2.2.1) hn hfit hk d (fun H1 locs1 hP1 hD1 hS1 => kk h H1 locs1 ls (hw ▸ hP1) (hw ▸ hD1) hS1 hl)
theorem y_perm {ws' : va_W} (is : List Nat) (hC : is.map (fun i => ws[i]?) = ws'.map some) (hn : va_nd is = true) (k : zY X D out o ws' pc lv st) : zY X D out o ws pc lv st :=
  fun h H locs ls hP hD hS hl => k h H locs ls (hP.sub is (zmap_fm hC)) (hD.sub is hn hC) hS hl
end ZTX
