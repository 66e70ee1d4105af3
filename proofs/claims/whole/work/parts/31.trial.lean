section ZC
variable {l : Launch} {D : va_G} {tA : Nat → ClassId}
abbrev rmX9_roomOn : Room := { frames := 2, cells := 0, slots := 0, locals := 45 }
def pX9_roomOn (oc : Ob) (ow : Ob) (os : Ob) (a1 : Int32) : Option Int32 :=
  zjn (fun (x1 : Int32) =>
  Option.bind (pX4_talkersOn ow a1) fun (r2 : Int32) =>
  zlet ((if (0 : Int32) < (r2 - x1) then (r2 - x1) else (0 : Int32))) fun (x3 : Int32) =>
  some x3) fun (K22 : Int32 → Option Int32) =>
  if a1 = (gi os 0) then (K22 ((gi os 1)))
  else (K22 (0 : Int32))
set_option maxHeartbeats 4000000 in
set_option maxRecDepth 100000 in
theorem c_X9_roomOn {q : Nat → Nat} (oc : Ob) (ow : Ob) (os : Ob) (a1 : Int32) : zCi l D tA yX9_roomOn cX9_roomOn 3 .int rmX9_roomOn [.ref (q 0), .int a1] (WTr tA q oc ow os) (fun (r : Int32) => r) (fun (r : Int32) => (WTr tA q oc ow os)) (pX9_roomOn oc ow os a1) := by
  refine zCi_of (lv0 := [some (.ref (q 0)), some (.int a1), none]) (by decide +kernel) (Nat.le_of_ble_eq_true rfl) rfl (fun X out F hr => ?_)
  unfold pX9_roomOn
  refine y_iload_n (pc := 0) F dX9_roomOn_0 rfl ?_
  refine y_aload_n (pc := 1) F dX9_roomOn_1 rfl ?_
  refine y_get (pc := 2) F dX9_roomOn_2 kF_X9_28 0 WTr_at0 rfl ?_
  refine y_get (pc := 5) F dX9_roomOn_5 kF_X9_71 13 WTr_at13 rfl ?_
  refine y_jn (fun (K22 : Int32 → Option Int32) => ∀ (x1 : Int32), zY X D out (K22 x1) (WTr tA q oc ow os) 22 [some (.ref (q 0)), some (.int a1), none] [.int x1]) ?_ ?_
  · intro x1
    refine y_istore_n (lv' := [some (.ref (q 0)), some (.int a1), some (.int x1)]) (pc := 22) F dX9_roomOn_22 (Nat.le_of_ble_eq_true rfl) rfl rfl ?_
    refine y_iconst (v := 0) (pc := 23) F dX9_roomOn_23 rfl ?_
    refine y_aload_n (pc := 24) F dX9_roomOn_24 rfl ?_
    refine y_get (pc := 25) F dX9_roomOn_25 kF_X9_21 0 WTr_at0 rfl ?_
    refine y_iload_n (pc := 28) F dX9_roomOn_28 rfl ?_
    refine y_calliR (As := [.int a1]) (st := [.int (0 : Int32)]) (q0 := 8) (pc := 29) F (c_X4_talkersOn (q := zq q [8, 9, 10, 11, 12]) ow a1) dX9_roomOn_29 kM_X9_85 ⟨rfl, rfl⟩ ⟨Nat.le_of_ble_eq_true rfl, Nat.le_of_ble_eq_true rfl⟩ rfl rfl rfl (Nat.le_of_ble_eq_true rfl) rfl rfl WTr_at8 [8, 9, 10, 11, 12] zn1_c zn1_n (fun r2 => ?_)
    refine y_iload_n (pc := 32) F dX9_roomOn_32 rfl ?_
    refine y_isub (pc := 33) F dX9_roomOn_33 ?_
    refine y_mmax (pc := 34) F dX9_roomOn_34 kM_X9_88 ⟨Nat.le_of_ble_eq_true rfl, Nat.le_of_ble_eq_true rfl⟩ rfl ?_
    refine y_lti (fun x3 => ?_)
    exact y_iret hr dX9_roomOn_37 rfl rfl
  intro K22 hK22
  refine y_icmp_ne (pc := 8) (tgt := 21) F dX9_roomOn_8 rfl ?_ ?_
  · refine y_aload_n (pc := 11) F dX9_roomOn_11 rfl ?_
    refine y_get (pc := 12) F dX9_roomOn_12 kF_X9_28 0 WTr_at0 rfl ?_
    refine y_get (pc := 15) F dX9_roomOn_15 kF_X9_82 13 WTr_at13 rfl ?_
    refine y_goto (tgt := 22) (pc := 18) F dX9_roomOn_18 rfl ?_
    exact hK22 ((gi os 1))
  · refine y_iconst (v := 0) (pc := 21) F dX9_roomOn_21 rfl ?_
    exact hK22 (0 : Int32)
abbrev rmX9_goesOn : Room := { frames := 1, cells := 0, slots := 0, locals := 21 }
def pX9_goesOn (oc : Ob) (ow : Ob) (os : Ob) (a1 : Int32) : Option Int32 :=
  Option.bind (pX2_hasSuit oc a1) fun (r1 : Int32) =>
  if r1 = 0 then (zgz (0 : Int32) (some (0 : Int32)))
  else (zgd a1 6 <| if (ga os 7 (a1.toNatClampNeg)) = 0 then (zgz (1 : Int32) (some (1 : Int32)))
  else (zgz (0 : Int32) (some (0 : Int32))))
set_option maxHeartbeats 4000000 in
set_option maxRecDepth 100000 in
theorem c_X9_goesOn {q : Nat → Nat} (oc : Ob) (ow : Ob) (os : Ob) (a1 : Int32) : zCi l D tA yX9_goesOn cX9_goesOn 2 .boolean rmX9_goesOn [.ref (q 0), .int a1] (WTr tA q oc ow os) (fun (r : Int32) => r) (fun (r : Int32) => (WTr tA q oc ow os)) (pX9_goesOn oc ow os a1) := by
  refine zCi_of (lv0 := [some (.ref (q 0)), some (.int a1)]) (by decide +kernel) (Nat.le_of_ble_eq_true rfl) rfl (fun X out F hr => ?_)
  unfold pX9_goesOn
  refine y_aload_n (pc := 0) F dX9_goesOn_0 rfl ?_
  refine y_get (pc := 1) F dX9_goesOn_1 kF_X9_12 0 WTr_at0 rfl ?_
  refine y_iload_n (pc := 4) F dX9_goesOn_4 rfl ?_
  refine y_calliR (As := [.int a1]) (st := []) (q0 := 1) (pc := 5) F (c_X2_hasSuit (q := zq q [1, 2, 3, 4, 5, 6, 7]) oc a1) dX9_goesOn_5 kM_X9_32 ⟨rfl, rfl⟩ ⟨Nat.le_of_ble_eq_true rfl, Nat.le_of_ble_eq_true rfl⟩ rfl rfl rfl (Nat.le_of_ble_eq_true rfl) rfl rfl WTr_at1 [1, 2, 3, 4, 5, 6, 7] zn2_c zn2_n (fun r1 => ?_)
  refine y_if_eq (pc := 8) (tgt := 27) F dX9_goesOn_8 rfl ?_ ?_
  · refine y_iconst (v := 0) (pc := 27) F dX9_goesOn_27 rfl ?_
    exact y_zret hr dX9_goesOn_28 rfl rfl
  · refine y_aload_n (pc := 11) F dX9_goesOn_11 rfl ?_
    refine y_get (pc := 12) F dX9_goesOn_12 kF_X9_28 0 WTr_at0 rfl ?_
    refine y_get (pc := 15) F dX9_goesOn_15 kF_X9_36 13 WTr_at13 rfl ?_
    refine y_iload_n (pc := 18) F dX9_goesOn_18 rfl ?_
    refine y_iald (pc := 19) F dX9_goesOn_19 18 WTr_at18 ?_
    refine y_if_ne (pc := 20) (tgt := 27) F dX9_goesOn_20 rfl ?_ ?_
    · refine y_iconst (v := 1) (pc := 23) F dX9_goesOn_23 rfl ?_
      refine y_goto (tgt := 28) (pc := 24) F dX9_goesOn_24 rfl ?_
      exact y_zret hr dX9_goesOn_28 rfl rfl
    · refine y_iconst (v := 0) (pc := 27) F dX9_goesOn_27 rfl ?_
      exact y_zret hr dX9_goesOn_28 rfl rfl
abbrev rmX9_mayBeCalled : Room := { frames := 2, cells := 0, slots := 0, locals := 45 }
def pX9_mayBeCalled (oc : Ob) (ow : Ob) (os : Ob) (a1 : Int32) (a2 : Int32) : Option Int32 :=
  Option.bind (pX2_hasWitness oc a1) fun (r1 : Int32) =>
  if r1 = 0 then (zgz (0 : Int32) (some (0 : Int32)))
  else (zgd a1 12 <| if (ga os 5 (a1.toNatClampNeg)) = (1 : Int32) then (zgz (0 : Int32) (some (0 : Int32)))
  else (zgd a1 12 <| Option.bind (pX9_goesOn oc ow os (ga oc 5 (a1.toNatClampNeg))) fun (r2 : Int32) =>
  if r2 = 0 then (zgz (0 : Int32) (some (0 : Int32)))
  else (zgd a1 12 <| if (ga os 4 (a1.toNatClampNeg)) = 0 then (zgz (1 : Int32) (some (1 : Int32)))
  else (zgd a1 12 <| if (ga oc 7 (a1.toNatClampNeg)) = (2 : Int32) then (zgz (0 : Int32) (some (0 : Int32)))
  else (zgd a1 12 <| Option.bind (pX4_moonOn ow a2) fun (r3 : Int32) =>
  if a2 < ((ga os 3 (a1.toNatClampNeg)) + r3) then (zgz (0 : Int32) (some (0 : Int32)))
  else (zgz (1 : Int32) (some (1 : Int32))))))))
set_option maxHeartbeats 4000000 in
set_option maxRecDepth 100000 in
theorem c_X9_mayBeCalled {q : Nat → Nat} (oc : Ob) (ow : Ob) (os : Ob) (a1 : Int32) (a2 : Int32) : zCi l D tA yX9_mayBeCalled cX9_mayBeCalled 3 .boolean rmX9_mayBeCalled [.ref (q 0), .int a1, .int a2] (WTr tA q oc ow os) (fun (r : Int32) => r) (fun (r : Int32) => (WTr tA q oc ow os)) (pX9_mayBeCalled oc ow os a1 a2) := by
  refine zCi_of (lv0 := [some (.ref (q 0)), some (.int a1), some (.int a2)]) (by decide +kernel) (Nat.le_of_ble_eq_true rfl) rfl (fun X out F hr => ?_)
  unfold pX9_mayBeCalled
  refine y_aload_n (pc := 0) F dX9_mayBeCalled_0 rfl ?_
  refine y_get (pc := 1) F dX9_mayBeCalled_1 kF_X9_12 0 WTr_at0 rfl ?_
  refine y_iload_n (pc := 4) F dX9_mayBeCalled_4 rfl ?_
  refine y_calliR (As := [.int a1]) (st := []) (q0 := 1) (pc := 5) F (c_X2_hasWitness (q := zq q [1, 2, 3, 4, 5, 6, 7]) oc a1) dX9_mayBeCalled_5 kM_X9_40 ⟨rfl, rfl⟩ ⟨Nat.le_of_ble_eq_true rfl, Nat.le_of_ble_eq_true rfl⟩ rfl rfl rfl (Nat.le_of_ble_eq_true rfl) rfl rfl WTr_at1 [1, 2, 3, 4, 5, 6, 7] zn2_c zn2_n (fun r1 => ?_)
  refine y_if_eq (pc := 8) (tgt := 40) F dX9_mayBeCalled_8 rfl ?_ ?_
  · refine y_iconst (v := 0) (pc := 40) F dX9_mayBeCalled_40 rfl ?_
    exact y_zret hr dX9_mayBeCalled_41 rfl rfl
  · refine y_aload_n (pc := 11) F dX9_mayBeCalled_11 rfl ?_
    refine y_get (pc := 12) F dX9_mayBeCalled_12 kF_X9_28 0 WTr_at0 rfl ?_
    refine y_get (pc := 15) F dX9_mayBeCalled_15 kF_X9_53 13 WTr_at13 rfl ?_
    refine y_iload_n (pc := 18) F dX9_mayBeCalled_18 rfl ?_
    refine y_iald (pc := 19) F dX9_mayBeCalled_19 16 WTr_at16 ?_
    refine y_iconst (v := 1) (pc := 20) F dX9_mayBeCalled_20 rfl ?_
    refine y_icmp_eq (pc := 21) (tgt := 40) F dX9_mayBeCalled_21 rfl ?_ ?_
    · refine y_iconst (v := 0) (pc := 40) F dX9_mayBeCalled_40 rfl ?_
      exact y_zret hr dX9_mayBeCalled_41 rfl rfl
    · refine y_aload_n (pc := 24) F dX9_mayBeCalled_24 rfl ?_
      refine y_aload_n (pc := 25) F dX9_mayBeCalled_25 rfl ?_
      refine y_get (pc := 26) F dX9_mayBeCalled_26 kF_X9_12 0 WTr_at0 rfl ?_
      refine y_get (pc := 29) F dX9_mayBeCalled_29 kF_X9_56 1 WTr_at1 rfl ?_
      refine y_iload_n (pc := 32) F dX9_mayBeCalled_32 rfl ?_
      refine y_iald (pc := 33) F dX9_mayBeCalled_33 5 WTr_at5 ?_
      refine y_calliW (As := [.int (ga oc 5 (a1.toNatClampNeg))]) (st := []) (q0 := 0) (pc := 34) F (c_X9_goesOn (q := q) oc ow os (ga oc 5 (a1.toNatClampNeg))) dX9_mayBeCalled_34 kM_X9_59 ⟨rfl, rfl⟩ ⟨Nat.le_of_ble_eq_true rfl, Nat.le_of_ble_eq_true rfl⟩ rfl rfl rfl (Nat.le_of_ble_eq_true rfl) rfl rfl WTr_at0 (fun r2 => ?_)
      refine y_if_ne (pc := 37) (tgt := 42) F dX9_mayBeCalled_37 rfl ?_ ?_
      · refine y_iconst (v := 0) (pc := 40) F dX9_mayBeCalled_40 rfl ?_
        exact y_zret hr dX9_mayBeCalled_41 rfl rfl
      · refine y_aload_n (pc := 42) F dX9_mayBeCalled_42 rfl ?_
        refine y_get (pc := 43) F dX9_mayBeCalled_43 kF_X9_28 0 WTr_at0 rfl ?_
        refine y_get (pc := 46) F dX9_mayBeCalled_46 kF_X9_62 13 WTr_at13 rfl ?_
        refine y_iload_n (pc := 49) F dX9_mayBeCalled_49 rfl ?_
        refine y_iald (pc := 50) F dX9_mayBeCalled_50 15 WTr_at15 ?_
        refine y_if_ne (pc := 51) (tgt := 56) F dX9_mayBeCalled_51 rfl ?_ ?_
        · refine y_iconst (v := 1) (pc := 54) F dX9_mayBeCalled_54 rfl ?_
          exact y_zret hr dX9_mayBeCalled_55 rfl rfl
        · refine y_aload_n (pc := 56) F dX9_mayBeCalled_56 rfl ?_
          refine y_get (pc := 57) F dX9_mayBeCalled_57 kF_X9_12 0 WTr_at0 rfl ?_
          refine y_get (pc := 60) F dX9_mayBeCalled_60 kF_X9_43 1 WTr_at1 rfl ?_
          refine y_iload_n (pc := 63) F dX9_mayBeCalled_63 rfl ?_
          refine y_iald (pc := 64) F dX9_mayBeCalled_64 7 WTr_at7 ?_
          refine y_iconst (v := 2) (pc := 65) F dX9_mayBeCalled_65 rfl ?_
          refine y_icmp_eq (pc := 66) (tgt := 95) F dX9_mayBeCalled_66 rfl ?_ ?_
          · refine y_iconst (v := 0) (pc := 95) F dX9_mayBeCalled_95 rfl ?_
            exact y_zret hr dX9_mayBeCalled_96 rfl rfl
          · refine y_iload_n (pc := 69) F dX9_mayBeCalled_69 rfl ?_
            refine y_aload_n (pc := 70) F dX9_mayBeCalled_70 rfl ?_
            refine y_get (pc := 71) F dX9_mayBeCalled_71 kF_X9_28 0 WTr_at0 rfl ?_
            refine y_get (pc := 74) F dX9_mayBeCalled_74 kF_X9_65 13 WTr_at13 rfl ?_
            refine y_iload_n (pc := 77) F dX9_mayBeCalled_77 rfl ?_
            refine y_iald (pc := 78) F dX9_mayBeCalled_78 14 WTr_at14 ?_
            refine y_aload_n (pc := 79) F dX9_mayBeCalled_79 rfl ?_
            refine y_get (pc := 80) F dX9_mayBeCalled_80 kF_X9_21 0 WTr_at0 rfl ?_
            refine y_iload_n (pc := 83) F dX9_mayBeCalled_83 rfl ?_
            refine y_calliR (As := [.int a2]) (st := [.int (ga os 3 (a1.toNatClampNeg)), .int a2]) (q0 := 8) (pc := 84) F (c_X4_moonOn (q := zq q [8, 9, 10, 11, 12]) ow a2) dX9_mayBeCalled_84 kM_X9_68 ⟨rfl, rfl⟩ ⟨Nat.le_of_ble_eq_true rfl, Nat.le_of_ble_eq_true rfl⟩ rfl rfl rfl (Nat.le_of_ble_eq_true rfl) rfl rfl WTr_at8 [8, 9, 10, 11, 12] zn1_c zn1_n (fun r3 => ?_)
            refine y_iadd (pc := 87) F dX9_mayBeCalled_87 ?_
            refine y_icmp_lt (pc := 88) (tgt := 95) F dX9_mayBeCalled_88 rfl ?_ ?_
            · refine y_iconst (v := 0) (pc := 95) F dX9_mayBeCalled_95 rfl ?_
              exact y_zret hr dX9_mayBeCalled_96 rfl rfl
            · refine y_iconst (v := 1) (pc := 91) F dX9_mayBeCalled_91 rfl ?_
              refine y_goto (tgt := 96) (pc := 92) F dX9_mayBeCalled_92 rfl ?_
              exact y_zret hr dX9_mayBeCalled_96 rfl rfl
abbrev rmX9_freshOn : Room := { frames := 2, cells := 0, slots := 0, locals := 45 }
def pX9_freshOn (oc : Ob) (ow : Ob) (os : Ob) (a1 : Int32) (a2 : Int32) : Option Int32 :=
  Option.bind (pX2_hasWitness oc a1) fun (r1 : Int32) =>
  if r1 = 0 then (some (0 : Int32))
  else (zgd a1 12 <| if (ga oc 7 (a1.toNatClampNeg)) = (1 : Int32) then (zgd a1 12 <| Option.bind (pX4_copiesOn ow a2) fun (r3 : Int32) =>
  some ((ga oc 6 (a1.toNatClampNeg)) * r3))
  else (if (ga oc 7 (a1.toNatClampNeg)) = (3 : Int32) then (zgd a1 12 <| some ((ga oc 6 (a1.toNatClampNeg)) * (6 : Int32)))
  else (zgd a1 12 <| some ((ga oc 6 (a1.toNatClampNeg)) * (3 : Int32)))))
set_option maxHeartbeats 4000000 in
set_option maxRecDepth 100000 in
theorem c_X9_freshOn {q : Nat → Nat} (oc : Ob) (ow : Ob) (os : Ob) (a1 : Int32) (a2 : Int32) : zCi l D tA yX9_freshOn cX9_freshOn 3 .int rmX9_freshOn [.ref (q 0), .int a1, .int a2] (WTr tA q oc ow os) (fun (r : Int32) => r) (fun (r : Int32) => (WTr tA q oc ow os)) (pX9_freshOn oc ow os a1 a2) := by
  refine zCi_of (lv0 := [some (.ref (q 0)), some (.int a1), some (.int a2)]) (by decide +kernel) (Nat.le_of_ble_eq_true rfl) rfl (fun X out F hr => ?_)
  unfold pX9_freshOn
  refine y_aload_n (pc := 0) F dX9_freshOn_0 rfl ?_
  refine y_get (pc := 1) F dX9_freshOn_1 kF_X9_12 0 WTr_at0 rfl ?_
  refine y_iload_n (pc := 4) F dX9_freshOn_4 rfl ?_
  refine y_calliR (As := [.int a1]) (st := []) (q0 := 1) (pc := 5) F (c_X2_hasWitness (q := zq q [1, 2, 3, 4, 5, 6, 7]) oc a1) dX9_freshOn_5 kM_X9_40 ⟨rfl, rfl⟩ ⟨Nat.le_of_ble_eq_true rfl, Nat.le_of_ble_eq_true rfl⟩ rfl rfl rfl (Nat.le_of_ble_eq_true rfl) rfl rfl WTr_at1 [1, 2, 3, 4, 5, 6, 7] zn2_c zn2_n (fun r1 => ?_)
  refine y_if_ne (pc := 8) (tgt := 13) F dX9_freshOn_8 rfl ?_ ?_
  · refine y_iconst (v := 0) (pc := 11) F dX9_freshOn_11 rfl ?_
    exact y_iret hr dX9_freshOn_12 rfl rfl
  · refine y_aload_n (pc := 13) F dX9_freshOn_13 rfl ?_
    refine y_get (pc := 14) F dX9_freshOn_14 kF_X9_12 0 WTr_at0 rfl ?_
    refine y_get (pc := 17) F dX9_freshOn_17 kF_X9_43 1 WTr_at1 rfl ?_
    refine y_iload_n (pc := 20) F dX9_freshOn_20 rfl ?_
    refine y_iald (pc := 21) F dX9_freshOn_21 7 WTr_at7 ?_
    refine y_lsI (c := 1) (pc := 22) (tgt := 48) F dX9_freshOn_22 rfl (fun z => by rw [z]; rfl) rfl ?_ (fun h2 => ?_)
    · refine y_aload_n (pc := 48) F dX9_freshOn_48 rfl ?_
      refine y_get (pc := 49) F dX9_freshOn_49 kF_X9_12 0 WTr_at0 rfl ?_
      refine y_get (pc := 52) F dX9_freshOn_52 kF_X9_46 1 WTr_at1 rfl ?_
      refine y_iload_n (pc := 55) F dX9_freshOn_55 rfl ?_
      refine y_iald (pc := 56) F dX9_freshOn_56 6 WTr_at6 ?_
      refine y_aload_n (pc := 57) F dX9_freshOn_57 rfl ?_
      refine y_get (pc := 58) F dX9_freshOn_58 kF_X9_21 0 WTr_at0 rfl ?_
      refine y_iload_n (pc := 61) F dX9_freshOn_61 rfl ?_
      refine y_calliR (As := [.int a2]) (st := [.int (ga oc 6 (a1.toNatClampNeg))]) (q0 := 8) (pc := 62) F (c_X4_copiesOn (q := zq q [8, 9, 10, 11, 12]) ow a2) dX9_freshOn_62 kM_X9_49 ⟨rfl, rfl⟩ ⟨Nat.le_of_ble_eq_true rfl, Nat.le_of_ble_eq_true rfl⟩ rfl rfl rfl (Nat.le_of_ble_eq_true rfl) rfl rfl WTr_at8 [8, 9, 10, 11, 12] zn1_c zn1_n (fun r3 => ?_)
      refine y_imul (pc := 65) F dX9_freshOn_65 ?_
      exact y_iret hr dX9_freshOn_66 rfl rfl
    refine y_lsI (c := 3) (pc := 22) (tgt := 67) F dX9_freshOn_22 rfl (fun z => by rw [z]; rfl) rfl ?_ (fun h4 => ?_)
    · refine y_aload_n (pc := 67) F dX9_freshOn_67 rfl ?_
      refine y_get (pc := 68) F dX9_freshOn_68 kF_X9_12 0 WTr_at0 rfl ?_
      refine y_get (pc := 71) F dX9_freshOn_71 kF_X9_46 1 WTr_at1 rfl ?_
      refine y_iload_n (pc := 74) F dX9_freshOn_74 rfl ?_
      refine y_iald (pc := 75) F dX9_freshOn_75 6 WTr_at6 ?_
      refine y_bipush (v := 6) (pc := 76) F dX9_freshOn_76 rfl ?_
      refine y_imul (pc := 78) F dX9_freshOn_78 ?_
      exact y_iret hr dX9_freshOn_79 rfl rfl
    refine y_lsD (pc := 22) (tgt := 80) F dX9_freshOn_22 rfl ((lv_osw (a := 1) h2 rfl).trans ((lv_osw (a := 3) h4 rfl).trans (rfl))) rfl ?_
    refine y_aload_n (pc := 80) F dX9_freshOn_80 rfl ?_
    refine y_get (pc := 81) F dX9_freshOn_81 kF_X9_12 0 WTr_at0 rfl ?_
    refine y_get (pc := 84) F dX9_freshOn_84 kF_X9_46 1 WTr_at1 rfl ?_
    refine y_iload_n (pc := 87) F dX9_freshOn_87 rfl ?_
    refine y_iald (pc := 88) F dX9_freshOn_88 6 WTr_at6 ?_
    refine y_iconst (v := 3) (pc := 89) F dX9_freshOn_89 rfl ?_
    refine y_imul (pc := 90) F dX9_freshOn_90 ?_
    exact y_iret hr dX9_freshOn_91 rfl rfl
abbrev rmX9_maySpeak : Room := { frames := 3, cells := 0, slots := 0, locals := 67 }
def pX9_maySpeak (oc : Ob) (ow : Ob) (os : Ob) (a1 : Int32) : Option Int32 :=
  Option.bind (pX9_mayBeCalled oc ow os a1 (gi os 0)) fun (r1 : Int32) =>
  if r1 = 0 then (zgz (0 : Int32) (some (0 : Int32)))
  else (Option.bind (pX9_roomOn oc ow os (gi os 0)) fun (r2 : Int32) =>
  if r2 ≤ 0 then (zgz (0 : Int32) (some (0 : Int32)))
  else (zgz (1 : Int32) (some (1 : Int32))))
set_option maxHeartbeats 4000000 in
set_option maxRecDepth 100000 in
theorem c_X9_maySpeak {q : Nat → Nat} (oc : Ob) (ow : Ob) (os : Ob) (a1 : Int32) : zCi l D tA yX9_maySpeak cX9_maySpeak 2 .boolean rmX9_maySpeak [.ref (q 0), .int a1] (WTr tA q oc ow os) (fun (r : Int32) => r) (fun (r : Int32) => (WTr tA q oc ow os)) (pX9_maySpeak oc ow os a1) := by
  refine zCi_of (lv0 := [some (.ref (q 0)), some (.int a1)]) (by decide +kernel) (Nat.le_of_ble_eq_true rfl) rfl (fun X out F hr => ?_)
  unfold pX9_maySpeak
  refine y_aload_n (pc := 0) F dX9_maySpeak_0 rfl ?_
  refine y_iload_n (pc := 1) F dX9_maySpeak_1 rfl ?_
  refine y_aload_n (pc := 2) F dX9_maySpeak_2 rfl ?_
  refine y_get (pc := 3) F dX9_maySpeak_3 kF_X9_28 0 WTr_at0 rfl ?_
  refine y_get (pc := 6) F dX9_maySpeak_6 kF_X9_71 13 WTr_at13 rfl ?_
  refine y_calliW (As := [.int a1, .int (gi os 0)]) (st := []) (q0 := 0) (pc := 9) F (c_X9_mayBeCalled (q := q) oc ow os a1 (gi os 0)) dX9_maySpeak_9 kM_X9_75 ⟨rfl, rfl⟩ ⟨Nat.le_of_ble_eq_true rfl, Nat.le_of_ble_eq_true rfl⟩ rfl rfl rfl (Nat.le_of_ble_eq_true rfl) rfl rfl WTr_at0 (fun r1 => ?_)
  refine y_if_eq (pc := 12) (tgt := 33) F dX9_maySpeak_12 rfl ?_ ?_
  · refine y_iconst (v := 0) (pc := 33) F dX9_maySpeak_33 rfl ?_
    exact y_zret hr dX9_maySpeak_34 rfl rfl
  · refine y_aload_n (pc := 15) F dX9_maySpeak_15 rfl ?_
    refine y_aload_n (pc := 16) F dX9_maySpeak_16 rfl ?_
    refine y_get (pc := 17) F dX9_maySpeak_17 kF_X9_28 0 WTr_at0 rfl ?_
    refine y_get (pc := 20) F dX9_maySpeak_20 kF_X9_71 13 WTr_at13 rfl ?_
    refine y_calliW (As := [.int (gi os 0)]) (st := []) (q0 := 0) (pc := 23) F (c_X9_roomOn (q := q) oc ow os (gi os 0)) dX9_maySpeak_23 kM_X9_79 ⟨rfl, rfl⟩ ⟨Nat.le_of_ble_eq_true rfl, Nat.le_of_ble_eq_true rfl⟩ rfl rfl rfl (Nat.le_of_ble_eq_true rfl) rfl rfl WTr_at0 (fun r2 => ?_)
    refine y_if_le (pc := 26) (tgt := 33) F dX9_maySpeak_26 rfl ?_ ?_
    · refine y_iconst (v := 0) (pc := 33) F dX9_maySpeak_33 rfl ?_
      exact y_zret hr dX9_maySpeak_34 rfl rfl
    · refine y_iconst (v := 1) (pc := 29) F dX9_maySpeak_29 rfl ?_
      refine y_goto (tgt := 34) (pc := 30) F dX9_maySpeak_30 rfl ?_
      exact y_zret hr dX9_maySpeak_34 rfl rfl
abbrev rmX9_isCarried : Room := { frames := 1, cells := 0, slots := 0, locals := 21 }
def pX9_isCarried (oc : Ob) (ow : Ob) (os : Ob) (a1 : Int32) : Option Int32 :=
  Option.bind (pX2_hasSuit oc a1) fun (r1 : Int32) =>
  if r1 = 0 then (zgz (0 : Int32) (some (0 : Int32)))
  else (zgd a1 6 <| zlet ((ga oc 4 (a1.toNatClampNeg))) fun (x2 : Int32) =>
  Option.bind (pX2_hasSuit oc x2) fun (r3 : Int32) =>
  zjn (zgz (1 : Int32) (some (1 : Int32))) fun (K47 : Option Int32) =>
  if r3 = 0 then (K47)
  else (zgd x2 6 <| if (ga os 7 (x2.toNatClampNeg)) = (1 : Int32) then (K47)
  else (zgz (0 : Int32) (some (0 : Int32)))))
set_option maxHeartbeats 4000000 in
set_option maxRecDepth 100000 in
theorem c_X9_isCarried {q : Nat → Nat} (oc : Ob) (ow : Ob) (os : Ob) (a1 : Int32) : zCi l D tA yX9_isCarried cX9_isCarried 3 .boolean rmX9_isCarried [.ref (q 0), .int a1] (WTr tA q oc ow os) (fun (r : Int32) => r) (fun (r : Int32) => (WTr tA q oc ow os)) (pX9_isCarried oc ow os a1) := by
  refine zCi_of (lv0 := [some (.ref (q 0)), some (.int a1), none]) (by decide +kernel) (Nat.le_of_ble_eq_true rfl) rfl (fun X out F hr => ?_)
  unfold pX9_isCarried
  refine y_aload_n (pc := 0) F dX9_isCarried_0 rfl ?_
  refine y_get (pc := 1) F dX9_isCarried_1 kF_X9_12 0 WTr_at0 rfl ?_
  refine y_iload_n (pc := 4) F dX9_isCarried_4 rfl ?_
  refine y_calliR (As := [.int a1]) (st := []) (q0 := 1) (pc := 5) F (c_X2_hasSuit (q := zq q [1, 2, 3, 4, 5, 6, 7]) oc a1) dX9_isCarried_5 kM_X9_32 ⟨rfl, rfl⟩ ⟨Nat.le_of_ble_eq_true rfl, Nat.le_of_ble_eq_true rfl⟩ rfl rfl rfl (Nat.le_of_ble_eq_true rfl) rfl rfl WTr_at1 [1, 2, 3, 4, 5, 6, 7] zn2_c zn2_n (fun r1 => ?_)
  refine y_if_ne (pc := 8) (tgt := 13) F dX9_isCarried_8 rfl ?_ ?_
  · refine y_iconst (v := 0) (pc := 11) F dX9_isCarried_11 rfl ?_
    exact y_zret hr dX9_isCarried_12 rfl rfl
  · refine y_aload_n (pc := 13) F dX9_isCarried_13 rfl ?_
    refine y_get (pc := 14) F dX9_isCarried_14 kF_X9_12 0 WTr_at0 rfl ?_
    refine y_get (pc := 17) F dX9_isCarried_17 kF_X9_138 1 WTr_at1 rfl ?_
    refine y_iload_n (pc := 20) F dX9_isCarried_20 rfl ?_
    refine y_iald (pc := 21) F dX9_isCarried_21 4 WTr_at4 ?_
    refine y_lti (fun x2 => ?_)
    refine y_istore_n (lv' := [some (.ref (q 0)), some (.int a1), some (.int x2)]) (pc := 22) F dX9_isCarried_22 (Nat.le_of_ble_eq_true rfl) rfl rfl ?_
    refine y_aload_n (pc := 23) F dX9_isCarried_23 rfl ?_
    refine y_get (pc := 24) F dX9_isCarried_24 kF_X9_12 0 WTr_at0 rfl ?_
    refine y_iload_n (pc := 27) F dX9_isCarried_27 rfl ?_
    refine y_calliR (As := [.int x2]) (st := []) (q0 := 1) (pc := 28) F (c_X2_hasSuit (q := zq q [1, 2, 3, 4, 5, 6, 7]) oc x2) dX9_isCarried_28 kM_X9_32 ⟨rfl, rfl⟩ ⟨Nat.le_of_ble_eq_true rfl, Nat.le_of_ble_eq_true rfl⟩ rfl rfl rfl (Nat.le_of_ble_eq_true rfl) rfl rfl WTr_at1 [1, 2, 3, 4, 5, 6, 7] zn2_c zn2_n (fun r3 => ?_)
    refine y_jn (fun (K47 : Option Int32) => zY X D out (K47) (WTr tA q oc ow os) 47 [none, none, none] []) ?_ ?_
    · skip
      refine y_iconst (v := 1) (pc := 47) F dX9_isCarried_47 rfl ?_
      refine y_goto (tgt := 52) (pc := 48) F dX9_isCarried_48 rfl ?_
      exact y_zret hr dX9_isCarried_52 rfl rfl
    intro K47 hK47
    refine y_if_eq (pc := 31) (tgt := 47) F dX9_isCarried_31 rfl ?_ ?_
    · refine y_le (lv' := [none, none, none]) trivial ?_
      exact hK47
    · refine y_aload_n (pc := 34) F dX9_isCarried_34 rfl ?_
      refine y_get (pc := 35) F dX9_isCarried_35 kF_X9_28 0 WTr_at0 rfl ?_
      refine y_get (pc := 38) F dX9_isCarried_38 kF_X9_36 13 WTr_at13 rfl ?_
      refine y_iload_n (pc := 41) F dX9_isCarried_41 rfl ?_
      refine y_iald (pc := 42) F dX9_isCarried_42 18 WTr_at18 ?_
      refine y_iconst (v := 1) (pc := 43) F dX9_isCarried_43 rfl ?_
      refine y_icmp_ne (pc := 44) (tgt := 51) F dX9_isCarried_44 rfl ?_ ?_
      · refine y_le (lv' := [none, none, none]) trivial ?_
        exact hK47
      · refine y_iconst (v := 0) (pc := 51) F dX9_isCarried_51 rfl ?_
        exact y_zret hr dX9_isCarried_52 rfl rfl
abbrev rmX9_look : Room := { frames := 2, cells := 0, slots := 0, locals := 43 }
def pX9_look (oc : Ob) (ow : Ob) (os : Ob) (a1 : Int32) : Option Ob :=
  Option.bind (pX9_goesOn oc ow os a1) fun (r1 : Int32) =>
  if r1 = 0 then (some os)
  else (zgd a1 6 <| Option.bind (pX2_goalOf oc a1) fun (r2 : Int32) =>
  if (ga os 6 (a1.toNatClampNeg)) < r2 then (some os)
  else (Option.bind (pX9_isCarried oc ow os a1) fun (r3 : Int32) =>
  if r3 = 0 then (some os)
  else (Option.bind (pX6_end os a1 (1 : Int32)) fun (r4 : Ob) =>
  some r4)))
set_option maxHeartbeats 4000000 in
set_option maxRecDepth 100000 in
theorem c_X9_look {q : Nat → Nat} (oc : Ob) (ow : Ob) (os : Ob) (a1 : Int32) : zCv l D tA yX9_look cX9_look 2 rmX9_look [.ref (q 0), .int a1] (WTr tA q oc ow os) (fun (r : Ob) => (WTr tA q oc ow r)) (pX9_look oc ow os a1) := by
  refine zCv_of (lv0 := [some (.ref (q 0)), some (.int a1)]) (by decide +kernel) (Nat.le_of_ble_eq_true rfl) rfl (fun X out F hr => ?_)
  unfold pX9_look
  refine y_aload_n (pc := 0) F dX9_look_0 rfl ?_
  refine y_iload_n (pc := 1) F dX9_look_1 rfl ?_
  refine y_calliW (As := [.int a1]) (st := []) (q0 := 0) (pc := 2) F (c_X9_goesOn (q := q) oc ow os a1) dX9_look_2 kM_X9_59 ⟨rfl, rfl⟩ ⟨Nat.le_of_ble_eq_true rfl, Nat.le_of_ble_eq_true rfl⟩ rfl rfl rfl (Nat.le_of_ble_eq_true rfl) rfl rfl WTr_at0 (fun r1 => ?_)
  refine y_if_eq (pc := 5) (tgt := 45) F dX9_look_5 rfl ?_ ?_
  · exact y_vret hr dX9_look_45 rfl
  · refine y_aload_n (pc := 8) F dX9_look_8 rfl ?_
    refine y_get (pc := 9) F dX9_look_9 kF_X9_28 0 WTr_at0 rfl ?_
    refine y_get (pc := 12) F dX9_look_12 kF_X9_94 13 WTr_at13 rfl ?_
    refine y_iload_n (pc := 15) F dX9_look_15 rfl ?_
    refine y_iald (pc := 16) F dX9_look_16 17 WTr_at17 ?_
    refine y_aload_n (pc := 17) F dX9_look_17 rfl ?_
    refine y_get (pc := 18) F dX9_look_18 kF_X9_12 0 WTr_at0 rfl ?_
    refine y_iload_n (pc := 21) F dX9_look_21 rfl ?_
    refine y_calliR (As := [.int a1]) (st := [.int (ga os 6 (a1.toNatClampNeg))]) (q0 := 1) (pc := 22) F (c_X2_goalOf (q := zq q [1, 2, 3, 4, 5, 6, 7]) oc a1) dX9_look_22 kM_X9_132 ⟨rfl, rfl⟩ ⟨Nat.le_of_ble_eq_true rfl, Nat.le_of_ble_eq_true rfl⟩ rfl rfl rfl (Nat.le_of_ble_eq_true rfl) rfl rfl WTr_at1 [1, 2, 3, 4, 5, 6, 7] zn2_c zn2_n (fun r2 => ?_)
    refine y_icmp_lt (pc := 25) (tgt := 45) F dX9_look_25 rfl ?_ ?_
    · exact y_vret hr dX9_look_45 rfl
    · refine y_aload_n (pc := 28) F dX9_look_28 rfl ?_
      refine y_iload_n (pc := 29) F dX9_look_29 rfl ?_
      refine y_calliW (As := [.int a1]) (st := []) (q0 := 0) (pc := 30) F (c_X9_isCarried (q := q) oc ow os a1) dX9_look_30 kM_X9_135 ⟨rfl, rfl⟩ ⟨Nat.le_of_ble_eq_true rfl, Nat.le_of_ble_eq_true rfl⟩ rfl rfl rfl (Nat.le_of_ble_eq_true rfl) rfl rfl WTr_at0 (fun r3 => ?_)
      refine y_if_eq (pc := 33) (tgt := 45) F dX9_look_33 rfl ?_ ?_
      · exact y_vret hr dX9_look_45 rfl
      · refine y_aload_n (pc := 36) F dX9_look_36 rfl ?_
        refine y_get (pc := 37) F dX9_look_37 kF_X9_28 0 WTr_at0 rfl ?_
        refine y_iload_n (pc := 40) F dX9_look_40 rfl ?_
        refine y_iconst (v := 1) (pc := 41) F dX9_look_41 rfl ?_
        refine y_callv (As := [.int a1, .int (1 : Int32)]) (st := []) (q0 := 13) (wf := fun (r4 : Ob) => (WTr tA q oc ow r4)) (pc := 42) F (c_X6_end (q := zq q [13, 14, 15, 16, 17, 18, 19, 20, 21, 22, 23, 24, 25, 26]) os a1 (1 : Int32)) dX9_look_42 kM_X9_110 ⟨rfl, rfl⟩ ⟨Nat.le_of_ble_eq_true rfl, Nat.le_of_ble_eq_true rfl⟩ rfl rfl rfl (Nat.le_of_ble_eq_true rfl) rfl rfl WTr_at13 [13, 14, 15, 16, 17, 18, 19, 20, 21, 22, 23, 24, 25, 26] zn14_c zn14_n (fun _ => rfl) (fun (r4 : Ob) => zn14_p r4) (fun r4 => ?_)
        exact y_vret hr dX9_look_45 rfl
abbrev rmX9_hear : Room := { frames := 3, cells := 0, slots := 0, locals := 67 }
def pX9_hear (oc : Ob) (ow : Ob) (os : Ob) (a1 : Int32) : Option (Int32 × Ob) :=
  Option.bind (pX2_hasWitness oc a1) fun (r1 : Int32) =>
  if r1 = 0 then (some ((0 : Int32), os))
  else (zgd a1 12 <| Option.bind (pX2_hasSuit oc (ga oc 5 (a1.toNatClampNeg))) fun (r2 : Int32) =>
  if r2 = 0 then (some ((0 : Int32), os))
  else (zgd a1 12 <| zlet ((ga oc 5 (a1.toNatClampNeg))) fun (x3 : Int32) =>
  zlet (si os 1 ((gi os 1) + (1 : Int32))) fun (o4 : Ob) =>
  zgd a1 12 <| zlet (sa o4 3 (upd (ga o4 3) (a1.toNatClampNeg) (gi o4 0))) fun (o5 : Ob) =>
  zgd a1 12 <| zgd a1 12 <| zlet (sa o5 4 (upd (ga o5 4) (a1.toNatClampNeg) ((ga o5 4 (a1.toNatClampNeg)) + (1 : Int32)))) fun (o6 : Ob) =>
  zgd x3 6 <| Option.bind (pX9_freshOn oc ow o6 a1 (gi o6 0)) fun (r7 : Int32) =>
  zgd x3 6 <| zlet (sa o6 6 (upd (ga o6 6) (x3.toNatClampNeg) ((ga o6 6 (x3.toNatClampNeg)) + r7))) fun (o8 : Ob) =>
  Option.bind (pX9_look oc ow o8 x3) fun (r9 : Ob) =>
  zgd x3 6 <| some ((ga r9 7 (x3.toNatClampNeg)), r9)))
set_option maxHeartbeats 4000000 in
set_option maxRecDepth 100000 in
theorem c_X9_hear {q : Nat → Nat} (oc : Ob) (ow : Ob) (os : Ob) (a1 : Int32) : zCi l D tA yX9_hear cX9_hear 3 .int rmX9_hear [.ref (q 0), .int a1] (WTr tA q oc ow os) (fun (r : Int32 × Ob) => (r.1)) (fun (r : Int32 × Ob) => (WTr tA q oc ow (r.2))) (pX9_hear oc ow os a1) := by
  refine zCi_of (lv0 := [some (.ref (q 0)), some (.int a1), none]) (by decide +kernel) (Nat.le_of_ble_eq_true rfl) rfl (fun X out F hr => ?_)
  unfold pX9_hear
  refine y_aload_n (pc := 0) F dX9_hear_0 rfl ?_
  refine y_get (pc := 1) F dX9_hear_1 kF_X9_12 0 WTr_at0 rfl ?_
  refine y_iload_n (pc := 4) F dX9_hear_4 rfl ?_
  refine y_calliR (As := [.int a1]) (st := []) (q0 := 1) (pc := 5) F (c_X2_hasWitness (q := zq q [1, 2, 3, 4, 5, 6, 7]) oc a1) dX9_hear_5 kM_X9_40 ⟨rfl, rfl⟩ ⟨Nat.le_of_ble_eq_true rfl, Nat.le_of_ble_eq_true rfl⟩ rfl rfl rfl (Nat.le_of_ble_eq_true rfl) rfl rfl WTr_at1 [1, 2, 3, 4, 5, 6, 7] zn2_c zn2_n (fun r1 => ?_)
  refine y_if_eq (pc := 8) (tgt := 30) F dX9_hear_8 rfl ?_ ?_
  · refine y_iconst (v := 0) (pc := 30) F dX9_hear_30 rfl ?_
    exact y_iret hr dX9_hear_31 rfl rfl
  · refine y_aload_n (pc := 11) F dX9_hear_11 rfl ?_
    refine y_get (pc := 12) F dX9_hear_12 kF_X9_12 0 WTr_at0 rfl ?_
    refine y_aload_n (pc := 15) F dX9_hear_15 rfl ?_
    refine y_get (pc := 16) F dX9_hear_16 kF_X9_12 0 WTr_at0 rfl ?_
    refine y_get (pc := 19) F dX9_hear_19 kF_X9_56 1 WTr_at1 rfl ?_
    refine y_iload_n (pc := 22) F dX9_hear_22 rfl ?_
    refine y_iald (pc := 23) F dX9_hear_23 5 WTr_at5 ?_
    refine y_calliR (As := [.int (ga oc 5 (a1.toNatClampNeg))]) (st := []) (q0 := 1) (pc := 24) F (c_X2_hasSuit (q := zq q [1, 2, 3, 4, 5, 6, 7]) oc (ga oc 5 (a1.toNatClampNeg))) dX9_hear_24 kM_X9_32 ⟨rfl, rfl⟩ ⟨Nat.le_of_ble_eq_true rfl, Nat.le_of_ble_eq_true rfl⟩ rfl rfl rfl (Nat.le_of_ble_eq_true rfl) rfl rfl WTr_at1 [1, 2, 3, 4, 5, 6, 7] zn2_c zn2_n (fun r2 => ?_)
    refine y_if_ne (pc := 27) (tgt := 32) F dX9_hear_27 rfl ?_ ?_
    · refine y_iconst (v := 0) (pc := 30) F dX9_hear_30 rfl ?_
      exact y_iret hr dX9_hear_31 rfl rfl
    · refine y_aload_n (pc := 32) F dX9_hear_32 rfl ?_
      refine y_get (pc := 33) F dX9_hear_33 kF_X9_12 0 WTr_at0 rfl ?_
      refine y_get (pc := 36) F dX9_hear_36 kF_X9_56 1 WTr_at1 rfl ?_
      refine y_iload_n (pc := 39) F dX9_hear_39 rfl ?_
      refine y_iald (pc := 40) F dX9_hear_40 5 WTr_at5 ?_
      refine y_lti (fun x3 => ?_)
      refine y_istore_n (lv' := [some (.ref (q 0)), some (.int a1), some (.int x3)]) (pc := 41) F dX9_hear_41 (Nat.le_of_ble_eq_true rfl) rfl rfl ?_
      refine y_aload_n (pc := 42) F dX9_hear_42 rfl ?_
      refine y_get (pc := 43) F dX9_hear_43 kF_X9_28 0 WTr_at0 rfl ?_
      refine y_dup (pc := 46) F dX9_hear_46 rfl ?_
      refine y_get (pc := 47) F dX9_hear_47 kF_X9_82 13 WTr_at13 rfl ?_
      refine y_iconst (v := 1) (pc := 50) F dX9_hear_50 rfl ?_
      refine y_iadd (pc := 51) F dX9_hear_51 ?_
      refine y_put (pc := 52) F dX9_hear_52 kF_X9_82 13 WTr_at13 rfl rfl rfl (Nat.le_of_ble_eq_true rfl) (fun (o4 : Ob) => (WTr tA q oc ow o4)) (WTr_pt13_1 _) (fun o4 => ?_)
      refine y_aload_n (pc := 55) F dX9_hear_55 rfl ?_
      refine y_get (pc := 56) F dX9_hear_56 kF_X9_28 0 WTr_at0 rfl ?_
      refine y_get (pc := 59) F dX9_hear_59 kF_X9_65 13 WTr_at13 rfl ?_
      refine y_iload_n (pc := 62) F dX9_hear_62 rfl ?_
      refine y_aload_n (pc := 63) F dX9_hear_63 rfl ?_
      refine y_get (pc := 64) F dX9_hear_64 kF_X9_28 0 WTr_at0 rfl ?_
      refine y_get (pc := 67) F dX9_hear_67 kF_X9_71 13 WTr_at13 rfl ?_
      refine y_iast (pc := 70) F dX9_hear_70 14 WTr_at14 (fun (o5 : Ob) => (WTr tA q oc ow o5)) (WTr_ar14 _) (fun o5 => ?_)
      refine y_aload_n (pc := 71) F dX9_hear_71 rfl ?_
      refine y_get (pc := 72) F dX9_hear_72 kF_X9_28 0 WTr_at0 rfl ?_
      refine y_get (pc := 75) F dX9_hear_75 kF_X9_62 13 WTr_at13 rfl ?_
      refine y_iload_n (pc := 78) F dX9_hear_78 rfl ?_
      refine y_dup2 (pc := 79) F dX9_hear_79 rfl rfl ?_
      refine y_iald (pc := 80) F dX9_hear_80 15 WTr_at15 ?_
      refine y_iconst (v := 1) (pc := 81) F dX9_hear_81 rfl ?_
      refine y_iadd (pc := 82) F dX9_hear_82 ?_
      refine y_iast (pc := 83) F dX9_hear_83 15 WTr_at15 (fun (o6 : Ob) => (WTr tA q oc ow o6)) (WTr_ar15 _) (fun o6 => ?_)
      refine y_aload_n (pc := 84) F dX9_hear_84 rfl ?_
      refine y_get (pc := 85) F dX9_hear_85 kF_X9_28 0 WTr_at0 rfl ?_
      refine y_get (pc := 88) F dX9_hear_88 kF_X9_94 13 WTr_at13 rfl ?_
      refine y_iload_n (pc := 91) F dX9_hear_91 rfl ?_
      refine y_dup2 (pc := 92) F dX9_hear_92 rfl rfl ?_
      refine y_iald (pc := 93) F dX9_hear_93 17 WTr_at17 ?_
      refine y_aload_n (pc := 94) F dX9_hear_94 rfl ?_
      refine y_iload_n (pc := 95) F dX9_hear_95 rfl ?_
      refine y_aload_n (pc := 96) F dX9_hear_96 rfl ?_
      refine y_get (pc := 97) F dX9_hear_97 kF_X9_28 0 WTr_at0 rfl ?_
      refine y_get (pc := 100) F dX9_hear_100 kF_X9_71 13 WTr_at13 rfl ?_
      refine y_calliW (As := [.int a1, .int (gi o6 0)]) (st := [.int (ga o6 6 (x3.toNatClampNeg)), .int x3, .ref (q 17)]) (q0 := 0) (pc := 103) F (c_X9_freshOn (q := q) oc ow o6 a1 (gi o6 0)) dX9_hear_103 kM_X9_97 ⟨rfl, rfl⟩ ⟨Nat.le_of_ble_eq_true rfl, Nat.le_of_ble_eq_true rfl⟩ rfl rfl rfl (Nat.le_of_ble_eq_true rfl) rfl rfl WTr_at0 (fun r7 => ?_)
      refine y_iadd (pc := 106) F dX9_hear_106 ?_
      refine y_iast (pc := 107) F dX9_hear_107 17 WTr_at17 (fun (o8 : Ob) => (WTr tA q oc ow o8)) (WTr_ar17 _) (fun o8 => ?_)
      refine y_aload_n (pc := 108) F dX9_hear_108 rfl ?_
      refine y_iload_n (pc := 109) F dX9_hear_109 rfl ?_
      refine y_callvW (As := [.int x3]) (st := []) (q0 := 0) (pc := 110) F (c_X9_look (q := q) oc ow o8 x3) dX9_hear_110 kM_X9_100 ⟨rfl, rfl⟩ ⟨Nat.le_of_ble_eq_true rfl, Nat.le_of_ble_eq_true rfl⟩ rfl rfl rfl (Nat.le_of_ble_eq_true rfl) rfl rfl WTr_at0 (fun r9 => ?_)
      refine y_aload_n (pc := 113) F dX9_hear_113 rfl ?_
      refine y_get (pc := 114) F dX9_hear_114 kF_X9_28 0 WTr_at0 rfl ?_
      refine y_get (pc := 117) F dX9_hear_117 kF_X9_36 13 WTr_at13 rfl ?_
      refine y_iload_n (pc := 120) F dX9_hear_120 rfl ?_
      refine y_iald (pc := 121) F dX9_hear_121 18 WTr_at18 ?_
      exact y_iret hr dX9_hear_122 rfl rfl
abbrev rmX9_endDay : Room := { frames := 3, cells := 0, slots := 0, locals := 64 }
def lX9_endDay_2 (oc : Ob) (ow : Ob) (K68 : Ob → Option Ob) : Nat → Int32 → Ob → Option Ob
  | 0, _, _ => none
  | f + 1, x4, o5 =>
    if (gi oc 0) ≤ x4 then (K68 o5)
    else (Option.bind (pX9_look oc ow o5 x4) fun (r6 : Ob) =>
    Option.bind (pX9_goesOn oc ow r6 x4) fun (r7 : Int32) =>
    zjn (fun (o8 : Ob) =>
    Option.bind (pX6_halve o8 x4) fun (r9 : Ob) =>
    zlet (x4 + (1 : Int32)) fun (x10 : Int32) =>
    lX9_endDay_2 oc ow K68 f x10 r9) fun (K54 : Ob → Option Ob) =>
    if r7 = 0 then (K54 r6)
    else (zgd x4 6 <| if (gi r6 0) = (ga oc 3 (x4.toNatClampNeg)) then (Option.bind (pX6_end r6 x4 (2 : Int32)) fun (r11 : Ob) =>
    K54 r11)
    else (K54 r6)))
def pX9_endDay (oc : Ob) (ow : Ob) (os : Ob) : Option Ob :=
  zjn (fun (o1 : Ob) =>
  zlet (si o1 0 ((gi o1 0) + (1 : Int32))) fun (o2 : Ob) =>
  zlet (si o2 1 (0 : Int32)) fun (o3 : Ob) =>
  some o3) fun (K68 : Ob → Option Ob) =>
  lX9_endDay_2 oc ow K68 zfu (0 : Int32) os
set_option maxHeartbeats 4000000 in
set_option maxRecDepth 100000 in
theorem wlX9_endDay_2 {X : ZX} {out : Ob} (q : Nat → Nat) (oc : Ob) (ow : Ob) (F : zF l D tA RX9 cX9_endDay 2 rmX9_endDay X) (hr : zRv X D cX9_endDay (fun (r : Ob) => (WTr tA q oc ow r)) out) {K68 : Ob → Option Ob} (hK68 : ∀ (o1 : Ob), zY X D out (K68 o1) (WTr tA q oc ow o1) 68 [some (.ref (q 0)), none] []) : ∀ (f : Nat) (x4 : Int32) (o5 : Ob), zY X D out (lX9_endDay_2 oc ow K68 f x4 o5) (WTr tA q oc ow o5) 2 [some (.ref (q 0)), some (.int x4)] [] := by
  intro f
  induction f with
  | zero =>
    intro x4 o5
    exact y_none
  | succ f ih =>
    intro x4 o5
    rw [lX9_endDay_2.eq_2]
    refine y_iload_n (pc := 2) F dX9_endDay_2 rfl ?_
    refine y_aload_n (pc := 3) F dX9_endDay_3 rfl ?_
    refine y_get (pc := 4) F dX9_endDay_4 kF_X9_12 0 WTr_at0 rfl ?_
    refine y_get (pc := 7) F dX9_endDay_7 kF_X9_104 1 WTr_at1 rfl ?_
    refine y_icmp_ge (pc := 10) (tgt := 68) F dX9_endDay_10 rfl ?_ ?_
    · refine y_le (lv' := [some (.ref (q 0)), none]) ⟨rfl, trivial⟩ ?_
      exact hK68 o5
    · refine y_aload_n (pc := 13) F dX9_endDay_13 rfl ?_
      refine y_iload_n (pc := 14) F dX9_endDay_14 rfl ?_
      refine y_callvW (As := [.int x4]) (st := []) (q0 := 0) (pc := 15) F (c_X9_look (q := q) oc ow o5 x4) dX9_endDay_15 kM_X9_100 ⟨rfl, rfl⟩ ⟨Nat.le_of_ble_eq_true rfl, Nat.le_of_ble_eq_true rfl⟩ rfl rfl rfl (Nat.le_of_ble_eq_true rfl) rfl rfl WTr_at0 (fun r6 => ?_)
      refine y_aload_n (pc := 18) F dX9_endDay_18 rfl ?_
      refine y_iload_n (pc := 19) F dX9_endDay_19 rfl ?_
      refine y_calliW (As := [.int x4]) (st := []) (q0 := 0) (pc := 20) F (c_X9_goesOn (q := q) oc ow r6 x4) dX9_endDay_20 kM_X9_59 ⟨rfl, rfl⟩ ⟨Nat.le_of_ble_eq_true rfl, Nat.le_of_ble_eq_true rfl⟩ rfl rfl rfl (Nat.le_of_ble_eq_true rfl) rfl rfl WTr_at0 (fun r7 => ?_)
      refine y_jn (fun (K54 : Ob → Option Ob) => ∀ (o8 : Ob), zY X D out (K54 o8) (WTr tA q oc ow o8) 54 [some (.ref (q 0)), some (.int x4)] []) ?_ ?_
      · intro o8
        refine y_aload_n (pc := 54) F dX9_endDay_54 rfl ?_
        refine y_get (pc := 55) F dX9_endDay_55 kF_X9_28 0 WTr_at0 rfl ?_
        refine y_iload_n (pc := 58) F dX9_endDay_58 rfl ?_
        refine y_callv (As := [.int x4]) (st := []) (q0 := 13) (wf := fun (r9 : Ob) => (WTr tA q oc ow r9)) (pc := 59) F (c_X6_halve (q := zq q [13, 14, 15, 16, 17, 18, 19, 20, 21, 22, 23, 24, 25, 26]) o8 x4) dX9_endDay_59 kM_X9_114 ⟨rfl, rfl⟩ ⟨Nat.le_of_ble_eq_true rfl, Nat.le_of_ble_eq_true rfl⟩ rfl rfl rfl (Nat.le_of_ble_eq_true rfl) rfl rfl WTr_at13 [13, 14, 15, 16, 17, 18, 19, 20, 21, 22, 23, 24, 25, 26] zn14_c zn14_n (fun _ => rfl) (fun (r9 : Ob) => zn14_p r9) (fun r9 => ?_)
        refine y_iinc (v := 1) (lf := fun (x10 : Int32) => [some (.ref (q 0)), some (.int x10)]) (pc := 62) F dX9_endDay_62 rfl rfl rfl (fun _ => rfl) (fun x10 => ?_)
        refine y_goto (tgt := 2) (pc := 65) F dX9_endDay_65 rfl ?_
        exact ih x10 r9
      intro K54 hK54
      refine y_if_eq (pc := 23) (tgt := 54) F dX9_endDay_23 rfl ?_ ?_
      · exact hK54 r6
      · refine y_aload_n (pc := 26) F dX9_endDay_26 rfl ?_
        refine y_get (pc := 27) F dX9_endDay_27 kF_X9_28 0 WTr_at0 rfl ?_
        refine y_get (pc := 30) F dX9_endDay_30 kF_X9_71 13 WTr_at13 rfl ?_
        refine y_aload_n (pc := 33) F dX9_endDay_33 rfl ?_
        refine y_get (pc := 34) F dX9_endDay_34 kF_X9_12 0 WTr_at0 rfl ?_
        refine y_get (pc := 37) F dX9_endDay_37 kF_X9_107 1 WTr_at1 rfl ?_
        refine y_iload_n (pc := 40) F dX9_endDay_40 rfl ?_
        refine y_iald (pc := 41) F dX9_endDay_41 3 WTr_at3 ?_
        refine y_icmp_ne (pc := 42) (tgt := 54) F dX9_endDay_42 rfl ?_ ?_
        · refine y_aload_n (pc := 45) F dX9_endDay_45 rfl ?_
          refine y_get (pc := 46) F dX9_endDay_46 kF_X9_28 0 WTr_at0 rfl ?_
          refine y_iload_n (pc := 49) F dX9_endDay_49 rfl ?_
          refine y_iconst (v := 2) (pc := 50) F dX9_endDay_50 rfl ?_
          refine y_callv (As := [.int x4, .int (2 : Int32)]) (st := []) (q0 := 13) (wf := fun (r11 : Ob) => (WTr tA q oc ow r11)) (pc := 51) F (c_X6_end (q := zq q [13, 14, 15, 16, 17, 18, 19, 20, 21, 22, 23, 24, 25, 26]) r6 x4 (2 : Int32)) dX9_endDay_51 kM_X9_110 ⟨rfl, rfl⟩ ⟨Nat.le_of_ble_eq_true rfl, Nat.le_of_ble_eq_true rfl⟩ rfl rfl rfl (Nat.le_of_ble_eq_true rfl) rfl rfl WTr_at13 [13, 14, 15, 16, 17, 18, 19, 20, 21, 22, 23, 24, 25, 26] zn14_c zn14_n (fun _ => rfl) (fun (r11 : Ob) => zn14_p r11) (fun r11 => ?_)
          exact hK54 r11
        · exact hK54 r6
set_option maxHeartbeats 4000000 in
set_option maxRecDepth 100000 in
theorem c_X9_endDay {q : Nat → Nat} (oc : Ob) (ow : Ob) (os : Ob) : zCv l D tA yX9_endDay cX9_endDay 2 rmX9_endDay [.ref (q 0)] (WTr tA q oc ow os) (fun (r : Ob) => (WTr tA q oc ow r)) (pX9_endDay oc ow os) := by
  refine zCv_of (lv0 := [some (.ref (q 0)), none]) (by decide +kernel) (Nat.le_of_ble_eq_true rfl) rfl (fun X out F hr => ?_)
  unfold pX9_endDay
  refine y_iconst (v := 0) (pc := 0) F dX9_endDay_0 rfl ?_
  refine y_istore_n (lv' := [some (.ref (q 0)), some (.int (0 : Int32))]) (pc := 1) F dX9_endDay_1 (Nat.le_of_ble_eq_true rfl) rfl rfl ?_
  refine y_jn (fun (K68 : Ob → Option Ob) => ∀ (o1 : Ob), zY X D out (K68 o1) (WTr tA q oc ow o1) 68 [some (.ref (q 0)), none] []) ?_ ?_
  · intro o1
    refine y_aload_n (pc := 68) F dX9_endDay_68 rfl ?_
    refine y_get (pc := 69) F dX9_endDay_69 kF_X9_28 0 WTr_at0 rfl ?_
    refine y_dup (pc := 72) F dX9_endDay_72 rfl ?_
    refine y_get (pc := 73) F dX9_endDay_73 kF_X9_71 13 WTr_at13 rfl ?_
    refine y_iconst (v := 1) (pc := 76) F dX9_endDay_76 rfl ?_
    refine y_iadd (pc := 77) F dX9_endDay_77 ?_
    refine y_put (pc := 78) F dX9_endDay_78 kF_X9_71 13 WTr_at13 rfl rfl rfl (Nat.le_of_ble_eq_true rfl) (fun (o2 : Ob) => (WTr tA q oc ow o2)) (WTr_pt13_0 _) (fun o2 => ?_)
    refine y_aload_n (pc := 81) F dX9_endDay_81 rfl ?_
    refine y_get (pc := 82) F dX9_endDay_82 kF_X9_28 0 WTr_at0 rfl ?_
    refine y_iconst (v := 0) (pc := 85) F dX9_endDay_85 rfl ?_
    refine y_put (pc := 86) F dX9_endDay_86 kF_X9_82 13 WTr_at13 rfl rfl rfl (Nat.le_of_ble_eq_true rfl) (fun (o3 : Ob) => (WTr tA q oc ow o3)) (WTr_pt13_1 _) (fun o3 => ?_)
    exact y_vret hr dX9_endDay_89 rfl
  intro K68 hK68
  exact wlX9_endDay_2 q oc ow F hr hK68 zfu (0 : Int32) os
abbrev rmX9_passDayByDraws : Room := { frames := 4, cells := 0, slots := 0, locals := 89 }
def lX9_passDayByDraws_4 (oc : Ob) (ow : Ob) (a1 : Int32) (K51 : Int32 → Ob → Option (Int32 × Ob)) : Nat → Int32 → Int32 → Ob → Option (Int32 × Ob)
  | 0, _, _, _ => none
  | f + 1, x4, x5, o6 =>
    if (gi oc 1) ≤ x5 then (K51 x4 o6)
    else (Option.bind (pX6_draw o6 (100 : Int32)) fun (r7 : Int32 × Ob) =>
    zjn (fun (x8 : Int32) (o9 : Ob) =>
    zlet (x5 + (1 : Int32)) fun (x10 : Int32) =>
    lX9_passDayByDraws_4 oc ow a1 K51 f x8 x10 o9) fun (K45 : Int32 → Ob → Option (Int32 × Ob)) =>
    if a1 ≤ (r7.1) then (K45 x4 (r7.2))
    else (Option.bind (pX9_maySpeak oc ow (r7.2) x5) fun (r11 : Int32) =>
    if r11 = 0 then (K45 x4 (r7.2))
    else (Option.bind (pX9_hear oc ow (r7.2) x5) fun (r12 : Int32 × Ob) =>
    zlet (x4 + (1 : Int32)) fun (x13 : Int32) =>
    K45 x13 (r12.2))))
def pX9_passDayByDraws (oc : Ob) (ow : Ob) (os : Ob) (a1 : Int32) : Option (Int32 × Ob) :=
  zjn (fun (x1 : Int32) (o2 : Ob) =>
  Option.bind (pX9_endDay oc ow o2) fun (r3 : Ob) =>
  some (x1, r3)) fun (K51 : Int32 → Ob → Option (Int32 × Ob)) =>
  lX9_passDayByDraws_4 oc ow a1 K51 zfu (0 : Int32) (0 : Int32) os
set_option maxHeartbeats 4000000 in
set_option maxRecDepth 100000 in
theorem wlX9_passDayByDraws_4 {X : ZX} {out : (Int32 × Ob)} (q : Nat → Nat) (oc : Ob) (ow : Ob) (a1 : Int32) (F : zF l D tA RX9 cX9_passDayByDraws 4 rmX9_passDayByDraws X) (hr : zRi X D cX9_passDayByDraws .int (fun (r : Int32 × Ob) => (r.1)) (fun (r : Int32 × Ob) => (WTr tA q oc ow (r.2))) out) {K51 : Int32 → Ob → Option (Int32 × Ob)} (hK51 : ∀ (x1 : Int32) (o2 : Ob), zY X D out (K51 x1 o2) (WTr tA q oc ow o2) 51 [some (.ref (q 0)), none, some (.int x1), none] []) : ∀ (f : Nat) (x4 : Int32) (x5 : Int32) (o6 : Ob), zY X D out (lX9_passDayByDraws_4 oc ow a1 K51 f x4 x5 o6) (WTr tA q oc ow o6) 4 [some (.ref (q 0)), some (.int a1), some (.int x4), some (.int x5)] [] := by
  intro f
  induction f with
  | zero =>
    intro x4 x5 o6
    exact y_none
  | succ f ih =>
    intro x4 x5 o6
    rw [lX9_passDayByDraws_4.eq_2]
    refine y_iload_n (pc := 4) F dX9_passDayByDraws_4 rfl ?_
    refine y_aload_n (pc := 5) F dX9_passDayByDraws_5 rfl ?_
    refine y_get (pc := 6) F dX9_passDayByDraws_6 kF_X9_12 0 WTr_at0 rfl ?_
    refine y_get (pc := 9) F dX9_passDayByDraws_9 kF_X9_117 1 WTr_at1 rfl ?_
    refine y_icmp_ge (pc := 12) (tgt := 51) F dX9_passDayByDraws_12 rfl ?_ ?_
    · refine y_le (lv' := [some (.ref (q 0)), none, some (.int x4), none]) ⟨rfl, ⟨rfl, trivial⟩⟩ ?_
      exact hK51 x4 o6
    · refine y_aload_n (pc := 15) F dX9_passDayByDraws_15 rfl ?_
      refine y_get (pc := 16) F dX9_passDayByDraws_16 kF_X9_28 0 WTr_at0 rfl ?_
      refine y_bipush (v := 100) (pc := 19) F dX9_passDayByDraws_19 rfl ?_
      refine y_calli (As := [.int (100 : Int32)]) (st := []) (q0 := 13) (wf := fun (r7 : Int32 × Ob) => (WTr tA q oc ow (r7.2))) (pc := 21) F (c_X6_draw (q := zq q [13, 14, 15, 16, 17, 18, 19, 20, 21, 22, 23, 24, 25, 26]) o6 (100 : Int32)) dX9_passDayByDraws_21 kM_X9_120 ⟨rfl, rfl⟩ ⟨Nat.le_of_ble_eq_true rfl, Nat.le_of_ble_eq_true rfl⟩ rfl rfl rfl (Nat.le_of_ble_eq_true rfl) rfl rfl WTr_at13 [13, 14, 15, 16, 17, 18, 19, 20, 21, 22, 23, 24, 25, 26] zn14_c zn14_n (fun _ => rfl) (fun (r7 : Int32 × Ob) => zn14_p (r7.2)) (fun r7 => ?_)
      refine y_iload_n (pc := 24) F dX9_passDayByDraws_24 rfl ?_
      refine y_jn (fun (K45 : Int32 → Ob → Option (Int32 × Ob)) => ∀ (x8 : Int32) (o9 : Ob), zY X D out (K45 x8 o9) (WTr tA q oc ow o9) 45 [some (.ref (q 0)), some (.int a1), some (.int x8), some (.int x5)] []) ?_ ?_
      · intro x8 o9
        refine y_iinc (v := 1) (lf := fun (x10 : Int32) => [some (.ref (q 0)), some (.int a1), some (.int x8), some (.int x10)]) (pc := 45) F dX9_passDayByDraws_45 rfl rfl rfl (fun _ => rfl) (fun x10 => ?_)
        refine y_goto (tgt := 4) (pc := 48) F dX9_passDayByDraws_48 rfl ?_
        exact ih x8 x10 o9
      intro K45 hK45
      refine y_icmp_ge (pc := 25) (tgt := 45) F dX9_passDayByDraws_25 rfl ?_ ?_
      · exact hK45 x4 (r7.2)
      · refine y_aload_n (pc := 28) F dX9_passDayByDraws_28 rfl ?_
        refine y_iload_n (pc := 29) F dX9_passDayByDraws_29 rfl ?_
        refine y_calliW (As := [.int x5]) (st := []) (q0 := 0) (pc := 30) F (c_X9_maySpeak (q := q) oc ow (r7.2) x5) dX9_passDayByDraws_30 kM_X9_123 ⟨rfl, rfl⟩ ⟨Nat.le_of_ble_eq_true rfl, Nat.le_of_ble_eq_true rfl⟩ rfl rfl rfl (Nat.le_of_ble_eq_true rfl) rfl rfl WTr_at0 (fun r11 => ?_)
        refine y_if_eq (pc := 33) (tgt := 45) F dX9_passDayByDraws_33 rfl ?_ ?_
        · exact hK45 x4 (r7.2)
        · refine y_aload_n (pc := 36) F dX9_passDayByDraws_36 rfl ?_
          refine y_iload_n (pc := 37) F dX9_passDayByDraws_37 rfl ?_
          refine y_calliW (As := [.int x5]) (st := []) (q0 := 0) (pc := 38) F (c_X9_hear (q := q) oc ow (r7.2) x5) dX9_passDayByDraws_38 kM_X9_126 ⟨rfl, rfl⟩ ⟨Nat.le_of_ble_eq_true rfl, Nat.le_of_ble_eq_true rfl⟩ rfl rfl rfl (Nat.le_of_ble_eq_true rfl) rfl rfl WTr_at0 (fun r12 => ?_)
          refine y_pop (pc := 41) F dX9_passDayByDraws_41 rfl ?_
          refine y_iinc (v := 1) (lf := fun (x13 : Int32) => [some (.ref (q 0)), some (.int a1), some (.int x13), some (.int x5)]) (pc := 42) F dX9_passDayByDraws_42 rfl rfl rfl (fun _ => rfl) (fun x13 => ?_)
          exact hK45 x13 (r12.2)
set_option maxHeartbeats 4000000 in
set_option maxRecDepth 100000 in
theorem c_X9_passDayByDraws {q : Nat → Nat} (oc : Ob) (ow : Ob) (os : Ob) (a1 : Int32) : zCi l D tA yX9_passDayByDraws cX9_passDayByDraws 4 .int rmX9_passDayByDraws [.ref (q 0), .int a1] (WTr tA q oc ow os) (fun (r : Int32 × Ob) => (r.1)) (fun (r : Int32 × Ob) => (WTr tA q oc ow (r.2))) (pX9_passDayByDraws oc ow os a1) := by
  refine zCi_of (lv0 := [some (.ref (q 0)), some (.int a1), none, none]) (by decide +kernel) (Nat.le_of_ble_eq_true rfl) rfl (fun X out F hr => ?_)
  unfold pX9_passDayByDraws
  refine y_iconst (v := 0) (pc := 0) F dX9_passDayByDraws_0 rfl ?_
  refine y_istore_n (lv' := [some (.ref (q 0)), some (.int a1), some (.int (0 : Int32)), none]) (pc := 1) F dX9_passDayByDraws_1 (Nat.le_of_ble_eq_true rfl) rfl rfl ?_
  refine y_iconst (v := 0) (pc := 2) F dX9_passDayByDraws_2 rfl ?_
  refine y_istore_n (lv' := [some (.ref (q 0)), some (.int a1), some (.int (0 : Int32)), some (.int (0 : Int32))]) (pc := 3) F dX9_passDayByDraws_3 (Nat.le_of_ble_eq_true rfl) rfl rfl ?_
  refine y_jn (fun (K51 : Int32 → Ob → Option (Int32 × Ob)) => ∀ (x1 : Int32) (o2 : Ob), zY X D out (K51 x1 o2) (WTr tA q oc ow o2) 51 [some (.ref (q 0)), none, some (.int x1), none] []) ?_ ?_
  · intro x1 o2
    refine y_aload_n (pc := 51) F dX9_passDayByDraws_51 rfl ?_
    refine y_callvW (As := []) (st := []) (q0 := 0) (pc := 52) F (c_X9_endDay (q := q) oc ow o2) dX9_passDayByDraws_52 kM_X9_129 ⟨rfl, rfl⟩ ⟨Nat.le_of_ble_eq_true rfl, Nat.le_of_ble_eq_true rfl⟩ rfl rfl rfl (Nat.le_of_ble_eq_true rfl) rfl rfl WTr_at0 (fun r3 => ?_)
    refine y_iload_n (pc := 55) F dX9_passDayByDraws_55 rfl ?_
    exact y_iret hr dX9_passDayByDraws_56 rfl rfl
  intro K51 hK51
  exact wlX9_passDayByDraws_4 q oc ow a1 F hr hK51 zfu (0 : Int32) (0 : Int32) os
end ZC
