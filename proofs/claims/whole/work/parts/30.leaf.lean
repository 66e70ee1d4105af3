section ZC
variable {l : Launch} {D : va_G} {tA : Nat → ClassId}
abbrev rmX0_tearAll : Room := { frames := 1, cells := 0, slots := 0, locals := 23 }
def pX0_tearAll (ob : Ob) : Option Ob :=
  zlet (sa ob 0 (fun _ => (0 : Int32))) fun (o1 : Ob) =>
  some o1
set_option maxHeartbeats 4000000 in
set_option maxRecDepth 100000 in
theorem c_X0_tearAll {q : Nat → Nat} (ob : Ob) : zCv l D tA yX0_tearAll cX0_tearAll 1 rmX0_tearAll [.ref (q 0)] (WB tA q ob) (fun (r : Ob) => (WB tA q r)) (pX0_tearAll ob) := by
  refine zCv_of (lv0 := [some (.ref (q 0))]) (by decide +kernel) (Nat.le_of_ble_eq_true rfl) rfl (fun X out F hr => ?_)
  unfold pX0_tearAll
  refine y_aload_n (pc := 0) F dX0_tearAll_0 rfl ?_
  refine y_get (pc := 1) F dX0_tearAll_1 kF_X0_9 0 WB_at0 rfl ?_
  refine y_iconst (v := 0) (pc := 4) F dX0_tearAll_4 rfl ?_
  refine y_filli (st := []) (pc := 5) F dX0_tearAll_5 kM_X0_20 ⟨Nat.le_of_ble_eq_true rfl, Nat.le_of_ble_eq_true rfl⟩ rfl (Nat.le_of_ble_eq_true rfl) 1 WB_at1 (Nat.le_of_ble_eq_true rfl) (fun (o1 : Ob) => (WB tA q o1)) (WB_ar1 _) (fun o1 => ?_)
  exact y_vret hr dX0_tearAll_8 rfl
abbrev rmX0_append : Room := { frames := 0, cells := 0, slots := 0, locals := 0 }
def pX0_append (ob : Ob) (a1 : Int32) (a2 : Int32) : Option (Int32 × Ob) :=
  if a1 < 0 then (some ((-1000000004 : Int32), ob))
  else (if (6 : Int32) ≤ a1 then (some ((-1000000004 : Int32), ob))
  else (zgd a1 6 <| if (ga ob 0 (a1.toNatClampNeg)) < 0 then (some ((-1000000004 : Int32), ob))
  else (zgd a1 6 <| if (ga ob 0 (a1.toNatClampNeg)) < (60 : Int32) then (zgd a1 6 <| zgd a1 6 <| zgd (ga ob 0 (a1.toNatClampNeg)) 60 <| zlet (sa ob (20 + (a1.toNatClampNeg)) (upd (ga ob (20 + (a1.toNatClampNeg))) ((ga ob 0 (a1.toNatClampNeg)).toNatClampNeg) a2)) fun (o2 : Ob) =>
  zgd a1 6 <| zgd a1 6 <| zlet (sa o2 0 (upd (ga o2 0) (a1.toNatClampNeg) ((ga o2 0 (a1.toNatClampNeg)) + (1 : Int32)))) fun (o3 : Ob) =>
  zgd a1 6 <| some ((ga o3 0 (a1.toNatClampNeg)), o3))
  else (some ((-1000000004 : Int32), ob)))))
set_option maxHeartbeats 4000000 in
set_option maxRecDepth 100000 in
theorem c_X0_append {q : Nat → Nat} (ob : Ob) (a1 : Int32) (a2 : Int32) : zCi l D tA yX0_append cX0_append 3 .int rmX0_append [.ref (q 0), .int a1, .int a2] (WB tA q ob) (fun (r : Int32 × Ob) => (r.1)) (fun (r : Int32 × Ob) => (WB tA q (r.2))) (pX0_append ob a1 a2) := by
  refine zCi_of (lv0 := [some (.ref (q 0)), some (.int a1), some (.int a2)]) (by decide +kernel) (Nat.le_of_ble_eq_true rfl) rfl (fun X out F hr => ?_)
  unfold pX0_append
  refine y_iload_n (pc := 0) F dX0_append_0 rfl ?_
  refine y_if_lt (pc := 1) (tgt := 30) F dX0_append_1 rfl ?_ ?_
  · refine y_ldc (pc := 30) F dX0_append_30 kC_X0_26 ?_
    exact y_iret hr dX0_append_32 rfl rfl
  · refine y_iload_n (pc := 4) F dX0_append_4 rfl ?_
    refine y_bipush (v := 6) (pc := 5) F dX0_append_5 rfl ?_
    refine y_icmp_ge (pc := 7) (tgt := 30) F dX0_append_7 rfl ?_ ?_
    · refine y_ldc (pc := 30) F dX0_append_30 kC_X0_26 ?_
      exact y_iret hr dX0_append_32 rfl rfl
    · refine y_aload_n (pc := 10) F dX0_append_10 rfl ?_
      refine y_get (pc := 11) F dX0_append_11 kF_X0_9 0 WB_at0 rfl ?_
      refine y_iload_n (pc := 14) F dX0_append_14 rfl ?_
      refine y_iald (pc := 15) F dX0_append_15 1 WB_at1 ?_
      refine y_if_lt (pc := 16) (tgt := 30) F dX0_append_16 rfl ?_ ?_
      · refine y_ldc (pc := 30) F dX0_append_30 kC_X0_26 ?_
        exact y_iret hr dX0_append_32 rfl rfl
      · refine y_aload_n (pc := 19) F dX0_append_19 rfl ?_
        refine y_get (pc := 20) F dX0_append_20 kF_X0_9 0 WB_at0 rfl ?_
        refine y_iload_n (pc := 23) F dX0_append_23 rfl ?_
        refine y_iald (pc := 24) F dX0_append_24 1 WB_at1 ?_
        refine y_bipush (v := 60) (pc := 25) F dX0_append_25 rfl ?_
        refine y_icmp_lt (pc := 27) (tgt := 33) F dX0_append_27 rfl ?_ ?_
        · refine y_aload_n (pc := 33) F dX0_append_33 rfl ?_
          refine y_get (pc := 34) F dX0_append_34 kF_X0_17 0 WB_at0 rfl ?_
          refine y_iload_n (pc := 37) F dX0_append_37 rfl ?_
          refine y_aaldr (pc := 38) F dX0_append_38 2 5 WB_at2 rfl rfl (fun h1 => ?_)
          refine y_aload_n (pc := 39) F dX0_append_39 rfl ?_
          refine y_get (pc := 40) F dX0_append_40 kF_X0_9 0 WB_at0 rfl ?_
          refine y_iload_n (pc := 43) F dX0_append_43 rfl ?_
          refine y_iald (pc := 44) F dX0_append_44 1 WB_at1 ?_
          refine y_iload_n (pc := 45) F dX0_append_45 rfl ?_
          refine y_iast (pc := 46) F dX0_append_46 (3 + (a1.toNatClampNeg)) (WB_row2 _ h1) (fun (o2 : Ob) => (WB tA q o2)) (WB_set2 _ h1 _) (fun o2 => ?_)
          refine y_aload_n (pc := 47) F dX0_append_47 rfl ?_
          refine y_get (pc := 48) F dX0_append_48 kF_X0_9 0 WB_at0 rfl ?_
          refine y_iload_n (pc := 51) F dX0_append_51 rfl ?_
          refine y_dup2 (pc := 52) F dX0_append_52 rfl rfl ?_
          refine y_iald (pc := 53) F dX0_append_53 1 WB_at1 ?_
          refine y_iconst (v := 1) (pc := 54) F dX0_append_54 rfl ?_
          refine y_iadd (pc := 55) F dX0_append_55 ?_
          refine y_iast (pc := 56) F dX0_append_56 1 WB_at1 (fun (o3 : Ob) => (WB tA q o3)) (WB_ar1 _) (fun o3 => ?_)
          refine y_aload_n (pc := 57) F dX0_append_57 rfl ?_
          refine y_get (pc := 58) F dX0_append_58 kF_X0_9 0 WB_at0 rfl ?_
          refine y_iload_n (pc := 61) F dX0_append_61 rfl ?_
          refine y_iald (pc := 62) F dX0_append_62 1 WB_at1 ?_
          exact y_iret hr dX0_append_63 rfl rfl
        · refine y_ldc (pc := 30) F dX0_append_30 kC_X0_26 ?_
          exact y_iret hr dX0_append_32 rfl rfl
abbrev rmX0_firstWrong : Room := { frames := 0, cells := 0, slots := 0, locals := 0 }
def lX0_firstWrong_14 (ob : Ob) (os : Ob) (a1 : Int32) : Nat → Int32 → Option Int32
  | 0, _ => none
  | f + 1, x1 =>
    zgd a1 6 <| if (ga ob 0 (a1.toNatClampNeg)) ≤ x1 then (some (-1 : Int32))
    else (if (60 : Int32) ≤ x1 then (some (-1 : Int32))
    else (if (gi os 0) ≤ x1 then (some (-1 : Int32))
    else (zgd a1 6 <| zgd x1 60 <| zgd a1 6 <| zgd x1 400 <| if (ga ob (20 + (a1.toNatClampNeg)) (x1.toNatClampNeg)) = (ga os (20 + (a1.toNatClampNeg)) (x1.toNatClampNeg)) then (zlet (x1 + (1 : Int32)) fun (x4 : Int32) =>
    lX0_firstWrong_14 ob os a1 f x4)
    else (some x1))))
def pX0_firstWrong (ob : Ob) (os : Ob) (a1 : Int32) : Option Int32 :=
  if a1 < 0 then (some (-1 : Int32))
  else (if a1 < (6 : Int32) then (lX0_firstWrong_14 ob os a1 zfu (0 : Int32))
  else (some (-1 : Int32)))
set_option maxHeartbeats 4000000 in
set_option maxRecDepth 100000 in
theorem wlX0_firstWrong_14 {X : ZX} {out : Int32} (q : Nat → Nat) (ob : Ob) (os : Ob) (a1 : Int32) (F : zF l D tA RX0 cX0_firstWrong 4 rmX0_firstWrong X) (hr : zRi X D cX0_firstWrong .int (fun (r : Int32) => r) (fun (r : Int32) => (WBS tA q ob os)) out) : ∀ (f : Nat) (x1 : Int32), zY X D out (lX0_firstWrong_14 ob os a1 f x1) (WBS tA q ob os) 14 [some (.ref (q 0)), some (.int a1), some (.ref (q 9)), some (.int x1)] [] := by
  intro f
  induction f with
  | zero =>
    intro x1
    exact y_none
  | succ f ih =>
    intro x1
    rw [lX0_firstWrong_14.eq_2]
    refine y_iload_n (pc := 14) F dX0_firstWrong_14 rfl ?_
    refine y_aload_n (pc := 15) F dX0_firstWrong_15 rfl ?_
    refine y_get (pc := 16) F dX0_firstWrong_16 kF_X0_9 0 WBS_at0 rfl ?_
    refine y_iload_n (pc := 19) F dX0_firstWrong_19 rfl ?_
    refine y_iald (pc := 20) F dX0_firstWrong_20 1 WBS_at1 ?_
    refine y_icmp_ge (pc := 21) (tgt := 65) F dX0_firstWrong_21 rfl ?_ ?_
    · refine y_iconst (v := -1) (pc := 65) F dX0_firstWrong_65 rfl ?_
      exact y_iret hr dX0_firstWrong_66 rfl rfl
    · refine y_iload_n (pc := 24) F dX0_firstWrong_24 rfl ?_
      refine y_bipush (v := 60) (pc := 25) F dX0_firstWrong_25 rfl ?_
      refine y_icmp_ge (pc := 27) (tgt := 65) F dX0_firstWrong_27 rfl ?_ ?_
      · refine y_iconst (v := -1) (pc := 65) F dX0_firstWrong_65 rfl ?_
        exact y_iret hr dX0_firstWrong_66 rfl rfl
      · refine y_iload_n (pc := 30) F dX0_firstWrong_30 rfl ?_
        refine y_aload_n (pc := 31) F dX0_firstWrong_31 rfl ?_
        refine y_get (pc := 32) F dX0_firstWrong_32 kF_X0_27 9 WBS_at9 rfl ?_
        refine y_icmp_ge (pc := 35) (tgt := 65) F dX0_firstWrong_35 rfl ?_ ?_
        · refine y_iconst (v := -1) (pc := 65) F dX0_firstWrong_65 rfl ?_
          exact y_iret hr dX0_firstWrong_66 rfl rfl
        · refine y_aload_n (pc := 38) F dX0_firstWrong_38 rfl ?_
          refine y_get (pc := 39) F dX0_firstWrong_39 kF_X0_17 0 WBS_at0 rfl ?_
          refine y_iload_n (pc := 42) F dX0_firstWrong_42 rfl ?_
          refine y_aaldr (pc := 43) F dX0_firstWrong_43 2 5 WBS_at2 rfl rfl (fun h2 => ?_)
          refine y_iload_n (pc := 44) F dX0_firstWrong_44 rfl ?_
          refine y_iald (pc := 45) F dX0_firstWrong_45 (3 + (a1.toNatClampNeg)) (WBS_row2 _ h2) ?_
          refine y_aload_n (pc := 46) F dX0_firstWrong_46 rfl ?_
          refine y_get (pc := 47) F dX0_firstWrong_47 kF_X0_33 9 WBS_at9 rfl ?_
          refine y_iload_n (pc := 50) F dX0_firstWrong_50 rfl ?_
          refine y_aaldr (pc := 51) F dX0_firstWrong_51 16 5 WBS_at16 rfl rfl (fun h3 => ?_)
          refine y_iload_n (pc := 52) F dX0_firstWrong_52 rfl ?_
          refine y_iald (pc := 53) F dX0_firstWrong_53 (17 + (a1.toNatClampNeg)) (WBS_row16 _ h3) ?_
          refine y_icmp_eq (pc := 54) (tgt := 59) F dX0_firstWrong_54 rfl ?_ ?_
          · refine y_iinc (v := 1) (lf := fun (x4 : Int32) => [some (.ref (q 0)), some (.int a1), some (.ref (q 9)), some (.int x4)]) (pc := 59) F dX0_firstWrong_59 rfl rfl rfl (fun _ => rfl) (fun x4 => ?_)
            refine y_goto (tgt := 14) (pc := 62) F dX0_firstWrong_62 rfl ?_
            exact ih x4
          · refine y_iload_n (pc := 57) F dX0_firstWrong_57 rfl ?_
            exact y_iret hr dX0_firstWrong_58 rfl rfl
set_option maxHeartbeats 4000000 in
set_option maxRecDepth 100000 in
theorem c_X0_firstWrong {q : Nat → Nat} (ob : Ob) (os : Ob) (a1 : Int32) : zCi l D tA yX0_firstWrong cX0_firstWrong 4 .int rmX0_firstWrong [.ref (q 0), .int a1, .ref (q 9)] (WBS tA q ob os) (fun (r : Int32) => r) (fun (r : Int32) => (WBS tA q ob os)) (pX0_firstWrong ob os a1) := by
  refine zCi_of (lv0 := [some (.ref (q 0)), some (.int a1), some (.ref (q 9)), none]) (by decide +kernel) (Nat.le_of_ble_eq_true rfl) rfl (fun X out F hr => ?_)
  unfold pX0_firstWrong
  refine y_iload_n (pc := 0) F dX0_firstWrong_0 rfl ?_
  refine y_if_lt (pc := 1) (tgt := 10) F dX0_firstWrong_1 rfl ?_ ?_
  · refine y_iconst (v := -1) (pc := 10) F dX0_firstWrong_10 rfl ?_
    exact y_iret hr dX0_firstWrong_11 rfl rfl
  · refine y_iload_n (pc := 4) F dX0_firstWrong_4 rfl ?_
    refine y_bipush (v := 6) (pc := 5) F dX0_firstWrong_5 rfl ?_
    refine y_icmp_lt (pc := 7) (tgt := 12) F dX0_firstWrong_7 rfl ?_ ?_
    · refine y_iconst (v := 0) (pc := 12) F dX0_firstWrong_12 rfl ?_
      refine y_istore_n (lv' := [some (.ref (q 0)), some (.int a1), some (.ref (q 9)), some (.int (0 : Int32))]) (pc := 13) F dX0_firstWrong_13 (Nat.le_of_ble_eq_true rfl) rfl rfl ?_
      exact wlX0_firstWrong_14 q ob os a1 F hr zfu (0 : Int32)
    · refine y_iconst (v := -1) (pc := 10) F dX0_firstWrong_10 rfl ?_
      exact y_iret hr dX0_firstWrong_11 rfl rfl
abbrev rmX4_clauseOn : Room := { frames := 0, cells := 0, slots := 0, locals := 0 }
def lX4_clauseOn_4 (ow : Ob) (a1 : Int32) : Nat → Int32 → Int32 → Option Int32
  | 0, _, _ => none
  | f + 1, x1, x2 =>
    if (gi ow 0) ≤ x2 then (some x1)
    else (if (6 : Int32) ≤ x2 then (some x1)
    else (zgd x2 6 <| if a1 < (ga ow 1 (x2.toNatClampNeg)) then (some x1)
    else (zlet (x2 + (1 : Int32)) fun (x3 : Int32) =>
    lX4_clauseOn_4 ow a1 f x2 x3)))
def pX4_clauseOn (ow : Ob) (a1 : Int32) : Option Int32 :=
  lX4_clauseOn_4 ow a1 zfu (-1 : Int32) (0 : Int32)
set_option maxHeartbeats 4000000 in
set_option maxRecDepth 100000 in
theorem wlX4_clauseOn_4 {X : ZX} {out : Int32} (q : Nat → Nat) (ow : Ob) (a1 : Int32) (F : zF l D tA RX4 cX4_clauseOn 4 rmX4_clauseOn X) (hr : zRi X D cX4_clauseOn .int (fun (r : Int32) => r) (fun (r : Int32) => (WL tA q ow)) out) : ∀ (f : Nat) (x1 : Int32) (x2 : Int32), zY X D out (lX4_clauseOn_4 ow a1 f x1 x2) (WL tA q ow) 4 [some (.ref (q 0)), some (.int a1), some (.int x1), some (.int x2)] [] := by
  intro f
  induction f with
  | zero =>
    intro x1 x2
    exact y_none
  | succ f ih =>
    intro x1 x2
    rw [lX4_clauseOn_4.eq_2]
    refine y_iload_n (pc := 4) F dX4_clauseOn_4 rfl ?_
    refine y_aload_n (pc := 5) F dX4_clauseOn_5 rfl ?_
    refine y_get (pc := 6) F dX4_clauseOn_6 kF_X4_28 0 WL_at0 rfl ?_
    refine y_icmp_ge (pc := 9) (tgt := 36) F dX4_clauseOn_9 rfl ?_ ?_
    · refine y_iload_n (pc := 36) F dX4_clauseOn_36 rfl ?_
      exact y_iret hr dX4_clauseOn_37 rfl rfl
    · refine y_iload_n (pc := 12) F dX4_clauseOn_12 rfl ?_
      refine y_bipush (v := 6) (pc := 13) F dX4_clauseOn_13 rfl ?_
      refine y_icmp_ge (pc := 15) (tgt := 36) F dX4_clauseOn_15 rfl ?_ ?_
      · refine y_iload_n (pc := 36) F dX4_clauseOn_36 rfl ?_
        exact y_iret hr dX4_clauseOn_37 rfl rfl
      · refine y_aload_n (pc := 18) F dX4_clauseOn_18 rfl ?_
        refine y_get (pc := 19) F dX4_clauseOn_19 kF_X4_9 0 WL_at0 rfl ?_
        refine y_iload_n (pc := 22) F dX4_clauseOn_22 rfl ?_
        refine y_iald (pc := 23) F dX4_clauseOn_23 1 WL_at1 ?_
        refine y_iload_n (pc := 24) F dX4_clauseOn_24 rfl ?_
        refine y_icmp_gt (pc := 25) (tgt := 36) F dX4_clauseOn_25 rfl ?_ ?_
        · refine y_iload_n (pc := 36) F dX4_clauseOn_36 rfl ?_
          exact y_iret hr dX4_clauseOn_37 rfl rfl
        · refine y_iload_n (pc := 28) F dX4_clauseOn_28 rfl ?_
          refine y_istore_n (lv' := [some (.ref (q 0)), some (.int a1), some (.int x2), some (.int x2)]) (pc := 29) F dX4_clauseOn_29 (Nat.le_of_ble_eq_true rfl) rfl rfl ?_
          refine y_iinc (v := 1) (lf := fun (x3 : Int32) => [some (.ref (q 0)), some (.int a1), some (.int x2), some (.int x3)]) (pc := 30) F dX4_clauseOn_30 rfl rfl rfl (fun _ => rfl) (fun x3 => ?_)
          refine y_goto (tgt := 4) (pc := 33) F dX4_clauseOn_33 rfl ?_
          exact ih x2 x3
set_option maxHeartbeats 4000000 in
set_option maxRecDepth 100000 in
theorem c_X4_clauseOn {q : Nat → Nat} (ow : Ob) (a1 : Int32) : zCi l D tA yX4_clauseOn cX4_clauseOn 4 .int rmX4_clauseOn [.ref (q 0), .int a1] (WL tA q ow) (fun (r : Int32) => r) (fun (r : Int32) => (WL tA q ow)) (pX4_clauseOn ow a1) := by
  refine zCi_of (lv0 := [some (.ref (q 0)), some (.int a1), none, none]) (by decide +kernel) (Nat.le_of_ble_eq_true rfl) rfl (fun X out F hr => ?_)
  unfold pX4_clauseOn
  refine y_iconst (v := -1) (pc := 0) F dX4_clauseOn_0 rfl ?_
  refine y_istore_n (lv' := [some (.ref (q 0)), some (.int a1), some (.int (-1 : Int32)), none]) (pc := 1) F dX4_clauseOn_1 (Nat.le_of_ble_eq_true rfl) rfl rfl ?_
  refine y_iconst (v := 0) (pc := 2) F dX4_clauseOn_2 rfl ?_
  refine y_istore_n (lv' := [some (.ref (q 0)), some (.int a1), some (.int (-1 : Int32)), some (.int (0 : Int32))]) (pc := 3) F dX4_clauseOn_3 (Nat.le_of_ble_eq_true rfl) rfl rfl ?_
  exact wlX4_clauseOn_4 q ow a1 F hr zfu (-1 : Int32) (0 : Int32)
abbrev rmX4_talkersOn : Room := { frames := 1, cells := 0, slots := 0, locals := 23 }
def pX4_talkersOn (ow : Ob) (a1 : Int32) : Option Int32 :=
  Option.bind (pX4_clauseOn ow a1) fun (r1 : Int32) =>
  if r1 < 0 then (some (2 : Int32))
  else (zgd r1 6 <| some (ga ow 4 (r1.toNatClampNeg)))
set_option maxHeartbeats 4000000 in
set_option maxRecDepth 100000 in
theorem c_X4_talkersOn {q : Nat → Nat} (ow : Ob) (a1 : Int32) : zCi l D tA yX4_talkersOn cX4_talkersOn 3 .int rmX4_talkersOn [.ref (q 0), .int a1] (WL tA q ow) (fun (r : Int32) => r) (fun (r : Int32) => (WL tA q ow)) (pX4_talkersOn ow a1) := by
  refine zCi_of (lv0 := [some (.ref (q 0)), some (.int a1), none]) (by decide +kernel) (Nat.le_of_ble_eq_true rfl) rfl (fun X out F hr => ?_)
  unfold pX4_talkersOn
  refine y_aload_n (pc := 0) F dX4_talkersOn_0 rfl ?_
  refine y_iload_n (pc := 1) F dX4_talkersOn_1 rfl ?_
  refine y_calliW (As := [.int a1]) (st := []) (q0 := 0) (pc := 2) F (c_X4_clauseOn (q := q) ow a1) dX4_talkersOn_2 kM_X4_24 ⟨rfl, rfl⟩ ⟨Nat.le_of_ble_eq_true rfl, Nat.le_of_ble_eq_true rfl⟩ rfl rfl rfl (Nat.le_of_ble_eq_true rfl) rfl rfl WL_at0 (fun r1 => ?_)
  refine y_istore_n (lv' := [some (.ref (q 0)), some (.int a1), some (.int r1)]) (pc := 5) F dX4_talkersOn_5 (Nat.le_of_ble_eq_true rfl) rfl rfl ?_
  refine y_iload_n (pc := 6) F dX4_talkersOn_6 rfl ?_
  refine y_if_lt (pc := 7) (tgt := 19) F dX4_talkersOn_7 rfl ?_ ?_
  · refine y_iconst (v := 2) (pc := 19) F dX4_talkersOn_19 rfl ?_
    exact y_iret hr dX4_talkersOn_20 rfl rfl
  · refine y_aload_n (pc := 10) F dX4_talkersOn_10 rfl ?_
    refine y_get (pc := 11) F dX4_talkersOn_11 kF_X4_21 0 WL_at0 rfl ?_
    refine y_iload_n (pc := 14) F dX4_talkersOn_14 rfl ?_
    refine y_iald (pc := 15) F dX4_talkersOn_15 4 WL_at4 ?_
    refine y_goto (tgt := 20) (pc := 16) F dX4_talkersOn_16 rfl ?_
    exact y_iret hr dX4_talkersOn_20 rfl rfl
abbrev rmX2_hasWitness : Room := { frames := 0, cells := 0, slots := 0, locals := 0 }
def pX2_hasWitness (oc : Ob) (a1 : Int32) : Option Int32 :=
  if a1 < 0 then (zgz (0 : Int32) (some (0 : Int32)))
  else (if (gi oc 1) ≤ a1 then (zgz (0 : Int32) (some (0 : Int32)))
  else (if (12 : Int32) ≤ a1 then (zgz (0 : Int32) (some (0 : Int32)))
  else (zgz (1 : Int32) (some (1 : Int32)))))
set_option maxHeartbeats 4000000 in
set_option maxRecDepth 100000 in
theorem c_X2_hasWitness {q : Nat → Nat} (oc : Ob) (a1 : Int32) : zCi l D tA yX2_hasWitness cX2_hasWitness 2 .boolean rmX2_hasWitness [.ref (q 0), .int a1] (WC tA q oc) (fun (r : Int32) => r) (fun (r : Int32) => (WC tA q oc)) (pX2_hasWitness oc a1) := by
  refine zCi_of (lv0 := [some (.ref (q 0)), some (.int a1)]) (by decide +kernel) (Nat.le_of_ble_eq_true rfl) rfl (fun X out F hr => ?_)
  unfold pX2_hasWitness
  refine y_iload_n (pc := 0) F dX2_hasWitness_0 rfl ?_
  refine y_if_lt (pc := 1) (tgt := 22) F dX2_hasWitness_1 rfl ?_ ?_
  · refine y_iconst (v := 0) (pc := 22) F dX2_hasWitness_22 rfl ?_
    exact y_zret hr dX2_hasWitness_23 rfl rfl
  · refine y_iload_n (pc := 4) F dX2_hasWitness_4 rfl ?_
    refine y_aload_n (pc := 5) F dX2_hasWitness_5 rfl ?_
    refine y_get (pc := 6) F dX2_hasWitness_6 kF_X2_34 0 WC_at0 rfl ?_
    refine y_icmp_ge (pc := 9) (tgt := 22) F dX2_hasWitness_9 rfl ?_ ?_
    · refine y_iconst (v := 0) (pc := 22) F dX2_hasWitness_22 rfl ?_
      exact y_zret hr dX2_hasWitness_23 rfl rfl
    · refine y_iload_n (pc := 12) F dX2_hasWitness_12 rfl ?_
      refine y_bipush (v := 12) (pc := 13) F dX2_hasWitness_13 rfl ?_
      refine y_icmp_ge (pc := 15) (tgt := 22) F dX2_hasWitness_15 rfl ?_ ?_
      · refine y_iconst (v := 0) (pc := 22) F dX2_hasWitness_22 rfl ?_
        exact y_zret hr dX2_hasWitness_23 rfl rfl
      · refine y_iconst (v := 1) (pc := 18) F dX2_hasWitness_18 rfl ?_
        refine y_goto (tgt := 23) (pc := 19) F dX2_hasWitness_19 rfl ?_
        exact y_zret hr dX2_hasWitness_23 rfl rfl
abbrev rmX2_hasSuit : Room := { frames := 0, cells := 0, slots := 0, locals := 0 }
def pX2_hasSuit (oc : Ob) (a1 : Int32) : Option Int32 :=
  if a1 < 0 then (zgz (0 : Int32) (some (0 : Int32)))
  else (if (gi oc 0) ≤ a1 then (zgz (0 : Int32) (some (0 : Int32)))
  else (if (6 : Int32) ≤ a1 then (zgz (0 : Int32) (some (0 : Int32)))
  else (zgz (1 : Int32) (some (1 : Int32)))))
set_option maxHeartbeats 4000000 in
set_option maxRecDepth 100000 in
theorem c_X2_hasSuit {q : Nat → Nat} (oc : Ob) (a1 : Int32) : zCi l D tA yX2_hasSuit cX2_hasSuit 2 .boolean rmX2_hasSuit [.ref (q 0), .int a1] (WC tA q oc) (fun (r : Int32) => r) (fun (r : Int32) => (WC tA q oc)) (pX2_hasSuit oc a1) := by
  refine zCi_of (lv0 := [some (.ref (q 0)), some (.int a1)]) (by decide +kernel) (Nat.le_of_ble_eq_true rfl) rfl (fun X out F hr => ?_)
  unfold pX2_hasSuit
  refine y_iload_n (pc := 0) F dX2_hasSuit_0 rfl ?_
  refine y_if_lt (pc := 1) (tgt := 22) F dX2_hasSuit_1 rfl ?_ ?_
  · refine y_iconst (v := 0) (pc := 22) F dX2_hasSuit_22 rfl ?_
    exact y_zret hr dX2_hasSuit_23 rfl rfl
  · refine y_iload_n (pc := 4) F dX2_hasSuit_4 rfl ?_
    refine y_aload_n (pc := 5) F dX2_hasSuit_5 rfl ?_
    refine y_get (pc := 6) F dX2_hasSuit_6 kF_X2_30 0 WC_at0 rfl ?_
    refine y_icmp_ge (pc := 9) (tgt := 22) F dX2_hasSuit_9 rfl ?_ ?_
    · refine y_iconst (v := 0) (pc := 22) F dX2_hasSuit_22 rfl ?_
      exact y_zret hr dX2_hasSuit_23 rfl rfl
    · refine y_iload_n (pc := 12) F dX2_hasSuit_12 rfl ?_
      refine y_bipush (v := 6) (pc := 13) F dX2_hasSuit_13 rfl ?_
      refine y_icmp_ge (pc := 15) (tgt := 22) F dX2_hasSuit_15 rfl ?_ ?_
      · refine y_iconst (v := 0) (pc := 22) F dX2_hasSuit_22 rfl ?_
        exact y_zret hr dX2_hasSuit_23 rfl rfl
      · refine y_iconst (v := 1) (pc := 18) F dX2_hasSuit_18 rfl ?_
        refine y_goto (tgt := 23) (pc := 19) F dX2_hasSuit_19 rfl ?_
        exact y_zret hr dX2_hasSuit_23 rfl rfl
abbrev rmX4_moonOn : Room := { frames := 1, cells := 0, slots := 0, locals := 23 }
def pX4_moonOn (ow : Ob) (a1 : Int32) : Option Int32 :=
  Option.bind (pX4_clauseOn ow a1) fun (r1 : Int32) =>
  if r1 < 0 then (some (28 : Int32))
  else (zgd r1 6 <| some (ga ow 3 (r1.toNatClampNeg)))
set_option maxHeartbeats 4000000 in
set_option maxRecDepth 100000 in
theorem c_X4_moonOn {q : Nat → Nat} (ow : Ob) (a1 : Int32) : zCi l D tA yX4_moonOn cX4_moonOn 3 .int rmX4_moonOn [.ref (q 0), .int a1] (WL tA q ow) (fun (r : Int32) => r) (fun (r : Int32) => (WL tA q ow)) (pX4_moonOn ow a1) := by
  refine zCi_of (lv0 := [some (.ref (q 0)), some (.int a1), none]) (by decide +kernel) (Nat.le_of_ble_eq_true rfl) rfl (fun X out F hr => ?_)
  unfold pX4_moonOn
  refine y_aload_n (pc := 0) F dX4_moonOn_0 rfl ?_
  refine y_iload_n (pc := 1) F dX4_moonOn_1 rfl ?_
  refine y_calliW (As := [.int a1]) (st := []) (q0 := 0) (pc := 2) F (c_X4_clauseOn (q := q) ow a1) dX4_moonOn_2 kM_X4_24 ⟨rfl, rfl⟩ ⟨Nat.le_of_ble_eq_true rfl, Nat.le_of_ble_eq_true rfl⟩ rfl rfl rfl (Nat.le_of_ble_eq_true rfl) rfl rfl WL_at0 (fun r1 => ?_)
  refine y_istore_n (lv' := [some (.ref (q 0)), some (.int a1), some (.int r1)]) (pc := 5) F dX4_moonOn_5 (Nat.le_of_ble_eq_true rfl) rfl rfl ?_
  refine y_iload_n (pc := 6) F dX4_moonOn_6 rfl ?_
  refine y_if_lt (pc := 7) (tgt := 19) F dX4_moonOn_7 rfl ?_ ?_
  · refine y_bipush (v := 28) (pc := 19) F dX4_moonOn_19 rfl ?_
    exact y_iret hr dX4_moonOn_21 rfl rfl
  · refine y_aload_n (pc := 10) F dX4_moonOn_10 rfl ?_
    refine y_get (pc := 11) F dX4_moonOn_11 kF_X4_18 0 WL_at0 rfl ?_
    refine y_iload_n (pc := 14) F dX4_moonOn_14 rfl ?_
    refine y_iald (pc := 15) F dX4_moonOn_15 3 WL_at3 ?_
    refine y_goto (tgt := 21) (pc := 16) F dX4_moonOn_16 rfl ?_
    exact y_iret hr dX4_moonOn_21 rfl rfl
abbrev rmX4_copiesOn : Room := { frames := 1, cells := 0, slots := 0, locals := 23 }
def pX4_copiesOn (ow : Ob) (a1 : Int32) : Option Int32 :=
  Option.bind (pX4_clauseOn ow a1) fun (r1 : Int32) =>
  if r1 < 0 then (some (1 : Int32))
  else (zgd r1 6 <| some (ga ow 2 (r1.toNatClampNeg)))
set_option maxHeartbeats 4000000 in
set_option maxRecDepth 100000 in
theorem c_X4_copiesOn {q : Nat → Nat} (ow : Ob) (a1 : Int32) : zCi l D tA yX4_copiesOn cX4_copiesOn 3 .int rmX4_copiesOn [.ref (q 0), .int a1] (WL tA q ow) (fun (r : Int32) => r) (fun (r : Int32) => (WL tA q ow)) (pX4_copiesOn ow a1) := by
  refine zCi_of (lv0 := [some (.ref (q 0)), some (.int a1), none]) (by decide +kernel) (Nat.le_of_ble_eq_true rfl) rfl (fun X out F hr => ?_)
  unfold pX4_copiesOn
  refine y_aload_n (pc := 0) F dX4_copiesOn_0 rfl ?_
  refine y_iload_n (pc := 1) F dX4_copiesOn_1 rfl ?_
  refine y_calliW (As := [.int a1]) (st := []) (q0 := 0) (pc := 2) F (c_X4_clauseOn (q := q) ow a1) dX4_copiesOn_2 kM_X4_24 ⟨rfl, rfl⟩ ⟨Nat.le_of_ble_eq_true rfl, Nat.le_of_ble_eq_true rfl⟩ rfl rfl rfl (Nat.le_of_ble_eq_true rfl) rfl rfl WL_at0 (fun r1 => ?_)
  refine y_istore_n (lv' := [some (.ref (q 0)), some (.int a1), some (.int r1)]) (pc := 5) F dX4_copiesOn_5 (Nat.le_of_ble_eq_true rfl) rfl rfl ?_
  refine y_iload_n (pc := 6) F dX4_copiesOn_6 rfl ?_
  refine y_if_lt (pc := 7) (tgt := 19) F dX4_copiesOn_7 rfl ?_ ?_
  · refine y_iconst (v := 1) (pc := 19) F dX4_copiesOn_19 rfl ?_
    exact y_iret hr dX4_copiesOn_20 rfl rfl
  · refine y_aload_n (pc := 10) F dX4_copiesOn_10 rfl ?_
    refine y_get (pc := 11) F dX4_copiesOn_11 kF_X4_15 0 WL_at0 rfl ?_
    refine y_iload_n (pc := 14) F dX4_copiesOn_14 rfl ?_
    refine y_iald (pc := 15) F dX4_copiesOn_15 2 WL_at2 ?_
    refine y_goto (tgt := 20) (pc := 16) F dX4_copiesOn_16 rfl ?_
    exact y_iret hr dX4_copiesOn_20 rfl rfl
abbrev rmX2_goalOf : Room := { frames := 1, cells := 0, slots := 0, locals := 21 }
def pX2_goalOf (oc : Ob) (a1 : Int32) : Option Int32 :=
  Option.bind (pX2_hasSuit oc a1) fun (r1 : Int32) =>
  if r1 = 0 then (some (0 : Int32))
  else (zgd a1 6 <| some ((3 : Int32) * (ga oc 2 (a1.toNatClampNeg))))
set_option maxHeartbeats 4000000 in
set_option maxRecDepth 100000 in
theorem c_X2_goalOf {q : Nat → Nat} (oc : Ob) (a1 : Int32) : zCi l D tA yX2_goalOf cX2_goalOf 2 .int rmX2_goalOf [.ref (q 0), .int a1] (WC tA q oc) (fun (r : Int32) => r) (fun (r : Int32) => (WC tA q oc)) (pX2_goalOf oc a1) := by
  refine zCi_of (lv0 := [some (.ref (q 0)), some (.int a1)]) (by decide +kernel) (Nat.le_of_ble_eq_true rfl) rfl (fun X out F hr => ?_)
  unfold pX2_goalOf
  refine y_aload_n (pc := 0) F dX2_goalOf_0 rfl ?_
  refine y_iload_n (pc := 1) F dX2_goalOf_1 rfl ?_
  refine y_calliW (As := [.int a1]) (st := []) (q0 := 0) (pc := 2) F (c_X2_hasSuit (q := q) oc a1) dX2_goalOf_2 kM_X2_37 ⟨rfl, rfl⟩ ⟨Nat.le_of_ble_eq_true rfl, Nat.le_of_ble_eq_true rfl⟩ rfl rfl rfl (Nat.le_of_ble_eq_true rfl) rfl rfl WC_at0 (fun r1 => ?_)
  refine y_if_eq (pc := 5) (tgt := 19) F dX2_goalOf_5 rfl ?_ ?_
  · refine y_iconst (v := 0) (pc := 19) F dX2_goalOf_19 rfl ?_
    exact y_iret hr dX2_goalOf_20 rfl rfl
  · refine y_iconst (v := 3) (pc := 8) F dX2_goalOf_8 rfl ?_
    refine y_aload_n (pc := 9) F dX2_goalOf_9 rfl ?_
    refine y_get (pc := 10) F dX2_goalOf_10 kF_X2_9 0 WC_at0 rfl ?_
    refine y_iload_n (pc := 13) F dX2_goalOf_13 rfl ?_
    refine y_iald (pc := 14) F dX2_goalOf_14 1 WC_at1 ?_
    refine y_imul (pc := 15) F dX2_goalOf_15 ?_
    refine y_goto (tgt := 20) (pc := 16) F dX2_goalOf_16 rfl ?_
    exact y_iret hr dX2_goalOf_20 rfl rfl
abbrev rmJ6_bitCount_0f7a4 : Room := { frames := 0, cells := 0, slots := 0, locals := 0 }
def pJ6_bitCount_0f7a4 (a0 : Int32) : Option Int32 :=
  zlet ((a0 - (((a0.toUInt32 >>> ((1 : Int32).toUInt32 &&& Int32.toUInt32 31)).toInt32) &&& (1431655765 : Int32)))) fun (x1 : Int32) =>
  zlet (((x1 &&& (858993459 : Int32)) + (((x1.toUInt32 >>> ((2 : Int32).toUInt32 &&& Int32.toUInt32 31)).toInt32) &&& (858993459 : Int32)))) fun (x2 : Int32) =>
  zlet (((x2 + ((x2.toUInt32 >>> ((4 : Int32).toUInt32 &&& Int32.toUInt32 31)).toInt32)) &&& (252645135 : Int32))) fun (x3 : Int32) =>
  zlet ((x3 + ((x3.toUInt32 >>> ((8 : Int32).toUInt32 &&& Int32.toUInt32 31)).toInt32))) fun (x4 : Int32) =>
  zlet ((x4 + ((x4.toUInt32 >>> ((16 : Int32).toUInt32 &&& Int32.toUInt32 31)).toInt32))) fun (x5 : Int32) =>
  some (x5 &&& (63 : Int32))
set_option maxHeartbeats 4000000 in
set_option maxRecDepth 100000 in
theorem c_J6_bitCount_0f7a4 {q : Nat → Nat} (a0 : Int32) : zCi l D tA yJ6_bitCount_0f7a4 cJ6_bitCount_0f7a4 1 .int rmJ6_bitCount_0f7a4 [.int a0] [] (fun (r : Int32) => r) (fun (r : Int32) => []) (pJ6_bitCount_0f7a4 a0) := by
  refine zCi_of (lv0 := [some (.int a0)]) (by decide +kernel) (Nat.le_of_ble_eq_true rfl) rfl (fun X out F hr => ?_)
  unfold pJ6_bitCount_0f7a4
  refine y_iload_n (pc := 0) F dJ6_bitCount_0f7a4_0 rfl ?_
  refine y_iload_n (pc := 1) F dJ6_bitCount_0f7a4_1 rfl ?_
  refine y_iconst (v := 1) (pc := 2) F dJ6_bitCount_0f7a4_2 rfl ?_
  refine y_iushr (pc := 3) F dJ6_bitCount_0f7a4_3 ?_
  refine y_ldcw (pc := 4) F dJ6_bitCount_0f7a4_4 kC_J6_265 ?_
  refine y_iand (pc := 7) F dJ6_bitCount_0f7a4_7 ?_
  refine y_isub (pc := 8) F dJ6_bitCount_0f7a4_8 ?_
  refine y_lti (fun x1 => ?_)
  refine y_istore_n (lv' := [some (.int x1)]) (pc := 9) F dJ6_bitCount_0f7a4_9 (Nat.le_of_ble_eq_true rfl) rfl rfl ?_
  refine y_iload_n (pc := 10) F dJ6_bitCount_0f7a4_10 rfl ?_
  refine y_ldcw (pc := 11) F dJ6_bitCount_0f7a4_11 kC_J6_266 ?_
  refine y_iand (pc := 14) F dJ6_bitCount_0f7a4_14 ?_
  refine y_iload_n (pc := 15) F dJ6_bitCount_0f7a4_15 rfl ?_
  refine y_iconst (v := 2) (pc := 16) F dJ6_bitCount_0f7a4_16 rfl ?_
  refine y_iushr (pc := 17) F dJ6_bitCount_0f7a4_17 ?_
  refine y_ldcw (pc := 18) F dJ6_bitCount_0f7a4_18 kC_J6_266 ?_
  refine y_iand (pc := 21) F dJ6_bitCount_0f7a4_21 ?_
  refine y_iadd (pc := 22) F dJ6_bitCount_0f7a4_22 ?_
  refine y_lti (fun x2 => ?_)
  refine y_istore_n (lv' := [some (.int x2)]) (pc := 23) F dJ6_bitCount_0f7a4_23 (Nat.le_of_ble_eq_true rfl) rfl rfl ?_
  refine y_iload_n (pc := 24) F dJ6_bitCount_0f7a4_24 rfl ?_
  refine y_iload_n (pc := 25) F dJ6_bitCount_0f7a4_25 rfl ?_
  refine y_iconst (v := 4) (pc := 26) F dJ6_bitCount_0f7a4_26 rfl ?_
  refine y_iushr (pc := 27) F dJ6_bitCount_0f7a4_27 ?_
  refine y_iadd (pc := 28) F dJ6_bitCount_0f7a4_28 ?_
  refine y_ldcw (pc := 29) F dJ6_bitCount_0f7a4_29 kC_J6_267 ?_
  refine y_iand (pc := 32) F dJ6_bitCount_0f7a4_32 ?_
  refine y_lti (fun x3 => ?_)
  refine y_istore_n (lv' := [some (.int x3)]) (pc := 33) F dJ6_bitCount_0f7a4_33 (Nat.le_of_ble_eq_true rfl) rfl rfl ?_
  refine y_iload_n (pc := 34) F dJ6_bitCount_0f7a4_34 rfl ?_
  refine y_iload_n (pc := 35) F dJ6_bitCount_0f7a4_35 rfl ?_
  refine y_bipush (v := 8) (pc := 36) F dJ6_bitCount_0f7a4_36 rfl ?_
  refine y_iushr (pc := 38) F dJ6_bitCount_0f7a4_38 ?_
  refine y_iadd (pc := 39) F dJ6_bitCount_0f7a4_39 ?_
  refine y_lti (fun x4 => ?_)
  refine y_istore_n (lv' := [some (.int x4)]) (pc := 40) F dJ6_bitCount_0f7a4_40 (Nat.le_of_ble_eq_true rfl) rfl rfl ?_
  refine y_iload_n (pc := 41) F dJ6_bitCount_0f7a4_41 rfl ?_
  refine y_iload_n (pc := 42) F dJ6_bitCount_0f7a4_42 rfl ?_
  refine y_bipush (v := 16) (pc := 43) F dJ6_bitCount_0f7a4_43 rfl ?_
  refine y_iushr (pc := 45) F dJ6_bitCount_0f7a4_45 ?_
  refine y_iadd (pc := 46) F dJ6_bitCount_0f7a4_46 ?_
  refine y_lti (fun x5 => ?_)
  refine y_istore_n (lv' := [some (.int x5)]) (pc := 47) F dJ6_bitCount_0f7a4_47 (Nat.le_of_ble_eq_true rfl) rfl rfl ?_
  refine y_iload_n (pc := 48) F dJ6_bitCount_0f7a4_48 rfl ?_
  refine y_bipush (v := 63) (pc := 49) F dJ6_bitCount_0f7a4_49 rfl ?_
  refine y_iand (pc := 51) F dJ6_bitCount_0f7a4_51 ?_
  exact y_iret hr dJ6_bitCount_0f7a4_52 rfl rfl
abbrev rmX2_witnessesOf : Room := { frames := 0, cells := 0, slots := 0, locals := 0 }
def lX2_witnessesOf_4 (oc : Ob) (a1 : Int32) : Nat → Int32 → Int32 → Option Int32
  | 0, _, _ => none
  | f + 1, x1, x2 =>
    if (gi oc 1) ≤ x2 then (some x1)
    else (if (12 : Int32) ≤ x2 then (some x1)
    else (zgd x2 12 <| zjn (fun (x3 : Int32) =>
    zlet (x2 + (1 : Int32)) fun (x4 : Int32) =>
    lX2_witnessesOf_4 oc a1 f x3 x4) fun (K34 : Int32 → Option Int32) =>
    if (ga oc 5 (x2.toNatClampNeg)) = a1 then (zlet ((x1 ||| ((1 : Int32) <<< (x2 &&& 31)))) fun (x5 : Int32) =>
    K34 x5)
    else (K34 x1)))
def pX2_witnessesOf (oc : Ob) (a1 : Int32) : Option Int32 :=
  lX2_witnessesOf_4 oc a1 zfu (0 : Int32) (0 : Int32)
set_option maxHeartbeats 4000000 in
set_option maxRecDepth 100000 in
theorem wlX2_witnessesOf_4 {X : ZX} {out : Int32} (q : Nat → Nat) (oc : Ob) (a1 : Int32) (F : zF l D tA RX2 cX2_witnessesOf 4 rmX2_witnessesOf X) (hr : zRi X D cX2_witnessesOf .int (fun (r : Int32) => r) (fun (r : Int32) => (WC tA q oc)) out) : ∀ (f : Nat) (x1 : Int32) (x2 : Int32), zY X D out (lX2_witnessesOf_4 oc a1 f x1 x2) (WC tA q oc) 4 [some (.ref (q 0)), some (.int a1), some (.int x1), some (.int x2)] [] := by
  intro f
  induction f with
  | zero =>
    intro x1 x2
    exact y_none
  | succ f ih =>
    intro x1 x2
    rw [lX2_witnessesOf_4.eq_2]
    refine y_iload_n (pc := 4) F dX2_witnessesOf_4 rfl ?_
    refine y_aload_n (pc := 5) F dX2_witnessesOf_5 rfl ?_
    refine y_get (pc := 6) F dX2_witnessesOf_6 kF_X2_34 0 WC_at0 rfl ?_
    refine y_icmp_ge (pc := 9) (tgt := 40) F dX2_witnessesOf_9 rfl ?_ ?_
    · refine y_iload_n (pc := 40) F dX2_witnessesOf_40 rfl ?_
      exact y_iret hr dX2_witnessesOf_41 rfl rfl
    · refine y_iload_n (pc := 12) F dX2_witnessesOf_12 rfl ?_
      refine y_bipush (v := 12) (pc := 13) F dX2_witnessesOf_13 rfl ?_
      refine y_icmp_ge (pc := 15) (tgt := 40) F dX2_witnessesOf_15 rfl ?_ ?_
      · refine y_iload_n (pc := 40) F dX2_witnessesOf_40 rfl ?_
        exact y_iret hr dX2_witnessesOf_41 rfl rfl
      · refine y_aload_n (pc := 18) F dX2_witnessesOf_18 rfl ?_
        refine y_get (pc := 19) F dX2_witnessesOf_19 kF_X2_21 0 WC_at0 rfl ?_
        refine y_iload_n (pc := 22) F dX2_witnessesOf_22 rfl ?_
        refine y_iald (pc := 23) F dX2_witnessesOf_23 4 WC_at4 ?_
        refine y_iload_n (pc := 24) F dX2_witnessesOf_24 rfl ?_
        refine y_jn (fun (K34 : Int32 → Option Int32) => ∀ (x3 : Int32), zY X D out (K34 x3) (WC tA q oc) 34 [some (.ref (q 0)), some (.int a1), some (.int x3), some (.int x2)] []) ?_ ?_
        · intro x3
          refine y_iinc (v := 1) (lf := fun (x4 : Int32) => [some (.ref (q 0)), some (.int a1), some (.int x3), some (.int x4)]) (pc := 34) F dX2_witnessesOf_34 rfl rfl rfl (fun _ => rfl) (fun x4 => ?_)
          refine y_goto (tgt := 4) (pc := 37) F dX2_witnessesOf_37 rfl ?_
          exact ih x3 x4
        intro K34 hK34
        refine y_icmp_ne (pc := 25) (tgt := 34) F dX2_witnessesOf_25 rfl ?_ ?_
        · refine y_iload_n (pc := 28) F dX2_witnessesOf_28 rfl ?_
          refine y_iconst (v := 1) (pc := 29) F dX2_witnessesOf_29 rfl ?_
          refine y_iload_n (pc := 30) F dX2_witnessesOf_30 rfl ?_
          refine y_ishl (pc := 31) F dX2_witnessesOf_31 ?_
          refine y_ior (pc := 32) F dX2_witnessesOf_32 ?_
          refine y_lti (fun x5 => ?_)
          refine y_istore_n (lv' := [some (.ref (q 0)), some (.int a1), some (.int x5), some (.int x2)]) (pc := 33) F dX2_witnessesOf_33 (Nat.le_of_ble_eq_true rfl) rfl rfl ?_
          exact hK34 x5
        · exact hK34 x1
set_option maxHeartbeats 4000000 in
set_option maxRecDepth 100000 in
theorem c_X2_witnessesOf {q : Nat → Nat} (oc : Ob) (a1 : Int32) : zCi l D tA yX2_witnessesOf cX2_witnessesOf 4 .int rmX2_witnessesOf [.ref (q 0), .int a1] (WC tA q oc) (fun (r : Int32) => r) (fun (r : Int32) => (WC tA q oc)) (pX2_witnessesOf oc a1) := by
  refine zCi_of (lv0 := [some (.ref (q 0)), some (.int a1), none, none]) (by decide +kernel) (Nat.le_of_ble_eq_true rfl) rfl (fun X out F hr => ?_)
  unfold pX2_witnessesOf
  refine y_iconst (v := 0) (pc := 0) F dX2_witnessesOf_0 rfl ?_
  refine y_istore_n (lv' := [some (.ref (q 0)), some (.int a1), some (.int (0 : Int32)), none]) (pc := 1) F dX2_witnessesOf_1 (Nat.le_of_ble_eq_true rfl) rfl rfl ?_
  refine y_iconst (v := 0) (pc := 2) F dX2_witnessesOf_2 rfl ?_
  refine y_istore_n (lv' := [some (.ref (q 0)), some (.int a1), some (.int (0 : Int32)), some (.int (0 : Int32))]) (pc := 3) F dX2_witnessesOf_3 (Nat.le_of_ble_eq_true rfl) rfl rfl ?_
  exact wlX2_witnessesOf_4 q oc a1 F hr zfu (0 : Int32) (0 : Int32)
abbrev rmX5_hasMore : Room := { frames := 0, cells := 0, slots := 0, locals := 0 }
def pX5_hasMore (od : Ob) (ot : Ob) : Option Int32 :=
  if (gi od 1) = 0 then (if (gi ot 1) ≤ (gi od 3) then (zgz (0 : Int32) (some (0 : Int32)))
  else (zgz (1 : Int32) (some (1 : Int32))))
  else (zgz (0 : Int32) (some (0 : Int32)))
set_option maxHeartbeats 4000000 in
set_option maxRecDepth 100000 in
theorem c_X5_hasMore {q : Nat → Nat} (od : Ob) (ot : Ob) : zCi l D tA yX5_hasMore cX5_hasMore 1 .boolean rmX5_hasMore [.ref (q 0)] (WR tA q od ot) (fun (r : Int32) => r) (fun (r : Int32) => (WR tA q od ot)) (pX5_hasMore od ot) := by
  refine zCi_of (lv0 := [some (.ref (q 0))]) (by decide +kernel) (Nat.le_of_ble_eq_true rfl) rfl (fun X out F hr => ?_)
  unfold pX5_hasMore
  refine y_aload_n (pc := 0) F dX5_hasMore_0 rfl ?_
  refine y_get (pc := 1) F dX5_hasMore_1 kF_X5_15 0 WR_at0 rfl ?_
  refine y_if_ne (pc := 4) (tgt := 25) F dX5_hasMore_4 rfl ?_ ?_
  · refine y_aload_n (pc := 7) F dX5_hasMore_7 rfl ?_
    refine y_get (pc := 8) F dX5_hasMore_8 kF_X5_22 0 WR_at0 rfl ?_
    refine y_aload_n (pc := 11) F dX5_hasMore_11 rfl ?_
    refine y_get (pc := 12) F dX5_hasMore_12 kF_X5_9 0 WR_at0 rfl ?_
    refine y_get (pc := 15) F dX5_hasMore_15 kF_X5_29 1 WR_at1 rfl ?_
    refine y_icmp_ge (pc := 18) (tgt := 25) F dX5_hasMore_18 rfl ?_ ?_
    · refine y_iconst (v := 0) (pc := 25) F dX5_hasMore_25 rfl ?_
      exact y_zret hr dX5_hasMore_26 rfl rfl
    · refine y_iconst (v := 1) (pc := 21) F dX5_hasMore_21 rfl ?_
      refine y_goto (tgt := 26) (pc := 22) F dX5_hasMore_22 rfl ?_
      exact y_zret hr dX5_hasMore_26 rfl rfl
  · refine y_iconst (v := 0) (pc := 25) F dX5_hasMore_25 rfl ?_
    exact y_zret hr dX5_hasMore_26 rfl rfl
abbrev rmX5_isSound : Room := { frames := 0, cells := 0, slots := 0, locals := 0 }
def pX5_isSound (od : Ob) (ot : Ob) : Option Int32 :=
  if (gi od 1) = 0 then (zgz (1 : Int32) (some (1 : Int32)))
  else (zgz (0 : Int32) (some (0 : Int32)))
set_option maxHeartbeats 4000000 in
set_option maxRecDepth 100000 in
theorem c_X5_isSound {q : Nat → Nat} (od : Ob) (ot : Ob) : zCi l D tA yX5_isSound cX5_isSound 1 .boolean rmX5_isSound [.ref (q 0)] (WR tA q od ot) (fun (r : Int32) => r) (fun (r : Int32) => (WR tA q od ot)) (pX5_isSound od ot) := by
  refine zCi_of (lv0 := [some (.ref (q 0))]) (by decide +kernel) (Nat.le_of_ble_eq_true rfl) rfl (fun X out F hr => ?_)
  unfold pX5_isSound
  refine y_aload_n (pc := 0) F dX5_isSound_0 rfl ?_
  refine y_get (pc := 1) F dX5_isSound_1 kF_X5_15 0 WR_at0 rfl ?_
  refine y_if_ne (pc := 4) (tgt := 11) F dX5_isSound_4 rfl ?_ ?_
  · refine y_iconst (v := 1) (pc := 7) F dX5_isSound_7 rfl ?_
    refine y_goto (tgt := 12) (pc := 8) F dX5_isSound_8 rfl ?_
    exact y_zret hr dX5_isSound_12 rfl rfl
  · refine y_iconst (v := 0) (pc := 11) F dX5_isSound_11 rfl ?_
    exact y_zret hr dX5_isSound_12 rfl rfl
abbrev rmX5_byteAt : Room := { frames := 0, cells := 0, slots := 0, locals := 0 }
def pX5_byteAt (od : Ob) (ot : Ob) (a1 : Int32) : Option Int32 :=
  if a1 < 0 then (some (-1 : Int32))
  else (if (gi ot 1) ≤ a1 then (some (-1 : Int32))
  else (if (500 : Int32) ≤ a1 then (some (-1 : Int32))
  else (zgd a1 500 <| some ((ga ot 0 (a1.toNatClampNeg)) &&& (255 : Int32)))))
set_option maxHeartbeats 4000000 in
set_option maxRecDepth 100000 in
theorem c_X5_byteAt {q : Nat → Nat} (od : Ob) (ot : Ob) (a1 : Int32) : zCi l D tA yX5_byteAt cX5_byteAt 2 .int rmX5_byteAt [.ref (q 0), .int a1] (WR tA q od ot) (fun (r : Int32) => r) (fun (r : Int32) => (WR tA q od ot)) (pX5_byteAt od ot a1) := by
  refine zCi_of (lv0 := [some (.ref (q 0)), some (.int a1)]) (by decide +kernel) (Nat.le_of_ble_eq_true rfl) rfl (fun X out F hr => ?_)
  unfold pX5_byteAt
  refine y_iload_n (pc := 0) F dX5_byteAt_0 rfl ?_
  refine y_if_lt (pc := 1) (tgt := 38) F dX5_byteAt_1 rfl ?_ ?_
  · refine y_iconst (v := -1) (pc := 38) F dX5_byteAt_38 rfl ?_
    exact y_iret hr dX5_byteAt_39 rfl rfl
  · refine y_iload_n (pc := 4) F dX5_byteAt_4 rfl ?_
    refine y_aload_n (pc := 5) F dX5_byteAt_5 rfl ?_
    refine y_get (pc := 6) F dX5_byteAt_6 kF_X5_9 0 WR_at0 rfl ?_
    refine y_get (pc := 9) F dX5_byteAt_9 kF_X5_29 1 WR_at1 rfl ?_
    refine y_icmp_ge (pc := 12) (tgt := 38) F dX5_byteAt_12 rfl ?_ ?_
    · refine y_iconst (v := -1) (pc := 38) F dX5_byteAt_38 rfl ?_
      exact y_iret hr dX5_byteAt_39 rfl rfl
    · refine y_iload_n (pc := 15) F dX5_byteAt_15 rfl ?_
      refine y_sipush (v := 500) (pc := 16) F dX5_byteAt_16 rfl ?_
      refine y_icmp_ge (pc := 19) (tgt := 38) F dX5_byteAt_19 rfl ?_ ?_
      · refine y_iconst (v := -1) (pc := 38) F dX5_byteAt_38 rfl ?_
        exact y_iret hr dX5_byteAt_39 rfl rfl
      · refine y_aload_n (pc := 22) F dX5_byteAt_22 rfl ?_
        refine y_get (pc := 23) F dX5_byteAt_23 kF_X5_9 0 WR_at0 rfl ?_
        refine y_get (pc := 26) F dX5_byteAt_26 kF_X5_72 1 WR_at1 rfl ?_
        refine y_iload_n (pc := 29) F dX5_byteAt_29 rfl ?_
        refine y_bald (pc := 30) F dX5_byteAt_30 2 WR_at2 ?_
        refine y_sipush (v := 255) (pc := 31) F dX5_byteAt_31 rfl ?_
        refine y_iand (pc := 34) F dX5_byteAt_34 ?_
        refine y_goto (tgt := 39) (pc := 35) F dX5_byteAt_35 rfl ?_
        exact y_iret hr dX5_byteAt_39 rfl rfl
abbrev rmX5_isLetter : Room := { frames := 0, cells := 0, slots := 0, locals := 0 }
def pX5_isLetter (a0 : Int32) : Option Int32 :=
  if a0 < (97 : Int32) then (zgz (0 : Int32) (some (0 : Int32)))
  else (if (122 : Int32) < a0 then (zgz (0 : Int32) (some (0 : Int32)))
  else (zgz (1 : Int32) (some (1 : Int32))))
set_option maxHeartbeats 4000000 in
set_option maxRecDepth 100000 in
theorem c_X5_isLetter {q : Nat → Nat} (a0 : Int32) : zCi l D tA yX5_isLetter cX5_isLetter 1 .boolean rmX5_isLetter [.int a0] [] (fun (r : Int32) => r) (fun (r : Int32) => []) (pX5_isLetter a0) := by
  refine zCi_of (lv0 := [some (.int a0)]) (by decide +kernel) (Nat.le_of_ble_eq_true rfl) rfl (fun X out F hr => ?_)
  unfold pX5_isLetter
  refine y_iload_n (pc := 0) F dX5_isLetter_0 rfl ?_
  refine y_bipush (v := 97) (pc := 1) F dX5_isLetter_1 rfl ?_
  refine y_icmp_lt (pc := 3) (tgt := 16) F dX5_isLetter_3 rfl ?_ ?_
  · refine y_iconst (v := 0) (pc := 16) F dX5_isLetter_16 rfl ?_
    exact y_zret hr dX5_isLetter_17 rfl rfl
  · refine y_iload_n (pc := 6) F dX5_isLetter_6 rfl ?_
    refine y_bipush (v := 122) (pc := 7) F dX5_isLetter_7 rfl ?_
    refine y_icmp_gt (pc := 9) (tgt := 16) F dX5_isLetter_9 rfl ?_ ?_
    · refine y_iconst (v := 0) (pc := 16) F dX5_isLetter_16 rfl ?_
      exact y_zret hr dX5_isLetter_17 rfl rfl
    · refine y_iconst (v := 1) (pc := 12) F dX5_isLetter_12 rfl ?_
      refine y_goto (tgt := 17) (pc := 13) F dX5_isLetter_13 rfl ?_
      exact y_zret hr dX5_isLetter_17 rfl rfl
abbrev rmX5_seesWord : Room := { frames := 4, cells := 0, slots := 0, locals := 120 }
def lX5_seesWord_2 (w0 : Nat) (od : Ob) (ot : Ob) (K36 : Option Int32) : Nat → Int32 → Option Int32
  | 0, _ => none
  | f + 1, x4 =>
    Option.bind (some (nI (zlen.getD w0 0))) fun (r5 : Int32) =>
    if r5 ≤ x4 then (K36)
    else (Option.bind (pX5_byteAt od ot ((gi od 3) + x4)) fun (r6 : Int32) =>
    Option.bind (zgd x4 (zlen.getD w0 0) (some (zchr w0 x4))) fun (r7 : Int32) =>
    if r6 = r7 then (zlet (x4 + (1 : Int32)) fun (x8 : Int32) =>
    lX5_seesWord_2 w0 od ot K36 f x8)
    else (zgz (0 : Int32) (some (0 : Int32))))
def pX5_seesWord (w0 : Nat) (od : Ob) (ot : Ob) : Option Int32 :=
  zjn (Option.bind (some (nI (zlen.getD w0 0))) fun (r1 : Int32) =>
  Option.bind (pX5_byteAt od ot ((gi od 3) + r1)) fun (r2 : Int32) =>
  Option.bind (pX5_isLetter r2) fun (r3 : Int32) =>
  if r3 = 0 then (zgz (1 : Int32) (some (1 : Int32)))
  else (zgz (0 : Int32) (some (0 : Int32)))) fun (K36 : Option Int32) =>
  lX5_seesWord_2 w0 od ot K36 zfu (0 : Int32)
set_option maxHeartbeats 4000000 in
set_option maxRecDepth 100000 in
theorem wlX5_seesWord_2 {X : ZX} {out : Int32} (q : Nat → Nat) (w0 : Nat) (hw : w0 < 8) (od : Ob) (ot : Ob) (F : zF l D tA RX5 cX5_seesWord 3 rmX5_seesWord X) (hr : zRi X D cX5_seesWord .boolean (fun (r : Int32) => r) (fun (r : Int32) => (WR tA q od ot)) out) {K36 : Option Int32} (hK36 : zY X D out (K36) (WR tA q od ot) 36 [some (.ref (q 0)), some (.ref (tA (100 + w0))), none] []) : ∀ (f : Nat) (x4 : Int32), zY X D out (lX5_seesWord_2 w0 od ot K36 f x4) (WR tA q od ot) 2 [some (.ref (q 0)), some (.ref (tA (100 + w0))), some (.int x4)] [] := by
  intro f
  induction f with
  | zero =>
    intro x4
    exact y_none
  | succ f ih =>
    intro x4
    rw [lX5_seesWord_2.eq_2]
    refine y_iload_n (pc := 2) F dX5_seesWord_2 rfl ?_
    refine y_aload_n (pc := 3) F dX5_seesWord_3 rfl ?_
    refine y_callS (As := []) (st := [.int x4]) (pc := 4) F hw (c_length w0 hw) dX5_seesWord_4 kM_X5_49 ⟨rfl, rfl⟩ ⟨Nat.le_of_ble_eq_true rfl, Nat.le_of_ble_eq_true rfl⟩ rfl rfl rfl (Nat.le_of_ble_eq_true rfl) rfl (fun r5 => ?_)
    refine y_icmp_ge (pc := 7) (tgt := 36) F dX5_seesWord_7 rfl ?_ ?_
    · refine y_le (lv' := [some (.ref (q 0)), some (.ref (tA (100 + w0))), none]) ⟨rfl, ⟨rfl, trivial⟩⟩ ?_
      exact hK36
    · refine y_aload_n (pc := 10) F dX5_seesWord_10 rfl ?_
      refine y_aload_n (pc := 11) F dX5_seesWord_11 rfl ?_
      refine y_get (pc := 12) F dX5_seesWord_12 kF_X5_22 0 WR_at0 rfl ?_
      refine y_iload_n (pc := 15) F dX5_seesWord_15 rfl ?_
      refine y_iadd (pc := 16) F dX5_seesWord_16 ?_
      refine y_calliW (As := [.int ((gi od 3) + x4)]) (st := []) (q0 := 0) (pc := 17) F (c_X5_byteAt (q := q) od ot ((gi od 3) + x4)) dX5_seesWord_17 kM_X5_54 ⟨rfl, rfl⟩ ⟨Nat.le_of_ble_eq_true rfl, Nat.le_of_ble_eq_true rfl⟩ rfl rfl rfl (Nat.le_of_ble_eq_true rfl) rfl rfl WR_at0 (fun r6 => ?_)
      refine y_aload_n (pc := 20) F dX5_seesWord_20 rfl ?_
      refine y_iload_n (pc := 21) F dX5_seesWord_21 rfl ?_
      refine y_callS (As := [.int x4]) (st := [.int r6]) (pc := 22) F hw (c_charAt w0 hw (zl8 w0 hw) x4) dX5_seesWord_22 kM_X5_65 ⟨rfl, rfl⟩ ⟨Nat.le_of_ble_eq_true rfl, Nat.le_of_ble_eq_true rfl⟩ rfl rfl rfl (Nat.le_of_ble_eq_true rfl) rfl (fun r7 => ?_)
      refine y_icmp_eq (pc := 25) (tgt := 30) F dX5_seesWord_25 rfl ?_ ?_
      · refine y_iinc (v := 1) (lf := fun (x8 : Int32) => [some (.ref (q 0)), some (.ref (tA (100 + w0))), some (.int x8)]) (pc := 30) F dX5_seesWord_30 rfl rfl rfl (fun _ => rfl) (fun x8 => ?_)
        refine y_goto (tgt := 2) (pc := 33) F dX5_seesWord_33 rfl ?_
        exact ih x8
      · refine y_iconst (v := 0) (pc := 28) F dX5_seesWord_28 rfl ?_
        exact y_zret hr dX5_seesWord_29 rfl rfl
set_option maxHeartbeats 4000000 in
set_option maxRecDepth 100000 in
theorem c_X5_seesWord {q : Nat → Nat} (w0 : Nat) (hw : w0 < 8) (od : Ob) (ot : Ob) : zCi l D tA yX5_seesWord cX5_seesWord 3 .boolean rmX5_seesWord [.ref (q 0), .ref (tA (100 + w0))] (WR tA q od ot) (fun (r : Int32) => r) (fun (r : Int32) => (WR tA q od ot)) (pX5_seesWord w0 od ot) := by
  refine zCi_of (lv0 := [some (.ref (q 0)), some (.ref (tA (100 + w0))), none]) (by decide +kernel) (Nat.le_of_ble_eq_true rfl) rfl (fun X out F hr => ?_)
  unfold pX5_seesWord
  refine y_iconst (v := 0) (pc := 0) F dX5_seesWord_0 rfl ?_
  refine y_istore_n (lv' := [some (.ref (q 0)), some (.ref (tA (100 + w0))), some (.int (0 : Int32))]) (pc := 1) F dX5_seesWord_1 (Nat.le_of_ble_eq_true rfl) rfl rfl ?_
  refine y_jn (fun (K36 : Option Int32) => zY X D out (K36) (WR tA q od ot) 36 [some (.ref (q 0)), some (.ref (tA (100 + w0))), none] []) ?_ ?_
  · skip
    refine y_aload_n (pc := 36) F dX5_seesWord_36 rfl ?_
    refine y_aload_n (pc := 37) F dX5_seesWord_37 rfl ?_
    refine y_get (pc := 38) F dX5_seesWord_38 kF_X5_22 0 WR_at0 rfl ?_
    refine y_aload_n (pc := 41) F dX5_seesWord_41 rfl ?_
    refine y_callS (As := []) (st := [.int (gi od 3), .ref (q 0)]) (pc := 42) F hw (c_length w0 hw) dX5_seesWord_42 kM_X5_49 ⟨rfl, rfl⟩ ⟨Nat.le_of_ble_eq_true rfl, Nat.le_of_ble_eq_true rfl⟩ rfl rfl rfl (Nat.le_of_ble_eq_true rfl) rfl (fun r1 => ?_)
    refine y_iadd (pc := 45) F dX5_seesWord_45 ?_
    refine y_calliW (As := [.int ((gi od 3) + r1)]) (st := []) (q0 := 0) (pc := 46) F (c_X5_byteAt (q := q) od ot ((gi od 3) + r1)) dX5_seesWord_46 kM_X5_54 ⟨rfl, rfl⟩ ⟨Nat.le_of_ble_eq_true rfl, Nat.le_of_ble_eq_true rfl⟩ rfl rfl rfl (Nat.le_of_ble_eq_true rfl) rfl rfl WR_at0 (fun r2 => ?_)
    refine y_scalliP (As := [.int r2]) (st := []) (pc := 49) F (c_X5_isLetter (q := q) r2) dX5_seesWord_49 kM_X5_69 ⟨rfl, rfl⟩ ⟨Nat.le_of_ble_eq_true rfl, Nat.le_of_ble_eq_true rfl⟩ rfl rfl rfl (Nat.le_of_ble_eq_true rfl) (fun r3 => ?_)
    refine y_if_ne (pc := 52) (tgt := 59) F dX5_seesWord_52 rfl ?_ ?_
    · refine y_iconst (v := 1) (pc := 55) F dX5_seesWord_55 rfl ?_
      refine y_goto (tgt := 60) (pc := 56) F dX5_seesWord_56 rfl ?_
      exact y_zret hr dX5_seesWord_60 rfl rfl
    · refine y_iconst (v := 0) (pc := 59) F dX5_seesWord_59 rfl ?_
      exact y_zret hr dX5_seesWord_60 rfl rfl
  intro K36 hK36
  exact wlX5_seesWord_2 q w0 hw od ot F hr hK36 zfu (0 : Int32)
abbrev rmX5_pass : Room := { frames := 1, cells := 0, slots := 0, locals := 21 }
def lX5_pass_20 (ot : Ob) : Nat → Int32 → Ob → Option Ob
  | 0, _, _ => none
  | f + 1, x3, o4 =>
    if (500 : Int32) ≤ x3 then (some o4)
    else (Option.bind (pX5_byteAt o4 ot (gi o4 3)) fun (r5 : Int32) =>
    if r5 = (32 : Int32) then (zlet (si o4 3 ((gi o4 3) + (1 : Int32))) fun (o6 : Ob) =>
    zlet (x3 + (1 : Int32)) fun (x7 : Int32) =>
    lX5_pass_20 ot f x7 o6)
    else (some o4))
def pX5_pass (od : Ob) (ot : Ob) (a1 : Int32) : Option Ob :=
  zlet (si od 4 (gi od 3)) fun (o1 : Ob) =>
  zlet (si o1 3 ((gi o1 3) + a1)) fun (o2 : Ob) =>
  lX5_pass_20 ot zfu (0 : Int32) o2
set_option maxHeartbeats 4000000 in
set_option maxRecDepth 100000 in
theorem wlX5_pass_20 {X : ZX} {out : Ob} (q : Nat → Nat) (ot : Ob) (F : zF l D tA RX5 cX5_pass 3 rmX5_pass X) (hr : zRv X D cX5_pass (fun (r : Ob) => (WR tA q r ot)) out) : ∀ (f : Nat) (x3 : Int32) (o4 : Ob), zY X D out (lX5_pass_20 ot f x3 o4) (WR tA q o4 ot) 20 [some (.ref (q 0)), none, some (.int x3)] [] := by
  intro f
  induction f with
  | zero =>
    intro x3 o4
    exact y_none
  | succ f ih =>
    intro x3 o4
    rw [lX5_pass_20.eq_2]
    refine y_iload_n (pc := 20) F dX5_pass_20 rfl ?_
    refine y_sipush (v := 500) (pc := 21) F dX5_pass_21 rfl ?_
    refine y_icmp_ge (pc := 24) (tgt := 56) F dX5_pass_24 rfl ?_ ?_
    · exact y_vret hr dX5_pass_56 rfl
    · refine y_aload_n (pc := 27) F dX5_pass_27 rfl ?_
      refine y_aload_n (pc := 28) F dX5_pass_28 rfl ?_
      refine y_get (pc := 29) F dX5_pass_29 kF_X5_22 0 WR_at0 rfl ?_
      refine y_calliW (As := [.int (gi o4 3)]) (st := []) (q0 := 0) (pc := 32) F (c_X5_byteAt (q := q) o4 ot (gi o4 3)) dX5_pass_32 kM_X5_54 ⟨rfl, rfl⟩ ⟨Nat.le_of_ble_eq_true rfl, Nat.le_of_ble_eq_true rfl⟩ rfl rfl rfl (Nat.le_of_ble_eq_true rfl) rfl rfl WR_at0 (fun r5 => ?_)
      refine y_bipush (v := 32) (pc := 35) F dX5_pass_35 rfl ?_
      refine y_icmp_ne (pc := 37) (tgt := 56) F dX5_pass_37 rfl ?_ ?_
      · refine y_aload_n (pc := 40) F dX5_pass_40 rfl ?_
        refine y_dup (pc := 41) F dX5_pass_41 rfl ?_
        refine y_get (pc := 42) F dX5_pass_42 kF_X5_22 0 WR_at0 rfl ?_
        refine y_iconst (v := 1) (pc := 45) F dX5_pass_45 rfl ?_
        refine y_iadd (pc := 46) F dX5_pass_46 ?_
        refine y_put (pc := 47) F dX5_pass_47 kF_X5_22 0 WR_at0 rfl rfl rfl (Nat.le_of_ble_eq_true rfl) (fun (o6 : Ob) => (WR tA q o6 ot)) (WR_pt0_3 _) (fun o6 => ?_)
        refine y_iinc (v := 1) (lf := fun (x7 : Int32) => [some (.ref (q 0)), none, some (.int x7)]) (pc := 50) F dX5_pass_50 rfl rfl rfl (fun _ => rfl) (fun x7 => ?_)
        refine y_goto (tgt := 20) (pc := 53) F dX5_pass_53 rfl ?_
        exact ih x7 o6
      · exact y_vret hr dX5_pass_56 rfl
set_option maxHeartbeats 4000000 in
set_option maxRecDepth 100000 in
theorem c_X5_pass {q : Nat → Nat} (od : Ob) (ot : Ob) (a1 : Int32) : zCv l D tA yX5_pass cX5_pass 3 rmX5_pass [.ref (q 0), .int a1] (WR tA q od ot) (fun (r : Ob) => (WR tA q r ot)) (pX5_pass od ot a1) := by
  refine zCv_of (lv0 := [some (.ref (q 0)), some (.int a1), none]) (by decide +kernel) (Nat.le_of_ble_eq_true rfl) rfl (fun X out F hr => ?_)
  unfold pX5_pass
  refine y_aload_n (pc := 0) F dX5_pass_0 rfl ?_
  refine y_aload_n (pc := 1) F dX5_pass_1 rfl ?_
  refine y_get (pc := 2) F dX5_pass_2 kF_X5_22 0 WR_at0 rfl ?_
  refine y_put (pc := 5) F dX5_pass_5 kF_X5_38 0 WR_at0 rfl rfl rfl (Nat.le_of_ble_eq_true rfl) (fun (o1 : Ob) => (WR tA q o1 ot)) (WR_pt0_4 _) (fun o1 => ?_)
  refine y_aload_n (pc := 8) F dX5_pass_8 rfl ?_
  refine y_dup (pc := 9) F dX5_pass_9 rfl ?_
  refine y_get (pc := 10) F dX5_pass_10 kF_X5_22 0 WR_at0 rfl ?_
  refine y_iload_n (pc := 13) F dX5_pass_13 rfl ?_
  refine y_iadd (pc := 14) F dX5_pass_14 ?_
  refine y_put (pc := 15) F dX5_pass_15 kF_X5_22 0 WR_at0 rfl rfl rfl (Nat.le_of_ble_eq_true rfl) (fun (o2 : Ob) => (WR tA q o2 ot)) (WR_pt0_3 _) (fun o2 => ?_)
  refine y_iconst (v := 0) (pc := 18) F dX5_pass_18 rfl ?_
  refine y_istore_n (lv' := [some (.ref (q 0)), some (.int a1), some (.int (0 : Int32))]) (pc := 19) F dX5_pass_19 (Nat.le_of_ble_eq_true rfl) rfl rfl ?_
  refine y_le (lv' := [some (.ref (q 0)), none, some (.int (0 : Int32))]) ⟨rfl, ⟨rfl, trivial⟩⟩ ?_
  exact wlX5_pass_20 q ot F hr zfu (0 : Int32) o2
abbrev rmX5_takesWord : Room := { frames := 5, cells := 0, slots := 0, locals := 142 }
def pX5_takesWord (w0 : Nat) (od : Ob) (ot : Ob) : Option (Int32 × Ob) :=
  Option.bind (pX5_isSound od ot) fun (r1 : Int32) =>
  if r1 = 0 then (zgz (0 : Int32) (some ((0 : Int32), od)))
  else (Option.bind (pX5_seesWord w0 od ot) fun (r2 : Int32) =>
  if r2 = 0 then (zgz (0 : Int32) (some ((0 : Int32), od)))
  else (Option.bind (some (nI (zlen.getD w0 0))) fun (r3 : Int32) =>
  Option.bind (pX5_pass od ot r3) fun (r4 : Ob) =>
  zgz (1 : Int32) (some ((1 : Int32), r4))))
set_option maxHeartbeats 4000000 in
set_option maxRecDepth 100000 in
theorem c_X5_takesWord {q : Nat → Nat} (w0 : Nat) (hw : w0 < 8) (od : Ob) (ot : Ob) : zCi l D tA yX5_takesWord cX5_takesWord 2 .boolean rmX5_takesWord [.ref (q 0), .ref (tA (100 + w0))] (WR tA q od ot) (fun (r : Int32 × Ob) => (r.1)) (fun (r : Int32 × Ob) => (WR tA q (r.2) ot)) (pX5_takesWord w0 od ot) := by
  refine zCi_of (lv0 := [some (.ref (q 0)), some (.ref (tA (100 + w0)))]) (by decide +kernel) (Nat.le_of_ble_eq_true rfl) rfl (fun X out F hr => ?_)
  unfold pX5_takesWord
  refine y_aload_n (pc := 0) F dX5_takesWord_0 rfl ?_
  refine y_calliW (As := []) (st := []) (q0 := 0) (pc := 1) F (c_X5_isSound (q := q) od ot) dX5_takesWord_1 kM_X5_41 ⟨rfl, rfl⟩ ⟨Nat.le_of_ble_eq_true rfl, Nat.le_of_ble_eq_true rfl⟩ rfl rfl rfl (Nat.le_of_ble_eq_true rfl) rfl rfl WR_at0 (fun r1 => ?_)
  refine y_if_eq (pc := 4) (tgt := 15) F dX5_takesWord_4 rfl ?_ ?_
  · refine y_iconst (v := 0) (pc := 15) F dX5_takesWord_15 rfl ?_
    exact y_zret hr dX5_takesWord_16 rfl rfl
  · refine y_aload_n (pc := 7) F dX5_takesWord_7 rfl ?_
    refine y_aload_n (pc := 8) F dX5_takesWord_8 rfl ?_
    refine y_calliW (As := [.ref (tA (100 + w0))]) (st := []) (q0 := 0) (pc := 9) F (c_X5_seesWord w0 hw (q := q) od ot) dX5_takesWord_9 kM_X5_45 ⟨rfl, rfl⟩ ⟨Nat.le_of_ble_eq_true rfl, Nat.le_of_ble_eq_true rfl⟩ rfl rfl rfl (Nat.le_of_ble_eq_true rfl) rfl rfl WR_at0 (fun r2 => ?_)
    refine y_if_ne (pc := 12) (tgt := 17) F dX5_takesWord_12 rfl ?_ ?_
    · refine y_iconst (v := 0) (pc := 15) F dX5_takesWord_15 rfl ?_
      exact y_zret hr dX5_takesWord_16 rfl rfl
    · refine y_aload_n (pc := 17) F dX5_takesWord_17 rfl ?_
      refine y_aload_n (pc := 18) F dX5_takesWord_18 rfl ?_
      refine y_callS (As := []) (st := [.ref (q 0)]) (pc := 19) F hw (c_length w0 hw) dX5_takesWord_19 kM_X5_49 ⟨rfl, rfl⟩ ⟨Nat.le_of_ble_eq_true rfl, Nat.le_of_ble_eq_true rfl⟩ rfl rfl rfl (Nat.le_of_ble_eq_true rfl) rfl (fun r3 => ?_)
      refine y_callvW (As := [.int r3]) (st := []) (q0 := 0) (pc := 22) F (c_X5_pass (q := q) od ot r3) dX5_takesWord_22 kM_X5_25 ⟨rfl, rfl⟩ ⟨Nat.le_of_ble_eq_true rfl, Nat.le_of_ble_eq_true rfl⟩ rfl rfl rfl (Nat.le_of_ble_eq_true rfl) rfl rfl WR_at0 (fun r4 => ?_)
      refine y_iconst (v := 1) (pc := 25) F dX5_takesWord_25 rfl ?_
      exact y_zret hr dX5_takesWord_26 rfl rfl
abbrev rmX5_refuseAt : Room := { frames := 0, cells := 0, slots := 0, locals := 0 }
def pX5_refuseAt (od : Ob) (ot : Ob) (a1 : Int32) (a2 : Int32) : Option Ob :=
  if (gi od 1) = 0 then (zlet (si od 1 a2) fun (o1 : Ob) =>
  zlet (si o1 2 a1) fun (o2 : Ob) =>
  some o2)
  else (some od)
set_option maxHeartbeats 4000000 in
set_option maxRecDepth 100000 in
theorem c_X5_refuseAt {q : Nat → Nat} (od : Ob) (ot : Ob) (a1 : Int32) (a2 : Int32) : zCv l D tA yX5_refuseAt cX5_refuseAt 3 rmX5_refuseAt [.ref (q 0), .int a1, .int a2] (WR tA q od ot) (fun (r : Ob) => (WR tA q r ot)) (pX5_refuseAt od ot a1 a2) := by
  refine zCv_of (lv0 := [some (.ref (q 0)), some (.int a1), some (.int a2)]) (by decide +kernel) (Nat.le_of_ble_eq_true rfl) rfl (fun X out F hr => ?_)
  unfold pX5_refuseAt
  refine y_aload_n (pc := 0) F dX5_refuseAt_0 rfl ?_
  refine y_get (pc := 1) F dX5_refuseAt_1 kF_X5_15 0 WR_at0 rfl ?_
  refine y_if_ne (pc := 4) (tgt := 17) F dX5_refuseAt_4 rfl ?_ ?_
  · refine y_aload_n (pc := 7) F dX5_refuseAt_7 rfl ?_
    refine y_iload_n (pc := 8) F dX5_refuseAt_8 rfl ?_
    refine y_put (pc := 9) F dX5_refuseAt_9 kF_X5_15 0 WR_at0 rfl rfl rfl (Nat.le_of_ble_eq_true rfl) (fun (o1 : Ob) => (WR tA q o1 ot)) (WR_pt0_1 _) (fun o1 => ?_)
    refine y_aload_n (pc := 12) F dX5_refuseAt_12 rfl ?_
    refine y_iload_n (pc := 13) F dX5_refuseAt_13 rfl ?_
    refine y_put (pc := 14) F dX5_refuseAt_14 kF_X5_19 0 WR_at0 rfl rfl rfl (Nat.le_of_ble_eq_true rfl) (fun (o2 : Ob) => (WR tA q o2 ot)) (WR_pt0_2 _) (fun o2 => ?_)
    exact y_vret hr dX5_refuseAt_17 rfl
  · exact y_vret hr dX5_refuseAt_17 rfl
abbrev rmX5_refuseTaken : Room := { frames := 1, cells := 0, slots := 0, locals := 22 }
def pX5_refuseTaken (od : Ob) (ot : Ob) (a1 : Int32) : Option Ob :=
  Option.bind (pX5_refuseAt od ot (gi od 4) a1) fun (r1 : Ob) =>
  some r1
set_option maxHeartbeats 4000000 in
set_option maxRecDepth 100000 in
theorem c_X5_refuseTaken {q : Nat → Nat} (od : Ob) (ot : Ob) (a1 : Int32) : zCv l D tA yX5_refuseTaken cX5_refuseTaken 2 rmX5_refuseTaken [.ref (q 0), .int a1] (WR tA q od ot) (fun (r : Ob) => (WR tA q r ot)) (pX5_refuseTaken od ot a1) := by
  refine zCv_of (lv0 := [some (.ref (q 0)), some (.int a1)]) (by decide +kernel) (Nat.le_of_ble_eq_true rfl) rfl (fun X out F hr => ?_)
  unfold pX5_refuseTaken
  refine y_aload_n (pc := 0) F dX5_refuseTaken_0 rfl ?_
  refine y_aload_n (pc := 1) F dX5_refuseTaken_1 rfl ?_
  refine y_get (pc := 2) F dX5_refuseTaken_2 kF_X5_38 0 WR_at0 rfl ?_
  refine y_iload_n (pc := 5) F dX5_refuseTaken_5 rfl ?_
  refine y_callvW (As := [.int (gi od 4), .int a1]) (st := []) (q0 := 0) (pc := 6) F (c_X5_refuseAt (q := q) od ot (gi od 4) a1) dX5_refuseTaken_6 kM_X5_34 ⟨rfl, rfl⟩ ⟨Nat.le_of_ble_eq_true rfl, Nat.le_of_ble_eq_true rfl⟩ rfl rfl rfl (Nat.le_of_ble_eq_true rfl) rfl rfl WR_at0 (fun r1 => ?_)
  exact y_vret hr dX5_refuseTaken_9 rfl
abbrev rmX5_isFigure : Room := { frames := 0, cells := 0, slots := 0, locals := 0 }
def pX5_isFigure (a0 : Int32) : Option Int32 :=
  if a0 < (48 : Int32) then (zgz (0 : Int32) (some (0 : Int32)))
  else (if (57 : Int32) < a0 then (zgz (0 : Int32) (some (0 : Int32)))
  else (zgz (1 : Int32) (some (1 : Int32))))
set_option maxHeartbeats 4000000 in
set_option maxRecDepth 100000 in
theorem c_X5_isFigure {q : Nat → Nat} (a0 : Int32) : zCi l D tA yX5_isFigure cX5_isFigure 1 .boolean rmX5_isFigure [.int a0] [] (fun (r : Int32) => r) (fun (r : Int32) => []) (pX5_isFigure a0) := by
  refine zCi_of (lv0 := [some (.int a0)]) (by decide +kernel) (Nat.le_of_ble_eq_true rfl) rfl (fun X out F hr => ?_)
  unfold pX5_isFigure
  refine y_iload_n (pc := 0) F dX5_isFigure_0 rfl ?_
  refine y_bipush (v := 48) (pc := 1) F dX5_isFigure_1 rfl ?_
  refine y_icmp_lt (pc := 3) (tgt := 16) F dX5_isFigure_3 rfl ?_ ?_
  · refine y_iconst (v := 0) (pc := 16) F dX5_isFigure_16 rfl ?_
    exact y_zret hr dX5_isFigure_17 rfl rfl
  · refine y_iload_n (pc := 6) F dX5_isFigure_6 rfl ?_
    refine y_bipush (v := 57) (pc := 7) F dX5_isFigure_7 rfl ?_
    refine y_icmp_gt (pc := 9) (tgt := 16) F dX5_isFigure_9 rfl ?_ ?_
    · refine y_iconst (v := 0) (pc := 16) F dX5_isFigure_16 rfl ?_
      exact y_zret hr dX5_isFigure_17 rfl rfl
    · refine y_iconst (v := 1) (pc := 12) F dX5_isFigure_12 rfl ?_
      refine y_goto (tgt := 17) (pc := 13) F dX5_isFigure_13 rfl ?_
      exact y_zret hr dX5_isFigure_17 rfl rfl
abbrev rmX5_refuseHere : Room := { frames := 1, cells := 0, slots := 0, locals := 22 }
def pX5_refuseHere (od : Ob) (ot : Ob) (a1 : Int32) : Option Ob :=
  Option.bind (pX5_refuseAt od ot (gi od 3) a1) fun (r1 : Ob) =>
  some r1
set_option maxHeartbeats 4000000 in
set_option maxRecDepth 100000 in
theorem c_X5_refuseHere {q : Nat → Nat} (od : Ob) (ot : Ob) (a1 : Int32) : zCv l D tA yX5_refuseHere cX5_refuseHere 2 rmX5_refuseHere [.ref (q 0), .int a1] (WR tA q od ot) (fun (r : Ob) => (WR tA q r ot)) (pX5_refuseHere od ot a1) := by
  refine zCv_of (lv0 := [some (.ref (q 0)), some (.int a1)]) (by decide +kernel) (Nat.le_of_ble_eq_true rfl) rfl (fun X out F hr => ?_)
  unfold pX5_refuseHere
  refine y_aload_n (pc := 0) F dX5_refuseHere_0 rfl ?_
  refine y_aload_n (pc := 1) F dX5_refuseHere_1 rfl ?_
  refine y_get (pc := 2) F dX5_refuseHere_2 kF_X5_22 0 WR_at0 rfl ?_
  refine y_iload_n (pc := 5) F dX5_refuseHere_5 rfl ?_
  refine y_callvW (As := [.int (gi od 3), .int a1]) (st := []) (q0 := 0) (pc := 6) F (c_X5_refuseAt (q := q) od ot (gi od 3) a1) dX5_refuseHere_6 kM_X5_34 ⟨rfl, rfl⟩ ⟨Nat.le_of_ble_eq_true rfl, Nat.le_of_ble_eq_true rfl⟩ rfl rfl rfl (Nat.le_of_ble_eq_true rfl) rfl rfl WR_at0 (fun r1 => ?_)
  exact y_vret hr dX5_refuseHere_9 rfl
abbrev rmX5_takeNumber : Room := { frames := 2, cells := 0, slots := 0, locals := 43 }
def lX5_takeNumber_20 (od : Ob) (ot : Ob) (K75 : Int32 → Int32 → Option (Int32 × Ob)) : Nat → Int32 → Int32 → Int32 → Option (Int32 × Ob)
  | 0, _, _, _ => none
  | f + 1, x8, x9, x10 =>
    if (gi ot 1) ≤ x10 then (K75 x8 x9)
    else (Option.bind (pX5_byteAt od ot x10) fun (r11 : Int32) =>
    Option.bind (pX5_isFigure r11) fun (r12 : Int32) =>
    if r12 = 0 then (K75 x8 x9)
    else (zlet (x8 + (1 : Int32)) fun (x13 : Int32) =>
    zjn (fun (x14 : Int32) =>
    zlet (x10 + (1 : Int32)) fun (x15 : Int32) =>
    lX5_takeNumber_20 od ot K75 f x13 x14 x15) fun (K69 : Int32 → Option (Int32 × Ob)) =>
    if (3 : Int32) < x13 then (K69 x9)
    else (Option.bind (pX5_byteAt od ot x10) fun (r16 : Int32) =>
    zlet ((((x9 * (10 : Int32)) + r16) - (48 : Int32))) fun (x17 : Int32) =>
    K69 x17)))
def pX5_takeNumber (od : Ob) (ot : Ob) (a1 : Int32) (a2 : Int32) : Option (Int32 × Ob) :=
  Option.bind (pX5_isSound od ot) fun (r1 : Int32) =>
  if r1 = 0 then (some (a1, od))
  else (zlet ((gi od 3)) fun (x2 : Int32) =>
  zjn (fun (x3 : Int32) (x4 : Int32) =>
  if x3 = 0 then (Option.bind (pX5_refuseHere od ot (1 : Int32)) fun (r7 : Ob) =>
  some (a1, r7))
  else (zjn (Option.bind (pX5_refuseHere od ot (2 : Int32)) fun (r5 : Ob) =>
  some (a1, r5)) fun (K103 : Option (Int32 × Ob)) =>
  if (3 : Int32) < x3 then (K103)
  else (if x4 < a1 then (K103)
  else (if x4 ≤ a2 then (Option.bind (pX5_pass od ot x3) fun (r6 : Ob) =>
  some (x4, r6))
  else (K103))))) fun (K75 : Int32 → Int32 → Option (Int32 × Ob)) =>
  lX5_takeNumber_20 od ot K75 zfu (0 : Int32) (0 : Int32) x2)
set_option maxHeartbeats 4000000 in
set_option maxRecDepth 100000 in
theorem wlX5_takeNumber_20 {X : ZX} {out : (Int32 × Ob)} (q : Nat → Nat) (od : Ob) (ot : Ob) (a1 : Int32) (a2 : Int32) (F : zF l D tA RX5 cX5_takeNumber 6 rmX5_takeNumber X) (hr : zRi X D cX5_takeNumber .int (fun (r : Int32 × Ob) => (r.1)) (fun (r : Int32 × Ob) => (WR tA q (r.2) ot)) out) {K75 : Int32 → Int32 → Option (Int32 × Ob)} (hK75 : ∀ (x3 : Int32) (x4 : Int32), zY X D out (K75 x3 x4) (WR tA q od ot) 75 [some (.ref (q 0)), some (.int a1), some (.int a2), some (.int x3), some (.int x4), none] []) : ∀ (f : Nat) (x8 : Int32) (x9 : Int32) (x10 : Int32), zY X D out (lX5_takeNumber_20 od ot K75 f x8 x9 x10) (WR tA q od ot) 20 [some (.ref (q 0)), some (.int a1), some (.int a2), some (.int x8), some (.int x9), some (.int x10)] [] := by
  intro f
  induction f with
  | zero =>
    intro x8 x9 x10
    exact y_none
  | succ f ih =>
    intro x8 x9 x10
    rw [lX5_takeNumber_20.eq_2]
    refine y_iload (pc := 20) F dX5_takeNumber_20 rfl ?_
    refine y_aload_n (pc := 22) F dX5_takeNumber_22 rfl ?_
    refine y_get (pc := 23) F dX5_takeNumber_23 kF_X5_9 0 WR_at0 rfl ?_
    refine y_get (pc := 26) F dX5_takeNumber_26 kF_X5_29 1 WR_at1 rfl ?_
    refine y_icmp_ge (pc := 29) (tgt := 75) F dX5_takeNumber_29 rfl ?_ ?_
    · refine y_le (lv' := [some (.ref (q 0)), some (.int a1), some (.int a2), some (.int x8), some (.int x9), none]) ⟨rfl, ⟨rfl, ⟨rfl, ⟨rfl, ⟨rfl, trivial⟩⟩⟩⟩⟩ ?_
      exact hK75 x8 x9
    · refine y_aload_n (pc := 32) F dX5_takeNumber_32 rfl ?_
      refine y_iload (pc := 33) F dX5_takeNumber_33 rfl ?_
      refine y_calliW (As := [.int x10]) (st := []) (q0 := 0) (pc := 35) F (c_X5_byteAt (q := q) od ot x10) dX5_takeNumber_35 kM_X5_54 ⟨rfl, rfl⟩ ⟨Nat.le_of_ble_eq_true rfl, Nat.le_of_ble_eq_true rfl⟩ rfl rfl rfl (Nat.le_of_ble_eq_true rfl) rfl rfl WR_at0 (fun r11 => ?_)
      refine y_scalliP (As := [.int r11]) (st := []) (pc := 38) F (c_X5_isFigure (q := q) r11) dX5_takeNumber_38 kM_X5_58 ⟨rfl, rfl⟩ ⟨Nat.le_of_ble_eq_true rfl, Nat.le_of_ble_eq_true rfl⟩ rfl rfl rfl (Nat.le_of_ble_eq_true rfl) (fun r12 => ?_)
      refine y_if_eq (pc := 41) (tgt := 75) F dX5_takeNumber_41 rfl ?_ ?_
      · refine y_le (lv' := [some (.ref (q 0)), some (.int a1), some (.int a2), some (.int x8), some (.int x9), none]) ⟨rfl, ⟨rfl, ⟨rfl, ⟨rfl, ⟨rfl, trivial⟩⟩⟩⟩⟩ ?_
        exact hK75 x8 x9
      · refine y_iinc (v := 1) (lf := fun (x13 : Int32) => [some (.ref (q 0)), some (.int a1), some (.int a2), some (.int x13), some (.int x9), some (.int x10)]) (pc := 44) F dX5_takeNumber_44 rfl rfl rfl (fun _ => rfl) (fun x13 => ?_)
        refine y_iload_n (pc := 47) F dX5_takeNumber_47 rfl ?_
        refine y_iconst (v := 3) (pc := 48) F dX5_takeNumber_48 rfl ?_
        refine y_jn (fun (K69 : Int32 → Option (Int32 × Ob)) => ∀ (x14 : Int32), zY X D out (K69 x14) (WR tA q od ot) 69 [some (.ref (q 0)), some (.int a1), some (.int a2), some (.int x13), some (.int x14), some (.int x10)] []) ?_ ?_
        · intro x14
          refine y_iinc (v := 1) (lf := fun (x15 : Int32) => [some (.ref (q 0)), some (.int a1), some (.int a2), some (.int x13), some (.int x14), some (.int x15)]) (pc := 69) F dX5_takeNumber_69 rfl rfl rfl (fun _ => rfl) (fun x15 => ?_)
          refine y_goto (tgt := 20) (pc := 72) F dX5_takeNumber_72 rfl ?_
          exact ih x13 x14 x15
        intro K69 hK69
        refine y_icmp_gt (pc := 49) (tgt := 69) F dX5_takeNumber_49 rfl ?_ ?_
        · exact hK69 x9
        · refine y_iload (pc := 52) F dX5_takeNumber_52 rfl ?_
          refine y_bipush (v := 10) (pc := 54) F dX5_takeNumber_54 rfl ?_
          refine y_imul (pc := 56) F dX5_takeNumber_56 ?_
          refine y_aload_n (pc := 57) F dX5_takeNumber_57 rfl ?_
          refine y_iload (pc := 58) F dX5_takeNumber_58 rfl ?_
          refine y_calliW (As := [.int x10]) (st := [.int (x9 * (10 : Int32))]) (q0 := 0) (pc := 60) F (c_X5_byteAt (q := q) od ot x10) dX5_takeNumber_60 kM_X5_54 ⟨rfl, rfl⟩ ⟨Nat.le_of_ble_eq_true rfl, Nat.le_of_ble_eq_true rfl⟩ rfl rfl rfl (Nat.le_of_ble_eq_true rfl) rfl rfl WR_at0 (fun r16 => ?_)
          refine y_iadd (pc := 63) F dX5_takeNumber_63 ?_
          refine y_bipush (v := 48) (pc := 64) F dX5_takeNumber_64 rfl ?_
          refine y_isub (pc := 66) F dX5_takeNumber_66 ?_
          refine y_lti (fun x17 => ?_)
          refine y_istore (lv' := [some (.ref (q 0)), some (.int a1), some (.int a2), some (.int x13), some (.int x17), some (.int x10)]) (pc := 67) F dX5_takeNumber_67 (Nat.le_of_ble_eq_true rfl) rfl rfl ?_
          exact hK69 x17
set_option maxHeartbeats 4000000 in
set_option maxRecDepth 100000 in
theorem c_X5_takeNumber {q : Nat → Nat} (od : Ob) (ot : Ob) (a1 : Int32) (a2 : Int32) : zCi l D tA yX5_takeNumber cX5_takeNumber 6 .int rmX5_takeNumber [.ref (q 0), .int a1, .int a2] (WR tA q od ot) (fun (r : Int32 × Ob) => (r.1)) (fun (r : Int32 × Ob) => (WR tA q (r.2) ot)) (pX5_takeNumber od ot a1 a2) := by
  refine zCi_of (lv0 := [some (.ref (q 0)), some (.int a1), some (.int a2), none, none, none]) (by decide +kernel) (Nat.le_of_ble_eq_true rfl) rfl (fun X out F hr => ?_)
  unfold pX5_takeNumber
  refine y_aload_n (pc := 0) F dX5_takeNumber_0 rfl ?_
  refine y_calliW (As := []) (st := []) (q0 := 0) (pc := 1) F (c_X5_isSound (q := q) od ot) dX5_takeNumber_1 kM_X5_41 ⟨rfl, rfl⟩ ⟨Nat.le_of_ble_eq_true rfl, Nat.le_of_ble_eq_true rfl⟩ rfl rfl rfl (Nat.le_of_ble_eq_true rfl) rfl rfl WR_at0 (fun r1 => ?_)
  refine y_if_ne (pc := 4) (tgt := 9) F dX5_takeNumber_4 rfl ?_ ?_
  · refine y_iload_n (pc := 7) F dX5_takeNumber_7 rfl ?_
    exact y_iret hr dX5_takeNumber_8 rfl rfl
  · refine y_iconst (v := 0) (pc := 9) F dX5_takeNumber_9 rfl ?_
    refine y_istore_n (lv' := [some (.ref (q 0)), some (.int a1), some (.int a2), some (.int (0 : Int32)), none, none]) (pc := 10) F dX5_takeNumber_10 (Nat.le_of_ble_eq_true rfl) rfl rfl ?_
    refine y_iconst (v := 0) (pc := 11) F dX5_takeNumber_11 rfl ?_
    refine y_istore (lv' := [some (.ref (q 0)), some (.int a1), some (.int a2), some (.int (0 : Int32)), some (.int (0 : Int32)), none]) (pc := 12) F dX5_takeNumber_12 (Nat.le_of_ble_eq_true rfl) rfl rfl ?_
    refine y_aload_n (pc := 14) F dX5_takeNumber_14 rfl ?_
    refine y_get (pc := 15) F dX5_takeNumber_15 kF_X5_22 0 WR_at0 rfl ?_
    refine y_lti (fun x2 => ?_)
    refine y_istore (lv' := [some (.ref (q 0)), some (.int a1), some (.int a2), some (.int (0 : Int32)), some (.int (0 : Int32)), some (.int x2)]) (pc := 18) F dX5_takeNumber_18 (Nat.le_of_ble_eq_true rfl) rfl rfl ?_
    refine y_jn (fun (K75 : Int32 → Int32 → Option (Int32 × Ob)) => ∀ (x3 : Int32) (x4 : Int32), zY X D out (K75 x3 x4) (WR tA q od ot) 75 [some (.ref (q 0)), some (.int a1), some (.int a2), some (.int x3), some (.int x4), none] []) ?_ ?_
    · intro x3 x4
      refine y_iload_n (pc := 75) F dX5_takeNumber_75 rfl ?_
      refine y_if_ne (pc := 76) (tgt := 86) F dX5_takeNumber_76 rfl ?_ ?_
      · refine y_aload_n (pc := 79) F dX5_takeNumber_79 rfl ?_
        refine y_iconst (v := 1) (pc := 80) F dX5_takeNumber_80 rfl ?_
        refine y_callvW (As := [.int (1 : Int32)]) (st := []) (q0 := 0) (pc := 81) F (c_X5_refuseHere (q := q) od ot (1 : Int32)) dX5_takeNumber_81 kM_X5_62 ⟨rfl, rfl⟩ ⟨Nat.le_of_ble_eq_true rfl, Nat.le_of_ble_eq_true rfl⟩ rfl rfl rfl (Nat.le_of_ble_eq_true rfl) rfl rfl WR_at0 (fun r7 => ?_)
        refine y_iload_n (pc := 84) F dX5_takeNumber_84 rfl ?_
        exact y_iret hr dX5_takeNumber_85 rfl rfl
      · refine y_iload_n (pc := 86) F dX5_takeNumber_86 rfl ?_
        refine y_iconst (v := 3) (pc := 87) F dX5_takeNumber_87 rfl ?_
        refine y_jn (fun (K103 : Option (Int32 × Ob)) => zY X D out (K103) (WR tA q od ot) 103 [some (.ref (q 0)), some (.int a1), none, none, none, none] []) ?_ ?_
        · skip
          refine y_aload_n (pc := 103) F dX5_takeNumber_103 rfl ?_
          refine y_iconst (v := 2) (pc := 104) F dX5_takeNumber_104 rfl ?_
          refine y_callvW (As := [.int (2 : Int32)]) (st := []) (q0 := 0) (pc := 105) F (c_X5_refuseHere (q := q) od ot (2 : Int32)) dX5_takeNumber_105 kM_X5_62 ⟨rfl, rfl⟩ ⟨Nat.le_of_ble_eq_true rfl, Nat.le_of_ble_eq_true rfl⟩ rfl rfl rfl (Nat.le_of_ble_eq_true rfl) rfl rfl WR_at0 (fun r5 => ?_)
          refine y_iload_n (pc := 108) F dX5_takeNumber_108 rfl ?_
          exact y_iret hr dX5_takeNumber_109 rfl rfl
        intro K103 hK103
        refine y_icmp_gt (pc := 88) (tgt := 103) F dX5_takeNumber_88 rfl ?_ ?_
        · refine y_le (lv' := [some (.ref (q 0)), some (.int a1), none, none, none, none]) ⟨rfl, ⟨rfl, trivial⟩⟩ ?_
          exact hK103
        · refine y_iload (pc := 91) F dX5_takeNumber_91 rfl ?_
          refine y_iload_n (pc := 93) F dX5_takeNumber_93 rfl ?_
          refine y_icmp_lt (pc := 94) (tgt := 103) F dX5_takeNumber_94 rfl ?_ ?_
          · refine y_le (lv' := [some (.ref (q 0)), some (.int a1), none, none, none, none]) ⟨rfl, ⟨rfl, trivial⟩⟩ ?_
            exact hK103
          · refine y_iload (pc := 97) F dX5_takeNumber_97 rfl ?_
            refine y_iload_n (pc := 99) F dX5_takeNumber_99 rfl ?_
            refine y_icmp_le (pc := 100) (tgt := 110) F dX5_takeNumber_100 rfl ?_ ?_
            · refine y_aload_n (pc := 110) F dX5_takeNumber_110 rfl ?_
              refine y_iload_n (pc := 111) F dX5_takeNumber_111 rfl ?_
              refine y_callvW (As := [.int x3]) (st := []) (q0 := 0) (pc := 112) F (c_X5_pass (q := q) od ot x3) dX5_takeNumber_112 kM_X5_25 ⟨rfl, rfl⟩ ⟨Nat.le_of_ble_eq_true rfl, Nat.le_of_ble_eq_true rfl⟩ rfl rfl rfl (Nat.le_of_ble_eq_true rfl) rfl rfl WR_at0 (fun r6 => ?_)
              refine y_iload (pc := 115) F dX5_takeNumber_115 rfl ?_
              exact y_iret hr dX5_takeNumber_117 rfl rfl
            · refine y_le (lv' := [some (.ref (q 0)), some (.int a1), none, none, none, none]) ⟨rfl, ⟨rfl, trivial⟩⟩ ?_
              exact hK103
    intro K75 hK75
    exact wlX5_takeNumber_20 q od ot a1 a2 F hr hK75 zfu (0 : Int32) (0 : Int32) x2
abbrev rmX5_takeSemicolon : Room := { frames := 2, cells := 0, slots := 0, locals := 43 }
def pX5_takeSemicolon (od : Ob) (ot : Ob) : Option Ob :=
  Option.bind (pX5_isSound od ot) fun (r1 : Int32) =>
  if r1 = 0 then (some od)
  else (Option.bind (pX5_byteAt od ot (gi od 3)) fun (r2 : Int32) =>
  if r2 = (59 : Int32) then (Option.bind (pX5_pass od ot (1 : Int32)) fun (r3 : Ob) =>
  some r3)
  else (Option.bind (pX5_refuseHere od ot (1 : Int32)) fun (r4 : Ob) =>
  some r4))
set_option maxHeartbeats 4000000 in
set_option maxRecDepth 100000 in
theorem c_X5_takeSemicolon {q : Nat → Nat} (od : Ob) (ot : Ob) : zCv l D tA yX5_takeSemicolon cX5_takeSemicolon 1 rmX5_takeSemicolon [.ref (q 0)] (WR tA q od ot) (fun (r : Ob) => (WR tA q r ot)) (pX5_takeSemicolon od ot) := by
  refine zCv_of (lv0 := [some (.ref (q 0))]) (by decide +kernel) (Nat.le_of_ble_eq_true rfl) rfl (fun X out F hr => ?_)
  unfold pX5_takeSemicolon
  refine y_aload_n (pc := 0) F dX5_takeSemicolon_0 rfl ?_
  refine y_calliW (As := []) (st := []) (q0 := 0) (pc := 1) F (c_X5_isSound (q := q) od ot) dX5_takeSemicolon_1 kM_X5_41 ⟨rfl, rfl⟩ ⟨Nat.le_of_ble_eq_true rfl, Nat.le_of_ble_eq_true rfl⟩ rfl rfl rfl (Nat.le_of_ble_eq_true rfl) rfl rfl WR_at0 (fun r1 => ?_)
  refine y_if_ne (pc := 4) (tgt := 8) F dX5_takeSemicolon_4 rfl ?_ ?_
  · exact y_vret hr dX5_takeSemicolon_7 rfl
  · refine y_aload_n (pc := 8) F dX5_takeSemicolon_8 rfl ?_
    refine y_aload_n (pc := 9) F dX5_takeSemicolon_9 rfl ?_
    refine y_get (pc := 10) F dX5_takeSemicolon_10 kF_X5_22 0 WR_at0 rfl ?_
    refine y_calliW (As := [.int (gi od 3)]) (st := []) (q0 := 0) (pc := 13) F (c_X5_byteAt (q := q) od ot (gi od 3)) dX5_takeSemicolon_13 kM_X5_54 ⟨rfl, rfl⟩ ⟨Nat.le_of_ble_eq_true rfl, Nat.le_of_ble_eq_true rfl⟩ rfl rfl rfl (Nat.le_of_ble_eq_true rfl) rfl rfl WR_at0 (fun r2 => ?_)
    refine y_bipush (v := 59) (pc := 16) F dX5_takeSemicolon_16 rfl ?_
    refine y_icmp_eq (pc := 18) (tgt := 27) F dX5_takeSemicolon_18 rfl ?_ ?_
    · refine y_aload_n (pc := 27) F dX5_takeSemicolon_27 rfl ?_
      refine y_iconst (v := 1) (pc := 28) F dX5_takeSemicolon_28 rfl ?_
      refine y_callvW (As := [.int (1 : Int32)]) (st := []) (q0 := 0) (pc := 29) F (c_X5_pass (q := q) od ot (1 : Int32)) dX5_takeSemicolon_29 kM_X5_25 ⟨rfl, rfl⟩ ⟨Nat.le_of_ble_eq_true rfl, Nat.le_of_ble_eq_true rfl⟩ rfl rfl rfl (Nat.le_of_ble_eq_true rfl) rfl rfl WR_at0 (fun r3 => ?_)
      exact y_vret hr dX5_takeSemicolon_32 rfl
    · refine y_aload_n (pc := 21) F dX5_takeSemicolon_21 rfl ?_
      refine y_iconst (v := 1) (pc := 22) F dX5_takeSemicolon_22 rfl ?_
      refine y_callvW (As := [.int (1 : Int32)]) (st := []) (q0 := 0) (pc := 23) F (c_X5_refuseHere (q := q) od ot (1 : Int32)) dX5_takeSemicolon_23 kM_X5_62 ⟨rfl, rfl⟩ ⟨Nat.le_of_ble_eq_true rfl, Nat.le_of_ble_eq_true rfl⟩ rfl rfl rfl (Nat.le_of_ble_eq_true rfl) rfl rfl WR_at0 (fun r4 => ?_)
      exact y_vret hr dX5_takeSemicolon_26 rfl
abbrev rmX2_readSuit : Room := { frames := 6, cells := 0, slots := 0, locals := 163 }
def pX2_readSuit (oc : Ob) (od : Ob) (ot : Ob) : Option (Ob × Ob) :=
  if (gi oc 0) < (6 : Int32) then (Option.bind (pX5_takeNumber od ot (1 : Int32) (999 : Int32)) fun (r1 : Int32 × Ob) =>
  zgd (gi oc 0) 6 <| zlet (sa oc 2 (upd (ga oc 2) ((gi oc 0).toNatClampNeg) (r1.1))) fun (o2 : Ob) =>
  Option.bind (pX5_takeNumber (r1.2) ot (1 : Int32) (399 : Int32)) fun (r3 : Int32 × Ob) =>
  zgd (gi o2 0) 6 <| zlet (sa o2 3 (upd (ga o2 3) ((gi o2 0).toNatClampNeg) (r3.1))) fun (o4 : Ob) =>
  Option.bind (pX5_takesWord 2 (r3.2) ot) fun (r5 : Int32 × Ob) =>
  zjn (fun (x6 : Int32) (o7 : Ob) =>
  zgd (gi o4 0) 6 <| zlet (sa o4 4 (upd (ga o4 4) ((gi o4 0).toNatClampNeg) x6)) fun (o8 : Ob) =>
  Option.bind (pX5_takeSemicolon o7 ot) fun (r9 : Ob) =>
  zlet (si o8 0 ((gi o8 0) + (1 : Int32))) fun (o10 : Ob) =>
  some (o10, r9)) fun (K81 : Int32 → Ob → Option (Ob × Ob)) =>
  if (r5.1) = 0 then (K81 (-1 : Int32) (r5.2))
  else (Option.bind (pX5_takeNumber (r5.2) ot (0 : Int32) ((gi o4 0) - (1 : Int32))) fun (r11 : Int32 × Ob) =>
  K81 (r11.1) (r11.2)))
  else (Option.bind (pX5_refuseTaken od ot (3 : Int32)) fun (r12 : Ob) =>
  some (oc, r12))
set_option maxHeartbeats 4000000 in
set_option maxRecDepth 100000 in
theorem c_X2_readSuit {q : Nat → Nat} (oc : Ob) (od : Ob) (ot : Ob) : zCv l D tA yX2_readSuit cX2_readSuit 2 rmX2_readSuit [.ref (q 0), .ref (q 7)] (WCR tA q oc od ot) (fun (r : Ob × Ob) => (WCR tA q (r.1) (r.2) ot)) (pX2_readSuit oc od ot) := by
  refine zCv_of (lv0 := [some (.ref (q 0)), some (.ref (q 7))]) (by decide +kernel) (Nat.le_of_ble_eq_true rfl) rfl (fun X out F hr => ?_)
  unfold pX2_readSuit
  refine y_aload_n (pc := 0) F dX2_readSuit_0 rfl ?_
  refine y_get (pc := 1) F dX2_readSuit_1 kF_X2_30 0 WCR_at0 rfl ?_
  refine y_bipush (v := 6) (pc := 4) F dX2_readSuit_4 rfl ?_
  refine y_icmp_lt (pc := 6) (tgt := 15) F dX2_readSuit_6 rfl ?_ ?_
  · refine y_aload_n (pc := 15) F dX2_readSuit_15 rfl ?_
    refine y_get (pc := 16) F dX2_readSuit_16 kF_X2_9 0 WCR_at0 rfl ?_
    refine y_aload_n (pc := 19) F dX2_readSuit_19 rfl ?_
    refine y_get (pc := 20) F dX2_readSuit_20 kF_X2_30 0 WCR_at0 rfl ?_
    refine y_aload_n (pc := 23) F dX2_readSuit_23 rfl ?_
    refine y_iconst (v := 1) (pc := 24) F dX2_readSuit_24 rfl ?_
    refine y_sipush (v := 999) (pc := 25) F dX2_readSuit_25 rfl ?_
    refine y_calli (As := [.int (1 : Int32), .int (999 : Int32)]) (st := [.int (gi oc 0), .ref (q 1)]) (q0 := 7) (wf := fun (r1 : Int32 × Ob) => (WCR tA q oc (r1.2) ot)) (pc := 28) F (c_X5_takeNumber (q := zq q [7, 8, 9]) od ot (1 : Int32) (999 : Int32)) dX2_readSuit_28 kM_X2_69 ⟨rfl, rfl⟩ ⟨Nat.le_of_ble_eq_true rfl, Nat.le_of_ble_eq_true rfl⟩ rfl rfl rfl (Nat.le_of_ble_eq_true rfl) rfl rfl WCR_at7 [7, 8, 9] zn5_c zn5_n (fun _ => rfl) (fun (r1 : Int32 × Ob) => zn5_p (r1.2)) (fun r1 => ?_)
    refine y_iast (pc := 31) F dX2_readSuit_31 1 WCR_at1 (fun (o2 : Ob) => (WCR tA q o2 (r1.2) ot)) (WCR_ar1 _) (fun o2 => ?_)
    refine y_aload_n (pc := 32) F dX2_readSuit_32 rfl ?_
    refine y_get (pc := 33) F dX2_readSuit_33 kF_X2_15 0 WCR_at0 rfl ?_
    refine y_aload_n (pc := 36) F dX2_readSuit_36 rfl ?_
    refine y_get (pc := 37) F dX2_readSuit_37 kF_X2_30 0 WCR_at0 rfl ?_
    refine y_aload_n (pc := 40) F dX2_readSuit_40 rfl ?_
    refine y_iconst (v := 1) (pc := 41) F dX2_readSuit_41 rfl ?_
    refine y_sipush (v := 399) (pc := 42) F dX2_readSuit_42 rfl ?_
    refine y_calli (As := [.int (1 : Int32), .int (399 : Int32)]) (st := [.int (gi o2 0), .ref (q 2)]) (q0 := 7) (wf := fun (r3 : Int32 × Ob) => (WCR tA q o2 (r3.2) ot)) (pc := 45) F (c_X5_takeNumber (q := zq q [7, 8, 9]) (r1.2) ot (1 : Int32) (399 : Int32)) dX2_readSuit_45 kM_X2_69 ⟨rfl, rfl⟩ ⟨Nat.le_of_ble_eq_true rfl, Nat.le_of_ble_eq_true rfl⟩ rfl rfl rfl (Nat.le_of_ble_eq_true rfl) rfl rfl WCR_at7 [7, 8, 9] zn5_c zn5_n (fun _ => rfl) (fun (r3 : Int32 × Ob) => zn5_p (r3.2)) (fun r3 => ?_)
    refine y_iast (pc := 48) F dX2_readSuit_48 2 WCR_at2 (fun (o4 : Ob) => (WCR tA q o4 (r3.2) ot)) (WCR_ar2 _) (fun o4 => ?_)
    refine y_aload_n (pc := 49) F dX2_readSuit_49 rfl ?_
    refine y_get (pc := 50) F dX2_readSuit_50 kF_X2_18 0 WCR_at0 rfl ?_
    refine y_aload_n (pc := 53) F dX2_readSuit_53 rfl ?_
    refine y_get (pc := 54) F dX2_readSuit_54 kF_X2_30 0 WCR_at0 rfl ?_
    refine y_aload_n (pc := 57) F dX2_readSuit_57 rfl ?_
    refine y_ldcS (i := 2) (pc := 58) F rfl ⟨rfl, rfl⟩ dX2_readSuit_58 ?_
    refine y_calli (As := [.ref (tA (100 + 2))]) (st := [.int (gi o4 0), .ref (q 3)]) (q0 := 7) (wf := fun (r5 : Int32 × Ob) => (WCR tA q o4 (r5.2) ot)) (pc := 60) F (c_X5_takesWord 2 (by decide) (q := zq q [7, 8, 9]) (r3.2) ot) dX2_readSuit_60 kM_X2_49 ⟨rfl, rfl⟩ ⟨Nat.le_of_ble_eq_true rfl, Nat.le_of_ble_eq_true rfl⟩ rfl rfl rfl (Nat.le_of_ble_eq_true rfl) rfl rfl WCR_at7 [7, 8, 9] zn5_c zn5_n (fun _ => rfl) (fun (r5 : Int32 × Ob) => zn5_p (r5.2)) (fun r5 => ?_)
    refine y_jn (fun (K81 : Int32 → Ob → Option (Ob × Ob)) => ∀ (x6 : Int32) (o7 : Ob), zY X D out (K81 x6 o7) (WCR tA q o4 o7 ot) 81 [some (.ref (q 0)), some (.ref (q 7))] [.int x6, .int (gi o4 0), .ref (q 3)]) ?_ ?_
    · intro x6 o7
      refine y_iast (pc := 81) F dX2_readSuit_81 3 WCR_at3 (fun (o8 : Ob) => (WCR tA q o8 o7 ot)) (WCR_ar3 _) (fun o8 => ?_)
      refine y_aload_n (pc := 82) F dX2_readSuit_82 rfl ?_
      refine y_callv (As := []) (st := []) (q0 := 7) (wf := fun (r9 : Ob) => (WCR tA q o8 r9 ot)) (pc := 83) F (c_X5_takeSemicolon (q := zq q [7, 8, 9]) o7 ot) dX2_readSuit_83 kM_X2_75 ⟨rfl, rfl⟩ ⟨Nat.le_of_ble_eq_true rfl, Nat.le_of_ble_eq_true rfl⟩ rfl rfl rfl (Nat.le_of_ble_eq_true rfl) rfl rfl WCR_at7 [7, 8, 9] zn5_c zn5_n (fun _ => rfl) (fun (r9 : Ob) => zn5_p r9) (fun r9 => ?_)
      refine y_aload_n (pc := 86) F dX2_readSuit_86 rfl ?_
      refine y_dup (pc := 87) F dX2_readSuit_87 rfl ?_
      refine y_get (pc := 88) F dX2_readSuit_88 kF_X2_30 0 WCR_at0 rfl ?_
      refine y_iconst (v := 1) (pc := 91) F dX2_readSuit_91 rfl ?_
      refine y_iadd (pc := 92) F dX2_readSuit_92 ?_
      refine y_put (pc := 93) F dX2_readSuit_93 kF_X2_30 0 WCR_at0 rfl rfl rfl (Nat.le_of_ble_eq_true rfl) (fun (o10 : Ob) => (WCR tA q o10 r9 ot)) (WCR_pt0_0 _) (fun o10 => ?_)
      exact y_vret hr dX2_readSuit_96 rfl
    intro K81 hK81
    refine y_if_eq (pc := 63) (tgt := 80) F dX2_readSuit_63 rfl ?_ ?_
    · refine y_iconst (v := -1) (pc := 80) F dX2_readSuit_80 rfl ?_
      exact hK81 (-1 : Int32) (r5.2)
    · refine y_aload_n (pc := 66) F dX2_readSuit_66 rfl ?_
      refine y_iconst (v := 0) (pc := 67) F dX2_readSuit_67 rfl ?_
      refine y_aload_n (pc := 68) F dX2_readSuit_68 rfl ?_
      refine y_get (pc := 69) F dX2_readSuit_69 kF_X2_30 0 WCR_at0 rfl ?_
      refine y_iconst (v := 1) (pc := 72) F dX2_readSuit_72 rfl ?_
      refine y_isub (pc := 73) F dX2_readSuit_73 ?_
      refine y_calli (As := [.int (0 : Int32), .int ((gi o4 0) - (1 : Int32))]) (st := [.int (gi o4 0), .ref (q 3)]) (q0 := 7) (wf := fun (r11 : Int32 × Ob) => (WCR tA q o4 (r11.2) ot)) (pc := 74) F (c_X5_takeNumber (q := zq q [7, 8, 9]) (r5.2) ot (0 : Int32) ((gi o4 0) - (1 : Int32))) dX2_readSuit_74 kM_X2_69 ⟨rfl, rfl⟩ ⟨Nat.le_of_ble_eq_true rfl, Nat.le_of_ble_eq_true rfl⟩ rfl rfl rfl (Nat.le_of_ble_eq_true rfl) rfl rfl WCR_at7 [7, 8, 9] zn5_c zn5_n (fun _ => rfl) (fun (r11 : Int32 × Ob) => zn5_p (r11.2)) (fun r11 => ?_)
      refine y_goto (tgt := 81) (pc := 77) F dX2_readSuit_77 rfl ?_
      exact hK81 (r11.1) (r11.2)
  · refine y_aload_n (pc := 9) F dX2_readSuit_9 rfl ?_
    refine y_iconst (v := 3) (pc := 10) F dX2_readSuit_10 rfl ?_
    refine y_callv (As := [.int (3 : Int32)]) (st := []) (q0 := 7) (wf := fun (r12 : Ob) => (WCR tA q oc r12 ot)) (pc := 11) F (c_X5_refuseTaken (q := zq q [7, 8, 9]) od ot (3 : Int32)) dX2_readSuit_11 kM_X2_66 ⟨rfl, rfl⟩ ⟨Nat.le_of_ble_eq_true rfl, Nat.le_of_ble_eq_true rfl⟩ rfl rfl rfl (Nat.le_of_ble_eq_true rfl) rfl rfl WCR_at7 [7, 8, 9] zn5_c zn5_n (fun _ => rfl) (fun (r12 : Ob) => zn5_p r12) (fun r12 => ?_)
    exact y_vret hr dX2_readSuit_14 rfl
abbrev rmX2_readKind : Room := { frames := 6, cells := 0, slots := 0, locals := 163 }
def pX2_readKind (od : Ob) (ot : Ob) : Option (Int32 × Ob) :=
  Option.bind (pX5_takesWord 3 od ot) fun (r1 : Int32 × Ob) =>
  if (r1.1) = 0 then (Option.bind (pX5_takesWord 4 (r1.2) ot) fun (r2 : Int32 × Ob) =>
  if (r2.1) = 0 then (Option.bind (pX5_takesWord 5 (r2.2) ot) fun (r3 : Int32 × Ob) =>
  if (r3.1) = 0 then (Option.bind (pX5_takesWord 6 (r3.2) ot) fun (r4 : Int32 × Ob) =>
  if (r4.1) = 0 then (Option.bind (pX5_refuseHere (r4.2) ot (1 : Int32)) fun (r5 : Ob) =>
  some ((0 : Int32), r5))
  else (some ((3 : Int32), (r4.2))))
  else (some ((2 : Int32), (r3.2))))
  else (some ((1 : Int32), (r2.2))))
  else (some ((0 : Int32), (r1.2)))
set_option maxHeartbeats 4000000 in
set_option maxRecDepth 100000 in
theorem c_X2_readKind {q : Nat → Nat} (od : Ob) (ot : Ob) : zCi l D tA yX2_readKind cX2_readKind 1 .int rmX2_readKind [.ref (q 0)] (WR tA q od ot) (fun (r : Int32 × Ob) => (r.1)) (fun (r : Int32 × Ob) => (WR tA q (r.2) ot)) (pX2_readKind od ot) := by
  refine zCi_of (lv0 := [some (.ref (q 0))]) (by decide +kernel) (Nat.le_of_ble_eq_true rfl) rfl (fun X out F hr => ?_)
  unfold pX2_readKind
  refine y_aload_n (pc := 0) F dX2_readKind_0 rfl ?_
  refine y_ldcS (i := 3) (pc := 1) F rfl ⟨rfl, rfl⟩ dX2_readKind_1 ?_
  refine y_calliW (As := [.ref (tA (100 + 3))]) (st := []) (q0 := 0) (pc := 3) F (c_X5_takesWord 3 (by decide) (q := q) od ot) dX2_readKind_3 kM_X2_49 ⟨rfl, rfl⟩ ⟨Nat.le_of_ble_eq_true rfl, Nat.le_of_ble_eq_true rfl⟩ rfl rfl rfl (Nat.le_of_ble_eq_true rfl) rfl rfl WR_at0 (fun r1 => ?_)
  refine y_if_eq (pc := 6) (tgt := 11) F dX2_readKind_6 rfl ?_ ?_
  · refine y_aload_n (pc := 11) F dX2_readKind_11 rfl ?_
    refine y_ldcS (i := 4) (pc := 12) F rfl ⟨rfl, rfl⟩ dX2_readKind_12 ?_
    refine y_calliW (As := [.ref (tA (100 + 4))]) (st := []) (q0 := 0) (pc := 14) F (c_X5_takesWord 4 (by decide) (q := q) (r1.2) ot) dX2_readKind_14 kM_X2_49 ⟨rfl, rfl⟩ ⟨Nat.le_of_ble_eq_true rfl, Nat.le_of_ble_eq_true rfl⟩ rfl rfl rfl (Nat.le_of_ble_eq_true rfl) rfl rfl WR_at0 (fun r2 => ?_)
    refine y_if_eq (pc := 17) (tgt := 22) F dX2_readKind_17 rfl ?_ ?_
    · refine y_aload_n (pc := 22) F dX2_readKind_22 rfl ?_
      refine y_ldcS (i := 5) (pc := 23) F rfl ⟨rfl, rfl⟩ dX2_readKind_23 ?_
      refine y_calliW (As := [.ref (tA (100 + 5))]) (st := []) (q0 := 0) (pc := 25) F (c_X5_takesWord 5 (by decide) (q := q) (r2.2) ot) dX2_readKind_25 kM_X2_49 ⟨rfl, rfl⟩ ⟨Nat.le_of_ble_eq_true rfl, Nat.le_of_ble_eq_true rfl⟩ rfl rfl rfl (Nat.le_of_ble_eq_true rfl) rfl rfl WR_at0 (fun r3 => ?_)
      refine y_if_eq (pc := 28) (tgt := 33) F dX2_readKind_28 rfl ?_ ?_
      · refine y_aload_n (pc := 33) F dX2_readKind_33 rfl ?_
        refine y_ldcS (i := 6) (pc := 34) F rfl ⟨rfl, rfl⟩ dX2_readKind_34 ?_
        refine y_calliW (As := [.ref (tA (100 + 6))]) (st := []) (q0 := 0) (pc := 36) F (c_X5_takesWord 6 (by decide) (q := q) (r3.2) ot) dX2_readKind_36 kM_X2_49 ⟨rfl, rfl⟩ ⟨Nat.le_of_ble_eq_true rfl, Nat.le_of_ble_eq_true rfl⟩ rfl rfl rfl (Nat.le_of_ble_eq_true rfl) rfl rfl WR_at0 (fun r4 => ?_)
        refine y_if_eq (pc := 39) (tgt := 44) F dX2_readKind_39 rfl ?_ ?_
        · refine y_aload_n (pc := 44) F dX2_readKind_44 rfl ?_
          refine y_iconst (v := 1) (pc := 45) F dX2_readKind_45 rfl ?_
          refine y_callvW (As := [.int (1 : Int32)]) (st := []) (q0 := 0) (pc := 46) F (c_X5_refuseHere (q := q) (r4.2) ot (1 : Int32)) dX2_readKind_46 kM_X2_62 ⟨rfl, rfl⟩ ⟨Nat.le_of_ble_eq_true rfl, Nat.le_of_ble_eq_true rfl⟩ rfl rfl rfl (Nat.le_of_ble_eq_true rfl) rfl rfl WR_at0 (fun r5 => ?_)
          refine y_iconst (v := 0) (pc := 49) F dX2_readKind_49 rfl ?_
          exact y_iret hr dX2_readKind_50 rfl rfl
        · refine y_iconst (v := 3) (pc := 42) F dX2_readKind_42 rfl ?_
          exact y_iret hr dX2_readKind_43 rfl rfl
      · refine y_iconst (v := 2) (pc := 31) F dX2_readKind_31 rfl ?_
        exact y_iret hr dX2_readKind_32 rfl rfl
    · refine y_iconst (v := 1) (pc := 20) F dX2_readKind_20 rfl ?_
      exact y_iret hr dX2_readKind_21 rfl rfl
  · refine y_iconst (v := 0) (pc := 9) F dX2_readKind_9 rfl ?_
    exact y_iret hr dX2_readKind_10 rfl rfl
abbrev rmX2_readWitness : Room := { frames := 7, cells := 0, slots := 0, locals := 183 }
def pX2_readWitness (oc : Ob) (od : Ob) (ot : Ob) : Option (Ob × Ob) :=
  if (gi oc 1) < (12 : Int32) then (Option.bind (pX5_takeNumber od ot (0 : Int32) ((gi oc 0) - (1 : Int32))) fun (r1 : Int32 × Ob) =>
  Option.bind (pX5_isSound (r1.2) ot) fun (r2 : Int32) =>
  zjn (fun (o3 : Ob) =>
  zgd (gi oc 1) 12 <| zlet (sa oc 5 (upd (ga oc 5) ((gi oc 1).toNatClampNeg) (r1.1))) fun (o4 : Ob) =>
  Option.bind (pX5_takeNumber o3 ot (1 : Int32) (99 : Int32)) fun (r5 : Int32 × Ob) =>
  zgd (gi o4 1) 12 <| zlet (sa o4 6 (upd (ga o4 6) ((gi o4 1).toNatClampNeg) (r5.1))) fun (o6 : Ob) =>
  Option.bind (pX2_readKind (r5.2) ot) fun (r7 : Int32 × Ob) =>
  zgd (gi o6 1) 12 <| zlet (sa o6 7 (upd (ga o6 7) ((gi o6 1).toNatClampNeg) (r7.1))) fun (o8 : Ob) =>
  Option.bind (pX5_takeSemicolon (r7.2) ot) fun (r9 : Ob) =>
  zlet (si o8 1 ((gi o8 1) + (1 : Int32))) fun (o10 : Ob) =>
  some (o10, r9)) fun (K52 : Ob → Option (Ob × Ob)) =>
  if r2 = 0 then (K52 (r1.2))
  else (Option.bind (pX2_witnessesOf oc (r1.1)) fun (r11 : Int32) =>
  Option.bind (pJ6_bitCount_0f7a4 r11) fun (r12 : Int32) =>
  if r12 < (6 : Int32) then (K52 (r1.2))
  else (Option.bind (pX5_refuseTaken (r1.2) ot (4 : Int32)) fun (r13 : Ob) =>
  K52 r13)))
  else (Option.bind (pX5_refuseTaken od ot (3 : Int32)) fun (r14 : Ob) =>
  some (oc, r14))
set_option maxHeartbeats 4000000 in
set_option maxRecDepth 100000 in
theorem c_X2_readWitness {q : Nat → Nat} (oc : Ob) (od : Ob) (ot : Ob) : zCv l D tA yX2_readWitness cX2_readWitness 3 rmX2_readWitness [.ref (q 0), .ref (q 7)] (WCR tA q oc od ot) (fun (r : Ob × Ob) => (WCR tA q (r.1) (r.2) ot)) (pX2_readWitness oc od ot) := by
  refine zCv_of (lv0 := [some (.ref (q 0)), some (.ref (q 7)), none]) (by decide +kernel) (Nat.le_of_ble_eq_true rfl) rfl (fun X out F hr => ?_)
  unfold pX2_readWitness
  refine y_aload_n (pc := 0) F dX2_readWitness_0 rfl ?_
  refine y_get (pc := 1) F dX2_readWitness_1 kF_X2_34 0 WCR_at0 rfl ?_
  refine y_bipush (v := 12) (pc := 4) F dX2_readWitness_4 rfl ?_
  refine y_icmp_lt (pc := 6) (tgt := 15) F dX2_readWitness_6 rfl ?_ ?_
  · refine y_aload_n (pc := 15) F dX2_readWitness_15 rfl ?_
    refine y_iconst (v := 0) (pc := 16) F dX2_readWitness_16 rfl ?_
    refine y_aload_n (pc := 17) F dX2_readWitness_17 rfl ?_
    refine y_get (pc := 18) F dX2_readWitness_18 kF_X2_30 0 WCR_at0 rfl ?_
    refine y_iconst (v := 1) (pc := 21) F dX2_readWitness_21 rfl ?_
    refine y_isub (pc := 22) F dX2_readWitness_22 ?_
    refine y_calli (As := [.int (0 : Int32), .int ((gi oc 0) - (1 : Int32))]) (st := []) (q0 := 7) (wf := fun (r1 : Int32 × Ob) => (WCR tA q oc (r1.2) ot)) (pc := 23) F (c_X5_takeNumber (q := zq q [7, 8, 9]) od ot (0 : Int32) ((gi oc 0) - (1 : Int32))) dX2_readWitness_23 kM_X2_69 ⟨rfl, rfl⟩ ⟨Nat.le_of_ble_eq_true rfl, Nat.le_of_ble_eq_true rfl⟩ rfl rfl rfl (Nat.le_of_ble_eq_true rfl) rfl rfl WCR_at7 [7, 8, 9] zn5_c zn5_n (fun _ => rfl) (fun (r1 : Int32 × Ob) => zn5_p (r1.2)) (fun r1 => ?_)
    refine y_istore_n (lv' := [some (.ref (q 0)), some (.ref (q 7)), some (.int (r1.1))]) (pc := 26) F dX2_readWitness_26 (Nat.le_of_ble_eq_true rfl) rfl rfl ?_
    refine y_aload_n (pc := 27) F dX2_readWitness_27 rfl ?_
    refine y_calliR (As := []) (st := []) (q0 := 7) (pc := 28) F (c_X5_isSound (q := zq q [7, 8, 9]) (r1.2) ot) dX2_readWitness_28 kM_X2_78 ⟨rfl, rfl⟩ ⟨Nat.le_of_ble_eq_true rfl, Nat.le_of_ble_eq_true rfl⟩ rfl rfl rfl (Nat.le_of_ble_eq_true rfl) rfl rfl WCR_at7 [7, 8, 9] zn6_c zn6_n (fun r2 => ?_)
    refine y_jn (fun (K52 : Ob → Option (Ob × Ob)) => ∀ (o3 : Ob), zY X D out (K52 o3) (WCR tA q oc o3 ot) 52 [some (.ref (q 0)), some (.ref (q 7)), some (.int (r1.1))] []) ?_ ?_
    · intro o3
      refine y_aload_n (pc := 52) F dX2_readWitness_52 rfl ?_
      refine y_get (pc := 53) F dX2_readWitness_53 kF_X2_21 0 WCR_at0 rfl ?_
      refine y_aload_n (pc := 56) F dX2_readWitness_56 rfl ?_
      refine y_get (pc := 57) F dX2_readWitness_57 kF_X2_34 0 WCR_at0 rfl ?_
      refine y_iload_n (pc := 60) F dX2_readWitness_60 rfl ?_
      refine y_iast (pc := 61) F dX2_readWitness_61 4 WCR_at4 (fun (o4 : Ob) => (WCR tA q o4 o3 ot)) (WCR_ar4 _) (fun o4 => ?_)
      refine y_aload_n (pc := 62) F dX2_readWitness_62 rfl ?_
      refine y_get (pc := 63) F dX2_readWitness_63 kF_X2_24 0 WCR_at0 rfl ?_
      refine y_aload_n (pc := 66) F dX2_readWitness_66 rfl ?_
      refine y_get (pc := 67) F dX2_readWitness_67 kF_X2_34 0 WCR_at0 rfl ?_
      refine y_aload_n (pc := 70) F dX2_readWitness_70 rfl ?_
      refine y_iconst (v := 1) (pc := 71) F dX2_readWitness_71 rfl ?_
      refine y_bipush (v := 99) (pc := 72) F dX2_readWitness_72 rfl ?_
      refine y_calli (As := [.int (1 : Int32), .int (99 : Int32)]) (st := [.int (gi o4 1), .ref (q 5)]) (q0 := 7) (wf := fun (r5 : Int32 × Ob) => (WCR tA q o4 (r5.2) ot)) (pc := 74) F (c_X5_takeNumber (q := zq q [7, 8, 9]) o3 ot (1 : Int32) (99 : Int32)) dX2_readWitness_74 kM_X2_69 ⟨rfl, rfl⟩ ⟨Nat.le_of_ble_eq_true rfl, Nat.le_of_ble_eq_true rfl⟩ rfl rfl rfl (Nat.le_of_ble_eq_true rfl) rfl rfl WCR_at7 [7, 8, 9] zn5_c zn5_n (fun _ => rfl) (fun (r5 : Int32 × Ob) => zn5_p (r5.2)) (fun r5 => ?_)
      refine y_iast (pc := 77) F dX2_readWitness_77 5 WCR_at5 (fun (o6 : Ob) => (WCR tA q o6 (r5.2) ot)) (WCR_ar5 _) (fun o6 => ?_)
      refine y_aload_n (pc := 78) F dX2_readWitness_78 rfl ?_
      refine y_get (pc := 79) F dX2_readWitness_79 kF_X2_27 0 WCR_at0 rfl ?_
      refine y_aload_n (pc := 82) F dX2_readWitness_82 rfl ?_
      refine y_get (pc := 83) F dX2_readWitness_83 kF_X2_34 0 WCR_at0 rfl ?_
      refine y_aload_n (pc := 86) F dX2_readWitness_86 rfl ?_
      refine y_scalli (As := [.ref (q 7)]) (st := [.int (gi o6 1), .ref (q 6)]) (wf := fun (r7 : Int32 × Ob) => (WCR tA q o6 (r7.2) ot)) (pc := 87) F (c_X2_readKind (q := zq q [7, 8, 9]) (r5.2) ot) dX2_readWitness_87 kM_X2_90 ⟨rfl, rfl⟩ ⟨Nat.le_of_ble_eq_true rfl, Nat.le_of_ble_eq_true rfl⟩ rfl rfl rfl (Nat.le_of_ble_eq_true rfl) [7, 8, 9] zn5_c zn5_n (fun _ => rfl) (fun (r7 : Int32 × Ob) => zn5_p (r7.2)) (fun r7 => ?_)
      refine y_iast (pc := 90) F dX2_readWitness_90 6 WCR_at6 (fun (o8 : Ob) => (WCR tA q o8 (r7.2) ot)) (WCR_ar6 _) (fun o8 => ?_)
      refine y_aload_n (pc := 91) F dX2_readWitness_91 rfl ?_
      refine y_callv (As := []) (st := []) (q0 := 7) (wf := fun (r9 : Ob) => (WCR tA q o8 r9 ot)) (pc := 92) F (c_X5_takeSemicolon (q := zq q [7, 8, 9]) (r7.2) ot) dX2_readWitness_92 kM_X2_75 ⟨rfl, rfl⟩ ⟨Nat.le_of_ble_eq_true rfl, Nat.le_of_ble_eq_true rfl⟩ rfl rfl rfl (Nat.le_of_ble_eq_true rfl) rfl rfl WCR_at7 [7, 8, 9] zn5_c zn5_n (fun _ => rfl) (fun (r9 : Ob) => zn5_p r9) (fun r9 => ?_)
      refine y_aload_n (pc := 95) F dX2_readWitness_95 rfl ?_
      refine y_dup (pc := 96) F dX2_readWitness_96 rfl ?_
      refine y_get (pc := 97) F dX2_readWitness_97 kF_X2_34 0 WCR_at0 rfl ?_
      refine y_iconst (v := 1) (pc := 100) F dX2_readWitness_100 rfl ?_
      refine y_iadd (pc := 101) F dX2_readWitness_101 ?_
      refine y_put (pc := 102) F dX2_readWitness_102 kF_X2_34 0 WCR_at0 rfl rfl rfl (Nat.le_of_ble_eq_true rfl) (fun (o10 : Ob) => (WCR tA q o10 r9 ot)) (WCR_pt0_1 _) (fun o10 => ?_)
      exact y_vret hr dX2_readWitness_105 rfl
    intro K52 hK52
    refine y_if_eq (pc := 31) (tgt := 52) F dX2_readWitness_31 rfl ?_ ?_
    · exact hK52 (r1.2)
    · refine y_aload_n (pc := 34) F dX2_readWitness_34 rfl ?_
      refine y_iload_n (pc := 35) F dX2_readWitness_35 rfl ?_
      refine y_calliR (As := [.int (r1.1)]) (st := []) (q0 := 0) (pc := 36) F (c_X2_witnessesOf (q := zq q [0, 1, 2, 3, 4, 5, 6]) oc (r1.1)) dX2_readWitness_36 kM_X2_81 ⟨rfl, rfl⟩ ⟨Nat.le_of_ble_eq_true rfl, Nat.le_of_ble_eq_true rfl⟩ rfl rfl rfl (Nat.le_of_ble_eq_true rfl) rfl rfl WCR_at0 [0, 1, 2, 3, 4, 5, 6] zn7_c zn7_n (fun r11 => ?_)
      refine y_scalliP (As := [.int r11]) (st := []) (pc := 39) F (c_J6_bitCount_0f7a4 (q := q) r11) dX2_readWitness_39 kM_X2_85 ⟨rfl, rfl⟩ ⟨Nat.le_of_ble_eq_true rfl, Nat.le_of_ble_eq_true rfl⟩ rfl rfl rfl (Nat.le_of_ble_eq_true rfl) (fun r12 => ?_)
      refine y_bipush (v := 6) (pc := 42) F dX2_readWitness_42 rfl ?_
      refine y_icmp_lt (pc := 44) (tgt := 52) F dX2_readWitness_44 rfl ?_ ?_
      · exact hK52 (r1.2)
      · refine y_aload_n (pc := 47) F dX2_readWitness_47 rfl ?_
        refine y_iconst (v := 4) (pc := 48) F dX2_readWitness_48 rfl ?_
        refine y_callv (As := [.int (4 : Int32)]) (st := []) (q0 := 7) (wf := fun (r13 : Ob) => (WCR tA q oc r13 ot)) (pc := 49) F (c_X5_refuseTaken (q := zq q [7, 8, 9]) (r1.2) ot (4 : Int32)) dX2_readWitness_49 kM_X2_66 ⟨rfl, rfl⟩ ⟨Nat.le_of_ble_eq_true rfl, Nat.le_of_ble_eq_true rfl⟩ rfl rfl rfl (Nat.le_of_ble_eq_true rfl) rfl rfl WCR_at7 [7, 8, 9] zn5_c zn5_n (fun _ => rfl) (fun (r13 : Ob) => zn5_p r13) (fun r13 => ?_)
        exact hK52 r13
  · refine y_aload_n (pc := 9) F dX2_readWitness_9 rfl ?_
    refine y_iconst (v := 3) (pc := 10) F dX2_readWitness_10 rfl ?_
    refine y_callv (As := [.int (3 : Int32)]) (st := []) (q0 := 7) (wf := fun (r14 : Ob) => (WCR tA q oc r14 ot)) (pc := 11) F (c_X5_refuseTaken (q := zq q [7, 8, 9]) od ot (3 : Int32)) dX2_readWitness_11 kM_X2_66 ⟨rfl, rfl⟩ ⟨Nat.le_of_ble_eq_true rfl, Nat.le_of_ble_eq_true rfl⟩ rfl rfl rfl (Nat.le_of_ble_eq_true rfl) rfl rfl WCR_at7 [7, 8, 9] zn5_c zn5_n (fun _ => rfl) (fun (r14 : Ob) => zn5_p r14) (fun r14 => ?_)
    exact y_vret hr dX2_readWitness_14 rfl
abbrev rmX2_readFrom : Room := { frames := 8, cells := 0, slots := 0, locals := 205 }
def lX2_readFrom_12 (ot : Ob) : Nat → Int32 → Ob → Ob → Option (Ob × Ob)
  | 0, _, _, _ => none
  | f + 1, x3, o4, o5 =>
    if (500 : Int32) ≤ x3 then (some (o4, o5))
    else (Option.bind (pX5_hasMore o5 ot) fun (r6 : Int32) =>
    if r6 = 0 then (some (o4, o5))
    else (Option.bind (pX5_takesWord 0 o5 ot) fun (r7 : Int32 × Ob) =>
    zjn (fun (o8 : Ob) (o9 : Ob) =>
    zlet (x3 + (1 : Int32)) fun (x10 : Int32) =>
    lX2_readFrom_12 ot f x10 o8 o9) fun (K65 : Ob → Ob → Option (Ob × Ob)) =>
    if (r7.1) = 0 then (Option.bind (pX5_takesWord 1 (r7.2) ot) fun (r11 : Int32 × Ob) =>
    if (r11.1) = 0 then (Option.bind (pX5_refuseHere (r11.2) ot (1 : Int32)) fun (r12 : Ob) =>
    K65 o4 r12)
    else (Option.bind (pX2_readWitness o4 (r11.2) ot) fun (r13 : Ob × Ob) =>
    K65 (r13.1) (r13.2)))
    else (Option.bind (pX2_readSuit o4 (r7.2) ot) fun (r14 : Ob × Ob) =>
    K65 (r14.1) (r14.2))))
def pX2_readFrom (oc : Ob) (od : Ob) (ot : Ob) : Option (Ob × Ob) :=
  zlet (si oc 0 (0 : Int32)) fun (o1 : Ob) =>
  zlet (si o1 1 (0 : Int32)) fun (o2 : Ob) =>
  lX2_readFrom_12 ot zfu (0 : Int32) o2 od
set_option maxHeartbeats 4000000 in
set_option maxRecDepth 100000 in
theorem wlX2_readFrom_12 {X : ZX} {out : (Ob × Ob)} (q : Nat → Nat) (ot : Ob) (F : zF l D tA RX2 cX2_readFrom 3 rmX2_readFrom X) (hr : zRv X D cX2_readFrom (fun (r : Ob × Ob) => (WCR tA q (r.1) (r.2) ot)) out) : ∀ (f : Nat) (x3 : Int32) (o4 : Ob) (o5 : Ob), zY X D out (lX2_readFrom_12 ot f x3 o4 o5) (WCR tA q o4 o5 ot) 12 [some (.ref (q 0)), some (.ref (q 7)), some (.int x3)] [] := by
  intro f
  induction f with
  | zero =>
    intro x3 o4 o5
    exact y_none
  | succ f ih =>
    intro x3 o4 o5
    rw [lX2_readFrom_12.eq_2]
    refine y_iload_n (pc := 12) F dX2_readFrom_12 rfl ?_
    refine y_sipush (v := 500) (pc := 13) F dX2_readFrom_13 rfl ?_
    refine y_icmp_ge (pc := 16) (tgt := 71) F dX2_readFrom_16 rfl ?_ ?_
    · exact y_vret hr dX2_readFrom_71 rfl
    · refine y_aload_n (pc := 19) F dX2_readFrom_19 rfl ?_
      refine y_calliR (As := []) (st := []) (q0 := 7) (pc := 20) F (c_X5_hasMore (q := zq q [7, 8, 9]) o5 ot) dX2_readFrom_20 kM_X2_41 ⟨rfl, rfl⟩ ⟨Nat.le_of_ble_eq_true rfl, Nat.le_of_ble_eq_true rfl⟩ rfl rfl rfl (Nat.le_of_ble_eq_true rfl) rfl rfl WCR_at7 [7, 8, 9] zn6_c zn6_n (fun r6 => ?_)
      refine y_if_eq (pc := 23) (tgt := 71) F dX2_readFrom_23 rfl ?_ ?_
      · exact y_vret hr dX2_readFrom_71 rfl
      · refine y_aload_n (pc := 26) F dX2_readFrom_26 rfl ?_
        refine y_ldcS (i := 0) (pc := 27) F rfl ⟨rfl, rfl⟩ dX2_readFrom_27 ?_
        refine y_calli (As := [.ref (tA (100 + 0))]) (st := []) (q0 := 7) (wf := fun (r7 : Int32 × Ob) => (WCR tA q o4 (r7.2) ot)) (pc := 29) F (c_X5_takesWord 0 (by decide) (q := zq q [7, 8, 9]) o5 ot) dX2_readFrom_29 kM_X2_49 ⟨rfl, rfl⟩ ⟨Nat.le_of_ble_eq_true rfl, Nat.le_of_ble_eq_true rfl⟩ rfl rfl rfl (Nat.le_of_ble_eq_true rfl) rfl rfl WCR_at7 [7, 8, 9] zn5_c zn5_n (fun _ => rfl) (fun (r7 : Int32 × Ob) => zn5_p (r7.2)) (fun r7 => ?_)
        refine y_jn (fun (K65 : Ob → Ob → Option (Ob × Ob)) => ∀ (o8 : Ob) (o9 : Ob), zY X D out (K65 o8 o9) (WCR tA q o8 o9 ot) 65 [some (.ref (q 0)), some (.ref (q 7)), some (.int x3)] []) ?_ ?_
        · intro o8 o9
          refine y_iinc (v := 1) (lf := fun (x10 : Int32) => [some (.ref (q 0)), some (.ref (q 7)), some (.int x10)]) (pc := 65) F dX2_readFrom_65 rfl rfl rfl (fun _ => rfl) (fun x10 => ?_)
          refine y_goto (tgt := 12) (pc := 68) F dX2_readFrom_68 rfl ?_
          exact ih x10 o8 o9
        intro K65 hK65
        refine y_if_eq (pc := 32) (tgt := 43) F dX2_readFrom_32 rfl ?_ ?_
        · refine y_aload_n (pc := 43) F dX2_readFrom_43 rfl ?_
          refine y_ldcS (i := 1) (pc := 44) F rfl ⟨rfl, rfl⟩ dX2_readFrom_44 ?_
          refine y_calli (As := [.ref (tA (100 + 1))]) (st := []) (q0 := 7) (wf := fun (r11 : Int32 × Ob) => (WCR tA q o4 (r11.2) ot)) (pc := 46) F (c_X5_takesWord 1 (by decide) (q := zq q [7, 8, 9]) (r7.2) ot) dX2_readFrom_46 kM_X2_49 ⟨rfl, rfl⟩ ⟨Nat.le_of_ble_eq_true rfl, Nat.le_of_ble_eq_true rfl⟩ rfl rfl rfl (Nat.le_of_ble_eq_true rfl) rfl rfl WCR_at7 [7, 8, 9] zn5_c zn5_n (fun _ => rfl) (fun (r11 : Int32 × Ob) => zn5_p (r11.2)) (fun r11 => ?_)
          refine y_if_eq (pc := 49) (tgt := 60) F dX2_readFrom_49 rfl ?_ ?_
          · refine y_aload_n (pc := 60) F dX2_readFrom_60 rfl ?_
            refine y_iconst (v := 1) (pc := 61) F dX2_readFrom_61 rfl ?_
            refine y_callv (As := [.int (1 : Int32)]) (st := []) (q0 := 7) (wf := fun (r12 : Ob) => (WCR tA q o4 r12 ot)) (pc := 62) F (c_X5_refuseHere (q := zq q [7, 8, 9]) (r11.2) ot (1 : Int32)) dX2_readFrom_62 kM_X2_62 ⟨rfl, rfl⟩ ⟨Nat.le_of_ble_eq_true rfl, Nat.le_of_ble_eq_true rfl⟩ rfl rfl rfl (Nat.le_of_ble_eq_true rfl) rfl rfl WCR_at7 [7, 8, 9] zn5_c zn5_n (fun _ => rfl) (fun (r12 : Ob) => zn5_p r12) (fun r12 => ?_)
            exact hK65 o4 r12
          · refine y_aload_n (pc := 52) F dX2_readFrom_52 rfl ?_
            refine y_aload_n (pc := 53) F dX2_readFrom_53 rfl ?_
            refine y_callvW (As := [.ref (q 7)]) (st := []) (q0 := 0) (pc := 54) F (c_X2_readWitness (q := q) o4 (r11.2) ot) dX2_readFrom_54 kM_X2_59 ⟨rfl, rfl⟩ ⟨Nat.le_of_ble_eq_true rfl, Nat.le_of_ble_eq_true rfl⟩ rfl rfl rfl (Nat.le_of_ble_eq_true rfl) rfl rfl WCR_at0 (fun r13 => ?_)
            refine y_goto (tgt := 65) (pc := 57) F dX2_readFrom_57 rfl ?_
            exact hK65 (r13.1) (r13.2)
        · refine y_aload_n (pc := 35) F dX2_readFrom_35 rfl ?_
          refine y_aload_n (pc := 36) F dX2_readFrom_36 rfl ?_
          refine y_callvW (As := [.ref (q 7)]) (st := []) (q0 := 0) (pc := 37) F (c_X2_readSuit (q := q) o4 (r7.2) ot) dX2_readFrom_37 kM_X2_53 ⟨rfl, rfl⟩ ⟨Nat.le_of_ble_eq_true rfl, Nat.le_of_ble_eq_true rfl⟩ rfl rfl rfl (Nat.le_of_ble_eq_true rfl) rfl rfl WCR_at0 (fun r14 => ?_)
          refine y_goto (tgt := 65) (pc := 40) F dX2_readFrom_40 rfl ?_
          exact hK65 (r14.1) (r14.2)
set_option maxHeartbeats 4000000 in
set_option maxRecDepth 100000 in
theorem c_X2_readFrom {q : Nat → Nat} (oc : Ob) (od : Ob) (ot : Ob) : zCv l D tA yX2_readFrom cX2_readFrom 3 rmX2_readFrom [.ref (q 0), .ref (q 7)] (WCR tA q oc od ot) (fun (r : Ob × Ob) => (WCR tA q (r.1) (r.2) ot)) (pX2_readFrom oc od ot) := by
  refine zCv_of (lv0 := [some (.ref (q 0)), some (.ref (q 7)), none]) (by decide +kernel) (Nat.le_of_ble_eq_true rfl) rfl (fun X out F hr => ?_)
  unfold pX2_readFrom
  refine y_aload_n (pc := 0) F dX2_readFrom_0 rfl ?_
  refine y_iconst (v := 0) (pc := 1) F dX2_readFrom_1 rfl ?_
  refine y_put (pc := 2) F dX2_readFrom_2 kF_X2_30 0 WCR_at0 rfl rfl rfl (Nat.le_of_ble_eq_true rfl) (fun (o1 : Ob) => (WCR tA q o1 od ot)) (WCR_pt0_0 _) (fun o1 => ?_)
  refine y_aload_n (pc := 5) F dX2_readFrom_5 rfl ?_
  refine y_iconst (v := 0) (pc := 6) F dX2_readFrom_6 rfl ?_
  refine y_put (pc := 7) F dX2_readFrom_7 kF_X2_34 0 WCR_at0 rfl rfl rfl (Nat.le_of_ble_eq_true rfl) (fun (o2 : Ob) => (WCR tA q o2 od ot)) (WCR_pt0_1 _) (fun o2 => ?_)
  refine y_iconst (v := 0) (pc := 10) F dX2_readFrom_10 rfl ?_
  refine y_istore_n (lv' := [some (.ref (q 0)), some (.ref (q 7)), some (.int (0 : Int32))]) (pc := 11) F dX2_readFrom_11 (Nat.le_of_ble_eq_true rfl) rfl rfl ?_
  exact wlX2_readFrom_12 q ot F hr zfu (0 : Int32) o2 od
abbrev rmX4_readClause : Room := { frames := 3, cells := 0, slots := 0, locals := 68 }
def pX4_readClause (ow : Ob) (od : Ob) (ot : Ob) : Option (Ob × Ob) :=
  if (gi ow 0) < (6 : Int32) then (Option.bind (pX5_takeNumber od ot (0 : Int32) (399 : Int32)) fun (r1 : Int32 × Ob) =>
  zgd (gi ow 0) 6 <| zlet (sa ow 1 (upd (ga ow 1) ((gi ow 0).toNatClampNeg) (r1.1))) fun (o2 : Ob) =>
  Option.bind (pX5_isSound (r1.2) ot) fun (r3 : Int32) =>
  zjn (fun (o4 : Ob) =>
  Option.bind (pX5_takeNumber o4 ot (0 : Int32) (6 : Int32)) fun (r5 : Int32 × Ob) =>
  zgd (gi o2 0) 6 <| zlet (sa o2 2 (upd (ga o2 2) ((gi o2 0).toNatClampNeg) (r5.1))) fun (o6 : Ob) =>
  Option.bind (pX5_takeNumber (r5.2) ot (1 : Int32) (60 : Int32)) fun (r7 : Int32 × Ob) =>
  zgd (gi o6 0) 6 <| zlet (sa o6 3 (upd (ga o6 3) ((gi o6 0).toNatClampNeg) (r7.1))) fun (o8 : Ob) =>
  Option.bind (pX5_takeNumber (r7.2) ot (1 : Int32) (6 : Int32)) fun (r9 : Int32 × Ob) =>
  zgd (gi o8 0) 6 <| zlet (sa o8 4 (upd (ga o8 4) ((gi o8 0).toNatClampNeg) (r9.1))) fun (o10 : Ob) =>
  Option.bind (pX5_takeSemicolon (r9.2) ot) fun (r11 : Ob) =>
  zlet (si o10 0 ((gi o10 0) + (1 : Int32))) fun (o12 : Ob) =>
  some (o12, r11)) fun (K74 : Ob → Option (Ob × Ob)) =>
  if r3 = 0 then (K74 (r1.2))
  else (if (gi o2 0) ≤ 0 then (K74 (r1.2))
  else (zgd (gi o2 0) 6 <| zgd ((gi o2 0) - (1 : Int32)) 6 <| if (ga o2 1 (((gi o2 0) - (1 : Int32)).toNatClampNeg)) < (ga o2 1 ((gi o2 0).toNatClampNeg)) then (K74 (r1.2))
  else (Option.bind (pX5_refuseTaken (r1.2) ot (4 : Int32)) fun (r13 : Ob) =>
  K74 r13))))
  else (Option.bind (pX5_refuseTaken od ot (3 : Int32)) fun (r14 : Ob) =>
  some (ow, r14))
set_option maxHeartbeats 4000000 in
set_option maxRecDepth 100000 in
theorem c_X4_readClause {q : Nat → Nat} (ow : Ob) (od : Ob) (ot : Ob) : zCv l D tA yX4_readClause cX4_readClause 2 rmX4_readClause [.ref (q 0), .ref (q 5)] (WLR tA q ow od ot) (fun (r : Ob × Ob) => (WLR tA q (r.1) (r.2) ot)) (pX4_readClause ow od ot) := by
  refine zCv_of (lv0 := [some (.ref (q 0)), some (.ref (q 5))]) (by decide +kernel) (Nat.le_of_ble_eq_true rfl) rfl (fun X out F hr => ?_)
  unfold pX4_readClause
  refine y_aload_n (pc := 0) F dX4_readClause_0 rfl ?_
  refine y_get (pc := 1) F dX4_readClause_1 kF_X4_28 0 WLR_at0 rfl ?_
  refine y_bipush (v := 6) (pc := 4) F dX4_readClause_4 rfl ?_
  refine y_icmp_lt (pc := 6) (tgt := 15) F dX4_readClause_6 rfl ?_ ?_
  · refine y_aload_n (pc := 15) F dX4_readClause_15 rfl ?_
    refine y_get (pc := 16) F dX4_readClause_16 kF_X4_9 0 WLR_at0 rfl ?_
    refine y_aload_n (pc := 19) F dX4_readClause_19 rfl ?_
    refine y_get (pc := 20) F dX4_readClause_20 kF_X4_28 0 WLR_at0 rfl ?_
    refine y_aload_n (pc := 23) F dX4_readClause_23 rfl ?_
    refine y_iconst (v := 0) (pc := 24) F dX4_readClause_24 rfl ?_
    refine y_sipush (v := 399) (pc := 25) F dX4_readClause_25 rfl ?_
    refine y_calli (As := [.int (0 : Int32), .int (399 : Int32)]) (st := [.int (gi ow 0), .ref (q 1)]) (q0 := 5) (wf := fun (r1 : Int32 × Ob) => (WLR tA q ow (r1.2) ot)) (pc := 28) F (c_X5_takeNumber (q := zq q [5, 6, 7]) od ot (0 : Int32) (399 : Int32)) dX4_readClause_28 kM_X4_54 ⟨rfl, rfl⟩ ⟨Nat.le_of_ble_eq_true rfl, Nat.le_of_ble_eq_true rfl⟩ rfl rfl rfl (Nat.le_of_ble_eq_true rfl) rfl rfl WLR_at5 [5, 6, 7] zn10_c zn10_n (fun _ => rfl) (fun (r1 : Int32 × Ob) => zn10_p (r1.2)) (fun r1 => ?_)
    refine y_iast (pc := 31) F dX4_readClause_31 1 WLR_at1 (fun (o2 : Ob) => (WLR tA q o2 (r1.2) ot)) (WLR_ar1 _) (fun o2 => ?_)
    refine y_aload_n (pc := 32) F dX4_readClause_32 rfl ?_
    refine y_calliR (As := []) (st := []) (q0 := 5) (pc := 33) F (c_X5_isSound (q := zq q [5, 6, 7]) (r1.2) ot) dX4_readClause_33 kM_X4_58 ⟨rfl, rfl⟩ ⟨Nat.le_of_ble_eq_true rfl, Nat.le_of_ble_eq_true rfl⟩ rfl rfl rfl (Nat.le_of_ble_eq_true rfl) rfl rfl WLR_at5 [5, 6, 7] zn11_c zn11_n (fun r3 => ?_)
    refine y_jn (fun (K74 : Ob → Option (Ob × Ob)) => ∀ (o4 : Ob), zY X D out (K74 o4) (WLR tA q o2 o4 ot) 74 [some (.ref (q 0)), some (.ref (q 5))] []) ?_ ?_
    · intro o4
      refine y_aload_n (pc := 74) F dX4_readClause_74 rfl ?_
      refine y_get (pc := 75) F dX4_readClause_75 kF_X4_15 0 WLR_at0 rfl ?_
      refine y_aload_n (pc := 78) F dX4_readClause_78 rfl ?_
      refine y_get (pc := 79) F dX4_readClause_79 kF_X4_28 0 WLR_at0 rfl ?_
      refine y_aload_n (pc := 82) F dX4_readClause_82 rfl ?_
      refine y_iconst (v := 0) (pc := 83) F dX4_readClause_83 rfl ?_
      refine y_bipush (v := 6) (pc := 84) F dX4_readClause_84 rfl ?_
      refine y_calli (As := [.int (0 : Int32), .int (6 : Int32)]) (st := [.int (gi o2 0), .ref (q 2)]) (q0 := 5) (wf := fun (r5 : Int32 × Ob) => (WLR tA q o2 (r5.2) ot)) (pc := 86) F (c_X5_takeNumber (q := zq q [5, 6, 7]) o4 ot (0 : Int32) (6 : Int32)) dX4_readClause_86 kM_X4_54 ⟨rfl, rfl⟩ ⟨Nat.le_of_ble_eq_true rfl, Nat.le_of_ble_eq_true rfl⟩ rfl rfl rfl (Nat.le_of_ble_eq_true rfl) rfl rfl WLR_at5 [5, 6, 7] zn10_c zn10_n (fun _ => rfl) (fun (r5 : Int32 × Ob) => zn10_p (r5.2)) (fun r5 => ?_)
      refine y_iast (pc := 89) F dX4_readClause_89 2 WLR_at2 (fun (o6 : Ob) => (WLR tA q o6 (r5.2) ot)) (WLR_ar2 _) (fun o6 => ?_)
      refine y_aload_n (pc := 90) F dX4_readClause_90 rfl ?_
      refine y_get (pc := 91) F dX4_readClause_91 kF_X4_18 0 WLR_at0 rfl ?_
      refine y_aload_n (pc := 94) F dX4_readClause_94 rfl ?_
      refine y_get (pc := 95) F dX4_readClause_95 kF_X4_28 0 WLR_at0 rfl ?_
      refine y_aload_n (pc := 98) F dX4_readClause_98 rfl ?_
      refine y_iconst (v := 1) (pc := 99) F dX4_readClause_99 rfl ?_
      refine y_bipush (v := 60) (pc := 100) F dX4_readClause_100 rfl ?_
      refine y_calli (As := [.int (1 : Int32), .int (60 : Int32)]) (st := [.int (gi o6 0), .ref (q 3)]) (q0 := 5) (wf := fun (r7 : Int32 × Ob) => (WLR tA q o6 (r7.2) ot)) (pc := 102) F (c_X5_takeNumber (q := zq q [5, 6, 7]) (r5.2) ot (1 : Int32) (60 : Int32)) dX4_readClause_102 kM_X4_54 ⟨rfl, rfl⟩ ⟨Nat.le_of_ble_eq_true rfl, Nat.le_of_ble_eq_true rfl⟩ rfl rfl rfl (Nat.le_of_ble_eq_true rfl) rfl rfl WLR_at5 [5, 6, 7] zn10_c zn10_n (fun _ => rfl) (fun (r7 : Int32 × Ob) => zn10_p (r7.2)) (fun r7 => ?_)
      refine y_iast (pc := 105) F dX4_readClause_105 3 WLR_at3 (fun (o8 : Ob) => (WLR tA q o8 (r7.2) ot)) (WLR_ar3 _) (fun o8 => ?_)
      refine y_aload_n (pc := 106) F dX4_readClause_106 rfl ?_
      refine y_get (pc := 107) F dX4_readClause_107 kF_X4_21 0 WLR_at0 rfl ?_
      refine y_aload_n (pc := 110) F dX4_readClause_110 rfl ?_
      refine y_get (pc := 111) F dX4_readClause_111 kF_X4_28 0 WLR_at0 rfl ?_
      refine y_aload_n (pc := 114) F dX4_readClause_114 rfl ?_
      refine y_iconst (v := 1) (pc := 115) F dX4_readClause_115 rfl ?_
      refine y_bipush (v := 6) (pc := 116) F dX4_readClause_116 rfl ?_
      refine y_calli (As := [.int (1 : Int32), .int (6 : Int32)]) (st := [.int (gi o8 0), .ref (q 4)]) (q0 := 5) (wf := fun (r9 : Int32 × Ob) => (WLR tA q o8 (r9.2) ot)) (pc := 118) F (c_X5_takeNumber (q := zq q [5, 6, 7]) (r7.2) ot (1 : Int32) (6 : Int32)) dX4_readClause_118 kM_X4_54 ⟨rfl, rfl⟩ ⟨Nat.le_of_ble_eq_true rfl, Nat.le_of_ble_eq_true rfl⟩ rfl rfl rfl (Nat.le_of_ble_eq_true rfl) rfl rfl WLR_at5 [5, 6, 7] zn10_c zn10_n (fun _ => rfl) (fun (r9 : Int32 × Ob) => zn10_p (r9.2)) (fun r9 => ?_)
      refine y_iast (pc := 121) F dX4_readClause_121 4 WLR_at4 (fun (o10 : Ob) => (WLR tA q o10 (r9.2) ot)) (WLR_ar4 _) (fun o10 => ?_)
      refine y_aload_n (pc := 122) F dX4_readClause_122 rfl ?_
      refine y_callv (As := []) (st := []) (q0 := 5) (wf := fun (r11 : Ob) => (WLR tA q o10 r11 ot)) (pc := 123) F (c_X5_takeSemicolon (q := zq q [5, 6, 7]) (r9.2) ot) dX4_readClause_123 kM_X4_61 ⟨rfl, rfl⟩ ⟨Nat.le_of_ble_eq_true rfl, Nat.le_of_ble_eq_true rfl⟩ rfl rfl rfl (Nat.le_of_ble_eq_true rfl) rfl rfl WLR_at5 [5, 6, 7] zn10_c zn10_n (fun _ => rfl) (fun (r11 : Ob) => zn10_p r11) (fun r11 => ?_)
      refine y_aload_n (pc := 126) F dX4_readClause_126 rfl ?_
      refine y_dup (pc := 127) F dX4_readClause_127 rfl ?_
      refine y_get (pc := 128) F dX4_readClause_128 kF_X4_28 0 WLR_at0 rfl ?_
      refine y_iconst (v := 1) (pc := 131) F dX4_readClause_131 rfl ?_
      refine y_iadd (pc := 132) F dX4_readClause_132 ?_
      refine y_put (pc := 133) F dX4_readClause_133 kF_X4_28 0 WLR_at0 rfl rfl rfl (Nat.le_of_ble_eq_true rfl) (fun (o12 : Ob) => (WLR tA q o12 r11 ot)) (WLR_pt0_0 _) (fun o12 => ?_)
      exact y_vret hr dX4_readClause_136 rfl
    intro K74 hK74
    refine y_if_eq (pc := 36) (tgt := 74) F dX4_readClause_36 rfl ?_ ?_
    · exact hK74 (r1.2)
    · refine y_aload_n (pc := 39) F dX4_readClause_39 rfl ?_
      refine y_get (pc := 40) F dX4_readClause_40 kF_X4_28 0 WLR_at0 rfl ?_
      refine y_if_le (pc := 43) (tgt := 74) F dX4_readClause_43 rfl ?_ ?_
      · exact hK74 (r1.2)
      · refine y_aload_n (pc := 46) F dX4_readClause_46 rfl ?_
        refine y_get (pc := 47) F dX4_readClause_47 kF_X4_9 0 WLR_at0 rfl ?_
        refine y_aload_n (pc := 50) F dX4_readClause_50 rfl ?_
        refine y_get (pc := 51) F dX4_readClause_51 kF_X4_28 0 WLR_at0 rfl ?_
        refine y_iald (pc := 54) F dX4_readClause_54 1 WLR_at1 ?_
        refine y_aload_n (pc := 55) F dX4_readClause_55 rfl ?_
        refine y_get (pc := 56) F dX4_readClause_56 kF_X4_9 0 WLR_at0 rfl ?_
        refine y_aload_n (pc := 59) F dX4_readClause_59 rfl ?_
        refine y_get (pc := 60) F dX4_readClause_60 kF_X4_28 0 WLR_at0 rfl ?_
        refine y_iconst (v := 1) (pc := 63) F dX4_readClause_63 rfl ?_
        refine y_isub (pc := 64) F dX4_readClause_64 ?_
        refine y_iald (pc := 65) F dX4_readClause_65 1 WLR_at1 ?_
        refine y_icmp_gt (pc := 66) (tgt := 74) F dX4_readClause_66 rfl ?_ ?_
        · exact hK74 (r1.2)
        · refine y_aload_n (pc := 69) F dX4_readClause_69 rfl ?_
          refine y_iconst (v := 4) (pc := 70) F dX4_readClause_70 rfl ?_
          refine y_callv (As := [.int (4 : Int32)]) (st := []) (q0 := 5) (wf := fun (r13 : Ob) => (WLR tA q o2 r13 ot)) (pc := 71) F (c_X5_refuseTaken (q := zq q [5, 6, 7]) (r1.2) ot (4 : Int32)) dX4_readClause_71 kM_X4_51 ⟨rfl, rfl⟩ ⟨Nat.le_of_ble_eq_true rfl, Nat.le_of_ble_eq_true rfl⟩ rfl rfl rfl (Nat.le_of_ble_eq_true rfl) rfl rfl WLR_at5 [5, 6, 7] zn10_c zn10_n (fun _ => rfl) (fun (r13 : Ob) => zn10_p r13) (fun r13 => ?_)
          exact hK74 r13
  · refine y_aload_n (pc := 9) F dX4_readClause_9 rfl ?_
    refine y_iconst (v := 3) (pc := 10) F dX4_readClause_10 rfl ?_
    refine y_callv (As := [.int (3 : Int32)]) (st := []) (q0 := 5) (wf := fun (r14 : Ob) => (WLR tA q ow r14 ot)) (pc := 11) F (c_X5_refuseTaken (q := zq q [5, 6, 7]) od ot (3 : Int32)) dX4_readClause_11 kM_X4_51 ⟨rfl, rfl⟩ ⟨Nat.le_of_ble_eq_true rfl, Nat.le_of_ble_eq_true rfl⟩ rfl rfl rfl (Nat.le_of_ble_eq_true rfl) rfl rfl WLR_at5 [5, 6, 7] zn10_c zn10_n (fun _ => rfl) (fun (r14 : Ob) => zn10_p r14) (fun r14 => ?_)
    exact y_vret hr dX4_readClause_14 rfl
abbrev rmX4_readFrom : Room := { frames := 6, cells := 0, slots := 0, locals := 163 }
def lX4_readFrom_7 (ot : Ob) : Nat → Int32 → Ob → Ob → Option (Ob × Ob)
  | 0, _, _, _ => none
  | f + 1, x2, o3, o4 =>
    if (500 : Int32) ≤ x2 then (some (o4, o3))
    else (Option.bind (pX5_hasMore o3 ot) fun (r5 : Int32) =>
    if r5 = 0 then (some (o4, o3))
    else (Option.bind (pX5_takesWord 7 o3 ot) fun (r6 : Int32 × Ob) =>
    zjn (fun (o7 : Ob) (o8 : Ob) =>
    zlet (x2 + (1 : Int32)) fun (x9 : Int32) =>
    lX4_readFrom_7 ot f x9 o7 o8) fun (K43 : Ob → Ob → Option (Ob × Ob)) =>
    if (r6.1) = 0 then (Option.bind (pX5_refuseHere (r6.2) ot (1 : Int32)) fun (r10 : Ob) =>
    K43 r10 o4)
    else (Option.bind (pX4_readClause o4 (r6.2) ot) fun (r11 : Ob × Ob) =>
    K43 (r11.2) (r11.1))))
def pX4_readFrom (ow : Ob) (od : Ob) (ot : Ob) : Option (Ob × Ob) :=
  zlet (si ow 0 (0 : Int32)) fun (o1 : Ob) =>
  lX4_readFrom_7 ot zfu (0 : Int32) od o1
set_option maxHeartbeats 4000000 in
set_option maxRecDepth 100000 in
theorem wlX4_readFrom_7 {X : ZX} {out : (Ob × Ob)} (q : Nat → Nat) (ot : Ob) (F : zF l D tA RX4 cX4_readFrom 3 rmX4_readFrom X) (hr : zRv X D cX4_readFrom (fun (r : Ob × Ob) => (WLR tA q (r.1) (r.2) ot)) out) : ∀ (f : Nat) (x2 : Int32) (o3 : Ob) (o4 : Ob), zY X D out (lX4_readFrom_7 ot f x2 o3 o4) (WLR tA q o4 o3 ot) 7 [some (.ref (q 0)), some (.ref (q 5)), some (.int x2)] [] := by
  intro f
  induction f with
  | zero =>
    intro x2 o3 o4
    exact y_none
  | succ f ih =>
    intro x2 o3 o4
    rw [lX4_readFrom_7.eq_2]
    refine y_iload_n (pc := 7) F dX4_readFrom_7 rfl ?_
    refine y_sipush (v := 500) (pc := 8) F dX4_readFrom_8 rfl ?_
    refine y_icmp_ge (pc := 11) (tgt := 49) F dX4_readFrom_11 rfl ?_ ?_
    · exact y_vret hr dX4_readFrom_49 rfl
    · refine y_aload_n (pc := 14) F dX4_readFrom_14 rfl ?_
      refine y_calliR (As := []) (st := []) (q0 := 5) (pc := 15) F (c_X5_hasMore (q := zq q [5, 6, 7]) o3 ot) dX4_readFrom_15 kM_X4_32 ⟨rfl, rfl⟩ ⟨Nat.le_of_ble_eq_true rfl, Nat.le_of_ble_eq_true rfl⟩ rfl rfl rfl (Nat.le_of_ble_eq_true rfl) rfl rfl WLR_at5 [5, 6, 7] zn11_c zn11_n (fun r5 => ?_)
      refine y_if_eq (pc := 18) (tgt := 49) F dX4_readFrom_18 rfl ?_ ?_
      · exact y_vret hr dX4_readFrom_49 rfl
      · refine y_aload_n (pc := 21) F dX4_readFrom_21 rfl ?_
        refine y_ldcS (i := 7) (pc := 22) F rfl ⟨rfl, rfl⟩ dX4_readFrom_22 ?_
        refine y_calli (As := [.ref (tA (100 + 7))]) (st := []) (q0 := 5) (wf := fun (r6 : Int32 × Ob) => (WLR tA q o4 (r6.2) ot)) (pc := 24) F (c_X5_takesWord 7 (by decide) (q := zq q [5, 6, 7]) o3 ot) dX4_readFrom_24 kM_X4_39 ⟨rfl, rfl⟩ ⟨Nat.le_of_ble_eq_true rfl, Nat.le_of_ble_eq_true rfl⟩ rfl rfl rfl (Nat.le_of_ble_eq_true rfl) rfl rfl WLR_at5 [5, 6, 7] zn10_c zn10_n (fun _ => rfl) (fun (r6 : Int32 × Ob) => zn10_p (r6.2)) (fun r6 => ?_)
        refine y_jn (fun (K43 : Ob → Ob → Option (Ob × Ob)) => ∀ (o7 : Ob) (o8 : Ob), zY X D out (K43 o7 o8) (WLR tA q o8 o7 ot) 43 [some (.ref (q 0)), some (.ref (q 5)), some (.int x2)] []) ?_ ?_
        · intro o7 o8
          refine y_iinc (v := 1) (lf := fun (x9 : Int32) => [some (.ref (q 0)), some (.ref (q 5)), some (.int x9)]) (pc := 43) F dX4_readFrom_43 rfl rfl rfl (fun _ => rfl) (fun x9 => ?_)
          refine y_goto (tgt := 7) (pc := 46) F dX4_readFrom_46 rfl ?_
          exact ih x9 o7 o8
        intro K43 hK43
        refine y_if_eq (pc := 27) (tgt := 38) F dX4_readFrom_27 rfl ?_ ?_
        · refine y_aload_n (pc := 38) F dX4_readFrom_38 rfl ?_
          refine y_iconst (v := 1) (pc := 39) F dX4_readFrom_39 rfl ?_
          refine y_callv (As := [.int (1 : Int32)]) (st := []) (q0 := 5) (wf := fun (r10 : Ob) => (WLR tA q o4 r10 ot)) (pc := 40) F (c_X5_refuseHere (q := zq q [5, 6, 7]) (r6.2) ot (1 : Int32)) dX4_readFrom_40 kM_X4_47 ⟨rfl, rfl⟩ ⟨Nat.le_of_ble_eq_true rfl, Nat.le_of_ble_eq_true rfl⟩ rfl rfl rfl (Nat.le_of_ble_eq_true rfl) rfl rfl WLR_at5 [5, 6, 7] zn10_c zn10_n (fun _ => rfl) (fun (r10 : Ob) => zn10_p r10) (fun r10 => ?_)
          exact hK43 r10 o4
        · refine y_aload_n (pc := 30) F dX4_readFrom_30 rfl ?_
          refine y_aload_n (pc := 31) F dX4_readFrom_31 rfl ?_
          refine y_callvW (As := [.ref (q 5)]) (st := []) (q0 := 0) (pc := 32) F (c_X4_readClause (q := q) o4 (r6.2) ot) dX4_readFrom_32 kM_X4_43 ⟨rfl, rfl⟩ ⟨Nat.le_of_ble_eq_true rfl, Nat.le_of_ble_eq_true rfl⟩ rfl rfl rfl (Nat.le_of_ble_eq_true rfl) rfl rfl WLR_at0 (fun r11 => ?_)
          refine y_goto (tgt := 43) (pc := 35) F dX4_readFrom_35 rfl ?_
          exact hK43 (r11.2) (r11.1)
set_option maxHeartbeats 4000000 in
set_option maxRecDepth 100000 in
theorem c_X4_readFrom {q : Nat → Nat} (ow : Ob) (od : Ob) (ot : Ob) : zCv l D tA yX4_readFrom cX4_readFrom 3 rmX4_readFrom [.ref (q 0), .ref (q 5)] (WLR tA q ow od ot) (fun (r : Ob × Ob) => (WLR tA q (r.1) (r.2) ot)) (pX4_readFrom ow od ot) := by
  refine zCv_of (lv0 := [some (.ref (q 0)), some (.ref (q 5)), none]) (by decide +kernel) (Nat.le_of_ble_eq_true rfl) rfl (fun X out F hr => ?_)
  unfold pX4_readFrom
  refine y_aload_n (pc := 0) F dX4_readFrom_0 rfl ?_
  refine y_iconst (v := 0) (pc := 1) F dX4_readFrom_1 rfl ?_
  refine y_put (pc := 2) F dX4_readFrom_2 kF_X4_28 0 WLR_at0 rfl rfl rfl (Nat.le_of_ble_eq_true rfl) (fun (o1 : Ob) => (WLR tA q o1 od ot)) (WLR_pt0_0 _) (fun o1 => ?_)
  refine y_iconst (v := 0) (pc := 5) F dX4_readFrom_5 rfl ?_
  refine y_istore_n (lv' := [some (.ref (q 0)), some (.ref (q 5)), some (.int (0 : Int32))]) (pc := 6) F dX4_readFrom_6 (Nat.le_of_ble_eq_true rfl) rfl rfl ?_
  exact wlX4_readFrom_7 q ot F hr zfu (0 : Int32) od o1
abbrev rmX5_start : Room := { frames := 2, cells := 0, slots := 0, locals := 43 }
def pX5_start (od : Ob) (ot : Ob) : Option Ob :=
  zlet (si od 1 (0 : Int32)) fun (o1 : Ob) =>
  zlet (si o1 2 (-1 : Int32)) fun (o2 : Ob) =>
  zlet (si o2 3 (0 : Int32)) fun (o3 : Ob) =>
  Option.bind (pX5_pass o3 ot (0 : Int32)) fun (r4 : Ob) =>
  some r4
set_option maxHeartbeats 4000000 in
set_option maxRecDepth 100000 in
theorem c_X5_start {q : Nat → Nat} (od : Ob) (ot : Ob) : zCv l D tA yX5_start cX5_start 1 rmX5_start [.ref (q 0)] (WR tA q od ot) (fun (r : Ob) => (WR tA q r ot)) (pX5_start od ot) := by
  refine zCv_of (lv0 := [some (.ref (q 0))]) (by decide +kernel) (Nat.le_of_ble_eq_true rfl) rfl (fun X out F hr => ?_)
  unfold pX5_start
  refine y_aload_n (pc := 0) F dX5_start_0 rfl ?_
  refine y_iconst (v := 0) (pc := 1) F dX5_start_1 rfl ?_
  refine y_put (pc := 2) F dX5_start_2 kF_X5_15 0 WR_at0 rfl rfl rfl (Nat.le_of_ble_eq_true rfl) (fun (o1 : Ob) => (WR tA q o1 ot)) (WR_pt0_1 _) (fun o1 => ?_)
  refine y_aload_n (pc := 5) F dX5_start_5 rfl ?_
  refine y_iconst (v := -1) (pc := 6) F dX5_start_6 rfl ?_
  refine y_put (pc := 7) F dX5_start_7 kF_X5_19 0 WR_at0 rfl rfl rfl (Nat.le_of_ble_eq_true rfl) (fun (o2 : Ob) => (WR tA q o2 ot)) (WR_pt0_2 _) (fun o2 => ?_)
  refine y_aload_n (pc := 10) F dX5_start_10 rfl ?_
  refine y_iconst (v := 0) (pc := 11) F dX5_start_11 rfl ?_
  refine y_put (pc := 12) F dX5_start_12 kF_X5_22 0 WR_at0 rfl rfl rfl (Nat.le_of_ble_eq_true rfl) (fun (o3 : Ob) => (WR tA q o3 ot)) (WR_pt0_3 _) (fun o3 => ?_)
  refine y_aload_n (pc := 15) F dX5_start_15 rfl ?_
  refine y_iconst (v := 0) (pc := 16) F dX5_start_16 rfl ?_
  refine y_callvW (As := [.int (0 : Int32)]) (st := []) (q0 := 0) (pc := 17) F (c_X5_pass (q := q) o3 ot (0 : Int32)) dX5_start_17 kM_X5_25 ⟨rfl, rfl⟩ ⟨Nat.le_of_ble_eq_true rfl, Nat.le_of_ble_eq_true rfl⟩ rfl rfl rfl (Nat.le_of_ble_eq_true rfl) rfl rfl WR_at0 (fun r4 => ?_)
  exact y_vret hr dX5_start_20 rfl
abbrev rmX6_startAgain : Room := { frames := 1, cells := 0, slots := 0, locals := 23 }
def pX6_startAgain (os : Ob) : Option Ob :=
  zlet (si os 0 (0 : Int32)) fun (o1 : Ob) =>
  zlet (si o1 1 (0 : Int32)) fun (o2 : Ob) =>
  zlet (sa o2 3 (fun _ => (-1 : Int32))) fun (o3 : Ob) =>
  zlet (sa o3 4 (fun _ => (0 : Int32))) fun (o4 : Ob) =>
  zlet (sa o4 5 (fun _ => (0 : Int32))) fun (o5 : Ob) =>
  zlet (sa o5 6 (fun _ => (0 : Int32))) fun (o6 : Ob) =>
  zlet (sa o6 7 (fun _ => (0 : Int32))) fun (o7 : Ob) =>
  zlet (sa o7 8 (fun _ => (-1 : Int32))) fun (o8 : Ob) =>
  some o8
set_option maxHeartbeats 4000000 in
set_option maxRecDepth 100000 in
theorem c_X6_startAgain {q : Nat → Nat} (os : Ob) : zCv l D tA yX6_startAgain cX6_startAgain 1 rmX6_startAgain [.ref (q 0)] (WS tA q os) (fun (r : Ob) => (WS tA q r)) (pX6_startAgain os) := by
  refine zCv_of (lv0 := [some (.ref (q 0))]) (by decide +kernel) (Nat.le_of_ble_eq_true rfl) rfl (fun X out F hr => ?_)
  unfold pX6_startAgain
  refine y_aload_n (pc := 0) F dX6_startAgain_0 rfl ?_
  refine y_iconst (v := 0) (pc := 1) F dX6_startAgain_1 rfl ?_
  refine y_put (pc := 2) F dX6_startAgain_2 kF_X6_38 0 WS_at0 rfl rfl rfl (Nat.le_of_ble_eq_true rfl) (fun (o1 : Ob) => (WS tA q o1)) (WS_pt0_0 _) (fun o1 => ?_)
  refine y_aload_n (pc := 5) F dX6_startAgain_5 rfl ?_
  refine y_iconst (v := 0) (pc := 6) F dX6_startAgain_6 rfl ?_
  refine y_put (pc := 7) F dX6_startAgain_7 kF_X6_42 0 WS_at0 rfl rfl rfl (Nat.le_of_ble_eq_true rfl) (fun (o2 : Ob) => (WS tA q o2)) (WS_pt0_1 _) (fun o2 => ?_)
  refine y_aload_n (pc := 10) F dX6_startAgain_10 rfl ?_
  refine y_get (pc := 11) F dX6_startAgain_11 kF_X6_9 0 WS_at0 rfl ?_
  refine y_iconst (v := -1) (pc := 14) F dX6_startAgain_14 rfl ?_
  refine y_filli (st := []) (pc := 15) F dX6_startAgain_15 kM_X6_45 ⟨Nat.le_of_ble_eq_true rfl, Nat.le_of_ble_eq_true rfl⟩ rfl (Nat.le_of_ble_eq_true rfl) 1 WS_at1 (Nat.le_of_ble_eq_true rfl) (fun (o3 : Ob) => (WS tA q o3)) (WS_ar1 _) (fun o3 => ?_)
  refine y_aload_n (pc := 18) F dX6_startAgain_18 rfl ?_
  refine y_get (pc := 19) F dX6_startAgain_19 kF_X6_15 0 WS_at0 rfl ?_
  refine y_iconst (v := 0) (pc := 22) F dX6_startAgain_22 rfl ?_
  refine y_filli (st := []) (pc := 23) F dX6_startAgain_23 kM_X6_45 ⟨Nat.le_of_ble_eq_true rfl, Nat.le_of_ble_eq_true rfl⟩ rfl (Nat.le_of_ble_eq_true rfl) 2 WS_at2 (Nat.le_of_ble_eq_true rfl) (fun (o4 : Ob) => (WS tA q o4)) (WS_ar2 _) (fun o4 => ?_)
  refine y_aload_n (pc := 26) F dX6_startAgain_26 rfl ?_
  refine y_get (pc := 27) F dX6_startAgain_27 kF_X6_18 0 WS_at0 rfl ?_
  refine y_iconst (v := 0) (pc := 30) F dX6_startAgain_30 rfl ?_
  refine y_filli (st := []) (pc := 31) F dX6_startAgain_31 kM_X6_45 ⟨Nat.le_of_ble_eq_true rfl, Nat.le_of_ble_eq_true rfl⟩ rfl (Nat.le_of_ble_eq_true rfl) 3 WS_at3 (Nat.le_of_ble_eq_true rfl) (fun (o5 : Ob) => (WS tA q o5)) (WS_ar3 _) (fun o5 => ?_)
  refine y_aload_n (pc := 34) F dX6_startAgain_34 rfl ?_
  refine y_get (pc := 35) F dX6_startAgain_35 kF_X6_21 0 WS_at0 rfl ?_
  refine y_iconst (v := 0) (pc := 38) F dX6_startAgain_38 rfl ?_
  refine y_filli (st := []) (pc := 39) F dX6_startAgain_39 kM_X6_45 ⟨Nat.le_of_ble_eq_true rfl, Nat.le_of_ble_eq_true rfl⟩ rfl (Nat.le_of_ble_eq_true rfl) 4 WS_at4 (Nat.le_of_ble_eq_true rfl) (fun (o6 : Ob) => (WS tA q o6)) (WS_ar4 _) (fun o6 => ?_)
  refine y_aload_n (pc := 42) F dX6_startAgain_42 rfl ?_
  refine y_get (pc := 43) F dX6_startAgain_43 kF_X6_24 0 WS_at0 rfl ?_
  refine y_iconst (v := 0) (pc := 46) F dX6_startAgain_46 rfl ?_
  refine y_filli (st := []) (pc := 47) F dX6_startAgain_47 kM_X6_45 ⟨Nat.le_of_ble_eq_true rfl, Nat.le_of_ble_eq_true rfl⟩ rfl (Nat.le_of_ble_eq_true rfl) 5 WS_at5 (Nat.le_of_ble_eq_true rfl) (fun (o7 : Ob) => (WS tA q o7)) (WS_ar5 _) (fun o7 => ?_)
  refine y_aload_n (pc := 50) F dX6_startAgain_50 rfl ?_
  refine y_get (pc := 51) F dX6_startAgain_51 kF_X6_27 0 WS_at0 rfl ?_
  refine y_iconst (v := -1) (pc := 54) F dX6_startAgain_54 rfl ?_
  refine y_filli (st := []) (pc := 55) F dX6_startAgain_55 kM_X6_45 ⟨Nat.le_of_ble_eq_true rfl, Nat.le_of_ble_eq_true rfl⟩ rfl (Nat.le_of_ble_eq_true rfl) 6 WS_at6 (Nat.le_of_ble_eq_true rfl) (fun (o8 : Ob) => (WS tA q o8)) (WS_ar6 _) (fun o8 => ?_)
  exact y_vret hr dX6_startAgain_58 rfl
abbrev rmX6_become : Room := { frames := 1, cells := 0, slots := 0, locals := 60 }
def lX6_become_116 (ou : Ob) : Nat → Int32 → Ob → Option Ob
  | 0, _, _ => none
  | f + 1, x10, o11 =>
    if (6 : Int32) ≤ x10 then (some o11)
    else (zgd x10 6 <| zgd x10 6 <| zlet (sa o11 (20 + (x10.toNatClampNeg)) (va_cpy (ga ou (20 + (x10.toNatClampNeg))) (ga o11 (20 + (x10.toNatClampNeg))) 0 0 400)) fun (o14 : Ob) =>
    zlet (x10 + (1 : Int32)) fun (x15 : Int32) =>
    lX6_become_116 ou f x15 o14)
def pX6_become (os : Ob) (ou : Ob) : Option Ob :=
  zlet (si os 0 (gi ou 0)) fun (o1 : Ob) =>
  zlet (si o1 1 (gi ou 1)) fun (o2 : Ob) =>
  zlet (si o2 2 (gi ou 2)) fun (o3 : Ob) =>
  zlet (sa o3 3 (va_cpy (ga ou 3) (ga o3 3) 0 0 12)) fun (o4 : Ob) =>
  zlet (sa o4 4 (va_cpy (ga ou 4) (ga o4 4) 0 0 12)) fun (o5 : Ob) =>
  zlet (sa o5 5 (va_cpy (ga ou 5) (ga o5 5) 0 0 12)) fun (o6 : Ob) =>
  zlet (sa o6 6 (va_cpy (ga ou 6) (ga o6 6) 0 0 6)) fun (o7 : Ob) =>
  zlet (sa o7 7 (va_cpy (ga ou 7) (ga o7 7) 0 0 6)) fun (o8 : Ob) =>
  zlet (sa o8 8 (va_cpy (ga ou 8) (ga o8 8) 0 0 6)) fun (o9 : Ob) =>
  lX6_become_116 ou zfu (0 : Int32) o9
set_option maxHeartbeats 4000000 in
set_option maxRecDepth 100000 in
theorem wlX6_become_116 {X : ZX} {out : Ob} (q : Nat → Nat) (ou : Ob) (F : zF l D tA RX6 cX6_become 3 rmX6_become X) (hr : zRv X D cX6_become (fun (r : Ob) => (WSS tA q r ou)) out) : ∀ (f : Nat) (x10 : Int32) (o11 : Ob), zY X D out (lX6_become_116 ou f x10 o11) (WSS tA q o11 ou) 116 [some (.ref (q 0)), some (.ref (q 14)), some (.int x10)] [] := by
  intro f
  induction f with
  | zero =>
    intro x10 o11
    exact y_none
  | succ f ih =>
    intro x10 o11
    rw [lX6_become_116.eq_2]
    refine y_iload_n (pc := 116) F dX6_become_116 rfl ?_
    refine y_bipush (v := 6) (pc := 117) F dX6_become_117 rfl ?_
    refine y_icmp_ge (pc := 119) (tgt := 148) F dX6_become_119 rfl ?_ ?_
    · exact y_vret hr dX6_become_148 rfl
    · refine y_aload_n (pc := 122) F dX6_become_122 rfl ?_
      refine y_get (pc := 123) F dX6_become_123 kF_X6_32 14 WSS_at14 rfl ?_
      refine y_iload_n (pc := 126) F dX6_become_126 rfl ?_
      refine y_aaldr (pc := 127) F dX6_become_127 21 5 WSS_at21 rfl rfl (fun h12 => ?_)
      refine y_iconst (v := 0) (pc := 128) F dX6_become_128 rfl ?_
      refine y_aload_n (pc := 129) F dX6_become_129 rfl ?_
      refine y_get (pc := 130) F dX6_become_130 kF_X6_32 0 WSS_at0 rfl ?_
      refine y_iload_n (pc := 133) F dX6_become_133 rfl ?_
      refine y_aaldr (pc := 134) F dX6_become_134 7 5 WSS_at7 rfl rfl (fun h13 => ?_)
      refine y_iconst (v := 0) (pc := 135) F dX6_become_135 rfl ?_
      refine y_sipush (v := 400) (pc := 136) F dX6_become_136 rfl ?_
      refine y_copyi (st := []) (N := 400) (pc := 139) F dX6_become_139 kM_X6_54 ⟨Nat.le_of_ble_eq_true rfl, Nat.le_of_ble_eq_true rfl⟩ rfl (22 + (x10.toNatClampNeg)) (8 + (x10.toNatClampNeg)) (WSS_row21 _ h12) (WSS_row7 _ h13) rfl (by decide) (fun (o14 : Ob) => (WSS tA q o14 ou)) (WSS_set7 _ h13 _) (fun o14 => ?_)
      refine y_iinc (v := 1) (lf := fun (x15 : Int32) => [some (.ref (q 0)), some (.ref (q 14)), some (.int x15)]) (pc := 142) F dX6_become_142 rfl rfl rfl (fun _ => rfl) (fun x15 => ?_)
      refine y_goto (tgt := 116) (pc := 145) F dX6_become_145 rfl ?_
      exact ih x15 o14
set_option maxHeartbeats 4000000 in
set_option maxRecDepth 100000 in
theorem c_X6_become {q : Nat → Nat} (os : Ob) (ou : Ob) : zCv l D tA yX6_become cX6_become 3 rmX6_become [.ref (q 0), .ref (q 14)] (WSS tA q os ou) (fun (r : Ob) => (WSS tA q r ou)) (pX6_become os ou) := by
  refine zCv_of (lv0 := [some (.ref (q 0)), some (.ref (q 14)), none]) (by decide +kernel) (Nat.le_of_ble_eq_true rfl) rfl (fun X out F hr => ?_)
  unfold pX6_become
  refine y_aload_n (pc := 0) F dX6_become_0 rfl ?_
  refine y_aload_n (pc := 1) F dX6_become_1 rfl ?_
  refine y_get (pc := 2) F dX6_become_2 kF_X6_38 14 WSS_at14 rfl ?_
  refine y_put (pc := 5) F dX6_become_5 kF_X6_38 0 WSS_at0 rfl rfl rfl (Nat.le_of_ble_eq_true rfl) (fun (o1 : Ob) => (WSS tA q o1 ou)) (WSS_pt0_0 _) (fun o1 => ?_)
  refine y_aload_n (pc := 8) F dX6_become_8 rfl ?_
  refine y_aload_n (pc := 9) F dX6_become_9 rfl ?_
  refine y_get (pc := 10) F dX6_become_10 kF_X6_42 14 WSS_at14 rfl ?_
  refine y_put (pc := 13) F dX6_become_13 kF_X6_42 0 WSS_at0 rfl rfl rfl (Nat.le_of_ble_eq_true rfl) (fun (o2 : Ob) => (WSS tA q o2 ou)) (WSS_pt0_1 _) (fun o2 => ?_)
  refine y_aload_n (pc := 16) F dX6_become_16 rfl ?_
  refine y_aload_n (pc := 17) F dX6_become_17 rfl ?_
  refine y_get (pc := 18) F dX6_become_18 kF_X6_51 14 WSS_at14 rfl ?_
  refine y_put (pc := 21) F dX6_become_21 kF_X6_51 0 WSS_at0 rfl rfl rfl (Nat.le_of_ble_eq_true rfl) (fun (o3 : Ob) => (WSS tA q o3 ou)) (WSS_pt0_2 _) (fun o3 => ?_)
  refine y_aload_n (pc := 24) F dX6_become_24 rfl ?_
  refine y_get (pc := 25) F dX6_become_25 kF_X6_9 14 WSS_at14 rfl ?_
  refine y_iconst (v := 0) (pc := 28) F dX6_become_28 rfl ?_
  refine y_aload_n (pc := 29) F dX6_become_29 rfl ?_
  refine y_get (pc := 30) F dX6_become_30 kF_X6_9 0 WSS_at0 rfl ?_
  refine y_iconst (v := 0) (pc := 33) F dX6_become_33 rfl ?_
  refine y_bipush (v := 12) (pc := 34) F dX6_become_34 rfl ?_
  refine y_copyi (st := []) (N := 12) (pc := 36) F dX6_become_36 kM_X6_54 ⟨Nat.le_of_ble_eq_true rfl, Nat.le_of_ble_eq_true rfl⟩ rfl 15 1 WSS_at15 WSS_at1 rfl (by decide) (fun (o4 : Ob) => (WSS tA q o4 ou)) (WSS_ar1 _) (fun o4 => ?_)
  refine y_aload_n (pc := 39) F dX6_become_39 rfl ?_
  refine y_get (pc := 40) F dX6_become_40 kF_X6_15 14 WSS_at14 rfl ?_
  refine y_iconst (v := 0) (pc := 43) F dX6_become_43 rfl ?_
  refine y_aload_n (pc := 44) F dX6_become_44 rfl ?_
  refine y_get (pc := 45) F dX6_become_45 kF_X6_15 0 WSS_at0 rfl ?_
  refine y_iconst (v := 0) (pc := 48) F dX6_become_48 rfl ?_
  refine y_bipush (v := 12) (pc := 49) F dX6_become_49 rfl ?_
  refine y_copyi (st := []) (N := 12) (pc := 51) F dX6_become_51 kM_X6_54 ⟨Nat.le_of_ble_eq_true rfl, Nat.le_of_ble_eq_true rfl⟩ rfl 16 2 WSS_at16 WSS_at2 rfl (by decide) (fun (o5 : Ob) => (WSS tA q o5 ou)) (WSS_ar2 _) (fun o5 => ?_)
  refine y_aload_n (pc := 54) F dX6_become_54 rfl ?_
  refine y_get (pc := 55) F dX6_become_55 kF_X6_18 14 WSS_at14 rfl ?_
  refine y_iconst (v := 0) (pc := 58) F dX6_become_58 rfl ?_
  refine y_aload_n (pc := 59) F dX6_become_59 rfl ?_
  refine y_get (pc := 60) F dX6_become_60 kF_X6_18 0 WSS_at0 rfl ?_
  refine y_iconst (v := 0) (pc := 63) F dX6_become_63 rfl ?_
  refine y_bipush (v := 12) (pc := 64) F dX6_become_64 rfl ?_
  refine y_copyi (st := []) (N := 12) (pc := 66) F dX6_become_66 kM_X6_54 ⟨Nat.le_of_ble_eq_true rfl, Nat.le_of_ble_eq_true rfl⟩ rfl 17 3 WSS_at17 WSS_at3 rfl (by decide) (fun (o6 : Ob) => (WSS tA q o6 ou)) (WSS_ar3 _) (fun o6 => ?_)
  refine y_aload_n (pc := 69) F dX6_become_69 rfl ?_
  refine y_get (pc := 70) F dX6_become_70 kF_X6_21 14 WSS_at14 rfl ?_
  refine y_iconst (v := 0) (pc := 73) F dX6_become_73 rfl ?_
  refine y_aload_n (pc := 74) F dX6_become_74 rfl ?_
  refine y_get (pc := 75) F dX6_become_75 kF_X6_21 0 WSS_at0 rfl ?_
  refine y_iconst (v := 0) (pc := 78) F dX6_become_78 rfl ?_
  refine y_bipush (v := 6) (pc := 79) F dX6_become_79 rfl ?_
  refine y_copyi (st := []) (N := 6) (pc := 81) F dX6_become_81 kM_X6_54 ⟨Nat.le_of_ble_eq_true rfl, Nat.le_of_ble_eq_true rfl⟩ rfl 18 4 WSS_at18 WSS_at4 rfl (by decide) (fun (o7 : Ob) => (WSS tA q o7 ou)) (WSS_ar4 _) (fun o7 => ?_)
  refine y_aload_n (pc := 84) F dX6_become_84 rfl ?_
  refine y_get (pc := 85) F dX6_become_85 kF_X6_24 14 WSS_at14 rfl ?_
  refine y_iconst (v := 0) (pc := 88) F dX6_become_88 rfl ?_
  refine y_aload_n (pc := 89) F dX6_become_89 rfl ?_
  refine y_get (pc := 90) F dX6_become_90 kF_X6_24 0 WSS_at0 rfl ?_
  refine y_iconst (v := 0) (pc := 93) F dX6_become_93 rfl ?_
  refine y_bipush (v := 6) (pc := 94) F dX6_become_94 rfl ?_
  refine y_copyi (st := []) (N := 6) (pc := 96) F dX6_become_96 kM_X6_54 ⟨Nat.le_of_ble_eq_true rfl, Nat.le_of_ble_eq_true rfl⟩ rfl 19 5 WSS_at19 WSS_at5 rfl (by decide) (fun (o8 : Ob) => (WSS tA q o8 ou)) (WSS_ar5 _) (fun o8 => ?_)
  refine y_aload_n (pc := 99) F dX6_become_99 rfl ?_
  refine y_get (pc := 100) F dX6_become_100 kF_X6_27 14 WSS_at14 rfl ?_
  refine y_iconst (v := 0) (pc := 103) F dX6_become_103 rfl ?_
  refine y_aload_n (pc := 104) F dX6_become_104 rfl ?_
  refine y_get (pc := 105) F dX6_become_105 kF_X6_27 0 WSS_at0 rfl ?_
  refine y_iconst (v := 0) (pc := 108) F dX6_become_108 rfl ?_
  refine y_bipush (v := 6) (pc := 109) F dX6_become_109 rfl ?_
  refine y_copyi (st := []) (N := 6) (pc := 111) F dX6_become_111 kM_X6_54 ⟨Nat.le_of_ble_eq_true rfl, Nat.le_of_ble_eq_true rfl⟩ rfl 20 6 WSS_at20 WSS_at6 rfl (by decide) (fun (o9 : Ob) => (WSS tA q o9 ou)) (WSS_ar6 _) (fun o9 => ?_)
  refine y_iconst (v := 0) (pc := 114) F dX6_become_114 rfl ?_
  refine y_istore_n (lv' := [some (.ref (q 0)), some (.ref (q 14)), some (.int (0 : Int32))]) (pc := 115) F dX6_become_115 (Nat.le_of_ble_eq_true rfl) rfl rfl ?_
  exact wlX6_become_116 q ou F hr zfu (0 : Int32) o9
abbrev rmX6_figure : Room := { frames := 0, cells := 0, slots := 0, locals := 0 }
def pX6_figure (os : Ob) (a1 : Int32) (a2 : Int32) : Option Int32 :=
  zlet ((((gi os 0) - (1 : Int32)) - a2)) fun (x1 : Int32) =>
  if x1 < 0 then (some (0 : Int32))
  else (if (400 : Int32) ≤ x1 then (some (0 : Int32))
  else (if a1 < 0 then (some (0 : Int32))
  else (if (6 : Int32) ≤ a1 then (some (0 : Int32))
  else (zgd a1 6 <| zgd x1 400 <| some ((ga os (20 + (a1.toNatClampNeg)) (x1.toNatClampNeg)) &&& (1 : Int32))))))
set_option maxHeartbeats 4000000 in
set_option maxRecDepth 100000 in
theorem c_X6_figure {q : Nat → Nat} (os : Ob) (a1 : Int32) (a2 : Int32) : zCi l D tA yX6_figure cX6_figure 4 .int rmX6_figure [.ref (q 0), .int a1, .int a2] (WS tA q os) (fun (r : Int32) => r) (fun (r : Int32) => (WS tA q os)) (pX6_figure os a1 a2) := by
  refine zCi_of (lv0 := [some (.ref (q 0)), some (.int a1), some (.int a2), none]) (by decide +kernel) (Nat.le_of_ble_eq_true rfl) rfl (fun X out F hr => ?_)
  unfold pX6_figure
  refine y_aload_n (pc := 0) F dX6_figure_0 rfl ?_
  refine y_get (pc := 1) F dX6_figure_1 kF_X6_38 0 WS_at0 rfl ?_
  refine y_iconst (v := 1) (pc := 4) F dX6_figure_4 rfl ?_
  refine y_isub (pc := 5) F dX6_figure_5 ?_
  refine y_iload_n (pc := 6) F dX6_figure_6 rfl ?_
  refine y_isub (pc := 7) F dX6_figure_7 ?_
  refine y_lti (fun x1 => ?_)
  refine y_istore_n (lv' := [some (.ref (q 0)), some (.int a1), some (.int a2), some (.int x1)]) (pc := 8) F dX6_figure_8 (Nat.le_of_ble_eq_true rfl) rfl rfl ?_
  refine y_iload_n (pc := 9) F dX6_figure_9 rfl ?_
  refine y_if_lt (pc := 10) (tgt := 43) F dX6_figure_10 rfl ?_ ?_
  · refine y_iconst (v := 0) (pc := 43) F dX6_figure_43 rfl ?_
    exact y_iret hr dX6_figure_44 rfl rfl
  · refine y_iload_n (pc := 13) F dX6_figure_13 rfl ?_
    refine y_sipush (v := 400) (pc := 14) F dX6_figure_14 rfl ?_
    refine y_icmp_ge (pc := 17) (tgt := 43) F dX6_figure_17 rfl ?_ ?_
    · refine y_iconst (v := 0) (pc := 43) F dX6_figure_43 rfl ?_
      exact y_iret hr dX6_figure_44 rfl rfl
    · refine y_iload_n (pc := 20) F dX6_figure_20 rfl ?_
      refine y_if_lt (pc := 21) (tgt := 43) F dX6_figure_21 rfl ?_ ?_
      · refine y_iconst (v := 0) (pc := 43) F dX6_figure_43 rfl ?_
        exact y_iret hr dX6_figure_44 rfl rfl
      · refine y_iload_n (pc := 24) F dX6_figure_24 rfl ?_
        refine y_bipush (v := 6) (pc := 25) F dX6_figure_25 rfl ?_
        refine y_icmp_ge (pc := 27) (tgt := 43) F dX6_figure_27 rfl ?_ ?_
        · refine y_iconst (v := 0) (pc := 43) F dX6_figure_43 rfl ?_
          exact y_iret hr dX6_figure_44 rfl rfl
        · refine y_aload_n (pc := 30) F dX6_figure_30 rfl ?_
          refine y_get (pc := 31) F dX6_figure_31 kF_X6_32 0 WS_at0 rfl ?_
          refine y_iload_n (pc := 34) F dX6_figure_34 rfl ?_
          refine y_aaldr (pc := 35) F dX6_figure_35 7 5 WS_at7 rfl rfl (fun h2 => ?_)
          refine y_iload_n (pc := 36) F dX6_figure_36 rfl ?_
          refine y_iald (pc := 37) F dX6_figure_37 (8 + (a1.toNatClampNeg)) (WS_row7 _ h2) ?_
          refine y_iconst (v := 1) (pc := 38) F dX6_figure_38 rfl ?_
          refine y_iand (pc := 39) F dX6_figure_39 ?_
          refine y_goto (tgt := 44) (pc := 40) F dX6_figure_40 rfl ?_
          exact y_iret hr dX6_figure_44 rfl rfl
abbrev rmX6_halve : Room := { frames := 0, cells := 0, slots := 0, locals := 0 }
def pX6_halve (os : Ob) (a1 : Int32) : Option Ob :=
  if a1 < 0 then (some os)
  else (if (6 : Int32) ≤ a1 then (some os)
  else (if (gi os 0) < 0 then (some os)
  else (if (400 : Int32) ≤ (gi os 0) then (some os)
  else (zgd a1 6 <| zgd a1 6 <| zgd (gi os 0) 400 <| zlet (sa os (20 + (a1.toNatClampNeg)) (upd (ga os (20 + (a1.toNatClampNeg))) ((gi os 0).toNatClampNeg) (ga os 6 (a1.toNatClampNeg)))) fun (o2 : Ob) =>
  zgd a1 6 <| znz (2 : Int32) <| zgd a1 6 <| zlet (sa o2 6 (upd (ga o2 6) (a1.toNatClampNeg) ((ga o2 6 (a1.toNatClampNeg)) / (2 : Int32)))) fun (o3 : Ob) =>
  some o3))))
set_option maxHeartbeats 4000000 in
set_option maxRecDepth 100000 in
theorem c_X6_halve {q : Nat → Nat} (os : Ob) (a1 : Int32) : zCv l D tA yX6_halve cX6_halve 2 rmX6_halve [.ref (q 0), .int a1] (WS tA q os) (fun (r : Ob) => (WS tA q r)) (pX6_halve os a1) := by
  refine zCv_of (lv0 := [some (.ref (q 0)), some (.int a1)]) (by decide +kernel) (Nat.le_of_ble_eq_true rfl) rfl (fun X out F hr => ?_)
  unfold pX6_halve
  refine y_iload_n (pc := 0) F dX6_halve_0 rfl ?_
  refine y_if_lt (pc := 1) (tgt := 58) F dX6_halve_1 rfl ?_ ?_
  · exact y_vret hr dX6_halve_58 rfl
  · refine y_iload_n (pc := 4) F dX6_halve_4 rfl ?_
    refine y_bipush (v := 6) (pc := 5) F dX6_halve_5 rfl ?_
    refine y_icmp_ge (pc := 7) (tgt := 58) F dX6_halve_7 rfl ?_ ?_
    · exact y_vret hr dX6_halve_58 rfl
    · refine y_aload_n (pc := 10) F dX6_halve_10 rfl ?_
      refine y_get (pc := 11) F dX6_halve_11 kF_X6_38 0 WS_at0 rfl ?_
      refine y_if_lt (pc := 14) (tgt := 58) F dX6_halve_14 rfl ?_ ?_
      · exact y_vret hr dX6_halve_58 rfl
      · refine y_aload_n (pc := 17) F dX6_halve_17 rfl ?_
        refine y_get (pc := 18) F dX6_halve_18 kF_X6_38 0 WS_at0 rfl ?_
        refine y_sipush (v := 400) (pc := 21) F dX6_halve_21 rfl ?_
        refine y_icmp_ge (pc := 24) (tgt := 58) F dX6_halve_24 rfl ?_ ?_
        · exact y_vret hr dX6_halve_58 rfl
        · refine y_aload_n (pc := 27) F dX6_halve_27 rfl ?_
          refine y_get (pc := 28) F dX6_halve_28 kF_X6_32 0 WS_at0 rfl ?_
          refine y_iload_n (pc := 31) F dX6_halve_31 rfl ?_
          refine y_aaldr (pc := 32) F dX6_halve_32 7 5 WS_at7 rfl rfl (fun h1 => ?_)
          refine y_aload_n (pc := 33) F dX6_halve_33 rfl ?_
          refine y_get (pc := 34) F dX6_halve_34 kF_X6_38 0 WS_at0 rfl ?_
          refine y_aload_n (pc := 37) F dX6_halve_37 rfl ?_
          refine y_get (pc := 38) F dX6_halve_38 kF_X6_21 0 WS_at0 rfl ?_
          refine y_iload_n (pc := 41) F dX6_halve_41 rfl ?_
          refine y_iald (pc := 42) F dX6_halve_42 4 WS_at4 ?_
          refine y_iast (pc := 43) F dX6_halve_43 (8 + (a1.toNatClampNeg)) (WS_row7 _ h1) (fun (o2 : Ob) => (WS tA q o2)) (WS_set7 _ h1 _) (fun o2 => ?_)
          refine y_aload_n (pc := 44) F dX6_halve_44 rfl ?_
          refine y_get (pc := 45) F dX6_halve_45 kF_X6_21 0 WS_at0 rfl ?_
          refine y_iload_n (pc := 48) F dX6_halve_48 rfl ?_
          refine y_aload_n (pc := 49) F dX6_halve_49 rfl ?_
          refine y_get (pc := 50) F dX6_halve_50 kF_X6_21 0 WS_at0 rfl ?_
          refine y_iload_n (pc := 53) F dX6_halve_53 rfl ?_
          refine y_iald (pc := 54) F dX6_halve_54 4 WS_at4 ?_
          refine y_iconst (v := 2) (pc := 55) F dX6_halve_55 rfl ?_
          refine y_idiv (pc := 56) F dX6_halve_56 ?_
          refine y_iast (pc := 57) F dX6_halve_57 4 WS_at4 (fun (o3 : Ob) => (WS tA q o3)) (WS_ar4 _) (fun o3 => ?_)
          exact y_vret hr dX6_halve_58 rfl
abbrev rmX6_end : Room := { frames := 0, cells := 0, slots := 0, locals := 0 }
def pX6_end (os : Ob) (a1 : Int32) (a2 : Int32) : Option Ob :=
  if a1 < 0 then (some os)
  else (if (6 : Int32) ≤ a1 then (some os)
  else (zgd a1 6 <| zlet (sa os 7 (upd (ga os 7) (a1.toNatClampNeg) a2)) fun (o1 : Ob) =>
  zgd a1 6 <| zlet (sa o1 8 (upd (ga o1 8) (a1.toNatClampNeg) (gi o1 0))) fun (o2 : Ob) =>
  some o2))
set_option maxHeartbeats 4000000 in
set_option maxRecDepth 100000 in
theorem c_X6_end {q : Nat → Nat} (os : Ob) (a1 : Int32) (a2 : Int32) : zCv l D tA yX6_end cX6_end 3 rmX6_end [.ref (q 0), .int a1, .int a2] (WS tA q os) (fun (r : Ob) => (WS tA q r)) (pX6_end os a1 a2) := by
  refine zCv_of (lv0 := [some (.ref (q 0)), some (.int a1), some (.int a2)]) (by decide +kernel) (Nat.le_of_ble_eq_true rfl) rfl (fun X out F hr => ?_)
  unfold pX6_end
  refine y_iload_n (pc := 0) F dX6_end_0 rfl ?_
  refine y_if_lt (pc := 1) (tgt := 27) F dX6_end_1 rfl ?_ ?_
  · exact y_vret hr dX6_end_27 rfl
  · refine y_iload_n (pc := 4) F dX6_end_4 rfl ?_
    refine y_bipush (v := 6) (pc := 5) F dX6_end_5 rfl ?_
    refine y_icmp_ge (pc := 7) (tgt := 27) F dX6_end_7 rfl ?_ ?_
    · exact y_vret hr dX6_end_27 rfl
    · refine y_aload_n (pc := 10) F dX6_end_10 rfl ?_
      refine y_get (pc := 11) F dX6_end_11 kF_X6_24 0 WS_at0 rfl ?_
      refine y_iload_n (pc := 14) F dX6_end_14 rfl ?_
      refine y_iload_n (pc := 15) F dX6_end_15 rfl ?_
      refine y_iast (pc := 16) F dX6_end_16 5 WS_at5 (fun (o1 : Ob) => (WS tA q o1)) (WS_ar5 _) (fun o1 => ?_)
      refine y_aload_n (pc := 17) F dX6_end_17 rfl ?_
      refine y_get (pc := 18) F dX6_end_18 kF_X6_27 0 WS_at0 rfl ?_
      refine y_iload_n (pc := 21) F dX6_end_21 rfl ?_
      refine y_aload_n (pc := 22) F dX6_end_22 rfl ?_
      refine y_get (pc := 23) F dX6_end_23 kF_X6_38 0 WS_at0 rfl ?_
      refine y_iast (pc := 26) F dX6_end_26 6 WS_at6 (fun (o2 : Ob) => (WS tA q o2)) (WS_ar6 _) (fun o2 => ?_)
      exact y_vret hr dX6_end_27 rfl
abbrev rmX6_draw : Room := { frames := 0, cells := 0, slots := 0, locals := 0 }
def pX6_draw (os : Ob) (a1 : Int32) : Option (Int32 × Ob) :=
  zlet (si os 2 ((((((gi os 2).toInt64) * (1103515245 : Int64)) + (12345 : Int64)) &&& (2147483647 : Int64)).toInt32)) fun (o1 : Ob) =>
  if a1 ≤ 0 then (some ((0 : Int32), o1))
  else (znz (65536 : Int32) <| znz a1 <| some ((((gi o1 2) / (65536 : Int32)) - ((gi o1 2) / (65536 : Int32)) / a1 * a1), o1))
set_option maxHeartbeats 4000000 in
set_option maxRecDepth 100000 in
theorem c_X6_draw {q : Nat → Nat} (os : Ob) (a1 : Int32) : zCi l D tA yX6_draw cX6_draw 2 .int rmX6_draw [.ref (q 0), .int a1] (WS tA q os) (fun (r : Int32 × Ob) => (r.1)) (fun (r : Int32 × Ob) => (WS tA q (r.2))) (pX6_draw os a1) := by
  refine zCi_of (lv0 := [some (.ref (q 0)), some (.int a1)]) (by decide +kernel) (Nat.le_of_ble_eq_true rfl) rfl (fun X out F hr => ?_)
  unfold pX6_draw
  refine y_aload_n (pc := 0) F dX6_draw_0 rfl ?_
  refine y_aload_n (pc := 1) F dX6_draw_1 rfl ?_
  refine y_get (pc := 2) F dX6_draw_2 kF_X6_51 0 WS_at0 rfl ?_
  refine y_i2l (pc := 5) F dX6_draw_5 ?_
  refine y_ldc2 (pc := 6) F dX6_draw_6 kC_X6_60 ?_
  refine y_lmul (pc := 9) F dX6_draw_9 ?_
  refine y_ldc2 (pc := 10) F dX6_draw_10 kC_X6_62 ?_
  refine y_ladd (pc := 13) F dX6_draw_13 ?_
  refine y_ldc2 (pc := 14) F dX6_draw_14 kC_X6_64 ?_
  refine y_land (pc := 17) F dX6_draw_17 ?_
  refine y_l2i (pc := 18) F dX6_draw_18 ?_
  refine y_put (pc := 19) F dX6_draw_19 kF_X6_51 0 WS_at0 rfl rfl rfl (Nat.le_of_ble_eq_true rfl) (fun (o1 : Ob) => (WS tA q o1)) (WS_pt0_2 _) (fun o1 => ?_)
  refine y_iload_n (pc := 22) F dX6_draw_22 rfl ?_
  refine y_if_le (pc := 23) (tgt := 38) F dX6_draw_23 rfl ?_ ?_
  · refine y_iconst (v := 0) (pc := 38) F dX6_draw_38 rfl ?_
    exact y_iret hr dX6_draw_39 rfl rfl
  · refine y_aload_n (pc := 26) F dX6_draw_26 rfl ?_
    refine y_get (pc := 27) F dX6_draw_27 kF_X6_51 0 WS_at0 rfl ?_
    refine y_ldc (pc := 30) F dX6_draw_30 kC_X6_66 ?_
    refine y_idiv (pc := 32) F dX6_draw_32 ?_
    refine y_iload_n (pc := 33) F dX6_draw_33 rfl ?_
    refine y_irem (pc := 34) F dX6_draw_34 ?_
    refine y_goto (tgt := 39) (pc := 35) F dX6_draw_35 rfl ?_
    exact y_iret hr dX6_draw_39 rfl rfl
abbrev rmX7_append : Room := { frames := 0, cells := 0, slots := 0, locals := 0 }
def pX7_append (ot : Ob) (a1 : Int32) : Option Ob :=
  if (gi ot 1) < 0 then (some ot)
  else (if (500 : Int32) ≤ (gi ot 1) then (some ot)
  else (zgd (gi ot 1) 500 <| zlet (sa ot 0 (upd (ga ot 0) ((gi ot 1).toNatClampNeg) (vp_nar .byte a1))) fun (o1 : Ob) =>
  zlet (si o1 1 ((gi o1 1) + (1 : Int32))) fun (o2 : Ob) =>
  some o2))
set_option maxHeartbeats 4000000 in
set_option maxRecDepth 100000 in
theorem c_X7_append {q : Nat → Nat} (ot : Ob) (a1 : Int32) : zCv l D tA yX7_append cX7_append 2 rmX7_append [.ref (q 0), .int a1] (WT tA q ot) (fun (r : Ob) => (WT tA q r)) (pX7_append ot a1) := by
  refine zCv_of (lv0 := [some (.ref (q 0)), some (.int a1)]) (by decide +kernel) (Nat.le_of_ble_eq_true rfl) rfl (fun X out F hr => ?_)
  unfold pX7_append
  refine y_aload_n (pc := 0) F dX7_append_0 rfl ?_
  refine y_get (pc := 1) F dX7_append_1 kF_X7_15 0 WT_at0 rfl ?_
  refine y_if_lt (pc := 4) (tgt := 37) F dX7_append_4 rfl ?_ ?_
  · exact y_vret hr dX7_append_37 rfl
  · refine y_aload_n (pc := 7) F dX7_append_7 rfl ?_
    refine y_get (pc := 8) F dX7_append_8 kF_X7_15 0 WT_at0 rfl ?_
    refine y_sipush (v := 500) (pc := 11) F dX7_append_11 rfl ?_
    refine y_icmp_ge (pc := 14) (tgt := 37) F dX7_append_14 rfl ?_ ?_
    · exact y_vret hr dX7_append_37 rfl
    · refine y_aload_n (pc := 17) F dX7_append_17 rfl ?_
      refine y_get (pc := 18) F dX7_append_18 kF_X7_9 0 WT_at0 rfl ?_
      refine y_aload_n (pc := 21) F dX7_append_21 rfl ?_
      refine y_get (pc := 22) F dX7_append_22 kF_X7_15 0 WT_at0 rfl ?_
      refine y_iload_n (pc := 25) F dX7_append_25 rfl ?_
      refine y_bast (pc := 26) F dX7_append_26 1 WT_at1 (fun (o1 : Ob) => (WT tA q o1)) (WT_ar1 _) (fun o1 => ?_)
      refine y_aload_n (pc := 27) F dX7_append_27 rfl ?_
      refine y_dup (pc := 28) F dX7_append_28 rfl ?_
      refine y_get (pc := 29) F dX7_append_29 kF_X7_15 0 WT_at0 rfl ?_
      refine y_iconst (v := 1) (pc := 32) F dX7_append_32 rfl ?_
      refine y_iadd (pc := 33) F dX7_append_33 ?_
      refine y_put (pc := 34) F dX7_append_34 kF_X7_15 0 WT_at0 rfl rfl rfl (Nat.le_of_ble_eq_true rfl) (fun (o2 : Ob) => (WT tA q o2)) (WT_pt0_1 _) (fun o2 => ?_)
      exact y_vret hr dX7_append_37 rfl
end ZC
