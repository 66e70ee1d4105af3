section ZC
variable {l : Launch} {D : va_G} {tA : Nat → ClassId}
abbrev rmX10_feed : Room := { frames := 1, cells := 0, slots := 0, locals := 21 }
def lX10_feed_37 (a2 : Int64) : Nat → Int32 → Ob → Option (Int32 × Ob)
  | 0, _, _ => none
  | f + 1, x2, o3 =>
    if x2 < 0 then (some ((gi o3 1), o3))
    else (Option.bind (pX7_append o3 (((a2 >>> (((8 : Int32) * x2).toInt64 &&& 63)).toInt32).toInt8.toInt32)) fun (r4 : Ob) =>
    zlet (x2 + (-1 : Int32)) fun (x5 : Int32) =>
    lX10_feed_37 a2 f x5 r4)
def pX10_feed (oz : Ob) (od : Ob) (ot : Ob) (oc : Ob) (ow : Ob) (os : Ob) (oe : Ob) (of : Ob) (oh : Ob) (ob : Ob) (oi : Ob) (oj : Ob) (op : Ob) (oq : Ob) (a1 : Int32) (a2 : Int64) : Option (Int32 × Ob) :=
  if a1 < (1 : Int32) then (some ((-1000000002 : Int32), ot))
  else (if a1 ≤ (8 : Int32) then (if ((gi ot 1) + a1) ≤ (500 : Int32) then (zlet ((a1 - (1 : Int32))) fun (x1 : Int32) =>
  lX10_feed_37 a2 zfu x1 ot)
  else (some ((-1000000004 : Int32), ot)))
  else (some ((-1000000002 : Int32), ot)))
set_option maxHeartbeats 4000000 in
set_option maxRecDepth 100000 in
theorem wlX10_feed_37 {X : ZX} {out : (Int32 × Ob)} (q : Nat → Nat) (oz : Ob) (od : Ob) (oc : Ob) (ow : Ob) (os : Ob) (oe : Ob) (of : Ob) (oh : Ob) (ob : Ob) (oi : Ob) (oj : Ob) (op : Ob) (oq : Ob) (a2 : Int64) (F : zF l D tA RX10 cX10_feed 5 rmX10_feed X) (hr : zRi X D cX10_feed .int (fun (r : Int32 × Ob) => (r.1)) (fun (r : Int32 × Ob) => (WH tA q oz od (r.2) oc ow os oe of oh ob oi oj op oq)) out) : ∀ (f : Nat) (x2 : Int32) (o3 : Ob), zY X D out (lX10_feed_37 a2 f x2 o3) (WH tA q oz od o3 oc ow os oe of oh ob oi oj op oq) 37 [some (.ref (q 0)), none, some (.long a2), none, some (.int x2)] [] := by
  intro f
  induction f with
  | zero =>
    intro x2 o3
    exact y_none
  | succ f ih =>
    intro x2 o3
    rw [lX10_feed_37.eq_2]
    refine y_iload (pc := 37) F dX10_feed_37 rfl ?_
    refine y_if_lt (pc := 39) (tgt := 64) F dX10_feed_39 rfl ?_ ?_
    · refine y_aload_n (pc := 64) F dX10_feed_64 rfl ?_
      refine y_get (pc := 65) F dX10_feed_65 kF_X10_10 0 WH_at0 rfl ?_
      refine y_get (pc := 68) F dX10_feed_68 kF_X10_92 4 WH_at4 rfl ?_
      exact y_iret hr dX10_feed_71 rfl rfl
    · refine y_aload_n (pc := 42) F dX10_feed_42 rfl ?_
      refine y_get (pc := 43) F dX10_feed_43 kF_X10_10 0 WH_at0 rfl ?_
      refine y_lload_n (pc := 46) F dX10_feed_46 rfl ?_
      refine y_bipush (v := 8) (pc := 47) F dX10_feed_47 rfl ?_
      refine y_iload (pc := 49) F dX10_feed_49 rfl ?_
      refine y_imul (pc := 51) F dX10_feed_51 ?_
      refine y_lshr (pc := 52) F dX10_feed_52 ?_
      refine y_l2i (pc := 53) F dX10_feed_53 ?_
      refine y_i2b (pc := 54) F dX10_feed_54 ?_
      refine y_callv (As := [.int (((a2 >>> (((8 : Int32) * x2).toInt64 &&& 63)).toInt32).toInt8.toInt32)]) (st := []) (q0 := 4) (wf := fun (r4 : Ob) => (WH tA q oz od r4 oc ow os oe of oh ob oi oj op oq)) (pc := 55) F (c_X7_append (q := zq q [4, 5]) o3 (((a2 >>> (((8 : Int32) * x2).toInt64 &&& 63)).toInt32).toInt8.toInt32)) dX10_feed_55 kM_X10_96 ⟨rfl, rfl⟩ ⟨Nat.le_of_ble_eq_true rfl, Nat.le_of_ble_eq_true rfl⟩ rfl rfl rfl (Nat.le_of_ble_eq_true rfl) rfl rfl WH_at4 [4, 5] zn15_c zn15_n (fun _ => rfl) (fun (r4 : Ob) => zn15_p r4) (fun r4 => ?_)
      refine y_iinc (v := -1) (lf := fun (x5 : Int32) => [some (.ref (q 0)), none, some (.long a2), none, some (.int x5)]) (pc := 58) F dX10_feed_58 rfl rfl rfl (fun _ => rfl) (fun x5 => ?_)
      refine y_goto (tgt := 37) (pc := 61) F dX10_feed_61 rfl ?_
      exact ih x5 r4
set_option maxHeartbeats 4000000 in
set_option maxRecDepth 100000 in
theorem c_X10_feed {q : Nat → Nat} (oz : Ob) (od : Ob) (ot : Ob) (oc : Ob) (ow : Ob) (os : Ob) (oe : Ob) (of : Ob) (oh : Ob) (ob : Ob) (oi : Ob) (oj : Ob) (op : Ob) (oq : Ob) (a1 : Int32) (a2 : Int64) : zCi l D tA yX10_feed cX10_feed 5 .int rmX10_feed [.ref (q 0), .int a1, .long a2] (WH tA q oz od ot oc ow os oe of oh ob oi oj op oq) (fun (r : Int32 × Ob) => (r.1)) (fun (r : Int32 × Ob) => (WH tA q oz od (r.2) oc ow os oe of oh ob oi oj op oq)) (pX10_feed oz od ot oc ow os oe of oh ob oi oj op oq a1 a2) := by
  refine zCi_of (lv0 := [some (.ref (q 0)), some (.int a1), some (.long a2), none, none]) (by decide +kernel) (Nat.le_of_ble_eq_true rfl) rfl (fun X out F hr => ?_)
  unfold pX10_feed
  refine y_iload_n (pc := 0) F dX10_feed_0 rfl ?_
  refine y_iconst (v := 1) (pc := 1) F dX10_feed_1 rfl ?_
  refine y_icmp_lt (pc := 2) (tgt := 11) F dX10_feed_2 rfl ?_ ?_
  · refine y_ldc (pc := 11) F dX10_feed_11 kC_X10_91 ?_
    exact y_iret hr dX10_feed_13 rfl rfl
  · refine y_iload_n (pc := 5) F dX10_feed_5 rfl ?_
    refine y_bipush (v := 8) (pc := 6) F dX10_feed_6 rfl ?_
    refine y_icmp_le (pc := 8) (tgt := 14) F dX10_feed_8 rfl ?_ ?_
    · refine y_aload_n (pc := 14) F dX10_feed_14 rfl ?_
      refine y_get (pc := 15) F dX10_feed_15 kF_X10_10 0 WH_at0 rfl ?_
      refine y_get (pc := 18) F dX10_feed_18 kF_X10_92 4 WH_at4 rfl ?_
      refine y_iload_n (pc := 21) F dX10_feed_21 rfl ?_
      refine y_iadd (pc := 22) F dX10_feed_22 ?_
      refine y_sipush (v := 500) (pc := 23) F dX10_feed_23 rfl ?_
      refine y_icmp_le (pc := 26) (tgt := 32) F dX10_feed_26 rfl ?_ ?_
      · refine y_iload_n (pc := 32) F dX10_feed_32 rfl ?_
        refine y_iconst (v := 1) (pc := 33) F dX10_feed_33 rfl ?_
        refine y_isub (pc := 34) F dX10_feed_34 ?_
        refine y_lti (fun x1 => ?_)
        refine y_istore (lv' := [some (.ref (q 0)), some (.int a1), some (.long a2), none, some (.int x1)]) (pc := 35) F dX10_feed_35 (Nat.le_of_ble_eq_true rfl) rfl rfl ?_
        refine y_le (lv' := [some (.ref (q 0)), none, some (.long a2), none, some (.int x1)]) ⟨rfl, ⟨rfl, ⟨rfl, trivial⟩⟩⟩ ?_
        exact wlX10_feed_37 q oz od oc ow os oe of oh ob oi oj op oq a2 F hr zfu x1 ot
      · refine y_ldc (pc := 29) F dX10_feed_29 kC_X10_95 ?_
        exact y_iret hr dX10_feed_31 rfl rfl
    · refine y_ldc (pc := 11) F dX10_feed_11 kC_X10_91 ?_
      exact y_iret hr dX10_feed_13 rfl rfl
abbrev rmX10_court : Room := { frames := 9, cells := 0, slots := 0, locals := 227 }
def lX10_court_101 (oc : Ob) (r2 : Ob × Ob) (o3 : Ob) (r7 : Ob) (r8 : Ob) : Nat → Int32 → Ob → Option (Int32 × Nat × Ob × Ob × Ob × Ob × Ob × Ob × Ob)
  | 0, _, _ => none
  | f + 1, x9, o10 =>
    if (2 : Int32) ≤ x9 then (some ((gi (r2.1) 0), (1 : Nat), o10, (r2.2), o3, (r2.1), r7, r8, oc))
    else (zgd x9 2 <| zlet (sa o10 8 (upd (ga o10 8) (x9.toNatClampNeg) (vp_nar .boolean (0 : Int32)))) fun (o11 : Ob) =>
    zlet (x9 + (1 : Int32)) fun (x12 : Int32) =>
    lX10_court_101 oc r2 o3 r7 r8 f x12 o11)
def pX10_court (oz : Ob) (od : Ob) (ot : Ob) (oc : Ob) (ow : Ob) (os : Ob) (oe : Ob) (of : Ob) (oh : Ob) (ob : Ob) (oi : Ob) (oj : Ob) (op : Ob) (oq : Ob) : Option (Int32 × Nat × Ob × Ob × Ob × Ob × Ob × Ob × Ob) :=
  Option.bind (pX5_start od ot) fun (r1 : Ob) =>
  Option.bind (pX2_readFrom op r1 ot) fun (r2 : Ob × Ob) =>
  zlet (si ot 1 (0 : Int32)) fun (o3 : Ob) =>
  zlet (si oz 11 (gi (r2.2) 2)) fun (o4 : Ob) =>
  if (gi (r2.2) 1) = 0 then (Option.bind (pX6_startAgain os) fun (r7 : Ob) =>
  Option.bind (pX0_tearAll ob) fun (r8 : Ob) =>
  lX10_court_101 oc r2 o3 r7 r8 zfu (0 : Int32) o4)
  else (some (((-10 : Int32) - (gi (r2.2) 1)), (0 : Nat), o4, (r2.2), o3, oc, os, ob, (r2.1)))
set_option maxHeartbeats 4000000 in
set_option maxRecDepth 100000 in
theorem wlX10_court_101 {X : ZX} {out : (Int32 × Nat × Ob × Ob × Ob × Ob × Ob × Ob × Ob)} (q : Nat → Nat) (oc : Ob) (ow : Ob) (oe : Ob) (of : Ob) (oh : Ob) (oi : Ob) (oj : Ob) (oq : Ob) (r2 : Ob × Ob) (o3 : Ob) (r7 : Ob) (r8 : Ob) (F : zF l D tA RX10 cX10_court 3 rmX10_court X) (hr : zRi X D cX10_court .int (fun (r : Int32 × Nat × Ob × Ob × Ob × Ob × Ob × Ob × Ob) => (r.1)) (fun (r : Int32 × Nat × Ob × Ob × Ob × Ob × Ob × Ob × Ob) => (WH tA (zswcourt (r.2.1) q) (r.2.2.1) (r.2.2.2.1) (r.2.2.2.2.1) (r.2.2.2.2.2.1) ow (r.2.2.2.2.2.2.1) oe of oh (r.2.2.2.2.2.2.2.1) oi oj (r.2.2.2.2.2.2.2.2) oq)) out) : ∀ (f : Nat) (x9 : Int32) (o10 : Ob), zY X D out (lX10_court_101 oc r2 o3 r7 r8 f x9 o10) (WH tA (zq q [0, 1, 2, 3, 4, 5, 6, 88, 89, 90, 91, 92, 93, 94, 14, 15, 16, 17, 18, 19, 20, 21, 22, 23, 24, 25, 26, 27, 28, 29, 30, 31, 32, 33, 34, 35, 36, 37, 38, 39, 40, 41, 42, 43, 44, 45, 46, 47, 48, 49, 50, 51, 52, 53, 54, 55, 56, 57, 58, 59, 60, 61, 62, 63, 64, 65, 66, 67, 68, 69, 70, 71, 72, 73, 74, 75, 76, 77, 78, 79, 80, 81, 82, 83, 84, 85, 86, 87, 7, 8, 9, 10, 11, 12, 13, 95, 96, 97, 98, 99]) o10 (r2.2) o3 (r2.1) ow r7 oe of oh r8 oi oj oc oq) 101 [some (.ref ((zq q [0, 1, 2, 3, 4, 5, 6, 88, 89, 90, 91, 92, 93, 94, 14, 15, 16, 17, 18, 19, 20, 21, 22, 23, 24, 25, 26, 27, 28, 29, 30, 31, 32, 33, 34, 35, 36, 37, 38, 39, 40, 41, 42, 43, 44, 45, 46, 47, 48, 49, 50, 51, 52, 53, 54, 55, 56, 57, 58, 59, 60, 61, 62, 63, 64, 65, 66, 67, 68, 69, 70, 71, 72, 73, 74, 75, 76, 77, 78, 79, 80, 81, 82, 83, 84, 85, 86, 87, 7, 8, 9, 10, 11, 12, 13, 95, 96, 97, 98, 99]) 0)), none, some (.int x9)] [] := by
  intro f
  induction f with
  | zero =>
    intro x9 o10
    exact y_none
  | succ f ih =>
    intro x9 o10
    rw [lX10_court_101.eq_2]
    refine y_iload_n (pc := 101) F dX10_court_101 rfl ?_
    refine y_iconst (v := 2) (pc := 102) F dX10_court_102 rfl ?_
    refine y_icmp_ge (pc := 103) (tgt := 119) F dX10_court_103 rfl ?_ ?_
    · refine y_aload_n (pc := 119) F dX10_court_119 rfl ?_
      refine y_get (pc := 120) F dX10_court_120 kF_X10_28 0 WH_at0 rfl ?_
      refine y_get (pc := 123) F dX10_court_123 kF_X10_111 6 WH_at6 rfl ?_
      refine y_get (pc := 126) F dX10_court_126 kF_X10_124 7 WH_at7 rfl ?_
      exact y_iret hr dX10_court_129 rfl rfl
    · refine y_aload_n (pc := 106) F dX10_court_106 rfl ?_
      refine y_get (pc := 107) F dX10_court_107 kF_X10_69 0 WH_at0 rfl ?_
      refine y_iload_n (pc := 110) F dX10_court_110 rfl ?_
      refine y_iconst (v := 0) (pc := 111) F dX10_court_111 rfl ?_
      refine y_zast (pc := 112) F dX10_court_112 1 WH_at1 (fun (o11 : Ob) => (WH tA (zq q [0, 1, 2, 3, 4, 5, 6, 88, 89, 90, 91, 92, 93, 94, 14, 15, 16, 17, 18, 19, 20, 21, 22, 23, 24, 25, 26, 27, 28, 29, 30, 31, 32, 33, 34, 35, 36, 37, 38, 39, 40, 41, 42, 43, 44, 45, 46, 47, 48, 49, 50, 51, 52, 53, 54, 55, 56, 57, 58, 59, 60, 61, 62, 63, 64, 65, 66, 67, 68, 69, 70, 71, 72, 73, 74, 75, 76, 77, 78, 79, 80, 81, 82, 83, 84, 85, 86, 87, 7, 8, 9, 10, 11, 12, 13, 95, 96, 97, 98, 99]) o11 (r2.2) o3 (r2.1) ow r7 oe of oh r8 oi oj oc oq)) (WH_ar1 _) (fun o11 => ?_)
      refine y_iinc (v := 1) (lf := fun (x12 : Int32) => [some (.ref ((zq q [0, 1, 2, 3, 4, 5, 6, 88, 89, 90, 91, 92, 93, 94, 14, 15, 16, 17, 18, 19, 20, 21, 22, 23, 24, 25, 26, 27, 28, 29, 30, 31, 32, 33, 34, 35, 36, 37, 38, 39, 40, 41, 42, 43, 44, 45, 46, 47, 48, 49, 50, 51, 52, 53, 54, 55, 56, 57, 58, 59, 60, 61, 62, 63, 64, 65, 66, 67, 68, 69, 70, 71, 72, 73, 74, 75, 76, 77, 78, 79, 80, 81, 82, 83, 84, 85, 86, 87, 7, 8, 9, 10, 11, 12, 13, 95, 96, 97, 98, 99]) 0)), none, some (.int x12)]) (pc := 113) F dX10_court_113 rfl rfl rfl (fun _ => rfl) (fun x12 => ?_)
      refine y_goto (tgt := 101) (pc := 116) F dX10_court_116 rfl ?_
      exact ih x12 o11
set_option maxHeartbeats 4000000 in
set_option maxRecDepth 100000 in
theorem c_X10_court {q : Nat → Nat} (oz : Ob) (od : Ob) (ot : Ob) (oc : Ob) (ow : Ob) (os : Ob) (oe : Ob) (of : Ob) (oh : Ob) (ob : Ob) (oi : Ob) (oj : Ob) (op : Ob) (oq : Ob) : zCi l D tA yX10_court cX10_court 3 .int rmX10_court [.ref (q 0)] (WH tA q oz od ot oc ow os oe of oh ob oi oj op oq) (fun (r : Int32 × Nat × Ob × Ob × Ob × Ob × Ob × Ob × Ob) => (r.1)) (fun (r : Int32 × Nat × Ob × Ob × Ob × Ob × Ob × Ob × Ob) => (WH tA (zswcourt (r.2.1) q) (r.2.2.1) (r.2.2.2.1) (r.2.2.2.2.1) (r.2.2.2.2.2.1) ow (r.2.2.2.2.2.2.1) oe of oh (r.2.2.2.2.2.2.2.1) oi oj (r.2.2.2.2.2.2.2.2) oq)) (pX10_court oz od ot oc ow os oe of oh ob oi oj op oq) := by
  refine zCi_of (lv0 := [some (.ref (q 0)), none, none]) (by decide +kernel) (Nat.le_of_ble_eq_true rfl) rfl (fun X out F hr => ?_)
  unfold pX10_court
  refine y_aload_n (pc := 0) F dX10_court_0 rfl ?_
  refine y_get (pc := 1) F dX10_court_1 kF_X10_21 0 WH_at0 rfl ?_
  refine y_callv (As := []) (st := []) (q0 := 3) (wf := fun (r1 : Ob) => (WH tA q oz r1 ot oc ow os oe of oh ob oi oj op oq)) (pc := 4) F (c_X5_start (q := zq q [3, 4, 5]) od ot) dX10_court_4 kM_X10_100 ⟨rfl, rfl⟩ ⟨Nat.le_of_ble_eq_true rfl, Nat.le_of_ble_eq_true rfl⟩ rfl rfl rfl (Nat.le_of_ble_eq_true rfl) rfl rfl WH_at3 [3, 4, 5] zn16_c zn16_n (fun _ => rfl) (fun (r1 : Ob) => zn16_p r1) (fun r1 => ?_)
  refine y_aload_n (pc := 7) F dX10_court_7 rfl ?_
  refine y_get (pc := 8) F dX10_court_8 kF_X10_76 0 WH_at0 rfl ?_
  refine y_aload_n (pc := 11) F dX10_court_11 rfl ?_
  refine y_get (pc := 12) F dX10_court_12 kF_X10_21 0 WH_at0 rfl ?_
  refine y_callv (As := [.ref (q 3)]) (st := []) (q0 := 88) (wf := fun (r2 : Ob × Ob) => (WH tA q oz (r2.2) ot oc ow os oe of oh ob oi oj (r2.1) oq)) (pc := 15) F (c_X2_readFrom (q := zq q [88, 89, 90, 91, 92, 93, 94, 3, 4, 5]) op r1 ot) dX10_court_15 kM_X10_103 ⟨rfl, rfl⟩ ⟨Nat.le_of_ble_eq_true rfl, Nat.le_of_ble_eq_true rfl⟩ rfl rfl rfl (Nat.le_of_ble_eq_true rfl) rfl rfl WH_at88 [88, 89, 90, 91, 92, 93, 94, 3, 4, 5] zn17_c zn17_n (fun _ => rfl) (fun (r2 : Ob × Ob) => zn17_p (r2.1) (r2.2)) (fun r2 => ?_)
  refine y_aload_n (pc := 18) F dX10_court_18 rfl ?_
  refine y_get (pc := 19) F dX10_court_19 kF_X10_10 0 WH_at0 rfl ?_
  refine y_iconst (v := 0) (pc := 22) F dX10_court_22 rfl ?_
  refine y_put (pc := 23) F dX10_court_23 kF_X10_92 4 WH_at4 rfl rfl rfl (Nat.le_of_ble_eq_true rfl) (fun (o3 : Ob) => (WH tA q oz (r2.2) o3 oc ow os oe of oh ob oi oj (r2.1) oq)) (WH_pt4_1 _) (fun o3 => ?_)
  refine y_aload_n (pc := 26) F dX10_court_26 rfl ?_
  refine y_aload_n (pc := 27) F dX10_court_27 rfl ?_
  refine y_get (pc := 28) F dX10_court_28 kF_X10_21 0 WH_at0 rfl ?_
  refine y_get (pc := 31) F dX10_court_31 kF_X10_107 3 WH_at3 rfl ?_
  refine y_put (pc := 34) F dX10_court_34 kF_X10_87 0 WH_at0 rfl rfl rfl (Nat.le_of_ble_eq_true rfl) (fun (o4 : Ob) => (WH tA q o4 (r2.2) o3 oc ow os oe of oh ob oi oj (r2.1) oq)) (WH_pt0_11 _) (fun o4 => ?_)
  refine y_aload_n (pc := 37) F dX10_court_37 rfl ?_
  refine y_get (pc := 38) F dX10_court_38 kF_X10_21 0 WH_at0 rfl ?_
  refine y_get (pc := 41) F dX10_court_41 kF_X10_108 3 WH_at3 rfl ?_
  refine y_if_eq (pc := 44) (tgt := 58) F dX10_court_44 rfl ?_ ?_
  · refine y_aload_n (pc := 58) F dX10_court_58 rfl ?_
    refine y_get (pc := 59) F dX10_court_59 kF_X10_28 0 WH_at0 rfl ?_
    refine y_get (pc := 62) F dX10_court_62 kF_X10_111 6 WH_at6 rfl ?_
    refine y_astore_n (lv' := [some (.ref (q 0)), some (.ref (q 7)), none]) (pc := 65) F dX10_court_65 (Nat.le_of_ble_eq_true rfl) rfl rfl ?_
    refine y_aload_n (pc := 66) F dX10_court_66 rfl ?_
    refine y_get (pc := 67) F dX10_court_67 kF_X10_28 0 WH_at0 rfl ?_
    refine y_aload_n (pc := 70) F dX10_court_70 rfl ?_
    refine y_get (pc := 71) F dX10_court_71 kF_X10_76 0 WH_at0 rfl ?_
    refine y_putr (pc := 74) F dX10_court_74 kF_X10_111 6 WH_at6 rfl rfl rfl (Nat.le_of_ble_eq_true rfl) (ws' := (List.set (WH tA q o4 (r2.2) o3 oc ow os oe of oh ob oi oj (r2.1) oq) 6 (q 6, .inr (9, [.ref (q 88), .ref (q 14), .ref (q 19)])))) rfl ?_
    refine y_aload_n (pc := 77) F dX10_court_77 rfl ?_
    refine y_aload_n (pc := 78) F dX10_court_78 rfl ?_
    refine y_putr (pc := 79) F dX10_court_79 kF_X10_76 0 rfl rfl rfl rfl (Nat.le_of_ble_eq_true rfl) (ws' := (List.set (List.set (WH tA q o4 (r2.2) o3 oc ow os oe of oh ob oi oj (r2.1) oq) 6 (q 6, .inr (9, [.ref (q 88), .ref (q 14), .ref (q 19)]))) 0 (q 0, .inr (10, [.ref (q 4), .ref (q 3), .ref (q 6), .ref (q 33), .ref (q 47), .ref (q 49), .ref (q 51), .ref (q 2), .ref (q 1), .ref (q 7), .ref (q 95), .int (gi o4 11)])))) rfl ?_
    refine y_perm (ws' := (WH tA (zq q [0, 1, 2, 3, 4, 5, 6, 88, 89, 90, 91, 92, 93, 94, 14, 15, 16, 17, 18, 19, 20, 21, 22, 23, 24, 25, 26, 27, 28, 29, 30, 31, 32, 33, 34, 35, 36, 37, 38, 39, 40, 41, 42, 43, 44, 45, 46, 47, 48, 49, 50, 51, 52, 53, 54, 55, 56, 57, 58, 59, 60, 61, 62, 63, 64, 65, 66, 67, 68, 69, 70, 71, 72, 73, 74, 75, 76, 77, 78, 79, 80, 81, 82, 83, 84, 85, 86, 87, 7, 8, 9, 10, 11, 12, 13, 95, 96, 97, 98, 99]) o4 (r2.2) o3 (r2.1) ow os oe of oh ob oi oj oc oq)) [0, 1, 2, 3, 4, 5, 6, 88, 89, 90, 91, 92, 93, 94, 14, 15, 16, 17, 18, 19, 20, 21, 22, 23, 24, 25, 26, 27, 28, 29, 30, 31, 32, 33, 34, 35, 36, 37, 38, 39, 40, 41, 42, 43, 44, 45, 46, 47, 48, 49, 50, 51, 52, 53, 54, 55, 56, 57, 58, 59, 60, 61, 62, 63, 64, 65, 66, 67, 68, 69, 70, 71, 72, 73, 74, 75, 76, 77, 78, 79, 80, 81, 82, 83, 84, 85, 86, 87, 7, 8, 9, 10, 11, 12, 13, 95, 96, 97, 98, 99] rfl (by decide +kernel) ?_
    refine y_le (lv' := [some (.ref ((zq q [0, 1, 2, 3, 4, 5, 6, 88, 89, 90, 91, 92, 93, 94, 14, 15, 16, 17, 18, 19, 20, 21, 22, 23, 24, 25, 26, 27, 28, 29, 30, 31, 32, 33, 34, 35, 36, 37, 38, 39, 40, 41, 42, 43, 44, 45, 46, 47, 48, 49, 50, 51, 52, 53, 54, 55, 56, 57, 58, 59, 60, 61, 62, 63, 64, 65, 66, 67, 68, 69, 70, 71, 72, 73, 74, 75, 76, 77, 78, 79, 80, 81, 82, 83, 84, 85, 86, 87, 7, 8, 9, 10, 11, 12, 13, 95, 96, 97, 98, 99]) 0)), none, none]) ⟨rfl, trivial⟩ ?_
    refine y_aload_n (pc := 82) F dX10_court_82 rfl ?_
    refine y_get (pc := 83) F dX10_court_83 kF_X10_28 0 WH_at0 rfl ?_
    refine y_get (pc := 86) F dX10_court_86 kF_X10_114 6 WH_at6 rfl ?_
    refine y_callv (As := []) (st := []) (q0 := 19) (wf := fun (r7 : Ob) => (WH tA (zq q [0, 1, 2, 3, 4, 5, 6, 88, 89, 90, 91, 92, 93, 94, 14, 15, 16, 17, 18, 19, 20, 21, 22, 23, 24, 25, 26, 27, 28, 29, 30, 31, 32, 33, 34, 35, 36, 37, 38, 39, 40, 41, 42, 43, 44, 45, 46, 47, 48, 49, 50, 51, 52, 53, 54, 55, 56, 57, 58, 59, 60, 61, 62, 63, 64, 65, 66, 67, 68, 69, 70, 71, 72, 73, 74, 75, 76, 77, 78, 79, 80, 81, 82, 83, 84, 85, 86, 87, 7, 8, 9, 10, 11, 12, 13, 95, 96, 97, 98, 99]) o4 (r2.2) o3 (r2.1) ow r7 oe of oh ob oi oj oc oq)) (pc := 89) F (c_X6_startAgain (q := zq (zq q [0, 1, 2, 3, 4, 5, 6, 88, 89, 90, 91, 92, 93, 94, 14, 15, 16, 17, 18, 19, 20, 21, 22, 23, 24, 25, 26, 27, 28, 29, 30, 31, 32, 33, 34, 35, 36, 37, 38, 39, 40, 41, 42, 43, 44, 45, 46, 47, 48, 49, 50, 51, 52, 53, 54, 55, 56, 57, 58, 59, 60, 61, 62, 63, 64, 65, 66, 67, 68, 69, 70, 71, 72, 73, 74, 75, 76, 77, 78, 79, 80, 81, 82, 83, 84, 85, 86, 87, 7, 8, 9, 10, 11, 12, 13, 95, 96, 97, 98, 99]) [19, 20, 21, 22, 23, 24, 25, 26, 27, 28, 29, 30, 31, 32]) os) dX10_court_89 kM_X10_118 ⟨rfl, rfl⟩ ⟨Nat.le_of_ble_eq_true rfl, Nat.le_of_ble_eq_true rfl⟩ rfl rfl rfl (Nat.le_of_ble_eq_true rfl) rfl rfl WH_at19 [19, 20, 21, 22, 23, 24, 25, 26, 27, 28, 29, 30, 31, 32] zn18_c zn18_n (fun _ => rfl) (fun (r7 : Ob) => zn18_p r7) (fun r7 => ?_)
    refine y_aload_n (pc := 92) F dX10_court_92 rfl ?_
    refine y_get (pc := 93) F dX10_court_93 kF_X10_58 0 WH_at0 rfl ?_
    refine y_callv (As := []) (st := []) (q0 := 51) (wf := fun (r8 : Ob) => (WH tA (zq q [0, 1, 2, 3, 4, 5, 6, 88, 89, 90, 91, 92, 93, 94, 14, 15, 16, 17, 18, 19, 20, 21, 22, 23, 24, 25, 26, 27, 28, 29, 30, 31, 32, 33, 34, 35, 36, 37, 38, 39, 40, 41, 42, 43, 44, 45, 46, 47, 48, 49, 50, 51, 52, 53, 54, 55, 56, 57, 58, 59, 60, 61, 62, 63, 64, 65, 66, 67, 68, 69, 70, 71, 72, 73, 74, 75, 76, 77, 78, 79, 80, 81, 82, 83, 84, 85, 86, 87, 7, 8, 9, 10, 11, 12, 13, 95, 96, 97, 98, 99]) o4 (r2.2) o3 (r2.1) ow r7 oe of oh r8 oi oj oc oq)) (pc := 96) F (c_X0_tearAll (q := zq (zq q [0, 1, 2, 3, 4, 5, 6, 88, 89, 90, 91, 92, 93, 94, 14, 15, 16, 17, 18, 19, 20, 21, 22, 23, 24, 25, 26, 27, 28, 29, 30, 31, 32, 33, 34, 35, 36, 37, 38, 39, 40, 41, 42, 43, 44, 45, 46, 47, 48, 49, 50, 51, 52, 53, 54, 55, 56, 57, 58, 59, 60, 61, 62, 63, 64, 65, 66, 67, 68, 69, 70, 71, 72, 73, 74, 75, 76, 77, 78, 79, 80, 81, 82, 83, 84, 85, 86, 87, 7, 8, 9, 10, 11, 12, 13, 95, 96, 97, 98, 99]) [51, 52, 53, 54, 55, 56, 57, 58, 59]) ob) dX10_court_96 kM_X10_121 ⟨rfl, rfl⟩ ⟨Nat.le_of_ble_eq_true rfl, Nat.le_of_ble_eq_true rfl⟩ rfl rfl rfl (Nat.le_of_ble_eq_true rfl) rfl rfl WH_at51 [51, 52, 53, 54, 55, 56, 57, 58, 59] zn19_c zn19_n (fun _ => rfl) (fun (r8 : Ob) => zn19_p r8) (fun r8 => ?_)
    refine y_iconst (v := 0) (pc := 99) F dX10_court_99 rfl ?_
    refine y_istore_n (lv' := [some (.ref ((zq q [0, 1, 2, 3, 4, 5, 6, 88, 89, 90, 91, 92, 93, 94, 14, 15, 16, 17, 18, 19, 20, 21, 22, 23, 24, 25, 26, 27, 28, 29, 30, 31, 32, 33, 34, 35, 36, 37, 38, 39, 40, 41, 42, 43, 44, 45, 46, 47, 48, 49, 50, 51, 52, 53, 54, 55, 56, 57, 58, 59, 60, 61, 62, 63, 64, 65, 66, 67, 68, 69, 70, 71, 72, 73, 74, 75, 76, 77, 78, 79, 80, 81, 82, 83, 84, 85, 86, 87, 7, 8, 9, 10, 11, 12, 13, 95, 96, 97, 98, 99]) 0)), none, some (.int (0 : Int32))]) (pc := 100) F dX10_court_100 (Nat.le_of_ble_eq_true rfl) rfl rfl ?_
    exact wlX10_court_101 q oc ow oe of oh oi oj oq r2 o3 r7 r8 F hr zfu (0 : Int32) o4
  · refine y_bipush (v := -10) (pc := 47) F dX10_court_47 rfl ?_
    refine y_aload_n (pc := 49) F dX10_court_49 rfl ?_
    refine y_get (pc := 50) F dX10_court_50 kF_X10_21 0 WH_at0 rfl ?_
    refine y_get (pc := 53) F dX10_court_53 kF_X10_108 3 WH_at3 rfl ?_
    refine y_isub (pc := 56) F dX10_court_56 ?_
    exact y_iret hr dX10_court_57 rfl rfl
abbrev rmX10_laws : Room := { frames := 7, cells := 0, slots := 0, locals := 185 }
def pX10_laws (oz : Ob) (od : Ob) (ot : Ob) (oc : Ob) (ow : Ob) (os : Ob) (oe : Ob) (of : Ob) (oh : Ob) (ob : Ob) (oi : Ob) (oj : Ob) (op : Ob) (oq : Ob) : Option (Int32 × Nat × Ob × Ob × Ob × Ob × Ob) :=
  if (gi ot 1) ≤ (200 : Int32) then (Option.bind (pX5_start od ot) fun (r1 : Ob) =>
  Option.bind (pX4_readFrom oq r1 ot) fun (r2 : Ob × Ob) =>
  zlet (si ot 1 (0 : Int32)) fun (o3 : Ob) =>
  zlet (si oz 11 (gi (r2.2) 2)) fun (o4 : Ob) =>
  if (gi (r2.2) 1) = 0 then (some ((gi (r2.1) 0), (1 : Nat), o4, (r2.2), o3, (r2.1), ow))
  else (some (((-10 : Int32) - (gi (r2.2) 1)), (0 : Nat), o4, (r2.2), o3, ow, (r2.1))))
  else (some ((-1000000003 : Int32), (0 : Nat), oz, od, ot, ow, oq))
set_option maxHeartbeats 4000000 in
set_option maxRecDepth 100000 in
theorem c_X10_laws {q : Nat → Nat} (oz : Ob) (od : Ob) (ot : Ob) (oc : Ob) (ow : Ob) (os : Ob) (oe : Ob) (of : Ob) (oh : Ob) (ob : Ob) (oi : Ob) (oj : Ob) (op : Ob) (oq : Ob) : zCi l D tA yX10_laws cX10_laws 2 .int rmX10_laws [.ref (q 0)] (WH tA q oz od ot oc ow os oe of oh ob oi oj op oq) (fun (r : Int32 × Nat × Ob × Ob × Ob × Ob × Ob) => (r.1)) (fun (r : Int32 × Nat × Ob × Ob × Ob × Ob × Ob) => (WH tA (zswlaws (r.2.1) q) (r.2.2.1) (r.2.2.2.1) (r.2.2.2.2.1) oc (r.2.2.2.2.2.1) os oe of oh ob oi oj op (r.2.2.2.2.2.2))) (pX10_laws oz od ot oc ow os oe of oh ob oi oj op oq) := by
  refine zCi_of (lv0 := [some (.ref (q 0)), none]) (by decide +kernel) (Nat.le_of_ble_eq_true rfl) rfl (fun X out F hr => ?_)
  unfold pX10_laws
  refine y_aload_n (pc := 0) F dX10_laws_0 rfl ?_
  refine y_get (pc := 1) F dX10_laws_1 kF_X10_10 0 WH_at0 rfl ?_
  refine y_get (pc := 4) F dX10_laws_4 kF_X10_92 4 WH_at4 rfl ?_
  refine y_sipush (v := 200) (pc := 7) F dX10_laws_7 rfl ?_
  refine y_icmp_le (pc := 10) (tgt := 16) F dX10_laws_10 rfl ?_ ?_
  · refine y_aload_n (pc := 16) F dX10_laws_16 rfl ?_
    refine y_get (pc := 17) F dX10_laws_17 kF_X10_21 0 WH_at0 rfl ?_
    refine y_callv (As := []) (st := []) (q0 := 3) (wf := fun (r1 : Ob) => (WH tA q oz r1 ot oc ow os oe of oh ob oi oj op oq)) (pc := 20) F (c_X5_start (q := zq q [3, 4, 5]) od ot) dX10_laws_20 kM_X10_100 ⟨rfl, rfl⟩ ⟨Nat.le_of_ble_eq_true rfl, Nat.le_of_ble_eq_true rfl⟩ rfl rfl rfl (Nat.le_of_ble_eq_true rfl) rfl rfl WH_at3 [3, 4, 5] zn16_c zn16_n (fun _ => rfl) (fun (r1 : Ob) => zn16_p r1) (fun r1 => ?_)
    refine y_aload_n (pc := 23) F dX10_laws_23 rfl ?_
    refine y_get (pc := 24) F dX10_laws_24 kF_X10_83 0 WH_at0 rfl ?_
    refine y_aload_n (pc := 27) F dX10_laws_27 rfl ?_
    refine y_get (pc := 28) F dX10_laws_28 kF_X10_21 0 WH_at0 rfl ?_
    refine y_callv (As := [.ref (q 3)]) (st := []) (q0 := 95) (wf := fun (r2 : Ob × Ob) => (WH tA q oz (r2.2) ot oc ow os oe of oh ob oi oj op (r2.1))) (pc := 31) F (c_X4_readFrom (q := zq q [95, 96, 97, 98, 99, 3, 4, 5]) oq r1 ot) dX10_laws_31 kM_X10_128 ⟨rfl, rfl⟩ ⟨Nat.le_of_ble_eq_true rfl, Nat.le_of_ble_eq_true rfl⟩ rfl rfl rfl (Nat.le_of_ble_eq_true rfl) rfl rfl WH_at95 [95, 96, 97, 98, 99, 3, 4, 5] zn20_c zn20_n (fun _ => rfl) (fun (r2 : Ob × Ob) => zn20_p (r2.1) (r2.2)) (fun r2 => ?_)
    refine y_aload_n (pc := 34) F dX10_laws_34 rfl ?_
    refine y_get (pc := 35) F dX10_laws_35 kF_X10_10 0 WH_at0 rfl ?_
    refine y_iconst (v := 0) (pc := 38) F dX10_laws_38 rfl ?_
    refine y_put (pc := 39) F dX10_laws_39 kF_X10_92 4 WH_at4 rfl rfl rfl (Nat.le_of_ble_eq_true rfl) (fun (o3 : Ob) => (WH tA q oz (r2.2) o3 oc ow os oe of oh ob oi oj op (r2.1))) (WH_pt4_1 _) (fun o3 => ?_)
    refine y_aload_n (pc := 42) F dX10_laws_42 rfl ?_
    refine y_aload_n (pc := 43) F dX10_laws_43 rfl ?_
    refine y_get (pc := 44) F dX10_laws_44 kF_X10_21 0 WH_at0 rfl ?_
    refine y_get (pc := 47) F dX10_laws_47 kF_X10_107 3 WH_at3 rfl ?_
    refine y_put (pc := 50) F dX10_laws_50 kF_X10_87 0 WH_at0 rfl rfl rfl (Nat.le_of_ble_eq_true rfl) (fun (o4 : Ob) => (WH tA q o4 (r2.2) o3 oc ow os oe of oh ob oi oj op (r2.1))) (WH_pt0_11 _) (fun o4 => ?_)
    refine y_aload_n (pc := 53) F dX10_laws_53 rfl ?_
    refine y_get (pc := 54) F dX10_laws_54 kF_X10_21 0 WH_at0 rfl ?_
    refine y_get (pc := 57) F dX10_laws_57 kF_X10_108 3 WH_at3 rfl ?_
    refine y_if_eq (pc := 60) (tgt := 74) F dX10_laws_60 rfl ?_ ?_
    · refine y_aload_n (pc := 74) F dX10_laws_74 rfl ?_
      refine y_get (pc := 75) F dX10_laws_75 kF_X10_28 0 WH_at0 rfl ?_
      refine y_get (pc := 78) F dX10_laws_78 kF_X10_129 6 WH_at6 rfl ?_
      refine y_astore_n (lv' := [some (.ref (q 0)), some (.ref (q 14))]) (pc := 81) F dX10_laws_81 (Nat.le_of_ble_eq_true rfl) rfl rfl ?_
      refine y_aload_n (pc := 82) F dX10_laws_82 rfl ?_
      refine y_get (pc := 83) F dX10_laws_83 kF_X10_28 0 WH_at0 rfl ?_
      refine y_aload_n (pc := 86) F dX10_laws_86 rfl ?_
      refine y_get (pc := 87) F dX10_laws_87 kF_X10_83 0 WH_at0 rfl ?_
      refine y_putr (pc := 90) F dX10_laws_90 kF_X10_129 6 WH_at6 rfl rfl rfl (Nat.le_of_ble_eq_true rfl) (ws' := (List.set (WH tA q o4 (r2.2) o3 oc ow os oe of oh ob oi oj op (r2.1)) 6 (q 6, .inr (9, [.ref (q 7), .ref (q 95), .ref (q 19)])))) rfl ?_
      refine y_aload_n (pc := 93) F dX10_laws_93 rfl ?_
      refine y_aload_n (pc := 94) F dX10_laws_94 rfl ?_
      refine y_putr (pc := 95) F dX10_laws_95 kF_X10_83 0 rfl rfl rfl rfl (Nat.le_of_ble_eq_true rfl) (ws' := (List.set (List.set (WH tA q o4 (r2.2) o3 oc ow os oe of oh ob oi oj op (r2.1)) 6 (q 6, .inr (9, [.ref (q 7), .ref (q 95), .ref (q 19)]))) 0 (q 0, .inr (10, [.ref (q 4), .ref (q 3), .ref (q 6), .ref (q 33), .ref (q 47), .ref (q 49), .ref (q 51), .ref (q 2), .ref (q 1), .ref (q 88), .ref (q 14), .int (gi o4 11)])))) rfl ?_
      refine y_perm (ws' := (WH tA (zq q [0, 1, 2, 3, 4, 5, 6, 7, 8, 9, 10, 11, 12, 13, 95, 96, 97, 98, 99, 19, 20, 21, 22, 23, 24, 25, 26, 27, 28, 29, 30, 31, 32, 33, 34, 35, 36, 37, 38, 39, 40, 41, 42, 43, 44, 45, 46, 47, 48, 49, 50, 51, 52, 53, 54, 55, 56, 57, 58, 59, 60, 61, 62, 63, 64, 65, 66, 67, 68, 69, 70, 71, 72, 73, 74, 75, 76, 77, 78, 79, 80, 81, 82, 83, 84, 85, 86, 87, 88, 89, 90, 91, 92, 93, 94, 14, 15, 16, 17, 18]) o4 (r2.2) o3 oc (r2.1) os oe of oh ob oi oj op ow)) [0, 1, 2, 3, 4, 5, 6, 7, 8, 9, 10, 11, 12, 13, 95, 96, 97, 98, 99, 19, 20, 21, 22, 23, 24, 25, 26, 27, 28, 29, 30, 31, 32, 33, 34, 35, 36, 37, 38, 39, 40, 41, 42, 43, 44, 45, 46, 47, 48, 49, 50, 51, 52, 53, 54, 55, 56, 57, 58, 59, 60, 61, 62, 63, 64, 65, 66, 67, 68, 69, 70, 71, 72, 73, 74, 75, 76, 77, 78, 79, 80, 81, 82, 83, 84, 85, 86, 87, 88, 89, 90, 91, 92, 93, 94, 14, 15, 16, 17, 18] rfl (by decide +kernel) ?_
      refine y_le (lv' := [some (.ref ((zq q [0, 1, 2, 3, 4, 5, 6, 7, 8, 9, 10, 11, 12, 13, 95, 96, 97, 98, 99, 19, 20, 21, 22, 23, 24, 25, 26, 27, 28, 29, 30, 31, 32, 33, 34, 35, 36, 37, 38, 39, 40, 41, 42, 43, 44, 45, 46, 47, 48, 49, 50, 51, 52, 53, 54, 55, 56, 57, 58, 59, 60, 61, 62, 63, 64, 65, 66, 67, 68, 69, 70, 71, 72, 73, 74, 75, 76, 77, 78, 79, 80, 81, 82, 83, 84, 85, 86, 87, 88, 89, 90, 91, 92, 93, 94, 14, 15, 16, 17, 18]) 0)), none]) ⟨rfl, trivial⟩ ?_
      refine y_aload_n (pc := 98) F dX10_laws_98 rfl ?_
      refine y_get (pc := 99) F dX10_laws_99 kF_X10_28 0 WH_at0 rfl ?_
      refine y_get (pc := 102) F dX10_laws_102 kF_X10_129 6 WH_at6 rfl ?_
      refine y_get (pc := 105) F dX10_laws_105 kF_X10_132 14 WH_at14 rfl ?_
      exact y_iret hr dX10_laws_108 rfl rfl
    · refine y_bipush (v := -10) (pc := 63) F dX10_laws_63 rfl ?_
      refine y_aload_n (pc := 65) F dX10_laws_65 rfl ?_
      refine y_get (pc := 66) F dX10_laws_66 kF_X10_21 0 WH_at0 rfl ?_
      refine y_get (pc := 69) F dX10_laws_69 kF_X10_108 3 WH_at3 rfl ?_
      refine y_isub (pc := 72) F dX10_laws_72 ?_
      exact y_iret hr dX10_laws_73 rfl rfl
  · refine y_ldc (pc := 13) F dX10_laws_13 kC_X10_127 ?_
    exact y_iret hr dX10_laws_15 rfl rfl
abbrev rmX10_fault : Room := { frames := 0, cells := 0, slots := 0, locals := 0 }
def pX10_fault (oz : Ob) (od : Ob) (ot : Ob) (oc : Ob) (ow : Ob) (os : Ob) (oe : Ob) (of : Ob) (oh : Ob) (ob : Ob) (oi : Ob) (oj : Ob) (op : Ob) (oq : Ob) : Option Int32 :=
  some (gi oz 11)
set_option maxHeartbeats 4000000 in
set_option maxRecDepth 100000 in
theorem c_X10_fault {q : Nat → Nat} (oz : Ob) (od : Ob) (ot : Ob) (oc : Ob) (ow : Ob) (os : Ob) (oe : Ob) (of : Ob) (oh : Ob) (ob : Ob) (oi : Ob) (oj : Ob) (op : Ob) (oq : Ob) : zCi l D tA yX10_fault cX10_fault 1 .int rmX10_fault [.ref (q 0)] (WH tA q oz od ot oc ow os oe of oh ob oi oj op oq) (fun (r : Int32) => r) (fun (r : Int32) => (WH tA q oz od ot oc ow os oe of oh ob oi oj op oq)) (pX10_fault oz od ot oc ow os oe of oh ob oi oj op oq) := by
  refine zCi_of (lv0 := [some (.ref (q 0))]) (by decide +kernel) (Nat.le_of_ble_eq_true rfl) rfl (fun X out F hr => ?_)
  unfold pX10_fault
  refine y_aload_n (pc := 0) F dX10_fault_0 rfl ?_
  refine y_get (pc := 1) F dX10_fault_1 kF_X10_87 0 WH_at0 rfl ?_
  exact y_iret hr dX10_fault_4 rfl rfl
abbrev rmX10_told : Room := { frames := 2, cells := 0, slots := 0, locals := 45 }
def pX10_told (oz : Ob) (od : Ob) (ot : Ob) (oc : Ob) (ow : Ob) (os : Ob) (oe : Ob) (of : Ob) (oh : Ob) (ob : Ob) (oi : Ob) (oj : Ob) (op : Ob) (oq : Ob) (a1 : Int32) : Option Int32 :=
  zlet ((gi os 0)) fun (x1 : Int32) =>
  if a1 = (0 : Int32) then (some (gi oc 0))
  else (if a1 = (1 : Int32) then (some (gi oc 1))
  else (if a1 = (2 : Int32) then (some (gi ow 0))
  else (if a1 = (3 : Int32) then (some x1)
  else (if a1 = (4 : Int32) then (some (gi ot 1))
  else (if a1 = (5 : Int32) then (some (gi os 1))
  else (if a1 = (6 : Int32) then (Option.bind (pX4_copiesOn ow x1) fun (r9 : Int32) =>
  some r9)
  else (if a1 = (7 : Int32) then (Option.bind (pX4_moonOn ow x1) fun (r11 : Int32) =>
  some r11)
  else (if a1 = (8 : Int32) then (Option.bind (pX4_talkersOn ow x1) fun (r13 : Int32) =>
  some r13)
  else (some (-1000000002 : Int32))))))))))
set_option maxHeartbeats 4000000 in
set_option maxRecDepth 100000 in
theorem c_X10_told {q : Nat → Nat} (oz : Ob) (od : Ob) (ot : Ob) (oc : Ob) (ow : Ob) (os : Ob) (oe : Ob) (of : Ob) (oh : Ob) (ob : Ob) (oi : Ob) (oj : Ob) (op : Ob) (oq : Ob) (a1 : Int32) : zCi l D tA yX10_told cX10_told 3 .int rmX10_told [.ref (q 0), .int a1] (WH tA q oz od ot oc ow os oe of oh ob oi oj op oq) (fun (r : Int32) => r) (fun (r : Int32) => (WH tA q oz od ot oc ow os oe of oh ob oi oj op oq)) (pX10_told oz od ot oc ow os oe of oh ob oi oj op oq a1) := by
  refine zCi_of (lv0 := [some (.ref (q 0)), some (.int a1), none]) (by decide +kernel) (Nat.le_of_ble_eq_true rfl) rfl (fun X out F hr => ?_)
  unfold pX10_told
  refine y_aload_n (pc := 0) F dX10_told_0 rfl ?_
  refine y_get (pc := 1) F dX10_told_1 kF_X10_28 0 WH_at0 rfl ?_
  refine y_get (pc := 4) F dX10_told_4 kF_X10_114 6 WH_at6 rfl ?_
  refine y_get (pc := 7) F dX10_told_7 kF_X10_135 19 WH_at19 rfl ?_
  refine y_lti (fun x1 => ?_)
  refine y_istore_n (lv' := [some (.ref (q 0)), some (.int a1), some (.int x1)]) (pc := 10) F dX10_told_10 (Nat.le_of_ble_eq_true rfl) rfl rfl ?_
  refine y_iload_n (pc := 11) F dX10_told_11 rfl ?_
  refine y_tsI (c := 0) (pc := 12) (tgt := 64) F dX10_told_12 (by decide) rfl ?_ (fun h2 => ?_)
  · refine y_aload_n (pc := 64) F dX10_told_64 rfl ?_
    refine y_get (pc := 65) F dX10_told_65 kF_X10_28 0 WH_at0 rfl ?_
    refine y_get (pc := 68) F dX10_told_68 kF_X10_111 6 WH_at6 rfl ?_
    refine y_get (pc := 71) F dX10_told_71 kF_X10_124 7 WH_at7 rfl ?_
    exact y_iret hr dX10_told_74 rfl rfl
  refine y_tsI (c := 1) (pc := 12) (tgt := 75) F dX10_told_12 (by decide) rfl ?_ (fun h3 => ?_)
  · refine y_aload_n (pc := 75) F dX10_told_75 rfl ?_
    refine y_get (pc := 76) F dX10_told_76 kF_X10_28 0 WH_at0 rfl ?_
    refine y_get (pc := 79) F dX10_told_79 kF_X10_111 6 WH_at6 rfl ?_
    refine y_get (pc := 82) F dX10_told_82 kF_X10_138 7 WH_at7 rfl ?_
    exact y_iret hr dX10_told_85 rfl rfl
  refine y_tsI (c := 2) (pc := 12) (tgt := 86) F dX10_told_12 (by decide) rfl ?_ (fun h4 => ?_)
  · refine y_aload_n (pc := 86) F dX10_told_86 rfl ?_
    refine y_get (pc := 87) F dX10_told_87 kF_X10_28 0 WH_at0 rfl ?_
    refine y_get (pc := 90) F dX10_told_90 kF_X10_129 6 WH_at6 rfl ?_
    refine y_get (pc := 93) F dX10_told_93 kF_X10_132 14 WH_at14 rfl ?_
    exact y_iret hr dX10_told_96 rfl rfl
  refine y_tsI (c := 3) (pc := 12) (tgt := 97) F dX10_told_12 (by decide) rfl ?_ (fun h5 => ?_)
  · refine y_iload_n (pc := 97) F dX10_told_97 rfl ?_
    exact y_iret hr dX10_told_98 rfl rfl
  refine y_tsI (c := 4) (pc := 12) (tgt := 99) F dX10_told_12 (by decide) rfl ?_ (fun h6 => ?_)
  · refine y_aload_n (pc := 99) F dX10_told_99 rfl ?_
    refine y_get (pc := 100) F dX10_told_100 kF_X10_10 0 WH_at0 rfl ?_
    refine y_get (pc := 103) F dX10_told_103 kF_X10_92 4 WH_at4 rfl ?_
    exact y_iret hr dX10_told_106 rfl rfl
  refine y_tsI (c := 5) (pc := 12) (tgt := 107) F dX10_told_12 (by decide) rfl ?_ (fun h7 => ?_)
  · refine y_aload_n (pc := 107) F dX10_told_107 rfl ?_
    refine y_get (pc := 108) F dX10_told_108 kF_X10_28 0 WH_at0 rfl ?_
    refine y_get (pc := 111) F dX10_told_111 kF_X10_114 6 WH_at6 rfl ?_
    refine y_get (pc := 114) F dX10_told_114 kF_X10_141 19 WH_at19 rfl ?_
    exact y_iret hr dX10_told_117 rfl rfl
  refine y_tsI (c := 6) (pc := 12) (tgt := 118) F dX10_told_12 (by decide) rfl ?_ (fun h8 => ?_)
  · refine y_aload_n (pc := 118) F dX10_told_118 rfl ?_
    refine y_get (pc := 119) F dX10_told_119 kF_X10_28 0 WH_at0 rfl ?_
    refine y_get (pc := 122) F dX10_told_122 kF_X10_129 6 WH_at6 rfl ?_
    refine y_iload_n (pc := 125) F dX10_told_125 rfl ?_
    refine y_calliR (As := [.int x1]) (st := []) (q0 := 14) (pc := 126) F (c_X4_copiesOn (q := zq q [14, 15, 16, 17, 18]) ow x1) dX10_told_126 kM_X10_144 ⟨rfl, rfl⟩ ⟨Nat.le_of_ble_eq_true rfl, Nat.le_of_ble_eq_true rfl⟩ rfl rfl rfl (Nat.le_of_ble_eq_true rfl) rfl rfl WH_at14 [14, 15, 16, 17, 18] zn21_c zn21_n (fun r9 => ?_)
    exact y_iret hr dX10_told_129 rfl rfl
  refine y_tsI (c := 7) (pc := 12) (tgt := 130) F dX10_told_12 (by decide) rfl ?_ (fun h10 => ?_)
  · refine y_aload_n (pc := 130) F dX10_told_130 rfl ?_
    refine y_get (pc := 131) F dX10_told_131 kF_X10_28 0 WH_at0 rfl ?_
    refine y_get (pc := 134) F dX10_told_134 kF_X10_129 6 WH_at6 rfl ?_
    refine y_iload_n (pc := 137) F dX10_told_137 rfl ?_
    refine y_calliR (As := [.int x1]) (st := []) (q0 := 14) (pc := 138) F (c_X4_moonOn (q := zq q [14, 15, 16, 17, 18]) ow x1) dX10_told_138 kM_X10_148 ⟨rfl, rfl⟩ ⟨Nat.le_of_ble_eq_true rfl, Nat.le_of_ble_eq_true rfl⟩ rfl rfl rfl (Nat.le_of_ble_eq_true rfl) rfl rfl WH_at14 [14, 15, 16, 17, 18] zn21_c zn21_n (fun r11 => ?_)
    exact y_iret hr dX10_told_141 rfl rfl
  refine y_tsI (c := 8) (pc := 12) (tgt := 142) F dX10_told_12 (by decide) rfl ?_ (fun h12 => ?_)
  · refine y_aload_n (pc := 142) F dX10_told_142 rfl ?_
    refine y_get (pc := 143) F dX10_told_143 kF_X10_28 0 WH_at0 rfl ?_
    refine y_get (pc := 146) F dX10_told_146 kF_X10_129 6 WH_at6 rfl ?_
    refine y_iload_n (pc := 149) F dX10_told_149 rfl ?_
    refine y_calliR (As := [.int x1]) (st := []) (q0 := 14) (pc := 150) F (c_X4_talkersOn (q := zq q [14, 15, 16, 17, 18]) ow x1) dX10_told_150 kM_X10_151 ⟨rfl, rfl⟩ ⟨Nat.le_of_ble_eq_true rfl, Nat.le_of_ble_eq_true rfl⟩ rfl rfl rfl (Nat.le_of_ble_eq_true rfl) rfl rfl WH_at14 [14, 15, 16, 17, 18] zn21_c zn21_n (fun r13 => ?_)
    exact y_iret hr dX10_told_153 rfl rfl
  refine y_tsD (pc := 12) (tgt := 154) F dX10_told_12 (by have eh2 := lv_neT (a := 0) h2 rfl; have eh3 := lv_neT (a := 1) h3 rfl; have eh4 := lv_neT (a := 2) h4 rfl; have eh5 := lv_neT (a := 3) h5 rfl; have eh6 := lv_neT (a := 4) h6 rfl; have eh7 := lv_neT (a := 5) h7 rfl; have eh8 := lv_neT (a := 6) h8 rfl; have eh10 := lv_neT (a := 7) h10 rfl; have eh12 := lv_neT (a := 8) h12 rfl; omega) rfl ?_
  refine y_ldc (pc := 154) F dX10_told_154 kC_X10_91 ?_
  exact y_iret hr dX10_told_156 rfl rfl
abbrev rmX10_suit : Room := { frames := 1, cells := 0, slots := 0, locals := 23 }
def pX10_suit (oz : Ob) (od : Ob) (ot : Ob) (oc : Ob) (ow : Ob) (os : Ob) (oe : Ob) (of : Ob) (oh : Ob) (ob : Ob) (oi : Ob) (oj : Ob) (op : Ob) (oq : Ob) (a1 : Int32) (a2 : Int32) : Option Int32 :=
  Option.bind (pX2_hasSuit oc a1) fun (r1 : Int32) =>
  if r1 = 0 then (some (-1000000001 : Int32))
  else (if a2 = (0 : Int32) then (zgd a1 6 <| some (ga oc 2 (a1.toNatClampNeg)))
  else (if a2 = (1 : Int32) then (zgd a1 6 <| some (ga oc 3 (a1.toNatClampNeg)))
  else (if a2 = (2 : Int32) then (zgd a1 6 <| some (ga oc 4 (a1.toNatClampNeg)))
  else (if a2 = (3 : Int32) then (zgd a1 6 <| some (ga os 7 (a1.toNatClampNeg)))
  else (if a2 = (4 : Int32) then (zgd a1 6 <| some (ga os 8 (a1.toNatClampNeg)))
  else (if a2 = (5 : Int32) then (Option.bind (pX2_witnessesOf oc a1) fun (r8 : Int32) =>
  some r8)
  else (some (-1000000002 : Int32))))))))
set_option maxHeartbeats 4000000 in
set_option maxRecDepth 100000 in
theorem c_X10_suit {q : Nat → Nat} (oz : Ob) (od : Ob) (ot : Ob) (oc : Ob) (ow : Ob) (os : Ob) (oe : Ob) (of : Ob) (oh : Ob) (ob : Ob) (oi : Ob) (oj : Ob) (op : Ob) (oq : Ob) (a1 : Int32) (a2 : Int32) : zCi l D tA yX10_suit cX10_suit 3 .int rmX10_suit [.ref (q 0), .int a1, .int a2] (WH tA q oz od ot oc ow os oe of oh ob oi oj op oq) (fun (r : Int32) => r) (fun (r : Int32) => (WH tA q oz od ot oc ow os oe of oh ob oi oj op oq)) (pX10_suit oz od ot oc ow os oe of oh ob oi oj op oq a1 a2) := by
  refine zCi_of (lv0 := [some (.ref (q 0)), some (.int a1), some (.int a2)]) (by decide +kernel) (Nat.le_of_ble_eq_true rfl) rfl (fun X out F hr => ?_)
  unfold pX10_suit
  refine y_aload_n (pc := 0) F dX10_suit_0 rfl ?_
  refine y_get (pc := 1) F dX10_suit_1 kF_X10_28 0 WH_at0 rfl ?_
  refine y_get (pc := 4) F dX10_suit_4 kF_X10_111 6 WH_at6 rfl ?_
  refine y_iload_n (pc := 7) F dX10_suit_7 rfl ?_
  refine y_calliR (As := [.int a1]) (st := []) (q0 := 7) (pc := 8) F (c_X2_hasSuit (q := zq q [7, 8, 9, 10, 11, 12, 13]) oc a1) dX10_suit_8 kM_X10_154 ⟨rfl, rfl⟩ ⟨Nat.le_of_ble_eq_true rfl, Nat.le_of_ble_eq_true rfl⟩ rfl rfl rfl (Nat.le_of_ble_eq_true rfl) rfl rfl WH_at7 [7, 8, 9, 10, 11, 12, 13] zn22_c zn22_n (fun r1 => ?_)
  refine y_if_ne (pc := 11) (tgt := 17) F dX10_suit_11 rfl ?_ ?_
  · refine y_ldc (pc := 14) F dX10_suit_14 kC_X10_158 ?_
    exact y_iret hr dX10_suit_16 rfl rfl
  · refine y_iload_n (pc := 17) F dX10_suit_17 rfl ?_
    refine y_tsI (c := 0) (pc := 18) (tgt := 56) F dX10_suit_18 (by decide) rfl ?_ (fun h2 => ?_)
    · refine y_aload_n (pc := 56) F dX10_suit_56 rfl ?_
      refine y_get (pc := 57) F dX10_suit_57 kF_X10_28 0 WH_at0 rfl ?_
      refine y_get (pc := 60) F dX10_suit_60 kF_X10_111 6 WH_at6 rfl ?_
      refine y_get (pc := 63) F dX10_suit_63 kF_X10_159 7 WH_at7 rfl ?_
      refine y_iload_n (pc := 66) F dX10_suit_66 rfl ?_
      refine y_iald (pc := 67) F dX10_suit_67 8 WH_at8 ?_
      exact y_iret hr dX10_suit_68 rfl rfl
    refine y_tsI (c := 1) (pc := 18) (tgt := 69) F dX10_suit_18 (by decide) rfl ?_ (fun h3 => ?_)
    · refine y_aload_n (pc := 69) F dX10_suit_69 rfl ?_
      refine y_get (pc := 70) F dX10_suit_70 kF_X10_28 0 WH_at0 rfl ?_
      refine y_get (pc := 73) F dX10_suit_73 kF_X10_111 6 WH_at6 rfl ?_
      refine y_get (pc := 76) F dX10_suit_76 kF_X10_163 7 WH_at7 rfl ?_
      refine y_iload_n (pc := 79) F dX10_suit_79 rfl ?_
      refine y_iald (pc := 80) F dX10_suit_80 9 WH_at9 ?_
      exact y_iret hr dX10_suit_81 rfl rfl
    refine y_tsI (c := 2) (pc := 18) (tgt := 82) F dX10_suit_18 (by decide) rfl ?_ (fun h4 => ?_)
    · refine y_aload_n (pc := 82) F dX10_suit_82 rfl ?_
      refine y_get (pc := 83) F dX10_suit_83 kF_X10_28 0 WH_at0 rfl ?_
      refine y_get (pc := 86) F dX10_suit_86 kF_X10_111 6 WH_at6 rfl ?_
      refine y_get (pc := 89) F dX10_suit_89 kF_X10_166 7 WH_at7 rfl ?_
      refine y_iload_n (pc := 92) F dX10_suit_92 rfl ?_
      refine y_iald (pc := 93) F dX10_suit_93 10 WH_at10 ?_
      exact y_iret hr dX10_suit_94 rfl rfl
    refine y_tsI (c := 3) (pc := 18) (tgt := 95) F dX10_suit_18 (by decide) rfl ?_ (fun h5 => ?_)
    · refine y_aload_n (pc := 95) F dX10_suit_95 rfl ?_
      refine y_get (pc := 96) F dX10_suit_96 kF_X10_28 0 WH_at0 rfl ?_
      refine y_get (pc := 99) F dX10_suit_99 kF_X10_114 6 WH_at6 rfl ?_
      refine y_get (pc := 102) F dX10_suit_102 kF_X10_169 19 WH_at19 rfl ?_
      refine y_iload_n (pc := 105) F dX10_suit_105 rfl ?_
      refine y_iald (pc := 106) F dX10_suit_106 24 WH_at24 ?_
      exact y_iret hr dX10_suit_107 rfl rfl
    refine y_tsI (c := 4) (pc := 18) (tgt := 108) F dX10_suit_18 (by decide) rfl ?_ (fun h6 => ?_)
    · refine y_aload_n (pc := 108) F dX10_suit_108 rfl ?_
      refine y_get (pc := 109) F dX10_suit_109 kF_X10_28 0 WH_at0 rfl ?_
      refine y_get (pc := 112) F dX10_suit_112 kF_X10_114 6 WH_at6 rfl ?_
      refine y_get (pc := 115) F dX10_suit_115 kF_X10_172 19 WH_at19 rfl ?_
      refine y_iload_n (pc := 118) F dX10_suit_118 rfl ?_
      refine y_iald (pc := 119) F dX10_suit_119 25 WH_at25 ?_
      exact y_iret hr dX10_suit_120 rfl rfl
    refine y_tsI (c := 5) (pc := 18) (tgt := 121) F dX10_suit_18 (by decide) rfl ?_ (fun h7 => ?_)
    · refine y_aload_n (pc := 121) F dX10_suit_121 rfl ?_
      refine y_get (pc := 122) F dX10_suit_122 kF_X10_28 0 WH_at0 rfl ?_
      refine y_get (pc := 125) F dX10_suit_125 kF_X10_111 6 WH_at6 rfl ?_
      refine y_iload_n (pc := 128) F dX10_suit_128 rfl ?_
      refine y_calliR (As := [.int a1]) (st := []) (q0 := 7) (pc := 129) F (c_X2_witnessesOf (q := zq q [7, 8, 9, 10, 11, 12, 13]) oc a1) dX10_suit_129 kM_X10_175 ⟨rfl, rfl⟩ ⟨Nat.le_of_ble_eq_true rfl, Nat.le_of_ble_eq_true rfl⟩ rfl rfl rfl (Nat.le_of_ble_eq_true rfl) rfl rfl WH_at7 [7, 8, 9, 10, 11, 12, 13] zn22_c zn22_n (fun r8 => ?_)
      exact y_iret hr dX10_suit_132 rfl rfl
    refine y_tsD (pc := 18) (tgt := 133) F dX10_suit_18 (by have eh2 := lv_neT (a := 0) h2 rfl; have eh3 := lv_neT (a := 1) h3 rfl; have eh4 := lv_neT (a := 2) h4 rfl; have eh5 := lv_neT (a := 3) h5 rfl; have eh6 := lv_neT (a := 4) h6 rfl; have eh7 := lv_neT (a := 5) h7 rfl; omega) rfl ?_
    refine y_ldc (pc := 133) F dX10_suit_133 kC_X10_91 ?_
    exact y_iret hr dX10_suit_135 rfl rfl
abbrev rmX10_oneIf : Room := { frames := 0, cells := 0, slots := 0, locals := 0 }
def pX10_oneIf (a0 : Int32) : Option Int32 :=
  if a0 = 0 then (some (0 : Int32))
  else (some (1 : Int32))
set_option maxHeartbeats 4000000 in
set_option maxRecDepth 100000 in
theorem c_X10_oneIf {q : Nat → Nat} (a0 : Int32) : zCi l D tA yX10_oneIf cX10_oneIf 1 .int rmX10_oneIf [.int a0] [] (fun (r : Int32) => r) (fun (r : Int32) => []) (pX10_oneIf a0) := by
  refine zCi_of (lv0 := [some (.int a0)]) (by decide +kernel) (Nat.le_of_ble_eq_true rfl) rfl (fun X out F hr => ?_)
  unfold pX10_oneIf
  refine y_iload_n (pc := 0) F dX10_oneIf_0 rfl ?_
  refine y_if_eq (pc := 1) (tgt := 8) F dX10_oneIf_1 rfl ?_ ?_
  · refine y_iconst (v := 0) (pc := 8) F dX10_oneIf_8 rfl ?_
    exact y_iret hr dX10_oneIf_9 rfl rfl
  · refine y_iconst (v := 1) (pc := 4) F dX10_oneIf_4 rfl ?_
    refine y_goto (tgt := 9) (pc := 5) F dX10_oneIf_5 rfl ?_
    exact y_iret hr dX10_oneIf_9 rfl rfl
abbrev rmX10_witness : Room := { frames := 4, cells := 0, slots := 0, locals := 88 }
def pX10_witness (oz : Ob) (od : Ob) (ot : Ob) (oc : Ob) (ow : Ob) (os : Ob) (oe : Ob) (of : Ob) (oh : Ob) (ob : Ob) (oi : Ob) (oj : Ob) (op : Ob) (oq : Ob) (a1 : Int32) (a2 : Int32) : Option Int32 :=
  Option.bind (pX2_hasWitness oc a1) fun (r1 : Int32) =>
  if r1 = 0 then (some (-1000000001 : Int32))
  else (if a2 = (0 : Int32) then (zgd a1 12 <| some (ga oc 5 (a1.toNatClampNeg)))
  else (if a2 = (1 : Int32) then (zgd a1 12 <| some (ga oc 6 (a1.toNatClampNeg)))
  else (if a2 = (2 : Int32) then (zgd a1 12 <| some (ga oc 7 (a1.toNatClampNeg)))
  else (if a2 = (3 : Int32) then (Option.bind (pX9_freshOn oc ow os a1 (gi os 0)) fun (r6 : Int32) =>
  some r6)
  else (if a2 = (4 : Int32) then (zgd a1 12 <| some (ga os 3 (a1.toNatClampNeg)))
  else (if a2 = (5 : Int32) then (zgd a1 12 <| some (ga os 4 (a1.toNatClampNeg)))
  else (if a2 = (6 : Int32) then (zgd a1 12 <| some (ga os 5 (a1.toNatClampNeg)))
  else (if a2 = (7 : Int32) then (Option.bind (pX9_maySpeak oc ow os a1) fun (r11 : Int32) =>
  Option.bind (pX10_oneIf r11) fun (r12 : Int32) =>
  some r12)
  else (some (-1000000002 : Int32))))))))))
set_option maxHeartbeats 4000000 in
set_option maxRecDepth 100000 in
theorem c_X10_witness {q : Nat → Nat} (oz : Ob) (od : Ob) (ot : Ob) (oc : Ob) (ow : Ob) (os : Ob) (oe : Ob) (of : Ob) (oh : Ob) (ob : Ob) (oi : Ob) (oj : Ob) (op : Ob) (oq : Ob) (a1 : Int32) (a2 : Int32) : zCi l D tA yX10_witness cX10_witness 3 .int rmX10_witness [.ref (q 0), .int a1, .int a2] (WH tA q oz od ot oc ow os oe of oh ob oi oj op oq) (fun (r : Int32) => r) (fun (r : Int32) => (WH tA q oz od ot oc ow os oe of oh ob oi oj op oq)) (pX10_witness oz od ot oc ow os oe of oh ob oi oj op oq a1 a2) := by
  refine zCi_of (lv0 := [some (.ref (q 0)), some (.int a1), some (.int a2)]) (by decide +kernel) (Nat.le_of_ble_eq_true rfl) rfl (fun X out F hr => ?_)
  unfold pX10_witness
  refine y_aload_n (pc := 0) F dX10_witness_0 rfl ?_
  refine y_get (pc := 1) F dX10_witness_1 kF_X10_28 0 WH_at0 rfl ?_
  refine y_get (pc := 4) F dX10_witness_4 kF_X10_111 6 WH_at6 rfl ?_
  refine y_iload_n (pc := 7) F dX10_witness_7 rfl ?_
  refine y_calliR (As := [.int a1]) (st := []) (q0 := 7) (pc := 8) F (c_X2_hasWitness (q := zq q [7, 8, 9, 10, 11, 12, 13]) oc a1) dX10_witness_8 kM_X10_178 ⟨rfl, rfl⟩ ⟨Nat.le_of_ble_eq_true rfl, Nat.le_of_ble_eq_true rfl⟩ rfl rfl rfl (Nat.le_of_ble_eq_true rfl) rfl rfl WH_at7 [7, 8, 9, 10, 11, 12, 13] zn22_c zn22_n (fun r1 => ?_)
  refine y_if_ne (pc := 11) (tgt := 17) F dX10_witness_11 rfl ?_ ?_
  · refine y_ldc (pc := 14) F dX10_witness_14 kC_X10_158 ?_
    exact y_iret hr dX10_witness_16 rfl rfl
  · refine y_iload_n (pc := 17) F dX10_witness_17 rfl ?_
    refine y_tsI (c := 0) (pc := 18) (tgt := 64) F dX10_witness_18 (by decide) rfl ?_ (fun h2 => ?_)
    · refine y_aload_n (pc := 64) F dX10_witness_64 rfl ?_
      refine y_get (pc := 65) F dX10_witness_65 kF_X10_28 0 WH_at0 rfl ?_
      refine y_get (pc := 68) F dX10_witness_68 kF_X10_111 6 WH_at6 rfl ?_
      refine y_get (pc := 71) F dX10_witness_71 kF_X10_181 7 WH_at7 rfl ?_
      refine y_iload_n (pc := 74) F dX10_witness_74 rfl ?_
      refine y_iald (pc := 75) F dX10_witness_75 11 WH_at11 ?_
      exact y_iret hr dX10_witness_76 rfl rfl
    refine y_tsI (c := 1) (pc := 18) (tgt := 77) F dX10_witness_18 (by decide) rfl ?_ (fun h3 => ?_)
    · refine y_aload_n (pc := 77) F dX10_witness_77 rfl ?_
      refine y_get (pc := 78) F dX10_witness_78 kF_X10_28 0 WH_at0 rfl ?_
      refine y_get (pc := 81) F dX10_witness_81 kF_X10_111 6 WH_at6 rfl ?_
      refine y_get (pc := 84) F dX10_witness_84 kF_X10_184 7 WH_at7 rfl ?_
      refine y_iload_n (pc := 87) F dX10_witness_87 rfl ?_
      refine y_iald (pc := 88) F dX10_witness_88 12 WH_at12 ?_
      exact y_iret hr dX10_witness_89 rfl rfl
    refine y_tsI (c := 2) (pc := 18) (tgt := 90) F dX10_witness_18 (by decide) rfl ?_ (fun h4 => ?_)
    · refine y_aload_n (pc := 90) F dX10_witness_90 rfl ?_
      refine y_get (pc := 91) F dX10_witness_91 kF_X10_28 0 WH_at0 rfl ?_
      refine y_get (pc := 94) F dX10_witness_94 kF_X10_111 6 WH_at6 rfl ?_
      refine y_get (pc := 97) F dX10_witness_97 kF_X10_187 7 WH_at7 rfl ?_
      refine y_iload_n (pc := 100) F dX10_witness_100 rfl ?_
      refine y_iald (pc := 101) F dX10_witness_101 13 WH_at13 ?_
      exact y_iret hr dX10_witness_102 rfl rfl
    refine y_tsI (c := 3) (pc := 18) (tgt := 103) F dX10_witness_18 (by decide) rfl ?_ (fun h5 => ?_)
    · refine y_aload_n (pc := 103) F dX10_witness_103 rfl ?_
      refine y_get (pc := 104) F dX10_witness_104 kF_X10_28 0 WH_at0 rfl ?_
      refine y_iload_n (pc := 107) F dX10_witness_107 rfl ?_
      refine y_aload_n (pc := 108) F dX10_witness_108 rfl ?_
      refine y_get (pc := 109) F dX10_witness_109 kF_X10_28 0 WH_at0 rfl ?_
      refine y_get (pc := 112) F dX10_witness_112 kF_X10_114 6 WH_at6 rfl ?_
      refine y_get (pc := 115) F dX10_witness_115 kF_X10_135 19 WH_at19 rfl ?_
      refine y_calliR (As := [.int a1, .int (gi os 0)]) (st := []) (q0 := 6) (pc := 118) F (c_X9_freshOn (q := zq q [6, 7, 8, 9, 10, 11, 12, 13, 14, 15, 16, 17, 18, 19, 20, 21, 22, 23, 24, 25, 26, 27, 28, 29, 30, 31, 32]) oc ow os a1 (gi os 0)) dX10_witness_118 kM_X10_190 ⟨rfl, rfl⟩ ⟨Nat.le_of_ble_eq_true rfl, Nat.le_of_ble_eq_true rfl⟩ rfl rfl rfl (Nat.le_of_ble_eq_true rfl) rfl rfl WH_at6 [6, 7, 8, 9, 10, 11, 12, 13, 14, 15, 16, 17, 18, 19, 20, 21, 22, 23, 24, 25, 26, 27, 28, 29, 30, 31, 32] zn23_c zn23_n (fun r6 => ?_)
      exact y_iret hr dX10_witness_121 rfl rfl
    refine y_tsI (c := 4) (pc := 18) (tgt := 122) F dX10_witness_18 (by decide) rfl ?_ (fun h7 => ?_)
    · refine y_aload_n (pc := 122) F dX10_witness_122 rfl ?_
      refine y_get (pc := 123) F dX10_witness_123 kF_X10_28 0 WH_at0 rfl ?_
      refine y_get (pc := 126) F dX10_witness_126 kF_X10_114 6 WH_at6 rfl ?_
      refine y_get (pc := 129) F dX10_witness_129 kF_X10_194 19 WH_at19 rfl ?_
      refine y_iload_n (pc := 132) F dX10_witness_132 rfl ?_
      refine y_iald (pc := 133) F dX10_witness_133 20 WH_at20 ?_
      exact y_iret hr dX10_witness_134 rfl rfl
    refine y_tsI (c := 5) (pc := 18) (tgt := 135) F dX10_witness_18 (by decide) rfl ?_ (fun h8 => ?_)
    · refine y_aload_n (pc := 135) F dX10_witness_135 rfl ?_
      refine y_get (pc := 136) F dX10_witness_136 kF_X10_28 0 WH_at0 rfl ?_
      refine y_get (pc := 139) F dX10_witness_139 kF_X10_114 6 WH_at6 rfl ?_
      refine y_get (pc := 142) F dX10_witness_142 kF_X10_197 19 WH_at19 rfl ?_
      refine y_iload_n (pc := 145) F dX10_witness_145 rfl ?_
      refine y_iald (pc := 146) F dX10_witness_146 21 WH_at21 ?_
      exact y_iret hr dX10_witness_147 rfl rfl
    refine y_tsI (c := 6) (pc := 18) (tgt := 148) F dX10_witness_18 (by decide) rfl ?_ (fun h9 => ?_)
    · refine y_aload_n (pc := 148) F dX10_witness_148 rfl ?_
      refine y_get (pc := 149) F dX10_witness_149 kF_X10_28 0 WH_at0 rfl ?_
      refine y_get (pc := 152) F dX10_witness_152 kF_X10_114 6 WH_at6 rfl ?_
      refine y_get (pc := 155) F dX10_witness_155 kF_X10_200 19 WH_at19 rfl ?_
      refine y_iload_n (pc := 158) F dX10_witness_158 rfl ?_
      refine y_iald (pc := 159) F dX10_witness_159 22 WH_at22 ?_
      exact y_iret hr dX10_witness_160 rfl rfl
    refine y_tsI (c := 7) (pc := 18) (tgt := 161) F dX10_witness_18 (by decide) rfl ?_ (fun h10 => ?_)
    · refine y_aload_n (pc := 161) F dX10_witness_161 rfl ?_
      refine y_get (pc := 162) F dX10_witness_162 kF_X10_28 0 WH_at0 rfl ?_
      refine y_iload_n (pc := 165) F dX10_witness_165 rfl ?_
      refine y_calliR (As := [.int a1]) (st := []) (q0 := 6) (pc := 166) F (c_X9_maySpeak (q := zq q [6, 7, 8, 9, 10, 11, 12, 13, 14, 15, 16, 17, 18, 19, 20, 21, 22, 23, 24, 25, 26, 27, 28, 29, 30, 31, 32]) oc ow os a1) dX10_witness_166 kM_X10_203 ⟨rfl, rfl⟩ ⟨Nat.le_of_ble_eq_true rfl, Nat.le_of_ble_eq_true rfl⟩ rfl rfl rfl (Nat.le_of_ble_eq_true rfl) rfl rfl WH_at6 [6, 7, 8, 9, 10, 11, 12, 13, 14, 15, 16, 17, 18, 19, 20, 21, 22, 23, 24, 25, 26, 27, 28, 29, 30, 31, 32] zn23_c zn23_n (fun r11 => ?_)
      refine y_scalliP (As := [.int r11]) (st := []) (pc := 169) F (c_X10_oneIf (q := q) r11) dX10_witness_169 kM_X10_206 ⟨rfl, rfl⟩ ⟨Nat.le_of_ble_eq_true rfl, Nat.le_of_ble_eq_true rfl⟩ rfl rfl rfl (Nat.le_of_ble_eq_true rfl) (fun r12 => ?_)
      exact y_iret hr dX10_witness_172 rfl rfl
    refine y_tsD (pc := 18) (tgt := 173) F dX10_witness_18 (by have eh2 := lv_neT (a := 0) h2 rfl; have eh3 := lv_neT (a := 1) h3 rfl; have eh4 := lv_neT (a := 2) h4 rfl; have eh5 := lv_neT (a := 3) h5 rfl; have eh7 := lv_neT (a := 4) h7 rfl; have eh8 := lv_neT (a := 5) h8 rfl; have eh9 := lv_neT (a := 6) h9 rfl; have eh10 := lv_neT (a := 7) h10 rfl; omega) rfl ?_
    refine y_ldc (pc := 173) F dX10_witness_173 kC_X10_91 ?_
    exact y_iret hr dX10_witness_175 rfl rfl
abbrev rmX10_weight : Room := { frames := 1, cells := 0, slots := 0, locals := 23 }
def pX10_weight (oz : Ob) (od : Ob) (ot : Ob) (oc : Ob) (ow : Ob) (os : Ob) (oe : Ob) (of : Ob) (oh : Ob) (ob : Ob) (oi : Ob) (oj : Ob) (op : Ob) (oq : Ob) (a1 : Int32) (a2 : Int32) : Option Int32 :=
  Option.bind (pX2_hasSuit oc a1) fun (r1 : Int32) =>
  if r1 = 0 then (some (-1000000001 : Int32))
  else (if a2 < (-1 : Int32) then (some (-1000000002 : Int32))
  else (if a2 < (400 : Int32) then (if a2 = (-1 : Int32) then (zgd a1 6 <| some (ga os 6 (a1.toNatClampNeg)))
  else (Option.bind (pX6_figure os a1 a2) fun (r2 : Int32) =>
  some r2))
  else (some (-1000000002 : Int32))))
set_option maxHeartbeats 4000000 in
set_option maxRecDepth 100000 in
theorem c_X10_weight {q : Nat → Nat} (oz : Ob) (od : Ob) (ot : Ob) (oc : Ob) (ow : Ob) (os : Ob) (oe : Ob) (of : Ob) (oh : Ob) (ob : Ob) (oi : Ob) (oj : Ob) (op : Ob) (oq : Ob) (a1 : Int32) (a2 : Int32) : zCi l D tA yX10_weight cX10_weight 3 .int rmX10_weight [.ref (q 0), .int a1, .int a2] (WH tA q oz od ot oc ow os oe of oh ob oi oj op oq) (fun (r : Int32) => r) (fun (r : Int32) => (WH tA q oz od ot oc ow os oe of oh ob oi oj op oq)) (pX10_weight oz od ot oc ow os oe of oh ob oi oj op oq a1 a2) := by
  refine zCi_of (lv0 := [some (.ref (q 0)), some (.int a1), some (.int a2)]) (by decide +kernel) (Nat.le_of_ble_eq_true rfl) rfl (fun X out F hr => ?_)
  unfold pX10_weight
  refine y_aload_n (pc := 0) F dX10_weight_0 rfl ?_
  refine y_get (pc := 1) F dX10_weight_1 kF_X10_28 0 WH_at0 rfl ?_
  refine y_get (pc := 4) F dX10_weight_4 kF_X10_111 6 WH_at6 rfl ?_
  refine y_iload_n (pc := 7) F dX10_weight_7 rfl ?_
  refine y_calliR (As := [.int a1]) (st := []) (q0 := 7) (pc := 8) F (c_X2_hasSuit (q := zq q [7, 8, 9, 10, 11, 12, 13]) oc a1) dX10_weight_8 kM_X10_154 ⟨rfl, rfl⟩ ⟨Nat.le_of_ble_eq_true rfl, Nat.le_of_ble_eq_true rfl⟩ rfl rfl rfl (Nat.le_of_ble_eq_true rfl) rfl rfl WH_at7 [7, 8, 9, 10, 11, 12, 13] zn22_c zn22_n (fun r1 => ?_)
  refine y_if_ne (pc := 11) (tgt := 17) F dX10_weight_11 rfl ?_ ?_
  · refine y_ldc (pc := 14) F dX10_weight_14 kC_X10_158 ?_
    exact y_iret hr dX10_weight_16 rfl rfl
  · refine y_iload_n (pc := 17) F dX10_weight_17 rfl ?_
    refine y_iconst (v := -1) (pc := 18) F dX10_weight_18 rfl ?_
    refine y_icmp_lt (pc := 19) (tgt := 29) F dX10_weight_19 rfl ?_ ?_
    · refine y_ldc (pc := 29) F dX10_weight_29 kC_X10_91 ?_
      exact y_iret hr dX10_weight_31 rfl rfl
    · refine y_iload_n (pc := 22) F dX10_weight_22 rfl ?_
      refine y_sipush (v := 400) (pc := 23) F dX10_weight_23 rfl ?_
      refine y_icmp_lt (pc := 26) (tgt := 32) F dX10_weight_26 rfl ?_ ?_
      · refine y_iload_n (pc := 32) F dX10_weight_32 rfl ?_
        refine y_iconst (v := -1) (pc := 33) F dX10_weight_33 rfl ?_
        refine y_icmp_ne (pc := 34) (tgt := 52) F dX10_weight_34 rfl ?_ ?_
        · refine y_aload_n (pc := 37) F dX10_weight_37 rfl ?_
          refine y_get (pc := 38) F dX10_weight_38 kF_X10_28 0 WH_at0 rfl ?_
          refine y_get (pc := 41) F dX10_weight_41 kF_X10_114 6 WH_at6 rfl ?_
          refine y_get (pc := 44) F dX10_weight_44 kF_X10_210 19 WH_at19 rfl ?_
          refine y_iload_n (pc := 47) F dX10_weight_47 rfl ?_
          refine y_iald (pc := 48) F dX10_weight_48 23 WH_at23 ?_
          refine y_goto (tgt := 64) (pc := 49) F dX10_weight_49 rfl ?_
          exact y_iret hr dX10_weight_64 rfl rfl
        · refine y_aload_n (pc := 52) F dX10_weight_52 rfl ?_
          refine y_get (pc := 53) F dX10_weight_53 kF_X10_28 0 WH_at0 rfl ?_
          refine y_get (pc := 56) F dX10_weight_56 kF_X10_114 6 WH_at6 rfl ?_
          refine y_iload_n (pc := 59) F dX10_weight_59 rfl ?_
          refine y_iload_n (pc := 60) F dX10_weight_60 rfl ?_
          refine y_calliR (As := [.int a1, .int a2]) (st := []) (q0 := 19) (pc := 61) F (c_X6_figure (q := zq q [19, 20, 21, 22, 23, 24, 25, 26, 27, 28, 29, 30, 31, 32]) os a1 a2) dX10_weight_61 kM_X10_213 ⟨rfl, rfl⟩ ⟨Nat.le_of_ble_eq_true rfl, Nat.le_of_ble_eq_true rfl⟩ rfl rfl rfl (Nat.le_of_ble_eq_true rfl) rfl rfl WH_at19 [19, 20, 21, 22, 23, 24, 25, 26, 27, 28, 29, 30, 31, 32] zn24_c zn24_n (fun r2 => ?_)
          exact y_iret hr dX10_weight_64 rfl rfl
      · refine y_ldc (pc := 29) F dX10_weight_29 kC_X10_91 ?_
        exact y_iret hr dX10_weight_31 rfl rfl
abbrev rmX10_say : Room := { frames := 4, cells := 0, slots := 0, locals := 89 }
def pX10_say (oz : Ob) (od : Ob) (ot : Ob) (oc : Ob) (ow : Ob) (os : Ob) (oe : Ob) (of : Ob) (oh : Ob) (ob : Ob) (oi : Ob) (oj : Ob) (op : Ob) (oq : Ob) (a1 : Int32) : Option (Int32 × Ob) :=
  Option.bind (pX2_hasWitness oc a1) fun (r1 : Int32) =>
  if r1 = 0 then (some ((-1000000001 : Int32), os))
  else (Option.bind (pX9_maySpeak oc ow os a1) fun (r2 : Int32) =>
  if r2 = 0 then (some ((-1000000003 : Int32), os))
  else (Option.bind (pX9_hear oc ow os a1) fun (r3 : Int32 × Ob) =>
  some ((r3.1), (r3.2))))
set_option maxHeartbeats 4000000 in
set_option maxRecDepth 100000 in
theorem c_X10_say {q : Nat → Nat} (oz : Ob) (od : Ob) (ot : Ob) (oc : Ob) (ow : Ob) (os : Ob) (oe : Ob) (of : Ob) (oh : Ob) (ob : Ob) (oi : Ob) (oj : Ob) (op : Ob) (oq : Ob) (a1 : Int32) : zCi l D tA yX10_say cX10_say 2 .int rmX10_say [.ref (q 0), .int a1] (WH tA q oz od ot oc ow os oe of oh ob oi oj op oq) (fun (r : Int32 × Ob) => (r.1)) (fun (r : Int32 × Ob) => (WH tA q oz od ot oc ow (r.2) oe of oh ob oi oj op oq)) (pX10_say oz od ot oc ow os oe of oh ob oi oj op oq a1) := by
  refine zCi_of (lv0 := [some (.ref (q 0)), some (.int a1)]) (by decide +kernel) (Nat.le_of_ble_eq_true rfl) rfl (fun X out F hr => ?_)
  unfold pX10_say
  refine y_aload_n (pc := 0) F dX10_say_0 rfl ?_
  refine y_get (pc := 1) F dX10_say_1 kF_X10_28 0 WH_at0 rfl ?_
  refine y_get (pc := 4) F dX10_say_4 kF_X10_111 6 WH_at6 rfl ?_
  refine y_iload_n (pc := 7) F dX10_say_7 rfl ?_
  refine y_calliR (As := [.int a1]) (st := []) (q0 := 7) (pc := 8) F (c_X2_hasWitness (q := zq q [7, 8, 9, 10, 11, 12, 13]) oc a1) dX10_say_8 kM_X10_178 ⟨rfl, rfl⟩ ⟨Nat.le_of_ble_eq_true rfl, Nat.le_of_ble_eq_true rfl⟩ rfl rfl rfl (Nat.le_of_ble_eq_true rfl) rfl rfl WH_at7 [7, 8, 9, 10, 11, 12, 13] zn22_c zn22_n (fun r1 => ?_)
  refine y_if_ne (pc := 11) (tgt := 17) F dX10_say_11 rfl ?_ ?_
  · refine y_ldc (pc := 14) F dX10_say_14 kC_X10_158 ?_
    exact y_iret hr dX10_say_16 rfl rfl
  · refine y_aload_n (pc := 17) F dX10_say_17 rfl ?_
    refine y_get (pc := 18) F dX10_say_18 kF_X10_28 0 WH_at0 rfl ?_
    refine y_iload_n (pc := 21) F dX10_say_21 rfl ?_
    refine y_calliR (As := [.int a1]) (st := []) (q0 := 6) (pc := 22) F (c_X9_maySpeak (q := zq q [6, 7, 8, 9, 10, 11, 12, 13, 14, 15, 16, 17, 18, 19, 20, 21, 22, 23, 24, 25, 26, 27, 28, 29, 30, 31, 32]) oc ow os a1) dX10_say_22 kM_X10_203 ⟨rfl, rfl⟩ ⟨Nat.le_of_ble_eq_true rfl, Nat.le_of_ble_eq_true rfl⟩ rfl rfl rfl (Nat.le_of_ble_eq_true rfl) rfl rfl WH_at6 [6, 7, 8, 9, 10, 11, 12, 13, 14, 15, 16, 17, 18, 19, 20, 21, 22, 23, 24, 25, 26, 27, 28, 29, 30, 31, 32] zn23_c zn23_n (fun r2 => ?_)
    refine y_if_ne (pc := 25) (tgt := 31) F dX10_say_25 rfl ?_ ?_
    · refine y_ldc (pc := 28) F dX10_say_28 kC_X10_127 ?_
      exact y_iret hr dX10_say_30 rfl rfl
    · refine y_aload_n (pc := 31) F dX10_say_31 rfl ?_
      refine y_get (pc := 32) F dX10_say_32 kF_X10_28 0 WH_at0 rfl ?_
      refine y_iload_n (pc := 35) F dX10_say_35 rfl ?_
      refine y_calli (As := [.int a1]) (st := []) (q0 := 6) (wf := fun (r3 : Int32 × Ob) => (WH tA q oz od ot oc ow (r3.2) oe of oh ob oi oj op oq)) (pc := 36) F (c_X9_hear (q := zq q [6, 7, 8, 9, 10, 11, 12, 13, 14, 15, 16, 17, 18, 19, 20, 21, 22, 23, 24, 25, 26, 27, 28, 29, 30, 31, 32]) oc ow os a1) dX10_say_36 kM_X10_216 ⟨rfl, rfl⟩ ⟨Nat.le_of_ble_eq_true rfl, Nat.le_of_ble_eq_true rfl⟩ rfl rfl rfl (Nat.le_of_ble_eq_true rfl) rfl rfl WH_at6 [6, 7, 8, 9, 10, 11, 12, 13, 14, 15, 16, 17, 18, 19, 20, 21, 22, 23, 24, 25, 26, 27, 28, 29, 30, 31, 32] zn25_c zn25_n (fun _ => rfl) (fun (r3 : Int32 × Ob) => zn25_p (r3.2)) (fun r3 => ?_)
      exact y_iret hr dX10_say_39 rfl rfl
abbrev rmX10_strike : Room := { frames := 1, cells := 0, slots := 0, locals := 21 }
def pX10_strike (oz : Ob) (od : Ob) (ot : Ob) (oc : Ob) (ow : Ob) (os : Ob) (oe : Ob) (of : Ob) (oh : Ob) (ob : Ob) (oi : Ob) (oj : Ob) (op : Ob) (oq : Ob) (a1 : Int32) (a2 : Int32) : Option (Int32 × Ob) :=
  Option.bind (pX2_hasWitness oc a1) fun (r1 : Int32) =>
  if r1 = 0 then (some ((-1000000001 : Int32), os))
  else (zgd a1 12 <| zlet ((ga os 5 (a1.toNatClampNeg))) fun (x2 : Int32) =>
  Option.bind (pX10_oneIf a2) fun (r3 : Int32) =>
  zgd a1 12 <| zlet (sa os 5 (upd (ga os 5) (a1.toNatClampNeg) r3)) fun (o4 : Ob) =>
  some (x2, o4))
set_option maxHeartbeats 4000000 in
set_option maxRecDepth 100000 in
theorem c_X10_strike {q : Nat → Nat} (oz : Ob) (od : Ob) (ot : Ob) (oc : Ob) (ow : Ob) (os : Ob) (oe : Ob) (of : Ob) (oh : Ob) (ob : Ob) (oi : Ob) (oj : Ob) (op : Ob) (oq : Ob) (a1 : Int32) (a2 : Int32) : zCi l D tA yX10_strike cX10_strike 4 .int rmX10_strike [.ref (q 0), .int a1, .int a2] (WH tA q oz od ot oc ow os oe of oh ob oi oj op oq) (fun (r : Int32 × Ob) => (r.1)) (fun (r : Int32 × Ob) => (WH tA q oz od ot oc ow (r.2) oe of oh ob oi oj op oq)) (pX10_strike oz od ot oc ow os oe of oh ob oi oj op oq a1 a2) := by
  refine zCi_of (lv0 := [some (.ref (q 0)), some (.int a1), some (.int a2), none]) (by decide +kernel) (Nat.le_of_ble_eq_true rfl) rfl (fun X out F hr => ?_)
  unfold pX10_strike
  refine y_aload_n (pc := 0) F dX10_strike_0 rfl ?_
  refine y_get (pc := 1) F dX10_strike_1 kF_X10_28 0 WH_at0 rfl ?_
  refine y_get (pc := 4) F dX10_strike_4 kF_X10_111 6 WH_at6 rfl ?_
  refine y_iload_n (pc := 7) F dX10_strike_7 rfl ?_
  refine y_calliR (As := [.int a1]) (st := []) (q0 := 7) (pc := 8) F (c_X2_hasWitness (q := zq q [7, 8, 9, 10, 11, 12, 13]) oc a1) dX10_strike_8 kM_X10_178 ⟨rfl, rfl⟩ ⟨Nat.le_of_ble_eq_true rfl, Nat.le_of_ble_eq_true rfl⟩ rfl rfl rfl (Nat.le_of_ble_eq_true rfl) rfl rfl WH_at7 [7, 8, 9, 10, 11, 12, 13] zn22_c zn22_n (fun r1 => ?_)
  refine y_if_ne (pc := 11) (tgt := 17) F dX10_strike_11 rfl ?_ ?_
  · refine y_ldc (pc := 14) F dX10_strike_14 kC_X10_158 ?_
    exact y_iret hr dX10_strike_16 rfl rfl
  · refine y_aload_n (pc := 17) F dX10_strike_17 rfl ?_
    refine y_get (pc := 18) F dX10_strike_18 kF_X10_28 0 WH_at0 rfl ?_
    refine y_get (pc := 21) F dX10_strike_21 kF_X10_114 6 WH_at6 rfl ?_
    refine y_get (pc := 24) F dX10_strike_24 kF_X10_200 19 WH_at19 rfl ?_
    refine y_iload_n (pc := 27) F dX10_strike_27 rfl ?_
    refine y_iald (pc := 28) F dX10_strike_28 22 WH_at22 ?_
    refine y_lti (fun x2 => ?_)
    refine y_istore_n (lv' := [some (.ref (q 0)), some (.int a1), some (.int a2), some (.int x2)]) (pc := 29) F dX10_strike_29 (Nat.le_of_ble_eq_true rfl) rfl rfl ?_
    refine y_aload_n (pc := 30) F dX10_strike_30 rfl ?_
    refine y_get (pc := 31) F dX10_strike_31 kF_X10_28 0 WH_at0 rfl ?_
    refine y_get (pc := 34) F dX10_strike_34 kF_X10_114 6 WH_at6 rfl ?_
    refine y_get (pc := 37) F dX10_strike_37 kF_X10_200 19 WH_at19 rfl ?_
    refine y_iload_n (pc := 40) F dX10_strike_40 rfl ?_
    refine y_iload_n (pc := 41) F dX10_strike_41 rfl ?_
    refine y_scalliP (As := [.int a2]) (st := [.int a1, .ref (q 22)]) (pc := 42) F (c_X10_oneIf (q := q) a2) dX10_strike_42 kM_X10_206 ⟨rfl, rfl⟩ ⟨Nat.le_of_ble_eq_true rfl, Nat.le_of_ble_eq_true rfl⟩ rfl rfl rfl (Nat.le_of_ble_eq_true rfl) (fun r3 => ?_)
    refine y_iast (pc := 45) F dX10_strike_45 22 WH_at22 (fun (o4 : Ob) => (WH tA q oz od ot oc ow o4 oe of oh ob oi oj op oq)) (WH_ar22 _) (fun o4 => ?_)
    refine y_iload_n (pc := 46) F dX10_strike_46 rfl ?_
    exact y_iret hr dX10_strike_47 rfl rfl
abbrev rmX10_dusk : Room := { frames := 4, cells := 0, slots := 0, locals := 85 }
def lX10_dusk_17 (oc : Ob) (ow : Ob) (a1 : Int32) : Nat → Int32 → Ob → Option (Int32 × Ob)
  | 0, _, _ => none
  | f + 1, x1, o2 =>
    if a1 ≤ x1 then (some ((gi o2 0), o2))
    else (if (399 : Int32) ≤ (gi o2 0) then (some ((gi o2 0), o2))
    else (Option.bind (pX9_endDay oc ow o2) fun (r3 : Ob) =>
    zlet (x1 + (1 : Int32)) fun (x4 : Int32) =>
    lX10_dusk_17 oc ow a1 f x4 r3))
def pX10_dusk (oz : Ob) (od : Ob) (ot : Ob) (oc : Ob) (ow : Ob) (os : Ob) (oe : Ob) (of : Ob) (oh : Ob) (ob : Ob) (oi : Ob) (oj : Ob) (op : Ob) (oq : Ob) (a1 : Int32) : Option (Int32 × Ob) :=
  if a1 < (1 : Int32) then (some ((-1000000002 : Int32), os))
  else (if a1 ≤ (400 : Int32) then (lX10_dusk_17 oc ow a1 zfu (0 : Int32) os)
  else (some ((-1000000002 : Int32), os)))
set_option maxHeartbeats 4000000 in
set_option maxRecDepth 100000 in
theorem wlX10_dusk_17 {X : ZX} {out : (Int32 × Ob)} (q : Nat → Nat) (oz : Ob) (od : Ob) (ot : Ob) (oc : Ob) (ow : Ob) (oe : Ob) (of : Ob) (oh : Ob) (ob : Ob) (oi : Ob) (oj : Ob) (op : Ob) (oq : Ob) (a1 : Int32) (F : zF l D tA RX10 cX10_dusk 3 rmX10_dusk X) (hr : zRi X D cX10_dusk .int (fun (r : Int32 × Ob) => (r.1)) (fun (r : Int32 × Ob) => (WH tA q oz od ot oc ow (r.2) oe of oh ob oi oj op oq)) out) : ∀ (f : Nat) (x1 : Int32) (o2 : Ob), zY X D out (lX10_dusk_17 oc ow a1 f x1 o2) (WH tA q oz od ot oc ow o2 oe of oh ob oi oj op oq) 17 [some (.ref (q 0)), some (.int a1), some (.int x1)] [] := by
  intro f
  induction f with
  | zero =>
    intro x1 o2
    exact y_none
  | succ f ih =>
    intro x1 o2
    rw [lX10_dusk_17.eq_2]
    refine y_iload_n (pc := 17) F dX10_dusk_17 rfl ?_
    refine y_iload_n (pc := 18) F dX10_dusk_18 rfl ?_
    refine y_icmp_ge (pc := 19) (tgt := 51) F dX10_dusk_19 rfl ?_ ?_
    · refine y_aload_n (pc := 51) F dX10_dusk_51 rfl ?_
      refine y_get (pc := 52) F dX10_dusk_52 kF_X10_28 0 WH_at0 rfl ?_
      refine y_get (pc := 55) F dX10_dusk_55 kF_X10_114 6 WH_at6 rfl ?_
      refine y_get (pc := 58) F dX10_dusk_58 kF_X10_135 19 WH_at19 rfl ?_
      exact y_iret hr dX10_dusk_61 rfl rfl
    · refine y_aload_n (pc := 22) F dX10_dusk_22 rfl ?_
      refine y_get (pc := 23) F dX10_dusk_23 kF_X10_28 0 WH_at0 rfl ?_
      refine y_get (pc := 26) F dX10_dusk_26 kF_X10_114 6 WH_at6 rfl ?_
      refine y_get (pc := 29) F dX10_dusk_29 kF_X10_135 19 WH_at19 rfl ?_
      refine y_sipush (v := 399) (pc := 32) F dX10_dusk_32 rfl ?_
      refine y_icmp_ge (pc := 35) (tgt := 51) F dX10_dusk_35 rfl ?_ ?_
      · refine y_aload_n (pc := 51) F dX10_dusk_51 rfl ?_
        refine y_get (pc := 52) F dX10_dusk_52 kF_X10_28 0 WH_at0 rfl ?_
        refine y_get (pc := 55) F dX10_dusk_55 kF_X10_114 6 WH_at6 rfl ?_
        refine y_get (pc := 58) F dX10_dusk_58 kF_X10_135 19 WH_at19 rfl ?_
        exact y_iret hr dX10_dusk_61 rfl rfl
      · refine y_aload_n (pc := 38) F dX10_dusk_38 rfl ?_
        refine y_get (pc := 39) F dX10_dusk_39 kF_X10_28 0 WH_at0 rfl ?_
        refine y_callv (As := []) (st := []) (q0 := 6) (wf := fun (r3 : Ob) => (WH tA q oz od ot oc ow r3 oe of oh ob oi oj op oq)) (pc := 42) F (c_X9_endDay (q := zq q [6, 7, 8, 9, 10, 11, 12, 13, 14, 15, 16, 17, 18, 19, 20, 21, 22, 23, 24, 25, 26, 27, 28, 29, 30, 31, 32]) oc ow o2) dX10_dusk_42 kM_X10_219 ⟨rfl, rfl⟩ ⟨Nat.le_of_ble_eq_true rfl, Nat.le_of_ble_eq_true rfl⟩ rfl rfl rfl (Nat.le_of_ble_eq_true rfl) rfl rfl WH_at6 [6, 7, 8, 9, 10, 11, 12, 13, 14, 15, 16, 17, 18, 19, 20, 21, 22, 23, 24, 25, 26, 27, 28, 29, 30, 31, 32] zn25_c zn25_n (fun _ => rfl) (fun (r3 : Ob) => zn25_p r3) (fun r3 => ?_)
        refine y_iinc (v := 1) (lf := fun (x4 : Int32) => [some (.ref (q 0)), some (.int a1), some (.int x4)]) (pc := 45) F dX10_dusk_45 rfl rfl rfl (fun _ => rfl) (fun x4 => ?_)
        refine y_goto (tgt := 17) (pc := 48) F dX10_dusk_48 rfl ?_
        exact ih x4 r3
set_option maxHeartbeats 4000000 in
set_option maxRecDepth 100000 in
theorem c_X10_dusk {q : Nat → Nat} (oz : Ob) (od : Ob) (ot : Ob) (oc : Ob) (ow : Ob) (os : Ob) (oe : Ob) (of : Ob) (oh : Ob) (ob : Ob) (oi : Ob) (oj : Ob) (op : Ob) (oq : Ob) (a1 : Int32) : zCi l D tA yX10_dusk cX10_dusk 3 .int rmX10_dusk [.ref (q 0), .int a1] (WH tA q oz od ot oc ow os oe of oh ob oi oj op oq) (fun (r : Int32 × Ob) => (r.1)) (fun (r : Int32 × Ob) => (WH tA q oz od ot oc ow (r.2) oe of oh ob oi oj op oq)) (pX10_dusk oz od ot oc ow os oe of oh ob oi oj op oq a1) := by
  refine zCi_of (lv0 := [some (.ref (q 0)), some (.int a1), none]) (by decide +kernel) (Nat.le_of_ble_eq_true rfl) rfl (fun X out F hr => ?_)
  unfold pX10_dusk
  refine y_iload_n (pc := 0) F dX10_dusk_0 rfl ?_
  refine y_iconst (v := 1) (pc := 1) F dX10_dusk_1 rfl ?_
  refine y_icmp_lt (pc := 2) (tgt := 12) F dX10_dusk_2 rfl ?_ ?_
  · refine y_ldc (pc := 12) F dX10_dusk_12 kC_X10_91 ?_
    exact y_iret hr dX10_dusk_14 rfl rfl
  · refine y_iload_n (pc := 5) F dX10_dusk_5 rfl ?_
    refine y_sipush (v := 400) (pc := 6) F dX10_dusk_6 rfl ?_
    refine y_icmp_le (pc := 9) (tgt := 15) F dX10_dusk_9 rfl ?_ ?_
    · refine y_iconst (v := 0) (pc := 15) F dX10_dusk_15 rfl ?_
      refine y_istore_n (lv' := [some (.ref (q 0)), some (.int a1), some (.int (0 : Int32))]) (pc := 16) F dX10_dusk_16 (Nat.le_of_ble_eq_true rfl) rfl rfl ?_
      exact wlX10_dusk_17 q oz od ot oc ow oe of oh ob oi oj op oq a1 F hr zfu (0 : Int32) os
    · refine y_ldc (pc := 12) F dX10_dusk_12 kC_X10_91 ?_
      exact y_iret hr dX10_dusk_14 rfl rfl
abbrev rmX10_drift : Room := { frames := 5, cells := 0, slots := 0, locals := 112 }
def lX10_drift_29 (oc : Ob) (ow : Ob) (a1 : Int32) (a2 : Int32) : Nat → Int32 → Int32 → Ob → Option (Int32 × Ob)
  | 0, _, _, _ => none
  | f + 1, x1, x2, o3 =>
    if a1 ≤ x2 then (some (x1, o3))
    else (if (399 : Int32) ≤ (gi o3 0) then (some (x1, o3))
    else (Option.bind (pX9_passDayByDraws oc ow o3 a2) fun (r4 : Int32 × Ob) =>
    zlet ((x1 + (r4.1))) fun (x5 : Int32) =>
    zlet (x2 + (1 : Int32)) fun (x6 : Int32) =>
    lX10_drift_29 oc ow a1 a2 f x5 x6 (r4.2)))
def pX10_drift (oz : Ob) (od : Ob) (ot : Ob) (oc : Ob) (ow : Ob) (os : Ob) (oe : Ob) (of : Ob) (oh : Ob) (ob : Ob) (oi : Ob) (oj : Ob) (op : Ob) (oq : Ob) (a1 : Int32) (a2 : Int32) : Option (Int32 × Ob) :=
  if a1 < (1 : Int32) then (some ((-1000000002 : Int32), os))
  else (if (60 : Int32) < a1 then (some ((-1000000002 : Int32), os))
  else (if a2 < 0 then (some ((-1000000002 : Int32), os))
  else (if a2 ≤ (100 : Int32) then (lX10_drift_29 oc ow a1 a2 zfu (0 : Int32) (0 : Int32) os)
  else (some ((-1000000002 : Int32), os)))))
set_option maxHeartbeats 4000000 in
set_option maxRecDepth 100000 in
theorem wlX10_drift_29 {X : ZX} {out : (Int32 × Ob)} (q : Nat → Nat) (oz : Ob) (od : Ob) (ot : Ob) (oc : Ob) (ow : Ob) (oe : Ob) (of : Ob) (oh : Ob) (ob : Ob) (oi : Ob) (oj : Ob) (op : Ob) (oq : Ob) (a1 : Int32) (a2 : Int32) (F : zF l D tA RX10 cX10_drift 5 rmX10_drift X) (hr : zRi X D cX10_drift .int (fun (r : Int32 × Ob) => (r.1)) (fun (r : Int32 × Ob) => (WH tA q oz od ot oc ow (r.2) oe of oh ob oi oj op oq)) out) : ∀ (f : Nat) (x1 : Int32) (x2 : Int32) (o3 : Ob), zY X D out (lX10_drift_29 oc ow a1 a2 f x1 x2 o3) (WH tA q oz od ot oc ow o3 oe of oh ob oi oj op oq) 29 [some (.ref (q 0)), some (.int a1), some (.int a2), some (.int x1), some (.int x2)] [] := by
  intro f
  induction f with
  | zero =>
    intro x1 x2 o3
    exact y_none
  | succ f ih =>
    intro x1 x2 o3
    rw [lX10_drift_29.eq_2]
    refine y_iload (pc := 29) F dX10_drift_29 rfl ?_
    refine y_iload_n (pc := 31) F dX10_drift_31 rfl ?_
    refine y_icmp_ge (pc := 32) (tgt := 68) F dX10_drift_32 rfl ?_ ?_
    · refine y_iload_n (pc := 68) F dX10_drift_68 rfl ?_
      exact y_iret hr dX10_drift_69 rfl rfl
    · refine y_aload_n (pc := 35) F dX10_drift_35 rfl ?_
      refine y_get (pc := 36) F dX10_drift_36 kF_X10_28 0 WH_at0 rfl ?_
      refine y_get (pc := 39) F dX10_drift_39 kF_X10_114 6 WH_at6 rfl ?_
      refine y_get (pc := 42) F dX10_drift_42 kF_X10_135 19 WH_at19 rfl ?_
      refine y_sipush (v := 399) (pc := 45) F dX10_drift_45 rfl ?_
      refine y_icmp_ge (pc := 48) (tgt := 68) F dX10_drift_48 rfl ?_ ?_
      · refine y_iload_n (pc := 68) F dX10_drift_68 rfl ?_
        exact y_iret hr dX10_drift_69 rfl rfl
      · refine y_iload_n (pc := 51) F dX10_drift_51 rfl ?_
        refine y_aload_n (pc := 52) F dX10_drift_52 rfl ?_
        refine y_get (pc := 53) F dX10_drift_53 kF_X10_28 0 WH_at0 rfl ?_
        refine y_iload_n (pc := 56) F dX10_drift_56 rfl ?_
        refine y_calli (As := [.int a2]) (st := [.int x1]) (q0 := 6) (wf := fun (r4 : Int32 × Ob) => (WH tA q oz od ot oc ow (r4.2) oe of oh ob oi oj op oq)) (pc := 57) F (c_X9_passDayByDraws (q := zq q [6, 7, 8, 9, 10, 11, 12, 13, 14, 15, 16, 17, 18, 19, 20, 21, 22, 23, 24, 25, 26, 27, 28, 29, 30, 31, 32]) oc ow o3 a2) dX10_drift_57 kM_X10_222 ⟨rfl, rfl⟩ ⟨Nat.le_of_ble_eq_true rfl, Nat.le_of_ble_eq_true rfl⟩ rfl rfl rfl (Nat.le_of_ble_eq_true rfl) rfl rfl WH_at6 [6, 7, 8, 9, 10, 11, 12, 13, 14, 15, 16, 17, 18, 19, 20, 21, 22, 23, 24, 25, 26, 27, 28, 29, 30, 31, 32] zn25_c zn25_n (fun _ => rfl) (fun (r4 : Int32 × Ob) => zn25_p (r4.2)) (fun r4 => ?_)
        refine y_iadd (pc := 60) F dX10_drift_60 ?_
        refine y_lti (fun x5 => ?_)
        refine y_istore_n (lv' := [some (.ref (q 0)), some (.int a1), some (.int a2), some (.int x5), some (.int x2)]) (pc := 61) F dX10_drift_61 (Nat.le_of_ble_eq_true rfl) rfl rfl ?_
        refine y_iinc (v := 1) (lf := fun (x6 : Int32) => [some (.ref (q 0)), some (.int a1), some (.int a2), some (.int x5), some (.int x6)]) (pc := 62) F dX10_drift_62 rfl rfl rfl (fun _ => rfl) (fun x6 => ?_)
        refine y_goto (tgt := 29) (pc := 65) F dX10_drift_65 rfl ?_
        exact ih x5 x6 (r4.2)
set_option maxHeartbeats 4000000 in
set_option maxRecDepth 100000 in
theorem c_X10_drift {q : Nat → Nat} (oz : Ob) (od : Ob) (ot : Ob) (oc : Ob) (ow : Ob) (os : Ob) (oe : Ob) (of : Ob) (oh : Ob) (ob : Ob) (oi : Ob) (oj : Ob) (op : Ob) (oq : Ob) (a1 : Int32) (a2 : Int32) : zCi l D tA yX10_drift cX10_drift 5 .int rmX10_drift [.ref (q 0), .int a1, .int a2] (WH tA q oz od ot oc ow os oe of oh ob oi oj op oq) (fun (r : Int32 × Ob) => (r.1)) (fun (r : Int32 × Ob) => (WH tA q oz od ot oc ow (r.2) oe of oh ob oi oj op oq)) (pX10_drift oz od ot oc ow os oe of oh ob oi oj op oq a1 a2) := by
  refine zCi_of (lv0 := [some (.ref (q 0)), some (.int a1), some (.int a2), none, none]) (by decide +kernel) (Nat.le_of_ble_eq_true rfl) rfl (fun X out F hr => ?_)
  unfold pX10_drift
  refine y_iload_n (pc := 0) F dX10_drift_0 rfl ?_
  refine y_iconst (v := 1) (pc := 1) F dX10_drift_1 rfl ?_
  refine y_icmp_lt (pc := 2) (tgt := 21) F dX10_drift_2 rfl ?_ ?_
  · refine y_ldc (pc := 21) F dX10_drift_21 kC_X10_91 ?_
    exact y_iret hr dX10_drift_23 rfl rfl
  · refine y_iload_n (pc := 5) F dX10_drift_5 rfl ?_
    refine y_bipush (v := 60) (pc := 6) F dX10_drift_6 rfl ?_
    refine y_icmp_gt (pc := 8) (tgt := 21) F dX10_drift_8 rfl ?_ ?_
    · refine y_ldc (pc := 21) F dX10_drift_21 kC_X10_91 ?_
      exact y_iret hr dX10_drift_23 rfl rfl
    · refine y_iload_n (pc := 11) F dX10_drift_11 rfl ?_
      refine y_if_lt (pc := 12) (tgt := 21) F dX10_drift_12 rfl ?_ ?_
      · refine y_ldc (pc := 21) F dX10_drift_21 kC_X10_91 ?_
        exact y_iret hr dX10_drift_23 rfl rfl
      · refine y_iload_n (pc := 15) F dX10_drift_15 rfl ?_
        refine y_bipush (v := 100) (pc := 16) F dX10_drift_16 rfl ?_
        refine y_icmp_le (pc := 18) (tgt := 24) F dX10_drift_18 rfl ?_ ?_
        · refine y_iconst (v := 0) (pc := 24) F dX10_drift_24 rfl ?_
          refine y_istore_n (lv' := [some (.ref (q 0)), some (.int a1), some (.int a2), some (.int (0 : Int32)), none]) (pc := 25) F dX10_drift_25 (Nat.le_of_ble_eq_true rfl) rfl rfl ?_
          refine y_iconst (v := 0) (pc := 26) F dX10_drift_26 rfl ?_
          refine y_istore (lv' := [some (.ref (q 0)), some (.int a1), some (.int a2), some (.int (0 : Int32)), some (.int (0 : Int32))]) (pc := 27) F dX10_drift_27 (Nat.le_of_ble_eq_true rfl) rfl rfl ?_
          exact wlX10_drift_29 q oz od ot oc ow oe of oh ob oi oj op oq a1 a2 F hr zfu (0 : Int32) (0 : Int32) os
        · refine y_ldc (pc := 21) F dX10_drift_21 kC_X10_91 ?_
          exact y_iret hr dX10_drift_23 rfl rfl
abbrev rmX10_begin : Room := { frames := 2, cells := 0, slots := 0, locals := 43 }
def pX10_begin (oz : Ob) (od : Ob) (ot : Ob) (oc : Ob) (ow : Ob) (os : Ob) (oe : Ob) (of : Ob) (oh : Ob) (ob : Ob) (oi : Ob) (oj : Ob) (op : Ob) (oq : Ob) : Option (Int32 × Ob) :=
  zlet ((gi os 0)) fun (x1 : Int32) =>
  Option.bind (pX6_startAgain os) fun (r2 : Ob) =>
  some (x1, r2)
set_option maxHeartbeats 4000000 in
set_option maxRecDepth 100000 in
theorem c_X10_begin {q : Nat → Nat} (oz : Ob) (od : Ob) (ot : Ob) (oc : Ob) (ow : Ob) (os : Ob) (oe : Ob) (of : Ob) (oh : Ob) (ob : Ob) (oi : Ob) (oj : Ob) (op : Ob) (oq : Ob) : zCi l D tA yX10_begin cX10_begin 2 .int rmX10_begin [.ref (q 0)] (WH tA q oz od ot oc ow os oe of oh ob oi oj op oq) (fun (r : Int32 × Ob) => (r.1)) (fun (r : Int32 × Ob) => (WH tA q oz od ot oc ow (r.2) oe of oh ob oi oj op oq)) (pX10_begin oz od ot oc ow os oe of oh ob oi oj op oq) := by
  refine zCi_of (lv0 := [some (.ref (q 0)), none]) (by decide +kernel) (Nat.le_of_ble_eq_true rfl) rfl (fun X out F hr => ?_)
  unfold pX10_begin
  refine y_aload_n (pc := 0) F dX10_begin_0 rfl ?_
  refine y_get (pc := 1) F dX10_begin_1 kF_X10_28 0 WH_at0 rfl ?_
  refine y_get (pc := 4) F dX10_begin_4 kF_X10_114 6 WH_at6 rfl ?_
  refine y_get (pc := 7) F dX10_begin_7 kF_X10_135 19 WH_at19 rfl ?_
  refine y_lti (fun x1 => ?_)
  refine y_istore_n (lv' := [some (.ref (q 0)), some (.int x1)]) (pc := 10) F dX10_begin_10 (Nat.le_of_ble_eq_true rfl) rfl rfl ?_
  refine y_aload_n (pc := 11) F dX10_begin_11 rfl ?_
  refine y_get (pc := 12) F dX10_begin_12 kF_X10_28 0 WH_at0 rfl ?_
  refine y_get (pc := 15) F dX10_begin_15 kF_X10_114 6 WH_at6 rfl ?_
  refine y_callv (As := []) (st := []) (q0 := 19) (wf := fun (r2 : Ob) => (WH tA q oz od ot oc ow r2 oe of oh ob oi oj op oq)) (pc := 18) F (c_X6_startAgain (q := zq q [19, 20, 21, 22, 23, 24, 25, 26, 27, 28, 29, 30, 31, 32]) os) dX10_begin_18 kM_X10_118 ⟨rfl, rfl⟩ ⟨Nat.le_of_ble_eq_true rfl, Nat.le_of_ble_eq_true rfl⟩ rfl rfl rfl (Nat.le_of_ble_eq_true rfl) rfl rfl WH_at19 [19, 20, 21, 22, 23, 24, 25, 26, 27, 28, 29, 30, 31, 32] zn18_c zn18_n (fun _ => rfl) (fun (r2 : Ob) => zn18_p r2) (fun r2 => ?_)
  refine y_iload_n (pc := 21) F dX10_begin_21 rfl ?_
  exact y_iret hr dX10_begin_22 rfl rfl
abbrev rmX10_most : Room := { frames := 5, cells := 0, slots := 0, locals := 115 }
def pX10_most (oz : Ob) (od : Ob) (ot : Ob) (oc : Ob) (ow : Ob) (os : Ob) (oe : Ob) (of : Ob) (oh : Ob) (ob : Ob) (oi : Ob) (oj : Ob) (op : Ob) (oq : Ob) (a1 : Int32) (a2 : Int32) : Option (Int32 × Ob) :=
  Option.bind (pX2_hasSuit oc a1) fun (r1 : Int32) =>
  if r1 = 0 then (some ((-1000000001 : Int32), oe))
  else (if a2 < 0 then (some ((-1000000002 : Int32), oe))
  else (if a2 < (31 : Int32) then (Option.bind (pX9_goesOn oc ow os a1) fun (r2 : Int32) =>
  if r2 = 0 then (some ((-1000000003 : Int32), oe))
  else (if ((gi os 0) + a2) ≤ (399 : Int32) then (Option.bind (pX1_mostOn oe oc ow os a1 a2) fun (r3 : Int32 × Ob) =>
  some ((r3.1), (r3.2)))
  else (some ((-1000000003 : Int32), oe))))
  else (some ((-1000000002 : Int32), oe))))
set_option maxHeartbeats 4000000 in
set_option maxRecDepth 100000 in
theorem c_X10_most {q : Nat → Nat} (oz : Ob) (od : Ob) (ot : Ob) (oc : Ob) (ow : Ob) (os : Ob) (oe : Ob) (of : Ob) (oh : Ob) (ob : Ob) (oi : Ob) (oj : Ob) (op : Ob) (oq : Ob) (a1 : Int32) (a2 : Int32) : zCi l D tA yX10_most cX10_most 3 .int rmX10_most [.ref (q 0), .int a1, .int a2] (WH tA q oz od ot oc ow os oe of oh ob oi oj op oq) (fun (r : Int32 × Ob) => (r.1)) (fun (r : Int32 × Ob) => (WH tA q oz od ot oc ow os (r.2) of oh ob oi oj op oq)) (pX10_most oz od ot oc ow os oe of oh ob oi oj op oq a1 a2) := by
  refine zCi_of (lv0 := [some (.ref (q 0)), some (.int a1), some (.int a2)]) (by decide +kernel) (Nat.le_of_ble_eq_true rfl) rfl (fun X out F hr => ?_)
  unfold pX10_most
  refine y_aload_n (pc := 0) F dX10_most_0 rfl ?_
  refine y_get (pc := 1) F dX10_most_1 kF_X10_28 0 WH_at0 rfl ?_
  refine y_get (pc := 4) F dX10_most_4 kF_X10_111 6 WH_at6 rfl ?_
  refine y_iload_n (pc := 7) F dX10_most_7 rfl ?_
  refine y_calliR (As := [.int a1]) (st := []) (q0 := 7) (pc := 8) F (c_X2_hasSuit (q := zq q [7, 8, 9, 10, 11, 12, 13]) oc a1) dX10_most_8 kM_X10_154 ⟨rfl, rfl⟩ ⟨Nat.le_of_ble_eq_true rfl, Nat.le_of_ble_eq_true rfl⟩ rfl rfl rfl (Nat.le_of_ble_eq_true rfl) rfl rfl WH_at7 [7, 8, 9, 10, 11, 12, 13] zn22_c zn22_n (fun r1 => ?_)
  refine y_if_ne (pc := 11) (tgt := 17) F dX10_most_11 rfl ?_ ?_
  · refine y_ldc (pc := 14) F dX10_most_14 kC_X10_158 ?_
    exact y_iret hr dX10_most_16 rfl rfl
  · refine y_iload_n (pc := 17) F dX10_most_17 rfl ?_
    refine y_if_lt (pc := 18) (tgt := 27) F dX10_most_18 rfl ?_ ?_
    · refine y_ldc (pc := 27) F dX10_most_27 kC_X10_91 ?_
      exact y_iret hr dX10_most_29 rfl rfl
    · refine y_iload_n (pc := 21) F dX10_most_21 rfl ?_
      refine y_bipush (v := 31) (pc := 22) F dX10_most_22 rfl ?_
      refine y_icmp_lt (pc := 24) (tgt := 30) F dX10_most_24 rfl ?_ ?_
      · refine y_aload_n (pc := 30) F dX10_most_30 rfl ?_
        refine y_get (pc := 31) F dX10_most_31 kF_X10_28 0 WH_at0 rfl ?_
        refine y_iload_n (pc := 34) F dX10_most_34 rfl ?_
        refine y_calliR (As := [.int a1]) (st := []) (q0 := 6) (pc := 35) F (c_X9_goesOn (q := zq q [6, 7, 8, 9, 10, 11, 12, 13, 14, 15, 16, 17, 18, 19, 20, 21, 22, 23, 24, 25, 26, 27, 28, 29, 30, 31, 32]) oc ow os a1) dX10_most_35 kM_X10_225 ⟨rfl, rfl⟩ ⟨Nat.le_of_ble_eq_true rfl, Nat.le_of_ble_eq_true rfl⟩ rfl rfl rfl (Nat.le_of_ble_eq_true rfl) rfl rfl WH_at6 [6, 7, 8, 9, 10, 11, 12, 13, 14, 15, 16, 17, 18, 19, 20, 21, 22, 23, 24, 25, 26, 27, 28, 29, 30, 31, 32] zn23_c zn23_n (fun r2 => ?_)
        refine y_if_eq (pc := 38) (tgt := 59) F dX10_most_38 rfl ?_ ?_
        · refine y_ldc (pc := 59) F dX10_most_59 kC_X10_127 ?_
          exact y_iret hr dX10_most_61 rfl rfl
        · refine y_aload_n (pc := 41) F dX10_most_41 rfl ?_
          refine y_get (pc := 42) F dX10_most_42 kF_X10_28 0 WH_at0 rfl ?_
          refine y_get (pc := 45) F dX10_most_45 kF_X10_114 6 WH_at6 rfl ?_
          refine y_get (pc := 48) F dX10_most_48 kF_X10_135 19 WH_at19 rfl ?_
          refine y_iload_n (pc := 51) F dX10_most_51 rfl ?_
          refine y_iadd (pc := 52) F dX10_most_52 ?_
          refine y_sipush (v := 399) (pc := 53) F dX10_most_53 rfl ?_
          refine y_icmp_le (pc := 56) (tgt := 62) F dX10_most_56 rfl ?_ ?_
          · refine y_aload_n (pc := 62) F dX10_most_62 rfl ?_
            refine y_get (pc := 63) F dX10_most_63 kF_X10_37 0 WH_at0 rfl ?_
            refine y_iload_n (pc := 66) F dX10_most_66 rfl ?_
            refine y_iload_n (pc := 67) F dX10_most_67 rfl ?_
            refine y_calli (As := [.int a1, .int a2]) (st := []) (q0 := 33) (wf := fun (r3 : Int32 × Ob) => (WH tA q oz od ot oc ow os (r3.2) of oh ob oi oj op oq)) (pc := 68) F (c_X1_mostOn (q := zq q [33, 34, 35, 36, 37, 38, 39, 40, 41, 42, 43, 44, 45, 46, 6, 7, 8, 9, 10, 11, 12, 13, 14, 15, 16, 17, 18, 19, 20, 21, 22, 23, 24, 25, 26, 27, 28, 29, 30, 31, 32]) oe oc ow os a1 a2) dX10_most_68 kM_X10_228 ⟨rfl, rfl⟩ ⟨Nat.le_of_ble_eq_true rfl, Nat.le_of_ble_eq_true rfl⟩ rfl rfl rfl (Nat.le_of_ble_eq_true rfl) rfl rfl WH_at33 [33, 34, 35, 36, 37, 38, 39, 40, 41, 42, 43, 44, 45, 46, 6, 7, 8, 9, 10, 11, 12, 13, 14, 15, 16, 17, 18, 19, 20, 21, 22, 23, 24, 25, 26, 27, 28, 29, 30, 31, 32] zn26_c zn26_n (fun _ => rfl) (fun (r3 : Int32 × Ob) => zn26_p (r3.2)) (fun r3 => ?_)
            exact y_iret hr dX10_most_71 rfl rfl
          · refine y_ldc (pc := 59) F dX10_most_59 kC_X10_127 ?_
            exact y_iret hr dX10_most_61 rfl rfl
      · refine y_ldc (pc := 27) F dX10_most_27 kC_X10_91 ?_
        exact y_iret hr dX10_most_29 rfl rfl
abbrev rmX10_soonest : Room := { frames := 5, cells := 0, slots := 0, locals := 114 }
def pX10_soonest (oz : Ob) (od : Ob) (ot : Ob) (oc : Ob) (ow : Ob) (os : Ob) (oe : Ob) (of : Ob) (oh : Ob) (ob : Ob) (oi : Ob) (oj : Ob) (op : Ob) (oq : Ob) (a1 : Int32) : Option (Int32 × Ob) :=
  Option.bind (pX2_hasSuit oc a1) fun (r1 : Int32) =>
  if r1 = 0 then (some ((-1000000001 : Int32), oe))
  else (Option.bind (pX1_soonestOf oe oc ow os a1) fun (r2 : Int32 × Ob) =>
  some ((r2.1), (r2.2)))
set_option maxHeartbeats 4000000 in
set_option maxRecDepth 100000 in
theorem c_X10_soonest {q : Nat → Nat} (oz : Ob) (od : Ob) (ot : Ob) (oc : Ob) (ow : Ob) (os : Ob) (oe : Ob) (of : Ob) (oh : Ob) (ob : Ob) (oi : Ob) (oj : Ob) (op : Ob) (oq : Ob) (a1 : Int32) : zCi l D tA yX10_soonest cX10_soonest 2 .int rmX10_soonest [.ref (q 0), .int a1] (WH tA q oz od ot oc ow os oe of oh ob oi oj op oq) (fun (r : Int32 × Ob) => (r.1)) (fun (r : Int32 × Ob) => (WH tA q oz od ot oc ow os (r.2) of oh ob oi oj op oq)) (pX10_soonest oz od ot oc ow os oe of oh ob oi oj op oq a1) := by
  refine zCi_of (lv0 := [some (.ref (q 0)), some (.int a1)]) (by decide +kernel) (Nat.le_of_ble_eq_true rfl) rfl (fun X out F hr => ?_)
  unfold pX10_soonest
  refine y_aload_n (pc := 0) F dX10_soonest_0 rfl ?_
  refine y_get (pc := 1) F dX10_soonest_1 kF_X10_28 0 WH_at0 rfl ?_
  refine y_get (pc := 4) F dX10_soonest_4 kF_X10_111 6 WH_at6 rfl ?_
  refine y_iload_n (pc := 7) F dX10_soonest_7 rfl ?_
  refine y_calliR (As := [.int a1]) (st := []) (q0 := 7) (pc := 8) F (c_X2_hasSuit (q := zq q [7, 8, 9, 10, 11, 12, 13]) oc a1) dX10_soonest_8 kM_X10_154 ⟨rfl, rfl⟩ ⟨Nat.le_of_ble_eq_true rfl, Nat.le_of_ble_eq_true rfl⟩ rfl rfl rfl (Nat.le_of_ble_eq_true rfl) rfl rfl WH_at7 [7, 8, 9, 10, 11, 12, 13] zn22_c zn22_n (fun r1 => ?_)
  refine y_if_ne (pc := 11) (tgt := 17) F dX10_soonest_11 rfl ?_ ?_
  · refine y_ldc (pc := 14) F dX10_soonest_14 kC_X10_158 ?_
    exact y_iret hr dX10_soonest_16 rfl rfl
  · refine y_aload_n (pc := 17) F dX10_soonest_17 rfl ?_
    refine y_get (pc := 18) F dX10_soonest_18 kF_X10_37 0 WH_at0 rfl ?_
    refine y_iload_n (pc := 21) F dX10_soonest_21 rfl ?_
    refine y_calli (As := [.int a1]) (st := []) (q0 := 33) (wf := fun (r2 : Int32 × Ob) => (WH tA q oz od ot oc ow os (r2.2) of oh ob oi oj op oq)) (pc := 22) F (c_X1_soonestOf (q := zq q [33, 34, 35, 36, 37, 38, 39, 40, 41, 42, 43, 44, 45, 46, 6, 7, 8, 9, 10, 11, 12, 13, 14, 15, 16, 17, 18, 19, 20, 21, 22, 23, 24, 25, 26, 27, 28, 29, 30, 31, 32]) oe oc ow os a1) dX10_soonest_22 kM_X10_231 ⟨rfl, rfl⟩ ⟨Nat.le_of_ble_eq_true rfl, Nat.le_of_ble_eq_true rfl⟩ rfl rfl rfl (Nat.le_of_ble_eq_true rfl) rfl rfl WH_at33 [33, 34, 35, 36, 37, 38, 39, 40, 41, 42, 43, 44, 45, 46, 6, 7, 8, 9, 10, 11, 12, 13, 14, 15, 16, 17, 18, 19, 20, 21, 22, 23, 24, 25, 26, 27, 28, 29, 30, 31, 32] zn26_c zn26_n (fun _ => rfl) (fun (r2 : Int32 × Ob) => zn26_p (r2.2)) (fun r2 => ?_)
    exact y_iret hr dX10_soonest_25 rfl rfl
abbrev rmX10_plan : Room := { frames := 5, cells := 0, slots := 0, locals := 133 }
def pX10_plan (oz : Ob) (od : Ob) (ot : Ob) (oc : Ob) (ow : Ob) (os : Ob) (oe : Ob) (of : Ob) (oh : Ob) (ob : Ob) (oi : Ob) (oj : Ob) (op : Ob) (oq : Ob) (a1 : Int32) : Option (Int32 × Ob) :=
  Option.bind (pX2_hasWitness oc a1) fun (r1 : Int32) =>
  if r1 = 0 then (some ((-1000000001 : Int32), oe))
  else (zgd a1 12 <| Option.bind (pX1_soonestOf oe oc ow os (ga oc 5 (a1.toNatClampNeg))) fun (r2 : Int32 × Ob) =>
  if (r2.1) = (-1 : Int32) then (some ((-1 : Int32), (r2.2)))
  else (Option.bind (pX1_plannedDayOf (r2.2) oc ow os a1 (r2.1)) fun (r3 : Int32 × Ob) =>
  some ((r3.1), (r3.2))))
set_option maxHeartbeats 4000000 in
set_option maxRecDepth 100000 in
theorem c_X10_plan {q : Nat → Nat} (oz : Ob) (od : Ob) (ot : Ob) (oc : Ob) (ow : Ob) (os : Ob) (oe : Ob) (of : Ob) (oh : Ob) (ob : Ob) (oi : Ob) (oj : Ob) (op : Ob) (oq : Ob) (a1 : Int32) : zCi l D tA yX10_plan cX10_plan 3 .int rmX10_plan [.ref (q 0), .int a1] (WH tA q oz od ot oc ow os oe of oh ob oi oj op oq) (fun (r : Int32 × Ob) => (r.1)) (fun (r : Int32 × Ob) => (WH tA q oz od ot oc ow os (r.2) of oh ob oi oj op oq)) (pX10_plan oz od ot oc ow os oe of oh ob oi oj op oq a1) := by
  refine zCi_of (lv0 := [some (.ref (q 0)), some (.int a1), none]) (by decide +kernel) (Nat.le_of_ble_eq_true rfl) rfl (fun X out F hr => ?_)
  unfold pX10_plan
  refine y_aload_n (pc := 0) F dX10_plan_0 rfl ?_
  refine y_get (pc := 1) F dX10_plan_1 kF_X10_28 0 WH_at0 rfl ?_
  refine y_get (pc := 4) F dX10_plan_4 kF_X10_111 6 WH_at6 rfl ?_
  refine y_iload_n (pc := 7) F dX10_plan_7 rfl ?_
  refine y_calliR (As := [.int a1]) (st := []) (q0 := 7) (pc := 8) F (c_X2_hasWitness (q := zq q [7, 8, 9, 10, 11, 12, 13]) oc a1) dX10_plan_8 kM_X10_178 ⟨rfl, rfl⟩ ⟨Nat.le_of_ble_eq_true rfl, Nat.le_of_ble_eq_true rfl⟩ rfl rfl rfl (Nat.le_of_ble_eq_true rfl) rfl rfl WH_at7 [7, 8, 9, 10, 11, 12, 13] zn22_c zn22_n (fun r1 => ?_)
  refine y_if_ne (pc := 11) (tgt := 17) F dX10_plan_11 rfl ?_ ?_
  · refine y_ldc (pc := 14) F dX10_plan_14 kC_X10_158 ?_
    exact y_iret hr dX10_plan_16 rfl rfl
  · refine y_aload_n (pc := 17) F dX10_plan_17 rfl ?_
    refine y_get (pc := 18) F dX10_plan_18 kF_X10_37 0 WH_at0 rfl ?_
    refine y_aload_n (pc := 21) F dX10_plan_21 rfl ?_
    refine y_get (pc := 22) F dX10_plan_22 kF_X10_28 0 WH_at0 rfl ?_
    refine y_get (pc := 25) F dX10_plan_25 kF_X10_111 6 WH_at6 rfl ?_
    refine y_get (pc := 28) F dX10_plan_28 kF_X10_181 7 WH_at7 rfl ?_
    refine y_iload_n (pc := 31) F dX10_plan_31 rfl ?_
    refine y_iald (pc := 32) F dX10_plan_32 11 WH_at11 ?_
    refine y_calli (As := [.int (ga oc 5 (a1.toNatClampNeg))]) (st := []) (q0 := 33) (wf := fun (r2 : Int32 × Ob) => (WH tA q oz od ot oc ow os (r2.2) of oh ob oi oj op oq)) (pc := 33) F (c_X1_soonestOf (q := zq q [33, 34, 35, 36, 37, 38, 39, 40, 41, 42, 43, 44, 45, 46, 6, 7, 8, 9, 10, 11, 12, 13, 14, 15, 16, 17, 18, 19, 20, 21, 22, 23, 24, 25, 26, 27, 28, 29, 30, 31, 32]) oe oc ow os (ga oc 5 (a1.toNatClampNeg))) dX10_plan_33 kM_X10_231 ⟨rfl, rfl⟩ ⟨Nat.le_of_ble_eq_true rfl, Nat.le_of_ble_eq_true rfl⟩ rfl rfl rfl (Nat.le_of_ble_eq_true rfl) rfl rfl WH_at33 [33, 34, 35, 36, 37, 38, 39, 40, 41, 42, 43, 44, 45, 46, 6, 7, 8, 9, 10, 11, 12, 13, 14, 15, 16, 17, 18, 19, 20, 21, 22, 23, 24, 25, 26, 27, 28, 29, 30, 31, 32] zn26_c zn26_n (fun _ => rfl) (fun (r2 : Int32 × Ob) => zn26_p (r2.2)) (fun r2 => ?_)
    refine y_istore_n (lv' := [some (.ref (q 0)), some (.int a1), some (.int (r2.1))]) (pc := 36) F dX10_plan_36 (Nat.le_of_ble_eq_true rfl) rfl rfl ?_
    refine y_iload_n (pc := 37) F dX10_plan_37 rfl ?_
    refine y_iconst (v := -1) (pc := 38) F dX10_plan_38 rfl ?_
    refine y_icmp_ne (pc := 39) (tgt := 46) F dX10_plan_39 rfl ?_ ?_
    · refine y_iconst (v := -1) (pc := 42) F dX10_plan_42 rfl ?_
      refine y_goto (tgt := 55) (pc := 43) F dX10_plan_43 rfl ?_
      exact y_iret hr dX10_plan_55 rfl rfl
    · refine y_aload_n (pc := 46) F dX10_plan_46 rfl ?_
      refine y_get (pc := 47) F dX10_plan_47 kF_X10_37 0 WH_at0 rfl ?_
      refine y_iload_n (pc := 50) F dX10_plan_50 rfl ?_
      refine y_iload_n (pc := 51) F dX10_plan_51 rfl ?_
      refine y_calli (As := [.int a1, .int (r2.1)]) (st := []) (q0 := 33) (wf := fun (r3 : Int32 × Ob) => (WH tA q oz od ot oc ow os (r3.2) of oh ob oi oj op oq)) (pc := 52) F (c_X1_plannedDayOf (q := zq q [33, 34, 35, 36, 37, 38, 39, 40, 41, 42, 43, 44, 45, 46, 6, 7, 8, 9, 10, 11, 12, 13, 14, 15, 16, 17, 18, 19, 20, 21, 22, 23, 24, 25, 26, 27, 28, 29, 30, 31, 32]) (r2.2) oc ow os a1 (r2.1)) dX10_plan_52 kM_X10_234 ⟨rfl, rfl⟩ ⟨Nat.le_of_ble_eq_true rfl, Nat.le_of_ble_eq_true rfl⟩ rfl rfl rfl (Nat.le_of_ble_eq_true rfl) rfl rfl WH_at33 [33, 34, 35, 36, 37, 38, 39, 40, 41, 42, 43, 44, 45, 46, 6, 7, 8, 9, 10, 11, 12, 13, 14, 15, 16, 17, 18, 19, 20, 21, 22, 23, 24, 25, 26, 27, 28, 29, 30, 31, 32] zn26_c zn26_n (fun _ => rfl) (fun (r3 : Int32 × Ob) => zn26_p (r3.2)) (fun r3 => ?_)
      exact y_iret hr dX10_plan_55 rfl rfl
abbrev rmX10_cut : Room := { frames := 5, cells := 0, slots := 0, locals := 115 }
def pX10_cut (oz : Ob) (od : Ob) (ot : Ob) (oc : Ob) (ow : Ob) (os : Ob) (oe : Ob) (of : Ob) (oh : Ob) (ob : Ob) (oi : Ob) (oj : Ob) (op : Ob) (oq : Ob) (a1 : Int32) : Option (Int32 × Ob) :=
  Option.bind (pX2_hasSuit oc a1) fun (r1 : Int32) =>
  if r1 = 0 then (some ((-1000000001 : Int32), oe))
  else (Option.bind (pX9_goesOn oc ow os a1) fun (r2 : Int32) =>
  if r2 = 0 then (some ((-1000000003 : Int32), oe))
  else (Option.bind (pX1_fewestToStrike oe oc ow os a1) fun (r3 : Int32 × Ob) =>
  some ((r3.1), (r3.2))))
set_option maxHeartbeats 4000000 in
set_option maxRecDepth 100000 in
theorem c_X10_cut {q : Nat → Nat} (oz : Ob) (od : Ob) (ot : Ob) (oc : Ob) (ow : Ob) (os : Ob) (oe : Ob) (of : Ob) (oh : Ob) (ob : Ob) (oi : Ob) (oj : Ob) (op : Ob) (oq : Ob) (a1 : Int32) : zCi l D tA yX10_cut cX10_cut 2 .int rmX10_cut [.ref (q 0), .int a1] (WH tA q oz od ot oc ow os oe of oh ob oi oj op oq) (fun (r : Int32 × Ob) => (r.1)) (fun (r : Int32 × Ob) => (WH tA q oz od ot oc ow os (r.2) of oh ob oi oj op oq)) (pX10_cut oz od ot oc ow os oe of oh ob oi oj op oq a1) := by
  refine zCi_of (lv0 := [some (.ref (q 0)), some (.int a1)]) (by decide +kernel) (Nat.le_of_ble_eq_true rfl) rfl (fun X out F hr => ?_)
  unfold pX10_cut
  refine y_aload_n (pc := 0) F dX10_cut_0 rfl ?_
  refine y_get (pc := 1) F dX10_cut_1 kF_X10_28 0 WH_at0 rfl ?_
  refine y_get (pc := 4) F dX10_cut_4 kF_X10_111 6 WH_at6 rfl ?_
  refine y_iload_n (pc := 7) F dX10_cut_7 rfl ?_
  refine y_calliR (As := [.int a1]) (st := []) (q0 := 7) (pc := 8) F (c_X2_hasSuit (q := zq q [7, 8, 9, 10, 11, 12, 13]) oc a1) dX10_cut_8 kM_X10_154 ⟨rfl, rfl⟩ ⟨Nat.le_of_ble_eq_true rfl, Nat.le_of_ble_eq_true rfl⟩ rfl rfl rfl (Nat.le_of_ble_eq_true rfl) rfl rfl WH_at7 [7, 8, 9, 10, 11, 12, 13] zn22_c zn22_n (fun r1 => ?_)
  refine y_if_ne (pc := 11) (tgt := 17) F dX10_cut_11 rfl ?_ ?_
  · refine y_ldc (pc := 14) F dX10_cut_14 kC_X10_158 ?_
    exact y_iret hr dX10_cut_16 rfl rfl
  · refine y_aload_n (pc := 17) F dX10_cut_17 rfl ?_
    refine y_get (pc := 18) F dX10_cut_18 kF_X10_28 0 WH_at0 rfl ?_
    refine y_iload_n (pc := 21) F dX10_cut_21 rfl ?_
    refine y_calliR (As := [.int a1]) (st := []) (q0 := 6) (pc := 22) F (c_X9_goesOn (q := zq q [6, 7, 8, 9, 10, 11, 12, 13, 14, 15, 16, 17, 18, 19, 20, 21, 22, 23, 24, 25, 26, 27, 28, 29, 30, 31, 32]) oc ow os a1) dX10_cut_22 kM_X10_225 ⟨rfl, rfl⟩ ⟨Nat.le_of_ble_eq_true rfl, Nat.le_of_ble_eq_true rfl⟩ rfl rfl rfl (Nat.le_of_ble_eq_true rfl) rfl rfl WH_at6 [6, 7, 8, 9, 10, 11, 12, 13, 14, 15, 16, 17, 18, 19, 20, 21, 22, 23, 24, 25, 26, 27, 28, 29, 30, 31, 32] zn23_c zn23_n (fun r2 => ?_)
    refine y_if_ne (pc := 25) (tgt := 31) F dX10_cut_25 rfl ?_ ?_
    · refine y_ldc (pc := 28) F dX10_cut_28 kC_X10_127 ?_
      exact y_iret hr dX10_cut_30 rfl rfl
    · refine y_aload_n (pc := 31) F dX10_cut_31 rfl ?_
      refine y_get (pc := 32) F dX10_cut_32 kF_X10_37 0 WH_at0 rfl ?_
      refine y_iload_n (pc := 35) F dX10_cut_35 rfl ?_
      refine y_calli (As := [.int a1]) (st := []) (q0 := 33) (wf := fun (r3 : Int32 × Ob) => (WH tA q oz od ot oc ow os (r3.2) of oh ob oi oj op oq)) (pc := 36) F (c_X1_fewestToStrike (q := zq q [33, 34, 35, 36, 37, 38, 39, 40, 41, 42, 43, 44, 45, 46, 6, 7, 8, 9, 10, 11, 12, 13, 14, 15, 16, 17, 18, 19, 20, 21, 22, 23, 24, 25, 26, 27, 28, 29, 30, 31, 32]) oe oc ow os a1) dX10_cut_36 kM_X10_237 ⟨rfl, rfl⟩ ⟨Nat.le_of_ble_eq_true rfl, Nat.le_of_ble_eq_true rfl⟩ rfl rfl rfl (Nat.le_of_ble_eq_true rfl) rfl rfl WH_at33 [33, 34, 35, 36, 37, 38, 39, 40, 41, 42, 43, 44, 45, 46, 6, 7, 8, 9, 10, 11, 12, 13, 14, 15, 16, 17, 18, 19, 20, 21, 22, 23, 24, 25, 26, 27, 28, 29, 30, 31, 32] zn26_c zn26_n (fun _ => rfl) (fun (r3 : Int32 × Ob) => zn26_p (r3.2)) (fun r3 => ?_)
      exact y_iret hr dX10_cut_39 rfl rfl
abbrev rmX10_turns : Room := { frames := 23, cells := 0, slots := 0, locals := 1098 }
def pX10_turns (oz : Ob) (od : Ob) (ot : Ob) (oc : Ob) (ow : Ob) (os : Ob) (oe : Ob) (of : Ob) (oh : Ob) (ob : Ob) (oi : Ob) (oj : Ob) (op : Ob) (oq : Ob) (a1 : Int32) (a2 : Int32) : Option (Int32 × Ob) :=
  Option.bind (pX2_hasSuit oc a1) fun (r1 : Int32) =>
  if r1 = 0 then (some ((-1000000001 : Int32), of))
  else (if a2 < 0 then (some ((-1000000002 : Int32), of))
  else (if a2 ≤ (1 : Int32) then (Option.bind (pX9_goesOn oc ow os a1) fun (r2 : Int32) =>
  if r2 = 0 then (some ((-1000000003 : Int32), of))
  else (Option.bind (pX3_prepare of oc ow os a1) fun (r3 : Ob) =>
  if a2 = 0 then (Option.bind (pX3_isWon r3 oc ow os) fun (r5 : Int32) =>
  Option.bind (pX10_oneIf r5) fun (r6 : Int32) =>
  some (r6, r3))
  else (Option.bind (pX3_bestCall r3 oc ow os) fun (r4 : Int32) =>
  some (r4, r3))))
  else (some ((-1000000002 : Int32), of))))
set_option maxHeartbeats 4000000 in
set_option maxRecDepth 100000 in
theorem c_X10_turns {q : Nat → Nat} (oz : Ob) (od : Ob) (ot : Ob) (oc : Ob) (ow : Ob) (os : Ob) (oe : Ob) (of : Ob) (oh : Ob) (ob : Ob) (oi : Ob) (oj : Ob) (op : Ob) (oq : Ob) (a1 : Int32) (a2 : Int32) : zCi l D tA yX10_turns cX10_turns 3 .int rmX10_turns [.ref (q 0), .int a1, .int a2] (WH tA q oz od ot oc ow os oe of oh ob oi oj op oq) (fun (r : Int32 × Ob) => (r.1)) (fun (r : Int32 × Ob) => (WH tA q oz od ot oc ow os oe (r.2) oh ob oi oj op oq)) (pX10_turns oz od ot oc ow os oe of oh ob oi oj op oq a1 a2) := by
  refine zCi_of (lv0 := [some (.ref (q 0)), some (.int a1), some (.int a2)]) (by decide +kernel) (Nat.le_of_ble_eq_true rfl) rfl (fun X out F hr => ?_)
  unfold pX10_turns
  refine y_aload_n (pc := 0) F dX10_turns_0 rfl ?_
  refine y_get (pc := 1) F dX10_turns_1 kF_X10_28 0 WH_at0 rfl ?_
  refine y_get (pc := 4) F dX10_turns_4 kF_X10_111 6 WH_at6 rfl ?_
  refine y_iload_n (pc := 7) F dX10_turns_7 rfl ?_
  refine y_calliR (As := [.int a1]) (st := []) (q0 := 7) (pc := 8) F (c_X2_hasSuit (q := zq q [7, 8, 9, 10, 11, 12, 13]) oc a1) dX10_turns_8 kM_X10_154 ⟨rfl, rfl⟩ ⟨Nat.le_of_ble_eq_true rfl, Nat.le_of_ble_eq_true rfl⟩ rfl rfl rfl (Nat.le_of_ble_eq_true rfl) rfl rfl WH_at7 [7, 8, 9, 10, 11, 12, 13] zn22_c zn22_n (fun r1 => ?_)
  refine y_if_ne (pc := 11) (tgt := 17) F dX10_turns_11 rfl ?_ ?_
  · refine y_ldc (pc := 14) F dX10_turns_14 kC_X10_158 ?_
    exact y_iret hr dX10_turns_16 rfl rfl
  · refine y_iload_n (pc := 17) F dX10_turns_17 rfl ?_
    refine y_if_lt (pc := 18) (tgt := 26) F dX10_turns_18 rfl ?_ ?_
    · refine y_ldc (pc := 26) F dX10_turns_26 kC_X10_91 ?_
      exact y_iret hr dX10_turns_28 rfl rfl
    · refine y_iload_n (pc := 21) F dX10_turns_21 rfl ?_
      refine y_iconst (v := 1) (pc := 22) F dX10_turns_22 rfl ?_
      refine y_icmp_le (pc := 23) (tgt := 29) F dX10_turns_23 rfl ?_ ?_
      · refine y_aload_n (pc := 29) F dX10_turns_29 rfl ?_
        refine y_get (pc := 30) F dX10_turns_30 kF_X10_28 0 WH_at0 rfl ?_
        refine y_iload_n (pc := 33) F dX10_turns_33 rfl ?_
        refine y_calliR (As := [.int a1]) (st := []) (q0 := 6) (pc := 34) F (c_X9_goesOn (q := zq q [6, 7, 8, 9, 10, 11, 12, 13, 14, 15, 16, 17, 18, 19, 20, 21, 22, 23, 24, 25, 26, 27, 28, 29, 30, 31, 32]) oc ow os a1) dX10_turns_34 kM_X10_225 ⟨rfl, rfl⟩ ⟨Nat.le_of_ble_eq_true rfl, Nat.le_of_ble_eq_true rfl⟩ rfl rfl rfl (Nat.le_of_ble_eq_true rfl) rfl rfl WH_at6 [6, 7, 8, 9, 10, 11, 12, 13, 14, 15, 16, 17, 18, 19, 20, 21, 22, 23, 24, 25, 26, 27, 28, 29, 30, 31, 32] zn23_c zn23_n (fun r2 => ?_)
        refine y_if_ne (pc := 37) (tgt := 43) F dX10_turns_37 rfl ?_ ?_
        · refine y_ldc (pc := 40) F dX10_turns_40 kC_X10_127 ?_
          exact y_iret hr dX10_turns_42 rfl rfl
        · refine y_aload_n (pc := 43) F dX10_turns_43 rfl ?_
          refine y_get (pc := 44) F dX10_turns_44 kF_X10_44 0 WH_at0 rfl ?_
          refine y_iload_n (pc := 47) F dX10_turns_47 rfl ?_
          refine y_callv (As := [.int a1]) (st := []) (q0 := 47) (wf := fun (r3 : Ob) => (WH tA q oz od ot oc ow os oe r3 oh ob oi oj op oq)) (pc := 48) F (c_X3_prepare (q := zq q [47, 48, 6, 7, 8, 9, 10, 11, 12, 13, 14, 15, 16, 17, 18, 19, 20, 21, 22, 23, 24, 25, 26, 27, 28, 29, 30, 31, 32]) of oc ow os a1) dX10_turns_48 kM_X10_240 ⟨rfl, rfl⟩ ⟨Nat.le_of_ble_eq_true rfl, Nat.le_of_ble_eq_true rfl⟩ rfl rfl rfl (Nat.le_of_ble_eq_true rfl) rfl rfl WH_at47 [47, 48, 6, 7, 8, 9, 10, 11, 12, 13, 14, 15, 16, 17, 18, 19, 20, 21, 22, 23, 24, 25, 26, 27, 28, 29, 30, 31, 32] zn27_c zn27_n (fun _ => rfl) (fun (r3 : Ob) => zn27_p r3) (fun r3 => ?_)
          refine y_iload_n (pc := 51) F dX10_turns_51 rfl ?_
          refine y_if_ne (pc := 52) (tgt := 68) F dX10_turns_52 rfl ?_ ?_
          · refine y_aload_n (pc := 55) F dX10_turns_55 rfl ?_
            refine y_get (pc := 56) F dX10_turns_56 kF_X10_44 0 WH_at0 rfl ?_
            refine y_calliR (As := []) (st := []) (q0 := 47) (pc := 59) F (c_X3_isWon (q := zq q [47, 48, 6, 7, 8, 9, 10, 11, 12, 13, 14, 15, 16, 17, 18, 19, 20, 21, 22, 23, 24, 25, 26, 27, 28, 29, 30, 31, 32]) r3 oc ow os) dX10_turns_59 kM_X10_244 ⟨rfl, rfl⟩ ⟨Nat.le_of_ble_eq_true rfl, Nat.le_of_ble_eq_true rfl⟩ rfl rfl rfl (Nat.le_of_ble_eq_true rfl) rfl rfl WH_at47 [47, 48, 6, 7, 8, 9, 10, 11, 12, 13, 14, 15, 16, 17, 18, 19, 20, 21, 22, 23, 24, 25, 26, 27, 28, 29, 30, 31, 32] zn28_c zn28_n (fun r5 => ?_)
            refine y_scalliP (As := [.int r5]) (st := []) (pc := 62) F (c_X10_oneIf (q := q) r5) dX10_turns_62 kM_X10_206 ⟨rfl, rfl⟩ ⟨Nat.le_of_ble_eq_true rfl, Nat.le_of_ble_eq_true rfl⟩ rfl rfl rfl (Nat.le_of_ble_eq_true rfl) (fun r6 => ?_)
            refine y_goto (tgt := 75) (pc := 65) F dX10_turns_65 rfl ?_
            exact y_iret hr dX10_turns_75 rfl rfl
          · refine y_aload_n (pc := 68) F dX10_turns_68 rfl ?_
            refine y_get (pc := 69) F dX10_turns_69 kF_X10_44 0 WH_at0 rfl ?_
            refine y_calliR (As := []) (st := []) (q0 := 47) (pc := 72) F (c_X3_bestCall (q := zq q [47, 48, 6, 7, 8, 9, 10, 11, 12, 13, 14, 15, 16, 17, 18, 19, 20, 21, 22, 23, 24, 25, 26, 27, 28, 29, 30, 31, 32]) r3 oc ow os) dX10_turns_72 kM_X10_248 ⟨rfl, rfl⟩ ⟨Nat.le_of_ble_eq_true rfl, Nat.le_of_ble_eq_true rfl⟩ rfl rfl rfl (Nat.le_of_ble_eq_true rfl) rfl rfl WH_at47 [47, 48, 6, 7, 8, 9, 10, 11, 12, 13, 14, 15, 16, 17, 18, 19, 20, 21, 22, 23, 24, 25, 26, 27, 28, 29, 30, 31, 32] zn28_c zn28_n (fun r4 => ?_)
            exact y_iret hr dX10_turns_75 rfl rfl
      · refine y_ldc (pc := 26) F dX10_turns_26 kC_X10_91 ?_
        exact y_iret hr dX10_turns_28 rfl rfl
abbrev rmX10_many : Room := { frames := 5, cells := 0, slots := 0, locals := 117 }
def pX10_many (oz : Ob) (od : Ob) (ot : Ob) (oc : Ob) (ow : Ob) (os : Ob) (oe : Ob) (of : Ob) (oh : Ob) (ob : Ob) (oi : Ob) (oj : Ob) (op : Ob) (oq : Ob) (a1 : Int32) : Option (Int32 × Ob) :=
  if a1 < 0 then (some ((-1000000002 : Int32), oh))
  else (if a1 ≤ (1 : Int32) then (Option.bind (pX8_winnableTogether oh oc ow os) fun (r1 : Int32 × Ob) =>
  if a1 = 0 then (Option.bind (pJ6_bitCount_0f7a4 (r1.1)) fun (r2 : Int32) =>
  some (r2, (r1.2)))
  else (some ((r1.1), (r1.2))))
  else (some ((-1000000002 : Int32), oh)))
set_option maxHeartbeats 4000000 in
set_option maxRecDepth 100000 in
theorem c_X10_many {q : Nat → Nat} (oz : Ob) (od : Ob) (ot : Ob) (oc : Ob) (ow : Ob) (os : Ob) (oe : Ob) (of : Ob) (oh : Ob) (ob : Ob) (oi : Ob) (oj : Ob) (op : Ob) (oq : Ob) (a1 : Int32) : zCi l D tA yX10_many cX10_many 3 .int rmX10_many [.ref (q 0), .int a1] (WH tA q oz od ot oc ow os oe of oh ob oi oj op oq) (fun (r : Int32 × Ob) => (r.1)) (fun (r : Int32 × Ob) => (WH tA q oz od ot oc ow os oe of (r.2) ob oi oj op oq)) (pX10_many oz od ot oc ow os oe of oh ob oi oj op oq a1) := by
  refine zCi_of (lv0 := [some (.ref (q 0)), some (.int a1), none]) (by decide +kernel) (Nat.le_of_ble_eq_true rfl) rfl (fun X out F hr => ?_)
  unfold pX10_many
  refine y_iload_n (pc := 0) F dX10_many_0 rfl ?_
  refine y_if_lt (pc := 1) (tgt := 9) F dX10_many_1 rfl ?_ ?_
  · refine y_ldc (pc := 9) F dX10_many_9 kC_X10_91 ?_
    exact y_iret hr dX10_many_11 rfl rfl
  · refine y_iload_n (pc := 4) F dX10_many_4 rfl ?_
    refine y_iconst (v := 1) (pc := 5) F dX10_many_5 rfl ?_
    refine y_icmp_le (pc := 6) (tgt := 12) F dX10_many_6 rfl ?_ ?_
    · refine y_aload_n (pc := 12) F dX10_many_12 rfl ?_
      refine y_get (pc := 13) F dX10_many_13 kF_X10_51 0 WH_at0 rfl ?_
      refine y_calli (As := []) (st := []) (q0 := 49) (wf := fun (r1 : Int32 × Ob) => (WH tA q oz od ot oc ow os oe of (r1.2) ob oi oj op oq)) (pc := 16) F (c_X8_winnableTogether (q := zq q [49, 50, 6, 7, 8, 9, 10, 11, 12, 13, 14, 15, 16, 17, 18, 19, 20, 21, 22, 23, 24, 25, 26, 27, 28, 29, 30, 31, 32]) oh oc ow os) dX10_many_16 kM_X10_252 ⟨rfl, rfl⟩ ⟨Nat.le_of_ble_eq_true rfl, Nat.le_of_ble_eq_true rfl⟩ rfl rfl rfl (Nat.le_of_ble_eq_true rfl) rfl rfl WH_at49 [49, 50, 6, 7, 8, 9, 10, 11, 12, 13, 14, 15, 16, 17, 18, 19, 20, 21, 22, 23, 24, 25, 26, 27, 28, 29, 30, 31, 32] zn29_c zn29_n (fun _ => rfl) (fun (r1 : Int32 × Ob) => zn29_p (r1.2)) (fun r1 => ?_)
      refine y_istore_n (lv' := [some (.ref (q 0)), some (.int a1), some (.int (r1.1))]) (pc := 19) F dX10_many_19 (Nat.le_of_ble_eq_true rfl) rfl rfl ?_
      refine y_iload_n (pc := 20) F dX10_many_20 rfl ?_
      refine y_if_ne (pc := 21) (tgt := 31) F dX10_many_21 rfl ?_ ?_
      · refine y_iload_n (pc := 24) F dX10_many_24 rfl ?_
        refine y_scalliP (As := [.int (r1.1)]) (st := []) (pc := 25) F (c_J6_bitCount_0f7a4 (q := q) (r1.1)) dX10_many_25 kM_X10_255 ⟨rfl, rfl⟩ ⟨Nat.le_of_ble_eq_true rfl, Nat.le_of_ble_eq_true rfl⟩ rfl rfl rfl (Nat.le_of_ble_eq_true rfl) (fun r2 => ?_)
        refine y_goto (tgt := 32) (pc := 28) F dX10_many_28 rfl ?_
        exact y_iret hr dX10_many_32 rfl rfl
      · refine y_iload_n (pc := 31) F dX10_many_31 rfl ?_
        exact y_iret hr dX10_many_32 rfl rfl
    · refine y_ldc (pc := 9) F dX10_many_9 kC_X10_91 ?_
      exact y_iret hr dX10_many_11 rfl rfl
abbrev rmX10_write : Room := { frames := 1, cells := 0, slots := 0, locals := 22 }
def pX10_write (oz : Ob) (od : Ob) (ot : Ob) (oc : Ob) (ow : Ob) (os : Ob) (oe : Ob) (of : Ob) (oh : Ob) (ob : Ob) (oi : Ob) (oj : Ob) (op : Ob) (oq : Ob) (a1 : Int32) (a2 : Int32) : Option (Int32 × Ob) :=
  Option.bind (pX2_hasSuit oc a1) fun (r1 : Int32) =>
  if r1 = 0 then (some ((-1000000001 : Int32), ob))
  else (if a2 < 0 then (some ((-1000000002 : Int32), ob))
  else (if a2 ≤ (99999 : Int32) then (zgd a1 6 <| if (ga ob 0 (a1.toNatClampNeg)) < (60 : Int32) then (Option.bind (pX0_append ob a1 a2) fun (r2 : Int32 × Ob) =>
  some ((r2.1), (r2.2)))
  else (some ((-1000000004 : Int32), ob)))
  else (some ((-1000000002 : Int32), ob))))
set_option maxHeartbeats 4000000 in
set_option maxRecDepth 100000 in
theorem c_X10_write {q : Nat → Nat} (oz : Ob) (od : Ob) (ot : Ob) (oc : Ob) (ow : Ob) (os : Ob) (oe : Ob) (of : Ob) (oh : Ob) (ob : Ob) (oi : Ob) (oj : Ob) (op : Ob) (oq : Ob) (a1 : Int32) (a2 : Int32) : zCi l D tA yX10_write cX10_write 3 .int rmX10_write [.ref (q 0), .int a1, .int a2] (WH tA q oz od ot oc ow os oe of oh ob oi oj op oq) (fun (r : Int32 × Ob) => (r.1)) (fun (r : Int32 × Ob) => (WH tA q oz od ot oc ow os oe of oh (r.2) oi oj op oq)) (pX10_write oz od ot oc ow os oe of oh ob oi oj op oq a1 a2) := by
  refine zCi_of (lv0 := [some (.ref (q 0)), some (.int a1), some (.int a2)]) (by decide +kernel) (Nat.le_of_ble_eq_true rfl) rfl (fun X out F hr => ?_)
  unfold pX10_write
  refine y_aload_n (pc := 0) F dX10_write_0 rfl ?_
  refine y_get (pc := 1) F dX10_write_1 kF_X10_28 0 WH_at0 rfl ?_
  refine y_get (pc := 4) F dX10_write_4 kF_X10_111 6 WH_at6 rfl ?_
  refine y_iload_n (pc := 7) F dX10_write_7 rfl ?_
  refine y_calliR (As := [.int a1]) (st := []) (q0 := 7) (pc := 8) F (c_X2_hasSuit (q := zq q [7, 8, 9, 10, 11, 12, 13]) oc a1) dX10_write_8 kM_X10_154 ⟨rfl, rfl⟩ ⟨Nat.le_of_ble_eq_true rfl, Nat.le_of_ble_eq_true rfl⟩ rfl rfl rfl (Nat.le_of_ble_eq_true rfl) rfl rfl WH_at7 [7, 8, 9, 10, 11, 12, 13] zn22_c zn22_n (fun r1 => ?_)
  refine y_if_ne (pc := 11) (tgt := 17) F dX10_write_11 rfl ?_ ?_
  · refine y_ldc (pc := 14) F dX10_write_14 kC_X10_158 ?_
    exact y_iret hr dX10_write_16 rfl rfl
  · refine y_iload_n (pc := 17) F dX10_write_17 rfl ?_
    refine y_if_lt (pc := 18) (tgt := 28) F dX10_write_18 rfl ?_ ?_
    · refine y_ldc (pc := 28) F dX10_write_28 kC_X10_91 ?_
      exact y_iret hr dX10_write_30 rfl rfl
    · refine y_iload_n (pc := 21) F dX10_write_21 rfl ?_
      refine y_ldcw (pc := 22) F dX10_write_22 kC_X10_260 ?_
      refine y_icmp_le (pc := 25) (tgt := 31) F dX10_write_25 rfl ?_ ?_
      · refine y_aload_n (pc := 31) F dX10_write_31 rfl ?_
        refine y_get (pc := 32) F dX10_write_32 kF_X10_58 0 WH_at0 rfl ?_
        refine y_get (pc := 35) F dX10_write_35 kF_X10_261 51 WH_at51 rfl ?_
        refine y_iload_n (pc := 38) F dX10_write_38 rfl ?_
        refine y_iald (pc := 39) F dX10_write_39 52 WH_at52 ?_
        refine y_bipush (v := 60) (pc := 40) F dX10_write_40 rfl ?_
        refine y_icmp_lt (pc := 42) (tgt := 48) F dX10_write_42 rfl ?_ ?_
        · refine y_aload_n (pc := 48) F dX10_write_48 rfl ?_
          refine y_get (pc := 49) F dX10_write_49 kF_X10_58 0 WH_at0 rfl ?_
          refine y_iload_n (pc := 52) F dX10_write_52 rfl ?_
          refine y_iload_n (pc := 53) F dX10_write_53 rfl ?_
          refine y_calli (As := [.int a1, .int a2]) (st := []) (q0 := 51) (wf := fun (r2 : Int32 × Ob) => (WH tA q oz od ot oc ow os oe of oh (r2.2) oi oj op oq)) (pc := 54) F (c_X0_append (q := zq q [51, 52, 53, 54, 55, 56, 57, 58, 59]) ob a1 a2) dX10_write_54 kM_X10_264 ⟨rfl, rfl⟩ ⟨Nat.le_of_ble_eq_true rfl, Nat.le_of_ble_eq_true rfl⟩ rfl rfl rfl (Nat.le_of_ble_eq_true rfl) rfl rfl WH_at51 [51, 52, 53, 54, 55, 56, 57, 58, 59] zn19_c zn19_n (fun _ => rfl) (fun (r2 : Int32 × Ob) => zn19_p (r2.2)) (fun r2 => ?_)
          exact y_iret hr dX10_write_57 rfl rfl
        · refine y_ldc (pc := 45) F dX10_write_45 kC_X10_95 ?_
          exact y_iret hr dX10_write_47 rfl rfl
      · refine y_ldc (pc := 28) F dX10_write_28 kC_X10_91 ?_
        exact y_iret hr dX10_write_30 rfl rfl
abbrev rmX10_tear : Room := { frames := 1, cells := 0, slots := 0, locals := 21 }
def pX10_tear (oz : Ob) (od : Ob) (ot : Ob) (oc : Ob) (ow : Ob) (os : Ob) (oe : Ob) (of : Ob) (oh : Ob) (ob : Ob) (oi : Ob) (oj : Ob) (op : Ob) (oq : Ob) (a1 : Int32) : Option (Int32 × Ob) :=
  Option.bind (pX2_hasSuit oc a1) fun (r1 : Int32) =>
  if r1 = 0 then (some ((-1000000001 : Int32), ob))
  else (zgd a1 6 <| zlet ((ga ob 0 (a1.toNatClampNeg))) fun (x2 : Int32) =>
  zgd a1 6 <| zlet (sa ob 0 (upd (ga ob 0) (a1.toNatClampNeg) (0 : Int32))) fun (o3 : Ob) =>
  some (x2, o3))
set_option maxHeartbeats 4000000 in
set_option maxRecDepth 100000 in
theorem c_X10_tear {q : Nat → Nat} (oz : Ob) (od : Ob) (ot : Ob) (oc : Ob) (ow : Ob) (os : Ob) (oe : Ob) (of : Ob) (oh : Ob) (ob : Ob) (oi : Ob) (oj : Ob) (op : Ob) (oq : Ob) (a1 : Int32) : zCi l D tA yX10_tear cX10_tear 3 .int rmX10_tear [.ref (q 0), .int a1] (WH tA q oz od ot oc ow os oe of oh ob oi oj op oq) (fun (r : Int32 × Ob) => (r.1)) (fun (r : Int32 × Ob) => (WH tA q oz od ot oc ow os oe of oh (r.2) oi oj op oq)) (pX10_tear oz od ot oc ow os oe of oh ob oi oj op oq a1) := by
  refine zCi_of (lv0 := [some (.ref (q 0)), some (.int a1), none]) (by decide +kernel) (Nat.le_of_ble_eq_true rfl) rfl (fun X out F hr => ?_)
  unfold pX10_tear
  refine y_aload_n (pc := 0) F dX10_tear_0 rfl ?_
  refine y_get (pc := 1) F dX10_tear_1 kF_X10_28 0 WH_at0 rfl ?_
  refine y_get (pc := 4) F dX10_tear_4 kF_X10_111 6 WH_at6 rfl ?_
  refine y_iload_n (pc := 7) F dX10_tear_7 rfl ?_
  refine y_calliR (As := [.int a1]) (st := []) (q0 := 7) (pc := 8) F (c_X2_hasSuit (q := zq q [7, 8, 9, 10, 11, 12, 13]) oc a1) dX10_tear_8 kM_X10_154 ⟨rfl, rfl⟩ ⟨Nat.le_of_ble_eq_true rfl, Nat.le_of_ble_eq_true rfl⟩ rfl rfl rfl (Nat.le_of_ble_eq_true rfl) rfl rfl WH_at7 [7, 8, 9, 10, 11, 12, 13] zn22_c zn22_n (fun r1 => ?_)
  refine y_if_ne (pc := 11) (tgt := 17) F dX10_tear_11 rfl ?_ ?_
  · refine y_ldc (pc := 14) F dX10_tear_14 kC_X10_158 ?_
    exact y_iret hr dX10_tear_16 rfl rfl
  · refine y_aload_n (pc := 17) F dX10_tear_17 rfl ?_
    refine y_get (pc := 18) F dX10_tear_18 kF_X10_58 0 WH_at0 rfl ?_
    refine y_get (pc := 21) F dX10_tear_21 kF_X10_261 51 WH_at51 rfl ?_
    refine y_iload_n (pc := 24) F dX10_tear_24 rfl ?_
    refine y_iald (pc := 25) F dX10_tear_25 52 WH_at52 ?_
    refine y_lti (fun x2 => ?_)
    refine y_istore_n (lv' := [some (.ref (q 0)), some (.int a1), some (.int x2)]) (pc := 26) F dX10_tear_26 (Nat.le_of_ble_eq_true rfl) rfl rfl ?_
    refine y_aload_n (pc := 27) F dX10_tear_27 rfl ?_
    refine y_get (pc := 28) F dX10_tear_28 kF_X10_58 0 WH_at0 rfl ?_
    refine y_get (pc := 31) F dX10_tear_31 kF_X10_261 51 WH_at51 rfl ?_
    refine y_iload_n (pc := 34) F dX10_tear_34 rfl ?_
    refine y_iconst (v := 0) (pc := 35) F dX10_tear_35 rfl ?_
    refine y_iast (pc := 36) F dX10_tear_36 52 WH_at52 (fun (o3 : Ob) => (WH tA q oz od ot oc ow os oe of oh o3 oi oj op oq)) (WH_ar52 _) (fun o3 => ?_)
    refine y_iload_n (pc := 37) F dX10_tear_37 rfl ?_
    exact y_iret hr dX10_tear_38 rfl rfl
abbrev rmX10_judge : Room := { frames := 1, cells := 0, slots := 0, locals := 23 }
def pX10_judge (oz : Ob) (od : Ob) (ot : Ob) (oc : Ob) (ow : Ob) (os : Ob) (oe : Ob) (of : Ob) (oh : Ob) (ob : Ob) (oi : Ob) (oj : Ob) (op : Ob) (oq : Ob) (a1 : Int32) : Option Int32 :=
  Option.bind (pX2_hasSuit oc a1) fun (r1 : Int32) =>
  if r1 = 0 then (some (-1000000001 : Int32))
  else (Option.bind (pX0_firstWrong ob os a1) fun (r2 : Int32) =>
  some r2)
set_option maxHeartbeats 4000000 in
set_option maxRecDepth 100000 in
theorem c_X10_judge {q : Nat → Nat} (oz : Ob) (od : Ob) (ot : Ob) (oc : Ob) (ow : Ob) (os : Ob) (oe : Ob) (of : Ob) (oh : Ob) (ob : Ob) (oi : Ob) (oj : Ob) (op : Ob) (oq : Ob) (a1 : Int32) : zCi l D tA yX10_judge cX10_judge 2 .int rmX10_judge [.ref (q 0), .int a1] (WH tA q oz od ot oc ow os oe of oh ob oi oj op oq) (fun (r : Int32) => r) (fun (r : Int32) => (WH tA q oz od ot oc ow os oe of oh ob oi oj op oq)) (pX10_judge oz od ot oc ow os oe of oh ob oi oj op oq a1) := by
  refine zCi_of (lv0 := [some (.ref (q 0)), some (.int a1)]) (by decide +kernel) (Nat.le_of_ble_eq_true rfl) rfl (fun X out F hr => ?_)
  unfold pX10_judge
  refine y_aload_n (pc := 0) F dX10_judge_0 rfl ?_
  refine y_get (pc := 1) F dX10_judge_1 kF_X10_28 0 WH_at0 rfl ?_
  refine y_get (pc := 4) F dX10_judge_4 kF_X10_111 6 WH_at6 rfl ?_
  refine y_iload_n (pc := 7) F dX10_judge_7 rfl ?_
  refine y_calliR (As := [.int a1]) (st := []) (q0 := 7) (pc := 8) F (c_X2_hasSuit (q := zq q [7, 8, 9, 10, 11, 12, 13]) oc a1) dX10_judge_8 kM_X10_154 ⟨rfl, rfl⟩ ⟨Nat.le_of_ble_eq_true rfl, Nat.le_of_ble_eq_true rfl⟩ rfl rfl rfl (Nat.le_of_ble_eq_true rfl) rfl rfl WH_at7 [7, 8, 9, 10, 11, 12, 13] zn22_c zn22_n (fun r1 => ?_)
  refine y_if_ne (pc := 11) (tgt := 17) F dX10_judge_11 rfl ?_ ?_
  · refine y_ldc (pc := 14) F dX10_judge_14 kC_X10_158 ?_
    exact y_iret hr dX10_judge_16 rfl rfl
  · refine y_aload_n (pc := 17) F dX10_judge_17 rfl ?_
    refine y_get (pc := 18) F dX10_judge_18 kF_X10_58 0 WH_at0 rfl ?_
    refine y_iload_n (pc := 21) F dX10_judge_21 rfl ?_
    refine y_aload_n (pc := 22) F dX10_judge_22 rfl ?_
    refine y_get (pc := 23) F dX10_judge_23 kF_X10_28 0 WH_at0 rfl ?_
    refine y_get (pc := 26) F dX10_judge_26 kF_X10_114 6 WH_at6 rfl ?_
    refine y_calliR (As := [.int a1, .ref (q 19)]) (st := []) (q0 := 51) (pc := 29) F (c_X0_firstWrong (q := zq q [51, 52, 53, 54, 55, 56, 57, 58, 59, 19, 20, 21, 22, 23, 24, 25, 26, 27, 28, 29, 30, 31, 32]) ob os a1) dX10_judge_29 kM_X10_266 ⟨rfl, rfl⟩ ⟨Nat.le_of_ble_eq_true rfl, Nat.le_of_ble_eq_true rfl⟩ rfl rfl rfl (Nat.le_of_ble_eq_true rfl) rfl rfl WH_at51 [51, 52, 53, 54, 55, 56, 57, 58, 59, 19, 20, 21, 22, 23, 24, 25, 26, 27, 28, 29, 30, 31, 32] zn30_c zn30_n (fun r2 => ?_)
    exact y_iret hr dX10_judge_32 rfl rfl
abbrev rmX10_evening : Room := { frames := 1, cells := 0, slots := 0, locals := 21 }
def pX10_evening (oz : Ob) (od : Ob) (ot : Ob) (oc : Ob) (ow : Ob) (os : Ob) (oe : Ob) (of : Ob) (oh : Ob) (ob : Ob) (oi : Ob) (oj : Ob) (op : Ob) (oq : Ob) (a1 : Int32) (a2 : Int32) : Option Int32 :=
  Option.bind (pX2_hasSuit oc a1) fun (r1 : Int32) =>
  if r1 = 0 then (some (-1000000001 : Int32))
  else (if a2 < 0 then (some (-1000000002 : Int32))
  else (if a2 ≤ (399 : Int32) then (if (gi os 0) ≤ a2 then (some (-1 : Int32))
  else (zgd a1 6 <| zgd a2 400 <| some (ga os (20 + (a1.toNatClampNeg)) (a2.toNatClampNeg))))
  else (some (-1000000002 : Int32))))
set_option maxHeartbeats 4000000 in
set_option maxRecDepth 100000 in
theorem c_X10_evening {q : Nat → Nat} (oz : Ob) (od : Ob) (ot : Ob) (oc : Ob) (ow : Ob) (os : Ob) (oe : Ob) (of : Ob) (oh : Ob) (ob : Ob) (oi : Ob) (oj : Ob) (op : Ob) (oq : Ob) (a1 : Int32) (a2 : Int32) : zCi l D tA yX10_evening cX10_evening 3 .int rmX10_evening [.ref (q 0), .int a1, .int a2] (WH tA q oz od ot oc ow os oe of oh ob oi oj op oq) (fun (r : Int32) => r) (fun (r : Int32) => (WH tA q oz od ot oc ow os oe of oh ob oi oj op oq)) (pX10_evening oz od ot oc ow os oe of oh ob oi oj op oq a1 a2) := by
  refine zCi_of (lv0 := [some (.ref (q 0)), some (.int a1), some (.int a2)]) (by decide +kernel) (Nat.le_of_ble_eq_true rfl) rfl (fun X out F hr => ?_)
  unfold pX10_evening
  refine y_aload_n (pc := 0) F dX10_evening_0 rfl ?_
  refine y_get (pc := 1) F dX10_evening_1 kF_X10_28 0 WH_at0 rfl ?_
  refine y_get (pc := 4) F dX10_evening_4 kF_X10_111 6 WH_at6 rfl ?_
  refine y_iload_n (pc := 7) F dX10_evening_7 rfl ?_
  refine y_calliR (As := [.int a1]) (st := []) (q0 := 7) (pc := 8) F (c_X2_hasSuit (q := zq q [7, 8, 9, 10, 11, 12, 13]) oc a1) dX10_evening_8 kM_X10_154 ⟨rfl, rfl⟩ ⟨Nat.le_of_ble_eq_true rfl, Nat.le_of_ble_eq_true rfl⟩ rfl rfl rfl (Nat.le_of_ble_eq_true rfl) rfl rfl WH_at7 [7, 8, 9, 10, 11, 12, 13] zn22_c zn22_n (fun r1 => ?_)
  refine y_if_ne (pc := 11) (tgt := 17) F dX10_evening_11 rfl ?_ ?_
  · refine y_ldc (pc := 14) F dX10_evening_14 kC_X10_158 ?_
    exact y_iret hr dX10_evening_16 rfl rfl
  · refine y_iload_n (pc := 17) F dX10_evening_17 rfl ?_
    refine y_if_lt (pc := 18) (tgt := 28) F dX10_evening_18 rfl ?_ ?_
    · refine y_ldc (pc := 28) F dX10_evening_28 kC_X10_91 ?_
      exact y_iret hr dX10_evening_30 rfl rfl
    · refine y_iload_n (pc := 21) F dX10_evening_21 rfl ?_
      refine y_sipush (v := 399) (pc := 22) F dX10_evening_22 rfl ?_
      refine y_icmp_le (pc := 25) (tgt := 31) F dX10_evening_25 rfl ?_ ?_
      · refine y_iload_n (pc := 31) F dX10_evening_31 rfl ?_
        refine y_aload_n (pc := 32) F dX10_evening_32 rfl ?_
        refine y_get (pc := 33) F dX10_evening_33 kF_X10_28 0 WH_at0 rfl ?_
        refine y_get (pc := 36) F dX10_evening_36 kF_X10_114 6 WH_at6 rfl ?_
        refine y_get (pc := 39) F dX10_evening_39 kF_X10_135 19 WH_at19 rfl ?_
        refine y_icmp_ge (pc := 42) (tgt := 62) F dX10_evening_42 rfl ?_ ?_
        · refine y_iconst (v := -1) (pc := 62) F dX10_evening_62 rfl ?_
          exact y_iret hr dX10_evening_63 rfl rfl
        · refine y_aload_n (pc := 45) F dX10_evening_45 rfl ?_
          refine y_get (pc := 46) F dX10_evening_46 kF_X10_28 0 WH_at0 rfl ?_
          refine y_get (pc := 49) F dX10_evening_49 kF_X10_114 6 WH_at6 rfl ?_
          refine y_get (pc := 52) F dX10_evening_52 kF_X10_270 19 WH_at19 rfl ?_
          refine y_iload_n (pc := 55) F dX10_evening_55 rfl ?_
          refine y_aaldr (pc := 56) F dX10_evening_56 26 5 WH_at26 rfl rfl (fun h2 => ?_)
          refine y_iload_n (pc := 57) F dX10_evening_57 rfl ?_
          refine y_iald (pc := 58) F dX10_evening_58 (27 + (a1.toNatClampNeg)) (WH_row26 _ h2) ?_
          refine y_goto (tgt := 63) (pc := 59) F dX10_evening_59 rfl ?_
          exact y_iret hr dX10_evening_63 rfl rfl
      · refine y_ldc (pc := 28) F dX10_evening_28 kC_X10_91 ?_
        exact y_iret hr dX10_evening_30 rfl rfl
abbrev rmX10_seed : Room := { frames := 0, cells := 0, slots := 0, locals := 0 }
def pX10_seed (oz : Ob) (od : Ob) (ot : Ob) (oc : Ob) (ow : Ob) (os : Ob) (oe : Ob) (of : Ob) (oh : Ob) (ob : Ob) (oi : Ob) (oj : Ob) (op : Ob) (oq : Ob) (a1 : Int32) : Option (Int32 × Ob) :=
  if 0 ≤ a1 then (zlet ((gi os 2)) fun (x1 : Int32) =>
  zlet (si os 2 a1) fun (o2 : Ob) =>
  some (x1, o2))
  else (some ((-1000000002 : Int32), os))
set_option maxHeartbeats 4000000 in
set_option maxRecDepth 100000 in
theorem c_X10_seed {q : Nat → Nat} (oz : Ob) (od : Ob) (ot : Ob) (oc : Ob) (ow : Ob) (os : Ob) (oe : Ob) (of : Ob) (oh : Ob) (ob : Ob) (oi : Ob) (oj : Ob) (op : Ob) (oq : Ob) (a1 : Int32) : zCi l D tA yX10_seed cX10_seed 3 .int rmX10_seed [.ref (q 0), .int a1] (WH tA q oz od ot oc ow os oe of oh ob oi oj op oq) (fun (r : Int32 × Ob) => (r.1)) (fun (r : Int32 × Ob) => (WH tA q oz od ot oc ow (r.2) oe of oh ob oi oj op oq)) (pX10_seed oz od ot oc ow os oe of oh ob oi oj op oq a1) := by
  refine zCi_of (lv0 := [some (.ref (q 0)), some (.int a1), none]) (by decide +kernel) (Nat.le_of_ble_eq_true rfl) rfl (fun X out F hr => ?_)
  unfold pX10_seed
  refine y_iload_n (pc := 0) F dX10_seed_0 rfl ?_
  refine y_if_ge (pc := 1) (tgt := 7) F dX10_seed_1 rfl ?_ ?_
  · refine y_aload_n (pc := 7) F dX10_seed_7 rfl ?_
    refine y_get (pc := 8) F dX10_seed_8 kF_X10_28 0 WH_at0 rfl ?_
    refine y_get (pc := 11) F dX10_seed_11 kF_X10_114 6 WH_at6 rfl ?_
    refine y_get (pc := 14) F dX10_seed_14 kF_X10_274 19 WH_at19 rfl ?_
    refine y_lti (fun x1 => ?_)
    refine y_istore_n (lv' := [some (.ref (q 0)), some (.int a1), some (.int x1)]) (pc := 17) F dX10_seed_17 (Nat.le_of_ble_eq_true rfl) rfl rfl ?_
    refine y_aload_n (pc := 18) F dX10_seed_18 rfl ?_
    refine y_get (pc := 19) F dX10_seed_19 kF_X10_28 0 WH_at0 rfl ?_
    refine y_get (pc := 22) F dX10_seed_22 kF_X10_114 6 WH_at6 rfl ?_
    refine y_iload_n (pc := 25) F dX10_seed_25 rfl ?_
    refine y_put (pc := 26) F dX10_seed_26 kF_X10_274 19 WH_at19 rfl rfl rfl (Nat.le_of_ble_eq_true rfl) (fun (o2 : Ob) => (WH tA q oz od ot oc ow o2 oe of oh ob oi oj op oq)) (WH_pt19_2 _) (fun o2 => ?_)
    refine y_iload_n (pc := 29) F dX10_seed_29 rfl ?_
    exact y_iret hr dX10_seed_30 rfl rfl
  · refine y_ldc (pc := 4) F dX10_seed_4 kC_X10_91 ?_
    exact y_iret hr dX10_seed_6 rfl rfl
abbrev rmX10_keep : Room := { frames := 2, cells := 0, slots := 0, locals := 82 }
def pX10_keep (oz : Ob) (od : Ob) (ot : Ob) (oc : Ob) (ow : Ob) (os : Ob) (oe : Ob) (of : Ob) (oh : Ob) (ob : Ob) (oi : Ob) (oj : Ob) (op : Ob) (oq : Ob) (a1 : Int32) : Option (Int32 × Ob × Ob × Ob) :=
  if a1 < 0 then (some ((-1000000001 : Int32), oz, oi, oj))
  else (if a1 < (2 : Int32) then (if a1 = 0 then (Option.bind (pX6_become oi os) fun (r1 : Ob) =>
  zgd a1 2 <| zlet (sa oz 8 (upd (ga oz 8) (a1.toNatClampNeg) (vp_nar .boolean (1 : Int32)))) fun (o2 : Ob) =>
  some ((1 : Int32), o2, r1, oj))
  else if a1 = 1 then (Option.bind (pX6_become oj os) fun (r3 : Ob) =>
  zgd a1 2 <| zlet (sa oz 8 (upd (ga oz 8) (a1.toNatClampNeg) (vp_nar .boolean (1 : Int32)))) fun (o4 : Ob) =>
  some ((1 : Int32), o4, oi, r3))
  else none)
  else (some ((-1000000001 : Int32), oz, oi, oj)))
set_option maxHeartbeats 4000000 in
set_option maxRecDepth 100000 in
theorem c_X10_keep {q : Nat → Nat} (oz : Ob) (od : Ob) (ot : Ob) (oc : Ob) (ow : Ob) (os : Ob) (oe : Ob) (of : Ob) (oh : Ob) (ob : Ob) (oi : Ob) (oj : Ob) (op : Ob) (oq : Ob) (a1 : Int32) : zCi l D tA yX10_keep cX10_keep 2 .int rmX10_keep [.ref (q 0), .int a1] (WH tA q oz od ot oc ow os oe of oh ob oi oj op oq) (fun (r : Int32 × Ob × Ob × Ob) => (r.1)) (fun (r : Int32 × Ob × Ob × Ob) => (WH tA q (r.2.1) od ot oc ow os oe of oh ob (r.2.2.1) (r.2.2.2) op oq)) (pX10_keep oz od ot oc ow os oe of oh ob oi oj op oq a1) := by
  refine zCi_of (lv0 := [some (.ref (q 0)), some (.int a1)]) (by decide +kernel) (Nat.le_of_ble_eq_true rfl) rfl (fun X out F hr => ?_)
  unfold pX10_keep
  refine y_iload_n (pc := 0) F dX10_keep_0 rfl ?_
  refine y_if_lt (pc := 1) (tgt := 9) F dX10_keep_1 rfl ?_ ?_
  · refine y_ldc (pc := 9) F dX10_keep_9 kC_X10_158 ?_
    exact y_iret hr dX10_keep_11 rfl rfl
  · refine y_iload_n (pc := 4) F dX10_keep_4 rfl ?_
    refine y_iconst (v := 2) (pc := 5) F dX10_keep_5 rfl ?_
    refine y_icmp_lt (pc := 6) (tgt := 12) F dX10_keep_6 rfl ?_ ?_
    · refine y_aload_n (pc := 12) F dX10_keep_12 rfl ?_
      refine y_get (pc := 13) F dX10_keep_13 kF_X10_64 0 WH_at0 rfl ?_
      refine y_iload_n (pc := 16) F dX10_keep_16 rfl ?_
      refine y_aald2 (pc := 17) F dX10_keep_17 2 WH_at2 ?_ ?_
      · refine y_aload_n (pc := 18) F dX10_keep_18 rfl ?_
        refine y_get (pc := 19) F dX10_keep_19 kF_X10_28 0 WH_at0 rfl ?_
        refine y_get (pc := 22) F dX10_keep_22 kF_X10_114 6 WH_at6 rfl ?_
        refine y_callv (As := [.ref (q 19)]) (st := []) (q0 := 60) (wf := fun (r1 : Ob) => (WH tA q oz od ot oc ow os oe of oh ob r1 oj op oq)) (pc := 25) F (c_X6_become (q := zq q [60, 61, 62, 63, 64, 65, 66, 67, 68, 69, 70, 71, 72, 73, 19, 20, 21, 22, 23, 24, 25, 26, 27, 28, 29, 30, 31, 32]) oi os) dX10_keep_25 kM_X10_277 ⟨rfl, rfl⟩ ⟨Nat.le_of_ble_eq_true rfl, Nat.le_of_ble_eq_true rfl⟩ rfl rfl rfl (Nat.le_of_ble_eq_true rfl) rfl rfl WH_at60 [60, 61, 62, 63, 64, 65, 66, 67, 68, 69, 70, 71, 72, 73, 19, 20, 21, 22, 23, 24, 25, 26, 27, 28, 29, 30, 31, 32] zn31_c zn31_n (fun _ => rfl) (fun (r1 : Ob) => zn31_p r1) (fun r1 => ?_)
        refine y_aload_n (pc := 28) F dX10_keep_28 rfl ?_
        refine y_get (pc := 29) F dX10_keep_29 kF_X10_69 0 WH_at0 rfl ?_
        refine y_iload_n (pc := 32) F dX10_keep_32 rfl ?_
        refine y_iconst (v := 1) (pc := 33) F dX10_keep_33 rfl ?_
        refine y_zast (pc := 34) F dX10_keep_34 1 WH_at1 (fun (o2 : Ob) => (WH tA q o2 od ot oc ow os oe of oh ob r1 oj op oq)) (WH_ar1 _) (fun o2 => ?_)
        refine y_iconst (v := 1) (pc := 35) F dX10_keep_35 rfl ?_
        exact y_iret hr dX10_keep_36 rfl rfl
      · refine y_aload_n (pc := 18) F dX10_keep_18 rfl ?_
        refine y_get (pc := 19) F dX10_keep_19 kF_X10_28 0 WH_at0 rfl ?_
        refine y_get (pc := 22) F dX10_keep_22 kF_X10_114 6 WH_at6 rfl ?_
        refine y_callv (As := [.ref (q 19)]) (st := []) (q0 := 74) (wf := fun (r3 : Ob) => (WH tA q oz od ot oc ow os oe of oh ob oi r3 op oq)) (pc := 25) F (c_X6_become (q := zq q [74, 75, 76, 77, 78, 79, 80, 81, 82, 83, 84, 85, 86, 87, 19, 20, 21, 22, 23, 24, 25, 26, 27, 28, 29, 30, 31, 32]) oj os) dX10_keep_25 kM_X10_277 ⟨rfl, rfl⟩ ⟨Nat.le_of_ble_eq_true rfl, Nat.le_of_ble_eq_true rfl⟩ rfl rfl rfl (Nat.le_of_ble_eq_true rfl) rfl rfl WH_at74 [74, 75, 76, 77, 78, 79, 80, 81, 82, 83, 84, 85, 86, 87, 19, 20, 21, 22, 23, 24, 25, 26, 27, 28, 29, 30, 31, 32] zn32_c zn32_n (fun _ => rfl) (fun (r3 : Ob) => zn32_p r3) (fun r3 => ?_)
        refine y_aload_n (pc := 28) F dX10_keep_28 rfl ?_
        refine y_get (pc := 29) F dX10_keep_29 kF_X10_69 0 WH_at0 rfl ?_
        refine y_iload_n (pc := 32) F dX10_keep_32 rfl ?_
        refine y_iconst (v := 1) (pc := 33) F dX10_keep_33 rfl ?_
        refine y_zast (pc := 34) F dX10_keep_34 1 WH_at1 (fun (o4 : Ob) => (WH tA q o4 od ot oc ow os oe of oh ob oi r3 op oq)) (WH_ar1 _) (fun o4 => ?_)
        refine y_iconst (v := 1) (pc := 35) F dX10_keep_35 rfl ?_
        exact y_iret hr dX10_keep_36 rfl rfl
    · refine y_ldc (pc := 9) F dX10_keep_9 kC_X10_158 ?_
      exact y_iret hr dX10_keep_11 rfl rfl
abbrev rmX10_goBack : Room := { frames := 2, cells := 0, slots := 0, locals := 82 }
def pX10_goBack (oz : Ob) (od : Ob) (ot : Ob) (oc : Ob) (ow : Ob) (os : Ob) (oe : Ob) (of : Ob) (oh : Ob) (ob : Ob) (oi : Ob) (oj : Ob) (op : Ob) (oq : Ob) (a1 : Int32) : Option (Int32 × Ob) :=
  if a1 < 0 then (some ((-1000000001 : Int32), os))
  else (if a1 < (2 : Int32) then (zgd a1 2 <| if (ga oz 8 (a1.toNatClampNeg)) = 0 then (some ((-1000000003 : Int32), os))
  else (if a1 = 0 then (Option.bind (pX6_become os oi) fun (r1 : Ob) =>
  some ((1 : Int32), r1))
  else if a1 = 1 then (Option.bind (pX6_become os oj) fun (r2 : Ob) =>
  some ((1 : Int32), r2))
  else none))
  else (some ((-1000000001 : Int32), os)))
set_option maxHeartbeats 4000000 in
set_option maxRecDepth 100000 in
theorem c_X10_goBack {q : Nat → Nat} (oz : Ob) (od : Ob) (ot : Ob) (oc : Ob) (ow : Ob) (os : Ob) (oe : Ob) (of : Ob) (oh : Ob) (ob : Ob) (oi : Ob) (oj : Ob) (op : Ob) (oq : Ob) (a1 : Int32) : zCi l D tA yX10_goBack cX10_goBack 2 .int rmX10_goBack [.ref (q 0), .int a1] (WH tA q oz od ot oc ow os oe of oh ob oi oj op oq) (fun (r : Int32 × Ob) => (r.1)) (fun (r : Int32 × Ob) => (WH tA q oz od ot oc ow (r.2) oe of oh ob oi oj op oq)) (pX10_goBack oz od ot oc ow os oe of oh ob oi oj op oq a1) := by
  refine zCi_of (lv0 := [some (.ref (q 0)), some (.int a1)]) (by decide +kernel) (Nat.le_of_ble_eq_true rfl) rfl (fun X out F hr => ?_)
  unfold pX10_goBack
  refine y_iload_n (pc := 0) F dX10_goBack_0 rfl ?_
  refine y_if_lt (pc := 1) (tgt := 9) F dX10_goBack_1 rfl ?_ ?_
  · refine y_ldc (pc := 9) F dX10_goBack_9 kC_X10_158 ?_
    exact y_iret hr dX10_goBack_11 rfl rfl
  · refine y_iload_n (pc := 4) F dX10_goBack_4 rfl ?_
    refine y_iconst (v := 2) (pc := 5) F dX10_goBack_5 rfl ?_
    refine y_icmp_lt (pc := 6) (tgt := 12) F dX10_goBack_6 rfl ?_ ?_
    · refine y_aload_n (pc := 12) F dX10_goBack_12 rfl ?_
      refine y_get (pc := 13) F dX10_goBack_13 kF_X10_69 0 WH_at0 rfl ?_
      refine y_iload_n (pc := 16) F dX10_goBack_16 rfl ?_
      refine y_zald (pc := 17) F dX10_goBack_17 1 WH_at1 ?_
      refine y_if_ne (pc := 18) (tgt := 24) F dX10_goBack_18 rfl ?_ ?_
      · refine y_ldc (pc := 21) F dX10_goBack_21 kC_X10_127 ?_
        exact y_iret hr dX10_goBack_23 rfl rfl
      · refine y_aload_n (pc := 24) F dX10_goBack_24 rfl ?_
        refine y_get (pc := 25) F dX10_goBack_25 kF_X10_28 0 WH_at0 rfl ?_
        refine y_get (pc := 28) F dX10_goBack_28 kF_X10_114 6 WH_at6 rfl ?_
        refine y_aload_n (pc := 31) F dX10_goBack_31 rfl ?_
        refine y_get (pc := 32) F dX10_goBack_32 kF_X10_64 0 WH_at0 rfl ?_
        refine y_iload_n (pc := 35) F dX10_goBack_35 rfl ?_
        refine y_aald2 (pc := 36) F dX10_goBack_36 2 WH_at2 ?_ ?_
        · refine y_callv (As := [.ref (q 60)]) (st := []) (q0 := 19) (wf := fun (r1 : Ob) => (WH tA q oz od ot oc ow r1 oe of oh ob oi oj op oq)) (pc := 37) F (c_X6_become (q := zq q [19, 20, 21, 22, 23, 24, 25, 26, 27, 28, 29, 30, 31, 32, 60, 61, 62, 63, 64, 65, 66, 67, 68, 69, 70, 71, 72, 73]) os oi) dX10_goBack_37 kM_X10_277 ⟨rfl, rfl⟩ ⟨Nat.le_of_ble_eq_true rfl, Nat.le_of_ble_eq_true rfl⟩ rfl rfl rfl (Nat.le_of_ble_eq_true rfl) rfl rfl WH_at19 [19, 20, 21, 22, 23, 24, 25, 26, 27, 28, 29, 30, 31, 32, 60, 61, 62, 63, 64, 65, 66, 67, 68, 69, 70, 71, 72, 73] zn33_c zn33_n (fun _ => rfl) (fun (r1 : Ob) => zn33_p r1) (fun r1 => ?_)
          refine y_iconst (v := 1) (pc := 40) F dX10_goBack_40 rfl ?_
          exact y_iret hr dX10_goBack_41 rfl rfl
        · refine y_callv (As := [.ref (q 74)]) (st := []) (q0 := 19) (wf := fun (r2 : Ob) => (WH tA q oz od ot oc ow r2 oe of oh ob oi oj op oq)) (pc := 37) F (c_X6_become (q := zq q [19, 20, 21, 22, 23, 24, 25, 26, 27, 28, 29, 30, 31, 32, 74, 75, 76, 77, 78, 79, 80, 81, 82, 83, 84, 85, 86, 87]) os oj) dX10_goBack_37 kM_X10_277 ⟨rfl, rfl⟩ ⟨Nat.le_of_ble_eq_true rfl, Nat.le_of_ble_eq_true rfl⟩ rfl rfl rfl (Nat.le_of_ble_eq_true rfl) rfl rfl WH_at19 [19, 20, 21, 22, 23, 24, 25, 26, 27, 28, 29, 30, 31, 32, 74, 75, 76, 77, 78, 79, 80, 81, 82, 83, 84, 85, 86, 87] zn34_c zn34_n (fun _ => rfl) (fun (r2 : Ob) => zn34_p r2) (fun r2 => ?_)
          refine y_iconst (v := 1) (pc := 40) F dX10_goBack_40 rfl ?_
          exact y_iret hr dX10_goBack_41 rfl rfl
    · refine y_ldc (pc := 9) F dX10_goBack_9 kC_X10_158 ?_
      exact y_iret hr dX10_goBack_11 rfl rfl
end ZC
