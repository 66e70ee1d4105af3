section ZC
variable {l : Launch} {D : va_G} {tA : Nat → ClassId}
def rmzs (r : Room) : Room := { frames := r.frames + 1, cells := 0, slots := 0, locals := r.locals + 50 }
abbrev rmX3_prepare : Room := { frames := 3, cells := 0, slots := 0, locals := 67 }
def lX3_prepare_7 (oc : Ob) (ow : Ob) (os : Ob) (a1 : Int32) (K106 : Ob → Option Ob) : Nat → Int32 → Ob → Option Ob
  | 0, _, _ => none
  | f + 1, x8, o9 =>
    if (gi oc 1) ≤ x8 then (K106 o9)
    else (if (12 : Int32) ≤ x8 then (K106 o9)
    else (Option.bind (pX9_freshOn oc ow os x8 (gi os 0)) fun (r10 : Int32) =>
    zgd x8 12 <| zlet (sa o9 1 (upd (ga o9 1) (x8.toNatClampNeg) r10)) fun (o11 : Ob) =>
    zgd x8 12 <| zjn (fun (o12 : Ob) =>
    zlet (x8 + (1 : Int32)) fun (x13 : Int32) =>
    lX3_prepare_7 oc ow os a1 K106 f x13 o12) fun (K100 : Ob → Option Ob) =>
    if (ga oc 5 (x8.toNatClampNeg)) = a1 then (Option.bind (pX9_mayBeCalled oc ow os x8 (gi os 0)) fun (r14 : Int32) =>
    if r14 = 0 then (K100 o11)
    else (zlet (si o11 2 ((gi o11 2) ||| ((1 : Int32) <<< (x8 &&& 31)))) fun (o15 : Ob) =>
    K100 o15))
    else (K100 o11)))
def pX3_prepare (of : Ob) (oc : Ob) (ow : Ob) (os : Ob) (a1 : Int32) : Option Ob :=
  zlet (si of 2 (0 : Int32)) fun (o1 : Ob) =>
  zjn (fun (o2 : Ob) =>
  Option.bind (pX2_hasSuit oc a1) fun (r3 : Int32) =>
  zjn (fun (x4 : Int32) =>
  zlet (si o2 3 x4) fun (o5 : Ob) =>
  Option.bind (pX2_goalOf oc a1) fun (r6 : Int32) =>
  zlet (si o5 4 r6) fun (o7 : Ob) =>
  some o7) fun (K137 : Int32 → Option Ob) =>
  if r3 = 0 then (K137 (0 : Int32))
  else (zgd a1 6 <| K137 ((ga os 6 (a1.toNatClampNeg))))) fun (K106 : Ob → Option Ob) =>
  lX3_prepare_7 oc ow os a1 K106 zfu (0 : Int32) o1
set_option maxHeartbeats 4000000 in
set_option maxRecDepth 100000 in
theorem wlX3_prepare_7 {X : ZX} {out : Ob} (q : Nat → Nat) (oc : Ob) (ow : Ob) (os : Ob) (a1 : Int32) (F : zF l D tA RX3 cX3_prepare 3 rmX3_prepare X) (hr : zRv X D cX3_prepare (fun (r : Ob) => (WDu tA q r oc ow os)) out) {K106 : Ob → Option Ob} (hK106 : ∀ (o2 : Ob), zY X D out (K106 o2) (WDu tA q o2 oc ow os) 106 [some (.ref (q 0)), some (.int a1), none] []) : ∀ (f : Nat) (x8 : Int32) (o9 : Ob), zY X D out (lX3_prepare_7 oc ow os a1 K106 f x8 o9) (WDu tA q o9 oc ow os) 7 [some (.ref (q 0)), some (.int a1), some (.int x8)] [] := by
  intro f
  induction f with
  | zero =>
    intro x8 o9
    exact y_none
  | succ f ih =>
    intro x8 o9
    rw [lX3_prepare_7.eq_2]
    refine y_iload_n (pc := 7) F dX3_prepare_7 rfl ?_
    refine y_aload_n (pc := 8) F dX3_prepare_8 rfl ?_
    refine y_get (pc := 9) F dX3_prepare_9 kF_X3_15 0 WDu_at0 rfl ?_
    refine y_get (pc := 12) F dX3_prepare_12 kF_X3_23 2 WDu_at2 rfl ?_
    refine y_get (pc := 15) F dX3_prepare_15 kF_X3_29 3 WDu_at3 rfl ?_
    refine y_icmp_ge (pc := 18) (tgt := 106) F dX3_prepare_18 rfl ?_ ?_
    · refine y_le (lv' := [some (.ref (q 0)), some (.int a1), none]) ⟨rfl, ⟨rfl, trivial⟩⟩ ?_
      exact hK106 o9
    · refine y_iload_n (pc := 21) F dX3_prepare_21 rfl ?_
      refine y_bipush (v := 12) (pc := 22) F dX3_prepare_22 rfl ?_
      refine y_icmp_ge (pc := 24) (tgt := 106) F dX3_prepare_24 rfl ?_ ?_
      · refine y_le (lv' := [some (.ref (q 0)), some (.int a1), none]) ⟨rfl, ⟨rfl, trivial⟩⟩ ?_
        exact hK106 o9
      · refine y_aload_n (pc := 27) F dX3_prepare_27 rfl ?_
        refine y_get (pc := 28) F dX3_prepare_28 kF_X3_9 0 WDu_at0 rfl ?_
        refine y_iload_n (pc := 31) F dX3_prepare_31 rfl ?_
        refine y_aload_n (pc := 32) F dX3_prepare_32 rfl ?_
        refine y_get (pc := 33) F dX3_prepare_33 kF_X3_15 0 WDu_at0 rfl ?_
        refine y_iload_n (pc := 36) F dX3_prepare_36 rfl ?_
        refine y_aload_n (pc := 37) F dX3_prepare_37 rfl ?_
        refine y_get (pc := 38) F dX3_prepare_38 kF_X3_15 0 WDu_at0 rfl ?_
        refine y_get (pc := 41) F dX3_prepare_41 kF_X3_34 2 WDu_at2 rfl ?_
        refine y_get (pc := 44) F dX3_prepare_44 kF_X3_38 15 WDu_at15 rfl ?_
        refine y_calliR (As := [.int x8, .int (gi os 0)]) (st := [.int x8, .ref (q 1)]) (q0 := 2) (pc := 47) F (c_X9_freshOn (q := zq q [2, 3, 4, 5, 6, 7, 8, 9, 10, 11, 12, 13, 14, 15, 16, 17, 18, 19, 20, 21, 22, 23, 24, 25, 26, 27, 28]) oc ow os x8 (gi os 0)) dX3_prepare_47 kM_X3_43 ⟨rfl, rfl⟩ ⟨Nat.le_of_ble_eq_true rfl, Nat.le_of_ble_eq_true rfl⟩ rfl rfl rfl (Nat.le_of_ble_eq_true rfl) rfl rfl WDu_at2 [2, 3, 4, 5, 6, 7, 8, 9, 10, 11, 12, 13, 14, 15, 16, 17, 18, 19, 20, 21, 22, 23, 24, 25, 26, 27, 28] zn9_c zn9_n (fun r10 => ?_)
        refine y_iast (pc := 50) F dX3_prepare_50 1 WDu_at1 (fun (o11 : Ob) => (WDu tA q o11 oc ow os)) (WDu_ar1 _) (fun o11 => ?_)
        refine y_aload_n (pc := 51) F dX3_prepare_51 rfl ?_
        refine y_get (pc := 52) F dX3_prepare_52 kF_X3_15 0 WDu_at0 rfl ?_
        refine y_get (pc := 55) F dX3_prepare_55 kF_X3_23 2 WDu_at2 rfl ?_
        refine y_get (pc := 58) F dX3_prepare_58 kF_X3_47 3 WDu_at3 rfl ?_
        refine y_iload_n (pc := 61) F dX3_prepare_61 rfl ?_
        refine y_iald (pc := 62) F dX3_prepare_62 7 WDu_at7 ?_
        refine y_iload_n (pc := 63) F dX3_prepare_63 rfl ?_
        refine y_jn (fun (K100 : Ob → Option Ob) => ∀ (o12 : Ob), zY X D out (K100 o12) (WDu tA q o12 oc ow os) 100 [some (.ref (q 0)), some (.int a1), some (.int x8)] []) ?_ ?_
        · intro o12
          refine y_iinc (v := 1) (lf := fun (x13 : Int32) => [some (.ref (q 0)), some (.int a1), some (.int x13)]) (pc := 100) F dX3_prepare_100 rfl rfl rfl (fun _ => rfl) (fun x13 => ?_)
          refine y_goto (tgt := 7) (pc := 103) F dX3_prepare_103 rfl ?_
          exact ih x13 o12
        intro K100 hK100
        refine y_icmp_ne (pc := 64) (tgt := 100) F dX3_prepare_64 rfl ?_ ?_
        · refine y_aload_n (pc := 67) F dX3_prepare_67 rfl ?_
          refine y_get (pc := 68) F dX3_prepare_68 kF_X3_15 0 WDu_at0 rfl ?_
          refine y_iload_n (pc := 71) F dX3_prepare_71 rfl ?_
          refine y_aload_n (pc := 72) F dX3_prepare_72 rfl ?_
          refine y_get (pc := 73) F dX3_prepare_73 kF_X3_15 0 WDu_at0 rfl ?_
          refine y_get (pc := 76) F dX3_prepare_76 kF_X3_34 2 WDu_at2 rfl ?_
          refine y_get (pc := 79) F dX3_prepare_79 kF_X3_38 15 WDu_at15 rfl ?_
          refine y_calliR (As := [.int x8, .int (gi os 0)]) (st := []) (q0 := 2) (pc := 82) F (c_X9_mayBeCalled (q := zq q [2, 3, 4, 5, 6, 7, 8, 9, 10, 11, 12, 13, 14, 15, 16, 17, 18, 19, 20, 21, 22, 23, 24, 25, 26, 27, 28]) oc ow os x8 (gi os 0)) dX3_prepare_82 kM_X3_50 ⟨rfl, rfl⟩ ⟨Nat.le_of_ble_eq_true rfl, Nat.le_of_ble_eq_true rfl⟩ rfl rfl rfl (Nat.le_of_ble_eq_true rfl) rfl rfl WDu_at2 [2, 3, 4, 5, 6, 7, 8, 9, 10, 11, 12, 13, 14, 15, 16, 17, 18, 19, 20, 21, 22, 23, 24, 25, 26, 27, 28] zn9_c zn9_n (fun r14 => ?_)
          refine y_if_eq (pc := 85) (tgt := 100) F dX3_prepare_85 rfl ?_ ?_
          · exact hK100 o11
          · refine y_aload_n (pc := 88) F dX3_prepare_88 rfl ?_
            refine y_dup (pc := 89) F dX3_prepare_89 rfl ?_
            refine y_get (pc := 90) F dX3_prepare_90 kF_X3_19 0 WDu_at0 rfl ?_
            refine y_iconst (v := 1) (pc := 93) F dX3_prepare_93 rfl ?_
            refine y_iload_n (pc := 94) F dX3_prepare_94 rfl ?_
            refine y_ishl (pc := 95) F dX3_prepare_95 ?_
            refine y_ior (pc := 96) F dX3_prepare_96 ?_
            refine y_put (pc := 97) F dX3_prepare_97 kF_X3_19 0 WDu_at0 rfl rfl rfl (Nat.le_of_ble_eq_true rfl) (fun (o15 : Ob) => (WDu tA q o15 oc ow os)) (WDu_pt0_2 _) (fun o15 => ?_)
            exact hK100 o15
        · exact hK100 o11
set_option maxHeartbeats 4000000 in
set_option maxRecDepth 100000 in
theorem c_X3_prepare {q : Nat → Nat} (of : Ob) (oc : Ob) (ow : Ob) (os : Ob) (a1 : Int32) : zCv l D tA yX3_prepare cX3_prepare 3 rmX3_prepare [.ref (q 0), .int a1] (WDu tA q of oc ow os) (fun (r : Ob) => (WDu tA q r oc ow os)) (pX3_prepare of oc ow os a1) := by
  refine zCv_of (lv0 := [some (.ref (q 0)), some (.int a1), none]) (by decide +kernel) (Nat.le_of_ble_eq_true rfl) rfl (fun X out F hr => ?_)
  unfold pX3_prepare
  refine y_aload_n (pc := 0) F dX3_prepare_0 rfl ?_
  refine y_iconst (v := 0) (pc := 1) F dX3_prepare_1 rfl ?_
  refine y_put (pc := 2) F dX3_prepare_2 kF_X3_19 0 WDu_at0 rfl rfl rfl (Nat.le_of_ble_eq_true rfl) (fun (o1 : Ob) => (WDu tA q o1 oc ow os)) (WDu_pt0_2 _) (fun o1 => ?_)
  refine y_iconst (v := 0) (pc := 5) F dX3_prepare_5 rfl ?_
  refine y_istore_n (lv' := [some (.ref (q 0)), some (.int a1), some (.int (0 : Int32))]) (pc := 6) F dX3_prepare_6 (Nat.le_of_ble_eq_true rfl) rfl rfl ?_
  refine y_jn (fun (K106 : Ob → Option Ob) => ∀ (o2 : Ob), zY X D out (K106 o2) (WDu tA q o2 oc ow os) 106 [some (.ref (q 0)), some (.int a1), none] []) ?_ ?_
  · intro o2
    refine y_aload_n (pc := 106) F dX3_prepare_106 rfl ?_
    refine y_aload_n (pc := 107) F dX3_prepare_107 rfl ?_
    refine y_get (pc := 108) F dX3_prepare_108 kF_X3_15 0 WDu_at0 rfl ?_
    refine y_get (pc := 111) F dX3_prepare_111 kF_X3_23 2 WDu_at2 rfl ?_
    refine y_iload_n (pc := 114) F dX3_prepare_114 rfl ?_
    refine y_calliR (As := [.int a1]) (st := [.ref (q 0)]) (q0 := 3) (pc := 115) F (c_X2_hasSuit (q := zq q [3, 4, 5, 6, 7, 8, 9]) oc a1) dX3_prepare_115 kM_X3_54 ⟨rfl, rfl⟩ ⟨Nat.le_of_ble_eq_true rfl, Nat.le_of_ble_eq_true rfl⟩ rfl rfl rfl (Nat.le_of_ble_eq_true rfl) rfl rfl WDu_at3 [3, 4, 5, 6, 7, 8, 9] zn8_c zn8_n (fun r3 => ?_)
    refine y_jn (fun (K137 : Int32 → Option Ob) => ∀ (x4 : Int32), zY X D out (K137 x4) (WDu tA q o2 oc ow os) 137 [some (.ref (q 0)), some (.int a1), none] [.int x4, .ref (q 0)]) ?_ ?_
    · intro x4
      refine y_put (pc := 137) F dX3_prepare_137 kF_X3_61 0 WDu_at0 rfl rfl rfl (Nat.le_of_ble_eq_true rfl) (fun (o5 : Ob) => (WDu tA q o5 oc ow os)) (WDu_pt0_3 _) (fun o5 => ?_)
      refine y_aload_n (pc := 140) F dX3_prepare_140 rfl ?_
      refine y_aload_n (pc := 141) F dX3_prepare_141 rfl ?_
      refine y_get (pc := 142) F dX3_prepare_142 kF_X3_15 0 WDu_at0 rfl ?_
      refine y_get (pc := 145) F dX3_prepare_145 kF_X3_23 2 WDu_at2 rfl ?_
      refine y_iload_n (pc := 148) F dX3_prepare_148 rfl ?_
      refine y_calliR (As := [.int a1]) (st := [.ref (q 0)]) (q0 := 3) (pc := 149) F (c_X2_goalOf (q := zq q [3, 4, 5, 6, 7, 8, 9]) oc a1) dX3_prepare_149 kM_X3_64 ⟨rfl, rfl⟩ ⟨Nat.le_of_ble_eq_true rfl, Nat.le_of_ble_eq_true rfl⟩ rfl rfl rfl (Nat.le_of_ble_eq_true rfl) rfl rfl WDu_at3 [3, 4, 5, 6, 7, 8, 9] zn8_c zn8_n (fun r6 => ?_)
      refine y_put (pc := 152) F dX3_prepare_152 kF_X3_68 0 WDu_at0 rfl rfl rfl (Nat.le_of_ble_eq_true rfl) (fun (o7 : Ob) => (WDu tA q o7 oc ow os)) (WDu_pt0_4 _) (fun o7 => ?_)
      exact y_vret hr dX3_prepare_155 rfl
    intro K137 hK137
    refine y_if_eq (pc := 118) (tgt := 136) F dX3_prepare_118 rfl ?_ ?_
    · refine y_iconst (v := 0) (pc := 136) F dX3_prepare_136 rfl ?_
      exact hK137 (0 : Int32)
    · refine y_aload_n (pc := 121) F dX3_prepare_121 rfl ?_
      refine y_get (pc := 122) F dX3_prepare_122 kF_X3_15 0 WDu_at0 rfl ?_
      refine y_get (pc := 125) F dX3_prepare_125 kF_X3_34 2 WDu_at2 rfl ?_
      refine y_get (pc := 128) F dX3_prepare_128 kF_X3_58 15 WDu_at15 rfl ?_
      refine y_iload_n (pc := 131) F dX3_prepare_131 rfl ?_
      refine y_iald (pc := 132) F dX3_prepare_132 19 WDu_at19 ?_
      refine y_goto (tgt := 137) (pc := 133) F dX3_prepare_133 rfl ?_
      exact hK137 ((ga os 6 (a1.toNatClampNeg)))
  intro K106 hK106
  exact wlX3_prepare_7 q oc ow os a1 F hr hK106 zfu (0 : Int32) o1
abbrev rmX3_has : Room := { frames := 0, cells := 0, slots := 0, locals := 0 }
def pX3_has (a0 : Int32) (a1 : Int32) : Option Int32 :=
  if ((a0 >>> (a1 &&& 31)) &&& (1 : Int32)) = (1 : Int32) then (zgz (1 : Int32) (some (1 : Int32)))
  else (zgz (0 : Int32) (some (0 : Int32)))
set_option maxHeartbeats 4000000 in
set_option maxRecDepth 100000 in
theorem c_X3_has {q : Nat → Nat} (a0 : Int32) (a1 : Int32) : zCi l D tA yX3_has cX3_has 2 .boolean rmX3_has [.int a0, .int a1] [] (fun (r : Int32) => r) (fun (r : Int32) => []) (pX3_has a0 a1) := by
  refine zCi_of (lv0 := [some (.int a0), some (.int a1)]) (by decide +kernel) (Nat.le_of_ble_eq_true rfl) rfl (fun X out F hr => ?_)
  unfold pX3_has
  refine y_iload_n (pc := 0) F dX3_has_0 rfl ?_
  refine y_iload_n (pc := 1) F dX3_has_1 rfl ?_
  refine y_ishr (pc := 2) F dX3_has_2 ?_
  refine y_iconst (v := 1) (pc := 3) F dX3_has_3 rfl ?_
  refine y_iand (pc := 4) F dX3_has_4 ?_
  refine y_iconst (v := 1) (pc := 5) F dX3_has_5 rfl ?_
  refine y_icmp_ne (pc := 6) (tgt := 13) F dX3_has_6 rfl ?_ ?_
  · refine y_iconst (v := 1) (pc := 9) F dX3_has_9 rfl ?_
    refine y_goto (tgt := 14) (pc := 10) F dX3_has_10 rfl ?_
    exact y_zret hr dX3_has_14 rfl rfl
  · refine y_iconst (v := 0) (pc := 13) F dX3_has_13 rfl ?_
    exact y_zret hr dX3_has_14 rfl rfl
def lX3_winsByCalling_40 (sw : Ob → Ob → Ob → Ob → Int32 → Int32 → Int32 → Option Int32) (of : Ob) (oc : Ob) (ow : Ob) (os : Ob) (a4 : Int32) (x1 : Int32) (x2 : Int32) : Nat → Int32 → Option Int32
  | 0, _ => none
  | f + 1, x3 =>
    if (12 : Int32) ≤ x3 then (zgz (1 : Int32) (some (1 : Int32)))
    else (Option.bind (pX3_has x2 x3) fun (r4 : Int32) =>
    zjn (zlet (x3 + (1 : Int32)) fun (x5 : Int32) =>
    lX3_winsByCalling_40 sw of oc ow os a4 x1 x2 f x5) fun (K83 : Option Int32) =>
    if r4 = 0 then (K83)
    else (znz (2 : Int32) <| Option.bind (sw of oc ow os (x2 &&& (((1 : Int32) <<< (x3 &&& 31)) ^^^ (-1 : Int32))) (x1 / (2 : Int32)) (a4 + (1 : Int32))) fun (r6 : Int32) =>
    if r6 = 0 then (zgz (0 : Int32) (some (0 : Int32)))
    else (K83)))
def pX3_winsByCalling (sw : Ob → Ob → Ob → Ob → Int32 → Int32 → Int32 → Option Int32) (of : Ob) (oc : Ob) (ow : Ob) (os : Ob) (a1 : Int32) (a2 : Int32) (a3 : Int32) (a4 : Int32) : Option Int32 :=
  zgd a1 12 <| zlet ((a3 + (ga of 1 (a1.toNatClampNeg)))) fun (x1 : Int32) =>
  if x1 < (gi of 4) then (zlet ((a2 &&& (((1 : Int32) <<< (a1 &&& 31)) ^^^ (-1 : Int32)))) fun (x2 : Int32) =>
  if x2 = 0 then (zgz (0 : Int32) (some (0 : Int32)))
  else (lX3_winsByCalling_40 sw of oc ow os a4 x1 x2 zfu (0 : Int32)))
  else (zgz (1 : Int32) (some (1 : Int32)))
set_option maxHeartbeats 4000000 in
set_option maxRecDepth 100000 in
theorem wlX3_winsByCalling_40 {X : ZX} {out : Int32} (q : Nat → Nat) (sw : Ob → Ob → Ob → Ob → Int32 → Int32 → Int32 → Option Int32) (rmw : Room) (h0w : rmw.cells = 0 ∧ rmw.slots = 0) (hsw : ∀ (q : Nat → Nat) (of oc ow os : Ob) (a1 a2 a3 : Int32), zCi l D tA yX3_sideWins cX3_sideWins 5 .boolean rmw [.ref (q 0), .int a1, .int a2, .int a3] (WDu tA q of oc ow os) (fun (r : Int32) => r) (fun (r : Int32) => (WDu tA q of oc ow os)) (sw of oc ow os a1 a2 a3)) (of : Ob) (oc : Ob) (ow : Ob) (os : Ob) (a4 : Int32) (x1 : Int32) (x2 : Int32) (F : zF l D tA RX3 cX3_winsByCalling 8 (rmzs rmw) X) (hr : zRi X D cX3_winsByCalling .boolean (fun (r : Int32) => r) (fun (r : Int32) => (WDu tA q of oc ow os)) out) : ∀ (f : Nat) (x3 : Int32), zY X D out (lX3_winsByCalling_40 sw of oc ow os a4 x1 x2 f x3) (WDu tA q of oc ow os) 40 [some (.ref (q 0)), none, none, none, some (.int a4), some (.int x1), some (.int x2), some (.int x3)] [] := by
  intro f
  induction f with
  | zero =>
    intro x3
    exact y_none
  | succ f ih =>
    intro x3
    rw [lX3_winsByCalling_40.eq_2]
    refine y_iload (pc := 40) F dX3_winsByCalling_40 rfl ?_
    refine y_bipush (v := 12) (pc := 42) F dX3_winsByCalling_42 rfl ?_
    refine y_icmp_ge (pc := 44) (tgt := 89) F dX3_winsByCalling_44 rfl ?_ ?_
    · refine y_iconst (v := 1) (pc := 89) F dX3_winsByCalling_89 rfl ?_
      exact y_zret hr dX3_winsByCalling_90 rfl rfl
    · refine y_iload (pc := 47) F dX3_winsByCalling_47 rfl ?_
      refine y_iload (pc := 49) F dX3_winsByCalling_49 rfl ?_
      refine y_scalliP (As := [.int x2, .int x3]) (st := []) (pc := 51) F (c_X3_has (q := q) x2 x3) dX3_winsByCalling_51 kM_X3_75 ⟨rfl, rfl⟩ ⟨Nat.succ_le_succ (Nat.zero_le _), Nat.le_trans (Nat.le_of_ble_eq_true rfl : _ ≤ 50) (Nat.le_add_left _ _)⟩ rfl rfl rfl (Nat.le_of_ble_eq_true rfl) (fun r4 => ?_)
      refine y_jn (fun (K83 : Option Int32) => zY X D out (K83) (WDu tA q of oc ow os) 83 [some (.ref (q 0)), none, none, none, some (.int a4), some (.int x1), some (.int x2), some (.int x3)] []) ?_ ?_
      · skip
        refine y_iinc (v := 1) (lf := fun (x5 : Int32) => [some (.ref (q 0)), none, none, none, some (.int a4), some (.int x1), some (.int x2), some (.int x5)]) (pc := 83) F dX3_winsByCalling_83 rfl rfl rfl (fun _ => rfl) (fun x5 => ?_)
        refine y_goto (tgt := 40) (pc := 86) F dX3_winsByCalling_86 rfl ?_
        exact ih x5
      intro K83 hK83
      refine y_if_eq (pc := 54) (tgt := 83) F dX3_winsByCalling_54 rfl ?_ ?_
      · exact hK83
      · refine y_aload_n (pc := 57) F dX3_winsByCalling_57 rfl ?_
        refine y_iload (pc := 58) F dX3_winsByCalling_58 rfl ?_
        refine y_iconst (v := 1) (pc := 60) F dX3_winsByCalling_60 rfl ?_
        refine y_iload (pc := 61) F dX3_winsByCalling_61 rfl ?_
        refine y_ishl (pc := 63) F dX3_winsByCalling_63 ?_
        refine y_iconst (v := -1) (pc := 64) F dX3_winsByCalling_64 rfl ?_
        refine y_ixor (pc := 65) F dX3_winsByCalling_65 ?_
        refine y_iand (pc := 66) F dX3_winsByCalling_66 ?_
        refine y_iload (pc := 67) F dX3_winsByCalling_67 rfl ?_
        refine y_iconst (v := 2) (pc := 69) F dX3_winsByCalling_69 rfl ?_
        refine y_idiv (pc := 70) F dX3_winsByCalling_70 ?_
        refine y_iload (pc := 71) F dX3_winsByCalling_71 rfl ?_
        refine y_iconst (v := 1) (pc := 73) F dX3_winsByCalling_73 rfl ?_
        refine y_iadd (pc := 74) F dX3_winsByCalling_74 ?_
        refine y_calliW (As := [.int (x2 &&& (((1 : Int32) <<< (x3 &&& 31)) ^^^ (-1 : Int32))), .int (x1 / (2 : Int32)), .int (a4 + (1 : Int32))]) (st := []) (q0 := 0) (pc := 75) F (hsw q of oc ow os (x2 &&& (((1 : Int32) <<< (x3 &&& 31)) ^^^ (-1 : Int32))) (x1 / (2 : Int32)) (a4 + (1 : Int32))) dX3_winsByCalling_75 kM_X3_71 h0w ⟨Nat.le_refl _, by show 8 + (5 + 11) + rmw.locals ≤ rmw.locals + 50; omega⟩ rfl rfl rfl (Nat.le_of_ble_eq_true rfl) rfl rfl WDu_at0 (fun r6 => ?_)
        refine y_if_ne (pc := 78) (tgt := 83) F dX3_winsByCalling_78 rfl ?_ ?_
        · refine y_iconst (v := 0) (pc := 81) F dX3_winsByCalling_81 rfl ?_
          exact y_zret hr dX3_winsByCalling_82 rfl rfl
        · exact hK83
set_option maxHeartbeats 4000000 in
set_option maxRecDepth 100000 in
theorem c_X3_winsByCalling {q : Nat → Nat} (sw : Ob → Ob → Ob → Ob → Int32 → Int32 → Int32 → Option Int32) (rmw : Room) (h0w : rmw.cells = 0 ∧ rmw.slots = 0) (hsw : ∀ (q : Nat → Nat) (of oc ow os : Ob) (a1 a2 a3 : Int32), zCi l D tA yX3_sideWins cX3_sideWins 5 .boolean rmw [.ref (q 0), .int a1, .int a2, .int a3] (WDu tA q of oc ow os) (fun (r : Int32) => r) (fun (r : Int32) => (WDu tA q of oc ow os)) (sw of oc ow os a1 a2 a3)) (of : Ob) (oc : Ob) (ow : Ob) (os : Ob) (a1 : Int32) (a2 : Int32) (a3 : Int32) (a4 : Int32) : zCi l D tA yX3_winsByCalling cX3_winsByCalling 8 .boolean (rmzs rmw) [.ref (q 0), .int a1, .int a2, .int a3, .int a4] (WDu tA q of oc ow os) (fun (r : Int32) => r) (fun (r : Int32) => (WDu tA q of oc ow os)) (pX3_winsByCalling sw of oc ow os a1 a2 a3 a4) := by
  refine zCi_of (lv0 := [some (.ref (q 0)), some (.int a1), some (.int a2), some (.int a3), some (.int a4), none, none, none]) (by decide +kernel) (Nat.le_of_ble_eq_true rfl) rfl (fun X out F hr => ?_)
  unfold pX3_winsByCalling
  refine y_iload_n (pc := 0) F dX3_winsByCalling_0 rfl ?_
  refine y_aload_n (pc := 1) F dX3_winsByCalling_1 rfl ?_
  refine y_get (pc := 2) F dX3_winsByCalling_2 kF_X3_9 0 WDu_at0 rfl ?_
  refine y_iload_n (pc := 5) F dX3_winsByCalling_5 rfl ?_
  refine y_iald (pc := 6) F dX3_winsByCalling_6 1 WDu_at1 ?_
  refine y_iadd (pc := 7) F dX3_winsByCalling_7 ?_
  refine y_lti (fun x1 => ?_)
  refine y_istore (lv' := [some (.ref (q 0)), some (.int a1), some (.int a2), some (.int a3), some (.int a4), some (.int x1), none, none]) (pc := 8) F dX3_winsByCalling_8 (Nat.le_of_ble_eq_true rfl) rfl rfl ?_
  refine y_iload (pc := 10) F dX3_winsByCalling_10 rfl ?_
  refine y_aload_n (pc := 12) F dX3_winsByCalling_12 rfl ?_
  refine y_get (pc := 13) F dX3_winsByCalling_13 kF_X3_68 0 WDu_at0 rfl ?_
  refine y_icmp_lt (pc := 16) (tgt := 21) F dX3_winsByCalling_16 rfl ?_ ?_
  · refine y_iload_n (pc := 21) F dX3_winsByCalling_21 rfl ?_
    refine y_iconst (v := 1) (pc := 22) F dX3_winsByCalling_22 rfl ?_
    refine y_iload_n (pc := 23) F dX3_winsByCalling_23 rfl ?_
    refine y_ishl (pc := 24) F dX3_winsByCalling_24 ?_
    refine y_iconst (v := -1) (pc := 25) F dX3_winsByCalling_25 rfl ?_
    refine y_ixor (pc := 26) F dX3_winsByCalling_26 ?_
    refine y_iand (pc := 27) F dX3_winsByCalling_27 ?_
    refine y_lti (fun x2 => ?_)
    refine y_istore (lv' := [some (.ref (q 0)), some (.int a1), some (.int a2), some (.int a3), some (.int a4), some (.int x1), some (.int x2), none]) (pc := 28) F dX3_winsByCalling_28 (Nat.le_of_ble_eq_true rfl) rfl rfl ?_
    refine y_iload (pc := 30) F dX3_winsByCalling_30 rfl ?_
    refine y_if_ne (pc := 32) (tgt := 37) F dX3_winsByCalling_32 rfl ?_ ?_
    · refine y_iconst (v := 0) (pc := 35) F dX3_winsByCalling_35 rfl ?_
      exact y_zret hr dX3_winsByCalling_36 rfl rfl
    · refine y_iconst (v := 0) (pc := 37) F dX3_winsByCalling_37 rfl ?_
      refine y_istore (lv' := [some (.ref (q 0)), some (.int a1), some (.int a2), some (.int a3), some (.int a4), some (.int x1), some (.int x2), some (.int (0 : Int32))]) (pc := 38) F dX3_winsByCalling_38 (Nat.le_of_ble_eq_true rfl) rfl rfl ?_
      refine y_le (lv' := [some (.ref (q 0)), none, none, none, some (.int a4), some (.int x1), some (.int x2), some (.int (0 : Int32))]) ⟨rfl, ⟨rfl, ⟨rfl, ⟨rfl, ⟨rfl, trivial⟩⟩⟩⟩⟩ ?_
      exact wlX3_winsByCalling_40 q sw rmw h0w hsw of oc ow os a4 x1 x2 F hr zfu (0 : Int32)
  · refine y_iconst (v := 1) (pc := 19) F dX3_winsByCalling_19 rfl ?_
    exact y_zret hr dX3_winsByCalling_20 rfl rfl
def lX3_sideWins_21 (wb : Ob → Ob → Ob → Ob → Int32 → Int32 → Int32 → Int32 → Option Int32) (of : Ob) (oc : Ob) (ow : Ob) (os : Ob) (a1 : Int32) (a2 : Int32) (a3 : Int32) : Nat → Int32 → Option Int32
  | 0, _ => none
  | f + 1, x1 =>
    if (12 : Int32) ≤ x1 then (zgz (0 : Int32) (some (0 : Int32)))
    else (Option.bind (pX3_has a1 x1) fun (r2 : Int32) =>
    zjn (zlet (x1 + (1 : Int32)) fun (x3 : Int32) =>
    lX3_sideWins_21 wb of oc ow os a1 a2 a3 f x3) fun (K51 : Option Int32) =>
    if r2 = 0 then (K51)
    else (Option.bind (wb of oc ow os x1 a1 a2 a3) fun (r4 : Int32) =>
    if r4 = 0 then (K51)
    else (zgz (1 : Int32) (some (1 : Int32)))))
def pX3_sideWins (wb : Ob → Ob → Ob → Ob → Int32 → Int32 → Int32 → Int32 → Option Int32) (of : Ob) (oc : Ob) (ow : Ob) (os : Ob) (a1 : Int32) (a2 : Int32) (a3 : Int32) : Option Int32 :=
  if a2 < (gi of 4) then (if a3 ≤ (6 : Int32) then (lX3_sideWins_21 wb of oc ow os a1 a2 a3 zfu (0 : Int32))
  else (zgz (0 : Int32) (some (0 : Int32))))
  else (zgz (1 : Int32) (some (1 : Int32)))
set_option maxHeartbeats 4000000 in
set_option maxRecDepth 100000 in
theorem wlX3_sideWins_21 {X : ZX} {out : Int32} (q : Nat → Nat) (wb : Ob → Ob → Ob → Ob → Int32 → Int32 → Int32 → Int32 → Option Int32) (rmw : Room) (h0w : rmw.cells = 0 ∧ rmw.slots = 0) (hwb : ∀ (q : Nat → Nat) (of oc ow os : Ob) (a1 a2 a3 a4 : Int32), zCi l D tA yX3_winsByCalling cX3_winsByCalling 8 .boolean rmw [.ref (q 0), .int a1, .int a2, .int a3, .int a4] (WDu tA q of oc ow os) (fun (r : Int32) => r) (fun (r : Int32) => (WDu tA q of oc ow os)) (wb of oc ow os a1 a2 a3 a4)) (of : Ob) (oc : Ob) (ow : Ob) (os : Ob) (a1 : Int32) (a2 : Int32) (a3 : Int32) (F : zF l D tA RX3 cX3_sideWins 5 (rmzs rmw) X) (hr : zRi X D cX3_sideWins .boolean (fun (r : Int32) => r) (fun (r : Int32) => (WDu tA q of oc ow os)) out) : ∀ (f : Nat) (x1 : Int32), zY X D out (lX3_sideWins_21 wb of oc ow os a1 a2 a3 f x1) (WDu tA q of oc ow os) 21 [some (.ref (q 0)), some (.int a1), some (.int a2), some (.int a3), some (.int x1)] [] := by
  intro f
  induction f with
  | zero =>
    intro x1
    exact y_none
  | succ f ih =>
    intro x1
    rw [lX3_sideWins_21.eq_2]
    refine y_iload (pc := 21) F dX3_sideWins_21 rfl ?_
    refine y_bipush (v := 12) (pc := 23) F dX3_sideWins_23 rfl ?_
    refine y_icmp_ge (pc := 25) (tgt := 57) F dX3_sideWins_25 rfl ?_ ?_
    · refine y_iconst (v := 0) (pc := 57) F dX3_sideWins_57 rfl ?_
      exact y_zret hr dX3_sideWins_58 rfl rfl
    · refine y_iload_n (pc := 28) F dX3_sideWins_28 rfl ?_
      refine y_iload (pc := 29) F dX3_sideWins_29 rfl ?_
      refine y_scalliP (As := [.int a1, .int x1]) (st := []) (pc := 31) F (c_X3_has (q := q) a1 x1) dX3_sideWins_31 kM_X3_75 ⟨rfl, rfl⟩ ⟨Nat.succ_le_succ (Nat.zero_le _), Nat.le_trans (Nat.le_of_ble_eq_true rfl : _ ≤ 50) (Nat.le_add_left _ _)⟩ rfl rfl rfl (Nat.le_of_ble_eq_true rfl) (fun r2 => ?_)
      refine y_jn (fun (K51 : Option Int32) => zY X D out (K51) (WDu tA q of oc ow os) 51 [some (.ref (q 0)), some (.int a1), some (.int a2), some (.int a3), some (.int x1)] []) ?_ ?_
      · skip
        refine y_iinc (v := 1) (lf := fun (x3 : Int32) => [some (.ref (q 0)), some (.int a1), some (.int a2), some (.int a3), some (.int x3)]) (pc := 51) F dX3_sideWins_51 rfl rfl rfl (fun _ => rfl) (fun x3 => ?_)
        refine y_goto (tgt := 21) (pc := 54) F dX3_sideWins_54 rfl ?_
        exact ih x3
      intro K51 hK51
      refine y_if_eq (pc := 34) (tgt := 51) F dX3_sideWins_34 rfl ?_ ?_
      · exact hK51
      · refine y_aload_n (pc := 37) F dX3_sideWins_37 rfl ?_
        refine y_iload (pc := 38) F dX3_sideWins_38 rfl ?_
        refine y_iload_n (pc := 40) F dX3_sideWins_40 rfl ?_
        refine y_iload_n (pc := 41) F dX3_sideWins_41 rfl ?_
        refine y_iload_n (pc := 42) F dX3_sideWins_42 rfl ?_
        refine y_calliW (As := [.int x1, .int a1, .int a2, .int a3]) (st := []) (q0 := 0) (pc := 43) F (hwb q of oc ow os x1 a1 a2 a3) dX3_sideWins_43 kM_X3_78 h0w ⟨Nat.le_refl _, by show 8 + (8 + 11) + rmw.locals ≤ rmw.locals + 50; omega⟩ rfl rfl rfl (Nat.le_of_ble_eq_true rfl) rfl rfl WDu_at0 (fun r4 => ?_)
        refine y_if_eq (pc := 46) (tgt := 51) F dX3_sideWins_46 rfl ?_ ?_
        · exact hK51
        · refine y_iconst (v := 1) (pc := 49) F dX3_sideWins_49 rfl ?_
          exact y_zret hr dX3_sideWins_50 rfl rfl
set_option maxHeartbeats 4000000 in
set_option maxRecDepth 100000 in
theorem c_X3_sideWins {q : Nat → Nat} (wb : Ob → Ob → Ob → Ob → Int32 → Int32 → Int32 → Int32 → Option Int32) (rmw : Room) (h0w : rmw.cells = 0 ∧ rmw.slots = 0) (hwb : ∀ (q : Nat → Nat) (of oc ow os : Ob) (a1 a2 a3 a4 : Int32), zCi l D tA yX3_winsByCalling cX3_winsByCalling 8 .boolean rmw [.ref (q 0), .int a1, .int a2, .int a3, .int a4] (WDu tA q of oc ow os) (fun (r : Int32) => r) (fun (r : Int32) => (WDu tA q of oc ow os)) (wb of oc ow os a1 a2 a3 a4)) (of : Ob) (oc : Ob) (ow : Ob) (os : Ob) (a1 : Int32) (a2 : Int32) (a3 : Int32) : zCi l D tA yX3_sideWins cX3_sideWins 5 .boolean (rmzs rmw) [.ref (q 0), .int a1, .int a2, .int a3] (WDu tA q of oc ow os) (fun (r : Int32) => r) (fun (r : Int32) => (WDu tA q of oc ow os)) (pX3_sideWins wb of oc ow os a1 a2 a3) := by
  refine zCi_of (lv0 := [some (.ref (q 0)), some (.int a1), some (.int a2), some (.int a3), none]) (by decide +kernel) (Nat.le_of_ble_eq_true rfl) rfl (fun X out F hr => ?_)
  unfold pX3_sideWins
  refine y_iload_n (pc := 0) F dX3_sideWins_0 rfl ?_
  refine y_aload_n (pc := 1) F dX3_sideWins_1 rfl ?_
  refine y_get (pc := 2) F dX3_sideWins_2 kF_X3_68 0 WDu_at0 rfl ?_
  refine y_icmp_lt (pc := 5) (tgt := 10) F dX3_sideWins_5 rfl ?_ ?_
  · refine y_iload_n (pc := 10) F dX3_sideWins_10 rfl ?_
    refine y_bipush (v := 6) (pc := 11) F dX3_sideWins_11 rfl ?_
    refine y_icmp_le (pc := 13) (tgt := 18) F dX3_sideWins_13 rfl ?_ ?_
    · refine y_iconst (v := 0) (pc := 18) F dX3_sideWins_18 rfl ?_
      refine y_istore (lv' := [some (.ref (q 0)), some (.int a1), some (.int a2), some (.int a3), some (.int (0 : Int32))]) (pc := 19) F dX3_sideWins_19 (Nat.le_of_ble_eq_true rfl) rfl rfl ?_
      exact wlX3_sideWins_21 q wb rmw h0w hwb of oc ow os a1 a2 a3 F hr zfu (0 : Int32)
    · refine y_iconst (v := 0) (pc := 16) F dX3_sideWins_16 rfl ?_
      exact y_zret hr dX3_sideWins_17 rfl rfl
  · refine y_iconst (v := 1) (pc := 8) F dX3_sideWins_8 rfl ?_
    exact y_zret hr dX3_sideWins_9 rfl rfl
def zsw : Nat → Ob → Ob → Ob → Ob → Int32 → Int32 → Int32 → Option Int32
  | 0 => fun _ _ _ _ _ _ _ => none
  | n + 1 => pX3_sideWins (pX3_winsByCalling (zsw n))
def zwb (n : Nat) : Ob → Ob → Ob → Ob → Int32 → Int32 → Int32 → Int32 → Option Int32 := pX3_winsByCalling (zsw n)
def rmS : Nat → Room
  | 0 => { frames := 0, cells := 0, slots := 0, locals := 0 }
  | n + 1 => rmzs (rmzs (rmS n))
def rmW (n : Nat) : Room := rmzs (rmS n)
theorem rmS_0 : ∀ n : Nat, (rmS n).cells = 0 ∧ (rmS n).slots = 0
  | 0 => ⟨rfl, rfl⟩
  | n + 1 => ⟨rfl, rfl⟩
theorem c_zsw (n : Nat) : ∀ (q : Nat → Nat) (of oc ow os : Ob) (a1 a2 a3 : Int32), zCi l D tA yX3_sideWins cX3_sideWins 5 .boolean (rmS n) [.ref (q 0), .int a1, .int a2, .int a3] (WDu tA q of oc ow os) (fun (r : Int32) => r) (fun (r : Int32) => (WDu tA q of oc ow os)) (zsw n of oc ow os a1 a2 a3) := by
  induction n with
  | zero => intro q of oc ow os a1 a2 a3 out h; cases h
  | succ n ih =>
    intro q of oc ow os a1 a2 a3
    exact c_X3_sideWins (q := q) (pX3_winsByCalling (zsw n)) (rmzs (rmS n)) ⟨rfl, rfl⟩ (fun q of oc ow os b1 b2 b3 b4 => c_X3_winsByCalling (q := q) (zsw n) (rmS n) (rmS_0 n) ih of oc ow os b1 b2 b3 b4) of oc ow os a1 a2 a3
theorem c_zwb (n : Nat) (q : Nat → Nat) (of oc ow os : Ob) (a1 a2 a3 a4 : Int32) : zCi l D tA yX3_winsByCalling cX3_winsByCalling 8 .boolean (rmW n) [.ref (q 0), .int a1, .int a2, .int a3, .int a4] (WDu tA q of oc ow os) (fun (r : Int32) => r) (fun (r : Int32) => (WDu tA q of oc ow os)) (zwb n of oc ow os a1 a2 a3 a4) :=
  c_X3_winsByCalling (q := q) (zsw n) (rmS n) (rmS_0 n) (c_zsw n) of oc ow os a1 a2 a3 a4
abbrev rmX3_isWon : Room := { frames := 21, cells := 0, slots := 0, locals := 1024 }
def pX3_isWon (of : Ob) (oc : Ob) (ow : Ob) (os : Ob) : Option Int32 :=
  Option.bind (zsw 10 of oc ow os (gi of 2) (gi of 3) (0 : Int32)) fun (r1 : Int32) =>
  zgz r1 (some r1)
set_option maxHeartbeats 4000000 in
set_option maxRecDepth 100000 in
theorem c_X3_isWon {q : Nat → Nat} (of : Ob) (oc : Ob) (ow : Ob) (os : Ob) : zCi l D tA yX3_isWon cX3_isWon 1 .boolean rmX3_isWon [.ref (q 0)] (WDu tA q of oc ow os) (fun (r : Int32) => r) (fun (r : Int32) => (WDu tA q of oc ow os)) (pX3_isWon of oc ow os) := by
  refine zCi_of (lv0 := [some (.ref (q 0))]) (by decide +kernel) (Nat.le_of_ble_eq_true rfl) rfl (fun X out F hr => ?_)
  unfold pX3_isWon
  refine y_aload_n (pc := 0) F dX3_isWon_0 rfl ?_
  refine y_aload_n (pc := 1) F dX3_isWon_1 rfl ?_
  refine y_get (pc := 2) F dX3_isWon_2 kF_X3_19 0 WDu_at0 rfl ?_
  refine y_aload_n (pc := 5) F dX3_isWon_5 rfl ?_
  refine y_get (pc := 6) F dX3_isWon_6 kF_X3_61 0 WDu_at0 rfl ?_
  refine y_iconst (v := 0) (pc := 9) F dX3_isWon_9 rfl ?_
  refine y_calliW (As := [.int (gi of 2), .int (gi of 3), .int (0 : Int32)]) (st := []) (q0 := 0) (pc := 10) F (c_zsw 10 q of oc ow os (gi of 2) (gi of 3) (0 : Int32)) dX3_isWon_10 kM_X3_71 ⟨rfl, rfl⟩ ⟨Nat.le_of_ble_eq_true rfl, Nat.le_of_ble_eq_true rfl⟩ rfl rfl rfl (Nat.le_of_ble_eq_true rfl) rfl rfl WDu_at0 (fun r1 => ?_)
  exact y_zret hr dX3_isWon_13 rfl rfl
abbrev rmX3_bestCall : Room := { frames := 22, cells := 0, slots := 0, locals := 1077 }
def lX3_bestCall_2 (of : Ob) (oc : Ob) (ow : Ob) (os : Ob) : Nat → Int32 → Option Int32
  | 0, _ => none
  | f + 1, x1 =>
    if (12 : Int32) ≤ x1 then (some (-1 : Int32))
    else (Option.bind (pX3_has (gi of 2) x1) fun (r2 : Int32) =>
    zjn (zlet (x1 + (1 : Int32)) fun (x3 : Int32) =>
    lX3_bestCall_2 of oc ow os f x3) fun (K38 : Option Int32) =>
    if r2 = 0 then (K38)
    else (Option.bind (zwb 10 of oc ow os x1 (gi of 2) (gi of 3) (0 : Int32)) fun (r4 : Int32) =>
    if r4 = 0 then (K38)
    else (some x1)))
def pX3_bestCall (of : Ob) (oc : Ob) (ow : Ob) (os : Ob) : Option Int32 :=
  lX3_bestCall_2 of oc ow os zfu (0 : Int32)
set_option maxHeartbeats 4000000 in
set_option maxRecDepth 100000 in
theorem wlX3_bestCall_2 {X : ZX} {out : Int32} (q : Nat → Nat) (of : Ob) (oc : Ob) (ow : Ob) (os : Ob) (F : zF l D tA RX3 cX3_bestCall 2 rmX3_bestCall X) (hr : zRi X D cX3_bestCall .int (fun (r : Int32) => r) (fun (r : Int32) => (WDu tA q of oc ow os)) out) : ∀ (f : Nat) (x1 : Int32), zY X D out (lX3_bestCall_2 of oc ow os f x1) (WDu tA q of oc ow os) 2 [some (.ref (q 0)), some (.int x1)] [] := by
  intro f
  induction f with
  | zero =>
    intro x1
    exact y_none
  | succ f ih =>
    intro x1
    rw [lX3_bestCall_2.eq_2]
    refine y_iload_n (pc := 2) F dX3_bestCall_2 rfl ?_
    refine y_bipush (v := 12) (pc := 3) F dX3_bestCall_3 rfl ?_
    refine y_icmp_ge (pc := 5) (tgt := 44) F dX3_bestCall_5 rfl ?_ ?_
    · refine y_iconst (v := -1) (pc := 44) F dX3_bestCall_44 rfl ?_
      exact y_iret hr dX3_bestCall_45 rfl rfl
    · refine y_aload_n (pc := 8) F dX3_bestCall_8 rfl ?_
      refine y_get (pc := 9) F dX3_bestCall_9 kF_X3_19 0 WDu_at0 rfl ?_
      refine y_iload_n (pc := 12) F dX3_bestCall_12 rfl ?_
      refine y_scalliP (As := [.int (gi of 2), .int x1]) (st := []) (pc := 13) F (c_X3_has (q := q) (gi of 2) x1) dX3_bestCall_13 kM_X3_75 ⟨rfl, rfl⟩ ⟨Nat.le_of_ble_eq_true rfl, Nat.le_of_ble_eq_true rfl⟩ rfl rfl rfl (Nat.le_of_ble_eq_true rfl) (fun r2 => ?_)
      refine y_jn (fun (K38 : Option Int32) => zY X D out (K38) (WDu tA q of oc ow os) 38 [some (.ref (q 0)), some (.int x1)] []) ?_ ?_
      · skip
        refine y_iinc (v := 1) (lf := fun (x3 : Int32) => [some (.ref (q 0)), some (.int x3)]) (pc := 38) F dX3_bestCall_38 rfl rfl rfl (fun _ => rfl) (fun x3 => ?_)
        refine y_goto (tgt := 2) (pc := 41) F dX3_bestCall_41 rfl ?_
        exact ih x3
      intro K38 hK38
      refine y_if_eq (pc := 16) (tgt := 38) F dX3_bestCall_16 rfl ?_ ?_
      · exact hK38
      · refine y_aload_n (pc := 19) F dX3_bestCall_19 rfl ?_
        refine y_iload_n (pc := 20) F dX3_bestCall_20 rfl ?_
        refine y_aload_n (pc := 21) F dX3_bestCall_21 rfl ?_
        refine y_get (pc := 22) F dX3_bestCall_22 kF_X3_19 0 WDu_at0 rfl ?_
        refine y_aload_n (pc := 25) F dX3_bestCall_25 rfl ?_
        refine y_get (pc := 26) F dX3_bestCall_26 kF_X3_61 0 WDu_at0 rfl ?_
        refine y_iconst (v := 0) (pc := 29) F dX3_bestCall_29 rfl ?_
        refine y_calliW (As := [.int x1, .int (gi of 2), .int (gi of 3), .int (0 : Int32)]) (st := []) (q0 := 0) (pc := 30) F (c_zwb 10 q of oc ow os x1 (gi of 2) (gi of 3) (0 : Int32)) dX3_bestCall_30 kM_X3_78 ⟨rfl, rfl⟩ ⟨Nat.le_of_ble_eq_true rfl, Nat.le_of_ble_eq_true rfl⟩ rfl rfl rfl (Nat.le_of_ble_eq_true rfl) rfl rfl WDu_at0 (fun r4 => ?_)
        refine y_if_eq (pc := 33) (tgt := 38) F dX3_bestCall_33 rfl ?_ ?_
        · exact hK38
        · refine y_iload_n (pc := 36) F dX3_bestCall_36 rfl ?_
          exact y_iret hr dX3_bestCall_37 rfl rfl
set_option maxHeartbeats 4000000 in
set_option maxRecDepth 100000 in
theorem c_X3_bestCall {q : Nat → Nat} (of : Ob) (oc : Ob) (ow : Ob) (os : Ob) : zCi l D tA yX3_bestCall cX3_bestCall 2 .int rmX3_bestCall [.ref (q 0)] (WDu tA q of oc ow os) (fun (r : Int32) => r) (fun (r : Int32) => (WDu tA q of oc ow os)) (pX3_bestCall of oc ow os) := by
  refine zCi_of (lv0 := [some (.ref (q 0)), none]) (by decide +kernel) (Nat.le_of_ble_eq_true rfl) rfl (fun X out F hr => ?_)
  unfold pX3_bestCall
  refine y_iconst (v := 0) (pc := 0) F dX3_bestCall_0 rfl ?_
  refine y_istore_n (lv' := [some (.ref (q 0)), some (.int (0 : Int32))]) (pc := 1) F dX3_bestCall_1 (Nat.le_of_ble_eq_true rfl) rfl rfl ?_
  exact wlX3_bestCall_2 q of oc ow os F hr zfu (0 : Int32)
abbrev rmX8_speakersNeeded : Room := { frames := 3, cells := 0, slots := 0, locals := 67 }
def lX8_speakersNeeded_58 (oc : Ob) (ow : Ob) (os : Ob) (a1 : Int32) (x2 : Int32) (r3 : Int32) (K140 : Int32 → Int32 → Option Int32) : Nat → Int32 → Int32 → Int32 → Option Int32
  | 0, _, _, _ => none
  | f + 1, x7, x8, x9 =>
    if (gi oc 1) ≤ x9 then (K140 x7 x8)
    else (if (12 : Int32) ≤ x9 then (K140 x7 x8)
    else (if r3 ≤ x7 then (K140 x7 x8)
    else (zgd x9 12 <| zjn (fun (x10 : Int32) (x11 : Int32) =>
    zlet (x9 + (1 : Int32)) fun (x12 : Int32) =>
    lX8_speakersNeeded_58 oc ow os a1 x2 r3 K140 f x10 x11 x12) fun (K134 : Int32 → Int32 → Option Int32) =>
    if (ga oc 5 (x9.toNatClampNeg)) = a1 then (Option.bind (pX9_mayBeCalled oc ow os x9 x2) fun (r13 : Int32) =>
    if r13 = 0 then (K134 x7 x8)
    else (Option.bind (pX9_freshOn oc ow os x9 x2) fun (r14 : Int32) =>
    zlet ((x7 + r14)) fun (x15 : Int32) =>
    zlet (x8 + (1 : Int32)) fun (x16 : Int32) =>
    K134 x15 x16))
    else (K134 x7 x8))))
def pX8_speakersNeeded (oh : Ob) (oc : Ob) (ow : Ob) (os : Ob) (a1 : Int32) : Option Int32 :=
  Option.bind (pX9_goesOn oc ow os a1) fun (r1 : Int32) =>
  if r1 = 0 then (some (1000 : Int32))
  else (zlet ((gi os 0)) fun (x2 : Int32) =>
  Option.bind (pX2_goalOf oc a1) fun (r3 : Int32) =>
  zgd a1 6 <| zlet ((ga os 6 (a1.toNatClampNeg))) fun (x4 : Int32) =>
  zjn (fun (x5 : Int32) (x6 : Int32) =>
  if x5 < r3 then (some (1000 : Int32))
  else (some x6)) fun (K140 : Int32 → Int32 → Option Int32) =>
  lX8_speakersNeeded_58 oc ow os a1 x2 r3 K140 zfu x4 (0 : Int32) (0 : Int32))
set_option maxHeartbeats 4000000 in
set_option maxRecDepth 100000 in
theorem wlX8_speakersNeeded_58 {X : ZX} {out : Int32} (q : Nat → Nat) (oh : Ob) (oc : Ob) (ow : Ob) (os : Ob) (a1 : Int32) (x2 : Int32) (r3 : Int32) (F : zF l D tA RX8 cX8_speakersNeeded 7 rmX8_speakersNeeded X) (hr : zRi X D cX8_speakersNeeded .int (fun (r : Int32) => r) (fun (r : Int32) => (WTo tA q oh oc ow os)) out) {K140 : Int32 → Int32 → Option Int32} (hK140 : ∀ (x5 : Int32) (x6 : Int32), zY X D out (K140 x5 x6) (WTo tA q oh oc ow os) 140 [none, none, none, some (.int r3), some (.int x5), some (.int x6), none] []) : ∀ (f : Nat) (x7 : Int32) (x8 : Int32) (x9 : Int32), zY X D out (lX8_speakersNeeded_58 oc ow os a1 x2 r3 K140 f x7 x8 x9) (WTo tA q oh oc ow os) 58 [some (.ref (q 0)), some (.int a1), some (.int x2), some (.int r3), some (.int x7), some (.int x8), some (.int x9)] [] := by
  intro f
  induction f with
  | zero =>
    intro x7 x8 x9
    exact y_none
  | succ f ih =>
    intro x7 x8 x9
    rw [lX8_speakersNeeded_58.eq_2]
    refine y_iload (pc := 58) F dX8_speakersNeeded_58 rfl ?_
    refine y_aload_n (pc := 60) F dX8_speakersNeeded_60 rfl ?_
    refine y_get (pc := 61) F dX8_speakersNeeded_61 kF_X8_15 0 WTo_at0 rfl ?_
    refine y_get (pc := 64) F dX8_speakersNeeded_64 kF_X8_19 2 WTo_at2 rfl ?_
    refine y_get (pc := 67) F dX8_speakersNeeded_67 kF_X8_71 3 WTo_at3 rfl ?_
    refine y_icmp_ge (pc := 70) (tgt := 140) F dX8_speakersNeeded_70 rfl ?_ ?_
    · refine y_le (lv' := [none, none, none, some (.int r3), some (.int x7), some (.int x8), none]) ⟨rfl, ⟨rfl, ⟨rfl, trivial⟩⟩⟩ ?_
      exact hK140 x7 x8
    · refine y_iload (pc := 73) F dX8_speakersNeeded_73 rfl ?_
      refine y_bipush (v := 12) (pc := 75) F dX8_speakersNeeded_75 rfl ?_
      refine y_icmp_ge (pc := 77) (tgt := 140) F dX8_speakersNeeded_77 rfl ?_ ?_
      · refine y_le (lv' := [none, none, none, some (.int r3), some (.int x7), some (.int x8), none]) ⟨rfl, ⟨rfl, ⟨rfl, trivial⟩⟩⟩ ?_
        exact hK140 x7 x8
      · refine y_iload (pc := 80) F dX8_speakersNeeded_80 rfl ?_
        refine y_iload_n (pc := 82) F dX8_speakersNeeded_82 rfl ?_
        refine y_icmp_ge (pc := 83) (tgt := 140) F dX8_speakersNeeded_83 rfl ?_ ?_
        · refine y_le (lv' := [none, none, none, some (.int r3), some (.int x7), some (.int x8), none]) ⟨rfl, ⟨rfl, ⟨rfl, trivial⟩⟩⟩ ?_
          exact hK140 x7 x8
        · refine y_aload_n (pc := 86) F dX8_speakersNeeded_86 rfl ?_
          refine y_get (pc := 87) F dX8_speakersNeeded_87 kF_X8_15 0 WTo_at0 rfl ?_
          refine y_get (pc := 90) F dX8_speakersNeeded_90 kF_X8_19 2 WTo_at2 rfl ?_
          refine y_get (pc := 93) F dX8_speakersNeeded_93 kF_X8_74 3 WTo_at3 rfl ?_
          refine y_iload (pc := 96) F dX8_speakersNeeded_96 rfl ?_
          refine y_iald (pc := 98) F dX8_speakersNeeded_98 7 WTo_at7 ?_
          refine y_iload_n (pc := 99) F dX8_speakersNeeded_99 rfl ?_
          refine y_jn (fun (K134 : Int32 → Int32 → Option Int32) => ∀ (x10 : Int32) (x11 : Int32), zY X D out (K134 x10 x11) (WTo tA q oh oc ow os) 134 [some (.ref (q 0)), some (.int a1), some (.int x2), some (.int r3), some (.int x10), some (.int x11), some (.int x9)] []) ?_ ?_
          · intro x10 x11
            refine y_iinc (v := 1) (lf := fun (x12 : Int32) => [some (.ref (q 0)), some (.int a1), some (.int x2), some (.int r3), some (.int x10), some (.int x11), some (.int x12)]) (pc := 134) F dX8_speakersNeeded_134 rfl rfl rfl (fun _ => rfl) (fun x12 => ?_)
            refine y_goto (tgt := 58) (pc := 137) F dX8_speakersNeeded_137 rfl ?_
            exact ih x10 x11 x12
          intro K134 hK134
          refine y_icmp_ne (pc := 100) (tgt := 134) F dX8_speakersNeeded_100 rfl ?_ ?_
          · refine y_aload_n (pc := 103) F dX8_speakersNeeded_103 rfl ?_
            refine y_get (pc := 104) F dX8_speakersNeeded_104 kF_X8_15 0 WTo_at0 rfl ?_
            refine y_iload (pc := 107) F dX8_speakersNeeded_107 rfl ?_
            refine y_iload_n (pc := 109) F dX8_speakersNeeded_109 rfl ?_
            refine y_calliR (As := [.int x9, .int x2]) (st := []) (q0 := 2) (pc := 110) F (c_X9_mayBeCalled (q := zq q [2, 3, 4, 5, 6, 7, 8, 9, 10, 11, 12, 13, 14, 15, 16, 17, 18, 19, 20, 21, 22, 23, 24, 25, 26, 27, 28]) oc ow os x9 x2) dX8_speakersNeeded_110 kM_X8_77 ⟨rfl, rfl⟩ ⟨Nat.le_of_ble_eq_true rfl, Nat.le_of_ble_eq_true rfl⟩ rfl rfl rfl (Nat.le_of_ble_eq_true rfl) rfl rfl WTo_at2 [2, 3, 4, 5, 6, 7, 8, 9, 10, 11, 12, 13, 14, 15, 16, 17, 18, 19, 20, 21, 22, 23, 24, 25, 26, 27, 28] zn12_c zn12_n (fun r13 => ?_)
            refine y_if_eq (pc := 113) (tgt := 134) F dX8_speakersNeeded_113 rfl ?_ ?_
            · exact hK134 x7 x8
            · refine y_iload (pc := 116) F dX8_speakersNeeded_116 rfl ?_
              refine y_aload_n (pc := 118) F dX8_speakersNeeded_118 rfl ?_
              refine y_get (pc := 119) F dX8_speakersNeeded_119 kF_X8_15 0 WTo_at0 rfl ?_
              refine y_iload (pc := 122) F dX8_speakersNeeded_122 rfl ?_
              refine y_iload_n (pc := 124) F dX8_speakersNeeded_124 rfl ?_
              refine y_calliR (As := [.int x9, .int x2]) (st := [.int x7]) (q0 := 2) (pc := 125) F (c_X9_freshOn (q := zq q [2, 3, 4, 5, 6, 7, 8, 9, 10, 11, 12, 13, 14, 15, 16, 17, 18, 19, 20, 21, 22, 23, 24, 25, 26, 27, 28]) oc ow os x9 x2) dX8_speakersNeeded_125 kM_X8_81 ⟨rfl, rfl⟩ ⟨Nat.le_of_ble_eq_true rfl, Nat.le_of_ble_eq_true rfl⟩ rfl rfl rfl (Nat.le_of_ble_eq_true rfl) rfl rfl WTo_at2 [2, 3, 4, 5, 6, 7, 8, 9, 10, 11, 12, 13, 14, 15, 16, 17, 18, 19, 20, 21, 22, 23, 24, 25, 26, 27, 28] zn12_c zn12_n (fun r14 => ?_)
              refine y_iadd (pc := 128) F dX8_speakersNeeded_128 ?_
              refine y_lti (fun x15 => ?_)
              refine y_istore (lv' := [some (.ref (q 0)), some (.int a1), some (.int x2), some (.int r3), some (.int x15), some (.int x8), some (.int x9)]) (pc := 129) F dX8_speakersNeeded_129 (Nat.le_of_ble_eq_true rfl) rfl rfl ?_
              refine y_iinc (v := 1) (lf := fun (x16 : Int32) => [some (.ref (q 0)), some (.int a1), some (.int x2), some (.int r3), some (.int x15), some (.int x16), some (.int x9)]) (pc := 131) F dX8_speakersNeeded_131 rfl rfl rfl (fun _ => rfl) (fun x16 => ?_)
              exact hK134 x15 x16
          · exact hK134 x7 x8
set_option maxHeartbeats 4000000 in
set_option maxRecDepth 100000 in
theorem c_X8_speakersNeeded {q : Nat → Nat} (oh : Ob) (oc : Ob) (ow : Ob) (os : Ob) (a1 : Int32) : zCi l D tA yX8_speakersNeeded cX8_speakersNeeded 7 .int rmX8_speakersNeeded [.ref (q 0), .int a1] (WTo tA q oh oc ow os) (fun (r : Int32) => r) (fun (r : Int32) => (WTo tA q oh oc ow os)) (pX8_speakersNeeded oh oc ow os a1) := by
  refine zCi_of (lv0 := [some (.ref (q 0)), some (.int a1), none, none, none, none, none]) (by decide +kernel) (Nat.le_of_ble_eq_true rfl) rfl (fun X out F hr => ?_)
  unfold pX8_speakersNeeded
  refine y_aload_n (pc := 0) F dX8_speakersNeeded_0 rfl ?_
  refine y_get (pc := 1) F dX8_speakersNeeded_1 kF_X8_15 0 WTo_at0 rfl ?_
  refine y_iload_n (pc := 4) F dX8_speakersNeeded_4 rfl ?_
  refine y_calliR (As := [.int a1]) (st := []) (q0 := 2) (pc := 5) F (c_X9_goesOn (q := zq q [2, 3, 4, 5, 6, 7, 8, 9, 10, 11, 12, 13, 14, 15, 16, 17, 18, 19, 20, 21, 22, 23, 24, 25, 26, 27, 28]) oc ow os a1) dX8_speakersNeeded_5 kM_X8_61 ⟨rfl, rfl⟩ ⟨Nat.le_of_ble_eq_true rfl, Nat.le_of_ble_eq_true rfl⟩ rfl rfl rfl (Nat.le_of_ble_eq_true rfl) rfl rfl WTo_at2 [2, 3, 4, 5, 6, 7, 8, 9, 10, 11, 12, 13, 14, 15, 16, 17, 18, 19, 20, 21, 22, 23, 24, 25, 26, 27, 28] zn12_c zn12_n (fun r1 => ?_)
  refine y_if_ne (pc := 8) (tgt := 15) F dX8_speakersNeeded_8 rfl ?_ ?_
  · refine y_sipush (v := 1000) (pc := 11) F dX8_speakersNeeded_11 rfl ?_
    exact y_iret hr dX8_speakersNeeded_14 rfl rfl
  · refine y_aload_n (pc := 15) F dX8_speakersNeeded_15 rfl ?_
    refine y_get (pc := 16) F dX8_speakersNeeded_16 kF_X8_15 0 WTo_at0 rfl ?_
    refine y_get (pc := 19) F dX8_speakersNeeded_19 kF_X8_37 2 WTo_at2 rfl ?_
    refine y_get (pc := 22) F dX8_speakersNeeded_22 kF_X8_41 15 WTo_at15 rfl ?_
    refine y_lti (fun x2 => ?_)
    refine y_istore_n (lv' := [some (.ref (q 0)), some (.int a1), some (.int x2), none, none, none, none]) (pc := 25) F dX8_speakersNeeded_25 (Nat.le_of_ble_eq_true rfl) rfl rfl ?_
    refine y_aload_n (pc := 26) F dX8_speakersNeeded_26 rfl ?_
    refine y_get (pc := 27) F dX8_speakersNeeded_27 kF_X8_15 0 WTo_at0 rfl ?_
    refine y_get (pc := 30) F dX8_speakersNeeded_30 kF_X8_19 2 WTo_at2 rfl ?_
    refine y_iload_n (pc := 33) F dX8_speakersNeeded_33 rfl ?_
    refine y_calliR (As := [.int a1]) (st := []) (q0 := 3) (pc := 34) F (c_X2_goalOf (q := zq q [3, 4, 5, 6, 7, 8, 9]) oc a1) dX8_speakersNeeded_34 kM_X8_65 ⟨rfl, rfl⟩ ⟨Nat.le_of_ble_eq_true rfl, Nat.le_of_ble_eq_true rfl⟩ rfl rfl rfl (Nat.le_of_ble_eq_true rfl) rfl rfl WTo_at3 [3, 4, 5, 6, 7, 8, 9] zn13_c zn13_n (fun r3 => ?_)
    refine y_istore_n (lv' := [some (.ref (q 0)), some (.int a1), some (.int x2), some (.int r3), none, none, none]) (pc := 37) F dX8_speakersNeeded_37 (Nat.le_of_ble_eq_true rfl) rfl rfl ?_
    refine y_aload_n (pc := 38) F dX8_speakersNeeded_38 rfl ?_
    refine y_get (pc := 39) F dX8_speakersNeeded_39 kF_X8_15 0 WTo_at0 rfl ?_
    refine y_get (pc := 42) F dX8_speakersNeeded_42 kF_X8_37 2 WTo_at2 rfl ?_
    refine y_get (pc := 45) F dX8_speakersNeeded_45 kF_X8_68 15 WTo_at15 rfl ?_
    refine y_iload_n (pc := 48) F dX8_speakersNeeded_48 rfl ?_
    refine y_iald (pc := 49) F dX8_speakersNeeded_49 19 WTo_at19 ?_
    refine y_lti (fun x4 => ?_)
    refine y_istore (lv' := [some (.ref (q 0)), some (.int a1), some (.int x2), some (.int r3), some (.int x4), none, none]) (pc := 50) F dX8_speakersNeeded_50 (Nat.le_of_ble_eq_true rfl) rfl rfl ?_
    refine y_iconst (v := 0) (pc := 52) F dX8_speakersNeeded_52 rfl ?_
    refine y_istore (lv' := [some (.ref (q 0)), some (.int a1), some (.int x2), some (.int r3), some (.int x4), some (.int (0 : Int32)), none]) (pc := 53) F dX8_speakersNeeded_53 (Nat.le_of_ble_eq_true rfl) rfl rfl ?_
    refine y_iconst (v := 0) (pc := 55) F dX8_speakersNeeded_55 rfl ?_
    refine y_istore (lv' := [some (.ref (q 0)), some (.int a1), some (.int x2), some (.int r3), some (.int x4), some (.int (0 : Int32)), some (.int (0 : Int32))]) (pc := 56) F dX8_speakersNeeded_56 (Nat.le_of_ble_eq_true rfl) rfl rfl ?_
    refine y_jn (fun (K140 : Int32 → Int32 → Option Int32) => ∀ (x5 : Int32) (x6 : Int32), zY X D out (K140 x5 x6) (WTo tA q oh oc ow os) 140 [none, none, none, some (.int r3), some (.int x5), some (.int x6), none] []) ?_ ?_
    · intro x5 x6
      refine y_iload (pc := 140) F dX8_speakersNeeded_140 rfl ?_
      refine y_iload_n (pc := 142) F dX8_speakersNeeded_142 rfl ?_
      refine y_icmp_lt (pc := 143) (tgt := 151) F dX8_speakersNeeded_143 rfl ?_ ?_
      · refine y_sipush (v := 1000) (pc := 151) F dX8_speakersNeeded_151 rfl ?_
        exact y_iret hr dX8_speakersNeeded_154 rfl rfl
      · refine y_iload (pc := 146) F dX8_speakersNeeded_146 rfl ?_
        refine y_goto (tgt := 154) (pc := 148) F dX8_speakersNeeded_148 rfl ?_
        exact y_iret hr dX8_speakersNeeded_154 rfl rfl
    intro K140 hK140
    exact wlX8_speakersNeeded_58 q oh oc ow os a1 x2 r3 F hr hK140 zfu x4 (0 : Int32) (0 : Int32)
abbrev rmX8_speakersOf : Room := { frames := 0, cells := 0, slots := 0, locals := 0 }
def lX8_speakersOf_4 (oh : Ob) (a1 : Int32) : Nat → Int32 → Int32 → Option Int32
  | 0, _, _ => none
  | f + 1, x1, x2 =>
    if (6 : Int32) ≤ x2 then (some x1)
    else (zjn (fun (x3 : Int32) =>
    zlet (x2 + (1 : Int32)) fun (x4 : Int32) =>
    lX8_speakersOf_4 oh a1 f x3 x4) fun (K28 : Int32 → Option Int32) =>
    if ((a1 >>> (x2 &&& 31)) &&& (1 : Int32)) = (1 : Int32) then (zgd x2 6 <| zlet ((x1 + (ga oh 1 (x2.toNatClampNeg)))) fun (x5 : Int32) =>
    K28 x5)
    else (K28 x1))
def pX8_speakersOf (oh : Ob) (oc : Ob) (ow : Ob) (os : Ob) (a1 : Int32) : Option Int32 :=
  lX8_speakersOf_4 oh a1 zfu (0 : Int32) (0 : Int32)
set_option maxHeartbeats 4000000 in
set_option maxRecDepth 100000 in
theorem wlX8_speakersOf_4 {X : ZX} {out : Int32} (q : Nat → Nat) (oh : Ob) (oc : Ob) (ow : Ob) (os : Ob) (a1 : Int32) (F : zF l D tA RX8 cX8_speakersOf 4 rmX8_speakersOf X) (hr : zRi X D cX8_speakersOf .int (fun (r : Int32) => r) (fun (r : Int32) => (WTo tA q oh oc ow os)) out) : ∀ (f : Nat) (x1 : Int32) (x2 : Int32), zY X D out (lX8_speakersOf_4 oh a1 f x1 x2) (WTo tA q oh oc ow os) 4 [some (.ref (q 0)), some (.int a1), some (.int x1), some (.int x2)] [] := by
  intro f
  induction f with
  | zero =>
    intro x1 x2
    exact y_none
  | succ f ih =>
    intro x1 x2
    rw [lX8_speakersOf_4.eq_2]
    refine y_iload_n (pc := 4) F dX8_speakersOf_4 rfl ?_
    refine y_bipush (v := 6) (pc := 5) F dX8_speakersOf_5 rfl ?_
    refine y_icmp_ge (pc := 7) (tgt := 34) F dX8_speakersOf_7 rfl ?_ ?_
    · refine y_iload_n (pc := 34) F dX8_speakersOf_34 rfl ?_
      exact y_iret hr dX8_speakersOf_35 rfl rfl
    · refine y_iload_n (pc := 10) F dX8_speakersOf_10 rfl ?_
      refine y_iload_n (pc := 11) F dX8_speakersOf_11 rfl ?_
      refine y_ishr (pc := 12) F dX8_speakersOf_12 ?_
      refine y_iconst (v := 1) (pc := 13) F dX8_speakersOf_13 rfl ?_
      refine y_iand (pc := 14) F dX8_speakersOf_14 ?_
      refine y_iconst (v := 1) (pc := 15) F dX8_speakersOf_15 rfl ?_
      refine y_jn (fun (K28 : Int32 → Option Int32) => ∀ (x3 : Int32), zY X D out (K28 x3) (WTo tA q oh oc ow os) 28 [some (.ref (q 0)), some (.int a1), some (.int x3), some (.int x2)] []) ?_ ?_
      · intro x3
        refine y_iinc (v := 1) (lf := fun (x4 : Int32) => [some (.ref (q 0)), some (.int a1), some (.int x3), some (.int x4)]) (pc := 28) F dX8_speakersOf_28 rfl rfl rfl (fun _ => rfl) (fun x4 => ?_)
        refine y_goto (tgt := 4) (pc := 31) F dX8_speakersOf_31 rfl ?_
        exact ih x3 x4
      intro K28 hK28
      refine y_icmp_ne (pc := 16) (tgt := 28) F dX8_speakersOf_16 rfl ?_ ?_
      · refine y_iload_n (pc := 19) F dX8_speakersOf_19 rfl ?_
        refine y_aload_n (pc := 20) F dX8_speakersOf_20 rfl ?_
        refine y_get (pc := 21) F dX8_speakersOf_21 kF_X8_9 0 WTo_at0 rfl ?_
        refine y_iload_n (pc := 24) F dX8_speakersOf_24 rfl ?_
        refine y_iald (pc := 25) F dX8_speakersOf_25 1 WTo_at1 ?_
        refine y_iadd (pc := 26) F dX8_speakersOf_26 ?_
        refine y_lti (fun x5 => ?_)
        refine y_istore_n (lv' := [some (.ref (q 0)), some (.int a1), some (.int x5), some (.int x2)]) (pc := 27) F dX8_speakersOf_27 (Nat.le_of_ble_eq_true rfl) rfl rfl ?_
        exact hK28 x5
      · exact hK28 x1
set_option maxHeartbeats 4000000 in
set_option maxRecDepth 100000 in
theorem c_X8_speakersOf {q : Nat → Nat} (oh : Ob) (oc : Ob) (ow : Ob) (os : Ob) (a1 : Int32) : zCi l D tA yX8_speakersOf cX8_speakersOf 4 .int rmX8_speakersOf [.ref (q 0), .int a1] (WTo tA q oh oc ow os) (fun (r : Int32) => r) (fun (r : Int32) => (WTo tA q oh oc ow os)) (pX8_speakersOf oh oc ow os a1) := by
  refine zCi_of (lv0 := [some (.ref (q 0)), some (.int a1), none, none]) (by decide +kernel) (Nat.le_of_ble_eq_true rfl) rfl (fun X out F hr => ?_)
  unfold pX8_speakersOf
  refine y_iconst (v := 0) (pc := 0) F dX8_speakersOf_0 rfl ?_
  refine y_istore_n (lv' := [some (.ref (q 0)), some (.int a1), some (.int (0 : Int32)), none]) (pc := 1) F dX8_speakersOf_1 (Nat.le_of_ble_eq_true rfl) rfl rfl ?_
  refine y_iconst (v := 0) (pc := 2) F dX8_speakersOf_2 rfl ?_
  refine y_istore_n (lv' := [some (.ref (q 0)), some (.int a1), some (.int (0 : Int32)), some (.int (0 : Int32))]) (pc := 3) F dX8_speakersOf_3 (Nat.le_of_ble_eq_true rfl) rfl rfl ?_
  exact wlX8_speakersOf_4 q oh oc ow os a1 F hr zfu (0 : Int32) (0 : Int32)
abbrev rmX8_winnableTogether : Room := { frames := 4, cells := 0, slots := 0, locals := 93 }
def lX8_winnableTogether_63 (oc : Ob) (ow : Ob) (os : Ob) (x1 : Int32) (r2 : Int32) : Nat → Int32 → Int32 → Ob → Option (Int32 × Ob)
  | 0, _, _, _ => none
  | f + 1, x4, x5, o6 =>
    if ((1 : Int32) <<< (x1 &&& 31)) ≤ x5 then (some (x4, o6))
    else (Option.bind (pJ6_bitCount_0f7a4 x5) fun (r7 : Int32) =>
    Option.bind (pJ6_bitCount_0f7a4 x4) fun (r8 : Int32) =>
    zjn (fun (x9 : Int32) =>
    zlet (x5 + (1 : Int32)) fun (x10 : Int32) =>
    lX8_winnableTogether_63 oc ow os x1 r2 f x9 x10 o6) fun (K96 : Int32 → Option (Int32 × Ob)) =>
    if r7 ≤ r8 then (K96 x4)
    else (Option.bind (pX8_speakersOf o6 oc ow os x5) fun (r11 : Int32) =>
    if r2 < r11 then (K96 x4)
    else (K96 x5)))
def lX8_winnableTogether_36 (oc : Ob) (ow : Ob) (os : Ob) (x1 : Int32) (K58 : Ob → Option (Int32 × Ob)) : Nat → Int32 → Ob → Option (Int32 × Ob)
  | 0, _, _ => none
  | f + 1, x12, o13 =>
    if x1 ≤ x12 then (K58 o13)
    else (Option.bind (pX8_speakersNeeded o13 oc ow os x12) fun (r14 : Int32) =>
    zgd x12 6 <| zlet (sa o13 1 (upd (ga o13 1) (x12.toNatClampNeg) r14)) fun (o15 : Ob) =>
    zlet (x12 + (1 : Int32)) fun (x16 : Int32) =>
    lX8_winnableTogether_36 oc ow os x1 K58 f x16 o15)
def pX8_winnableTogether (oh : Ob) (oc : Ob) (ow : Ob) (os : Ob) : Option (Int32 × Ob) :=
  zlet ((if (gi oc 0) < (6 : Int32) then (gi oc 0) else (6 : Int32))) fun (x1 : Int32) =>
  Option.bind (pX9_roomOn oc ow os (gi os 0)) fun (r2 : Int32) =>
  zjn (fun (o3 : Ob) =>
  lX8_winnableTogether_63 oc ow os x1 r2 zfu (0 : Int32) (0 : Int32) o3) fun (K58 : Ob → Option (Int32 × Ob)) =>
  lX8_winnableTogether_36 oc ow os x1 K58 zfu (0 : Int32) oh
set_option maxHeartbeats 4000000 in
set_option maxRecDepth 100000 in
theorem wlX8_winnableTogether_63 {X : ZX} {out : (Int32 × Ob)} (q : Nat → Nat) (oc : Ob) (ow : Ob) (os : Ob) (x1 : Int32) (r2 : Int32) (F : zF l D tA RX8 cX8_winnableTogether 5 rmX8_winnableTogether X) (hr : zRi X D cX8_winnableTogether .int (fun (r : Int32 × Ob) => (r.1)) (fun (r : Int32 × Ob) => (WTo tA q (r.2) oc ow os)) out) : ∀ (f : Nat) (x4 : Int32) (x5 : Int32) (o6 : Ob), zY X D out (lX8_winnableTogether_63 oc ow os x1 r2 f x4 x5 o6) (WTo tA q o6 oc ow os) 63 [some (.ref (q 0)), some (.int x1), some (.int r2), some (.int x4), some (.int x5)] [] := by
  intro f
  induction f with
  | zero =>
    intro x4 x5 o6
    exact y_none
  | succ f ih =>
    intro x4 x5 o6
    rw [lX8_winnableTogether_63.eq_2]
    refine y_iload (pc := 63) F dX8_winnableTogether_63 rfl ?_
    refine y_iconst (v := 1) (pc := 65) F dX8_winnableTogether_65 rfl ?_
    refine y_iload_n (pc := 66) F dX8_winnableTogether_66 rfl ?_
    refine y_ishl (pc := 67) F dX8_winnableTogether_67 ?_
    refine y_icmp_ge (pc := 68) (tgt := 102) F dX8_winnableTogether_68 rfl ?_ ?_
    · refine y_iload_n (pc := 102) F dX8_winnableTogether_102 rfl ?_
      exact y_iret hr dX8_winnableTogether_103 rfl rfl
    · refine y_iload (pc := 71) F dX8_winnableTogether_71 rfl ?_
      refine y_scalliP (As := [.int x5]) (st := []) (pc := 73) F (c_J6_bitCount_0f7a4 (q := q) x5) dX8_winnableTogether_73 kM_X8_53 ⟨rfl, rfl⟩ ⟨Nat.le_of_ble_eq_true rfl, Nat.le_of_ble_eq_true rfl⟩ rfl rfl rfl (Nat.le_of_ble_eq_true rfl) (fun r7 => ?_)
      refine y_iload_n (pc := 76) F dX8_winnableTogether_76 rfl ?_
      refine y_scalliP (As := [.int x4]) (st := [.int r7]) (pc := 77) F (c_J6_bitCount_0f7a4 (q := q) x4) dX8_winnableTogether_77 kM_X8_53 ⟨rfl, rfl⟩ ⟨Nat.le_of_ble_eq_true rfl, Nat.le_of_ble_eq_true rfl⟩ rfl rfl rfl (Nat.le_of_ble_eq_true rfl) (fun r8 => ?_)
      refine y_jn (fun (K96 : Int32 → Option (Int32 × Ob)) => ∀ (x9 : Int32), zY X D out (K96 x9) (WTo tA q o6 oc ow os) 96 [some (.ref (q 0)), some (.int x1), some (.int r2), some (.int x9), some (.int x5)] []) ?_ ?_
      · intro x9
        refine y_iinc (v := 1) (lf := fun (x10 : Int32) => [some (.ref (q 0)), some (.int x1), some (.int r2), some (.int x9), some (.int x10)]) (pc := 96) F dX8_winnableTogether_96 rfl rfl rfl (fun _ => rfl) (fun x10 => ?_)
        refine y_goto (tgt := 63) (pc := 99) F dX8_winnableTogether_99 rfl ?_
        exact ih x9 x10 o6
      intro K96 hK96
      refine y_icmp_le (pc := 80) (tgt := 96) F dX8_winnableTogether_80 rfl ?_ ?_
      · exact hK96 x4
      · refine y_aload_n (pc := 83) F dX8_winnableTogether_83 rfl ?_
        refine y_iload (pc := 84) F dX8_winnableTogether_84 rfl ?_
        refine y_calliW (As := [.int x5]) (st := []) (q0 := 0) (pc := 86) F (c_X8_speakersOf (q := q) o6 oc ow os x5) dX8_winnableTogether_86 kM_X8_58 ⟨rfl, rfl⟩ ⟨Nat.le_of_ble_eq_true rfl, Nat.le_of_ble_eq_true rfl⟩ rfl rfl rfl (Nat.le_of_ble_eq_true rfl) rfl rfl WTo_at0 (fun r11 => ?_)
        refine y_iload_n (pc := 89) F dX8_winnableTogether_89 rfl ?_
        refine y_icmp_gt (pc := 90) (tgt := 96) F dX8_winnableTogether_90 rfl ?_ ?_
        · exact hK96 x4
        · refine y_iload (pc := 93) F dX8_winnableTogether_93 rfl ?_
          refine y_istore_n (lv' := [some (.ref (q 0)), some (.int x1), some (.int r2), some (.int x5), some (.int x5)]) (pc := 95) F dX8_winnableTogether_95 (Nat.le_of_ble_eq_true rfl) rfl rfl ?_
          exact hK96 x5
set_option maxHeartbeats 4000000 in
set_option maxRecDepth 100000 in
theorem wlX8_winnableTogether_36 {X : ZX} {out : (Int32 × Ob)} (q : Nat → Nat) (oc : Ob) (ow : Ob) (os : Ob) (x1 : Int32) (r2 : Int32) (F : zF l D tA RX8 cX8_winnableTogether 5 rmX8_winnableTogether X) (hr : zRi X D cX8_winnableTogether .int (fun (r : Int32 × Ob) => (r.1)) (fun (r : Int32 × Ob) => (WTo tA q (r.2) oc ow os)) out) {K58 : Ob → Option (Int32 × Ob)} (hK58 : ∀ (o3 : Ob), zY X D out (K58 o3) (WTo tA q o3 oc ow os) 58 [some (.ref (q 0)), some (.int x1), some (.int r2), none, none] []) : ∀ (f : Nat) (x12 : Int32) (o13 : Ob), zY X D out (lX8_winnableTogether_36 oc ow os x1 K58 f x12 o13) (WTo tA q o13 oc ow os) 36 [some (.ref (q 0)), some (.int x1), some (.int r2), some (.int x12), none] [] := by
  intro f
  induction f with
  | zero =>
    intro x12 o13
    exact y_none
  | succ f ih =>
    intro x12 o13
    rw [lX8_winnableTogether_36.eq_2]
    refine y_iload_n (pc := 36) F dX8_winnableTogether_36 rfl ?_
    refine y_iload_n (pc := 37) F dX8_winnableTogether_37 rfl ?_
    refine y_icmp_ge (pc := 38) (tgt := 58) F dX8_winnableTogether_38 rfl ?_ ?_
    · refine y_le (lv' := [some (.ref (q 0)), some (.int x1), some (.int r2), none, none]) ⟨rfl, ⟨rfl, ⟨rfl, trivial⟩⟩⟩ ?_
      exact hK58 o13
    · refine y_aload_n (pc := 41) F dX8_winnableTogether_41 rfl ?_
      refine y_get (pc := 42) F dX8_winnableTogether_42 kF_X8_9 0 WTo_at0 rfl ?_
      refine y_iload_n (pc := 45) F dX8_winnableTogether_45 rfl ?_
      refine y_aload_n (pc := 46) F dX8_winnableTogether_46 rfl ?_
      refine y_iload_n (pc := 47) F dX8_winnableTogether_47 rfl ?_
      refine y_calliW (As := [.int x12]) (st := [.int x12, .ref (q 1)]) (q0 := 0) (pc := 48) F (c_X8_speakersNeeded (q := q) o13 oc ow os x12) dX8_winnableTogether_48 kM_X8_50 ⟨rfl, rfl⟩ ⟨Nat.le_of_ble_eq_true rfl, Nat.le_of_ble_eq_true rfl⟩ rfl rfl rfl (Nat.le_of_ble_eq_true rfl) rfl rfl WTo_at0 (fun r14 => ?_)
      refine y_iast (pc := 51) F dX8_winnableTogether_51 1 WTo_at1 (fun (o15 : Ob) => (WTo tA q o15 oc ow os)) (WTo_ar1 _) (fun o15 => ?_)
      refine y_iinc (v := 1) (lf := fun (x16 : Int32) => [some (.ref (q 0)), some (.int x1), some (.int r2), some (.int x16), none]) (pc := 52) F dX8_winnableTogether_52 rfl rfl rfl (fun _ => rfl) (fun x16 => ?_)
      refine y_goto (tgt := 36) (pc := 55) F dX8_winnableTogether_55 rfl ?_
      exact ih x16 o15
set_option maxHeartbeats 4000000 in
set_option maxRecDepth 100000 in
theorem c_X8_winnableTogether {q : Nat → Nat} (oh : Ob) (oc : Ob) (ow : Ob) (os : Ob) : zCi l D tA yX8_winnableTogether cX8_winnableTogether 5 .int rmX8_winnableTogether [.ref (q 0)] (WTo tA q oh oc ow os) (fun (r : Int32 × Ob) => (r.1)) (fun (r : Int32 × Ob) => (WTo tA q (r.2) oc ow os)) (pX8_winnableTogether oh oc ow os) := by
  refine zCi_of (lv0 := [some (.ref (q 0)), none, none, none, none]) (by decide +kernel) (Nat.le_of_ble_eq_true rfl) rfl (fun X out F hr => ?_)
  unfold pX8_winnableTogether
  refine y_bipush (v := 6) (pc := 0) F dX8_winnableTogether_0 rfl ?_
  refine y_aload_n (pc := 2) F dX8_winnableTogether_2 rfl ?_
  refine y_get (pc := 3) F dX8_winnableTogether_3 kF_X8_15 0 WTo_at0 rfl ?_
  refine y_get (pc := 6) F dX8_winnableTogether_6 kF_X8_19 2 WTo_at2 rfl ?_
  refine y_get (pc := 9) F dX8_winnableTogether_9 kF_X8_25 3 WTo_at3 rfl ?_
  refine y_mmin (pc := 12) F dX8_winnableTogether_12 kM_X8_31 ⟨Nat.le_of_ble_eq_true rfl, Nat.le_of_ble_eq_true rfl⟩ rfl ?_
  refine y_lti (fun x1 => ?_)
  refine y_istore_n (lv' := [some (.ref (q 0)), some (.int x1), none, none, none]) (pc := 15) F dX8_winnableTogether_15 (Nat.le_of_ble_eq_true rfl) rfl rfl ?_
  refine y_aload_n (pc := 16) F dX8_winnableTogether_16 rfl ?_
  refine y_get (pc := 17) F dX8_winnableTogether_17 kF_X8_15 0 WTo_at0 rfl ?_
  refine y_aload_n (pc := 20) F dX8_winnableTogether_20 rfl ?_
  refine y_get (pc := 21) F dX8_winnableTogether_21 kF_X8_15 0 WTo_at0 rfl ?_
  refine y_get (pc := 24) F dX8_winnableTogether_24 kF_X8_37 2 WTo_at2 rfl ?_
  refine y_get (pc := 27) F dX8_winnableTogether_27 kF_X8_41 15 WTo_at15 rfl ?_
  refine y_calliR (As := [.int (gi os 0)]) (st := []) (q0 := 2) (pc := 30) F (c_X9_roomOn (q := zq q [2, 3, 4, 5, 6, 7, 8, 9, 10, 11, 12, 13, 14, 15, 16, 17, 18, 19, 20, 21, 22, 23, 24, 25, 26, 27, 28]) oc ow os (gi os 0)) dX8_winnableTogether_30 kM_X8_46 ⟨rfl, rfl⟩ ⟨Nat.le_of_ble_eq_true rfl, Nat.le_of_ble_eq_true rfl⟩ rfl rfl rfl (Nat.le_of_ble_eq_true rfl) rfl rfl WTo_at2 [2, 3, 4, 5, 6, 7, 8, 9, 10, 11, 12, 13, 14, 15, 16, 17, 18, 19, 20, 21, 22, 23, 24, 25, 26, 27, 28] zn12_c zn12_n (fun r2 => ?_)
  refine y_istore_n (lv' := [some (.ref (q 0)), some (.int x1), some (.int r2), none, none]) (pc := 33) F dX8_winnableTogether_33 (Nat.le_of_ble_eq_true rfl) rfl rfl ?_
  refine y_iconst (v := 0) (pc := 34) F dX8_winnableTogether_34 rfl ?_
  refine y_istore_n (lv' := [some (.ref (q 0)), some (.int x1), some (.int r2), some (.int (0 : Int32)), none]) (pc := 35) F dX8_winnableTogether_35 (Nat.le_of_ble_eq_true rfl) rfl rfl ?_
  refine y_jn (fun (K58 : Ob → Option (Int32 × Ob)) => ∀ (o3 : Ob), zY X D out (K58 o3) (WTo tA q o3 oc ow os) 58 [some (.ref (q 0)), some (.int x1), some (.int r2), none, none] []) ?_ ?_
  · intro o3
    refine y_iconst (v := 0) (pc := 58) F dX8_winnableTogether_58 rfl ?_
    refine y_istore_n (lv' := [some (.ref (q 0)), some (.int x1), some (.int r2), some (.int (0 : Int32)), none]) (pc := 59) F dX8_winnableTogether_59 (Nat.le_of_ble_eq_true rfl) rfl rfl ?_
    refine y_iconst (v := 0) (pc := 60) F dX8_winnableTogether_60 rfl ?_
    refine y_istore (lv' := [some (.ref (q 0)), some (.int x1), some (.int r2), some (.int (0 : Int32)), some (.int (0 : Int32))]) (pc := 61) F dX8_winnableTogether_61 (Nat.le_of_ble_eq_true rfl) rfl rfl ?_
    exact wlX8_winnableTogether_63 q oc ow os x1 r2 F hr zfu (0 : Int32) (0 : Int32) o3
  intro K58 hK58
  exact wlX8_winnableTogether_36 q oc ow os x1 r2 F hr hK58 zfu (0 : Int32) oh
end ZC
