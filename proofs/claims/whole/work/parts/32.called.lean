section ZC
variable {l : Launch} {D : va_G} {tA : Nat → ClassId}
abbrev rmX1_prepare : Room := { frames := 3, cells := 0, slots := 0, locals := 67 }
def lX1_prepare_132 (oc : Ob) (ow : Ob) (os : Ob) (x3 : Int32) (K206 : Int32 → Ob → Option Ob) : Nat → Int32 → Int32 → Ob → Option Ob
  | 0, _, _, _ => none
  | f + 1, x19, x20, o21 =>
    if (gi o21 8) ≤ x20 then (K206 x19 o21)
    else (zgd x20 6 <| Option.bind (pX9_mayBeCalled oc ow os (ga o21 1 (x20.toNatClampNeg)) (x3 + x19)) fun (r22 : Int32) =>
    zgd x20 6 <| zjn (fun (y24 : Int64) =>
    zgd x19 31 <| zlet (sb o21 (20 + (x20.toNatClampNeg)) (vp_updL (gb o21 (20 + (x20.toNatClampNeg))) (x19.toNatClampNeg) y24)) fun (o25 : Ob) =>
    zlet (x20 + (1 : Int32)) fun (x26 : Int32) =>
    lX1_prepare_132 oc ow os x3 K206 f x19 x26 o25) fun (K199 : Int64 → Option Ob) =>
    if r22 = 0 then (K199 (-1 : Int64))
    else (zgd x20 6 <| Option.bind (pX9_freshOn oc ow os (ga o21 1 (x20.toNatClampNeg)) (x3 + x19)) fun (r27 : Int32) =>
    K199 (((r27.toInt64) <<< (x19.toInt64 &&& 63)))))
def lX1_prepare_105 (oc : Ob) (ow : Ob) (os : Ob) (x3 : Int32) (K212 : Ob → Option Ob) : Nat → Int32 → Ob → Option Ob
  | 0, _, _ => none
  | f + 1, x12, o13 =>
    if (gi o13 9) < x12 then (K212 o13)
    else (Option.bind (pX9_roomOn oc ow os (x3 + x12)) fun (r14 : Int32) =>
    zgd x12 31 <| zlet (sa o13 3 (upd (ga o13 3) (x12.toNatClampNeg) r14)) fun (o15 : Ob) =>
    zjn (fun (x16 : Int32) (o17 : Ob) =>
    zlet (x16 + (1 : Int32)) fun (x18 : Int32) =>
    lX1_prepare_105 oc ow os x3 K212 f x18 o17) fun (K206 : Int32 → Ob → Option Ob) =>
    lX1_prepare_132 oc ow os x3 K206 zfu x12 (0 : Int32) o15)
def lX1_prepare_7 (oc : Ob) (a1 : Int32) (K78 : Ob → Option Ob) : Nat → Int32 → Ob → Option Ob
  | 0, _, _ => none
  | f + 1, x28, o29 =>
    if (gi oc 1) ≤ x28 then (K78 o29)
    else (if (12 : Int32) ≤ x28 then (K78 o29)
    else (zgd x28 12 <| zjn (fun (o30 : Ob) =>
    zlet (x28 + (1 : Int32)) fun (x31 : Int32) =>
    lX1_prepare_7 oc a1 K78 f x31 o30) fun (K72 : Ob → Option Ob) =>
    if (ga oc 5 (x28.toNatClampNeg)) = a1 then (if (6 : Int32) ≤ (gi o29 8) then (K72 o29)
    else (zgd (gi o29 8) 6 <| zlet (sa o29 1 (upd (ga o29 1) ((gi o29 8).toNatClampNeg) x28)) fun (o32 : Ob) =>
    zlet (si o32 8 ((gi o32 8) + (1 : Int32))) fun (o33 : Ob) =>
    K72 o33))
    else (K72 o29)))
def pX1_prepare (oe : Ob) (oc : Ob) (ow : Ob) (os : Ob) (a1 : Int32) : Option Ob :=
  zlet (si oe 8 (0 : Int32)) fun (o1 : Ob) =>
  zjn (fun (o2 : Ob) =>
  zlet ((gi os 0)) fun (x3 : Int32) =>
  zlet ((if ((399 : Int32) - x3) < (30 : Int32) then ((399 : Int32) - x3) else (30 : Int32))) fun (x4 : Int32) =>
  zlet (si o2 9 x4) fun (o5 : Ob) =>
  zjn (fun (o6 : Ob) =>
  Option.bind (pX2_hasSuit oc a1) fun (r7 : Int32) =>
  zjn (fun (y8 : Int64) =>
  zlet (sl o6 10 y8) fun (o9 : Ob) =>
  Option.bind (pX2_goalOf oc a1) fun (r10 : Int32) =>
  zlet (sl o9 11 (r10.toInt64)) fun (o11 : Ob) =>
  some o11) fun (K244 : Int64 → Option Ob) =>
  if r7 = 0 then (K244 (0 : Int64))
  else (zgd a1 6 <| K244 (((ga os 6 (a1.toNatClampNeg)).toInt64)))) fun (K212 : Ob → Option Ob) =>
  lX1_prepare_105 oc ow os x3 K212 zfu (0 : Int32) o5) fun (K78 : Ob → Option Ob) =>
  lX1_prepare_7 oc a1 K78 zfu (0 : Int32) o1
set_option maxHeartbeats 4000000 in
set_option maxRecDepth 100000 in
theorem wlX1_prepare_132 {X : ZX} {out : Ob} (q : Nat → Nat) (oc : Ob) (ow : Ob) (os : Ob) (a1 : Int32) (x3 : Int32) (F : zF l D tA RX1 cX1_prepare 6 rmX1_prepare X) (hr : zRv X D cX1_prepare (fun (r : Ob) => (WCa tA q r oc ow os)) out) {K206 : Int32 → Ob → Option Ob} (hK206 : ∀ (x16 : Int32) (o17 : Ob), zY X D out (K206 x16 o17) (WCa tA q o17 oc ow os) 206 [some (.ref (q 0)), some (.int a1), some (.int x3), some (.int x16), none, none] []) : ∀ (f : Nat) (x19 : Int32) (x20 : Int32) (o21 : Ob), zY X D out (lX1_prepare_132 oc ow os x3 K206 f x19 x20 o21) (WCa tA q o21 oc ow os) 132 [some (.ref (q 0)), some (.int a1), some (.int x3), some (.int x19), some (.int x20), none] [] := by
  intro f
  induction f with
  | zero =>
    intro x19 x20 o21
    exact y_none
  | succ f ih =>
    intro x19 x20 o21
    rw [lX1_prepare_132.eq_2]
    refine y_iload (pc := 132) F dX1_prepare_132 rfl ?_
    refine y_aload_n (pc := 134) F dX1_prepare_134 rfl ?_
    refine y_get (pc := 135) F dX1_prepare_135 kF_X1_81 0 WCa_at0 rfl ?_
    refine y_icmp_ge (pc := 138) (tgt := 206) F dX1_prepare_138 rfl ?_ ?_
    · refine y_le (lv' := [some (.ref (q 0)), some (.int a1), some (.int x3), some (.int x19), none, none]) ⟨rfl, ⟨rfl, ⟨rfl, ⟨rfl, trivial⟩⟩⟩⟩ ?_
      exact hK206 x19 o21
    · refine y_aload_n (pc := 141) F dX1_prepare_141 rfl ?_
      refine y_get (pc := 142) F dX1_prepare_142 kF_X1_37 0 WCa_at0 rfl ?_
      refine y_aload_n (pc := 145) F dX1_prepare_145 rfl ?_
      refine y_get (pc := 146) F dX1_prepare_146 kF_X1_9 0 WCa_at0 rfl ?_
      refine y_iload (pc := 149) F dX1_prepare_149 rfl ?_
      refine y_iald (pc := 151) F dX1_prepare_151 1 WCa_at1 ?_
      refine y_iload_n (pc := 152) F dX1_prepare_152 rfl ?_
      refine y_iload_n (pc := 153) F dX1_prepare_153 rfl ?_
      refine y_iadd (pc := 154) F dX1_prepare_154 ?_
      refine y_calliR (As := [.int (ga o21 1 (x20.toNatClampNeg)), .int (x3 + x19)]) (st := []) (q0 := 14) (pc := 155) F (c_X9_mayBeCalled (q := zq q [14, 15, 16, 17, 18, 19, 20, 21, 22, 23, 24, 25, 26, 27, 28, 29, 30, 31, 32, 33, 34, 35, 36, 37, 38, 39, 40]) oc ow os (ga o21 1 (x20.toNatClampNeg)) (x3 + x19)) dX1_prepare_155 kM_X1_128 ⟨rfl, rfl⟩ ⟨Nat.le_of_ble_eq_true rfl, Nat.le_of_ble_eq_true rfl⟩ rfl rfl rfl (Nat.le_of_ble_eq_true rfl) rfl rfl WCa_at14 [14, 15, 16, 17, 18, 19, 20, 21, 22, 23, 24, 25, 26, 27, 28, 29, 30, 31, 32, 33, 34, 35, 36, 37, 38, 39, 40] zn4_c zn4_n (fun r22 => ?_)
      refine y_istore (lv' := [some (.ref (q 0)), some (.int a1), some (.int x3), some (.int x19), some (.int x20), some (.int r22)]) (pc := 158) F dX1_prepare_158 (Nat.le_of_ble_eq_true rfl) rfl rfl ?_
      refine y_aload_n (pc := 160) F dX1_prepare_160 rfl ?_
      refine y_get (pc := 161) F dX1_prepare_161 kF_X1_17 0 WCa_at0 rfl ?_
      refine y_iload (pc := 164) F dX1_prepare_164 rfl ?_
      refine y_aaldr (pc := 166) F dX1_prepare_166 2 6 WCa_at2 rfl rfl (fun h23 => ?_)
      refine y_iload_n (pc := 167) F dX1_prepare_167 rfl ?_
      refine y_iload (pc := 168) F dX1_prepare_168 rfl ?_
      refine y_jn (fun (K199 : Int64 → Option Ob) => ∀ (y24 : Int64), zY X D out (K199 y24) (WCa tA q o21 oc ow os) 199 [some (.ref (q 0)), some (.int a1), some (.int x3), some (.int x19), some (.int x20), none] [.long y24, .int x19, .ref ([q 3, q 4, q 5, q 6, q 7, q 8].getD ((x20.toNatClampNeg)) 0)]) ?_ ?_
      · intro y24
        refine y_last (pc := 199) F dX1_prepare_199 (3 + (x20.toNatClampNeg)) (WCa_row2 _ h23) (fun (o25 : Ob) => (WCa tA q o25 oc ow os)) (WCa_set2 _ h23 _) (fun o25 => ?_)
        refine y_iinc (v := 1) (lf := fun (x26 : Int32) => [some (.ref (q 0)), some (.int a1), some (.int x3), some (.int x19), some (.int x26), none]) (pc := 200) F dX1_prepare_200 rfl rfl rfl (fun _ => rfl) (fun x26 => ?_)
        refine y_goto (tgt := 132) (pc := 203) F dX1_prepare_203 rfl ?_
        exact ih x19 x26 o25
      intro K199 hK199
      refine y_if_eq (pc := 170) (tgt := 196) F dX1_prepare_170 rfl ?_ ?_
      · refine y_ldc2 (pc := 196) F dX1_prepare_196 kC_X1_135 ?_
        refine y_le (lv' := [some (.ref (q 0)), some (.int a1), some (.int x3), some (.int x19), some (.int x20), none]) ⟨rfl, ⟨rfl, ⟨rfl, ⟨rfl, ⟨rfl, trivial⟩⟩⟩⟩⟩ ?_
        exact hK199 (-1 : Int64)
      · refine y_aload_n (pc := 173) F dX1_prepare_173 rfl ?_
        refine y_get (pc := 174) F dX1_prepare_174 kF_X1_37 0 WCa_at0 rfl ?_
        refine y_aload_n (pc := 177) F dX1_prepare_177 rfl ?_
        refine y_get (pc := 178) F dX1_prepare_178 kF_X1_9 0 WCa_at0 rfl ?_
        refine y_iload (pc := 181) F dX1_prepare_181 rfl ?_
        refine y_iald (pc := 183) F dX1_prepare_183 1 WCa_at1 ?_
        refine y_iload_n (pc := 184) F dX1_prepare_184 rfl ?_
        refine y_iload_n (pc := 185) F dX1_prepare_185 rfl ?_
        refine y_iadd (pc := 186) F dX1_prepare_186 ?_
        refine y_calliR (As := [.int (ga o21 1 (x20.toNatClampNeg)), .int (x3 + x19)]) (st := [.int x19, .ref ([q 3, q 4, q 5, q 6, q 7, q 8].getD ((x20.toNatClampNeg)) 0)]) (q0 := 14) (pc := 187) F (c_X9_freshOn (q := zq q [14, 15, 16, 17, 18, 19, 20, 21, 22, 23, 24, 25, 26, 27, 28, 29, 30, 31, 32, 33, 34, 35, 36, 37, 38, 39, 40]) oc ow os (ga o21 1 (x20.toNatClampNeg)) (x3 + x19)) dX1_prepare_187 kM_X1_132 ⟨rfl, rfl⟩ ⟨Nat.le_of_ble_eq_true rfl, Nat.le_of_ble_eq_true rfl⟩ rfl rfl rfl (Nat.le_of_ble_eq_true rfl) rfl rfl WCa_at14 [14, 15, 16, 17, 18, 19, 20, 21, 22, 23, 24, 25, 26, 27, 28, 29, 30, 31, 32, 33, 34, 35, 36, 37, 38, 39, 40] zn4_c zn4_n (fun r27 => ?_)
        refine y_i2l (pc := 190) F dX1_prepare_190 ?_
        refine y_iload_n (pc := 191) F dX1_prepare_191 rfl ?_
        refine y_lshl (pc := 192) F dX1_prepare_192 ?_
        refine y_goto (tgt := 199) (pc := 193) F dX1_prepare_193 rfl ?_
        refine y_le (lv' := [some (.ref (q 0)), some (.int a1), some (.int x3), some (.int x19), some (.int x20), none]) ⟨rfl, ⟨rfl, ⟨rfl, ⟨rfl, ⟨rfl, trivial⟩⟩⟩⟩⟩ ?_
        exact hK199 (((r27.toInt64) <<< (x19.toInt64 &&& 63)))
set_option maxHeartbeats 4000000 in
set_option maxRecDepth 100000 in
theorem wlX1_prepare_105 {X : ZX} {out : Ob} (q : Nat → Nat) (oc : Ob) (ow : Ob) (os : Ob) (a1 : Int32) (x3 : Int32) (F : zF l D tA RX1 cX1_prepare 6 rmX1_prepare X) (hr : zRv X D cX1_prepare (fun (r : Ob) => (WCa tA q r oc ow os)) out) {K212 : Ob → Option Ob} (hK212 : ∀ (o6 : Ob), zY X D out (K212 o6) (WCa tA q o6 oc ow os) 212 [some (.ref (q 0)), some (.int a1), none, none, none, none] []) : ∀ (f : Nat) (x12 : Int32) (o13 : Ob), zY X D out (lX1_prepare_105 oc ow os x3 K212 f x12 o13) (WCa tA q o13 oc ow os) 105 [some (.ref (q 0)), some (.int a1), some (.int x3), some (.int x12), none, none] [] := by
  intro f
  induction f with
  | zero =>
    intro x12 o13
    exact y_none
  | succ f ih =>
    intro x12 o13
    rw [lX1_prepare_105.eq_2]
    refine y_iload_n (pc := 105) F dX1_prepare_105 rfl ?_
    refine y_aload_n (pc := 106) F dX1_prepare_106 rfl ?_
    refine y_get (pc := 107) F dX1_prepare_107 kF_X1_48 0 WCa_at0 rfl ?_
    refine y_icmp_gt (pc := 110) (tgt := 212) F dX1_prepare_110 rfl ?_ ?_
    · refine y_le (lv' := [some (.ref (q 0)), some (.int a1), none, none, none, none]) ⟨rfl, ⟨rfl, trivial⟩⟩ ?_
      exact hK212 o13
    · refine y_aload_n (pc := 113) F dX1_prepare_113 rfl ?_
      refine y_get (pc := 114) F dX1_prepare_114 kF_X1_20 0 WCa_at0 rfl ?_
      refine y_iload_n (pc := 117) F dX1_prepare_117 rfl ?_
      refine y_aload_n (pc := 118) F dX1_prepare_118 rfl ?_
      refine y_get (pc := 119) F dX1_prepare_119 kF_X1_37 0 WCa_at0 rfl ?_
      refine y_iload_n (pc := 122) F dX1_prepare_122 rfl ?_
      refine y_iload_n (pc := 123) F dX1_prepare_123 rfl ?_
      refine y_iadd (pc := 124) F dX1_prepare_124 ?_
      refine y_calliR (As := [.int (x3 + x12)]) (st := [.int x12, .ref (q 9)]) (q0 := 14) (pc := 125) F (c_X9_roomOn (q := zq q [14, 15, 16, 17, 18, 19, 20, 21, 22, 23, 24, 25, 26, 27, 28, 29, 30, 31, 32, 33, 34, 35, 36, 37, 38, 39, 40]) oc ow os (x3 + x12)) dX1_prepare_125 kM_X1_125 ⟨rfl, rfl⟩ ⟨Nat.le_of_ble_eq_true rfl, Nat.le_of_ble_eq_true rfl⟩ rfl rfl rfl (Nat.le_of_ble_eq_true rfl) rfl rfl WCa_at14 [14, 15, 16, 17, 18, 19, 20, 21, 22, 23, 24, 25, 26, 27, 28, 29, 30, 31, 32, 33, 34, 35, 36, 37, 38, 39, 40] zn4_c zn4_n (fun r14 => ?_)
      refine y_iast (pc := 128) F dX1_prepare_128 9 WCa_at9 (fun (o15 : Ob) => (WCa tA q o15 oc ow os)) (WCa_ar9 _) (fun o15 => ?_)
      refine y_iconst (v := 0) (pc := 129) F dX1_prepare_129 rfl ?_
      refine y_istore (lv' := [some (.ref (q 0)), some (.int a1), some (.int x3), some (.int x12), some (.int (0 : Int32)), none]) (pc := 130) F dX1_prepare_130 (Nat.le_of_ble_eq_true rfl) rfl rfl ?_
      refine y_jn (fun (K206 : Int32 → Ob → Option Ob) => ∀ (x16 : Int32) (o17 : Ob), zY X D out (K206 x16 o17) (WCa tA q o17 oc ow os) 206 [some (.ref (q 0)), some (.int a1), some (.int x3), some (.int x16), none, none] []) ?_ ?_
      · intro x16 o17
        refine y_iinc (v := 1) (lf := fun (x18 : Int32) => [some (.ref (q 0)), some (.int a1), some (.int x3), some (.int x18), none, none]) (pc := 206) F dX1_prepare_206 rfl rfl rfl (fun _ => rfl) (fun x18 => ?_)
        refine y_goto (tgt := 105) (pc := 209) F dX1_prepare_209 rfl ?_
        exact ih x18 o17
      intro K206 hK206
      exact wlX1_prepare_132 q oc ow os a1 x3 F hr hK206 zfu x12 (0 : Int32) o15
set_option maxHeartbeats 4000000 in
set_option maxRecDepth 100000 in
theorem wlX1_prepare_7 {X : ZX} {out : Ob} (q : Nat → Nat) (oc : Ob) (ow : Ob) (os : Ob) (a1 : Int32) (F : zF l D tA RX1 cX1_prepare 6 rmX1_prepare X) (hr : zRv X D cX1_prepare (fun (r : Ob) => (WCa tA q r oc ow os)) out) {K78 : Ob → Option Ob} (hK78 : ∀ (o2 : Ob), zY X D out (K78 o2) (WCa tA q o2 oc ow os) 78 [some (.ref (q 0)), some (.int a1), none, none, none, none] []) : ∀ (f : Nat) (x28 : Int32) (o29 : Ob), zY X D out (lX1_prepare_7 oc a1 K78 f x28 o29) (WCa tA q o29 oc ow os) 7 [some (.ref (q 0)), some (.int a1), some (.int x28), none, none, none] [] := by
  intro f
  induction f with
  | zero =>
    intro x28 o29
    exact y_none
  | succ f ih =>
    intro x28 o29
    rw [lX1_prepare_7.eq_2]
    refine y_iload_n (pc := 7) F dX1_prepare_7 rfl ?_
    refine y_aload_n (pc := 8) F dX1_prepare_8 rfl ?_
    refine y_get (pc := 9) F dX1_prepare_9 kF_X1_37 0 WCa_at0 rfl ?_
    refine y_get (pc := 12) F dX1_prepare_12 kF_X1_98 14 WCa_at14 rfl ?_
    refine y_get (pc := 15) F dX1_prepare_15 kF_X1_102 15 WCa_at15 rfl ?_
    refine y_icmp_ge (pc := 18) (tgt := 78) F dX1_prepare_18 rfl ?_ ?_
    · refine y_le (lv' := [some (.ref (q 0)), some (.int a1), none, none, none, none]) ⟨rfl, ⟨rfl, trivial⟩⟩ ?_
      exact hK78 o29
    · refine y_iload_n (pc := 21) F dX1_prepare_21 rfl ?_
      refine y_bipush (v := 12) (pc := 22) F dX1_prepare_22 rfl ?_
      refine y_icmp_ge (pc := 24) (tgt := 78) F dX1_prepare_24 rfl ?_ ?_
      · refine y_le (lv' := [some (.ref (q 0)), some (.int a1), none, none, none, none]) ⟨rfl, ⟨rfl, trivial⟩⟩ ?_
        exact hK78 o29
      · refine y_aload_n (pc := 27) F dX1_prepare_27 rfl ?_
        refine y_get (pc := 28) F dX1_prepare_28 kF_X1_37 0 WCa_at0 rfl ?_
        refine y_get (pc := 31) F dX1_prepare_31 kF_X1_98 14 WCa_at14 rfl ?_
        refine y_get (pc := 34) F dX1_prepare_34 kF_X1_107 15 WCa_at15 rfl ?_
        refine y_iload_n (pc := 37) F dX1_prepare_37 rfl ?_
        refine y_iald (pc := 38) F dX1_prepare_38 19 WCa_at19 ?_
        refine y_iload_n (pc := 39) F dX1_prepare_39 rfl ?_
        refine y_jn (fun (K72 : Ob → Option Ob) => ∀ (o30 : Ob), zY X D out (K72 o30) (WCa tA q o30 oc ow os) 72 [some (.ref (q 0)), some (.int a1), some (.int x28), none, none, none] []) ?_ ?_
        · intro o30
          refine y_iinc (v := 1) (lf := fun (x31 : Int32) => [some (.ref (q 0)), some (.int a1), some (.int x31), none, none, none]) (pc := 72) F dX1_prepare_72 rfl rfl rfl (fun _ => rfl) (fun x31 => ?_)
          refine y_goto (tgt := 7) (pc := 75) F dX1_prepare_75 rfl ?_
          exact ih x31 o30
        intro K72 hK72
        refine y_icmp_ne (pc := 40) (tgt := 72) F dX1_prepare_40 rfl ?_ ?_
        · refine y_aload_n (pc := 43) F dX1_prepare_43 rfl ?_
          refine y_get (pc := 44) F dX1_prepare_44 kF_X1_81 0 WCa_at0 rfl ?_
          refine y_bipush (v := 6) (pc := 47) F dX1_prepare_47 rfl ?_
          refine y_icmp_ge (pc := 49) (tgt := 72) F dX1_prepare_49 rfl ?_ ?_
          · exact hK72 o29
          · refine y_aload_n (pc := 52) F dX1_prepare_52 rfl ?_
            refine y_get (pc := 53) F dX1_prepare_53 kF_X1_9 0 WCa_at0 rfl ?_
            refine y_aload_n (pc := 56) F dX1_prepare_56 rfl ?_
            refine y_get (pc := 57) F dX1_prepare_57 kF_X1_81 0 WCa_at0 rfl ?_
            refine y_iload_n (pc := 60) F dX1_prepare_60 rfl ?_
            refine y_iast (pc := 61) F dX1_prepare_61 1 WCa_at1 (fun (o32 : Ob) => (WCa tA q o32 oc ow os)) (WCa_ar1 _) (fun o32 => ?_)
            refine y_aload_n (pc := 62) F dX1_prepare_62 rfl ?_
            refine y_dup (pc := 63) F dX1_prepare_63 rfl ?_
            refine y_get (pc := 64) F dX1_prepare_64 kF_X1_81 0 WCa_at0 rfl ?_
            refine y_iconst (v := 1) (pc := 67) F dX1_prepare_67 rfl ?_
            refine y_iadd (pc := 68) F dX1_prepare_68 ?_
            refine y_put (pc := 69) F dX1_prepare_69 kF_X1_81 0 WCa_at0 rfl rfl rfl (Nat.le_of_ble_eq_true rfl) (fun (o33 : Ob) => (WCa tA q o33 oc ow os)) (WCa_pt0_8 _) (fun o33 => ?_)
            exact hK72 o33
        · exact hK72 o29
set_option maxHeartbeats 4000000 in
set_option maxRecDepth 100000 in
theorem c_X1_prepare {q : Nat → Nat} (oe : Ob) (oc : Ob) (ow : Ob) (os : Ob) (a1 : Int32) : zCv l D tA yX1_prepare cX1_prepare 6 rmX1_prepare [.ref (q 0), .int a1] (WCa tA q oe oc ow os) (fun (r : Ob) => (WCa tA q r oc ow os)) (pX1_prepare oe oc ow os a1) := by
  refine zCv_of (lv0 := [some (.ref (q 0)), some (.int a1), none, none, none, none]) (by decide +kernel) (Nat.le_of_ble_eq_true rfl) rfl (fun X out F hr => ?_)
  unfold pX1_prepare
  refine y_aload_n (pc := 0) F dX1_prepare_0 rfl ?_
  refine y_iconst (v := 0) (pc := 1) F dX1_prepare_1 rfl ?_
  refine y_put (pc := 2) F dX1_prepare_2 kF_X1_81 0 WCa_at0 rfl rfl rfl (Nat.le_of_ble_eq_true rfl) (fun (o1 : Ob) => (WCa tA q o1 oc ow os)) (WCa_pt0_8 _) (fun o1 => ?_)
  refine y_iconst (v := 0) (pc := 5) F dX1_prepare_5 rfl ?_
  refine y_istore_n (lv' := [some (.ref (q 0)), some (.int a1), some (.int (0 : Int32)), none, none, none]) (pc := 6) F dX1_prepare_6 (Nat.le_of_ble_eq_true rfl) rfl rfl ?_
  refine y_jn (fun (K78 : Ob → Option Ob) => ∀ (o2 : Ob), zY X D out (K78 o2) (WCa tA q o2 oc ow os) 78 [some (.ref (q 0)), some (.int a1), none, none, none, none] []) ?_ ?_
  · intro o2
    refine y_aload_n (pc := 78) F dX1_prepare_78 rfl ?_
    refine y_get (pc := 79) F dX1_prepare_79 kF_X1_37 0 WCa_at0 rfl ?_
    refine y_get (pc := 82) F dX1_prepare_82 kF_X1_110 14 WCa_at14 rfl ?_
    refine y_get (pc := 85) F dX1_prepare_85 kF_X1_114 27 WCa_at27 rfl ?_
    refine y_lti (fun x3 => ?_)
    refine y_istore_n (lv' := [some (.ref (q 0)), some (.int a1), some (.int x3), none, none, none]) (pc := 88) F dX1_prepare_88 (Nat.le_of_ble_eq_true rfl) rfl rfl ?_
    refine y_aload_n (pc := 89) F dX1_prepare_89 rfl ?_
    refine y_bipush (v := 30) (pc := 90) F dX1_prepare_90 rfl ?_
    refine y_sipush (v := 399) (pc := 92) F dX1_prepare_92 rfl ?_
    refine y_iload_n (pc := 95) F dX1_prepare_95 rfl ?_
    refine y_isub (pc := 96) F dX1_prepare_96 ?_
    refine y_mmin (pc := 97) F dX1_prepare_97 kM_X1_119 ⟨Nat.le_of_ble_eq_true rfl, Nat.le_of_ble_eq_true rfl⟩ rfl ?_
    refine y_lti (fun x4 => ?_)
    refine y_put (pc := 100) F dX1_prepare_100 kF_X1_48 0 WCa_at0 rfl rfl rfl (Nat.le_of_ble_eq_true rfl) (fun (o5 : Ob) => (WCa tA q o5 oc ow os)) (WCa_pt0_9 _) (fun o5 => ?_)
    refine y_iconst (v := 0) (pc := 103) F dX1_prepare_103 rfl ?_
    refine y_istore_n (lv' := [some (.ref (q 0)), some (.int a1), some (.int x3), some (.int (0 : Int32)), none, none]) (pc := 104) F dX1_prepare_104 (Nat.le_of_ble_eq_true rfl) rfl rfl ?_
    refine y_jn (fun (K212 : Ob → Option Ob) => ∀ (o6 : Ob), zY X D out (K212 o6) (WCa tA q o6 oc ow os) 212 [some (.ref (q 0)), some (.int a1), none, none, none, none] []) ?_ ?_
    · intro o6
      refine y_aload_n (pc := 212) F dX1_prepare_212 rfl ?_
      refine y_aload_n (pc := 213) F dX1_prepare_213 rfl ?_
      refine y_get (pc := 214) F dX1_prepare_214 kF_X1_37 0 WCa_at0 rfl ?_
      refine y_get (pc := 217) F dX1_prepare_217 kF_X1_98 14 WCa_at14 rfl ?_
      refine y_iload_n (pc := 220) F dX1_prepare_220 rfl ?_
      refine y_calliR (As := [.int a1]) (st := [.ref (q 0)]) (q0 := 15) (pc := 221) F (c_X2_hasSuit (q := zq q [15, 16, 17, 18, 19, 20, 21]) oc a1) dX1_prepare_221 kM_X1_137 ⟨rfl, rfl⟩ ⟨Nat.le_of_ble_eq_true rfl, Nat.le_of_ble_eq_true rfl⟩ rfl rfl rfl (Nat.le_of_ble_eq_true rfl) rfl rfl WCa_at15 [15, 16, 17, 18, 19, 20, 21] zn3_c zn3_n (fun r7 => ?_)
      refine y_jn (fun (K244 : Int64 → Option Ob) => ∀ (y8 : Int64), zY X D out (K244 y8) (WCa tA q o6 oc ow os) 244 [some (.ref (q 0)), some (.int a1), none, none, none, none] [.long y8, .ref (q 0)]) ?_ ?_
      · intro y8
        refine y_put (pc := 244) F dX1_prepare_244 kF_X1_143 0 WCa_at0 rfl rfl rfl (Nat.le_of_ble_eq_true rfl) (fun (o9 : Ob) => (WCa tA q o9 oc ow os)) (WCa_pt0_10 _) (fun o9 => ?_)
        refine y_aload_n (pc := 247) F dX1_prepare_247 rfl ?_
        refine y_aload_n (pc := 248) F dX1_prepare_248 rfl ?_
        refine y_get (pc := 249) F dX1_prepare_249 kF_X1_37 0 WCa_at0 rfl ?_
        refine y_get (pc := 252) F dX1_prepare_252 kF_X1_98 14 WCa_at14 rfl ?_
        refine y_iload_n (pc := 255) F dX1_prepare_255 rfl ?_
        refine y_calliR (As := [.int a1]) (st := [.ref (q 0)]) (q0 := 15) (pc := 256) F (c_X2_goalOf (q := zq q [15, 16, 17, 18, 19, 20, 21]) oc a1) dX1_prepare_256 kM_X1_146 ⟨rfl, rfl⟩ ⟨Nat.le_of_ble_eq_true rfl, Nat.le_of_ble_eq_true rfl⟩ rfl rfl rfl (Nat.le_of_ble_eq_true rfl) rfl rfl WCa_at15 [15, 16, 17, 18, 19, 20, 21] zn3_c zn3_n (fun r10 => ?_)
        refine y_i2l (pc := 259) F dX1_prepare_259 ?_
        refine y_put (pc := 260) F dX1_prepare_260 kF_X1_70 0 WCa_at0 rfl rfl rfl (Nat.le_of_ble_eq_true rfl) (fun (o11 : Ob) => (WCa tA q o11 oc ow os)) (WCa_pt0_11 _) (fun o11 => ?_)
        exact y_vret hr dX1_prepare_263 rfl
      intro K244 hK244
      refine y_if_eq (pc := 224) (tgt := 243) F dX1_prepare_224 rfl ?_ ?_
      · refine y_lconst (v := 0) (pc := 243) F dX1_prepare_243 rfl ?_
        exact hK244 (0 : Int64)
      · refine y_aload_n (pc := 227) F dX1_prepare_227 rfl ?_
        refine y_get (pc := 228) F dX1_prepare_228 kF_X1_37 0 WCa_at0 rfl ?_
        refine y_get (pc := 231) F dX1_prepare_231 kF_X1_110 14 WCa_at14 rfl ?_
        refine y_get (pc := 234) F dX1_prepare_234 kF_X1_140 27 WCa_at27 rfl ?_
        refine y_iload_n (pc := 237) F dX1_prepare_237 rfl ?_
        refine y_iald (pc := 238) F dX1_prepare_238 31 WCa_at31 ?_
        refine y_i2l (pc := 239) F dX1_prepare_239 ?_
        refine y_goto (tgt := 244) (pc := 240) F dX1_prepare_240 rfl ?_
        exact hK244 (((ga os 6 (a1.toNatClampNeg)).toInt64))
    intro K212 hK212
    exact wlX1_prepare_105 q oc ow os a1 x3 F hr hK212 zfu (0 : Int32) o5
  intro K78 hK78
  exact wlX1_prepare_7 q oc ow os a1 F hr hK78 zfu (0 : Int32) o1
abbrev rmX1_clearPlans : Room := { frames := 1, cells := 0, slots := 0, locals := 24 }
def pX1_clearPlans (oe : Ob) (oc : Ob) (ow : Ob) (os : Ob) : Option Ob :=
  zlet (sb oe 4 (fun _ => (-1 : Int64))) fun (o1 : Ob) =>
  zgd (0 : Int32) 64 <| zlet (sb o1 4 (vp_updL (gb o1 4) ((0 : Int32).toNatClampNeg) (0 : Int64))) fun (o2 : Ob) =>
  some o2
set_option maxHeartbeats 4000000 in
set_option maxRecDepth 100000 in
theorem c_X1_clearPlans {q : Nat → Nat} (oe : Ob) (oc : Ob) (ow : Ob) (os : Ob) : zCv l D tA yX1_clearPlans cX1_clearPlans 1 rmX1_clearPlans [.ref (q 0)] (WCa tA q oe oc ow os) (fun (r : Ob) => (WCa tA q r oc ow os)) (pX1_clearPlans oe oc ow os) := by
  refine zCv_of (lv0 := [some (.ref (q 0))]) (by decide +kernel) (Nat.le_of_ble_eq_true rfl) rfl (fun X out F hr => ?_)
  unfold pX1_clearPlans
  refine y_aload_n (pc := 0) F dX1_clearPlans_0 rfl ?_
  refine y_get (pc := 1) F dX1_clearPlans_1 kF_X1_23 0 WCa_at0 rfl ?_
  refine y_ldc2 (pc := 4) F dX1_clearPlans_4 kC_X1_135 ?_
  refine y_filll (st := []) (pc := 7) F dX1_clearPlans_7 kM_X1_149 ⟨Nat.le_of_ble_eq_true rfl, Nat.le_of_ble_eq_true rfl⟩ rfl (Nat.le_of_ble_eq_true rfl) 10 WCa_at10 (Nat.le_of_ble_eq_true rfl) (fun (o1 : Ob) => (WCa tA q o1 oc ow os)) (WCa_ar10 _) (fun o1 => ?_)
  refine y_aload_n (pc := 10) F dX1_clearPlans_10 rfl ?_
  refine y_get (pc := 11) F dX1_clearPlans_11 kF_X1_23 0 WCa_at0 rfl ?_
  refine y_iconst (v := 0) (pc := 14) F dX1_clearPlans_14 rfl ?_
  refine y_lconst (v := 0) (pc := 15) F dX1_clearPlans_15 rfl ?_
  refine y_last (pc := 16) F dX1_clearPlans_16 10 WCa_at10 (fun (o2 : Ob) => (WCa tA q o2 oc ow os)) (WCa_ar10 _) (fun o2 => ?_)
  exact y_vret hr dX1_clearPlans_17 rfl
abbrev rmX1_allOfThem : Room := { frames := 0, cells := 0, slots := 0, locals := 0 }
def pX1_allOfThem (oe : Ob) (oc : Ob) (ow : Ob) (os : Ob) : Option Int32 :=
  some (((1 : Int32) <<< ((gi oe 8) &&& 31)) - (1 : Int32))
set_option maxHeartbeats 4000000 in
set_option maxRecDepth 100000 in
theorem c_X1_allOfThem {q : Nat → Nat} (oe : Ob) (oc : Ob) (ow : Ob) (os : Ob) : zCi l D tA yX1_allOfThem cX1_allOfThem 1 .int rmX1_allOfThem [.ref (q 0)] (WCa tA q oe oc ow os) (fun (r : Int32) => r) (fun (r : Int32) => (WCa tA q oe oc ow os)) (pX1_allOfThem oe oc ow os) := by
  refine zCi_of (lv0 := [some (.ref (q 0))]) (by decide +kernel) (Nat.le_of_ble_eq_true rfl) rfl (fun X out F hr => ?_)
  unfold pX1_allOfThem
  refine y_iconst (v := 1) (pc := 0) F dX1_allOfThem_0 rfl ?_
  refine y_aload_n (pc := 1) F dX1_allOfThem_1 rfl ?_
  refine y_get (pc := 2) F dX1_allOfThem_2 kF_X1_81 0 WCa_at0 rfl ?_
  refine y_ishl (pc := 5) F dX1_allOfThem_5 ?_
  refine y_iconst (v := 1) (pc := 6) F dX1_allOfThem_6 rfl ?_
  refine y_isub (pc := 7) F dX1_allOfThem_7 ?_
  exact y_iret hr dX1_allOfThem_8 rfl rfl
abbrev rmX1_addUp : Room := { frames := 0, cells := 0, slots := 0, locals := 0 }
def lX1_addUp_45 (a1 : Int32) (x7 : Int32) (K84 : Int32 → Ob → Option (Int32 × Ob)) : Nat → Int32 → Int32 → Ob → Option (Int32 × Ob)
  | 0, _, _, _ => none
  | f + 1, x13, x14, o15 =>
    if x7 ≤ x14 then (K84 x13 o15)
    else (zgd x14 64 <| zgd x13 6 <| zgd a1 31 <| zgd (x14 ||| x7) 64 <| zlet (sb o15 5 (vp_updL (gb o15 5) ((x14 ||| x7).toNatClampNeg) ((gb o15 5 (x14.toNatClampNeg)) + (gb o15 (20 + (x13.toNatClampNeg)) (a1.toNatClampNeg))))) fun (o17 : Ob) =>
    zlet (x14 + (1 : Int32)) fun (x18 : Int32) =>
    lX1_addUp_45 a1 x7 K84 f x13 x18 o17)
def lX1_addUp_11 (a1 : Int32) (K90 : Int32 → Ob → Option (Int32 × Ob)) : Nat → Int32 → Int32 → Ob → Option (Int32 × Ob)
  | 0, _, _, _ => none
  | f + 1, x4, x5, o6 =>
    if (gi o6 8) ≤ x5 then (K90 x4 o6)
    else (zlet (((1 : Int32) <<< (x5 &&& 31))) fun (x7 : Int32) =>
    zgd x5 6 <| zgd a1 31 <| zjn (fun (x9 : Int32) =>
    zjn (fun (x10 : Int32) (o11 : Ob) =>
    zlet (x10 + (1 : Int32)) fun (x12 : Int32) =>
    lX1_addUp_11 a1 K90 f x9 x12 o11) fun (K84 : Int32 → Ob → Option (Int32 × Ob)) =>
    lX1_addUp_45 a1 x7 K84 zfu x5 (0 : Int32) o6) fun (K42 : Int32 → Option (Int32 × Ob)) =>
    if (gb o6 (20 + (x5.toNatClampNeg)) (a1.toNatClampNeg)) < (0 : Int64) then (K42 x4)
    else (zlet ((x4 ||| x7)) fun (x19 : Int32) =>
    K42 x19))
def pX1_addUp (oe : Ob) (oc : Ob) (ow : Ob) (os : Ob) (a1 : Int32) : Option (Int32 × Ob) :=
  zgd (0 : Int32) 64 <| zlet (sb oe 5 (vp_updL (gb oe 5) ((0 : Int32).toNatClampNeg) (0 : Int64))) fun (o1 : Ob) =>
  zjn (fun (x2 : Int32) (o3 : Ob) =>
  zgd a1 31 <| if (ga o3 3 (a1.toNatClampNeg)) ≤ 0 then (some ((0 : Int32), o3))
  else (some (x2, o3))) fun (K90 : Int32 → Ob → Option (Int32 × Ob)) =>
  lX1_addUp_11 a1 K90 zfu (0 : Int32) (0 : Int32) o1
set_option maxHeartbeats 4000000 in
set_option maxRecDepth 100000 in
theorem wlX1_addUp_45 {X : ZX} {out : (Int32 × Ob)} (q : Nat → Nat) (oc : Ob) (ow : Ob) (os : Ob) (a1 : Int32) (x7 : Int32) (x9 : Int32) (F : zF l D tA RX1 cX1_addUp 6 rmX1_addUp X) (hr : zRi X D cX1_addUp .int (fun (r : Int32 × Ob) => (r.1)) (fun (r : Int32 × Ob) => (WCa tA q (r.2) oc ow os)) out) {K84 : Int32 → Ob → Option (Int32 × Ob)} (hK84 : ∀ (x10 : Int32) (o11 : Ob), zY X D out (K84 x10 o11) (WCa tA q o11 oc ow os) 84 [some (.ref (q 0)), some (.int a1), some (.int x9), some (.int x10), none, none] []) : ∀ (f : Nat) (x13 : Int32) (x14 : Int32) (o15 : Ob), zY X D out (lX1_addUp_45 a1 x7 K84 f x13 x14 o15) (WCa tA q o15 oc ow os) 45 [some (.ref (q 0)), some (.int a1), some (.int x9), some (.int x13), some (.int x7), some (.int x14)] [] := by
  intro f
  induction f with
  | zero =>
    intro x13 x14 o15
    exact y_none
  | succ f ih =>
    intro x13 x14 o15
    rw [lX1_addUp_45.eq_2]
    refine y_iload (pc := 45) F dX1_addUp_45 rfl ?_
    refine y_iload (pc := 47) F dX1_addUp_47 rfl ?_
    refine y_icmp_ge (pc := 49) (tgt := 84) F dX1_addUp_49 rfl ?_ ?_
    · refine y_le (lv' := [some (.ref (q 0)), some (.int a1), some (.int x9), some (.int x13), none, none]) ⟨rfl, ⟨rfl, ⟨rfl, ⟨rfl, trivial⟩⟩⟩⟩ ?_
      exact hK84 x13 o15
    · refine y_aload_n (pc := 52) F dX1_addUp_52 rfl ?_
      refine y_get (pc := 53) F dX1_addUp_53 kF_X1_27 0 WCa_at0 rfl ?_
      refine y_iload (pc := 56) F dX1_addUp_56 rfl ?_
      refine y_iload (pc := 58) F dX1_addUp_58 rfl ?_
      refine y_ior (pc := 60) F dX1_addUp_60 ?_
      refine y_aload_n (pc := 61) F dX1_addUp_61 rfl ?_
      refine y_get (pc := 62) F dX1_addUp_62 kF_X1_27 0 WCa_at0 rfl ?_
      refine y_iload (pc := 65) F dX1_addUp_65 rfl ?_
      refine y_lald (pc := 67) F dX1_addUp_67 11 WCa_at11 ?_
      refine y_aload_n (pc := 68) F dX1_addUp_68 rfl ?_
      refine y_get (pc := 69) F dX1_addUp_69 kF_X1_17 0 WCa_at0 rfl ?_
      refine y_iload_n (pc := 72) F dX1_addUp_72 rfl ?_
      refine y_aaldr (pc := 73) F dX1_addUp_73 2 6 WCa_at2 rfl rfl (fun h16 => ?_)
      refine y_iload_n (pc := 74) F dX1_addUp_74 rfl ?_
      refine y_lald (pc := 75) F dX1_addUp_75 (3 + (x13.toNatClampNeg)) (WCa_row2 _ h16) ?_
      refine y_ladd (pc := 76) F dX1_addUp_76 ?_
      refine y_last (pc := 77) F dX1_addUp_77 11 WCa_at11 (fun (o17 : Ob) => (WCa tA q o17 oc ow os)) (WCa_ar11 _) (fun o17 => ?_)
      refine y_iinc (v := 1) (lf := fun (x18 : Int32) => [some (.ref (q 0)), some (.int a1), some (.int x9), some (.int x13), some (.int x7), some (.int x18)]) (pc := 78) F dX1_addUp_78 rfl rfl rfl (fun _ => rfl) (fun x18 => ?_)
      refine y_goto (tgt := 45) (pc := 81) F dX1_addUp_81 rfl ?_
      exact ih x13 x18 o17
set_option maxHeartbeats 4000000 in
set_option maxRecDepth 100000 in
theorem wlX1_addUp_11 {X : ZX} {out : (Int32 × Ob)} (q : Nat → Nat) (oc : Ob) (ow : Ob) (os : Ob) (a1 : Int32) (F : zF l D tA RX1 cX1_addUp 6 rmX1_addUp X) (hr : zRi X D cX1_addUp .int (fun (r : Int32 × Ob) => (r.1)) (fun (r : Int32 × Ob) => (WCa tA q (r.2) oc ow os)) out) {K90 : Int32 → Ob → Option (Int32 × Ob)} (hK90 : ∀ (x2 : Int32) (o3 : Ob), zY X D out (K90 x2 o3) (WCa tA q o3 oc ow os) 90 [some (.ref (q 0)), some (.int a1), some (.int x2), none, none, none] []) : ∀ (f : Nat) (x4 : Int32) (x5 : Int32) (o6 : Ob), zY X D out (lX1_addUp_11 a1 K90 f x4 x5 o6) (WCa tA q o6 oc ow os) 11 [some (.ref (q 0)), some (.int a1), some (.int x4), some (.int x5), none, none] [] := by
  intro f
  induction f with
  | zero =>
    intro x4 x5 o6
    exact y_none
  | succ f ih =>
    intro x4 x5 o6
    rw [lX1_addUp_11.eq_2]
    refine y_iload_n (pc := 11) F dX1_addUp_11 rfl ?_
    refine y_aload_n (pc := 12) F dX1_addUp_12 rfl ?_
    refine y_get (pc := 13) F dX1_addUp_13 kF_X1_81 0 WCa_at0 rfl ?_
    refine y_icmp_ge (pc := 16) (tgt := 90) F dX1_addUp_16 rfl ?_ ?_
    · refine y_le (lv' := [some (.ref (q 0)), some (.int a1), some (.int x4), none, none, none]) ⟨rfl, ⟨rfl, ⟨rfl, trivial⟩⟩⟩ ?_
      exact hK90 x4 o6
    · refine y_iconst (v := 1) (pc := 19) F dX1_addUp_19 rfl ?_
      refine y_iload_n (pc := 20) F dX1_addUp_20 rfl ?_
      refine y_ishl (pc := 21) F dX1_addUp_21 ?_
      refine y_lti (fun x7 => ?_)
      refine y_istore (lv' := [some (.ref (q 0)), some (.int a1), some (.int x4), some (.int x5), some (.int x7), none]) (pc := 22) F dX1_addUp_22 (Nat.le_of_ble_eq_true rfl) rfl rfl ?_
      refine y_aload_n (pc := 24) F dX1_addUp_24 rfl ?_
      refine y_get (pc := 25) F dX1_addUp_25 kF_X1_17 0 WCa_at0 rfl ?_
      refine y_iload_n (pc := 28) F dX1_addUp_28 rfl ?_
      refine y_aaldr (pc := 29) F dX1_addUp_29 2 6 WCa_at2 rfl rfl (fun h8 => ?_)
      refine y_iload_n (pc := 30) F dX1_addUp_30 rfl ?_
      refine y_lald (pc := 31) F dX1_addUp_31 (3 + (x5.toNatClampNeg)) (WCa_row2 _ h8) ?_
      refine y_lconst (v := 0) (pc := 32) F dX1_addUp_32 rfl ?_
      refine y_jn (fun (K42 : Int32 → Option (Int32 × Ob)) => ∀ (x9 : Int32), zY X D out (K42 x9) (WCa tA q o6 oc ow os) 42 [some (.ref (q 0)), some (.int a1), some (.int x9), some (.int x5), some (.int x7), none] []) ?_ ?_
      · intro x9
        refine y_iconst (v := 0) (pc := 42) F dX1_addUp_42 rfl ?_
        refine y_istore (lv' := [some (.ref (q 0)), some (.int a1), some (.int x9), some (.int x5), some (.int x7), some (.int (0 : Int32))]) (pc := 43) F dX1_addUp_43 (Nat.le_of_ble_eq_true rfl) rfl rfl ?_
        refine y_jn (fun (K84 : Int32 → Ob → Option (Int32 × Ob)) => ∀ (x10 : Int32) (o11 : Ob), zY X D out (K84 x10 o11) (WCa tA q o11 oc ow os) 84 [some (.ref (q 0)), some (.int a1), some (.int x9), some (.int x10), none, none] []) ?_ ?_
        · intro x10 o11
          refine y_iinc (v := 1) (lf := fun (x12 : Int32) => [some (.ref (q 0)), some (.int a1), some (.int x9), some (.int x12), none, none]) (pc := 84) F dX1_addUp_84 rfl rfl rfl (fun _ => rfl) (fun x12 => ?_)
          refine y_goto (tgt := 11) (pc := 87) F dX1_addUp_87 rfl ?_
          exact ih x9 x12 o11
        intro K84 hK84
        exact wlX1_addUp_45 q oc ow os a1 x7 x9 F hr hK84 zfu x5 (0 : Int32) o6
      intro K42 hK42
      refine y_lcmp_lt (pc := 33) (tgt := 42) F dX1_addUp_33 dX1_addUp_34 rfl ?_ ?_
      · exact hK42 x4
      · refine y_iload_n (pc := 37) F dX1_addUp_37 rfl ?_
        refine y_iload (pc := 38) F dX1_addUp_38 rfl ?_
        refine y_ior (pc := 40) F dX1_addUp_40 ?_
        refine y_lti (fun x19 => ?_)
        refine y_istore_n (lv' := [some (.ref (q 0)), some (.int a1), some (.int x19), some (.int x5), some (.int x7), none]) (pc := 41) F dX1_addUp_41 (Nat.le_of_ble_eq_true rfl) rfl rfl ?_
        exact hK42 x19
set_option maxHeartbeats 4000000 in
set_option maxRecDepth 100000 in
theorem c_X1_addUp {q : Nat → Nat} (oe : Ob) (oc : Ob) (ow : Ob) (os : Ob) (a1 : Int32) : zCi l D tA yX1_addUp cX1_addUp 6 .int rmX1_addUp [.ref (q 0), .int a1] (WCa tA q oe oc ow os) (fun (r : Int32 × Ob) => (r.1)) (fun (r : Int32 × Ob) => (WCa tA q (r.2) oc ow os)) (pX1_addUp oe oc ow os a1) := by
  refine zCi_of (lv0 := [some (.ref (q 0)), some (.int a1), none, none, none, none]) (by decide +kernel) (Nat.le_of_ble_eq_true rfl) rfl (fun X out F hr => ?_)
  unfold pX1_addUp
  refine y_iconst (v := 0) (pc := 0) F dX1_addUp_0 rfl ?_
  refine y_istore_n (lv' := [some (.ref (q 0)), some (.int a1), some (.int (0 : Int32)), none, none, none]) (pc := 1) F dX1_addUp_1 (Nat.le_of_ble_eq_true rfl) rfl rfl ?_
  refine y_aload_n (pc := 2) F dX1_addUp_2 rfl ?_
  refine y_get (pc := 3) F dX1_addUp_3 kF_X1_27 0 WCa_at0 rfl ?_
  refine y_iconst (v := 0) (pc := 6) F dX1_addUp_6 rfl ?_
  refine y_lconst (v := 0) (pc := 7) F dX1_addUp_7 rfl ?_
  refine y_last (pc := 8) F dX1_addUp_8 11 WCa_at11 (fun (o1 : Ob) => (WCa tA q o1 oc ow os)) (WCa_ar11 _) (fun o1 => ?_)
  refine y_iconst (v := 0) (pc := 9) F dX1_addUp_9 rfl ?_
  refine y_istore_n (lv' := [some (.ref (q 0)), some (.int a1), some (.int (0 : Int32)), some (.int (0 : Int32)), none, none]) (pc := 10) F dX1_addUp_10 (Nat.le_of_ble_eq_true rfl) rfl rfl ?_
  refine y_jn (fun (K90 : Int32 → Ob → Option (Int32 × Ob)) => ∀ (x2 : Int32) (o3 : Ob), zY X D out (K90 x2 o3) (WCa tA q o3 oc ow os) 90 [some (.ref (q 0)), some (.int a1), some (.int x2), none, none, none] []) ?_ ?_
  · intro x2 o3
    refine y_aload_n (pc := 90) F dX1_addUp_90 rfl ?_
    refine y_get (pc := 91) F dX1_addUp_91 kF_X1_20 0 WCa_at0 rfl ?_
    refine y_iload_n (pc := 94) F dX1_addUp_94 rfl ?_
    refine y_iald (pc := 95) F dX1_addUp_95 9 WCa_at9 ?_
    refine y_if_le (pc := 96) (tgt := 103) F dX1_addUp_96 rfl ?_ ?_
    · refine y_iconst (v := 0) (pc := 103) F dX1_addUp_103 rfl ?_
      exact y_iret hr dX1_addUp_104 rfl rfl
    · refine y_iload_n (pc := 99) F dX1_addUp_99 rfl ?_
      refine y_goto (tgt := 104) (pc := 100) F dX1_addUp_100 rfl ?_
      exact y_iret hr dX1_addUp_104 rfl rfl
  intro K90 hK90
  exact wlX1_addUp_11 q oc ow os a1 F hr hK90 zfu (0 : Int32) (0 : Int32) o1
abbrev rmX1_callOn : Room := { frames := 1, cells := 0, slots := 0, locals := 30 }
def lX1_callOn_20 (a1 : Int32) (r1 : Int32 × Ob) (K101 : Int32 → Ob → Option Ob) : Nat → Int32 → Int32 → Ob → Option Ob
  | 0, _, _, _ => none
  | f + 1, x8, x9, o10 =>
    if x9 ≤ 0 then (K101 x8 o10)
    else (zgd (x8 &&& (x9 ^^^ (-1 : Int32))) 64 <| zlet ((gb o10 4 ((x8 &&& (x9 ^^^ (-1 : Int32))).toNatClampNeg))) fun (y11 : Int64) =>
    zjn (fun (o12 : Ob) =>
    zlet ((((x9 - (1 : Int32)) &&& x8) &&& (r1.1))) fun (x13 : Int32) =>
    lX1_callOn_20 a1 r1 K101 f x8 x13 o12) fun (K87 : Ob → Option Ob) =>
    if y11 < (0 : Int64) then (K87 o10)
    else (Option.bind (pJ6_bitCount_0f7a4 x9) fun (r14 : Int32) =>
    zgd a1 31 <| if (ga o10 3 (a1.toNatClampNeg)) < r14 then (K87 o10)
    else (zgd x8 64 <| zgd x9 64 <| zlet ((if (y11 + (gb o10 5 (x9.toNatClampNeg))) < (gb o10 4 (x8.toNatClampNeg)) then (gb o10 4 (x8.toNatClampNeg)) else (y11 + (gb o10 5 (x9.toNatClampNeg))))) fun (y15 : Int64) =>
    zgd x8 64 <| zlet (sb o10 4 (vp_updL (gb o10 4) (x8.toNatClampNeg) y15)) fun (o16 : Ob) =>
    K87 o16)))
def lX1_callOn_9 (a1 : Int32) (a2 : Int32) (r1 : Int32 × Ob) : Nat → Int32 → Ob → Option Ob
  | 0, _, _ => none
  | f + 1, x2, o3 =>
    if x2 ≤ 0 then (some o3)
    else (zlet ((x2 &&& (r1.1))) fun (x4 : Int32) =>
    zjn (fun (x5 : Int32) (o6 : Ob) =>
    zlet (((x5 - (1 : Int32)) &&& a2)) fun (x7 : Int32) =>
    lX1_callOn_9 a1 a2 r1 f x7 o6) fun (K101 : Int32 → Ob → Option Ob) =>
    lX1_callOn_20 a1 r1 K101 zfu x2 x4 o3)
def pX1_callOn (oe : Ob) (oc : Ob) (ow : Ob) (os : Ob) (a1 : Int32) (a2 : Int32) : Option Ob :=
  Option.bind (pX1_addUp oe oc ow os a1) fun (r1 : Int32 × Ob) =>
  lX1_callOn_9 a1 a2 r1 zfu a2 (r1.2)
set_option maxHeartbeats 4000000 in
set_option maxRecDepth 100000 in
theorem wlX1_callOn_20 {X : ZX} {out : Ob} (q : Nat → Nat) (oc : Ob) (ow : Ob) (os : Ob) (a1 : Int32) (a2 : Int32) (r1 : Int32 × Ob) (F : zF l D tA RX1 cX1_callOn 8 rmX1_callOn X) (hr : zRv X D cX1_callOn (fun (r : Ob) => (WCa tA q r oc ow os)) out) {K101 : Int32 → Ob → Option Ob} (hK101 : ∀ (x5 : Int32) (o6 : Ob), zY X D out (K101 x5 o6) (WCa tA q o6 oc ow os) 101 [some (.ref (q 0)), some (.int a1), some (.int a2), some (.int (r1.1)), some (.int x5), none, none, none] []) : ∀ (f : Nat) (x8 : Int32) (x9 : Int32) (o10 : Ob), zY X D out (lX1_callOn_20 a1 r1 K101 f x8 x9 o10) (WCa tA q o10 oc ow os) 20 [some (.ref (q 0)), some (.int a1), some (.int a2), some (.int (r1.1)), some (.int x8), some (.int x9), none, none] [] := by
  intro f
  induction f with
  | zero =>
    intro x8 x9 o10
    exact y_none
  | succ f ih =>
    intro x8 x9 o10
    rw [lX1_callOn_20.eq_2]
    refine y_iload (pc := 20) F dX1_callOn_20 rfl ?_
    refine y_if_le (pc := 22) (tgt := 101) F dX1_callOn_22 rfl ?_ ?_
    · refine y_le (lv' := [some (.ref (q 0)), some (.int a1), some (.int a2), some (.int (r1.1)), some (.int x8), none, none, none]) ⟨rfl, ⟨rfl, ⟨rfl, ⟨rfl, ⟨rfl, trivial⟩⟩⟩⟩⟩ ?_
      exact hK101 x8 o10
    · refine y_aload_n (pc := 25) F dX1_callOn_25 rfl ?_
      refine y_get (pc := 26) F dX1_callOn_26 kF_X1_23 0 WCa_at0 rfl ?_
      refine y_iload (pc := 29) F dX1_callOn_29 rfl ?_
      refine y_iload (pc := 31) F dX1_callOn_31 rfl ?_
      refine y_iconst (v := -1) (pc := 33) F dX1_callOn_33 rfl ?_
      refine y_ixor (pc := 34) F dX1_callOn_34 ?_
      refine y_iand (pc := 35) F dX1_callOn_35 ?_
      refine y_lald (pc := 36) F dX1_callOn_36 10 WCa_at10 ?_
      refine y_ltl (fun y11 => ?_)
      refine y_lstore (lv' := [some (.ref (q 0)), some (.int a1), some (.int a2), some (.int (r1.1)), some (.int x8), some (.int x9), some (.long y11), none]) (pc := 37) F dX1_callOn_37 (Nat.le_of_ble_eq_true rfl) rfl rfl ?_
      refine y_lload (pc := 39) F dX1_callOn_39 rfl ?_
      refine y_lconst (v := 0) (pc := 41) F dX1_callOn_41 rfl ?_
      refine y_jn (fun (K87 : Ob → Option Ob) => ∀ (o12 : Ob), zY X D out (K87 o12) (WCa tA q o12 oc ow os) 87 [some (.ref (q 0)), some (.int a1), some (.int a2), some (.int (r1.1)), some (.int x8), some (.int x9), none, none] []) ?_ ?_
      · intro o12
        refine y_iload (pc := 87) F dX1_callOn_87 rfl ?_
        refine y_iconst (v := 1) (pc := 89) F dX1_callOn_89 rfl ?_
        refine y_isub (pc := 90) F dX1_callOn_90 ?_
        refine y_iload (pc := 91) F dX1_callOn_91 rfl ?_
        refine y_iand (pc := 93) F dX1_callOn_93 ?_
        refine y_iload_n (pc := 94) F dX1_callOn_94 rfl ?_
        refine y_iand (pc := 95) F dX1_callOn_95 ?_
        refine y_lti (fun x13 => ?_)
        refine y_istore (lv' := [some (.ref (q 0)), some (.int a1), some (.int a2), some (.int (r1.1)), some (.int x8), some (.int x13), none, none]) (pc := 96) F dX1_callOn_96 (Nat.le_of_ble_eq_true rfl) rfl rfl ?_
        refine y_goto (tgt := 20) (pc := 98) F dX1_callOn_98 rfl ?_
        exact ih x8 x13 o12
      intro K87 hK87
      refine y_lcmp_lt (pc := 42) (tgt := 87) F dX1_callOn_42 dX1_callOn_43 rfl ?_ ?_
      · refine y_le (lv' := [some (.ref (q 0)), some (.int a1), some (.int a2), some (.int (r1.1)), some (.int x8), some (.int x9), none, none]) ⟨rfl, ⟨rfl, ⟨rfl, ⟨rfl, ⟨rfl, ⟨rfl, trivial⟩⟩⟩⟩⟩⟩ ?_
        exact hK87 o10
      · refine y_iload (pc := 46) F dX1_callOn_46 rfl ?_
        refine y_scalliP (As := [.int x9]) (st := []) (pc := 48) F (c_J6_bitCount_0f7a4 (q := q) x9) dX1_callOn_48 kM_X1_87 ⟨rfl, rfl⟩ ⟨Nat.le_of_ble_eq_true rfl, Nat.le_of_ble_eq_true rfl⟩ rfl rfl rfl (Nat.le_of_ble_eq_true rfl) (fun r14 => ?_)
        refine y_aload_n (pc := 51) F dX1_callOn_51 rfl ?_
        refine y_get (pc := 52) F dX1_callOn_52 kF_X1_20 0 WCa_at0 rfl ?_
        refine y_iload_n (pc := 55) F dX1_callOn_55 rfl ?_
        refine y_iald (pc := 56) F dX1_callOn_56 9 WCa_at9 ?_
        refine y_icmp_gt (pc := 57) (tgt := 87) F dX1_callOn_57 rfl ?_ ?_
        · refine y_le (lv' := [some (.ref (q 0)), some (.int a1), some (.int a2), some (.int (r1.1)), some (.int x8), some (.int x9), none, none]) ⟨rfl, ⟨rfl, ⟨rfl, ⟨rfl, ⟨rfl, ⟨rfl, trivial⟩⟩⟩⟩⟩⟩ ?_
          exact hK87 o10
        · refine y_aload_n (pc := 60) F dX1_callOn_60 rfl ?_
          refine y_get (pc := 61) F dX1_callOn_61 kF_X1_23 0 WCa_at0 rfl ?_
          refine y_iload (pc := 64) F dX1_callOn_64 rfl ?_
          refine y_aload_n (pc := 66) F dX1_callOn_66 rfl ?_
          refine y_get (pc := 67) F dX1_callOn_67 kF_X1_23 0 WCa_at0 rfl ?_
          refine y_iload (pc := 70) F dX1_callOn_70 rfl ?_
          refine y_lald (pc := 72) F dX1_callOn_72 10 WCa_at10 ?_
          refine y_lload (pc := 73) F dX1_callOn_73 rfl ?_
          refine y_aload_n (pc := 75) F dX1_callOn_75 rfl ?_
          refine y_get (pc := 76) F dX1_callOn_76 kF_X1_27 0 WCa_at0 rfl ?_
          refine y_iload (pc := 79) F dX1_callOn_79 rfl ?_
          refine y_lald (pc := 81) F dX1_callOn_81 11 WCa_at11 ?_
          refine y_ladd (pc := 82) F dX1_callOn_82 ?_
          refine y_mmaxl (pc := 83) F dX1_callOn_83 kM_X1_158 ⟨Nat.le_of_ble_eq_true rfl, Nat.le_of_ble_eq_true rfl⟩ rfl ?_
          refine y_ltl (fun y15 => ?_)
          refine y_last (pc := 86) F dX1_callOn_86 10 WCa_at10 (fun (o16 : Ob) => (WCa tA q o16 oc ow os)) (WCa_ar10 _) (fun o16 => ?_)
          refine y_le (lv' := [some (.ref (q 0)), some (.int a1), some (.int a2), some (.int (r1.1)), some (.int x8), some (.int x9), none, none]) ⟨rfl, ⟨rfl, ⟨rfl, ⟨rfl, ⟨rfl, ⟨rfl, trivial⟩⟩⟩⟩⟩⟩ ?_
          exact hK87 o16
set_option maxHeartbeats 4000000 in
set_option maxRecDepth 100000 in
theorem wlX1_callOn_9 {X : ZX} {out : Ob} (q : Nat → Nat) (oc : Ob) (ow : Ob) (os : Ob) (a1 : Int32) (a2 : Int32) (r1 : Int32 × Ob) (F : zF l D tA RX1 cX1_callOn 8 rmX1_callOn X) (hr : zRv X D cX1_callOn (fun (r : Ob) => (WCa tA q r oc ow os)) out) : ∀ (f : Nat) (x2 : Int32) (o3 : Ob), zY X D out (lX1_callOn_9 a1 a2 r1 f x2 o3) (WCa tA q o3 oc ow os) 9 [some (.ref (q 0)), some (.int a1), some (.int a2), some (.int (r1.1)), some (.int x2), none, none, none] [] := by
  intro f
  induction f with
  | zero =>
    intro x2 o3
    exact y_none
  | succ f ih =>
    intro x2 o3
    rw [lX1_callOn_9.eq_2]
    refine y_iload (pc := 9) F dX1_callOn_9 rfl ?_
    refine y_if_le (pc := 11) (tgt := 112) F dX1_callOn_11 rfl ?_ ?_
    · exact y_vret hr dX1_callOn_112 rfl
    · refine y_iload (pc := 14) F dX1_callOn_14 rfl ?_
      refine y_iload_n (pc := 16) F dX1_callOn_16 rfl ?_
      refine y_iand (pc := 17) F dX1_callOn_17 ?_
      refine y_lti (fun x4 => ?_)
      refine y_istore (lv' := [some (.ref (q 0)), some (.int a1), some (.int a2), some (.int (r1.1)), some (.int x2), some (.int x4), none, none]) (pc := 18) F dX1_callOn_18 (Nat.le_of_ble_eq_true rfl) rfl rfl ?_
      refine y_jn (fun (K101 : Int32 → Ob → Option Ob) => ∀ (x5 : Int32) (o6 : Ob), zY X D out (K101 x5 o6) (WCa tA q o6 oc ow os) 101 [some (.ref (q 0)), some (.int a1), some (.int a2), some (.int (r1.1)), some (.int x5), none, none, none] []) ?_ ?_
      · intro x5 o6
        refine y_iload (pc := 101) F dX1_callOn_101 rfl ?_
        refine y_iconst (v := 1) (pc := 103) F dX1_callOn_103 rfl ?_
        refine y_isub (pc := 104) F dX1_callOn_104 ?_
        refine y_iload_n (pc := 105) F dX1_callOn_105 rfl ?_
        refine y_iand (pc := 106) F dX1_callOn_106 ?_
        refine y_lti (fun x7 => ?_)
        refine y_istore (lv' := [some (.ref (q 0)), some (.int a1), some (.int a2), some (.int (r1.1)), some (.int x7), none, none, none]) (pc := 107) F dX1_callOn_107 (Nat.le_of_ble_eq_true rfl) rfl rfl ?_
        refine y_goto (tgt := 9) (pc := 109) F dX1_callOn_109 rfl ?_
        exact ih x7 o6
      intro K101 hK101
      exact wlX1_callOn_20 q oc ow os a1 a2 r1 F hr hK101 zfu x2 x4 o3
set_option maxHeartbeats 4000000 in
set_option maxRecDepth 100000 in
theorem c_X1_callOn {q : Nat → Nat} (oe : Ob) (oc : Ob) (ow : Ob) (os : Ob) (a1 : Int32) (a2 : Int32) : zCv l D tA yX1_callOn cX1_callOn 8 rmX1_callOn [.ref (q 0), .int a1, .int a2] (WCa tA q oe oc ow os) (fun (r : Ob) => (WCa tA q r oc ow os)) (pX1_callOn oe oc ow os a1 a2) := by
  refine zCv_of (lv0 := [some (.ref (q 0)), some (.int a1), some (.int a2), none, none, none, none, none]) (by decide +kernel) (Nat.le_of_ble_eq_true rfl) rfl (fun X out F hr => ?_)
  unfold pX1_callOn
  refine y_aload_n (pc := 0) F dX1_callOn_0 rfl ?_
  refine y_iload_n (pc := 1) F dX1_callOn_1 rfl ?_
  refine y_calliW (As := [.int a1]) (st := []) (q0 := 0) (pc := 2) F (c_X1_addUp (q := q) oe oc ow os a1) dX1_callOn_2 kM_X1_155 ⟨rfl, rfl⟩ ⟨Nat.le_of_ble_eq_true rfl, Nat.le_of_ble_eq_true rfl⟩ rfl rfl rfl (Nat.le_of_ble_eq_true rfl) rfl rfl WCa_at0 (fun r1 => ?_)
  refine y_istore_n (lv' := [some (.ref (q 0)), some (.int a1), some (.int a2), some (.int (r1.1)), none, none, none, none]) (pc := 5) F dX1_callOn_5 (Nat.le_of_ble_eq_true rfl) rfl rfl ?_
  refine y_iload_n (pc := 6) F dX1_callOn_6 rfl ?_
  refine y_istore (lv' := [some (.ref (q 0)), some (.int a1), some (.int a2), some (.int (r1.1)), some (.int a2), none, none, none]) (pc := 7) F dX1_callOn_7 (Nat.le_of_ble_eq_true rfl) rfl rfl ?_
  exact wlX1_callOn_9 q oc ow os a1 a2 r1 F hr zfu a2 (r1.2)
abbrev rmX1_greatest : Room := { frames := 1, cells := 0, slots := 0, locals := 30 }
def lX1_greatest_4 (oe : Ob) (oc : Ob) (ow : Ob) (os : Ob) : Nat → Int64 → Int32 → Option Int64
  | 0, _, _ => none
  | f + 1, y1, x2 =>
    Option.bind (pX1_allOfThem oe oc ow os) fun (r3 : Int32) =>
    if r3 < x2 then (some ((gl oe 10) + y1))
    else (zgd x2 64 <| zlet ((if (gb oe 4 (x2.toNatClampNeg)) < y1 then y1 else (gb oe 4 (x2.toNatClampNeg)))) fun (y4 : Int64) =>
    zlet (x2 + (1 : Int32)) fun (x5 : Int32) =>
    lX1_greatest_4 oe oc ow os f y4 x5)
def pX1_greatest (oe : Ob) (oc : Ob) (ow : Ob) (os : Ob) : Option Int64 :=
  lX1_greatest_4 oe oc ow os zfu (0 : Int64) (0 : Int32)
set_option maxHeartbeats 4000000 in
set_option maxRecDepth 100000 in
theorem wlX1_greatest_4 {X : ZX} {out : Int64} (q : Nat → Nat) (oe : Ob) (oc : Ob) (ow : Ob) (os : Ob) (F : zF l D tA RX1 cX1_greatest 4 rmX1_greatest X) (hr : zRl X D cX1_greatest (fun (r : Int64) => r) (fun (r : Int64) => (WCa tA q oe oc ow os)) out) : ∀ (f : Nat) (y1 : Int64) (x2 : Int32), zY X D out (lX1_greatest_4 oe oc ow os f y1 x2) (WCa tA q oe oc ow os) 4 [some (.ref (q 0)), some (.long y1), none, some (.int x2)] [] := by
  intro f
  induction f with
  | zero =>
    intro y1 x2
    exact y_none
  | succ f ih =>
    intro y1 x2
    rw [lX1_greatest_4.eq_2]
    refine y_iload_n (pc := 4) F dX1_greatest_4 rfl ?_
    refine y_aload_n (pc := 5) F dX1_greatest_5 rfl ?_
    refine y_calliW (As := []) (st := [.int x2]) (q0 := 0) (pc := 6) F (c_X1_allOfThem (q := q) oe oc ow os) dX1_greatest_6 kM_X1_52 ⟨rfl, rfl⟩ ⟨Nat.le_of_ble_eq_true rfl, Nat.le_of_ble_eq_true rfl⟩ rfl rfl rfl (Nat.le_of_ble_eq_true rfl) rfl rfl WCa_at0 (fun r3 => ?_)
    refine y_icmp_gt (pc := 9) (tgt := 29) F dX1_greatest_9 rfl ?_ ?_
    · refine y_aload_n (pc := 29) F dX1_greatest_29 rfl ?_
      refine y_get (pc := 30) F dX1_greatest_30 kF_X1_143 0 WCa_at0 rfl ?_
      refine y_lload_n (pc := 33) F dX1_greatest_33 rfl ?_
      refine y_ladd (pc := 34) F dX1_greatest_34 ?_
      exact y_lret hr dX1_greatest_35 rfl rfl
    · refine y_lload_n (pc := 12) F dX1_greatest_12 rfl ?_
      refine y_aload_n (pc := 13) F dX1_greatest_13 rfl ?_
      refine y_get (pc := 14) F dX1_greatest_14 kF_X1_23 0 WCa_at0 rfl ?_
      refine y_iload_n (pc := 17) F dX1_greatest_17 rfl ?_
      refine y_lald (pc := 18) F dX1_greatest_18 10 WCa_at10 ?_
      refine y_mmaxl (pc := 19) F dX1_greatest_19 kM_X1_158 ⟨Nat.le_of_ble_eq_true rfl, Nat.le_of_ble_eq_true rfl⟩ rfl ?_
      refine y_ltl (fun y4 => ?_)
      refine y_lstore_n (lv' := [some (.ref (q 0)), some (.long y4), none, some (.int x2)]) (pc := 22) F dX1_greatest_22 (Nat.le_of_ble_eq_true rfl) rfl rfl ?_
      refine y_iinc (v := 1) (lf := fun (x5 : Int32) => [some (.ref (q 0)), some (.long y4), none, some (.int x5)]) (pc := 23) F dX1_greatest_23 rfl rfl rfl (fun _ => rfl) (fun x5 => ?_)
      refine y_goto (tgt := 4) (pc := 26) F dX1_greatest_26 rfl ?_
      exact ih y4 x5
set_option maxHeartbeats 4000000 in
set_option maxRecDepth 100000 in
theorem c_X1_greatest {q : Nat → Nat} (oe : Ob) (oc : Ob) (ow : Ob) (os : Ob) : zCl l D tA yX1_greatest cX1_greatest 4 rmX1_greatest [.ref (q 0)] (WCa tA q oe oc ow os) (fun (r : Int64) => r) (fun (r : Int64) => (WCa tA q oe oc ow os)) (pX1_greatest oe oc ow os) := by
  refine zCl_of (lv0 := [some (.ref (q 0)), none, none, none]) (by decide +kernel) (Nat.le_of_ble_eq_true rfl) rfl (fun X out F hr => ?_)
  unfold pX1_greatest
  refine y_lconst (v := 0) (pc := 0) F dX1_greatest_0 rfl ?_
  refine y_lstore_n (lv' := [some (.ref (q 0)), some (.long (0 : Int64)), none, none]) (pc := 1) F dX1_greatest_1 (Nat.le_of_ble_eq_true rfl) rfl rfl ?_
  refine y_iconst (v := 0) (pc := 2) F dX1_greatest_2 rfl ?_
  refine y_istore_n (lv' := [some (.ref (q 0)), some (.long (0 : Int64)), none, some (.int (0 : Int32))]) (pc := 3) F dX1_greatest_3 (Nat.le_of_ble_eq_true rfl) rfl rfl ?_
  exact wlX1_greatest_4 q oe oc ow os F hr zfu (0 : Int64) (0 : Int32)
abbrev rmX1_mostOn : Room := { frames := 4, cells := 0, slots := 0, locals := 92 }
def lX1_mostOn_11 (oc : Ob) (ow : Ob) (os : Ob) (a2 : Int32) (K39 : Ob → Option (Int32 × Ob)) : Nat → Int32 → Ob → Option (Int32 × Ob)
  | 0, _, _ => none
  | f + 1, x5, o6 =>
    if a2 < x5 then (K39 o6)
    else (if (gi o6 9) < x5 then (K39 o6)
    else (Option.bind (pX1_allOfThem o6 oc ow os) fun (r7 : Int32) =>
    Option.bind (pX1_callOn o6 oc ow os x5 r7) fun (r8 : Ob) =>
    zlet (x5 + (1 : Int32)) fun (x9 : Int32) =>
    lX1_mostOn_11 oc ow os a2 K39 f x9 r8))
def pX1_mostOn (oe : Ob) (oc : Ob) (ow : Ob) (os : Ob) (a1 : Int32) (a2 : Int32) : Option (Int32 × Ob) :=
  Option.bind (pX1_prepare oe oc ow os a1) fun (r1 : Ob) =>
  Option.bind (pX1_clearPlans r1 oc ow os) fun (r2 : Ob) =>
  zjn (fun (o3 : Ob) =>
  Option.bind (pX1_greatest o3 oc ow os) fun (r4 : Int64) =>
  some (((r4 >>> (a2.toInt64 &&& 63)).toInt32), o3)) fun (K39 : Ob → Option (Int32 × Ob)) =>
  lX1_mostOn_11 oc ow os a2 K39 zfu (0 : Int32) r2
set_option maxHeartbeats 4000000 in
set_option maxRecDepth 100000 in
theorem wlX1_mostOn_11 {X : ZX} {out : (Int32 × Ob)} (q : Nat → Nat) (oc : Ob) (ow : Ob) (os : Ob) (a2 : Int32) (F : zF l D tA RX1 cX1_mostOn 4 rmX1_mostOn X) (hr : zRi X D cX1_mostOn .int (fun (r : Int32 × Ob) => (r.1)) (fun (r : Int32 × Ob) => (WCa tA q (r.2) oc ow os)) out) {K39 : Ob → Option (Int32 × Ob)} (hK39 : ∀ (o3 : Ob), zY X D out (K39 o3) (WCa tA q o3 oc ow os) 39 [some (.ref (q 0)), none, some (.int a2), none] []) : ∀ (f : Nat) (x5 : Int32) (o6 : Ob), zY X D out (lX1_mostOn_11 oc ow os a2 K39 f x5 o6) (WCa tA q o6 oc ow os) 11 [some (.ref (q 0)), none, some (.int a2), some (.int x5)] [] := by
  intro f
  induction f with
  | zero =>
    intro x5 o6
    exact y_none
  | succ f ih =>
    intro x5 o6
    rw [lX1_mostOn_11.eq_2]
    refine y_iload_n (pc := 11) F dX1_mostOn_11 rfl ?_
    refine y_iload_n (pc := 12) F dX1_mostOn_12 rfl ?_
    refine y_icmp_gt (pc := 13) (tgt := 39) F dX1_mostOn_13 rfl ?_ ?_
    · refine y_le (lv' := [some (.ref (q 0)), none, some (.int a2), none]) ⟨rfl, ⟨rfl, trivial⟩⟩ ?_
      exact hK39 o6
    · refine y_iload_n (pc := 16) F dX1_mostOn_16 rfl ?_
      refine y_aload_n (pc := 17) F dX1_mostOn_17 rfl ?_
      refine y_get (pc := 18) F dX1_mostOn_18 kF_X1_48 0 WCa_at0 rfl ?_
      refine y_icmp_gt (pc := 21) (tgt := 39) F dX1_mostOn_21 rfl ?_ ?_
      · refine y_le (lv' := [some (.ref (q 0)), none, some (.int a2), none]) ⟨rfl, ⟨rfl, trivial⟩⟩ ?_
        exact hK39 o6
      · refine y_aload_n (pc := 24) F dX1_mostOn_24 rfl ?_
        refine y_iload_n (pc := 25) F dX1_mostOn_25 rfl ?_
        refine y_aload_n (pc := 26) F dX1_mostOn_26 rfl ?_
        refine y_calliW (As := []) (st := [.int x5, .ref (q 0)]) (q0 := 0) (pc := 27) F (c_X1_allOfThem (q := q) o6 oc ow os) dX1_mostOn_27 kM_X1_52 ⟨rfl, rfl⟩ ⟨Nat.le_of_ble_eq_true rfl, Nat.le_of_ble_eq_true rfl⟩ rfl rfl rfl (Nat.le_of_ble_eq_true rfl) rfl rfl WCa_at0 (fun r7 => ?_)
        refine y_callvW (As := [.int x5, .int r7]) (st := []) (q0 := 0) (pc := 30) F (c_X1_callOn (q := q) o6 oc ow os x5 r7) dX1_mostOn_30 kM_X1_56 ⟨rfl, rfl⟩ ⟨Nat.le_of_ble_eq_true rfl, Nat.le_of_ble_eq_true rfl⟩ rfl rfl rfl (Nat.le_of_ble_eq_true rfl) rfl rfl WCa_at0 (fun r8 => ?_)
        refine y_iinc (v := 1) (lf := fun (x9 : Int32) => [some (.ref (q 0)), none, some (.int a2), some (.int x9)]) (pc := 33) F dX1_mostOn_33 rfl rfl rfl (fun _ => rfl) (fun x9 => ?_)
        refine y_goto (tgt := 11) (pc := 36) F dX1_mostOn_36 rfl ?_
        exact ih x9 r8
set_option maxHeartbeats 4000000 in
set_option maxRecDepth 100000 in
theorem c_X1_mostOn {q : Nat → Nat} (oe : Ob) (oc : Ob) (ow : Ob) (os : Ob) (a1 : Int32) (a2 : Int32) : zCi l D tA yX1_mostOn cX1_mostOn 4 .int rmX1_mostOn [.ref (q 0), .int a1, .int a2] (WCa tA q oe oc ow os) (fun (r : Int32 × Ob) => (r.1)) (fun (r : Int32 × Ob) => (WCa tA q (r.2) oc ow os)) (pX1_mostOn oe oc ow os a1 a2) := by
  refine zCi_of (lv0 := [some (.ref (q 0)), some (.int a1), some (.int a2), none]) (by decide +kernel) (Nat.le_of_ble_eq_true rfl) rfl (fun X out F hr => ?_)
  unfold pX1_mostOn
  refine y_aload_n (pc := 0) F dX1_mostOn_0 rfl ?_
  refine y_iload_n (pc := 1) F dX1_mostOn_1 rfl ?_
  refine y_callvW (As := [.int a1]) (st := []) (q0 := 0) (pc := 2) F (c_X1_prepare (q := q) oe oc ow os a1) dX1_mostOn_2 kM_X1_41 ⟨rfl, rfl⟩ ⟨Nat.le_of_ble_eq_true rfl, Nat.le_of_ble_eq_true rfl⟩ rfl rfl rfl (Nat.le_of_ble_eq_true rfl) rfl rfl WCa_at0 (fun r1 => ?_)
  refine y_aload_n (pc := 5) F dX1_mostOn_5 rfl ?_
  refine y_callvW (As := []) (st := []) (q0 := 0) (pc := 6) F (c_X1_clearPlans (q := q) r1 oc ow os) dX1_mostOn_6 kM_X1_45 ⟨rfl, rfl⟩ ⟨Nat.le_of_ble_eq_true rfl, Nat.le_of_ble_eq_true rfl⟩ rfl rfl rfl (Nat.le_of_ble_eq_true rfl) rfl rfl WCa_at0 (fun r2 => ?_)
  refine y_iconst (v := 0) (pc := 9) F dX1_mostOn_9 rfl ?_
  refine y_istore_n (lv' := [some (.ref (q 0)), some (.int a1), some (.int a2), some (.int (0 : Int32))]) (pc := 10) F dX1_mostOn_10 (Nat.le_of_ble_eq_true rfl) rfl rfl ?_
  refine y_jn (fun (K39 : Ob → Option (Int32 × Ob)) => ∀ (o3 : Ob), zY X D out (K39 o3) (WCa tA q o3 oc ow os) 39 [some (.ref (q 0)), none, some (.int a2), none] []) ?_ ?_
  · intro o3
    refine y_aload_n (pc := 39) F dX1_mostOn_39 rfl ?_
    refine y_calllW (As := []) (st := []) (q0 := 0) (pc := 40) F (c_X1_greatest (q := q) o3 oc ow os) dX1_mostOn_40 kM_X1_60 ⟨rfl, rfl⟩ ⟨Nat.le_of_ble_eq_true rfl, Nat.le_of_ble_eq_true rfl⟩ rfl rfl rfl (Nat.le_of_ble_eq_true rfl) rfl rfl WCa_at0 (fun r4 => ?_)
    refine y_iload_n (pc := 43) F dX1_mostOn_43 rfl ?_
    refine y_lshr (pc := 44) F dX1_mostOn_44 ?_
    refine y_l2i (pc := 45) F dX1_mostOn_45 ?_
    exact y_iret hr dX1_mostOn_46 rfl rfl
  intro K39 hK39
  refine y_le (lv' := [some (.ref (q 0)), none, some (.int a2), some (.int (0 : Int32))]) ⟨rfl, ⟨rfl, ⟨rfl, trivial⟩⟩⟩ ?_
  exact wlX1_mostOn_11 q oc ow os a2 F hr hK39 zfu (0 : Int32) r2
abbrev rmX1_soonestOf : Room := { frames := 4, cells := 0, slots := 0, locals := 92 }
def lX1_soonestOf_24 (oc : Ob) (ow : Ob) (os : Ob) : Nat → Int32 → Ob → Option (Int32 × Ob)
  | 0, _, _ => none
  | f + 1, x4, o5 =>
    if (gi o5 9) < x4 then (some ((-1 : Int32), o5))
    else (Option.bind (pX1_allOfThem o5 oc ow os) fun (r6 : Int32) =>
    Option.bind (pX1_callOn o5 oc ow os x4 r6) fun (r7 : Ob) =>
    Option.bind (pX1_greatest r7 oc ow os) fun (r8 : Int64) =>
    if r8 < ((gl r7 11) <<< (x4.toInt64 &&& 63)) then (zlet (x4 + (1 : Int32)) fun (x9 : Int32) =>
    lX1_soonestOf_24 oc ow os f x9 r7)
    else (some (x4, r7)))
def pX1_soonestOf (oe : Ob) (oc : Ob) (ow : Ob) (os : Ob) (a1 : Int32) : Option (Int32 × Ob) :=
  Option.bind (pX9_goesOn oc ow os a1) fun (r1 : Int32) =>
  if r1 = 0 then (some ((-1 : Int32), oe))
  else (Option.bind (pX1_prepare oe oc ow os a1) fun (r2 : Ob) =>
  Option.bind (pX1_clearPlans r2 oc ow os) fun (r3 : Ob) =>
  lX1_soonestOf_24 oc ow os zfu (0 : Int32) r3)
set_option maxHeartbeats 4000000 in
set_option maxRecDepth 100000 in
theorem wlX1_soonestOf_24 {X : ZX} {out : (Int32 × Ob)} (q : Nat → Nat) (oc : Ob) (ow : Ob) (os : Ob) (F : zF l D tA RX1 cX1_soonestOf 3 rmX1_soonestOf X) (hr : zRi X D cX1_soonestOf .int (fun (r : Int32 × Ob) => (r.1)) (fun (r : Int32 × Ob) => (WCa tA q (r.2) oc ow os)) out) : ∀ (f : Nat) (x4 : Int32) (o5 : Ob), zY X D out (lX1_soonestOf_24 oc ow os f x4 o5) (WCa tA q o5 oc ow os) 24 [some (.ref (q 0)), none, some (.int x4)] [] := by
  intro f
  induction f with
  | zero =>
    intro x4 o5
    exact y_none
  | succ f ih =>
    intro x4 o5
    rw [lX1_soonestOf_24.eq_2]
    refine y_iload_n (pc := 24) F dX1_soonestOf_24 rfl ?_
    refine y_aload_n (pc := 25) F dX1_soonestOf_25 rfl ?_
    refine y_get (pc := 26) F dX1_soonestOf_26 kF_X1_48 0 WCa_at0 rfl ?_
    refine y_icmp_gt (pc := 29) (tgt := 63) F dX1_soonestOf_29 rfl ?_ ?_
    · refine y_iconst (v := -1) (pc := 63) F dX1_soonestOf_63 rfl ?_
      exact y_iret hr dX1_soonestOf_64 rfl rfl
    · refine y_aload_n (pc := 32) F dX1_soonestOf_32 rfl ?_
      refine y_iload_n (pc := 33) F dX1_soonestOf_33 rfl ?_
      refine y_aload_n (pc := 34) F dX1_soonestOf_34 rfl ?_
      refine y_calliW (As := []) (st := [.int x4, .ref (q 0)]) (q0 := 0) (pc := 35) F (c_X1_allOfThem (q := q) o5 oc ow os) dX1_soonestOf_35 kM_X1_52 ⟨rfl, rfl⟩ ⟨Nat.le_of_ble_eq_true rfl, Nat.le_of_ble_eq_true rfl⟩ rfl rfl rfl (Nat.le_of_ble_eq_true rfl) rfl rfl WCa_at0 (fun r6 => ?_)
      refine y_callvW (As := [.int x4, .int r6]) (st := []) (q0 := 0) (pc := 38) F (c_X1_callOn (q := q) o5 oc ow os x4 r6) dX1_soonestOf_38 kM_X1_56 ⟨rfl, rfl⟩ ⟨Nat.le_of_ble_eq_true rfl, Nat.le_of_ble_eq_true rfl⟩ rfl rfl rfl (Nat.le_of_ble_eq_true rfl) rfl rfl WCa_at0 (fun r7 => ?_)
      refine y_aload_n (pc := 41) F dX1_soonestOf_41 rfl ?_
      refine y_calllW (As := []) (st := []) (q0 := 0) (pc := 42) F (c_X1_greatest (q := q) r7 oc ow os) dX1_soonestOf_42 kM_X1_60 ⟨rfl, rfl⟩ ⟨Nat.le_of_ble_eq_true rfl, Nat.le_of_ble_eq_true rfl⟩ rfl rfl rfl (Nat.le_of_ble_eq_true rfl) rfl rfl WCa_at0 (fun r8 => ?_)
      refine y_aload_n (pc := 45) F dX1_soonestOf_45 rfl ?_
      refine y_get (pc := 46) F dX1_soonestOf_46 kF_X1_70 0 WCa_at0 rfl ?_
      refine y_iload_n (pc := 49) F dX1_soonestOf_49 rfl ?_
      refine y_lshl (pc := 50) F dX1_soonestOf_50 ?_
      refine y_lcmp_lt (pc := 51) (tgt := 57) F dX1_soonestOf_51 dX1_soonestOf_52 rfl ?_ ?_
      · refine y_iinc (v := 1) (lf := fun (x9 : Int32) => [some (.ref (q 0)), none, some (.int x9)]) (pc := 57) F dX1_soonestOf_57 rfl rfl rfl (fun _ => rfl) (fun x9 => ?_)
        refine y_goto (tgt := 24) (pc := 60) F dX1_soonestOf_60 rfl ?_
        exact ih x9 r7
      · refine y_iload_n (pc := 55) F dX1_soonestOf_55 rfl ?_
        exact y_iret hr dX1_soonestOf_56 rfl rfl
set_option maxHeartbeats 4000000 in
set_option maxRecDepth 100000 in
theorem c_X1_soonestOf {q : Nat → Nat} (oe : Ob) (oc : Ob) (ow : Ob) (os : Ob) (a1 : Int32) : zCi l D tA yX1_soonestOf cX1_soonestOf 3 .int rmX1_soonestOf [.ref (q 0), .int a1] (WCa tA q oe oc ow os) (fun (r : Int32 × Ob) => (r.1)) (fun (r : Int32 × Ob) => (WCa tA q (r.2) oc ow os)) (pX1_soonestOf oe oc ow os a1) := by
  refine zCi_of (lv0 := [some (.ref (q 0)), some (.int a1), none]) (by decide +kernel) (Nat.le_of_ble_eq_true rfl) rfl (fun X out F hr => ?_)
  unfold pX1_soonestOf
  refine y_aload_n (pc := 0) F dX1_soonestOf_0 rfl ?_
  refine y_get (pc := 1) F dX1_soonestOf_1 kF_X1_37 0 WCa_at0 rfl ?_
  refine y_iload_n (pc := 4) F dX1_soonestOf_4 rfl ?_
  refine y_calliR (As := [.int a1]) (st := []) (q0 := 14) (pc := 5) F (c_X9_goesOn (q := zq q [14, 15, 16, 17, 18, 19, 20, 21, 22, 23, 24, 25, 26, 27, 28, 29, 30, 31, 32, 33, 34, 35, 36, 37, 38, 39, 40]) oc ow os a1) dX1_soonestOf_5 kM_X1_64 ⟨rfl, rfl⟩ ⟨Nat.le_of_ble_eq_true rfl, Nat.le_of_ble_eq_true rfl⟩ rfl rfl rfl (Nat.le_of_ble_eq_true rfl) rfl rfl WCa_at14 [14, 15, 16, 17, 18, 19, 20, 21, 22, 23, 24, 25, 26, 27, 28, 29, 30, 31, 32, 33, 34, 35, 36, 37, 38, 39, 40] zn4_c zn4_n (fun r1 => ?_)
  refine y_if_ne (pc := 8) (tgt := 13) F dX1_soonestOf_8 rfl ?_ ?_
  · refine y_iconst (v := -1) (pc := 11) F dX1_soonestOf_11 rfl ?_
    exact y_iret hr dX1_soonestOf_12 rfl rfl
  · refine y_aload_n (pc := 13) F dX1_soonestOf_13 rfl ?_
    refine y_iload_n (pc := 14) F dX1_soonestOf_14 rfl ?_
    refine y_callvW (As := [.int a1]) (st := []) (q0 := 0) (pc := 15) F (c_X1_prepare (q := q) oe oc ow os a1) dX1_soonestOf_15 kM_X1_41 ⟨rfl, rfl⟩ ⟨Nat.le_of_ble_eq_true rfl, Nat.le_of_ble_eq_true rfl⟩ rfl rfl rfl (Nat.le_of_ble_eq_true rfl) rfl rfl WCa_at0 (fun r2 => ?_)
    refine y_aload_n (pc := 18) F dX1_soonestOf_18 rfl ?_
    refine y_callvW (As := []) (st := []) (q0 := 0) (pc := 19) F (c_X1_clearPlans (q := q) r2 oc ow os) dX1_soonestOf_19 kM_X1_45 ⟨rfl, rfl⟩ ⟨Nat.le_of_ble_eq_true rfl, Nat.le_of_ble_eq_true rfl⟩ rfl rfl rfl (Nat.le_of_ble_eq_true rfl) rfl rfl WCa_at0 (fun r3 => ?_)
    refine y_iconst (v := 0) (pc := 22) F dX1_soonestOf_22 rfl ?_
    refine y_istore_n (lv' := [some (.ref (q 0)), some (.int a1), some (.int (0 : Int32))]) (pc := 23) F dX1_soonestOf_23 (Nat.le_of_ble_eq_true rfl) rfl rfl ?_
    refine y_le (lv' := [some (.ref (q 0)), none, some (.int (0 : Int32))]) ⟨rfl, ⟨rfl, trivial⟩⟩ ?_
    exact wlX1_soonestOf_24 q oc ow os F hr zfu (0 : Int32) r3
abbrev rmX1_suffices : Room := { frames := 0, cells := 0, slots := 0, locals := 0 }
def pX1_suffices (oe : Ob) (oc : Ob) (ow : Ob) (os : Ob) (a1 : Int64) (a3 : Int32) : Option Int32 :=
  if ((gl oe 10) + a1) < ((gl oe 11) <<< (a3.toInt64 &&& 63)) then (zgz (0 : Int32) (some (0 : Int32)))
  else (zgz (1 : Int32) (some (1 : Int32)))
set_option maxHeartbeats 4000000 in
set_option maxRecDepth 100000 in
theorem c_X1_suffices {q : Nat → Nat} (oe : Ob) (oc : Ob) (ow : Ob) (os : Ob) (a1 : Int64) (a3 : Int32) : zCi l D tA yX1_suffices cX1_suffices 4 .boolean rmX1_suffices [.ref (q 0), .long a1, .int a3] (WCa tA q oe oc ow os) (fun (r : Int32) => r) (fun (r : Int32) => (WCa tA q oe oc ow os)) (pX1_suffices oe oc ow os a1 a3) := by
  refine zCi_of (lv0 := [some (.ref (q 0)), some (.long a1), none, some (.int a3)]) (by decide +kernel) (Nat.le_of_ble_eq_true rfl) rfl (fun X out F hr => ?_)
  unfold pX1_suffices
  refine y_aload_n (pc := 0) F dX1_suffices_0 rfl ?_
  refine y_get (pc := 1) F dX1_suffices_1 kF_X1_143 0 WCa_at0 rfl ?_
  refine y_lload_n (pc := 4) F dX1_suffices_4 rfl ?_
  refine y_ladd (pc := 5) F dX1_suffices_5 ?_
  refine y_aload_n (pc := 6) F dX1_suffices_6 rfl ?_
  refine y_get (pc := 7) F dX1_suffices_7 kF_X1_70 0 WCa_at0 rfl ?_
  refine y_iload_n (pc := 10) F dX1_suffices_10 rfl ?_
  refine y_lshl (pc := 11) F dX1_suffices_11 ?_
  refine y_lcmp_lt (pc := 12) (tgt := 20) F dX1_suffices_12 dX1_suffices_13 rfl ?_ ?_
  · refine y_iconst (v := 0) (pc := 20) F dX1_suffices_20 rfl ?_
    exact y_zret hr dX1_suffices_21 rfl rfl
  · refine y_iconst (v := 1) (pc := 16) F dX1_suffices_16 rfl ?_
    refine y_goto (tgt := 21) (pc := 17) F dX1_suffices_17 rfl ?_
    exact y_zret hr dX1_suffices_21 rfl rfl
abbrev rmX1_fewestSpeakers : Room := { frames := 1, cells := 0, slots := 0, locals := 30 }
def lX1_fewestSpeakers_4 (oe : Ob) (oc : Ob) (ow : Ob) (os : Ob) (a1 : Int32) (K73 : Int32 → Option Int32) : Nat → Int32 → Int32 → Option Int32
  | 0, _, _ => none
  | f + 1, x3, x4 =>
    Option.bind (pX1_allOfThem oe oc ow os) fun (r5 : Int32) =>
    if r5 < x4 then (K73 x3)
    else (zjn (fun (x6 : Int32) =>
    zjn (fun (x7 : Int32) =>
    zlet (x4 + (1 : Int32)) fun (x8 : Int32) =>
    lX1_fewestSpeakers_4 oe oc ow os a1 K73 f x7 x8) fun (K67 : Int32 → Option Int32) =>
    if x6 = 0 then (K67 x3)
    else (zgd x4 64 <| if (gb oe 4 (x4.toNatClampNeg)) < (0 : Int64) then (K67 x3)
    else (zgd x4 64 <| Option.bind (pX1_suffices oe oc ow os (gb oe 4 (x4.toNatClampNeg)) a1) fun (r9 : Int32) =>
    if r9 = 0 then (K67 x3)
    else (K67 x4)))) fun (K33 : Int32 → Option Int32) =>
    zjn (K33 (1 : Int32)) fun (K28 : Option Int32) =>
    if x3 = (-1 : Int32) then (K28)
    else (Option.bind (pJ6_bitCount_0f7a4 x4) fun (r10 : Int32) =>
    Option.bind (pJ6_bitCount_0f7a4 x3) fun (r11 : Int32) =>
    if r11 ≤ r10 then (K33 (0 : Int32))
    else (K28)))
def pX1_fewestSpeakers (oe : Ob) (oc : Ob) (ow : Ob) (os : Ob) (a1 : Int32) : Option Int32 :=
  zjn (fun (x1 : Int32) =>
  zlet ((if (0 : Int32) < x1 then x1 else (0 : Int32))) fun (x2 : Int32) =>
  some x2) fun (K73 : Int32 → Option Int32) =>
  lX1_fewestSpeakers_4 oe oc ow os a1 K73 zfu (-1 : Int32) (0 : Int32)
set_option maxHeartbeats 4000000 in
set_option maxRecDepth 100000 in
theorem wlX1_fewestSpeakers_4 {X : ZX} {out : Int32} (q : Nat → Nat) (oe : Ob) (oc : Ob) (ow : Ob) (os : Ob) (a1 : Int32) (F : zF l D tA RX1 cX1_fewestSpeakers 5 rmX1_fewestSpeakers X) (hr : zRi X D cX1_fewestSpeakers .int (fun (r : Int32) => r) (fun (r : Int32) => (WCa tA q oe oc ow os)) out) {K73 : Int32 → Option Int32} (hK73 : ∀ (x1 : Int32), zY X D out (K73 x1) (WCa tA q oe oc ow os) 73 [none, none, some (.int x1), none, none] []) : ∀ (f : Nat) (x3 : Int32) (x4 : Int32), zY X D out (lX1_fewestSpeakers_4 oe oc ow os a1 K73 f x3 x4) (WCa tA q oe oc ow os) 4 [some (.ref (q 0)), some (.int a1), some (.int x3), some (.int x4), none] [] := by
  intro f
  induction f with
  | zero =>
    intro x3 x4
    exact y_none
  | succ f ih =>
    intro x3 x4
    rw [lX1_fewestSpeakers_4.eq_2]
    refine y_iload_n (pc := 4) F dX1_fewestSpeakers_4 rfl ?_
    refine y_aload_n (pc := 5) F dX1_fewestSpeakers_5 rfl ?_
    refine y_calliW (As := []) (st := [.int x4]) (q0 := 0) (pc := 6) F (c_X1_allOfThem (q := q) oe oc ow os) dX1_fewestSpeakers_6 kM_X1_52 ⟨rfl, rfl⟩ ⟨Nat.le_of_ble_eq_true rfl, Nat.le_of_ble_eq_true rfl⟩ rfl rfl rfl (Nat.le_of_ble_eq_true rfl) rfl rfl WCa_at0 (fun r5 => ?_)
    refine y_icmp_gt (pc := 9) (tgt := 73) F dX1_fewestSpeakers_9 rfl ?_ ?_
    · refine y_le (lv' := [none, none, some (.int x3), none, none]) ⟨rfl, trivial⟩ ?_
      exact hK73 x3
    · refine y_iload_n (pc := 12) F dX1_fewestSpeakers_12 rfl ?_
      refine y_iconst (v := -1) (pc := 13) F dX1_fewestSpeakers_13 rfl ?_
      refine y_jn (fun (K33 : Int32 → Option Int32) => ∀ (x6 : Int32), zY X D out (K33 x6) (WCa tA q oe oc ow os) 33 [some (.ref (q 0)), some (.int a1), some (.int x3), some (.int x4), none] [.int x6]) ?_ ?_
      · intro x6
        refine y_istore (lv' := [some (.ref (q 0)), some (.int a1), some (.int x3), some (.int x4), some (.int x6)]) (pc := 33) F dX1_fewestSpeakers_33 (Nat.le_of_ble_eq_true rfl) rfl rfl ?_
        refine y_iload (pc := 35) F dX1_fewestSpeakers_35 rfl ?_
        refine y_jn (fun (K67 : Int32 → Option Int32) => ∀ (x7 : Int32), zY X D out (K67 x7) (WCa tA q oe oc ow os) 67 [some (.ref (q 0)), some (.int a1), some (.int x7), some (.int x4), none] []) ?_ ?_
        · intro x7
          refine y_iinc (v := 1) (lf := fun (x8 : Int32) => [some (.ref (q 0)), some (.int a1), some (.int x7), some (.int x8), none]) (pc := 67) F dX1_fewestSpeakers_67 rfl rfl rfl (fun _ => rfl) (fun x8 => ?_)
          refine y_goto (tgt := 4) (pc := 70) F dX1_fewestSpeakers_70 rfl ?_
          exact ih x7 x8
        intro K67 hK67
        refine y_if_eq (pc := 37) (tgt := 67) F dX1_fewestSpeakers_37 rfl ?_ ?_
        · refine y_le (lv' := [some (.ref (q 0)), some (.int a1), some (.int x3), some (.int x4), none]) ⟨rfl, ⟨rfl, ⟨rfl, ⟨rfl, trivial⟩⟩⟩⟩ ?_
          exact hK67 x3
        · refine y_aload_n (pc := 40) F dX1_fewestSpeakers_40 rfl ?_
          refine y_get (pc := 41) F dX1_fewestSpeakers_41 kF_X1_23 0 WCa_at0 rfl ?_
          refine y_iload_n (pc := 44) F dX1_fewestSpeakers_44 rfl ?_
          refine y_lald (pc := 45) F dX1_fewestSpeakers_45 10 WCa_at10 ?_
          refine y_lconst (v := 0) (pc := 46) F dX1_fewestSpeakers_46 rfl ?_
          refine y_lcmp_lt (pc := 47) (tgt := 67) F dX1_fewestSpeakers_47 dX1_fewestSpeakers_48 rfl ?_ ?_
          · refine y_le (lv' := [some (.ref (q 0)), some (.int a1), some (.int x3), some (.int x4), none]) ⟨rfl, ⟨rfl, ⟨rfl, ⟨rfl, trivial⟩⟩⟩⟩ ?_
            exact hK67 x3
          · refine y_aload_n (pc := 51) F dX1_fewestSpeakers_51 rfl ?_
            refine y_aload_n (pc := 52) F dX1_fewestSpeakers_52 rfl ?_
            refine y_get (pc := 53) F dX1_fewestSpeakers_53 kF_X1_23 0 WCa_at0 rfl ?_
            refine y_iload_n (pc := 56) F dX1_fewestSpeakers_56 rfl ?_
            refine y_lald (pc := 57) F dX1_fewestSpeakers_57 10 WCa_at10 ?_
            refine y_iload_n (pc := 58) F dX1_fewestSpeakers_58 rfl ?_
            refine y_calliW (As := [.long (gb oe 4 (x4.toNatClampNeg)), .int a1]) (st := []) (q0 := 0) (pc := 59) F (c_X1_suffices (q := q) oe oc ow os (gb oe 4 (x4.toNatClampNeg)) a1) dX1_fewestSpeakers_59 kM_X1_162 ⟨rfl, rfl⟩ ⟨Nat.le_of_ble_eq_true rfl, Nat.le_of_ble_eq_true rfl⟩ rfl rfl rfl (Nat.le_of_ble_eq_true rfl) rfl rfl WCa_at0 (fun r9 => ?_)
            refine y_if_eq (pc := 62) (tgt := 67) F dX1_fewestSpeakers_62 rfl ?_ ?_
            · refine y_le (lv' := [some (.ref (q 0)), some (.int a1), some (.int x3), some (.int x4), none]) ⟨rfl, ⟨rfl, ⟨rfl, ⟨rfl, trivial⟩⟩⟩⟩ ?_
              exact hK67 x3
            · refine y_iload_n (pc := 65) F dX1_fewestSpeakers_65 rfl ?_
              refine y_istore_n (lv' := [some (.ref (q 0)), some (.int a1), some (.int x4), some (.int x4), some (.int x6)]) (pc := 66) F dX1_fewestSpeakers_66 (Nat.le_of_ble_eq_true rfl) rfl rfl ?_
              refine y_le (lv' := [some (.ref (q 0)), some (.int a1), some (.int x4), some (.int x4), none]) ⟨rfl, ⟨rfl, ⟨rfl, ⟨rfl, trivial⟩⟩⟩⟩ ?_
              exact hK67 x4
      intro K33 hK33
      refine y_jn (fun (K28 : Option Int32) => zY X D out (K28) (WCa tA q oe oc ow os) 28 [some (.ref (q 0)), some (.int a1), some (.int x3), some (.int x4), none] []) ?_ ?_
      · skip
        refine y_iconst (v := 1) (pc := 28) F dX1_fewestSpeakers_28 rfl ?_
        refine y_goto (tgt := 33) (pc := 29) F dX1_fewestSpeakers_29 rfl ?_
        exact hK33 (1 : Int32)
      intro K28 hK28
      refine y_icmp_eq (pc := 14) (tgt := 28) F dX1_fewestSpeakers_14 rfl ?_ ?_
      · exact hK28
      · refine y_iload_n (pc := 17) F dX1_fewestSpeakers_17 rfl ?_
        refine y_scalliP (As := [.int x4]) (st := []) (pc := 18) F (c_J6_bitCount_0f7a4 (q := q) x4) dX1_fewestSpeakers_18 kM_X1_87 ⟨rfl, rfl⟩ ⟨Nat.le_of_ble_eq_true rfl, Nat.le_of_ble_eq_true rfl⟩ rfl rfl rfl (Nat.le_of_ble_eq_true rfl) (fun r10 => ?_)
        refine y_iload_n (pc := 21) F dX1_fewestSpeakers_21 rfl ?_
        refine y_scalliP (As := [.int x3]) (st := [.int r10]) (pc := 22) F (c_J6_bitCount_0f7a4 (q := q) x3) dX1_fewestSpeakers_22 kM_X1_87 ⟨rfl, rfl⟩ ⟨Nat.le_of_ble_eq_true rfl, Nat.le_of_ble_eq_true rfl⟩ rfl rfl rfl (Nat.le_of_ble_eq_true rfl) (fun r11 => ?_)
        refine y_icmp_ge (pc := 25) (tgt := 32) F dX1_fewestSpeakers_25 rfl ?_ ?_
        · refine y_iconst (v := 0) (pc := 32) F dX1_fewestSpeakers_32 rfl ?_
          exact hK33 (0 : Int32)
        · exact hK28
set_option maxHeartbeats 4000000 in
set_option maxRecDepth 100000 in
theorem c_X1_fewestSpeakers {q : Nat → Nat} (oe : Ob) (oc : Ob) (ow : Ob) (os : Ob) (a1 : Int32) : zCi l D tA yX1_fewestSpeakers cX1_fewestSpeakers 5 .int rmX1_fewestSpeakers [.ref (q 0), .int a1] (WCa tA q oe oc ow os) (fun (r : Int32) => r) (fun (r : Int32) => (WCa tA q oe oc ow os)) (pX1_fewestSpeakers oe oc ow os a1) := by
  refine zCi_of (lv0 := [some (.ref (q 0)), some (.int a1), none, none, none]) (by decide +kernel) (Nat.le_of_ble_eq_true rfl) rfl (fun X out F hr => ?_)
  unfold pX1_fewestSpeakers
  refine y_iconst (v := -1) (pc := 0) F dX1_fewestSpeakers_0 rfl ?_
  refine y_istore_n (lv' := [some (.ref (q 0)), some (.int a1), some (.int (-1 : Int32)), none, none]) (pc := 1) F dX1_fewestSpeakers_1 (Nat.le_of_ble_eq_true rfl) rfl rfl ?_
  refine y_iconst (v := 0) (pc := 2) F dX1_fewestSpeakers_2 rfl ?_
  refine y_istore_n (lv' := [some (.ref (q 0)), some (.int a1), some (.int (-1 : Int32)), some (.int (0 : Int32)), none]) (pc := 3) F dX1_fewestSpeakers_3 (Nat.le_of_ble_eq_true rfl) rfl rfl ?_
  refine y_jn (fun (K73 : Int32 → Option Int32) => ∀ (x1 : Int32), zY X D out (K73 x1) (WCa tA q oe oc ow os) 73 [none, none, some (.int x1), none, none] []) ?_ ?_
  · intro x1
    refine y_iconst (v := 0) (pc := 73) F dX1_fewestSpeakers_73 rfl ?_
    refine y_iload_n (pc := 74) F dX1_fewestSpeakers_74 rfl ?_
    refine y_mmax (pc := 75) F dX1_fewestSpeakers_75 kM_X1_166 ⟨Nat.le_of_ble_eq_true rfl, Nat.le_of_ble_eq_true rfl⟩ rfl ?_
    refine y_lti (fun x2 => ?_)
    exact y_iret hr dX1_fewestSpeakers_78 rfl rfl
  intro K73 hK73
  exact wlX1_fewestSpeakers_4 q oe oc ow os a1 F hr hK73 zfu (-1 : Int32) (0 : Int32)
abbrev rmX1_othersMakeUp : Room := { frames := 2, cells := 0, slots := 0, locals := 57 }
def lX1_othersMakeUp_17 (oc : Ob) (ow : Ob) (os : Ob) (a1 : Int32) (a3 : Int32) (K36 : Ob → Option (Int32 × Ob)) : Nat → Int32 → Ob → Option (Int32 × Ob)
  | 0, _, _ => none
  | f + 1, x6, o7 =>
    if a1 < x6 then (K36 o7)
    else (Option.bind (pX1_callOn o7 oc ow os x6 a3) fun (r8 : Ob) =>
    zlet (x6 + (1 : Int32)) fun (x9 : Int32) =>
    lX1_othersMakeUp_17 oc ow os a1 a3 K36 f x9 r8)
def pX1_othersMakeUp (oe : Ob) (oc : Ob) (ow : Ob) (os : Ob) (a1 : Int32) (a2 : Int32) (a3 : Int32) (a4 : Int64) : Option (Int32 × Ob) :=
  Option.bind (pX1_clearPlans oe oc ow os) fun (r1 : Ob) =>
  zgd a2 31 <| zgd a2 31 <| zlet (sa r1 3 (upd (ga r1 3) (a2.toNatClampNeg) ((ga r1 3 (a2.toNatClampNeg)) - (1 : Int32)))) fun (o2 : Ob) =>
  zjn (fun (o3 : Ob) =>
  zgd a2 31 <| zgd a2 31 <| zlet (sa o3 3 (upd (ga o3 3) (a2.toNatClampNeg) ((ga o3 3 (a2.toNatClampNeg)) + (1 : Int32)))) fun (o4 : Ob) =>
  zgd a3 64 <| if (gb o4 4 (a3.toNatClampNeg)) < (0 : Int64) then (zgz (0 : Int32) (some ((0 : Int32), o4)))
  else (zgd a3 64 <| Option.bind (pX1_suffices o4 oc ow os (a4 + (gb o4 4 (a3.toNatClampNeg))) a1) fun (r5 : Int32) =>
  if r5 = 0 then (zgz (0 : Int32) (some ((0 : Int32), o4)))
  else (zgz (1 : Int32) (some ((1 : Int32), o4))))) fun (K36 : Ob → Option (Int32 × Ob)) =>
  lX1_othersMakeUp_17 oc ow os a1 a3 K36 zfu (0 : Int32) o2
set_option maxHeartbeats 4000000 in
set_option maxRecDepth 100000 in
theorem wlX1_othersMakeUp_17 {X : ZX} {out : (Int32 × Ob)} (q : Nat → Nat) (oc : Ob) (ow : Ob) (os : Ob) (a1 : Int32) (a2 : Int32) (a3 : Int32) (a4 : Int64) (F : zF l D tA RX1 cX1_othersMakeUp 7 rmX1_othersMakeUp X) (hr : zRi X D cX1_othersMakeUp .boolean (fun (r : Int32 × Ob) => (r.1)) (fun (r : Int32 × Ob) => (WCa tA q (r.2) oc ow os)) out) {K36 : Ob → Option (Int32 × Ob)} (hK36 : ∀ (o3 : Ob), zY X D out (K36 o3) (WCa tA q o3 oc ow os) 36 [some (.ref (q 0)), some (.int a1), some (.int a2), some (.int a3), some (.long a4), none, none] []) : ∀ (f : Nat) (x6 : Int32) (o7 : Ob), zY X D out (lX1_othersMakeUp_17 oc ow os a1 a3 K36 f x6 o7) (WCa tA q o7 oc ow os) 17 [some (.ref (q 0)), some (.int a1), some (.int a2), some (.int a3), some (.long a4), none, some (.int x6)] [] := by
  intro f
  induction f with
  | zero =>
    intro x6 o7
    exact y_none
  | succ f ih =>
    intro x6 o7
    rw [lX1_othersMakeUp_17.eq_2]
    refine y_iload (pc := 17) F dX1_othersMakeUp_17 rfl ?_
    refine y_iload_n (pc := 19) F dX1_othersMakeUp_19 rfl ?_
    refine y_icmp_gt (pc := 20) (tgt := 36) F dX1_othersMakeUp_20 rfl ?_ ?_
    · refine y_le (lv' := [some (.ref (q 0)), some (.int a1), some (.int a2), some (.int a3), some (.long a4), none, none]) ⟨rfl, ⟨rfl, ⟨rfl, ⟨rfl, ⟨rfl, trivial⟩⟩⟩⟩⟩ ?_
      exact hK36 o7
    · refine y_aload_n (pc := 23) F dX1_othersMakeUp_23 rfl ?_
      refine y_iload (pc := 24) F dX1_othersMakeUp_24 rfl ?_
      refine y_iload_n (pc := 26) F dX1_othersMakeUp_26 rfl ?_
      refine y_callvW (As := [.int x6, .int a3]) (st := []) (q0 := 0) (pc := 27) F (c_X1_callOn (q := q) o7 oc ow os x6 a3) dX1_othersMakeUp_27 kM_X1_56 ⟨rfl, rfl⟩ ⟨Nat.le_of_ble_eq_true rfl, Nat.le_of_ble_eq_true rfl⟩ rfl rfl rfl (Nat.le_of_ble_eq_true rfl) rfl rfl WCa_at0 (fun r8 => ?_)
      refine y_iinc (v := 1) (lf := fun (x9 : Int32) => [some (.ref (q 0)), some (.int a1), some (.int a2), some (.int a3), some (.long a4), none, some (.int x9)]) (pc := 30) F dX1_othersMakeUp_30 rfl rfl rfl (fun _ => rfl) (fun x9 => ?_)
      refine y_goto (tgt := 17) (pc := 33) F dX1_othersMakeUp_33 rfl ?_
      exact ih x9 r8
set_option maxHeartbeats 4000000 in
set_option maxRecDepth 100000 in
theorem c_X1_othersMakeUp {q : Nat → Nat} (oe : Ob) (oc : Ob) (ow : Ob) (os : Ob) (a1 : Int32) (a2 : Int32) (a3 : Int32) (a4 : Int64) : zCi l D tA yX1_othersMakeUp cX1_othersMakeUp 7 .boolean rmX1_othersMakeUp [.ref (q 0), .int a1, .int a2, .int a3, .long a4] (WCa tA q oe oc ow os) (fun (r : Int32 × Ob) => (r.1)) (fun (r : Int32 × Ob) => (WCa tA q (r.2) oc ow os)) (pX1_othersMakeUp oe oc ow os a1 a2 a3 a4) := by
  refine zCi_of (lv0 := [some (.ref (q 0)), some (.int a1), some (.int a2), some (.int a3), some (.long a4), none, none]) (by decide +kernel) (Nat.le_of_ble_eq_true rfl) rfl (fun X out F hr => ?_)
  unfold pX1_othersMakeUp
  refine y_aload_n (pc := 0) F dX1_othersMakeUp_0 rfl ?_
  refine y_callvW (As := []) (st := []) (q0 := 0) (pc := 1) F (c_X1_clearPlans (q := q) oe oc ow os) dX1_othersMakeUp_1 kM_X1_45 ⟨rfl, rfl⟩ ⟨Nat.le_of_ble_eq_true rfl, Nat.le_of_ble_eq_true rfl⟩ rfl rfl rfl (Nat.le_of_ble_eq_true rfl) rfl rfl WCa_at0 (fun r1 => ?_)
  refine y_aload_n (pc := 4) F dX1_othersMakeUp_4 rfl ?_
  refine y_get (pc := 5) F dX1_othersMakeUp_5 kF_X1_20 0 WCa_at0 rfl ?_
  refine y_iload_n (pc := 8) F dX1_othersMakeUp_8 rfl ?_
  refine y_dup2 (pc := 9) F dX1_othersMakeUp_9 rfl rfl ?_
  refine y_iald (pc := 10) F dX1_othersMakeUp_10 9 WCa_at9 ?_
  refine y_iconst (v := 1) (pc := 11) F dX1_othersMakeUp_11 rfl ?_
  refine y_isub (pc := 12) F dX1_othersMakeUp_12 ?_
  refine y_iast (pc := 13) F dX1_othersMakeUp_13 9 WCa_at9 (fun (o2 : Ob) => (WCa tA q o2 oc ow os)) (WCa_ar9 _) (fun o2 => ?_)
  refine y_iconst (v := 0) (pc := 14) F dX1_othersMakeUp_14 rfl ?_
  refine y_istore (lv' := [some (.ref (q 0)), some (.int a1), some (.int a2), some (.int a3), some (.long a4), none, some (.int (0 : Int32))]) (pc := 15) F dX1_othersMakeUp_15 (Nat.le_of_ble_eq_true rfl) rfl rfl ?_
  refine y_jn (fun (K36 : Ob → Option (Int32 × Ob)) => ∀ (o3 : Ob), zY X D out (K36 o3) (WCa tA q o3 oc ow os) 36 [some (.ref (q 0)), some (.int a1), some (.int a2), some (.int a3), some (.long a4), none, none] []) ?_ ?_
  · intro o3
    refine y_aload_n (pc := 36) F dX1_othersMakeUp_36 rfl ?_
    refine y_get (pc := 37) F dX1_othersMakeUp_37 kF_X1_20 0 WCa_at0 rfl ?_
    refine y_iload_n (pc := 40) F dX1_othersMakeUp_40 rfl ?_
    refine y_dup2 (pc := 41) F dX1_othersMakeUp_41 rfl rfl ?_
    refine y_iald (pc := 42) F dX1_othersMakeUp_42 9 WCa_at9 ?_
    refine y_iconst (v := 1) (pc := 43) F dX1_othersMakeUp_43 rfl ?_
    refine y_iadd (pc := 44) F dX1_othersMakeUp_44 ?_
    refine y_iast (pc := 45) F dX1_othersMakeUp_45 9 WCa_at9 (fun (o4 : Ob) => (WCa tA q o4 oc ow os)) (WCa_ar9 _) (fun o4 => ?_)
    refine y_aload_n (pc := 46) F dX1_othersMakeUp_46 rfl ?_
    refine y_get (pc := 47) F dX1_othersMakeUp_47 kF_X1_23 0 WCa_at0 rfl ?_
    refine y_iload_n (pc := 50) F dX1_othersMakeUp_50 rfl ?_
    refine y_lald (pc := 51) F dX1_othersMakeUp_51 10 WCa_at10 ?_
    refine y_lconst (v := 0) (pc := 52) F dX1_othersMakeUp_52 rfl ?_
    refine y_lcmp_lt (pc := 53) (tgt := 78) F dX1_othersMakeUp_53 dX1_othersMakeUp_54 rfl ?_ ?_
    · refine y_iconst (v := 0) (pc := 78) F dX1_othersMakeUp_78 rfl ?_
      exact y_zret hr dX1_othersMakeUp_79 rfl rfl
    · refine y_aload_n (pc := 57) F dX1_othersMakeUp_57 rfl ?_
      refine y_lload (pc := 58) F dX1_othersMakeUp_58 rfl ?_
      refine y_aload_n (pc := 60) F dX1_othersMakeUp_60 rfl ?_
      refine y_get (pc := 61) F dX1_othersMakeUp_61 kF_X1_23 0 WCa_at0 rfl ?_
      refine y_iload_n (pc := 64) F dX1_othersMakeUp_64 rfl ?_
      refine y_lald (pc := 65) F dX1_othersMakeUp_65 10 WCa_at10 ?_
      refine y_ladd (pc := 66) F dX1_othersMakeUp_66 ?_
      refine y_iload_n (pc := 67) F dX1_othersMakeUp_67 rfl ?_
      refine y_calliW (As := [.long (a4 + (gb o4 4 (a3.toNatClampNeg))), .int a1]) (st := []) (q0 := 0) (pc := 68) F (c_X1_suffices (q := q) o4 oc ow os (a4 + (gb o4 4 (a3.toNatClampNeg))) a1) dX1_othersMakeUp_68 kM_X1_162 ⟨rfl, rfl⟩ ⟨Nat.le_of_ble_eq_true rfl, Nat.le_of_ble_eq_true rfl⟩ rfl rfl rfl (Nat.le_of_ble_eq_true rfl) rfl rfl WCa_at0 (fun r5 => ?_)
      refine y_if_eq (pc := 71) (tgt := 78) F dX1_othersMakeUp_71 rfl ?_ ?_
      · refine y_iconst (v := 0) (pc := 78) F dX1_othersMakeUp_78 rfl ?_
        exact y_zret hr dX1_othersMakeUp_79 rfl rfl
      · refine y_iconst (v := 1) (pc := 74) F dX1_othersMakeUp_74 rfl ?_
        refine y_goto (tgt := 79) (pc := 75) F dX1_othersMakeUp_75 rfl ?_
        exact y_zret hr dX1_othersMakeUp_79 rfl rfl
  intro K36 hK36
  exact wlX1_othersMakeUp_17 q oc ow os a1 a2 a3 a4 F hr hK36 zfu (0 : Int32) o2
abbrev rmX1_setDays : Room := { frames := 3, cells := 0, slots := 0, locals := 83 }
def lX1_setDays_51 (oc : Ob) (ow : Ob) (os : Ob) (a1 : Int32) (x11 : Int32) (K155 : Int64 → Int32 → Int32 → Ob → Option Ob) : Nat → Int64 → Int32 → Int32 → Ob → Option Ob
  | 0, _, _, _, _ => none
  | f + 1, y12, x13, x14, o15 =>
    if x14 < 0 then (K155 y12 x11 x13 o15)
    else (zgd x13 6 <| if (ga o15 7 (x13.toNatClampNeg)) = (-1 : Int32) then (zgd x13 6 <| zgd x14 31 <| zjn (fun (y17 : Int64) (o18 : Ob) =>
    zlet (x14 + (-1 : Int32)) fun (x19 : Int32) =>
    lX1_setDays_51 oc ow os a1 x11 K155 f y17 x13 x19 o18) fun (K149 : Int64 → Ob → Option Ob) =>
    if (gb o15 (20 + (x13.toNatClampNeg)) (x14.toNatClampNeg)) < (0 : Int64) then (K149 y12 o15)
    else (zgd x14 31 <| if (ga o15 3 (x14.toNatClampNeg)) ≤ 0 then (K149 y12 o15)
    else (zgd x13 6 <| zgd x14 31 <| Option.bind (pX1_othersMakeUp o15 oc ow os a1 x14 x11 (y12 + (gb o15 (20 + (x13.toNatClampNeg)) (x14.toNatClampNeg)))) fun (r21 : Int32 × Ob) =>
    if (r21.1) = 0 then (K149 y12 (r21.2))
    else (zgd x13 6 <| zlet (sa (r21.2) 7 (upd (ga (r21.2) 7) (x13.toNatClampNeg) x14)) fun (o22 : Ob) =>
    zgd x13 6 <| zgd x14 31 <| zlet ((y12 + (gb o22 (20 + (x13.toNatClampNeg)) (x14.toNatClampNeg)))) fun (y24 : Int64) =>
    zgd x14 31 <| zgd x14 31 <| zlet (sa o22 3 (upd (ga o22 3) (x14.toNatClampNeg) ((ga o22 3 (x14.toNatClampNeg)) - (1 : Int32)))) fun (o25 : Ob) =>
    K149 y24 o25))))
    else (K155 y12 x11 x13 o15))
def lX1_setDays_8 (oc : Ob) (ow : Ob) (os : Ob) (a1 : Int32) (a2 : Int32) : Nat → Int64 → Int32 → Int32 → Ob → Option Ob
  | 0, _, _, _, _ => none
  | f + 1, y1, x2, x3, o4 =>
    if (gi o4 8) ≤ x3 then (some o4)
    else (zgd x3 6 <| zlet (sa o4 7 (upd (ga o4 7) (x3.toNatClampNeg) (-1 : Int32))) fun (o5 : Ob) =>
    zjn (fun (y6 : Int64) (x7 : Int32) (x8 : Int32) (o9 : Ob) =>
    zlet (x8 + (1 : Int32)) fun (x10 : Int32) =>
    lX1_setDays_8 oc ow os a1 a2 f y6 x7 x10 o9) fun (K155 : Int64 → Int32 → Int32 → Ob → Option Ob) =>
    if ((a2 >>> (x3 &&& 31)) &&& (1 : Int32)) = 0 then (K155 y1 x2 x3 o5)
    else (zlet ((x2 &&& (((1 : Int32) <<< (x3 &&& 31)) ^^^ (-1 : Int32)))) fun (x11 : Int32) =>
    lX1_setDays_51 oc ow os a1 x11 K155 zfu y1 x3 a1 o5))
def pX1_setDays (oe : Ob) (oc : Ob) (ow : Ob) (os : Ob) (a1 : Int32) (a2 : Int32) : Option Ob :=
  lX1_setDays_8 oc ow os a1 a2 zfu (0 : Int64) a2 (0 : Int32) oe
set_option maxHeartbeats 4000000 in
set_option maxRecDepth 100000 in
theorem wlX1_setDays_51 {X : ZX} {out : Ob} (q : Nat → Nat) (oc : Ob) (ow : Ob) (os : Ob) (a1 : Int32) (a2 : Int32) (x11 : Int32) (F : zF l D tA RX1 cX1_setDays 8 rmX1_setDays X) (hr : zRv X D cX1_setDays (fun (r : Ob) => (WCa tA q r oc ow os)) out) {K155 : Int64 → Int32 → Int32 → Ob → Option Ob} (hK155 : ∀ (y6 : Int64) (x7 : Int32) (x8 : Int32) (o9 : Ob), zY X D out (K155 y6 x7 x8 o9) (WCa tA q o9 oc ow os) 155 [some (.ref (q 0)), some (.int a1), some (.int a2), some (.long y6), none, some (.int x7), some (.int x8), none] []) : ∀ (f : Nat) (y12 : Int64) (x13 : Int32) (x14 : Int32) (o15 : Ob), zY X D out (lX1_setDays_51 oc ow os a1 x11 K155 f y12 x13 x14 o15) (WCa tA q o15 oc ow os) 51 [some (.ref (q 0)), some (.int a1), some (.int a2), some (.long y12), none, some (.int x11), some (.int x13), some (.int x14)] [] := by
  intro f
  induction f with
  | zero =>
    intro y12 x13 x14 o15
    exact y_none
  | succ f ih =>
    intro y12 x13 x14 o15
    rw [lX1_setDays_51.eq_2]
    refine y_iload (pc := 51) F dX1_setDays_51 rfl ?_
    refine y_if_lt (pc := 53) (tgt := 155) F dX1_setDays_53 rfl ?_ ?_
    · refine y_le (lv' := [some (.ref (q 0)), some (.int a1), some (.int a2), some (.long y12), none, some (.int x11), some (.int x13), none]) ⟨rfl, ⟨rfl, ⟨rfl, ⟨rfl, ⟨rfl, ⟨rfl, trivial⟩⟩⟩⟩⟩⟩ ?_
      exact hK155 y12 x11 x13 o15
    · refine y_aload_n (pc := 56) F dX1_setDays_56 rfl ?_
      refine y_get (pc := 57) F dX1_setDays_57 kF_X1_34 0 WCa_at0 rfl ?_
      refine y_iload (pc := 60) F dX1_setDays_60 rfl ?_
      refine y_iald (pc := 62) F dX1_setDays_62 13 WCa_at13 ?_
      refine y_iconst (v := -1) (pc := 63) F dX1_setDays_63 rfl ?_
      refine y_icmp_ne (pc := 64) (tgt := 155) F dX1_setDays_64 rfl ?_ ?_
      · refine y_aload_n (pc := 67) F dX1_setDays_67 rfl ?_
        refine y_get (pc := 68) F dX1_setDays_68 kF_X1_17 0 WCa_at0 rfl ?_
        refine y_iload (pc := 71) F dX1_setDays_71 rfl ?_
        refine y_aaldr (pc := 73) F dX1_setDays_73 2 6 WCa_at2 rfl rfl (fun h16 => ?_)
        refine y_iload (pc := 74) F dX1_setDays_74 rfl ?_
        refine y_lald (pc := 76) F dX1_setDays_76 (3 + (x13.toNatClampNeg)) (WCa_row2 _ h16) ?_
        refine y_lconst (v := 0) (pc := 77) F dX1_setDays_77 rfl ?_
        refine y_jn (fun (K149 : Int64 → Ob → Option Ob) => ∀ (y17 : Int64) (o18 : Ob), zY X D out (K149 y17 o18) (WCa tA q o18 oc ow os) 149 [some (.ref (q 0)), some (.int a1), some (.int a2), some (.long y17), none, some (.int x11), some (.int x13), some (.int x14)] []) ?_ ?_
        · intro y17 o18
          refine y_iinc (v := -1) (lf := fun (x19 : Int32) => [some (.ref (q 0)), some (.int a1), some (.int a2), some (.long y17), none, some (.int x11), some (.int x13), some (.int x19)]) (pc := 149) F dX1_setDays_149 rfl rfl rfl (fun _ => rfl) (fun x19 => ?_)
          refine y_goto (tgt := 51) (pc := 152) F dX1_setDays_152 rfl ?_
          exact ih y17 x13 x19 o18
        intro K149 hK149
        refine y_lcmp_lt (pc := 78) (tgt := 149) F dX1_setDays_78 dX1_setDays_79 rfl ?_ ?_
        · exact hK149 y12 o15
        · refine y_aload_n (pc := 82) F dX1_setDays_82 rfl ?_
          refine y_get (pc := 83) F dX1_setDays_83 kF_X1_20 0 WCa_at0 rfl ?_
          refine y_iload (pc := 86) F dX1_setDays_86 rfl ?_
          refine y_iald (pc := 88) F dX1_setDays_88 9 WCa_at9 ?_
          refine y_if_le (pc := 89) (tgt := 149) F dX1_setDays_89 rfl ?_ ?_
          · exact hK149 y12 o15
          · refine y_aload_n (pc := 92) F dX1_setDays_92 rfl ?_
            refine y_iload_n (pc := 93) F dX1_setDays_93 rfl ?_
            refine y_iload (pc := 94) F dX1_setDays_94 rfl ?_
            refine y_iload (pc := 96) F dX1_setDays_96 rfl ?_
            refine y_lload_n (pc := 98) F dX1_setDays_98 rfl ?_
            refine y_aload_n (pc := 99) F dX1_setDays_99 rfl ?_
            refine y_get (pc := 100) F dX1_setDays_100 kF_X1_17 0 WCa_at0 rfl ?_
            refine y_iload (pc := 103) F dX1_setDays_103 rfl ?_
            refine y_aaldr (pc := 105) F dX1_setDays_105 2 6 WCa_at2 rfl rfl (fun h20 => ?_)
            refine y_iload (pc := 106) F dX1_setDays_106 rfl ?_
            refine y_lald (pc := 108) F dX1_setDays_108 (3 + (x13.toNatClampNeg)) (WCa_row2 _ h20) ?_
            refine y_ladd (pc := 109) F dX1_setDays_109 ?_
            refine y_calliW (As := [.int a1, .int x14, .int x11, .long (y12 + (gb o15 (20 + (x13.toNatClampNeg)) (x14.toNatClampNeg)))]) (st := []) (q0 := 0) (pc := 110) F (c_X1_othersMakeUp (q := q) o15 oc ow os a1 x14 x11 (y12 + (gb o15 (20 + (x13.toNatClampNeg)) (x14.toNatClampNeg)))) dX1_setDays_110 kM_X1_168 ⟨rfl, rfl⟩ ⟨Nat.le_of_ble_eq_true rfl, Nat.le_of_ble_eq_true rfl⟩ rfl rfl rfl (Nat.le_of_ble_eq_true rfl) rfl rfl WCa_at0 (fun r21 => ?_)
            refine y_if_eq (pc := 113) (tgt := 149) F dX1_setDays_113 rfl ?_ ?_
            · exact hK149 y12 (r21.2)
            · refine y_aload_n (pc := 116) F dX1_setDays_116 rfl ?_
              refine y_get (pc := 117) F dX1_setDays_117 kF_X1_34 0 WCa_at0 rfl ?_
              refine y_iload (pc := 120) F dX1_setDays_120 rfl ?_
              refine y_iload (pc := 122) F dX1_setDays_122 rfl ?_
              refine y_iast (pc := 124) F dX1_setDays_124 13 WCa_at13 (fun (o22 : Ob) => (WCa tA q o22 oc ow os)) (WCa_ar13 _) (fun o22 => ?_)
              refine y_lload_n (pc := 125) F dX1_setDays_125 rfl ?_
              refine y_aload_n (pc := 126) F dX1_setDays_126 rfl ?_
              refine y_get (pc := 127) F dX1_setDays_127 kF_X1_17 0 WCa_at0 rfl ?_
              refine y_iload (pc := 130) F dX1_setDays_130 rfl ?_
              refine y_aaldr (pc := 132) F dX1_setDays_132 2 6 WCa_at2 rfl rfl (fun h23 => ?_)
              refine y_iload (pc := 133) F dX1_setDays_133 rfl ?_
              refine y_lald (pc := 135) F dX1_setDays_135 (3 + (x13.toNatClampNeg)) (WCa_row2 _ h23) ?_
              refine y_ladd (pc := 136) F dX1_setDays_136 ?_
              refine y_ltl (fun y24 => ?_)
              refine y_lstore_n (lv' := [some (.ref (q 0)), some (.int a1), some (.int a2), some (.long y24), none, some (.int x11), some (.int x13), some (.int x14)]) (pc := 137) F dX1_setDays_137 (Nat.le_of_ble_eq_true rfl) rfl rfl ?_
              refine y_aload_n (pc := 138) F dX1_setDays_138 rfl ?_
              refine y_get (pc := 139) F dX1_setDays_139 kF_X1_20 0 WCa_at0 rfl ?_
              refine y_iload (pc := 142) F dX1_setDays_142 rfl ?_
              refine y_dup2 (pc := 144) F dX1_setDays_144 rfl rfl ?_
              refine y_iald (pc := 145) F dX1_setDays_145 9 WCa_at9 ?_
              refine y_iconst (v := 1) (pc := 146) F dX1_setDays_146 rfl ?_
              refine y_isub (pc := 147) F dX1_setDays_147 ?_
              refine y_iast (pc := 148) F dX1_setDays_148 9 WCa_at9 (fun (o25 : Ob) => (WCa tA q o25 oc ow os)) (WCa_ar9 _) (fun o25 => ?_)
              exact hK149 y24 o25
      · refine y_le (lv' := [some (.ref (q 0)), some (.int a1), some (.int a2), some (.long y12), none, some (.int x11), some (.int x13), none]) ⟨rfl, ⟨rfl, ⟨rfl, ⟨rfl, ⟨rfl, ⟨rfl, trivial⟩⟩⟩⟩⟩⟩ ?_
        exact hK155 y12 x11 x13 o15
set_option maxHeartbeats 4000000 in
set_option maxRecDepth 100000 in
theorem wlX1_setDays_8 {X : ZX} {out : Ob} (q : Nat → Nat) (oc : Ob) (ow : Ob) (os : Ob) (a1 : Int32) (a2 : Int32) (F : zF l D tA RX1 cX1_setDays 8 rmX1_setDays X) (hr : zRv X D cX1_setDays (fun (r : Ob) => (WCa tA q r oc ow os)) out) : ∀ (f : Nat) (y1 : Int64) (x2 : Int32) (x3 : Int32) (o4 : Ob), zY X D out (lX1_setDays_8 oc ow os a1 a2 f y1 x2 x3 o4) (WCa tA q o4 oc ow os) 8 [some (.ref (q 0)), some (.int a1), some (.int a2), some (.long y1), none, some (.int x2), some (.int x3), none] [] := by
  intro f
  induction f with
  | zero =>
    intro y1 x2 x3 o4
    exact y_none
  | succ f ih =>
    intro y1 x2 x3 o4
    rw [lX1_setDays_8.eq_2]
    refine y_iload (pc := 8) F dX1_setDays_8 rfl ?_
    refine y_aload_n (pc := 10) F dX1_setDays_10 rfl ?_
    refine y_get (pc := 11) F dX1_setDays_11 kF_X1_81 0 WCa_at0 rfl ?_
    refine y_icmp_ge (pc := 14) (tgt := 161) F dX1_setDays_14 rfl ?_ ?_
    · exact y_vret hr dX1_setDays_161 rfl
    · refine y_aload_n (pc := 17) F dX1_setDays_17 rfl ?_
      refine y_get (pc := 18) F dX1_setDays_18 kF_X1_34 0 WCa_at0 rfl ?_
      refine y_iload (pc := 21) F dX1_setDays_21 rfl ?_
      refine y_iconst (v := -1) (pc := 23) F dX1_setDays_23 rfl ?_
      refine y_iast (pc := 24) F dX1_setDays_24 13 WCa_at13 (fun (o5 : Ob) => (WCa tA q o5 oc ow os)) (WCa_ar13 _) (fun o5 => ?_)
      refine y_iload_n (pc := 25) F dX1_setDays_25 rfl ?_
      refine y_iload (pc := 26) F dX1_setDays_26 rfl ?_
      refine y_ishr (pc := 28) F dX1_setDays_28 ?_
      refine y_iconst (v := 1) (pc := 29) F dX1_setDays_29 rfl ?_
      refine y_iand (pc := 30) F dX1_setDays_30 ?_
      refine y_jn (fun (K155 : Int64 → Int32 → Int32 → Ob → Option Ob) => ∀ (y6 : Int64) (x7 : Int32) (x8 : Int32) (o9 : Ob), zY X D out (K155 y6 x7 x8 o9) (WCa tA q o9 oc ow os) 155 [some (.ref (q 0)), some (.int a1), some (.int a2), some (.long y6), none, some (.int x7), some (.int x8), none] []) ?_ ?_
      · intro y6 x7 x8 o9
        refine y_iinc (v := 1) (lf := fun (x10 : Int32) => [some (.ref (q 0)), some (.int a1), some (.int a2), some (.long y6), none, some (.int x7), some (.int x10), none]) (pc := 155) F dX1_setDays_155 rfl rfl rfl (fun _ => rfl) (fun x10 => ?_)
        refine y_goto (tgt := 8) (pc := 158) F dX1_setDays_158 rfl ?_
        exact ih y6 x7 x10 o9
      intro K155 hK155
      refine y_if_ne (pc := 31) (tgt := 37) F dX1_setDays_31 rfl ?_ ?_
      · refine y_goto (tgt := 155) (pc := 34) F dX1_setDays_34 rfl ?_
        exact hK155 y1 x2 x3 o5
      · refine y_iload (pc := 37) F dX1_setDays_37 rfl ?_
        refine y_iconst (v := 1) (pc := 39) F dX1_setDays_39 rfl ?_
        refine y_iload (pc := 40) F dX1_setDays_40 rfl ?_
        refine y_ishl (pc := 42) F dX1_setDays_42 ?_
        refine y_iconst (v := -1) (pc := 43) F dX1_setDays_43 rfl ?_
        refine y_ixor (pc := 44) F dX1_setDays_44 ?_
        refine y_iand (pc := 45) F dX1_setDays_45 ?_
        refine y_lti (fun x11 => ?_)
        refine y_istore (lv' := [some (.ref (q 0)), some (.int a1), some (.int a2), some (.long y1), none, some (.int x11), some (.int x3), none]) (pc := 46) F dX1_setDays_46 (Nat.le_of_ble_eq_true rfl) rfl rfl ?_
        refine y_iload_n (pc := 48) F dX1_setDays_48 rfl ?_
        refine y_istore (lv' := [some (.ref (q 0)), some (.int a1), some (.int a2), some (.long y1), none, some (.int x11), some (.int x3), some (.int a1)]) (pc := 49) F dX1_setDays_49 (Nat.le_of_ble_eq_true rfl) rfl rfl ?_
        exact wlX1_setDays_51 q oc ow os a1 a2 x11 F hr hK155 zfu y1 x3 a1 o5
set_option maxHeartbeats 4000000 in
set_option maxRecDepth 100000 in
theorem c_X1_setDays {q : Nat → Nat} (oe : Ob) (oc : Ob) (ow : Ob) (os : Ob) (a1 : Int32) (a2 : Int32) : zCv l D tA yX1_setDays cX1_setDays 8 rmX1_setDays [.ref (q 0), .int a1, .int a2] (WCa tA q oe oc ow os) (fun (r : Ob) => (WCa tA q r oc ow os)) (pX1_setDays oe oc ow os a1 a2) := by
  refine zCv_of (lv0 := [some (.ref (q 0)), some (.int a1), some (.int a2), none, none, none, none, none]) (by decide +kernel) (Nat.le_of_ble_eq_true rfl) rfl (fun X out F hr => ?_)
  unfold pX1_setDays
  refine y_lconst (v := 0) (pc := 0) F dX1_setDays_0 rfl ?_
  refine y_lstore_n (lv' := [some (.ref (q 0)), some (.int a1), some (.int a2), some (.long (0 : Int64)), none, none, none, none]) (pc := 1) F dX1_setDays_1 (Nat.le_of_ble_eq_true rfl) rfl rfl ?_
  refine y_iload_n (pc := 2) F dX1_setDays_2 rfl ?_
  refine y_istore (lv' := [some (.ref (q 0)), some (.int a1), some (.int a2), some (.long (0 : Int64)), none, some (.int a2), none, none]) (pc := 3) F dX1_setDays_3 (Nat.le_of_ble_eq_true rfl) rfl rfl ?_
  refine y_iconst (v := 0) (pc := 5) F dX1_setDays_5 rfl ?_
  refine y_istore (lv' := [some (.ref (q 0)), some (.int a1), some (.int a2), some (.long (0 : Int64)), none, some (.int a2), some (.int (0 : Int32)), none]) (pc := 6) F dX1_setDays_6 (Nat.le_of_ble_eq_true rfl) rfl rfl ?_
  exact wlX1_setDays_8 q oc ow os a1 a2 F hr zfu (0 : Int64) a2 (0 : Int32) oe
abbrev rmX1_plannedDayOf : Room := { frames := 4, cells := 0, slots := 0, locals := 110 }
def lX1_plannedDayOf_12 (a1 : Int32) (r2 : Ob) : Nat → Int32 → Option (Int32 × Ob)
  | 0, _ => none
  | f + 1, x3 =>
    if (gi r2 8) ≤ x3 then (some ((-1 : Int32), r2))
    else (zgd x3 6 <| if (ga r2 1 (x3.toNatClampNeg)) = a1 then (zgd x3 6 <| some ((ga r2 7 (x3.toNatClampNeg)), r2))
    else (zlet (x3 + (1 : Int32)) fun (x4 : Int32) =>
    lX1_plannedDayOf_12 a1 r2 f x4))
def pX1_plannedDayOf (oe : Ob) (oc : Ob) (ow : Ob) (os : Ob) (a1 : Int32) (a2 : Int32) : Option (Int32 × Ob) :=
  Option.bind (pX1_fewestSpeakers oe oc ow os a2) fun (r1 : Int32) =>
  Option.bind (pX1_setDays oe oc ow os a2 r1) fun (r2 : Ob) =>
  lX1_plannedDayOf_12 a1 r2 zfu (0 : Int32)
set_option maxHeartbeats 4000000 in
set_option maxRecDepth 100000 in
theorem wlX1_plannedDayOf_12 {X : ZX} {out : (Int32 × Ob)} (q : Nat → Nat) (oc : Ob) (ow : Ob) (os : Ob) (a1 : Int32) (r2 : Ob) (F : zF l D tA RX1 cX1_plannedDayOf 4 rmX1_plannedDayOf X) (hr : zRi X D cX1_plannedDayOf .int (fun (r : Int32 × Ob) => (r.1)) (fun (r : Int32 × Ob) => (WCa tA q (r.2) oc ow os)) out) : ∀ (f : Nat) (x3 : Int32), zY X D out (lX1_plannedDayOf_12 a1 r2 f x3) (WCa tA q r2 oc ow os) 12 [some (.ref (q 0)), some (.int a1), none, some (.int x3)] [] := by
  intro f
  induction f with
  | zero =>
    intro x3
    exact y_none
  | succ f ih =>
    intro x3
    rw [lX1_plannedDayOf_12.eq_2]
    refine y_iload_n (pc := 12) F dX1_plannedDayOf_12 rfl ?_
    refine y_aload_n (pc := 13) F dX1_plannedDayOf_13 rfl ?_
    refine y_get (pc := 14) F dX1_plannedDayOf_14 kF_X1_81 0 WCa_at0 rfl ?_
    refine y_icmp_ge (pc := 17) (tgt := 43) F dX1_plannedDayOf_17 rfl ?_ ?_
    · refine y_iconst (v := -1) (pc := 43) F dX1_plannedDayOf_43 rfl ?_
      exact y_iret hr dX1_plannedDayOf_44 rfl rfl
    · refine y_aload_n (pc := 20) F dX1_plannedDayOf_20 rfl ?_
      refine y_get (pc := 21) F dX1_plannedDayOf_21 kF_X1_9 0 WCa_at0 rfl ?_
      refine y_iload_n (pc := 24) F dX1_plannedDayOf_24 rfl ?_
      refine y_iald (pc := 25) F dX1_plannedDayOf_25 1 WCa_at1 ?_
      refine y_iload_n (pc := 26) F dX1_plannedDayOf_26 rfl ?_
      refine y_icmp_ne (pc := 27) (tgt := 37) F dX1_plannedDayOf_27 rfl ?_ ?_
      · refine y_aload_n (pc := 30) F dX1_plannedDayOf_30 rfl ?_
        refine y_get (pc := 31) F dX1_plannedDayOf_31 kF_X1_34 0 WCa_at0 rfl ?_
        refine y_iload_n (pc := 34) F dX1_plannedDayOf_34 rfl ?_
        refine y_iald (pc := 35) F dX1_plannedDayOf_35 13 WCa_at13 ?_
        exact y_iret hr dX1_plannedDayOf_36 rfl rfl
      · refine y_iinc (v := 1) (lf := fun (x4 : Int32) => [some (.ref (q 0)), some (.int a1), none, some (.int x4)]) (pc := 37) F dX1_plannedDayOf_37 rfl rfl rfl (fun _ => rfl) (fun x4 => ?_)
        refine y_goto (tgt := 12) (pc := 40) F dX1_plannedDayOf_40 rfl ?_
        exact ih x4
set_option maxHeartbeats 4000000 in
set_option maxRecDepth 100000 in
theorem c_X1_plannedDayOf {q : Nat → Nat} (oe : Ob) (oc : Ob) (ow : Ob) (os : Ob) (a1 : Int32) (a2 : Int32) : zCi l D tA yX1_plannedDayOf cX1_plannedDayOf 4 .int rmX1_plannedDayOf [.ref (q 0), .int a1, .int a2] (WCa tA q oe oc ow os) (fun (r : Int32 × Ob) => (r.1)) (fun (r : Int32 × Ob) => (WCa tA q (r.2) oc ow os)) (pX1_plannedDayOf oe oc ow os a1 a2) := by
  refine zCi_of (lv0 := [some (.ref (q 0)), some (.int a1), some (.int a2), none]) (by decide +kernel) (Nat.le_of_ble_eq_true rfl) rfl (fun X out F hr => ?_)
  unfold pX1_plannedDayOf
  refine y_aload_n (pc := 0) F dX1_plannedDayOf_0 rfl ?_
  refine y_iload_n (pc := 1) F dX1_plannedDayOf_1 rfl ?_
  refine y_aload_n (pc := 2) F dX1_plannedDayOf_2 rfl ?_
  refine y_iload_n (pc := 3) F dX1_plannedDayOf_3 rfl ?_
  refine y_calliW (As := [.int a2]) (st := [.int a2, .ref (q 0)]) (q0 := 0) (pc := 4) F (c_X1_fewestSpeakers (q := q) oe oc ow os a2) dX1_plannedDayOf_4 kM_X1_74 ⟨rfl, rfl⟩ ⟨Nat.le_of_ble_eq_true rfl, Nat.le_of_ble_eq_true rfl⟩ rfl rfl rfl (Nat.le_of_ble_eq_true rfl) rfl rfl WCa_at0 (fun r1 => ?_)
  refine y_callvW (As := [.int a2, .int r1]) (st := []) (q0 := 0) (pc := 7) F (c_X1_setDays (q := q) oe oc ow os a2 r1) dX1_plannedDayOf_7 kM_X1_78 ⟨rfl, rfl⟩ ⟨Nat.le_of_ble_eq_true rfl, Nat.le_of_ble_eq_true rfl⟩ rfl rfl rfl (Nat.le_of_ble_eq_true rfl) rfl rfl WCa_at0 (fun r2 => ?_)
  refine y_iconst (v := 0) (pc := 10) F dX1_plannedDayOf_10 rfl ?_
  refine y_istore_n (lv' := [some (.ref (q 0)), some (.int a1), some (.int a2), some (.int (0 : Int32))]) (pc := 11) F dX1_plannedDayOf_11 (Nat.le_of_ble_eq_true rfl) rfl rfl ?_
  refine y_le (lv' := [some (.ref (q 0)), some (.int a1), none, some (.int (0 : Int32))]) ⟨rfl, ⟨rfl, ⟨rfl, trivial⟩⟩⟩ ?_
  exact wlX1_plannedDayOf_12 q oc ow os a1 r2 F hr zfu (0 : Int32)
abbrev rmX1_findWins : Room := { frames := 2, cells := 0, slots := 0, locals := 57 }
def lX1_findWins_46 (oc : Ob) (ow : Ob) (os : Ob) (K92 : Int32 → Ob → Option Ob) : Nat → Int32 → Int32 → Ob → Option Ob
  | 0, _, _, _ => none
  | f + 1, x10, x11, o12 =>
    Option.bind (pX1_allOfThem o12 oc ow os) fun (r13 : Int32) =>
    if r13 < x11 then (K92 x10 o12)
    else (zgd x11 64 <| zjn (fun (o14 : Ob) =>
    zlet (x11 + (1 : Int32)) fun (x15 : Int32) =>
    lX1_findWins_46 oc ow os K92 f x10 x15 o14) fun (K86 : Ob → Option Ob) =>
    if (gb o12 4 (x11.toNatClampNeg)) < (0 : Int64) then (K86 o12)
    else (zgd x11 64 <| Option.bind (pX1_suffices o12 oc ow os (gb o12 4 (x11.toNatClampNeg)) x10) fun (r16 : Int32) =>
    if r16 = 0 then (K86 o12)
    else (zgd x11 64 <| zlet (sa o12 6 (upd (ga o12 6) (x11.toNatClampNeg) (vp_nar .boolean (1 : Int32)))) fun (o17 : Ob) =>
    K86 o17)))
def lX1_findWins_27 (oc : Ob) (ow : Ob) (os : Ob) : Nat → Int32 → Ob → Option Ob
  | 0, _, _ => none
  | f + 1, x3, o4 =>
    if (gi o4 9) < x3 then (some o4)
    else (Option.bind (pX1_allOfThem o4 oc ow os) fun (r5 : Int32) =>
    Option.bind (pX1_callOn o4 oc ow os x3 r5) fun (r6 : Ob) =>
    zjn (fun (x7 : Int32) (o8 : Ob) =>
    zlet (x7 + (1 : Int32)) fun (x9 : Int32) =>
    lX1_findWins_27 oc ow os f x9 o8) fun (K92 : Int32 → Ob → Option Ob) =>
    lX1_findWins_46 oc ow os K92 zfu x3 (0 : Int32) r6)
def lX1_findWins_6 (K25 : Ob → Option Ob) : Nat → Int32 → Ob → Option Ob
  | 0, _, _ => none
  | f + 1, x18, o19 =>
    if (64 : Int32) ≤ x18 then (K25 o19)
    else (zgd x18 64 <| zlet (sa o19 6 (upd (ga o19 6) (x18.toNatClampNeg) (vp_nar .boolean (0 : Int32)))) fun (o20 : Ob) =>
    zlet (x18 + (1 : Int32)) fun (x21 : Int32) =>
    lX1_findWins_6 K25 f x21 o20)
def pX1_findWins (oe : Ob) (oc : Ob) (ow : Ob) (os : Ob) : Option Ob :=
  Option.bind (pX1_clearPlans oe oc ow os) fun (r1 : Ob) =>
  zjn (fun (o2 : Ob) =>
  lX1_findWins_27 oc ow os zfu (0 : Int32) o2) fun (K25 : Ob → Option Ob) =>
  lX1_findWins_6 K25 zfu (0 : Int32) r1
set_option maxHeartbeats 4000000 in
set_option maxRecDepth 100000 in
theorem wlX1_findWins_46 {X : ZX} {out : Ob} (q : Nat → Nat) (oc : Ob) (ow : Ob) (os : Ob) (F : zF l D tA RX1 cX1_findWins 3 rmX1_findWins X) (hr : zRv X D cX1_findWins (fun (r : Ob) => (WCa tA q r oc ow os)) out) {K92 : Int32 → Ob → Option Ob} (hK92 : ∀ (x7 : Int32) (o8 : Ob), zY X D out (K92 x7 o8) (WCa tA q o8 oc ow os) 92 [some (.ref (q 0)), some (.int x7), none] []) : ∀ (f : Nat) (x10 : Int32) (x11 : Int32) (o12 : Ob), zY X D out (lX1_findWins_46 oc ow os K92 f x10 x11 o12) (WCa tA q o12 oc ow os) 46 [some (.ref (q 0)), some (.int x10), some (.int x11)] [] := by
  intro f
  induction f with
  | zero =>
    intro x10 x11 o12
    exact y_none
  | succ f ih =>
    intro x10 x11 o12
    rw [lX1_findWins_46.eq_2]
    refine y_iload_n (pc := 46) F dX1_findWins_46 rfl ?_
    refine y_aload_n (pc := 47) F dX1_findWins_47 rfl ?_
    refine y_calliW (As := []) (st := [.int x11]) (q0 := 0) (pc := 48) F (c_X1_allOfThem (q := q) o12 oc ow os) dX1_findWins_48 kM_X1_52 ⟨rfl, rfl⟩ ⟨Nat.le_of_ble_eq_true rfl, Nat.le_of_ble_eq_true rfl⟩ rfl rfl rfl (Nat.le_of_ble_eq_true rfl) rfl rfl WCa_at0 (fun r13 => ?_)
    refine y_icmp_gt (pc := 51) (tgt := 92) F dX1_findWins_51 rfl ?_ ?_
    · refine y_le (lv' := [some (.ref (q 0)), some (.int x10), none]) ⟨rfl, ⟨rfl, trivial⟩⟩ ?_
      exact hK92 x10 o12
    · refine y_aload_n (pc := 54) F dX1_findWins_54 rfl ?_
      refine y_get (pc := 55) F dX1_findWins_55 kF_X1_23 0 WCa_at0 rfl ?_
      refine y_iload_n (pc := 58) F dX1_findWins_58 rfl ?_
      refine y_lald (pc := 59) F dX1_findWins_59 10 WCa_at10 ?_
      refine y_lconst (v := 0) (pc := 60) F dX1_findWins_60 rfl ?_
      refine y_jn (fun (K86 : Ob → Option Ob) => ∀ (o14 : Ob), zY X D out (K86 o14) (WCa tA q o14 oc ow os) 86 [some (.ref (q 0)), some (.int x10), some (.int x11)] []) ?_ ?_
      · intro o14
        refine y_iinc (v := 1) (lf := fun (x15 : Int32) => [some (.ref (q 0)), some (.int x10), some (.int x15)]) (pc := 86) F dX1_findWins_86 rfl rfl rfl (fun _ => rfl) (fun x15 => ?_)
        refine y_goto (tgt := 46) (pc := 89) F dX1_findWins_89 rfl ?_
        exact ih x10 x15 o14
      intro K86 hK86
      refine y_lcmp_lt (pc := 61) (tgt := 86) F dX1_findWins_61 dX1_findWins_62 rfl ?_ ?_
      · exact hK86 o12
      · refine y_aload_n (pc := 65) F dX1_findWins_65 rfl ?_
        refine y_aload_n (pc := 66) F dX1_findWins_66 rfl ?_
        refine y_get (pc := 67) F dX1_findWins_67 kF_X1_23 0 WCa_at0 rfl ?_
        refine y_iload_n (pc := 70) F dX1_findWins_70 rfl ?_
        refine y_lald (pc := 71) F dX1_findWins_71 10 WCa_at10 ?_
        refine y_iload_n (pc := 72) F dX1_findWins_72 rfl ?_
        refine y_calliW (As := [.long (gb o12 4 (x11.toNatClampNeg)), .int x10]) (st := []) (q0 := 0) (pc := 73) F (c_X1_suffices (q := q) o12 oc ow os (gb o12 4 (x11.toNatClampNeg)) x10) dX1_findWins_73 kM_X1_162 ⟨rfl, rfl⟩ ⟨Nat.le_of_ble_eq_true rfl, Nat.le_of_ble_eq_true rfl⟩ rfl rfl rfl (Nat.le_of_ble_eq_true rfl) rfl rfl WCa_at0 (fun r16 => ?_)
        refine y_if_eq (pc := 76) (tgt := 86) F dX1_findWins_76 rfl ?_ ?_
        · exact hK86 o12
        · refine y_aload_n (pc := 79) F dX1_findWins_79 rfl ?_
          refine y_get (pc := 80) F dX1_findWins_80 kF_X1_30 0 WCa_at0 rfl ?_
          refine y_iload_n (pc := 83) F dX1_findWins_83 rfl ?_
          refine y_iconst (v := 1) (pc := 84) F dX1_findWins_84 rfl ?_
          refine y_zast (pc := 85) F dX1_findWins_85 12 WCa_at12 (fun (o17 : Ob) => (WCa tA q o17 oc ow os)) (WCa_ar12 _) (fun o17 => ?_)
          exact hK86 o17
set_option maxHeartbeats 4000000 in
set_option maxRecDepth 100000 in
theorem wlX1_findWins_27 {X : ZX} {out : Ob} (q : Nat → Nat) (oc : Ob) (ow : Ob) (os : Ob) (F : zF l D tA RX1 cX1_findWins 3 rmX1_findWins X) (hr : zRv X D cX1_findWins (fun (r : Ob) => (WCa tA q r oc ow os)) out) : ∀ (f : Nat) (x3 : Int32) (o4 : Ob), zY X D out (lX1_findWins_27 oc ow os f x3 o4) (WCa tA q o4 oc ow os) 27 [some (.ref (q 0)), some (.int x3), none] [] := by
  intro f
  induction f with
  | zero =>
    intro x3 o4
    exact y_none
  | succ f ih =>
    intro x3 o4
    rw [lX1_findWins_27.eq_2]
    refine y_iload_n (pc := 27) F dX1_findWins_27 rfl ?_
    refine y_aload_n (pc := 28) F dX1_findWins_28 rfl ?_
    refine y_get (pc := 29) F dX1_findWins_29 kF_X1_48 0 WCa_at0 rfl ?_
    refine y_icmp_gt (pc := 32) (tgt := 98) F dX1_findWins_32 rfl ?_ ?_
    · exact y_vret hr dX1_findWins_98 rfl
    · refine y_aload_n (pc := 35) F dX1_findWins_35 rfl ?_
      refine y_iload_n (pc := 36) F dX1_findWins_36 rfl ?_
      refine y_aload_n (pc := 37) F dX1_findWins_37 rfl ?_
      refine y_calliW (As := []) (st := [.int x3, .ref (q 0)]) (q0 := 0) (pc := 38) F (c_X1_allOfThem (q := q) o4 oc ow os) dX1_findWins_38 kM_X1_52 ⟨rfl, rfl⟩ ⟨Nat.le_of_ble_eq_true rfl, Nat.le_of_ble_eq_true rfl⟩ rfl rfl rfl (Nat.le_of_ble_eq_true rfl) rfl rfl WCa_at0 (fun r5 => ?_)
      refine y_callvW (As := [.int x3, .int r5]) (st := []) (q0 := 0) (pc := 41) F (c_X1_callOn (q := q) o4 oc ow os x3 r5) dX1_findWins_41 kM_X1_56 ⟨rfl, rfl⟩ ⟨Nat.le_of_ble_eq_true rfl, Nat.le_of_ble_eq_true rfl⟩ rfl rfl rfl (Nat.le_of_ble_eq_true rfl) rfl rfl WCa_at0 (fun r6 => ?_)
      refine y_iconst (v := 0) (pc := 44) F dX1_findWins_44 rfl ?_
      refine y_istore_n (lv' := [some (.ref (q 0)), some (.int x3), some (.int (0 : Int32))]) (pc := 45) F dX1_findWins_45 (Nat.le_of_ble_eq_true rfl) rfl rfl ?_
      refine y_jn (fun (K92 : Int32 → Ob → Option Ob) => ∀ (x7 : Int32) (o8 : Ob), zY X D out (K92 x7 o8) (WCa tA q o8 oc ow os) 92 [some (.ref (q 0)), some (.int x7), none] []) ?_ ?_
      · intro x7 o8
        refine y_iinc (v := 1) (lf := fun (x9 : Int32) => [some (.ref (q 0)), some (.int x9), none]) (pc := 92) F dX1_findWins_92 rfl rfl rfl (fun _ => rfl) (fun x9 => ?_)
        refine y_goto (tgt := 27) (pc := 95) F dX1_findWins_95 rfl ?_
        exact ih x9 o8
      intro K92 hK92
      exact wlX1_findWins_46 q oc ow os F hr hK92 zfu x3 (0 : Int32) r6
set_option maxHeartbeats 4000000 in
set_option maxRecDepth 100000 in
theorem wlX1_findWins_6 {X : ZX} {out : Ob} (q : Nat → Nat) (oc : Ob) (ow : Ob) (os : Ob) (F : zF l D tA RX1 cX1_findWins 3 rmX1_findWins X) (hr : zRv X D cX1_findWins (fun (r : Ob) => (WCa tA q r oc ow os)) out) {K25 : Ob → Option Ob} (hK25 : ∀ (o2 : Ob), zY X D out (K25 o2) (WCa tA q o2 oc ow os) 25 [some (.ref (q 0)), none, none] []) : ∀ (f : Nat) (x18 : Int32) (o19 : Ob), zY X D out (lX1_findWins_6 K25 f x18 o19) (WCa tA q o19 oc ow os) 6 [some (.ref (q 0)), some (.int x18), none] [] := by
  intro f
  induction f with
  | zero =>
    intro x18 o19
    exact y_none
  | succ f ih =>
    intro x18 o19
    rw [lX1_findWins_6.eq_2]
    refine y_iload_n (pc := 6) F dX1_findWins_6 rfl ?_
    refine y_bipush (v := 64) (pc := 7) F dX1_findWins_7 rfl ?_
    refine y_icmp_ge (pc := 9) (tgt := 25) F dX1_findWins_9 rfl ?_ ?_
    · refine y_le (lv' := [some (.ref (q 0)), none, none]) ⟨rfl, trivial⟩ ?_
      exact hK25 o19
    · refine y_aload_n (pc := 12) F dX1_findWins_12 rfl ?_
      refine y_get (pc := 13) F dX1_findWins_13 kF_X1_30 0 WCa_at0 rfl ?_
      refine y_iload_n (pc := 16) F dX1_findWins_16 rfl ?_
      refine y_iconst (v := 0) (pc := 17) F dX1_findWins_17 rfl ?_
      refine y_zast (pc := 18) F dX1_findWins_18 12 WCa_at12 (fun (o20 : Ob) => (WCa tA q o20 oc ow os)) (WCa_ar12 _) (fun o20 => ?_)
      refine y_iinc (v := 1) (lf := fun (x21 : Int32) => [some (.ref (q 0)), some (.int x21), none]) (pc := 19) F dX1_findWins_19 rfl rfl rfl (fun _ => rfl) (fun x21 => ?_)
      refine y_goto (tgt := 6) (pc := 22) F dX1_findWins_22 rfl ?_
      exact ih x21 o20
set_option maxHeartbeats 4000000 in
set_option maxRecDepth 100000 in
theorem c_X1_findWins {q : Nat → Nat} (oe : Ob) (oc : Ob) (ow : Ob) (os : Ob) : zCv l D tA yX1_findWins cX1_findWins 3 rmX1_findWins [.ref (q 0)] (WCa tA q oe oc ow os) (fun (r : Ob) => (WCa tA q r oc ow os)) (pX1_findWins oe oc ow os) := by
  refine zCv_of (lv0 := [some (.ref (q 0)), none, none]) (by decide +kernel) (Nat.le_of_ble_eq_true rfl) rfl (fun X out F hr => ?_)
  unfold pX1_findWins
  refine y_aload_n (pc := 0) F dX1_findWins_0 rfl ?_
  refine y_callvW (As := []) (st := []) (q0 := 0) (pc := 1) F (c_X1_clearPlans (q := q) oe oc ow os) dX1_findWins_1 kM_X1_45 ⟨rfl, rfl⟩ ⟨Nat.le_of_ble_eq_true rfl, Nat.le_of_ble_eq_true rfl⟩ rfl rfl rfl (Nat.le_of_ble_eq_true rfl) rfl rfl WCa_at0 (fun r1 => ?_)
  refine y_iconst (v := 0) (pc := 4) F dX1_findWins_4 rfl ?_
  refine y_istore_n (lv' := [some (.ref (q 0)), some (.int (0 : Int32)), none]) (pc := 5) F dX1_findWins_5 (Nat.le_of_ble_eq_true rfl) rfl rfl ?_
  refine y_jn (fun (K25 : Ob → Option Ob) => ∀ (o2 : Ob), zY X D out (K25 o2) (WCa tA q o2 oc ow os) 25 [some (.ref (q 0)), none, none] []) ?_ ?_
  · intro o2
    refine y_iconst (v := 0) (pc := 25) F dX1_findWins_25 rfl ?_
    refine y_istore_n (lv' := [some (.ref (q 0)), some (.int (0 : Int32)), none]) (pc := 26) F dX1_findWins_26 (Nat.le_of_ble_eq_true rfl) rfl rfl ?_
    exact wlX1_findWins_27 q oc ow os F hr zfu (0 : Int32) o2
  intro K25 hK25
  exact wlX1_findWins_6 q oc ow os F hr hK25 zfu (0 : Int32) r1
abbrev rmX1_stopsAll : Room := { frames := 1, cells := 0, slots := 0, locals := 20 }
def lX1_stopsAll_2 (oe : Ob) (oc : Ob) (ow : Ob) (os : Ob) (a1 : Int32) : Nat → Int32 → Option Int32
  | 0, _ => none
  | f + 1, x1 =>
    Option.bind (pX1_allOfThem oe oc ow os) fun (r2 : Int32) =>
    if r2 < x1 then (zgz (1 : Int32) (some (1 : Int32)))
    else (zgd x1 64 <| zjn (zlet (x1 + (1 : Int32)) fun (x3 : Int32) =>
    lX1_stopsAll_2 oe oc ow os a1 f x3) fun (K27 : Option Int32) =>
    if (ga oe 6 (x1.toNatClampNeg)) = 0 then (K27)
    else (if (x1 &&& a1) = 0 then (zgz (0 : Int32) (some (0 : Int32)))
    else (K27)))
def pX1_stopsAll (oe : Ob) (oc : Ob) (ow : Ob) (os : Ob) (a1 : Int32) : Option Int32 :=
  lX1_stopsAll_2 oe oc ow os a1 zfu (0 : Int32)
set_option maxHeartbeats 4000000 in
set_option maxRecDepth 100000 in
theorem wlX1_stopsAll_2 {X : ZX} {out : Int32} (q : Nat → Nat) (oe : Ob) (oc : Ob) (ow : Ob) (os : Ob) (a1 : Int32) (F : zF l D tA RX1 cX1_stopsAll 3 rmX1_stopsAll X) (hr : zRi X D cX1_stopsAll .boolean (fun (r : Int32) => r) (fun (r : Int32) => (WCa tA q oe oc ow os)) out) : ∀ (f : Nat) (x1 : Int32), zY X D out (lX1_stopsAll_2 oe oc ow os a1 f x1) (WCa tA q oe oc ow os) 2 [some (.ref (q 0)), some (.int a1), some (.int x1)] [] := by
  intro f
  induction f with
  | zero =>
    intro x1
    exact y_none
  | succ f ih =>
    intro x1
    rw [lX1_stopsAll_2.eq_2]
    refine y_iload_n (pc := 2) F dX1_stopsAll_2 rfl ?_
    refine y_aload_n (pc := 3) F dX1_stopsAll_3 rfl ?_
    refine y_calliW (As := []) (st := [.int x1]) (q0 := 0) (pc := 4) F (c_X1_allOfThem (q := q) oe oc ow os) dX1_stopsAll_4 kM_X1_52 ⟨rfl, rfl⟩ ⟨Nat.le_of_ble_eq_true rfl, Nat.le_of_ble_eq_true rfl⟩ rfl rfl rfl (Nat.le_of_ble_eq_true rfl) rfl rfl WCa_at0 (fun r2 => ?_)
    refine y_icmp_gt (pc := 7) (tgt := 33) F dX1_stopsAll_7 rfl ?_ ?_
    · refine y_iconst (v := 1) (pc := 33) F dX1_stopsAll_33 rfl ?_
      exact y_zret hr dX1_stopsAll_34 rfl rfl
    · refine y_aload_n (pc := 10) F dX1_stopsAll_10 rfl ?_
      refine y_get (pc := 11) F dX1_stopsAll_11 kF_X1_30 0 WCa_at0 rfl ?_
      refine y_iload_n (pc := 14) F dX1_stopsAll_14 rfl ?_
      refine y_zald (pc := 15) F dX1_stopsAll_15 12 WCa_at12 ?_
      refine y_jn (fun (K27 : Option Int32) => zY X D out (K27) (WCa tA q oe oc ow os) 27 [some (.ref (q 0)), some (.int a1), some (.int x1)] []) ?_ ?_
      · skip
        refine y_iinc (v := 1) (lf := fun (x3 : Int32) => [some (.ref (q 0)), some (.int a1), some (.int x3)]) (pc := 27) F dX1_stopsAll_27 rfl rfl rfl (fun _ => rfl) (fun x3 => ?_)
        refine y_goto (tgt := 2) (pc := 30) F dX1_stopsAll_30 rfl ?_
        exact ih x3
      intro K27 hK27
      refine y_if_eq (pc := 16) (tgt := 27) F dX1_stopsAll_16 rfl ?_ ?_
      · exact hK27
      · refine y_iload_n (pc := 19) F dX1_stopsAll_19 rfl ?_
        refine y_iload_n (pc := 20) F dX1_stopsAll_20 rfl ?_
        refine y_iand (pc := 21) F dX1_stopsAll_21 ?_
        refine y_if_ne (pc := 22) (tgt := 27) F dX1_stopsAll_22 rfl ?_ ?_
        · refine y_iconst (v := 0) (pc := 25) F dX1_stopsAll_25 rfl ?_
          exact y_zret hr dX1_stopsAll_26 rfl rfl
        · exact hK27
set_option maxHeartbeats 4000000 in
set_option maxRecDepth 100000 in
theorem c_X1_stopsAll {q : Nat → Nat} (oe : Ob) (oc : Ob) (ow : Ob) (os : Ob) (a1 : Int32) : zCi l D tA yX1_stopsAll cX1_stopsAll 3 .boolean rmX1_stopsAll [.ref (q 0), .int a1] (WCa tA q oe oc ow os) (fun (r : Int32) => r) (fun (r : Int32) => (WCa tA q oe oc ow os)) (pX1_stopsAll oe oc ow os a1) := by
  refine zCi_of (lv0 := [some (.ref (q 0)), some (.int a1), none]) (by decide +kernel) (Nat.le_of_ble_eq_true rfl) rfl (fun X out F hr => ?_)
  unfold pX1_stopsAll
  refine y_iconst (v := 0) (pc := 0) F dX1_stopsAll_0 rfl ?_
  refine y_istore_n (lv' := [some (.ref (q 0)), some (.int a1), some (.int (0 : Int32))]) (pc := 1) F dX1_stopsAll_1 (Nat.le_of_ble_eq_true rfl) rfl rfl ?_
  exact wlX1_stopsAll_2 q oe oc ow os a1 F hr zfu (0 : Int32)
abbrev rmX1_asWitnesses : Room := { frames := 0, cells := 0, slots := 0, locals := 0 }
def lX1_asWitnesses_4 (oe : Ob) (a1 : Int32) : Nat → Int32 → Int32 → Option Int32
  | 0, _, _ => none
  | f + 1, x1, x2 =>
    if (gi oe 8) ≤ x2 then (some x1)
    else (zjn (fun (x3 : Int32) =>
    zlet (x2 + (1 : Int32)) fun (x4 : Int32) =>
    lX1_asWitnesses_4 oe a1 f x3 x4) fun (K32 : Int32 → Option Int32) =>
    if ((a1 >>> (x2 &&& 31)) &&& (1 : Int32)) = (1 : Int32) then (zgd x2 6 <| zlet ((x1 ||| ((1 : Int32) <<< ((ga oe 1 (x2.toNatClampNeg)) &&& 31)))) fun (x5 : Int32) =>
    K32 x5)
    else (K32 x1))
def pX1_asWitnesses (oe : Ob) (oc : Ob) (ow : Ob) (os : Ob) (a1 : Int32) : Option Int32 :=
  lX1_asWitnesses_4 oe a1 zfu (0 : Int32) (0 : Int32)
set_option maxHeartbeats 4000000 in
set_option maxRecDepth 100000 in
theorem wlX1_asWitnesses_4 {X : ZX} {out : Int32} (q : Nat → Nat) (oe : Ob) (oc : Ob) (ow : Ob) (os : Ob) (a1 : Int32) (F : zF l D tA RX1 cX1_asWitnesses 4 rmX1_asWitnesses X) (hr : zRi X D cX1_asWitnesses .int (fun (r : Int32) => r) (fun (r : Int32) => (WCa tA q oe oc ow os)) out) : ∀ (f : Nat) (x1 : Int32) (x2 : Int32), zY X D out (lX1_asWitnesses_4 oe a1 f x1 x2) (WCa tA q oe oc ow os) 4 [some (.ref (q 0)), some (.int a1), some (.int x1), some (.int x2)] [] := by
  intro f
  induction f with
  | zero =>
    intro x1 x2
    exact y_none
  | succ f ih =>
    intro x1 x2
    rw [lX1_asWitnesses_4.eq_2]
    refine y_iload_n (pc := 4) F dX1_asWitnesses_4 rfl ?_
    refine y_aload_n (pc := 5) F dX1_asWitnesses_5 rfl ?_
    refine y_get (pc := 6) F dX1_asWitnesses_6 kF_X1_81 0 WCa_at0 rfl ?_
    refine y_icmp_ge (pc := 9) (tgt := 38) F dX1_asWitnesses_9 rfl ?_ ?_
    · refine y_iload_n (pc := 38) F dX1_asWitnesses_38 rfl ?_
      exact y_iret hr dX1_asWitnesses_39 rfl rfl
    · refine y_iload_n (pc := 12) F dX1_asWitnesses_12 rfl ?_
      refine y_iload_n (pc := 13) F dX1_asWitnesses_13 rfl ?_
      refine y_ishr (pc := 14) F dX1_asWitnesses_14 ?_
      refine y_iconst (v := 1) (pc := 15) F dX1_asWitnesses_15 rfl ?_
      refine y_iand (pc := 16) F dX1_asWitnesses_16 ?_
      refine y_iconst (v := 1) (pc := 17) F dX1_asWitnesses_17 rfl ?_
      refine y_jn (fun (K32 : Int32 → Option Int32) => ∀ (x3 : Int32), zY X D out (K32 x3) (WCa tA q oe oc ow os) 32 [some (.ref (q 0)), some (.int a1), some (.int x3), some (.int x2)] []) ?_ ?_
      · intro x3
        refine y_iinc (v := 1) (lf := fun (x4 : Int32) => [some (.ref (q 0)), some (.int a1), some (.int x3), some (.int x4)]) (pc := 32) F dX1_asWitnesses_32 rfl rfl rfl (fun _ => rfl) (fun x4 => ?_)
        refine y_goto (tgt := 4) (pc := 35) F dX1_asWitnesses_35 rfl ?_
        exact ih x3 x4
      intro K32 hK32
      refine y_icmp_ne (pc := 18) (tgt := 32) F dX1_asWitnesses_18 rfl ?_ ?_
      · refine y_iload_n (pc := 21) F dX1_asWitnesses_21 rfl ?_
        refine y_iconst (v := 1) (pc := 22) F dX1_asWitnesses_22 rfl ?_
        refine y_aload_n (pc := 23) F dX1_asWitnesses_23 rfl ?_
        refine y_get (pc := 24) F dX1_asWitnesses_24 kF_X1_9 0 WCa_at0 rfl ?_
        refine y_iload_n (pc := 27) F dX1_asWitnesses_27 rfl ?_
        refine y_iald (pc := 28) F dX1_asWitnesses_28 1 WCa_at1 ?_
        refine y_ishl (pc := 29) F dX1_asWitnesses_29 ?_
        refine y_ior (pc := 30) F dX1_asWitnesses_30 ?_
        refine y_lti (fun x5 => ?_)
        refine y_istore_n (lv' := [some (.ref (q 0)), some (.int a1), some (.int x5), some (.int x2)]) (pc := 31) F dX1_asWitnesses_31 (Nat.le_of_ble_eq_true rfl) rfl rfl ?_
        exact hK32 x5
      · exact hK32 x1
set_option maxHeartbeats 4000000 in
set_option maxRecDepth 100000 in
theorem c_X1_asWitnesses {q : Nat → Nat} (oe : Ob) (oc : Ob) (ow : Ob) (os : Ob) (a1 : Int32) : zCi l D tA yX1_asWitnesses cX1_asWitnesses 4 .int rmX1_asWitnesses [.ref (q 0), .int a1] (WCa tA q oe oc ow os) (fun (r : Int32) => r) (fun (r : Int32) => (WCa tA q oe oc ow os)) (pX1_asWitnesses oe oc ow os a1) := by
  refine zCi_of (lv0 := [some (.ref (q 0)), some (.int a1), none, none]) (by decide +kernel) (Nat.le_of_ble_eq_true rfl) rfl (fun X out F hr => ?_)
  unfold pX1_asWitnesses
  refine y_iconst (v := 0) (pc := 0) F dX1_asWitnesses_0 rfl ?_
  refine y_istore_n (lv' := [some (.ref (q 0)), some (.int a1), some (.int (0 : Int32)), none]) (pc := 1) F dX1_asWitnesses_1 (Nat.le_of_ble_eq_true rfl) rfl rfl ?_
  refine y_iconst (v := 0) (pc := 2) F dX1_asWitnesses_2 rfl ?_
  refine y_istore_n (lv' := [some (.ref (q 0)), some (.int a1), some (.int (0 : Int32)), some (.int (0 : Int32))]) (pc := 3) F dX1_asWitnesses_3 (Nat.le_of_ble_eq_true rfl) rfl rfl ?_
  exact wlX1_asWitnesses_4 q oe oc ow os a1 F hr zfu (0 : Int32) (0 : Int32)
abbrev rmX1_fewestToStrike : Room := { frames := 4, cells := 0, slots := 0, locals := 92 }
def lX1_fewestToStrike_27 (oc : Ob) (ow : Ob) (os : Ob) (r2 : Ob) (K62 : Int32 → Option (Int32 × Ob)) : Nat → Int32 → Int32 → Option (Int32 × Ob)
  | 0, _, _ => none
  | f + 1, x6, x7 =>
    Option.bind (pX1_allOfThem r2 oc ow os) fun (r8 : Int32) =>
    if r8 ≤ x7 then (K62 x6)
    else (Option.bind (pJ6_bitCount_0f7a4 x7) fun (r9 : Int32) =>
    Option.bind (pJ6_bitCount_0f7a4 x6) fun (r10 : Int32) =>
    zjn (fun (x11 : Int32) =>
    zlet (x7 + (1 : Int32)) fun (x12 : Int32) =>
    lX1_fewestToStrike_27 oc ow os r2 K62 f x11 x12) fun (K56 : Int32 → Option (Int32 × Ob)) =>
    if r10 ≤ r9 then (K56 x6)
    else (Option.bind (pX1_stopsAll r2 oc ow os x7) fun (r13 : Int32) =>
    if r13 = 0 then (K56 x6)
    else (K56 x7)))
def pX1_fewestToStrike (oe : Ob) (oc : Ob) (ow : Ob) (os : Ob) (a1 : Int32) : Option (Int32 × Ob) :=
  Option.bind (pX1_prepare oe oc ow os a1) fun (r1 : Ob) =>
  Option.bind (pX1_findWins r1 oc ow os) fun (r2 : Ob) =>
  zgd (0 : Int32) 64 <| if (ga r2 6 ((0 : Int32).toNatClampNeg)) = 0 then (Option.bind (pX1_allOfThem r2 oc ow os) fun (r3 : Int32) =>
  zjn (fun (x4 : Int32) =>
  Option.bind (pX1_asWitnesses r2 oc ow os x4) fun (r5 : Int32) =>
  some (r5, r2)) fun (K62 : Int32 → Option (Int32 × Ob)) =>
  lX1_fewestToStrike_27 oc ow os r2 K62 zfu r3 (0 : Int32))
  else (some ((-1 : Int32), r2))
set_option maxHeartbeats 4000000 in
set_option maxRecDepth 100000 in
theorem wlX1_fewestToStrike_27 {X : ZX} {out : (Int32 × Ob)} (q : Nat → Nat) (oc : Ob) (ow : Ob) (os : Ob) (r2 : Ob) (F : zF l D tA RX1 cX1_fewestToStrike 4 rmX1_fewestToStrike X) (hr : zRi X D cX1_fewestToStrike .int (fun (r : Int32 × Ob) => (r.1)) (fun (r : Int32 × Ob) => (WCa tA q (r.2) oc ow os)) out) {K62 : Int32 → Option (Int32 × Ob)} (hK62 : ∀ (x4 : Int32), zY X D out (K62 x4) (WCa tA q r2 oc ow os) 62 [some (.ref (q 0)), none, some (.int x4), none] []) : ∀ (f : Nat) (x6 : Int32) (x7 : Int32), zY X D out (lX1_fewestToStrike_27 oc ow os r2 K62 f x6 x7) (WCa tA q r2 oc ow os) 27 [some (.ref (q 0)), none, some (.int x6), some (.int x7)] [] := by
  intro f
  induction f with
  | zero =>
    intro x6 x7
    exact y_none
  | succ f ih =>
    intro x6 x7
    rw [lX1_fewestToStrike_27.eq_2]
    refine y_iload_n (pc := 27) F dX1_fewestToStrike_27 rfl ?_
    refine y_aload_n (pc := 28) F dX1_fewestToStrike_28 rfl ?_
    refine y_calliW (As := []) (st := [.int x7]) (q0 := 0) (pc := 29) F (c_X1_allOfThem (q := q) r2 oc ow os) dX1_fewestToStrike_29 kM_X1_52 ⟨rfl, rfl⟩ ⟨Nat.le_of_ble_eq_true rfl, Nat.le_of_ble_eq_true rfl⟩ rfl rfl rfl (Nat.le_of_ble_eq_true rfl) rfl rfl WCa_at0 (fun r8 => ?_)
    refine y_icmp_ge (pc := 32) (tgt := 62) F dX1_fewestToStrike_32 rfl ?_ ?_
    · refine y_le (lv' := [some (.ref (q 0)), none, some (.int x6), none]) ⟨rfl, ⟨rfl, trivial⟩⟩ ?_
      exact hK62 x6
    · refine y_iload_n (pc := 35) F dX1_fewestToStrike_35 rfl ?_
      refine y_scalliP (As := [.int x7]) (st := []) (pc := 36) F (c_J6_bitCount_0f7a4 (q := q) x7) dX1_fewestToStrike_36 kM_X1_87 ⟨rfl, rfl⟩ ⟨Nat.le_of_ble_eq_true rfl, Nat.le_of_ble_eq_true rfl⟩ rfl rfl rfl (Nat.le_of_ble_eq_true rfl) (fun r9 => ?_)
      refine y_iload_n (pc := 39) F dX1_fewestToStrike_39 rfl ?_
      refine y_scalliP (As := [.int x6]) (st := [.int r9]) (pc := 40) F (c_J6_bitCount_0f7a4 (q := q) x6) dX1_fewestToStrike_40 kM_X1_87 ⟨rfl, rfl⟩ ⟨Nat.le_of_ble_eq_true rfl, Nat.le_of_ble_eq_true rfl⟩ rfl rfl rfl (Nat.le_of_ble_eq_true rfl) (fun r10 => ?_)
      refine y_jn (fun (K56 : Int32 → Option (Int32 × Ob)) => ∀ (x11 : Int32), zY X D out (K56 x11) (WCa tA q r2 oc ow os) 56 [some (.ref (q 0)), none, some (.int x11), some (.int x7)] []) ?_ ?_
      · intro x11
        refine y_iinc (v := 1) (lf := fun (x12 : Int32) => [some (.ref (q 0)), none, some (.int x11), some (.int x12)]) (pc := 56) F dX1_fewestToStrike_56 rfl rfl rfl (fun _ => rfl) (fun x12 => ?_)
        refine y_goto (tgt := 27) (pc := 59) F dX1_fewestToStrike_59 rfl ?_
        exact ih x11 x12
      intro K56 hK56
      refine y_icmp_ge (pc := 43) (tgt := 56) F dX1_fewestToStrike_43 rfl ?_ ?_
      · exact hK56 x6
      · refine y_aload_n (pc := 46) F dX1_fewestToStrike_46 rfl ?_
        refine y_iload_n (pc := 47) F dX1_fewestToStrike_47 rfl ?_
        refine y_calliW (As := [.int x7]) (st := []) (q0 := 0) (pc := 48) F (c_X1_stopsAll (q := q) r2 oc ow os x7) dX1_fewestToStrike_48 kM_X1_92 ⟨rfl, rfl⟩ ⟨Nat.le_of_ble_eq_true rfl, Nat.le_of_ble_eq_true rfl⟩ rfl rfl rfl (Nat.le_of_ble_eq_true rfl) rfl rfl WCa_at0 (fun r13 => ?_)
        refine y_if_eq (pc := 51) (tgt := 56) F dX1_fewestToStrike_51 rfl ?_ ?_
        · exact hK56 x6
        · refine y_iload_n (pc := 54) F dX1_fewestToStrike_54 rfl ?_
          refine y_istore_n (lv' := [some (.ref (q 0)), none, some (.int x7), some (.int x7)]) (pc := 55) F dX1_fewestToStrike_55 (Nat.le_of_ble_eq_true rfl) rfl rfl ?_
          exact hK56 x7
set_option maxHeartbeats 4000000 in
set_option maxRecDepth 100000 in
theorem c_X1_fewestToStrike {q : Nat → Nat} (oe : Ob) (oc : Ob) (ow : Ob) (os : Ob) (a1 : Int32) : zCi l D tA yX1_fewestToStrike cX1_fewestToStrike 4 .int rmX1_fewestToStrike [.ref (q 0), .int a1] (WCa tA q oe oc ow os) (fun (r : Int32 × Ob) => (r.1)) (fun (r : Int32 × Ob) => (WCa tA q (r.2) oc ow os)) (pX1_fewestToStrike oe oc ow os a1) := by
  refine zCi_of (lv0 := [some (.ref (q 0)), some (.int a1), none, none]) (by decide +kernel) (Nat.le_of_ble_eq_true rfl) rfl (fun X out F hr => ?_)
  unfold pX1_fewestToStrike
  refine y_aload_n (pc := 0) F dX1_fewestToStrike_0 rfl ?_
  refine y_iload_n (pc := 1) F dX1_fewestToStrike_1 rfl ?_
  refine y_callvW (As := [.int a1]) (st := []) (q0 := 0) (pc := 2) F (c_X1_prepare (q := q) oe oc ow os a1) dX1_fewestToStrike_2 kM_X1_41 ⟨rfl, rfl⟩ ⟨Nat.le_of_ble_eq_true rfl, Nat.le_of_ble_eq_true rfl⟩ rfl rfl rfl (Nat.le_of_ble_eq_true rfl) rfl rfl WCa_at0 (fun r1 => ?_)
  refine y_aload_n (pc := 5) F dX1_fewestToStrike_5 rfl ?_
  refine y_callvW (As := []) (st := []) (q0 := 0) (pc := 6) F (c_X1_findWins (q := q) r1 oc ow os) dX1_fewestToStrike_6 kM_X1_84 ⟨rfl, rfl⟩ ⟨Nat.le_of_ble_eq_true rfl, Nat.le_of_ble_eq_true rfl⟩ rfl rfl rfl (Nat.le_of_ble_eq_true rfl) rfl rfl WCa_at0 (fun r2 => ?_)
  refine y_aload_n (pc := 9) F dX1_fewestToStrike_9 rfl ?_
  refine y_get (pc := 10) F dX1_fewestToStrike_10 kF_X1_30 0 WCa_at0 rfl ?_
  refine y_iconst (v := 0) (pc := 13) F dX1_fewestToStrike_13 rfl ?_
  refine y_zald (pc := 14) F dX1_fewestToStrike_14 12 WCa_at12 ?_
  refine y_if_eq (pc := 15) (tgt := 20) F dX1_fewestToStrike_15 rfl ?_ ?_
  · refine y_aload_n (pc := 20) F dX1_fewestToStrike_20 rfl ?_
    refine y_calliW (As := []) (st := []) (q0 := 0) (pc := 21) F (c_X1_allOfThem (q := q) r2 oc ow os) dX1_fewestToStrike_21 kM_X1_52 ⟨rfl, rfl⟩ ⟨Nat.le_of_ble_eq_true rfl, Nat.le_of_ble_eq_true rfl⟩ rfl rfl rfl (Nat.le_of_ble_eq_true rfl) rfl rfl WCa_at0 (fun r3 => ?_)
    refine y_istore_n (lv' := [some (.ref (q 0)), some (.int a1), some (.int r3), none]) (pc := 24) F dX1_fewestToStrike_24 (Nat.le_of_ble_eq_true rfl) rfl rfl ?_
    refine y_iconst (v := 0) (pc := 25) F dX1_fewestToStrike_25 rfl ?_
    refine y_istore_n (lv' := [some (.ref (q 0)), some (.int a1), some (.int r3), some (.int (0 : Int32))]) (pc := 26) F dX1_fewestToStrike_26 (Nat.le_of_ble_eq_true rfl) rfl rfl ?_
    refine y_jn (fun (K62 : Int32 → Option (Int32 × Ob)) => ∀ (x4 : Int32), zY X D out (K62 x4) (WCa tA q r2 oc ow os) 62 [some (.ref (q 0)), none, some (.int x4), none] []) ?_ ?_
    · intro x4
      refine y_aload_n (pc := 62) F dX1_fewestToStrike_62 rfl ?_
      refine y_iload_n (pc := 63) F dX1_fewestToStrike_63 rfl ?_
      refine y_calliW (As := [.int x4]) (st := []) (q0 := 0) (pc := 64) F (c_X1_asWitnesses (q := q) r2 oc ow os x4) dX1_fewestToStrike_64 kM_X1_95 ⟨rfl, rfl⟩ ⟨Nat.le_of_ble_eq_true rfl, Nat.le_of_ble_eq_true rfl⟩ rfl rfl rfl (Nat.le_of_ble_eq_true rfl) rfl rfl WCa_at0 (fun r5 => ?_)
      exact y_iret hr dX1_fewestToStrike_67 rfl rfl
    intro K62 hK62
    refine y_le (lv' := [some (.ref (q 0)), none, some (.int r3), some (.int (0 : Int32))]) ⟨rfl, ⟨rfl, ⟨rfl, trivial⟩⟩⟩ ?_
    exact wlX1_fewestToStrike_27 q oc ow os r2 F hr hK62 zfu r3 (0 : Int32)
  · refine y_iconst (v := -1) (pc := 18) F dX1_fewestToStrike_18 rfl ?_
    exact y_iret hr dX1_fewestToStrike_19 rfl rfl
end ZC
