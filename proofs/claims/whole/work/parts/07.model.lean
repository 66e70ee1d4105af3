section ZM
variable {l : Launch} {D : va_G} {tA : Nat → ClassId}
def WM (tA : Nat → ClassId) (q : Nat → Nat) (o : Ob) : va_W := [(q 0, .inr (11, [.int (gi o 0), .ref (q 1), .ref (q 2), .ref (q 3), .int (gi o 4), .ref (q 4), .ref (q 5), .ref (q 6), .int (gi o 8), .ref (q 7), .ref (q 8), .ref (q 9), .ref (q 10), .int (gi o 13), .int (gi o 14), .ref (q 11), .ref (q 12), .ref (q 13), .ref (q 14), .ref (q 15), .int (gi o 20), .ref (q 16), .int (gi o 22), .int (gi o 23), .int (gi o 24), .long (gl o 25), .int (gi o 26), .int (gi o 27), .int (gi o 28), .int (gi o 29), .ref (q 17), .ref (q 18), .ref (q 19), .int (gi o 33), .ref (q 20), .ref (q 21), .ref (q 22), .int (gi o 37), .ref (q 23), .ref (q 24), .int (gi o 40), .ref (q 25), .ref (q 26), .ref (q 27), .ref (q 28), .ref (q 29), .ref (q 30), .ref (q 31), .ref (q 32), .ref (q 33), .ref (q 34), .ref (q 35), .ref (q 36)])), (q 1, .inl (tA 0, (6, .inl (ga o 1)))), (q 2, .inl (tA 0, (6, .inl (ga o 2)))), (q 3, .inl (tA 0, (6, .inl (ga o 3)))), (q 4, .inl (tA 0, (12, .inl (ga o 5)))), (q 5, .inl (tA 0, (12, .inl (ga o 6)))), (q 6, .inl (tA 0, (12, .inl (ga o 7)))), (q 7, .inl (tA 0, (24, .inl (ga o 9)))), (q 8, .inl (tA 0, (12, .inl (ga o 10)))), (q 9, .inl (tA 0, (12, .inl (ga o 11)))), (q 10, .inl (tA 2, (12, .inl (ga o 12)))), (q 11, .inl (tA 0, (6, .inl (ga o 15)))), (q 12, .inl (tA 0, (6, .inl (ga o 16)))), (q 13, .inl (tA 0, (6, .inl (ga o 17)))), (q 14, .inl (tA 0, (2400, .inl (ga o 18)))), (q 15, .inl (tA 0, (2400, .inl (ga o 19)))), (q 16, .inl (tA 0, (500, .inl (ga o 21)))), (q 17, .inl (tA 0, (6, .inl (ga o 30)))), (q 18, .inl (tA 0, (6, .inl (ga o 31)))), (q 19, .inl (tA 0, (6, .inl (ga o 32)))), (q 20, .inl (tA 0, (12, .inl (ga o 34)))), (q 21, .inl (tA 0, (12, .inl (ga o 35)))), (q 22, .inl (tA 0, (12, .inl (ga o 36)))), (q 23, .inl (tA 0, (24, .inl (ga o 38)))), (q 24, .inl (tA 0, (6, .inl (ga o 39)))), (q 25, .inl (tA 0, (6, .inl (ga o 41)))), (q 26, .inl (tA 1, (64, .inr (.inl (gb o 42))))), (q 27, .inl (tA 1, (64, .inr (.inl (gb o 43))))), (q 28, .inl (tA 2, (12, .inl (ga o 44)))), (q 29, .inl (tA 1, (64, .inr (.inl (gb o 45))))), (q 30, .inl (tA 0, (6, .inl (ga o 46)))), (q 31, .inl (tA 0, (6, .inl (ga o 47)))), (q 32, .inl (tA 0, (360, .inl (ga o 48)))), (q 33, .inl (tA 0, (120, .inl (ga o 49)))), (q 34, .inl (tA 0, (4800, .inl (ga o 50)))), (q 35, .inl (tA 0, (4800, .inl (ga o 51)))), (q 36, .inl (tA 2, (2, .inl (ga o 52))))]
def zfu : Nat := 100000
abbrev rmX11_in : Room := { frames := 0, cells := 0, slots := 0, locals := 0 }
def pX11_in (a0 : Int64) (a2 : Int64) (a4 : Int64) : Option Int32 :=
  if a0 < a2 then (zgz (0 : Int32) (some (0 : Int32)))
  else (if a4 < a0 then (zgz (0 : Int32) (some (0 : Int32)))
  else (zgz (1 : Int32) (some (1 : Int32))))
set_option maxHeartbeats 4000000 in
set_option maxRecDepth 100000 in
theorem c_X11_in {q : Nat → Nat} (a0 : Int64) (a2 : Int64) (a4 : Int64) : zCi l D tA yX11_in cX11_in 6 .boolean rmX11_in [.long a0, .long a2, .long a4] [] (fun (r : Int32) => r) (fun (r : Int32) => []) (pX11_in a0 a2 a4) := by
  refine zCi_of (lv0 := [some (.long a0), none, some (.long a2), none, some (.long a4), none]) (by decide +kernel) (Nat.le_of_ble_eq_true rfl) rfl (fun X out F hr => ?_)
  unfold pX11_in
  refine y_lload_n (pc := 0) F dX11_in_0 rfl ?_
  refine y_lload_n (pc := 1) F dX11_in_1 rfl ?_
  refine y_lcmp_lt (pc := 2) (tgt := 17) F dX11_in_2 dX11_in_3 rfl ?_ ?_
  · refine y_iconst (v := 0) (pc := 17) F dX11_in_17 rfl ?_
    exact y_zret hr dX11_in_18 rfl rfl
  · refine y_lload_n (pc := 6) F dX11_in_6 rfl ?_
    refine y_lload (pc := 7) F dX11_in_7 rfl ?_
    refine y_lcmp_gt (pc := 9) (tgt := 17) F dX11_in_9 dX11_in_10 rfl ?_ ?_
    · refine y_iconst (v := 0) (pc := 17) F dX11_in_17 rfl ?_
      exact y_zret hr dX11_in_18 rfl rfl
    · refine y_iconst (v := 1) (pc := 13) F dX11_in_13 rfl ?_
      refine y_goto (tgt := 18) (pc := 14) F dX11_in_14 rfl ?_
      exact y_zret hr dX11_in_18 rfl rfl
abbrev rmX11_has : Room := { frames := 0, cells := 0, slots := 0, locals := 0 }
def pX11_has (a0 : Int32) (a1 : Int32) : Option Int32 :=
  if ((a0 >>> (a1 &&& 31)) &&& (1 : Int32)) = (1 : Int32) then (zgz (1 : Int32) (some (1 : Int32)))
  else (zgz (0 : Int32) (some (0 : Int32)))
set_option maxHeartbeats 4000000 in
set_option maxRecDepth 100000 in
theorem c_X11_has {q : Nat → Nat} (a0 : Int32) (a1 : Int32) : zCi l D tA yX11_has cX11_has 2 .boolean rmX11_has [.int a0, .int a1] [] (fun (r : Int32) => r) (fun (r : Int32) => []) (pX11_has a0 a1) := by
  refine zCi_of (lv0 := [some (.int a0), some (.int a1)]) (by decide +kernel) (Nat.le_of_ble_eq_true rfl) rfl (fun X out F hr => ?_)
  unfold pX11_has
  refine y_iload_n (pc := 0) F dX11_has_0 rfl ?_
  refine y_iload_n (pc := 1) F dX11_has_1 rfl ?_
  refine y_ishr (pc := 2) F dX11_has_2 ?_
  refine y_iconst (v := 1) (pc := 3) F dX11_has_3 rfl ?_
  refine y_iand (pc := 4) F dX11_has_4 ?_
  refine y_iconst (v := 1) (pc := 5) F dX11_has_5 rfl ?_
  refine y_icmp_ne (pc := 6) (tgt := 13) F dX11_has_6 rfl ?_ ?_
  · refine y_iconst (v := 1) (pc := 9) F dX11_has_9 rfl ?_
    refine y_goto (tgt := 14) (pc := 10) F dX11_has_10 rfl ?_
    exact y_zret hr dX11_has_14 rfl rfl
  · refine y_iconst (v := 0) (pc := 13) F dX11_has_13 rfl ?_
    exact y_zret hr dX11_has_14 rfl rfl
abbrev rmX11_isSuit : Room := { frames := 1, cells := 0, slots := 0, locals := 25 }
def pX11_isSuit (o : Ob) (a1 : Int32) : Option Int32 :=
  Option.bind (pX11_in (a1.toInt64) (0 : Int64) (((gi o 0) - (1 : Int32)).toInt64)) fun (r1 : Int32) =>
  zgz r1 (some r1)
set_option maxHeartbeats 4000000 in
set_option maxRecDepth 100000 in
theorem c_X11_isSuit {q : Nat → Nat} (o : Ob) (a1 : Int32) : zCi l D tA yX11_isSuit cX11_isSuit 2 .boolean rmX11_isSuit [.ref (q 0), .int a1] (WM tA q o) (fun (r : Int32) => r) (fun (r : Int32) => (WM tA q o)) (pX11_isSuit o a1) := by
  refine zCi_of (lv0 := [some (.ref (q 0)), some (.int a1)]) (by decide +kernel) (Nat.le_of_ble_eq_true rfl) rfl (fun X out F hr => ?_)
  unfold pX11_isSuit
  refine y_iload_n (pc := 0) F dX11_isSuit_0 rfl ?_
  refine y_i2l (pc := 1) F dX11_isSuit_1 ?_
  refine y_lconst (v := 0) (pc := 2) F dX11_isSuit_2 rfl ?_
  refine y_aload_n (pc := 3) F dX11_isSuit_3 rfl ?_
  refine y_get (pc := 4) F dX11_isSuit_4 kF_X11_124 0 rfl rfl ?_
  refine y_iconst (v := 1) (pc := 7) F dX11_isSuit_7 rfl ?_
  refine y_isub (pc := 8) F dX11_isSuit_8 ?_
  refine y_i2l (pc := 9) F dX11_isSuit_9 ?_
  refine y_scalliP (As := [.long (a1.toInt64), .long (0 : Int64), .long (((gi o 0) - (1 : Int32)).toInt64)]) (st := []) (pc := 10) F (c_X11_in (q := q) (a1.toInt64) (0 : Int64) (((gi o 0) - (1 : Int32)).toInt64)) dX11_isSuit_10 kM_X11_127 ⟨rfl, rfl⟩ ⟨Nat.le_of_ble_eq_true rfl, Nat.le_of_ble_eq_true rfl⟩ rfl rfl rfl (Nat.le_of_ble_eq_true rfl) (fun r1 => ?_)
  exact y_zret hr dX11_isSuit_13 rfl rfl
abbrev rmX11_isWitness : Room := { frames := 1, cells := 0, slots := 0, locals := 25 }
def pX11_isWitness (o : Ob) (a1 : Int32) : Option Int32 :=
  Option.bind (pX11_in (a1.toInt64) (0 : Int64) (((gi o 4) - (1 : Int32)).toInt64)) fun (r1 : Int32) =>
  zgz r1 (some r1)
set_option maxHeartbeats 4000000 in
set_option maxRecDepth 100000 in
theorem c_X11_isWitness {q : Nat → Nat} (o : Ob) (a1 : Int32) : zCi l D tA yX11_isWitness cX11_isWitness 2 .boolean rmX11_isWitness [.ref (q 0), .int a1] (WM tA q o) (fun (r : Int32) => r) (fun (r : Int32) => (WM tA q o)) (pX11_isWitness o a1) := by
  refine zCi_of (lv0 := [some (.ref (q 0)), some (.int a1)]) (by decide +kernel) (Nat.le_of_ble_eq_true rfl) rfl (fun X out F hr => ?_)
  unfold pX11_isWitness
  refine y_iload_n (pc := 0) F dX11_isWitness_0 rfl ?_
  refine y_i2l (pc := 1) F dX11_isWitness_1 ?_
  refine y_lconst (v := 0) (pc := 2) F dX11_isWitness_2 rfl ?_
  refine y_aload_n (pc := 3) F dX11_isWitness_3 rfl ?_
  refine y_get (pc := 4) F dX11_isWitness_4 kF_X11_131 0 rfl rfl ?_
  refine y_iconst (v := 1) (pc := 7) F dX11_isWitness_7 rfl ?_
  refine y_isub (pc := 8) F dX11_isWitness_8 ?_
  refine y_i2l (pc := 9) F dX11_isWitness_9 ?_
  refine y_scalliP (As := [.long (a1.toInt64), .long (0 : Int64), .long (((gi o 4) - (1 : Int32)).toInt64)]) (st := []) (pc := 10) F (c_X11_in (q := q) (a1.toInt64) (0 : Int64) (((gi o 4) - (1 : Int32)).toInt64)) dX11_isWitness_10 kM_X11_127 ⟨rfl, rfl⟩ ⟨Nat.le_of_ble_eq_true rfl, Nat.le_of_ble_eq_true rfl⟩ rfl rfl rfl (Nat.le_of_ble_eq_true rfl) (fun r1 => ?_)
  exact y_zret hr dX11_isWitness_13 rfl rfl
abbrev rmX11_bits : Room := { frames := 0, cells := 0, slots := 0, locals := 0 }
def lX11_bits_4 (a0 : Int32) : Nat → Int32 → Int32 → Option Int32
  | 0, _, _ => none
  | f + 1, x1, x2 =>
    if (12 : Int32) ≤ x2 then (some x1)
    else (zlet ((x1 + ((a0 >>> (x2 &&& 31)) &&& (1 : Int32)))) fun (x3 : Int32) =>
    zlet (x2 + (1 : Int32)) fun (x4 : Int32) =>
    lX11_bits_4 a0 f x3 x4)
def pX11_bits (a0 : Int32) : Option Int32 :=
  lX11_bits_4 a0 zfu (0 : Int32) (0 : Int32)
set_option maxHeartbeats 4000000 in
set_option maxRecDepth 100000 in
theorem wlX11_bits_4 {X : ZX} {out : Int32} (q : Nat → Nat) (a0 : Int32) (F : zF l D tA RX11 cX11_bits 3 rmX11_bits X) (hr : zRi X D cX11_bits .int (fun (r : Int32) => r) (fun (r : Int32) => []) out) : ∀ (f : Nat) (x1 : Int32) (x2 : Int32), zY X D out (lX11_bits_4 a0 f x1 x2) [] 4 [some (.int a0), some (.int x1), some (.int x2)] [] := by
  intro f
  induction f with
  | zero =>
    intro x1 x2
    exact y_none
  | succ f ih =>
    intro x1 x2
    rw [lX11_bits_4.eq_2]
    refine y_iload_n (pc := 4) F dX11_bits_4 rfl ?_
    refine y_bipush (v := 12) (pc := 5) F dX11_bits_5 rfl ?_
    refine y_icmp_ge (pc := 7) (tgt := 24) F dX11_bits_7 rfl ?_ ?_
    · refine y_iload_n (pc := 24) F dX11_bits_24 rfl ?_
      exact y_iret hr dX11_bits_25 rfl rfl
    · refine y_iload_n (pc := 10) F dX11_bits_10 rfl ?_
      refine y_iload_n (pc := 11) F dX11_bits_11 rfl ?_
      refine y_iload_n (pc := 12) F dX11_bits_12 rfl ?_
      refine y_ishr (pc := 13) F dX11_bits_13 ?_
      refine y_iconst (v := 1) (pc := 14) F dX11_bits_14 rfl ?_
      refine y_iand (pc := 15) F dX11_bits_15 ?_
      refine y_iadd (pc := 16) F dX11_bits_16 ?_
      refine y_lti (fun x3 => ?_)
      refine y_istore_n (lv' := [some (.int a0), some (.int x3), some (.int x2)]) (pc := 17) F dX11_bits_17 (Nat.le_of_ble_eq_true rfl) rfl rfl ?_
      refine y_iinc (v := 1) (lf := fun (x4 : Int32) => [some (.int a0), some (.int x3), some (.int x4)]) (pc := 18) F dX11_bits_18 rfl rfl rfl (fun _ => rfl) (fun x4 => ?_)
      refine y_goto (tgt := 4) (pc := 21) F dX11_bits_21 rfl ?_
      exact ih x3 x4
set_option maxHeartbeats 4000000 in
set_option maxRecDepth 100000 in
theorem c_X11_bits {q : Nat → Nat} (a0 : Int32) : zCi l D tA yX11_bits cX11_bits 3 .int rmX11_bits [.int a0] [] (fun (r : Int32) => r) (fun (r : Int32) => []) (pX11_bits a0) := by
  refine zCi_of (lv0 := [some (.int a0), none, none]) (by decide +kernel) (Nat.le_of_ble_eq_true rfl) rfl (fun X out F hr => ?_)
  unfold pX11_bits
  refine y_iconst (v := 0) (pc := 0) F dX11_bits_0 rfl ?_
  refine y_istore_n (lv' := [some (.int a0), some (.int (0 : Int32)), none]) (pc := 1) F dX11_bits_1 (Nat.le_of_ble_eq_true rfl) rfl rfl ?_
  refine y_iconst (v := 0) (pc := 2) F dX11_bits_2 rfl ?_
  refine y_istore_n (lv' := [some (.int a0), some (.int (0 : Int32)), some (.int (0 : Int32))]) (pc := 3) F dX11_bits_3 (Nat.le_of_ble_eq_true rfl) rfl rfl ?_
  exact wlX11_bits_4 q a0 F hr zfu (0 : Int32) (0 : Int32)
abbrev rmX11_here : Room := { frames := 0, cells := 0, slots := 0, locals := 0 }
def lX11_here_0 (K38 : Ob → Option (Int32 × Ob)) : Nat → Ob → Option (Int32 × Ob)
  | 0, _ => none
  | f + 1, o2 =>
    if (gi o2 22) ≤ (gi o2 24) then (K38 o2)
    else (zgd (gi o2 24) 500 <| if (ga o2 21 ((gi o2 24).toNatClampNeg)) = (32 : Int32) then (zlet (si o2 24 ((gi o2 24) + (1 : Int32))) fun (o3 : Ob) =>
    lX11_here_0 K38 f o3)
    else (K38 o2))
def pX11_here (o : Ob) : Option (Int32 × Ob) :=
  zjn (fun (o1 : Ob) =>
  if (gi o1 22) ≤ (gi o1 24) then (some ((-1 : Int32), o1))
  else (zgd (gi o1 24) 500 <| some ((ga o1 21 ((gi o1 24).toNatClampNeg)), o1))) fun (K38 : Ob → Option (Int32 × Ob)) =>
  lX11_here_0 K38 zfu o
set_option maxHeartbeats 4000000 in
set_option maxRecDepth 100000 in
theorem wlX11_here_0 {X : ZX} {out : (Int32 × Ob)} (q : Nat → Nat) (F : zF l D tA RX11 cX11_here 1 rmX11_here X) (hr : zRi X D cX11_here .int (fun (r : Int32 × Ob) => (r.1)) (fun (r : Int32 × Ob) => (WM tA q (r.2))) out) {K38 : Ob → Option (Int32 × Ob)} (hK38 : ∀ (o1 : Ob), zY X D out (K38 o1) (WM tA q o1) 38 [some (.ref (q 0))] []) : ∀ (f : Nat) (o2 : Ob), zY X D out (lX11_here_0 K38 f o2) (WM tA q o2) 0 [some (.ref (q 0))] [] := by
  intro f
  induction f with
  | zero =>
    intro o2
    exact y_none
  | succ f ih =>
    intro o2
    rw [lX11_here_0.eq_2]
    refine y_aload_n (pc := 0) F dX11_here_0 rfl ?_
    refine y_get (pc := 1) F dX11_here_1 kF_X11_143 0 rfl rfl ?_
    refine y_aload_n (pc := 4) F dX11_here_4 rfl ?_
    refine y_get (pc := 5) F dX11_here_5 kF_X11_137 0 rfl rfl ?_
    refine y_icmp_ge (pc := 8) (tgt := 38) F dX11_here_8 rfl ?_ ?_
    · exact hK38 o2
    · refine y_aload_n (pc := 11) F dX11_here_11 rfl ?_
      refine y_get (pc := 12) F dX11_here_12 kF_X11_56 0 rfl rfl ?_
      refine y_aload_n (pc := 15) F dX11_here_15 rfl ?_
      refine y_get (pc := 16) F dX11_here_16 kF_X11_143 0 rfl rfl ?_
      refine y_iald (pc := 19) F dX11_here_19 16 rfl ?_
      refine y_bipush (v := 32) (pc := 20) F dX11_here_20 rfl ?_
      refine y_icmp_ne (pc := 22) (tgt := 38) F dX11_here_22 rfl ?_ ?_
      · refine y_aload_n (pc := 25) F dX11_here_25 rfl ?_
        refine y_dup (pc := 26) F dX11_here_26 rfl ?_
        refine y_get (pc := 27) F dX11_here_27 kF_X11_143 0 rfl rfl ?_
        refine y_iconst (v := 1) (pc := 30) F dX11_here_30 rfl ?_
        refine y_iadd (pc := 31) F dX11_here_31 ?_
        refine y_put (pc := 32) F dX11_here_32 kF_X11_143 0 rfl rfl rfl rfl (Nat.le_of_ble_eq_true rfl) (fun (o3 : Ob) => (WM tA q o3)) rfl (fun o3 => ?_)
        refine y_goto (tgt := 0) (pc := 35) F dX11_here_35 rfl ?_
        exact ih o3
      · exact hK38 o2
set_option maxHeartbeats 4000000 in
set_option maxRecDepth 100000 in
theorem c_X11_here {q : Nat → Nat} (o : Ob) : zCi l D tA yX11_here cX11_here 1 .int rmX11_here [.ref (q 0)] (WM tA q o) (fun (r : Int32 × Ob) => (r.1)) (fun (r : Int32 × Ob) => (WM tA q (r.2))) (pX11_here o) := by
  refine zCi_of (lv0 := [some (.ref (q 0))]) (by decide +kernel) (Nat.le_of_ble_eq_true rfl) rfl (fun X out F hr => ?_)
  unfold pX11_here
  refine y_jn (fun (K38 : Ob → Option (Int32 × Ob)) => ∀ (o1 : Ob), zY X D out (K38 o1) (WM tA q o1) 38 [some (.ref (q 0))] []) ?_ ?_
  · intro o1
    refine y_aload_n (pc := 38) F dX11_here_38 rfl ?_
    refine y_get (pc := 39) F dX11_here_39 kF_X11_143 0 rfl rfl ?_
    refine y_aload_n (pc := 42) F dX11_here_42 rfl ?_
    refine y_get (pc := 43) F dX11_here_43 kF_X11_137 0 rfl rfl ?_
    refine y_icmp_ge (pc := 46) (tgt := 61) F dX11_here_46 rfl ?_ ?_
    · refine y_iconst (v := -1) (pc := 61) F dX11_here_61 rfl ?_
      exact y_iret hr dX11_here_62 rfl rfl
    · refine y_aload_n (pc := 49) F dX11_here_49 rfl ?_
      refine y_get (pc := 50) F dX11_here_50 kF_X11_56 0 rfl rfl ?_
      refine y_aload_n (pc := 53) F dX11_here_53 rfl ?_
      refine y_get (pc := 54) F dX11_here_54 kF_X11_143 0 rfl rfl ?_
      refine y_iald (pc := 57) F dX11_here_57 16 rfl ?_
      refine y_goto (tgt := 62) (pc := 58) F dX11_here_58 rfl ?_
      exact y_iret hr dX11_here_62 rfl rfl
  intro K38 hK38
  exact wlX11_here_0 q F hr hK38 zfu o
abbrev rmX11_lawOf : Room := { frames := 0, cells := 0, slots := 0, locals := 0 }
def lX11_lawOf_24 (o : Ob) (a1 : Int32) (a2 : Int32) : Nat → Int32 → Int32 → Option Int32
  | 0, _, _ => none
  | f + 1, x2, x3 =>
    if (gi o 8) ≤ x3 then (some x2)
    else (zgd ((4 : Int32) * x3) 24 <| zjn (fun (x4 : Int32) =>
    zlet (x3 + (1 : Int32)) fun (x5 : Int32) =>
    lX11_lawOf_24 o a1 a2 f x4 x5) fun (K61 : Int32 → Option Int32) =>
    if a1 < (ga o 9 (((4 : Int32) * x3).toNatClampNeg)) then (K61 x2)
    else (zgd (((4 : Int32) * x3) + a2) 24 <| K61 ((ga o 9 ((((4 : Int32) * x3) + a2).toNatClampNeg)))))
def pX11_lawOf (o : Ob) (a1 : Int32) (a2 : Int32) : Option Int32 :=
  zjn (fun (x1 : Int32) =>
  lX11_lawOf_24 o a1 a2 zfu x1 (0 : Int32)) fun (K20 : Int32 → Option Int32) =>
  if a2 = (1 : Int32) then (K20 (1 : Int32))
  else (if a2 = (2 : Int32) then (K20 (28 : Int32))
  else (K20 (2 : Int32)))
set_option maxHeartbeats 4000000 in
set_option maxRecDepth 100000 in
theorem wlX11_lawOf_24 {X : ZX} {out : Int32} (q : Nat → Nat) (o : Ob) (a1 : Int32) (a2 : Int32) (F : zF l D tA RX11 cX11_lawOf 5 rmX11_lawOf X) (hr : zRi X D cX11_lawOf .int (fun (r : Int32) => r) (fun (r : Int32) => (WM tA q o)) out) : ∀ (f : Nat) (x2 : Int32) (x3 : Int32), zY X D out (lX11_lawOf_24 o a1 a2 f x2 x3) (WM tA q o) 24 [some (.ref (q 0)), some (.int a1), some (.int a2), some (.int x2), some (.int x3)] [] := by
  intro f
  induction f with
  | zero =>
    intro x2 x3
    exact y_none
  | succ f ih =>
    intro x2 x3
    rw [lX11_lawOf_24.eq_2]
    refine y_iload (pc := 24) F dX11_lawOf_24 rfl ?_
    refine y_aload_n (pc := 26) F dX11_lawOf_26 rfl ?_
    refine y_get (pc := 27) F dX11_lawOf_27 kF_X11_236 0 rfl rfl ?_
    refine y_icmp_ge (pc := 30) (tgt := 68) F dX11_lawOf_30 rfl ?_ ?_
    · refine y_iload_n (pc := 68) F dX11_lawOf_68 rfl ?_
      exact y_iret hr dX11_lawOf_69 rfl rfl
    · refine y_aload_n (pc := 33) F dX11_lawOf_33 rfl ?_
      refine y_get (pc := 34) F dX11_lawOf_34 kF_X11_28 0 rfl rfl ?_
      refine y_iconst (v := 4) (pc := 37) F dX11_lawOf_37 rfl ?_
      refine y_iload (pc := 38) F dX11_lawOf_38 rfl ?_
      refine y_imul (pc := 40) F dX11_lawOf_40 ?_
      refine y_iald (pc := 41) F dX11_lawOf_41 7 rfl ?_
      refine y_iload_n (pc := 42) F dX11_lawOf_42 rfl ?_
      refine y_jn (fun (K61 : Int32 → Option Int32) => ∀ (x4 : Int32), zY X D out (K61 x4) (WM tA q o) 61 [some (.ref (q 0)), some (.int a1), some (.int a2), none, some (.int x3)] [.int x4]) ?_ ?_
      · intro x4
        refine y_istore_n (lv' := [some (.ref (q 0)), some (.int a1), some (.int a2), some (.int x4), some (.int x3)]) (pc := 61) F dX11_lawOf_61 (Nat.le_of_ble_eq_true rfl) rfl rfl ?_
        refine y_iinc (v := 1) (lf := fun (x5 : Int32) => [some (.ref (q 0)), some (.int a1), some (.int a2), some (.int x4), some (.int x5)]) (pc := 62) F dX11_lawOf_62 rfl rfl rfl (fun _ => rfl) (fun x5 => ?_)
        refine y_goto (tgt := 24) (pc := 65) F dX11_lawOf_65 rfl ?_
        exact ih x4 x5
      intro K61 hK61
      refine y_icmp_gt (pc := 43) (tgt := 60) F dX11_lawOf_43 rfl ?_ ?_
      · refine y_iload_n (pc := 60) F dX11_lawOf_60 rfl ?_
        refine y_le (lv' := [some (.ref (q 0)), some (.int a1), some (.int a2), none, some (.int x3)]) ⟨rfl, ⟨rfl, ⟨rfl, ⟨rfl, trivial⟩⟩⟩⟩ ?_
        exact hK61 x2
      · refine y_aload_n (pc := 46) F dX11_lawOf_46 rfl ?_
        refine y_get (pc := 47) F dX11_lawOf_47 kF_X11_28 0 rfl rfl ?_
        refine y_iconst (v := 4) (pc := 50) F dX11_lawOf_50 rfl ?_
        refine y_iload (pc := 51) F dX11_lawOf_51 rfl ?_
        refine y_imul (pc := 53) F dX11_lawOf_53 ?_
        refine y_iload_n (pc := 54) F dX11_lawOf_54 rfl ?_
        refine y_iadd (pc := 55) F dX11_lawOf_55 ?_
        refine y_iald (pc := 56) F dX11_lawOf_56 7 rfl ?_
        refine y_goto (tgt := 61) (pc := 57) F dX11_lawOf_57 rfl ?_
        refine y_le (lv' := [some (.ref (q 0)), some (.int a1), some (.int a2), none, some (.int x3)]) ⟨rfl, ⟨rfl, ⟨rfl, ⟨rfl, trivial⟩⟩⟩⟩ ?_
        exact hK61 ((ga o 9 ((((4 : Int32) * x3) + a2).toNatClampNeg)))
set_option maxHeartbeats 4000000 in
set_option maxRecDepth 100000 in
theorem c_X11_lawOf {q : Nat → Nat} (o : Ob) (a1 : Int32) (a2 : Int32) : zCi l D tA yX11_lawOf cX11_lawOf 5 .int rmX11_lawOf [.ref (q 0), .int a1, .int a2] (WM tA q o) (fun (r : Int32) => r) (fun (r : Int32) => (WM tA q o)) (pX11_lawOf o a1 a2) := by
  refine zCi_of (lv0 := [some (.ref (q 0)), some (.int a1), some (.int a2), none, none]) (by decide +kernel) (Nat.le_of_ble_eq_true rfl) rfl (fun X out F hr => ?_)
  unfold pX11_lawOf
  refine y_iload_n (pc := 0) F dX11_lawOf_0 rfl ?_
  refine y_iconst (v := 1) (pc := 1) F dX11_lawOf_1 rfl ?_
  refine y_jn (fun (K20 : Int32 → Option Int32) => ∀ (x1 : Int32), zY X D out (K20 x1) (WM tA q o) 20 [some (.ref (q 0)), some (.int a1), some (.int a2), none, none] [.int x1]) ?_ ?_
  · intro x1
    refine y_istore_n (lv' := [some (.ref (q 0)), some (.int a1), some (.int a2), some (.int x1), none]) (pc := 20) F dX11_lawOf_20 (Nat.le_of_ble_eq_true rfl) rfl rfl ?_
    refine y_iconst (v := 0) (pc := 21) F dX11_lawOf_21 rfl ?_
    refine y_istore (lv' := [some (.ref (q 0)), some (.int a1), some (.int a2), some (.int x1), some (.int (0 : Int32))]) (pc := 22) F dX11_lawOf_22 (Nat.le_of_ble_eq_true rfl) rfl rfl ?_
    exact wlX11_lawOf_24 q o a1 a2 F hr zfu x1 (0 : Int32)
  intro K20 hK20
  refine y_icmp_ne (pc := 2) (tgt := 9) F dX11_lawOf_2 rfl ?_ ?_
  · refine y_iconst (v := 1) (pc := 5) F dX11_lawOf_5 rfl ?_
    refine y_goto (tgt := 20) (pc := 6) F dX11_lawOf_6 rfl ?_
    exact hK20 (1 : Int32)
  · refine y_iload_n (pc := 9) F dX11_lawOf_9 rfl ?_
    refine y_iconst (v := 2) (pc := 10) F dX11_lawOf_10 rfl ?_
    refine y_icmp_ne (pc := 11) (tgt := 19) F dX11_lawOf_11 rfl ?_ ?_
    · refine y_bipush (v := 28) (pc := 14) F dX11_lawOf_14 rfl ?_
      refine y_goto (tgt := 20) (pc := 16) F dX11_lawOf_16 rfl ?_
      exact hK20 (28 : Int32)
    · refine y_iconst (v := 2) (pc := 19) F dX11_lawOf_19 rfl ?_
      exact hK20 (2 : Int32)
abbrev rmX11_isEnough : Room := { frames := 0, cells := 0, slots := 0, locals := 0 }
def pX11_isEnough (o : Ob) (a1 : Int32) : Option Int32 :=
  zgd a1 6 <| zgd a1 6 <| if (ga o 17 (a1.toNatClampNeg)) < ((3 : Int32) * (ga o 1 (a1.toNatClampNeg))) then (zgz (0 : Int32) (some (0 : Int32)))
  else (zgz (1 : Int32) (some (1 : Int32)))
set_option maxHeartbeats 4000000 in
set_option maxRecDepth 100000 in
theorem c_X11_isEnough {q : Nat → Nat} (o : Ob) (a1 : Int32) : zCi l D tA yX11_isEnough cX11_isEnough 2 .boolean rmX11_isEnough [.ref (q 0), .int a1] (WM tA q o) (fun (r : Int32) => r) (fun (r : Int32) => (WM tA q o)) (pX11_isEnough o a1) := by
  refine zCi_of (lv0 := [some (.ref (q 0)), some (.int a1)]) (by decide +kernel) (Nat.le_of_ble_eq_true rfl) rfl (fun X out F hr => ?_)
  unfold pX11_isEnough
  refine y_aload_n (pc := 0) F dX11_isEnough_0 rfl ?_
  refine y_get (pc := 1) F dX11_isEnough_1 kF_X11_47 0 rfl rfl ?_
  refine y_iload_n (pc := 4) F dX11_isEnough_4 rfl ?_
  refine y_iald (pc := 5) F dX11_isEnough_5 13 rfl ?_
  refine y_iconst (v := 3) (pc := 6) F dX11_isEnough_6 rfl ?_
  refine y_aload_n (pc := 7) F dX11_isEnough_7 rfl ?_
  refine y_get (pc := 8) F dX11_isEnough_8 kF_X11_7 0 rfl rfl ?_
  refine y_iload_n (pc := 11) F dX11_isEnough_11 rfl ?_
  refine y_iald (pc := 12) F dX11_isEnough_12 1 rfl ?_
  refine y_imul (pc := 13) F dX11_isEnough_13 ?_
  refine y_icmp_lt (pc := 14) (tgt := 21) F dX11_isEnough_14 rfl ?_ ?_
  · refine y_iconst (v := 0) (pc := 21) F dX11_isEnough_21 rfl ?_
    exact y_zret hr dX11_isEnough_22 rfl rfl
  · refine y_iconst (v := 1) (pc := 17) F dX11_isEnough_17 rfl ?_
    refine y_goto (tgt := 22) (pc := 18) F dX11_isEnough_18 rfl ?_
    exact y_zret hr dX11_isEnough_22 rfl rfl
abbrev rmX11_lookAt : Room := { frames := 1, cells := 0, slots := 0, locals := 21 }
def pX11_lookAt (o : Ob) (a1 : Int32) : Option Ob :=
  zgd a1 6 <| if (ga o 15 (a1.toNatClampNeg)) = 0 then (Option.bind (pX11_isEnough o a1) fun (r1 : Int32) =>
  if r1 = 0 then (some o)
  else (zgd a1 6 <| zjn (zgd a1 6 <| zlet (sa o 15 (upd (ga o 15) (a1.toNatClampNeg) (1 : Int32))) fun (o2 : Ob) =>
  zgd a1 6 <| zlet (sa o2 16 (upd (ga o2 16) (a1.toNatClampNeg) (gi o2 13))) fun (o3 : Ob) =>
  some o3) fun (K41 : Option Ob) =>
  if (ga o 3 (a1.toNatClampNeg)) < 0 then (K41)
  else (zgd a1 6 <| zgd (ga o 3 (a1.toNatClampNeg)) 6 <| if (ga o 15 ((ga o 3 (a1.toNatClampNeg)).toNatClampNeg)) = (1 : Int32) then (K41)
  else (some o))))
  else (some o)
set_option maxHeartbeats 4000000 in
set_option maxRecDepth 100000 in
theorem c_X11_lookAt {q : Nat → Nat} (o : Ob) (a1 : Int32) : zCv l D tA yX11_lookAt cX11_lookAt 2 rmX11_lookAt [.ref (q 0), .int a1] (WM tA q o) (fun (r : Ob) => (WM tA q r)) (pX11_lookAt o a1) := by
  refine zCv_of (lv0 := [some (.ref (q 0)), some (.int a1)]) (by decide +kernel) (Nat.le_of_ble_eq_true rfl) rfl (fun X out F hr => ?_)
  unfold pX11_lookAt
  refine y_aload_n (pc := 0) F dX11_lookAt_0 rfl ?_
  refine y_get (pc := 1) F dX11_lookAt_1 kF_X11_41 0 rfl rfl ?_
  refine y_iload_n (pc := 4) F dX11_lookAt_4 rfl ?_
  refine y_iald (pc := 5) F dX11_lookAt_5 11 rfl ?_
  refine y_if_ne (pc := 6) (tgt := 58) F dX11_lookAt_6 rfl ?_ ?_
  · refine y_aload_n (pc := 9) F dX11_lookAt_9 rfl ?_
    refine y_iload_n (pc := 10) F dX11_lookAt_10 rfl ?_
    refine y_calliW (As := [.int a1]) (st := []) (q0 := 0) (pc := 11) F (c_X11_isEnough (q := q) o a1) dX11_lookAt_11 kM_X11_268 ⟨rfl, rfl⟩ ⟨Nat.le_of_ble_eq_true rfl, Nat.le_of_ble_eq_true rfl⟩ rfl rfl rfl (Nat.le_of_ble_eq_true rfl) rfl rfl rfl (fun r1 => ?_)
    refine y_if_eq (pc := 14) (tgt := 58) F dX11_lookAt_14 rfl ?_ ?_
    · exact y_vret hr dX11_lookAt_58 rfl
    · refine y_aload_n (pc := 17) F dX11_lookAt_17 rfl ?_
      refine y_get (pc := 18) F dX11_lookAt_18 kF_X11_16 0 rfl rfl ?_
      refine y_iload_n (pc := 21) F dX11_lookAt_21 rfl ?_
      refine y_iald (pc := 22) F dX11_lookAt_22 3 rfl ?_
      refine y_jn (fun (K41 : Option Ob) => zY X D out (K41) (WM tA q o) 41 [some (.ref (q 0)), some (.int a1)] []) ?_ ?_
      · skip
        refine y_aload_n (pc := 41) F dX11_lookAt_41 rfl ?_
        refine y_get (pc := 42) F dX11_lookAt_42 kF_X11_41 0 rfl rfl ?_
        refine y_iload_n (pc := 45) F dX11_lookAt_45 rfl ?_
        refine y_iconst (v := 1) (pc := 46) F dX11_lookAt_46 rfl ?_
        refine y_iast (pc := 47) F dX11_lookAt_47 11 rfl (fun (o2 : Ob) => (WM tA q o2)) rfl (fun o2 => ?_)
        refine y_aload_n (pc := 48) F dX11_lookAt_48 rfl ?_
        refine y_get (pc := 49) F dX11_lookAt_49 kF_X11_44 0 rfl rfl ?_
        refine y_iload_n (pc := 52) F dX11_lookAt_52 rfl ?_
        refine y_aload_n (pc := 53) F dX11_lookAt_53 rfl ?_
        refine y_get (pc := 54) F dX11_lookAt_54 kF_X11_223 0 rfl rfl ?_
        refine y_iast (pc := 57) F dX11_lookAt_57 12 rfl (fun (o3 : Ob) => (WM tA q o3)) rfl (fun o3 => ?_)
        exact y_vret hr dX11_lookAt_58 rfl
      intro K41 hK41
      refine y_if_lt (pc := 23) (tgt := 41) F dX11_lookAt_23 rfl ?_ ?_
      · exact hK41
      · refine y_aload_n (pc := 26) F dX11_lookAt_26 rfl ?_
        refine y_get (pc := 27) F dX11_lookAt_27 kF_X11_41 0 rfl rfl ?_
        refine y_aload_n (pc := 30) F dX11_lookAt_30 rfl ?_
        refine y_get (pc := 31) F dX11_lookAt_31 kF_X11_16 0 rfl rfl ?_
        refine y_iload_n (pc := 34) F dX11_lookAt_34 rfl ?_
        refine y_iald (pc := 35) F dX11_lookAt_35 3 rfl ?_
        refine y_iald (pc := 36) F dX11_lookAt_36 11 rfl ?_
        refine y_iconst (v := 1) (pc := 37) F dX11_lookAt_37 rfl ?_
        refine y_icmp_ne (pc := 38) (tgt := 58) F dX11_lookAt_38 rfl ?_ ?_
        · exact hK41
        · exact y_vret hr dX11_lookAt_58 rfl
  · exact y_vret hr dX11_lookAt_58 rfl
end ZM
