section LAW1
variable {l : Launch} {D : va_G} {tA : Nat → ClassId} {own : String} {cc : ByteArray} {nL : Nat} {rm : Room} {X : ZX} {ws ws' : va_W} {pc cs sl : Nat} {lv lv' : List (Option Value)} {st : List Value} {cA : ClassId} {n : Nat} {a : Addr}
theorem i_astore_n (F : zI l D tA own cc nL rm X) {i : Fin 4} {x : Nat} (d : decode cc pc = .ok (.astore_n i, 1)) (hi : (i : Nat) < lv.length) (hc : zc2 lv (i : Nat) = true) (hl' : lv.set (i : Nat) (some (.ref x)) = lv') (k : zZ X D cs sl ws (pc + 1) lv' st) : zZ X D cs sl ws pc lv (.ref x :: st) :=
  fun H locs ls hP hD hS hl => lv_astore_n F.1.1 F.1.2.1 d rfl hl.has hi rfl (fun ls' h' => k H locs ls' hP hD hS (hl' ▸ zh_st1 h' hc))
theorem i_iadd (F : zI l D tA own cc nL rm X) {x y : Int32} (d : decode cc pc = .ok (.iadd, 1)) (k : zZ X D cs sl ws (pc + 1) lv (.int (x + y) :: st)) : zZ X D cs sl ws pc lv (.int y :: .int x :: st) :=
  fun H locs ls hP hD hS hl => lv_iadd F.1.1 F.1.2.1 d (k H locs ls hP hD hS hl)
theorem i_isub (F : zI l D tA own cc nL rm X) {x y : Int32} (d : decode cc pc = .ok (.isub, 1)) (k : zZ X D cs sl ws (pc + 1) lv (.int (x - y) :: st)) : zZ X D cs sl ws pc lv (.int y :: .int x :: st) :=
  fun H locs ls hP hD hS hl => lv_isub F.1.1 F.1.2.1 d (k H locs ls hP hD hS hl)
theorem i_iand (F : zI l D tA own cc nL rm X) {x y : Int32} (d : decode cc pc = .ok (.iand, 1)) (k : zZ X D cs sl ws (pc + 1) lv (.int (x &&& y) :: st)) : zZ X D cs sl ws pc lv (.int y :: .int x :: st) :=
  fun H locs ls hP hD hS hl => lv_iand F.1.1 F.1.2.1 d (k H locs ls hP hD hS hl)
theorem i_i2l (F : zI l D tA own cc nL rm X) {x : Int32} (d : decode cc pc = .ok (.i2l, 1)) (k : zZ X D cs sl ws (pc + 1) lv (.long (x.toInt64) :: st)) : zZ X D cs sl ws pc lv (.int x :: st) :=
  fun H locs ls hP hD hS hl => lv_i2l F.1.1 F.1.2.1 d rfl (k H locs ls hP hD hS hl)
theorem i_lshl (F : zI l D tA own cc nL rm X) {x : Int64} {y : Int32} (d : decode cc pc = .ok (.lshl, 1)) (k : zZ X D cs sl ws (pc + 1) lv (.long (x <<< (y.toInt64 &&& 63)) :: st)) : zZ X D cs sl ws pc lv (.int y :: .long x :: st) :=
  fun H locs ls hP hD hS hl => lv_lshl F.1.1 F.1.2.1 d rfl (k H locs ls hP hD hS hl)
theorem i_land (F : zI l D tA own cc nL rm X) {x y : Int64} (d : decode cc pc = .ok (.land, 1)) (k : zZ X D cs sl ws (pc + 1) lv (.long (x &&& y) :: st)) : zZ X D cs sl ws pc lv (.long y :: .long x :: st) :=
  fun H locs ls hP hD hS hl => lv_land F.1.1 F.1.2.1 d (k H locs ls hP hD hS hl)
theorem i_lor (F : zI l D tA own cc nL rm X) {x y : Int64} (d : decode cc pc = .ok (.lor, 1)) (k : zZ X D cs sl ws (pc + 1) lv (.long (x ||| y) :: st)) : zZ X D cs sl ws pc lv (.long y :: .long x :: st) :=
  fun H locs ls hP hD hS hl => lv_lor F.1.1 F.1.2.1 d (k H locs ls hP hD hS hl)
theorem i_ldc2 (F : zI l D tA own cc nL rm X) {ix : Nat} {v : Int64} (d : decode cc pc = .ok (.ldc2_w ix, 3)) (w : Cond.constantLong own ix v ∈ zT) (k : zZ X D cs sl ws (pc + 3) lv (.long v :: st)) : zZ X D cs sl ws pc lv st :=
  fun H locs ls hP hD hS hl => lv_ldc2 F.1.1 F.1.2.1 F.1.2.2.1 (F.1.2.2.2.1 _ w) d (k H locs ls hP hD hS hl)
theorem i_if_eqT (F : zI l D tA own cc nL rm X) {x : Int32} {off : Int} {tgt : Nat} (d : decode cc pc = .ok (.ifCond .eq off, 3)) (ht : (pc : Int) + off = (tgt : Int)) (h : x = 0) (k : zZ X D cs sl ws tgt lv st) : zZ X D cs sl ws pc lv (.int x :: st) :=
  fun H locs ls hP hD hS hl => lv_if_eq F.1.1 F.1.2.1 d ht (fun _ => k H locs ls hP hD hS hl) (fun e => absurd h e)
theorem i_if_eqF (F : zI l D tA own cc nL rm X) {x : Int32} {off : Int} {tgt : Nat} (d : decode cc pc = .ok (.ifCond .eq off, 3)) (ht : (pc : Int) + off = (tgt : Int)) (h : ¬ x = 0) (k : zZ X D cs sl ws (pc + 3) lv st) : zZ X D cs sl ws pc lv (.int x :: st) :=
  fun H locs ls hP hD hS hl => lv_if_eq F.1.1 F.1.2.1 d ht (fun e => absurd e h) (fun _ => k H locs ls hP hD hS hl)
theorem i_icmp_eqT (F : zI l D tA own cc nL rm X) {x y : Int32} {off : Int} {tgt : Nat} (h : x = y) (d : decode cc pc = .ok (.if_icmp .eq off, 3)) (ht : (pc : Int) + off = (tgt : Int)) (k : zZ X D cs sl ws tgt lv st) : zZ X D cs sl ws pc lv (.int y :: .int x :: st) :=
  fun H locs ls hP hD hS hl => lv_icmp_eq F.1.1 F.1.2.1 d ht (fun _ => k H locs ls hP hD hS hl) (fun e => absurd h e)
theorem i_icmp_gt (F : zI l D tA own cc nL rm X) {x y : Int32} {off : Int} {tgt : Nat} (d : decode cc pc = .ok (.if_icmp .gt off, 3)) (ht : (pc : Int) + off = (tgt : Int)) (kt : y < x → zZ X D cs sl ws tgt lv st) (kf : ¬ y < x → zZ X D cs sl ws (pc + 3) lv st) : zZ X D cs sl ws pc lv (.int y :: .int x :: st) :=
  fun H locs ls hP hD hS hl => lv_icmp_gt F.1.1 F.1.2.1 d ht (fun e => kt e H locs ls hP hD hS hl) (fun e => kf e H locs ls hP hD hS hl)
/-- the script's row -/
def zSc (X : ZX) (b L : Nat) (xs : Nat → Int32) : Prop := va_X b L xs (zs X) (zH X) ∧ b < (zH X).size ∧ ¬ zA X b
theorem i_sld (F : zI l D tA own cc nL rm X) {b L : Nat} {xs : Nat → Int32} (hs : zSc X b L xs) {i : Int32} (hin : vp_in i L) (d : decode cc pc = .ok (.iaload, 1)) (k : zZ X D cs sl ws (pc + 1) lv (.int (xs i.toNatClampNeg) :: st)) : zZ X D cs sl ws pc lv (.int i :: .ref b :: st) :=
  fun H locs ls hP hD hS hl => va_sld F.1.1 F.1.2.1 hs.1 hs.2.1 hs.2.2 hS hin d (k H locs ls hP hD hS hl)
theorem i_slen (F : zI l D tA own cc nL rm X) {b L : Nat} {xs : Nat → Int32} (hs : zSc X b L xs) (d : decode cc pc = .ok (.arraylength, 1)) (k : zZ X D cs sl ws (pc + 1) lv (.int (Int32.ofNat L) :: st)) : zZ X D cs sl ws pc lv (.ref b :: st) :=
  fun H locs ls hP hD hS hl => va_slen F.1.1 F.1.2.1 hs.1 hs.2.1 hs.2.2 hS d (k H locs ls hP hD hS hl)
theorem i_ts (F : zI l D tA own cc nL rm X) {x : Int32} {dflt hi : Int} {offs : Array Int} {len tgt : Nat} (d : decode cc pc = .ok (.tableswitch dflt 0 hi offs, len)) (hin : ∀ j : Nat, (j : Int) ≤ hi → ∃ t : Nat, offs[j]? = some ((t : Int) - (pc : Int)) ∧ zZ X D cs sl ws t lv st) (ht : (pc : Int) + dflt = (tgt : Int)) (k : zZ X D cs sl ws tgt lv st) : zZ X D cs sl ws pc lv (.int x :: st) := by
  intro H locs ls hP hD hS hl
  by_cases h1 : x.toInt < 0
  · exact lv_tableOut F.1.1 F.1.2.1 d (Or.inl h1) ht (k H locs ls hP hD hS hl)
  · by_cases h2 : hi < x.toInt
    · exact lv_tableOut F.1.1 F.1.2.1 d (Or.inr h2) ht (k H locs ls hP hD hS hl)
    · obtain ⟨t, e, kk⟩ := hin x.toInt.toNat (by omega)
      exact lv_tableIn (tgt := t) F.1.1 F.1.2.1 d h1 h2 (by rw [Int.sub_zero]; exact e) (by omega) (kk H locs ls hP hD hS hl)
theorem i_calliS (F : zI l D tA own cc nL rm X) {β : Type} {ix nY np ci q0 : Nat} {y : MethodName} {bY : ByteArray} {ty : FieldType} {rmY : Room} {wr wc : va_W} {rr : β → Int32} {w1 : β → va_W} {oc : Option β} {r : β} {b : Addr} {As : List Value} {fs : List Value} {q : vw_C} (hcon : zCi l D tA y bY nY ty rmY (.ref b :: As) wc rr w1 oc) (hoc : oc = some r) (d : decode cc pc = .ok (.invokevirtual ix, 3)) (cw : zMv own ix y bY nY (some ty) np)
    (h0 : rmY.cells = 0 ∧ rmY.slots = 0) (hR : rmY.frames + 1 ≤ rm.frames ∧ 8 + (nY + 11) + rmY.locals ≤ rm.locals) (hlen : As.length = np) (hnL : lv.length = nL) {stk : List Value} (hst : stk = As.reverse ++ .ref b :: st) (hcat : (st.map fun v => v.category).sum ≤ 8) (hRc : cs ≤ rm.cells ∧ sl ≤ rm.slots)
    (hq : classes[ci]? = some q) (hqc : q.1 = y.cls) (he : wc[q0]? = some (b, .inr (ci, fs)))
    (kk : zZ X D cs sl (wr ++ w1 r) (pc + 3) lv (.int (rr r) :: st)) : zZ X D cs sl (wr ++ wc) pc lv stk := by
  intro H locs ls hP hD hS hl
  subst hst
  have ez : zl X = l := F.1.2.2.2.2.2.2.2.1
  subst ez
  have hF := zfreeI F hD hS
  have hPc := zapp_r hP
  have hDc := zappD hD
  refine va_calli (va_runV (As := As) (rest := st) (g := F0 (zm X) pc ls (As.reverse ++ .ref b :: st)) (Ts := zT) (C := y.cls) ⟨F.1.1, F.1.2.1, rfl, F.1.2.2.1, F.1.2.2.2.1⟩ (hcon r hoc H.size) ⟨zcallB F.1 cw.1 cw.2.2.2.1 cw.2.2.2.2.1 cw.2.2.2.2.2.1 cw.2.2.2.2.2.2 h0 hR, F.1.2.2.2.1 _ cw.2.1, F.1.2.2.2.1 _ cw.2.2.1⟩ ⟨zblind, hqc ▸ va_recv F.1.2.2.2.2.1 hPc hq he, fun U hU hW => ⟨rfl, by rw [hU], by rw [hU]; exact hPc, va_K.moved hW.alike F.1.2.2.2.2.1, hDc.weaken (fun _ _ _ _ => trivial), by rw [hU]; exact F.1.2.2.2.2.2.2.2.2.2.2.1.to hS hF hW⟩⟩ rfl hlen (hl.1.trans (hnL.trans F.1.2.2.2.2.2.2.1.symm)) rfl (lv_room hcat) d ⟨by rw [F.2.2.1]; exact hRc.1, by rw [F.2.2.2.1]; exact hRc.2⟩) hS (fun q _ h => hF q h) hF (fun r1 u t H1 locs1 ht hvm hw hB hz1 hk1 hS1 => ?_)
  obtain ⟨hP1, hD1⟩ := hB
  rw [ht] at hP1
  obtain ⟨hPj, hDj⟩ := zjoin2 hP hD hk1 hF hP1 hD1
  rw [hw]
  exact kk H1 locs1 ls hPj hDj hS1 hl
theorem i_calliP (F : zI l D tA own cc nL rm X) {β : Type} {ix nY np ci q0 : Nat} {y : MethodName} {bY : ByteArray} {ty : FieldType} {rmY : Room} {wr wc : va_W} {rr : β → Int32} {w1 : β → va_W} {oc : Option β} {r : β} {b : Addr} {As : List Value} {fs : List Value} {q : vw_C} (hcon : zCi l D tA y bY nY ty rmY (.ref b :: As) wc rr w1 oc) (hoc : oc = some r) (d : decode cc pc = .ok (.invokevirtual ix, 3)) (cw : zMv own ix y bY nY (some ty) np)
    (h0 : rmY.cells = 0 ∧ rmY.slots = 0) (hR : rmY.frames + 1 ≤ rm.frames ∧ 8 + (nY + 11) + rmY.locals ≤ rm.locals) (hlen : As.length = np) (hnL : lv.length = nL) {stk : List Value} (hst : stk = As.reverse ++ .ref b :: st) (hcat : (st.map fun v => v.category).sum ≤ 8) (hRc : cs ≤ rm.cells ∧ sl ≤ rm.slots)
    (hq : classes[ci]? = some q) (hqc : q.1 = y.cls) (he : wc[q0]? = some (b, .inr (ci, fs)))
    (kk : zZ X D cs sl (w1 r ++ wr) (pc + 3) lv (.int (rr r) :: st)) : zZ X D cs sl (wc ++ wr) pc lv stk :=
  i_prm List.perm_append_comm (i_calliS F hcon hoc d cw h0 hR hlen hnL hst hcat hRc hq hqc he (i_prm List.perm_append_comm kk))
theorem zswcourt_0 (k : Nat) (q : Nat → Nat) : zswcourt k q 0 = q 0 := by cases k <;> rfl
theorem zswlaws_0 (k : Nat) (q : Nat → Nat) : zswlaws k q 0 = q 0 := by cases k <;> rfl
/-- the class's cells, by their parts -/
abbrev Cst : Type := Ob × Ob × Ob × Ob × Ob × Ob × Ob × Ob × Ob × Ob × Ob × Ob × Ob × Ob
abbrev Cst.z (x : Cst) : Ob := x.1
abbrev Cst.d (x : Cst) : Ob := x.2.1
abbrev Cst.t (x : Cst) : Ob := x.2.2.1
abbrev Cst.c (x : Cst) : Ob := x.2.2.2.1
abbrev Cst.w (x : Cst) : Ob := x.2.2.2.2.1
abbrev Cst.s (x : Cst) : Ob := x.2.2.2.2.2.1
abbrev Cst.e (x : Cst) : Ob := x.2.2.2.2.2.2.1
abbrev Cst.f (x : Cst) : Ob := x.2.2.2.2.2.2.2.1
abbrev Cst.h (x : Cst) : Ob := x.2.2.2.2.2.2.2.2.1
abbrev Cst.b (x : Cst) : Ob := x.2.2.2.2.2.2.2.2.2.1
abbrev Cst.i (x : Cst) : Ob := x.2.2.2.2.2.2.2.2.2.2.1
abbrev Cst.j (x : Cst) : Ob := x.2.2.2.2.2.2.2.2.2.2.2.1
abbrev Cst.p (x : Cst) : Ob := x.2.2.2.2.2.2.2.2.2.2.2.2.1
abbrev Cst.q (x : Cst) : Ob := x.2.2.2.2.2.2.2.2.2.2.2.2.2
/-- what the law asks of the two readings, over a relation of their states -/
def LawOK (R : Cst → Ob → Prop) : Prop :=
  (∀ (x : Cst) (m : Ob) (a1 : Int32) (a2 : Int64), R x m → ∃ (r : Int32 × Ob) (u : Int32 × Ob), pX10_feed x.z x.d x.t x.c x.w x.s x.e x.f x.h x.b x.i x.j x.p x.q a1 a2 = some r ∧ pX11_feed m a1 a2 = some u ∧ r.1 = u.1 ∧ R (x.z, x.d, r.2, x.c, x.w, x.s, x.e, x.f, x.h, x.b, x.i, x.j, x.p, x.q) u.2) ∧
  (∀ (x : Cst) (m : Ob), R x m → ∃ (r : Int32 × Nat × Ob × Ob × Ob × Ob × Ob × Ob × Ob) (u : Int32 × Ob), pX10_court x.z x.d x.t x.c x.w x.s x.e x.f x.h x.b x.i x.j x.p x.q = some r ∧ pX11_court m = some u ∧ r.1 = u.1 ∧ R (r.2.2.1, r.2.2.2.1, r.2.2.2.2.1, r.2.2.2.2.2.1, x.w, r.2.2.2.2.2.2.1, x.e, x.f, x.h, r.2.2.2.2.2.2.2.1, x.i, x.j, r.2.2.2.2.2.2.2.2, x.q) u.2) ∧
  (∀ (x : Cst) (m : Ob), R x m → ∃ (r : Int32 × Nat × Ob × Ob × Ob × Ob × Ob) (u : Int32 × Ob), pX10_laws x.z x.d x.t x.c x.w x.s x.e x.f x.h x.b x.i x.j x.p x.q = some r ∧ pX11_laws m = some u ∧ r.1 = u.1 ∧ R (r.2.2.1, r.2.2.2.1, r.2.2.2.2.1, x.c, r.2.2.2.2.2.1, x.s, x.e, x.f, x.h, x.b, x.i, x.j, x.p, r.2.2.2.2.2.2) u.2) ∧
  (∀ (x : Cst) (m : Ob), R x m → ∃ (r : Int32) (u : Int32), pX10_fault x.z x.d x.t x.c x.w x.s x.e x.f x.h x.b x.i x.j x.p x.q = some r ∧ pX11_fault m = some u ∧ r = u ∧ R x m) ∧
  (∀ (x : Cst) (m : Ob) (a1 : Int32), R x m → ∃ (r : Int32) (u : Int32), pX10_told x.z x.d x.t x.c x.w x.s x.e x.f x.h x.b x.i x.j x.p x.q a1 = some r ∧ pX11_told m a1 = some u ∧ r = u ∧ R x m) ∧
  (∀ (x : Cst) (m : Ob) (a1 : Int32) (a2 : Int32), R x m → ∃ (r : Int32) (u : Int32), pX10_suit x.z x.d x.t x.c x.w x.s x.e x.f x.h x.b x.i x.j x.p x.q a1 a2 = some r ∧ pX11_suit m a1 a2 = some u ∧ r = u ∧ R x m) ∧
  (∀ (x : Cst) (m : Ob) (a1 : Int32) (a2 : Int32), R x m → ∃ (r : Int32) (u : Int32), pX10_witness x.z x.d x.t x.c x.w x.s x.e x.f x.h x.b x.i x.j x.p x.q a1 a2 = some r ∧ pX11_witness m a1 a2 = some u ∧ r = u ∧ R x m) ∧
  (∀ (x : Cst) (m : Ob) (a1 : Int32) (a2 : Int32), R x m → ∃ (r : Int32) (u : Int32), pX10_weight x.z x.d x.t x.c x.w x.s x.e x.f x.h x.b x.i x.j x.p x.q a1 a2 = some r ∧ pX11_weight m a1 a2 = some u ∧ r = u ∧ R x m) ∧
  (∀ (x : Cst) (m : Ob) (a1 : Int32), R x m → ∃ (r : Int32 × Ob) (u : Int32 × Ob), pX10_say x.z x.d x.t x.c x.w x.s x.e x.f x.h x.b x.i x.j x.p x.q a1 = some r ∧ pX11_say m a1 = some u ∧ r.1 = u.1 ∧ R (x.z, x.d, x.t, x.c, x.w, r.2, x.e, x.f, x.h, x.b, x.i, x.j, x.p, x.q) u.2) ∧
  (∀ (x : Cst) (m : Ob) (a1 : Int32) (a2 : Int32), R x m → (a2 = 0 ∨ a2 = 1) → ∃ (r : Int32 × Ob) (u : Int32 × Ob), pX10_strike x.z x.d x.t x.c x.w x.s x.e x.f x.h x.b x.i x.j x.p x.q a1 a2 = some r ∧ pX11_strike m a1 a2 = some u ∧ r.1 = u.1 ∧ R (x.z, x.d, x.t, x.c, x.w, r.2, x.e, x.f, x.h, x.b, x.i, x.j, x.p, x.q) u.2) ∧
  (∀ (x : Cst) (m : Ob) (a1 : Int32), R x m → ∃ (r : Int32 × Ob) (u : Int32 × Ob), pX10_dusk x.z x.d x.t x.c x.w x.s x.e x.f x.h x.b x.i x.j x.p x.q a1 = some r ∧ pX11_dusk m a1 = some u ∧ r.1 = u.1 ∧ R (x.z, x.d, x.t, x.c, x.w, r.2, x.e, x.f, x.h, x.b, x.i, x.j, x.p, x.q) u.2) ∧
  (∀ (x : Cst) (m : Ob) (a1 : Int32) (a2 : Int32), R x m → ∃ (r : Int32 × Ob) (u : Int32 × Ob), pX10_drift x.z x.d x.t x.c x.w x.s x.e x.f x.h x.b x.i x.j x.p x.q a1 a2 = some r ∧ pX11_drift m a1 a2 = some u ∧ r.1 = u.1 ∧ R (x.z, x.d, x.t, x.c, x.w, r.2, x.e, x.f, x.h, x.b, x.i, x.j, x.p, x.q) u.2) ∧
  (∀ (x : Cst) (m : Ob), R x m → ∃ (r : Int32 × Ob) (u : Int32 × Ob), pX10_begin x.z x.d x.t x.c x.w x.s x.e x.f x.h x.b x.i x.j x.p x.q = some r ∧ pX11_begin m = some u ∧ r.1 = u.1 ∧ R (x.z, x.d, x.t, x.c, x.w, r.2, x.e, x.f, x.h, x.b, x.i, x.j, x.p, x.q) u.2) ∧
  (∀ (x : Cst) (m : Ob) (a1 : Int32) (a2 : Int32), R x m → ∃ (r : Int32 × Ob) (u : Int32 × Ob), pX10_most x.z x.d x.t x.c x.w x.s x.e x.f x.h x.b x.i x.j x.p x.q a1 a2 = some r ∧ pX11_most m a1 a2 = some u ∧ r.1 = u.1 ∧ R (x.z, x.d, x.t, x.c, x.w, x.s, r.2, x.f, x.h, x.b, x.i, x.j, x.p, x.q) u.2) ∧
  (∀ (x : Cst) (m : Ob) (a1 : Int32), R x m → ∃ (r : Int32 × Ob) (u : Int32 × Ob), pX10_soonest x.z x.d x.t x.c x.w x.s x.e x.f x.h x.b x.i x.j x.p x.q a1 = some r ∧ pX11_soonest m a1 = some u ∧ r.1 = u.1 ∧ R (x.z, x.d, x.t, x.c, x.w, x.s, r.2, x.f, x.h, x.b, x.i, x.j, x.p, x.q) u.2) ∧
  (∀ (x : Cst) (m : Ob) (a1 : Int32), R x m → ∃ (r : Int32 × Ob) (u : Int32 × Ob), pX10_plan x.z x.d x.t x.c x.w x.s x.e x.f x.h x.b x.i x.j x.p x.q a1 = some r ∧ pX11_plan m a1 = some u ∧ r.1 = u.1 ∧ R (x.z, x.d, x.t, x.c, x.w, x.s, r.2, x.f, x.h, x.b, x.i, x.j, x.p, x.q) u.2) ∧
  (∀ (x : Cst) (m : Ob) (a1 : Int32), R x m → ∃ (r : Int32 × Ob) (u : Int32 × Ob), pX10_cut x.z x.d x.t x.c x.w x.s x.e x.f x.h x.b x.i x.j x.p x.q a1 = some r ∧ pX11_cut m a1 = some u ∧ r.1 = u.1 ∧ R (x.z, x.d, x.t, x.c, x.w, x.s, r.2, x.f, x.h, x.b, x.i, x.j, x.p, x.q) u.2) ∧
  (∀ (x : Cst) (m : Ob) (a1 : Int32) (a2 : Int32), R x m → ∃ (r : Int32 × Ob) (u : Int32 × Ob), pX10_turns x.z x.d x.t x.c x.w x.s x.e x.f x.h x.b x.i x.j x.p x.q a1 a2 = some r ∧ pX11_turns m a1 a2 = some u ∧ r.1 = u.1 ∧ R (x.z, x.d, x.t, x.c, x.w, x.s, x.e, r.2, x.h, x.b, x.i, x.j, x.p, x.q) u.2) ∧
  (∀ (x : Cst) (m : Ob) (a1 : Int32), R x m → ∃ (r : Int32 × Ob) (u : Int32 × Ob), pX10_many x.z x.d x.t x.c x.w x.s x.e x.f x.h x.b x.i x.j x.p x.q a1 = some r ∧ pX11_many m a1 = some u ∧ r.1 = u.1 ∧ R (x.z, x.d, x.t, x.c, x.w, x.s, x.e, x.f, r.2, x.b, x.i, x.j, x.p, x.q) u.2) ∧
  (∀ (x : Cst) (m : Ob) (a1 : Int32) (a2 : Int32), R x m → ∃ (r : Int32 × Ob) (u : Int32 × Ob), pX10_write x.z x.d x.t x.c x.w x.s x.e x.f x.h x.b x.i x.j x.p x.q a1 a2 = some r ∧ pX11_write m a1 a2 = some u ∧ r.1 = u.1 ∧ R (x.z, x.d, x.t, x.c, x.w, x.s, x.e, x.f, x.h, r.2, x.i, x.j, x.p, x.q) u.2) ∧
  (∀ (x : Cst) (m : Ob) (a1 : Int32), R x m → ∃ (r : Int32 × Ob) (u : Int32 × Ob), pX10_tear x.z x.d x.t x.c x.w x.s x.e x.f x.h x.b x.i x.j x.p x.q a1 = some r ∧ pX11_tear m a1 = some u ∧ r.1 = u.1 ∧ R (x.z, x.d, x.t, x.c, x.w, x.s, x.e, x.f, x.h, r.2, x.i, x.j, x.p, x.q) u.2) ∧
  (∀ (x : Cst) (m : Ob) (a1 : Int32), R x m → ∃ (r : Int32) (u : Int32), pX10_judge x.z x.d x.t x.c x.w x.s x.e x.f x.h x.b x.i x.j x.p x.q a1 = some r ∧ pX11_judge m a1 = some u ∧ r = u ∧ R x m) ∧
  (∀ (x : Cst) (m : Ob) (a1 : Int32) (a2 : Int32), R x m → ∃ (r : Int32) (u : Int32), pX10_evening x.z x.d x.t x.c x.w x.s x.e x.f x.h x.b x.i x.j x.p x.q a1 a2 = some r ∧ pX11_evening m a1 a2 = some u ∧ r = u ∧ R x m) ∧
  (∀ (x : Cst) (m : Ob) (a1 : Int32), R x m → ∃ (r : Int32 × Ob) (u : Int32 × Ob), pX10_seed x.z x.d x.t x.c x.w x.s x.e x.f x.h x.b x.i x.j x.p x.q a1 = some r ∧ pX11_seed m a1 = some u ∧ r.1 = u.1 ∧ R (x.z, x.d, x.t, x.c, x.w, r.2, x.e, x.f, x.h, x.b, x.i, x.j, x.p, x.q) u.2) ∧
  (∀ (x : Cst) (m : Ob) (a1 : Int32), R x m → ∃ (r : Int32 × Ob × Ob × Ob) (u : Int32 × Ob), pX10_keep x.z x.d x.t x.c x.w x.s x.e x.f x.h x.b x.i x.j x.p x.q a1 = some r ∧ pX11_keep m a1 = some u ∧ r.1 = u.1 ∧ R (r.2.1, x.d, x.t, x.c, x.w, x.s, x.e, x.f, x.h, x.b, r.2.2.1, r.2.2.2, x.p, x.q) u.2) ∧
  (∀ (x : Cst) (m : Ob) (a1 : Int32), R x m → ∃ (r : Int32 × Ob) (u : Int32 × Ob), pX10_goBack x.z x.d x.t x.c x.w x.s x.e x.f x.h x.b x.i x.j x.p x.q a1 = some r ∧ pX11_goBack m a1 = some u ∧ r.1 = u.1 ∧ R (x.z, x.d, x.t, x.c, x.w, r.2, x.e, x.f, x.h, x.b, x.i, x.j, x.p, x.q) u.2)
theorem LawOK.feed_ok {R : Cst → Ob → Prop} (ok : LawOK R) : ∀ (x : Cst) (m : Ob) (a1 : Int32) (a2 : Int64), R x m → ∃ (r : Int32 × Ob) (u : Int32 × Ob), pX10_feed x.z x.d x.t x.c x.w x.s x.e x.f x.h x.b x.i x.j x.p x.q a1 a2 = some r ∧ pX11_feed m a1 a2 = some u ∧ r.1 = u.1 ∧ R (x.z, x.d, r.2, x.c, x.w, x.s, x.e, x.f, x.h, x.b, x.i, x.j, x.p, x.q) u.2 := ok.1
theorem LawOK.court_ok {R : Cst → Ob → Prop} (ok : LawOK R) : ∀ (x : Cst) (m : Ob), R x m → ∃ (r : Int32 × Nat × Ob × Ob × Ob × Ob × Ob × Ob × Ob) (u : Int32 × Ob), pX10_court x.z x.d x.t x.c x.w x.s x.e x.f x.h x.b x.i x.j x.p x.q = some r ∧ pX11_court m = some u ∧ r.1 = u.1 ∧ R (r.2.2.1, r.2.2.2.1, r.2.2.2.2.1, r.2.2.2.2.2.1, x.w, r.2.2.2.2.2.2.1, x.e, x.f, x.h, r.2.2.2.2.2.2.2.1, x.i, x.j, r.2.2.2.2.2.2.2.2, x.q) u.2 := ok.2.1
theorem LawOK.laws_ok {R : Cst → Ob → Prop} (ok : LawOK R) : ∀ (x : Cst) (m : Ob), R x m → ∃ (r : Int32 × Nat × Ob × Ob × Ob × Ob × Ob) (u : Int32 × Ob), pX10_laws x.z x.d x.t x.c x.w x.s x.e x.f x.h x.b x.i x.j x.p x.q = some r ∧ pX11_laws m = some u ∧ r.1 = u.1 ∧ R (r.2.2.1, r.2.2.2.1, r.2.2.2.2.1, x.c, r.2.2.2.2.2.1, x.s, x.e, x.f, x.h, x.b, x.i, x.j, x.p, r.2.2.2.2.2.2) u.2 := ok.2.2.1
theorem LawOK.fault_ok {R : Cst → Ob → Prop} (ok : LawOK R) : ∀ (x : Cst) (m : Ob), R x m → ∃ (r : Int32) (u : Int32), pX10_fault x.z x.d x.t x.c x.w x.s x.e x.f x.h x.b x.i x.j x.p x.q = some r ∧ pX11_fault m = some u ∧ r = u ∧ R x m := ok.2.2.2.1
theorem LawOK.told_ok {R : Cst → Ob → Prop} (ok : LawOK R) : ∀ (x : Cst) (m : Ob) (a1 : Int32), R x m → ∃ (r : Int32) (u : Int32), pX10_told x.z x.d x.t x.c x.w x.s x.e x.f x.h x.b x.i x.j x.p x.q a1 = some r ∧ pX11_told m a1 = some u ∧ r = u ∧ R x m := ok.2.2.2.2.1
theorem LawOK.suit_ok {R : Cst → Ob → Prop} (ok : LawOK R) : ∀ (x : Cst) (m : Ob) (a1 : Int32) (a2 : Int32), R x m → ∃ (r : Int32) (u : Int32), pX10_suit x.z x.d x.t x.c x.w x.s x.e x.f x.h x.b x.i x.j x.p x.q a1 a2 = some r ∧ pX11_suit m a1 a2 = some u ∧ r = u ∧ R x m := ok.2.2.2.2.2.1
theorem LawOK.witness_ok {R : Cst → Ob → Prop} (ok : LawOK R) : ∀ (x : Cst) (m : Ob) (a1 : Int32) (a2 : Int32), R x m → ∃ (r : Int32) (u : Int32), pX10_witness x.z x.d x.t x.c x.w x.s x.e x.f x.h x.b x.i x.j x.p x.q a1 a2 = some r ∧ pX11_witness m a1 a2 = some u ∧ r = u ∧ R x m := ok.2.2.2.2.2.2.1
theorem LawOK.weight_ok {R : Cst → Ob → Prop} (ok : LawOK R) : ∀ (x : Cst) (m : Ob) (a1 : Int32) (a2 : Int32), R x m → ∃ (r : Int32) (u : Int32), pX10_weight x.z x.d x.t x.c x.w x.s x.e x.f x.h x.b x.i x.j x.p x.q a1 a2 = some r ∧ pX11_weight m a1 a2 = some u ∧ r = u ∧ R x m := ok.2.2.2.2.2.2.2.1
theorem LawOK.say_ok {R : Cst → Ob → Prop} (ok : LawOK R) : ∀ (x : Cst) (m : Ob) (a1 : Int32), R x m → ∃ (r : Int32 × Ob) (u : Int32 × Ob), pX10_say x.z x.d x.t x.c x.w x.s x.e x.f x.h x.b x.i x.j x.p x.q a1 = some r ∧ pX11_say m a1 = some u ∧ r.1 = u.1 ∧ R (x.z, x.d, x.t, x.c, x.w, r.2, x.e, x.f, x.h, x.b, x.i, x.j, x.p, x.q) u.2 := ok.2.2.2.2.2.2.2.2.1
theorem LawOK.strike_ok {R : Cst → Ob → Prop} (ok : LawOK R) : ∀ (x : Cst) (m : Ob) (a1 : Int32) (a2 : Int32), R x m → (a2 = 0 ∨ a2 = 1) → ∃ (r : Int32 × Ob) (u : Int32 × Ob), pX10_strike x.z x.d x.t x.c x.w x.s x.e x.f x.h x.b x.i x.j x.p x.q a1 a2 = some r ∧ pX11_strike m a1 a2 = some u ∧ r.1 = u.1 ∧ R (x.z, x.d, x.t, x.c, x.w, r.2, x.e, x.f, x.h, x.b, x.i, x.j, x.p, x.q) u.2 := ok.2.2.2.2.2.2.2.2.2.1
theorem LawOK.dusk_ok {R : Cst → Ob → Prop} (ok : LawOK R) : ∀ (x : Cst) (m : Ob) (a1 : Int32), R x m → ∃ (r : Int32 × Ob) (u : Int32 × Ob), pX10_dusk x.z x.d x.t x.c x.w x.s x.e x.f x.h x.b x.i x.j x.p x.q a1 = some r ∧ pX11_dusk m a1 = some u ∧ r.1 = u.1 ∧ R (x.z, x.d, x.t, x.c, x.w, r.2, x.e, x.f, x.h, x.b, x.i, x.j, x.p, x.q) u.2 := ok.2.2.2.2.2.2.2.2.2.2.1
theorem LawOK.drift_ok {R : Cst → Ob → Prop} (ok : LawOK R) : ∀ (x : Cst) (m : Ob) (a1 : Int32) (a2 : Int32), R x m → ∃ (r : Int32 × Ob) (u : Int32 × Ob), pX10_drift x.z x.d x.t x.c x.w x.s x.e x.f x.h x.b x.i x.j x.p x.q a1 a2 = some r ∧ pX11_drift m a1 a2 = some u ∧ r.1 = u.1 ∧ R (x.z, x.d, x.t, x.c, x.w, r.2, x.e, x.f, x.h, x.b, x.i, x.j, x.p, x.q) u.2 := ok.2.2.2.2.2.2.2.2.2.2.2.1
theorem LawOK.begin_ok {R : Cst → Ob → Prop} (ok : LawOK R) : ∀ (x : Cst) (m : Ob), R x m → ∃ (r : Int32 × Ob) (u : Int32 × Ob), pX10_begin x.z x.d x.t x.c x.w x.s x.e x.f x.h x.b x.i x.j x.p x.q = some r ∧ pX11_begin m = some u ∧ r.1 = u.1 ∧ R (x.z, x.d, x.t, x.c, x.w, r.2, x.e, x.f, x.h, x.b, x.i, x.j, x.p, x.q) u.2 := ok.2.2.2.2.2.2.2.2.2.2.2.2.1
theorem LawOK.most_ok {R : Cst → Ob → Prop} (ok : LawOK R) : ∀ (x : Cst) (m : Ob) (a1 : Int32) (a2 : Int32), R x m → ∃ (r : Int32 × Ob) (u : Int32 × Ob), pX10_most x.z x.d x.t x.c x.w x.s x.e x.f x.h x.b x.i x.j x.p x.q a1 a2 = some r ∧ pX11_most m a1 a2 = some u ∧ r.1 = u.1 ∧ R (x.z, x.d, x.t, x.c, x.w, x.s, r.2, x.f, x.h, x.b, x.i, x.j, x.p, x.q) u.2 := ok.2.2.2.2.2.2.2.2.2.2.2.2.2.1
theorem LawOK.soonest_ok {R : Cst → Ob → Prop} (ok : LawOK R) : ∀ (x : Cst) (m : Ob) (a1 : Int32), R x m → ∃ (r : Int32 × Ob) (u : Int32 × Ob), pX10_soonest x.z x.d x.t x.c x.w x.s x.e x.f x.h x.b x.i x.j x.p x.q a1 = some r ∧ pX11_soonest m a1 = some u ∧ r.1 = u.1 ∧ R (x.z, x.d, x.t, x.c, x.w, x.s, r.2, x.f, x.h, x.b, x.i, x.j, x.p, x.q) u.2 := ok.2.2.2.2.2.2.2.2.2.2.2.2.2.2.1
theorem LawOK.plan_ok {R : Cst → Ob → Prop} (ok : LawOK R) : ∀ (x : Cst) (m : Ob) (a1 : Int32), R x m → ∃ (r : Int32 × Ob) (u : Int32 × Ob), pX10_plan x.z x.d x.t x.c x.w x.s x.e x.f x.h x.b x.i x.j x.p x.q a1 = some r ∧ pX11_plan m a1 = some u ∧ r.1 = u.1 ∧ R (x.z, x.d, x.t, x.c, x.w, x.s, r.2, x.f, x.h, x.b, x.i, x.j, x.p, x.q) u.2 := ok.2.2.2.2.2.2.2.2.2.2.2.2.2.2.2.1
theorem LawOK.cut_ok {R : Cst → Ob → Prop} (ok : LawOK R) : ∀ (x : Cst) (m : Ob) (a1 : Int32), R x m → ∃ (r : Int32 × Ob) (u : Int32 × Ob), pX10_cut x.z x.d x.t x.c x.w x.s x.e x.f x.h x.b x.i x.j x.p x.q a1 = some r ∧ pX11_cut m a1 = some u ∧ r.1 = u.1 ∧ R (x.z, x.d, x.t, x.c, x.w, x.s, r.2, x.f, x.h, x.b, x.i, x.j, x.p, x.q) u.2 := ok.2.2.2.2.2.2.2.2.2.2.2.2.2.2.2.2.1
theorem LawOK.turns_ok {R : Cst → Ob → Prop} (ok : LawOK R) : ∀ (x : Cst) (m : Ob) (a1 : Int32) (a2 : Int32), R x m → ∃ (r : Int32 × Ob) (u : Int32 × Ob), pX10_turns x.z x.d x.t x.c x.w x.s x.e x.f x.h x.b x.i x.j x.p x.q a1 a2 = some r ∧ pX11_turns m a1 a2 = some u ∧ r.1 = u.1 ∧ R (x.z, x.d, x.t, x.c, x.w, x.s, x.e, r.2, x.h, x.b, x.i, x.j, x.p, x.q) u.2 := ok.2.2.2.2.2.2.2.2.2.2.2.2.2.2.2.2.2.1
theorem LawOK.many_ok {R : Cst → Ob → Prop} (ok : LawOK R) : ∀ (x : Cst) (m : Ob) (a1 : Int32), R x m → ∃ (r : Int32 × Ob) (u : Int32 × Ob), pX10_many x.z x.d x.t x.c x.w x.s x.e x.f x.h x.b x.i x.j x.p x.q a1 = some r ∧ pX11_many m a1 = some u ∧ r.1 = u.1 ∧ R (x.z, x.d, x.t, x.c, x.w, x.s, x.e, x.f, r.2, x.b, x.i, x.j, x.p, x.q) u.2 := ok.2.2.2.2.2.2.2.2.2.2.2.2.2.2.2.2.2.2.1
theorem LawOK.write_ok {R : Cst → Ob → Prop} (ok : LawOK R) : ∀ (x : Cst) (m : Ob) (a1 : Int32) (a2 : Int32), R x m → ∃ (r : Int32 × Ob) (u : Int32 × Ob), pX10_write x.z x.d x.t x.c x.w x.s x.e x.f x.h x.b x.i x.j x.p x.q a1 a2 = some r ∧ pX11_write m a1 a2 = some u ∧ r.1 = u.1 ∧ R (x.z, x.d, x.t, x.c, x.w, x.s, x.e, x.f, x.h, r.2, x.i, x.j, x.p, x.q) u.2 := ok.2.2.2.2.2.2.2.2.2.2.2.2.2.2.2.2.2.2.2.1
theorem LawOK.tear_ok {R : Cst → Ob → Prop} (ok : LawOK R) : ∀ (x : Cst) (m : Ob) (a1 : Int32), R x m → ∃ (r : Int32 × Ob) (u : Int32 × Ob), pX10_tear x.z x.d x.t x.c x.w x.s x.e x.f x.h x.b x.i x.j x.p x.q a1 = some r ∧ pX11_tear m a1 = some u ∧ r.1 = u.1 ∧ R (x.z, x.d, x.t, x.c, x.w, x.s, x.e, x.f, x.h, r.2, x.i, x.j, x.p, x.q) u.2 := ok.2.2.2.2.2.2.2.2.2.2.2.2.2.2.2.2.2.2.2.2.1
theorem LawOK.judge_ok {R : Cst → Ob → Prop} (ok : LawOK R) : ∀ (x : Cst) (m : Ob) (a1 : Int32), R x m → ∃ (r : Int32) (u : Int32), pX10_judge x.z x.d x.t x.c x.w x.s x.e x.f x.h x.b x.i x.j x.p x.q a1 = some r ∧ pX11_judge m a1 = some u ∧ r = u ∧ R x m := ok.2.2.2.2.2.2.2.2.2.2.2.2.2.2.2.2.2.2.2.2.2.1
theorem LawOK.evening_ok {R : Cst → Ob → Prop} (ok : LawOK R) : ∀ (x : Cst) (m : Ob) (a1 : Int32) (a2 : Int32), R x m → ∃ (r : Int32) (u : Int32), pX10_evening x.z x.d x.t x.c x.w x.s x.e x.f x.h x.b x.i x.j x.p x.q a1 a2 = some r ∧ pX11_evening m a1 a2 = some u ∧ r = u ∧ R x m := ok.2.2.2.2.2.2.2.2.2.2.2.2.2.2.2.2.2.2.2.2.2.2.1
theorem LawOK.seed_ok {R : Cst → Ob → Prop} (ok : LawOK R) : ∀ (x : Cst) (m : Ob) (a1 : Int32), R x m → ∃ (r : Int32 × Ob) (u : Int32 × Ob), pX10_seed x.z x.d x.t x.c x.w x.s x.e x.f x.h x.b x.i x.j x.p x.q a1 = some r ∧ pX11_seed m a1 = some u ∧ r.1 = u.1 ∧ R (x.z, x.d, x.t, x.c, x.w, r.2, x.e, x.f, x.h, x.b, x.i, x.j, x.p, x.q) u.2 := ok.2.2.2.2.2.2.2.2.2.2.2.2.2.2.2.2.2.2.2.2.2.2.2.1
theorem LawOK.keep_ok {R : Cst → Ob → Prop} (ok : LawOK R) : ∀ (x : Cst) (m : Ob) (a1 : Int32), R x m → ∃ (r : Int32 × Ob × Ob × Ob) (u : Int32 × Ob), pX10_keep x.z x.d x.t x.c x.w x.s x.e x.f x.h x.b x.i x.j x.p x.q a1 = some r ∧ pX11_keep m a1 = some u ∧ r.1 = u.1 ∧ R (r.2.1, x.d, x.t, x.c, x.w, x.s, x.e, x.f, x.h, x.b, r.2.2.1, r.2.2.2, x.p, x.q) u.2 := ok.2.2.2.2.2.2.2.2.2.2.2.2.2.2.2.2.2.2.2.2.2.2.2.2.1
theorem LawOK.goBack_ok {R : Cst → Ob → Prop} (ok : LawOK R) : ∀ (x : Cst) (m : Ob) (a1 : Int32), R x m → ∃ (r : Int32 × Ob) (u : Int32 × Ob), pX10_goBack x.z x.d x.t x.c x.w x.s x.e x.f x.h x.b x.i x.j x.p x.q a1 = some r ∧ pX11_goBack m a1 = some u ∧ r.1 = u.1 ∧ R (x.z, x.d, x.t, x.c, x.w, r.2, x.e, x.f, x.h, x.b, x.i, x.j, x.p, x.q) u.2 := ok.2.2.2.2.2.2.2.2.2.2.2.2.2.2.2.2.2.2.2.2.2.2.2.2.2
def LoopAt (R : Cst → Ob → Prop) (X : ZX) (D : va_G) (tA : Nat → ClassId) (b k pc : Nat) : Prop := ∀ (x : Cst) (m : Ob) (qa qb : Nat → Nat), R x m → zZ X D 137 24829 (WH tA qa x.z x.d x.t x.c x.w x.s x.e x.f x.h x.b x.i x.j x.p x.q ++ WM tA qb m) pc [some (.ref b), some (.ref (qa 0)), some (.ref (qb 0)), some (.int (Int32.ofNat k))] []
theorem kM_L_15 : zMv RL 15 yX10_feed cX10_feed 5 (some .int) 2 := ⟨zT_in (List.mem_of_getElem? (i := 453) (by decide +kernel)) rfl, zT_in (List.mem_of_getElem? (i := 454) (by decide +kernel)) rfl, zT_in (List.mem_of_getElem? (i := 455) (by decide +kernel)) rfl, zT_in (List.mem_of_getElem? (i := 70) (by decide +kernel)) rfl, zT_in (List.mem_of_getElem? (i := 456) (by decide +kernel)) rfl, (by decide +kernel), (by decide +kernel)⟩
theorem kM_L_19 : zMv RL 19 yX11_feed cX11_feed 5 (some .int) 2 := ⟨zT_in (List.mem_of_getElem? (i := 1145) (by decide +kernel)) rfl, zT_in (List.mem_of_getElem? (i := 1146) (by decide +kernel)) rfl, zT_in (List.mem_of_getElem? (i := 1147) (by decide +kernel)) rfl, zT_in (List.mem_of_getElem? (i := 82) (by decide +kernel)) rfl, zT_in (List.mem_of_getElem? (i := 1148) (by decide +kernel)) rfl, (by decide +kernel), (by decide +kernel)⟩
theorem kM_L_20 : zMv RL 20 yX10_court cX10_court 3 (some .int) 0 := ⟨zT_in (List.mem_of_getElem? (i := 463) (by decide +kernel)) rfl, zT_in (List.mem_of_getElem? (i := 464) (by decide +kernel)) rfl, zT_in (List.mem_of_getElem? (i := 465) (by decide +kernel)) rfl, zT_in (List.mem_of_getElem? (i := 70) (by decide +kernel)) rfl, zT_in (List.mem_of_getElem? (i := 466) (by decide +kernel)) rfl, (by decide +kernel), (by decide +kernel)⟩
theorem kM_L_24 : zMv RL 24 yX11_court cX11_court 3 (some .int) 0 := ⟨zT_in (List.mem_of_getElem? (i := 1156) (by decide +kernel)) rfl, zT_in (List.mem_of_getElem? (i := 1157) (by decide +kernel)) rfl, zT_in (List.mem_of_getElem? (i := 1158) (by decide +kernel)) rfl, zT_in (List.mem_of_getElem? (i := 82) (by decide +kernel)) rfl, zT_in (List.mem_of_getElem? (i := 1159) (by decide +kernel)) rfl, (by decide +kernel), (by decide +kernel)⟩
theorem kM_L_25 : zMv RL 25 yX10_laws cX10_laws 2 (some .int) 0 := ⟨zT_in (List.mem_of_getElem? (i := 609) (by decide +kernel)) rfl, zT_in (List.mem_of_getElem? (i := 610) (by decide +kernel)) rfl, zT_in (List.mem_of_getElem? (i := 611) (by decide +kernel)) rfl, zT_in (List.mem_of_getElem? (i := 70) (by decide +kernel)) rfl, zT_in (List.mem_of_getElem? (i := 612) (by decide +kernel)) rfl, (by decide +kernel), (by decide +kernel)⟩
theorem kM_L_28 : zMv RL 28 yX11_laws cX11_laws 3 (some .int) 0 := ⟨zT_in (List.mem_of_getElem? (i := 1215) (by decide +kernel)) rfl, zT_in (List.mem_of_getElem? (i := 1216) (by decide +kernel)) rfl, zT_in (List.mem_of_getElem? (i := 1217) (by decide +kernel)) rfl, zT_in (List.mem_of_getElem? (i := 82) (by decide +kernel)) rfl, zT_in (List.mem_of_getElem? (i := 1218) (by decide +kernel)) rfl, (by decide +kernel), (by decide +kernel)⟩
theorem kM_L_29 : zMv RL 29 yX10_fault cX10_fault 1 (some .int) 0 := ⟨zT_in (List.mem_of_getElem? (i := 630) (by decide +kernel)) rfl, zT_in (List.mem_of_getElem? (i := 631) (by decide +kernel)) rfl, zT_in (List.mem_of_getElem? (i := 632) (by decide +kernel)) rfl, zT_in (List.mem_of_getElem? (i := 70) (by decide +kernel)) rfl, zT_in (List.mem_of_getElem? (i := 633) (by decide +kernel)) rfl, (by decide +kernel), (by decide +kernel)⟩
theorem kM_L_32 : zMv RL 32 yX11_fault cX11_fault 1 (some .int) 0 := ⟨zT_in (List.mem_of_getElem? (i := 1224) (by decide +kernel)) rfl, zT_in (List.mem_of_getElem? (i := 1225) (by decide +kernel)) rfl, zT_in (List.mem_of_getElem? (i := 1226) (by decide +kernel)) rfl, zT_in (List.mem_of_getElem? (i := 82) (by decide +kernel)) rfl, zT_in (List.mem_of_getElem? (i := 1227) (by decide +kernel)) rfl, (by decide +kernel), (by decide +kernel)⟩
theorem kM_L_33 : zMv RL 33 yX10_told cX10_told 3 (some .int) 1 := ⟨zT_in (List.mem_of_getElem? (i := 634) (by decide +kernel)) rfl, zT_in (List.mem_of_getElem? (i := 635) (by decide +kernel)) rfl, zT_in (List.mem_of_getElem? (i := 636) (by decide +kernel)) rfl, zT_in (List.mem_of_getElem? (i := 70) (by decide +kernel)) rfl, zT_in (List.mem_of_getElem? (i := 637) (by decide +kernel)) rfl, (by decide +kernel), (by decide +kernel)⟩
theorem kM_L_37 : zMv RL 37 yX11_told cX11_told 2 (some .int) 1 := ⟨zT_in (List.mem_of_getElem? (i := 1228) (by decide +kernel)) rfl, zT_in (List.mem_of_getElem? (i := 1229) (by decide +kernel)) rfl, zT_in (List.mem_of_getElem? (i := 1230) (by decide +kernel)) rfl, zT_in (List.mem_of_getElem? (i := 82) (by decide +kernel)) rfl, zT_in (List.mem_of_getElem? (i := 1231) (by decide +kernel)) rfl, (by decide +kernel), (by decide +kernel)⟩
theorem kM_L_38 : zMv RL 38 yX10_suit cX10_suit 3 (some .int) 2 := ⟨zT_in (List.mem_of_getElem? (i := 654) (by decide +kernel)) rfl, zT_in (List.mem_of_getElem? (i := 655) (by decide +kernel)) rfl, zT_in (List.mem_of_getElem? (i := 656) (by decide +kernel)) rfl, zT_in (List.mem_of_getElem? (i := 70) (by decide +kernel)) rfl, zT_in (List.mem_of_getElem? (i := 657) (by decide +kernel)) rfl, (by decide +kernel), (by decide +kernel)⟩
theorem kM_L_42 : zMv RL 42 yX11_suit cX11_suit 3 (some .int) 2 := ⟨zT_in (List.mem_of_getElem? (i := 1237) (by decide +kernel)) rfl, zT_in (List.mem_of_getElem? (i := 1238) (by decide +kernel)) rfl, zT_in (List.mem_of_getElem? (i := 1239) (by decide +kernel)) rfl, zT_in (List.mem_of_getElem? (i := 82) (by decide +kernel)) rfl, zT_in (List.mem_of_getElem? (i := 1240) (by decide +kernel)) rfl, (by decide +kernel), (by decide +kernel)⟩
theorem kM_L_43 : zMv RL 43 yX10_witness cX10_witness 3 (some .int) 2 := ⟨zT_in (List.mem_of_getElem? (i := 664) (by decide +kernel)) rfl, zT_in (List.mem_of_getElem? (i := 665) (by decide +kernel)) rfl, zT_in (List.mem_of_getElem? (i := 666) (by decide +kernel)) rfl, zT_in (List.mem_of_getElem? (i := 70) (by decide +kernel)) rfl, zT_in (List.mem_of_getElem? (i := 667) (by decide +kernel)) rfl, (by decide +kernel), (by decide +kernel)⟩
theorem kM_L_46 : zMv RL 46 yX11_witness cX11_witness 3 (some .int) 2 := ⟨zT_in (List.mem_of_getElem? (i := 1250) (by decide +kernel)) rfl, zT_in (List.mem_of_getElem? (i := 1251) (by decide +kernel)) rfl, zT_in (List.mem_of_getElem? (i := 1252) (by decide +kernel)) rfl, zT_in (List.mem_of_getElem? (i := 82) (by decide +kernel)) rfl, zT_in (List.mem_of_getElem? (i := 1253) (by decide +kernel)) rfl, (by decide +kernel), (by decide +kernel)⟩
theorem kM_L_47 : zMv RL 47 yX10_weight cX10_weight 3 (some .int) 2 := ⟨zT_in (List.mem_of_getElem? (i := 703) (by decide +kernel)) rfl, zT_in (List.mem_of_getElem? (i := 704) (by decide +kernel)) rfl, zT_in (List.mem_of_getElem? (i := 705) (by decide +kernel)) rfl, zT_in (List.mem_of_getElem? (i := 70) (by decide +kernel)) rfl, zT_in (List.mem_of_getElem? (i := 706) (by decide +kernel)) rfl, (by decide +kernel), (by decide +kernel)⟩
theorem kM_L_50 : zMv RL 50 yX11_weight cX11_weight 3 (some .int) 2 := ⟨zT_in (List.mem_of_getElem? (i := 1270) (by decide +kernel)) rfl, zT_in (List.mem_of_getElem? (i := 1271) (by decide +kernel)) rfl, zT_in (List.mem_of_getElem? (i := 1272) (by decide +kernel)) rfl, zT_in (List.mem_of_getElem? (i := 82) (by decide +kernel)) rfl, zT_in (List.mem_of_getElem? (i := 1273) (by decide +kernel)) rfl, (by decide +kernel), (by decide +kernel)⟩
theorem kM_L_51 : zMv RL 51 yX10_say cX10_say 2 (some .int) 1 := ⟨zT_in (List.mem_of_getElem? (i := 711) (by decide +kernel)) rfl, zT_in (List.mem_of_getElem? (i := 712) (by decide +kernel)) rfl, zT_in (List.mem_of_getElem? (i := 713) (by decide +kernel)) rfl, zT_in (List.mem_of_getElem? (i := 70) (by decide +kernel)) rfl, zT_in (List.mem_of_getElem? (i := 714) (by decide +kernel)) rfl, (by decide +kernel), (by decide +kernel)⟩
theorem kM_L_54 : zMv RL 54 yX11_say cX11_say 2 (some .int) 1 := ⟨zT_in (List.mem_of_getElem? (i := 1275) (by decide +kernel)) rfl, zT_in (List.mem_of_getElem? (i := 1276) (by decide +kernel)) rfl, zT_in (List.mem_of_getElem? (i := 1277) (by decide +kernel)) rfl, zT_in (List.mem_of_getElem? (i := 82) (by decide +kernel)) rfl, zT_in (List.mem_of_getElem? (i := 1278) (by decide +kernel)) rfl, (by decide +kernel), (by decide +kernel)⟩
theorem kM_L_55 : zMv RL 55 yX10_strike cX10_strike 4 (some .int) 2 := ⟨zT_in (List.mem_of_getElem? (i := 737) (by decide +kernel)) rfl, zT_in (List.mem_of_getElem? (i := 738) (by decide +kernel)) rfl, zT_in (List.mem_of_getElem? (i := 739) (by decide +kernel)) rfl, zT_in (List.mem_of_getElem? (i := 70) (by decide +kernel)) rfl, zT_in (List.mem_of_getElem? (i := 740) (by decide +kernel)) rfl, (by decide +kernel), (by decide +kernel)⟩
theorem kM_L_59 : zMv RL 59 yX11_strike cX11_strike 4 (some .int) 2 := ⟨zT_in (List.mem_of_getElem? (i := 1291) (by decide +kernel)) rfl, zT_in (List.mem_of_getElem? (i := 1292) (by decide +kernel)) rfl, zT_in (List.mem_of_getElem? (i := 1293) (by decide +kernel)) rfl, zT_in (List.mem_of_getElem? (i := 82) (by decide +kernel)) rfl, zT_in (List.mem_of_getElem? (i := 1294) (by decide +kernel)) rfl, (by decide +kernel), (by decide +kernel)⟩
theorem kM_L_60 : zMv RL 60 yX10_dusk cX10_dusk 3 (some .int) 1 := ⟨zT_in (List.mem_of_getElem? (i := 741) (by decide +kernel)) rfl, zT_in (List.mem_of_getElem? (i := 742) (by decide +kernel)) rfl, zT_in (List.mem_of_getElem? (i := 743) (by decide +kernel)) rfl, zT_in (List.mem_of_getElem? (i := 70) (by decide +kernel)) rfl, zT_in (List.mem_of_getElem? (i := 744) (by decide +kernel)) rfl, (by decide +kernel), (by decide +kernel)⟩
theorem kM_L_63 : zMv RL 63 yX11_dusk cX11_dusk 3 (some .int) 1 := ⟨zT_in (List.mem_of_getElem? (i := 1295) (by decide +kernel)) rfl, zT_in (List.mem_of_getElem? (i := 1296) (by decide +kernel)) rfl, zT_in (List.mem_of_getElem? (i := 1297) (by decide +kernel)) rfl, zT_in (List.mem_of_getElem? (i := 82) (by decide +kernel)) rfl, zT_in (List.mem_of_getElem? (i := 1298) (by decide +kernel)) rfl, (by decide +kernel), (by decide +kernel)⟩
theorem kM_L_64 : zMv RL 64 yX10_drift cX10_drift 5 (some .int) 2 := ⟨zT_in (List.mem_of_getElem? (i := 753) (by decide +kernel)) rfl, zT_in (List.mem_of_getElem? (i := 754) (by decide +kernel)) rfl, zT_in (List.mem_of_getElem? (i := 755) (by decide +kernel)) rfl, zT_in (List.mem_of_getElem? (i := 70) (by decide +kernel)) rfl, zT_in (List.mem_of_getElem? (i := 756) (by decide +kernel)) rfl, (by decide +kernel), (by decide +kernel)⟩
theorem kM_L_67 : zMv RL 67 yX11_drift cX11_drift 6 (some .int) 2 := ⟨zT_in (List.mem_of_getElem? (i := 1308) (by decide +kernel)) rfl, zT_in (List.mem_of_getElem? (i := 1309) (by decide +kernel)) rfl, zT_in (List.mem_of_getElem? (i := 1310) (by decide +kernel)) rfl, zT_in (List.mem_of_getElem? (i := 82) (by decide +kernel)) rfl, zT_in (List.mem_of_getElem? (i := 1311) (by decide +kernel)) rfl, (by decide +kernel), (by decide +kernel)⟩
theorem kM_L_68 : zMv RL 68 yX10_begin cX10_begin 2 (some .int) 0 := ⟨zT_in (List.mem_of_getElem? (i := 772) (by decide +kernel)) rfl, zT_in (List.mem_of_getElem? (i := 773) (by decide +kernel)) rfl, zT_in (List.mem_of_getElem? (i := 774) (by decide +kernel)) rfl, zT_in (List.mem_of_getElem? (i := 70) (by decide +kernel)) rfl, zT_in (List.mem_of_getElem? (i := 775) (by decide +kernel)) rfl, (by decide +kernel), (by decide +kernel)⟩
theorem kM_L_71 : zMv RL 71 yX11_begin cX11_begin 2 (some .int) 0 := ⟨zT_in (List.mem_of_getElem? (i := 1322) (by decide +kernel)) rfl, zT_in (List.mem_of_getElem? (i := 1323) (by decide +kernel)) rfl, zT_in (List.mem_of_getElem? (i := 1324) (by decide +kernel)) rfl, zT_in (List.mem_of_getElem? (i := 82) (by decide +kernel)) rfl, zT_in (List.mem_of_getElem? (i := 1325) (by decide +kernel)) rfl, (by decide +kernel), (by decide +kernel)⟩
theorem kM_L_72 : zMv RL 72 yX10_most cX10_most 3 (some .int) 2 := ⟨zT_in (List.mem_of_getElem? (i := 776) (by decide +kernel)) rfl, zT_in (List.mem_of_getElem? (i := 777) (by decide +kernel)) rfl, zT_in (List.mem_of_getElem? (i := 778) (by decide +kernel)) rfl, zT_in (List.mem_of_getElem? (i := 70) (by decide +kernel)) rfl, zT_in (List.mem_of_getElem? (i := 779) (by decide +kernel)) rfl, (by decide +kernel), (by decide +kernel)⟩
theorem kM_L_75 : zMv RL 75 yX11_most cX11_most 3 (some .int) 2 := ⟨zT_in (List.mem_of_getElem? (i := 1326) (by decide +kernel)) rfl, zT_in (List.mem_of_getElem? (i := 1327) (by decide +kernel)) rfl, zT_in (List.mem_of_getElem? (i := 1328) (by decide +kernel)) rfl, zT_in (List.mem_of_getElem? (i := 82) (by decide +kernel)) rfl, zT_in (List.mem_of_getElem? (i := 1329) (by decide +kernel)) rfl, (by decide +kernel), (by decide +kernel)⟩
theorem kM_L_76 : zMv RL 76 yX10_soonest cX10_soonest 2 (some .int) 1 := ⟨zT_in (List.mem_of_getElem? (i := 825) (by decide +kernel)) rfl, zT_in (List.mem_of_getElem? (i := 826) (by decide +kernel)) rfl, zT_in (List.mem_of_getElem? (i := 827) (by decide +kernel)) rfl, zT_in (List.mem_of_getElem? (i := 70) (by decide +kernel)) rfl, zT_in (List.mem_of_getElem? (i := 828) (by decide +kernel)) rfl, (by decide +kernel), (by decide +kernel)⟩
theorem kM_L_79 : zMv RL 79 yX11_soonest cX11_soonest 2 (some .int) 1 := ⟨zT_in (List.mem_of_getElem? (i := 1383) (by decide +kernel)) rfl, zT_in (List.mem_of_getElem? (i := 1384) (by decide +kernel)) rfl, zT_in (List.mem_of_getElem? (i := 1385) (by decide +kernel)) rfl, zT_in (List.mem_of_getElem? (i := 82) (by decide +kernel)) rfl, zT_in (List.mem_of_getElem? (i := 1386) (by decide +kernel)) rfl, (by decide +kernel), (by decide +kernel)⟩
theorem kM_L_80 : zMv RL 80 yX10_plan cX10_plan 3 (some .int) 1 := ⟨zT_in (List.mem_of_getElem? (i := 834) (by decide +kernel)) rfl, zT_in (List.mem_of_getElem? (i := 835) (by decide +kernel)) rfl, zT_in (List.mem_of_getElem? (i := 836) (by decide +kernel)) rfl, zT_in (List.mem_of_getElem? (i := 70) (by decide +kernel)) rfl, zT_in (List.mem_of_getElem? (i := 837) (by decide +kernel)) rfl, (by decide +kernel), (by decide +kernel)⟩
theorem kM_L_83 : zMv RL 83 yX11_plan cX11_plan 5 (some .int) 1 := ⟨zT_in (List.mem_of_getElem? (i := 1392) (by decide +kernel)) rfl, zT_in (List.mem_of_getElem? (i := 1393) (by decide +kernel)) rfl, zT_in (List.mem_of_getElem? (i := 1394) (by decide +kernel)) rfl, zT_in (List.mem_of_getElem? (i := 82) (by decide +kernel)) rfl, zT_in (List.mem_of_getElem? (i := 1395) (by decide +kernel)) rfl, (by decide +kernel), (by decide +kernel)⟩
theorem kM_L_84 : zMv RL 84 yX10_cut cX10_cut 2 (some .int) 1 := ⟨zT_in (List.mem_of_getElem? (i := 859) (by decide +kernel)) rfl, zT_in (List.mem_of_getElem? (i := 860) (by decide +kernel)) rfl, zT_in (List.mem_of_getElem? (i := 861) (by decide +kernel)) rfl, zT_in (List.mem_of_getElem? (i := 70) (by decide +kernel)) rfl, zT_in (List.mem_of_getElem? (i := 862) (by decide +kernel)) rfl, (by decide +kernel), (by decide +kernel)⟩
theorem kM_L_87 : zMv RL 87 yX11_cut cX11_cut 6 (some .int) 1 := ⟨zT_in (List.mem_of_getElem? (i := 1404) (by decide +kernel)) rfl, zT_in (List.mem_of_getElem? (i := 1405) (by decide +kernel)) rfl, zT_in (List.mem_of_getElem? (i := 1406) (by decide +kernel)) rfl, zT_in (List.mem_of_getElem? (i := 82) (by decide +kernel)) rfl, zT_in (List.mem_of_getElem? (i := 1407) (by decide +kernel)) rfl, (by decide +kernel), (by decide +kernel)⟩
theorem kM_L_88 : zMv RL 88 yX10_turns cX10_turns 3 (some .int) 2 := ⟨zT_in (List.mem_of_getElem? (i := 879) (by decide +kernel)) rfl, zT_in (List.mem_of_getElem? (i := 880) (by decide +kernel)) rfl, zT_in (List.mem_of_getElem? (i := 881) (by decide +kernel)) rfl, zT_in (List.mem_of_getElem? (i := 70) (by decide +kernel)) rfl, zT_in (List.mem_of_getElem? (i := 882) (by decide +kernel)) rfl, (by decide +kernel), (by decide +kernel)⟩
theorem kM_L_91 : zMv RL 91 yX11_turns cX11_turns 9 (some .int) 2 := ⟨zT_in (List.mem_of_getElem? (i := 1408) (by decide +kernel)) rfl, zT_in (List.mem_of_getElem? (i := 1409) (by decide +kernel)) rfl, zT_in (List.mem_of_getElem? (i := 1410) (by decide +kernel)) rfl, zT_in (List.mem_of_getElem? (i := 82) (by decide +kernel)) rfl, zT_in (List.mem_of_getElem? (i := 1411) (by decide +kernel)) rfl, (by decide +kernel), (by decide +kernel)⟩
theorem kM_L_92 : zMv RL 92 yX10_many cX10_many 3 (some .int) 1 := ⟨zT_in (List.mem_of_getElem? (i := 910) (by decide +kernel)) rfl, zT_in (List.mem_of_getElem? (i := 911) (by decide +kernel)) rfl, zT_in (List.mem_of_getElem? (i := 912) (by decide +kernel)) rfl, zT_in (List.mem_of_getElem? (i := 70) (by decide +kernel)) rfl, zT_in (List.mem_of_getElem? (i := 913) (by decide +kernel)) rfl, (by decide +kernel), (by decide +kernel)⟩
theorem kM_L_95 : zMv RL 95 yX11_many cX11_many 7 (some .int) 1 := ⟨zT_in (List.mem_of_getElem? (i := 1418) (by decide +kernel)) rfl, zT_in (List.mem_of_getElem? (i := 1419) (by decide +kernel)) rfl, zT_in (List.mem_of_getElem? (i := 1420) (by decide +kernel)) rfl, zT_in (List.mem_of_getElem? (i := 82) (by decide +kernel)) rfl, zT_in (List.mem_of_getElem? (i := 1421) (by decide +kernel)) rfl, (by decide +kernel), (by decide +kernel)⟩
theorem kM_L_96 : zMv RL 96 yX10_write cX10_write 3 (some .int) 2 := ⟨zT_in (List.mem_of_getElem? (i := 934) (by decide +kernel)) rfl, zT_in (List.mem_of_getElem? (i := 935) (by decide +kernel)) rfl, zT_in (List.mem_of_getElem? (i := 936) (by decide +kernel)) rfl, zT_in (List.mem_of_getElem? (i := 70) (by decide +kernel)) rfl, zT_in (List.mem_of_getElem? (i := 937) (by decide +kernel)) rfl, (by decide +kernel), (by decide +kernel)⟩
theorem kM_L_99 : zMv RL 99 yX11_write cX11_write 3 (some .int) 2 := ⟨zT_in (List.mem_of_getElem? (i := 1434) (by decide +kernel)) rfl, zT_in (List.mem_of_getElem? (i := 1435) (by decide +kernel)) rfl, zT_in (List.mem_of_getElem? (i := 1436) (by decide +kernel)) rfl, zT_in (List.mem_of_getElem? (i := 82) (by decide +kernel)) rfl, zT_in (List.mem_of_getElem? (i := 1437) (by decide +kernel)) rfl, (by decide +kernel), (by decide +kernel)⟩
theorem kM_L_100 : zMv RL 100 yX10_tear cX10_tear 3 (some .int) 1 := ⟨zT_in (List.mem_of_getElem? (i := 944) (by decide +kernel)) rfl, zT_in (List.mem_of_getElem? (i := 945) (by decide +kernel)) rfl, zT_in (List.mem_of_getElem? (i := 946) (by decide +kernel)) rfl, zT_in (List.mem_of_getElem? (i := 70) (by decide +kernel)) rfl, zT_in (List.mem_of_getElem? (i := 947) (by decide +kernel)) rfl, (by decide +kernel), (by decide +kernel)⟩
theorem kM_L_103 : zMv RL 103 yX11_tear cX11_tear 3 (some .int) 1 := ⟨zT_in (List.mem_of_getElem? (i := 1439) (by decide +kernel)) rfl, zT_in (List.mem_of_getElem? (i := 1440) (by decide +kernel)) rfl, zT_in (List.mem_of_getElem? (i := 1441) (by decide +kernel)) rfl, zT_in (List.mem_of_getElem? (i := 82) (by decide +kernel)) rfl, zT_in (List.mem_of_getElem? (i := 1442) (by decide +kernel)) rfl, (by decide +kernel), (by decide +kernel)⟩
theorem kM_L_104 : zMv RL 104 yX10_judge cX10_judge 2 (some .int) 1 := ⟨zT_in (List.mem_of_getElem? (i := 948) (by decide +kernel)) rfl, zT_in (List.mem_of_getElem? (i := 949) (by decide +kernel)) rfl, zT_in (List.mem_of_getElem? (i := 950) (by decide +kernel)) rfl, zT_in (List.mem_of_getElem? (i := 70) (by decide +kernel)) rfl, zT_in (List.mem_of_getElem? (i := 951) (by decide +kernel)) rfl, (by decide +kernel), (by decide +kernel)⟩
theorem kM_L_107 : zMv RL 107 yX11_judge cX11_judge 3 (some .int) 1 := ⟨zT_in (List.mem_of_getElem? (i := 1443) (by decide +kernel)) rfl, zT_in (List.mem_of_getElem? (i := 1444) (by decide +kernel)) rfl, zT_in (List.mem_of_getElem? (i := 1445) (by decide +kernel)) rfl, zT_in (List.mem_of_getElem? (i := 82) (by decide +kernel)) rfl, zT_in (List.mem_of_getElem? (i := 1446) (by decide +kernel)) rfl, (by decide +kernel), (by decide +kernel)⟩
theorem kM_L_108 : zMv RL 108 yX10_evening cX10_evening 3 (some .int) 2 := ⟨zT_in (List.mem_of_getElem? (i := 956) (by decide +kernel)) rfl, zT_in (List.mem_of_getElem? (i := 957) (by decide +kernel)) rfl, zT_in (List.mem_of_getElem? (i := 958) (by decide +kernel)) rfl, zT_in (List.mem_of_getElem? (i := 70) (by decide +kernel)) rfl, zT_in (List.mem_of_getElem? (i := 959) (by decide +kernel)) rfl, (by decide +kernel), (by decide +kernel)⟩
theorem kM_L_111 : zMv RL 111 yX11_evening cX11_evening 3 (some .int) 2 := ⟨zT_in (List.mem_of_getElem? (i := 1447) (by decide +kernel)) rfl, zT_in (List.mem_of_getElem? (i := 1448) (by decide +kernel)) rfl, zT_in (List.mem_of_getElem? (i := 1449) (by decide +kernel)) rfl, zT_in (List.mem_of_getElem? (i := 82) (by decide +kernel)) rfl, zT_in (List.mem_of_getElem? (i := 1450) (by decide +kernel)) rfl, (by decide +kernel), (by decide +kernel)⟩
theorem kM_L_112 : zMv RL 112 yX10_seed cX10_seed 3 (some .int) 1 := ⟨zT_in (List.mem_of_getElem? (i := 960) (by decide +kernel)) rfl, zT_in (List.mem_of_getElem? (i := 961) (by decide +kernel)) rfl, zT_in (List.mem_of_getElem? (i := 962) (by decide +kernel)) rfl, zT_in (List.mem_of_getElem? (i := 70) (by decide +kernel)) rfl, zT_in (List.mem_of_getElem? (i := 963) (by decide +kernel)) rfl, (by decide +kernel), (by decide +kernel)⟩
theorem kM_L_115 : zMv RL 115 yX11_seed cX11_seed 3 (some .int) 1 := ⟨zT_in (List.mem_of_getElem? (i := 1451) (by decide +kernel)) rfl, zT_in (List.mem_of_getElem? (i := 1452) (by decide +kernel)) rfl, zT_in (List.mem_of_getElem? (i := 1453) (by decide +kernel)) rfl, zT_in (List.mem_of_getElem? (i := 82) (by decide +kernel)) rfl, zT_in (List.mem_of_getElem? (i := 1454) (by decide +kernel)) rfl, (by decide +kernel), (by decide +kernel)⟩
theorem kM_L_116 : zMv RL 116 yX10_keep cX10_keep 2 (some .int) 1 := ⟨zT_in (List.mem_of_getElem? (i := 964) (by decide +kernel)) rfl, zT_in (List.mem_of_getElem? (i := 965) (by decide +kernel)) rfl, zT_in (List.mem_of_getElem? (i := 966) (by decide +kernel)) rfl, zT_in (List.mem_of_getElem? (i := 70) (by decide +kernel)) rfl, zT_in (List.mem_of_getElem? (i := 967) (by decide +kernel)) rfl, (by decide +kernel), (by decide +kernel)⟩
theorem kM_L_119 : zMv RL 119 yX11_keep cX11_keep 4 (some .int) 1 := ⟨zT_in (List.mem_of_getElem? (i := 1455) (by decide +kernel)) rfl, zT_in (List.mem_of_getElem? (i := 1456) (by decide +kernel)) rfl, zT_in (List.mem_of_getElem? (i := 1457) (by decide +kernel)) rfl, zT_in (List.mem_of_getElem? (i := 82) (by decide +kernel)) rfl, zT_in (List.mem_of_getElem? (i := 1458) (by decide +kernel)) rfl, (by decide +kernel), (by decide +kernel)⟩
theorem kM_L_120 : zMv RL 120 yX10_goBack cX10_goBack 2 (some .int) 1 := ⟨zT_in (List.mem_of_getElem? (i := 975) (by decide +kernel)) rfl, zT_in (List.mem_of_getElem? (i := 976) (by decide +kernel)) rfl, zT_in (List.mem_of_getElem? (i := 977) (by decide +kernel)) rfl, zT_in (List.mem_of_getElem? (i := 70) (by decide +kernel)) rfl, zT_in (List.mem_of_getElem? (i := 978) (by decide +kernel)) rfl, (by decide +kernel), (by decide +kernel)⟩
theorem kM_L_123 : zMv RL 123 yX11_goBack cX11_goBack 4 (some .int) 1 := ⟨zT_in (List.mem_of_getElem? (i := 1459) (by decide +kernel)) rfl, zT_in (List.mem_of_getElem? (i := 1460) (by decide +kernel)) rfl, zT_in (List.mem_of_getElem? (i := 1461) (by decide +kernel)) rfl, zT_in (List.mem_of_getElem? (i := 82) (by decide +kernel)) rfl, zT_in (List.mem_of_getElem? (i := 1462) (by decide +kernel)) rfl, (by decide +kernel), (by decide +kernel)⟩
theorem kC_L_13 : Cond.constantLong RL 13 (4294967295) ∈ zT := zT_in (List.mem_of_getElem? (i := 1463) (by decide +kernel)) rfl
variable {b L k : Nat} {xs : Nat → Int32}
set_option maxHeartbeats 4000000 in
set_option maxRecDepth 100000 in
theorem law_0 {R : Cst → Ob → Prop} (ok : LawOK R) (F : zI l D tA RL cL_law 4 room_1 X) (hsc : zSc X b L xs) (h1 : vp_in (Int32.ofNat k + 1) L) (h2 : vp_in (Int32.ofNat k + 2) L) (h3 : vp_in (Int32.ofNat k + 3) L) (next : LoopAt R X D tA b k 856) : LoopAt R X D tA b k 152 := by
  intro x m qa qb hxm
  obtain ⟨r, u, e1, e2, e3, hR⟩ := ok.feed_ok x m ((xs ((Int32.ofNat k) + 1).toNatClampNeg)) (((((xs ((Int32.ofNat k) + 2).toNatClampNeg).toInt64) <<< ((32 : Int32).toInt64 &&& 63)) ||| (((xs ((Int32.ofNat k) + 3).toNatClampNeg).toInt64) &&& (4294967295)))) hxm
  refine i_aload_n (pc := 152) F dL_law_152 rfl ?_
  refine i_aload_n (pc := 153) F dL_law_153 rfl ?_
  refine i_iload_n (pc := 154) F dL_law_154 rfl ?_
  refine i_iconst (v := 1) (pc := 155) F dL_law_155 rfl ?_
  refine i_iadd (pc := 156) F dL_law_156 ?_
  refine i_sld (pc := 157) F hsc h1 dL_law_157 ?_
  refine i_aload_n (pc := 158) F dL_law_158 rfl ?_
  refine i_iload_n (pc := 159) F dL_law_159 rfl ?_
  refine i_iconst (v := 2) (pc := 160) F dL_law_160 rfl ?_
  refine i_iadd (pc := 161) F dL_law_161 ?_
  refine i_sld (pc := 162) F hsc h2 dL_law_162 ?_
  refine i_i2l (pc := 163) F dL_law_163 ?_
  refine i_bipush (v := 32) (pc := 164) F dL_law_164 rfl ?_
  refine i_lshl (pc := 166) F dL_law_166 ?_
  refine i_aload_n (pc := 167) F dL_law_167 rfl ?_
  refine i_iload_n (pc := 168) F dL_law_168 rfl ?_
  refine i_iconst (v := 3) (pc := 169) F dL_law_169 rfl ?_
  refine i_iadd (pc := 170) F dL_law_170 ?_
  refine i_sld (pc := 171) F hsc h3 dL_law_171 ?_
  refine i_i2l (pc := 172) F dL_law_172 ?_
  refine i_ldc2 (pc := 173) F dL_law_173 kC_L_13 ?_
  refine i_land (pc := 176) F dL_law_176 ?_
  refine i_lor (pc := 177) F dL_law_177 ?_
  refine i_calliP (lv := [some (.ref b), some (.ref (qa 0)), some (.ref (qb 0)), some (.int (Int32.ofNat k))]) (cs := 137) (sl := 24829) (wr := WM tA qb m) (r := r) (As := [.int (xs ((Int32.ofNat k) + 1).toNatClampNeg), .long ((((xs ((Int32.ofNat k) + 2).toNatClampNeg).toInt64) <<< ((32 : Int32).toInt64 &&& 63)) ||| (((xs ((Int32.ofNat k) + 3).toNatClampNeg).toInt64) &&& (4294967295)))]) (st := []) (q0 := 0) (pc := 178) F (c_X10_feed (q := qa) x.z x.d x.t x.c x.w x.s x.e x.f x.h x.b x.i x.j x.p x.q ((xs ((Int32.ofNat k) + 1).toNatClampNeg)) (((((xs ((Int32.ofNat k) + 2).toNatClampNeg).toInt64) <<< ((32 : Int32).toInt64 &&& 63)) ||| (((xs ((Int32.ofNat k) + 3).toNatClampNeg).toInt64) &&& (4294967295))))) e1 dL_law_178 kM_L_15 ⟨rfl, rfl⟩ ⟨Nat.le_of_ble_eq_true rfl, Nat.le_of_ble_eq_true rfl⟩ rfl rfl rfl (Nat.le_of_ble_eq_true rfl) ⟨Nat.le_of_ble_eq_true rfl, Nat.le_of_ble_eq_true rfl⟩ rfl rfl rfl ?_
  refine i_aload_n (pc := 181) F dL_law_181 rfl ?_
  refine i_aload_n (pc := 182) F dL_law_182 rfl ?_
  refine i_iload_n (pc := 183) F dL_law_183 rfl ?_
  refine i_iconst (v := 1) (pc := 184) F dL_law_184 rfl ?_
  refine i_iadd (pc := 185) F dL_law_185 ?_
  refine i_sld (pc := 186) F hsc h1 dL_law_186 ?_
  refine i_aload_n (pc := 187) F dL_law_187 rfl ?_
  refine i_iload_n (pc := 188) F dL_law_188 rfl ?_
  refine i_iconst (v := 2) (pc := 189) F dL_law_189 rfl ?_
  refine i_iadd (pc := 190) F dL_law_190 ?_
  refine i_sld (pc := 191) F hsc h2 dL_law_191 ?_
  refine i_i2l (pc := 192) F dL_law_192 ?_
  refine i_bipush (v := 32) (pc := 193) F dL_law_193 rfl ?_
  refine i_lshl (pc := 195) F dL_law_195 ?_
  refine i_aload_n (pc := 196) F dL_law_196 rfl ?_
  refine i_iload_n (pc := 197) F dL_law_197 rfl ?_
  refine i_iconst (v := 3) (pc := 198) F dL_law_198 rfl ?_
  refine i_iadd (pc := 199) F dL_law_199 ?_
  refine i_sld (pc := 200) F hsc h3 dL_law_200 ?_
  refine i_i2l (pc := 201) F dL_law_201 ?_
  refine i_ldc2 (pc := 202) F dL_law_202 kC_L_13 ?_
  refine i_land (pc := 205) F dL_law_205 ?_
  refine i_lor (pc := 206) F dL_law_206 ?_
  refine i_calliS (lv := [some (.ref b), some (.ref (qa 0)), some (.ref (qb 0)), some (.int (Int32.ofNat k))]) (cs := 137) (sl := 24829) (wr := WH tA qa x.z x.d (r.2) x.c x.w x.s x.e x.f x.h x.b x.i x.j x.p x.q) (r := u) (As := [.int (xs ((Int32.ofNat k) + 1).toNatClampNeg), .long ((((xs ((Int32.ofNat k) + 2).toNatClampNeg).toInt64) <<< ((32 : Int32).toInt64 &&& 63)) ||| (((xs ((Int32.ofNat k) + 3).toNatClampNeg).toInt64) &&& (4294967295)))]) (st := [.int (r.1)]) (q0 := 0) (pc := 207) F (c_X11_feed (q := qb) m ((xs ((Int32.ofNat k) + 1).toNatClampNeg)) (((((xs ((Int32.ofNat k) + 2).toNatClampNeg).toInt64) <<< ((32 : Int32).toInt64 &&& 63)) ||| (((xs ((Int32.ofNat k) + 3).toNatClampNeg).toInt64) &&& (4294967295))))) e2 dL_law_207 kM_L_19 ⟨rfl, rfl⟩ ⟨Nat.le_of_ble_eq_true rfl, Nat.le_of_ble_eq_true rfl⟩ rfl rfl rfl (Nat.le_of_ble_eq_true rfl) ⟨Nat.le_of_ble_eq_true rfl, Nat.le_of_ble_eq_true rfl⟩ rfl rfl rfl ?_
  refine i_icmp_eqT (tgt := 856) (pc := 210) F e3 dL_law_210 (by decide) ?_
  exact next (x.z, x.d, r.2, x.c, x.w, x.s, x.e, x.f, x.h, x.b, x.i, x.j, x.p, x.q) u.2 qa qb hR
set_option maxHeartbeats 4000000 in
set_option maxRecDepth 100000 in
theorem law_1 {R : Cst → Ob → Prop} (ok : LawOK R) (F : zI l D tA RL cL_law 4 room_1 X) (hsc : zSc X b L xs) (h1 : vp_in (Int32.ofNat k + 1) L) (h2 : vp_in (Int32.ofNat k + 2) L) (h3 : vp_in (Int32.ofNat k + 3) L) (next : LoopAt R X D tA b k 856) : LoopAt R X D tA b k 215 := by
  intro x m qa qb hxm
  obtain ⟨r, u, e1, e2, e3, hR⟩ := ok.court_ok x m hxm
  refine i_aload_n (pc := 215) F dL_law_215 rfl ?_
  refine i_calliP (lv := [some (.ref b), some (.ref (qa 0)), some (.ref (qb 0)), some (.int (Int32.ofNat k))]) (cs := 137) (sl := 24829) (wr := WM tA qb m) (r := r) (As := []) (st := []) (q0 := 0) (pc := 216) F (c_X10_court (q := qa) x.z x.d x.t x.c x.w x.s x.e x.f x.h x.b x.i x.j x.p x.q ) e1 dL_law_216 kM_L_20 ⟨rfl, rfl⟩ ⟨Nat.le_of_ble_eq_true rfl, Nat.le_of_ble_eq_true rfl⟩ rfl rfl rfl (Nat.le_of_ble_eq_true rfl) ⟨Nat.le_of_ble_eq_true rfl, Nat.le_of_ble_eq_true rfl⟩ rfl rfl rfl ?_
  refine i_aload_n (pc := 219) F dL_law_219 rfl ?_
  refine i_calliS (lv := [some (.ref b), some (.ref (qa 0)), some (.ref (qb 0)), some (.int (Int32.ofNat k))]) (cs := 137) (sl := 24829) (wr := WH tA (zswcourt r.2.1 qa) (r.2.2.1) (r.2.2.2.1) (r.2.2.2.2.1) (r.2.2.2.2.2.1) x.w (r.2.2.2.2.2.2.1) x.e x.f x.h (r.2.2.2.2.2.2.2.1) x.i x.j (r.2.2.2.2.2.2.2.2) x.q) (r := u) (As := []) (st := [.int (r.1)]) (q0 := 0) (pc := 220) F (c_X11_court (q := qb) m ) e2 dL_law_220 kM_L_24 ⟨rfl, rfl⟩ ⟨Nat.le_of_ble_eq_true rfl, Nat.le_of_ble_eq_true rfl⟩ rfl rfl rfl (Nat.le_of_ble_eq_true rfl) ⟨Nat.le_of_ble_eq_true rfl, Nat.le_of_ble_eq_true rfl⟩ rfl rfl rfl ?_
  refine i_icmp_eqT (tgt := 856) (pc := 223) F e3 dL_law_223 (by decide) ?_
  have h9 := next (r.2.2.1, r.2.2.2.1, r.2.2.2.2.1, r.2.2.2.2.2.1, x.w, r.2.2.2.2.2.2.1, x.e, x.f, x.h, r.2.2.2.2.2.2.2.1, x.i, x.j, r.2.2.2.2.2.2.2.2, x.q) u.2 (zswcourt r.2.1 qa) qb hR
  rw [zswcourt_0] at h9
  exact h9
set_option maxHeartbeats 4000000 in
set_option maxRecDepth 100000 in
theorem law_2 {R : Cst → Ob → Prop} (ok : LawOK R) (F : zI l D tA RL cL_law 4 room_1 X) (hsc : zSc X b L xs) (h1 : vp_in (Int32.ofNat k + 1) L) (h2 : vp_in (Int32.ofNat k + 2) L) (h3 : vp_in (Int32.ofNat k + 3) L) (next : LoopAt R X D tA b k 856) : LoopAt R X D tA b k 228 := by
  intro x m qa qb hxm
  obtain ⟨r, u, e1, e2, e3, hR⟩ := ok.laws_ok x m hxm
  refine i_aload_n (pc := 228) F dL_law_228 rfl ?_
  refine i_calliP (lv := [some (.ref b), some (.ref (qa 0)), some (.ref (qb 0)), some (.int (Int32.ofNat k))]) (cs := 137) (sl := 24829) (wr := WM tA qb m) (r := r) (As := []) (st := []) (q0 := 0) (pc := 229) F (c_X10_laws (q := qa) x.z x.d x.t x.c x.w x.s x.e x.f x.h x.b x.i x.j x.p x.q ) e1 dL_law_229 kM_L_25 ⟨rfl, rfl⟩ ⟨Nat.le_of_ble_eq_true rfl, Nat.le_of_ble_eq_true rfl⟩ rfl rfl rfl (Nat.le_of_ble_eq_true rfl) ⟨Nat.le_of_ble_eq_true rfl, Nat.le_of_ble_eq_true rfl⟩ rfl rfl rfl ?_
  refine i_aload_n (pc := 232) F dL_law_232 rfl ?_
  refine i_calliS (lv := [some (.ref b), some (.ref (qa 0)), some (.ref (qb 0)), some (.int (Int32.ofNat k))]) (cs := 137) (sl := 24829) (wr := WH tA (zswlaws r.2.1 qa) (r.2.2.1) (r.2.2.2.1) (r.2.2.2.2.1) x.c (r.2.2.2.2.2.1) x.s x.e x.f x.h x.b x.i x.j x.p (r.2.2.2.2.2.2)) (r := u) (As := []) (st := [.int (r.1)]) (q0 := 0) (pc := 233) F (c_X11_laws (q := qb) m ) e2 dL_law_233 kM_L_28 ⟨rfl, rfl⟩ ⟨Nat.le_of_ble_eq_true rfl, Nat.le_of_ble_eq_true rfl⟩ rfl rfl rfl (Nat.le_of_ble_eq_true rfl) ⟨Nat.le_of_ble_eq_true rfl, Nat.le_of_ble_eq_true rfl⟩ rfl rfl rfl ?_
  refine i_icmp_eqT (tgt := 856) (pc := 236) F e3 dL_law_236 (by decide) ?_
  have h9 := next (r.2.2.1, r.2.2.2.1, r.2.2.2.2.1, x.c, r.2.2.2.2.2.1, x.s, x.e, x.f, x.h, x.b, x.i, x.j, x.p, r.2.2.2.2.2.2) u.2 (zswlaws r.2.1 qa) qb hR
  rw [zswlaws_0] at h9
  exact h9
set_option maxHeartbeats 4000000 in
set_option maxRecDepth 100000 in
theorem law_3 {R : Cst → Ob → Prop} (ok : LawOK R) (F : zI l D tA RL cL_law 4 room_1 X) (hsc : zSc X b L xs) (h1 : vp_in (Int32.ofNat k + 1) L) (h2 : vp_in (Int32.ofNat k + 2) L) (h3 : vp_in (Int32.ofNat k + 3) L) (next : LoopAt R X D tA b k 856) : LoopAt R X D tA b k 241 := by
  intro x m qa qb hxm
  obtain ⟨r, u, e1, e2, e3, hR⟩ := ok.fault_ok x m hxm
  refine i_aload_n (pc := 241) F dL_law_241 rfl ?_
  refine i_calliP (lv := [some (.ref b), some (.ref (qa 0)), some (.ref (qb 0)), some (.int (Int32.ofNat k))]) (cs := 137) (sl := 24829) (wr := WM tA qb m) (r := r) (As := []) (st := []) (q0 := 0) (pc := 242) F (c_X10_fault (q := qa) x.z x.d x.t x.c x.w x.s x.e x.f x.h x.b x.i x.j x.p x.q ) e1 dL_law_242 kM_L_29 ⟨rfl, rfl⟩ ⟨Nat.le_of_ble_eq_true rfl, Nat.le_of_ble_eq_true rfl⟩ rfl rfl rfl (Nat.le_of_ble_eq_true rfl) ⟨Nat.le_of_ble_eq_true rfl, Nat.le_of_ble_eq_true rfl⟩ rfl rfl rfl ?_
  refine i_aload_n (pc := 245) F dL_law_245 rfl ?_
  refine i_calliS (lv := [some (.ref b), some (.ref (qa 0)), some (.ref (qb 0)), some (.int (Int32.ofNat k))]) (cs := 137) (sl := 24829) (wr := WH tA qa x.z x.d x.t x.c x.w x.s x.e x.f x.h x.b x.i x.j x.p x.q) (r := u) (As := []) (st := [.int (r)]) (q0 := 0) (pc := 246) F (c_X11_fault (q := qb) m ) e2 dL_law_246 kM_L_32 ⟨rfl, rfl⟩ ⟨Nat.le_of_ble_eq_true rfl, Nat.le_of_ble_eq_true rfl⟩ rfl rfl rfl (Nat.le_of_ble_eq_true rfl) ⟨Nat.le_of_ble_eq_true rfl, Nat.le_of_ble_eq_true rfl⟩ rfl rfl rfl ?_
  refine i_icmp_eqT (tgt := 856) (pc := 249) F e3 dL_law_249 (by decide) ?_
  exact next x m qa qb hR
set_option maxHeartbeats 4000000 in
set_option maxRecDepth 100000 in
theorem law_4 {R : Cst → Ob → Prop} (ok : LawOK R) (F : zI l D tA RL cL_law 4 room_1 X) (hsc : zSc X b L xs) (h1 : vp_in (Int32.ofNat k + 1) L) (h2 : vp_in (Int32.ofNat k + 2) L) (h3 : vp_in (Int32.ofNat k + 3) L) (next : LoopAt R X D tA b k 856) : LoopAt R X D tA b k 254 := by
  intro x m qa qb hxm
  obtain ⟨r, u, e1, e2, e3, hR⟩ := ok.told_ok x m ((xs ((Int32.ofNat k) + 1).toNatClampNeg)) hxm
  refine i_aload_n (pc := 254) F dL_law_254 rfl ?_
  refine i_aload_n (pc := 255) F dL_law_255 rfl ?_
  refine i_iload_n (pc := 256) F dL_law_256 rfl ?_
  refine i_iconst (v := 1) (pc := 257) F dL_law_257 rfl ?_
  refine i_iadd (pc := 258) F dL_law_258 ?_
  refine i_sld (pc := 259) F hsc h1 dL_law_259 ?_
  refine i_calliP (lv := [some (.ref b), some (.ref (qa 0)), some (.ref (qb 0)), some (.int (Int32.ofNat k))]) (cs := 137) (sl := 24829) (wr := WM tA qb m) (r := r) (As := [.int (xs ((Int32.ofNat k) + 1).toNatClampNeg)]) (st := []) (q0 := 0) (pc := 260) F (c_X10_told (q := qa) x.z x.d x.t x.c x.w x.s x.e x.f x.h x.b x.i x.j x.p x.q ((xs ((Int32.ofNat k) + 1).toNatClampNeg))) e1 dL_law_260 kM_L_33 ⟨rfl, rfl⟩ ⟨Nat.le_of_ble_eq_true rfl, Nat.le_of_ble_eq_true rfl⟩ rfl rfl rfl (Nat.le_of_ble_eq_true rfl) ⟨Nat.le_of_ble_eq_true rfl, Nat.le_of_ble_eq_true rfl⟩ rfl rfl rfl ?_
  refine i_aload_n (pc := 263) F dL_law_263 rfl ?_
  refine i_aload_n (pc := 264) F dL_law_264 rfl ?_
  refine i_iload_n (pc := 265) F dL_law_265 rfl ?_
  refine i_iconst (v := 1) (pc := 266) F dL_law_266 rfl ?_
  refine i_iadd (pc := 267) F dL_law_267 ?_
  refine i_sld (pc := 268) F hsc h1 dL_law_268 ?_
  refine i_calliS (lv := [some (.ref b), some (.ref (qa 0)), some (.ref (qb 0)), some (.int (Int32.ofNat k))]) (cs := 137) (sl := 24829) (wr := WH tA qa x.z x.d x.t x.c x.w x.s x.e x.f x.h x.b x.i x.j x.p x.q) (r := u) (As := [.int (xs ((Int32.ofNat k) + 1).toNatClampNeg)]) (st := [.int (r)]) (q0 := 0) (pc := 269) F (c_X11_told (q := qb) m ((xs ((Int32.ofNat k) + 1).toNatClampNeg))) e2 dL_law_269 kM_L_37 ⟨rfl, rfl⟩ ⟨Nat.le_of_ble_eq_true rfl, Nat.le_of_ble_eq_true rfl⟩ rfl rfl rfl (Nat.le_of_ble_eq_true rfl) ⟨Nat.le_of_ble_eq_true rfl, Nat.le_of_ble_eq_true rfl⟩ rfl rfl rfl ?_
  refine i_icmp_eqT (tgt := 856) (pc := 272) F e3 dL_law_272 (by decide) ?_
  exact next x m qa qb hR
set_option maxHeartbeats 4000000 in
set_option maxRecDepth 100000 in
theorem law_5 {R : Cst → Ob → Prop} (ok : LawOK R) (F : zI l D tA RL cL_law 4 room_1 X) (hsc : zSc X b L xs) (h1 : vp_in (Int32.ofNat k + 1) L) (h2 : vp_in (Int32.ofNat k + 2) L) (h3 : vp_in (Int32.ofNat k + 3) L) (next : LoopAt R X D tA b k 856) : LoopAt R X D tA b k 277 := by
  intro x m qa qb hxm
  obtain ⟨r, u, e1, e2, e3, hR⟩ := ok.suit_ok x m ((xs ((Int32.ofNat k) + 1).toNatClampNeg)) ((xs ((Int32.ofNat k) + 2).toNatClampNeg)) hxm
  refine i_aload_n (pc := 277) F dL_law_277 rfl ?_
  refine i_aload_n (pc := 278) F dL_law_278 rfl ?_
  refine i_iload_n (pc := 279) F dL_law_279 rfl ?_
  refine i_iconst (v := 1) (pc := 280) F dL_law_280 rfl ?_
  refine i_iadd (pc := 281) F dL_law_281 ?_
  refine i_sld (pc := 282) F hsc h1 dL_law_282 ?_
  refine i_aload_n (pc := 283) F dL_law_283 rfl ?_
  refine i_iload_n (pc := 284) F dL_law_284 rfl ?_
  refine i_iconst (v := 2) (pc := 285) F dL_law_285 rfl ?_
  refine i_iadd (pc := 286) F dL_law_286 ?_
  refine i_sld (pc := 287) F hsc h2 dL_law_287 ?_
  refine i_calliP (lv := [some (.ref b), some (.ref (qa 0)), some (.ref (qb 0)), some (.int (Int32.ofNat k))]) (cs := 137) (sl := 24829) (wr := WM tA qb m) (r := r) (As := [.int (xs ((Int32.ofNat k) + 1).toNatClampNeg), .int (xs ((Int32.ofNat k) + 2).toNatClampNeg)]) (st := []) (q0 := 0) (pc := 288) F (c_X10_suit (q := qa) x.z x.d x.t x.c x.w x.s x.e x.f x.h x.b x.i x.j x.p x.q ((xs ((Int32.ofNat k) + 1).toNatClampNeg)) ((xs ((Int32.ofNat k) + 2).toNatClampNeg))) e1 dL_law_288 kM_L_38 ⟨rfl, rfl⟩ ⟨Nat.le_of_ble_eq_true rfl, Nat.le_of_ble_eq_true rfl⟩ rfl rfl rfl (Nat.le_of_ble_eq_true rfl) ⟨Nat.le_of_ble_eq_true rfl, Nat.le_of_ble_eq_true rfl⟩ rfl rfl rfl ?_
  refine i_aload_n (pc := 291) F dL_law_291 rfl ?_
  refine i_aload_n (pc := 292) F dL_law_292 rfl ?_
  refine i_iload_n (pc := 293) F dL_law_293 rfl ?_
  refine i_iconst (v := 1) (pc := 294) F dL_law_294 rfl ?_
  refine i_iadd (pc := 295) F dL_law_295 ?_
  refine i_sld (pc := 296) F hsc h1 dL_law_296 ?_
  refine i_aload_n (pc := 297) F dL_law_297 rfl ?_
  refine i_iload_n (pc := 298) F dL_law_298 rfl ?_
  refine i_iconst (v := 2) (pc := 299) F dL_law_299 rfl ?_
  refine i_iadd (pc := 300) F dL_law_300 ?_
  refine i_sld (pc := 301) F hsc h2 dL_law_301 ?_
  refine i_calliS (lv := [some (.ref b), some (.ref (qa 0)), some (.ref (qb 0)), some (.int (Int32.ofNat k))]) (cs := 137) (sl := 24829) (wr := WH tA qa x.z x.d x.t x.c x.w x.s x.e x.f x.h x.b x.i x.j x.p x.q) (r := u) (As := [.int (xs ((Int32.ofNat k) + 1).toNatClampNeg), .int (xs ((Int32.ofNat k) + 2).toNatClampNeg)]) (st := [.int (r)]) (q0 := 0) (pc := 302) F (c_X11_suit (q := qb) m ((xs ((Int32.ofNat k) + 1).toNatClampNeg)) ((xs ((Int32.ofNat k) + 2).toNatClampNeg))) e2 dL_law_302 kM_L_42 ⟨rfl, rfl⟩ ⟨Nat.le_of_ble_eq_true rfl, Nat.le_of_ble_eq_true rfl⟩ rfl rfl rfl (Nat.le_of_ble_eq_true rfl) ⟨Nat.le_of_ble_eq_true rfl, Nat.le_of_ble_eq_true rfl⟩ rfl rfl rfl ?_
  refine i_icmp_eqT (tgt := 856) (pc := 305) F e3 dL_law_305 (by decide) ?_
  exact next x m qa qb hR
set_option maxHeartbeats 4000000 in
set_option maxRecDepth 100000 in
theorem law_6 {R : Cst → Ob → Prop} (ok : LawOK R) (F : zI l D tA RL cL_law 4 room_1 X) (hsc : zSc X b L xs) (h1 : vp_in (Int32.ofNat k + 1) L) (h2 : vp_in (Int32.ofNat k + 2) L) (h3 : vp_in (Int32.ofNat k + 3) L) (next : LoopAt R X D tA b k 856) : LoopAt R X D tA b k 310 := by
  intro x m qa qb hxm
  obtain ⟨r, u, e1, e2, e3, hR⟩ := ok.witness_ok x m ((xs ((Int32.ofNat k) + 1).toNatClampNeg)) ((xs ((Int32.ofNat k) + 2).toNatClampNeg)) hxm
  refine i_aload_n (pc := 310) F dL_law_310 rfl ?_
  refine i_aload_n (pc := 311) F dL_law_311 rfl ?_
  refine i_iload_n (pc := 312) F dL_law_312 rfl ?_
  refine i_iconst (v := 1) (pc := 313) F dL_law_313 rfl ?_
  refine i_iadd (pc := 314) F dL_law_314 ?_
  refine i_sld (pc := 315) F hsc h1 dL_law_315 ?_
  refine i_aload_n (pc := 316) F dL_law_316 rfl ?_
  refine i_iload_n (pc := 317) F dL_law_317 rfl ?_
  refine i_iconst (v := 2) (pc := 318) F dL_law_318 rfl ?_
  refine i_iadd (pc := 319) F dL_law_319 ?_
  refine i_sld (pc := 320) F hsc h2 dL_law_320 ?_
  refine i_calliP (lv := [some (.ref b), some (.ref (qa 0)), some (.ref (qb 0)), some (.int (Int32.ofNat k))]) (cs := 137) (sl := 24829) (wr := WM tA qb m) (r := r) (As := [.int (xs ((Int32.ofNat k) + 1).toNatClampNeg), .int (xs ((Int32.ofNat k) + 2).toNatClampNeg)]) (st := []) (q0 := 0) (pc := 321) F (c_X10_witness (q := qa) x.z x.d x.t x.c x.w x.s x.e x.f x.h x.b x.i x.j x.p x.q ((xs ((Int32.ofNat k) + 1).toNatClampNeg)) ((xs ((Int32.ofNat k) + 2).toNatClampNeg))) e1 dL_law_321 kM_L_43 ⟨rfl, rfl⟩ ⟨Nat.le_of_ble_eq_true rfl, Nat.le_of_ble_eq_true rfl⟩ rfl rfl rfl (Nat.le_of_ble_eq_true rfl) ⟨Nat.le_of_ble_eq_true rfl, Nat.le_of_ble_eq_true rfl⟩ rfl rfl rfl ?_
  refine i_aload_n (pc := 324) F dL_law_324 rfl ?_
  refine i_aload_n (pc := 325) F dL_law_325 rfl ?_
  refine i_iload_n (pc := 326) F dL_law_326 rfl ?_
  refine i_iconst (v := 1) (pc := 327) F dL_law_327 rfl ?_
  refine i_iadd (pc := 328) F dL_law_328 ?_
  refine i_sld (pc := 329) F hsc h1 dL_law_329 ?_
  refine i_aload_n (pc := 330) F dL_law_330 rfl ?_
  refine i_iload_n (pc := 331) F dL_law_331 rfl ?_
  refine i_iconst (v := 2) (pc := 332) F dL_law_332 rfl ?_
  refine i_iadd (pc := 333) F dL_law_333 ?_
  refine i_sld (pc := 334) F hsc h2 dL_law_334 ?_
  refine i_calliS (lv := [some (.ref b), some (.ref (qa 0)), some (.ref (qb 0)), some (.int (Int32.ofNat k))]) (cs := 137) (sl := 24829) (wr := WH tA qa x.z x.d x.t x.c x.w x.s x.e x.f x.h x.b x.i x.j x.p x.q) (r := u) (As := [.int (xs ((Int32.ofNat k) + 1).toNatClampNeg), .int (xs ((Int32.ofNat k) + 2).toNatClampNeg)]) (st := [.int (r)]) (q0 := 0) (pc := 335) F (c_X11_witness (q := qb) m ((xs ((Int32.ofNat k) + 1).toNatClampNeg)) ((xs ((Int32.ofNat k) + 2).toNatClampNeg))) e2 dL_law_335 kM_L_46 ⟨rfl, rfl⟩ ⟨Nat.le_of_ble_eq_true rfl, Nat.le_of_ble_eq_true rfl⟩ rfl rfl rfl (Nat.le_of_ble_eq_true rfl) ⟨Nat.le_of_ble_eq_true rfl, Nat.le_of_ble_eq_true rfl⟩ rfl rfl rfl ?_
  refine i_icmp_eqT (tgt := 856) (pc := 338) F e3 dL_law_338 (by decide) ?_
  exact next x m qa qb hR
set_option maxHeartbeats 4000000 in
set_option maxRecDepth 100000 in
theorem law_7 {R : Cst → Ob → Prop} (ok : LawOK R) (F : zI l D tA RL cL_law 4 room_1 X) (hsc : zSc X b L xs) (h1 : vp_in (Int32.ofNat k + 1) L) (h2 : vp_in (Int32.ofNat k + 2) L) (h3 : vp_in (Int32.ofNat k + 3) L) (next : LoopAt R X D tA b k 856) : LoopAt R X D tA b k 343 := by
  intro x m qa qb hxm
  obtain ⟨r, u, e1, e2, e3, hR⟩ := ok.weight_ok x m ((xs ((Int32.ofNat k) + 1).toNatClampNeg)) ((xs ((Int32.ofNat k) + 2).toNatClampNeg)) hxm
  refine i_aload_n (pc := 343) F dL_law_343 rfl ?_
  refine i_aload_n (pc := 344) F dL_law_344 rfl ?_
  refine i_iload_n (pc := 345) F dL_law_345 rfl ?_
  refine i_iconst (v := 1) (pc := 346) F dL_law_346 rfl ?_
  refine i_iadd (pc := 347) F dL_law_347 ?_
  refine i_sld (pc := 348) F hsc h1 dL_law_348 ?_
  refine i_aload_n (pc := 349) F dL_law_349 rfl ?_
  refine i_iload_n (pc := 350) F dL_law_350 rfl ?_
  refine i_iconst (v := 2) (pc := 351) F dL_law_351 rfl ?_
  refine i_iadd (pc := 352) F dL_law_352 ?_
  refine i_sld (pc := 353) F hsc h2 dL_law_353 ?_
  refine i_calliP (lv := [some (.ref b), some (.ref (qa 0)), some (.ref (qb 0)), some (.int (Int32.ofNat k))]) (cs := 137) (sl := 24829) (wr := WM tA qb m) (r := r) (As := [.int (xs ((Int32.ofNat k) + 1).toNatClampNeg), .int (xs ((Int32.ofNat k) + 2).toNatClampNeg)]) (st := []) (q0 := 0) (pc := 354) F (c_X10_weight (q := qa) x.z x.d x.t x.c x.w x.s x.e x.f x.h x.b x.i x.j x.p x.q ((xs ((Int32.ofNat k) + 1).toNatClampNeg)) ((xs ((Int32.ofNat k) + 2).toNatClampNeg))) e1 dL_law_354 kM_L_47 ⟨rfl, rfl⟩ ⟨Nat.le_of_ble_eq_true rfl, Nat.le_of_ble_eq_true rfl⟩ rfl rfl rfl (Nat.le_of_ble_eq_true rfl) ⟨Nat.le_of_ble_eq_true rfl, Nat.le_of_ble_eq_true rfl⟩ rfl rfl rfl ?_
  refine i_aload_n (pc := 357) F dL_law_357 rfl ?_
  refine i_aload_n (pc := 358) F dL_law_358 rfl ?_
  refine i_iload_n (pc := 359) F dL_law_359 rfl ?_
  refine i_iconst (v := 1) (pc := 360) F dL_law_360 rfl ?_
  refine i_iadd (pc := 361) F dL_law_361 ?_
  refine i_sld (pc := 362) F hsc h1 dL_law_362 ?_
  refine i_aload_n (pc := 363) F dL_law_363 rfl ?_
  refine i_iload_n (pc := 364) F dL_law_364 rfl ?_
  refine i_iconst (v := 2) (pc := 365) F dL_law_365 rfl ?_
  refine i_iadd (pc := 366) F dL_law_366 ?_
  refine i_sld (pc := 367) F hsc h2 dL_law_367 ?_
  refine i_calliS (lv := [some (.ref b), some (.ref (qa 0)), some (.ref (qb 0)), some (.int (Int32.ofNat k))]) (cs := 137) (sl := 24829) (wr := WH tA qa x.z x.d x.t x.c x.w x.s x.e x.f x.h x.b x.i x.j x.p x.q) (r := u) (As := [.int (xs ((Int32.ofNat k) + 1).toNatClampNeg), .int (xs ((Int32.ofNat k) + 2).toNatClampNeg)]) (st := [.int (r)]) (q0 := 0) (pc := 368) F (c_X11_weight (q := qb) m ((xs ((Int32.ofNat k) + 1).toNatClampNeg)) ((xs ((Int32.ofNat k) + 2).toNatClampNeg))) e2 dL_law_368 kM_L_50 ⟨rfl, rfl⟩ ⟨Nat.le_of_ble_eq_true rfl, Nat.le_of_ble_eq_true rfl⟩ rfl rfl rfl (Nat.le_of_ble_eq_true rfl) ⟨Nat.le_of_ble_eq_true rfl, Nat.le_of_ble_eq_true rfl⟩ rfl rfl rfl ?_
  refine i_icmp_eqT (tgt := 856) (pc := 371) F e3 dL_law_371 (by decide) ?_
  exact next x m qa qb hR
set_option maxHeartbeats 4000000 in
set_option maxRecDepth 100000 in
theorem law_8 {R : Cst → Ob → Prop} (ok : LawOK R) (F : zI l D tA RL cL_law 4 room_1 X) (hsc : zSc X b L xs) (h1 : vp_in (Int32.ofNat k + 1) L) (h2 : vp_in (Int32.ofNat k + 2) L) (h3 : vp_in (Int32.ofNat k + 3) L) (next : LoopAt R X D tA b k 856) : LoopAt R X D tA b k 376 := by
  intro x m qa qb hxm
  obtain ⟨r, u, e1, e2, e3, hR⟩ := ok.say_ok x m ((xs ((Int32.ofNat k) + 1).toNatClampNeg)) hxm
  refine i_aload_n (pc := 376) F dL_law_376 rfl ?_
  refine i_aload_n (pc := 377) F dL_law_377 rfl ?_
  refine i_iload_n (pc := 378) F dL_law_378 rfl ?_
  refine i_iconst (v := 1) (pc := 379) F dL_law_379 rfl ?_
  refine i_iadd (pc := 380) F dL_law_380 ?_
  refine i_sld (pc := 381) F hsc h1 dL_law_381 ?_
  refine i_calliP (lv := [some (.ref b), some (.ref (qa 0)), some (.ref (qb 0)), some (.int (Int32.ofNat k))]) (cs := 137) (sl := 24829) (wr := WM tA qb m) (r := r) (As := [.int (xs ((Int32.ofNat k) + 1).toNatClampNeg)]) (st := []) (q0 := 0) (pc := 382) F (c_X10_say (q := qa) x.z x.d x.t x.c x.w x.s x.e x.f x.h x.b x.i x.j x.p x.q ((xs ((Int32.ofNat k) + 1).toNatClampNeg))) e1 dL_law_382 kM_L_51 ⟨rfl, rfl⟩ ⟨Nat.le_of_ble_eq_true rfl, Nat.le_of_ble_eq_true rfl⟩ rfl rfl rfl (Nat.le_of_ble_eq_true rfl) ⟨Nat.le_of_ble_eq_true rfl, Nat.le_of_ble_eq_true rfl⟩ rfl rfl rfl ?_
  refine i_aload_n (pc := 385) F dL_law_385 rfl ?_
  refine i_aload_n (pc := 386) F dL_law_386 rfl ?_
  refine i_iload_n (pc := 387) F dL_law_387 rfl ?_
  refine i_iconst (v := 1) (pc := 388) F dL_law_388 rfl ?_
  refine i_iadd (pc := 389) F dL_law_389 ?_
  refine i_sld (pc := 390) F hsc h1 dL_law_390 ?_
  refine i_calliS (lv := [some (.ref b), some (.ref (qa 0)), some (.ref (qb 0)), some (.int (Int32.ofNat k))]) (cs := 137) (sl := 24829) (wr := WH tA qa x.z x.d x.t x.c x.w (r.2) x.e x.f x.h x.b x.i x.j x.p x.q) (r := u) (As := [.int (xs ((Int32.ofNat k) + 1).toNatClampNeg)]) (st := [.int (r.1)]) (q0 := 0) (pc := 391) F (c_X11_say (q := qb) m ((xs ((Int32.ofNat k) + 1).toNatClampNeg))) e2 dL_law_391 kM_L_54 ⟨rfl, rfl⟩ ⟨Nat.le_of_ble_eq_true rfl, Nat.le_of_ble_eq_true rfl⟩ rfl rfl rfl (Nat.le_of_ble_eq_true rfl) ⟨Nat.le_of_ble_eq_true rfl, Nat.le_of_ble_eq_true rfl⟩ rfl rfl rfl ?_
  refine i_icmp_eqT (tgt := 856) (pc := 394) F e3 dL_law_394 (by decide) ?_
  exact next (x.z, x.d, x.t, x.c, x.w, r.2, x.e, x.f, x.h, x.b, x.i, x.j, x.p, x.q) u.2 qa qb hR
set_option maxHeartbeats 4000000 in
set_option maxRecDepth 100000 in
theorem law_9 {R : Cst → Ob → Prop} (ok : LawOK R) (F : zI l D tA RL cL_law 4 room_1 X) (hsc : zSc X b L xs) (h1 : vp_in (Int32.ofNat k + 1) L) (h2 : vp_in (Int32.ofNat k + 2) L) (h3 : vp_in (Int32.ofNat k + 3) L) (next : LoopAt R X D tA b k 856) : LoopAt R X D tA b k 399 := by
  intro x m qa qb hxm
  by_cases hx : xs (Int32.ofNat k + 2).toNatClampNeg = 0
  · obtain ⟨r, u, e1, e2, e3, hR⟩ := ok.strike_ok x m ((xs ((Int32.ofNat k) + 1).toNatClampNeg)) (0) hxm (Or.inl rfl)
    refine i_aload_n (pc := 399) F dL_law_399 rfl ?_
    refine i_aload_n (pc := 400) F dL_law_400 rfl ?_
    refine i_iload_n (pc := 401) F dL_law_401 rfl ?_
    refine i_iconst (v := 1) (pc := 402) F dL_law_402 rfl ?_
    refine i_iadd (pc := 403) F dL_law_403 ?_
    refine i_sld (pc := 404) F hsc h1 dL_law_404 ?_
    refine i_aload_n (pc := 405) F dL_law_405 rfl ?_
    refine i_iload_n (pc := 406) F dL_law_406 rfl ?_
    refine i_iconst (v := 2) (pc := 407) F dL_law_407 rfl ?_
    refine i_iadd (pc := 408) F dL_law_408 ?_
    refine i_sld (pc := 409) F hsc h2 dL_law_409 ?_
    refine i_if_eqT (tgt := 417) (pc := 410) F dL_law_410 (by decide) hx ?_
    refine i_iconst (v := 0) (pc := 417) F dL_law_417 rfl ?_
    refine i_calliP (lv := [some (.ref b), some (.ref (qa 0)), some (.ref (qb 0)), some (.int (Int32.ofNat k))]) (cs := 137) (sl := 24829) (wr := WM tA qb m) (r := r) (As := [.int (xs ((Int32.ofNat k) + 1).toNatClampNeg), .int 0]) (st := []) (q0 := 0) (pc := 418) F (c_X10_strike (q := qa) x.z x.d x.t x.c x.w x.s x.e x.f x.h x.b x.i x.j x.p x.q ((xs ((Int32.ofNat k) + 1).toNatClampNeg)) (0)) e1 dL_law_418 kM_L_55 ⟨rfl, rfl⟩ ⟨Nat.le_of_ble_eq_true rfl, Nat.le_of_ble_eq_true rfl⟩ rfl rfl rfl (Nat.le_of_ble_eq_true rfl) ⟨Nat.le_of_ble_eq_true rfl, Nat.le_of_ble_eq_true rfl⟩ rfl rfl rfl ?_
    refine i_aload_n (pc := 421) F dL_law_421 rfl ?_
    refine i_aload_n (pc := 422) F dL_law_422 rfl ?_
    refine i_iload_n (pc := 423) F dL_law_423 rfl ?_
    refine i_iconst (v := 1) (pc := 424) F dL_law_424 rfl ?_
    refine i_iadd (pc := 425) F dL_law_425 ?_
    refine i_sld (pc := 426) F hsc h1 dL_law_426 ?_
    refine i_aload_n (pc := 427) F dL_law_427 rfl ?_
    refine i_iload_n (pc := 428) F dL_law_428 rfl ?_
    refine i_iconst (v := 2) (pc := 429) F dL_law_429 rfl ?_
    refine i_iadd (pc := 430) F dL_law_430 ?_
    refine i_sld (pc := 431) F hsc h2 dL_law_431 ?_
    refine i_if_eqT (tgt := 439) (pc := 432) F dL_law_432 (by decide) hx ?_
    refine i_iconst (v := 0) (pc := 439) F dL_law_439 rfl ?_
    refine i_calliS (lv := [some (.ref b), some (.ref (qa 0)), some (.ref (qb 0)), some (.int (Int32.ofNat k))]) (cs := 137) (sl := 24829) (wr := WH tA qa x.z x.d x.t x.c x.w (r.2) x.e x.f x.h x.b x.i x.j x.p x.q) (r := u) (As := [.int (xs ((Int32.ofNat k) + 1).toNatClampNeg), .int 0]) (st := [.int (r.1)]) (q0 := 0) (pc := 440) F (c_X11_strike (q := qb) m ((xs ((Int32.ofNat k) + 1).toNatClampNeg)) (0)) e2 dL_law_440 kM_L_59 ⟨rfl, rfl⟩ ⟨Nat.le_of_ble_eq_true rfl, Nat.le_of_ble_eq_true rfl⟩ rfl rfl rfl (Nat.le_of_ble_eq_true rfl) ⟨Nat.le_of_ble_eq_true rfl, Nat.le_of_ble_eq_true rfl⟩ rfl rfl rfl ?_
    refine i_icmp_eqT (tgt := 856) (pc := 443) F e3 dL_law_443 (by decide) ?_
    exact next (x.z, x.d, x.t, x.c, x.w, r.2, x.e, x.f, x.h, x.b, x.i, x.j, x.p, x.q) u.2 qa qb hR
  · obtain ⟨r, u, e1, e2, e3, hR⟩ := ok.strike_ok x m ((xs ((Int32.ofNat k) + 1).toNatClampNeg)) (1) hxm (Or.inr rfl)
    refine i_aload_n (pc := 399) F dL_law_399 rfl ?_
    refine i_aload_n (pc := 400) F dL_law_400 rfl ?_
    refine i_iload_n (pc := 401) F dL_law_401 rfl ?_
    refine i_iconst (v := 1) (pc := 402) F dL_law_402 rfl ?_
    refine i_iadd (pc := 403) F dL_law_403 ?_
    refine i_sld (pc := 404) F hsc h1 dL_law_404 ?_
    refine i_aload_n (pc := 405) F dL_law_405 rfl ?_
    refine i_iload_n (pc := 406) F dL_law_406 rfl ?_
    refine i_iconst (v := 2) (pc := 407) F dL_law_407 rfl ?_
    refine i_iadd (pc := 408) F dL_law_408 ?_
    refine i_sld (pc := 409) F hsc h2 dL_law_409 ?_
    refine i_if_eqF (tgt := 417) (pc := 410) F dL_law_410 (by decide) hx ?_
    refine i_iconst (v := 1) (pc := 413) F dL_law_413 rfl ?_
    refine i_goto (tgt := 418) (pc := 414) F dL_law_414 (by decide) ?_
    refine i_calliP (lv := [some (.ref b), some (.ref (qa 0)), some (.ref (qb 0)), some (.int (Int32.ofNat k))]) (cs := 137) (sl := 24829) (wr := WM tA qb m) (r := r) (As := [.int (xs ((Int32.ofNat k) + 1).toNatClampNeg), .int 1]) (st := []) (q0 := 0) (pc := 418) F (c_X10_strike (q := qa) x.z x.d x.t x.c x.w x.s x.e x.f x.h x.b x.i x.j x.p x.q ((xs ((Int32.ofNat k) + 1).toNatClampNeg)) (1)) e1 dL_law_418 kM_L_55 ⟨rfl, rfl⟩ ⟨Nat.le_of_ble_eq_true rfl, Nat.le_of_ble_eq_true rfl⟩ rfl rfl rfl (Nat.le_of_ble_eq_true rfl) ⟨Nat.le_of_ble_eq_true rfl, Nat.le_of_ble_eq_true rfl⟩ rfl rfl rfl ?_
    refine i_aload_n (pc := 421) F dL_law_421 rfl ?_
    refine i_aload_n (pc := 422) F dL_law_422 rfl ?_
    refine i_iload_n (pc := 423) F dL_law_423 rfl ?_
    refine i_iconst (v := 1) (pc := 424) F dL_law_424 rfl ?_
    refine i_iadd (pc := 425) F dL_law_425 ?_
    refine i_sld (pc := 426) F hsc h1 dL_law_426 ?_
    refine i_aload_n (pc := 427) F dL_law_427 rfl ?_
    refine i_iload_n (pc := 428) F dL_law_428 rfl ?_
    refine i_iconst (v := 2) (pc := 429) F dL_law_429 rfl ?_
    refine i_iadd (pc := 430) F dL_law_430 ?_
    refine i_sld (pc := 431) F hsc h2 dL_law_431 ?_
    refine i_if_eqF (tgt := 439) (pc := 432) F dL_law_432 (by decide) hx ?_
    refine i_iconst (v := 1) (pc := 435) F dL_law_435 rfl ?_
    refine i_goto (tgt := 440) (pc := 436) F dL_law_436 (by decide) ?_
    refine i_calliS (lv := [some (.ref b), some (.ref (qa 0)), some (.ref (qb 0)), some (.int (Int32.ofNat k))]) (cs := 137) (sl := 24829) (wr := WH tA qa x.z x.d x.t x.c x.w (r.2) x.e x.f x.h x.b x.i x.j x.p x.q) (r := u) (As := [.int (xs ((Int32.ofNat k) + 1).toNatClampNeg), .int 1]) (st := [.int (r.1)]) (q0 := 0) (pc := 440) F (c_X11_strike (q := qb) m ((xs ((Int32.ofNat k) + 1).toNatClampNeg)) (1)) e2 dL_law_440 kM_L_59 ⟨rfl, rfl⟩ ⟨Nat.le_of_ble_eq_true rfl, Nat.le_of_ble_eq_true rfl⟩ rfl rfl rfl (Nat.le_of_ble_eq_true rfl) ⟨Nat.le_of_ble_eq_true rfl, Nat.le_of_ble_eq_true rfl⟩ rfl rfl rfl ?_
    refine i_icmp_eqT (tgt := 856) (pc := 443) F e3 dL_law_443 (by decide) ?_
    exact next (x.z, x.d, x.t, x.c, x.w, r.2, x.e, x.f, x.h, x.b, x.i, x.j, x.p, x.q) u.2 qa qb hR
set_option maxHeartbeats 4000000 in
set_option maxRecDepth 100000 in
theorem law_10 {R : Cst → Ob → Prop} (ok : LawOK R) (F : zI l D tA RL cL_law 4 room_1 X) (hsc : zSc X b L xs) (h1 : vp_in (Int32.ofNat k + 1) L) (h2 : vp_in (Int32.ofNat k + 2) L) (h3 : vp_in (Int32.ofNat k + 3) L) (next : LoopAt R X D tA b k 856) : LoopAt R X D tA b k 448 := by
  intro x m qa qb hxm
  obtain ⟨r, u, e1, e2, e3, hR⟩ := ok.dusk_ok x m ((xs ((Int32.ofNat k) + 1).toNatClampNeg)) hxm
  refine i_aload_n (pc := 448) F dL_law_448 rfl ?_
  refine i_aload_n (pc := 449) F dL_law_449 rfl ?_
  refine i_iload_n (pc := 450) F dL_law_450 rfl ?_
  refine i_iconst (v := 1) (pc := 451) F dL_law_451 rfl ?_
  refine i_iadd (pc := 452) F dL_law_452 ?_
  refine i_sld (pc := 453) F hsc h1 dL_law_453 ?_
  refine i_calliP (lv := [some (.ref b), some (.ref (qa 0)), some (.ref (qb 0)), some (.int (Int32.ofNat k))]) (cs := 137) (sl := 24829) (wr := WM tA qb m) (r := r) (As := [.int (xs ((Int32.ofNat k) + 1).toNatClampNeg)]) (st := []) (q0 := 0) (pc := 454) F (c_X10_dusk (q := qa) x.z x.d x.t x.c x.w x.s x.e x.f x.h x.b x.i x.j x.p x.q ((xs ((Int32.ofNat k) + 1).toNatClampNeg))) e1 dL_law_454 kM_L_60 ⟨rfl, rfl⟩ ⟨Nat.le_of_ble_eq_true rfl, Nat.le_of_ble_eq_true rfl⟩ rfl rfl rfl (Nat.le_of_ble_eq_true rfl) ⟨Nat.le_of_ble_eq_true rfl, Nat.le_of_ble_eq_true rfl⟩ rfl rfl rfl ?_
  refine i_aload_n (pc := 457) F dL_law_457 rfl ?_
  refine i_aload_n (pc := 458) F dL_law_458 rfl ?_
  refine i_iload_n (pc := 459) F dL_law_459 rfl ?_
  refine i_iconst (v := 1) (pc := 460) F dL_law_460 rfl ?_
  refine i_iadd (pc := 461) F dL_law_461 ?_
  refine i_sld (pc := 462) F hsc h1 dL_law_462 ?_
  refine i_calliS (lv := [some (.ref b), some (.ref (qa 0)), some (.ref (qb 0)), some (.int (Int32.ofNat k))]) (cs := 137) (sl := 24829) (wr := WH tA qa x.z x.d x.t x.c x.w (r.2) x.e x.f x.h x.b x.i x.j x.p x.q) (r := u) (As := [.int (xs ((Int32.ofNat k) + 1).toNatClampNeg)]) (st := [.int (r.1)]) (q0 := 0) (pc := 463) F (c_X11_dusk (q := qb) m ((xs ((Int32.ofNat k) + 1).toNatClampNeg))) e2 dL_law_463 kM_L_63 ⟨rfl, rfl⟩ ⟨Nat.le_of_ble_eq_true rfl, Nat.le_of_ble_eq_true rfl⟩ rfl rfl rfl (Nat.le_of_ble_eq_true rfl) ⟨Nat.le_of_ble_eq_true rfl, Nat.le_of_ble_eq_true rfl⟩ rfl rfl rfl ?_
  refine i_icmp_eqT (tgt := 856) (pc := 466) F e3 dL_law_466 (by decide) ?_
  exact next (x.z, x.d, x.t, x.c, x.w, r.2, x.e, x.f, x.h, x.b, x.i, x.j, x.p, x.q) u.2 qa qb hR
set_option maxHeartbeats 4000000 in
set_option maxRecDepth 100000 in
theorem law_11 {R : Cst → Ob → Prop} (ok : LawOK R) (F : zI l D tA RL cL_law 4 room_1 X) (hsc : zSc X b L xs) (h1 : vp_in (Int32.ofNat k + 1) L) (h2 : vp_in (Int32.ofNat k + 2) L) (h3 : vp_in (Int32.ofNat k + 3) L) (next : LoopAt R X D tA b k 856) : LoopAt R X D tA b k 471 := by
  intro x m qa qb hxm
  obtain ⟨r, u, e1, e2, e3, hR⟩ := ok.drift_ok x m ((xs ((Int32.ofNat k) + 1).toNatClampNeg)) ((xs ((Int32.ofNat k) + 2).toNatClampNeg)) hxm
  refine i_aload_n (pc := 471) F dL_law_471 rfl ?_
  refine i_aload_n (pc := 472) F dL_law_472 rfl ?_
  refine i_iload_n (pc := 473) F dL_law_473 rfl ?_
  refine i_iconst (v := 1) (pc := 474) F dL_law_474 rfl ?_
  refine i_iadd (pc := 475) F dL_law_475 ?_
  refine i_sld (pc := 476) F hsc h1 dL_law_476 ?_
  refine i_aload_n (pc := 477) F dL_law_477 rfl ?_
  refine i_iload_n (pc := 478) F dL_law_478 rfl ?_
  refine i_iconst (v := 2) (pc := 479) F dL_law_479 rfl ?_
  refine i_iadd (pc := 480) F dL_law_480 ?_
  refine i_sld (pc := 481) F hsc h2 dL_law_481 ?_
  refine i_calliP (lv := [some (.ref b), some (.ref (qa 0)), some (.ref (qb 0)), some (.int (Int32.ofNat k))]) (cs := 137) (sl := 24829) (wr := WM tA qb m) (r := r) (As := [.int (xs ((Int32.ofNat k) + 1).toNatClampNeg), .int (xs ((Int32.ofNat k) + 2).toNatClampNeg)]) (st := []) (q0 := 0) (pc := 482) F (c_X10_drift (q := qa) x.z x.d x.t x.c x.w x.s x.e x.f x.h x.b x.i x.j x.p x.q ((xs ((Int32.ofNat k) + 1).toNatClampNeg)) ((xs ((Int32.ofNat k) + 2).toNatClampNeg))) e1 dL_law_482 kM_L_64 ⟨rfl, rfl⟩ ⟨Nat.le_of_ble_eq_true rfl, Nat.le_of_ble_eq_true rfl⟩ rfl rfl rfl (Nat.le_of_ble_eq_true rfl) ⟨Nat.le_of_ble_eq_true rfl, Nat.le_of_ble_eq_true rfl⟩ rfl rfl rfl ?_
  refine i_aload_n (pc := 485) F dL_law_485 rfl ?_
  refine i_aload_n (pc := 486) F dL_law_486 rfl ?_
  refine i_iload_n (pc := 487) F dL_law_487 rfl ?_
  refine i_iconst (v := 1) (pc := 488) F dL_law_488 rfl ?_
  refine i_iadd (pc := 489) F dL_law_489 ?_
  refine i_sld (pc := 490) F hsc h1 dL_law_490 ?_
  refine i_aload_n (pc := 491) F dL_law_491 rfl ?_
  refine i_iload_n (pc := 492) F dL_law_492 rfl ?_
  refine i_iconst (v := 2) (pc := 493) F dL_law_493 rfl ?_
  refine i_iadd (pc := 494) F dL_law_494 ?_
  refine i_sld (pc := 495) F hsc h2 dL_law_495 ?_
  refine i_calliS (lv := [some (.ref b), some (.ref (qa 0)), some (.ref (qb 0)), some (.int (Int32.ofNat k))]) (cs := 137) (sl := 24829) (wr := WH tA qa x.z x.d x.t x.c x.w (r.2) x.e x.f x.h x.b x.i x.j x.p x.q) (r := u) (As := [.int (xs ((Int32.ofNat k) + 1).toNatClampNeg), .int (xs ((Int32.ofNat k) + 2).toNatClampNeg)]) (st := [.int (r.1)]) (q0 := 0) (pc := 496) F (c_X11_drift (q := qb) m ((xs ((Int32.ofNat k) + 1).toNatClampNeg)) ((xs ((Int32.ofNat k) + 2).toNatClampNeg))) e2 dL_law_496 kM_L_67 ⟨rfl, rfl⟩ ⟨Nat.le_of_ble_eq_true rfl, Nat.le_of_ble_eq_true rfl⟩ rfl rfl rfl (Nat.le_of_ble_eq_true rfl) ⟨Nat.le_of_ble_eq_true rfl, Nat.le_of_ble_eq_true rfl⟩ rfl rfl rfl ?_
  refine i_icmp_eqT (tgt := 856) (pc := 499) F e3 dL_law_499 (by decide) ?_
  exact next (x.z, x.d, x.t, x.c, x.w, r.2, x.e, x.f, x.h, x.b, x.i, x.j, x.p, x.q) u.2 qa qb hR
set_option maxHeartbeats 4000000 in
set_option maxRecDepth 100000 in
theorem law_12 {R : Cst → Ob → Prop} (ok : LawOK R) (F : zI l D tA RL cL_law 4 room_1 X) (hsc : zSc X b L xs) (h1 : vp_in (Int32.ofNat k + 1) L) (h2 : vp_in (Int32.ofNat k + 2) L) (h3 : vp_in (Int32.ofNat k + 3) L) (next : LoopAt R X D tA b k 856) : LoopAt R X D tA b k 504 := by
  intro x m qa qb hxm
  obtain ⟨r, u, e1, e2, e3, hR⟩ := ok.begin_ok x m hxm
  refine i_aload_n (pc := 504) F dL_law_504 rfl ?_
  refine i_calliP (lv := [some (.ref b), some (.ref (qa 0)), some (.ref (qb 0)), some (.int (Int32.ofNat k))]) (cs := 137) (sl := 24829) (wr := WM tA qb m) (r := r) (As := []) (st := []) (q0 := 0) (pc := 505) F (c_X10_begin (q := qa) x.z x.d x.t x.c x.w x.s x.e x.f x.h x.b x.i x.j x.p x.q ) e1 dL_law_505 kM_L_68 ⟨rfl, rfl⟩ ⟨Nat.le_of_ble_eq_true rfl, Nat.le_of_ble_eq_true rfl⟩ rfl rfl rfl (Nat.le_of_ble_eq_true rfl) ⟨Nat.le_of_ble_eq_true rfl, Nat.le_of_ble_eq_true rfl⟩ rfl rfl rfl ?_
  refine i_aload_n (pc := 508) F dL_law_508 rfl ?_
  refine i_calliS (lv := [some (.ref b), some (.ref (qa 0)), some (.ref (qb 0)), some (.int (Int32.ofNat k))]) (cs := 137) (sl := 24829) (wr := WH tA qa x.z x.d x.t x.c x.w (r.2) x.e x.f x.h x.b x.i x.j x.p x.q) (r := u) (As := []) (st := [.int (r.1)]) (q0 := 0) (pc := 509) F (c_X11_begin (q := qb) m ) e2 dL_law_509 kM_L_71 ⟨rfl, rfl⟩ ⟨Nat.le_of_ble_eq_true rfl, Nat.le_of_ble_eq_true rfl⟩ rfl rfl rfl (Nat.le_of_ble_eq_true rfl) ⟨Nat.le_of_ble_eq_true rfl, Nat.le_of_ble_eq_true rfl⟩ rfl rfl rfl ?_
  refine i_icmp_eqT (tgt := 856) (pc := 512) F e3 dL_law_512 (by decide) ?_
  exact next (x.z, x.d, x.t, x.c, x.w, r.2, x.e, x.f, x.h, x.b, x.i, x.j, x.p, x.q) u.2 qa qb hR
set_option maxHeartbeats 4000000 in
set_option maxRecDepth 100000 in
theorem law_13 {R : Cst → Ob → Prop} (ok : LawOK R) (F : zI l D tA RL cL_law 4 room_1 X) (hsc : zSc X b L xs) (h1 : vp_in (Int32.ofNat k + 1) L) (h2 : vp_in (Int32.ofNat k + 2) L) (h3 : vp_in (Int32.ofNat k + 3) L) (next : LoopAt R X D tA b k 856) : LoopAt R X D tA b k 517 := by
  intro x m qa qb hxm
  obtain ⟨r, u, e1, e2, e3, hR⟩ := ok.most_ok x m ((xs ((Int32.ofNat k) + 1).toNatClampNeg)) ((xs ((Int32.ofNat k) + 2).toNatClampNeg)) hxm
  refine i_aload_n (pc := 517) F dL_law_517 rfl ?_
  refine i_aload_n (pc := 518) F dL_law_518 rfl ?_
  refine i_iload_n (pc := 519) F dL_law_519 rfl ?_
  refine i_iconst (v := 1) (pc := 520) F dL_law_520 rfl ?_
  refine i_iadd (pc := 521) F dL_law_521 ?_
  refine i_sld (pc := 522) F hsc h1 dL_law_522 ?_
  refine i_aload_n (pc := 523) F dL_law_523 rfl ?_
  refine i_iload_n (pc := 524) F dL_law_524 rfl ?_
  refine i_iconst (v := 2) (pc := 525) F dL_law_525 rfl ?_
  refine i_iadd (pc := 526) F dL_law_526 ?_
  refine i_sld (pc := 527) F hsc h2 dL_law_527 ?_
  refine i_calliP (lv := [some (.ref b), some (.ref (qa 0)), some (.ref (qb 0)), some (.int (Int32.ofNat k))]) (cs := 137) (sl := 24829) (wr := WM tA qb m) (r := r) (As := [.int (xs ((Int32.ofNat k) + 1).toNatClampNeg), .int (xs ((Int32.ofNat k) + 2).toNatClampNeg)]) (st := []) (q0 := 0) (pc := 528) F (c_X10_most (q := qa) x.z x.d x.t x.c x.w x.s x.e x.f x.h x.b x.i x.j x.p x.q ((xs ((Int32.ofNat k) + 1).toNatClampNeg)) ((xs ((Int32.ofNat k) + 2).toNatClampNeg))) e1 dL_law_528 kM_L_72 ⟨rfl, rfl⟩ ⟨Nat.le_of_ble_eq_true rfl, Nat.le_of_ble_eq_true rfl⟩ rfl rfl rfl (Nat.le_of_ble_eq_true rfl) ⟨Nat.le_of_ble_eq_true rfl, Nat.le_of_ble_eq_true rfl⟩ rfl rfl rfl ?_
  refine i_aload_n (pc := 531) F dL_law_531 rfl ?_
  refine i_aload_n (pc := 532) F dL_law_532 rfl ?_
  refine i_iload_n (pc := 533) F dL_law_533 rfl ?_
  refine i_iconst (v := 1) (pc := 534) F dL_law_534 rfl ?_
  refine i_iadd (pc := 535) F dL_law_535 ?_
  refine i_sld (pc := 536) F hsc h1 dL_law_536 ?_
  refine i_aload_n (pc := 537) F dL_law_537 rfl ?_
  refine i_iload_n (pc := 538) F dL_law_538 rfl ?_
  refine i_iconst (v := 2) (pc := 539) F dL_law_539 rfl ?_
  refine i_iadd (pc := 540) F dL_law_540 ?_
  refine i_sld (pc := 541) F hsc h2 dL_law_541 ?_
  refine i_calliS (lv := [some (.ref b), some (.ref (qa 0)), some (.ref (qb 0)), some (.int (Int32.ofNat k))]) (cs := 137) (sl := 24829) (wr := WH tA qa x.z x.d x.t x.c x.w x.s (r.2) x.f x.h x.b x.i x.j x.p x.q) (r := u) (As := [.int (xs ((Int32.ofNat k) + 1).toNatClampNeg), .int (xs ((Int32.ofNat k) + 2).toNatClampNeg)]) (st := [.int (r.1)]) (q0 := 0) (pc := 542) F (c_X11_most (q := qb) m ((xs ((Int32.ofNat k) + 1).toNatClampNeg)) ((xs ((Int32.ofNat k) + 2).toNatClampNeg))) e2 dL_law_542 kM_L_75 ⟨rfl, rfl⟩ ⟨Nat.le_of_ble_eq_true rfl, Nat.le_of_ble_eq_true rfl⟩ rfl rfl rfl (Nat.le_of_ble_eq_true rfl) ⟨Nat.le_of_ble_eq_true rfl, Nat.le_of_ble_eq_true rfl⟩ rfl rfl rfl ?_
  refine i_icmp_eqT (tgt := 856) (pc := 545) F e3 dL_law_545 (by decide) ?_
  exact next (x.z, x.d, x.t, x.c, x.w, x.s, r.2, x.f, x.h, x.b, x.i, x.j, x.p, x.q) u.2 qa qb hR
set_option maxHeartbeats 4000000 in
set_option maxRecDepth 100000 in
theorem law_14 {R : Cst → Ob → Prop} (ok : LawOK R) (F : zI l D tA RL cL_law 4 room_1 X) (hsc : zSc X b L xs) (h1 : vp_in (Int32.ofNat k + 1) L) (h2 : vp_in (Int32.ofNat k + 2) L) (h3 : vp_in (Int32.ofNat k + 3) L) (next : LoopAt R X D tA b k 856) : LoopAt R X D tA b k 550 := by
  intro x m qa qb hxm
  obtain ⟨r, u, e1, e2, e3, hR⟩ := ok.soonest_ok x m ((xs ((Int32.ofNat k) + 1).toNatClampNeg)) hxm
  refine i_aload_n (pc := 550) F dL_law_550 rfl ?_
  refine i_aload_n (pc := 551) F dL_law_551 rfl ?_
  refine i_iload_n (pc := 552) F dL_law_552 rfl ?_
  refine i_iconst (v := 1) (pc := 553) F dL_law_553 rfl ?_
  refine i_iadd (pc := 554) F dL_law_554 ?_
  refine i_sld (pc := 555) F hsc h1 dL_law_555 ?_
  refine i_calliP (lv := [some (.ref b), some (.ref (qa 0)), some (.ref (qb 0)), some (.int (Int32.ofNat k))]) (cs := 137) (sl := 24829) (wr := WM tA qb m) (r := r) (As := [.int (xs ((Int32.ofNat k) + 1).toNatClampNeg)]) (st := []) (q0 := 0) (pc := 556) F (c_X10_soonest (q := qa) x.z x.d x.t x.c x.w x.s x.e x.f x.h x.b x.i x.j x.p x.q ((xs ((Int32.ofNat k) + 1).toNatClampNeg))) e1 dL_law_556 kM_L_76 ⟨rfl, rfl⟩ ⟨Nat.le_of_ble_eq_true rfl, Nat.le_of_ble_eq_true rfl⟩ rfl rfl rfl (Nat.le_of_ble_eq_true rfl) ⟨Nat.le_of_ble_eq_true rfl, Nat.le_of_ble_eq_true rfl⟩ rfl rfl rfl ?_
  refine i_aload_n (pc := 559) F dL_law_559 rfl ?_
  refine i_aload_n (pc := 560) F dL_law_560 rfl ?_
  refine i_iload_n (pc := 561) F dL_law_561 rfl ?_
  refine i_iconst (v := 1) (pc := 562) F dL_law_562 rfl ?_
  refine i_iadd (pc := 563) F dL_law_563 ?_
  refine i_sld (pc := 564) F hsc h1 dL_law_564 ?_
  refine i_calliS (lv := [some (.ref b), some (.ref (qa 0)), some (.ref (qb 0)), some (.int (Int32.ofNat k))]) (cs := 137) (sl := 24829) (wr := WH tA qa x.z x.d x.t x.c x.w x.s (r.2) x.f x.h x.b x.i x.j x.p x.q) (r := u) (As := [.int (xs ((Int32.ofNat k) + 1).toNatClampNeg)]) (st := [.int (r.1)]) (q0 := 0) (pc := 565) F (c_X11_soonest (q := qb) m ((xs ((Int32.ofNat k) + 1).toNatClampNeg))) e2 dL_law_565 kM_L_79 ⟨rfl, rfl⟩ ⟨Nat.le_of_ble_eq_true rfl, Nat.le_of_ble_eq_true rfl⟩ rfl rfl rfl (Nat.le_of_ble_eq_true rfl) ⟨Nat.le_of_ble_eq_true rfl, Nat.le_of_ble_eq_true rfl⟩ rfl rfl rfl ?_
  refine i_icmp_eqT (tgt := 856) (pc := 568) F e3 dL_law_568 (by decide) ?_
  exact next (x.z, x.d, x.t, x.c, x.w, x.s, r.2, x.f, x.h, x.b, x.i, x.j, x.p, x.q) u.2 qa qb hR
set_option maxHeartbeats 4000000 in
set_option maxRecDepth 100000 in
theorem law_15 {R : Cst → Ob → Prop} (ok : LawOK R) (F : zI l D tA RL cL_law 4 room_1 X) (hsc : zSc X b L xs) (h1 : vp_in (Int32.ofNat k + 1) L) (h2 : vp_in (Int32.ofNat k + 2) L) (h3 : vp_in (Int32.ofNat k + 3) L) (next : LoopAt R X D tA b k 856) : LoopAt R X D tA b k 573 := by
  intro x m qa qb hxm
  obtain ⟨r, u, e1, e2, e3, hR⟩ := ok.plan_ok x m ((xs ((Int32.ofNat k) + 1).toNatClampNeg)) hxm
  refine i_aload_n (pc := 573) F dL_law_573 rfl ?_
  refine i_aload_n (pc := 574) F dL_law_574 rfl ?_
  refine i_iload_n (pc := 575) F dL_law_575 rfl ?_
  refine i_iconst (v := 1) (pc := 576) F dL_law_576 rfl ?_
  refine i_iadd (pc := 577) F dL_law_577 ?_
  refine i_sld (pc := 578) F hsc h1 dL_law_578 ?_
  refine i_calliP (lv := [some (.ref b), some (.ref (qa 0)), some (.ref (qb 0)), some (.int (Int32.ofNat k))]) (cs := 137) (sl := 24829) (wr := WM tA qb m) (r := r) (As := [.int (xs ((Int32.ofNat k) + 1).toNatClampNeg)]) (st := []) (q0 := 0) (pc := 579) F (c_X10_plan (q := qa) x.z x.d x.t x.c x.w x.s x.e x.f x.h x.b x.i x.j x.p x.q ((xs ((Int32.ofNat k) + 1).toNatClampNeg))) e1 dL_law_579 kM_L_80 ⟨rfl, rfl⟩ ⟨Nat.le_of_ble_eq_true rfl, Nat.le_of_ble_eq_true rfl⟩ rfl rfl rfl (Nat.le_of_ble_eq_true rfl) ⟨Nat.le_of_ble_eq_true rfl, Nat.le_of_ble_eq_true rfl⟩ rfl rfl rfl ?_
  refine i_aload_n (pc := 582) F dL_law_582 rfl ?_
  refine i_aload_n (pc := 583) F dL_law_583 rfl ?_
  refine i_iload_n (pc := 584) F dL_law_584 rfl ?_
  refine i_iconst (v := 1) (pc := 585) F dL_law_585 rfl ?_
  refine i_iadd (pc := 586) F dL_law_586 ?_
  refine i_sld (pc := 587) F hsc h1 dL_law_587 ?_
  refine i_calliS (lv := [some (.ref b), some (.ref (qa 0)), some (.ref (qb 0)), some (.int (Int32.ofNat k))]) (cs := 137) (sl := 24829) (wr := WH tA qa x.z x.d x.t x.c x.w x.s (r.2) x.f x.h x.b x.i x.j x.p x.q) (r := u) (As := [.int (xs ((Int32.ofNat k) + 1).toNatClampNeg)]) (st := [.int (r.1)]) (q0 := 0) (pc := 588) F (c_X11_plan (q := qb) m ((xs ((Int32.ofNat k) + 1).toNatClampNeg))) e2 dL_law_588 kM_L_83 ⟨rfl, rfl⟩ ⟨Nat.le_of_ble_eq_true rfl, Nat.le_of_ble_eq_true rfl⟩ rfl rfl rfl (Nat.le_of_ble_eq_true rfl) ⟨Nat.le_of_ble_eq_true rfl, Nat.le_of_ble_eq_true rfl⟩ rfl rfl rfl ?_
  refine i_icmp_eqT (tgt := 856) (pc := 591) F e3 dL_law_591 (by decide) ?_
  exact next (x.z, x.d, x.t, x.c, x.w, x.s, r.2, x.f, x.h, x.b, x.i, x.j, x.p, x.q) u.2 qa qb hR
set_option maxHeartbeats 4000000 in
set_option maxRecDepth 100000 in
theorem law_16 {R : Cst → Ob → Prop} (ok : LawOK R) (F : zI l D tA RL cL_law 4 room_1 X) (hsc : zSc X b L xs) (h1 : vp_in (Int32.ofNat k + 1) L) (h2 : vp_in (Int32.ofNat k + 2) L) (h3 : vp_in (Int32.ofNat k + 3) L) (next : LoopAt R X D tA b k 856) : LoopAt R X D tA b k 596 := by
  intro x m qa qb hxm
  obtain ⟨r, u, e1, e2, e3, hR⟩ := ok.cut_ok x m ((xs ((Int32.ofNat k) + 1).toNatClampNeg)) hxm
  refine i_aload_n (pc := 596) F dL_law_596 rfl ?_
  refine i_aload_n (pc := 597) F dL_law_597 rfl ?_
  refine i_iload_n (pc := 598) F dL_law_598 rfl ?_
  refine i_iconst (v := 1) (pc := 599) F dL_law_599 rfl ?_
  refine i_iadd (pc := 600) F dL_law_600 ?_
  refine i_sld (pc := 601) F hsc h1 dL_law_601 ?_
  refine i_calliP (lv := [some (.ref b), some (.ref (qa 0)), some (.ref (qb 0)), some (.int (Int32.ofNat k))]) (cs := 137) (sl := 24829) (wr := WM tA qb m) (r := r) (As := [.int (xs ((Int32.ofNat k) + 1).toNatClampNeg)]) (st := []) (q0 := 0) (pc := 602) F (c_X10_cut (q := qa) x.z x.d x.t x.c x.w x.s x.e x.f x.h x.b x.i x.j x.p x.q ((xs ((Int32.ofNat k) + 1).toNatClampNeg))) e1 dL_law_602 kM_L_84 ⟨rfl, rfl⟩ ⟨Nat.le_of_ble_eq_true rfl, Nat.le_of_ble_eq_true rfl⟩ rfl rfl rfl (Nat.le_of_ble_eq_true rfl) ⟨Nat.le_of_ble_eq_true rfl, Nat.le_of_ble_eq_true rfl⟩ rfl rfl rfl ?_
  refine i_aload_n (pc := 605) F dL_law_605 rfl ?_
  refine i_aload_n (pc := 606) F dL_law_606 rfl ?_
  refine i_iload_n (pc := 607) F dL_law_607 rfl ?_
  refine i_iconst (v := 1) (pc := 608) F dL_law_608 rfl ?_
  refine i_iadd (pc := 609) F dL_law_609 ?_
  refine i_sld (pc := 610) F hsc h1 dL_law_610 ?_
  refine i_calliS (lv := [some (.ref b), some (.ref (qa 0)), some (.ref (qb 0)), some (.int (Int32.ofNat k))]) (cs := 137) (sl := 24829) (wr := WH tA qa x.z x.d x.t x.c x.w x.s (r.2) x.f x.h x.b x.i x.j x.p x.q) (r := u) (As := [.int (xs ((Int32.ofNat k) + 1).toNatClampNeg)]) (st := [.int (r.1)]) (q0 := 0) (pc := 611) F (c_X11_cut (q := qb) m ((xs ((Int32.ofNat k) + 1).toNatClampNeg))) e2 dL_law_611 kM_L_87 ⟨rfl, rfl⟩ ⟨Nat.le_of_ble_eq_true rfl, Nat.le_of_ble_eq_true rfl⟩ rfl rfl rfl (Nat.le_of_ble_eq_true rfl) ⟨Nat.le_of_ble_eq_true rfl, Nat.le_of_ble_eq_true rfl⟩ rfl rfl rfl ?_
  refine i_icmp_eqT (tgt := 856) (pc := 614) F e3 dL_law_614 (by decide) ?_
  exact next (x.z, x.d, x.t, x.c, x.w, x.s, r.2, x.f, x.h, x.b, x.i, x.j, x.p, x.q) u.2 qa qb hR
set_option maxHeartbeats 4000000 in
set_option maxRecDepth 100000 in
theorem law_17 {R : Cst → Ob → Prop} (ok : LawOK R) (F : zI l D tA RL cL_law 4 room_1 X) (hsc : zSc X b L xs) (h1 : vp_in (Int32.ofNat k + 1) L) (h2 : vp_in (Int32.ofNat k + 2) L) (h3 : vp_in (Int32.ofNat k + 3) L) (next : LoopAt R X D tA b k 856) : LoopAt R X D tA b k 619 := by
  intro x m qa qb hxm
  obtain ⟨r, u, e1, e2, e3, hR⟩ := ok.turns_ok x m ((xs ((Int32.ofNat k) + 1).toNatClampNeg)) ((xs ((Int32.ofNat k) + 2).toNatClampNeg)) hxm
  refine i_aload_n (pc := 619) F dL_law_619 rfl ?_
  refine i_aload_n (pc := 620) F dL_law_620 rfl ?_
  refine i_iload_n (pc := 621) F dL_law_621 rfl ?_
  refine i_iconst (v := 1) (pc := 622) F dL_law_622 rfl ?_
  refine i_iadd (pc := 623) F dL_law_623 ?_
  refine i_sld (pc := 624) F hsc h1 dL_law_624 ?_
  refine i_aload_n (pc := 625) F dL_law_625 rfl ?_
  refine i_iload_n (pc := 626) F dL_law_626 rfl ?_
  refine i_iconst (v := 2) (pc := 627) F dL_law_627 rfl ?_
  refine i_iadd (pc := 628) F dL_law_628 ?_
  refine i_sld (pc := 629) F hsc h2 dL_law_629 ?_
  refine i_calliP (lv := [some (.ref b), some (.ref (qa 0)), some (.ref (qb 0)), some (.int (Int32.ofNat k))]) (cs := 137) (sl := 24829) (wr := WM tA qb m) (r := r) (As := [.int (xs ((Int32.ofNat k) + 1).toNatClampNeg), .int (xs ((Int32.ofNat k) + 2).toNatClampNeg)]) (st := []) (q0 := 0) (pc := 630) F (c_X10_turns (q := qa) x.z x.d x.t x.c x.w x.s x.e x.f x.h x.b x.i x.j x.p x.q ((xs ((Int32.ofNat k) + 1).toNatClampNeg)) ((xs ((Int32.ofNat k) + 2).toNatClampNeg))) e1 dL_law_630 kM_L_88 ⟨rfl, rfl⟩ ⟨Nat.le_of_ble_eq_true rfl, Nat.le_of_ble_eq_true rfl⟩ rfl rfl rfl (Nat.le_of_ble_eq_true rfl) ⟨Nat.le_of_ble_eq_true rfl, Nat.le_of_ble_eq_true rfl⟩ rfl rfl rfl ?_
  refine i_aload_n (pc := 633) F dL_law_633 rfl ?_
  refine i_aload_n (pc := 634) F dL_law_634 rfl ?_
  refine i_iload_n (pc := 635) F dL_law_635 rfl ?_
  refine i_iconst (v := 1) (pc := 636) F dL_law_636 rfl ?_
  refine i_iadd (pc := 637) F dL_law_637 ?_
  refine i_sld (pc := 638) F hsc h1 dL_law_638 ?_
  refine i_aload_n (pc := 639) F dL_law_639 rfl ?_
  refine i_iload_n (pc := 640) F dL_law_640 rfl ?_
  refine i_iconst (v := 2) (pc := 641) F dL_law_641 rfl ?_
  refine i_iadd (pc := 642) F dL_law_642 ?_
  refine i_sld (pc := 643) F hsc h2 dL_law_643 ?_
  refine i_calliS (lv := [some (.ref b), some (.ref (qa 0)), some (.ref (qb 0)), some (.int (Int32.ofNat k))]) (cs := 137) (sl := 24829) (wr := WH tA qa x.z x.d x.t x.c x.w x.s x.e (r.2) x.h x.b x.i x.j x.p x.q) (r := u) (As := [.int (xs ((Int32.ofNat k) + 1).toNatClampNeg), .int (xs ((Int32.ofNat k) + 2).toNatClampNeg)]) (st := [.int (r.1)]) (q0 := 0) (pc := 644) F (c_X11_turns (q := qb) m ((xs ((Int32.ofNat k) + 1).toNatClampNeg)) ((xs ((Int32.ofNat k) + 2).toNatClampNeg))) e2 dL_law_644 kM_L_91 ⟨rfl, rfl⟩ ⟨Nat.le_of_ble_eq_true rfl, Nat.le_of_ble_eq_true rfl⟩ rfl rfl rfl (Nat.le_of_ble_eq_true rfl) ⟨Nat.le_of_ble_eq_true rfl, Nat.le_of_ble_eq_true rfl⟩ rfl rfl rfl ?_
  refine i_icmp_eqT (tgt := 856) (pc := 647) F e3 dL_law_647 (by decide) ?_
  exact next (x.z, x.d, x.t, x.c, x.w, x.s, x.e, r.2, x.h, x.b, x.i, x.j, x.p, x.q) u.2 qa qb hR
set_option maxHeartbeats 4000000 in
set_option maxRecDepth 100000 in
theorem law_18 {R : Cst → Ob → Prop} (ok : LawOK R) (F : zI l D tA RL cL_law 4 room_1 X) (hsc : zSc X b L xs) (h1 : vp_in (Int32.ofNat k + 1) L) (h2 : vp_in (Int32.ofNat k + 2) L) (h3 : vp_in (Int32.ofNat k + 3) L) (next : LoopAt R X D tA b k 856) : LoopAt R X D tA b k 652 := by
  intro x m qa qb hxm
  obtain ⟨r, u, e1, e2, e3, hR⟩ := ok.many_ok x m ((xs ((Int32.ofNat k) + 1).toNatClampNeg)) hxm
  refine i_aload_n (pc := 652) F dL_law_652 rfl ?_
  refine i_aload_n (pc := 653) F dL_law_653 rfl ?_
  refine i_iload_n (pc := 654) F dL_law_654 rfl ?_
  refine i_iconst (v := 1) (pc := 655) F dL_law_655 rfl ?_
  refine i_iadd (pc := 656) F dL_law_656 ?_
  refine i_sld (pc := 657) F hsc h1 dL_law_657 ?_
  refine i_calliP (lv := [some (.ref b), some (.ref (qa 0)), some (.ref (qb 0)), some (.int (Int32.ofNat k))]) (cs := 137) (sl := 24829) (wr := WM tA qb m) (r := r) (As := [.int (xs ((Int32.ofNat k) + 1).toNatClampNeg)]) (st := []) (q0 := 0) (pc := 658) F (c_X10_many (q := qa) x.z x.d x.t x.c x.w x.s x.e x.f x.h x.b x.i x.j x.p x.q ((xs ((Int32.ofNat k) + 1).toNatClampNeg))) e1 dL_law_658 kM_L_92 ⟨rfl, rfl⟩ ⟨Nat.le_of_ble_eq_true rfl, Nat.le_of_ble_eq_true rfl⟩ rfl rfl rfl (Nat.le_of_ble_eq_true rfl) ⟨Nat.le_of_ble_eq_true rfl, Nat.le_of_ble_eq_true rfl⟩ rfl rfl rfl ?_
  refine i_aload_n (pc := 661) F dL_law_661 rfl ?_
  refine i_aload_n (pc := 662) F dL_law_662 rfl ?_
  refine i_iload_n (pc := 663) F dL_law_663 rfl ?_
  refine i_iconst (v := 1) (pc := 664) F dL_law_664 rfl ?_
  refine i_iadd (pc := 665) F dL_law_665 ?_
  refine i_sld (pc := 666) F hsc h1 dL_law_666 ?_
  refine i_calliS (lv := [some (.ref b), some (.ref (qa 0)), some (.ref (qb 0)), some (.int (Int32.ofNat k))]) (cs := 137) (sl := 24829) (wr := WH tA qa x.z x.d x.t x.c x.w x.s x.e x.f (r.2) x.b x.i x.j x.p x.q) (r := u) (As := [.int (xs ((Int32.ofNat k) + 1).toNatClampNeg)]) (st := [.int (r.1)]) (q0 := 0) (pc := 667) F (c_X11_many (q := qb) m ((xs ((Int32.ofNat k) + 1).toNatClampNeg))) e2 dL_law_667 kM_L_95 ⟨rfl, rfl⟩ ⟨Nat.le_of_ble_eq_true rfl, Nat.le_of_ble_eq_true rfl⟩ rfl rfl rfl (Nat.le_of_ble_eq_true rfl) ⟨Nat.le_of_ble_eq_true rfl, Nat.le_of_ble_eq_true rfl⟩ rfl rfl rfl ?_
  refine i_icmp_eqT (tgt := 856) (pc := 670) F e3 dL_law_670 (by decide) ?_
  exact next (x.z, x.d, x.t, x.c, x.w, x.s, x.e, x.f, r.2, x.b, x.i, x.j, x.p, x.q) u.2 qa qb hR
set_option maxHeartbeats 4000000 in
set_option maxRecDepth 100000 in
theorem law_19 {R : Cst → Ob → Prop} (ok : LawOK R) (F : zI l D tA RL cL_law 4 room_1 X) (hsc : zSc X b L xs) (h1 : vp_in (Int32.ofNat k + 1) L) (h2 : vp_in (Int32.ofNat k + 2) L) (h3 : vp_in (Int32.ofNat k + 3) L) (next : LoopAt R X D tA b k 856) : LoopAt R X D tA b k 675 := by
  intro x m qa qb hxm
  obtain ⟨r, u, e1, e2, e3, hR⟩ := ok.write_ok x m ((xs ((Int32.ofNat k) + 1).toNatClampNeg)) ((xs ((Int32.ofNat k) + 2).toNatClampNeg)) hxm
  refine i_aload_n (pc := 675) F dL_law_675 rfl ?_
  refine i_aload_n (pc := 676) F dL_law_676 rfl ?_
  refine i_iload_n (pc := 677) F dL_law_677 rfl ?_
  refine i_iconst (v := 1) (pc := 678) F dL_law_678 rfl ?_
  refine i_iadd (pc := 679) F dL_law_679 ?_
  refine i_sld (pc := 680) F hsc h1 dL_law_680 ?_
  refine i_aload_n (pc := 681) F dL_law_681 rfl ?_
  refine i_iload_n (pc := 682) F dL_law_682 rfl ?_
  refine i_iconst (v := 2) (pc := 683) F dL_law_683 rfl ?_
  refine i_iadd (pc := 684) F dL_law_684 ?_
  refine i_sld (pc := 685) F hsc h2 dL_law_685 ?_
  refine i_calliP (lv := [some (.ref b), some (.ref (qa 0)), some (.ref (qb 0)), some (.int (Int32.ofNat k))]) (cs := 137) (sl := 24829) (wr := WM tA qb m) (r := r) (As := [.int (xs ((Int32.ofNat k) + 1).toNatClampNeg), .int (xs ((Int32.ofNat k) + 2).toNatClampNeg)]) (st := []) (q0 := 0) (pc := 686) F (c_X10_write (q := qa) x.z x.d x.t x.c x.w x.s x.e x.f x.h x.b x.i x.j x.p x.q ((xs ((Int32.ofNat k) + 1).toNatClampNeg)) ((xs ((Int32.ofNat k) + 2).toNatClampNeg))) e1 dL_law_686 kM_L_96 ⟨rfl, rfl⟩ ⟨Nat.le_of_ble_eq_true rfl, Nat.le_of_ble_eq_true rfl⟩ rfl rfl rfl (Nat.le_of_ble_eq_true rfl) ⟨Nat.le_of_ble_eq_true rfl, Nat.le_of_ble_eq_true rfl⟩ rfl rfl rfl ?_
  refine i_aload_n (pc := 689) F dL_law_689 rfl ?_
  refine i_aload_n (pc := 690) F dL_law_690 rfl ?_
  refine i_iload_n (pc := 691) F dL_law_691 rfl ?_
  refine i_iconst (v := 1) (pc := 692) F dL_law_692 rfl ?_
  refine i_iadd (pc := 693) F dL_law_693 ?_
  refine i_sld (pc := 694) F hsc h1 dL_law_694 ?_
  refine i_aload_n (pc := 695) F dL_law_695 rfl ?_
  refine i_iload_n (pc := 696) F dL_law_696 rfl ?_
  refine i_iconst (v := 2) (pc := 697) F dL_law_697 rfl ?_
  refine i_iadd (pc := 698) F dL_law_698 ?_
  refine i_sld (pc := 699) F hsc h2 dL_law_699 ?_
  refine i_calliS (lv := [some (.ref b), some (.ref (qa 0)), some (.ref (qb 0)), some (.int (Int32.ofNat k))]) (cs := 137) (sl := 24829) (wr := WH tA qa x.z x.d x.t x.c x.w x.s x.e x.f x.h (r.2) x.i x.j x.p x.q) (r := u) (As := [.int (xs ((Int32.ofNat k) + 1).toNatClampNeg), .int (xs ((Int32.ofNat k) + 2).toNatClampNeg)]) (st := [.int (r.1)]) (q0 := 0) (pc := 700) F (c_X11_write (q := qb) m ((xs ((Int32.ofNat k) + 1).toNatClampNeg)) ((xs ((Int32.ofNat k) + 2).toNatClampNeg))) e2 dL_law_700 kM_L_99 ⟨rfl, rfl⟩ ⟨Nat.le_of_ble_eq_true rfl, Nat.le_of_ble_eq_true rfl⟩ rfl rfl rfl (Nat.le_of_ble_eq_true rfl) ⟨Nat.le_of_ble_eq_true rfl, Nat.le_of_ble_eq_true rfl⟩ rfl rfl rfl ?_
  refine i_icmp_eqT (tgt := 856) (pc := 703) F e3 dL_law_703 (by decide) ?_
  exact next (x.z, x.d, x.t, x.c, x.w, x.s, x.e, x.f, x.h, r.2, x.i, x.j, x.p, x.q) u.2 qa qb hR
set_option maxHeartbeats 4000000 in
set_option maxRecDepth 100000 in
theorem law_20 {R : Cst → Ob → Prop} (ok : LawOK R) (F : zI l D tA RL cL_law 4 room_1 X) (hsc : zSc X b L xs) (h1 : vp_in (Int32.ofNat k + 1) L) (h2 : vp_in (Int32.ofNat k + 2) L) (h3 : vp_in (Int32.ofNat k + 3) L) (next : LoopAt R X D tA b k 856) : LoopAt R X D tA b k 708 := by
  intro x m qa qb hxm
  obtain ⟨r, u, e1, e2, e3, hR⟩ := ok.tear_ok x m ((xs ((Int32.ofNat k) + 1).toNatClampNeg)) hxm
  refine i_aload_n (pc := 708) F dL_law_708 rfl ?_
  refine i_aload_n (pc := 709) F dL_law_709 rfl ?_
  refine i_iload_n (pc := 710) F dL_law_710 rfl ?_
  refine i_iconst (v := 1) (pc := 711) F dL_law_711 rfl ?_
  refine i_iadd (pc := 712) F dL_law_712 ?_
  refine i_sld (pc := 713) F hsc h1 dL_law_713 ?_
  refine i_calliP (lv := [some (.ref b), some (.ref (qa 0)), some (.ref (qb 0)), some (.int (Int32.ofNat k))]) (cs := 137) (sl := 24829) (wr := WM tA qb m) (r := r) (As := [.int (xs ((Int32.ofNat k) + 1).toNatClampNeg)]) (st := []) (q0 := 0) (pc := 714) F (c_X10_tear (q := qa) x.z x.d x.t x.c x.w x.s x.e x.f x.h x.b x.i x.j x.p x.q ((xs ((Int32.ofNat k) + 1).toNatClampNeg))) e1 dL_law_714 kM_L_100 ⟨rfl, rfl⟩ ⟨Nat.le_of_ble_eq_true rfl, Nat.le_of_ble_eq_true rfl⟩ rfl rfl rfl (Nat.le_of_ble_eq_true rfl) ⟨Nat.le_of_ble_eq_true rfl, Nat.le_of_ble_eq_true rfl⟩ rfl rfl rfl ?_
  refine i_aload_n (pc := 717) F dL_law_717 rfl ?_
  refine i_aload_n (pc := 718) F dL_law_718 rfl ?_
  refine i_iload_n (pc := 719) F dL_law_719 rfl ?_
  refine i_iconst (v := 1) (pc := 720) F dL_law_720 rfl ?_
  refine i_iadd (pc := 721) F dL_law_721 ?_
  refine i_sld (pc := 722) F hsc h1 dL_law_722 ?_
  refine i_calliS (lv := [some (.ref b), some (.ref (qa 0)), some (.ref (qb 0)), some (.int (Int32.ofNat k))]) (cs := 137) (sl := 24829) (wr := WH tA qa x.z x.d x.t x.c x.w x.s x.e x.f x.h (r.2) x.i x.j x.p x.q) (r := u) (As := [.int (xs ((Int32.ofNat k) + 1).toNatClampNeg)]) (st := [.int (r.1)]) (q0 := 0) (pc := 723) F (c_X11_tear (q := qb) m ((xs ((Int32.ofNat k) + 1).toNatClampNeg))) e2 dL_law_723 kM_L_103 ⟨rfl, rfl⟩ ⟨Nat.le_of_ble_eq_true rfl, Nat.le_of_ble_eq_true rfl⟩ rfl rfl rfl (Nat.le_of_ble_eq_true rfl) ⟨Nat.le_of_ble_eq_true rfl, Nat.le_of_ble_eq_true rfl⟩ rfl rfl rfl ?_
  refine i_icmp_eqT (tgt := 856) (pc := 726) F e3 dL_law_726 (by decide) ?_
  exact next (x.z, x.d, x.t, x.c, x.w, x.s, x.e, x.f, x.h, r.2, x.i, x.j, x.p, x.q) u.2 qa qb hR
set_option maxHeartbeats 4000000 in
set_option maxRecDepth 100000 in
theorem law_21 {R : Cst → Ob → Prop} (ok : LawOK R) (F : zI l D tA RL cL_law 4 room_1 X) (hsc : zSc X b L xs) (h1 : vp_in (Int32.ofNat k + 1) L) (h2 : vp_in (Int32.ofNat k + 2) L) (h3 : vp_in (Int32.ofNat k + 3) L) (next : LoopAt R X D tA b k 856) : LoopAt R X D tA b k 731 := by
  intro x m qa qb hxm
  obtain ⟨r, u, e1, e2, e3, hR⟩ := ok.judge_ok x m ((xs ((Int32.ofNat k) + 1).toNatClampNeg)) hxm
  refine i_aload_n (pc := 731) F dL_law_731 rfl ?_
  refine i_aload_n (pc := 732) F dL_law_732 rfl ?_
  refine i_iload_n (pc := 733) F dL_law_733 rfl ?_
  refine i_iconst (v := 1) (pc := 734) F dL_law_734 rfl ?_
  refine i_iadd (pc := 735) F dL_law_735 ?_
  refine i_sld (pc := 736) F hsc h1 dL_law_736 ?_
  refine i_calliP (lv := [some (.ref b), some (.ref (qa 0)), some (.ref (qb 0)), some (.int (Int32.ofNat k))]) (cs := 137) (sl := 24829) (wr := WM tA qb m) (r := r) (As := [.int (xs ((Int32.ofNat k) + 1).toNatClampNeg)]) (st := []) (q0 := 0) (pc := 737) F (c_X10_judge (q := qa) x.z x.d x.t x.c x.w x.s x.e x.f x.h x.b x.i x.j x.p x.q ((xs ((Int32.ofNat k) + 1).toNatClampNeg))) e1 dL_law_737 kM_L_104 ⟨rfl, rfl⟩ ⟨Nat.le_of_ble_eq_true rfl, Nat.le_of_ble_eq_true rfl⟩ rfl rfl rfl (Nat.le_of_ble_eq_true rfl) ⟨Nat.le_of_ble_eq_true rfl, Nat.le_of_ble_eq_true rfl⟩ rfl rfl rfl ?_
  refine i_aload_n (pc := 740) F dL_law_740 rfl ?_
  refine i_aload_n (pc := 741) F dL_law_741 rfl ?_
  refine i_iload_n (pc := 742) F dL_law_742 rfl ?_
  refine i_iconst (v := 1) (pc := 743) F dL_law_743 rfl ?_
  refine i_iadd (pc := 744) F dL_law_744 ?_
  refine i_sld (pc := 745) F hsc h1 dL_law_745 ?_
  refine i_calliS (lv := [some (.ref b), some (.ref (qa 0)), some (.ref (qb 0)), some (.int (Int32.ofNat k))]) (cs := 137) (sl := 24829) (wr := WH tA qa x.z x.d x.t x.c x.w x.s x.e x.f x.h x.b x.i x.j x.p x.q) (r := u) (As := [.int (xs ((Int32.ofNat k) + 1).toNatClampNeg)]) (st := [.int (r)]) (q0 := 0) (pc := 746) F (c_X11_judge (q := qb) m ((xs ((Int32.ofNat k) + 1).toNatClampNeg))) e2 dL_law_746 kM_L_107 ⟨rfl, rfl⟩ ⟨Nat.le_of_ble_eq_true rfl, Nat.le_of_ble_eq_true rfl⟩ rfl rfl rfl (Nat.le_of_ble_eq_true rfl) ⟨Nat.le_of_ble_eq_true rfl, Nat.le_of_ble_eq_true rfl⟩ rfl rfl rfl ?_
  refine i_icmp_eqT (tgt := 856) (pc := 749) F e3 dL_law_749 (by decide) ?_
  exact next x m qa qb hR
set_option maxHeartbeats 4000000 in
set_option maxRecDepth 100000 in
theorem law_22 {R : Cst → Ob → Prop} (ok : LawOK R) (F : zI l D tA RL cL_law 4 room_1 X) (hsc : zSc X b L xs) (h1 : vp_in (Int32.ofNat k + 1) L) (h2 : vp_in (Int32.ofNat k + 2) L) (h3 : vp_in (Int32.ofNat k + 3) L) (next : LoopAt R X D tA b k 856) : LoopAt R X D tA b k 754 := by
  intro x m qa qb hxm
  obtain ⟨r, u, e1, e2, e3, hR⟩ := ok.evening_ok x m ((xs ((Int32.ofNat k) + 1).toNatClampNeg)) ((xs ((Int32.ofNat k) + 2).toNatClampNeg)) hxm
  refine i_aload_n (pc := 754) F dL_law_754 rfl ?_
  refine i_aload_n (pc := 755) F dL_law_755 rfl ?_
  refine i_iload_n (pc := 756) F dL_law_756 rfl ?_
  refine i_iconst (v := 1) (pc := 757) F dL_law_757 rfl ?_
  refine i_iadd (pc := 758) F dL_law_758 ?_
  refine i_sld (pc := 759) F hsc h1 dL_law_759 ?_
  refine i_aload_n (pc := 760) F dL_law_760 rfl ?_
  refine i_iload_n (pc := 761) F dL_law_761 rfl ?_
  refine i_iconst (v := 2) (pc := 762) F dL_law_762 rfl ?_
  refine i_iadd (pc := 763) F dL_law_763 ?_
  refine i_sld (pc := 764) F hsc h2 dL_law_764 ?_
  refine i_calliP (lv := [some (.ref b), some (.ref (qa 0)), some (.ref (qb 0)), some (.int (Int32.ofNat k))]) (cs := 137) (sl := 24829) (wr := WM tA qb m) (r := r) (As := [.int (xs ((Int32.ofNat k) + 1).toNatClampNeg), .int (xs ((Int32.ofNat k) + 2).toNatClampNeg)]) (st := []) (q0 := 0) (pc := 765) F (c_X10_evening (q := qa) x.z x.d x.t x.c x.w x.s x.e x.f x.h x.b x.i x.j x.p x.q ((xs ((Int32.ofNat k) + 1).toNatClampNeg)) ((xs ((Int32.ofNat k) + 2).toNatClampNeg))) e1 dL_law_765 kM_L_108 ⟨rfl, rfl⟩ ⟨Nat.le_of_ble_eq_true rfl, Nat.le_of_ble_eq_true rfl⟩ rfl rfl rfl (Nat.le_of_ble_eq_true rfl) ⟨Nat.le_of_ble_eq_true rfl, Nat.le_of_ble_eq_true rfl⟩ rfl rfl rfl ?_
  refine i_aload_n (pc := 768) F dL_law_768 rfl ?_
  refine i_aload_n (pc := 769) F dL_law_769 rfl ?_
  refine i_iload_n (pc := 770) F dL_law_770 rfl ?_
  refine i_iconst (v := 1) (pc := 771) F dL_law_771 rfl ?_
  refine i_iadd (pc := 772) F dL_law_772 ?_
  refine i_sld (pc := 773) F hsc h1 dL_law_773 ?_
  refine i_aload_n (pc := 774) F dL_law_774 rfl ?_
  refine i_iload_n (pc := 775) F dL_law_775 rfl ?_
  refine i_iconst (v := 2) (pc := 776) F dL_law_776 rfl ?_
  refine i_iadd (pc := 777) F dL_law_777 ?_
  refine i_sld (pc := 778) F hsc h2 dL_law_778 ?_
  refine i_calliS (lv := [some (.ref b), some (.ref (qa 0)), some (.ref (qb 0)), some (.int (Int32.ofNat k))]) (cs := 137) (sl := 24829) (wr := WH tA qa x.z x.d x.t x.c x.w x.s x.e x.f x.h x.b x.i x.j x.p x.q) (r := u) (As := [.int (xs ((Int32.ofNat k) + 1).toNatClampNeg), .int (xs ((Int32.ofNat k) + 2).toNatClampNeg)]) (st := [.int (r)]) (q0 := 0) (pc := 779) F (c_X11_evening (q := qb) m ((xs ((Int32.ofNat k) + 1).toNatClampNeg)) ((xs ((Int32.ofNat k) + 2).toNatClampNeg))) e2 dL_law_779 kM_L_111 ⟨rfl, rfl⟩ ⟨Nat.le_of_ble_eq_true rfl, Nat.le_of_ble_eq_true rfl⟩ rfl rfl rfl (Nat.le_of_ble_eq_true rfl) ⟨Nat.le_of_ble_eq_true rfl, Nat.le_of_ble_eq_true rfl⟩ rfl rfl rfl ?_
  refine i_icmp_eqT (tgt := 856) (pc := 782) F e3 dL_law_782 (by decide) ?_
  exact next x m qa qb hR
set_option maxHeartbeats 4000000 in
set_option maxRecDepth 100000 in
theorem law_23 {R : Cst → Ob → Prop} (ok : LawOK R) (F : zI l D tA RL cL_law 4 room_1 X) (hsc : zSc X b L xs) (h1 : vp_in (Int32.ofNat k + 1) L) (h2 : vp_in (Int32.ofNat k + 2) L) (h3 : vp_in (Int32.ofNat k + 3) L) (next : LoopAt R X D tA b k 856) : LoopAt R X D tA b k 787 := by
  intro x m qa qb hxm
  obtain ⟨r, u, e1, e2, e3, hR⟩ := ok.seed_ok x m ((xs ((Int32.ofNat k) + 1).toNatClampNeg)) hxm
  refine i_aload_n (pc := 787) F dL_law_787 rfl ?_
  refine i_aload_n (pc := 788) F dL_law_788 rfl ?_
  refine i_iload_n (pc := 789) F dL_law_789 rfl ?_
  refine i_iconst (v := 1) (pc := 790) F dL_law_790 rfl ?_
  refine i_iadd (pc := 791) F dL_law_791 ?_
  refine i_sld (pc := 792) F hsc h1 dL_law_792 ?_
  refine i_calliP (lv := [some (.ref b), some (.ref (qa 0)), some (.ref (qb 0)), some (.int (Int32.ofNat k))]) (cs := 137) (sl := 24829) (wr := WM tA qb m) (r := r) (As := [.int (xs ((Int32.ofNat k) + 1).toNatClampNeg)]) (st := []) (q0 := 0) (pc := 793) F (c_X10_seed (q := qa) x.z x.d x.t x.c x.w x.s x.e x.f x.h x.b x.i x.j x.p x.q ((xs ((Int32.ofNat k) + 1).toNatClampNeg))) e1 dL_law_793 kM_L_112 ⟨rfl, rfl⟩ ⟨Nat.le_of_ble_eq_true rfl, Nat.le_of_ble_eq_true rfl⟩ rfl rfl rfl (Nat.le_of_ble_eq_true rfl) ⟨Nat.le_of_ble_eq_true rfl, Nat.le_of_ble_eq_true rfl⟩ rfl rfl rfl ?_
  refine i_aload_n (pc := 796) F dL_law_796 rfl ?_
  refine i_aload_n (pc := 797) F dL_law_797 rfl ?_
  refine i_iload_n (pc := 798) F dL_law_798 rfl ?_
  refine i_iconst (v := 1) (pc := 799) F dL_law_799 rfl ?_
  refine i_iadd (pc := 800) F dL_law_800 ?_
  refine i_sld (pc := 801) F hsc h1 dL_law_801 ?_
  refine i_calliS (lv := [some (.ref b), some (.ref (qa 0)), some (.ref (qb 0)), some (.int (Int32.ofNat k))]) (cs := 137) (sl := 24829) (wr := WH tA qa x.z x.d x.t x.c x.w (r.2) x.e x.f x.h x.b x.i x.j x.p x.q) (r := u) (As := [.int (xs ((Int32.ofNat k) + 1).toNatClampNeg)]) (st := [.int (r.1)]) (q0 := 0) (pc := 802) F (c_X11_seed (q := qb) m ((xs ((Int32.ofNat k) + 1).toNatClampNeg))) e2 dL_law_802 kM_L_115 ⟨rfl, rfl⟩ ⟨Nat.le_of_ble_eq_true rfl, Nat.le_of_ble_eq_true rfl⟩ rfl rfl rfl (Nat.le_of_ble_eq_true rfl) ⟨Nat.le_of_ble_eq_true rfl, Nat.le_of_ble_eq_true rfl⟩ rfl rfl rfl ?_
  refine i_icmp_eqT (tgt := 856) (pc := 805) F e3 dL_law_805 (by decide) ?_
  exact next (x.z, x.d, x.t, x.c, x.w, r.2, x.e, x.f, x.h, x.b, x.i, x.j, x.p, x.q) u.2 qa qb hR
set_option maxHeartbeats 4000000 in
set_option maxRecDepth 100000 in
theorem law_24 {R : Cst → Ob → Prop} (ok : LawOK R) (F : zI l D tA RL cL_law 4 room_1 X) (hsc : zSc X b L xs) (h1 : vp_in (Int32.ofNat k + 1) L) (h2 : vp_in (Int32.ofNat k + 2) L) (h3 : vp_in (Int32.ofNat k + 3) L) (next : LoopAt R X D tA b k 856) : LoopAt R X D tA b k 810 := by
  intro x m qa qb hxm
  obtain ⟨r, u, e1, e2, e3, hR⟩ := ok.keep_ok x m ((xs ((Int32.ofNat k) + 1).toNatClampNeg)) hxm
  refine i_aload_n (pc := 810) F dL_law_810 rfl ?_
  refine i_aload_n (pc := 811) F dL_law_811 rfl ?_
  refine i_iload_n (pc := 812) F dL_law_812 rfl ?_
  refine i_iconst (v := 1) (pc := 813) F dL_law_813 rfl ?_
  refine i_iadd (pc := 814) F dL_law_814 ?_
  refine i_sld (pc := 815) F hsc h1 dL_law_815 ?_
  refine i_calliP (lv := [some (.ref b), some (.ref (qa 0)), some (.ref (qb 0)), some (.int (Int32.ofNat k))]) (cs := 137) (sl := 24829) (wr := WM tA qb m) (r := r) (As := [.int (xs ((Int32.ofNat k) + 1).toNatClampNeg)]) (st := []) (q0 := 0) (pc := 816) F (c_X10_keep (q := qa) x.z x.d x.t x.c x.w x.s x.e x.f x.h x.b x.i x.j x.p x.q ((xs ((Int32.ofNat k) + 1).toNatClampNeg))) e1 dL_law_816 kM_L_116 ⟨rfl, rfl⟩ ⟨Nat.le_of_ble_eq_true rfl, Nat.le_of_ble_eq_true rfl⟩ rfl rfl rfl (Nat.le_of_ble_eq_true rfl) ⟨Nat.le_of_ble_eq_true rfl, Nat.le_of_ble_eq_true rfl⟩ rfl rfl rfl ?_
  refine i_aload_n (pc := 819) F dL_law_819 rfl ?_
  refine i_aload_n (pc := 820) F dL_law_820 rfl ?_
  refine i_iload_n (pc := 821) F dL_law_821 rfl ?_
  refine i_iconst (v := 1) (pc := 822) F dL_law_822 rfl ?_
  refine i_iadd (pc := 823) F dL_law_823 ?_
  refine i_sld (pc := 824) F hsc h1 dL_law_824 ?_
  refine i_calliS (lv := [some (.ref b), some (.ref (qa 0)), some (.ref (qb 0)), some (.int (Int32.ofNat k))]) (cs := 137) (sl := 24829) (wr := WH tA qa (r.2.1) x.d x.t x.c x.w x.s x.e x.f x.h x.b (r.2.2.1) (r.2.2.2) x.p x.q) (r := u) (As := [.int (xs ((Int32.ofNat k) + 1).toNatClampNeg)]) (st := [.int (r.1)]) (q0 := 0) (pc := 825) F (c_X11_keep (q := qb) m ((xs ((Int32.ofNat k) + 1).toNatClampNeg))) e2 dL_law_825 kM_L_119 ⟨rfl, rfl⟩ ⟨Nat.le_of_ble_eq_true rfl, Nat.le_of_ble_eq_true rfl⟩ rfl rfl rfl (Nat.le_of_ble_eq_true rfl) ⟨Nat.le_of_ble_eq_true rfl, Nat.le_of_ble_eq_true rfl⟩ rfl rfl rfl ?_
  refine i_icmp_eqT (tgt := 856) (pc := 828) F e3 dL_law_828 (by decide) ?_
  exact next (r.2.1, x.d, x.t, x.c, x.w, x.s, x.e, x.f, x.h, x.b, r.2.2.1, r.2.2.2, x.p, x.q) u.2 qa qb hR
set_option maxHeartbeats 4000000 in
set_option maxRecDepth 100000 in
theorem law_25 {R : Cst → Ob → Prop} (ok : LawOK R) (F : zI l D tA RL cL_law 4 room_1 X) (hsc : zSc X b L xs) (h1 : vp_in (Int32.ofNat k + 1) L) (h2 : vp_in (Int32.ofNat k + 2) L) (h3 : vp_in (Int32.ofNat k + 3) L) (next : LoopAt R X D tA b k 856) : LoopAt R X D tA b k 833 := by
  intro x m qa qb hxm
  obtain ⟨r, u, e1, e2, e3, hR⟩ := ok.goBack_ok x m ((xs ((Int32.ofNat k) + 1).toNatClampNeg)) hxm
  refine i_aload_n (pc := 833) F dL_law_833 rfl ?_
  refine i_aload_n (pc := 834) F dL_law_834 rfl ?_
  refine i_iload_n (pc := 835) F dL_law_835 rfl ?_
  refine i_iconst (v := 1) (pc := 836) F dL_law_836 rfl ?_
  refine i_iadd (pc := 837) F dL_law_837 ?_
  refine i_sld (pc := 838) F hsc h1 dL_law_838 ?_
  refine i_calliP (lv := [some (.ref b), some (.ref (qa 0)), some (.ref (qb 0)), some (.int (Int32.ofNat k))]) (cs := 137) (sl := 24829) (wr := WM tA qb m) (r := r) (As := [.int (xs ((Int32.ofNat k) + 1).toNatClampNeg)]) (st := []) (q0 := 0) (pc := 839) F (c_X10_goBack (q := qa) x.z x.d x.t x.c x.w x.s x.e x.f x.h x.b x.i x.j x.p x.q ((xs ((Int32.ofNat k) + 1).toNatClampNeg))) e1 dL_law_839 kM_L_120 ⟨rfl, rfl⟩ ⟨Nat.le_of_ble_eq_true rfl, Nat.le_of_ble_eq_true rfl⟩ rfl rfl rfl (Nat.le_of_ble_eq_true rfl) ⟨Nat.le_of_ble_eq_true rfl, Nat.le_of_ble_eq_true rfl⟩ rfl rfl rfl ?_
  refine i_aload_n (pc := 842) F dL_law_842 rfl ?_
  refine i_aload_n (pc := 843) F dL_law_843 rfl ?_
  refine i_iload_n (pc := 844) F dL_law_844 rfl ?_
  refine i_iconst (v := 1) (pc := 845) F dL_law_845 rfl ?_
  refine i_iadd (pc := 846) F dL_law_846 ?_
  refine i_sld (pc := 847) F hsc h1 dL_law_847 ?_
  refine i_calliS (lv := [some (.ref b), some (.ref (qa 0)), some (.ref (qb 0)), some (.int (Int32.ofNat k))]) (cs := 137) (sl := 24829) (wr := WH tA qa x.z x.d x.t x.c x.w (r.2) x.e x.f x.h x.b x.i x.j x.p x.q) (r := u) (As := [.int (xs ((Int32.ofNat k) + 1).toNatClampNeg)]) (st := [.int (r.1)]) (q0 := 0) (pc := 848) F (c_X11_goBack (q := qb) m ((xs ((Int32.ofNat k) + 1).toNatClampNeg))) e2 dL_law_848 kM_L_123 ⟨rfl, rfl⟩ ⟨Nat.le_of_ble_eq_true rfl, Nat.le_of_ble_eq_true rfl⟩ rfl rfl rfl (Nat.le_of_ble_eq_true rfl) ⟨Nat.le_of_ble_eq_true rfl, Nat.le_of_ble_eq_true rfl⟩ rfl rfl rfl ?_
  refine i_icmp_eqT (tgt := 856) (pc := 851) F e3 dL_law_851 (by decide) ?_
  exact next (x.z, x.d, x.t, x.c, x.w, r.2, x.e, x.f, x.h, x.b, x.i, x.j, x.p, x.q) u.2 qa qb hR
end LAW1
