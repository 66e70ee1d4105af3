section ZI
variable {l : Launch} {D : va_G} {tA : Nat → ClassId} {own : String} {cc : ByteArray} {nL : Nat} {rm : Room} {X : ZX} {ws ws' : va_W} {pc cs sl : Nat} {lv lv' : List (Option Value)} {st : List Value} {cA : ClassId} {n : Nat} {a : Addr}
/-- arrays of rows: the class of their rows -/
def zMA (tA : Nat → ClassId) (U : State) : Prop := (∃ kA : Class, U.vm.classes[tA 5]? = some kA ∧ kA.kind = .array (tA 0) (.array .int)) ∧ ∃ kA : Class, U.vm.classes[tA 6]? = some kA ∧ kA.kind = .array (tA 1) (.array .long)
theorem zMA.moved {tA : Nat → ClassId} {u U : State} (hvm : u.vm.Alike U.vm) (h : zMA tA u) : zMA tA U := by
  obtain ⟨⟨k1, h1, h2⟩, k3, h3, h4⟩ := h
  obtain ⟨k5, h5, e5⟩ := hvm.2.2 _ _ h1
  obtain ⟨k6, h6, e6⟩ := hvm.2.2 _ _ h3
  exact ⟨⟨k5, h5, by rw [e5]; exact h2⟩, k6, h6, by rw [e6]; exact h4⟩
/-- the words of the nest's constructors, and the arrays of objects -/
def zNs : List Cond := [.methodLinkNest "HalvedProof" 9 ⟨"HalvedProof$Text", "<init>", "()V"⟩ "HalvedProof", .methodLinkNest "HalvedProof" 27 ⟨"HalvedProof$Trial", "<init>", "()V"⟩ "HalvedProof", .methodLinkNest "HalvedProof$Trial" 11 ⟨"HalvedProof$Court", "<init>", "()V"⟩ "HalvedProof", .methodLinkNest "HalvedProof$Trial" 20 ⟨"HalvedProof$Laws", "<init>", "()V"⟩ "HalvedProof", .methodLinkNest "HalvedProof" 57 ⟨"HalvedProof$Books", "<init>", "()V"⟩ "HalvedProof", .methodLinkNest "HalvedProof" 75 ⟨"HalvedProof$Court", "<init>", "()V"⟩ "HalvedProof", .methodLinkNest "HalvedProof" 82 ⟨"HalvedProof$Laws", "<init>", "()V"⟩ "HalvedProof"]
def zCx (tA : Nat → ClassId) (U : State) : Prop := va_AO "HalvedProof$State" U ∧ zMA tA U ∧ ∀ w ∈ zNs, va_Nw w U
theorem zNs_on : ∀ w ∈ zNs, w.onTables = true := by decide +kernel
theorem zCx.call {tA : Nat → ClassId} {U : State} {g : JFrame} {mk : MethodId} {a : Array Value} (h : zCx tA U) : zCx tA (U.calling g mk a) :=
  ⟨va_AO.moved (u := U) (U := U.calling g mk a) (Vm.Alike.refl U.vm) h.1, zMA.moved (u := U) (U := U.calling g mk a) (Vm.Alike.refl U.vm) h.2.1, fun w hw => va_Nw.same (zNs_on w hw) (u := U) (U := U.calling g mk a) rfl (h.2.2 w hw)⟩
theorem zCx.warm {tA : Nat → ClassId} {s U : State} (hW : s.WarmedH U.vm) (h : zCx tA s) : zCx tA U :=
  ⟨va_AO.moved hW.alike h.1, h.2.1.moved hW.alike, fun w hw => by
    have hz := h.2.2 w hw
    simp only [zNs, List.mem_cons, List.not_mem_nil, or_false] at hw
    rcases hw with rfl | rfl | rfl | rfl | rfl | rfl | rfl <;> exact va_Nw.warmM hW hz⟩
/-- a walk that makes cells -/
def zZ (X : ZX) (D : va_G) (cs sl : Nat) (ws : va_W) (pc : Nat) (lv : List (Option Value)) (st : List Value) : Prop :=
  ∀ (H : Heap) (locs : List Loc) (ls : Array Slot), va_P D classes ws H → va_D (zA X) ws → va_S (zA X) (zH X) H locs → zh ls lv →
    W (zp X) (zl X) (ze X) (zR X) (zs X) (zm X) (za X) (zb X) (zme X) (zc X) H locs cs sl (zQ X) (F0 (zm X) pc ls st)
def zI (l : Launch) (D : va_G) (tA : Nat → ClassId) (own : String) (cc : ByteArray) (nL : Nat) (rm : Room) (X : ZX) : Prop :=
  zF l D tA own cc nL rm X ∧ (own ≠ "HalvedProofLaw" → (zme X).name = "<init>") ∧ (zR X).cells = rm.cells ∧ (zR X).slots = rm.slots ∧ zCx tA (zs X)
theorem i_aload_n (F : zI l D tA own cc nL rm X) {i : Fin 4} {x : Nat} (d : decode cc pc = .ok (.aload_n i, 1)) (hv : lv[(i : Nat)]? = some (some (.ref x))) (k : zZ X D cs sl ws (pc + 1) lv (.ref x :: st)) : zZ X D cs sl ws pc lv st :=
  fun H locs ls hP hD hS hl => lv_aload_n F.1.1 F.1.2.1 d rfl (hl.2.2 _ _ hv) (k H locs ls hP hD hS hl)
theorem i_iload_n (F : zI l D tA own cc nL rm X) {i : Fin 4} {x : Int32} (d : decode cc pc = .ok (.iload_n i, 1)) (hv : lv[(i : Nat)]? = some (some (.int x))) (k : zZ X D cs sl ws (pc + 1) lv (.int x :: st)) : zZ X D cs sl ws pc lv st :=
  fun H locs ls hP hD hS hl => lv_iload_n F.1.1 F.1.2.1 d rfl (hl.2.2 _ _ hv) (k H locs ls hP hD hS hl)
theorem i_istore_n (F : zI l D tA own cc nL rm X) {i : Fin 4} {x : Int32} (d : decode cc pc = .ok (.istore_n i, 1)) (hi : (i : Nat) < lv.length) (hc : zc2 lv (i : Nat) = true) (hl' : lv.set (i : Nat) (some (.int x)) = lv') (k : zZ X D cs sl ws (pc + 1) lv' st) : zZ X D cs sl ws pc lv (.int x :: st) :=
  fun H locs ls hP hD hS hl => lv_istore_n F.1.1 F.1.2.1 d rfl hl.has hi rfl (fun ls' h' => k H locs ls' hP hD hS (hl' ▸ zh_st1 h' hc))
theorem i_iinc (F : zI l D tA own cc nL rm X) {i : Nat} {z : Int} {x v : Int32} (d : decode cc pc = .ok (.iinc i z, 3)) (hx : lv[i]? = some (some (.int x))) (hz : x + Int32.ofInt z = v) (hc : zc2 lv i = true) (hl' : lv.set i (some (.int v)) = lv') (k : zZ X D cs sl ws (pc + 3) lv' st) : zZ X D cs sl ws pc lv st := by
  intro H locs ls hP hD hS hl
  have hm : (i, Value.int x) ∈ zpr 0 lv := (zpr_mem lv 0 (i, .int x)).mpr ⟨i, by omega, hx⟩
  obtain ⟨j, hj⟩ := List.getElem?_of_mem hm
  exact lv_iinc F.1.1 F.1.2.1 d hl.has hj hz (List.getElem?_eq_some_iff.mp hx).1 rfl (fun ls' h' => k H locs ls' hP hD hS (hl' ▸ zh_st1 h' hc))
theorem i_iconst (F : zI l D tA own cc nL rm X) {z : Int} {v : Int32} (d : decode cc pc = .ok (.iconst z, 1)) (hv : Int32.ofInt z = v) (k : zZ X D cs sl ws (pc + 1) lv (.int v :: st)) : zZ X D cs sl ws pc lv st :=
  fun H locs ls hP hD hS hl => lv_iconst F.1.1 F.1.2.1 d hv (k H locs ls hP hD hS hl)
theorem i_bipush (F : zI l D tA own cc nL rm X) {z : Int} {v : Int32} (d : decode cc pc = .ok (.bipush z, 2)) (hv : (Int8.ofInt z).toInt32 = v) (k : zZ X D cs sl ws (pc + 2) lv (.int v :: st)) : zZ X D cs sl ws pc lv st :=
  fun H locs ls hP hD hS hl => lv_bipush F.1.1 F.1.2.1 d hv (k H locs ls hP hD hS hl)
theorem i_sipush (F : zI l D tA own cc nL rm X) {z : Int} {v : Int32} (d : decode cc pc = .ok (.sipush z, 3)) (hv : (Int16.ofInt z).toInt32 = v) (k : zZ X D cs sl ws (pc + 3) lv (.int v :: st)) : zZ X D cs sl ws pc lv st :=
  fun H locs ls hP hD hS hl => lv_sipush F.1.1 F.1.2.1 d hv (k H locs ls hP hD hS hl)
theorem i_dup (F : zI l D tA own cc nL rm X) {v : Value} (d : decode cc pc = .ok (.dup, 1)) (hv : v.category = 1) (k : zZ X D cs sl ws (pc + 1) lv (v :: v :: st)) : zZ X D cs sl ws pc lv (v :: st) :=
  fun H locs ls hP hD hS hl => lv_dup F.1.1 F.1.2.1 d hv (k H locs ls hP hD hS hl)
theorem i_goto (F : zI l D tA own cc nL rm X) {off : Int} {tgt : Nat} (d : decode cc pc = .ok (.goto off, 3)) (ht : (pc : Int) + off = (tgt : Int)) (k : zZ X D cs sl ws tgt lv st) : zZ X D cs sl ws pc lv st :=
  fun H locs ls hP hD hS hl => lv_goto F.1.1 F.1.2.1 d ht (k H locs ls hP hD hS hl)
theorem i_icmp_ge (F : zI l D tA own cc nL rm X) {x y : Int32} {off : Int} {tgt nx : Nat} (d : decode cc pc = .ok (.if_icmp .ge off, 3)) (ht : (pc : Int) + off = (tgt : Int)) (hx : nx = if y ≤ x then tgt else pc + 3) (k : zZ X D cs sl ws nx lv st) : zZ X D cs sl ws pc lv (.int y :: .int x :: st) := by
  intro H locs ls hP hD hS hl
  refine lv_icmp_ge F.1.1 F.1.2.1 d ht (fun e => ?_) (fun e => ?_)
  · rw [if_pos e] at hx; subst hx; exact k H locs ls hP hD hS hl
  · rw [if_neg e] at hx; subst hx; exact k H locs ls hP hD hS hl
theorem i_le {lv' : List (Option Value)} (hl : zle lv' lv) (k : zZ X D cs sl ws pc lv' st) : zZ X D cs sl ws pc lv st :=
  fun H locs ls hP hD hS h2 => k H locs ls hP hD hS (h2.le hl)
theorem i_get (F : zI l D tA own cc nL rm X) {ix ci k N : Nat} {C : String} {T : u_T} {ty : Nat → FieldType} (d : decode cc pc = .ok (.getfield ix, 3)) (w : zFl own ix ci k C T N ty) (q0 : Nat) {fs : List Value} {v : Value} (he : ws[q0]? = some (a, .inr (ci, fs))) (hv : fs[k]? = some v) (kk : zZ X D cs sl ws (pc + 3) lv (v :: st)) : zZ X D cs sl ws pc lv (.ref a :: st) :=
  fun H locs ls hP hD hS hl => va_get F.1.1 F.1.2.1 F.1.2.2.2.1 w.2.1 F.1.2.2.1 F.1.2.2.2.2.1 hP q0 he w.1 k w.2.2.2.2.1 (F.1.2.2.2.1 _ w.2.2.2.2.2) (fun _ h => h) hv d (kk H locs ls hP hD hS hl)
theorem i_put (F : zI l D tA own cc nL rm X) {ix ci k N : Nat} {C : String} {T : u_T} {ty : Nat → FieldType} (d : decode cc pc = .ok (.putfield ix, 3)) (w : zFl own ix ci k C T N ty) (q0 : Nat) {fs : List Value} {v : Value} (he : ws[q0]? = some (a, .inr (ci, fs))) (hfin : (T k).2.2.2 = false) (hn : narrow (ty k) v = v) (hfit : fits (ty k) v = true) (hk : k < fs.length) (hw : ws.set q0 (a, .inr (ci, fs.set k v)) = ws') (kk : zZ X D cs sl ws' (pc + 3) lv st) : zZ X D cs sl ws pc lv (v :: .ref a :: st) :=
  fun H locs ls hP hD hS hl => va_put F.1.1 F.1.2.1 F.1.2.2.2.1 w.2.1 ty w.2.2.1 w.2.2.2.1 F.1.2.2.1 F.1.2.2.2.2.1 hP hD hS q0 he w.1 k w.2.2.2.2.1 (F.1.2.2.2.1 _ w.2.2.2.2.2) (fun _ h => h) hfin (w.2.2.1 k w.2.2.2.2.1) hn hfit hk d (fun H1 locs1 hP1 hD1 hS1 => kk H1 locs1 ls (hw ▸ hP1) (hw ▸ hD1) hS1 hl)
theorem i_putF (F : zI l D tA own cc nL rm X) {ix ci k N : Nat} {C : String} {T : u_T} {ty : Nat → FieldType} (d : decode cc pc = .ok (.putfield ix, 3)) (w : zFl own ix ci k C T N ty) (q0 : Nat) {fs : List Value} {v : Value} (he : ws[q0]? = some (a, .inr (ci, fs))) (hfin : (T k).2.2.2 = true) (hdecl : (T k).1 = own) (hn : narrow (ty k) v = v) (hfit : fits (ty k) v = true) (hk : k < fs.length) (hw : ws.set q0 (a, .inr (ci, fs.set k v)) = ws') (kk : zZ X D cs sl ws' (pc + 3) lv st) (hno : own ≠ "HalvedProofLaw" := by decide +kernel) : zZ X D cs sl ws pc lv (v :: .ref a :: st) :=
  fun H locs ls hP hD hS hl => va_putF F.1.1 F.1.2.1 F.1.2.2.2.1 w.2.1 ty w.2.2.1 w.2.2.2.1 F.1.2.2.1 F.1.2.2.2.2.1 hP hD hS q0 he w.1 k w.2.2.2.2.1 (F.1.2.2.2.1 _ w.2.2.2.2.2) (fun _ h => h) hfin (F.2.1 hno) hdecl (w.2.2.1 k w.2.2.2.2.1) hn hfit hk d (fun H1 locs1 hP1 hD1 hS1 => kk H1 locs1 ls (hw ▸ hP1) (hw ▸ hD1) hS1 hl)
theorem i_obj (F : zI l D tA own cc nL rm X) {ix : Nat} (d : decode cc pc = .ok (.invokespecial ix, 3)) (w : Cond.methodLink own ix objectInit ∈ zT ∧ Cond.instanceMethod objectInit ∈ zT ∧ Cond.code objectInit ⟨#[0xb1]⟩ 1 none ∈ zT) (hnL : lv.length = nL) (hR : 1 ≤ rm.frames ∧ (st.map fun v => v.category).sum + 12 ≤ rm.locals) (kk : zZ X D cs sl ws (pc + 3) lv st) : zZ X D cs sl ws pc lv (.ref a :: st) :=
  fun H locs ls hP hD hS hl => W.objInit (g := F0 (zm X) pc ls (.ref a :: st)) F.1.1 F.1.2.1 F.1.2.2.1 (F.1.2.2.2.1 _ w.1) (F.1.2.2.2.1 _ w.2.1) (F.1.2.2.2.1 _ w.2.2) rfl (by show ls.size = _; rw [hl.1, hnL, F.1.2.2.2.2.2.2.1]) rfl d (by rw [F.1.2.2.2.2.2.2.2.2.1]; exact hR.1) (by rw [F.1.2.2.2.2.2.2.2.2.2.1]; show 2 * 0 + _ + 12 ≤ _; have := hR.2; omega) (kk H locs ls hP hD hS hl)
theorem zcA {s : State} {k : Nat} {cA : ClassId} {ty : FieldType} (hK : va_K D classes (zt tA ++ [(cA, ty)]) s) (hz : (zt tA)[k]? = some (tA k, ty)) (h : ∀ c c' : ClassId, va_RA s c ty → va_RA s c' ty → c = c') : cA = tA k := by
  have h1 := hK.2 (zt tA).length (cA, ty) (by rw [List.getElem?_append_right (Nat.le_refl _), Nat.sub_self]; rfl)
  have h2 := hK.2 k (tA k, ty) (by rw [List.getElem?_append_left (List.getElem?_eq_some_iff.mp hz).1]; exact hz)
  exact h _ _ h1.2 h2.2
theorem i_newa (F : zI l D tA own cc nL rm X) {aty : ArrayType} {ty : FieldType} (hty : newarray.typeOf aty = ty) (d : decode cc pc = .ok (.newarray aty, 2)) (w : Cond.arrayClass ty ∈ zT) (k0 : Nat) (hz : (zt tA)[k0]? = some (tA k0, ty)) (hra : ∀ c c' : ClassId, va_RA (zs X) c ty → va_RA (zs X) c' ty → c = c') {z : Int32} {N : Nat} {a0 : vp_A} (ha : ∀ cA : ClassId, vp_cell cA a0 = arrV cA N (fun _ => defaultValue ty)) (hn : ¬ z < 0) (hN : z.toNatClampNeg = N) (hb : N * componentBytes ty ≤ 536870912) (hR : cs + 1 ≤ rm.cells ∧ sl + N ≤ rm.slots)
    (kk : ∀ q : Nat, zZ X D (cs + 1) (sl + N) (ws ++ [(q, .inl (tA k0, a0))]) (pc + 2) lv (.ref q :: st)) : zZ X D cs sl ws pc lv (.int z :: st) := by
  intro H locs ls hP hD hS hl
  subst hty
  refine va_newa F.1.1 F.1.2.1 (F.1.2.2.2.1 _ w) rfl F.1.2.2.2.2.1 hP hD hS F.1.2.2.2.2.2.1 ha hn hN hb (by rw [F.2.2.1]; exact hR.1) (by rw [F.2.2.2.1]; exact hR.2) d (fun q cA H1 hK1 hP1 hD1 hS1 => ?_)
  have e := zcA hK1 hz hra
  subst e
  exact kk q H1 locs ls hP1 hD1 hS1 hl
theorem zra_p {s : State} (ty : FieldType) (h : ty = .int ∨ ty = .long ∨ ty = .boolean ∨ ty = .byte) : ∀ c c' : ClassId, va_RA s c ty → va_RA s c' ty → c = c' := by
  intro c c' h1 h2
  rcases h with rfl | rfl | rfl | rfl <;> exact Option.some.inj (h1.symm.trans h2)
theorem i_new (F : zI l D tA own cc nL rm X) {ix ci N : Nat} {C : String} {T : u_T} {ty : Nat → FieldType} (d : decode cc pc = .ok (.new ix, 3)) (hc : classes[ci]? = some (C, T, N)) (hin : ∀ w ∈ u_ws C T N, w ∈ zT) (hty : ∀ k, k < N → parseFieldDescriptor (T k).2.2.1 = some (ty k)) (w : Cond.classLink own ix C ∈ zT ∧ Cond.instantiable C N ∈ zT ∧ Cond.initialized C ∈ zT) {fs : List Value} (hfs : ∀ j, j < N → defaultValue (ty j) = vp_V fs j) (hR : cs + 1 ≤ rm.cells ∧ sl + N ≤ rm.slots)
    (kk : ∀ q : Nat, zZ X D (cs + 1) (sl + N) (ws ++ [(q, .inr (ci, fs))]) (pc + 3) lv (.ref q :: st)) : zZ X D cs sl ws pc lv st :=
  fun H locs ls hP hD hS hl => va_new F.1.1 F.1.2.1 F.1.2.2.2.1 hin ty hty F.1.2.2.1 (F.1.2.2.2.1 _ w.1) (F.1.2.2.2.1 _ w.2.1) (F.1.2.2.2.1 _ w.2.2) F.1.2.2.2.2.1 hP hD hS F.1.2.2.2.2.2.1 hc hfs (by rw [F.2.2.1]; exact hR.1) (by rw [F.2.2.2.1]; exact hR.2) d (fun q H1 hP1 hD1 hS1 => kk q H1 locs ls hP1 hD1 hS1 hl)
/-- a constructor's contract: its object's address stays the first of its cells' -/
def zCc (l : Launch) (D : va_G) (tA : Nat → ClassId) (y : MethodName) (b : ByteArray) (nL : Nat) (rm : Room) (av : List Value) (h : Nat) (w0 : va_W) (w1 : (Nat → Nat) → va_W) : Prop :=
  ∀ sz : Nat, Met l y (.code y b nL none :: zT) rm (va_Pc av (fun U => (U.heap.size = sz ∧ va_P D classes w0 U.heap ∧ va_K D classes (zt tA) U ∧ va_D (fun _ => True) w0 ∧ zG tA (va_A w0 sz) U U.heap) ∧ zCx tA U)) (va_Qv (fun (q : Nat → Nat) => q 0 = h) (fun q t => va_P D classes (w1 q) t.heap ∧ va_D (va_A w0 sz) (w1 q)) (va_A w0 sz)) rm.cells rm.slots (va_A w0 sz)
def zRc (X : ZX) (D : va_G) (cc : ByteArray) (rm : Room) (h : Nat) (w1 : (Nat → Nat) → va_W) : Prop :=
  ∀ (q : Nat → Nat) (H : Heap) (locs : List Loc) (pc : Nat) (ls : Array Slot), q 0 = h → decode cc pc = .ok (.return_, 1) → va_P D classes (w1 q) H → va_D (zA X) (w1 q) → va_S (zA X) (zH X) H locs →
    W (zp X) (zl X) (ze X) (zR X) (zs X) (zm X) (za X) (zb X) (zme X) (zc X) H locs rm.cells rm.slots (zQ X) (F0 (zm X) pc ls [])
theorem i_ret {h : Nat} {w1 : (Nat → Nat) → va_W} (hr : zRc X D cc rm h w1) (d : decode cc pc = .ok (.return_, 1)) (q : Nat → Nat) (hq : q 0 = h) (hw : ws = w1 q) (hc : cs ≤ rm.cells) (hs : sl ≤ rm.slots) : zZ X D cs sl ws pc lv [] := by
  intro H locs ls hP hD hS hl
  rw [hw] at hP hD
  exact W.widen hc hs (hr q H locs pc ls hq d hP hD hS)
theorem zCc_of {y : MethodName} {b : ByteArray} {av : List Value} {h : Nat} {w0 : va_W} {w1 : (Nat → Nat) → va_W} (hy : plainName y.cls = true) (hyn : y.name = "<init>") (hlen : (lg_sl av).length ≤ nL) {lv0 : List (Option Value)} (hlv : zent av nL = lv0)
    (body : ∀ (X : ZX), zI l D tA y.cls b nL rm X → zRc X D b rm h w1 → zZ X D 0 0 w0 0 lv0 []) : zCc l D tA y b nL rm av h w0 w1 := by
  intro sz
  refine Met.ofW (cc := b) (maxL := nL) (ret := none) hy rfl ?_
  intro p e s m args below meth c s₁ B hml hv
  obtain ⟨rfl, ⟨hsz, hP, hK, hD0, hG⟩, hCx⟩ := hv
  subst hsz
  have hts := atoms_spec (ws := .code y b nL none :: zT) B.pre
  have hlocks := B.notSynchronized
  have hnm : meth.name = "<init>" := by rw [← hyn]; exact (name_of_methodNamed B.named B.method).1
  rw [lg_entry_eq]
  refine body ((p, l, e, (headSpec (.code y b nL none :: zT) rm).room, s, m), (av.toArray, below, meth, c, _), va_A w0 s.heap.size, s.heap) ⟨⟨B.exec, B.bytes, findClass_of_methodNamed B.named, fun w hw => hts w (List.mem_cons_of_mem _ hw), hK, fun q h => Or.inr h, hml, rfl, rfl, rfl, hG, rfl⟩, fun _ => hnm, rfl, rfl, hCx⟩ ?_ s.heap [] _ hP hD0.self va_S.rf (hlv ▸ zh_ent hlen)
  intro q H locs pc ls hq d hP hD hS
  exact W.vret B.exec B.bytes B.returns (fun t ht hW => ⟨⟨q, rfl, hq, by rw [ht]; exact hP, hD⟩, hS.F ht⟩) hS.2.2 d hlocks
/-- new T[6][k] -/
theorem i_mna (F : zI l D tA own cc nL rm X) {ix k0 k1 : Nat} {ty : FieldType} (h01 : (ty = .int ∧ k0 = 0 ∧ k1 = 5) ∨ (ty = .long ∧ k0 = 1 ∧ k1 = 6)) (d : decode cc pc = .ok (.multianewarray ix 2, 4)) (w : Cond.classLink own ix ("[" ++ (FieldType.array ty).toString) ∈ zT) {z : Int32} {K : Nat} (hK' : z.toNatClampNeg = K) (hk : ¬ z < 0) (hb : K ≤ 1000) {a0 : vp_A} (ha : ∀ cA : ClassId, vp_cell cA a0 = arrV cA K (fun _ => defaultValue ty)) (hR : cs + 7 ≤ rm.cells ∧ sl + (6 + 6 * K) ≤ rm.slots)
    (kk : ∀ q r0 r1 r2 r3 r4 r5 : Nat, zZ X D (cs + 7) (sl + (6 + 6 * K)) (ws ++ [(q, .inl (tA k1, (6, .inr (.inr (.inr (.inr (zrow [r0, r1, r2, r3, r4, r5]))))))), (r0, .inl (tA k0, a0)), (r1, .inl (tA k0, a0)), (r2, .inl (tA k0, a0)), (r3, .inl (tA k0, a0)), (r4, .inl (tA k0, a0)), (r5, .inl (tA k0, a0))]) (pc + 4) lv (.ref q :: st)) : zZ X D cs sl ws pc lv (.int z :: .int 6 :: st) := by
  intro H locs ls hP hD hS hl T hT Xs
  subst hK'
  have e6 : (6 : Int32).toNatClampNeg = 6 := by decide
  have hKK := F.1.2.2.2.2.1
  have hRA0 : va_RA (zs X) (tA k1) (.array ty) := by
    rcases h01 with ⟨rfl, rfl, rfl⟩ | ⟨rfl, rfl, rfl⟩
    · exact (hKK.2 5 _ rfl).2
    · exact (hKK.2 6 _ rfl).2
  have hA : ∃ kA : Class, (zs X).vm.findClass ("[" ++ (FieldType.array ty).toString) = some (tA k1) ∧ (zs X).vm.classes[tA k1]? = some kA ∧ kA.kind = .array (tA k0) (.array ty) := by
    rcases h01 with ⟨rfl, rfl, rfl⟩ | ⟨rfl, rfl, rfl⟩
    · obtain ⟨kA, h1, h2⟩ := F.2.2.2.2.2.1.1
      exact ⟨kA, hRA0, h1, h2⟩
    · obtain ⟨kA, h1, h2⟩ := F.2.2.2.2.2.1.2
      exact ⟨kA, hRA0, h1, h2⟩
  have hC : ∃ (kC : Class) (c9 : ClassId), (zs X).vm.classes[tA k0]? = some kC ∧ kC.kind = .array c9 ty := by
    rcases h01 with ⟨rfl, rfl, rfl⟩ | ⟨rfl, rfl, rfl⟩
    · obtain ⟨-, k, h1, c9, h2⟩ := (hKK.2 0 _ rfl).1 0 (fun _ => .null)
      exact ⟨k, c9, h1, h2⟩
    · obtain ⟨-, k, h1, c9, h2⟩ := (hKK.2 1 _ rfl).1 0 (fun _ => .null)
      exact ⟨k, c9, h1, h2⟩
  have hcb : componentBytes ty ≤ 8 := by rcases h01 with ⟨rfl, -⟩ | ⟨rfl, -⟩ <;> decide
  have hmul : z.toNatClampNeg * componentBytes ty ≤ 1000 * 8 := Nat.mul_le_mul hb hcb
  obtain ⟨vm₁, hW, X', step⟩ := zm_step (n := 6) (k := z) Xs F.1.1 F.1.2.2.1 (F.1.2.2.2.1 _ w) hA hC (g := F0 (zm X) pc ls (.int z :: .int 6 :: st)) rfl (by rw [F.1.2.1]; exact d) rfl (by decide) hk (by decide) (by omega) (by omega) (by rcases h01 with ⟨rfl, -⟩ | ⟨rfl, -⟩ <;> rfl) (by rcases h01 with ⟨rfl, -⟩ | ⟨rfl, -⟩ <;> rfl) (by rw [e6, F.2.2.1]; exact hR.1) (by rw [e6, F.2.2.2.1]; exact hR.2)
  rw [e6] at X' step
  generalize hF : zm_fill (T.setVm vm₁) (tA k1) (tA k0) 6 z.toNatClampNeg (defaultValue ty) 6 = Z at X' step
  have hTh : (T.setVm vm₁).heap = H := hT
  obtain ⟨f1, f2, -, -⟩ := zm_facts (T.setVm vm₁) (tA k1) (tA k0) 6 z.toNatClampNeg (defaultValue ty) 6
  rw [hF, hTh] at f1 f2
  have hold : ∀ x : Nat, x < H.size → Z.heap[x]? = H[x]? := fun x hx => by
    have := zm_old (T.setVm vm₁) (tA k1) (tA k0) 6 z.toNatClampNeg (defaultValue ty) (a := x) (by rw [hTh]; exact hx) 6
    rw [hF, hTh] at this
    exact this
  have hrow : ∀ j : Nat, j < 6 → Z.heap[H.size + 1 + j]? = some (vp_cell (tA k0) a0) := fun j hj => by
    have := zm_rows (T.setVm vm₁) (tA k1) (tA k0) 6 z.toNatClampNeg (defaultValue ty) 6 j hj
    rw [hF, hTh] at this
    rw [this, ha, ← arrV_new]
    rfl
  have hout : zm_out (tA k1) 6 H.size 6 = vp_cell (tA k1) (6, .inr (.inr (.inr (.inr (zrow [H.size + 1 + 0, H.size + 1 + 1, H.size + 1 + 2, H.size + 1 + 3, H.size + 1 + 4, H.size + 1 + 5]))))) := by
    rw [vp_cell_q]
    unfold zm_out arrV
    congr 1
  rw [hout] at f2
  have hPo : va_P D classes ws Z.heap := hP.kept (fun k9 x hx => hold x.1 ((hP k9 x hx).lt))
  have hPn : va_P D classes [(H.size, .inl (tA k1, (6, .inr (.inr (.inr (.inr (zrow [H.size + 1 + 0, H.size + 1 + 1, H.size + 1 + 2, H.size + 1 + 3, H.size + 1 + 4, H.size + 1 + 5]))))))), (H.size + 1 + 0, .inl (tA k0, a0)), (H.size + 1 + 1, .inl (tA k0, a0)), (H.size + 1 + 2, .inl (tA k0, a0)), (H.size + 1 + 3, .inl (tA k0, a0)), (H.size + 1 + 4, .inl (tA k0, a0)), (H.size + 1 + 5, .inl (tA k0, a0))] Z.heap := by
    intro k9 x hx
    match k9, hx with
    | 0, hx => cases hx; exact f2
    | 1, hx => cases hx; exact hrow 0 (by decide)
    | 2, hx => cases hx; exact hrow 1 (by decide)
    | 3, hx => cases hx; exact hrow 2 (by decide)
    | 4, hx => cases hx; exact hrow 3 (by decide)
    | 5, hx => cases hx; exact hrow 4 (by decide)
    | 6, hx => cases hx; exact hrow 5 (by decide)
    | n + 7, hx => simp at hx
  have hadr : ∀ (k9 : Nat) (x : Nat × va_E), ([(H.size, .inl (tA k1, (6, .inr (.inr (.inr (.inr (zrow [H.size + 1 + 0, H.size + 1 + 1, H.size + 1 + 2, H.size + 1 + 3, H.size + 1 + 4, H.size + 1 + 5]))))))), (H.size + 1 + 0, .inl (tA k0, a0)), (H.size + 1 + 1, .inl (tA k0, a0)), (H.size + 1 + 2, .inl (tA k0, a0)), (H.size + 1 + 3, .inl (tA k0, a0)), (H.size + 1 + 4, .inl (tA k0, a0)), (H.size + 1 + 5, .inl (tA k0, a0))] : va_W)[k9]? = some x → x.1 = H.size + k9 := by
    intro k9 x hx
    match k9, hx with
    | 0, hx => cases hx; rfl
    | 1, hx => cases hx; rfl
    | 2, hx => cases hx; rfl
    | 3, hx => cases hx; rfl
    | 4, hx => cases hx; rfl
    | 5, hx => cases hx; rfl
    | 6, hx => cases hx; rfl
    | n + 7, hx => simp at hx
  have hDn : va_D (zA X) [(H.size, .inl (tA k1, (6, .inr (.inr (.inr (.inr (zrow [H.size + 1 + 0, H.size + 1 + 1, H.size + 1 + 2, H.size + 1 + 3, H.size + 1 + 4, H.size + 1 + 5]))))))), (H.size + 1 + 0, .inl (tA k0, a0)), (H.size + 1 + 1, .inl (tA k0, a0)), (H.size + 1 + 2, .inl (tA k0, a0)), (H.size + 1 + 3, .inl (tA k0, a0)), (H.size + 1 + 4, .inl (tA k0, a0)), (H.size + 1 + 5, .inl (tA k0, a0))] :=
    ⟨fun i j p q hi hj e => by have := hadr i p hi; have := hadr j q hj; omega, fun k9 x hx => by rw [hadr k9 x hx]; exact F.1.2.2.2.2.2.1 _ (Nat.le_trans hS.1 (Nat.le_add_right _ _))⟩
  have hDall := hD.app hDn (fun i j p q hi hj e => by
    have h1 := (hP i p hi).lt
    have h2 := hadr j q hj
    omega)
  obtain ⟨t, a1, b1⟩ := kk H.size _ _ _ _ _ _ Z.heap locs ls (hPo.app hPn) hDall ⟨by rw [f1]; have := hS.1; omega, fun x h1 h2 => (hold x (Nat.lt_of_lt_of_le h1 hS.1)).trans (hS.2.1 x h1 h2), hS.2.2⟩ hl Z rfl (by
    have e1 : cs + 1 + 6 = cs + 7 := by omega
    have e2 : sl + 6 + 6 * z.toNatClampNeg = sl + (6 + 6 * z.toNatClampNeg) := by omega
    rw [e1, e2] at X'
    exact X')
  refine ⟨t, step t ?_, b1⟩
  have e : T.heap.size = H.size := by rw [hT]
  rw [e]
  exact a1
theorem zapp_l {D : va_G} {cl : List vw_C} {wr wc : va_W} {H : Heap} (hP : va_P D cl (wr ++ wc) H) : va_P D cl wr H := fun k x hx => hP k x (by rw [List.getElem?_append_left (List.getElem?_eq_some_iff.mp hx).1]; exact hx)
theorem zapp_r {D : va_G} {cl : List vw_C} {wr wc : va_W} {H : Heap} (hP : va_P D cl (wr ++ wc) H) : va_P D cl wc H := fun k x hx => hP (wr.length + k) x (by rw [List.getElem?_append_right (Nat.le_add_right _ _), Nat.add_sub_cancel_left]; exact hx)
theorem zappD {A0 : Nat → Prop} {wr wc : va_W} (hD : va_D A0 (wr ++ wc)) : va_D A0 wc :=
  ⟨fun i j p q hi hj e => by
    have := hD.1 (wr.length + i) (wr.length + j) p q (by rw [List.getElem?_append_right (Nat.le_add_right _ _), Nat.add_sub_cancel_left]; exact hi) (by rw [List.getElem?_append_right (Nat.le_add_right _ _), Nat.add_sub_cancel_left]; exact hj) e
    omega, fun k x hx => hD.2 (wr.length + k) x (by rw [List.getElem?_append_right (Nat.le_add_right _ _), Nat.add_sub_cancel_left]; exact hx)⟩
theorem zjoin2 {A0 : Nat → Prop} {D : va_G} {cl : List vw_C} {wr wc w1 : va_W} {H H1 : Heap} (hP : va_P D cl (wr ++ wc) H) (hD : va_D A0 (wr ++ wc)) (hk : ∀ q : Nat, q < H.size → ¬ va_A wc H.size q → H1[q]? = H[q]?) (hF : ∀ q : Nat, va_A wc H.size q → A0 q) (hP1 : va_P D cl w1 H1) (hD1 : va_D (va_A wc H.size) w1) : va_P D cl (wr ++ w1) H1 ∧ va_D A0 (wr ++ w1) := by
  have at1 : ∀ (k : Nat) (x : Nat × va_E), wr[k]? = some x → (wr ++ wc)[k]? = some x := fun k x hx => by rw [List.getElem?_append_left (List.getElem?_eq_some_iff.mp hx).1]; exact hx
  have at2 : ∀ (k : Nat) (x : Nat × va_E), wc[k]? = some x → (wr ++ wc)[wr.length + k]? = some x := fun k x hx => by rw [List.getElem?_append_right (Nat.le_add_right _ _), Nat.add_sub_cancel_left]; exact hx
  have ap : ∀ (k : Nat) (x : Nat × va_E), wr[k]? = some x → ¬ va_A wc H.size x.1 := by
    intro k x hx h
    rcases h with ⟨j, e, h⟩ | h
    · have := hD.1 k (wr.length + j) x (x.1, e) (at1 k x hx) (at2 j _ h) rfl
      have := (List.getElem?_eq_some_iff.mp hx).1
      omega
    · have := (hP k x (at1 k x hx)).lt
      omega
  refine ⟨((zapp_l hP).kept (fun k x hx => hk x.1 ((hP k x (at1 k x hx)).lt) (ap k x hx))).app hP1, fun i j p q hi hj e => ?_, fun k x hx => ?_⟩
  · by_cases h1 : i < wr.length <;> by_cases h2 : j < wr.length
    · rw [List.getElem?_append_left h1] at hi
      rw [List.getElem?_append_left h2] at hj
      exact hD.1 i j p q (at1 i p hi) (at1 j q hj) e
    · rw [List.getElem?_append_left h1] at hi
      rw [List.getElem?_append_right (by omega)] at hj
      exact absurd (e ▸ hD1.2 _ q hj) (ap i p hi)
    · rw [List.getElem?_append_right (by omega)] at hi
      rw [List.getElem?_append_left h2] at hj
      exact absurd (e.symm ▸ hD1.2 _ p hi) (ap j q hj)
    · rw [List.getElem?_append_right (by omega)] at hi
      rw [List.getElem?_append_right (by omega)] at hj
      have := hD1.1 _ _ p q hi hj e
      omega
  · by_cases h1 : k < wr.length
    · rw [List.getElem?_append_left h1] at hx
      exact hD.2 k x (at1 k x hx)
    · rw [List.getElem?_append_right (by omega)] at hx
      exact hF _ (hD1.2 _ x hx)
def zMi (own : String) (ix : Nat) (y : MethodName) (b : ByteArray) (n np : Nat) : Prop :=
  Cond.methodLink own ix y ∈ zT ∧ Cond.instanceMethod y ∈ zT ∧ Cond.initialized y.cls ∈ zT ∧ Cond.code y b n none ∈ zT ∧ (y.cls ≠ "java/lang/invoke/MethodHandle" ∧ y.cls ≠ "java/lang/invoke/VarHandle") ∧ (parseMethodDescriptor y.desc).map (fun d => d.parameters.length) = some np ∧ y.name = "<init>"
def zMn (own : String) (ix : Nat) (y : MethodName) (b : ByteArray) (n np : Nat) : Prop :=
  Cond.methodLinkNest own ix y "HalvedProof" ∈ zNs ∧ Cond.instanceMethod y ∈ zT ∧ Cond.initialized y.cls ∈ zT ∧ Cond.code y b n none ∈ zT ∧ (y.cls ≠ "java/lang/invoke/MethodHandle" ∧ y.cls ≠ "java/lang/invoke/VarHandle") ∧ (parseMethodDescriptor y.desc).map (fun d => d.parameters.length) = some np ∧ y.name = "<init>"
theorem zpreI (F : zI l D tA own cc nL rm X) {H : Heap} {locs : List Loc} {wc : va_W} {A : Nat → Prop} {av : List Value} (hP : va_P D classes wc H) (hD : va_D A wc) (hS : va_S (zA X) (zH X) H locs) (hF : ∀ q : Nat, va_A wc H.size q → zA X q) : PreS (zs X) H (va_Pc av (fun U => (U.heap.size = H.size ∧ va_P D classes wc U.heap ∧ va_K D classes (zt tA) U ∧ va_D (fun _ => True) wc ∧ zG tA (va_A wc H.size) U U.heap) ∧ zCx tA U)) av :=
  ⟨fun a U g mk q => by
    obtain ⟨q0, ⟨q1, qP, qK, qD, qG⟩, qC⟩ := q
    exact ⟨q0, ⟨q1, qP, va_K.moved (u := U) (U := U.calling g mk a) (Vm.Alike.refl U.vm) qK, qD, qG.call⟩, qC.call⟩,
   fun U hU hW => ⟨rfl, ⟨by rw [hU], by rw [hU]; exact hP, va_K.moved hW.alike F.1.2.2.2.2.1, hD.weaken (fun _ _ _ _ => trivial), by rw [hU]; exact F.1.2.2.2.2.2.2.2.2.2.2.1.to hS hF hW⟩, F.2.2.2.2.warm hW⟩⟩
theorem zfreeI (F : zI l D tA own cc nL rm X) {H : Heap} {locs : List Loc} {wr wc : va_W} (hD : va_D (zA X) (wr ++ wc)) (hS : va_S (zA X) (zH X) H locs) : ∀ q : Nat, va_A wc H.size q → zA X q := by
  intro q h
  rcases h with ⟨j, e, h⟩ | h
  · exact hD.2 (wr.length + j) (q, e) (by rw [List.getElem?_append_right (Nat.le_add_right _ _), Nat.add_sub_cancel_left]; exact h)
  · exact F.1.2.2.2.2.2.1 q (Nat.le_trans hS.1 h)
theorem i_callI (F : zI l D tA own cc nL rm X) {ix nY np c : Nat} {y : MethodName} {bY : ByteArray} {rmY : Room} {e : va_E} {As : List Value} {wr : va_W} {w1 : (Nat → Nat) → va_W} (hcon : zCc l D tA y bY nY rmY (.ref c :: As) c [(c, e)] w1) (d : decode cc pc = .ok (.invokespecial ix, 3)) (cw : zMi own ix y bY nY np) (hR : rmY.frames + 1 ≤ rm.frames ∧ 8 + (nY + 11) + rmY.locals ≤ rm.locals) (hlen : As.length = np) (hnL : lv.length = nL) {stk : List Value} (hst : stk = As.reverse ++ .ref c :: st) (hcat : (st.map fun v => v.category).sum ≤ 8) (hRc : cs + rmY.cells ≤ rm.cells ∧ sl + rmY.slots ≤ rm.slots)
    (kk : ∀ q : Nat → Nat, q 0 = c → zZ X D (cs + rmY.cells) (sl + rmY.slots) (wr ++ w1 q) (pc + 3) lv st) : zZ X D cs sl (wr ++ [(c, e)]) pc lv stk := by
  intro H locs ls hP hD hS hl
  subst hst
  have ez : zl X = l := F.1.2.2.2.2.2.2.2.1
  subst ez
  have hF := zfreeI F hD hS
  refine va_callv (va_runI (As := As) (rest := st) (g := F0 (zm X) pc ls (As.reverse ++ .ref c :: st)) (Ts := zT) (n := np) ⟨F.1.1, F.1.2.1, rfl, F.1.2.2.1, F.1.2.2.2.1⟩ (hcon H.size) ⟨⟨rfl, rfl, by rw [F.1.2.2.2.2.2.2.2.2.1]; exact hR.1, by rw [F.1.2.2.2.2.2.2.2.2.2.1]; exact hR.2, fun w hw a' U hW => by
    rcases List.mem_cons.mp hw with h | h
    · rw [h]; exact zwords F.1.2.2.2.1 hW cw.2.2.2.1
    · exact zwords F.1.2.2.2.1 hW h, List.mem_cons_self, F.1.2.2.2.1 _ cw.2.2.2.1, F.1.2.2.2.1 _ cw.2.2.1, cw.2.2.2.2.1, fun sig h => by
    have h2 := cw.2.2.2.2.2.1
    rw [h] at h2
    exact (Option.some.inj h2).symm, F.1.2.2.2.1 _ cw.1⟩, cw.2.2.2.2.2.2, F.1.2.2.2.1 _ cw.2.1⟩ (zpreI F (zapp_r hP) (zappD hD) hS hF) rfl hlen (hl.1.trans (hnL.trans F.1.2.2.2.2.2.2.1.symm)) rfl (lv_room hcat) d ⟨by rw [F.2.2.1]; exact hRc.1, by rw [F.2.2.2.1]; exact hRc.2⟩) hS (fun q _ h => hF q h) hF (fun u t H1 locs1 ht hvm hw hB hz1 hk1 hS1 => ?_)
  obtain ⟨hP1, hD1⟩ := hB
  rw [ht] at hP1
  obtain ⟨hPj, hDj⟩ := zjoin2 hP hD hk1 hF hP1 hD1
  exact kk u hw H1 locs1 ls hPj hDj hS1 hl
theorem i_callN (F : zI l D tA own cc nL rm X) {ix nY np c : Nat} {y : MethodName} {bY : ByteArray} {rmY : Room} {e : va_E} {As : List Value} {wr : va_W} {w1 : (Nat → Nat) → va_W} (hcon : zCc l D tA y bY nY rmY (.ref c :: As) c [(c, e)] w1) (d : decode cc pc = .ok (.invokespecial ix, 3)) (cw : zMn own ix y bY nY np) (hR : rmY.frames + 1 ≤ rm.frames ∧ 8 + (nY + 11) + rmY.locals ≤ rm.locals) (hlen : As.length = np) (hnL : lv.length = nL) {stk : List Value} (hst : stk = As.reverse ++ .ref c :: st) (hcat : (st.map fun v => v.category).sum ≤ 8) (hRc : cs + rmY.cells ≤ rm.cells ∧ sl + rmY.slots ≤ rm.slots)
    (kk : ∀ q : Nat → Nat, q 0 = c → zZ X D (cs + rmY.cells) (sl + rmY.slots) (wr ++ w1 q) (pc + 3) lv st) : zZ X D cs sl (wr ++ [(c, e)]) pc lv stk := by
  intro H locs ls hP hD hS hl
  subst hst
  have ez : zl X = l := F.1.2.2.2.2.2.2.2.1
  subst ez
  have hF := zfreeI F hD hS
  refine va_callv (va_runIN (As := As) (rest := st) (g := F0 (zm X) pc ls (As.reverse ++ .ref c :: st)) (Ts := zT) (n := np) ⟨F.1.1, F.1.2.1, rfl, F.1.2.2.1, F.1.2.2.2.1⟩ (hcon H.size) ⟨va_cnB np F.1.2.2.2.1 (zgood (fun w hw => by
    rcases List.mem_cons.mp hw with h | h
    · rw [h]; exact cw.2.2.2.1
    · exact h)) rfl rfl rfl (F.2.2.2.2.2.2 _ cw.1) (F.1.2.2.2.1 _ cw.2.2.1) ⟨cw.2.2.2.2.1.1, cw.2.2.2.2.1.2, cw.2.2.2.2.2.1⟩ ⟨by rw [F.1.2.2.2.2.2.2.2.2.1]; exact hR.1, by rw [F.1.2.2.2.2.2.2.2.2.2.1]; exact hR.2⟩, cw.2.2.2.2.2.2, F.1.2.2.2.1 _ cw.2.1⟩ (zpreI F (zapp_r hP) (zappD hD) hS hF) rfl hlen (hl.1.trans (hnL.trans F.1.2.2.2.2.2.2.1.symm)) rfl (lv_room hcat) d ⟨by rw [F.2.2.1]; exact hRc.1, by rw [F.2.2.2.1]; exact hRc.2⟩) hS (fun q _ h => hF q h) hF (fun u t H1 locs1 ht hvm hw hB hz1 hk1 hS1 => ?_)
  obtain ⟨hP1, hD1⟩ := hB
  rw [ht] at hP1
  obtain ⟨hPj, hDj⟩ := zjoin2 hP hD hk1 hF hP1 hD1
  exact kk u hw H1 locs1 ls hPj hDj hS1 hl
/-- a call that makes nothing, on the whole world -/
theorem i_callvW (F : zI l D tA own cc nL rm X) {β : Type} {ix nY np ci q0 : Nat} {y : MethodName} {bY : ByteArray} {rmY : Room} {w1 : β → va_W} {oc : Option β} {r : β} {b : Addr} {As : List Value} {fs : List Value} {q : vw_C} (hcon : zCv l D tA y bY nY rmY (.ref b :: As) ws w1 oc) (hoc : oc = some r) (d : decode cc pc = .ok (.invokevirtual ix, 3)) (cw : zMv own ix y bY nY none np)
    (h0 : rmY.cells = 0 ∧ rmY.slots = 0) (hR : rmY.frames + 1 ≤ rm.frames ∧ 8 + (nY + 11) + rmY.locals ≤ rm.locals) (hlen : As.length = np) (hnL : lv.length = nL) {stk : List Value} (hst : stk = As.reverse ++ .ref b :: st) (hcat : (st.map fun v => v.category).sum ≤ 8) (hRc : cs ≤ rm.cells ∧ sl ≤ rm.slots)
    (hq : classes[ci]? = some q) (hqc : q.1 = y.cls) (he : ws[q0]? = some (b, .inr (ci, fs)))
    (kk : zZ X D cs sl (w1 r) (pc + 3) lv st) : zZ X D cs sl ws pc lv stk := by
  intro H locs ls hP hD hS hl
  subst hst
  have ez : zl X = l := F.1.2.2.2.2.2.2.2.1
  subst ez
  have hF := zfreeI (wr := []) F hD hS
  refine va_callv (va_runV (As := As) (rest := st) (g := F0 (zm X) pc ls (As.reverse ++ .ref b :: st)) (Ts := zT) (C := y.cls) ⟨F.1.1, F.1.2.1, rfl, F.1.2.2.1, F.1.2.2.2.1⟩ (hcon r hoc H.size) ⟨zcallB F.1 cw.1 cw.2.2.2.1 cw.2.2.2.2.1 cw.2.2.2.2.2.1 cw.2.2.2.2.2.2 h0 hR, F.1.2.2.2.1 _ cw.2.1, F.1.2.2.2.1 _ cw.2.2.1⟩ ⟨zblind, hqc ▸ va_recv F.1.2.2.2.2.1 hP hq he, fun U hU hW => ⟨rfl, by rw [hU], by rw [hU]; exact hP, va_K.moved hW.alike F.1.2.2.2.2.1, hD.weaken (fun _ _ _ _ => trivial), by rw [hU]; exact F.1.2.2.2.2.2.2.2.2.2.2.1.to hS hF hW⟩⟩ rfl hlen (hl.1.trans (hnL.trans F.1.2.2.2.2.2.2.1.symm)) rfl (lv_room hcat) d ⟨by rw [F.2.2.1]; exact hRc.1, by rw [F.2.2.2.1]; exact hRc.2⟩) hS (fun q _ h => hF q h) hF (fun u t H1 locs1 ht hvm hw hB hz1 hk1 hS1 => ?_)
  obtain ⟨hP1, hD1⟩ := hB
  rw [ht] at hP1
  exact kk H1 locs1 ls hP1 (hD1.weaken (fun k q _ h => hF q.1 h)) hS1 hl
theorem zra_o {s : State} {C : String} : ∀ c c' : ClassId, va_RA s c (.object C) → va_RA s c' (.object C) → c = c' := by
  rintro c c' ⟨_, _, _, _, _, h⟩ ⟨_, _, _, _, _, h'⟩
  exact Option.some.inj (h.symm.trans h')
theorem i_anew (F : zI l D tA own cc nL rm X) {ix : Nat} (d : decode cc pc = .ok (.anewarray ix, 3)) (w : Cond.classLink own ix "HalvedProof$State" ∈ zT) {z : Int32} {N : Nat} (hn : ¬ z < 0) (hN : z.toNatClampNeg = N) (hb : N * 4 ≤ 536870912) (hR : cs + 1 ≤ rm.cells ∧ sl + N ≤ rm.slots)
    (kk : ∀ q : Nat, zZ X D (cs + 1) (sl + N) (ws ++ [(q, .inl (tA 4, (N, .inr (.inr (.inr (.inr (fun _ => none)))))))]) (pc + 3) lv (.ref q :: st)) : zZ X D cs sl ws pc lv (.int z :: st) := by
  intro H locs ls hP hD hS hl
  refine va_newq F.1.1 F.1.2.1 F.1.2.2.1 (F.1.2.2.2.1 _ w) F.2.2.2.2.1 F.1.2.2.2.2.1 hP hD hS F.1.2.2.2.2.2.1 hn hN hb (by rw [F.2.2.1]; exact hR.1) (by rw [F.2.2.2.1]; exact hR.2) d (fun q cA H1 hK1 hP1 hD1 hS1 => ?_)
  have e := zcA (k := 4) hK1 rfl zra_o
  subst e
  exact kk q H1 locs ls hP1 hD1 hS1 hl
theorem i_aast (F : zI l D tA own cc nL rm X) {n v q0 qk : Nat} {vs : List Value} {f : Nat → Option Nat} (ha : ws[q0]? = some (a, .inl (tA 4, n, .inr (.inr (.inr (.inr f)))))) (hv : ws[qk]? = some (v, .inr (6, vs))) {i : Int32} (hin : vp_in i n) (d : decode cc pc = .ok (.aastore, 1)) (hw : ws.set q0 (a, .inl (tA 4, n, .inr (.inr (.inr (.inr (va_up f i.toNatClampNeg (some v))))))) = ws')
    (kk : zZ X D cs sl ws' (pc + 1) lv st) : zZ X D cs sl ws pc lv (.ref v :: .int i :: .ref a :: st) :=
  fun H locs ls hP hD hS hl => va_astq F.1.1 F.1.2.1 F.1.2.2.2.2.1 hP hD hS q0 4 qk 6 (r := (RX6, TX6, 10)) ha rfl hv rfl hin d (fun H1 locs1 hP1 hD1 hS1 => kk H1 locs1 ls (hw ▸ hP1) (hw ▸ hD1) hS1 hl)
/-- the same cells, told otherwise -/
theorem i_perm (is : List Nat) (hn : va_nd is = true) (hs : is.map (fun i => ws[i]?) = ws'.map some) (kk : zZ X D cs sl ws' pc lv st) : zZ X D cs sl ws pc lv st :=
  fun H locs ls hP hD hS hl => kk H locs ls (hP.sub is (zmap_fm hs)) (hD.sub is hn hs) hS hl
theorem zarr_ext {cA : ClassId} {n : Nat} {f g : Nat → Option Nat} (h : ∀ j, j < n → f j = g j) : vp_cell cA (n, .inr (.inr (.inr (.inr f)))) = vp_cell cA (n, .inr (.inr (.inr (.inr g)))) := by
  rw [vp_cell_q, vp_cell_q]
  unfold arrV
  congr 2
  funext i
  exact congrArg va_rf (h i.1 i.2)
theorem i_ext {k : Nat} {f g : Nat → Option Nat} (he : ws[k]? = some (a, .inl (cA, n, .inr (.inr (.inr (.inr f)))))) (hw : ws.set k (a, .inl (cA, n, .inr (.inr (.inr (.inr g))))) = ws') (hfg : ∀ j, j < n → f j = g j) (kk : zZ X D cs sl ws' pc lv st) : zZ X D cs sl ws pc lv st := by
  intro H locs ls hP hD hS hl
  subst hw
  have hk : k < ws.length := (List.getElem?_eq_some_iff.mp he).1
  have old : ∀ (j : Nat) (x : Nat × va_E), (ws.set k (a, .inl (cA, n, .inr (.inr (.inr (.inr g))))))[j]? = some x → ∃ x0, ws[j]? = some x0 ∧ x0.1 = x.1 := by
    intro j x hx
    by_cases e : j = k
    · subst e
      rw [List.getElem?_set_self hk] at hx
      cases hx
      exact ⟨_, he, rfl⟩
    · rw [List.getElem?_set_ne (Ne.symm e)] at hx
      exact ⟨x, hx, rfl⟩
  refine kk H locs ls (fun j x hx => ?_) ⟨fun i j p q hi hj e => ?_, fun j x hx => ?_⟩ hS hl
  · by_cases e : j = k
    · subst e
      rw [List.getElem?_set_self hk] at hx
      cases hx
      have h1 : H[a]? = some (vp_cell cA (n, .inr (.inr (.inr (.inr f))))) := hP j _ he
      show H[a]? = some (vp_cell cA (n, .inr (.inr (.inr (.inr g)))))
      rw [h1, zarr_ext hfg]
    · rw [List.getElem?_set_ne (Ne.symm e)] at hx
      exact hP j x hx
  · obtain ⟨p0, h1, h2⟩ := old i p hi
    obtain ⟨q0, h3, h4⟩ := old j q hj
    exact hD.1 i j p0 q0 h1 h3 (h2.trans (e.trans h4.symm))
  · obtain ⟨x0, h1, h2⟩ := old j x hx
    rw [← h2]
    exact hD.2 j x0 h1
theorem zP_mem {D : va_G} {cl : List vw_C} {w w' : va_W} {H : Heap} (h : ∀ x ∈ w', x ∈ w) (hP : va_P D cl w H) : va_P D cl w' H := fun k x hx => by
  obtain ⟨j, hj⟩ := List.getElem?_of_mem (h x (List.mem_of_getElem? hx))
  exact hP j x hj
theorem zD_nodup {A : Nat → Prop} {w : va_W} : va_D A w ↔ (w.map Prod.fst).Nodup ∧ ∀ x ∈ w, A x.1 := by
  constructor
  · rintro ⟨h1, h2⟩
    refine ⟨List.pairwise_iff_getElem.mpr (fun i j hi hj hij e => ?_), fun x hx => ?_⟩
    · have hi' : i < w.length := by simpa using hi
      have hj' : j < w.length := by simpa using hj
      rw [List.getElem_map, List.getElem_map] at e
      have := h1 i j _ _ (List.getElem?_eq_getElem hi') (List.getElem?_eq_getElem hj') e
      omega
    · obtain ⟨j, hj⟩ := List.getElem?_of_mem hx
      exact h2 j x hj
  · rintro ⟨h1, h2⟩
    have h1 := List.pairwise_iff_getElem.mp h1
    refine ⟨fun i j p q hi hj e => ?_, fun k x hx => h2 x (List.mem_of_getElem? hx)⟩
    obtain ⟨li, ei⟩ := List.getElem?_eq_some_iff.mp hi
    obtain ⟨lj, ej⟩ := List.getElem?_eq_some_iff.mp hj
    rcases Nat.lt_trichotomy i j with h | h | h
    · exact absurd (by rw [List.getElem_map, List.getElem_map, ei, ej]; exact e) (h1 i j (by simpa using li) (by simpa using lj) h)
    · exact h
    · exact absurd (by rw [List.getElem_map, List.getElem_map, ei, ej]; exact e.symm) (h1 j i (by simpa using lj) (by simpa using li) h)
theorem i_prm (h : ws.Perm ws') (kk : zZ X D cs sl ws' pc lv st) : zZ X D cs sl ws pc lv st := by
  intro H locs ls hP hD hS hl
  refine kk H locs ls (zP_mem (fun x hx => h.mem_iff.mpr hx) hP) ?_ hS hl
  obtain ⟨h1, h2⟩ := zD_nodup.mp hD
  exact zD_nodup.mpr ⟨(h.map Prod.fst).nodup_iff.mp h1, fun x hx => h2 x (h.mem_iff.mpr hx)⟩
theorem i_front {c x : Nat × va_E} {W : va_W} (kk : zZ X D cs sl (c :: x :: W) pc lv st) : zZ X D cs sl ((c :: W) ++ [x]) pc lv st :=
  i_prm (by
    show (c :: (W ++ [x])).Perm (c :: x :: W)
    exact (List.perm_append_comm (l₁ := W) (l₂ := [x])).cons c) kk
theorem i_swap {c : Nat × va_E} {W V : va_W} (kk : zZ X D cs sl (c :: (V ++ W)) pc lv st) : zZ X D cs sl ((c :: W) ++ V) pc lv st :=
  i_prm (by
    show (c :: (W ++ V)).Perm (c :: (V ++ W))
    exact (List.perm_append_comm).cons c) kk
theorem i_aast2 (F : zI l D tA own cc nL rm X) {n v : Nat} {c : Nat × va_E} {W wt : va_W} {vs : List Value} {f : Nat → Option Nat} {i : Int32} (hin : vp_in i n) (d : decode cc pc = .ok (.aastore, 1)) (hw : c :: (a, .inl (tA 4, n, .inr (.inr (.inr (.inr (va_up f i.toNatClampNeg (some v))))))) :: (W ++ ((v, .inr (6, vs)) :: wt)) = ws')
    (kk : zZ X D cs sl ws' (pc + 1) lv st) : zZ X D cs sl ((c :: (a, .inl (tA 4, n, .inr (.inr (.inr (.inr f))))) :: W) ++ ((v, .inr (6, vs)) :: wt)) pc lv (.ref v :: .int i :: .ref a :: st) :=
  i_aast F (q0 := 1) (qk := W.length + 2) rfl (by
    show (W ++ ((v, .inr (6, vs)) :: wt))[W.length]? = _
    rw [List.getElem?_append_right (Nat.le_refl _), Nat.sub_self]
    rfl) hin d hw kk
end ZI
