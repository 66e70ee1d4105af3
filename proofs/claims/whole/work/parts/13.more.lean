section ZMO
variable {l : Launch} {D : va_G} {tA : Nat → ClassId} {own : String} {cc : ByteArray} {nL : Nat} {rm : Room} {X : ZX} {α β : Type} {out : α} {o o1 o2 : Option α} {ws ws' : va_W} {pc : Nat} {lv lv' : List (Option Value)} {st : List Value} {cA : ClassId} {n : Nat} {a : Addr}
def zrow (l : List Nat) : Nat → Option Nat := fun j => some (l.getD j 0)
/-- cells by their places in another list -/
def zq (q : Nat → Nat) (L : List Nat) : Nat → Nat := fun k => q (L.getD k 0)
theorem y_mono {o' : Option α} (h : o = some out → o' = some out) (k : zY X D out o' ws pc lv st) : zY X D out o ws pc lv st := fun e => k (h e)
theorem y_aaldr (F : zF l D tA own cc nL rm X) (d : decode cc pc = .ok (.aaload, 1)) (q0 t0 : Nat) {ty : FieldType} {L : List Nat} {i : Int32} (ha : ws[q0]? = some (a, .inl (cA, n, .inr (.inr (.inr (.inr (zrow L))))))) (ht : (zt tA)[t0]? = some (cA, ty)) (hty : ty.isReference = true) (kk : vp_in i n → zY X D out o ws (pc + 1) lv (.ref (L.getD i.toNatClampNeg 0) :: st)) : zY X D out (zgd i n o) ws pc lv (.int i :: .ref a :: st) :=
  y_gd fun hin h H locs ls hP hD hS hl => va_aldr F.1 F.2.1 F.2.2.2.2.1 hP q0 t0 ha ht hty hin d (kk hin h H locs ls hP hD hS hl)
theorem y_aald2 (F : zF l D tA own cc nL rm X) (d : decode cc pc = .ok (.aaload, 1)) (q0 : Nat) {r0 r1 : Nat} {i : Int32} (ha : ws[q0]? = some (a, .inl (tA 4, 2, .inr (.inr (.inr (.inr (zrow [r0, r1]))))))) (k0 : zY X D out o1 ws (pc + 1) lv (.ref r0 :: st)) (k1 : zY X D out o2 ws (pc + 1) lv (.ref r1 :: st)) : zY X D out (if i = 0 then o1 else if i = 1 then o2 else none) ws pc lv (.int i :: .ref a :: st) := by
  by_cases e0 : i = 0
  · rw [if_pos e0]
    intro h H locs ls hP hD hS hl
    subst e0
    exact va_aldr F.1 F.2.1 F.2.2.2.2.1 hP q0 4 ha rfl rfl (by unfold vp_in; decide) d (k0 h H locs ls hP hD hS hl)
  · rw [if_neg e0]
    by_cases e1 : i = 1
    · rw [if_pos e1]
      intro h H locs ls hP hD hS hl
      subst e1
      exact va_aldr F.1 F.2.1 F.2.2.2.2.1 hP q0 4 ha rfl rfl (by unfold vp_in; decide) d (k1 h H locs ls hP hD hS hl)
    · rw [if_neg e1]
      exact y_none
theorem zset_same {ws : va_W} {i : Nat} {c : Nat × va_E} (h : ws[i]? = some c) : ws.set i c = ws := by
  apply List.ext_getElem?
  intro k
  by_cases e : k = i
  · subst e
    rw [List.getElem?_set_self (List.getElem?_eq_some_iff.mp h).1, h]
  · rw [List.getElem?_set_ne (Ne.symm e)]
theorem zput_same : ∀ (is : List Nat) (ws w0 : va_W), is.map (fun i => ws[i]?) = w0.map some → zput ws is w0 = ws := by
  intro is
  induction is with
  | nil => intro ws w0 h; cases w0 <;> rfl
  | cons i is ih =>
    intro ws w0 h
    cases w0 with
    | nil => rfl
    | cons c cs =>
      have h1 : ws[i]? = some c := by simpa using (List.cons.inj h).1
      have h2 : is.map (fun i => ws[i]?) = cs.map some := (List.cons.inj h).2
      show zput (ws.set i c) is cs = ws
      rw [zset_same h1]
      exact ih ws cs h2
theorem y_calliR (F : zF l D tA own cc nL rm X) {ix nY np ci q0 : Nat} {y : MethodName} {bY : ByteArray} {ty : FieldType} {rmY : Room} {w0 : va_W} {rr : β → Int32} {oc : Option β} {kf : β → Option α} {b : Addr} {As : List Value} {fs : List Value} {q : vw_C} (hcon : zCi l D tA y bY nY ty rmY (.ref b :: As) w0 rr (fun _ => w0) oc) (d : decode cc pc = .ok (.invokevirtual ix, 3)) (cw : zMv own ix y bY nY (some ty) np)
    (h0 : rmY.cells = 0 ∧ rmY.slots = 0) (hR : rmY.frames + 1 ≤ rm.frames ∧ 8 + (nY + 11) + rmY.locals ≤ rm.locals) (hlen : As.length = np) (hnL : lv.length = nL) {stk : List Value} (hst : stk = As.reverse ++ .ref b :: st) (hcat : (st.map fun v => v.category).sum ≤ 8)
    (hq : classes[ci]? = some q) (hqc : q.1 = y.cls) (he : ws[q0]? = some (b, .inr (ci, fs))) (is : List Nat) (hC : is.map (fun i => ws[i]?) = w0.map some) (hn : va_nd is = true)
    (kk : ∀ r : β, zY X D out (kf r) ws (pc + 3) lv (.int (rr r) :: st)) : zY X D out (oc.bind kf) ws pc lv stk :=
  y_calli F (wf := fun _ => ws) hcon d cw h0 hR hlen hnL hst hcat hq hqc he is hC hn (fun _ => rfl) (fun _ => zCh_put (zput_same is ws w0 hC)) kk
theorem y_calllR (F : zF l D tA own cc nL rm X) {ix nY np ci q0 : Nat} {y : MethodName} {bY : ByteArray} {rmY : Room} {w0 : va_W} {rr : β → Int64} {oc : Option β} {kf : β → Option α} {b : Addr} {As : List Value} {fs : List Value} {q : vw_C} (hcon : zCl l D tA y bY nY rmY (.ref b :: As) w0 rr (fun _ => w0) oc) (d : decode cc pc = .ok (.invokevirtual ix, 3)) (cw : zMv own ix y bY nY (some .long) np)
    (h0 : rmY.cells = 0 ∧ rmY.slots = 0) (hR : rmY.frames + 1 ≤ rm.frames ∧ 8 + (nY + 11) + rmY.locals ≤ rm.locals) (hlen : As.length = np) (hnL : lv.length = nL) {stk : List Value} (hst : stk = As.reverse ++ .ref b :: st) (hcat : (st.map fun v => v.category).sum ≤ 8)
    (hq : classes[ci]? = some q) (hqc : q.1 = y.cls) (he : ws[q0]? = some (b, .inr (ci, fs))) (is : List Nat) (hC : is.map (fun i => ws[i]?) = w0.map some) (hn : va_nd is = true)
    (kk : ∀ r : β, zY X D out (kf r) ws (pc + 3) lv (.long (rr r) :: st)) : zY X D out (oc.bind kf) ws pc lv stk :=
  y_calll F (wf := fun _ => ws) hcon d cw h0 hR hlen hnL hst hcat hq hqc he is hC hn (fun _ => rfl) (fun _ => zCh_put (zput_same is ws w0 hC)) kk
theorem y_copyi (F : zF l D tA own cc nL rm X) {ix N : Nat} (d : decode cc pc = .ok (.invokestatic ix, 3)) (w : Cond.methodLink own ix arraycopyName ∈ zT ∧ Cond.native arraycopyName ∈ zT ∧ Cond.static arraycopyName ∈ zT ∧ Cond.initialized "java/lang/System" ∈ zT) (hR : 1 ≤ rm.frames ∧ (st.map fun v => v.category).sum + (nativeFrameWords "java/lang/System" "arraycopy" 5 + 11) ≤ rm.locals) (hnL : lv.length = nL) (q0 q1 : Nat) {a0 : Nat} {f g : Nat → Int32} (ha0 : ws[q0]? = some (a0, .inl (tA 0, N, .inl f))) (ha1 : ws[q1]? = some (a, .inl (tA 0, N, .inl g)))
    {z : Int32} (hz : z.toNatClampNeg = N) (hz0 : ¬ z < 0) {e : β} {kf : β → Option α} (wf : β → va_W) (hw : ws.set q1 (a, .inl (tA 0, N, .inl (va_cpy f g 0 0 N))) = wf e) (kk : ∀ o' : β, zY X D out (kf o') (wf o') (pc + 3) lv st) : zY X D out (zlet e kf) ws pc lv (.int z :: .int 0 :: .ref a :: .int 0 :: .ref a0 :: st) := by
  intro h H locs ls hP hD hS hl
  have e0 : (0 : Int32).toNatClampNeg = 0 := by decide
  refine va_copyi F.1 F.2.1 (F.2.2.2.2.2.2.1.trans (hnL.symm.trans hl.1.symm)) F.2.2.1 (F.2.2.2.1 _ w.1) (F.2.2.2.1 _ w.2.1) (F.2.2.2.1 _ w.2.2.1) (F.2.2.2.1 _ w.2.2.2) F.2.2.2.2.1 hP hD hS q0 q1 0 0 ha0 ha1 rfl rfl rfl (by decide) (by decide) hz0 (by rw [e0, hz]; omega) (by rw [e0, hz]; omega) (fun _ _ => rfl) (by rw [F.2.2.2.2.2.2.2.2.1]; exact hR.1) (by rw [F.2.2.2.2.2.2.2.2.2.1]; exact hR.2) d (fun H1 locs1 hP1 hD1 hS1 => ?_)
  rw [e0, hz, hw] at hP1 hD1
  exact kk e h H1 locs1 ls hP1 hD1 hS1 hl
theorem zcell_i {cA : ClassId} {n : Nat} {f g : Nat → Int32} (h : ∀ j, j < n → f j = g j) : vp_cell cA (n, .inl f) = vp_cell cA (n, .inl g) := by
  rw [vp_cell_i, vp_cell_i]
  unfold arrV
  congr 1
  apply Array.ext
  · simp
  · intro i h1 h2
    simp at h1 h2 ⊢
    exact h i (by omega)
theorem zcell_l {cA : ClassId} {n : Nat} {f g : Nat → Int64} (h : ∀ j, j < n → f j = g j) : vp_cell cA (n, .inr (.inl f)) = vp_cell cA (n, .inr (.inl g)) := by
  rw [vp_cell_l, vp_cell_l]
  unfold arrV
  congr 1
  apply Array.ext
  · simp
  · intro i h1 h2
    simp at h1 h2 ⊢
    exact h i (by omega)
theorem y_one {c c' : Nat × va_E} (h1 : c.1 = c'.1) (h2 : ∀ H : Heap, va_at D classes c H → va_at D classes c' H) (k : zY X D out o [c'] pc lv st) : zY X D out o [c] pc lv st := by
  intro h H locs ls hP hD hS hl
  have hP' : va_P D classes [c'] H := fun i q hq => by
    have hi : i < 1 := (List.getElem?_eq_some_iff.mp hq).1
    have : i = 0 := by omega
    subst this
    cases hq
    exact h2 H (hP 0 c rfl)
  have hD' : va_D (zA X) [c'] := ⟨fun i j p q hi hj _ => by
    have h3 : i < 1 := (List.getElem?_eq_some_iff.mp hi).1
    have h4 : j < 1 := (List.getElem?_eq_some_iff.mp hj).1
    omega, fun i q hq => by
    have hi : i < 1 := (List.getElem?_eq_some_iff.mp hq).1
    have : i = 0 := by omega
    subst this
    cases hq
    rw [← h1]
    exact hD.2 0 c rfl⟩
  exact k h H locs ls hP' hD' hS hl
abbrev rmJ7_fill : Room := { frames := 0, cells := 0, slots := 0, locals := 0 }
theorem zfill_i_loop {a : Addr} {v : Int32} {n : Nat} (hn : n < 2 ^ 31) {X : ZX} {out : Unit} (F : zF l D tA RJ7 cJ7_fill_53178 4 rmJ7_fill X) (hr : zRv X D cJ7_fill_53178 (fun (_ : Unit) => [(a, .inl (tA 0, n, .inl (fun _ => v)))]) out) : ∀ (k i : Nat) (g : Nat → Int32), i + k = n → (∀ j, j < i → g j = v) → zY X D out (some ()) [(a, .inl (tA 0, n, .inl g))] 5 [some (.ref a), some (.int v), some (.int (nI i)), some (.int (nI n))] [] := by
  intro k
  induction k with
  | zero =>
    intro i g hi hg
    have e : i = n := by omega
    subst e
    refine y_iload_n (pc := 5) F dJ7_fill_53178_5 rfl ?_
    refine y_iload_n (pc := 6) F dJ7_fill_53178_6 rfl ?_
    refine y_mono (o' := if nI i ≤ nI i then some () else none) (fun h => by rw [if_pos (nI_le (Nat.le_refl i) hn)]) ?_
    refine y_icmp_ge (pc := 7) (tgt := 20) F dJ7_fill_53178_7 rfl ?_ y_none
    refine y_one (c' := (a, .inl (tA 0, i, .inl (fun _ => v)))) rfl (fun H h => ?_) ?_
    · show H[a]? = some (vp_cell _ _)
      rw [← zcell_i hg]
      exact h
    · exact y_vret hr dJ7_fill_53178_20 rfl
  | succ k ih =>
    intro i g hi hg
    refine y_iload_n (pc := 5) F dJ7_fill_53178_5 rfl ?_
    refine y_iload_n (pc := 6) F dJ7_fill_53178_6 rfl ?_
    refine y_mono (o' := if nI n ≤ nI i then none else some ()) (fun h => by rw [if_neg (nI_ge (by omega) hn)]) ?_
    refine y_icmp_ge (pc := 7) (tgt := 20) F dJ7_fill_53178_7 rfl y_none ?_
    refine y_aload_n (pc := 10) F dJ7_fill_53178_10 rfl ?_
    refine y_iload_n (pc := 11) F dJ7_fill_53178_11 rfl ?_
    refine y_iload_n (pc := 12) F dJ7_fill_53178_12 rfl ?_
    refine y_mono (o' := zgd (nI i) n (some ())) (fun h => by
      unfold zgd
      rw [if_pos (by rw [nI_toInt (by omega)]; omega)]) ?_
    refine y_gd fun hin h H locs ls hP hD hS hl => va_iast F.1 F.2.1 F.2.2.2.2.1 hP hD hS 0 0 rfl rfl hin dJ7_fill_53178_13 (fun H1 locs1 hP1 hD1 hS1 => ?_)
    have key : zY X D out (zlet (nI i + 1) fun (x : Int32) => if x = nI (i + 1) then some () else none) [(a, .inl (tA 0, n, .inl (upd g i v)))] 14 [some (.ref a), some (.int v), some (.int (nI i)), some (.int (nI n))] [] := by
      refine y_iinc (v := 1) (lf := fun (x : Int32) => [some (.ref a), some (.int v), some (.int x), some (.int (nI n))]) (pc := 14) F dJ7_fill_53178_14 rfl rfl rfl (fun _ => rfl) (fun x => ?_)
      refine y_ifx (fun e => ?_) (fun _ => y_none)
      subst e
      refine y_goto (tgt := 5) (pc := 17) F dJ7_fill_53178_17 rfl ?_
      refine ih (i + 1) (upd g i v) (by omega) (fun j hj => ?_)
      unfold upd
      by_cases e : j = i
      · rw [if_pos e]
      · rw [if_neg e]; exact hg j (by omega)
    rw [nI_clamp (by omega)] at hP1 hD1
    exact key (by show (if nI i + 1 = nI (i + 1) then some () else none) = some out; rw [if_pos (nI_1 i)]) H1 locs1 ls hP1 hD1 hS1 hl
theorem c_fill_i {a : Addr} {v : Int32} {n : Nat} (hn : n < 2 ^ 31) (f : Nat → Int32) : zCv l D tA yJ7_fill_53178 cJ7_fill_53178 4 rmJ7_fill [.ref a, .int v] [(a, .inl (tA 0, n, .inl f))] (fun (_ : Unit) => [(a, .inl (tA 0, n, .inl (fun _ => v)))]) (some ()) := by
  refine zCv_of (lv0 := [some (.ref a), some (.int v), none, none]) (by decide +kernel) (Nat.le_of_ble_eq_true rfl) rfl (fun X out F hr => ?_)
  refine y_iconst (v := 0) (pc := 0) F dJ7_fill_53178_0 rfl ?_
  refine y_istore_n (lv' := [some (.ref a), some (.int v), some (.int 0), none]) (pc := 1) F dJ7_fill_53178_1 (Nat.le_of_ble_eq_true rfl) rfl rfl ?_
  refine y_aload_n (pc := 2) F dJ7_fill_53178_2 rfl ?_
  refine y_alen (pc := 3) (v := nI n) F dJ7_fill_53178_3 0 0 rfl rfl rfl ?_
  refine y_istore_n (lv' := [some (.ref a), some (.int v), some (.int 0), some (.int (nI n))]) (pc := 4) F dJ7_fill_53178_4 (Nat.le_of_ble_eq_true rfl) rfl rfl ?_
  rw [← nI_0]
  exact zfill_i_loop hn F hr n 0 f (by omega) (fun j h => by omega)
theorem zfill_l_loop {a : Addr} {v : Int64} {n : Nat} (hn : n < 2 ^ 31) {X : ZX} {out : Unit} (F : zF l D tA RJ7 cJ7_fill_d0a16 5 rmJ7_fill X) (hr : zRv X D cJ7_fill_d0a16 (fun (_ : Unit) => [(a, .inl (tA 1, n, .inr (.inl (fun _ => v))))]) out) : ∀ (k i : Nat) (g : Nat → Int64), i + k = n → (∀ j, j < i → g j = v) → zY X D out (some ()) [(a, .inl (tA 1, n, .inr (.inl g)))] 6 [some (.ref a), some (.long v), none, some (.int (nI i)), some (.int (nI n))] [] := by
  intro k
  induction k with
  | zero =>
    intro i g hi hg
    have e : i = n := by omega
    subst e
    refine y_iload_n (pc := 6) F dJ7_fill_d0a16_6 rfl ?_
    refine y_iload (pc := 7) F dJ7_fill_d0a16_7 rfl ?_
    refine y_mono (o' := if nI i ≤ nI i then some () else none) (fun h => by rw [if_pos (nI_le (Nat.le_refl i) hn)]) ?_
    refine y_icmp_ge (pc := 9) (tgt := 22) F dJ7_fill_d0a16_9 rfl ?_ y_none
    refine y_one (c' := (a, .inl (tA 1, i, .inr (.inl (fun _ => v))))) rfl (fun H h => ?_) ?_
    · show H[a]? = some (vp_cell _ _)
      rw [← zcell_l hg]
      exact h
    · exact y_vret hr dJ7_fill_d0a16_22 rfl
  | succ k ih =>
    intro i g hi hg
    refine y_iload_n (pc := 6) F dJ7_fill_d0a16_6 rfl ?_
    refine y_iload (pc := 7) F dJ7_fill_d0a16_7 rfl ?_
    refine y_mono (o' := if nI n ≤ nI i then none else some ()) (fun h => by rw [if_neg (nI_ge (by omega) hn)]) ?_
    refine y_icmp_ge (pc := 9) (tgt := 22) F dJ7_fill_d0a16_9 rfl y_none ?_
    refine y_aload_n (pc := 12) F dJ7_fill_d0a16_12 rfl ?_
    refine y_iload_n (pc := 13) F dJ7_fill_d0a16_13 rfl ?_
    refine y_lload_n (pc := 14) F dJ7_fill_d0a16_14 rfl ?_
    refine y_mono (o' := zgd (nI i) n (some ())) (fun h => by
      unfold zgd
      rw [if_pos (by rw [nI_toInt (by omega)]; omega)]) ?_
    refine y_gd fun hin h H locs ls hP hD hS hl => va_last F.1 F.2.1 F.2.2.2.2.1 hP hD hS 0 1 rfl rfl hin dJ7_fill_d0a16_15 (fun H1 locs1 hP1 hD1 hS1 => ?_)
    have key : zY X D out (zlet (nI i + 1) fun (x : Int32) => if x = nI (i + 1) then some () else none) [(a, .inl (tA 1, n, .inr (.inl (vp_updL g i v))))] 16 [some (.ref a), some (.long v), none, some (.int (nI i)), some (.int (nI n))] [] := by
      refine y_iinc (v := 1) (lf := fun (x : Int32) => [some (.ref a), some (.long v), none, some (.int x), some (.int (nI n))]) (pc := 16) F dJ7_fill_d0a16_16 rfl rfl rfl (fun _ => rfl) (fun x => ?_)
      refine y_ifx (fun e => ?_) (fun _ => y_none)
      subst e
      refine y_goto (tgt := 6) (pc := 19) F dJ7_fill_d0a16_19 rfl ?_
      refine ih (i + 1) (vp_updL g i v) (by omega) (fun j hj => ?_)
      unfold vp_updL
      by_cases e : j = i
      · rw [if_pos e]
      · rw [if_neg e]; exact hg j (by omega)
    rw [nI_clamp (by omega)] at hP1 hD1
    exact key (by show (if nI i + 1 = nI (i + 1) then some () else none) = some out; rw [if_pos (nI_1 i)]) H1 locs1 ls hP1 hD1 hS1 hl
theorem c_fill_l {a : Addr} {v : Int64} {n : Nat} (hn : n < 2 ^ 31) (f : Nat → Int64) : zCv l D tA yJ7_fill_d0a16 cJ7_fill_d0a16 5 rmJ7_fill [.ref a, .long v] [(a, .inl (tA 1, n, .inr (.inl f)))] (fun (_ : Unit) => [(a, .inl (tA 1, n, .inr (.inl (fun _ => v))))]) (some ()) := by
  refine zCv_of (lv0 := [some (.ref a), some (.long v), none, none, none]) (by decide +kernel) (Nat.le_of_ble_eq_true rfl) rfl (fun X out F hr => ?_)
  refine y_iconst (v := 0) (pc := 0) F dJ7_fill_d0a16_0 rfl ?_
  refine y_istore_n (lv' := [some (.ref a), some (.long v), none, some (.int 0), none]) (pc := 1) F dJ7_fill_d0a16_1 (Nat.le_of_ble_eq_true rfl) rfl rfl ?_
  refine y_aload_n (pc := 2) F dJ7_fill_d0a16_2 rfl ?_
  refine y_alen (pc := 3) (v := nI n) F dJ7_fill_d0a16_3 0 1 rfl rfl rfl ?_
  refine y_istore (lv' := [some (.ref a), some (.long v), none, some (.int 0), some (.int (nI n))]) (pc := 4) F dJ7_fill_d0a16_4 (Nat.le_of_ble_eq_true rfl) rfl rfl ?_
  rw [← nI_0]
  exact zfill_l_loop hn F hr n 0 f (by omega) (fun j h => by omega)
theorem y_filli (F : zF l D tA own cc nL rm X) {ix : Nat} {v : Int32} {f : Nat → Int32} (d : decode cc pc = .ok (.invokestatic ix, 3)) (cw : zMs own ix yJ7_fill_53178 cJ7_fill_53178 4 none 2) (hR : 1 ≤ rm.frames ∧ 23 ≤ rm.locals) (hnL : lv.length = nL) (hcat : (st.map fun v => v.category).sum ≤ 8) (q0 : Nat) (he : ws[q0]? = some (a, .inl (tA 0, n, .inl f))) (hn : n + 1 ≤ 2147483648) {e : β} {kf : β → Option α} (wf : β → va_W) (hw : ws.set q0 (a, .inl (tA 0, n, .inl (fun _ => v))) = wf e) (kk : ∀ o' : β, zY X D out (kf o') (wf o') (pc + 3) lv st) : zY X D out (zlet e kf) ws pc lv (.int v :: .ref a :: st) :=
  y_scallv (β := Unit) F (As := [.ref a, .int v]) (st := st) (oc := some ()) (kf := fun _ => kf e) (wf := fun _ => wf e) (c_fill_i (by omega) f) d cw ⟨rfl, rfl⟩ ⟨hR.1, hR.2⟩ rfl hnL rfl hcat [q0] (by show [ws[q0]?] = _; rw [he]; rfl) rfl (fun _ => rfl) (fun _ => zCh_put hw) (fun _ => kk e)
theorem y_filll (F : zF l D tA own cc nL rm X) {ix : Nat} {v : Int64} {f : Nat → Int64} (d : decode cc pc = .ok (.invokestatic ix, 3)) (cw : zMs own ix yJ7_fill_d0a16 cJ7_fill_d0a16 5 none 2) (hR : 1 ≤ rm.frames ∧ 24 ≤ rm.locals) (hnL : lv.length = nL) (hcat : (st.map fun v => v.category).sum ≤ 8) (q0 : Nat) (he : ws[q0]? = some (a, .inl (tA 1, n, .inr (.inl f)))) (hn : n + 1 ≤ 2147483648) {e : β} {kf : β → Option α} (wf : β → va_W) (hw : ws.set q0 (a, .inl (tA 1, n, .inr (.inl (fun _ => v)))) = wf e) (kk : ∀ o' : β, zY X D out (kf o') (wf o') (pc + 3) lv st) : zY X D out (zlet e kf) ws pc lv (.long v :: .ref a :: st) :=
  y_scallv (β := Unit) F (As := [.ref a, .long v]) (st := st) (oc := some ()) (kf := fun _ => kf e) (wf := fun _ => wf e) (c_fill_l (by omega) f) d cw ⟨rfl, rfl⟩ ⟨hR.1, hR.2⟩ rfl hnL rfl hcat [q0] (by show [ws[q0]?] = _; rw [he]; rfl) rfl (fun _ => rfl) (fun _ => zCh_put hw) (fun _ => kk e)
end ZMO
