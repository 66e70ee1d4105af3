section ZCALL
variable {l : Launch} {D : va_G} {tA : Nat → ClassId} {own : String} {cc : ByteArray} {nL : Nat} {rm : Room} {X : ZX} {α β : Type} {out : α} {o o1 o2 : Option α} {ws ws' : va_W} {pc : Nat} {lv lv' : List (Option Value)} {st : List Value} {cA : ClassId} {n : Nat} {a : Addr}
/-- cells at places, put anew -/
def zput : va_W → List Nat → va_W → va_W
  | ws, i :: is, c :: cs => zput (ws.set i c) is cs
  | ws, _, _ => ws
theorem zput_at : ∀ (is : List Nat) (ws w1 : va_W) (k : Nat) (q : Nat × va_E), (zput ws is w1)[k]? = some q → (∃ j : Nat, is[j]? = some k ∧ w1[j]? = some q) ∨ ((is.length = w1.length → k ∉ is) ∧ ws[k]? = some q) := by
  intro is
  induction is with
  | nil =>
    intro ws w1 k q h
    have h : ws[k]? = some q := by cases w1 <;> exact h
    exact Or.inr ⟨fun _ => by simp, h⟩
  | cons i is ih =>
    intro ws w1 k q h
    cases w1 with
    | nil => exact Or.inr ⟨fun z => by simp at z, h⟩
    | cons c cs =>
      have h : (zput (ws.set i c) is cs)[k]? = some q := h
      rcases ih _ _ _ _ h with ⟨j, h1, h2⟩ | ⟨h1, h2⟩
      · exact Or.inl ⟨j + 1, by simpa using h1, by simpa using h2⟩
      · by_cases e : k = i
        · subst e
          have hl : k < ws.length := by
            have := (List.getElem?_eq_some_iff.mp h2).1
            rwa [List.length_set] at this
          rw [List.getElem?_set_self hl] at h2
          exact Or.inl ⟨0, rfl, h2⟩
        · rw [List.getElem?_set_ne (Ne.symm e)] at h2
          refine Or.inr ⟨fun z => ?_, h2⟩
          have z2 : is.length = cs.length := by simpa using z
          intro hm
          rcases List.mem_cons.mp hm with hm | hm
          · exact e hm
          · exact h1 z2 hm
theorem zmap_at {is : List Nat} {ws w : va_W} (hs : is.map (fun i => ws[i]?) = w.map some) : ∀ (k : Nat) (q : Nat × va_E), w[k]? = some q → ∃ i, is[k]? = some i ∧ ws[i]? = some q := by
  intro k q hq
  have h1 : (is.map (fun i => ws[i]?))[k]? = some (some q) := by rw [hs, List.getElem?_map, hq]; rfl
  rw [List.getElem?_map] at h1
  cases hi : is[k]? with
  | none => rw [hi] at h1; cases h1
  | some i => rw [hi] at h1; exact ⟨i, rfl, Option.some.inj h1⟩
theorem zmap_fm {is : List Nat} {ws w : va_W} (hs : is.map (fun i => ws[i]?) = w.map some) : is.filterMap (fun i => ws[i]?) = w := by
  have h1 : is.filterMap (fun i => ws[i]?) = (is.map (fun i => ws[i]?)).filterMap id := by
    rw [List.filterMap_map]; rfl
  rw [h1, hs, List.filterMap_map]
  have : (id ∘ some : Nat × va_E → Option (Nat × va_E)) = some := rfl
  rw [this, List.filterMap_some]
theorem zmap_len {is : List Nat} {ws w : va_W} (hs : is.map (fun i => ws[i]?) = w.map some) : is.length = w.length := by
  have := congrArg List.length hs
  simpa using this
/-- the cells of ws', by their places: those of w1, or as before -/
def zCh (ws : va_W) (is : List Nat) (w1 ws' : va_W) : Prop := ∀ (k : Nat) (q : Nat × va_E), ws'[k]? = some q → (∃ j : Nat, is[j]? = some k ∧ w1[j]? = some q) ∨ ((is.length = w1.length → k ∉ is) ∧ ws[k]? = some q)
theorem zCh_put {ws w1 ws' : va_W} {is : List Nat} (h : zput ws is w1 = ws') : zCh ws is w1 ws' := by
  subst h
  exact fun k q hq => zput_at is ws w1 k q hq
theorem zCh_nil {ws : va_W} : zCh ws [] [] ws := fun k q hq => Or.inr ⟨fun _ => by simp, hq⟩
theorem zCh_of {ws w1 ws' : va_W} {is co : List Nat} {n : Nat} (hC : is.map (fun i => ws'[i]?) = w1.map some) (ho : co.map (fun i => ws[i]?) = co.map (fun i => ws'[i]?)) (hn : ws'.length = n) (hv : (List.range n).all (fun k => is.contains k || co.contains k) = true) : zCh ws is w1 ws' := by
  intro k q hq
  have hk : k < n := by rw [← hn]; exact (List.getElem?_eq_some_iff.mp hq).1
  by_cases hm : k ∈ is
  · left
    obtain ⟨j, hj⟩ := List.getElem?_of_mem hm
    refine ⟨j, hj, ?_⟩
    have h1 : (is.map (fun i => ws'[i]?))[j]? = some (ws'[k]?) := by rw [List.getElem?_map, hj]; rfl
    rw [hC, List.getElem?_map, hq] at h1
    cases hw : w1[j]? with
    | none => rw [hw] at h1; cases h1
    | some x => rw [hw] at h1; exact Option.some.inj h1
  · right
    refine ⟨fun _ => hm, ?_⟩
    have h2 := List.all_eq_true.mp hv k (List.mem_range.mpr hk)
    have h3 : k ∈ co := by
      simp only [Bool.or_eq_true, List.contains_iff_mem] at h2
      exact h2.resolve_left hm
    obtain ⟨j, hj⟩ := List.getElem?_of_mem h3
    have h4 : (co.map (fun i => ws[i]?))[j]? = some (ws[k]?) := by rw [List.getElem?_map, hj]; rfl
    have h5 : (co.map (fun i => ws'[i]?))[j]? = some (ws'[k]?) := by rw [List.getElem?_map, hj]; rfl
    rw [ho, h5] at h4
    rw [← Option.some.inj h4]
    exact hq
/-- behind a call: what came back lies at its places, all else as it was -/
theorem zjoin {D : va_G} {cl : List vw_C} {A0 : Nat → Prop} {ws wc w1 ws' : va_W} {H H1 : Heap} {is : List Nat} (hP : va_P D cl ws H) (hD : va_D A0 ws) (hC : is.map (fun i => ws[i]?) = wc.map some) (hk : ∀ q : Nat, q < H.size → ¬ va_A wc H.size q → H1[q]? = H[q]?) (hP1 : va_P D cl w1 H1) (hadr : w1.map Prod.fst = wc.map Prod.fst) (hput : zCh ws is w1 ws') : va_P D cl ws' H1 ∧ va_D A0 ws' := by
  have hlen : is.length = w1.length := by
    have := congrArg List.length hadr
    rw [List.length_map, List.length_map] at this
    rw [zmap_len hC, this]
  have adr : ∀ (j : Nat) (q : Nat × va_E), w1[j]? = some q → ∃ q0, wc[j]? = some q0 ∧ q0.1 = q.1 := by
    intro j q hq
    have h1 : (w1.map Prod.fst)[j]? = some q.1 := by rw [List.getElem?_map, hq]; rfl
    rw [hadr, List.getElem?_map] at h1
    cases hw : wc[j]? with
    | none => rw [hw] at h1; cases h1
    | some q0 => rw [hw] at h1; exact ⟨q0, rfl, Option.some.inj h1⟩
  have old : ∀ (k : Nat) (q : Nat × va_E), ws'[k]? = some q → ∃ q0, ws[k]? = some q0 ∧ q0.1 = q.1 := by
    intro k q hq
    rcases hput k q hq with ⟨j, h1, h2⟩ | ⟨-, h2⟩
    · obtain ⟨q0, h3, h4⟩ := adr j q h2
      obtain ⟨i, h5, h6⟩ := zmap_at hC j q0 h3
      have e : i = k := Option.some.inj (h5.symm.trans h1)
      subst e
      exact ⟨q0, h6, h4⟩
    · exact ⟨q, h2, rfl⟩
  refine ⟨fun k q hq => ?_, fun i j p q hi hj e => ?_, fun k q hq => ?_⟩
  · rcases hput k q hq with ⟨j, h1, h2⟩ | ⟨h1, h2⟩
    · exact hP1 j q h2
    · refine (hP k q h2).kept (hk q.1 (hP k q h2).lt ?_)
      rintro (⟨j, e, h3⟩ | h3)
      · obtain ⟨i, h5, h6⟩ := zmap_at hC j (q.1, e) h3
        have e2 : k = i := hD.1 k i q (q.1, e) h2 h6 rfl
        subst e2
        exact h1 hlen (List.mem_of_getElem? h5)
      · have := (hP k q h2).lt
        omega
  · obtain ⟨p0, h1, h2⟩ := old i p hi
    obtain ⟨q0, h3, h4⟩ := old j q hj
    exact hD.1 i j p0 q0 h1 h3 (h2.trans (e.trans h4.symm))
  · obtain ⟨q0, h1, h2⟩ := old k q hq
    rw [← h2]
    exact hD.2 k q0 h1
theorem zblind {D : va_G} {tA : Nat → ClassId} {av : List Value} {w0 : va_W} {sz : Nat} : FrameBlind (zPre D tA av w0 sz) := by
  intro a U g mk q
  obtain ⟨q0, q1, qP, qK, qD, qG⟩ := q
  exact ⟨q0, q1, qP, va_K.moved (u := U) (U := U.calling g mk a) (Vm.Alike.refl U.vm) qK, qD, qG.call⟩
/-- a method's words -/
def zMv (own : String) (ix : Nat) (y : MethodName) (b : ByteArray) (n : Nat) (ret : Option FieldType) (np : Nat) : Prop :=
  Cond.methodLink own ix y ∈ zT ∧ Cond.instanceMethod y ∈ zT ∧ Cond.selects y.cls y y ∈ zT ∧ Cond.initialized y.cls ∈ zT ∧ Cond.code y b n ret ∈ zT ∧ (y.cls ≠ "java/lang/invoke/MethodHandle" ∧ y.cls ≠ "java/lang/invoke/VarHandle") ∧ (parseMethodDescriptor y.desc).map (fun d => d.parameters.length) = some np
def zMs (own : String) (ix : Nat) (y : MethodName) (b : ByteArray) (n : Nat) (ret : Option FieldType) (np : Nat) : Prop :=
  Cond.methodLink own ix y ∈ zT ∧ Cond.static y ∈ zT ∧ Cond.initialized y.cls ∈ zT ∧ Cond.code y b n ret ∈ zT ∧ (y.cls ≠ "java/lang/invoke/MethodHandle" ∧ y.cls ≠ "java/lang/invoke/VarHandle") ∧ (parseMethodDescriptor y.desc).map (fun d => d.parameters.length) = some np
theorem zgood {ys : List Cond} (hy : ∀ w ∈ ys, w ∈ zT) : GoodIn zT ys := fun w hw => ⟨hy w hw, good_of_word (zT_of (hy w hw)).2⟩
theorem zwords {s U : State} {args a' : Array Value} (ht : ∀ w ∈ zT, w.before args s = true) (hW : s.WarmedH U.vm) {w : Cond} (hw : w ∈ zT) : w.before a' U = true := word_at hW (good_of_word (zT_of hw).2) (ht w hw)
theorem zcallB (F : zF l D tA own cc nL rm X) {ix : Nat} {y : MethodName} {b : ByteArray} {nY : Nat} {ret : Option FieldType} {np : Nat} {rmY : Room} (hl : Cond.methodLink own ix y ∈ zT) (hi : Cond.initialized y.cls ∈ zT) (hc : Cond.code y b nY ret ∈ zT) (hy : y.cls ≠ "java/lang/invoke/MethodHandle" ∧ y.cls ≠ "java/lang/invoke/VarHandle") (hnp : (parseMethodDescriptor y.desc).map (fun d => d.parameters.length) = some np) (h0 : rmY.cells = 0 ∧ rmY.slots = 0) (hR : rmY.frames + 1 ≤ rm.frames ∧ 8 + (nY + 11) + rmY.locals ≤ rm.locals) :
    CallB (zR X) (zs X) (za X) own ix y b nY ret (.code y b nY ret :: zT) rmY 0 0 np := by
  obtain ⟨-, -, -, hts, -, -, -, -, hf, hlo, -, -⟩ := F
  refine ⟨h0.1, h0.2, by rw [hf]; exact hR.1, by rw [hlo]; exact hR.2, fun w hw a' U hW => ?_, List.mem_cons_self, hts _ hc, hts _ hi, hy, fun sig h => ?_, hts _ hl⟩
  · rcases List.mem_cons.mp hw with h | h
    · rw [h]; exact zwords hts hW hc
    · exact zwords hts hW h
  · rw [h] at hnp
    exact (Option.some.inj hnp).symm
theorem zpreV (F : zF l D tA own cc nL rm X) {H : Heap} {locs : List Loc} {ws w0 : va_W} {A : Nat → Prop} {is : List Nat} {av : List Value} (hP : va_P D classes ws H) (hD : va_D A ws) (hC : is.map (fun i => ws[i]?) = w0.map some) (hn : va_nd is = true) (hS : va_S (zA X) (zH X) H locs) (hF : ∀ q : Nat, va_A w0 H.size q → zA X q) : ∀ U : State, U.heap = H → (zs X).WarmedH U.vm → zPre D tA av w0 H.size av.toArray U := by
  intro U hU hW
  exact ⟨rfl, by rw [hU], by rw [hU]; exact hP.sub is (zmap_fm hC), va_K.moved hW.alike F.2.2.2.2.1, (hD.sub is hn hC).weaken (fun _ _ _ _ => trivial), by rw [hU]; exact F.2.2.2.2.2.2.2.2.2.2.1.to hS hF hW⟩
theorem y_calli (F : zF l D tA own cc nL rm X) {ix nY np ci q0 : Nat} {y : MethodName} {bY : ByteArray} {ty : FieldType} {rmY : Room} {w0 : va_W} {rr : β → Int32} {w1 wf : β → va_W} {oc : Option β} {kf : β → Option α} {b : Addr} {As : List Value} {fs : List Value} {q : vw_C} (hcon : zCi l D tA y bY nY ty rmY (.ref b :: As) w0 rr w1 oc) (d : decode cc pc = .ok (.invokevirtual ix, 3)) (cw : zMv own ix y bY nY (some ty) np)
    (h0 : rmY.cells = 0 ∧ rmY.slots = 0) (hR : rmY.frames + 1 ≤ rm.frames ∧ 8 + (nY + 11) + rmY.locals ≤ rm.locals) (hlen : As.length = np) (hnL : lv.length = nL) {stk : List Value} (hst : stk = As.reverse ++ .ref b :: st) (hcat : (st.map fun v => v.category).sum ≤ 8)
    (hq : classes[ci]? = some q) (hqc : q.1 = y.cls) (he : ws[q0]? = some (b, .inr (ci, fs))) (is : List Nat) (hC : is.map (fun i => ws[i]?) = w0.map some) (hn : va_nd is = true) (hadr : ∀ r : β, (w1 r).map Prod.fst = w0.map Prod.fst) (hput : ∀ r : β, zCh ws is (w1 r) (wf r))
    (kk : ∀ r : β, zY X D out (kf r) (wf r) (pc + 3) lv (.int (rr r) :: st)) : zY X D out (oc.bind kf) ws pc lv stk := by
  intro h H locs ls hP hD hS hl
  subst hst
  have ez : zl X = l := F.2.2.2.2.2.2.2.1
  subst ez
  cases hoc : oc with
  | none => rw [hoc] at h; cases h
  | some r =>
    rw [hoc] at h
    have h : kf r = some out := h
    have hF := va_free (wc := w0) hD hS F.2.2.2.2.2.1 is hC
    refine va_calli (va_runV (As := As) (rest := st) (g := F0 (zm X) pc ls (As.reverse ++ .ref b :: st)) (Ts := zT) (C := y.cls) ⟨F.1, F.2.1, rfl, F.2.2.1, F.2.2.2.1⟩ (hcon r hoc H.size) ⟨zcallB F cw.1 cw.2.2.2.1 cw.2.2.2.2.1 cw.2.2.2.2.2.1 cw.2.2.2.2.2.2 h0 hR, F.2.2.2.1 _ cw.2.1, F.2.2.2.1 _ cw.2.2.1⟩ ⟨zblind, hqc ▸ va_recv F.2.2.2.2.1 hP hq he, zpreV F hP hD hC hn hS hF⟩ rfl hlen (hl.1.trans (hnL.trans F.2.2.2.2.2.2.1.symm)) rfl (lv_room hcat) d ⟨Nat.zero_le _, Nat.zero_le _⟩) hS (fun q _ h => hF q h) hF (fun r1 u t H1 locs1 ht hvm hw hB hz1 hk1 hS1 => ?_)
    obtain ⟨hP1, hD1⟩ := hB
    rw [ht] at hP1
    obtain ⟨hPj, hDj⟩ := zjoin hP hD hC hk1 hP1 (hadr r) (hput r)
    rw [hw]
    exact kk r h H1 locs1 ls hPj hDj hS1 hl
theorem y_calll (F : zF l D tA own cc nL rm X) {ix nY np ci q0 : Nat} {y : MethodName} {bY : ByteArray} {rmY : Room} {w0 : va_W} {rr : β → Int64} {w1 wf : β → va_W} {oc : Option β} {kf : β → Option α} {b : Addr} {As : List Value} {fs : List Value} {q : vw_C} (hcon : zCl l D tA y bY nY rmY (.ref b :: As) w0 rr w1 oc) (d : decode cc pc = .ok (.invokevirtual ix, 3)) (cw : zMv own ix y bY nY (some .long) np)
    (h0 : rmY.cells = 0 ∧ rmY.slots = 0) (hR : rmY.frames + 1 ≤ rm.frames ∧ 8 + (nY + 11) + rmY.locals ≤ rm.locals) (hlen : As.length = np) (hnL : lv.length = nL) {stk : List Value} (hst : stk = As.reverse ++ .ref b :: st) (hcat : (st.map fun v => v.category).sum ≤ 8)
    (hq : classes[ci]? = some q) (hqc : q.1 = y.cls) (he : ws[q0]? = some (b, .inr (ci, fs))) (is : List Nat) (hC : is.map (fun i => ws[i]?) = w0.map some) (hn : va_nd is = true) (hadr : ∀ r : β, (w1 r).map Prod.fst = w0.map Prod.fst) (hput : ∀ r : β, zCh ws is (w1 r) (wf r))
    (kk : ∀ r : β, zY X D out (kf r) (wf r) (pc + 3) lv (.long (rr r) :: st)) : zY X D out (oc.bind kf) ws pc lv stk := by
  intro h H locs ls hP hD hS hl
  subst hst
  have ez : zl X = l := F.2.2.2.2.2.2.2.1
  subst ez
  cases hoc : oc with
  | none => rw [hoc] at h; cases h
  | some r =>
    rw [hoc] at h
    have h : kf r = some out := h
    have hF := va_free (wc := w0) hD hS F.2.2.2.2.2.1 is hC
    refine va_calll (va_runV (As := As) (rest := st) (g := F0 (zm X) pc ls (As.reverse ++ .ref b :: st)) (Ts := zT) (C := y.cls) ⟨F.1, F.2.1, rfl, F.2.2.1, F.2.2.2.1⟩ (hcon r hoc H.size) ⟨zcallB F cw.1 cw.2.2.2.1 cw.2.2.2.2.1 cw.2.2.2.2.2.1 cw.2.2.2.2.2.2 h0 hR, F.2.2.2.1 _ cw.2.1, F.2.2.2.1 _ cw.2.2.1⟩ ⟨zblind, hqc ▸ va_recv F.2.2.2.2.1 hP hq he, zpreV F hP hD hC hn hS hF⟩ rfl hlen (hl.1.trans (hnL.trans F.2.2.2.2.2.2.1.symm)) rfl (lv_room hcat) d ⟨Nat.zero_le _, Nat.zero_le _⟩) hS (fun q _ h => hF q h) hF (fun r1 u t H1 locs1 ht hvm hw hB hz1 hk1 hS1 => ?_)
    obtain ⟨hP1, hD1⟩ := hB
    rw [ht] at hP1
    obtain ⟨hPj, hDj⟩ := zjoin hP hD hC hk1 hP1 (hadr r) (hput r)
    rw [hw]
    exact kk r h H1 locs1 ls hPj hDj hS1 hl
theorem y_callv (F : zF l D tA own cc nL rm X) {ix nY np ci q0 : Nat} {y : MethodName} {bY : ByteArray} {rmY : Room} {w0 : va_W} {w1 wf : β → va_W} {oc : Option β} {kf : β → Option α} {b : Addr} {As : List Value} {fs : List Value} {q : vw_C} (hcon : zCv l D tA y bY nY rmY (.ref b :: As) w0 w1 oc) (d : decode cc pc = .ok (.invokevirtual ix, 3)) (cw : zMv own ix y bY nY none np)
    (h0 : rmY.cells = 0 ∧ rmY.slots = 0) (hR : rmY.frames + 1 ≤ rm.frames ∧ 8 + (nY + 11) + rmY.locals ≤ rm.locals) (hlen : As.length = np) (hnL : lv.length = nL) {stk : List Value} (hst : stk = As.reverse ++ .ref b :: st) (hcat : (st.map fun v => v.category).sum ≤ 8)
    (hq : classes[ci]? = some q) (hqc : q.1 = y.cls) (he : ws[q0]? = some (b, .inr (ci, fs))) (is : List Nat) (hC : is.map (fun i => ws[i]?) = w0.map some) (hn : va_nd is = true) (hadr : ∀ r : β, (w1 r).map Prod.fst = w0.map Prod.fst) (hput : ∀ r : β, zCh ws is (w1 r) (wf r))
    (kk : ∀ r : β, zY X D out (kf r) (wf r) (pc + 3) lv st) : zY X D out (oc.bind kf) ws pc lv stk := by
  intro h H locs ls hP hD hS hl
  subst hst
  have ez : zl X = l := F.2.2.2.2.2.2.2.1
  subst ez
  cases hoc : oc with
  | none => rw [hoc] at h; cases h
  | some r =>
    rw [hoc] at h
    have h : kf r = some out := h
    have hF := va_free (wc := w0) hD hS F.2.2.2.2.2.1 is hC
    refine va_callv (va_runV (As := As) (rest := st) (g := F0 (zm X) pc ls (As.reverse ++ .ref b :: st)) (Ts := zT) (C := y.cls) ⟨F.1, F.2.1, rfl, F.2.2.1, F.2.2.2.1⟩ (hcon r hoc H.size) ⟨zcallB F cw.1 cw.2.2.2.1 cw.2.2.2.2.1 cw.2.2.2.2.2.1 cw.2.2.2.2.2.2 h0 hR, F.2.2.2.1 _ cw.2.1, F.2.2.2.1 _ cw.2.2.1⟩ ⟨zblind, hqc ▸ va_recv F.2.2.2.2.1 hP hq he, zpreV F hP hD hC hn hS hF⟩ rfl hlen (hl.1.trans (hnL.trans F.2.2.2.2.2.2.1.symm)) rfl (lv_room hcat) d ⟨Nat.zero_le _, Nat.zero_le _⟩) hS (fun q _ h => hF q h) hF (fun u t H1 locs1 ht hvm hw hB hz1 hk1 hS1 => ?_)
    obtain ⟨hP1, hD1⟩ := hB
    rw [ht] at hP1
    obtain ⟨hPj, hDj⟩ := zjoin hP hD hC hk1 hP1 (hadr r) (hput r)
    exact kk r h H1 locs1 ls hPj hDj hS1 hl
theorem y_scalli (F : zF l D tA own cc nL rm X) {ix nY np : Nat} {y : MethodName} {bY : ByteArray} {ty : FieldType} {rmY : Room} {w0 : va_W} {rr : β → Int32} {w1 wf : β → va_W} {oc : Option β} {kf : β → Option α} {As : List Value} (hcon : zCi l D tA y bY nY ty rmY As w0 rr w1 oc) (d : decode cc pc = .ok (.invokestatic ix, 3)) (cw : zMs own ix y bY nY (some ty) np)
    (h0 : rmY.cells = 0 ∧ rmY.slots = 0) (hR : rmY.frames + 1 ≤ rm.frames ∧ 8 + (nY + 11) + rmY.locals ≤ rm.locals) (hlen : As.length = np) (hnL : lv.length = nL) {stk : List Value} (hst : stk = As.reverse ++ st) (hcat : (st.map fun v => v.category).sum ≤ 8)
    (is : List Nat) (hC : is.map (fun i => ws[i]?) = w0.map some) (hn : va_nd is = true) (hadr : ∀ r : β, (w1 r).map Prod.fst = w0.map Prod.fst) (hput : ∀ r : β, zCh ws is (w1 r) (wf r))
    (kk : ∀ r : β, zY X D out (kf r) (wf r) (pc + 3) lv (.int (rr r) :: st)) : zY X D out (oc.bind kf) ws pc lv stk := by
  intro h H locs ls hP hD hS hl
  subst hst
  have ez : zl X = l := F.2.2.2.2.2.2.2.1
  subst ez
  cases hoc : oc with
  | none => rw [hoc] at h; cases h
  | some r =>
    rw [hoc] at h
    have h : kf r = some out := h
    have hF := va_free (wc := w0) hD hS F.2.2.2.2.2.1 is hC
    refine va_calli (va_runS (As := As) (rest := st) (g := F0 (zm X) pc ls (As.reverse ++ st)) (Ts := zT) ⟨F.1, F.2.1, rfl, F.2.2.1, F.2.2.2.1⟩ (hcon r hoc H.size) ⟨zcallB F cw.1 cw.2.2.1 cw.2.2.2.1 cw.2.2.2.2.1 cw.2.2.2.2.2 h0 hR, F.2.2.2.1 _ cw.2.1⟩ ⟨zblind, zpreV F hP hD hC hn hS hF⟩ rfl hlen (hl.1.trans (hnL.trans F.2.2.2.2.2.2.1.symm)) rfl (lv_room hcat) d ⟨Nat.zero_le _, Nat.zero_le _⟩) hS (fun q _ h => hF q h) hF (fun r1 u t H1 locs1 ht hvm hw hB hz1 hk1 hS1 => ?_)
    obtain ⟨hP1, hD1⟩ := hB
    rw [ht] at hP1
    obtain ⟨hPj, hDj⟩ := zjoin hP hD hC hk1 hP1 (hadr r) (hput r)
    rw [hw]
    exact kk r h H1 locs1 ls hPj hDj hS1 hl
theorem y_scalll (F : zF l D tA own cc nL rm X) {ix nY np : Nat} {y : MethodName} {bY : ByteArray} {rmY : Room} {w0 : va_W} {rr : β → Int64} {w1 wf : β → va_W} {oc : Option β} {kf : β → Option α} {As : List Value} (hcon : zCl l D tA y bY nY rmY As w0 rr w1 oc) (d : decode cc pc = .ok (.invokestatic ix, 3)) (cw : zMs own ix y bY nY (some .long) np)
    (h0 : rmY.cells = 0 ∧ rmY.slots = 0) (hR : rmY.frames + 1 ≤ rm.frames ∧ 8 + (nY + 11) + rmY.locals ≤ rm.locals) (hlen : As.length = np) (hnL : lv.length = nL) {stk : List Value} (hst : stk = As.reverse ++ st) (hcat : (st.map fun v => v.category).sum ≤ 8)
    (is : List Nat) (hC : is.map (fun i => ws[i]?) = w0.map some) (hn : va_nd is = true) (hadr : ∀ r : β, (w1 r).map Prod.fst = w0.map Prod.fst) (hput : ∀ r : β, zCh ws is (w1 r) (wf r))
    (kk : ∀ r : β, zY X D out (kf r) (wf r) (pc + 3) lv (.long (rr r) :: st)) : zY X D out (oc.bind kf) ws pc lv stk := by
  intro h H locs ls hP hD hS hl
  subst hst
  have ez : zl X = l := F.2.2.2.2.2.2.2.1
  subst ez
  cases hoc : oc with
  | none => rw [hoc] at h; cases h
  | some r =>
    rw [hoc] at h
    have h : kf r = some out := h
    have hF := va_free (wc := w0) hD hS F.2.2.2.2.2.1 is hC
    refine va_calll (va_runS (As := As) (rest := st) (g := F0 (zm X) pc ls (As.reverse ++ st)) (Ts := zT) ⟨F.1, F.2.1, rfl, F.2.2.1, F.2.2.2.1⟩ (hcon r hoc H.size) ⟨zcallB F cw.1 cw.2.2.1 cw.2.2.2.1 cw.2.2.2.2.1 cw.2.2.2.2.2 h0 hR, F.2.2.2.1 _ cw.2.1⟩ ⟨zblind, zpreV F hP hD hC hn hS hF⟩ rfl hlen (hl.1.trans (hnL.trans F.2.2.2.2.2.2.1.symm)) rfl (lv_room hcat) d ⟨Nat.zero_le _, Nat.zero_le _⟩) hS (fun q _ h => hF q h) hF (fun r1 u t H1 locs1 ht hvm hw hB hz1 hk1 hS1 => ?_)
    obtain ⟨hP1, hD1⟩ := hB
    rw [ht] at hP1
    obtain ⟨hPj, hDj⟩ := zjoin hP hD hC hk1 hP1 (hadr r) (hput r)
    rw [hw]
    exact kk r h H1 locs1 ls hPj hDj hS1 hl
theorem y_scallv (F : zF l D tA own cc nL rm X) {ix nY np : Nat} {y : MethodName} {bY : ByteArray} {rmY : Room} {w0 : va_W} {w1 wf : β → va_W} {oc : Option β} {kf : β → Option α} {As : List Value} (hcon : zCv l D tA y bY nY rmY As w0 w1 oc) (d : decode cc pc = .ok (.invokestatic ix, 3)) (cw : zMs own ix y bY nY none np)
    (h0 : rmY.cells = 0 ∧ rmY.slots = 0) (hR : rmY.frames + 1 ≤ rm.frames ∧ 8 + (nY + 11) + rmY.locals ≤ rm.locals) (hlen : As.length = np) (hnL : lv.length = nL) {stk : List Value} (hst : stk = As.reverse ++ st) (hcat : (st.map fun v => v.category).sum ≤ 8)
    (is : List Nat) (hC : is.map (fun i => ws[i]?) = w0.map some) (hn : va_nd is = true) (hadr : ∀ r : β, (w1 r).map Prod.fst = w0.map Prod.fst) (hput : ∀ r : β, zCh ws is (w1 r) (wf r))
    (kk : ∀ r : β, zY X D out (kf r) (wf r) (pc + 3) lv st) : zY X D out (oc.bind kf) ws pc lv stk := by
  intro h H locs ls hP hD hS hl
  subst hst
  have ez : zl X = l := F.2.2.2.2.2.2.2.1
  subst ez
  cases hoc : oc with
  | none => rw [hoc] at h; cases h
  | some r =>
    rw [hoc] at h
    have h : kf r = some out := h
    have hF := va_free (wc := w0) hD hS F.2.2.2.2.2.1 is hC
    refine va_callv (va_runS (As := As) (rest := st) (g := F0 (zm X) pc ls (As.reverse ++ st)) (Ts := zT) ⟨F.1, F.2.1, rfl, F.2.2.1, F.2.2.2.1⟩ (hcon r hoc H.size) ⟨zcallB F cw.1 cw.2.2.1 cw.2.2.2.1 cw.2.2.2.2.1 cw.2.2.2.2.2 h0 hR, F.2.2.2.1 _ cw.2.1⟩ ⟨zblind, zpreV F hP hD hC hn hS hF⟩ rfl hlen (hl.1.trans (hnL.trans F.2.2.2.2.2.2.1.symm)) rfl (lv_room hcat) d ⟨Nat.zero_le _, Nat.zero_le _⟩) hS (fun q _ h => hF q h) hF (fun u t H1 locs1 ht hvm hw hB hz1 hk1 hS1 => ?_)
    obtain ⟨hP1, hD1⟩ := hB
    rw [ht] at hP1
    obtain ⟨hPj, hDj⟩ := zjoin hP hD hC hk1 hP1 (hadr r) (hput r)
    exact kk r h H1 locs1 ls hPj hDj hS1 hl
theorem y_calliW (F : zF l D tA own cc nL rm X) {ix nY np ci q0 : Nat} {y : MethodName} {bY : ByteArray} {ty : FieldType} {rmY : Room} {rr : β → Int32} {w1 : β → va_W} {oc : Option β} {kf : β → Option α} {b : Addr} {As : List Value} {fs : List Value} {q : vw_C} (hcon : zCi l D tA y bY nY ty rmY (.ref b :: As) ws rr w1 oc) (d : decode cc pc = .ok (.invokevirtual ix, 3)) (cw : zMv own ix y bY nY (some ty) np)
    (h0 : rmY.cells = 0 ∧ rmY.slots = 0) (hR : rmY.frames + 1 ≤ rm.frames ∧ 8 + (nY + 11) + rmY.locals ≤ rm.locals) (hlen : As.length = np) (hnL : lv.length = nL) {stk : List Value} (hst : stk = As.reverse ++ .ref b :: st) (hcat : (st.map fun v => v.category).sum ≤ 8)
    (hq : classes[ci]? = some q) (hqc : q.1 = y.cls) (he : ws[q0]? = some (b, .inr (ci, fs)))
    (kk : ∀ r : β, zY X D out (kf r) (w1 r) (pc + 3) lv (.int (rr r) :: st)) : zY X D out (oc.bind kf) ws pc lv stk := by
  intro h H locs ls hP hD hS hl
  subst hst
  have ez : zl X = l := F.2.2.2.2.2.2.2.1
  subst ez
  cases hoc : oc with
  | none => rw [hoc] at h; cases h
  | some r =>
    rw [hoc] at h
    have h : kf r = some out := h
    have hF : ∀ q : Nat, va_A ws H.size q → zA X q := fun q h => by
      rcases h with ⟨k, e, h⟩ | h
      · exact hD.2 k _ h
      · exact F.2.2.2.2.2.1 q (Nat.le_trans hS.1 h)
    refine va_calli (va_runV (As := As) (rest := st) (g := F0 (zm X) pc ls (As.reverse ++ .ref b :: st)) (Ts := zT) (C := y.cls) ⟨F.1, F.2.1, rfl, F.2.2.1, F.2.2.2.1⟩ (hcon r hoc H.size) ⟨zcallB F cw.1 cw.2.2.2.1 cw.2.2.2.2.1 cw.2.2.2.2.2.1 cw.2.2.2.2.2.2 h0 hR, F.2.2.2.1 _ cw.2.1, F.2.2.2.1 _ cw.2.2.1⟩ ⟨zblind, hqc ▸ va_recv F.2.2.2.2.1 hP hq he, fun U hU hW => ⟨rfl, by rw [hU], by rw [hU]; exact hP, va_K.moved hW.alike F.2.2.2.2.1, hD.weaken (fun _ _ _ _ => trivial), by rw [hU]; exact F.2.2.2.2.2.2.2.2.2.2.1.to hS hF hW⟩⟩ rfl hlen (hl.1.trans (hnL.trans F.2.2.2.2.2.2.1.symm)) rfl (lv_room hcat) d ⟨Nat.zero_le _, Nat.zero_le _⟩) hS (fun q _ h => hF q h) hF (fun r1 u t H1 locs1 ht hvm hw hB hz1 hk1 hS1 => ?_)
    obtain ⟨hP1, hD1⟩ := hB
    rw [ht] at hP1
    rw [hw]
    exact kk r h H1 locs1 ls hP1 (hD1.weaken (fun k q _ h => hF q.1 h)) hS1 hl
theorem y_calllW (F : zF l D tA own cc nL rm X) {ix nY np ci q0 : Nat} {y : MethodName} {bY : ByteArray} {rmY : Room} {rr : β → Int64} {w1 : β → va_W} {oc : Option β} {kf : β → Option α} {b : Addr} {As : List Value} {fs : List Value} {q : vw_C} (hcon : zCl l D tA y bY nY rmY (.ref b :: As) ws rr w1 oc) (d : decode cc pc = .ok (.invokevirtual ix, 3)) (cw : zMv own ix y bY nY (some .long) np)
    (h0 : rmY.cells = 0 ∧ rmY.slots = 0) (hR : rmY.frames + 1 ≤ rm.frames ∧ 8 + (nY + 11) + rmY.locals ≤ rm.locals) (hlen : As.length = np) (hnL : lv.length = nL) {stk : List Value} (hst : stk = As.reverse ++ .ref b :: st) (hcat : (st.map fun v => v.category).sum ≤ 8)
    (hq : classes[ci]? = some q) (hqc : q.1 = y.cls) (he : ws[q0]? = some (b, .inr (ci, fs)))
    (kk : ∀ r : β, zY X D out (kf r) (w1 r) (pc + 3) lv (.long (rr r) :: st)) : zY X D out (oc.bind kf) ws pc lv stk := by
  intro h H locs ls hP hD hS hl
  subst hst
  have ez : zl X = l := F.2.2.2.2.2.2.2.1
  subst ez
  cases hoc : oc with
  | none => rw [hoc] at h; cases h
  | some r =>
    rw [hoc] at h
    have h : kf r = some out := h
    have hF : ∀ q : Nat, va_A ws H.size q → zA X q := fun q h => by
      rcases h with ⟨k, e, h⟩ | h
      · exact hD.2 k _ h
      · exact F.2.2.2.2.2.1 q (Nat.le_trans hS.1 h)
    refine va_calll (va_runV (As := As) (rest := st) (g := F0 (zm X) pc ls (As.reverse ++ .ref b :: st)) (Ts := zT) (C := y.cls) ⟨F.1, F.2.1, rfl, F.2.2.1, F.2.2.2.1⟩ (hcon r hoc H.size) ⟨zcallB F cw.1 cw.2.2.2.1 cw.2.2.2.2.1 cw.2.2.2.2.2.1 cw.2.2.2.2.2.2 h0 hR, F.2.2.2.1 _ cw.2.1, F.2.2.2.1 _ cw.2.2.1⟩ ⟨zblind, hqc ▸ va_recv F.2.2.2.2.1 hP hq he, fun U hU hW => ⟨rfl, by rw [hU], by rw [hU]; exact hP, va_K.moved hW.alike F.2.2.2.2.1, hD.weaken (fun _ _ _ _ => trivial), by rw [hU]; exact F.2.2.2.2.2.2.2.2.2.2.1.to hS hF hW⟩⟩ rfl hlen (hl.1.trans (hnL.trans F.2.2.2.2.2.2.1.symm)) rfl (lv_room hcat) d ⟨Nat.zero_le _, Nat.zero_le _⟩) hS (fun q _ h => hF q h) hF (fun r1 u t H1 locs1 ht hvm hw hB hz1 hk1 hS1 => ?_)
    obtain ⟨hP1, hD1⟩ := hB
    rw [ht] at hP1
    rw [hw]
    exact kk r h H1 locs1 ls hP1 (hD1.weaken (fun k q _ h => hF q.1 h)) hS1 hl
theorem y_callvW (F : zF l D tA own cc nL rm X) {ix nY np ci q0 : Nat} {y : MethodName} {bY : ByteArray} {rmY : Room} {w1 : β → va_W} {oc : Option β} {kf : β → Option α} {b : Addr} {As : List Value} {fs : List Value} {q : vw_C} (hcon : zCv l D tA y bY nY rmY (.ref b :: As) ws w1 oc) (d : decode cc pc = .ok (.invokevirtual ix, 3)) (cw : zMv own ix y bY nY none np)
    (h0 : rmY.cells = 0 ∧ rmY.slots = 0) (hR : rmY.frames + 1 ≤ rm.frames ∧ 8 + (nY + 11) + rmY.locals ≤ rm.locals) (hlen : As.length = np) (hnL : lv.length = nL) {stk : List Value} (hst : stk = As.reverse ++ .ref b :: st) (hcat : (st.map fun v => v.category).sum ≤ 8)
    (hq : classes[ci]? = some q) (hqc : q.1 = y.cls) (he : ws[q0]? = some (b, .inr (ci, fs)))
    (kk : ∀ r : β, zY X D out (kf r) (w1 r) (pc + 3) lv st) : zY X D out (oc.bind kf) ws pc lv stk := by
  intro h H locs ls hP hD hS hl
  subst hst
  have ez : zl X = l := F.2.2.2.2.2.2.2.1
  subst ez
  cases hoc : oc with
  | none => rw [hoc] at h; cases h
  | some r =>
    rw [hoc] at h
    have h : kf r = some out := h
    have hF : ∀ q : Nat, va_A ws H.size q → zA X q := fun q h => by
      rcases h with ⟨k, e, h⟩ | h
      · exact hD.2 k _ h
      · exact F.2.2.2.2.2.1 q (Nat.le_trans hS.1 h)
    refine va_callv (va_runV (As := As) (rest := st) (g := F0 (zm X) pc ls (As.reverse ++ .ref b :: st)) (Ts := zT) (C := y.cls) ⟨F.1, F.2.1, rfl, F.2.2.1, F.2.2.2.1⟩ (hcon r hoc H.size) ⟨zcallB F cw.1 cw.2.2.2.1 cw.2.2.2.2.1 cw.2.2.2.2.2.1 cw.2.2.2.2.2.2 h0 hR, F.2.2.2.1 _ cw.2.1, F.2.2.2.1 _ cw.2.2.1⟩ ⟨zblind, hqc ▸ va_recv F.2.2.2.2.1 hP hq he, fun U hU hW => ⟨rfl, by rw [hU], by rw [hU]; exact hP, va_K.moved hW.alike F.2.2.2.2.1, hD.weaken (fun _ _ _ _ => trivial), by rw [hU]; exact F.2.2.2.2.2.2.2.2.2.2.1.to hS hF hW⟩⟩ rfl hlen (hl.1.trans (hnL.trans F.2.2.2.2.2.2.1.symm)) rfl (lv_room hcat) d ⟨Nat.zero_le _, Nat.zero_le _⟩) hS (fun q _ h => hF q h) hF (fun u t H1 locs1 ht hvm hw hB hz1 hk1 hS1 => ?_)
    obtain ⟨hP1, hD1⟩ := hB
    rw [ht] at hP1
    skip
    exact kk r h H1 locs1 ls hP1 (hD1.weaken (fun k q _ h => hF q.1 h)) hS1 hl
theorem y_scalliP (F : zF l D tA own cc nL rm X) {ix nY np : Nat} {y : MethodName} {bY : ByteArray} {ty : FieldType} {rmY : Room} {rr : β → Int32} {oc : Option β} {kf : β → Option α} {As : List Value} (hcon : zCi l D tA y bY nY ty rmY As [] rr (fun _ => []) oc) (d : decode cc pc = .ok (.invokestatic ix, 3)) (cw : zMs own ix y bY nY (some ty) np)
    (h0 : rmY.cells = 0 ∧ rmY.slots = 0) (hR : rmY.frames + 1 ≤ rm.frames ∧ 8 + (nY + 11) + rmY.locals ≤ rm.locals) (hlen : As.length = np) (hnL : lv.length = nL) {stk : List Value} (hst : stk = As.reverse ++ st) (hcat : (st.map fun v => v.category).sum ≤ 8)
    (kk : ∀ r : β, zY X D out (kf r) ws (pc + 3) lv (.int (rr r) :: st)) : zY X D out (oc.bind kf) ws pc lv stk :=
  y_scalli F (wf := fun _ => ws) hcon d cw h0 hR hlen hnL hst hcat [] rfl rfl (fun _ => rfl) (fun _ => zCh_nil) kk
theorem y_scalllP (F : zF l D tA own cc nL rm X) {ix nY np : Nat} {y : MethodName} {bY : ByteArray} {rmY : Room} {rr : β → Int64} {oc : Option β} {kf : β → Option α} {As : List Value} (hcon : zCl l D tA y bY nY rmY As [] rr (fun _ => []) oc) (d : decode cc pc = .ok (.invokestatic ix, 3)) (cw : zMs own ix y bY nY (some .long) np)
    (h0 : rmY.cells = 0 ∧ rmY.slots = 0) (hR : rmY.frames + 1 ≤ rm.frames ∧ 8 + (nY + 11) + rmY.locals ≤ rm.locals) (hlen : As.length = np) (hnL : lv.length = nL) {stk : List Value} (hst : stk = As.reverse ++ st) (hcat : (st.map fun v => v.category).sum ≤ 8)
    (kk : ∀ r : β, zY X D out (kf r) ws (pc + 3) lv (.long (rr r) :: st)) : zY X D out (oc.bind kf) ws pc lv stk :=
  y_scalll F (wf := fun _ => ws) hcon d cw h0 hR hlen hnL hst hcat [] rfl rfl (fun _ => rfl) (fun _ => zCh_nil) kk
theorem y_mmax (F : zF l D tA own cc nL rm X) {ix : Nat} {x y : Int32} (d : decode cc pc = .ok (.invokestatic ix, 3)) (w : Cond.methodLink own ix Lib.Math.max.name ∈ zT ∧ Cond.static Lib.Math.max.name ∈ zT ∧ Cond.initialized "java/lang/Math" ∈ zT ∧ Cond.code Lib.Math.max.name Lib.Math.max.code 2 (some .int) ∈ zT) (hR : 1 ≤ rm.frames ∧ (st.map fun v => v.category).sum + 13 ≤ rm.locals) (hnL : lv.length = nL) (kk : zY X D out o ws (pc + 3) lv (.int (if x < y then y else x) :: st)) : zY X D out o ws pc lv (.int y :: .int x :: st) :=
  fun h H locs ls hP hD hS hl => va_mmax F.1 F.2.1 (F.2.2.2.2.2.2.1.trans (hnL.symm.trans hl.1.symm)) F.2.2.1 (F.2.2.2.1 _ w.1) (F.2.2.2.1 _ w.2.1) (F.2.2.2.1 _ w.2.2.1) (F.2.2.2.1 _ w.2.2.2) (by rw [F.2.2.2.2.2.2.2.2.1]; exact hR.1) (by rw [F.2.2.2.2.2.2.2.2.2.1]; exact hR.2) (Nat.zero_le _) (Nat.zero_le _) d (kk h H locs ls hP hD hS hl)
theorem y_mmin (F : zF l D tA own cc nL rm X) {ix : Nat} {x y : Int32} (d : decode cc pc = .ok (.invokestatic ix, 3)) (w : Cond.methodLink own ix Lib.Math.min.name ∈ zT ∧ Cond.static Lib.Math.min.name ∈ zT ∧ Cond.initialized "java/lang/Math" ∈ zT ∧ Cond.code Lib.Math.min.name Lib.Math.min.code 2 (some .int) ∈ zT) (hR : 1 ≤ rm.frames ∧ (st.map fun v => v.category).sum + 13 ≤ rm.locals) (hnL : lv.length = nL) (kk : zY X D out o ws (pc + 3) lv (.int (if y < x then y else x) :: st)) : zY X D out o ws pc lv (.int y :: .int x :: st) :=
  fun h H locs ls hP hD hS hl => va_mmin F.1 F.2.1 (F.2.2.2.2.2.2.1.trans (hnL.symm.trans hl.1.symm)) F.2.2.1 (F.2.2.2.1 _ w.1) (F.2.2.2.1 _ w.2.1) (F.2.2.2.1 _ w.2.2.1) (F.2.2.2.1 _ w.2.2.2) (by rw [F.2.2.2.2.2.2.2.2.1]; exact hR.1) (by rw [F.2.2.2.2.2.2.2.2.2.1]; exact hR.2) (Nat.zero_le _) (Nat.zero_le _) d (kk h H locs ls hP hD hS hl)
theorem y_mmaxl (F : zF l D tA own cc nL rm X) {ix : Nat} {x y : Int64} (d : decode cc pc = .ok (.invokestatic ix, 3)) (w : Cond.methodLink own ix Lib.MathLoose.max_long.x ∈ zT ∧ Cond.static Lib.MathLoose.max_long.x ∈ zT ∧ Cond.initialized "java/lang/Math" ∈ zT ∧ Cond.code Lib.MathLoose.max_long.x Lib.MathLoose.max_long.code 4 (some .long) ∈ zT) (hR : 1 ≤ rm.frames ∧ (st.map fun v => v.category).sum + 15 ≤ rm.locals) (hnL : lv.length = nL) (kk : zY X D out o ws (pc + 3) lv (.long (if y < x then x else y) :: st)) : zY X D out o ws pc lv (.long y :: .long x :: st) :=
  fun h H locs ls hP hD hS hl => va_mmax_long F.1 F.2.1 (F.2.2.2.2.2.2.1.trans (hnL.symm.trans hl.1.symm)) F.2.2.1 (F.2.2.2.1 _ w.1) (F.2.2.2.1 _ w.2.1) (F.2.2.2.1 _ w.2.2.1) (F.2.2.2.1 _ w.2.2.2) (by rw [F.2.2.2.2.2.2.2.2.1]; exact hR.1) (by rw [F.2.2.2.2.2.2.2.2.2.1]; exact hR.2) (Nat.zero_le _) (Nat.zero_le _) d (kk h H locs ls hP hD hS hl)
end ZCALL
