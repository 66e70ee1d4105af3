section ZA
/-- the words that every method is given -/
def zT : List Cond := lw_tbl.filter goodWord
theorem zT_in {w : Cond} (h : w ∈ lw_tbl) (g : goodWord w = true) : w ∈ zT := List.mem_filter.mpr ⟨h, g⟩
theorem zT_of {w : Cond} (h : w ∈ zT) : w ∈ lw_tbl ∧ goodWord w = true := List.mem_filter.mp h
abbrev classes : List vw_C := [(RX0, TX0, 2), (RX1, TX1, 12), (RX2, TX2, 8), (RX3, TX3, 5), (RX4, TX4, 5), (RX5, TX5, 5), (RX6, TX6, 10), (RX7, TX7, 2), (RX8, TX8, 2), (RX9, TX9, 3), (RX10, TX10, 12), (RX11, TX11, 53)]
def zt (tA : Nat → ClassId) : List (ClassId × FieldType) := [(tA 0, .int), (tA 1, .long), (tA 2, .boolean), (tA 3, .byte), (tA 4, .object "HalvedProof$State"), (tA 5, .array .int), (tA 6, .array .long)]
def zlet {α β : Type} (e : α) (k : α → β) : β := k e
def zjn {α β : Type} (k : α) (f : α → β) : β := f k
def zgd {α : Type} (i : Int32) (n : Nat) (o : Option α) : Option α := if 0 ≤ i.toInt ∧ i.toInt < (n : Int) then o else none
def zgz {α : Type} (v : Int32) (o : Option α) : Option α := if v = 0 ∨ v = 1 then o else none
def znz {α : Type} (y : Int32) (o : Option α) : Option α := if y = 0 then none else o
def znl {α : Type} (y : Int64) (o : Option α) : Option α := if y = 0 then none else o
def zup {α : Type} (f : Nat → α) (k : Nat) (x : α) : Nat → α := fun j => bif Nat.beq j k then x else f j
abbrev Ob : Type := (Nat → Int32) × (Nat → Int64) × (Nat → Nat → Int32) × (Nat → Nat → Int64)
def gi (o : Ob) (k : Nat) : Int32 := o.1 k
def gl (o : Ob) (k : Nat) : Int64 := o.2.1 k
def ga (o : Ob) (k : Nat) : Nat → Int32 := o.2.2.1 k
def gb (o : Ob) (k : Nat) : Nat → Int64 := o.2.2.2 k
def si (o : Ob) (k : Nat) (x : Int32) : Ob := (zup o.1 k x, o.2.1, o.2.2.1, o.2.2.2)
def sl (o : Ob) (k : Nat) (x : Int64) : Ob := (o.1, zup o.2.1 k x, o.2.2.1, o.2.2.2)
def sa (o : Ob) (k : Nat) (f : Nat → Int32) : Ob := (o.1, o.2.1, zup o.2.2.1 k f, o.2.2.2)
def sb (o : Ob) (k : Nat) (f : Nat → Int64) : Ob := (o.1, o.2.1, o.2.2.1, zup o.2.2.2 k f)
def zpr : Nat → List (Option Value) → List (Nat × Value)
  | _, [] => []
  | i, none :: r => zpr (i + 1) r
  | i, some v :: r => (i, v) :: zpr (i + 1) r
theorem zpr_mem : ∀ (lv : List (Option Value)) (k : Nat) (q : Nat × Value), q ∈ zpr k lv ↔ ∃ j, q.1 = k + j ∧ lv[j]? = some (some q.2) := by
  intro lv
  induction lv with
  | nil => intro k q; simp [zpr]
  | cons a r ih =>
    intro k q
    have shift : (∃ j, q.1 = k + 1 + j ∧ r[j]? = some (some q.2)) ↔ (∃ j, q.1 = k + (j + 1) ∧ (a :: r)[j + 1]? = some (some q.2)) := by
      constructor
      · rintro ⟨j, h1, h2⟩; exact ⟨j, by omega, by simpa using h2⟩
      · rintro ⟨j, h1, h2⟩; exact ⟨j, by omega, by simpa using h2⟩
    cases a with
    | none =>
      show q ∈ zpr (k + 1) r ↔ _
      rw [ih (k + 1) q, shift]
      constructor
      · rintro ⟨j, h1, h2⟩; exact ⟨j + 1, h1, h2⟩
      · rintro ⟨j, h1, h2⟩
        cases j with
        | zero => simp at h2
        | succ j => exact ⟨j, h1, h2⟩
    | some v =>
      show q ∈ (k, v) :: zpr (k + 1) r ↔ _
      rw [List.mem_cons, ih (k + 1) q, shift]
      constructor
      · rintro (h | ⟨j, h1, h2⟩)
        · exact ⟨0, by rw [h]; rfl, by rw [h]; rfl⟩
        · exact ⟨j + 1, h1, h2⟩
      · rintro ⟨j, h1, h2⟩
        cases j with
        | zero =>
          left
          have h3 : v = q.2 := by simpa using h2
          rw [h3]
          exact Prod.ext (by simpa using h1) rfl
        | succ j => exact Or.inr ⟨j, h1, h2⟩
def zh (ls : Array Slot) (lv : List (Option Value)) : Prop := ls.size = lv.length ∧ lv_wf ls ∧ ∀ (i : Nat) (v : Value), lv[i]? = some (some v) → ls[i]? = some (.val v)
theorem zh.has {ls : Array Slot} {lv : List (Option Value)} (h : zh ls lv) : lv_has ls lv.length (zpr 0 lv) :=
  ⟨h.1, h.2.1, fun q hq => by
    obtain ⟨j, h1, h2⟩ := (zpr_mem lv 0 q).mp hq
    have : q.1 = j := by omega
    rw [this]
    exact h.2.2 j q.2 h2⟩
def zc2 (lv : List (Option Value)) : Nat → Bool
  | 0 => true
  | j + 1 => match lv[j]? with
    | some (some w) => w.category != 2
    | _ => true
theorem zc2_at {lv : List (Option Value)} {i j : Nat} {w : Value} (h : zc2 lv i = true) (hj : j + 1 = i) (hw : lv[j]? = some (some w)) : ¬ w.category = 2 := by
  subst hj
  simp only [zc2, hw] at h
  simpa using h
theorem zh_st1 {ls' : Array Slot} {lv : List (Option Value)} {i : Nat} {v : Value} (h : lv_has ls' lv.length ((i, v) :: (zpr 0 lv).filter (fun q => !(q.1 == i) && !(q.1 + 1 == i && q.2.category == 2)))) (hc : zc2 lv i = true) : zh ls' (lv.set i (some v)) := by
  refine ⟨by rw [List.length_set]; exact h.1, h.2.1, fun j w hj => ?_⟩
  by_cases e : j = i
  · subst e
    have hl : j < lv.length := by
      have := (List.getElem?_eq_some_iff.mp hj).1
      rwa [List.length_set] at this
    rw [List.getElem?_set_self hl] at hj
    have : v = w := by simpa using hj
    rw [← this]
    exact h.2.2 (j, v) List.mem_cons_self
  · rw [List.getElem?_set_ne (Ne.symm e)] at hj
    refine h.2.2 (j, w) (List.mem_cons_of_mem _ (List.mem_filter.mpr ⟨(zpr_mem lv 0 (j, w)).mpr ⟨j, by omega, hj⟩, ?_⟩))
    have h2 : ¬ (j + 1 = i ∧ w.category = 2) := fun q => zc2_at hc q.1 hj q.2
    simp only [Bool.and_eq_true, Bool.not_eq_true', beq_eq_false_iff_ne, Bool.and_eq_false_iff, ne_eq]
    refine ⟨e, ?_⟩
    by_cases q : j + 1 = i
    · exact Or.inr (fun z => h2 ⟨q, z⟩)
    · exact Or.inl q
theorem zh_st2 {ls' : Array Slot} {lv : List (Option Value)} {i : Nat} {v : Value} (h : lv_has ls' lv.length ((i, v) :: (zpr 0 lv).filter (fun q => !(q.1 == i) && (!(q.1 == i + 1) && !(q.1 + 1 == i && q.2.category == 2))))) (hc : zc2 lv i = true) : zh ls' ((lv.set i (some v)).set (i + 1) none) := by
  refine ⟨by rw [List.length_set, List.length_set]; exact h.1, h.2.1, fun j w hj => ?_⟩
  by_cases e1 : j = i + 1
  · subst e1
    have hl : i + 1 < (lv.set i (some v)).length := by
      have := (List.getElem?_eq_some_iff.mp hj).1
      rwa [List.length_set] at this
    rw [List.getElem?_set_self hl] at hj
    simp at hj
  · rw [List.getElem?_set_ne (Ne.symm e1)] at hj
    by_cases e : j = i
    · subst e
      have hl : j < lv.length := by
        have := (List.getElem?_eq_some_iff.mp hj).1
        rwa [List.length_set] at this
      rw [List.getElem?_set_self hl] at hj
      have : v = w := by simpa using hj
      rw [← this]
      exact h.2.2 (j, v) List.mem_cons_self
    · rw [List.getElem?_set_ne (Ne.symm e)] at hj
      refine h.2.2 (j, w) (List.mem_cons_of_mem _ (List.mem_filter.mpr ⟨(zpr_mem lv 0 (j, w)).mpr ⟨j, by omega, hj⟩, ?_⟩))
      have h2 : ¬ (j + 1 = i ∧ w.category = 2) := fun q => zc2_at hc q.1 hj q.2
      simp only [Bool.and_eq_true, Bool.not_eq_true', beq_eq_false_iff_ne, Bool.and_eq_false_iff, ne_eq]
      refine ⟨e, e1, ?_⟩
      by_cases q : j + 1 = i
      · exact Or.inr (fun z => h2 ⟨q, z⟩)
      · exact Or.inl q
/-- fewer known places -/
def zle : List (Option Value) → List (Option Value) → Prop
  | [], [] => True
  | none :: a, _ :: b => zle a b
  | some v :: a, some w :: b => v = w ∧ zle a b
  | _, _ => False
theorem zle_at : ∀ (a b : List (Option Value)), zle a b → a.length = b.length ∧ ∀ (i : Nat) (v : Value), a[i]? = some (some v) → b[i]? = some (some v) := by
  intro a
  induction a with
  | nil =>
    intro b h
    cases b with
    | nil => exact ⟨rfl, fun i v h => h⟩
    | cons w b => exact absurd h (by simp [zle])
  | cons x a ih =>
    intro b h
    cases b with
    | nil => exact absurd h (by cases x <;> simp [zle])
    | cons w b =>
      cases x with
      | none =>
        obtain ⟨h1, h2⟩ := ih b h
        refine ⟨by simp [h1], fun i v hi => ?_⟩
        cases i with
        | zero => simp at hi
        | succ i => simpa using h2 i v (by simpa using hi)
      | some v0 =>
        cases w with
        | none => exact absurd h (by simp [zle])
        | some w0 =>
          obtain ⟨e, h⟩ := h
          obtain ⟨h1, h2⟩ := ih b h
          refine ⟨by simp [h1], fun i v hi => ?_⟩
          cases i with
          | zero => rw [← e]; simpa using hi
          | succ i => simpa using h2 i v (by simpa using hi)
theorem zh.le {ls : Array Slot} {a b : List (Option Value)} (h : zh ls b) (hl : zle a b) : zh ls a := by
  obtain ⟨h1, h2⟩ := zle_at a b hl
  exact ⟨by rw [h1]; exact h.1, h.2.1, fun i v hi => h.2.2 i v (h2 i v hi)⟩
/-- the locals at a method's start -/
def zent : List Value → Nat → List (Option Value)
  | [], n => List.replicate n none
  | v :: vs, n => match v.category with
    | 2 => some v :: none :: zent vs (n - 2)
    | _ => some v :: zent vs (n - 1)
theorem zent_at : ∀ (vs : List Value) (n k i : Nat) (v : Value), (zent vs n)[i]? = some (some v) → (k + i, v) ∈ lv_args k vs := by
  intro vs
  induction vs with
  | nil =>
    intro n k i v h
    have h1 := List.mem_of_getElem? h
    have h2 := List.eq_of_mem_replicate h1
    cases h2
  | cons w vs ih =>
    intro n k i v h
    rcases lv_cat w with hc | hc
    · have e : zent (w :: vs) n = some w :: zent vs (n - 1) := by simp [zent, hc]
      rw [e] at h
      show _ ∈ (k, w) :: lv_args _ vs
      rw [if_neg (by omega)]
      cases i with
      | zero =>
        have : w = v := by simpa using h
        rw [this]
        exact List.mem_cons_self
      | succ i =>
        have := ih (n - 1) (k + 1) i v (by simpa using h)
        rw [show k + 1 + i = k + (i + 1) by omega] at this
        exact List.mem_cons_of_mem _ this
    · have e : zent (w :: vs) n = some w :: none :: zent vs (n - 2) := by simp [zent, hc]
      rw [e] at h
      show _ ∈ (k, w) :: lv_args _ vs
      rw [if_pos hc]
      cases i with
      | zero =>
        have : w = v := by simpa using h
        rw [this]
        exact List.mem_cons_self
      | succ i =>
        cases i with
        | zero => simp at h
        | succ i =>
          have := ih (n - 2) (k + 2) i v (by simpa using h)
          rw [show k + 2 + i = k + (i + 1 + 1) by omega] at this
          exact List.mem_cons_of_mem _ this
theorem zent_len : ∀ (vs : List Value) (n : Nat), (lg_sl vs).length ≤ n → (zent vs n).length = n := by
  intro vs
  induction vs with
  | nil => intro n h; simp [zent]
  | cons w vs ih =>
    intro n h
    rcases lv_cat w with hc | hc
    · have e : zent (w :: vs) n = some w :: zent vs (n - 1) := by simp [zent, hc]
      have h1 : (lg_sl (w :: vs)).length = (lg_sl vs).length + 1 := by simp [lg_sl, hc]
      rw [e, List.length_cons, ih (n - 1) (by omega)]
      omega
    · have e : zent (w :: vs) n = some w :: none :: zent vs (n - 2) := by simp [zent, hc]
      have h1 : (lg_sl (w :: vs)).length = (lg_sl vs).length + 2 := by simp [lg_sl, hc]
      rw [e, List.length_cons, List.length_cons, ih (n - 2) (by omega)]
      omega
theorem zh_ent {vs : List Value} {n : Nat} (h : (lg_sl vs).length ≤ n) : zh ((lg_sl vs ++ List.replicate (n - (lg_sl vs).length) Slot.unset).toArray) (zent vs n) := by
  have hl := lv_entry vs (n := n) h
  refine ⟨by rw [zent_len vs n h]; exact hl.1, hl.2.1, fun i v hi => ?_⟩
  have := hl.2.2 (0 + i, v) (zent_at vs n 0 i v hi)
  rwa [Nat.zero_add] at this
end ZA
section ZG
/-- the class's String constants: owner, place in its pool, text, bytes -/
def zcon : List (String × Nat × String × List Int32) := [("HalvedProof$Court", 47, "suit", [115, 117, 105, 116]), ("HalvedProof$Court", 57, "witness", [119, 105, 116, 110, 101, 115, 115]), ("HalvedProof$Court", 73, "on", [111, 110]), ("HalvedProof$Court", 94, "sworn", [115, 119, 111, 114, 110]), ("HalvedProof$Court", 96, "copied", [99, 111, 112, 105, 101, 100]), ("HalvedProof$Court", 98, "shown", [115, 104, 111, 119, 110]), ("HalvedProof$Court", 100, "against", [97, 103, 97, 105, 110, 115, 116]), ("HalvedProof$Laws", 38, "from", [102, 114, 111, 109])]
def zbyt : List (List Int32) := zcon.map fun c => c.2.2.2
def zlen : List Nat := zbyt.map List.length
def zG (tA : Nat → ClassId) (A : Nat → Prop) (U : State) (H : Heap) : Prop :=
  vk_S 8 zlen zbyt (fun i => tA (100 + i)) (fun i => tA (200 + i)) A U H ∧ va_Z "java/lang/String" "COMPACT_STRINGS" "Z" (.int 1) A U H ∧ va_Zq "jdk/internal/util/Preconditions" "SIOOBE_FORMATTER" "Ljava/util/function/BiFunction;" A U H ∧ ∀ (i : Nat) (c : String × Nat × String × List Int32), zcon[i]? = some c → vk_R c.1 c.2.1 c.2.2.1 (tA (100 + i)) U
theorem zG.to {tA : Nat → ClassId} {A B : Nat → Prop} {s U : State} {H0 H : Heap} {locs : List Loc} (h : zG tA A s H0) (hS : va_S A H0 H locs) (hB : ∀ q, B q → A q) (hW : s.WarmedH U.vm) : zG tA B U H :=
  ⟨((h.1.kept hS.2.1).narrow hB).moved hW.alike, ((h.2.1.kept hS.2.1).narrow hB).moved hW.alike, ((h.2.2.1.kept hS.2.1).narrow hB).moved hW.alike, fun i c hc => (h.2.2.2 i c hc).warm hW⟩
theorem zG.call {tA : Nat → ClassId} {A : Nat → Prop} {U : State} {H : Heap} {g : JFrame} {mk : MethodId} {a : Array Value} (h : zG tA A U H) : zG tA A (U.calling g mk a) H :=
  ⟨vk_S.moved (u := U) (U := U.calling g mk a) (Vm.Alike.refl U.vm) h.1, va_Z.moved (u := U) (U := U.calling g mk a) (Vm.Alike.refl U.vm) h.2.1, va_Zq.moved (u := U) (U := U.calling g mk a) (Vm.Alike.refl U.vm) h.2.2.1, fun i c hc => vk_R.same (u := U) (U := U.calling g mk a) rfl (h.2.2.2 i c hc)⟩
end ZG
section ZB
abbrev ZX : Type := (Program × Launch × Env × Room × State × MethodId) × (Array Value × List Frame × Method × Code × (State → Prop)) × (Nat → Prop) × Heap
abbrev zp (X : ZX) : Program := X.1.1
abbrev zl (X : ZX) : Launch := X.1.2.1
abbrev ze (X : ZX) : Env := X.1.2.2.1
abbrev zR (X : ZX) : Room := X.1.2.2.2.1
abbrev zs (X : ZX) : State := X.1.2.2.2.2.1
abbrev zm (X : ZX) : MethodId := X.1.2.2.2.2.2
abbrev za (X : ZX) : Array Value := X.2.1.1
abbrev zb (X : ZX) : List Frame := X.2.1.2.1
abbrev zme (X : ZX) : Method := X.2.1.2.2.1
abbrev zc (X : ZX) : Code := X.2.1.2.2.2.1
abbrev zQ (X : ZX) : State → Prop := X.2.1.2.2.2.2
abbrev zA (X : ZX) : Nat → Prop := X.2.2.1
abbrev zH (X : ZX) : Heap := X.2.2.2
/-- a walk from a place, if the pure reading ends well -/
def zY {α : Type} (X : ZX) (D : va_G) (out : α) (o : Option α) (ws : va_W) (pc : Nat) (lv : List (Option Value)) (st : List Value) : Prop :=
  o = some out → ∀ (H : Heap) (locs : List Loc) (ls : Array Slot), va_P D classes ws H → va_D (zA X) ws → va_S (zA X) (zH X) H locs → zh ls lv →
    W (zp X) (zl X) (ze X) (zR X) (zs X) (zm X) (za X) (zb X) (zme X) (zc X) H locs 0 0 (zQ X) (F0 (zm X) pc ls st)
/-- what holds all along a walk -/
def zF (l : Launch) (D : va_G) (tA : Nat → ClassId) (own : String) (cc : ByteArray) (nL : Nat) (rm : Room) (X : ZX) : Prop :=
  (zp X).tables.exec = Jvm.exec ∧ (zc X).code = cc ∧ (zs X).vm.findClass own = some (zm X).cls ∧ (∀ w ∈ zT, w.before (za X) (zs X) = true) ∧ va_K D classes (zt tA) (zs X) ∧
  (∀ q : Nat, (zH X).size ≤ q → zA X q) ∧ (zc X).maxLocals = nL ∧ zl X = l ∧ (zR X).frames = rm.frames ∧ (zR X).locals = rm.locals ∧ zG tA (zA X) (zs X) (zH X) ∧ zH X = (zs X).heap
variable {l : Launch} {D : va_G} {tA : Nat → ClassId} {own : String} {cc : ByteArray} {nL : Nat} {rm : Room} {X : ZX} {α β : Type} {out : α} {o o1 o2 : Option α} {ws ws' : va_W} {pc : Nat} {lv lv' : List (Option Value)} {st : List Value} {cA : ClassId} {n : Nat} {a : Addr}
theorem y_iconst (F : zF l D tA own cc nL rm X) {z : Int} {v : Int32} (d : decode cc pc = .ok (.iconst z, 1)) (hv : Int32.ofInt z = v) (k : zY X D out o ws (pc + 1) lv (.int v :: st)) : zY X D out o ws pc lv st :=
  fun h H locs ls hP hD hS hl => lv_iconst F.1 F.2.1 d hv (k h H locs ls hP hD hS hl)
theorem y_bipush (F : zF l D tA own cc nL rm X) {z : Int} {v : Int32} (d : decode cc pc = .ok (.bipush z, 2)) (hv : (Int8.ofInt z).toInt32 = v) (k : zY X D out o ws (pc + 2) lv (.int v :: st)) : zY X D out o ws pc lv st :=
  fun h H locs ls hP hD hS hl => lv_bipush F.1 F.2.1 d hv (k h H locs ls hP hD hS hl)
theorem y_sipush (F : zF l D tA own cc nL rm X) {z : Int} {v : Int32} (d : decode cc pc = .ok (.sipush z, 3)) (hv : (Int16.ofInt z).toInt32 = v) (k : zY X D out o ws (pc + 3) lv (.int v :: st)) : zY X D out o ws pc lv st :=
  fun h H locs ls hP hD hS hl => lv_sipush F.1 F.2.1 d hv (k h H locs ls hP hD hS hl)
theorem y_lconst (F : zF l D tA own cc nL rm X) {z : Fin 2} {v : Int64} (d : decode cc pc = .ok (.lconst z, 1)) (hv : Int64.ofNat (z : Nat) = v) (k : zY X D out o ws (pc + 1) lv (.long v :: st)) : zY X D out o ws pc lv st :=
  fun h H locs ls hP hD hS hl => lv_lconst F.1 F.2.1 d hv (k h H locs ls hP hD hS hl)
theorem y_ldc (F : zF l D tA own cc nL rm X) {ix : Nat} {v : Int32} (d : decode cc pc = .ok (.ldc ix, 2)) (w : Cond.constant own ix v ∈ zT) (k : zY X D out o ws (pc + 2) lv (.int v :: st)) : zY X D out o ws pc lv st :=
  fun h H locs ls hP hD hS hl => lv_ldc F.1 F.2.1 F.2.2.1 (F.2.2.2.1 _ w) d (k h H locs ls hP hD hS hl)
theorem y_ldcw (F : zF l D tA own cc nL rm X) {ix : Nat} {v : Int32} (d : decode cc pc = .ok (.ldc_w ix, 3)) (w : Cond.constant own ix v ∈ zT) (k : zY X D out o ws (pc + 3) lv (.int v :: st)) : zY X D out o ws pc lv st :=
  fun h H locs ls hP hD hS hl => lv_ldcw F.1 F.2.1 F.2.2.1 (F.2.2.2.1 _ w) d (k h H locs ls hP hD hS hl)
theorem y_ldc2 (F : zF l D tA own cc nL rm X) {ix : Nat} {v : Int64} (d : decode cc pc = .ok (.ldc2_w ix, 3)) (w : Cond.constantLong own ix v ∈ zT) (k : zY X D out o ws (pc + 3) lv (.long v :: st)) : zY X D out o ws pc lv st :=
  fun h H locs ls hP hD hS hl => lv_ldc2 F.1 F.2.1 F.2.2.1 (F.2.2.2.1 _ w) d (k h H locs ls hP hD hS hl)
theorem y_iload_n (F : zF l D tA own cc nL rm X) {i : Fin 4} {x : Int32} (d : decode cc pc = .ok (.iload_n i, 1)) (hv : lv[(i : Nat)]? = some (some (.int x))) (k : zY X D out o ws (pc + 1) lv (.int x :: st)) : zY X D out o ws pc lv st :=
  fun h H locs ls hP hD hS hl => lv_iload_n F.1 F.2.1 d rfl (hl.2.2 _ _ hv) (k h H locs ls hP hD hS hl)
theorem y_iload (F : zF l D tA own cc nL rm X) {i : Nat} {x : Int32} (d : decode cc pc = .ok (.iload i, 2)) (hv : lv[i]? = some (some (.int x))) (k : zY X D out o ws (pc + 2) lv (.int x :: st)) : zY X D out o ws pc lv st :=
  fun h H locs ls hP hD hS hl => lv_iload F.1 F.2.1 d (hl.2.2 _ _ hv) (k h H locs ls hP hD hS hl)
theorem y_lload_n (F : zF l D tA own cc nL rm X) {i : Fin 4} {x : Int64} (d : decode cc pc = .ok (.lload_n i, 1)) (hv : lv[(i : Nat)]? = some (some (.long x))) (k : zY X D out o ws (pc + 1) lv (.long x :: st)) : zY X D out o ws pc lv st :=
  fun h H locs ls hP hD hS hl => lv_lload_n F.1 F.2.1 d rfl (hl.2.2 _ _ hv) (k h H locs ls hP hD hS hl)
theorem y_lload (F : zF l D tA own cc nL rm X) {i : Nat} {x : Int64} (d : decode cc pc = .ok (.lload i, 2)) (hv : lv[i]? = some (some (.long x))) (k : zY X D out o ws (pc + 2) lv (.long x :: st)) : zY X D out o ws pc lv st :=
  fun h H locs ls hP hD hS hl => lv_lload F.1 F.2.1 d (hl.2.2 _ _ hv) (k h H locs ls hP hD hS hl)
theorem y_aload_n (F : zF l D tA own cc nL rm X) {i : Fin 4} {x : Nat} (d : decode cc pc = .ok (.aload_n i, 1)) (hv : lv[(i : Nat)]? = some (some (.ref x))) (k : zY X D out o ws (pc + 1) lv (.ref x :: st)) : zY X D out o ws pc lv st :=
  fun h H locs ls hP hD hS hl => lv_aload_n F.1 F.2.1 d rfl (hl.2.2 _ _ hv) (k h H locs ls hP hD hS hl)
theorem y_istore_n (F : zF l D tA own cc nL rm X) {i : Fin 4} {x : Int32} (d : decode cc pc = .ok (.istore_n i, 1)) (hi : (i : Nat) < lv.length) (hc : zc2 lv (i : Nat) = true) (hl' : lv.set (i : Nat) (some (.int x)) = lv') (k : zY X D out o ws (pc + 1) lv' st) : zY X D out o ws pc lv (.int x :: st) :=
  fun h H locs ls hP hD hS hl => lv_istore_n F.1 F.2.1 d rfl hl.has hi rfl (fun ls' h' => k h H locs ls' hP hD hS (hl' ▸ zh_st1 h' hc))
theorem y_istore (F : zF l D tA own cc nL rm X) {i : Nat} {x : Int32} (d : decode cc pc = .ok (.istore i, 2)) (hi : i < lv.length) (hc : zc2 lv i = true) (hl' : lv.set i (some (.int x)) = lv') (k : zY X D out o ws (pc + 2) lv' st) : zY X D out o ws pc lv (.int x :: st) :=
  fun h H locs ls hP hD hS hl => lv_istore F.1 F.2.1 d hl.has hi rfl (fun ls' h' => k h H locs ls' hP hD hS (hl' ▸ zh_st1 h' hc))
theorem y_astore_n (F : zF l D tA own cc nL rm X) {i : Fin 4} {x : Nat} (d : decode cc pc = .ok (.astore_n i, 1)) (hi : (i : Nat) < lv.length) (hc : zc2 lv (i : Nat) = true) (hl' : lv.set (i : Nat) (some (.ref x)) = lv') (k : zY X D out o ws (pc + 1) lv' st) : zY X D out o ws pc lv (.ref x :: st) :=
  fun h H locs ls hP hD hS hl => lv_astore_n F.1 F.2.1 d rfl hl.has hi rfl (fun ls' h' => k h H locs ls' hP hD hS (hl' ▸ zh_st1 h' hc))
theorem y_lstore_n (F : zF l D tA own cc nL rm X) {i : Fin 4} {x : Int64} (d : decode cc pc = .ok (.lstore_n i, 1)) (hi : (i : Nat) + 1 < lv.length) (hc : zc2 lv (i : Nat) = true) (hl' : (lv.set (i : Nat) (some (.long x))).set ((i : Nat) + 1) none = lv') (k : zY X D out o ws (pc + 1) lv' st) : zY X D out o ws pc lv (.long x :: st) :=
  fun h H locs ls hP hD hS hl => lv_lstore_n F.1 F.2.1 d rfl hl.has hi rfl (fun ls' h' => k h H locs ls' hP hD hS (hl' ▸ zh_st2 h' hc))
theorem y_lstore (F : zF l D tA own cc nL rm X) {i : Nat} {x : Int64} (d : decode cc pc = .ok (.lstore i, 2)) (hi : i + 1 < lv.length) (hc : zc2 lv i = true) (hl' : (lv.set i (some (.long x))).set (i + 1) none = lv') (k : zY X D out o ws (pc + 2) lv' st) : zY X D out o ws pc lv (.long x :: st) :=
  fun h H locs ls hP hD hS hl => lv_lstore F.1 F.2.1 d hl.has hi rfl (fun ls' h' => k h H locs ls' hP hD hS (hl' ▸ zh_st2 h' hc))
theorem y_iinc (F : zF l D tA own cc nL rm X) {i : Nat} {z : Int} {x v : Int32} {kf : Int32 → Option α} {lf : Int32 → List (Option Value)} (d : decode cc pc = .ok (.iinc i z, 3)) (hx : lv[i]? = some (some (.int x))) (hz : Int32.ofInt z = v) (hc : zc2 lv i = true) (hl' : ∀ y : Int32, lv.set i (some (.int y)) = lf y) (k : ∀ y : Int32, zY X D out (kf y) ws (pc + 3) (lf y) st) : zY X D out (zlet (x + v) kf) ws pc lv st := by
  intro h H locs ls hP hD hS hl
  subst hz
  have hm : (i, Value.int x) ∈ zpr 0 lv := (zpr_mem lv 0 (i, .int x)).mpr ⟨i, by omega, hx⟩
  obtain ⟨j, hj⟩ := List.getElem?_of_mem hm
  exact lv_iinc F.1 F.2.1 d hl.has hj rfl (List.getElem?_eq_some_iff.mp hx).1 rfl (fun ls' h' => k _ h H locs ls' hP hD hS (hl' _ ▸ zh_st1 h' hc))
theorem y_lti {x : Int32} {kf : Int32 → Option α} (k : ∀ y : Int32, zY X D out (kf y) ws pc lv (.int y :: st)) : zY X D out (zlet x kf) ws pc lv (.int x :: st) := k x
theorem y_ltl {x : Int64} {kf : Int64 → Option α} (k : ∀ y : Int64, zY X D out (kf y) ws pc lv (.long y :: st)) : zY X D out (zlet x kf) ws pc lv (.long x :: st) := k x
theorem y_jn {κ : Type} {kd : κ} {f : κ → Option α} (P : κ → Prop) (hd : P kd) (hf : ∀ K : κ, P K → zY X D out (f K) ws pc lv st) : zY X D out (zjn kd f) ws pc lv st := hf kd hd
theorem y_le {lv' : List (Option Value)} (hl : zle lv' lv) (k : zY X D out o ws pc lv' st) : zY X D out o ws pc lv st :=
  fun h H locs ls hP hD hS h2 => k h H locs ls hP hD hS (h2.le hl)
theorem y_none : zY X D out none ws pc lv st := fun h => by cases h
theorem y_iadd (F : zF l D tA own cc nL rm X) {x y : Int32} (d : decode cc pc = .ok (.iadd, 1)) (k : zY X D out o ws (pc + 1) lv (.int (x + y) :: st)) : zY X D out o ws pc lv (.int y :: .int x :: st) :=
  fun h H locs ls hP hD hS hl => lv_iadd F.1 F.2.1 d (k h H locs ls hP hD hS hl)
theorem y_isub (F : zF l D tA own cc nL rm X) {x y : Int32} (d : decode cc pc = .ok (.isub, 1)) (k : zY X D out o ws (pc + 1) lv (.int (x - y) :: st)) : zY X D out o ws pc lv (.int y :: .int x :: st) :=
  fun h H locs ls hP hD hS hl => lv_isub F.1 F.2.1 d (k h H locs ls hP hD hS hl)
theorem y_imul (F : zF l D tA own cc nL rm X) {x y : Int32} (d : decode cc pc = .ok (.imul, 1)) (k : zY X D out o ws (pc + 1) lv (.int (x * y) :: st)) : zY X D out o ws pc lv (.int y :: .int x :: st) :=
  fun h H locs ls hP hD hS hl => lv_imul F.1 F.2.1 d (k h H locs ls hP hD hS hl)
theorem y_iand (F : zF l D tA own cc nL rm X) {x y : Int32} (d : decode cc pc = .ok (.iand, 1)) (k : zY X D out o ws (pc + 1) lv (.int (x &&& y) :: st)) : zY X D out o ws pc lv (.int y :: .int x :: st) :=
  fun h H locs ls hP hD hS hl => lv_iand F.1 F.2.1 d (k h H locs ls hP hD hS hl)
theorem y_ior (F : zF l D tA own cc nL rm X) {x y : Int32} (d : decode cc pc = .ok (.ior, 1)) (k : zY X D out o ws (pc + 1) lv (.int (x ||| y) :: st)) : zY X D out o ws pc lv (.int y :: .int x :: st) :=
  fun h H locs ls hP hD hS hl => lv_ior F.1 F.2.1 d (k h H locs ls hP hD hS hl)
theorem y_ixor (F : zF l D tA own cc nL rm X) {x y : Int32} (d : decode cc pc = .ok (.ixor, 1)) (k : zY X D out o ws (pc + 1) lv (.int (x ^^^ y) :: st)) : zY X D out o ws pc lv (.int y :: .int x :: st) :=
  fun h H locs ls hP hD hS hl => lv_ixor F.1 F.2.1 d (k h H locs ls hP hD hS hl)
theorem y_ishl (F : zF l D tA own cc nL rm X) {x y : Int32} (d : decode cc pc = .ok (.ishl, 1)) (k : zY X D out o ws (pc + 1) lv (.int (x <<< (y &&& 31)) :: st)) : zY X D out o ws pc lv (.int y :: .int x :: st) :=
  fun h H locs ls hP hD hS hl => lv_ishl F.1 F.2.1 d (k h H locs ls hP hD hS hl)
theorem y_ishr (F : zF l D tA own cc nL rm X) {x y : Int32} (d : decode cc pc = .ok (.ishr, 1)) (k : zY X D out o ws (pc + 1) lv (.int (x >>> (y &&& 31)) :: st)) : zY X D out o ws pc lv (.int y :: .int x :: st) :=
  fun h H locs ls hP hD hS hl => lv_ishr F.1 F.2.1 d (k h H locs ls hP hD hS hl)
theorem y_ladd (F : zF l D tA own cc nL rm X) {x y : Int64} (d : decode cc pc = .ok (.ladd, 1)) (k : zY X D out o ws (pc + 1) lv (.long (x + y) :: st)) : zY X D out o ws pc lv (.long y :: .long x :: st) :=
  fun h H locs ls hP hD hS hl => lv_ladd F.1 F.2.1 d (k h H locs ls hP hD hS hl)
theorem y_lsub (F : zF l D tA own cc nL rm X) {x y : Int64} (d : decode cc pc = .ok (.lsub, 1)) (k : zY X D out o ws (pc + 1) lv (.long (x - y) :: st)) : zY X D out o ws pc lv (.long y :: .long x :: st) :=
  fun h H locs ls hP hD hS hl => lv_lsub F.1 F.2.1 d (k h H locs ls hP hD hS hl)
theorem y_lmul (F : zF l D tA own cc nL rm X) {x y : Int64} (d : decode cc pc = .ok (.lmul, 1)) (k : zY X D out o ws (pc + 1) lv (.long (x * y) :: st)) : zY X D out o ws pc lv (.long y :: .long x :: st) :=
  fun h H locs ls hP hD hS hl => lv_lmul F.1 F.2.1 d (k h H locs ls hP hD hS hl)
theorem y_land (F : zF l D tA own cc nL rm X) {x y : Int64} (d : decode cc pc = .ok (.land, 1)) (k : zY X D out o ws (pc + 1) lv (.long (x &&& y) :: st)) : zY X D out o ws pc lv (.long y :: .long x :: st) :=
  fun h H locs ls hP hD hS hl => lv_land F.1 F.2.1 d (k h H locs ls hP hD hS hl)
theorem y_lor (F : zF l D tA own cc nL rm X) {x y : Int64} (d : decode cc pc = .ok (.lor, 1)) (k : zY X D out o ws (pc + 1) lv (.long (x ||| y) :: st)) : zY X D out o ws pc lv (.long y :: .long x :: st) :=
  fun h H locs ls hP hD hS hl => lv_lor F.1 F.2.1 d (k h H locs ls hP hD hS hl)
theorem y_lxor (F : zF l D tA own cc nL rm X) {x y : Int64} (d : decode cc pc = .ok (.lxor, 1)) (k : zY X D out o ws (pc + 1) lv (.long (x ^^^ y) :: st)) : zY X D out o ws pc lv (.long y :: .long x :: st) :=
  fun h H locs ls hP hD hS hl => lv_lxor F.1 F.2.1 d (k h H locs ls hP hD hS hl)
theorem y_lshl (F : zF l D tA own cc nL rm X) {x : Int64} {y : Int32} (d : decode cc pc = .ok (.lshl, 1)) (k : zY X D out o ws (pc + 1) lv (.long (x <<< (y.toInt64 &&& 63)) :: st)) : zY X D out o ws pc lv (.int y :: .long x :: st) :=
  fun h H locs ls hP hD hS hl => lv_lshl F.1 F.2.1 d rfl (k h H locs ls hP hD hS hl)
theorem y_lshr (F : zF l D tA own cc nL rm X) {x : Int64} {y : Int32} (d : decode cc pc = .ok (.lshr, 1)) (k : zY X D out o ws (pc + 1) lv (.long (x >>> (y.toInt64 &&& 63)) :: st)) : zY X D out o ws pc lv (.int y :: .long x :: st) :=
  fun h H locs ls hP hD hS hl => lv_lshr F.1 F.2.1 d rfl (k h H locs ls hP hD hS hl)
theorem y_i2l (F : zF l D tA own cc nL rm X) {x : Int32} (d : decode cc pc = .ok (.i2l, 1)) (k : zY X D out o ws (pc + 1) lv (.long (x.toInt64) :: st)) : zY X D out o ws pc lv (.int x :: st) :=
  fun h H locs ls hP hD hS hl => lv_i2l F.1 F.2.1 d rfl (k h H locs ls hP hD hS hl)
theorem y_l2i (F : zF l D tA own cc nL rm X) {x : Int64} (d : decode cc pc = .ok (.l2i, 1)) (k : zY X D out o ws (pc + 1) lv (.int (x.toInt32) :: st)) : zY X D out o ws pc lv (.long x :: st) :=
  fun h H locs ls hP hD hS hl => lv_l2i F.1 F.2.1 d rfl (k h H locs ls hP hD hS hl)
theorem y_i2b (F : zF l D tA own cc nL rm X) {x : Int32} (d : decode cc pc = .ok (.i2b, 1)) (k : zY X D out o ws (pc + 1) lv (.int (x.toInt8.toInt32) :: st)) : zY X D out o ws pc lv (.int x :: st) :=
  fun h H locs ls hP hD hS hl => lv_i2b F.1 F.2.1 d rfl (k h H locs ls hP hD hS hl)
theorem y_iushr (F : zF l D tA own cc nL rm X) {x y : Int32} (d : decode cc pc = .ok (.iushr, 1)) (k : zY X D out o ws (pc + 1) lv (.int ((x.toUInt32 >>> (y.toUInt32 &&& Int32.toUInt32 31)).toInt32) :: st)) : zY X D out o ws pc lv (.int y :: .int x :: st) :=
  fun h H locs ls hP hD hS hl => lv_iushr F.1 F.2.1 d rfl (k h H locs ls hP hD hS hl)
theorem y_idiv (F : zF l D tA own cc nL rm X) {x y : Int32} (d : decode cc pc = .ok (.idiv, 1)) (k : zY X D out o ws (pc + 1) lv (.int (x / y) :: st)) : zY X D out (znz y o) ws pc lv (.int y :: .int x :: st) := by
  intro h H locs ls hP hD hS hl
  unfold znz at h
  by_cases e : y = 0
  · rw [if_pos e] at h
    cases h
  · rw [if_neg e] at h
    exact lv_idiv F.1 F.2.1 d e (k h H locs ls hP hD hS hl)
theorem y_irem (F : zF l D tA own cc nL rm X) {x y : Int32} (d : decode cc pc = .ok (.irem, 1)) (k : zY X D out o ws (pc + 1) lv (.int (x - x / y * y) :: st)) : zY X D out (znz y o) ws pc lv (.int y :: .int x :: st) := by
  intro h H locs ls hP hD hS hl
  unfold znz at h
  by_cases e : y = 0
  · rw [if_pos e] at h
    cases h
  · rw [if_neg e] at h
    exact lv_irem F.1 F.2.1 d e (k h H locs ls hP hD hS hl)
theorem y_ldiv (F : zF l D tA own cc nL rm X) {x y : Int64} (d : decode cc pc = .ok (.ldiv, 1)) (k : zY X D out o ws (pc + 1) lv (.long (x / y) :: st)) : zY X D out (znl y o) ws pc lv (.long y :: .long x :: st) := by
  intro h H locs ls hP hD hS hl
  unfold znl at h
  by_cases e : y = 0
  · rw [if_pos e] at h
    cases h
  · rw [if_neg e] at h
    exact lv_ldiv F.1 F.2.1 d e (k h H locs ls hP hD hS hl)
theorem y_lrem (F : zF l D tA own cc nL rm X) {x y : Int64} (d : decode cc pc = .ok (.lrem, 1)) (k : zY X D out o ws (pc + 1) lv (.long (x - x / y * y) :: st)) : zY X D out (znl y o) ws pc lv (.long y :: .long x :: st) := by
  intro h H locs ls hP hD hS hl
  unfold znl at h
  by_cases e : y = 0
  · rw [if_pos e] at h
    cases h
  · rw [if_neg e] at h
    exact lv_lrem F.1 F.2.1 d e (k h H locs ls hP hD hS hl)
theorem y_dup (F : zF l D tA own cc nL rm X) {v : Value} (d : decode cc pc = .ok (.dup, 1)) (hv : v.category = 1) (k : zY X D out o ws (pc + 1) lv (v :: v :: st)) : zY X D out o ws pc lv (v :: st) :=
  fun h H locs ls hP hD hS hl => lv_dup F.1 F.2.1 d hv (k h H locs ls hP hD hS hl)
theorem y_dup2 (F : zF l D tA own cc nL rm X) {v w : Value} (d : decode cc pc = .ok (.dup2, 1)) (hv : v.category = 1) (hw : w.category = 1) (k : zY X D out o ws (pc + 1) lv (v :: w :: v :: w :: st)) : zY X D out o ws pc lv (v :: w :: st) :=
  fun h H locs ls hP hD hS hl => lv_dup2_11 F.1 F.2.1 d hv hw (k h H locs ls hP hD hS hl)
theorem y_pop (F : zF l D tA own cc nL rm X) {v : Value} (d : decode cc pc = .ok (.pop, 1)) (hv : v.category = 1) (k : zY X D out o ws (pc + 1) lv st) : zY X D out o ws pc lv (v :: st) :=
  fun h H locs ls hP hD hS hl => lv_pop F.1 F.2.1 d hv (k h H locs ls hP hD hS hl)
theorem y_goto (F : zF l D tA own cc nL rm X) {off : Int} {tgt : Nat} (d : decode cc pc = .ok (.goto off, 3)) (ht : (pc : Int) + off = (tgt : Int)) (k : zY X D out o ws tgt lv st) : zY X D out o ws pc lv st :=
  fun h H locs ls hP hD hS hl => lv_goto F.1 F.2.1 d ht (k h H locs ls hP hD hS hl)
theorem y_if_eq (F : zF l D tA own cc nL rm X) {x : Int32} {off : Int} {tgt : Nat} (d : decode cc pc = .ok (.ifCond .eq off, 3)) (ht : (pc : Int) + off = (tgt : Int)) (kt : zY X D out o1 ws tgt lv st) (kf : zY X D out o2 ws (pc + 3) lv st) : zY X D out (if x = 0 then o1 else o2) ws pc lv (.int x :: st) := by
  intro h H locs ls hP hD hS hl
  exact lv_if_eq F.1 F.2.1 d ht (fun e => kt (by rw [if_pos e] at h; exact h) H locs ls hP hD hS hl) (fun e => kf (by rw [if_neg e] at h; exact h) H locs ls hP hD hS hl)
theorem y_icmp_eq (F : zF l D tA own cc nL rm X) {x y : Int32} {off : Int} {tgt : Nat} (d : decode cc pc = .ok (.if_icmp .eq off, 3)) (ht : (pc : Int) + off = (tgt : Int)) (kt : zY X D out o1 ws tgt lv st) (kf : zY X D out o2 ws (pc + 3) lv st) : zY X D out (if x = y then o1 else o2) ws pc lv (.int y :: .int x :: st) := by
  intro h H locs ls hP hD hS hl
  exact lv_icmp_eq F.1 F.2.1 d ht (fun e => kt (by rw [if_pos e] at h; exact h) H locs ls hP hD hS hl) (fun e => kf (by rw [if_neg e] at h; exact h) H locs ls hP hD hS hl)
theorem y_if_lt (F : zF l D tA own cc nL rm X) {x : Int32} {off : Int} {tgt : Nat} (d : decode cc pc = .ok (.ifCond .lt off, 3)) (ht : (pc : Int) + off = (tgt : Int)) (kt : zY X D out o1 ws tgt lv st) (kf : zY X D out o2 ws (pc + 3) lv st) : zY X D out (if x < 0 then o1 else o2) ws pc lv (.int x :: st) := by
  intro h H locs ls hP hD hS hl
  exact lv_if_lt F.1 F.2.1 d ht (fun e => kt (by rw [if_pos e] at h; exact h) H locs ls hP hD hS hl) (fun e => kf (by rw [if_neg e] at h; exact h) H locs ls hP hD hS hl)
theorem y_icmp_lt (F : zF l D tA own cc nL rm X) {x y : Int32} {off : Int} {tgt : Nat} (d : decode cc pc = .ok (.if_icmp .lt off, 3)) (ht : (pc : Int) + off = (tgt : Int)) (kt : zY X D out o1 ws tgt lv st) (kf : zY X D out o2 ws (pc + 3) lv st) : zY X D out (if x < y then o1 else o2) ws pc lv (.int y :: .int x :: st) := by
  intro h H locs ls hP hD hS hl
  exact lv_icmp_lt F.1 F.2.1 d ht (fun e => kt (by rw [if_pos e] at h; exact h) H locs ls hP hD hS hl) (fun e => kf (by rw [if_neg e] at h; exact h) H locs ls hP hD hS hl)
theorem y_if_ge (F : zF l D tA own cc nL rm X) {x : Int32} {off : Int} {tgt : Nat} (d : decode cc pc = .ok (.ifCond .ge off, 3)) (ht : (pc : Int) + off = (tgt : Int)) (kt : zY X D out o1 ws tgt lv st) (kf : zY X D out o2 ws (pc + 3) lv st) : zY X D out (if 0 ≤ x then o1 else o2) ws pc lv (.int x :: st) := by
  intro h H locs ls hP hD hS hl
  exact lv_if_ge F.1 F.2.1 d ht (fun e => kt (by rw [if_pos e] at h; exact h) H locs ls hP hD hS hl) (fun e => kf (by rw [if_neg e] at h; exact h) H locs ls hP hD hS hl)
theorem y_icmp_ge (F : zF l D tA own cc nL rm X) {x y : Int32} {off : Int} {tgt : Nat} (d : decode cc pc = .ok (.if_icmp .ge off, 3)) (ht : (pc : Int) + off = (tgt : Int)) (kt : zY X D out o1 ws tgt lv st) (kf : zY X D out o2 ws (pc + 3) lv st) : zY X D out (if y ≤ x then o1 else o2) ws pc lv (.int y :: .int x :: st) := by
  intro h H locs ls hP hD hS hl
  exact lv_icmp_ge F.1 F.2.1 d ht (fun e => kt (by rw [if_pos e] at h; exact h) H locs ls hP hD hS hl) (fun e => kf (by rw [if_neg e] at h; exact h) H locs ls hP hD hS hl)
theorem y_if_gt (F : zF l D tA own cc nL rm X) {x : Int32} {off : Int} {tgt : Nat} (d : decode cc pc = .ok (.ifCond .gt off, 3)) (ht : (pc : Int) + off = (tgt : Int)) (kt : zY X D out o1 ws tgt lv st) (kf : zY X D out o2 ws (pc + 3) lv st) : zY X D out (if 0 < x then o1 else o2) ws pc lv (.int x :: st) := by
  intro h H locs ls hP hD hS hl
  exact lv_if_gt F.1 F.2.1 d ht (fun e => kt (by rw [if_pos e] at h; exact h) H locs ls hP hD hS hl) (fun e => kf (by rw [if_neg e] at h; exact h) H locs ls hP hD hS hl)
theorem y_icmp_gt (F : zF l D tA own cc nL rm X) {x y : Int32} {off : Int} {tgt : Nat} (d : decode cc pc = .ok (.if_icmp .gt off, 3)) (ht : (pc : Int) + off = (tgt : Int)) (kt : zY X D out o1 ws tgt lv st) (kf : zY X D out o2 ws (pc + 3) lv st) : zY X D out (if y < x then o1 else o2) ws pc lv (.int y :: .int x :: st) := by
  intro h H locs ls hP hD hS hl
  exact lv_icmp_gt F.1 F.2.1 d ht (fun e => kt (by rw [if_pos e] at h; exact h) H locs ls hP hD hS hl) (fun e => kf (by rw [if_neg e] at h; exact h) H locs ls hP hD hS hl)
theorem y_if_le (F : zF l D tA own cc nL rm X) {x : Int32} {off : Int} {tgt : Nat} (d : decode cc pc = .ok (.ifCond .le off, 3)) (ht : (pc : Int) + off = (tgt : Int)) (kt : zY X D out o1 ws tgt lv st) (kf : zY X D out o2 ws (pc + 3) lv st) : zY X D out (if x ≤ 0 then o1 else o2) ws pc lv (.int x :: st) := by
  intro h H locs ls hP hD hS hl
  exact lv_if_le F.1 F.2.1 d ht (fun e => kt (by rw [if_pos e] at h; exact h) H locs ls hP hD hS hl) (fun e => kf (by rw [if_neg e] at h; exact h) H locs ls hP hD hS hl)
theorem y_icmp_le (F : zF l D tA own cc nL rm X) {x y : Int32} {off : Int} {tgt : Nat} (d : decode cc pc = .ok (.if_icmp .le off, 3)) (ht : (pc : Int) + off = (tgt : Int)) (kt : zY X D out o1 ws tgt lv st) (kf : zY X D out o2 ws (pc + 3) lv st) : zY X D out (if x ≤ y then o1 else o2) ws pc lv (.int y :: .int x :: st) := by
  intro h H locs ls hP hD hS hl
  exact lv_icmp_le F.1 F.2.1 d ht (fun e => kt (by rw [if_pos e] at h; exact h) H locs ls hP hD hS hl) (fun e => kf (by rw [if_neg e] at h; exact h) H locs ls hP hD hS hl)
theorem y_if_ne (F : zF l D tA own cc nL rm X) {x : Int32} {off : Int} {tgt : Nat} (d : decode cc pc = .ok (.ifCond .ne off, 3)) (ht : (pc : Int) + off = (tgt : Int)) (kf : zY X D out o1 ws (pc + 3) lv st) (kt : zY X D out o2 ws tgt lv st) : zY X D out (if x = 0 then o1 else o2) ws pc lv (.int x :: st) := by
  intro h H locs ls hP hD hS hl
  exact lv_if_ne F.1 F.2.1 d ht (fun e => kt (by rw [if_neg e] at h; exact h) H locs ls hP hD hS hl) (fun e => kf (by rw [if_pos e] at h; exact h) H locs ls hP hD hS hl)
theorem y_icmp_ne (F : zF l D tA own cc nL rm X) {x y : Int32} {off : Int} {tgt : Nat} (d : decode cc pc = .ok (.if_icmp .ne off, 3)) (ht : (pc : Int) + off = (tgt : Int)) (kf : zY X D out o1 ws (pc + 3) lv st) (kt : zY X D out o2 ws tgt lv st) : zY X D out (if x = y then o1 else o2) ws pc lv (.int y :: .int x :: st) := by
  intro h H locs ls hP hD hS hl
  exact lv_icmp_ne F.1 F.2.1 d ht (fun e => kt (by rw [if_neg e] at h; exact h) H locs ls hP hD hS hl) (fun e => kf (by rw [if_pos e] at h; exact h) H locs ls hP hD hS hl)
theorem zl_eq (x y : Int64) : lg_cmp x y = 0 ↔ x = y := by
  unfold lg_cmp
  by_cases h1 : y < x
  · have h2 : ¬ x = y := fun e => by rw [e] at h1; exact Int64.lt_irrefl h1
    simp [h1, h2]
  · by_cases h2 : x = y
    · simp [h2]
    · simp [h1, h2]
theorem zl_ge (x y : Int64) : 0 ≤ lg_cmp x y ↔ y ≤ x := lg_cmp_ge x y
theorem zl_lt (x y : Int64) : lg_cmp x y < 0 ↔ x < y := by
  rw [← Int32.not_le, zl_ge, Int64.not_le]
theorem zl_gt (x y : Int64) : 0 < lg_cmp x y ↔ y < x := by
  unfold lg_cmp
  by_cases h1 : y < x
  · simp [h1]
  · by_cases h2 : x = y
    · simp [h2]
    · simp [h1, h2]
theorem zl_le (x y : Int64) : lg_cmp x y ≤ 0 ↔ x ≤ y := by
  rw [← Int32.not_lt, zl_gt, Int64.not_lt]
theorem y_lcmp_eq (F : zF l D tA own cc nL rm X) {x y : Int64} {off : Int} {tgt : Nat} (d0 : decode cc pc = .ok (.lcmp, 1)) (d : decode cc (pc + 1) = .ok (.ifCond .eq off, 3)) (ht : ((pc + 1 : Nat) : Int) + off = (tgt : Int)) (kt : zY X D out o1 ws tgt lv st) (kf : zY X D out o2 ws (pc + 4) lv st) : zY X D out (if x = y then o1 else o2) ws pc lv (.long y :: .long x :: st) := by
  intro h H locs ls hP hD hS hl
  exact W.lcmp F.1 F.2.1 d0 (lv_if_eq F.1 F.2.1 d ht (fun e => kt (by rw [if_pos ((zl_eq x y).mp e)] at h; exact h) H locs ls hP hD hS hl) (fun e => kf (by rw [if_neg (fun z => e ((zl_eq x y).mpr z))] at h; exact h) H locs ls hP hD hS hl))
theorem y_lcmp_lt (F : zF l D tA own cc nL rm X) {x y : Int64} {off : Int} {tgt : Nat} (d0 : decode cc pc = .ok (.lcmp, 1)) (d : decode cc (pc + 1) = .ok (.ifCond .lt off, 3)) (ht : ((pc + 1 : Nat) : Int) + off = (tgt : Int)) (kt : zY X D out o1 ws tgt lv st) (kf : zY X D out o2 ws (pc + 4) lv st) : zY X D out (if x < y then o1 else o2) ws pc lv (.long y :: .long x :: st) := by
  intro h H locs ls hP hD hS hl
  exact W.lcmp F.1 F.2.1 d0 (lv_if_lt F.1 F.2.1 d ht (fun e => kt (by rw [if_pos ((zl_lt x y).mp e)] at h; exact h) H locs ls hP hD hS hl) (fun e => kf (by rw [if_neg (fun z => e ((zl_lt x y).mpr z))] at h; exact h) H locs ls hP hD hS hl))
theorem y_lcmp_ge (F : zF l D tA own cc nL rm X) {x y : Int64} {off : Int} {tgt : Nat} (d0 : decode cc pc = .ok (.lcmp, 1)) (d : decode cc (pc + 1) = .ok (.ifCond .ge off, 3)) (ht : ((pc + 1 : Nat) : Int) + off = (tgt : Int)) (kt : zY X D out o1 ws tgt lv st) (kf : zY X D out o2 ws (pc + 4) lv st) : zY X D out (if y ≤ x then o1 else o2) ws pc lv (.long y :: .long x :: st) := by
  intro h H locs ls hP hD hS hl
  exact W.lcmp F.1 F.2.1 d0 (lv_if_ge F.1 F.2.1 d ht (fun e => kt (by rw [if_pos ((zl_ge x y).mp e)] at h; exact h) H locs ls hP hD hS hl) (fun e => kf (by rw [if_neg (fun z => e ((zl_ge x y).mpr z))] at h; exact h) H locs ls hP hD hS hl))
theorem y_lcmp_gt (F : zF l D tA own cc nL rm X) {x y : Int64} {off : Int} {tgt : Nat} (d0 : decode cc pc = .ok (.lcmp, 1)) (d : decode cc (pc + 1) = .ok (.ifCond .gt off, 3)) (ht : ((pc + 1 : Nat) : Int) + off = (tgt : Int)) (kt : zY X D out o1 ws tgt lv st) (kf : zY X D out o2 ws (pc + 4) lv st) : zY X D out (if y < x then o1 else o2) ws pc lv (.long y :: .long x :: st) := by
  intro h H locs ls hP hD hS hl
  exact W.lcmp F.1 F.2.1 d0 (lv_if_gt F.1 F.2.1 d ht (fun e => kt (by rw [if_pos ((zl_gt x y).mp e)] at h; exact h) H locs ls hP hD hS hl) (fun e => kf (by rw [if_neg (fun z => e ((zl_gt x y).mpr z))] at h; exact h) H locs ls hP hD hS hl))
theorem y_lcmp_le (F : zF l D tA own cc nL rm X) {x y : Int64} {off : Int} {tgt : Nat} (d0 : decode cc pc = .ok (.lcmp, 1)) (d : decode cc (pc + 1) = .ok (.ifCond .le off, 3)) (ht : ((pc + 1 : Nat) : Int) + off = (tgt : Int)) (kt : zY X D out o1 ws tgt lv st) (kf : zY X D out o2 ws (pc + 4) lv st) : zY X D out (if x ≤ y then o1 else o2) ws pc lv (.long y :: .long x :: st) := by
  intro h H locs ls hP hD hS hl
  exact W.lcmp F.1 F.2.1 d0 (lv_if_le F.1 F.2.1 d ht (fun e => kt (by rw [if_pos ((zl_le x y).mp e)] at h; exact h) H locs ls hP hD hS hl) (fun e => kf (by rw [if_neg (fun z => e ((zl_le x y).mpr z))] at h; exact h) H locs ls hP hD hS hl))
theorem y_lcmp_ne (F : zF l D tA own cc nL rm X) {x y : Int64} {off : Int} {tgt : Nat} (d0 : decode cc pc = .ok (.lcmp, 1)) (d : decode cc (pc + 1) = .ok (.ifCond .ne off, 3)) (ht : ((pc + 1 : Nat) : Int) + off = (tgt : Int)) (kf : zY X D out o1 ws (pc + 4) lv st) (kt : zY X D out o2 ws tgt lv st) : zY X D out (if x = y then o1 else o2) ws pc lv (.long y :: .long x :: st) := by
  intro h H locs ls hP hD hS hl
  exact W.lcmp F.1 F.2.1 d0 (lv_if_ne F.1 F.2.1 d ht (fun e => kt (by rw [if_neg (fun z => e ((zl_eq x y).mpr z))] at h; exact h) H locs ls hP hD hS hl) (fun e => kf (by rw [if_pos ((zl_eq x y).mp e)] at h; exact h) H locs ls hP hD hS hl))
theorem zin_of {i : Int32} (h : 0 ≤ i.toInt ∧ i.toInt < (n : Int)) : vp_in i n := vp_in_iff.mpr h
theorem y_gd {i : Int32} (k : vp_in i n → zY X D out o ws pc lv st) : zY X D out (zgd i n o) ws pc lv st := by
  intro h
  unfold zgd at h
  by_cases e : 0 ≤ i.toInt ∧ i.toInt < (n : Int)
  · rw [if_pos e] at h
    exact k (zin_of e) h
  · rw [if_neg e] at h
    cases h
/-- a class's field by a word of the constant pool -/
def zFl (own : String) (ix ci k : Nat) (C : String) (T : u_T) (N : Nat) (ty : Nat → FieldType) : Prop :=
  classes[ci]? = some (C, T, N) ∧ (∀ w ∈ u_ws C T N, w ∈ zT) ∧ (∀ k, k < N → parseFieldDescriptor (T k).2.2.1 = some (ty k)) ∧ (∀ a, a < N → ∀ b, b < N → a ≠ b → (T a).2.1 ≠ (T b).2.1) ∧ k < N ∧ Cond.fieldLink own ix (T k).1 (T k).2.1 (T k).2.2.1 ∈ zT
theorem y_get (F : zF l D tA own cc nL rm X) {ix ci k N : Nat} {C : String} {T : u_T} {ty : Nat → FieldType} (d : decode cc pc = .ok (.getfield ix, 3)) (w : zFl own ix ci k C T N ty) (q0 : Nat) {fs : List Value} {v : Value} (he : ws[q0]? = some (a, .inr (ci, fs))) (hv : fs[k]? = some v) (kk : zY X D out o ws (pc + 3) lv (v :: st)) : zY X D out o ws pc lv (.ref a :: st) :=
  fun h H locs ls hP hD hS hl => va_get F.1 F.2.1 F.2.2.2.1 w.2.1 F.2.2.1 F.2.2.2.2.1 hP q0 he w.1 k w.2.2.2.2.1 (F.2.2.2.1 _ w.2.2.2.2.2) (fun _ h => h) hv d (kk h H locs ls hP hD hS hl)
theorem y_put (F : zF l D tA own cc nL rm X) {ix ci k N : Nat} {C : String} {T : u_T} {ty : Nat → FieldType} (d : decode cc pc = .ok (.putfield ix, 3)) (w : zFl own ix ci k C T N ty) (q0 : Nat) {fs : List Value} {v : Value} (he : ws[q0]? = some (a, .inr (ci, fs))) (hfin : (T k).2.2.2 = false) (hn : narrow (ty k) v = v) (hfit : fits (ty k) v = true) (hk : k < fs.length) {e : β} {kf : β → Option α} (wf : β → va_W) (hw : ws.set q0 (a, .inr (ci, fs.set k v)) = wf e) (kk : ∀ o' : β, zY X D out (kf o') (wf o') (pc + 3) lv st) : zY X D out (zlet e kf) ws pc lv (v :: .ref a :: st) :=
  fun h H locs ls hP hD hS hl => va_put F.1 F.2.1 F.2.2.2.1 w.2.1 ty w.2.2.1 w.2.2.2.1 F.2.2.1 F.2.2.2.2.1 hP hD hS q0 he w.1 k w.2.2.2.2.1 (F.2.2.2.1 _ w.2.2.2.2.2) (fun _ h => h) hfin (w.2.2.1 k w.2.2.2.2.1) hn hfit hk d (fun H1 locs1 hP1 hD1 hS1 => kk e h H1 locs1 ls (hw ▸ hP1) (hw ▸ hD1) hS1 hl)
theorem y_iald (F : zF l D tA own cc nL rm X) (d : decode cc pc = .ok (.iaload, 1)) (q0 : Nat) {f : Nat → Int32} {i : Int32} (ha : ws[q0]? = some (a, .inl (tA 0, n, .inl f))) (kk : zY X D out o ws (pc + 1) lv (.int (f i.toNatClampNeg) :: st)) : zY X D out (zgd i n o) ws pc lv (.int i :: .ref a :: st) :=
  y_gd fun hin h H locs ls hP hD hS hl => va_iald F.1 F.2.1 F.2.2.2.2.1 hP q0 0 ha rfl hin d (kk h H locs ls hP hD hS hl)
theorem y_lald (F : zF l D tA own cc nL rm X) (d : decode cc pc = .ok (.laload, 1)) (q0 : Nat) {f : Nat → Int64} {i : Int32} (ha : ws[q0]? = some (a, .inl (tA 1, n, .inr (.inl f)))) (kk : zY X D out o ws (pc + 1) lv (.long (f i.toNatClampNeg) :: st)) : zY X D out (zgd i n o) ws pc lv (.int i :: .ref a :: st) :=
  y_gd fun hin h H locs ls hP hD hS hl => va_lald F.1 F.2.1 F.2.2.2.2.1 hP q0 1 ha rfl hin d (kk h H locs ls hP hD hS hl)
theorem y_zald (F : zF l D tA own cc nL rm X) (d : decode cc pc = .ok (.baload, 1)) (q0 : Nat) {f : Nat → Int32} {i : Int32} (ha : ws[q0]? = some (a, .inl (tA 2, n, .inl f))) (kk : zY X D out o ws (pc + 1) lv (.int (f i.toNatClampNeg) :: st)) : zY X D out (zgd i n o) ws pc lv (.int i :: .ref a :: st) :=
  y_gd fun hin h H locs ls hP hD hS hl => va_zald F.1 F.2.1 F.2.2.2.2.1 hP q0 2 ha rfl hin d (kk h H locs ls hP hD hS hl)
theorem y_bald (F : zF l D tA own cc nL rm X) (d : decode cc pc = .ok (.baload, 1)) (q0 : Nat) {f : Nat → Int32} {i : Int32} (ha : ws[q0]? = some (a, .inl (tA 3, n, .inl f))) (kk : zY X D out o ws (pc + 1) lv (.int (f i.toNatClampNeg) :: st)) : zY X D out (zgd i n o) ws pc lv (.int i :: .ref a :: st) :=
  y_gd fun hin h H locs ls hP hD hS hl => va_bald F.1 F.2.1 F.2.2.2.2.1 hP q0 3 ha rfl hin d (kk h H locs ls hP hD hS hl)
theorem va_aldr {p : Program} {l : Launch} {e : Env} {R : Room} {s : State} {m : MethodId} {args : Array Value} {below : List Frame} {meth : Method} {c : Code} {H : Heap} {locs : List Loc} {cells slots : Nat} {Q : State → Prop} {cc : ByteArray} {pc : Nat} {ls : Array Slot} {rest : List Value} {D : va_G} {cl : List vw_C} {a : Nat} {tys : List (ClassId × FieldType)} {ws : va_W}
    (hexec : p.tables.exec = Jvm.exec) (hb : c.code = cc) (hK : va_K D cl tys s) (hP : va_P D cl ws H) (q0 t0 : Nat) {cA : ClassId} {ty : FieldType} {n : Nat} {f : Nat → Option Nat} (ha : ws[q0]? = some (a, .inl (cA, n, .inr (.inr (.inr (.inr f)))))) (ht : tys[t0]? = some (cA, ty)) (hty : ty.isReference = true) {i : Int32} (hin : vp_in i n) (hdg : decode cc pc = .ok (.aaload, 1))
    (kk : W p l e R s m args below meth c H locs cells slots Q (F0 m (pc + 1) ls (va_rf (f i.toNatClampNeg) :: rest))) : W p l e R s m args below meth c H locs cells slots Q (F0 m pc ls (.int i :: .ref a :: rest)) := by
  have hlt : i.toNatClampNeg < n := Nat.not_le.mp fun q => hin (Or.inr q)
  exact W.aald (v := va_rf (f i.toNatClampNeg)) (ty := ty) hexec hb (hP q0 _ ha) ((hK.2 t0 _ ht).1 n (fun j => va_rf (f j))) hty (fun q => by cases q) (by show ¬ (i < 0 ∨ (arrV _ _ _).slots.size ≤ _); rw [arrV_size]; exact hin) (by show (arrV _ _ _).slots[_]? = _; rw [arrV_read _ _ hlt]) rfl rfl hdg kk
/-- a row of an array of rows, or an object of an array of objects: its address by its place -/
theorem y_aald (F : zF l D tA own cc nL rm X) (d : decode cc pc = .ok (.aaload, 1)) (q0 t0 : Nat) {ty : FieldType} {g : Nat → Nat} {i : Int32} (ha : ws[q0]? = some (a, .inl (cA, n, .inr (.inr (.inr (.inr (fun j => some (g j)))))))) (ht : (zt tA)[t0]? = some (cA, ty)) (hty : ty.isReference = true) (kk : zY X D out o ws (pc + 1) lv (.ref (g i.toNatClampNeg) :: st)) : zY X D out (zgd i n o) ws pc lv (.int i :: .ref a :: st) :=
  y_gd fun hin h H locs ls hP hD hS hl => va_aldr F.1 F.2.1 F.2.2.2.2.1 hP q0 t0 ha ht hty hin d (kk h H locs ls hP hD hS hl)
theorem y_iast (F : zF l D tA own cc nL rm X) (d : decode cc pc = .ok (.iastore, 1)) (q0 : Nat) {f : Nat → Int32} {i x : Int32} (ha : ws[q0]? = some (a, .inl (tA 0, n, .inl f))) {e : β} {kf : β → Option α} (wf : β → va_W) (hw : ws.set q0 (a, .inl (tA 0, n, .inl (upd f i.toNatClampNeg x))) = wf e) (kk : ∀ o' : β, zY X D out (kf o') (wf o') (pc + 1) lv st) : zY X D out (zgd i n (zlet e kf)) ws pc lv (.int x :: .int i :: .ref a :: st) :=
  y_gd fun hin h H locs ls hP hD hS hl => va_iast F.1 F.2.1 F.2.2.2.2.1 hP hD hS q0 0 ha rfl hin d (fun H1 locs1 hP1 hD1 hS1 => kk e h H1 locs1 ls (hw ▸ hP1) (hw ▸ hD1) hS1 hl)
theorem y_last (F : zF l D tA own cc nL rm X) (d : decode cc pc = .ok (.lastore, 1)) (q0 : Nat) {f : Nat → Int64} {i : Int32} {x : Int64} (ha : ws[q0]? = some (a, .inl (tA 1, n, .inr (.inl f)))) {e : β} {kf : β → Option α} (wf : β → va_W) (hw : ws.set q0 (a, .inl (tA 1, n, .inr (.inl (vp_updL f i.toNatClampNeg x)))) = wf e) (kk : ∀ o' : β, zY X D out (kf o') (wf o') (pc + 1) lv st) : zY X D out (zgd i n (zlet e kf)) ws pc lv (.long x :: .int i :: .ref a :: st) :=
  y_gd fun hin h H locs ls hP hD hS hl => va_last F.1 F.2.1 F.2.2.2.2.1 hP hD hS q0 1 ha rfl hin d (fun H1 locs1 hP1 hD1 hS1 => kk e h H1 locs1 ls (hw ▸ hP1) (hw ▸ hD1) hS1 hl)
theorem y_zast (F : zF l D tA own cc nL rm X) (d : decode cc pc = .ok (.bastore, 1)) (q0 : Nat) {f : Nat → Int32} {i x : Int32} (ha : ws[q0]? = some (a, .inl (tA 2, n, .inl f))) {e : β} {kf : β → Option α} (wf : β → va_W) (hw : ws.set q0 (a, .inl (tA 2, n, .inl (upd f i.toNatClampNeg (vp_nar .boolean x)))) = wf e) (kk : ∀ o' : β, zY X D out (kf o') (wf o') (pc + 1) lv st) : zY X D out (zgd i n (zlet e kf)) ws pc lv (.int x :: .int i :: .ref a :: st) :=
  y_gd fun hin h H locs ls hP hD hS hl => va_zast F.1 F.2.1 F.2.2.2.2.1 hP hD hS q0 2 ha rfl hin d (fun H1 locs1 hP1 hD1 hS1 => kk e h H1 locs1 ls (hw ▸ hP1) (hw ▸ hD1) hS1 hl)
theorem y_bast (F : zF l D tA own cc nL rm X) (d : decode cc pc = .ok (.bastore, 1)) (q0 : Nat) {f : Nat → Int32} {i x : Int32} (ha : ws[q0]? = some (a, .inl (tA 3, n, .inl f))) {e : β} {kf : β → Option α} (wf : β → va_W) (hw : ws.set q0 (a, .inl (tA 3, n, .inl (upd f i.toNatClampNeg (vp_nar .byte x)))) = wf e) (kk : ∀ o' : β, zY X D out (kf o') (wf o') (pc + 1) lv st) : zY X D out (zgd i n (zlet e kf)) ws pc lv (.int x :: .int i :: .ref a :: st) :=
  y_gd fun hin h H locs ls hP hD hS hl => va_bast F.1 F.2.1 F.2.2.2.2.1 hP hD hS q0 3 ha rfl hin d (fun H1 locs1 hP1 hD1 hS1 => kk e h H1 locs1 ls (hw ▸ hP1) (hw ▸ hD1) hS1 hl)
theorem y_alen (F : zF l D tA own cc nL rm X) (d : decode cc pc = .ok (.arraylength, 1)) (q0 t0 : Nat) {x : vp_A} {ty : FieldType} {v : Int32} (ha : ws[q0]? = some (a, .inl (cA, x))) (ht : (zt tA)[t0]? = some (cA, ty)) (hv : Int32.ofNat x.1 = v) (kk : zY X D out o ws (pc + 1) lv (.int v :: st)) : zY X D out o ws pc lv (.ref a :: st) :=
  fun h H locs ls hP hD hS hl => va_alen F.1 F.2.1 F.2.2.2.2.1 hP q0 t0 ha ht hv d (kk h H locs ls hP hD hS hl)
/-- a method's end -/
def zRi (X : ZX) (D : va_G) (cc : ByteArray) (ty : FieldType) (rr : α → Int32) (w1 : α → va_W) (out : α) : Prop :=
  narrow ty (.int (rr out)) = .int (rr out) → ∀ (H : Heap) (locs : List Loc) (pc : Nat) (ls : Array Slot), decode cc pc = .ok (.ireturn, 1) → va_P D classes (w1 out) H → va_D (zA X) (w1 out) → va_S (zA X) (zH X) H locs →
    W (zp X) (zl X) (ze X) (zR X) (zs X) (zm X) (za X) (zb X) (zme X) (zc X) H locs 0 0 (zQ X) (F0 (zm X) pc ls [.int (rr out)])
def zRl (X : ZX) (D : va_G) (cc : ByteArray) (rr : α → Int64) (w1 : α → va_W) (out : α) : Prop :=
  ∀ (H : Heap) (locs : List Loc) (pc : Nat) (ls : Array Slot), decode cc pc = .ok (.lreturn, 1) → va_P D classes (w1 out) H → va_D (zA X) (w1 out) → va_S (zA X) (zH X) H locs →
    W (zp X) (zl X) (ze X) (zR X) (zs X) (zm X) (za X) (zb X) (zme X) (zc X) H locs 0 0 (zQ X) (F0 (zm X) pc ls [.long (rr out)])
def zRv (X : ZX) (D : va_G) (cc : ByteArray) (w1 : α → va_W) (out : α) : Prop :=
  ∀ (H : Heap) (locs : List Loc) (pc : Nat) (ls : Array Slot), decode cc pc = .ok (.return_, 1) → va_P D classes (w1 out) H → va_D (zA X) (w1 out) → va_S (zA X) (zH X) H locs →
    W (zp X) (zl X) (ze X) (zR X) (zs X) (zm X) (za X) (zb X) (zme X) (zc X) H locs 0 0 (zQ X) (F0 (zm X) pc ls [])
theorem y_iret {rr : α → Int32} {w1 : α → va_W} {out' : α} {v : Int32} (hr : zRi X D cc .int rr w1 out) (d : decode cc pc = .ok (.ireturn, 1)) (hv : v = rr out') (hw : ws = w1 out') : zY X D out (some out') ws pc lv [.int v] := by
  intro h H locs ls hP hD hS hl
  have h := Option.some.inj h
  rw [h] at hv hw
  rw [hw] at hP hD
  rw [hv]
  exact hr rfl H locs pc ls d hP hD hS
theorem y_zret {rr : α → Int32} {w1 : α → va_W} {out' : α} {v : Int32} (hr : zRi X D cc .boolean rr w1 out) (d : decode cc pc = .ok (.ireturn, 1)) (hv : v = rr out') (hw : ws = w1 out') : zY X D out (zgz v (some out')) ws pc lv [.int v] := by
  intro h H locs ls hP hD hS hl
  unfold zgz at h
  by_cases e : v = 0 ∨ v = 1
  · rw [if_pos e] at h
    have h := Option.some.inj h
    rw [h] at hv hw
    rw [hw] at hP hD
    have hn : narrow .boolean (.int v) = .int v := by
      rcases e with e | e <;> rw [e] <;> rfl
    rw [hv] at hn ⊢
    exact hr hn H locs pc ls d hP hD hS
  · rw [if_neg e] at h
    cases h
theorem y_lret {rr : α → Int64} {w1 : α → va_W} {out' : α} {v : Int64} (hr : zRl X D cc rr w1 out) (d : decode cc pc = .ok (.lreturn, 1)) (hv : v = rr out') (hw : ws = w1 out') : zY X D out (some out') ws pc lv [.long v] := by
  intro h H locs ls hP hD hS hl
  have h := Option.some.inj h
  rw [h] at hv hw
  rw [hw] at hP hD
  rw [hv]
  exact hr H locs pc ls d hP hD hS
theorem y_vret {w1 : α → va_W} {out' : α} (hr : zRv X D cc w1 out) (d : decode cc pc = .ok (.return_, 1)) (hw : ws = w1 out') : zY X D out (some out') ws pc lv [] := by
  intro h H locs ls hP hD hS hl
  have h := Option.some.inj h
  rw [h] at hw
  rw [hw] at hP hD
  exact hr H locs pc ls d hP hD hS
/-- contracts -/
def zPre (D : va_G) (tA : Nat → ClassId) (av : List Value) (w0 : va_W) (sz : Nat) : Array Value → State → Prop := va_Pc av (fun U => U.heap.size = sz ∧ va_P D classes w0 U.heap ∧ va_K D classes (zt tA) U ∧ va_D (fun _ => True) w0 ∧ zG tA (va_A w0 sz) U U.heap)
def zAt (D : va_G) (w0 w1 : va_W) (sz : Nat) : Unit → State → Prop := fun _ t => va_P D classes w1 t.heap ∧ va_D (va_A w0 sz) w1
def zCi (l : Launch) (D : va_G) (tA : Nat → ClassId) (y : MethodName) (b : ByteArray) (nL : Nat) (ty : FieldType) (rm : Room) (av : List Value) (w0 : va_W) (rr : α → Int32) (w1 : α → va_W) (o : Option α) : Prop :=
  ∀ out : α, o = some out → ∀ sz : Nat, Met l y (.code y b nL (some ty) :: zT) rm (zPre D tA av w0 sz) (va_Qi (fun (r : Int32) (_ : Unit) => r = rr out) (zAt D w0 (w1 out) sz) (va_A w0 sz)) 0 0 (va_A w0 sz)
def zCl (l : Launch) (D : va_G) (tA : Nat → ClassId) (y : MethodName) (b : ByteArray) (nL : Nat) (rm : Room) (av : List Value) (w0 : va_W) (rr : α → Int64) (w1 : α → va_W) (o : Option α) : Prop :=
  ∀ out : α, o = some out → ∀ sz : Nat, Met l y (.code y b nL (some .long) :: zT) rm (zPre D tA av w0 sz) (va_Ql (fun (r : Int64) (_ : Unit) => r = rr out) (zAt D w0 (w1 out) sz) (va_A w0 sz)) 0 0 (va_A w0 sz)
def zCv (l : Launch) (D : va_G) (tA : Nat → ClassId) (y : MethodName) (b : ByteArray) (nL : Nat) (rm : Room) (av : List Value) (w0 : va_W) (w1 : α → va_W) (o : Option α) : Prop :=
  ∀ out : α, o = some out → ∀ sz : Nat, Met l y (.code y b nL none :: zT) rm (zPre D tA av w0 sz) (va_Qv (fun (_ : Unit) => True) (zAt D w0 (w1 out) sz) (va_A w0 sz)) 0 0 (va_A w0 sz)
theorem zCi_of {y : MethodName} {b : ByteArray} {ty : FieldType} {av : List Value} {w0 : va_W} {rr : α → Int32} {w1 : α → va_W} (hy : plainName y.cls = true) (hlen : (lg_sl av).length ≤ nL) {lv0 : List (Option Value)} (hlv : zent av nL = lv0)
    (body : ∀ (X : ZX) (out : α), zF l D tA y.cls b nL rm X → zRi X D b ty rr w1 out → zY X D out o w0 0 lv0 []) : zCi l D tA y b nL ty rm av w0 rr w1 o := by
  intro out ho sz
  refine Met.ofW (cc := b) (maxL := nL) (ret := some ty) hy rfl ?_
  intro p e s m args below meth c s₁ B hml hv
  obtain ⟨rfl, hsz, hP, hK, hD0, hG⟩ := hv
  subst hsz
  have hts := atoms_spec (ws := .code y b nL (some ty) :: zT) B.pre
  have hlocks := B.notSynchronized
  rw [lg_entry_eq]
  refine body ((p, l, e, (headSpec (.code y b nL (some ty) :: zT) rm).room, s, m), (av.toArray, below, meth, c, _), va_A w0 s.heap.size, s.heap) out ⟨B.exec, B.bytes, findClass_of_methodNamed B.named, fun w hw => hts w (List.mem_cons_of_mem _ hw), hK, fun q h => Or.inr h, hml, rfl, rfl, rfl, hG, rfl⟩ ?_ ho s.heap [] _ hP hD0.self va_S.rf (hlv ▸ zh_ent hlen)
  intro hn H locs pc ls d hP hD hS
  exact W.zret B.exec B.bytes B.returns hn (fun t ht hW => ⟨⟨rr out, (), rfl, rfl, by rw [ht]; exact hP, hD⟩, hS.F ht⟩) hS.2.2 d hlocks
theorem zCl_of {y : MethodName} {b : ByteArray} {av : List Value} {w0 : va_W} {rr : α → Int64} {w1 : α → va_W} (hy : plainName y.cls = true) (hlen : (lg_sl av).length ≤ nL) {lv0 : List (Option Value)} (hlv : zent av nL = lv0)
    (body : ∀ (X : ZX) (out : α), zF l D tA y.cls b nL rm X → zRl X D b rr w1 out → zY X D out o w0 0 lv0 []) : zCl l D tA y b nL rm av w0 rr w1 o := by
  intro out ho sz
  refine Met.ofW (cc := b) (maxL := nL) (ret := some .long) hy rfl ?_
  intro p e s m args below meth c s₁ B hml hv
  obtain ⟨rfl, hsz, hP, hK, hD0, hG⟩ := hv
  subst hsz
  have hts := atoms_spec (ws := .code y b nL (some .long) :: zT) B.pre
  have hlocks := B.notSynchronized
  rw [lg_entry_eq]
  refine body ((p, l, e, (headSpec (.code y b nL (some .long) :: zT) rm).room, s, m), (av.toArray, below, meth, c, _), va_A w0 s.heap.size, s.heap) out ⟨B.exec, B.bytes, findClass_of_methodNamed B.named, fun w hw => hts w (List.mem_cons_of_mem _ hw), hK, fun q h => Or.inr h, hml, rfl, rfl, rfl, hG, rfl⟩ ?_ ho s.heap [] _ hP hD0.self va_S.rf (hlv ▸ zh_ent hlen)
  intro H locs pc ls d hP hD hS
  exact W.lret B.exec B.bytes B.returns (fun t ht hW => ⟨⟨rr out, (), rfl, rfl, by rw [ht]; exact hP, hD⟩, hS.F ht⟩) hS.2.2 d hlocks
theorem zCv_of {y : MethodName} {b : ByteArray} {av : List Value} {w0 : va_W} {w1 : α → va_W} (hy : plainName y.cls = true) (hlen : (lg_sl av).length ≤ nL) {lv0 : List (Option Value)} (hlv : zent av nL = lv0)
    (body : ∀ (X : ZX) (out : α), zF l D tA y.cls b nL rm X → zRv X D b w1 out → zY X D out o w0 0 lv0 []) : zCv l D tA y b nL rm av w0 w1 o := by
  intro out ho sz
  refine Met.ofW (cc := b) (maxL := nL) (ret := none) hy rfl ?_
  intro p e s m args below meth c s₁ B hml hv
  obtain ⟨rfl, hsz, hP, hK, hD0, hG⟩ := hv
  subst hsz
  have hts := atoms_spec (ws := .code y b nL none :: zT) B.pre
  have hlocks := B.notSynchronized
  rw [lg_entry_eq]
  refine body ((p, l, e, (headSpec (.code y b nL none :: zT) rm).room, s, m), (av.toArray, below, meth, c, _), va_A w0 s.heap.size, s.heap) out ⟨B.exec, B.bytes, findClass_of_methodNamed B.named, fun w hw => hts w (List.mem_cons_of_mem _ hw), hK, fun q h => Or.inr h, hml, rfl, rfl, rfl, hG, rfl⟩ ?_ ho s.heap [] _ hP hD0.self va_S.rf (hlv ▸ zh_ent hlen)
  intro H locs pc ls d hP hD hS
  exact W.vret B.exec B.bytes B.returns (fun t ht hW => ⟨⟨(), rfl, trivial, by rw [ht]; exact hP, hD⟩, hS.F ht⟩) hS.2.2 d hlocks
end ZB
