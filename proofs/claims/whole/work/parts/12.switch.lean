section ZSW
variable {l : Launch} {D : va_G} {tA : Nat → ClassId} {own : String} {cc : ByteArray} {nL : Nat} {rm : Room} {X : ZX} {α β : Type} {out : α} {o o1 o2 : Option α} {ws ws' : va_W} {pc : Nat} {lv lv' : List (Option Value)} {st : List Value} {cA : ClassId} {n : Nat} {a : Addr}
theorem y_ifx {x c : Int32} (kt : x = c → zY X D out o1 ws pc lv st) (kf : ¬ x = c → zY X D out o2 ws pc lv st) : zY X D out (if x = c then o1 else o2) ws pc lv st := by
  intro h
  by_cases e : x = c
  · rw [if_pos e] at h
    exact kt e h
  · rw [if_neg e] at h
    exact kf e h
theorem y_tsI (F : zF l D tA own cc nL rm X) {x c : Int32} {dflt lo hi : Int} {offs : Array Int} {len : Nat} {tgt : Nat} (d : decode cc pc = .ok (.tableswitch dflt lo hi offs, len)) (hc : ¬ c.toInt < lo ∧ ¬ hi < c.toInt ∧ offs[(c.toInt - lo).toNat]? = some ((tgt : Int) - (pc : Int))) (ht : (pc : Int) + ((tgt : Int) - (pc : Int)) = (tgt : Int)) (kt : zY X D out o1 ws tgt lv st) (kf : ¬ x = c → zY X D out o2 ws pc lv (.int x :: st)) : zY X D out (if x = c then o1 else o2) ws pc lv (.int x :: st) :=
  y_ifx (fun e h H locs ls hP hD hS hl => lv_tableIn F.1 F.2.1 d (by rw [e]; exact hc.1) (by rw [e]; exact hc.2.1) (by rw [e]; exact hc.2.2) ht (kt h H locs ls hP hD hS hl)) kf
theorem y_tsD (F : zF l D tA own cc nL rm X) {x : Int32} {dflt lo hi : Int} {offs : Array Int} {len : Nat} {tgt : Nat} (d : decode cc pc = .ok (.tableswitch dflt lo hi offs, len)) (h0 : x.toInt < lo ∨ hi < x.toInt) (ht : (pc : Int) + dflt = (tgt : Int)) (k : zY X D out o ws tgt lv st) : zY X D out o ws pc lv (.int x :: st) :=
  fun h H locs ls hP hD hS hl => lv_tableOut F.1 F.2.1 d h0 ht (k h H locs ls hP hD hS hl)
theorem y_lsI (F : zF l D tA own cc nL rm X) {x c : Int32} {dflt : Int} {ps : Array (Int × Int)} {len : Nat} {tgt : Nat} (d : decode cc pc = .ok (.lookupswitch dflt ps, len)) (hp : (ps.toList.zip (ps.toList.drop 1)).all (fun (a, next) => a.1 < next.1) = true) (ho : x = c → Op.lookupswitch.offset ps.toList dflt x.toInt = (tgt : Int) - (pc : Int)) (ht : (pc : Int) + ((tgt : Int) - (pc : Int)) = (tgt : Int)) (kt : zY X D out o1 ws tgt lv st) (kf : ¬ x = c → zY X D out o2 ws pc lv (.int x :: st)) : zY X D out (if x = c then o1 else o2) ws pc lv (.int x :: st) :=
  y_ifx (fun e h H locs ls hP hD hS hl => lv_lookup F.1 F.2.1 d hp (ho e) ht (kt h H locs ls hP hD hS hl)) kf
theorem y_lsD (F : zF l D tA own cc nL rm X) {x : Int32} {dflt : Int} {ps : Array (Int × Int)} {len : Nat} {tgt : Nat} (d : decode cc pc = .ok (.lookupswitch dflt ps, len)) (hp : (ps.toList.zip (ps.toList.drop 1)).all (fun (a, next) => a.1 < next.1) = true) (ho : Op.lookupswitch.offset ps.toList dflt x.toInt = dflt) (ht : (pc : Int) + dflt = (tgt : Int)) (k : zY X D out o ws tgt lv st) : zY X D out o ws pc lv (.int x :: st) :=
  fun h H locs ls hP hD hS hl => lv_lookup F.1 F.2.1 d hp ho ht (k h H locs ls hP hD hS hl)
end ZSW
