section ZM
variable {l : Launch} {D : va_G} {tA : Nat → ClassId}
def WM (tA : Nat → ClassId) (q : Nat → Nat) (o : Ob) : va_W := [(q 0, .inr (11, [.int (gi o 0), .ref (q 1), .ref (q 2), .ref (q 3), .int (gi o 4), .ref (q 4), .ref (q 5), .ref (q 6), .int (gi o 8), .ref (q 7), .ref (q 8), .ref (q 9), .ref (q 10), .int (gi o 13), .int (gi o 14), .ref (q 11), .ref (q 12), .ref (q 13), .ref (q 14), .ref (q 15), .int (gi o 20), .ref (q 16), .int (gi o 22), .int (gi o 23), .int (gi o 24), .long (gl o 25), .int (gi o 26), .int (gi o 27), .int (gi o 28), .int (gi o 29), .ref (q 17), .ref (q 18), .ref (q 19), .int (gi o 33), .ref (q 20), .ref (q 21), .ref (q 22), .int (gi o 37), .ref (q 23), .ref (q 24), .int (gi o 40), .ref (q 25), .ref (q 26), .ref (q 27), .ref (q 28), .ref (q 29), .ref (q 30), .ref (q 31), .ref (q 32), .ref (q 33), .ref (q 34), .ref (q 35), .ref (q 36)])), (q 1, .inl (tA 0, (6, .inl (ga o 1)))), (q 2, .inl (tA 0, (6, .inl (ga o 2)))), (q 3, .inl (tA 0, (6, .inl (ga o 3)))), (q 4, .inl (tA 0, (12, .inl (ga o 5)))), (q 5, .inl (tA 0, (12, .inl (ga o 6)))), (q 6, .inl (tA 0, (12, .inl (ga o 7)))), (q 7, .inl (tA 0, (24, .inl (ga o 9)))), (q 8, .inl (tA 0, (12, .inl (ga o 10)))), (q 9, .inl (tA 0, (12, .inl (ga o 11)))), (q 10, .inl (tA 2, (12, .inl (ga o 12)))), (q 11, .inl (tA 0, (6, .inl (ga o 15)))), (q 12, .inl (tA 0, (6, .inl (ga o 16)))), (q 13, .inl (tA 0, (6, .inl (ga o 17)))), (q 14, .inl (tA 0, (2400, .inl (ga o 18)))), (q 15, .inl (tA 0, (2400, .inl (ga o 19)))), (q 16, .inl (tA 0, (500, .inl (ga o 21)))), (q 17, .inl (tA 0, (6, .inl (ga o 30)))), (q 18, .inl (tA 0, (6, .inl (ga o 31)))), (q 19, .inl (tA 0, (6, .inl (ga o 32)))), (q 20, .inl (tA 0, (12, .inl (ga o 34)))), (q 21, .inl (tA 0, (12, .inl (ga o 35)))), (q 22, .inl (tA 0, (12, .inl (ga o 36)))), (q 23, .inl (tA 0, (24, .inl (ga o 38)))), (q 24, .inl (tA 0, (6, .inl (ga o 39)))), (q 25, .inl (tA 0, (6, .inl (ga o 41)))), (q 26, .inl (tA 1, (64, .inr (.inl (gb o 42))))), (q 27, .inl (tA 1, (64, .inr (.inl (gb o 43))))), (q 28, .inl (tA 2, (12, .inl (ga o 44)))), (q 29, .inl (tA 1, (64, .inr (.inl (gb o 45))))), (q 30, .inl (tA 0, (6, .inl (ga o 46)))), (q 31, .inl (tA 0, (6, .inl (ga o 47)))), (q 32, .inl (tA 0, (360, .inl (ga o 48)))), (q 33, .inl (tA 0, (120, .inl (ga o 49)))), (q 34, .inl (tA 0, (4800, .inl (ga o 50)))), (q 35, .inl (tA 0, (4800, .inl (ga o 51)))), (q 36, .inl (tA 2, (2, .inl (ga o 52))))]
theorem WM_at0 {tA : Nat → ClassId} {q : Nat → Nat} {o : Ob} : (WM tA q o)[0]? = some (q 0, .inr (11, [.int (gi o 0), .ref (q 1), .ref (q 2), .ref (q 3), .int (gi o 4), .ref (q 4), .ref (q 5), .ref (q 6), .int (gi o 8), .ref (q 7), .ref (q 8), .ref (q 9), .ref (q 10), .int (gi o 13), .int (gi o 14), .ref (q 11), .ref (q 12), .ref (q 13), .ref (q 14), .ref (q 15), .int (gi o 20), .ref (q 16), .int (gi o 22), .int (gi o 23), .int (gi o 24), .long (gl o 25), .int (gi o 26), .int (gi o 27), .int (gi o 28), .int (gi o 29), .ref (q 17), .ref (q 18), .ref (q 19), .int (gi o 33), .ref (q 20), .ref (q 21), .ref (q 22), .int (gi o 37), .ref (q 23), .ref (q 24), .int (gi o 40), .ref (q 25), .ref (q 26), .ref (q 27), .ref (q 28), .ref (q 29), .ref (q 30), .ref (q 31), .ref (q 32), .ref (q 33), .ref (q 34), .ref (q 35), .ref (q 36)])) := rfl
theorem WM_pt0_0 {tA : Nat → ClassId} {q : Nat → Nat} {o : Ob} (v : Int32) : (WM tA q o).set 0 (q 0, .inr (11, List.set [.int (gi o 0), .ref (q 1), .ref (q 2), .ref (q 3), .int (gi o 4), .ref (q 4), .ref (q 5), .ref (q 6), .int (gi o 8), .ref (q 7), .ref (q 8), .ref (q 9), .ref (q 10), .int (gi o 13), .int (gi o 14), .ref (q 11), .ref (q 12), .ref (q 13), .ref (q 14), .ref (q 15), .int (gi o 20), .ref (q 16), .int (gi o 22), .int (gi o 23), .int (gi o 24), .long (gl o 25), .int (gi o 26), .int (gi o 27), .int (gi o 28), .int (gi o 29), .ref (q 17), .ref (q 18), .ref (q 19), .int (gi o 33), .ref (q 20), .ref (q 21), .ref (q 22), .int (gi o 37), .ref (q 23), .ref (q 24), .int (gi o 40), .ref (q 25), .ref (q 26), .ref (q 27), .ref (q 28), .ref (q 29), .ref (q 30), .ref (q 31), .ref (q 32), .ref (q 33), .ref (q 34), .ref (q 35), .ref (q 36)] 0 (.int v))) = WM tA q (si o 0 v) := rfl
theorem WM_pt0_4 {tA : Nat → ClassId} {q : Nat → Nat} {o : Ob} (v : Int32) : (WM tA q o).set 0 (q 0, .inr (11, List.set [.int (gi o 0), .ref (q 1), .ref (q 2), .ref (q 3), .int (gi o 4), .ref (q 4), .ref (q 5), .ref (q 6), .int (gi o 8), .ref (q 7), .ref (q 8), .ref (q 9), .ref (q 10), .int (gi o 13), .int (gi o 14), .ref (q 11), .ref (q 12), .ref (q 13), .ref (q 14), .ref (q 15), .int (gi o 20), .ref (q 16), .int (gi o 22), .int (gi o 23), .int (gi o 24), .long (gl o 25), .int (gi o 26), .int (gi o 27), .int (gi o 28), .int (gi o 29), .ref (q 17), .ref (q 18), .ref (q 19), .int (gi o 33), .ref (q 20), .ref (q 21), .ref (q 22), .int (gi o 37), .ref (q 23), .ref (q 24), .int (gi o 40), .ref (q 25), .ref (q 26), .ref (q 27), .ref (q 28), .ref (q 29), .ref (q 30), .ref (q 31), .ref (q 32), .ref (q 33), .ref (q 34), .ref (q 35), .ref (q 36)] 4 (.int v))) = WM tA q (si o 4 v) := rfl
theorem WM_pt0_8 {tA : Nat → ClassId} {q : Nat → Nat} {o : Ob} (v : Int32) : (WM tA q o).set 0 (q 0, .inr (11, List.set [.int (gi o 0), .ref (q 1), .ref (q 2), .ref (q 3), .int (gi o 4), .ref (q 4), .ref (q 5), .ref (q 6), .int (gi o 8), .ref (q 7), .ref (q 8), .ref (q 9), .ref (q 10), .int (gi o 13), .int (gi o 14), .ref (q 11), .ref (q 12), .ref (q 13), .ref (q 14), .ref (q 15), .int (gi o 20), .ref (q 16), .int (gi o 22), .int (gi o 23), .int (gi o 24), .long (gl o 25), .int (gi o 26), .int (gi o 27), .int (gi o 28), .int (gi o 29), .ref (q 17), .ref (q 18), .ref (q 19), .int (gi o 33), .ref (q 20), .ref (q 21), .ref (q 22), .int (gi o 37), .ref (q 23), .ref (q 24), .int (gi o 40), .ref (q 25), .ref (q 26), .ref (q 27), .ref (q 28), .ref (q 29), .ref (q 30), .ref (q 31), .ref (q 32), .ref (q 33), .ref (q 34), .ref (q 35), .ref (q 36)] 8 (.int v))) = WM tA q (si o 8 v) := rfl
theorem WM_pt0_13 {tA : Nat → ClassId} {q : Nat → Nat} {o : Ob} (v : Int32) : (WM tA q o).set 0 (q 0, .inr (11, List.set [.int (gi o 0), .ref (q 1), .ref (q 2), .ref (q 3), .int (gi o 4), .ref (q 4), .ref (q 5), .ref (q 6), .int (gi o 8), .ref (q 7), .ref (q 8), .ref (q 9), .ref (q 10), .int (gi o 13), .int (gi o 14), .ref (q 11), .ref (q 12), .ref (q 13), .ref (q 14), .ref (q 15), .int (gi o 20), .ref (q 16), .int (gi o 22), .int (gi o 23), .int (gi o 24), .long (gl o 25), .int (gi o 26), .int (gi o 27), .int (gi o 28), .int (gi o 29), .ref (q 17), .ref (q 18), .ref (q 19), .int (gi o 33), .ref (q 20), .ref (q 21), .ref (q 22), .int (gi o 37), .ref (q 23), .ref (q 24), .int (gi o 40), .ref (q 25), .ref (q 26), .ref (q 27), .ref (q 28), .ref (q 29), .ref (q 30), .ref (q 31), .ref (q 32), .ref (q 33), .ref (q 34), .ref (q 35), .ref (q 36)] 13 (.int v))) = WM tA q (si o 13 v) := rfl
theorem WM_pt0_14 {tA : Nat → ClassId} {q : Nat → Nat} {o : Ob} (v : Int32) : (WM tA q o).set 0 (q 0, .inr (11, List.set [.int (gi o 0), .ref (q 1), .ref (q 2), .ref (q 3), .int (gi o 4), .ref (q 4), .ref (q 5), .ref (q 6), .int (gi o 8), .ref (q 7), .ref (q 8), .ref (q 9), .ref (q 10), .int (gi o 13), .int (gi o 14), .ref (q 11), .ref (q 12), .ref (q 13), .ref (q 14), .ref (q 15), .int (gi o 20), .ref (q 16), .int (gi o 22), .int (gi o 23), .int (gi o 24), .long (gl o 25), .int (gi o 26), .int (gi o 27), .int (gi o 28), .int (gi o 29), .ref (q 17), .ref (q 18), .ref (q 19), .int (gi o 33), .ref (q 20), .ref (q 21), .ref (q 22), .int (gi o 37), .ref (q 23), .ref (q 24), .int (gi o 40), .ref (q 25), .ref (q 26), .ref (q 27), .ref (q 28), .ref (q 29), .ref (q 30), .ref (q 31), .ref (q 32), .ref (q 33), .ref (q 34), .ref (q 35), .ref (q 36)] 14 (.int v))) = WM tA q (si o 14 v) := rfl
theorem WM_pt0_20 {tA : Nat → ClassId} {q : Nat → Nat} {o : Ob} (v : Int32) : (WM tA q o).set 0 (q 0, .inr (11, List.set [.int (gi o 0), .ref (q 1), .ref (q 2), .ref (q 3), .int (gi o 4), .ref (q 4), .ref (q 5), .ref (q 6), .int (gi o 8), .ref (q 7), .ref (q 8), .ref (q 9), .ref (q 10), .int (gi o 13), .int (gi o 14), .ref (q 11), .ref (q 12), .ref (q 13), .ref (q 14), .ref (q 15), .int (gi o 20), .ref (q 16), .int (gi o 22), .int (gi o 23), .int (gi o 24), .long (gl o 25), .int (gi o 26), .int (gi o 27), .int (gi o 28), .int (gi o 29), .ref (q 17), .ref (q 18), .ref (q 19), .int (gi o 33), .ref (q 20), .ref (q 21), .ref (q 22), .int (gi o 37), .ref (q 23), .ref (q 24), .int (gi o 40), .ref (q 25), .ref (q 26), .ref (q 27), .ref (q 28), .ref (q 29), .ref (q 30), .ref (q 31), .ref (q 32), .ref (q 33), .ref (q 34), .ref (q 35), .ref (q 36)] 20 (.int v))) = WM tA q (si o 20 v) := rfl
theorem WM_pt0_22 {tA : Nat → ClassId} {q : Nat → Nat} {o : Ob} (v : Int32) : (WM tA q o).set 0 (q 0, .inr (11, List.set [.int (gi o 0), .ref (q 1), .ref (q 2), .ref (q 3), .int (gi o 4), .ref (q 4), .ref (q 5), .ref (q 6), .int (gi o 8), .ref (q 7), .ref (q 8), .ref (q 9), .ref (q 10), .int (gi o 13), .int (gi o 14), .ref (q 11), .ref (q 12), .ref (q 13), .ref (q 14), .ref (q 15), .int (gi o 20), .ref (q 16), .int (gi o 22), .int (gi o 23), .int (gi o 24), .long (gl o 25), .int (gi o 26), .int (gi o 27), .int (gi o 28), .int (gi o 29), .ref (q 17), .ref (q 18), .ref (q 19), .int (gi o 33), .ref (q 20), .ref (q 21), .ref (q 22), .int (gi o 37), .ref (q 23), .ref (q 24), .int (gi o 40), .ref (q 25), .ref (q 26), .ref (q 27), .ref (q 28), .ref (q 29), .ref (q 30), .ref (q 31), .ref (q 32), .ref (q 33), .ref (q 34), .ref (q 35), .ref (q 36)] 22 (.int v))) = WM tA q (si o 22 v) := rfl
theorem WM_pt0_23 {tA : Nat → ClassId} {q : Nat → Nat} {o : Ob} (v : Int32) : (WM tA q o).set 0 (q 0, .inr (11, List.set [.int (gi o 0), .ref (q 1), .ref (q 2), .ref (q 3), .int (gi o 4), .ref (q 4), .ref (q 5), .ref (q 6), .int (gi o 8), .ref (q 7), .ref (q 8), .ref (q 9), .ref (q 10), .int (gi o 13), .int (gi o 14), .ref (q 11), .ref (q 12), .ref (q 13), .ref (q 14), .ref (q 15), .int (gi o 20), .ref (q 16), .int (gi o 22), .int (gi o 23), .int (gi o 24), .long (gl o 25), .int (gi o 26), .int (gi o 27), .int (gi o 28), .int (gi o 29), .ref (q 17), .ref (q 18), .ref (q 19), .int (gi o 33), .ref (q 20), .ref (q 21), .ref (q 22), .int (gi o 37), .ref (q 23), .ref (q 24), .int (gi o 40), .ref (q 25), .ref (q 26), .ref (q 27), .ref (q 28), .ref (q 29), .ref (q 30), .ref (q 31), .ref (q 32), .ref (q 33), .ref (q 34), .ref (q 35), .ref (q 36)] 23 (.int v))) = WM tA q (si o 23 v) := rfl
theorem WM_pt0_24 {tA : Nat → ClassId} {q : Nat → Nat} {o : Ob} (v : Int32) : (WM tA q o).set 0 (q 0, .inr (11, List.set [.int (gi o 0), .ref (q 1), .ref (q 2), .ref (q 3), .int (gi o 4), .ref (q 4), .ref (q 5), .ref (q 6), .int (gi o 8), .ref (q 7), .ref (q 8), .ref (q 9), .ref (q 10), .int (gi o 13), .int (gi o 14), .ref (q 11), .ref (q 12), .ref (q 13), .ref (q 14), .ref (q 15), .int (gi o 20), .ref (q 16), .int (gi o 22), .int (gi o 23), .int (gi o 24), .long (gl o 25), .int (gi o 26), .int (gi o 27), .int (gi o 28), .int (gi o 29), .ref (q 17), .ref (q 18), .ref (q 19), .int (gi o 33), .ref (q 20), .ref (q 21), .ref (q 22), .int (gi o 37), .ref (q 23), .ref (q 24), .int (gi o 40), .ref (q 25), .ref (q 26), .ref (q 27), .ref (q 28), .ref (q 29), .ref (q 30), .ref (q 31), .ref (q 32), .ref (q 33), .ref (q 34), .ref (q 35), .ref (q 36)] 24 (.int v))) = WM tA q (si o 24 v) := rfl
theorem WM_pt0_25 {tA : Nat → ClassId} {q : Nat → Nat} {o : Ob} (v : Int64) : (WM tA q o).set 0 (q 0, .inr (11, List.set [.int (gi o 0), .ref (q 1), .ref (q 2), .ref (q 3), .int (gi o 4), .ref (q 4), .ref (q 5), .ref (q 6), .int (gi o 8), .ref (q 7), .ref (q 8), .ref (q 9), .ref (q 10), .int (gi o 13), .int (gi o 14), .ref (q 11), .ref (q 12), .ref (q 13), .ref (q 14), .ref (q 15), .int (gi o 20), .ref (q 16), .int (gi o 22), .int (gi o 23), .int (gi o 24), .long (gl o 25), .int (gi o 26), .int (gi o 27), .int (gi o 28), .int (gi o 29), .ref (q 17), .ref (q 18), .ref (q 19), .int (gi o 33), .ref (q 20), .ref (q 21), .ref (q 22), .int (gi o 37), .ref (q 23), .ref (q 24), .int (gi o 40), .ref (q 25), .ref (q 26), .ref (q 27), .ref (q 28), .ref (q 29), .ref (q 30), .ref (q 31), .ref (q 32), .ref (q 33), .ref (q 34), .ref (q 35), .ref (q 36)] 25 (.long v))) = WM tA q (sl o 25 v) := rfl
theorem WM_pt0_26 {tA : Nat → ClassId} {q : Nat → Nat} {o : Ob} (v : Int32) : (WM tA q o).set 0 (q 0, .inr (11, List.set [.int (gi o 0), .ref (q 1), .ref (q 2), .ref (q 3), .int (gi o 4), .ref (q 4), .ref (q 5), .ref (q 6), .int (gi o 8), .ref (q 7), .ref (q 8), .ref (q 9), .ref (q 10), .int (gi o 13), .int (gi o 14), .ref (q 11), .ref (q 12), .ref (q 13), .ref (q 14), .ref (q 15), .int (gi o 20), .ref (q 16), .int (gi o 22), .int (gi o 23), .int (gi o 24), .long (gl o 25), .int (gi o 26), .int (gi o 27), .int (gi o 28), .int (gi o 29), .ref (q 17), .ref (q 18), .ref (q 19), .int (gi o 33), .ref (q 20), .ref (q 21), .ref (q 22), .int (gi o 37), .ref (q 23), .ref (q 24), .int (gi o 40), .ref (q 25), .ref (q 26), .ref (q 27), .ref (q 28), .ref (q 29), .ref (q 30), .ref (q 31), .ref (q 32), .ref (q 33), .ref (q 34), .ref (q 35), .ref (q 36)] 26 (.int v))) = WM tA q (si o 26 v) := rfl
theorem WM_pt0_27 {tA : Nat → ClassId} {q : Nat → Nat} {o : Ob} (v : Int32) : (WM tA q o).set 0 (q 0, .inr (11, List.set [.int (gi o 0), .ref (q 1), .ref (q 2), .ref (q 3), .int (gi o 4), .ref (q 4), .ref (q 5), .ref (q 6), .int (gi o 8), .ref (q 7), .ref (q 8), .ref (q 9), .ref (q 10), .int (gi o 13), .int (gi o 14), .ref (q 11), .ref (q 12), .ref (q 13), .ref (q 14), .ref (q 15), .int (gi o 20), .ref (q 16), .int (gi o 22), .int (gi o 23), .int (gi o 24), .long (gl o 25), .int (gi o 26), .int (gi o 27), .int (gi o 28), .int (gi o 29), .ref (q 17), .ref (q 18), .ref (q 19), .int (gi o 33), .ref (q 20), .ref (q 21), .ref (q 22), .int (gi o 37), .ref (q 23), .ref (q 24), .int (gi o 40), .ref (q 25), .ref (q 26), .ref (q 27), .ref (q 28), .ref (q 29), .ref (q 30), .ref (q 31), .ref (q 32), .ref (q 33), .ref (q 34), .ref (q 35), .ref (q 36)] 27 (.int v))) = WM tA q (si o 27 v) := rfl
theorem WM_pt0_28 {tA : Nat → ClassId} {q : Nat → Nat} {o : Ob} (v : Int32) : (WM tA q o).set 0 (q 0, .inr (11, List.set [.int (gi o 0), .ref (q 1), .ref (q 2), .ref (q 3), .int (gi o 4), .ref (q 4), .ref (q 5), .ref (q 6), .int (gi o 8), .ref (q 7), .ref (q 8), .ref (q 9), .ref (q 10), .int (gi o 13), .int (gi o 14), .ref (q 11), .ref (q 12), .ref (q 13), .ref (q 14), .ref (q 15), .int (gi o 20), .ref (q 16), .int (gi o 22), .int (gi o 23), .int (gi o 24), .long (gl o 25), .int (gi o 26), .int (gi o 27), .int (gi o 28), .int (gi o 29), .ref (q 17), .ref (q 18), .ref (q 19), .int (gi o 33), .ref (q 20), .ref (q 21), .ref (q 22), .int (gi o 37), .ref (q 23), .ref (q 24), .int (gi o 40), .ref (q 25), .ref (q 26), .ref (q 27), .ref (q 28), .ref (q 29), .ref (q 30), .ref (q 31), .ref (q 32), .ref (q 33), .ref (q 34), .ref (q 35), .ref (q 36)] 28 (.int v))) = WM tA q (si o 28 v) := rfl
theorem WM_pt0_29 {tA : Nat → ClassId} {q : Nat → Nat} {o : Ob} (v : Int32) : (WM tA q o).set 0 (q 0, .inr (11, List.set [.int (gi o 0), .ref (q 1), .ref (q 2), .ref (q 3), .int (gi o 4), .ref (q 4), .ref (q 5), .ref (q 6), .int (gi o 8), .ref (q 7), .ref (q 8), .ref (q 9), .ref (q 10), .int (gi o 13), .int (gi o 14), .ref (q 11), .ref (q 12), .ref (q 13), .ref (q 14), .ref (q 15), .int (gi o 20), .ref (q 16), .int (gi o 22), .int (gi o 23), .int (gi o 24), .long (gl o 25), .int (gi o 26), .int (gi o 27), .int (gi o 28), .int (gi o 29), .ref (q 17), .ref (q 18), .ref (q 19), .int (gi o 33), .ref (q 20), .ref (q 21), .ref (q 22), .int (gi o 37), .ref (q 23), .ref (q 24), .int (gi o 40), .ref (q 25), .ref (q 26), .ref (q 27), .ref (q 28), .ref (q 29), .ref (q 30), .ref (q 31), .ref (q 32), .ref (q 33), .ref (q 34), .ref (q 35), .ref (q 36)] 29 (.int v))) = WM tA q (si o 29 v) := rfl
theorem WM_pt0_33 {tA : Nat → ClassId} {q : Nat → Nat} {o : Ob} (v : Int32) : (WM tA q o).set 0 (q 0, .inr (11, List.set [.int (gi o 0), .ref (q 1), .ref (q 2), .ref (q 3), .int (gi o 4), .ref (q 4), .ref (q 5), .ref (q 6), .int (gi o 8), .ref (q 7), .ref (q 8), .ref (q 9), .ref (q 10), .int (gi o 13), .int (gi o 14), .ref (q 11), .ref (q 12), .ref (q 13), .ref (q 14), .ref (q 15), .int (gi o 20), .ref (q 16), .int (gi o 22), .int (gi o 23), .int (gi o 24), .long (gl o 25), .int (gi o 26), .int (gi o 27), .int (gi o 28), .int (gi o 29), .ref (q 17), .ref (q 18), .ref (q 19), .int (gi o 33), .ref (q 20), .ref (q 21), .ref (q 22), .int (gi o 37), .ref (q 23), .ref (q 24), .int (gi o 40), .ref (q 25), .ref (q 26), .ref (q 27), .ref (q 28), .ref (q 29), .ref (q 30), .ref (q 31), .ref (q 32), .ref (q 33), .ref (q 34), .ref (q 35), .ref (q 36)] 33 (.int v))) = WM tA q (si o 33 v) := rfl
theorem WM_pt0_37 {tA : Nat → ClassId} {q : Nat → Nat} {o : Ob} (v : Int32) : (WM tA q o).set 0 (q 0, .inr (11, List.set [.int (gi o 0), .ref (q 1), .ref (q 2), .ref (q 3), .int (gi o 4), .ref (q 4), .ref (q 5), .ref (q 6), .int (gi o 8), .ref (q 7), .ref (q 8), .ref (q 9), .ref (q 10), .int (gi o 13), .int (gi o 14), .ref (q 11), .ref (q 12), .ref (q 13), .ref (q 14), .ref (q 15), .int (gi o 20), .ref (q 16), .int (gi o 22), .int (gi o 23), .int (gi o 24), .long (gl o 25), .int (gi o 26), .int (gi o 27), .int (gi o 28), .int (gi o 29), .ref (q 17), .ref (q 18), .ref (q 19), .int (gi o 33), .ref (q 20), .ref (q 21), .ref (q 22), .int (gi o 37), .ref (q 23), .ref (q 24), .int (gi o 40), .ref (q 25), .ref (q 26), .ref (q 27), .ref (q 28), .ref (q 29), .ref (q 30), .ref (q 31), .ref (q 32), .ref (q 33), .ref (q 34), .ref (q 35), .ref (q 36)] 37 (.int v))) = WM tA q (si o 37 v) := rfl
theorem WM_pt0_40 {tA : Nat → ClassId} {q : Nat → Nat} {o : Ob} (v : Int32) : (WM tA q o).set 0 (q 0, .inr (11, List.set [.int (gi o 0), .ref (q 1), .ref (q 2), .ref (q 3), .int (gi o 4), .ref (q 4), .ref (q 5), .ref (q 6), .int (gi o 8), .ref (q 7), .ref (q 8), .ref (q 9), .ref (q 10), .int (gi o 13), .int (gi o 14), .ref (q 11), .ref (q 12), .ref (q 13), .ref (q 14), .ref (q 15), .int (gi o 20), .ref (q 16), .int (gi o 22), .int (gi o 23), .int (gi o 24), .long (gl o 25), .int (gi o 26), .int (gi o 27), .int (gi o 28), .int (gi o 29), .ref (q 17), .ref (q 18), .ref (q 19), .int (gi o 33), .ref (q 20), .ref (q 21), .ref (q 22), .int (gi o 37), .ref (q 23), .ref (q 24), .int (gi o 40), .ref (q 25), .ref (q 26), .ref (q 27), .ref (q 28), .ref (q 29), .ref (q 30), .ref (q 31), .ref (q 32), .ref (q 33), .ref (q 34), .ref (q 35), .ref (q 36)] 40 (.int v))) = WM tA q (si o 40 v) := rfl
theorem WM_at1 {tA : Nat → ClassId} {q : Nat → Nat} {o : Ob} : (WM tA q o)[1]? = some (q 1, .inl (tA 0, (6, .inl (ga o 1)))) := rfl
theorem WM_ar1 {tA : Nat → ClassId} {q : Nat → Nat} {o : Ob} (f : Nat → Int32) : (WM tA q o).set 1 (q 1, .inl (tA 0, (6, .inl f))) = WM tA q (sa o 1 f) := rfl
theorem WM_at2 {tA : Nat → ClassId} {q : Nat → Nat} {o : Ob} : (WM tA q o)[2]? = some (q 2, .inl (tA 0, (6, .inl (ga o 2)))) := rfl
theorem WM_ar2 {tA : Nat → ClassId} {q : Nat → Nat} {o : Ob} (f : Nat → Int32) : (WM tA q o).set 2 (q 2, .inl (tA 0, (6, .inl f))) = WM tA q (sa o 2 f) := rfl
theorem WM_at3 {tA : Nat → ClassId} {q : Nat → Nat} {o : Ob} : (WM tA q o)[3]? = some (q 3, .inl (tA 0, (6, .inl (ga o 3)))) := rfl
theorem WM_ar3 {tA : Nat → ClassId} {q : Nat → Nat} {o : Ob} (f : Nat → Int32) : (WM tA q o).set 3 (q 3, .inl (tA 0, (6, .inl f))) = WM tA q (sa o 3 f) := rfl
theorem WM_at4 {tA : Nat → ClassId} {q : Nat → Nat} {o : Ob} : (WM tA q o)[4]? = some (q 4, .inl (tA 0, (12, .inl (ga o 5)))) := rfl
theorem WM_ar4 {tA : Nat → ClassId} {q : Nat → Nat} {o : Ob} (f : Nat → Int32) : (WM tA q o).set 4 (q 4, .inl (tA 0, (12, .inl f))) = WM tA q (sa o 5 f) := rfl
theorem WM_at5 {tA : Nat → ClassId} {q : Nat → Nat} {o : Ob} : (WM tA q o)[5]? = some (q 5, .inl (tA 0, (12, .inl (ga o 6)))) := rfl
theorem WM_ar5 {tA : Nat → ClassId} {q : Nat → Nat} {o : Ob} (f : Nat → Int32) : (WM tA q o).set 5 (q 5, .inl (tA 0, (12, .inl f))) = WM tA q (sa o 6 f) := rfl
theorem WM_at6 {tA : Nat → ClassId} {q : Nat → Nat} {o : Ob} : (WM tA q o)[6]? = some (q 6, .inl (tA 0, (12, .inl (ga o 7)))) := rfl
theorem WM_ar6 {tA : Nat → ClassId} {q : Nat → Nat} {o : Ob} (f : Nat → Int32) : (WM tA q o).set 6 (q 6, .inl (tA 0, (12, .inl f))) = WM tA q (sa o 7 f) := rfl
theorem WM_at7 {tA : Nat → ClassId} {q : Nat → Nat} {o : Ob} : (WM tA q o)[7]? = some (q 7, .inl (tA 0, (24, .inl (ga o 9)))) := rfl
theorem WM_ar7 {tA : Nat → ClassId} {q : Nat → Nat} {o : Ob} (f : Nat → Int32) : (WM tA q o).set 7 (q 7, .inl (tA 0, (24, .inl f))) = WM tA q (sa o 9 f) := rfl
theorem WM_at8 {tA : Nat → ClassId} {q : Nat → Nat} {o : Ob} : (WM tA q o)[8]? = some (q 8, .inl (tA 0, (12, .inl (ga o 10)))) := rfl
theorem WM_ar8 {tA : Nat → ClassId} {q : Nat → Nat} {o : Ob} (f : Nat → Int32) : (WM tA q o).set 8 (q 8, .inl (tA 0, (12, .inl f))) = WM tA q (sa o 10 f) := rfl
theorem WM_at9 {tA : Nat → ClassId} {q : Nat → Nat} {o : Ob} : (WM tA q o)[9]? = some (q 9, .inl (tA 0, (12, .inl (ga o 11)))) := rfl
theorem WM_ar9 {tA : Nat → ClassId} {q : Nat → Nat} {o : Ob} (f : Nat → Int32) : (WM tA q o).set 9 (q 9, .inl (tA 0, (12, .inl f))) = WM tA q (sa o 11 f) := rfl
theorem WM_at10 {tA : Nat → ClassId} {q : Nat → Nat} {o : Ob} : (WM tA q o)[10]? = some (q 10, .inl (tA 2, (12, .inl (ga o 12)))) := rfl
theorem WM_ar10 {tA : Nat → ClassId} {q : Nat → Nat} {o : Ob} (f : Nat → Int32) : (WM tA q o).set 10 (q 10, .inl (tA 2, (12, .inl f))) = WM tA q (sa o 12 f) := rfl
theorem WM_at11 {tA : Nat → ClassId} {q : Nat → Nat} {o : Ob} : (WM tA q o)[11]? = some (q 11, .inl (tA 0, (6, .inl (ga o 15)))) := rfl
theorem WM_ar11 {tA : Nat → ClassId} {q : Nat → Nat} {o : Ob} (f : Nat → Int32) : (WM tA q o).set 11 (q 11, .inl (tA 0, (6, .inl f))) = WM tA q (sa o 15 f) := rfl
theorem WM_at12 {tA : Nat → ClassId} {q : Nat → Nat} {o : Ob} : (WM tA q o)[12]? = some (q 12, .inl (tA 0, (6, .inl (ga o 16)))) := rfl
theorem WM_ar12 {tA : Nat → ClassId} {q : Nat → Nat} {o : Ob} (f : Nat → Int32) : (WM tA q o).set 12 (q 12, .inl (tA 0, (6, .inl f))) = WM tA q (sa o 16 f) := rfl
theorem WM_at13 {tA : Nat → ClassId} {q : Nat → Nat} {o : Ob} : (WM tA q o)[13]? = some (q 13, .inl (tA 0, (6, .inl (ga o 17)))) := rfl
theorem WM_ar13 {tA : Nat → ClassId} {q : Nat → Nat} {o : Ob} (f : Nat → Int32) : (WM tA q o).set 13 (q 13, .inl (tA 0, (6, .inl f))) = WM tA q (sa o 17 f) := rfl
theorem WM_at14 {tA : Nat → ClassId} {q : Nat → Nat} {o : Ob} : (WM tA q o)[14]? = some (q 14, .inl (tA 0, (2400, .inl (ga o 18)))) := rfl
theorem WM_ar14 {tA : Nat → ClassId} {q : Nat → Nat} {o : Ob} (f : Nat → Int32) : (WM tA q o).set 14 (q 14, .inl (tA 0, (2400, .inl f))) = WM tA q (sa o 18 f) := rfl
theorem WM_at15 {tA : Nat → ClassId} {q : Nat → Nat} {o : Ob} : (WM tA q o)[15]? = some (q 15, .inl (tA 0, (2400, .inl (ga o 19)))) := rfl
theorem WM_ar15 {tA : Nat → ClassId} {q : Nat → Nat} {o : Ob} (f : Nat → Int32) : (WM tA q o).set 15 (q 15, .inl (tA 0, (2400, .inl f))) = WM tA q (sa o 19 f) := rfl
theorem WM_at16 {tA : Nat → ClassId} {q : Nat → Nat} {o : Ob} : (WM tA q o)[16]? = some (q 16, .inl (tA 0, (500, .inl (ga o 21)))) := rfl
theorem WM_ar16 {tA : Nat → ClassId} {q : Nat → Nat} {o : Ob} (f : Nat → Int32) : (WM tA q o).set 16 (q 16, .inl (tA 0, (500, .inl f))) = WM tA q (sa o 21 f) := rfl
theorem WM_at17 {tA : Nat → ClassId} {q : Nat → Nat} {o : Ob} : (WM tA q o)[17]? = some (q 17, .inl (tA 0, (6, .inl (ga o 30)))) := rfl
theorem WM_ar17 {tA : Nat → ClassId} {q : Nat → Nat} {o : Ob} (f : Nat → Int32) : (WM tA q o).set 17 (q 17, .inl (tA 0, (6, .inl f))) = WM tA q (sa o 30 f) := rfl
theorem WM_at18 {tA : Nat → ClassId} {q : Nat → Nat} {o : Ob} : (WM tA q o)[18]? = some (q 18, .inl (tA 0, (6, .inl (ga o 31)))) := rfl
theorem WM_ar18 {tA : Nat → ClassId} {q : Nat → Nat} {o : Ob} (f : Nat → Int32) : (WM tA q o).set 18 (q 18, .inl (tA 0, (6, .inl f))) = WM tA q (sa o 31 f) := rfl
theorem WM_at19 {tA : Nat → ClassId} {q : Nat → Nat} {o : Ob} : (WM tA q o)[19]? = some (q 19, .inl (tA 0, (6, .inl (ga o 32)))) := rfl
theorem WM_ar19 {tA : Nat → ClassId} {q : Nat → Nat} {o : Ob} (f : Nat → Int32) : (WM tA q o).set 19 (q 19, .inl (tA 0, (6, .inl f))) = WM tA q (sa o 32 f) := rfl
theorem WM_at20 {tA : Nat → ClassId} {q : Nat → Nat} {o : Ob} : (WM tA q o)[20]? = some (q 20, .inl (tA 0, (12, .inl (ga o 34)))) := rfl
theorem WM_ar20 {tA : Nat → ClassId} {q : Nat → Nat} {o : Ob} (f : Nat → Int32) : (WM tA q o).set 20 (q 20, .inl (tA 0, (12, .inl f))) = WM tA q (sa o 34 f) := rfl
theorem WM_at21 {tA : Nat → ClassId} {q : Nat → Nat} {o : Ob} : (WM tA q o)[21]? = some (q 21, .inl (tA 0, (12, .inl (ga o 35)))) := rfl
theorem WM_ar21 {tA : Nat → ClassId} {q : Nat → Nat} {o : Ob} (f : Nat → Int32) : (WM tA q o).set 21 (q 21, .inl (tA 0, (12, .inl f))) = WM tA q (sa o 35 f) := rfl
theorem WM_at22 {tA : Nat → ClassId} {q : Nat → Nat} {o : Ob} : (WM tA q o)[22]? = some (q 22, .inl (tA 0, (12, .inl (ga o 36)))) := rfl
theorem WM_ar22 {tA : Nat → ClassId} {q : Nat → Nat} {o : Ob} (f : Nat → Int32) : (WM tA q o).set 22 (q 22, .inl (tA 0, (12, .inl f))) = WM tA q (sa o 36 f) := rfl
theorem WM_at23 {tA : Nat → ClassId} {q : Nat → Nat} {o : Ob} : (WM tA q o)[23]? = some (q 23, .inl (tA 0, (24, .inl (ga o 38)))) := rfl
theorem WM_ar23 {tA : Nat → ClassId} {q : Nat → Nat} {o : Ob} (f : Nat → Int32) : (WM tA q o).set 23 (q 23, .inl (tA 0, (24, .inl f))) = WM tA q (sa o 38 f) := rfl
theorem WM_at24 {tA : Nat → ClassId} {q : Nat → Nat} {o : Ob} : (WM tA q o)[24]? = some (q 24, .inl (tA 0, (6, .inl (ga o 39)))) := rfl
theorem WM_ar24 {tA : Nat → ClassId} {q : Nat → Nat} {o : Ob} (f : Nat → Int32) : (WM tA q o).set 24 (q 24, .inl (tA 0, (6, .inl f))) = WM tA q (sa o 39 f) := rfl
theorem WM_at25 {tA : Nat → ClassId} {q : Nat → Nat} {o : Ob} : (WM tA q o)[25]? = some (q 25, .inl (tA 0, (6, .inl (ga o 41)))) := rfl
theorem WM_ar25 {tA : Nat → ClassId} {q : Nat → Nat} {o : Ob} (f : Nat → Int32) : (WM tA q o).set 25 (q 25, .inl (tA 0, (6, .inl f))) = WM tA q (sa o 41 f) := rfl
theorem WM_at26 {tA : Nat → ClassId} {q : Nat → Nat} {o : Ob} : (WM tA q o)[26]? = some (q 26, .inl (tA 1, (64, .inr (.inl (gb o 42))))) := rfl
theorem WM_ar26 {tA : Nat → ClassId} {q : Nat → Nat} {o : Ob} (f : Nat → Int64) : (WM tA q o).set 26 (q 26, .inl (tA 1, (64, .inr (.inl f)))) = WM tA q (sb o 42 f) := rfl
theorem WM_at27 {tA : Nat → ClassId} {q : Nat → Nat} {o : Ob} : (WM tA q o)[27]? = some (q 27, .inl (tA 1, (64, .inr (.inl (gb o 43))))) := rfl
theorem WM_ar27 {tA : Nat → ClassId} {q : Nat → Nat} {o : Ob} (f : Nat → Int64) : (WM tA q o).set 27 (q 27, .inl (tA 1, (64, .inr (.inl f)))) = WM tA q (sb o 43 f) := rfl
theorem WM_at28 {tA : Nat → ClassId} {q : Nat → Nat} {o : Ob} : (WM tA q o)[28]? = some (q 28, .inl (tA 2, (12, .inl (ga o 44)))) := rfl
theorem WM_ar28 {tA : Nat → ClassId} {q : Nat → Nat} {o : Ob} (f : Nat → Int32) : (WM tA q o).set 28 (q 28, .inl (tA 2, (12, .inl f))) = WM tA q (sa o 44 f) := rfl
theorem WM_at29 {tA : Nat → ClassId} {q : Nat → Nat} {o : Ob} : (WM tA q o)[29]? = some (q 29, .inl (tA 1, (64, .inr (.inl (gb o 45))))) := rfl
theorem WM_ar29 {tA : Nat → ClassId} {q : Nat → Nat} {o : Ob} (f : Nat → Int64) : (WM tA q o).set 29 (q 29, .inl (tA 1, (64, .inr (.inl f)))) = WM tA q (sb o 45 f) := rfl
theorem WM_at30 {tA : Nat → ClassId} {q : Nat → Nat} {o : Ob} : (WM tA q o)[30]? = some (q 30, .inl (tA 0, (6, .inl (ga o 46)))) := rfl
theorem WM_ar30 {tA : Nat → ClassId} {q : Nat → Nat} {o : Ob} (f : Nat → Int32) : (WM tA q o).set 30 (q 30, .inl (tA 0, (6, .inl f))) = WM tA q (sa o 46 f) := rfl
theorem WM_at31 {tA : Nat → ClassId} {q : Nat → Nat} {o : Ob} : (WM tA q o)[31]? = some (q 31, .inl (tA 0, (6, .inl (ga o 47)))) := rfl
theorem WM_ar31 {tA : Nat → ClassId} {q : Nat → Nat} {o : Ob} (f : Nat → Int32) : (WM tA q o).set 31 (q 31, .inl (tA 0, (6, .inl f))) = WM tA q (sa o 47 f) := rfl
theorem WM_at32 {tA : Nat → ClassId} {q : Nat → Nat} {o : Ob} : (WM tA q o)[32]? = some (q 32, .inl (tA 0, (360, .inl (ga o 48)))) := rfl
theorem WM_ar32 {tA : Nat → ClassId} {q : Nat → Nat} {o : Ob} (f : Nat → Int32) : (WM tA q o).set 32 (q 32, .inl (tA 0, (360, .inl f))) = WM tA q (sa o 48 f) := rfl
theorem WM_at33 {tA : Nat → ClassId} {q : Nat → Nat} {o : Ob} : (WM tA q o)[33]? = some (q 33, .inl (tA 0, (120, .inl (ga o 49)))) := rfl
theorem WM_ar33 {tA : Nat → ClassId} {q : Nat → Nat} {o : Ob} (f : Nat → Int32) : (WM tA q o).set 33 (q 33, .inl (tA 0, (120, .inl f))) = WM tA q (sa o 49 f) := rfl
theorem WM_at34 {tA : Nat → ClassId} {q : Nat → Nat} {o : Ob} : (WM tA q o)[34]? = some (q 34, .inl (tA 0, (4800, .inl (ga o 50)))) := rfl
theorem WM_ar34 {tA : Nat → ClassId} {q : Nat → Nat} {o : Ob} (f : Nat → Int32) : (WM tA q o).set 34 (q 34, .inl (tA 0, (4800, .inl f))) = WM tA q (sa o 50 f) := rfl
theorem WM_at35 {tA : Nat → ClassId} {q : Nat → Nat} {o : Ob} : (WM tA q o)[35]? = some (q 35, .inl (tA 0, (4800, .inl (ga o 51)))) := rfl
theorem WM_ar35 {tA : Nat → ClassId} {q : Nat → Nat} {o : Ob} (f : Nat → Int32) : (WM tA q o).set 35 (q 35, .inl (tA 0, (4800, .inl f))) = WM tA q (sa o 51 f) := rfl
theorem WM_at36 {tA : Nat → ClassId} {q : Nat → Nat} {o : Ob} : (WM tA q o)[36]? = some (q 36, .inl (tA 2, (2, .inl (ga o 52)))) := rfl
theorem WM_ar36 {tA : Nat → ClassId} {q : Nat → Nat} {o : Ob} (f : Nat → Int32) : (WM tA q o).set 36 (q 36, .inl (tA 2, (2, .inl f))) = WM tA q (sa o 52 f) := rfl
abbrev rmX11_in : Room := { frames := 0, cells := 0, slots := 0, locals := 0 }
def pX11_in (a0 : Int64) (a2 : Int64) (a4 : Int64) : Option Int32 :=
  if a0 < a2 then (zgz (0 : Int32) (some (0 : Int32)))
  else (if a4 < a0 then (zgz (0 : Int32) (some (0 : Int32)))
  else (zgz (1 : Int32) (some (1 : Int32))))
set_option maxHeartbeats 4000000 in
set_option maxRecDepth 100000 in
theorem c_X11_in {q : Nat → Nat} (a0 : Int64) (a2 : Int64) (a4 : Int64) : zCi l D tA yX11_in cX11_in 6 .boolean rmX11_in [.long a0, .long a2, .long a4] [] (fun (r : Int32) => r) (fun (r : Int32) => []) (pX11_in a0 a2 a4) := by
  refine zCi_of (lv0 := [some (.long a0), none, some (.long a2), none, some (.long a4), none]) (by decide +kernel) (Nat.le_of_ble_eq_true rfl) rfl (fun X out F hr => ?_)
  unfold pX11_in
  refine y_lload_n (pc := 0) F dX11_in_0 rfl ?_
  refine y_lload_n (pc := 1) F dX11_in_1 rfl ?_
  refine y_lcmp_lt (pc := 2) (tgt := 17) F dX11_in_2 dX11_in_3 rfl ?_ ?_
  · refine y_iconst (v := 0) (pc := 17) F dX11_in_17 rfl ?_
    exact y_zret hr dX11_in_18 rfl rfl
  · refine y_lload_n (pc := 6) F dX11_in_6 rfl ?_
    refine y_lload (pc := 7) F dX11_in_7 rfl ?_
    refine y_lcmp_gt (pc := 9) (tgt := 17) F dX11_in_9 dX11_in_10 rfl ?_ ?_
    · refine y_iconst (v := 0) (pc := 17) F dX11_in_17 rfl ?_
      exact y_zret hr dX11_in_18 rfl rfl
    · refine y_iconst (v := 1) (pc := 13) F dX11_in_13 rfl ?_
      refine y_goto (tgt := 18) (pc := 14) F dX11_in_14 rfl ?_
      exact y_zret hr dX11_in_18 rfl rfl
abbrev rmX11_has : Room := { frames := 0, cells := 0, slots := 0, locals := 0 }
def pX11_has (a0 : Int32) (a1 : Int32) : Option Int32 :=
  if ((a0 >>> (a1 &&& 31)) &&& (1 : Int32)) = (1 : Int32) then (zgz (1 : Int32) (some (1 : Int32)))
  else (zgz (0 : Int32) (some (0 : Int32)))
set_option maxHeartbeats 4000000 in
set_option maxRecDepth 100000 in
theorem c_X11_has {q : Nat → Nat} (a0 : Int32) (a1 : Int32) : zCi l D tA yX11_has cX11_has 2 .boolean rmX11_has [.int a0, .int a1] [] (fun (r : Int32) => r) (fun (r : Int32) => []) (pX11_has a0 a1) := by
  refine zCi_of (lv0 := [some (.int a0), some (.int a1)]) (by decide +kernel) (Nat.le_of_ble_eq_true rfl) rfl (fun X out F hr => ?_)
  unfold pX11_has
  refine y_iload_n (pc := 0) F dX11_has_0 rfl ?_
  refine y_iload_n (pc := 1) F dX11_has_1 rfl ?_
  refine y_ishr (pc := 2) F dX11_has_2 ?_
  refine y_iconst (v := 1) (pc := 3) F dX11_has_3 rfl ?_
  refine y_iand (pc := 4) F dX11_has_4 ?_
  refine y_iconst (v := 1) (pc := 5) F dX11_has_5 rfl ?_
  refine y_icmp_ne (pc := 6) (tgt := 13) F dX11_has_6 rfl ?_ ?_
  · refine y_iconst (v := 1) (pc := 9) F dX11_has_9 rfl ?_
    refine y_goto (tgt := 14) (pc := 10) F dX11_has_10 rfl ?_
    exact y_zret hr dX11_has_14 rfl rfl
  · refine y_iconst (v := 0) (pc := 13) F dX11_has_13 rfl ?_
    exact y_zret hr dX11_has_14 rfl rfl
abbrev rmX11_isSuit : Room := { frames := 1, cells := 0, slots := 0, locals := 25 }
def pX11_isSuit (o : Ob) (a1 : Int32) : Option Int32 :=
  Option.bind (pX11_in (a1.toInt64) (0 : Int64) (((gi o 0) - (1 : Int32)).toInt64)) fun (r1 : Int32) =>
  zgz r1 (some r1)
set_option maxHeartbeats 4000000 in
set_option maxRecDepth 100000 in
theorem c_X11_isSuit {q : Nat → Nat} (o : Ob) (a1 : Int32) : zCi l D tA yX11_isSuit cX11_isSuit 2 .boolean rmX11_isSuit [.ref (q 0), .int a1] (WM tA q o) (fun (r : Int32) => r) (fun (r : Int32) => (WM tA q o)) (pX11_isSuit o a1) := by
  refine zCi_of (lv0 := [some (.ref (q 0)), some (.int a1)]) (by decide +kernel) (Nat.le_of_ble_eq_true rfl) rfl (fun X out F hr => ?_)
  unfold pX11_isSuit
  refine y_iload_n (pc := 0) F dX11_isSuit_0 rfl ?_
  refine y_i2l (pc := 1) F dX11_isSuit_1 ?_
  refine y_lconst (v := 0) (pc := 2) F dX11_isSuit_2 rfl ?_
  refine y_aload_n (pc := 3) F dX11_isSuit_3 rfl ?_
  refine y_get (pc := 4) F dX11_isSuit_4 kF_X11_124 0 WM_at0 rfl ?_
  refine y_iconst (v := 1) (pc := 7) F dX11_isSuit_7 rfl ?_
  refine y_isub (pc := 8) F dX11_isSuit_8 ?_
  refine y_i2l (pc := 9) F dX11_isSuit_9 ?_
  refine y_scalliP (As := [.long (a1.toInt64), .long (0 : Int64), .long (((gi o 0) - (1 : Int32)).toInt64)]) (st := []) (pc := 10) F (c_X11_in (q := q) (a1.toInt64) (0 : Int64) (((gi o 0) - (1 : Int32)).toInt64)) dX11_isSuit_10 kM_X11_127 ⟨rfl, rfl⟩ ⟨Nat.le_of_ble_eq_true rfl, Nat.le_of_ble_eq_true rfl⟩ rfl rfl rfl (Nat.le_of_ble_eq_true rfl) (fun r1 => ?_)
  exact y_zret hr dX11_isSuit_13 rfl rfl
abbrev rmX11_isWitness : Room := { frames := 1, cells := 0, slots := 0, locals := 25 }
def pX11_isWitness (o : Ob) (a1 : Int32) : Option Int32 :=
  Option.bind (pX11_in (a1.toInt64) (0 : Int64) (((gi o 4) - (1 : Int32)).toInt64)) fun (r1 : Int32) =>
  zgz r1 (some r1)
set_option maxHeartbeats 4000000 in
set_option maxRecDepth 100000 in
theorem c_X11_isWitness {q : Nat → Nat} (o : Ob) (a1 : Int32) : zCi l D tA yX11_isWitness cX11_isWitness 2 .boolean rmX11_isWitness [.ref (q 0), .int a1] (WM tA q o) (fun (r : Int32) => r) (fun (r : Int32) => (WM tA q o)) (pX11_isWitness o a1) := by
  refine zCi_of (lv0 := [some (.ref (q 0)), some (.int a1)]) (by decide +kernel) (Nat.le_of_ble_eq_true rfl) rfl (fun X out F hr => ?_)
  unfold pX11_isWitness
  refine y_iload_n (pc := 0) F dX11_isWitness_0 rfl ?_
  refine y_i2l (pc := 1) F dX11_isWitness_1 ?_
  refine y_lconst (v := 0) (pc := 2) F dX11_isWitness_2 rfl ?_
  refine y_aload_n (pc := 3) F dX11_isWitness_3 rfl ?_
  refine y_get (pc := 4) F dX11_isWitness_4 kF_X11_131 0 WM_at0 rfl ?_
  refine y_iconst (v := 1) (pc := 7) F dX11_isWitness_7 rfl ?_
  refine y_isub (pc := 8) F dX11_isWitness_8 ?_
  refine y_i2l (pc := 9) F dX11_isWitness_9 ?_
  refine y_scalliP (As := [.long (a1.toInt64), .long (0 : Int64), .long (((gi o 4) - (1 : Int32)).toInt64)]) (st := []) (pc := 10) F (c_X11_in (q := q) (a1.toInt64) (0 : Int64) (((gi o 4) - (1 : Int32)).toInt64)) dX11_isWitness_10 kM_X11_127 ⟨rfl, rfl⟩ ⟨Nat.le_of_ble_eq_true rfl, Nat.le_of_ble_eq_true rfl⟩ rfl rfl rfl (Nat.le_of_ble_eq_true rfl) (fun r1 => ?_)
  exact y_zret hr dX11_isWitness_13 rfl rfl
abbrev rmX11_bits : Room := { frames := 0, cells := 0, slots := 0, locals := 0 }
def lX11_bits_4 (a0 : Int32) : Nat → Int32 → Int32 → Option Int32
  | 0, _, _ => none
  | f + 1, x1, x2 =>
    if (12 : Int32) ≤ x2 then (some x1)
    else (zlet ((x1 + ((a0 >>> (x2 &&& 31)) &&& (1 : Int32)))) fun (x3 : Int32) =>
    zlet (x2 + (1 : Int32)) fun (x4 : Int32) =>
    lX11_bits_4 a0 f x3 x4)
def pX11_bits (a0 : Int32) : Option Int32 :=
  lX11_bits_4 a0 zfu (0 : Int32) (0 : Int32)
set_option maxHeartbeats 4000000 in
set_option maxRecDepth 100000 in
theorem wlX11_bits_4 {X : ZX} {out : Int32} (q : Nat → Nat) (a0 : Int32) (F : zF l D tA RX11 cX11_bits 3 rmX11_bits X) (hr : zRi X D cX11_bits .int (fun (r : Int32) => r) (fun (r : Int32) => []) out) : ∀ (f : Nat) (x1 : Int32) (x2 : Int32), zY X D out (lX11_bits_4 a0 f x1 x2) [] 4 [some (.int a0), some (.int x1), some (.int x2)] [] := by
  intro f
  induction f with
  | zero =>
    intro x1 x2
    exact y_none
  | succ f ih =>
    intro x1 x2
    rw [lX11_bits_4.eq_2]
    refine y_iload_n (pc := 4) F dX11_bits_4 rfl ?_
    refine y_bipush (v := 12) (pc := 5) F dX11_bits_5 rfl ?_
    refine y_icmp_ge (pc := 7) (tgt := 24) F dX11_bits_7 rfl ?_ ?_
    · refine y_iload_n (pc := 24) F dX11_bits_24 rfl ?_
      exact y_iret hr dX11_bits_25 rfl rfl
    · refine y_iload_n (pc := 10) F dX11_bits_10 rfl ?_
      refine y_iload_n (pc := 11) F dX11_bits_11 rfl ?_
      refine y_iload_n (pc := 12) F dX11_bits_12 rfl ?_
      refine y_ishr (pc := 13) F dX11_bits_13 ?_
      refine y_iconst (v := 1) (pc := 14) F dX11_bits_14 rfl ?_
      refine y_iand (pc := 15) F dX11_bits_15 ?_
      refine y_iadd (pc := 16) F dX11_bits_16 ?_
      refine y_lti (fun x3 => ?_)
      refine y_istore_n (lv' := [some (.int a0), some (.int x3), some (.int x2)]) (pc := 17) F dX11_bits_17 (Nat.le_of_ble_eq_true rfl) rfl rfl ?_
      refine y_iinc (v := 1) (lf := fun (x4 : Int32) => [some (.int a0), some (.int x3), some (.int x4)]) (pc := 18) F dX11_bits_18 rfl rfl rfl (fun _ => rfl) (fun x4 => ?_)
      refine y_goto (tgt := 4) (pc := 21) F dX11_bits_21 rfl ?_
      exact ih x3 x4
set_option maxHeartbeats 4000000 in
set_option maxRecDepth 100000 in
theorem c_X11_bits {q : Nat → Nat} (a0 : Int32) : zCi l D tA yX11_bits cX11_bits 3 .int rmX11_bits [.int a0] [] (fun (r : Int32) => r) (fun (r : Int32) => []) (pX11_bits a0) := by
  refine zCi_of (lv0 := [some (.int a0), none, none]) (by decide +kernel) (Nat.le_of_ble_eq_true rfl) rfl (fun X out F hr => ?_)
  unfold pX11_bits
  refine y_iconst (v := 0) (pc := 0) F dX11_bits_0 rfl ?_
  refine y_istore_n (lv' := [some (.int a0), some (.int (0 : Int32)), none]) (pc := 1) F dX11_bits_1 (Nat.le_of_ble_eq_true rfl) rfl rfl ?_
  refine y_iconst (v := 0) (pc := 2) F dX11_bits_2 rfl ?_
  refine y_istore_n (lv' := [some (.int a0), some (.int (0 : Int32)), some (.int (0 : Int32))]) (pc := 3) F dX11_bits_3 (Nat.le_of_ble_eq_true rfl) rfl rfl ?_
  exact wlX11_bits_4 q a0 F hr zfu (0 : Int32) (0 : Int32)
abbrev rmX11_feed : Room := { frames := 1, cells := 0, slots := 0, locals := 25 }
def lX11_feed_35 (a2 : Int64) : Nat → Int32 → Ob → Option (Int32 × Ob)
  | 0, _, _ => none
  | f + 1, x3, o4 =>
    if x3 < 0 then (some ((gi o4 22), o4))
    else (zgd (gi o4 22) 500 <| zlet (sa o4 21 (upd (ga o4 21) ((gi o4 22).toNatClampNeg) (((a2 >>> (((8 : Int32) * x3).toInt64 &&& 63)) &&& (255 : Int64)).toInt32))) fun (o5 : Ob) =>
    zlet (si o5 22 ((gi o5 22) + (1 : Int32))) fun (o6 : Ob) =>
    zlet (x3 + (-1 : Int32)) fun (x7 : Int32) =>
    lX11_feed_35 a2 f x7 o6)
def pX11_feed (o : Ob) (a1 : Int32) (a2 : Int64) : Option (Int32 × Ob) :=
  Option.bind (pX11_in (a1.toInt64) (1 : Int64) (8 : Int64)) fun (r1 : Int32) =>
  if r1 = 0 then (some ((-1000000002 : Int32), o))
  else (if ((gi o 22) + a1) ≤ (500 : Int32) then (zlet ((a1 - (1 : Int32))) fun (x2 : Int32) =>
  lX11_feed_35 a2 zfu x2 o)
  else (some ((-1000000004 : Int32), o)))
set_option maxHeartbeats 4000000 in
set_option maxRecDepth 100000 in
theorem wlX11_feed_35 {X : ZX} {out : (Int32 × Ob)} (q : Nat → Nat) (a2 : Int64) (F : zF l D tA RX11 cX11_feed 5 rmX11_feed X) (hr : zRi X D cX11_feed .int (fun (r : Int32 × Ob) => (r.1)) (fun (r : Int32 × Ob) => (WM tA q (r.2))) out) : ∀ (f : Nat) (x3 : Int32) (o4 : Ob), zY X D out (lX11_feed_35 a2 f x3 o4) (WM tA q o4) 35 [some (.ref (q 0)), none, some (.long a2), none, some (.int x3)] [] := by
  intro f
  induction f with
  | zero =>
    intro x3 o4
    exact y_none
  | succ f ih =>
    intro x3 o4
    rw [lX11_feed_35.eq_2]
    refine y_iload (pc := 35) F dX11_feed_35 rfl ?_
    refine y_if_lt (pc := 37) (tgt := 77) F dX11_feed_37 rfl ?_ ?_
    · refine y_aload_n (pc := 77) F dX11_feed_77 rfl ?_
      refine y_get (pc := 78) F dX11_feed_78 kF_X11_137 0 WM_at0 rfl ?_
      exact y_iret hr dX11_feed_81 rfl rfl
    · refine y_aload_n (pc := 40) F dX11_feed_40 rfl ?_
      refine y_get (pc := 41) F dX11_feed_41 kF_X11_56 0 WM_at0 rfl ?_
      refine y_aload_n (pc := 44) F dX11_feed_44 rfl ?_
      refine y_get (pc := 45) F dX11_feed_45 kF_X11_137 0 WM_at0 rfl ?_
      refine y_lload_n (pc := 48) F dX11_feed_48 rfl ?_
      refine y_bipush (v := 8) (pc := 49) F dX11_feed_49 rfl ?_
      refine y_iload (pc := 51) F dX11_feed_51 rfl ?_
      refine y_imul (pc := 53) F dX11_feed_53 ?_
      refine y_lshr (pc := 54) F dX11_feed_54 ?_
      refine y_ldc2 (pc := 55) F dX11_feed_55 kC_X11_141 ?_
      refine y_land (pc := 58) F dX11_feed_58 ?_
      refine y_l2i (pc := 59) F dX11_feed_59 ?_
      refine y_iast (pc := 60) F dX11_feed_60 16 WM_at16 (fun (o5 : Ob) => (WM tA q o5)) (WM_ar16 _) (fun o5 => ?_)
      refine y_aload_n (pc := 61) F dX11_feed_61 rfl ?_
      refine y_dup (pc := 62) F dX11_feed_62 rfl ?_
      refine y_get (pc := 63) F dX11_feed_63 kF_X11_137 0 WM_at0 rfl ?_
      refine y_iconst (v := 1) (pc := 66) F dX11_feed_66 rfl ?_
      refine y_iadd (pc := 67) F dX11_feed_67 ?_
      refine y_put (pc := 68) F dX11_feed_68 kF_X11_137 0 WM_at0 rfl rfl rfl (Nat.le_of_ble_eq_true rfl) (fun (o6 : Ob) => (WM tA q o6)) (WM_pt0_22 _) (fun o6 => ?_)
      refine y_iinc (v := -1) (lf := fun (x7 : Int32) => [some (.ref (q 0)), none, some (.long a2), none, some (.int x7)]) (pc := 71) F dX11_feed_71 rfl rfl rfl (fun _ => rfl) (fun x7 => ?_)
      refine y_goto (tgt := 35) (pc := 74) F dX11_feed_74 rfl ?_
      exact ih x7 o6
set_option maxHeartbeats 4000000 in
set_option maxRecDepth 100000 in
theorem c_X11_feed {q : Nat → Nat} (o : Ob) (a1 : Int32) (a2 : Int64) : zCi l D tA yX11_feed cX11_feed 5 .int rmX11_feed [.ref (q 0), .int a1, .long a2] (WM tA q o) (fun (r : Int32 × Ob) => (r.1)) (fun (r : Int32 × Ob) => (WM tA q (r.2))) (pX11_feed o a1 a2) := by
  refine zCi_of (lv0 := [some (.ref (q 0)), some (.int a1), some (.long a2), none, none]) (by decide +kernel) (Nat.le_of_ble_eq_true rfl) rfl (fun X out F hr => ?_)
  unfold pX11_feed
  refine y_iload_n (pc := 0) F dX11_feed_0 rfl ?_
  refine y_i2l (pc := 1) F dX11_feed_1 ?_
  refine y_lconst (v := 1) (pc := 2) F dX11_feed_2 rfl ?_
  refine y_ldc2 (pc := 3) F dX11_feed_3 kC_X11_134 ?_
  refine y_scalliP (As := [.long (a1.toInt64), .long (1 : Int64), .long (8 : Int64)]) (st := []) (pc := 6) F (c_X11_in (q := q) (a1.toInt64) (1 : Int64) (8 : Int64)) dX11_feed_6 kM_X11_127 ⟨rfl, rfl⟩ ⟨Nat.le_of_ble_eq_true rfl, Nat.le_of_ble_eq_true rfl⟩ rfl rfl rfl (Nat.le_of_ble_eq_true rfl) (fun r1 => ?_)
  refine y_if_ne (pc := 9) (tgt := 15) F dX11_feed_9 rfl ?_ ?_
  · refine y_ldc (pc := 12) F dX11_feed_12 kC_X11_136 ?_
    exact y_iret hr dX11_feed_14 rfl rfl
  · refine y_aload_n (pc := 15) F dX11_feed_15 rfl ?_
    refine y_get (pc := 16) F dX11_feed_16 kF_X11_137 0 WM_at0 rfl ?_
    refine y_iload_n (pc := 19) F dX11_feed_19 rfl ?_
    refine y_iadd (pc := 20) F dX11_feed_20 ?_
    refine y_sipush (v := 500) (pc := 21) F dX11_feed_21 rfl ?_
    refine y_icmp_le (pc := 24) (tgt := 30) F dX11_feed_24 rfl ?_ ?_
    · refine y_iload_n (pc := 30) F dX11_feed_30 rfl ?_
      refine y_iconst (v := 1) (pc := 31) F dX11_feed_31 rfl ?_
      refine y_isub (pc := 32) F dX11_feed_32 ?_
      refine y_lti (fun x2 => ?_)
      refine y_istore (lv' := [some (.ref (q 0)), some (.int a1), some (.long a2), none, some (.int x2)]) (pc := 33) F dX11_feed_33 (Nat.le_of_ble_eq_true rfl) rfl rfl ?_
      refine y_le (lv' := [some (.ref (q 0)), none, some (.long a2), none, some (.int x2)]) ⟨rfl, ⟨rfl, ⟨rfl, trivial⟩⟩⟩ ?_
      exact wlX11_feed_35 q a2 F hr zfu x2 o
    · refine y_ldc (pc := 27) F dX11_feed_27 kC_X11_140 ?_
      exact y_iret hr dX11_feed_29 rfl rfl
abbrev rmX11_here : Room := { frames := 0, cells := 0, slots := 0, locals := 0 }
def lX11_here_0 (K38 : Ob → Option (Int32 × Ob)) : Nat → Ob → Option (Int32 × Ob)
  | 0, _ => none
  | f + 1, o2 =>
    if (gi o2 22) ≤ (gi o2 24) then (K38 o2)
    else (zgd (gi o2 24) 500 <| if (ga o2 21 ((gi o2 24).toNatClampNeg)) = (32 : Int32) then (zlet (si o2 24 ((gi o2 24) + (1 : Int32))) fun (o3 : Ob) =>
    lX11_here_0 K38 f o3)
    else (K38 o2))
def pX11_here (o : Ob) : Option (Int32 × Ob) :=
  zjn (fun (o1 : Ob) =>
  if (gi o1 22) ≤ (gi o1 24) then (some ((-1 : Int32), o1))
  else (zgd (gi o1 24) 500 <| some ((ga o1 21 ((gi o1 24).toNatClampNeg)), o1))) fun (K38 : Ob → Option (Int32 × Ob)) =>
  lX11_here_0 K38 zfu o
set_option maxHeartbeats 4000000 in
set_option maxRecDepth 100000 in
theorem wlX11_here_0 {X : ZX} {out : (Int32 × Ob)} (q : Nat → Nat) (F : zF l D tA RX11 cX11_here 1 rmX11_here X) (hr : zRi X D cX11_here .int (fun (r : Int32 × Ob) => (r.1)) (fun (r : Int32 × Ob) => (WM tA q (r.2))) out) {K38 : Ob → Option (Int32 × Ob)} (hK38 : ∀ (o1 : Ob), zY X D out (K38 o1) (WM tA q o1) 38 [some (.ref (q 0))] []) : ∀ (f : Nat) (o2 : Ob), zY X D out (lX11_here_0 K38 f o2) (WM tA q o2) 0 [some (.ref (q 0))] [] := by
  intro f
  induction f with
  | zero =>
    intro o2
    exact y_none
  | succ f ih =>
    intro o2
    rw [lX11_here_0.eq_2]
    refine y_aload_n (pc := 0) F dX11_here_0 rfl ?_
    refine y_get (pc := 1) F dX11_here_1 kF_X11_143 0 WM_at0 rfl ?_
    refine y_aload_n (pc := 4) F dX11_here_4 rfl ?_
    refine y_get (pc := 5) F dX11_here_5 kF_X11_137 0 WM_at0 rfl ?_
    refine y_icmp_ge (pc := 8) (tgt := 38) F dX11_here_8 rfl ?_ ?_
    · exact hK38 o2
    · refine y_aload_n (pc := 11) F dX11_here_11 rfl ?_
      refine y_get (pc := 12) F dX11_here_12 kF_X11_56 0 WM_at0 rfl ?_
      refine y_aload_n (pc := 15) F dX11_here_15 rfl ?_
      refine y_get (pc := 16) F dX11_here_16 kF_X11_143 0 WM_at0 rfl ?_
      refine y_iald (pc := 19) F dX11_here_19 16 WM_at16 ?_
      refine y_bipush (v := 32) (pc := 20) F dX11_here_20 rfl ?_
      refine y_icmp_ne (pc := 22) (tgt := 38) F dX11_here_22 rfl ?_ ?_
      · refine y_aload_n (pc := 25) F dX11_here_25 rfl ?_
        refine y_dup (pc := 26) F dX11_here_26 rfl ?_
        refine y_get (pc := 27) F dX11_here_27 kF_X11_143 0 WM_at0 rfl ?_
        refine y_iconst (v := 1) (pc := 30) F dX11_here_30 rfl ?_
        refine y_iadd (pc := 31) F dX11_here_31 ?_
        refine y_put (pc := 32) F dX11_here_32 kF_X11_143 0 WM_at0 rfl rfl rfl (Nat.le_of_ble_eq_true rfl) (fun (o3 : Ob) => (WM tA q o3)) (WM_pt0_24 _) (fun o3 => ?_)
        refine y_goto (tgt := 0) (pc := 35) F dX11_here_35 rfl ?_
        exact ih o3
      · exact hK38 o2
set_option maxHeartbeats 4000000 in
set_option maxRecDepth 100000 in
theorem c_X11_here {q : Nat → Nat} (o : Ob) : zCi l D tA yX11_here cX11_here 1 .int rmX11_here [.ref (q 0)] (WM tA q o) (fun (r : Int32 × Ob) => (r.1)) (fun (r : Int32 × Ob) => (WM tA q (r.2))) (pX11_here o) := by
  refine zCi_of (lv0 := [some (.ref (q 0))]) (by decide +kernel) (Nat.le_of_ble_eq_true rfl) rfl (fun X out F hr => ?_)
  unfold pX11_here
  refine y_jn (fun (K38 : Ob → Option (Int32 × Ob)) => ∀ (o1 : Ob), zY X D out (K38 o1) (WM tA q o1) 38 [some (.ref (q 0))] []) ?_ ?_
  · intro o1
    refine y_aload_n (pc := 38) F dX11_here_38 rfl ?_
    refine y_get (pc := 39) F dX11_here_39 kF_X11_143 0 WM_at0 rfl ?_
    refine y_aload_n (pc := 42) F dX11_here_42 rfl ?_
    refine y_get (pc := 43) F dX11_here_43 kF_X11_137 0 WM_at0 rfl ?_
    refine y_icmp_ge (pc := 46) (tgt := 61) F dX11_here_46 rfl ?_ ?_
    · refine y_iconst (v := -1) (pc := 61) F dX11_here_61 rfl ?_
      exact y_iret hr dX11_here_62 rfl rfl
    · refine y_aload_n (pc := 49) F dX11_here_49 rfl ?_
      refine y_get (pc := 50) F dX11_here_50 kF_X11_56 0 WM_at0 rfl ?_
      refine y_aload_n (pc := 53) F dX11_here_53 rfl ?_
      refine y_get (pc := 54) F dX11_here_54 kF_X11_143 0 WM_at0 rfl ?_
      refine y_iald (pc := 57) F dX11_here_57 16 WM_at16 ?_
      refine y_goto (tgt := 62) (pc := 58) F dX11_here_58 rfl ?_
      exact y_iret hr dX11_here_62 rfl rfl
  intro K38 hK38
  exact wlX11_here_0 q F hr hK38 zfu o
abbrev rmX11_fails : Room := { frames := 0, cells := 0, slots := 0, locals := 0 }
def pX11_fails (o : Ob) (a1 : Int32) (a2 : Int32) : Option (Int32 × Ob) :=
  zlet (si o 23 a2) fun (o1 : Ob) =>
  some (a1, o1)
set_option maxHeartbeats 4000000 in
set_option maxRecDepth 100000 in
theorem c_X11_fails {q : Nat → Nat} (o : Ob) (a1 : Int32) (a2 : Int32) : zCi l D tA yX11_fails cX11_fails 3 .int rmX11_fails [.ref (q 0), .int a1, .int a2] (WM tA q o) (fun (r : Int32 × Ob) => (r.1)) (fun (r : Int32 × Ob) => (WM tA q (r.2))) (pX11_fails o a1 a2) := by
  refine zCi_of (lv0 := [some (.ref (q 0)), some (.int a1), some (.int a2)]) (by decide +kernel) (Nat.le_of_ble_eq_true rfl) rfl (fun X out F hr => ?_)
  unfold pX11_fails
  refine y_aload_n (pc := 0) F dX11_fails_0 rfl ?_
  refine y_iload_n (pc := 1) F dX11_fails_1 rfl ?_
  refine y_put (pc := 2) F dX11_fails_2 kF_X11_59 0 WM_at0 rfl rfl rfl (Nat.le_of_ble_eq_true rfl) (fun (o1 : Ob) => (WM tA q o1)) (WM_pt0_23 _) (fun o1 => ?_)
  refine y_iload_n (pc := 5) F dX11_fails_5 rfl ?_
  exact y_iret hr dX11_fails_6 rfl rfl
abbrev rmX11_readWord : Room := { frames := 1, cells := 0, slots := 0, locals := 25 }
def lX11_readWord_18 : Nat → Ob → Option Ob
  | 0, _ => none
  | f + 1, o4 =>
    if (gi o4 22) ≤ (gi o4 26) then (some o4)
    else (zgd (gi o4 26) 500 <| Option.bind (pX11_in ((ga o4 21 ((gi o4 26).toNatClampNeg)).toInt64) (97 : Int64) (122 : Int64)) fun (r5 : Int32) =>
    if r5 = 0 then (some o4)
    else (zjn (fun (y6 : Int64) =>
    zlet (sl o4 25 y6) fun (o7 : Ob) =>
    zlet (si o7 26 ((gi o7 26) + (1 : Int32))) fun (o8 : Ob) =>
    lX11_readWord_18 f o8) fun (K92 : Int64 → Option Ob) =>
    if (gl o4 25) ≤ (1000000000000 : Int64) then (zgd (gi o4 26) 500 <| K92 (((((27 : Int64) * (gl o4 25)) + ((ga o4 21 ((gi o4 26).toNatClampNeg)).toInt64)) - (96 : Int64))))
    else (K92 (2000000000000 : Int64))))
def pX11_readWord (o : Ob) : Option Ob :=
  Option.bind (pX11_here o) fun (r1 : Int32 × Ob) =>
  zlet (sl (r1.2) 25 (0 : Int64)) fun (o2 : Ob) =>
  zlet (si o2 26 (gi o2 24)) fun (o3 : Ob) =>
  lX11_readWord_18 zfu o3
set_option maxHeartbeats 4000000 in
set_option maxRecDepth 100000 in
theorem wlX11_readWord_18 {X : ZX} {out : Ob} (q : Nat → Nat) (F : zF l D tA RX11 cX11_readWord 2 rmX11_readWord X) (hr : zRv X D cX11_readWord (fun (r : Ob) => (WM tA q r)) out) : ∀ (f : Nat) (o4 : Ob), zY X D out (lX11_readWord_18 f o4) (WM tA q o4) 18 [some (.ref (q 0)), none] [] := by
  intro f
  induction f with
  | zero =>
    intro o4
    exact y_none
  | succ f ih =>
    intro o4
    rw [lX11_readWord_18.eq_2]
    refine y_aload_n (pc := 18) F dX11_readWord_18 rfl ?_
    refine y_get (pc := 19) F dX11_readWord_19 kF_X11_154 0 WM_at0 rfl ?_
    refine y_aload_n (pc := 22) F dX11_readWord_22 rfl ?_
    refine y_get (pc := 23) F dX11_readWord_23 kF_X11_137 0 WM_at0 rfl ?_
    refine y_icmp_ge (pc := 26) (tgt := 108) F dX11_readWord_26 rfl ?_ ?_
    · exact y_vret hr dX11_readWord_108 rfl
    · refine y_aload_n (pc := 29) F dX11_readWord_29 rfl ?_
      refine y_get (pc := 30) F dX11_readWord_30 kF_X11_56 0 WM_at0 rfl ?_
      refine y_aload_n (pc := 33) F dX11_readWord_33 rfl ?_
      refine y_get (pc := 34) F dX11_readWord_34 kF_X11_154 0 WM_at0 rfl ?_
      refine y_iald (pc := 37) F dX11_readWord_37 16 WM_at16 ?_
      refine y_i2l (pc := 38) F dX11_readWord_38 ?_
      refine y_ldc2 (pc := 39) F dX11_readWord_39 kC_X11_157 ?_
      refine y_ldc2 (pc := 42) F dX11_readWord_42 kC_X11_159 ?_
      refine y_scalliP (As := [.long ((ga o4 21 ((gi o4 26).toNatClampNeg)).toInt64), .long (97 : Int64), .long (122 : Int64)]) (st := []) (pc := 45) F (c_X11_in (q := q) ((ga o4 21 ((gi o4 26).toNatClampNeg)).toInt64) (97 : Int64) (122 : Int64)) dX11_readWord_45 kM_X11_127 ⟨rfl, rfl⟩ ⟨Nat.le_of_ble_eq_true rfl, Nat.le_of_ble_eq_true rfl⟩ rfl rfl rfl (Nat.le_of_ble_eq_true rfl) (fun r5 => ?_)
      refine y_if_eq (pc := 48) (tgt := 108) F dX11_readWord_48 rfl ?_ ?_
      · exact y_vret hr dX11_readWord_108 rfl
      · refine y_aload_n (pc := 51) F dX11_readWord_51 rfl ?_
        refine y_aload_n (pc := 52) F dX11_readWord_52 rfl ?_
        refine y_get (pc := 53) F dX11_readWord_53 kF_X11_150 0 WM_at0 rfl ?_
        refine y_ldc2 (pc := 56) F dX11_readWord_56 kC_X11_161 ?_
        refine y_jn (fun (K92 : Int64 → Option Ob) => ∀ (y6 : Int64), zY X D out (K92 y6) (WM tA q o4) 92 [some (.ref (q 0)), none] [.long y6, .ref (q 0)]) ?_ ?_
        · intro y6
          refine y_put (pc := 92) F dX11_readWord_92 kF_X11_150 0 WM_at0 rfl rfl rfl (Nat.le_of_ble_eq_true rfl) (fun (o7 : Ob) => (WM tA q o7)) (WM_pt0_25 _) (fun o7 => ?_)
          refine y_aload_n (pc := 95) F dX11_readWord_95 rfl ?_
          refine y_dup (pc := 96) F dX11_readWord_96 rfl ?_
          refine y_get (pc := 97) F dX11_readWord_97 kF_X11_154 0 WM_at0 rfl ?_
          refine y_iconst (v := 1) (pc := 100) F dX11_readWord_100 rfl ?_
          refine y_iadd (pc := 101) F dX11_readWord_101 ?_
          refine y_put (pc := 102) F dX11_readWord_102 kF_X11_154 0 WM_at0 rfl rfl rfl (Nat.le_of_ble_eq_true rfl) (fun (o8 : Ob) => (WM tA q o8)) (WM_pt0_26 _) (fun o8 => ?_)
          refine y_goto (tgt := 18) (pc := 105) F dX11_readWord_105 rfl ?_
          exact ih o8
        intro K92 hK92
        refine y_lcmp_le (pc := 59) (tgt := 69) F dX11_readWord_59 dX11_readWord_60 rfl ?_ ?_
        · refine y_ldc2 (pc := 69) F dX11_readWord_69 kC_X11_165 ?_
          refine y_aload_n (pc := 72) F dX11_readWord_72 rfl ?_
          refine y_get (pc := 73) F dX11_readWord_73 kF_X11_150 0 WM_at0 rfl ?_
          refine y_lmul (pc := 76) F dX11_readWord_76 ?_
          refine y_aload_n (pc := 77) F dX11_readWord_77 rfl ?_
          refine y_get (pc := 78) F dX11_readWord_78 kF_X11_56 0 WM_at0 rfl ?_
          refine y_aload_n (pc := 81) F dX11_readWord_81 rfl ?_
          refine y_get (pc := 82) F dX11_readWord_82 kF_X11_154 0 WM_at0 rfl ?_
          refine y_iald (pc := 85) F dX11_readWord_85 16 WM_at16 ?_
          refine y_i2l (pc := 86) F dX11_readWord_86 ?_
          refine y_ladd (pc := 87) F dX11_readWord_87 ?_
          refine y_ldc2 (pc := 88) F dX11_readWord_88 kC_X11_167 ?_
          refine y_lsub (pc := 91) F dX11_readWord_91 ?_
          exact hK92 (((((27 : Int64) * (gl o4 25)) + ((ga o4 21 ((gi o4 26).toNatClampNeg)).toInt64)) - (96 : Int64)))
        · refine y_ldc2 (pc := 63) F dX11_readWord_63 kC_X11_163 ?_
          refine y_goto (tgt := 92) (pc := 66) F dX11_readWord_66 rfl ?_
          exact hK92 (2000000000000 : Int64)
set_option maxHeartbeats 4000000 in
set_option maxRecDepth 100000 in
theorem c_X11_readWord {q : Nat → Nat} (o : Ob) : zCv l D tA yX11_readWord cX11_readWord 2 rmX11_readWord [.ref (q 0)] (WM tA q o) (fun (r : Ob) => (WM tA q r)) (pX11_readWord o) := by
  refine zCv_of (lv0 := [some (.ref (q 0)), none]) (by decide +kernel) (Nat.le_of_ble_eq_true rfl) rfl (fun X out F hr => ?_)
  unfold pX11_readWord
  refine y_aload_n (pc := 0) F dX11_readWord_0 rfl ?_
  refine y_calliW (As := []) (st := []) (q0 := 0) (pc := 1) F (c_X11_here (q := q) o) dX11_readWord_1 kM_X11_146 ⟨rfl, rfl⟩ ⟨Nat.le_of_ble_eq_true rfl, Nat.le_of_ble_eq_true rfl⟩ rfl rfl rfl (Nat.le_of_ble_eq_true rfl) rfl rfl WM_at0 (fun r1 => ?_)
  refine y_istore_n (lv' := [some (.ref (q 0)), some (.int (r1.1))]) (pc := 4) F dX11_readWord_4 (Nat.le_of_ble_eq_true rfl) rfl rfl ?_
  refine y_aload_n (pc := 5) F dX11_readWord_5 rfl ?_
  refine y_lconst (v := 0) (pc := 6) F dX11_readWord_6 rfl ?_
  refine y_put (pc := 7) F dX11_readWord_7 kF_X11_150 0 WM_at0 rfl rfl rfl (Nat.le_of_ble_eq_true rfl) (fun (o2 : Ob) => (WM tA q o2)) (WM_pt0_25 _) (fun o2 => ?_)
  refine y_aload_n (pc := 10) F dX11_readWord_10 rfl ?_
  refine y_aload_n (pc := 11) F dX11_readWord_11 rfl ?_
  refine y_get (pc := 12) F dX11_readWord_12 kF_X11_143 0 WM_at0 rfl ?_
  refine y_put (pc := 15) F dX11_readWord_15 kF_X11_154 0 WM_at0 rfl rfl rfl (Nat.le_of_ble_eq_true rfl) (fun (o3 : Ob) => (WM tA q o3)) (WM_pt0_26 _) (fun o3 => ?_)
  refine y_le (lv' := [some (.ref (q 0)), none]) ⟨rfl, trivial⟩ ?_
  exact wlX11_readWord_18 q F hr zfu o3
abbrev rmX11_code : Room := { frames := 0, cells := 0, slots := 0, locals := 0 }
def pX11_code (a0 : Int32) (a1 : Int32) (a2 : Int32) (a3 : Int32) : Option Int64 :=
  some ((((27 : Int64) * ((((27 : Int64) * ((((27 : Int64) * ((a0.toInt64) - (96 : Int64))) + (a1.toInt64)) - (96 : Int64))) + (a2.toInt64)) - (96 : Int64))) + (a3.toInt64)) - (96 : Int64))
set_option maxHeartbeats 4000000 in
set_option maxRecDepth 100000 in
theorem c_X11_code {q : Nat → Nat} (a0 : Int32) (a1 : Int32) (a2 : Int32) (a3 : Int32) : zCl l D tA yX11_code cX11_code 4 rmX11_code [.int a0, .int a1, .int a2, .int a3] [] (fun (r : Int64) => r) (fun (r : Int64) => []) (pX11_code a0 a1 a2 a3) := by
  refine zCl_of (lv0 := [some (.int a0), some (.int a1), some (.int a2), some (.int a3)]) (by decide +kernel) (Nat.le_of_ble_eq_true rfl) rfl (fun X out F hr => ?_)
  unfold pX11_code
  refine y_ldc2 (pc := 0) F dX11_code_0 kC_X11_165 ?_
  refine y_ldc2 (pc := 3) F dX11_code_3 kC_X11_165 ?_
  refine y_ldc2 (pc := 6) F dX11_code_6 kC_X11_165 ?_
  refine y_iload_n (pc := 9) F dX11_code_9 rfl ?_
  refine y_i2l (pc := 10) F dX11_code_10 ?_
  refine y_ldc2 (pc := 11) F dX11_code_11 kC_X11_167 ?_
  refine y_lsub (pc := 14) F dX11_code_14 ?_
  refine y_lmul (pc := 15) F dX11_code_15 ?_
  refine y_iload_n (pc := 16) F dX11_code_16 rfl ?_
  refine y_i2l (pc := 17) F dX11_code_17 ?_
  refine y_ladd (pc := 18) F dX11_code_18 ?_
  refine y_ldc2 (pc := 19) F dX11_code_19 kC_X11_167 ?_
  refine y_lsub (pc := 22) F dX11_code_22 ?_
  refine y_lmul (pc := 23) F dX11_code_23 ?_
  refine y_iload_n (pc := 24) F dX11_code_24 rfl ?_
  refine y_i2l (pc := 25) F dX11_code_25 ?_
  refine y_ladd (pc := 26) F dX11_code_26 ?_
  refine y_ldc2 (pc := 27) F dX11_code_27 kC_X11_167 ?_
  refine y_lsub (pc := 30) F dX11_code_30 ?_
  refine y_lmul (pc := 31) F dX11_code_31 ?_
  refine y_iload_n (pc := 32) F dX11_code_32 rfl ?_
  refine y_i2l (pc := 33) F dX11_code_33 ?_
  refine y_ladd (pc := 34) F dX11_code_34 ?_
  refine y_ldc2 (pc := 35) F dX11_code_35 kC_X11_167 ?_
  refine y_lsub (pc := 38) F dX11_code_38 ?_
  exact y_lret hr dX11_code_39 rfl rfl
abbrev rmX11_longer : Room := { frames := 0, cells := 0, slots := 0, locals := 0 }
def pX11_longer (a0 : Int64) (a2 : Int32) : Option Int64 :=
  some ((((27 : Int64) * a0) + (a2.toInt64)) - (96 : Int64))
set_option maxHeartbeats 4000000 in
set_option maxRecDepth 100000 in
theorem c_X11_longer {q : Nat → Nat} (a0 : Int64) (a2 : Int32) : zCl l D tA yX11_longer cX11_longer 3 rmX11_longer [.long a0, .int a2] [] (fun (r : Int64) => r) (fun (r : Int64) => []) (pX11_longer a0 a2) := by
  refine zCl_of (lv0 := [some (.long a0), none, some (.int a2)]) (by decide +kernel) (Nat.le_of_ble_eq_true rfl) rfl (fun X out F hr => ?_)
  unfold pX11_longer
  refine y_ldc2 (pc := 0) F dX11_longer_0 kC_X11_165 ?_
  refine y_lload_n (pc := 3) F dX11_longer_3 rfl ?_
  refine y_lmul (pc := 4) F dX11_longer_4 ?_
  refine y_iload_n (pc := 5) F dX11_longer_5 rfl ?_
  refine y_i2l (pc := 6) F dX11_longer_6 ?_
  refine y_ladd (pc := 7) F dX11_longer_7 ?_
  refine y_ldc2 (pc := 8) F dX11_longer_8 kC_X11_167 ?_
  refine y_lsub (pc := 11) F dX11_longer_11 ?_
  exact y_lret hr dX11_longer_12 rfl rfl
abbrev rmX11_takeNumber : Room := { frames := 1, cells := 0, slots := 0, locals := 25 }
def lX11_takeNumber_42 (K129 : Ob → Option (Int32 × Ob)) : Nat → Ob → Option (Int32 × Ob)
  | 0, _ => none
  | f + 1, o8 =>
    if (gi o8 22) ≤ (gi o8 24) then (K129 o8)
    else (zgd (gi o8 24) 500 <| Option.bind (pX11_in ((ga o8 21 ((gi o8 24).toNatClampNeg)).toInt64) (48 : Int64) (57 : Int64)) fun (r9 : Int32) =>
    if r9 = 0 then (K129 o8)
    else (zjn (fun (x10 : Int32) =>
    zlet (si o8 27 x10) fun (o11 : Ob) =>
    zlet (si o11 24 ((gi o11 24) + (1 : Int32))) fun (o12 : Ob) =>
    lX11_takeNumber_42 K129 f o12) fun (K113 : Int32 → Option (Int32 × Ob)) =>
    if (gi o8 27) ≤ (10000 : Int32) then (zgd (gi o8 24) 500 <| K113 (((((10 : Int32) * (gi o8 27)) + (ga o8 21 ((gi o8 24).toNatClampNeg))) - (48 : Int32))))
    else (K113 ((gi o8 27)))))
def pX11_takeNumber (o : Ob) (a1 : Int32) (a2 : Int32) : Option (Int32 × Ob) :=
  Option.bind (pX11_here o) fun (r1 : Int32 × Ob) =>
  Option.bind (pX11_in ((r1.1).toInt64) (48 : Int64) (57 : Int64)) fun (r2 : Int32) =>
  if r2 = 0 then (Option.bind (pX11_fails (r1.2) (1 : Int32) (gi (r1.2) 24)) fun (r13 : Int32 × Ob) =>
  some ((r13.1), (r13.2)))
  else (zlet (si (r1.2) 28 (gi (r1.2) 24)) fun (o3 : Ob) =>
  zlet (si o3 27 (0 : Int32)) fun (o4 : Ob) =>
  zjn (fun (o5 : Ob) =>
  zjn (Option.bind (pX11_fails o5 (2 : Int32) (gi o5 28)) fun (r6 : Int32 × Ob) =>
  some ((r6.1), (r6.2))) fun (K157 : Option (Int32 × Ob)) =>
  if (3 : Int32) < ((gi o5 24) - (gi o5 28)) then (K157)
  else (Option.bind (pX11_in ((gi o5 27).toInt64) (a1.toInt64) (a2.toInt64)) fun (r7 : Int32) =>
  if r7 = 0 then (K157)
  else (some ((0 : Int32), o5)))) fun (K129 : Ob → Option (Int32 × Ob)) =>
  lX11_takeNumber_42 K129 zfu o4)
set_option maxHeartbeats 4000000 in
set_option maxRecDepth 100000 in
theorem wlX11_takeNumber_42 {X : ZX} {out : (Int32 × Ob)} (q : Nat → Nat) (a1 : Int32) (a2 : Int32) (F : zF l D tA RX11 cX11_takeNumber 4 rmX11_takeNumber X) (hr : zRi X D cX11_takeNumber .int (fun (r : Int32 × Ob) => (r.1)) (fun (r : Int32 × Ob) => (WM tA q (r.2))) out) {K129 : Ob → Option (Int32 × Ob)} (hK129 : ∀ (o5 : Ob), zY X D out (K129 o5) (WM tA q o5) 129 [some (.ref (q 0)), some (.int a1), some (.int a2), none] []) : ∀ (f : Nat) (o8 : Ob), zY X D out (lX11_takeNumber_42 K129 f o8) (WM tA q o8) 42 [some (.ref (q 0)), some (.int a1), some (.int a2), none] [] := by
  intro f
  induction f with
  | zero =>
    intro o8
    exact y_none
  | succ f ih =>
    intro o8
    rw [lX11_takeNumber_42.eq_2]
    refine y_aload_n (pc := 42) F dX11_takeNumber_42 rfl ?_
    refine y_get (pc := 43) F dX11_takeNumber_43 kF_X11_143 0 WM_at0 rfl ?_
    refine y_aload_n (pc := 46) F dX11_takeNumber_46 rfl ?_
    refine y_get (pc := 47) F dX11_takeNumber_47 kF_X11_137 0 WM_at0 rfl ?_
    refine y_icmp_ge (pc := 50) (tgt := 129) F dX11_takeNumber_50 rfl ?_ ?_
    · exact hK129 o8
    · refine y_aload_n (pc := 53) F dX11_takeNumber_53 rfl ?_
      refine y_get (pc := 54) F dX11_takeNumber_54 kF_X11_56 0 WM_at0 rfl ?_
      refine y_aload_n (pc := 57) F dX11_takeNumber_57 rfl ?_
      refine y_get (pc := 58) F dX11_takeNumber_58 kF_X11_143 0 WM_at0 rfl ?_
      refine y_iald (pc := 61) F dX11_takeNumber_61 16 WM_at16 ?_
      refine y_i2l (pc := 62) F dX11_takeNumber_62 ?_
      refine y_ldc2 (pc := 63) F dX11_takeNumber_63 kC_X11_169 ?_
      refine y_ldc2 (pc := 66) F dX11_takeNumber_66 kC_X11_171 ?_
      refine y_scalliP (As := [.long ((ga o8 21 ((gi o8 24).toNatClampNeg)).toInt64), .long (48 : Int64), .long (57 : Int64)]) (st := []) (pc := 69) F (c_X11_in (q := q) ((ga o8 21 ((gi o8 24).toNatClampNeg)).toInt64) (48 : Int64) (57 : Int64)) dX11_takeNumber_69 kM_X11_127 ⟨rfl, rfl⟩ ⟨Nat.le_of_ble_eq_true rfl, Nat.le_of_ble_eq_true rfl⟩ rfl rfl rfl (Nat.le_of_ble_eq_true rfl) (fun r9 => ?_)
      refine y_if_eq (pc := 72) (tgt := 129) F dX11_takeNumber_72 rfl ?_ ?_
      · exact hK129 o8
      · refine y_aload_n (pc := 75) F dX11_takeNumber_75 rfl ?_
        refine y_aload_n (pc := 76) F dX11_takeNumber_76 rfl ?_
        refine y_get (pc := 77) F dX11_takeNumber_77 kF_X11_180 0 WM_at0 rfl ?_
        refine y_sipush (v := 10000) (pc := 80) F dX11_takeNumber_80 rfl ?_
        refine y_jn (fun (K113 : Int32 → Option (Int32 × Ob)) => ∀ (x10 : Int32), zY X D out (K113 x10) (WM tA q o8) 113 [some (.ref (q 0)), some (.int a1), some (.int a2), none] [.int x10, .ref (q 0)]) ?_ ?_
        · intro x10
          refine y_put (pc := 113) F dX11_takeNumber_113 kF_X11_180 0 WM_at0 rfl rfl rfl (Nat.le_of_ble_eq_true rfl) (fun (o11 : Ob) => (WM tA q o11)) (WM_pt0_27 _) (fun o11 => ?_)
          refine y_aload_n (pc := 116) F dX11_takeNumber_116 rfl ?_
          refine y_dup (pc := 117) F dX11_takeNumber_117 rfl ?_
          refine y_get (pc := 118) F dX11_takeNumber_118 kF_X11_143 0 WM_at0 rfl ?_
          refine y_iconst (v := 1) (pc := 121) F dX11_takeNumber_121 rfl ?_
          refine y_iadd (pc := 122) F dX11_takeNumber_122 ?_
          refine y_put (pc := 123) F dX11_takeNumber_123 kF_X11_143 0 WM_at0 rfl rfl rfl (Nat.le_of_ble_eq_true rfl) (fun (o12 : Ob) => (WM tA q o12)) (WM_pt0_24 _) (fun o12 => ?_)
          refine y_goto (tgt := 42) (pc := 126) F dX11_takeNumber_126 rfl ?_
          exact ih o12
        intro K113 hK113
        refine y_icmp_le (pc := 83) (tgt := 93) F dX11_takeNumber_83 rfl ?_ ?_
        · refine y_bipush (v := 10) (pc := 93) F dX11_takeNumber_93 rfl ?_
          refine y_aload_n (pc := 95) F dX11_takeNumber_95 rfl ?_
          refine y_get (pc := 96) F dX11_takeNumber_96 kF_X11_180 0 WM_at0 rfl ?_
          refine y_imul (pc := 99) F dX11_takeNumber_99 ?_
          refine y_aload_n (pc := 100) F dX11_takeNumber_100 rfl ?_
          refine y_get (pc := 101) F dX11_takeNumber_101 kF_X11_56 0 WM_at0 rfl ?_
          refine y_aload_n (pc := 104) F dX11_takeNumber_104 rfl ?_
          refine y_get (pc := 105) F dX11_takeNumber_105 kF_X11_143 0 WM_at0 rfl ?_
          refine y_iald (pc := 108) F dX11_takeNumber_108 16 WM_at16 ?_
          refine y_iadd (pc := 109) F dX11_takeNumber_109 ?_
          refine y_bipush (v := 48) (pc := 110) F dX11_takeNumber_110 rfl ?_
          refine y_isub (pc := 112) F dX11_takeNumber_112 ?_
          exact hK113 (((((10 : Int32) * (gi o8 27)) + (ga o8 21 ((gi o8 24).toNatClampNeg))) - (48 : Int32)))
        · refine y_aload_n (pc := 86) F dX11_takeNumber_86 rfl ?_
          refine y_get (pc := 87) F dX11_takeNumber_87 kF_X11_180 0 WM_at0 rfl ?_
          refine y_goto (tgt := 113) (pc := 90) F dX11_takeNumber_90 rfl ?_
          exact hK113 ((gi o8 27))
set_option maxHeartbeats 4000000 in
set_option maxRecDepth 100000 in
theorem c_X11_takeNumber {q : Nat → Nat} (o : Ob) (a1 : Int32) (a2 : Int32) : zCi l D tA yX11_takeNumber cX11_takeNumber 4 .int rmX11_takeNumber [.ref (q 0), .int a1, .int a2] (WM tA q o) (fun (r : Int32 × Ob) => (r.1)) (fun (r : Int32 × Ob) => (WM tA q (r.2))) (pX11_takeNumber o a1 a2) := by
  refine zCi_of (lv0 := [some (.ref (q 0)), some (.int a1), some (.int a2), none]) (by decide +kernel) (Nat.le_of_ble_eq_true rfl) rfl (fun X out F hr => ?_)
  unfold pX11_takeNumber
  refine y_aload_n (pc := 0) F dX11_takeNumber_0 rfl ?_
  refine y_calliW (As := []) (st := []) (q0 := 0) (pc := 1) F (c_X11_here (q := q) o) dX11_takeNumber_1 kM_X11_146 ⟨rfl, rfl⟩ ⟨Nat.le_of_ble_eq_true rfl, Nat.le_of_ble_eq_true rfl⟩ rfl rfl rfl (Nat.le_of_ble_eq_true rfl) rfl rfl WM_at0 (fun r1 => ?_)
  refine y_istore_n (lv' := [some (.ref (q 0)), some (.int a1), some (.int a2), some (.int (r1.1))]) (pc := 4) F dX11_takeNumber_4 (Nat.le_of_ble_eq_true rfl) rfl rfl ?_
  refine y_iload_n (pc := 5) F dX11_takeNumber_5 rfl ?_
  refine y_i2l (pc := 6) F dX11_takeNumber_6 ?_
  refine y_ldc2 (pc := 7) F dX11_takeNumber_7 kC_X11_169 ?_
  refine y_ldc2 (pc := 10) F dX11_takeNumber_10 kC_X11_171 ?_
  refine y_scalliP (As := [.long ((r1.1).toInt64), .long (48 : Int64), .long (57 : Int64)]) (st := []) (pc := 13) F (c_X11_in (q := q) ((r1.1).toInt64) (48 : Int64) (57 : Int64)) dX11_takeNumber_13 kM_X11_127 ⟨rfl, rfl⟩ ⟨Nat.le_of_ble_eq_true rfl, Nat.le_of_ble_eq_true rfl⟩ rfl rfl rfl (Nat.le_of_ble_eq_true rfl) (fun r2 => ?_)
  refine y_if_ne (pc := 16) (tgt := 29) F dX11_takeNumber_16 rfl ?_ ?_
  · refine y_aload_n (pc := 19) F dX11_takeNumber_19 rfl ?_
    refine y_iconst (v := 1) (pc := 20) F dX11_takeNumber_20 rfl ?_
    refine y_aload_n (pc := 21) F dX11_takeNumber_21 rfl ?_
    refine y_get (pc := 22) F dX11_takeNumber_22 kF_X11_143 0 WM_at0 rfl ?_
    refine y_calliW (As := [.int (1 : Int32), .int (gi (r1.2) 24)]) (st := []) (q0 := 0) (pc := 25) F (c_X11_fails (q := q) (r1.2) (1 : Int32) (gi (r1.2) 24)) dX11_takeNumber_25 kM_X11_173 ⟨rfl, rfl⟩ ⟨Nat.le_of_ble_eq_true rfl, Nat.le_of_ble_eq_true rfl⟩ rfl rfl rfl (Nat.le_of_ble_eq_true rfl) rfl rfl WM_at0 (fun r13 => ?_)
    exact y_iret hr dX11_takeNumber_28 rfl rfl
  · refine y_aload_n (pc := 29) F dX11_takeNumber_29 rfl ?_
    refine y_aload_n (pc := 30) F dX11_takeNumber_30 rfl ?_
    refine y_get (pc := 31) F dX11_takeNumber_31 kF_X11_143 0 WM_at0 rfl ?_
    refine y_put (pc := 34) F dX11_takeNumber_34 kF_X11_177 0 WM_at0 rfl rfl rfl (Nat.le_of_ble_eq_true rfl) (fun (o3 : Ob) => (WM tA q o3)) (WM_pt0_28 _) (fun o3 => ?_)
    refine y_aload_n (pc := 37) F dX11_takeNumber_37 rfl ?_
    refine y_iconst (v := 0) (pc := 38) F dX11_takeNumber_38 rfl ?_
    refine y_put (pc := 39) F dX11_takeNumber_39 kF_X11_180 0 WM_at0 rfl rfl rfl (Nat.le_of_ble_eq_true rfl) (fun (o4 : Ob) => (WM tA q o4)) (WM_pt0_27 _) (fun o4 => ?_)
    refine y_jn (fun (K129 : Ob → Option (Int32 × Ob)) => ∀ (o5 : Ob), zY X D out (K129 o5) (WM tA q o5) 129 [some (.ref (q 0)), some (.int a1), some (.int a2), none] []) ?_ ?_
    · intro o5
      refine y_aload_n (pc := 129) F dX11_takeNumber_129 rfl ?_
      refine y_get (pc := 130) F dX11_takeNumber_130 kF_X11_143 0 WM_at0 rfl ?_
      refine y_aload_n (pc := 133) F dX11_takeNumber_133 rfl ?_
      refine y_get (pc := 134) F dX11_takeNumber_134 kF_X11_177 0 WM_at0 rfl ?_
      refine y_isub (pc := 137) F dX11_takeNumber_137 ?_
      refine y_iconst (v := 3) (pc := 138) F dX11_takeNumber_138 rfl ?_
      refine y_jn (fun (K157 : Option (Int32 × Ob)) => zY X D out (K157) (WM tA q o5) 157 [some (.ref (q 0)), none, none, none] []) ?_ ?_
      · skip
        refine y_aload_n (pc := 157) F dX11_takeNumber_157 rfl ?_
        refine y_iconst (v := 2) (pc := 158) F dX11_takeNumber_158 rfl ?_
        refine y_aload_n (pc := 159) F dX11_takeNumber_159 rfl ?_
        refine y_get (pc := 160) F dX11_takeNumber_160 kF_X11_177 0 WM_at0 rfl ?_
        refine y_calliW (As := [.int (2 : Int32), .int (gi o5 28)]) (st := []) (q0 := 0) (pc := 163) F (c_X11_fails (q := q) o5 (2 : Int32) (gi o5 28)) dX11_takeNumber_163 kM_X11_173 ⟨rfl, rfl⟩ ⟨Nat.le_of_ble_eq_true rfl, Nat.le_of_ble_eq_true rfl⟩ rfl rfl rfl (Nat.le_of_ble_eq_true rfl) rfl rfl WM_at0 (fun r6 => ?_)
        refine y_goto (tgt := 170) (pc := 166) F dX11_takeNumber_166 rfl ?_
        exact y_iret hr dX11_takeNumber_170 rfl rfl
      intro K157 hK157
      refine y_icmp_gt (pc := 139) (tgt := 157) F dX11_takeNumber_139 rfl ?_ ?_
      · refine y_le (lv' := [some (.ref (q 0)), none, none, none]) ⟨rfl, trivial⟩ ?_
        exact hK157
      · refine y_aload_n (pc := 142) F dX11_takeNumber_142 rfl ?_
        refine y_get (pc := 143) F dX11_takeNumber_143 kF_X11_180 0 WM_at0 rfl ?_
        refine y_i2l (pc := 146) F dX11_takeNumber_146 ?_
        refine y_iload_n (pc := 147) F dX11_takeNumber_147 rfl ?_
        refine y_i2l (pc := 148) F dX11_takeNumber_148 ?_
        refine y_iload_n (pc := 149) F dX11_takeNumber_149 rfl ?_
        refine y_i2l (pc := 150) F dX11_takeNumber_150 ?_
        refine y_scalliP (As := [.long ((gi o5 27).toInt64), .long (a1.toInt64), .long (a2.toInt64)]) (st := []) (pc := 151) F (c_X11_in (q := q) ((gi o5 27).toInt64) (a1.toInt64) (a2.toInt64)) dX11_takeNumber_151 kM_X11_127 ⟨rfl, rfl⟩ ⟨Nat.le_of_ble_eq_true rfl, Nat.le_of_ble_eq_true rfl⟩ rfl rfl rfl (Nat.le_of_ble_eq_true rfl) (fun r7 => ?_)
        refine y_if_ne (pc := 154) (tgt := 169) F dX11_takeNumber_154 rfl ?_ ?_
        · refine y_le (lv' := [some (.ref (q 0)), none, none, none]) ⟨rfl, trivial⟩ ?_
          exact hK157
        · refine y_iconst (v := 0) (pc := 169) F dX11_takeNumber_169 rfl ?_
          exact y_iret hr dX11_takeNumber_170 rfl rfl
    intro K129 hK129
    refine y_le (lv' := [some (.ref (q 0)), some (.int a1), some (.int a2), none]) ⟨rfl, ⟨rfl, ⟨rfl, trivial⟩⟩⟩ ?_
    exact wlX11_takeNumber_42 q a1 a2 F hr hK129 zfu o4
abbrev rmX11_takeStop : Room := { frames := 1, cells := 0, slots := 0, locals := 22 }
def pX11_takeStop (o : Ob) : Option (Int32 × Ob) :=
  Option.bind (pX11_here o) fun (r1 : Int32 × Ob) =>
  if (r1.1) = (59 : Int32) then (zlet (si (r1.2) 24 ((gi (r1.2) 24) + (1 : Int32))) fun (o2 : Ob) =>
  some ((0 : Int32), o2))
  else (Option.bind (pX11_fails (r1.2) (1 : Int32) (gi (r1.2) 24)) fun (r3 : Int32 × Ob) =>
  some ((r3.1), (r3.2)))
set_option maxHeartbeats 4000000 in
set_option maxRecDepth 100000 in
theorem c_X11_takeStop {q : Nat → Nat} (o : Ob) : zCi l D tA yX11_takeStop cX11_takeStop 1 .int rmX11_takeStop [.ref (q 0)] (WM tA q o) (fun (r : Int32 × Ob) => (r.1)) (fun (r : Int32 × Ob) => (WM tA q (r.2))) (pX11_takeStop o) := by
  refine zCi_of (lv0 := [some (.ref (q 0))]) (by decide +kernel) (Nat.le_of_ble_eq_true rfl) rfl (fun X out F hr => ?_)
  unfold pX11_takeStop
  refine y_aload_n (pc := 0) F dX11_takeStop_0 rfl ?_
  refine y_calliW (As := []) (st := []) (q0 := 0) (pc := 1) F (c_X11_here (q := q) o) dX11_takeStop_1 kM_X11_146 ⟨rfl, rfl⟩ ⟨Nat.le_of_ble_eq_true rfl, Nat.le_of_ble_eq_true rfl⟩ rfl rfl rfl (Nat.le_of_ble_eq_true rfl) rfl rfl WM_at0 (fun r1 => ?_)
  refine y_bipush (v := 59) (pc := 4) F dX11_takeStop_4 rfl ?_
  refine y_icmp_eq (pc := 6) (tgt := 19) F dX11_takeStop_6 rfl ?_ ?_
  · refine y_aload_n (pc := 19) F dX11_takeStop_19 rfl ?_
    refine y_dup (pc := 20) F dX11_takeStop_20 rfl ?_
    refine y_get (pc := 21) F dX11_takeStop_21 kF_X11_143 0 WM_at0 rfl ?_
    refine y_iconst (v := 1) (pc := 24) F dX11_takeStop_24 rfl ?_
    refine y_iadd (pc := 25) F dX11_takeStop_25 ?_
    refine y_put (pc := 26) F dX11_takeStop_26 kF_X11_143 0 WM_at0 rfl rfl rfl (Nat.le_of_ble_eq_true rfl) (fun (o2 : Ob) => (WM tA q o2)) (WM_pt0_24 _) (fun o2 => ?_)
    refine y_iconst (v := 0) (pc := 29) F dX11_takeStop_29 rfl ?_
    exact y_iret hr dX11_takeStop_30 rfl rfl
  · refine y_aload_n (pc := 9) F dX11_takeStop_9 rfl ?_
    refine y_iconst (v := 1) (pc := 10) F dX11_takeStop_10 rfl ?_
    refine y_aload_n (pc := 11) F dX11_takeStop_11 rfl ?_
    refine y_get (pc := 12) F dX11_takeStop_12 kF_X11_143 0 WM_at0 rfl ?_
    refine y_calliW (As := [.int (1 : Int32), .int (gi (r1.2) 24)]) (st := []) (q0 := 0) (pc := 15) F (c_X11_fails (q := q) (r1.2) (1 : Int32) (gi (r1.2) 24)) dX11_takeStop_15 kM_X11_173 ⟨rfl, rfl⟩ ⟨Nat.le_of_ble_eq_true rfl, Nat.le_of_ble_eq_true rfl⟩ rfl rfl rfl (Nat.le_of_ble_eq_true rfl) rfl rfl WM_at0 (fun r3 => ?_)
    exact y_iret hr dX11_takeStop_18 rfl rfl
abbrev rmX11_takeSuit : Room := { frames := 2, cells := 0, slots := 0, locals := 48 }
def pX11_takeSuit (o : Ob) : Option (Int32 × Ob) :=
  Option.bind (pX11_takeNumber o (1 : Int32) (999 : Int32)) fun (r1 : Int32 × Ob) =>
  zgd (gi (r1.2) 29) 6 <| zlet (sa (r1.2) 30 (upd (ga (r1.2) 30) ((gi (r1.2) 29).toNatClampNeg) (gi (r1.2) 27))) fun (o2 : Ob) =>
  zjn (fun (x3 : Int32) (o4 : Ob) =>
  zgd (gi o4 29) 6 <| zlet (sa o4 31 (upd (ga o4 31) ((gi o4 29).toNatClampNeg) (gi o4 27))) fun (o5 : Ob) =>
  zgd (gi o5 29) 6 <| zlet (sa o5 32 (upd (ga o5 32) ((gi o5 29).toNatClampNeg) (-1 : Int32))) fun (o6 : Ob) =>
  zjn (fun (x7 : Int32) (o8 : Ob) =>
  zlet (si o8 29 ((gi o8 29) + (1 : Int32))) fun (o9 : Ob) =>
  some (x7, o9)) fun (K114 : Int32 → Ob → Option (Int32 × Ob)) =>
  if x3 = 0 then (Option.bind (pX11_readWord o6) fun (r10 : Ob) =>
  if (gl r10 25) = (419 : Int64) then (zlet (si r10 24 (gi r10 26)) fun (o11 : Ob) =>
  Option.bind (pX11_takeNumber o11 (0 : Int32) ((gi o11 29) - (1 : Int32))) fun (r12 : Int32 × Ob) =>
  zgd (gi (r12.2) 29) 6 <| zlet (sa (r12.2) 32 (upd (ga (r12.2) 32) ((gi (r12.2) 29).toNatClampNeg) (gi (r12.2) 27))) fun (o13 : Ob) =>
  K114 (r12.1) o13)
  else (K114 x3 r10))
  else (K114 x3 o6)) fun (K38 : Int32 → Ob → Option (Int32 × Ob)) =>
  if (r1.1) ≤ 0 then (Option.bind (pX11_takeNumber o2 (1 : Int32) (399 : Int32)) fun (r14 : Int32 × Ob) =>
  K38 (r14.1) (r14.2))
  else (K38 (r1.1) o2)
set_option maxHeartbeats 4000000 in
set_option maxRecDepth 100000 in
theorem c_X11_takeSuit {q : Nat → Nat} (o : Ob) : zCi l D tA yX11_takeSuit cX11_takeSuit 2 .int rmX11_takeSuit [.ref (q 0)] (WM tA q o) (fun (r : Int32 × Ob) => (r.1)) (fun (r : Int32 × Ob) => (WM tA q (r.2))) (pX11_takeSuit o) := by
  refine zCi_of (lv0 := [some (.ref (q 0)), none]) (by decide +kernel) (Nat.le_of_ble_eq_true rfl) rfl (fun X out F hr => ?_)
  unfold pX11_takeSuit
  refine y_aload_n (pc := 0) F dX11_takeSuit_0 rfl ?_
  refine y_iconst (v := 1) (pc := 1) F dX11_takeSuit_1 rfl ?_
  refine y_sipush (v := 999) (pc := 2) F dX11_takeSuit_2 rfl ?_
  refine y_calliW (As := [.int (1 : Int32), .int (999 : Int32)]) (st := []) (q0 := 0) (pc := 5) F (c_X11_takeNumber (q := q) o (1 : Int32) (999 : Int32)) dX11_takeSuit_5 kM_X11_183 ⟨rfl, rfl⟩ ⟨Nat.le_of_ble_eq_true rfl, Nat.le_of_ble_eq_true rfl⟩ rfl rfl rfl (Nat.le_of_ble_eq_true rfl) rfl rfl WM_at0 (fun r1 => ?_)
  refine y_istore_n (lv' := [some (.ref (q 0)), some (.int (r1.1))]) (pc := 8) F dX11_takeSuit_8 (Nat.le_of_ble_eq_true rfl) rfl rfl ?_
  refine y_aload_n (pc := 9) F dX11_takeSuit_9 rfl ?_
  refine y_get (pc := 10) F dX11_takeSuit_10 kF_X11_63 0 WM_at0 rfl ?_
  refine y_aload_n (pc := 13) F dX11_takeSuit_13 rfl ?_
  refine y_get (pc := 14) F dX11_takeSuit_14 kF_X11_186 0 WM_at0 rfl ?_
  refine y_aload_n (pc := 17) F dX11_takeSuit_17 rfl ?_
  refine y_get (pc := 18) F dX11_takeSuit_18 kF_X11_180 0 WM_at0 rfl ?_
  refine y_iast (pc := 21) F dX11_takeSuit_21 17 WM_at17 (fun (o2 : Ob) => (WM tA q o2)) (WM_ar17 _) (fun o2 => ?_)
  refine y_iload_n (pc := 22) F dX11_takeSuit_22 rfl ?_
  refine y_jn (fun (K38 : Int32 → Ob → Option (Int32 × Ob)) => ∀ (x3 : Int32) (o4 : Ob), zY X D out (K38 x3 o4) (WM tA q o4) 38 [some (.ref (q 0)), none] [.int x3]) ?_ ?_
  · intro x3 o4
    refine y_istore_n (lv' := [some (.ref (q 0)), some (.int x3)]) (pc := 38) F dX11_takeSuit_38 (Nat.le_of_ble_eq_true rfl) rfl rfl ?_
    refine y_aload_n (pc := 39) F dX11_takeSuit_39 rfl ?_
    refine y_get (pc := 40) F dX11_takeSuit_40 kF_X11_66 0 WM_at0 rfl ?_
    refine y_aload_n (pc := 43) F dX11_takeSuit_43 rfl ?_
    refine y_get (pc := 44) F dX11_takeSuit_44 kF_X11_186 0 WM_at0 rfl ?_
    refine y_aload_n (pc := 47) F dX11_takeSuit_47 rfl ?_
    refine y_get (pc := 48) F dX11_takeSuit_48 kF_X11_180 0 WM_at0 rfl ?_
    refine y_iast (pc := 51) F dX11_takeSuit_51 18 WM_at18 (fun (o5 : Ob) => (WM tA q o5)) (WM_ar18 _) (fun o5 => ?_)
    refine y_aload_n (pc := 52) F dX11_takeSuit_52 rfl ?_
    refine y_get (pc := 53) F dX11_takeSuit_53 kF_X11_69 0 WM_at0 rfl ?_
    refine y_aload_n (pc := 56) F dX11_takeSuit_56 rfl ?_
    refine y_get (pc := 57) F dX11_takeSuit_57 kF_X11_186 0 WM_at0 rfl ?_
    refine y_iconst (v := -1) (pc := 60) F dX11_takeSuit_60 rfl ?_
    refine y_iast (pc := 61) F dX11_takeSuit_61 19 WM_at19 (fun (o6 : Ob) => (WM tA q o6)) (WM_ar19 _) (fun o6 => ?_)
    refine y_iload_n (pc := 62) F dX11_takeSuit_62 rfl ?_
    refine y_jn (fun (K114 : Int32 → Ob → Option (Int32 × Ob)) => ∀ (x7 : Int32) (o8 : Ob), zY X D out (K114 x7 o8) (WM tA q o8) 114 [some (.ref (q 0)), some (.int x7)] []) ?_ ?_
    · intro x7 o8
      refine y_aload_n (pc := 114) F dX11_takeSuit_114 rfl ?_
      refine y_dup (pc := 115) F dX11_takeSuit_115 rfl ?_
      refine y_get (pc := 116) F dX11_takeSuit_116 kF_X11_186 0 WM_at0 rfl ?_
      refine y_iconst (v := 1) (pc := 119) F dX11_takeSuit_119 rfl ?_
      refine y_iadd (pc := 120) F dX11_takeSuit_120 ?_
      refine y_put (pc := 121) F dX11_takeSuit_121 kF_X11_186 0 WM_at0 rfl rfl rfl (Nat.le_of_ble_eq_true rfl) (fun (o9 : Ob) => (WM tA q o9)) (WM_pt0_29 _) (fun o9 => ?_)
      refine y_iload_n (pc := 124) F dX11_takeSuit_124 rfl ?_
      exact y_iret hr dX11_takeSuit_125 rfl rfl
    intro K114 hK114
    refine y_if_ne (pc := 63) (tgt := 114) F dX11_takeSuit_63 rfl ?_ ?_
    · refine y_aload_n (pc := 66) F dX11_takeSuit_66 rfl ?_
      refine y_callvW (As := []) (st := []) (q0 := 0) (pc := 67) F (c_X11_readWord (q := q) o6) dX11_takeSuit_67 kM_X11_189 ⟨rfl, rfl⟩ ⟨Nat.le_of_ble_eq_true rfl, Nat.le_of_ble_eq_true rfl⟩ rfl rfl rfl (Nat.le_of_ble_eq_true rfl) rfl rfl WM_at0 (fun r10 => ?_)
      refine y_aload_n (pc := 70) F dX11_takeSuit_70 rfl ?_
      refine y_get (pc := 71) F dX11_takeSuit_71 kF_X11_150 0 WM_at0 rfl ?_
      refine y_ldc2 (pc := 74) F dX11_takeSuit_74 kC_X11_192 ?_
      refine y_lcmp_ne (pc := 77) (tgt := 114) F dX11_takeSuit_77 dX11_takeSuit_78 rfl ?_ ?_
      · refine y_aload_n (pc := 81) F dX11_takeSuit_81 rfl ?_
        refine y_aload_n (pc := 82) F dX11_takeSuit_82 rfl ?_
        refine y_get (pc := 83) F dX11_takeSuit_83 kF_X11_154 0 WM_at0 rfl ?_
        refine y_put (pc := 86) F dX11_takeSuit_86 kF_X11_143 0 WM_at0 rfl rfl rfl (Nat.le_of_ble_eq_true rfl) (fun (o11 : Ob) => (WM tA q o11)) (WM_pt0_24 _) (fun o11 => ?_)
        refine y_aload_n (pc := 89) F dX11_takeSuit_89 rfl ?_
        refine y_iconst (v := 0) (pc := 90) F dX11_takeSuit_90 rfl ?_
        refine y_aload_n (pc := 91) F dX11_takeSuit_91 rfl ?_
        refine y_get (pc := 92) F dX11_takeSuit_92 kF_X11_186 0 WM_at0 rfl ?_
        refine y_iconst (v := 1) (pc := 95) F dX11_takeSuit_95 rfl ?_
        refine y_isub (pc := 96) F dX11_takeSuit_96 ?_
        refine y_calliW (As := [.int (0 : Int32), .int ((gi o11 29) - (1 : Int32))]) (st := []) (q0 := 0) (pc := 97) F (c_X11_takeNumber (q := q) o11 (0 : Int32) ((gi o11 29) - (1 : Int32))) dX11_takeSuit_97 kM_X11_183 ⟨rfl, rfl⟩ ⟨Nat.le_of_ble_eq_true rfl, Nat.le_of_ble_eq_true rfl⟩ rfl rfl rfl (Nat.le_of_ble_eq_true rfl) rfl rfl WM_at0 (fun r12 => ?_)
        refine y_istore_n (lv' := [some (.ref (q 0)), some (.int (r12.1))]) (pc := 100) F dX11_takeSuit_100 (Nat.le_of_ble_eq_true rfl) rfl rfl ?_
        refine y_aload_n (pc := 101) F dX11_takeSuit_101 rfl ?_
        refine y_get (pc := 102) F dX11_takeSuit_102 kF_X11_69 0 WM_at0 rfl ?_
        refine y_aload_n (pc := 105) F dX11_takeSuit_105 rfl ?_
        refine y_get (pc := 106) F dX11_takeSuit_106 kF_X11_186 0 WM_at0 rfl ?_
        refine y_aload_n (pc := 109) F dX11_takeSuit_109 rfl ?_
        refine y_get (pc := 110) F dX11_takeSuit_110 kF_X11_180 0 WM_at0 rfl ?_
        refine y_iast (pc := 113) F dX11_takeSuit_113 19 WM_at19 (fun (o13 : Ob) => (WM tA q o13)) (WM_ar19 _) (fun o13 => ?_)
        exact hK114 (r12.1) o13
      · exact hK114 x3 r10
    · exact hK114 x3 o6
  intro K38 hK38
  refine y_if_le (pc := 23) (tgt := 30) F dX11_takeSuit_23 rfl ?_ ?_
  · refine y_aload_n (pc := 30) F dX11_takeSuit_30 rfl ?_
    refine y_iconst (v := 1) (pc := 31) F dX11_takeSuit_31 rfl ?_
    refine y_sipush (v := 399) (pc := 32) F dX11_takeSuit_32 rfl ?_
    refine y_calliW (As := [.int (1 : Int32), .int (399 : Int32)]) (st := []) (q0 := 0) (pc := 35) F (c_X11_takeNumber (q := q) o2 (1 : Int32) (399 : Int32)) dX11_takeSuit_35 kM_X11_183 ⟨rfl, rfl⟩ ⟨Nat.le_of_ble_eq_true rfl, Nat.le_of_ble_eq_true rfl⟩ rfl rfl rfl (Nat.le_of_ble_eq_true rfl) rfl rfl WM_at0 (fun r14 => ?_)
    refine y_le (lv' := [some (.ref (q 0)), none]) ⟨rfl, trivial⟩ ?_
    exact hK38 (r14.1) (r14.2)
  · refine y_iload_n (pc := 26) F dX11_takeSuit_26 rfl ?_
    refine y_goto (tgt := 38) (pc := 27) F dX11_takeSuit_27 rfl ?_
    refine y_le (lv' := [some (.ref (q 0)), none]) ⟨rfl, trivial⟩ ?_
    exact hK38 (r1.1) o2
abbrev rmX11_takeKind : Room := { frames := 2, cells := 0, slots := 0, locals := 46 }
def pX11_takeKind (o : Ob) : Option (Int32 × Ob) :=
  Option.bind (pX11_readWord o) fun (r1 : Ob) =>
  Option.bind (pX11_code (115 : Int32) (119 : Int32) (111 : Int32) (114 : Int32)) fun (r2 : Int64) =>
  Option.bind (pX11_longer r2 (110 : Int32)) fun (r3 : Int64) =>
  zjn (fun (x4 : Int32) =>
  if 0 ≤ x4 then (zgd (gi r1 33) 12 <| zlet (sa r1 36 (upd (ga r1 36) ((gi r1 33).toNatClampNeg) x4)) fun (o5 : Ob) =>
  zlet (si o5 24 (gi o5 26)) fun (o6 : Ob) =>
  some ((0 : Int32), o6))
  else (Option.bind (pX11_fails r1 (1 : Int32) (gi r1 24)) fun (r7 : Int32 × Ob) =>
  some ((r7.1), (r7.2)))) fun (K132 : Int32 → Option (Int32 × Ob)) =>
  if (gl r1 25) = r3 then (K132 (0 : Int32))
  else (Option.bind (pX11_code (99 : Int32) (111 : Int32) (112 : Int32) (105 : Int32)) fun (r8 : Int64) =>
  Option.bind (pX11_longer r8 (101 : Int32)) fun (r9 : Int64) =>
  Option.bind (pX11_longer r9 (100 : Int32)) fun (r10 : Int64) =>
  if (gl r1 25) = r10 then (K132 (1 : Int32))
  else (Option.bind (pX11_code (115 : Int32) (104 : Int32) (111 : Int32) (119 : Int32)) fun (r11 : Int64) =>
  Option.bind (pX11_longer r11 (110 : Int32)) fun (r12 : Int64) =>
  if (gl r1 25) = r12 then (K132 (2 : Int32))
  else (Option.bind (pX11_code (97 : Int32) (103 : Int32) (97 : Int32) (105 : Int32)) fun (r13 : Int64) =>
  Option.bind (pX11_longer r13 (110 : Int32)) fun (r14 : Int64) =>
  Option.bind (pX11_longer r14 (115 : Int32)) fun (r15 : Int64) =>
  Option.bind (pX11_longer r15 (116 : Int32)) fun (r16 : Int64) =>
  if (gl r1 25) = r16 then (K132 (3 : Int32))
  else (K132 (-1 : Int32)))))
set_option maxHeartbeats 4000000 in
set_option maxRecDepth 100000 in
theorem c_X11_takeKind {q : Nat → Nat} (o : Ob) : zCi l D tA yX11_takeKind cX11_takeKind 2 .int rmX11_takeKind [.ref (q 0)] (WM tA q o) (fun (r : Int32 × Ob) => (r.1)) (fun (r : Int32 × Ob) => (WM tA q (r.2))) (pX11_takeKind o) := by
  refine zCi_of (lv0 := [some (.ref (q 0)), none]) (by decide +kernel) (Nat.le_of_ble_eq_true rfl) rfl (fun X out F hr => ?_)
  unfold pX11_takeKind
  refine y_aload_n (pc := 0) F dX11_takeKind_0 rfl ?_
  refine y_callvW (As := []) (st := []) (q0 := 0) (pc := 1) F (c_X11_readWord (q := q) o) dX11_takeKind_1 kM_X11_189 ⟨rfl, rfl⟩ ⟨Nat.le_of_ble_eq_true rfl, Nat.le_of_ble_eq_true rfl⟩ rfl rfl rfl (Nat.le_of_ble_eq_true rfl) rfl rfl WM_at0 (fun r1 => ?_)
  refine y_aload_n (pc := 4) F dX11_takeKind_4 rfl ?_
  refine y_get (pc := 5) F dX11_takeKind_5 kF_X11_150 0 WM_at0 rfl ?_
  refine y_bipush (v := 115) (pc := 8) F dX11_takeKind_8 rfl ?_
  refine y_bipush (v := 119) (pc := 10) F dX11_takeKind_10 rfl ?_
  refine y_bipush (v := 111) (pc := 12) F dX11_takeKind_12 rfl ?_
  refine y_bipush (v := 114) (pc := 14) F dX11_takeKind_14 rfl ?_
  refine y_scalllP (As := [.int (115 : Int32), .int (119 : Int32), .int (111 : Int32), .int (114 : Int32)]) (st := [.long (gl r1 25)]) (pc := 16) F (c_X11_code (q := q) (115 : Int32) (119 : Int32) (111 : Int32) (114 : Int32)) dX11_takeKind_16 kM_X11_194 ⟨rfl, rfl⟩ ⟨Nat.le_of_ble_eq_true rfl, Nat.le_of_ble_eq_true rfl⟩ rfl rfl rfl (Nat.le_of_ble_eq_true rfl) (fun r2 => ?_)
  refine y_bipush (v := 110) (pc := 19) F dX11_takeKind_19 rfl ?_
  refine y_scalllP (As := [.long r2, .int (110 : Int32)]) (st := [.long (gl r1 25)]) (pc := 21) F (c_X11_longer (q := q) r2 (110 : Int32)) dX11_takeKind_21 kM_X11_198 ⟨rfl, rfl⟩ ⟨Nat.le_of_ble_eq_true rfl, Nat.le_of_ble_eq_true rfl⟩ rfl rfl rfl (Nat.le_of_ble_eq_true rfl) (fun r3 => ?_)
  refine y_jn (fun (K132 : Int32 → Option (Int32 × Ob)) => ∀ (x4 : Int32), zY X D out (K132 x4) (WM tA q r1) 132 [some (.ref (q 0)), none] [.int x4]) ?_ ?_
  · intro x4
    refine y_istore_n (lv' := [some (.ref (q 0)), some (.int x4)]) (pc := 132) F dX11_takeKind_132 (Nat.le_of_ble_eq_true rfl) rfl rfl ?_
    refine y_iload_n (pc := 133) F dX11_takeKind_133 rfl ?_
    refine y_if_ge (pc := 134) (tgt := 147) F dX11_takeKind_134 rfl ?_ ?_
    · refine y_aload_n (pc := 147) F dX11_takeKind_147 rfl ?_
      refine y_get (pc := 148) F dX11_takeKind_148 kF_X11_78 0 WM_at0 rfl ?_
      refine y_aload_n (pc := 151) F dX11_takeKind_151 rfl ?_
      refine y_get (pc := 152) F dX11_takeKind_152 kF_X11_202 0 WM_at0 rfl ?_
      refine y_iload_n (pc := 155) F dX11_takeKind_155 rfl ?_
      refine y_iast (pc := 156) F dX11_takeKind_156 22 WM_at22 (fun (o5 : Ob) => (WM tA q o5)) (WM_ar22 _) (fun o5 => ?_)
      refine y_aload_n (pc := 157) F dX11_takeKind_157 rfl ?_
      refine y_aload_n (pc := 158) F dX11_takeKind_158 rfl ?_
      refine y_get (pc := 159) F dX11_takeKind_159 kF_X11_154 0 WM_at0 rfl ?_
      refine y_put (pc := 162) F dX11_takeKind_162 kF_X11_143 0 WM_at0 rfl rfl rfl (Nat.le_of_ble_eq_true rfl) (fun (o6 : Ob) => (WM tA q o6)) (WM_pt0_24 _) (fun o6 => ?_)
      refine y_iconst (v := 0) (pc := 165) F dX11_takeKind_165 rfl ?_
      exact y_iret hr dX11_takeKind_166 rfl rfl
    · refine y_aload_n (pc := 137) F dX11_takeKind_137 rfl ?_
      refine y_iconst (v := 1) (pc := 138) F dX11_takeKind_138 rfl ?_
      refine y_aload_n (pc := 139) F dX11_takeKind_139 rfl ?_
      refine y_get (pc := 140) F dX11_takeKind_140 kF_X11_143 0 WM_at0 rfl ?_
      refine y_calliW (As := [.int (1 : Int32), .int (gi r1 24)]) (st := []) (q0 := 0) (pc := 143) F (c_X11_fails (q := q) r1 (1 : Int32) (gi r1 24)) dX11_takeKind_143 kM_X11_173 ⟨rfl, rfl⟩ ⟨Nat.le_of_ble_eq_true rfl, Nat.le_of_ble_eq_true rfl⟩ rfl rfl rfl (Nat.le_of_ble_eq_true rfl) rfl rfl WM_at0 (fun r7 => ?_)
      exact y_iret hr dX11_takeKind_146 rfl rfl
  intro K132 hK132
  refine y_lcmp_ne (pc := 24) (tgt := 32) F dX11_takeKind_24 dX11_takeKind_25 rfl ?_ ?_
  · refine y_iconst (v := 0) (pc := 28) F dX11_takeKind_28 rfl ?_
    refine y_goto (tgt := 132) (pc := 29) F dX11_takeKind_29 rfl ?_
    exact hK132 (0 : Int32)
  · refine y_aload_n (pc := 32) F dX11_takeKind_32 rfl ?_
    refine y_get (pc := 33) F dX11_takeKind_33 kF_X11_150 0 WM_at0 rfl ?_
    refine y_bipush (v := 99) (pc := 36) F dX11_takeKind_36 rfl ?_
    refine y_bipush (v := 111) (pc := 38) F dX11_takeKind_38 rfl ?_
    refine y_bipush (v := 112) (pc := 40) F dX11_takeKind_40 rfl ?_
    refine y_bipush (v := 105) (pc := 42) F dX11_takeKind_42 rfl ?_
    refine y_scalllP (As := [.int (99 : Int32), .int (111 : Int32), .int (112 : Int32), .int (105 : Int32)]) (st := [.long (gl r1 25)]) (pc := 44) F (c_X11_code (q := q) (99 : Int32) (111 : Int32) (112 : Int32) (105 : Int32)) dX11_takeKind_44 kM_X11_194 ⟨rfl, rfl⟩ ⟨Nat.le_of_ble_eq_true rfl, Nat.le_of_ble_eq_true rfl⟩ rfl rfl rfl (Nat.le_of_ble_eq_true rfl) (fun r8 => ?_)
    refine y_bipush (v := 101) (pc := 47) F dX11_takeKind_47 rfl ?_
    refine y_scalllP (As := [.long r8, .int (101 : Int32)]) (st := [.long (gl r1 25)]) (pc := 49) F (c_X11_longer (q := q) r8 (101 : Int32)) dX11_takeKind_49 kM_X11_198 ⟨rfl, rfl⟩ ⟨Nat.le_of_ble_eq_true rfl, Nat.le_of_ble_eq_true rfl⟩ rfl rfl rfl (Nat.le_of_ble_eq_true rfl) (fun r9 => ?_)
    refine y_bipush (v := 100) (pc := 52) F dX11_takeKind_52 rfl ?_
    refine y_scalllP (As := [.long r9, .int (100 : Int32)]) (st := [.long (gl r1 25)]) (pc := 54) F (c_X11_longer (q := q) r9 (100 : Int32)) dX11_takeKind_54 kM_X11_198 ⟨rfl, rfl⟩ ⟨Nat.le_of_ble_eq_true rfl, Nat.le_of_ble_eq_true rfl⟩ rfl rfl rfl (Nat.le_of_ble_eq_true rfl) (fun r10 => ?_)
    refine y_lcmp_ne (pc := 57) (tgt := 65) F dX11_takeKind_57 dX11_takeKind_58 rfl ?_ ?_
    · refine y_iconst (v := 1) (pc := 61) F dX11_takeKind_61 rfl ?_
      refine y_goto (tgt := 132) (pc := 62) F dX11_takeKind_62 rfl ?_
      exact hK132 (1 : Int32)
    · refine y_aload_n (pc := 65) F dX11_takeKind_65 rfl ?_
      refine y_get (pc := 66) F dX11_takeKind_66 kF_X11_150 0 WM_at0 rfl ?_
      refine y_bipush (v := 115) (pc := 69) F dX11_takeKind_69 rfl ?_
      refine y_bipush (v := 104) (pc := 71) F dX11_takeKind_71 rfl ?_
      refine y_bipush (v := 111) (pc := 73) F dX11_takeKind_73 rfl ?_
      refine y_bipush (v := 119) (pc := 75) F dX11_takeKind_75 rfl ?_
      refine y_scalllP (As := [.int (115 : Int32), .int (104 : Int32), .int (111 : Int32), .int (119 : Int32)]) (st := [.long (gl r1 25)]) (pc := 77) F (c_X11_code (q := q) (115 : Int32) (104 : Int32) (111 : Int32) (119 : Int32)) dX11_takeKind_77 kM_X11_194 ⟨rfl, rfl⟩ ⟨Nat.le_of_ble_eq_true rfl, Nat.le_of_ble_eq_true rfl⟩ rfl rfl rfl (Nat.le_of_ble_eq_true rfl) (fun r11 => ?_)
      refine y_bipush (v := 110) (pc := 80) F dX11_takeKind_80 rfl ?_
      refine y_scalllP (As := [.long r11, .int (110 : Int32)]) (st := [.long (gl r1 25)]) (pc := 82) F (c_X11_longer (q := q) r11 (110 : Int32)) dX11_takeKind_82 kM_X11_198 ⟨rfl, rfl⟩ ⟨Nat.le_of_ble_eq_true rfl, Nat.le_of_ble_eq_true rfl⟩ rfl rfl rfl (Nat.le_of_ble_eq_true rfl) (fun r12 => ?_)
      refine y_lcmp_ne (pc := 85) (tgt := 93) F dX11_takeKind_85 dX11_takeKind_86 rfl ?_ ?_
      · refine y_iconst (v := 2) (pc := 89) F dX11_takeKind_89 rfl ?_
        refine y_goto (tgt := 132) (pc := 90) F dX11_takeKind_90 rfl ?_
        exact hK132 (2 : Int32)
      · refine y_aload_n (pc := 93) F dX11_takeKind_93 rfl ?_
        refine y_get (pc := 94) F dX11_takeKind_94 kF_X11_150 0 WM_at0 rfl ?_
        refine y_bipush (v := 97) (pc := 97) F dX11_takeKind_97 rfl ?_
        refine y_bipush (v := 103) (pc := 99) F dX11_takeKind_99 rfl ?_
        refine y_bipush (v := 97) (pc := 101) F dX11_takeKind_101 rfl ?_
        refine y_bipush (v := 105) (pc := 103) F dX11_takeKind_103 rfl ?_
        refine y_scalllP (As := [.int (97 : Int32), .int (103 : Int32), .int (97 : Int32), .int (105 : Int32)]) (st := [.long (gl r1 25)]) (pc := 105) F (c_X11_code (q := q) (97 : Int32) (103 : Int32) (97 : Int32) (105 : Int32)) dX11_takeKind_105 kM_X11_194 ⟨rfl, rfl⟩ ⟨Nat.le_of_ble_eq_true rfl, Nat.le_of_ble_eq_true rfl⟩ rfl rfl rfl (Nat.le_of_ble_eq_true rfl) (fun r13 => ?_)
        refine y_bipush (v := 110) (pc := 108) F dX11_takeKind_108 rfl ?_
        refine y_scalllP (As := [.long r13, .int (110 : Int32)]) (st := [.long (gl r1 25)]) (pc := 110) F (c_X11_longer (q := q) r13 (110 : Int32)) dX11_takeKind_110 kM_X11_198 ⟨rfl, rfl⟩ ⟨Nat.le_of_ble_eq_true rfl, Nat.le_of_ble_eq_true rfl⟩ rfl rfl rfl (Nat.le_of_ble_eq_true rfl) (fun r14 => ?_)
        refine y_bipush (v := 115) (pc := 113) F dX11_takeKind_113 rfl ?_
        refine y_scalllP (As := [.long r14, .int (115 : Int32)]) (st := [.long (gl r1 25)]) (pc := 115) F (c_X11_longer (q := q) r14 (115 : Int32)) dX11_takeKind_115 kM_X11_198 ⟨rfl, rfl⟩ ⟨Nat.le_of_ble_eq_true rfl, Nat.le_of_ble_eq_true rfl⟩ rfl rfl rfl (Nat.le_of_ble_eq_true rfl) (fun r15 => ?_)
        refine y_bipush (v := 116) (pc := 118) F dX11_takeKind_118 rfl ?_
        refine y_scalllP (As := [.long r15, .int (116 : Int32)]) (st := [.long (gl r1 25)]) (pc := 120) F (c_X11_longer (q := q) r15 (116 : Int32)) dX11_takeKind_120 kM_X11_198 ⟨rfl, rfl⟩ ⟨Nat.le_of_ble_eq_true rfl, Nat.le_of_ble_eq_true rfl⟩ rfl rfl rfl (Nat.le_of_ble_eq_true rfl) (fun r16 => ?_)
        refine y_lcmp_ne (pc := 123) (tgt := 131) F dX11_takeKind_123 dX11_takeKind_124 rfl ?_ ?_
        · refine y_iconst (v := 3) (pc := 127) F dX11_takeKind_127 rfl ?_
          refine y_goto (tgt := 132) (pc := 128) F dX11_takeKind_128 rfl ?_
          exact hK132 (3 : Int32)
        · refine y_iconst (v := -1) (pc := 131) F dX11_takeKind_131 rfl ?_
          exact hK132 (-1 : Int32)
abbrev rmX11_takeWitness : Room := { frames := 3, cells := 0, slots := 0, locals := 67 }
def lX11_takeWitness_22 (r1 : Int32 × Ob) (K57 : Int32 → Option (Int32 × Ob)) : Nat → Int32 → Int32 → Option (Int32 × Ob)
  | 0, _, _ => none
  | f + 1, x11, x12 =>
    if (gi (r1.2) 33) ≤ x12 then (K57 x11)
    else (zgd x12 12 <| zjn (fun (x13 : Int32) =>
    zlet ((x11 + x13)) fun (x14 : Int32) =>
    zlet (x12 + (1 : Int32)) fun (x15 : Int32) =>
    lX11_takeWitness_22 r1 K57 f x14 x15) fun (K49 : Int32 → Option (Int32 × Ob)) =>
    if (ga (r1.2) 34 (x12.toNatClampNeg)) = (gi (r1.2) 27) then (K49 (1 : Int32))
    else (K49 (0 : Int32)))
def pX11_takeWitness (o : Ob) : Option (Int32 × Ob) :=
  Option.bind (pX11_takeNumber o (0 : Int32) ((gi o 29) - (1 : Int32))) fun (r1 : Int32 × Ob) =>
  if (r1.1) ≤ 0 then (zjn (fun (x2 : Int32) =>
  if x2 = (6 : Int32) then (Option.bind (pX11_fails (r1.2) (4 : Int32) (gi (r1.2) 28)) fun (r10 : Int32 × Ob) =>
  some ((r10.1), (r10.2)))
  else (zgd (gi (r1.2) 33) 12 <| zlet (sa (r1.2) 34 (upd (ga (r1.2) 34) ((gi (r1.2) 33).toNatClampNeg) (gi (r1.2) 27))) fun (o3 : Ob) =>
  Option.bind (pX11_takeNumber o3 (1 : Int32) (99 : Int32)) fun (r4 : Int32 × Ob) =>
  zgd (gi (r4.2) 33) 12 <| zlet (sa (r4.2) 35 (upd (ga (r4.2) 35) ((gi (r4.2) 33).toNatClampNeg) (gi (r4.2) 27))) fun (o5 : Ob) =>
  zjn (fun (x6 : Int32) (o7 : Ob) =>
  zlet (si o7 33 ((gi o7 33) + (1 : Int32))) fun (o8 : Ob) =>
  some (x6, o8)) fun (K119 : Int32 → Ob → Option (Int32 × Ob)) =>
  if (r4.1) ≤ 0 then (Option.bind (pX11_takeKind o5) fun (r9 : Int32 × Ob) =>
  K119 (r9.1) (r9.2))
  else (K119 (r4.1) o5))) fun (K57 : Int32 → Option (Int32 × Ob)) =>
  lX11_takeWitness_22 r1 K57 zfu (0 : Int32) (0 : Int32))
  else (some ((r1.1), (r1.2)))
set_option maxHeartbeats 4000000 in
set_option maxRecDepth 100000 in
theorem wlX11_takeWitness_22 {X : ZX} {out : (Int32 × Ob)} (q : Nat → Nat) (r1 : Int32 × Ob) (F : zF l D tA RX11 cX11_takeWitness 4 rmX11_takeWitness X) (hr : zRi X D cX11_takeWitness .int (fun (r : Int32 × Ob) => (r.1)) (fun (r : Int32 × Ob) => (WM tA q (r.2))) out) {K57 : Int32 → Option (Int32 × Ob)} (hK57 : ∀ (x2 : Int32), zY X D out (K57 x2) (WM tA q (r1.2)) 57 [some (.ref (q 0)), none, some (.int x2), none] []) : ∀ (f : Nat) (x11 : Int32) (x12 : Int32), zY X D out (lX11_takeWitness_22 r1 K57 f x11 x12) (WM tA q (r1.2)) 22 [some (.ref (q 0)), none, some (.int x11), some (.int x12)] [] := by
  intro f
  induction f with
  | zero =>
    intro x11 x12
    exact y_none
  | succ f ih =>
    intro x11 x12
    rw [lX11_takeWitness_22.eq_2]
    refine y_iload_n (pc := 22) F dX11_takeWitness_22 rfl ?_
    refine y_aload_n (pc := 23) F dX11_takeWitness_23 rfl ?_
    refine y_get (pc := 24) F dX11_takeWitness_24 kF_X11_202 0 WM_at0 rfl ?_
    refine y_icmp_ge (pc := 27) (tgt := 57) F dX11_takeWitness_27 rfl ?_ ?_
    · refine y_le (lv' := [some (.ref (q 0)), none, some (.int x11), none]) ⟨rfl, ⟨rfl, trivial⟩⟩ ?_
      exact hK57 x11
    · refine y_iload_n (pc := 30) F dX11_takeWitness_30 rfl ?_
      refine y_aload_n (pc := 31) F dX11_takeWitness_31 rfl ?_
      refine y_get (pc := 32) F dX11_takeWitness_32 kF_X11_72 0 WM_at0 rfl ?_
      refine y_iload_n (pc := 35) F dX11_takeWitness_35 rfl ?_
      refine y_iald (pc := 36) F dX11_takeWitness_36 20 WM_at20 ?_
      refine y_aload_n (pc := 37) F dX11_takeWitness_37 rfl ?_
      refine y_get (pc := 38) F dX11_takeWitness_38 kF_X11_180 0 WM_at0 rfl ?_
      refine y_jn (fun (K49 : Int32 → Option (Int32 × Ob)) => ∀ (x13 : Int32), zY X D out (K49 x13) (WM tA q (r1.2)) 49 [some (.ref (q 0)), none, none, some (.int x12)] [.int x13, .int x11]) ?_ ?_
      · intro x13
        refine y_iadd (pc := 49) F dX11_takeWitness_49 ?_
        refine y_lti (fun x14 => ?_)
        refine y_istore_n (lv' := [some (.ref (q 0)), none, some (.int x14), some (.int x12)]) (pc := 50) F dX11_takeWitness_50 (Nat.le_of_ble_eq_true rfl) rfl rfl ?_
        refine y_iinc (v := 1) (lf := fun (x15 : Int32) => [some (.ref (q 0)), none, some (.int x14), some (.int x15)]) (pc := 51) F dX11_takeWitness_51 rfl rfl rfl (fun _ => rfl) (fun x15 => ?_)
        refine y_goto (tgt := 22) (pc := 54) F dX11_takeWitness_54 rfl ?_
        exact ih x14 x15
      intro K49 hK49
      refine y_icmp_ne (pc := 41) (tgt := 48) F dX11_takeWitness_41 rfl ?_ ?_
      · refine y_iconst (v := 1) (pc := 44) F dX11_takeWitness_44 rfl ?_
        refine y_goto (tgt := 49) (pc := 45) F dX11_takeWitness_45 rfl ?_
        refine y_le (lv' := [some (.ref (q 0)), none, none, some (.int x12)]) ⟨rfl, ⟨rfl, trivial⟩⟩ ?_
        exact hK49 (1 : Int32)
      · refine y_iconst (v := 0) (pc := 48) F dX11_takeWitness_48 rfl ?_
        refine y_le (lv' := [some (.ref (q 0)), none, none, some (.int x12)]) ⟨rfl, ⟨rfl, trivial⟩⟩ ?_
        exact hK49 (0 : Int32)
set_option maxHeartbeats 4000000 in
set_option maxRecDepth 100000 in
theorem c_X11_takeWitness {q : Nat → Nat} (o : Ob) : zCi l D tA yX11_takeWitness cX11_takeWitness 4 .int rmX11_takeWitness [.ref (q 0)] (WM tA q o) (fun (r : Int32 × Ob) => (r.1)) (fun (r : Int32 × Ob) => (WM tA q (r.2))) (pX11_takeWitness o) := by
  refine zCi_of (lv0 := [some (.ref (q 0)), none, none, none]) (by decide +kernel) (Nat.le_of_ble_eq_true rfl) rfl (fun X out F hr => ?_)
  unfold pX11_takeWitness
  refine y_aload_n (pc := 0) F dX11_takeWitness_0 rfl ?_
  refine y_iconst (v := 0) (pc := 1) F dX11_takeWitness_1 rfl ?_
  refine y_aload_n (pc := 2) F dX11_takeWitness_2 rfl ?_
  refine y_get (pc := 3) F dX11_takeWitness_3 kF_X11_186 0 WM_at0 rfl ?_
  refine y_iconst (v := 1) (pc := 6) F dX11_takeWitness_6 rfl ?_
  refine y_isub (pc := 7) F dX11_takeWitness_7 ?_
  refine y_calliW (As := [.int (0 : Int32), .int ((gi o 29) - (1 : Int32))]) (st := []) (q0 := 0) (pc := 8) F (c_X11_takeNumber (q := q) o (0 : Int32) ((gi o 29) - (1 : Int32))) dX11_takeWitness_8 kM_X11_183 ⟨rfl, rfl⟩ ⟨Nat.le_of_ble_eq_true rfl, Nat.le_of_ble_eq_true rfl⟩ rfl rfl rfl (Nat.le_of_ble_eq_true rfl) rfl rfl WM_at0 (fun r1 => ?_)
  refine y_istore_n (lv' := [some (.ref (q 0)), some (.int (r1.1)), none, none]) (pc := 11) F dX11_takeWitness_11 (Nat.le_of_ble_eq_true rfl) rfl rfl ?_
  refine y_iload_n (pc := 12) F dX11_takeWitness_12 rfl ?_
  refine y_if_le (pc := 13) (tgt := 18) F dX11_takeWitness_13 rfl ?_ ?_
  · refine y_iconst (v := 0) (pc := 18) F dX11_takeWitness_18 rfl ?_
    refine y_istore_n (lv' := [some (.ref (q 0)), some (.int (r1.1)), some (.int (0 : Int32)), none]) (pc := 19) F dX11_takeWitness_19 (Nat.le_of_ble_eq_true rfl) rfl rfl ?_
    refine y_iconst (v := 0) (pc := 20) F dX11_takeWitness_20 rfl ?_
    refine y_istore_n (lv' := [some (.ref (q 0)), some (.int (r1.1)), some (.int (0 : Int32)), some (.int (0 : Int32))]) (pc := 21) F dX11_takeWitness_21 (Nat.le_of_ble_eq_true rfl) rfl rfl ?_
    refine y_jn (fun (K57 : Int32 → Option (Int32 × Ob)) => ∀ (x2 : Int32), zY X D out (K57 x2) (WM tA q (r1.2)) 57 [some (.ref (q 0)), none, some (.int x2), none] []) ?_ ?_
    · intro x2
      refine y_iload_n (pc := 57) F dX11_takeWitness_57 rfl ?_
      refine y_bipush (v := 6) (pc := 58) F dX11_takeWitness_58 rfl ?_
      refine y_icmp_ne (pc := 60) (tgt := 73) F dX11_takeWitness_60 rfl ?_ ?_
      · refine y_aload_n (pc := 63) F dX11_takeWitness_63 rfl ?_
        refine y_iconst (v := 4) (pc := 64) F dX11_takeWitness_64 rfl ?_
        refine y_aload_n (pc := 65) F dX11_takeWitness_65 rfl ?_
        refine y_get (pc := 66) F dX11_takeWitness_66 kF_X11_177 0 WM_at0 rfl ?_
        refine y_calliW (As := [.int (4 : Int32), .int (gi (r1.2) 28)]) (st := []) (q0 := 0) (pc := 69) F (c_X11_fails (q := q) (r1.2) (4 : Int32) (gi (r1.2) 28)) dX11_takeWitness_69 kM_X11_173 ⟨rfl, rfl⟩ ⟨Nat.le_of_ble_eq_true rfl, Nat.le_of_ble_eq_true rfl⟩ rfl rfl rfl (Nat.le_of_ble_eq_true rfl) rfl rfl WM_at0 (fun r10 => ?_)
        exact y_iret hr dX11_takeWitness_72 rfl rfl
      · refine y_aload_n (pc := 73) F dX11_takeWitness_73 rfl ?_
        refine y_get (pc := 74) F dX11_takeWitness_74 kF_X11_72 0 WM_at0 rfl ?_
        refine y_aload_n (pc := 77) F dX11_takeWitness_77 rfl ?_
        refine y_get (pc := 78) F dX11_takeWitness_78 kF_X11_202 0 WM_at0 rfl ?_
        refine y_aload_n (pc := 81) F dX11_takeWitness_81 rfl ?_
        refine y_get (pc := 82) F dX11_takeWitness_82 kF_X11_180 0 WM_at0 rfl ?_
        refine y_iast (pc := 85) F dX11_takeWitness_85 20 WM_at20 (fun (o3 : Ob) => (WM tA q o3)) (WM_ar20 _) (fun o3 => ?_)
        refine y_aload_n (pc := 86) F dX11_takeWitness_86 rfl ?_
        refine y_iconst (v := 1) (pc := 87) F dX11_takeWitness_87 rfl ?_
        refine y_bipush (v := 99) (pc := 88) F dX11_takeWitness_88 rfl ?_
        refine y_calliW (As := [.int (1 : Int32), .int (99 : Int32)]) (st := []) (q0 := 0) (pc := 90) F (c_X11_takeNumber (q := q) o3 (1 : Int32) (99 : Int32)) dX11_takeWitness_90 kM_X11_183 ⟨rfl, rfl⟩ ⟨Nat.le_of_ble_eq_true rfl, Nat.le_of_ble_eq_true rfl⟩ rfl rfl rfl (Nat.le_of_ble_eq_true rfl) rfl rfl WM_at0 (fun r4 => ?_)
        refine y_istore_n (lv' := [some (.ref (q 0)), some (.int (r4.1)), some (.int x2), none]) (pc := 93) F dX11_takeWitness_93 (Nat.le_of_ble_eq_true rfl) rfl rfl ?_
        refine y_aload_n (pc := 94) F dX11_takeWitness_94 rfl ?_
        refine y_get (pc := 95) F dX11_takeWitness_95 kF_X11_75 0 WM_at0 rfl ?_
        refine y_aload_n (pc := 98) F dX11_takeWitness_98 rfl ?_
        refine y_get (pc := 99) F dX11_takeWitness_99 kF_X11_202 0 WM_at0 rfl ?_
        refine y_aload_n (pc := 102) F dX11_takeWitness_102 rfl ?_
        refine y_get (pc := 103) F dX11_takeWitness_103 kF_X11_180 0 WM_at0 rfl ?_
        refine y_iast (pc := 106) F dX11_takeWitness_106 21 WM_at21 (fun (o5 : Ob) => (WM tA q o5)) (WM_ar21 _) (fun o5 => ?_)
        refine y_iload_n (pc := 107) F dX11_takeWitness_107 rfl ?_
        refine y_jn (fun (K119 : Int32 → Ob → Option (Int32 × Ob)) => ∀ (x6 : Int32) (o7 : Ob), zY X D out (K119 x6 o7) (WM tA q o7) 119 [some (.ref (q 0)), none, none, none] [.int x6]) ?_ ?_
        · intro x6 o7
          refine y_istore_n (lv' := [some (.ref (q 0)), some (.int x6), none, none]) (pc := 119) F dX11_takeWitness_119 (Nat.le_of_ble_eq_true rfl) rfl rfl ?_
          refine y_aload_n (pc := 120) F dX11_takeWitness_120 rfl ?_
          refine y_dup (pc := 121) F dX11_takeWitness_121 rfl ?_
          refine y_get (pc := 122) F dX11_takeWitness_122 kF_X11_202 0 WM_at0 rfl ?_
          refine y_iconst (v := 1) (pc := 125) F dX11_takeWitness_125 rfl ?_
          refine y_iadd (pc := 126) F dX11_takeWitness_126 ?_
          refine y_put (pc := 127) F dX11_takeWitness_127 kF_X11_202 0 WM_at0 rfl rfl rfl (Nat.le_of_ble_eq_true rfl) (fun (o8 : Ob) => (WM tA q o8)) (WM_pt0_33 _) (fun o8 => ?_)
          refine y_iload_n (pc := 130) F dX11_takeWitness_130 rfl ?_
          exact y_iret hr dX11_takeWitness_131 rfl rfl
        intro K119 hK119
        refine y_if_le (pc := 108) (tgt := 115) F dX11_takeWitness_108 rfl ?_ ?_
        · refine y_aload_n (pc := 115) F dX11_takeWitness_115 rfl ?_
          refine y_calliW (As := []) (st := []) (q0 := 0) (pc := 116) F (c_X11_takeKind (q := q) o5) dX11_takeWitness_116 kM_X11_205 ⟨rfl, rfl⟩ ⟨Nat.le_of_ble_eq_true rfl, Nat.le_of_ble_eq_true rfl⟩ rfl rfl rfl (Nat.le_of_ble_eq_true rfl) rfl rfl WM_at0 (fun r9 => ?_)
          refine y_le (lv' := [some (.ref (q 0)), none, none, none]) ⟨rfl, trivial⟩ ?_
          exact hK119 (r9.1) (r9.2)
        · refine y_iload_n (pc := 111) F dX11_takeWitness_111 rfl ?_
          refine y_goto (tgt := 119) (pc := 112) F dX11_takeWitness_112 rfl ?_
          refine y_le (lv' := [some (.ref (q 0)), none, none, none]) ⟨rfl, trivial⟩ ?_
          exact hK119 (r4.1) o5
    intro K57 hK57
    refine y_le (lv' := [some (.ref (q 0)), none, some (.int (0 : Int32)), some (.int (0 : Int32))]) ⟨rfl, ⟨rfl, ⟨rfl, trivial⟩⟩⟩ ?_
    exact wlX11_takeWitness_22 q r1 F hr hK57 zfu (0 : Int32) (0 : Int32)
  · refine y_iload_n (pc := 16) F dX11_takeWitness_16 rfl ?_
    exact y_iret hr dX11_takeWitness_17 rfl rfl
abbrev rmX11_takeClause : Room := { frames := 4, cells := 0, slots := 0, locals := 90 }
def pX11_takeClause (o : Ob) : Option (Int32 × Ob) :=
  Option.bind (pX11_readWord o) fun (r1 : Ob) =>
  Option.bind (pX11_code (115 : Int32) (117 : Int32) (105 : Int32) (116 : Int32)) fun (r2 : Int64) =>
  zjn (fun (x3 : Int32) =>
  zjn (zjn (zlet (si r1 24 (gi r1 26)) fun (o4 : Ob) =>
  zjn (fun (x5 : Int32) (o6 : Ob) =>
  if x5 ≤ 0 then (Option.bind (pX11_takeStop o6) fun (r7 : Int32 × Ob) =>
  some ((r7.1), (r7.2)))
  else (some (x5, o6))) fun (K135 : Int32 → Ob → Option (Int32 × Ob)) =>
  if x3 = 0 then (Option.bind (pX11_takeWitness o4) fun (r8 : Int32 × Ob) =>
  K135 (r8.1) (r8.2))
  else (Option.bind (pX11_takeSuit o4) fun (r9 : Int32 × Ob) =>
  K135 (r9.1) (r9.2))) fun (K112 : Option (Int32 × Ob)) =>
  zjn (Option.bind (pX11_fails r1 (3 : Int32) (gi r1 24)) fun (r10 : Int32 × Ob) =>
  some ((r10.1), (r10.2))) fun (K102 : Option (Int32 × Ob)) =>
  if x3 = 0 then (if (gi r1 33) = (12 : Int32) then (K102)
  else (K112))
  else (if (gi r1 29) = (6 : Int32) then (K102)
  else (K112))) fun (K77 : Option (Int32 × Ob)) =>
  if x3 = 0 then (Option.bind (pX11_code (119 : Int32) (105 : Int32) (116 : Int32) (110 : Int32)) fun (r11 : Int64) =>
  Option.bind (pX11_longer r11 (101 : Int32)) fun (r12 : Int64) =>
  Option.bind (pX11_longer r12 (115 : Int32)) fun (r13 : Int64) =>
  Option.bind (pX11_longer r13 (115 : Int32)) fun (r14 : Int64) =>
  if (gl r1 25) = r14 then (K77)
  else (Option.bind (pX11_fails r1 (1 : Int32) (gi r1 24)) fun (r15 : Int32 × Ob) =>
  some ((r15.1), (r15.2))))
  else (K77)) fun (K28 : Int32 → Option (Int32 × Ob)) =>
  if (gl r1 25) = r2 then (K28 (1 : Int32))
  else (K28 (0 : Int32))
set_option maxHeartbeats 4000000 in
set_option maxRecDepth 100000 in
theorem c_X11_takeClause {q : Nat → Nat} (o : Ob) : zCi l D tA yX11_takeClause cX11_takeClause 3 .int rmX11_takeClause [.ref (q 0)] (WM tA q o) (fun (r : Int32 × Ob) => (r.1)) (fun (r : Int32 × Ob) => (WM tA q (r.2))) (pX11_takeClause o) := by
  refine zCi_of (lv0 := [some (.ref (q 0)), none, none]) (by decide +kernel) (Nat.le_of_ble_eq_true rfl) rfl (fun X out F hr => ?_)
  unfold pX11_takeClause
  refine y_aload_n (pc := 0) F dX11_takeClause_0 rfl ?_
  refine y_callvW (As := []) (st := []) (q0 := 0) (pc := 1) F (c_X11_readWord (q := q) o) dX11_takeClause_1 kM_X11_189 ⟨rfl, rfl⟩ ⟨Nat.le_of_ble_eq_true rfl, Nat.le_of_ble_eq_true rfl⟩ rfl rfl rfl (Nat.le_of_ble_eq_true rfl) rfl rfl WM_at0 (fun r1 => ?_)
  refine y_aload_n (pc := 4) F dX11_takeClause_4 rfl ?_
  refine y_get (pc := 5) F dX11_takeClause_5 kF_X11_150 0 WM_at0 rfl ?_
  refine y_bipush (v := 115) (pc := 8) F dX11_takeClause_8 rfl ?_
  refine y_bipush (v := 117) (pc := 10) F dX11_takeClause_10 rfl ?_
  refine y_bipush (v := 105) (pc := 12) F dX11_takeClause_12 rfl ?_
  refine y_bipush (v := 116) (pc := 14) F dX11_takeClause_14 rfl ?_
  refine y_scalllP (As := [.int (115 : Int32), .int (117 : Int32), .int (105 : Int32), .int (116 : Int32)]) (st := [.long (gl r1 25)]) (pc := 16) F (c_X11_code (q := q) (115 : Int32) (117 : Int32) (105 : Int32) (116 : Int32)) dX11_takeClause_16 kM_X11_194 ⟨rfl, rfl⟩ ⟨Nat.le_of_ble_eq_true rfl, Nat.le_of_ble_eq_true rfl⟩ rfl rfl rfl (Nat.le_of_ble_eq_true rfl) (fun r2 => ?_)
  refine y_jn (fun (K28 : Int32 → Option (Int32 × Ob)) => ∀ (x3 : Int32), zY X D out (K28 x3) (WM tA q r1) 28 [some (.ref (q 0)), none, none] [.int x3]) ?_ ?_
  · intro x3
    refine y_istore_n (lv' := [some (.ref (q 0)), some (.int x3), none]) (pc := 28) F dX11_takeClause_28 (Nat.le_of_ble_eq_true rfl) rfl rfl ?_
    refine y_iload_n (pc := 29) F dX11_takeClause_29 rfl ?_
    refine y_jn (fun (K77 : Option (Int32 × Ob)) => zY X D out (K77) (WM tA q r1) 77 [some (.ref (q 0)), some (.int x3), none] []) ?_ ?_
    · skip
      refine y_iload_n (pc := 77) F dX11_takeClause_77 rfl ?_
      refine y_jn (fun (K112 : Option (Int32 × Ob)) => zY X D out (K112) (WM tA q r1) 112 [some (.ref (q 0)), some (.int x3), none] []) ?_ ?_
      · skip
        refine y_aload_n (pc := 112) F dX11_takeClause_112 rfl ?_
        refine y_aload_n (pc := 113) F dX11_takeClause_113 rfl ?_
        refine y_get (pc := 114) F dX11_takeClause_114 kF_X11_154 0 WM_at0 rfl ?_
        refine y_put (pc := 117) F dX11_takeClause_117 kF_X11_143 0 WM_at0 rfl rfl rfl (Nat.le_of_ble_eq_true rfl) (fun (o4 : Ob) => (WM tA q o4)) (WM_pt0_24 _) (fun o4 => ?_)
        refine y_iload_n (pc := 120) F dX11_takeClause_120 rfl ?_
        refine y_jn (fun (K135 : Int32 → Ob → Option (Int32 × Ob)) => ∀ (x5 : Int32) (o6 : Ob), zY X D out (K135 x5 o6) (WM tA q o6) 135 [some (.ref (q 0)), none, none] [.int x5]) ?_ ?_
        · intro x5 o6
          refine y_istore_n (lv' := [some (.ref (q 0)), none, some (.int x5)]) (pc := 135) F dX11_takeClause_135 (Nat.le_of_ble_eq_true rfl) rfl rfl ?_
          refine y_iload_n (pc := 136) F dX11_takeClause_136 rfl ?_
          refine y_if_le (pc := 137) (tgt := 144) F dX11_takeClause_137 rfl ?_ ?_
          · refine y_aload_n (pc := 144) F dX11_takeClause_144 rfl ?_
            refine y_calliW (As := []) (st := []) (q0 := 0) (pc := 145) F (c_X11_takeStop (q := q) o6) dX11_takeClause_145 kM_X11_214 ⟨rfl, rfl⟩ ⟨Nat.le_of_ble_eq_true rfl, Nat.le_of_ble_eq_true rfl⟩ rfl rfl rfl (Nat.le_of_ble_eq_true rfl) rfl rfl WM_at0 (fun r7 => ?_)
            exact y_iret hr dX11_takeClause_148 rfl rfl
          · refine y_iload_n (pc := 140) F dX11_takeClause_140 rfl ?_
            refine y_goto (tgt := 148) (pc := 141) F dX11_takeClause_141 rfl ?_
            exact y_iret hr dX11_takeClause_148 rfl rfl
        intro K135 hK135
        refine y_if_eq (pc := 121) (tgt := 131) F dX11_takeClause_121 rfl ?_ ?_
        · refine y_aload_n (pc := 131) F dX11_takeClause_131 rfl ?_
          refine y_calliW (As := []) (st := []) (q0 := 0) (pc := 132) F (c_X11_takeWitness (q := q) o4) dX11_takeClause_132 kM_X11_211 ⟨rfl, rfl⟩ ⟨Nat.le_of_ble_eq_true rfl, Nat.le_of_ble_eq_true rfl⟩ rfl rfl rfl (Nat.le_of_ble_eq_true rfl) rfl rfl WM_at0 (fun r8 => ?_)
          refine y_le (lv' := [some (.ref (q 0)), none, none]) ⟨rfl, trivial⟩ ?_
          exact hK135 (r8.1) (r8.2)
        · refine y_aload_n (pc := 124) F dX11_takeClause_124 rfl ?_
          refine y_calliW (As := []) (st := []) (q0 := 0) (pc := 125) F (c_X11_takeSuit (q := q) o4) dX11_takeClause_125 kM_X11_208 ⟨rfl, rfl⟩ ⟨Nat.le_of_ble_eq_true rfl, Nat.le_of_ble_eq_true rfl⟩ rfl rfl rfl (Nat.le_of_ble_eq_true rfl) rfl rfl WM_at0 (fun r9 => ?_)
          refine y_goto (tgt := 135) (pc := 128) F dX11_takeClause_128 rfl ?_
          refine y_le (lv' := [some (.ref (q 0)), none, none]) ⟨rfl, trivial⟩ ?_
          exact hK135 (r9.1) (r9.2)
      intro K112 hK112
      refine y_jn (fun (K102 : Option (Int32 × Ob)) => zY X D out (K102) (WM tA q r1) 102 [some (.ref (q 0)), none, none] []) ?_ ?_
      · skip
        refine y_aload_n (pc := 102) F dX11_takeClause_102 rfl ?_
        refine y_iconst (v := 3) (pc := 103) F dX11_takeClause_103 rfl ?_
        refine y_aload_n (pc := 104) F dX11_takeClause_104 rfl ?_
        refine y_get (pc := 105) F dX11_takeClause_105 kF_X11_143 0 WM_at0 rfl ?_
        refine y_calliW (As := [.int (3 : Int32), .int (gi r1 24)]) (st := []) (q0 := 0) (pc := 108) F (c_X11_fails (q := q) r1 (3 : Int32) (gi r1 24)) dX11_takeClause_108 kM_X11_173 ⟨rfl, rfl⟩ ⟨Nat.le_of_ble_eq_true rfl, Nat.le_of_ble_eq_true rfl⟩ rfl rfl rfl (Nat.le_of_ble_eq_true rfl) rfl rfl WM_at0 (fun r10 => ?_)
        exact y_iret hr dX11_takeClause_111 rfl rfl
      intro K102 hK102
      refine y_if_eq (pc := 78) (tgt := 93) F dX11_takeClause_78 rfl ?_ ?_
      · refine y_aload_n (pc := 93) F dX11_takeClause_93 rfl ?_
        refine y_get (pc := 94) F dX11_takeClause_94 kF_X11_202 0 WM_at0 rfl ?_
        refine y_bipush (v := 12) (pc := 97) F dX11_takeClause_97 rfl ?_
        refine y_icmp_ne (pc := 99) (tgt := 112) F dX11_takeClause_99 rfl ?_ ?_
        · refine y_le (lv' := [some (.ref (q 0)), none, none]) ⟨rfl, trivial⟩ ?_
          exact hK102
        · exact hK112
      · refine y_aload_n (pc := 81) F dX11_takeClause_81 rfl ?_
        refine y_get (pc := 82) F dX11_takeClause_82 kF_X11_186 0 WM_at0 rfl ?_
        refine y_bipush (v := 6) (pc := 85) F dX11_takeClause_85 rfl ?_
        refine y_icmp_ne (pc := 87) (tgt := 112) F dX11_takeClause_87 rfl ?_ ?_
        · refine y_goto (tgt := 102) (pc := 90) F dX11_takeClause_90 rfl ?_
          refine y_le (lv' := [some (.ref (q 0)), none, none]) ⟨rfl, trivial⟩ ?_
          exact hK102
        · exact hK112
    intro K77 hK77
    refine y_if_ne (pc := 30) (tgt := 77) F dX11_takeClause_30 rfl ?_ ?_
    · refine y_aload_n (pc := 33) F dX11_takeClause_33 rfl ?_
      refine y_get (pc := 34) F dX11_takeClause_34 kF_X11_150 0 WM_at0 rfl ?_
      refine y_bipush (v := 119) (pc := 37) F dX11_takeClause_37 rfl ?_
      refine y_bipush (v := 105) (pc := 39) F dX11_takeClause_39 rfl ?_
      refine y_bipush (v := 116) (pc := 41) F dX11_takeClause_41 rfl ?_
      refine y_bipush (v := 110) (pc := 43) F dX11_takeClause_43 rfl ?_
      refine y_scalllP (As := [.int (119 : Int32), .int (105 : Int32), .int (116 : Int32), .int (110 : Int32)]) (st := [.long (gl r1 25)]) (pc := 45) F (c_X11_code (q := q) (119 : Int32) (105 : Int32) (116 : Int32) (110 : Int32)) dX11_takeClause_45 kM_X11_194 ⟨rfl, rfl⟩ ⟨Nat.le_of_ble_eq_true rfl, Nat.le_of_ble_eq_true rfl⟩ rfl rfl rfl (Nat.le_of_ble_eq_true rfl) (fun r11 => ?_)
      refine y_bipush (v := 101) (pc := 48) F dX11_takeClause_48 rfl ?_
      refine y_scalllP (As := [.long r11, .int (101 : Int32)]) (st := [.long (gl r1 25)]) (pc := 50) F (c_X11_longer (q := q) r11 (101 : Int32)) dX11_takeClause_50 kM_X11_198 ⟨rfl, rfl⟩ ⟨Nat.le_of_ble_eq_true rfl, Nat.le_of_ble_eq_true rfl⟩ rfl rfl rfl (Nat.le_of_ble_eq_true rfl) (fun r12 => ?_)
      refine y_bipush (v := 115) (pc := 53) F dX11_takeClause_53 rfl ?_
      refine y_scalllP (As := [.long r12, .int (115 : Int32)]) (st := [.long (gl r1 25)]) (pc := 55) F (c_X11_longer (q := q) r12 (115 : Int32)) dX11_takeClause_55 kM_X11_198 ⟨rfl, rfl⟩ ⟨Nat.le_of_ble_eq_true rfl, Nat.le_of_ble_eq_true rfl⟩ rfl rfl rfl (Nat.le_of_ble_eq_true rfl) (fun r13 => ?_)
      refine y_bipush (v := 115) (pc := 58) F dX11_takeClause_58 rfl ?_
      refine y_scalllP (As := [.long r13, .int (115 : Int32)]) (st := [.long (gl r1 25)]) (pc := 60) F (c_X11_longer (q := q) r13 (115 : Int32)) dX11_takeClause_60 kM_X11_198 ⟨rfl, rfl⟩ ⟨Nat.le_of_ble_eq_true rfl, Nat.le_of_ble_eq_true rfl⟩ rfl rfl rfl (Nat.le_of_ble_eq_true rfl) (fun r14 => ?_)
      refine y_lcmp_eq (pc := 63) (tgt := 77) F dX11_takeClause_63 dX11_takeClause_64 rfl ?_ ?_
      · exact hK77
      · refine y_aload_n (pc := 67) F dX11_takeClause_67 rfl ?_
        refine y_iconst (v := 1) (pc := 68) F dX11_takeClause_68 rfl ?_
        refine y_aload_n (pc := 69) F dX11_takeClause_69 rfl ?_
        refine y_get (pc := 70) F dX11_takeClause_70 kF_X11_143 0 WM_at0 rfl ?_
        refine y_calliW (As := [.int (1 : Int32), .int (gi r1 24)]) (st := []) (q0 := 0) (pc := 73) F (c_X11_fails (q := q) r1 (1 : Int32) (gi r1 24)) dX11_takeClause_73 kM_X11_173 ⟨rfl, rfl⟩ ⟨Nat.le_of_ble_eq_true rfl, Nat.le_of_ble_eq_true rfl⟩ rfl rfl rfl (Nat.le_of_ble_eq_true rfl) rfl rfl WM_at0 (fun r15 => ?_)
        exact y_iret hr dX11_takeClause_76 rfl rfl
    · exact hK77
  intro K28 hK28
  refine y_lcmp_ne (pc := 19) (tgt := 27) F dX11_takeClause_19 dX11_takeClause_20 rfl ?_ ?_
  · refine y_iconst (v := 1) (pc := 23) F dX11_takeClause_23 rfl ?_
    refine y_goto (tgt := 28) (pc := 24) F dX11_takeClause_24 rfl ?_
    exact hK28 (1 : Int32)
  · refine y_iconst (v := 0) (pc := 27) F dX11_takeClause_27 rfl ?_
    exact hK28 (0 : Int32)
abbrev rmX11_anew : Room := { frames := 0, cells := 0, slots := 0, locals := 0 }
def lX11_anew_82 : Nat → Int32 → Ob → Option Ob
  | 0, _, _ => none
  | f + 1, x5, o6 =>
    if (2400 : Int32) ≤ x5 then (some o6)
    else (zgd x5 2400 <| zlet (sa o6 18 (upd (ga o6 18) (x5.toNatClampNeg) (0 : Int32))) fun (o7 : Ob) =>
    zlet (x5 + (1 : Int32)) fun (x8 : Int32) =>
    lX11_anew_82 f x8 o7)
def lX11_anew_47 (K80 : Ob → Option Ob) : Nat → Int32 → Ob → Option Ob
  | 0, _, _ => none
  | f + 1, x9, o10 =>
    if (6 : Int32) ≤ x9 then (K80 o10)
    else (zgd x9 6 <| zlet (sa o10 15 (upd (ga o10 15) (x9.toNatClampNeg) (0 : Int32))) fun (o11 : Ob) =>
    zgd x9 6 <| zlet (sa o11 16 (upd (ga o11 16) (x9.toNatClampNeg) (-1 : Int32))) fun (o12 : Ob) =>
    zgd x9 6 <| zlet (sa o12 17 (upd (ga o12 17) (x9.toNatClampNeg) (0 : Int32))) fun (o13 : Ob) =>
    zlet (x9 + (1 : Int32)) fun (x14 : Int32) =>
    lX11_anew_47 K80 f x14 o13)
def lX11_anew_12 (K45 : Ob → Option Ob) : Nat → Int32 → Ob → Option Ob
  | 0, _, _ => none
  | f + 1, x15, o16 =>
    if (12 : Int32) ≤ x15 then (K45 o16)
    else (zgd x15 12 <| zlet (sa o16 10 (upd (ga o16 10) (x15.toNatClampNeg) (-1 : Int32))) fun (o17 : Ob) =>
    zgd x15 12 <| zlet (sa o17 11 (upd (ga o17 11) (x15.toNatClampNeg) (0 : Int32))) fun (o18 : Ob) =>
    zgd x15 12 <| zlet (sa o18 12 (upd (ga o18 12) (x15.toNatClampNeg) (vp_nar .boolean (0 : Int32)))) fun (o19 : Ob) =>
    zlet (x15 + (1 : Int32)) fun (x20 : Int32) =>
    lX11_anew_12 K45 f x20 o19)
def pX11_anew (o : Ob) : Option Ob :=
  zlet (si o 13 (0 : Int32)) fun (o1 : Ob) =>
  zlet (si o1 14 (0 : Int32)) fun (o2 : Ob) =>
  zjn (fun (o3 : Ob) =>
  zjn (fun (o4 : Ob) =>
  lX11_anew_82 zfu (0 : Int32) o4) fun (K80 : Ob → Option Ob) =>
  lX11_anew_47 K80 zfu (0 : Int32) o3) fun (K45 : Ob → Option Ob) =>
  lX11_anew_12 K45 zfu (0 : Int32) o2
set_option maxHeartbeats 4000000 in
set_option maxRecDepth 100000 in
theorem wlX11_anew_82 {X : ZX} {out : Ob} (q : Nat → Nat) (F : zF l D tA RX11 cX11_anew 2 rmX11_anew X) (hr : zRv X D cX11_anew (fun (r : Ob) => (WM tA q r)) out) : ∀ (f : Nat) (x5 : Int32) (o6 : Ob), zY X D out (lX11_anew_82 f x5 o6) (WM tA q o6) 82 [some (.ref (q 0)), some (.int x5)] [] := by
  intro f
  induction f with
  | zero =>
    intro x5 o6
    exact y_none
  | succ f ih =>
    intro x5 o6
    rw [lX11_anew_82.eq_2]
    refine y_iload_n (pc := 82) F dX11_anew_82 rfl ?_
    refine y_sipush (v := 2400) (pc := 83) F dX11_anew_83 rfl ?_
    refine y_icmp_ge (pc := 86) (tgt := 102) F dX11_anew_86 rfl ?_ ?_
    · exact y_vret hr dX11_anew_102 rfl
    · refine y_aload_n (pc := 89) F dX11_anew_89 rfl ?_
      refine y_get (pc := 90) F dX11_anew_90 kF_X11_50 0 WM_at0 rfl ?_
      refine y_iload_n (pc := 93) F dX11_anew_93 rfl ?_
      refine y_iconst (v := 0) (pc := 94) F dX11_anew_94 rfl ?_
      refine y_iast (pc := 95) F dX11_anew_95 14 WM_at14 (fun (o7 : Ob) => (WM tA q o7)) (WM_ar14 _) (fun o7 => ?_)
      refine y_iinc (v := 1) (lf := fun (x8 : Int32) => [some (.ref (q 0)), some (.int x8)]) (pc := 96) F dX11_anew_96 rfl rfl rfl (fun _ => rfl) (fun x8 => ?_)
      refine y_goto (tgt := 82) (pc := 99) F dX11_anew_99 rfl ?_
      exact ih x8 o7
set_option maxHeartbeats 4000000 in
set_option maxRecDepth 100000 in
theorem wlX11_anew_47 {X : ZX} {out : Ob} (q : Nat → Nat) (F : zF l D tA RX11 cX11_anew 2 rmX11_anew X) (hr : zRv X D cX11_anew (fun (r : Ob) => (WM tA q r)) out) {K80 : Ob → Option Ob} (hK80 : ∀ (o4 : Ob), zY X D out (K80 o4) (WM tA q o4) 80 [some (.ref (q 0)), none] []) : ∀ (f : Nat) (x9 : Int32) (o10 : Ob), zY X D out (lX11_anew_47 K80 f x9 o10) (WM tA q o10) 47 [some (.ref (q 0)), some (.int x9)] [] := by
  intro f
  induction f with
  | zero =>
    intro x9 o10
    exact y_none
  | succ f ih =>
    intro x9 o10
    rw [lX11_anew_47.eq_2]
    refine y_iload_n (pc := 47) F dX11_anew_47 rfl ?_
    refine y_bipush (v := 6) (pc := 48) F dX11_anew_48 rfl ?_
    refine y_icmp_ge (pc := 50) (tgt := 80) F dX11_anew_50 rfl ?_ ?_
    · refine y_le (lv' := [some (.ref (q 0)), none]) ⟨rfl, trivial⟩ ?_
      exact hK80 o10
    · refine y_aload_n (pc := 53) F dX11_anew_53 rfl ?_
      refine y_get (pc := 54) F dX11_anew_54 kF_X11_41 0 WM_at0 rfl ?_
      refine y_iload_n (pc := 57) F dX11_anew_57 rfl ?_
      refine y_iconst (v := 0) (pc := 58) F dX11_anew_58 rfl ?_
      refine y_iast (pc := 59) F dX11_anew_59 11 WM_at11 (fun (o11 : Ob) => (WM tA q o11)) (WM_ar11 _) (fun o11 => ?_)
      refine y_aload_n (pc := 60) F dX11_anew_60 rfl ?_
      refine y_get (pc := 61) F dX11_anew_61 kF_X11_44 0 WM_at0 rfl ?_
      refine y_iload_n (pc := 64) F dX11_anew_64 rfl ?_
      refine y_iconst (v := -1) (pc := 65) F dX11_anew_65 rfl ?_
      refine y_iast (pc := 66) F dX11_anew_66 12 WM_at12 (fun (o12 : Ob) => (WM tA q o12)) (WM_ar12 _) (fun o12 => ?_)
      refine y_aload_n (pc := 67) F dX11_anew_67 rfl ?_
      refine y_get (pc := 68) F dX11_anew_68 kF_X11_47 0 WM_at0 rfl ?_
      refine y_iload_n (pc := 71) F dX11_anew_71 rfl ?_
      refine y_iconst (v := 0) (pc := 72) F dX11_anew_72 rfl ?_
      refine y_iast (pc := 73) F dX11_anew_73 13 WM_at13 (fun (o13 : Ob) => (WM tA q o13)) (WM_ar13 _) (fun o13 => ?_)
      refine y_iinc (v := 1) (lf := fun (x14 : Int32) => [some (.ref (q 0)), some (.int x14)]) (pc := 74) F dX11_anew_74 rfl rfl rfl (fun _ => rfl) (fun x14 => ?_)
      refine y_goto (tgt := 47) (pc := 77) F dX11_anew_77 rfl ?_
      exact ih x14 o13
set_option maxHeartbeats 4000000 in
set_option maxRecDepth 100000 in
theorem wlX11_anew_12 {X : ZX} {out : Ob} (q : Nat → Nat) (F : zF l D tA RX11 cX11_anew 2 rmX11_anew X) (hr : zRv X D cX11_anew (fun (r : Ob) => (WM tA q r)) out) {K45 : Ob → Option Ob} (hK45 : ∀ (o3 : Ob), zY X D out (K45 o3) (WM tA q o3) 45 [some (.ref (q 0)), none] []) : ∀ (f : Nat) (x15 : Int32) (o16 : Ob), zY X D out (lX11_anew_12 K45 f x15 o16) (WM tA q o16) 12 [some (.ref (q 0)), some (.int x15)] [] := by
  intro f
  induction f with
  | zero =>
    intro x15 o16
    exact y_none
  | succ f ih =>
    intro x15 o16
    rw [lX11_anew_12.eq_2]
    refine y_iload_n (pc := 12) F dX11_anew_12 rfl ?_
    refine y_bipush (v := 12) (pc := 13) F dX11_anew_13 rfl ?_
    refine y_icmp_ge (pc := 15) (tgt := 45) F dX11_anew_15 rfl ?_ ?_
    · refine y_le (lv' := [some (.ref (q 0)), none]) ⟨rfl, trivial⟩ ?_
      exact hK45 o16
    · refine y_aload_n (pc := 18) F dX11_anew_18 rfl ?_
      refine y_get (pc := 19) F dX11_anew_19 kF_X11_31 0 WM_at0 rfl ?_
      refine y_iload_n (pc := 22) F dX11_anew_22 rfl ?_
      refine y_iconst (v := -1) (pc := 23) F dX11_anew_23 rfl ?_
      refine y_iast (pc := 24) F dX11_anew_24 8 WM_at8 (fun (o17 : Ob) => (WM tA q o17)) (WM_ar8 _) (fun o17 => ?_)
      refine y_aload_n (pc := 25) F dX11_anew_25 rfl ?_
      refine y_get (pc := 26) F dX11_anew_26 kF_X11_34 0 WM_at0 rfl ?_
      refine y_iload_n (pc := 29) F dX11_anew_29 rfl ?_
      refine y_iconst (v := 0) (pc := 30) F dX11_anew_30 rfl ?_
      refine y_iast (pc := 31) F dX11_anew_31 9 WM_at9 (fun (o18 : Ob) => (WM tA q o18)) (WM_ar9 _) (fun o18 => ?_)
      refine y_aload_n (pc := 32) F dX11_anew_32 rfl ?_
      refine y_get (pc := 33) F dX11_anew_33 kF_X11_37 0 WM_at0 rfl ?_
      refine y_iload_n (pc := 36) F dX11_anew_36 rfl ?_
      refine y_iconst (v := 0) (pc := 37) F dX11_anew_37 rfl ?_
      refine y_zast (pc := 38) F dX11_anew_38 10 WM_at10 (fun (o19 : Ob) => (WM tA q o19)) (WM_ar10 _) (fun o19 => ?_)
      refine y_iinc (v := 1) (lf := fun (x20 : Int32) => [some (.ref (q 0)), some (.int x20)]) (pc := 39) F dX11_anew_39 rfl rfl rfl (fun _ => rfl) (fun x20 => ?_)
      refine y_goto (tgt := 12) (pc := 42) F dX11_anew_42 rfl ?_
      exact ih x20 o19
set_option maxHeartbeats 4000000 in
set_option maxRecDepth 100000 in
theorem c_X11_anew {q : Nat → Nat} (o : Ob) : zCv l D tA yX11_anew cX11_anew 2 rmX11_anew [.ref (q 0)] (WM tA q o) (fun (r : Ob) => (WM tA q r)) (pX11_anew o) := by
  refine zCv_of (lv0 := [some (.ref (q 0)), none]) (by decide +kernel) (Nat.le_of_ble_eq_true rfl) rfl (fun X out F hr => ?_)
  unfold pX11_anew
  refine y_aload_n (pc := 0) F dX11_anew_0 rfl ?_
  refine y_iconst (v := 0) (pc := 1) F dX11_anew_1 rfl ?_
  refine y_put (pc := 2) F dX11_anew_2 kF_X11_223 0 WM_at0 rfl rfl rfl (Nat.le_of_ble_eq_true rfl) (fun (o1 : Ob) => (WM tA q o1)) (WM_pt0_13 _) (fun o1 => ?_)
  refine y_aload_n (pc := 5) F dX11_anew_5 rfl ?_
  refine y_iconst (v := 0) (pc := 6) F dX11_anew_6 rfl ?_
  refine y_put (pc := 7) F dX11_anew_7 kF_X11_226 0 WM_at0 rfl rfl rfl (Nat.le_of_ble_eq_true rfl) (fun (o2 : Ob) => (WM tA q o2)) (WM_pt0_14 _) (fun o2 => ?_)
  refine y_iconst (v := 0) (pc := 10) F dX11_anew_10 rfl ?_
  refine y_istore_n (lv' := [some (.ref (q 0)), some (.int (0 : Int32))]) (pc := 11) F dX11_anew_11 (Nat.le_of_ble_eq_true rfl) rfl rfl ?_
  refine y_jn (fun (K45 : Ob → Option Ob) => ∀ (o3 : Ob), zY X D out (K45 o3) (WM tA q o3) 45 [some (.ref (q 0)), none] []) ?_ ?_
  · intro o3
    refine y_iconst (v := 0) (pc := 45) F dX11_anew_45 rfl ?_
    refine y_istore_n (lv' := [some (.ref (q 0)), some (.int (0 : Int32))]) (pc := 46) F dX11_anew_46 (Nat.le_of_ble_eq_true rfl) rfl rfl ?_
    refine y_jn (fun (K80 : Ob → Option Ob) => ∀ (o4 : Ob), zY X D out (K80 o4) (WM tA q o4) 80 [some (.ref (q 0)), none] []) ?_ ?_
    · intro o4
      refine y_iconst (v := 0) (pc := 80) F dX11_anew_80 rfl ?_
      refine y_istore_n (lv' := [some (.ref (q 0)), some (.int (0 : Int32))]) (pc := 81) F dX11_anew_81 (Nat.le_of_ble_eq_true rfl) rfl rfl ?_
      exact wlX11_anew_82 q F hr zfu (0 : Int32) o4
    intro K80 hK80
    exact wlX11_anew_47 q F hr hK80 zfu (0 : Int32) o3
  intro K45 hK45
  exact wlX11_anew_12 q F hr hK45 zfu (0 : Int32) o2
abbrev rmX11_court : Room := { frames := 5, cells := 0, slots := 0, locals := 112 }
def lX11_court_130 (K178 : Ob → Option (Int32 × Ob)) : Nat → Int32 → Ob → Option (Int32 × Ob)
  | 0, _, _ => none
  | f + 1, x15, o16 =>
    if (12 : Int32) ≤ x15 then (K178 o16)
    else (zgd x15 12 <| zgd x15 12 <| zlet (sa o16 5 (upd (ga o16 5) (x15.toNatClampNeg) (ga o16 34 (x15.toNatClampNeg)))) fun (o17 : Ob) =>
    zgd x15 12 <| zgd x15 12 <| zlet (sa o17 6 (upd (ga o17 6) (x15.toNatClampNeg) (ga o17 35 (x15.toNatClampNeg)))) fun (o18 : Ob) =>
    zgd x15 12 <| zgd x15 12 <| zlet (sa o18 7 (upd (ga o18 7) (x15.toNatClampNeg) (ga o18 36 (x15.toNatClampNeg)))) fun (o19 : Ob) =>
    zlet (x15 + (1 : Int32)) fun (x20 : Int32) =>
    lX11_court_130 K178 f x20 o19)
def lX11_court_73 (K128 : Ob → Option (Int32 × Ob)) : Nat → Int32 → Ob → Option (Int32 × Ob)
  | 0, _, _ => none
  | f + 1, x21, o22 =>
    if (6 : Int32) ≤ x21 then (K128 o22)
    else (zgd x21 6 <| zgd x21 6 <| zlet (sa o22 1 (upd (ga o22 1) (x21.toNatClampNeg) (ga o22 30 (x21.toNatClampNeg)))) fun (o23 : Ob) =>
    zgd x21 6 <| zgd x21 6 <| zlet (sa o23 2 (upd (ga o23 2) (x21.toNatClampNeg) (ga o23 31 (x21.toNatClampNeg)))) fun (o24 : Ob) =>
    zgd x21 6 <| zgd x21 6 <| zlet (sa o24 3 (upd (ga o24 3) (x21.toNatClampNeg) (ga o24 32 (x21.toNatClampNeg)))) fun (o25 : Ob) =>
    zgd x21 6 <| zlet (sa o25 47 (upd (ga o25 47) (x21.toNatClampNeg) (0 : Int32))) fun (o26 : Ob) =>
    zlet (x21 + (1 : Int32)) fun (x27 : Int32) =>
    lX11_court_73 K128 f x27 o26)
def lX11_court_22 (K41 : Int32 → Ob → Option (Int32 × Ob)) : Nat → Int32 → Ob → Option (Int32 × Ob)
  | 0, _, _ => none
  | f + 1, x28, o29 =>
    if x28 = 0 then (Option.bind (pX11_here o29) fun (r30 : Int32 × Ob) =>
    if (r30.1) < 0 then (K41 x28 (r30.2))
    else (Option.bind (pX11_takeClause (r30.2)) fun (r31 : Int32 × Ob) =>
    lX11_court_22 K41 f (r31.1) (r31.2)))
    else (K41 x28 o29)
def pX11_court (o : Ob) : Option (Int32 × Ob) :=
  zlet (si o 23 (-1 : Int32)) fun (o1 : Ob) =>
  zlet (si o1 24 (0 : Int32)) fun (o2 : Ob) =>
  zlet (si o2 29 (0 : Int32)) fun (o3 : Ob) =>
  zlet (si o3 33 (0 : Int32)) fun (o4 : Ob) =>
  zjn (fun (x5 : Int32) (o6 : Ob) =>
  zlet (si o6 22 (0 : Int32)) fun (o7 : Ob) =>
  if x5 ≤ 0 then (zlet (si o7 0 (gi o7 29)) fun (o8 : Ob) =>
  zlet (si o8 4 (gi o8 33)) fun (o9 : Ob) =>
  zjn (fun (o10 : Ob) =>
  zjn (fun (o11 : Ob) =>
  Option.bind (pX11_anew o11) fun (r12 : Ob) =>
  zgd (0 : Int32) 2 <| zlet (sa r12 52 (upd (ga r12 52) ((0 : Int32).toNatClampNeg) (vp_nar .boolean (0 : Int32)))) fun (o13 : Ob) =>
  zgd (1 : Int32) 2 <| zlet (sa o13 52 (upd (ga o13 52) ((1 : Int32).toNatClampNeg) (vp_nar .boolean (0 : Int32)))) fun (o14 : Ob) =>
  some ((gi o14 0), o14)) fun (K178 : Ob → Option (Int32 × Ob)) =>
  lX11_court_130 K178 zfu (0 : Int32) o10) fun (K128 : Ob → Option (Int32 × Ob)) =>
  lX11_court_73 K128 zfu (0 : Int32) o9)
  else (some (((-10 : Int32) - x5), o7))) fun (K41 : Int32 → Ob → Option (Int32 × Ob)) =>
  lX11_court_22 K41 zfu (0 : Int32) o4
set_option maxHeartbeats 4000000 in
set_option maxRecDepth 100000 in
theorem wlX11_court_130 {X : ZX} {out : (Int32 × Ob)} (q : Nat → Nat) (F : zF l D tA RX11 cX11_court 3 rmX11_court X) (hr : zRi X D cX11_court .int (fun (r : Int32 × Ob) => (r.1)) (fun (r : Int32 × Ob) => (WM tA q (r.2))) out) {K178 : Ob → Option (Int32 × Ob)} (hK178 : ∀ (o11 : Ob), zY X D out (K178 o11) (WM tA q o11) 178 [some (.ref (q 0)), none, none] []) : ∀ (f : Nat) (x15 : Int32) (o16 : Ob), zY X D out (lX11_court_130 K178 f x15 o16) (WM tA q o16) 130 [some (.ref (q 0)), none, some (.int x15)] [] := by
  intro f
  induction f with
  | zero =>
    intro x15 o16
    exact y_none
  | succ f ih =>
    intro x15 o16
    rw [lX11_court_130.eq_2]
    refine y_iload_n (pc := 130) F dX11_court_130 rfl ?_
    refine y_bipush (v := 12) (pc := 131) F dX11_court_131 rfl ?_
    refine y_icmp_ge (pc := 133) (tgt := 178) F dX11_court_133 rfl ?_ ?_
    · refine y_le (lv' := [some (.ref (q 0)), none, none]) ⟨rfl, trivial⟩ ?_
      exact hK178 o16
    · refine y_aload_n (pc := 136) F dX11_court_136 rfl ?_
      refine y_get (pc := 137) F dX11_court_137 kF_X11_19 0 WM_at0 rfl ?_
      refine y_iload_n (pc := 140) F dX11_court_140 rfl ?_
      refine y_aload_n (pc := 141) F dX11_court_141 rfl ?_
      refine y_get (pc := 142) F dX11_court_142 kF_X11_72 0 WM_at0 rfl ?_
      refine y_iload_n (pc := 145) F dX11_court_145 rfl ?_
      refine y_iald (pc := 146) F dX11_court_146 20 WM_at20 ?_
      refine y_iast (pc := 147) F dX11_court_147 4 WM_at4 (fun (o17 : Ob) => (WM tA q o17)) (WM_ar4 _) (fun o17 => ?_)
      refine y_aload_n (pc := 148) F dX11_court_148 rfl ?_
      refine y_get (pc := 149) F dX11_court_149 kF_X11_22 0 WM_at0 rfl ?_
      refine y_iload_n (pc := 152) F dX11_court_152 rfl ?_
      refine y_aload_n (pc := 153) F dX11_court_153 rfl ?_
      refine y_get (pc := 154) F dX11_court_154 kF_X11_75 0 WM_at0 rfl ?_
      refine y_iload_n (pc := 157) F dX11_court_157 rfl ?_
      refine y_iald (pc := 158) F dX11_court_158 21 WM_at21 ?_
      refine y_iast (pc := 159) F dX11_court_159 5 WM_at5 (fun (o18 : Ob) => (WM tA q o18)) (WM_ar5 _) (fun o18 => ?_)
      refine y_aload_n (pc := 160) F dX11_court_160 rfl ?_
      refine y_get (pc := 161) F dX11_court_161 kF_X11_25 0 WM_at0 rfl ?_
      refine y_iload_n (pc := 164) F dX11_court_164 rfl ?_
      refine y_aload_n (pc := 165) F dX11_court_165 rfl ?_
      refine y_get (pc := 166) F dX11_court_166 kF_X11_78 0 WM_at0 rfl ?_
      refine y_iload_n (pc := 169) F dX11_court_169 rfl ?_
      refine y_iald (pc := 170) F dX11_court_170 22 WM_at22 ?_
      refine y_iast (pc := 171) F dX11_court_171 6 WM_at6 (fun (o19 : Ob) => (WM tA q o19)) (WM_ar6 _) (fun o19 => ?_)
      refine y_iinc (v := 1) (lf := fun (x20 : Int32) => [some (.ref (q 0)), none, some (.int x20)]) (pc := 172) F dX11_court_172 rfl rfl rfl (fun _ => rfl) (fun x20 => ?_)
      refine y_goto (tgt := 130) (pc := 175) F dX11_court_175 rfl ?_
      exact ih x20 o19
set_option maxHeartbeats 4000000 in
set_option maxRecDepth 100000 in
theorem wlX11_court_73 {X : ZX} {out : (Int32 × Ob)} (q : Nat → Nat) (F : zF l D tA RX11 cX11_court 3 rmX11_court X) (hr : zRi X D cX11_court .int (fun (r : Int32 × Ob) => (r.1)) (fun (r : Int32 × Ob) => (WM tA q (r.2))) out) {K128 : Ob → Option (Int32 × Ob)} (hK128 : ∀ (o10 : Ob), zY X D out (K128 o10) (WM tA q o10) 128 [some (.ref (q 0)), none, none] []) : ∀ (f : Nat) (x21 : Int32) (o22 : Ob), zY X D out (lX11_court_73 K128 f x21 o22) (WM tA q o22) 73 [some (.ref (q 0)), none, some (.int x21)] [] := by
  intro f
  induction f with
  | zero =>
    intro x21 o22
    exact y_none
  | succ f ih =>
    intro x21 o22
    rw [lX11_court_73.eq_2]
    refine y_iload_n (pc := 73) F dX11_court_73 rfl ?_
    refine y_bipush (v := 6) (pc := 74) F dX11_court_74 rfl ?_
    refine y_icmp_ge (pc := 76) (tgt := 128) F dX11_court_76 rfl ?_ ?_
    · refine y_le (lv' := [some (.ref (q 0)), none, none]) ⟨rfl, trivial⟩ ?_
      exact hK128 o22
    · refine y_aload_n (pc := 79) F dX11_court_79 rfl ?_
      refine y_get (pc := 80) F dX11_court_80 kF_X11_7 0 WM_at0 rfl ?_
      refine y_iload_n (pc := 83) F dX11_court_83 rfl ?_
      refine y_aload_n (pc := 84) F dX11_court_84 rfl ?_
      refine y_get (pc := 85) F dX11_court_85 kF_X11_63 0 WM_at0 rfl ?_
      refine y_iload_n (pc := 88) F dX11_court_88 rfl ?_
      refine y_iald (pc := 89) F dX11_court_89 17 WM_at17 ?_
      refine y_iast (pc := 90) F dX11_court_90 1 WM_at1 (fun (o23 : Ob) => (WM tA q o23)) (WM_ar1 _) (fun o23 => ?_)
      refine y_aload_n (pc := 91) F dX11_court_91 rfl ?_
      refine y_get (pc := 92) F dX11_court_92 kF_X11_13 0 WM_at0 rfl ?_
      refine y_iload_n (pc := 95) F dX11_court_95 rfl ?_
      refine y_aload_n (pc := 96) F dX11_court_96 rfl ?_
      refine y_get (pc := 97) F dX11_court_97 kF_X11_66 0 WM_at0 rfl ?_
      refine y_iload_n (pc := 100) F dX11_court_100 rfl ?_
      refine y_iald (pc := 101) F dX11_court_101 18 WM_at18 ?_
      refine y_iast (pc := 102) F dX11_court_102 2 WM_at2 (fun (o24 : Ob) => (WM tA q o24)) (WM_ar2 _) (fun o24 => ?_)
      refine y_aload_n (pc := 103) F dX11_court_103 rfl ?_
      refine y_get (pc := 104) F dX11_court_104 kF_X11_16 0 WM_at0 rfl ?_
      refine y_iload_n (pc := 107) F dX11_court_107 rfl ?_
      refine y_aload_n (pc := 108) F dX11_court_108 rfl ?_
      refine y_get (pc := 109) F dX11_court_109 kF_X11_69 0 WM_at0 rfl ?_
      refine y_iload_n (pc := 112) F dX11_court_112 rfl ?_
      refine y_iald (pc := 113) F dX11_court_113 19 WM_at19 ?_
      refine y_iast (pc := 114) F dX11_court_114 3 WM_at3 (fun (o25 : Ob) => (WM tA q o25)) (WM_ar3 _) (fun o25 => ?_)
      refine y_aload_n (pc := 115) F dX11_court_115 rfl ?_
      refine y_get (pc := 116) F dX11_court_116 kF_X11_106 0 WM_at0 rfl ?_
      refine y_iload_n (pc := 119) F dX11_court_119 rfl ?_
      refine y_iconst (v := 0) (pc := 120) F dX11_court_120 rfl ?_
      refine y_iast (pc := 121) F dX11_court_121 31 WM_at31 (fun (o26 : Ob) => (WM tA q o26)) (WM_ar31 _) (fun o26 => ?_)
      refine y_iinc (v := 1) (lf := fun (x27 : Int32) => [some (.ref (q 0)), none, some (.int x27)]) (pc := 122) F dX11_court_122 rfl rfl rfl (fun _ => rfl) (fun x27 => ?_)
      refine y_goto (tgt := 73) (pc := 125) F dX11_court_125 rfl ?_
      exact ih x27 o26
set_option maxHeartbeats 4000000 in
set_option maxRecDepth 100000 in
theorem wlX11_court_22 {X : ZX} {out : (Int32 × Ob)} (q : Nat → Nat) (F : zF l D tA RX11 cX11_court 3 rmX11_court X) (hr : zRi X D cX11_court .int (fun (r : Int32 × Ob) => (r.1)) (fun (r : Int32 × Ob) => (WM tA q (r.2))) out) {K41 : Int32 → Ob → Option (Int32 × Ob)} (hK41 : ∀ (x5 : Int32) (o6 : Ob), zY X D out (K41 x5 o6) (WM tA q o6) 41 [some (.ref (q 0)), some (.int x5), none] []) : ∀ (f : Nat) (x28 : Int32) (o29 : Ob), zY X D out (lX11_court_22 K41 f x28 o29) (WM tA q o29) 22 [some (.ref (q 0)), some (.int x28), none] [] := by
  intro f
  induction f with
  | zero =>
    intro x28 o29
    exact y_none
  | succ f ih =>
    intro x28 o29
    rw [lX11_court_22.eq_2]
    refine y_iload_n (pc := 22) F dX11_court_22 rfl ?_
    refine y_if_ne (pc := 23) (tgt := 41) F dX11_court_23 rfl ?_ ?_
    · refine y_aload_n (pc := 26) F dX11_court_26 rfl ?_
      refine y_calliW (As := []) (st := []) (q0 := 0) (pc := 27) F (c_X11_here (q := q) o29) dX11_court_27 kM_X11_146 ⟨rfl, rfl⟩ ⟨Nat.le_of_ble_eq_true rfl, Nat.le_of_ble_eq_true rfl⟩ rfl rfl rfl (Nat.le_of_ble_eq_true rfl) rfl rfl WM_at0 (fun r30 => ?_)
      refine y_if_lt (pc := 30) (tgt := 41) F dX11_court_30 rfl ?_ ?_
      · exact hK41 x28 (r30.2)
      · refine y_aload_n (pc := 33) F dX11_court_33 rfl ?_
        refine y_calliW (As := []) (st := []) (q0 := 0) (pc := 34) F (c_X11_takeClause (q := q) (r30.2)) dX11_court_34 kM_X11_217 ⟨rfl, rfl⟩ ⟨Nat.le_of_ble_eq_true rfl, Nat.le_of_ble_eq_true rfl⟩ rfl rfl rfl (Nat.le_of_ble_eq_true rfl) rfl rfl WM_at0 (fun r31 => ?_)
        refine y_istore_n (lv' := [some (.ref (q 0)), some (.int (r31.1)), none]) (pc := 37) F dX11_court_37 (Nat.le_of_ble_eq_true rfl) rfl rfl ?_
        refine y_goto (tgt := 22) (pc := 38) F dX11_court_38 rfl ?_
        exact ih (r31.1) (r31.2)
    · exact hK41 x28 o29
set_option maxHeartbeats 4000000 in
set_option maxRecDepth 100000 in
theorem c_X11_court {q : Nat → Nat} (o : Ob) : zCi l D tA yX11_court cX11_court 3 .int rmX11_court [.ref (q 0)] (WM tA q o) (fun (r : Int32 × Ob) => (r.1)) (fun (r : Int32 × Ob) => (WM tA q (r.2))) (pX11_court o) := by
  refine zCi_of (lv0 := [some (.ref (q 0)), none, none]) (by decide +kernel) (Nat.le_of_ble_eq_true rfl) rfl (fun X out F hr => ?_)
  unfold pX11_court
  refine y_aload_n (pc := 0) F dX11_court_0 rfl ?_
  refine y_iconst (v := -1) (pc := 1) F dX11_court_1 rfl ?_
  refine y_put (pc := 2) F dX11_court_2 kF_X11_59 0 WM_at0 rfl rfl rfl (Nat.le_of_ble_eq_true rfl) (fun (o1 : Ob) => (WM tA q o1)) (WM_pt0_23 _) (fun o1 => ?_)
  refine y_aload_n (pc := 5) F dX11_court_5 rfl ?_
  refine y_iconst (v := 0) (pc := 6) F dX11_court_6 rfl ?_
  refine y_put (pc := 7) F dX11_court_7 kF_X11_143 0 WM_at0 rfl rfl rfl (Nat.le_of_ble_eq_true rfl) (fun (o2 : Ob) => (WM tA q o2)) (WM_pt0_24 _) (fun o2 => ?_)
  refine y_aload_n (pc := 10) F dX11_court_10 rfl ?_
  refine y_iconst (v := 0) (pc := 11) F dX11_court_11 rfl ?_
  refine y_put (pc := 12) F dX11_court_12 kF_X11_186 0 WM_at0 rfl rfl rfl (Nat.le_of_ble_eq_true rfl) (fun (o3 : Ob) => (WM tA q o3)) (WM_pt0_29 _) (fun o3 => ?_)
  refine y_aload_n (pc := 15) F dX11_court_15 rfl ?_
  refine y_iconst (v := 0) (pc := 16) F dX11_court_16 rfl ?_
  refine y_put (pc := 17) F dX11_court_17 kF_X11_202 0 WM_at0 rfl rfl rfl (Nat.le_of_ble_eq_true rfl) (fun (o4 : Ob) => (WM tA q o4)) (WM_pt0_33 _) (fun o4 => ?_)
  refine y_iconst (v := 0) (pc := 20) F dX11_court_20 rfl ?_
  refine y_istore_n (lv' := [some (.ref (q 0)), some (.int (0 : Int32)), none]) (pc := 21) F dX11_court_21 (Nat.le_of_ble_eq_true rfl) rfl rfl ?_
  refine y_jn (fun (K41 : Int32 → Ob → Option (Int32 × Ob)) => ∀ (x5 : Int32) (o6 : Ob), zY X D out (K41 x5 o6) (WM tA q o6) 41 [some (.ref (q 0)), some (.int x5), none] []) ?_ ?_
  · intro x5 o6
    refine y_aload_n (pc := 41) F dX11_court_41 rfl ?_
    refine y_iconst (v := 0) (pc := 42) F dX11_court_42 rfl ?_
    refine y_put (pc := 43) F dX11_court_43 kF_X11_137 0 WM_at0 rfl rfl rfl (Nat.le_of_ble_eq_true rfl) (fun (o7 : Ob) => (WM tA q o7)) (WM_pt0_22 _) (fun o7 => ?_)
    refine y_iload_n (pc := 46) F dX11_court_46 rfl ?_
    refine y_if_le (pc := 47) (tgt := 55) F dX11_court_47 rfl ?_ ?_
    · refine y_aload_n (pc := 55) F dX11_court_55 rfl ?_
      refine y_aload_n (pc := 56) F dX11_court_56 rfl ?_
      refine y_get (pc := 57) F dX11_court_57 kF_X11_186 0 WM_at0 rfl ?_
      refine y_put (pc := 60) F dX11_court_60 kF_X11_124 0 WM_at0 rfl rfl rfl (Nat.le_of_ble_eq_true rfl) (fun (o8 : Ob) => (WM tA q o8)) (WM_pt0_0 _) (fun o8 => ?_)
      refine y_aload_n (pc := 63) F dX11_court_63 rfl ?_
      refine y_aload_n (pc := 64) F dX11_court_64 rfl ?_
      refine y_get (pc := 65) F dX11_court_65 kF_X11_202 0 WM_at0 rfl ?_
      refine y_put (pc := 68) F dX11_court_68 kF_X11_131 0 WM_at0 rfl rfl rfl (Nat.le_of_ble_eq_true rfl) (fun (o9 : Ob) => (WM tA q o9)) (WM_pt0_4 _) (fun o9 => ?_)
      refine y_iconst (v := 0) (pc := 71) F dX11_court_71 rfl ?_
      refine y_istore_n (lv' := [some (.ref (q 0)), some (.int x5), some (.int (0 : Int32))]) (pc := 72) F dX11_court_72 (Nat.le_of_ble_eq_true rfl) rfl rfl ?_
      refine y_jn (fun (K128 : Ob → Option (Int32 × Ob)) => ∀ (o10 : Ob), zY X D out (K128 o10) (WM tA q o10) 128 [some (.ref (q 0)), none, none] []) ?_ ?_
      · intro o10
        refine y_iconst (v := 0) (pc := 128) F dX11_court_128 rfl ?_
        refine y_istore_n (lv' := [some (.ref (q 0)), none, some (.int (0 : Int32))]) (pc := 129) F dX11_court_129 (Nat.le_of_ble_eq_true rfl) rfl rfl ?_
        refine y_jn (fun (K178 : Ob → Option (Int32 × Ob)) => ∀ (o11 : Ob), zY X D out (K178 o11) (WM tA q o11) 178 [some (.ref (q 0)), none, none] []) ?_ ?_
        · intro o11
          refine y_aload_n (pc := 178) F dX11_court_178 rfl ?_
          refine y_callvW (As := []) (st := []) (q0 := 0) (pc := 179) F (c_X11_anew (q := q) o11) dX11_court_179 kM_X11_220 ⟨rfl, rfl⟩ ⟨Nat.le_of_ble_eq_true rfl, Nat.le_of_ble_eq_true rfl⟩ rfl rfl rfl (Nat.le_of_ble_eq_true rfl) rfl rfl WM_at0 (fun r12 => ?_)
          refine y_aload_n (pc := 182) F dX11_court_182 rfl ?_
          refine y_get (pc := 183) F dX11_court_183 kF_X11_121 0 WM_at0 rfl ?_
          refine y_iconst (v := 0) (pc := 186) F dX11_court_186 rfl ?_
          refine y_iconst (v := 0) (pc := 187) F dX11_court_187 rfl ?_
          refine y_zast (pc := 188) F dX11_court_188 36 WM_at36 (fun (o13 : Ob) => (WM tA q o13)) (WM_ar36 _) (fun o13 => ?_)
          refine y_aload_n (pc := 189) F dX11_court_189 rfl ?_
          refine y_get (pc := 190) F dX11_court_190 kF_X11_121 0 WM_at0 rfl ?_
          refine y_iconst (v := 1) (pc := 193) F dX11_court_193 rfl ?_
          refine y_iconst (v := 0) (pc := 194) F dX11_court_194 rfl ?_
          refine y_zast (pc := 195) F dX11_court_195 36 WM_at36 (fun (o14 : Ob) => (WM tA q o14)) (WM_ar36 _) (fun o14 => ?_)
          refine y_aload_n (pc := 196) F dX11_court_196 rfl ?_
          refine y_get (pc := 197) F dX11_court_197 kF_X11_124 0 WM_at0 rfl ?_
          exact y_iret hr dX11_court_200 rfl rfl
        intro K178 hK178
        exact wlX11_court_130 q F hr hK178 zfu (0 : Int32) o10
      intro K128 hK128
      refine y_le (lv' := [some (.ref (q 0)), none, some (.int (0 : Int32))]) ⟨rfl, ⟨rfl, trivial⟩⟩ ?_
      exact wlX11_court_73 q F hr hK128 zfu (0 : Int32) o9
    · refine y_bipush (v := -10) (pc := 50) F dX11_court_50 rfl ?_
      refine y_iload_n (pc := 52) F dX11_court_52 rfl ?_
      refine y_isub (pc := 53) F dX11_court_53 ?_
      exact y_iret hr dX11_court_54 rfl rfl
  intro K41 hK41
  exact wlX11_court_22 q F hr hK41 zfu (0 : Int32) o4
abbrev rmX11_takeLaw : Room := { frames := 2, cells := 0, slots := 0, locals := 48 }
def pX11_takeLaw (o : Ob) : Option (Int32 × Ob) :=
  Option.bind (pX11_readWord o) fun (r1 : Ob) =>
  Option.bind (pX11_code (102 : Int32) (114 : Int32) (111 : Int32) (109 : Int32)) fun (r2 : Int64) =>
  if (gl r1 25) = r2 then (if (gi r1 37) = (6 : Int32) then (Option.bind (pX11_fails r1 (3 : Int32) (gi r1 24)) fun (r24 : Int32 × Ob) =>
  some ((r24.1), (r24.2)))
  else (zlet (si r1 24 (gi r1 26)) fun (o3 : Ob) =>
  zlet (((4 : Int32) * (gi o3 37))) fun (x4 : Int32) =>
  Option.bind (pX11_takeNumber o3 (0 : Int32) (399 : Int32)) fun (r5 : Int32 × Ob) =>
  zjn (fun (x6 : Int32) (o7 : Ob) =>
  zgd x4 24 <| zlet (sa o7 38 (upd (ga o7 38) (x4.toNatClampNeg) (gi o7 27))) fun (o8 : Ob) =>
  zjn (fun (x9 : Int32) (o10 : Ob) =>
  zgd (x4 + (1 : Int32)) 24 <| zlet (sa o10 38 (upd (ga o10 38) ((x4 + (1 : Int32)).toNatClampNeg) (gi o10 27))) fun (o11 : Ob) =>
  zjn (fun (x12 : Int32) (o13 : Ob) =>
  zgd (x4 + (2 : Int32)) 24 <| zlet (sa o13 38 (upd (ga o13 38) ((x4 + (2 : Int32)).toNatClampNeg) (gi o13 27))) fun (o14 : Ob) =>
  zjn (fun (x15 : Int32) (o16 : Ob) =>
  zgd (x4 + (3 : Int32)) 24 <| zlet (sa o16 38 (upd (ga o16 38) ((x4 + (3 : Int32)).toNatClampNeg) (gi o16 27))) fun (o17 : Ob) =>
  zlet (si o17 37 ((gi o17 37) + (1 : Int32))) fun (o18 : Ob) =>
  if x15 ≤ 0 then (Option.bind (pX11_takeStop o18) fun (r19 : Int32 × Ob) =>
  some ((r19.1), (r19.2)))
  else (some (x15, o18))) fun (K197 : Int32 → Ob → Option (Int32 × Ob)) =>
  if x12 ≤ 0 then (Option.bind (pX11_takeNumber o14 (1 : Int32) (6 : Int32)) fun (r20 : Int32 × Ob) =>
  K197 (r20.1) (r20.2))
  else (K197 x12 o14)) fun (K169 : Int32 → Ob → Option (Int32 × Ob)) =>
  if x9 ≤ 0 then (Option.bind (pX11_takeNumber o11 (1 : Int32) (60 : Int32)) fun (r21 : Int32 × Ob) =>
  K169 (r21.1) (r21.2))
  else (K169 x9 o11)) fun (K141 : Int32 → Ob → Option (Int32 × Ob)) =>
  if x6 ≤ 0 then (Option.bind (pX11_takeNumber o8 (0 : Int32) (6 : Int32)) fun (r22 : Int32 × Ob) =>
  K141 (r22.1) (r22.2))
  else (K141 x6 o8)) fun (K115 : Int32 → Ob → Option (Int32 × Ob)) =>
  zjn (K115 (r5.1) (r5.2)) fun (K114 : Option (Int32 × Ob)) =>
  if (r5.1) = 0 then (if (gi (r5.2) 37) ≤ 0 then (K114)
  else (zgd (x4 - (4 : Int32)) 24 <| if (ga (r5.2) 38 ((x4 - (4 : Int32)).toNatClampNeg)) < (gi (r5.2) 27) then (K114)
  else (Option.bind (pX11_fails (r5.2) (4 : Int32) (gi (r5.2) 28)) fun (r23 : Int32 × Ob) =>
  K115 (r23.1) (r23.2))))
  else (K114)))
  else (Option.bind (pX11_fails r1 (1 : Int32) (gi r1 24)) fun (r25 : Int32 × Ob) =>
  some ((r25.1), (r25.2)))
set_option maxHeartbeats 4000000 in
set_option maxRecDepth 100000 in
theorem c_X11_takeLaw {q : Nat → Nat} (o : Ob) : zCi l D tA yX11_takeLaw cX11_takeLaw 3 .int rmX11_takeLaw [.ref (q 0)] (WM tA q o) (fun (r : Int32 × Ob) => (r.1)) (fun (r : Int32 × Ob) => (WM tA q (r.2))) (pX11_takeLaw o) := by
  refine zCi_of (lv0 := [some (.ref (q 0)), none, none]) (by decide +kernel) (Nat.le_of_ble_eq_true rfl) rfl (fun X out F hr => ?_)
  unfold pX11_takeLaw
  refine y_aload_n (pc := 0) F dX11_takeLaw_0 rfl ?_
  refine y_callvW (As := []) (st := []) (q0 := 0) (pc := 1) F (c_X11_readWord (q := q) o) dX11_takeLaw_1 kM_X11_189 ⟨rfl, rfl⟩ ⟨Nat.le_of_ble_eq_true rfl, Nat.le_of_ble_eq_true rfl⟩ rfl rfl rfl (Nat.le_of_ble_eq_true rfl) rfl rfl WM_at0 (fun r1 => ?_)
  refine y_aload_n (pc := 4) F dX11_takeLaw_4 rfl ?_
  refine y_get (pc := 5) F dX11_takeLaw_5 kF_X11_150 0 WM_at0 rfl ?_
  refine y_bipush (v := 102) (pc := 8) F dX11_takeLaw_8 rfl ?_
  refine y_bipush (v := 114) (pc := 10) F dX11_takeLaw_10 rfl ?_
  refine y_bipush (v := 111) (pc := 12) F dX11_takeLaw_12 rfl ?_
  refine y_bipush (v := 109) (pc := 14) F dX11_takeLaw_14 rfl ?_
  refine y_scalllP (As := [.int (102 : Int32), .int (114 : Int32), .int (111 : Int32), .int (109 : Int32)]) (st := [.long (gl r1 25)]) (pc := 16) F (c_X11_code (q := q) (102 : Int32) (114 : Int32) (111 : Int32) (109 : Int32)) dX11_takeLaw_16 kM_X11_194 ⟨rfl, rfl⟩ ⟨Nat.le_of_ble_eq_true rfl, Nat.le_of_ble_eq_true rfl⟩ rfl rfl rfl (Nat.le_of_ble_eq_true rfl) (fun r2 => ?_)
  refine y_lcmp_eq (pc := 19) (tgt := 33) F dX11_takeLaw_19 dX11_takeLaw_20 rfl ?_ ?_
  · refine y_aload_n (pc := 33) F dX11_takeLaw_33 rfl ?_
    refine y_get (pc := 34) F dX11_takeLaw_34 kF_X11_229 0 WM_at0 rfl ?_
    refine y_bipush (v := 6) (pc := 37) F dX11_takeLaw_37 rfl ?_
    refine y_icmp_ne (pc := 39) (tgt := 52) F dX11_takeLaw_39 rfl ?_ ?_
    · refine y_aload_n (pc := 42) F dX11_takeLaw_42 rfl ?_
      refine y_iconst (v := 3) (pc := 43) F dX11_takeLaw_43 rfl ?_
      refine y_aload_n (pc := 44) F dX11_takeLaw_44 rfl ?_
      refine y_get (pc := 45) F dX11_takeLaw_45 kF_X11_143 0 WM_at0 rfl ?_
      refine y_calliW (As := [.int (3 : Int32), .int (gi r1 24)]) (st := []) (q0 := 0) (pc := 48) F (c_X11_fails (q := q) r1 (3 : Int32) (gi r1 24)) dX11_takeLaw_48 kM_X11_173 ⟨rfl, rfl⟩ ⟨Nat.le_of_ble_eq_true rfl, Nat.le_of_ble_eq_true rfl⟩ rfl rfl rfl (Nat.le_of_ble_eq_true rfl) rfl rfl WM_at0 (fun r24 => ?_)
      exact y_iret hr dX11_takeLaw_51 rfl rfl
    · refine y_aload_n (pc := 52) F dX11_takeLaw_52 rfl ?_
      refine y_aload_n (pc := 53) F dX11_takeLaw_53 rfl ?_
      refine y_get (pc := 54) F dX11_takeLaw_54 kF_X11_154 0 WM_at0 rfl ?_
      refine y_put (pc := 57) F dX11_takeLaw_57 kF_X11_143 0 WM_at0 rfl rfl rfl (Nat.le_of_ble_eq_true rfl) (fun (o3 : Ob) => (WM tA q o3)) (WM_pt0_24 _) (fun o3 => ?_)
      refine y_iconst (v := 4) (pc := 60) F dX11_takeLaw_60 rfl ?_
      refine y_aload_n (pc := 61) F dX11_takeLaw_61 rfl ?_
      refine y_get (pc := 62) F dX11_takeLaw_62 kF_X11_229 0 WM_at0 rfl ?_
      refine y_imul (pc := 65) F dX11_takeLaw_65 ?_
      refine y_lti (fun x4 => ?_)
      refine y_istore_n (lv' := [some (.ref (q 0)), some (.int x4), none]) (pc := 66) F dX11_takeLaw_66 (Nat.le_of_ble_eq_true rfl) rfl rfl ?_
      refine y_aload_n (pc := 67) F dX11_takeLaw_67 rfl ?_
      refine y_iconst (v := 0) (pc := 68) F dX11_takeLaw_68 rfl ?_
      refine y_sipush (v := 399) (pc := 69) F dX11_takeLaw_69 rfl ?_
      refine y_calliW (As := [.int (0 : Int32), .int (399 : Int32)]) (st := []) (q0 := 0) (pc := 72) F (c_X11_takeNumber (q := q) o3 (0 : Int32) (399 : Int32)) dX11_takeLaw_72 kM_X11_183 ⟨rfl, rfl⟩ ⟨Nat.le_of_ble_eq_true rfl, Nat.le_of_ble_eq_true rfl⟩ rfl rfl rfl (Nat.le_of_ble_eq_true rfl) rfl rfl WM_at0 (fun r5 => ?_)
      refine y_istore_n (lv' := [some (.ref (q 0)), some (.int x4), some (.int (r5.1))]) (pc := 75) F dX11_takeLaw_75 (Nat.le_of_ble_eq_true rfl) rfl rfl ?_
      refine y_iload_n (pc := 76) F dX11_takeLaw_76 rfl ?_
      refine y_jn (fun (K115 : Int32 → Ob → Option (Int32 × Ob)) => ∀ (x6 : Int32) (o7 : Ob), zY X D out (K115 x6 o7) (WM tA q o7) 115 [some (.ref (q 0)), some (.int x4), none] [.int x6]) ?_ ?_
      · intro x6 o7
        refine y_istore_n (lv' := [some (.ref (q 0)), some (.int x4), some (.int x6)]) (pc := 115) F dX11_takeLaw_115 (Nat.le_of_ble_eq_true rfl) rfl rfl ?_
        refine y_aload_n (pc := 116) F dX11_takeLaw_116 rfl ?_
        refine y_get (pc := 117) F dX11_takeLaw_117 kF_X11_81 0 WM_at0 rfl ?_
        refine y_iload_n (pc := 120) F dX11_takeLaw_120 rfl ?_
        refine y_aload_n (pc := 121) F dX11_takeLaw_121 rfl ?_
        refine y_get (pc := 122) F dX11_takeLaw_122 kF_X11_180 0 WM_at0 rfl ?_
        refine y_iast (pc := 125) F dX11_takeLaw_125 23 WM_at23 (fun (o8 : Ob) => (WM tA q o8)) (WM_ar23 _) (fun o8 => ?_)
        refine y_iload_n (pc := 126) F dX11_takeLaw_126 rfl ?_
        refine y_jn (fun (K141 : Int32 → Ob → Option (Int32 × Ob)) => ∀ (x9 : Int32) (o10 : Ob), zY X D out (K141 x9 o10) (WM tA q o10) 141 [some (.ref (q 0)), some (.int x4), none] [.int x9]) ?_ ?_
        · intro x9 o10
          refine y_istore_n (lv' := [some (.ref (q 0)), some (.int x4), some (.int x9)]) (pc := 141) F dX11_takeLaw_141 (Nat.le_of_ble_eq_true rfl) rfl rfl ?_
          refine y_aload_n (pc := 142) F dX11_takeLaw_142 rfl ?_
          refine y_get (pc := 143) F dX11_takeLaw_143 kF_X11_81 0 WM_at0 rfl ?_
          refine y_iload_n (pc := 146) F dX11_takeLaw_146 rfl ?_
          refine y_iconst (v := 1) (pc := 147) F dX11_takeLaw_147 rfl ?_
          refine y_iadd (pc := 148) F dX11_takeLaw_148 ?_
          refine y_aload_n (pc := 149) F dX11_takeLaw_149 rfl ?_
          refine y_get (pc := 150) F dX11_takeLaw_150 kF_X11_180 0 WM_at0 rfl ?_
          refine y_iast (pc := 153) F dX11_takeLaw_153 23 WM_at23 (fun (o11 : Ob) => (WM tA q o11)) (WM_ar23 _) (fun o11 => ?_)
          refine y_iload_n (pc := 154) F dX11_takeLaw_154 rfl ?_
          refine y_jn (fun (K169 : Int32 → Ob → Option (Int32 × Ob)) => ∀ (x12 : Int32) (o13 : Ob), zY X D out (K169 x12 o13) (WM tA q o13) 169 [some (.ref (q 0)), some (.int x4), none] [.int x12]) ?_ ?_
          · intro x12 o13
            refine y_istore_n (lv' := [some (.ref (q 0)), some (.int x4), some (.int x12)]) (pc := 169) F dX11_takeLaw_169 (Nat.le_of_ble_eq_true rfl) rfl rfl ?_
            refine y_aload_n (pc := 170) F dX11_takeLaw_170 rfl ?_
            refine y_get (pc := 171) F dX11_takeLaw_171 kF_X11_81 0 WM_at0 rfl ?_
            refine y_iload_n (pc := 174) F dX11_takeLaw_174 rfl ?_
            refine y_iconst (v := 2) (pc := 175) F dX11_takeLaw_175 rfl ?_
            refine y_iadd (pc := 176) F dX11_takeLaw_176 ?_
            refine y_aload_n (pc := 177) F dX11_takeLaw_177 rfl ?_
            refine y_get (pc := 178) F dX11_takeLaw_178 kF_X11_180 0 WM_at0 rfl ?_
            refine y_iast (pc := 181) F dX11_takeLaw_181 23 WM_at23 (fun (o14 : Ob) => (WM tA q o14)) (WM_ar23 _) (fun o14 => ?_)
            refine y_iload_n (pc := 182) F dX11_takeLaw_182 rfl ?_
            refine y_jn (fun (K197 : Int32 → Ob → Option (Int32 × Ob)) => ∀ (x15 : Int32) (o16 : Ob), zY X D out (K197 x15 o16) (WM tA q o16) 197 [some (.ref (q 0)), some (.int x4), none] [.int x15]) ?_ ?_
            · intro x15 o16
              refine y_istore_n (lv' := [some (.ref (q 0)), some (.int x4), some (.int x15)]) (pc := 197) F dX11_takeLaw_197 (Nat.le_of_ble_eq_true rfl) rfl rfl ?_
              refine y_aload_n (pc := 198) F dX11_takeLaw_198 rfl ?_
              refine y_get (pc := 199) F dX11_takeLaw_199 kF_X11_81 0 WM_at0 rfl ?_
              refine y_iload_n (pc := 202) F dX11_takeLaw_202 rfl ?_
              refine y_iconst (v := 3) (pc := 203) F dX11_takeLaw_203 rfl ?_
              refine y_iadd (pc := 204) F dX11_takeLaw_204 ?_
              refine y_aload_n (pc := 205) F dX11_takeLaw_205 rfl ?_
              refine y_get (pc := 206) F dX11_takeLaw_206 kF_X11_180 0 WM_at0 rfl ?_
              refine y_iast (pc := 209) F dX11_takeLaw_209 23 WM_at23 (fun (o17 : Ob) => (WM tA q o17)) (WM_ar23 _) (fun o17 => ?_)
              refine y_aload_n (pc := 210) F dX11_takeLaw_210 rfl ?_
              refine y_dup (pc := 211) F dX11_takeLaw_211 rfl ?_
              refine y_get (pc := 212) F dX11_takeLaw_212 kF_X11_229 0 WM_at0 rfl ?_
              refine y_iconst (v := 1) (pc := 215) F dX11_takeLaw_215 rfl ?_
              refine y_iadd (pc := 216) F dX11_takeLaw_216 ?_
              refine y_put (pc := 217) F dX11_takeLaw_217 kF_X11_229 0 WM_at0 rfl rfl rfl (Nat.le_of_ble_eq_true rfl) (fun (o18 : Ob) => (WM tA q o18)) (WM_pt0_37 _) (fun o18 => ?_)
              refine y_iload_n (pc := 220) F dX11_takeLaw_220 rfl ?_
              refine y_if_le (pc := 221) (tgt := 228) F dX11_takeLaw_221 rfl ?_ ?_
              · refine y_aload_n (pc := 228) F dX11_takeLaw_228 rfl ?_
                refine y_calliW (As := []) (st := []) (q0 := 0) (pc := 229) F (c_X11_takeStop (q := q) o18) dX11_takeLaw_229 kM_X11_214 ⟨rfl, rfl⟩ ⟨Nat.le_of_ble_eq_true rfl, Nat.le_of_ble_eq_true rfl⟩ rfl rfl rfl (Nat.le_of_ble_eq_true rfl) rfl rfl WM_at0 (fun r19 => ?_)
                exact y_iret hr dX11_takeLaw_232 rfl rfl
              · refine y_iload_n (pc := 224) F dX11_takeLaw_224 rfl ?_
                refine y_goto (tgt := 232) (pc := 225) F dX11_takeLaw_225 rfl ?_
                exact y_iret hr dX11_takeLaw_232 rfl rfl
            intro K197 hK197
            refine y_if_le (pc := 183) (tgt := 190) F dX11_takeLaw_183 rfl ?_ ?_
            · refine y_aload_n (pc := 190) F dX11_takeLaw_190 rfl ?_
              refine y_iconst (v := 1) (pc := 191) F dX11_takeLaw_191 rfl ?_
              refine y_bipush (v := 6) (pc := 192) F dX11_takeLaw_192 rfl ?_
              refine y_calliW (As := [.int (1 : Int32), .int (6 : Int32)]) (st := []) (q0 := 0) (pc := 194) F (c_X11_takeNumber (q := q) o14 (1 : Int32) (6 : Int32)) dX11_takeLaw_194 kM_X11_183 ⟨rfl, rfl⟩ ⟨Nat.le_of_ble_eq_true rfl, Nat.le_of_ble_eq_true rfl⟩ rfl rfl rfl (Nat.le_of_ble_eq_true rfl) rfl rfl WM_at0 (fun r20 => ?_)
              refine y_le (lv' := [some (.ref (q 0)), some (.int x4), none]) ⟨rfl, ⟨rfl, trivial⟩⟩ ?_
              exact hK197 (r20.1) (r20.2)
            · refine y_iload_n (pc := 186) F dX11_takeLaw_186 rfl ?_
              refine y_goto (tgt := 197) (pc := 187) F dX11_takeLaw_187 rfl ?_
              refine y_le (lv' := [some (.ref (q 0)), some (.int x4), none]) ⟨rfl, ⟨rfl, trivial⟩⟩ ?_
              exact hK197 x12 o14
          intro K169 hK169
          refine y_if_le (pc := 155) (tgt := 162) F dX11_takeLaw_155 rfl ?_ ?_
          · refine y_aload_n (pc := 162) F dX11_takeLaw_162 rfl ?_
            refine y_iconst (v := 1) (pc := 163) F dX11_takeLaw_163 rfl ?_
            refine y_bipush (v := 60) (pc := 164) F dX11_takeLaw_164 rfl ?_
            refine y_calliW (As := [.int (1 : Int32), .int (60 : Int32)]) (st := []) (q0 := 0) (pc := 166) F (c_X11_takeNumber (q := q) o11 (1 : Int32) (60 : Int32)) dX11_takeLaw_166 kM_X11_183 ⟨rfl, rfl⟩ ⟨Nat.le_of_ble_eq_true rfl, Nat.le_of_ble_eq_true rfl⟩ rfl rfl rfl (Nat.le_of_ble_eq_true rfl) rfl rfl WM_at0 (fun r21 => ?_)
            refine y_le (lv' := [some (.ref (q 0)), some (.int x4), none]) ⟨rfl, ⟨rfl, trivial⟩⟩ ?_
            exact hK169 (r21.1) (r21.2)
          · refine y_iload_n (pc := 158) F dX11_takeLaw_158 rfl ?_
            refine y_goto (tgt := 169) (pc := 159) F dX11_takeLaw_159 rfl ?_
            refine y_le (lv' := [some (.ref (q 0)), some (.int x4), none]) ⟨rfl, ⟨rfl, trivial⟩⟩ ?_
            exact hK169 x9 o11
        intro K141 hK141
        refine y_if_le (pc := 127) (tgt := 134) F dX11_takeLaw_127 rfl ?_ ?_
        · refine y_aload_n (pc := 134) F dX11_takeLaw_134 rfl ?_
          refine y_iconst (v := 0) (pc := 135) F dX11_takeLaw_135 rfl ?_
          refine y_bipush (v := 6) (pc := 136) F dX11_takeLaw_136 rfl ?_
          refine y_calliW (As := [.int (0 : Int32), .int (6 : Int32)]) (st := []) (q0 := 0) (pc := 138) F (c_X11_takeNumber (q := q) o8 (0 : Int32) (6 : Int32)) dX11_takeLaw_138 kM_X11_183 ⟨rfl, rfl⟩ ⟨Nat.le_of_ble_eq_true rfl, Nat.le_of_ble_eq_true rfl⟩ rfl rfl rfl (Nat.le_of_ble_eq_true rfl) rfl rfl WM_at0 (fun r22 => ?_)
          refine y_le (lv' := [some (.ref (q 0)), some (.int x4), none]) ⟨rfl, ⟨rfl, trivial⟩⟩ ?_
          exact hK141 (r22.1) (r22.2)
        · refine y_iload_n (pc := 130) F dX11_takeLaw_130 rfl ?_
          refine y_goto (tgt := 141) (pc := 131) F dX11_takeLaw_131 rfl ?_
          refine y_le (lv' := [some (.ref (q 0)), some (.int x4), none]) ⟨rfl, ⟨rfl, trivial⟩⟩ ?_
          exact hK141 x6 o8
      intro K115 hK115
      refine y_jn (fun (K114 : Option (Int32 × Ob)) => zY X D out (K114) (WM tA q (r5.2)) 114 [some (.ref (q 0)), some (.int x4), some (.int (r5.1))] []) ?_ ?_
      · skip
        refine y_iload_n (pc := 114) F dX11_takeLaw_114 rfl ?_
        refine y_le (lv' := [some (.ref (q 0)), some (.int x4), none]) ⟨rfl, ⟨rfl, trivial⟩⟩ ?_
        exact hK115 (r5.1) (r5.2)
      intro K114 hK114
      refine y_if_ne (pc := 77) (tgt := 114) F dX11_takeLaw_77 rfl ?_ ?_
      · refine y_aload_n (pc := 80) F dX11_takeLaw_80 rfl ?_
        refine y_get (pc := 81) F dX11_takeLaw_81 kF_X11_229 0 WM_at0 rfl ?_
        refine y_if_le (pc := 84) (tgt := 114) F dX11_takeLaw_84 rfl ?_ ?_
        · exact hK114
        · refine y_aload_n (pc := 87) F dX11_takeLaw_87 rfl ?_
          refine y_get (pc := 88) F dX11_takeLaw_88 kF_X11_180 0 WM_at0 rfl ?_
          refine y_aload_n (pc := 91) F dX11_takeLaw_91 rfl ?_
          refine y_get (pc := 92) F dX11_takeLaw_92 kF_X11_81 0 WM_at0 rfl ?_
          refine y_iload_n (pc := 95) F dX11_takeLaw_95 rfl ?_
          refine y_iconst (v := 4) (pc := 96) F dX11_takeLaw_96 rfl ?_
          refine y_isub (pc := 97) F dX11_takeLaw_97 ?_
          refine y_iald (pc := 98) F dX11_takeLaw_98 23 WM_at23 ?_
          refine y_icmp_gt (pc := 99) (tgt := 114) F dX11_takeLaw_99 rfl ?_ ?_
          · exact hK114
          · refine y_aload_n (pc := 102) F dX11_takeLaw_102 rfl ?_
            refine y_iconst (v := 4) (pc := 103) F dX11_takeLaw_103 rfl ?_
            refine y_aload_n (pc := 104) F dX11_takeLaw_104 rfl ?_
            refine y_get (pc := 105) F dX11_takeLaw_105 kF_X11_177 0 WM_at0 rfl ?_
            refine y_calliW (As := [.int (4 : Int32), .int (gi (r5.2) 28)]) (st := []) (q0 := 0) (pc := 108) F (c_X11_fails (q := q) (r5.2) (4 : Int32) (gi (r5.2) 28)) dX11_takeLaw_108 kM_X11_173 ⟨rfl, rfl⟩ ⟨Nat.le_of_ble_eq_true rfl, Nat.le_of_ble_eq_true rfl⟩ rfl rfl rfl (Nat.le_of_ble_eq_true rfl) rfl rfl WM_at0 (fun r23 => ?_)
            refine y_goto (tgt := 115) (pc := 111) F dX11_takeLaw_111 rfl ?_
            refine y_le (lv' := [some (.ref (q 0)), some (.int x4), none]) ⟨rfl, ⟨rfl, trivial⟩⟩ ?_
            exact hK115 (r23.1) (r23.2)
      · exact hK114
  · refine y_aload_n (pc := 23) F dX11_takeLaw_23 rfl ?_
    refine y_iconst (v := 1) (pc := 24) F dX11_takeLaw_24 rfl ?_
    refine y_aload_n (pc := 25) F dX11_takeLaw_25 rfl ?_
    refine y_get (pc := 26) F dX11_takeLaw_26 kF_X11_143 0 WM_at0 rfl ?_
    refine y_calliW (As := [.int (1 : Int32), .int (gi r1 24)]) (st := []) (q0 := 0) (pc := 29) F (c_X11_fails (q := q) r1 (1 : Int32) (gi r1 24)) dX11_takeLaw_29 kM_X11_173 ⟨rfl, rfl⟩ ⟨Nat.le_of_ble_eq_true rfl, Nat.le_of_ble_eq_true rfl⟩ rfl rfl rfl (Nat.le_of_ble_eq_true rfl) rfl rfl WM_at0 (fun r25 => ?_)
    exact y_iret hr dX11_takeLaw_32 rfl rfl
abbrev rmX11_laws : Room := { frames := 3, cells := 0, slots := 0, locals := 70 }
def lX11_laws_73 : Nat → Int32 → Ob → Option (Int32 × Ob)
  | 0, _, _ => none
  | f + 1, x8, o9 =>
    if (24 : Int32) ≤ x8 then (some ((gi o9 8), o9))
    else (zgd x8 24 <| zgd x8 24 <| zlet (sa o9 9 (upd (ga o9 9) (x8.toNatClampNeg) (ga o9 38 (x8.toNatClampNeg)))) fun (o10 : Ob) =>
    zlet (x8 + (1 : Int32)) fun (x11 : Int32) =>
    lX11_laws_73 f x11 o10)
def lX11_laws_30 (K49 : Int32 → Ob → Option (Int32 × Ob)) : Nat → Int32 → Ob → Option (Int32 × Ob)
  | 0, _, _ => none
  | f + 1, x12, o13 =>
    if x12 = 0 then (Option.bind (pX11_here o13) fun (r14 : Int32 × Ob) =>
    if (r14.1) < 0 then (K49 x12 (r14.2))
    else (Option.bind (pX11_takeLaw (r14.2)) fun (r15 : Int32 × Ob) =>
    lX11_laws_30 K49 f (r15.1) (r15.2)))
    else (K49 x12 o13)
def pX11_laws (o : Ob) : Option (Int32 × Ob) :=
  if (gi o 22) ≤ (200 : Int32) then (zlet (si o 23 (-1 : Int32)) fun (o1 : Ob) =>
  zlet (si o1 24 (0 : Int32)) fun (o2 : Ob) =>
  zlet (si o2 37 (0 : Int32)) fun (o3 : Ob) =>
  zjn (fun (x4 : Int32) (o5 : Ob) =>
  zlet (si o5 22 (0 : Int32)) fun (o6 : Ob) =>
  if x4 ≤ 0 then (zlet (si o6 8 (gi o6 37)) fun (o7 : Ob) =>
  lX11_laws_73 zfu (0 : Int32) o7)
  else (some (((-10 : Int32) - x4), o6))) fun (K49 : Int32 → Ob → Option (Int32 × Ob)) =>
  lX11_laws_30 K49 zfu (0 : Int32) o3)
  else (some ((-1000000003 : Int32), o))
set_option maxHeartbeats 4000000 in
set_option maxRecDepth 100000 in
theorem wlX11_laws_73 {X : ZX} {out : (Int32 × Ob)} (q : Nat → Nat) (F : zF l D tA RX11 cX11_laws 3 rmX11_laws X) (hr : zRi X D cX11_laws .int (fun (r : Int32 × Ob) => (r.1)) (fun (r : Int32 × Ob) => (WM tA q (r.2))) out) : ∀ (f : Nat) (x8 : Int32) (o9 : Ob), zY X D out (lX11_laws_73 f x8 o9) (WM tA q o9) 73 [some (.ref (q 0)), none, some (.int x8)] [] := by
  intro f
  induction f with
  | zero =>
    intro x8 o9
    exact y_none
  | succ f ih =>
    intro x8 o9
    rw [lX11_laws_73.eq_2]
    refine y_iload_n (pc := 73) F dX11_laws_73 rfl ?_
    refine y_bipush (v := 24) (pc := 74) F dX11_laws_74 rfl ?_
    refine y_icmp_ge (pc := 76) (tgt := 97) F dX11_laws_76 rfl ?_ ?_
    · refine y_aload_n (pc := 97) F dX11_laws_97 rfl ?_
      refine y_get (pc := 98) F dX11_laws_98 kF_X11_236 0 WM_at0 rfl ?_
      exact y_iret hr dX11_laws_101 rfl rfl
    · refine y_aload_n (pc := 79) F dX11_laws_79 rfl ?_
      refine y_get (pc := 80) F dX11_laws_80 kF_X11_28 0 WM_at0 rfl ?_
      refine y_iload_n (pc := 83) F dX11_laws_83 rfl ?_
      refine y_aload_n (pc := 84) F dX11_laws_84 rfl ?_
      refine y_get (pc := 85) F dX11_laws_85 kF_X11_81 0 WM_at0 rfl ?_
      refine y_iload_n (pc := 88) F dX11_laws_88 rfl ?_
      refine y_iald (pc := 89) F dX11_laws_89 23 WM_at23 ?_
      refine y_iast (pc := 90) F dX11_laws_90 7 WM_at7 (fun (o10 : Ob) => (WM tA q o10)) (WM_ar7 _) (fun o10 => ?_)
      refine y_iinc (v := 1) (lf := fun (x11 : Int32) => [some (.ref (q 0)), none, some (.int x11)]) (pc := 91) F dX11_laws_91 rfl rfl rfl (fun _ => rfl) (fun x11 => ?_)
      refine y_goto (tgt := 73) (pc := 94) F dX11_laws_94 rfl ?_
      exact ih x11 o10
set_option maxHeartbeats 4000000 in
set_option maxRecDepth 100000 in
theorem wlX11_laws_30 {X : ZX} {out : (Int32 × Ob)} (q : Nat → Nat) (F : zF l D tA RX11 cX11_laws 3 rmX11_laws X) (hr : zRi X D cX11_laws .int (fun (r : Int32 × Ob) => (r.1)) (fun (r : Int32 × Ob) => (WM tA q (r.2))) out) {K49 : Int32 → Ob → Option (Int32 × Ob)} (hK49 : ∀ (x4 : Int32) (o5 : Ob), zY X D out (K49 x4 o5) (WM tA q o5) 49 [some (.ref (q 0)), some (.int x4), none] []) : ∀ (f : Nat) (x12 : Int32) (o13 : Ob), zY X D out (lX11_laws_30 K49 f x12 o13) (WM tA q o13) 30 [some (.ref (q 0)), some (.int x12), none] [] := by
  intro f
  induction f with
  | zero =>
    intro x12 o13
    exact y_none
  | succ f ih =>
    intro x12 o13
    rw [lX11_laws_30.eq_2]
    refine y_iload_n (pc := 30) F dX11_laws_30 rfl ?_
    refine y_if_ne (pc := 31) (tgt := 49) F dX11_laws_31 rfl ?_ ?_
    · refine y_aload_n (pc := 34) F dX11_laws_34 rfl ?_
      refine y_calliW (As := []) (st := []) (q0 := 0) (pc := 35) F (c_X11_here (q := q) o13) dX11_laws_35 kM_X11_146 ⟨rfl, rfl⟩ ⟨Nat.le_of_ble_eq_true rfl, Nat.le_of_ble_eq_true rfl⟩ rfl rfl rfl (Nat.le_of_ble_eq_true rfl) rfl rfl WM_at0 (fun r14 => ?_)
      refine y_if_lt (pc := 38) (tgt := 49) F dX11_laws_38 rfl ?_ ?_
      · exact hK49 x12 (r14.2)
      · refine y_aload_n (pc := 41) F dX11_laws_41 rfl ?_
        refine y_calliW (As := []) (st := []) (q0 := 0) (pc := 42) F (c_X11_takeLaw (q := q) (r14.2)) dX11_laws_42 kM_X11_233 ⟨rfl, rfl⟩ ⟨Nat.le_of_ble_eq_true rfl, Nat.le_of_ble_eq_true rfl⟩ rfl rfl rfl (Nat.le_of_ble_eq_true rfl) rfl rfl WM_at0 (fun r15 => ?_)
        refine y_istore_n (lv' := [some (.ref (q 0)), some (.int (r15.1)), none]) (pc := 45) F dX11_laws_45 (Nat.le_of_ble_eq_true rfl) rfl rfl ?_
        refine y_goto (tgt := 30) (pc := 46) F dX11_laws_46 rfl ?_
        exact ih (r15.1) (r15.2)
    · exact hK49 x12 o13
set_option maxHeartbeats 4000000 in
set_option maxRecDepth 100000 in
theorem c_X11_laws {q : Nat → Nat} (o : Ob) : zCi l D tA yX11_laws cX11_laws 3 .int rmX11_laws [.ref (q 0)] (WM tA q o) (fun (r : Int32 × Ob) => (r.1)) (fun (r : Int32 × Ob) => (WM tA q (r.2))) (pX11_laws o) := by
  refine zCi_of (lv0 := [some (.ref (q 0)), none, none]) (by decide +kernel) (Nat.le_of_ble_eq_true rfl) rfl (fun X out F hr => ?_)
  unfold pX11_laws
  refine y_aload_n (pc := 0) F dX11_laws_0 rfl ?_
  refine y_get (pc := 1) F dX11_laws_1 kF_X11_137 0 WM_at0 rfl ?_
  refine y_sipush (v := 200) (pc := 4) F dX11_laws_4 rfl ?_
  refine y_icmp_le (pc := 7) (tgt := 13) F dX11_laws_7 rfl ?_ ?_
  · refine y_aload_n (pc := 13) F dX11_laws_13 rfl ?_
    refine y_iconst (v := -1) (pc := 14) F dX11_laws_14 rfl ?_
    refine y_put (pc := 15) F dX11_laws_15 kF_X11_59 0 WM_at0 rfl rfl rfl (Nat.le_of_ble_eq_true rfl) (fun (o1 : Ob) => (WM tA q o1)) (WM_pt0_23 _) (fun o1 => ?_)
    refine y_aload_n (pc := 18) F dX11_laws_18 rfl ?_
    refine y_iconst (v := 0) (pc := 19) F dX11_laws_19 rfl ?_
    refine y_put (pc := 20) F dX11_laws_20 kF_X11_143 0 WM_at0 rfl rfl rfl (Nat.le_of_ble_eq_true rfl) (fun (o2 : Ob) => (WM tA q o2)) (WM_pt0_24 _) (fun o2 => ?_)
    refine y_aload_n (pc := 23) F dX11_laws_23 rfl ?_
    refine y_iconst (v := 0) (pc := 24) F dX11_laws_24 rfl ?_
    refine y_put (pc := 25) F dX11_laws_25 kF_X11_229 0 WM_at0 rfl rfl rfl (Nat.le_of_ble_eq_true rfl) (fun (o3 : Ob) => (WM tA q o3)) (WM_pt0_37 _) (fun o3 => ?_)
    refine y_iconst (v := 0) (pc := 28) F dX11_laws_28 rfl ?_
    refine y_istore_n (lv' := [some (.ref (q 0)), some (.int (0 : Int32)), none]) (pc := 29) F dX11_laws_29 (Nat.le_of_ble_eq_true rfl) rfl rfl ?_
    refine y_jn (fun (K49 : Int32 → Ob → Option (Int32 × Ob)) => ∀ (x4 : Int32) (o5 : Ob), zY X D out (K49 x4 o5) (WM tA q o5) 49 [some (.ref (q 0)), some (.int x4), none] []) ?_ ?_
    · intro x4 o5
      refine y_aload_n (pc := 49) F dX11_laws_49 rfl ?_
      refine y_iconst (v := 0) (pc := 50) F dX11_laws_50 rfl ?_
      refine y_put (pc := 51) F dX11_laws_51 kF_X11_137 0 WM_at0 rfl rfl rfl (Nat.le_of_ble_eq_true rfl) (fun (o6 : Ob) => (WM tA q o6)) (WM_pt0_22 _) (fun o6 => ?_)
      refine y_iload_n (pc := 54) F dX11_laws_54 rfl ?_
      refine y_if_le (pc := 55) (tgt := 63) F dX11_laws_55 rfl ?_ ?_
      · refine y_aload_n (pc := 63) F dX11_laws_63 rfl ?_
        refine y_aload_n (pc := 64) F dX11_laws_64 rfl ?_
        refine y_get (pc := 65) F dX11_laws_65 kF_X11_229 0 WM_at0 rfl ?_
        refine y_put (pc := 68) F dX11_laws_68 kF_X11_236 0 WM_at0 rfl rfl rfl (Nat.le_of_ble_eq_true rfl) (fun (o7 : Ob) => (WM tA q o7)) (WM_pt0_8 _) (fun o7 => ?_)
        refine y_iconst (v := 0) (pc := 71) F dX11_laws_71 rfl ?_
        refine y_istore_n (lv' := [some (.ref (q 0)), some (.int x4), some (.int (0 : Int32))]) (pc := 72) F dX11_laws_72 (Nat.le_of_ble_eq_true rfl) rfl rfl ?_
        refine y_le (lv' := [some (.ref (q 0)), none, some (.int (0 : Int32))]) ⟨rfl, ⟨rfl, trivial⟩⟩ ?_
        exact wlX11_laws_73 q F hr zfu (0 : Int32) o7
      · refine y_bipush (v := -10) (pc := 58) F dX11_laws_58 rfl ?_
        refine y_iload_n (pc := 60) F dX11_laws_60 rfl ?_
        refine y_isub (pc := 61) F dX11_laws_61 ?_
        exact y_iret hr dX11_laws_62 rfl rfl
    intro K49 hK49
    exact wlX11_laws_30 q F hr hK49 zfu (0 : Int32) o3
  · refine y_ldc (pc := 10) F dX11_laws_10 kC_X11_232 ?_
    exact y_iret hr dX11_laws_12 rfl rfl
abbrev rmX11_fault : Room := { frames := 0, cells := 0, slots := 0, locals := 0 }
def pX11_fault (o : Ob) : Option Int32 :=
  some (gi o 23)
set_option maxHeartbeats 4000000 in
set_option maxRecDepth 100000 in
theorem c_X11_fault {q : Nat → Nat} (o : Ob) : zCi l D tA yX11_fault cX11_fault 1 .int rmX11_fault [.ref (q 0)] (WM tA q o) (fun (r : Int32) => r) (fun (r : Int32) => (WM tA q o)) (pX11_fault o) := by
  refine zCi_of (lv0 := [some (.ref (q 0))]) (by decide +kernel) (Nat.le_of_ble_eq_true rfl) rfl (fun X out F hr => ?_)
  unfold pX11_fault
  refine y_aload_n (pc := 0) F dX11_fault_0 rfl ?_
  refine y_get (pc := 1) F dX11_fault_1 kF_X11_59 0 WM_at0 rfl ?_
  exact y_iret hr dX11_fault_4 rfl rfl
abbrev rmX11_lawOf : Room := { frames := 0, cells := 0, slots := 0, locals := 0 }
def lX11_lawOf_24 (o : Ob) (a1 : Int32) (a2 : Int32) : Nat → Int32 → Int32 → Option Int32
  | 0, _, _ => none
  | f + 1, x2, x3 =>
    if (gi o 8) ≤ x3 then (some x2)
    else (zgd ((4 : Int32) * x3) 24 <| zjn (fun (x4 : Int32) =>
    zlet (x3 + (1 : Int32)) fun (x5 : Int32) =>
    lX11_lawOf_24 o a1 a2 f x4 x5) fun (K61 : Int32 → Option Int32) =>
    if a1 < (ga o 9 (((4 : Int32) * x3).toNatClampNeg)) then (K61 x2)
    else (zgd (((4 : Int32) * x3) + a2) 24 <| K61 ((ga o 9 ((((4 : Int32) * x3) + a2).toNatClampNeg)))))
def pX11_lawOf (o : Ob) (a1 : Int32) (a2 : Int32) : Option Int32 :=
  zjn (fun (x1 : Int32) =>
  lX11_lawOf_24 o a1 a2 zfu x1 (0 : Int32)) fun (K20 : Int32 → Option Int32) =>
  if a2 = (1 : Int32) then (K20 (1 : Int32))
  else (if a2 = (2 : Int32) then (K20 (28 : Int32))
  else (K20 (2 : Int32)))
set_option maxHeartbeats 4000000 in
set_option maxRecDepth 100000 in
theorem wlX11_lawOf_24 {X : ZX} {out : Int32} (q : Nat → Nat) (o : Ob) (a1 : Int32) (a2 : Int32) (F : zF l D tA RX11 cX11_lawOf 5 rmX11_lawOf X) (hr : zRi X D cX11_lawOf .int (fun (r : Int32) => r) (fun (r : Int32) => (WM tA q o)) out) : ∀ (f : Nat) (x2 : Int32) (x3 : Int32), zY X D out (lX11_lawOf_24 o a1 a2 f x2 x3) (WM tA q o) 24 [some (.ref (q 0)), some (.int a1), some (.int a2), some (.int x2), some (.int x3)] [] := by
  intro f
  induction f with
  | zero =>
    intro x2 x3
    exact y_none
  | succ f ih =>
    intro x2 x3
    rw [lX11_lawOf_24.eq_2]
    refine y_iload (pc := 24) F dX11_lawOf_24 rfl ?_
    refine y_aload_n (pc := 26) F dX11_lawOf_26 rfl ?_
    refine y_get (pc := 27) F dX11_lawOf_27 kF_X11_236 0 WM_at0 rfl ?_
    refine y_icmp_ge (pc := 30) (tgt := 68) F dX11_lawOf_30 rfl ?_ ?_
    · refine y_iload_n (pc := 68) F dX11_lawOf_68 rfl ?_
      exact y_iret hr dX11_lawOf_69 rfl rfl
    · refine y_aload_n (pc := 33) F dX11_lawOf_33 rfl ?_
      refine y_get (pc := 34) F dX11_lawOf_34 kF_X11_28 0 WM_at0 rfl ?_
      refine y_iconst (v := 4) (pc := 37) F dX11_lawOf_37 rfl ?_
      refine y_iload (pc := 38) F dX11_lawOf_38 rfl ?_
      refine y_imul (pc := 40) F dX11_lawOf_40 ?_
      refine y_iald (pc := 41) F dX11_lawOf_41 7 WM_at7 ?_
      refine y_iload_n (pc := 42) F dX11_lawOf_42 rfl ?_
      refine y_jn (fun (K61 : Int32 → Option Int32) => ∀ (x4 : Int32), zY X D out (K61 x4) (WM tA q o) 61 [some (.ref (q 0)), some (.int a1), some (.int a2), none, some (.int x3)] [.int x4]) ?_ ?_
      · intro x4
        refine y_istore_n (lv' := [some (.ref (q 0)), some (.int a1), some (.int a2), some (.int x4), some (.int x3)]) (pc := 61) F dX11_lawOf_61 (Nat.le_of_ble_eq_true rfl) rfl rfl ?_
        refine y_iinc (v := 1) (lf := fun (x5 : Int32) => [some (.ref (q 0)), some (.int a1), some (.int a2), some (.int x4), some (.int x5)]) (pc := 62) F dX11_lawOf_62 rfl rfl rfl (fun _ => rfl) (fun x5 => ?_)
        refine y_goto (tgt := 24) (pc := 65) F dX11_lawOf_65 rfl ?_
        exact ih x4 x5
      intro K61 hK61
      refine y_icmp_gt (pc := 43) (tgt := 60) F dX11_lawOf_43 rfl ?_ ?_
      · refine y_iload_n (pc := 60) F dX11_lawOf_60 rfl ?_
        refine y_le (lv' := [some (.ref (q 0)), some (.int a1), some (.int a2), none, some (.int x3)]) ⟨rfl, ⟨rfl, ⟨rfl, ⟨rfl, trivial⟩⟩⟩⟩ ?_
        exact hK61 x2
      · refine y_aload_n (pc := 46) F dX11_lawOf_46 rfl ?_
        refine y_get (pc := 47) F dX11_lawOf_47 kF_X11_28 0 WM_at0 rfl ?_
        refine y_iconst (v := 4) (pc := 50) F dX11_lawOf_50 rfl ?_
        refine y_iload (pc := 51) F dX11_lawOf_51 rfl ?_
        refine y_imul (pc := 53) F dX11_lawOf_53 ?_
        refine y_iload_n (pc := 54) F dX11_lawOf_54 rfl ?_
        refine y_iadd (pc := 55) F dX11_lawOf_55 ?_
        refine y_iald (pc := 56) F dX11_lawOf_56 7 WM_at7 ?_
        refine y_goto (tgt := 61) (pc := 57) F dX11_lawOf_57 rfl ?_
        refine y_le (lv' := [some (.ref (q 0)), some (.int a1), some (.int a2), none, some (.int x3)]) ⟨rfl, ⟨rfl, ⟨rfl, ⟨rfl, trivial⟩⟩⟩⟩ ?_
        exact hK61 ((ga o 9 ((((4 : Int32) * x3) + a2).toNatClampNeg)))
set_option maxHeartbeats 4000000 in
set_option maxRecDepth 100000 in
theorem c_X11_lawOf {q : Nat → Nat} (o : Ob) (a1 : Int32) (a2 : Int32) : zCi l D tA yX11_lawOf cX11_lawOf 5 .int rmX11_lawOf [.ref (q 0), .int a1, .int a2] (WM tA q o) (fun (r : Int32) => r) (fun (r : Int32) => (WM tA q o)) (pX11_lawOf o a1 a2) := by
  refine zCi_of (lv0 := [some (.ref (q 0)), some (.int a1), some (.int a2), none, none]) (by decide +kernel) (Nat.le_of_ble_eq_true rfl) rfl (fun X out F hr => ?_)
  unfold pX11_lawOf
  refine y_iload_n (pc := 0) F dX11_lawOf_0 rfl ?_
  refine y_iconst (v := 1) (pc := 1) F dX11_lawOf_1 rfl ?_
  refine y_jn (fun (K20 : Int32 → Option Int32) => ∀ (x1 : Int32), zY X D out (K20 x1) (WM tA q o) 20 [some (.ref (q 0)), some (.int a1), some (.int a2), none, none] [.int x1]) ?_ ?_
  · intro x1
    refine y_istore_n (lv' := [some (.ref (q 0)), some (.int a1), some (.int a2), some (.int x1), none]) (pc := 20) F dX11_lawOf_20 (Nat.le_of_ble_eq_true rfl) rfl rfl ?_
    refine y_iconst (v := 0) (pc := 21) F dX11_lawOf_21 rfl ?_
    refine y_istore (lv' := [some (.ref (q 0)), some (.int a1), some (.int a2), some (.int x1), some (.int (0 : Int32))]) (pc := 22) F dX11_lawOf_22 (Nat.le_of_ble_eq_true rfl) rfl rfl ?_
    exact wlX11_lawOf_24 q o a1 a2 F hr zfu x1 (0 : Int32)
  intro K20 hK20
  refine y_icmp_ne (pc := 2) (tgt := 9) F dX11_lawOf_2 rfl ?_ ?_
  · refine y_iconst (v := 1) (pc := 5) F dX11_lawOf_5 rfl ?_
    refine y_goto (tgt := 20) (pc := 6) F dX11_lawOf_6 rfl ?_
    exact hK20 (1 : Int32)
  · refine y_iload_n (pc := 9) F dX11_lawOf_9 rfl ?_
    refine y_iconst (v := 2) (pc := 10) F dX11_lawOf_10 rfl ?_
    refine y_icmp_ne (pc := 11) (tgt := 19) F dX11_lawOf_11 rfl ?_ ?_
    · refine y_bipush (v := 28) (pc := 14) F dX11_lawOf_14 rfl ?_
      refine y_goto (tgt := 20) (pc := 16) F dX11_lawOf_16 rfl ?_
      exact hK20 (28 : Int32)
    · refine y_iconst (v := 2) (pc := 19) F dX11_lawOf_19 rfl ?_
      exact hK20 (2 : Int32)
abbrev rmX11_told : Room := { frames := 1, cells := 0, slots := 0, locals := 25 }
def pX11_told (o : Ob) (a1 : Int32) : Option Int32 :=
  if a1 = (0 : Int32) then (some (gi o 0))
  else (if a1 = (1 : Int32) then (some (gi o 4))
  else (if a1 = (2 : Int32) then (some (gi o 8))
  else (if a1 = (3 : Int32) then (some (gi o 13))
  else (if a1 = (4 : Int32) then (some (gi o 22))
  else (if a1 = (5 : Int32) then (some (gi o 14))
  else (Option.bind (pX11_in (a1.toInt64) (6 : Int64) (8 : Int64)) fun (r7 : Int32) =>
  if r7 = 0 then (some (-1000000002 : Int32))
  else (Option.bind (pX11_lawOf o (gi o 13) (a1 - (5 : Int32))) fun (r8 : Int32) =>
  some r8)))))))
set_option maxHeartbeats 4000000 in
set_option maxRecDepth 100000 in
theorem c_X11_told {q : Nat → Nat} (o : Ob) (a1 : Int32) : zCi l D tA yX11_told cX11_told 2 .int rmX11_told [.ref (q 0), .int a1] (WM tA q o) (fun (r : Int32) => r) (fun (r : Int32) => (WM tA q o)) (pX11_told o a1) := by
  refine zCi_of (lv0 := [some (.ref (q 0)), some (.int a1)]) (by decide +kernel) (Nat.le_of_ble_eq_true rfl) rfl (fun X out F hr => ?_)
  unfold pX11_told
  refine y_iload_n (pc := 0) F dX11_told_0 rfl ?_
  refine y_tsI (c := 0) (pc := 1) (tgt := 40) F dX11_told_1 (by decide) rfl ?_ (fun h1 => ?_)
  · refine y_aload_n (pc := 40) F dX11_told_40 rfl ?_
    refine y_get (pc := 41) F dX11_told_41 kF_X11_124 0 WM_at0 rfl ?_
    exact y_iret hr dX11_told_44 rfl rfl
  refine y_tsI (c := 1) (pc := 1) (tgt := 45) F dX11_told_1 (by decide) rfl ?_ (fun h2 => ?_)
  · refine y_aload_n (pc := 45) F dX11_told_45 rfl ?_
    refine y_get (pc := 46) F dX11_told_46 kF_X11_131 0 WM_at0 rfl ?_
    exact y_iret hr dX11_told_49 rfl rfl
  refine y_tsI (c := 2) (pc := 1) (tgt := 50) F dX11_told_1 (by decide) rfl ?_ (fun h3 => ?_)
  · refine y_aload_n (pc := 50) F dX11_told_50 rfl ?_
    refine y_get (pc := 51) F dX11_told_51 kF_X11_236 0 WM_at0 rfl ?_
    exact y_iret hr dX11_told_54 rfl rfl
  refine y_tsI (c := 3) (pc := 1) (tgt := 55) F dX11_told_1 (by decide) rfl ?_ (fun h4 => ?_)
  · refine y_aload_n (pc := 55) F dX11_told_55 rfl ?_
    refine y_get (pc := 56) F dX11_told_56 kF_X11_223 0 WM_at0 rfl ?_
    exact y_iret hr dX11_told_59 rfl rfl
  refine y_tsI (c := 4) (pc := 1) (tgt := 60) F dX11_told_1 (by decide) rfl ?_ (fun h5 => ?_)
  · refine y_aload_n (pc := 60) F dX11_told_60 rfl ?_
    refine y_get (pc := 61) F dX11_told_61 kF_X11_137 0 WM_at0 rfl ?_
    exact y_iret hr dX11_told_64 rfl rfl
  refine y_tsI (c := 5) (pc := 1) (tgt := 65) F dX11_told_1 (by decide) rfl ?_ (fun h6 => ?_)
  · refine y_aload_n (pc := 65) F dX11_told_65 rfl ?_
    refine y_get (pc := 66) F dX11_told_66 kF_X11_226 0 WM_at0 rfl ?_
    exact y_iret hr dX11_told_69 rfl rfl
  refine y_tsD (pc := 1) (tgt := 70) F dX11_told_1 (by have eh1 := lv_neT (a := 0) h1 rfl; have eh2 := lv_neT (a := 1) h2 rfl; have eh3 := lv_neT (a := 2) h3 rfl; have eh4 := lv_neT (a := 3) h4 rfl; have eh5 := lv_neT (a := 4) h5 rfl; have eh6 := lv_neT (a := 5) h6 rfl; omega) rfl ?_
  refine y_iload_n (pc := 70) F dX11_told_70 rfl ?_
  refine y_i2l (pc := 71) F dX11_told_71 ?_
  refine y_ldc2 (pc := 72) F dX11_told_72 kC_X11_239 ?_
  refine y_ldc2 (pc := 75) F dX11_told_75 kC_X11_134 ?_
  refine y_scalliP (As := [.long (a1.toInt64), .long (6 : Int64), .long (8 : Int64)]) (st := []) (pc := 78) F (c_X11_in (q := q) (a1.toInt64) (6 : Int64) (8 : Int64)) dX11_told_78 kM_X11_127 ⟨rfl, rfl⟩ ⟨Nat.le_of_ble_eq_true rfl, Nat.le_of_ble_eq_true rfl⟩ rfl rfl rfl (Nat.le_of_ble_eq_true rfl) (fun r7 => ?_)
  refine y_if_eq (pc := 81) (tgt := 98) F dX11_told_81 rfl ?_ ?_
  · refine y_ldc (pc := 98) F dX11_told_98 kC_X11_136 ?_
    exact y_iret hr dX11_told_100 rfl rfl
  · refine y_aload_n (pc := 84) F dX11_told_84 rfl ?_
    refine y_aload_n (pc := 85) F dX11_told_85 rfl ?_
    refine y_get (pc := 86) F dX11_told_86 kF_X11_223 0 WM_at0 rfl ?_
    refine y_iload_n (pc := 89) F dX11_told_89 rfl ?_
    refine y_iconst (v := 5) (pc := 90) F dX11_told_90 rfl ?_
    refine y_isub (pc := 91) F dX11_told_91 ?_
    refine y_calliW (As := [.int (gi o 13), .int (a1 - (5 : Int32))]) (st := []) (q0 := 0) (pc := 92) F (c_X11_lawOf (q := q) o (gi o 13) (a1 - (5 : Int32))) dX11_told_92 kM_X11_241 ⟨rfl, rfl⟩ ⟨Nat.le_of_ble_eq_true rfl, Nat.le_of_ble_eq_true rfl⟩ rfl rfl rfl (Nat.le_of_ble_eq_true rfl) rfl rfl WM_at0 (fun r8 => ?_)
    refine y_goto (tgt := 100) (pc := 95) F dX11_told_95 rfl ?_
    exact y_iret hr dX11_told_100 rfl rfl
abbrev rmX11_witnessesOf : Room := { frames := 0, cells := 0, slots := 0, locals := 0 }
def lX11_witnessesOf_4 (o : Ob) (a1 : Int32) : Nat → Int32 → Int32 → Option Int32
  | 0, _, _ => none
  | f + 1, x1, x2 =>
    if (gi o 4) ≤ x2 then (some x1)
    else (zgd x2 12 <| zjn (fun (x3 : Int32) =>
    zlet ((x1 ||| x3)) fun (x4 : Int32) =>
    zlet (x2 + (1 : Int32)) fun (x5 : Int32) =>
    lX11_witnessesOf_4 o a1 f x4 x5) fun (K30 : Int32 → Option Int32) =>
    if (ga o 5 (x2.toNatClampNeg)) = a1 then (K30 (((1 : Int32) <<< (x2 &&& 31))))
    else (K30 (0 : Int32)))
def pX11_witnessesOf (o : Ob) (a1 : Int32) : Option Int32 :=
  lX11_witnessesOf_4 o a1 zfu (0 : Int32) (0 : Int32)
set_option maxHeartbeats 4000000 in
set_option maxRecDepth 100000 in
theorem wlX11_witnessesOf_4 {X : ZX} {out : Int32} (q : Nat → Nat) (o : Ob) (a1 : Int32) (F : zF l D tA RX11 cX11_witnessesOf 4 rmX11_witnessesOf X) (hr : zRi X D cX11_witnessesOf .int (fun (r : Int32) => r) (fun (r : Int32) => (WM tA q o)) out) : ∀ (f : Nat) (x1 : Int32) (x2 : Int32), zY X D out (lX11_witnessesOf_4 o a1 f x1 x2) (WM tA q o) 4 [some (.ref (q 0)), some (.int a1), some (.int x1), some (.int x2)] [] := by
  intro f
  induction f with
  | zero =>
    intro x1 x2
    exact y_none
  | succ f ih =>
    intro x1 x2
    rw [lX11_witnessesOf_4.eq_2]
    refine y_iload_n (pc := 4) F dX11_witnessesOf_4 rfl ?_
    refine y_aload_n (pc := 5) F dX11_witnessesOf_5 rfl ?_
    refine y_get (pc := 6) F dX11_witnessesOf_6 kF_X11_131 0 WM_at0 rfl ?_
    refine y_icmp_ge (pc := 9) (tgt := 38) F dX11_witnessesOf_9 rfl ?_ ?_
    · refine y_iload_n (pc := 38) F dX11_witnessesOf_38 rfl ?_
      exact y_iret hr dX11_witnessesOf_39 rfl rfl
    · refine y_iload_n (pc := 12) F dX11_witnessesOf_12 rfl ?_
      refine y_aload_n (pc := 13) F dX11_witnessesOf_13 rfl ?_
      refine y_get (pc := 14) F dX11_witnessesOf_14 kF_X11_19 0 WM_at0 rfl ?_
      refine y_iload_n (pc := 17) F dX11_witnessesOf_17 rfl ?_
      refine y_iald (pc := 18) F dX11_witnessesOf_18 4 WM_at4 ?_
      refine y_iload_n (pc := 19) F dX11_witnessesOf_19 rfl ?_
      refine y_jn (fun (K30 : Int32 → Option Int32) => ∀ (x3 : Int32), zY X D out (K30 x3) (WM tA q o) 30 [some (.ref (q 0)), some (.int a1), none, some (.int x2)] [.int x3, .int x1]) ?_ ?_
      · intro x3
        refine y_ior (pc := 30) F dX11_witnessesOf_30 ?_
        refine y_lti (fun x4 => ?_)
        refine y_istore_n (lv' := [some (.ref (q 0)), some (.int a1), some (.int x4), some (.int x2)]) (pc := 31) F dX11_witnessesOf_31 (Nat.le_of_ble_eq_true rfl) rfl rfl ?_
        refine y_iinc (v := 1) (lf := fun (x5 : Int32) => [some (.ref (q 0)), some (.int a1), some (.int x4), some (.int x5)]) (pc := 32) F dX11_witnessesOf_32 rfl rfl rfl (fun _ => rfl) (fun x5 => ?_)
        refine y_goto (tgt := 4) (pc := 35) F dX11_witnessesOf_35 rfl ?_
        exact ih x4 x5
      intro K30 hK30
      refine y_icmp_ne (pc := 20) (tgt := 29) F dX11_witnessesOf_20 rfl ?_ ?_
      · refine y_iconst (v := 1) (pc := 23) F dX11_witnessesOf_23 rfl ?_
        refine y_iload_n (pc := 24) F dX11_witnessesOf_24 rfl ?_
        refine y_ishl (pc := 25) F dX11_witnessesOf_25 ?_
        refine y_goto (tgt := 30) (pc := 26) F dX11_witnessesOf_26 rfl ?_
        refine y_le (lv' := [some (.ref (q 0)), some (.int a1), none, some (.int x2)]) ⟨rfl, ⟨rfl, ⟨rfl, trivial⟩⟩⟩ ?_
        exact hK30 (((1 : Int32) <<< (x2 &&& 31)))
      · refine y_iconst (v := 0) (pc := 29) F dX11_witnessesOf_29 rfl ?_
        refine y_le (lv' := [some (.ref (q 0)), some (.int a1), none, some (.int x2)]) ⟨rfl, ⟨rfl, ⟨rfl, trivial⟩⟩⟩ ?_
        exact hK30 (0 : Int32)
set_option maxHeartbeats 4000000 in
set_option maxRecDepth 100000 in
theorem c_X11_witnessesOf {q : Nat → Nat} (o : Ob) (a1 : Int32) : zCi l D tA yX11_witnessesOf cX11_witnessesOf 4 .int rmX11_witnessesOf [.ref (q 0), .int a1] (WM tA q o) (fun (r : Int32) => r) (fun (r : Int32) => (WM tA q o)) (pX11_witnessesOf o a1) := by
  refine zCi_of (lv0 := [some (.ref (q 0)), some (.int a1), none, none]) (by decide +kernel) (Nat.le_of_ble_eq_true rfl) rfl (fun X out F hr => ?_)
  unfold pX11_witnessesOf
  refine y_iconst (v := 0) (pc := 0) F dX11_witnessesOf_0 rfl ?_
  refine y_istore_n (lv' := [some (.ref (q 0)), some (.int a1), some (.int (0 : Int32)), none]) (pc := 1) F dX11_witnessesOf_1 (Nat.le_of_ble_eq_true rfl) rfl rfl ?_
  refine y_iconst (v := 0) (pc := 2) F dX11_witnessesOf_2 rfl ?_
  refine y_istore_n (lv' := [some (.ref (q 0)), some (.int a1), some (.int (0 : Int32)), some (.int (0 : Int32))]) (pc := 3) F dX11_witnessesOf_3 (Nat.le_of_ble_eq_true rfl) rfl rfl ?_
  exact wlX11_witnessesOf_4 q o a1 F hr zfu (0 : Int32) (0 : Int32)
abbrev rmX11_suit : Room := { frames := 2, cells := 0, slots := 0, locals := 46 }
def pX11_suit (o : Ob) (a1 : Int32) (a2 : Int32) : Option Int32 :=
  Option.bind (pX11_isSuit o a1) fun (r1 : Int32) =>
  if r1 = 0 then (some (-1000000001 : Int32))
  else (if a2 = (0 : Int32) then (zgd a1 6 <| some (ga o 1 (a1.toNatClampNeg)))
  else (if a2 = (1 : Int32) then (zgd a1 6 <| some (ga o 2 (a1.toNatClampNeg)))
  else (if a2 = (2 : Int32) then (zgd a1 6 <| some (ga o 3 (a1.toNatClampNeg)))
  else (if a2 = (3 : Int32) then (zgd a1 6 <| some (ga o 15 (a1.toNatClampNeg)))
  else (if a2 = (4 : Int32) then (zgd a1 6 <| some (ga o 16 (a1.toNatClampNeg)))
  else (if a2 = (5 : Int32) then (Option.bind (pX11_witnessesOf o a1) fun (r8 : Int32) =>
  some r8)
  else (some (-1000000002 : Int32))))))))
set_option maxHeartbeats 4000000 in
set_option maxRecDepth 100000 in
theorem c_X11_suit {q : Nat → Nat} (o : Ob) (a1 : Int32) (a2 : Int32) : zCi l D tA yX11_suit cX11_suit 3 .int rmX11_suit [.ref (q 0), .int a1, .int a2] (WM tA q o) (fun (r : Int32) => r) (fun (r : Int32) => (WM tA q o)) (pX11_suit o a1 a2) := by
  refine zCi_of (lv0 := [some (.ref (q 0)), some (.int a1), some (.int a2)]) (by decide +kernel) (Nat.le_of_ble_eq_true rfl) rfl (fun X out F hr => ?_)
  unfold pX11_suit
  refine y_aload_n (pc := 0) F dX11_suit_0 rfl ?_
  refine y_iload_n (pc := 1) F dX11_suit_1 rfl ?_
  refine y_calliW (As := [.int a1]) (st := []) (q0 := 0) (pc := 2) F (c_X11_isSuit (q := q) o a1) dX11_suit_2 kM_X11_244 ⟨rfl, rfl⟩ ⟨Nat.le_of_ble_eq_true rfl, Nat.le_of_ble_eq_true rfl⟩ rfl rfl rfl (Nat.le_of_ble_eq_true rfl) rfl rfl WM_at0 (fun r1 => ?_)
  refine y_if_ne (pc := 5) (tgt := 11) F dX11_suit_5 rfl ?_ ?_
  · refine y_ldc (pc := 8) F dX11_suit_8 kC_X11_248 ?_
    exact y_iret hr dX11_suit_10 rfl rfl
  · refine y_iload_n (pc := 11) F dX11_suit_11 rfl ?_
    refine y_tsI (c := 0) (pc := 12) (tgt := 52) F dX11_suit_12 (by decide) rfl ?_ (fun h2 => ?_)
    · refine y_aload_n (pc := 52) F dX11_suit_52 rfl ?_
      refine y_get (pc := 53) F dX11_suit_53 kF_X11_7 0 WM_at0 rfl ?_
      refine y_iload_n (pc := 56) F dX11_suit_56 rfl ?_
      refine y_iald (pc := 57) F dX11_suit_57 1 WM_at1 ?_
      exact y_iret hr dX11_suit_58 rfl rfl
    refine y_tsI (c := 1) (pc := 12) (tgt := 59) F dX11_suit_12 (by decide) rfl ?_ (fun h3 => ?_)
    · refine y_aload_n (pc := 59) F dX11_suit_59 rfl ?_
      refine y_get (pc := 60) F dX11_suit_60 kF_X11_13 0 WM_at0 rfl ?_
      refine y_iload_n (pc := 63) F dX11_suit_63 rfl ?_
      refine y_iald (pc := 64) F dX11_suit_64 2 WM_at2 ?_
      exact y_iret hr dX11_suit_65 rfl rfl
    refine y_tsI (c := 2) (pc := 12) (tgt := 66) F dX11_suit_12 (by decide) rfl ?_ (fun h4 => ?_)
    · refine y_aload_n (pc := 66) F dX11_suit_66 rfl ?_
      refine y_get (pc := 67) F dX11_suit_67 kF_X11_16 0 WM_at0 rfl ?_
      refine y_iload_n (pc := 70) F dX11_suit_70 rfl ?_
      refine y_iald (pc := 71) F dX11_suit_71 3 WM_at3 ?_
      exact y_iret hr dX11_suit_72 rfl rfl
    refine y_tsI (c := 3) (pc := 12) (tgt := 73) F dX11_suit_12 (by decide) rfl ?_ (fun h5 => ?_)
    · refine y_aload_n (pc := 73) F dX11_suit_73 rfl ?_
      refine y_get (pc := 74) F dX11_suit_74 kF_X11_41 0 WM_at0 rfl ?_
      refine y_iload_n (pc := 77) F dX11_suit_77 rfl ?_
      refine y_iald (pc := 78) F dX11_suit_78 11 WM_at11 ?_
      exact y_iret hr dX11_suit_79 rfl rfl
    refine y_tsI (c := 4) (pc := 12) (tgt := 80) F dX11_suit_12 (by decide) rfl ?_ (fun h6 => ?_)
    · refine y_aload_n (pc := 80) F dX11_suit_80 rfl ?_
      refine y_get (pc := 81) F dX11_suit_81 kF_X11_44 0 WM_at0 rfl ?_
      refine y_iload_n (pc := 84) F dX11_suit_84 rfl ?_
      refine y_iald (pc := 85) F dX11_suit_85 12 WM_at12 ?_
      exact y_iret hr dX11_suit_86 rfl rfl
    refine y_tsI (c := 5) (pc := 12) (tgt := 87) F dX11_suit_12 (by decide) rfl ?_ (fun h7 => ?_)
    · refine y_aload_n (pc := 87) F dX11_suit_87 rfl ?_
      refine y_iload_n (pc := 88) F dX11_suit_88 rfl ?_
      refine y_calliW (As := [.int a1]) (st := []) (q0 := 0) (pc := 89) F (c_X11_witnessesOf (q := q) o a1) dX11_suit_89 kM_X11_249 ⟨rfl, rfl⟩ ⟨Nat.le_of_ble_eq_true rfl, Nat.le_of_ble_eq_true rfl⟩ rfl rfl rfl (Nat.le_of_ble_eq_true rfl) rfl rfl WM_at0 (fun r8 => ?_)
      exact y_iret hr dX11_suit_92 rfl rfl
    refine y_tsD (pc := 12) (tgt := 93) F dX11_suit_12 (by have eh2 := lv_neT (a := 0) h2 rfl; have eh3 := lv_neT (a := 1) h3 rfl; have eh4 := lv_neT (a := 2) h4 rfl; have eh5 := lv_neT (a := 3) h5 rfl; have eh6 := lv_neT (a := 4) h6 rfl; have eh7 := lv_neT (a := 5) h7 rfl; omega) rfl ?_
    refine y_ldc (pc := 93) F dX11_suit_93 kC_X11_136 ?_
    exact y_iret hr dX11_suit_95 rfl rfl
abbrev rmX11_freshOn : Room := { frames := 1, cells := 0, slots := 0, locals := 24 }
def pX11_freshOn (o : Ob) (a1 : Int32) (a2 : Int32) : Option Int32 :=
  zgd a1 12 <| zjn (fun (x1 : Int32) =>
  zgd a1 12 <| some ((ga o 6 (a1.toNatClampNeg)) * x1)) fun (K35 : Int32 → Option Int32) =>
  if (ga o 7 (a1.toNatClampNeg)) = (1 : Int32) then (Option.bind (pX11_lawOf o a2 (1 : Int32)) fun (r2 : Int32) =>
  K35 r2)
  else (zgd a1 12 <| if (ga o 7 (a1.toNatClampNeg)) = (3 : Int32) then (K35 (6 : Int32))
  else (K35 (3 : Int32)))
set_option maxHeartbeats 4000000 in
set_option maxRecDepth 100000 in
theorem c_X11_freshOn {q : Nat → Nat} (o : Ob) (a1 : Int32) (a2 : Int32) : zCi l D tA yX11_freshOn cX11_freshOn 4 .int rmX11_freshOn [.ref (q 0), .int a1, .int a2] (WM tA q o) (fun (r : Int32) => r) (fun (r : Int32) => (WM tA q o)) (pX11_freshOn o a1 a2) := by
  refine zCi_of (lv0 := [some (.ref (q 0)), some (.int a1), some (.int a2), none]) (by decide +kernel) (Nat.le_of_ble_eq_true rfl) rfl (fun X out F hr => ?_)
  unfold pX11_freshOn
  refine y_aload_n (pc := 0) F dX11_freshOn_0 rfl ?_
  refine y_get (pc := 1) F dX11_freshOn_1 kF_X11_25 0 WM_at0 rfl ?_
  refine y_iload_n (pc := 4) F dX11_freshOn_4 rfl ?_
  refine y_iald (pc := 5) F dX11_freshOn_5 6 WM_at6 ?_
  refine y_iconst (v := 1) (pc := 6) F dX11_freshOn_6 rfl ?_
  refine y_jn (fun (K35 : Int32 → Option Int32) => ∀ (x1 : Int32), zY X D out (K35 x1) (WM tA q o) 35 [some (.ref (q 0)), some (.int a1), none, none] [.int x1]) ?_ ?_
  · intro x1
    refine y_istore_n (lv' := [some (.ref (q 0)), some (.int a1), none, some (.int x1)]) (pc := 35) F dX11_freshOn_35 (Nat.le_of_ble_eq_true rfl) rfl rfl ?_
    refine y_aload_n (pc := 36) F dX11_freshOn_36 rfl ?_
    refine y_get (pc := 37) F dX11_freshOn_37 kF_X11_22 0 WM_at0 rfl ?_
    refine y_iload_n (pc := 40) F dX11_freshOn_40 rfl ?_
    refine y_iald (pc := 41) F dX11_freshOn_41 5 WM_at5 ?_
    refine y_iload_n (pc := 42) F dX11_freshOn_42 rfl ?_
    refine y_imul (pc := 43) F dX11_freshOn_43 ?_
    exact y_iret hr dX11_freshOn_44 rfl rfl
  intro K35 hK35
  refine y_icmp_ne (pc := 7) (tgt := 19) F dX11_freshOn_7 rfl ?_ ?_
  · refine y_aload_n (pc := 10) F dX11_freshOn_10 rfl ?_
    refine y_iload_n (pc := 11) F dX11_freshOn_11 rfl ?_
    refine y_iconst (v := 1) (pc := 12) F dX11_freshOn_12 rfl ?_
    refine y_calliW (As := [.int a2, .int (1 : Int32)]) (st := []) (q0 := 0) (pc := 13) F (c_X11_lawOf (q := q) o a2 (1 : Int32)) dX11_freshOn_13 kM_X11_241 ⟨rfl, rfl⟩ ⟨Nat.le_of_ble_eq_true rfl, Nat.le_of_ble_eq_true rfl⟩ rfl rfl rfl (Nat.le_of_ble_eq_true rfl) rfl rfl WM_at0 (fun r2 => ?_)
    refine y_goto (tgt := 35) (pc := 16) F dX11_freshOn_16 rfl ?_
    refine y_le (lv' := [some (.ref (q 0)), some (.int a1), none, none]) ⟨rfl, ⟨rfl, trivial⟩⟩ ?_
    exact hK35 r2
  · refine y_aload_n (pc := 19) F dX11_freshOn_19 rfl ?_
    refine y_get (pc := 20) F dX11_freshOn_20 kF_X11_25 0 WM_at0 rfl ?_
    refine y_iload_n (pc := 23) F dX11_freshOn_23 rfl ?_
    refine y_iald (pc := 24) F dX11_freshOn_24 6 WM_at6 ?_
    refine y_iconst (v := 3) (pc := 25) F dX11_freshOn_25 rfl ?_
    refine y_icmp_ne (pc := 26) (tgt := 34) F dX11_freshOn_26 rfl ?_ ?_
    · refine y_bipush (v := 6) (pc := 29) F dX11_freshOn_29 rfl ?_
      refine y_goto (tgt := 35) (pc := 31) F dX11_freshOn_31 rfl ?_
      refine y_le (lv' := [some (.ref (q 0)), some (.int a1), none, none]) ⟨rfl, ⟨rfl, trivial⟩⟩ ?_
      exact hK35 (6 : Int32)
    · refine y_iconst (v := 3) (pc := 34) F dX11_freshOn_34 rfl ?_
      refine y_le (lv' := [some (.ref (q 0)), some (.int a1), none, none]) ⟨rfl, ⟨rfl, trivial⟩⟩ ?_
      exact hK35 (3 : Int32)
abbrev rmX11_mayOn : Room := { frames := 1, cells := 0, slots := 0, locals := 24 }
def pX11_mayOn (o : Ob) (a1 : Int32) (a2 : Int32) : Option Int32 :=
  zgd a1 12 <| zjn (fun (x1 : Int32) =>
  if x1 = 0 then (zgz (0 : Int32) (some (0 : Int32)))
  else (zgd a1 12 <| if (ga o 12 (a1.toNatClampNeg)) = 0 then (zgz (1 : Int32) (some (1 : Int32)))
  else (zgz (0 : Int32) (some (0 : Int32))))) fun (K41 : Int32 → Option Int32) =>
  zjn (K41 (1 : Int32)) fun (K36 : Option Int32) =>
  if (ga o 10 (a1.toNatClampNeg)) < 0 then (K36)
  else (zgd a1 12 <| zjn (K41 (0 : Int32)) fun (K40 : Option Int32) =>
  if (ga o 7 (a1.toNatClampNeg)) = (2 : Int32) then (K40)
  else (zgd a1 12 <| Option.bind (pX11_lawOf o a2 (2 : Int32)) fun (r2 : Int32) =>
  if a2 < ((ga o 10 (a1.toNatClampNeg)) + r2) then (K40)
  else (K36)))
set_option maxHeartbeats 4000000 in
set_option maxRecDepth 100000 in
theorem c_X11_mayOn {q : Nat → Nat} (o : Ob) (a1 : Int32) (a2 : Int32) : zCi l D tA yX11_mayOn cX11_mayOn 4 .boolean rmX11_mayOn [.ref (q 0), .int a1, .int a2] (WM tA q o) (fun (r : Int32) => r) (fun (r : Int32) => (WM tA q o)) (pX11_mayOn o a1 a2) := by
  refine zCi_of (lv0 := [some (.ref (q 0)), some (.int a1), some (.int a2), none]) (by decide +kernel) (Nat.le_of_ble_eq_true rfl) rfl (fun X out F hr => ?_)
  unfold pX11_mayOn
  refine y_aload_n (pc := 0) F dX11_mayOn_0 rfl ?_
  refine y_get (pc := 1) F dX11_mayOn_1 kF_X11_31 0 WM_at0 rfl ?_
  refine y_iload_n (pc := 4) F dX11_mayOn_4 rfl ?_
  refine y_iald (pc := 5) F dX11_mayOn_5 8 WM_at8 ?_
  refine y_jn (fun (K41 : Int32 → Option Int32) => ∀ (x1 : Int32), zY X D out (K41 x1) (WM tA q o) 41 [some (.ref (q 0)), some (.int a1), none, none] [.int x1]) ?_ ?_
  · intro x1
    refine y_istore_n (lv' := [some (.ref (q 0)), some (.int a1), none, some (.int x1)]) (pc := 41) F dX11_mayOn_41 (Nat.le_of_ble_eq_true rfl) rfl rfl ?_
    refine y_iload_n (pc := 42) F dX11_mayOn_42 rfl ?_
    refine y_if_eq (pc := 43) (tgt := 59) F dX11_mayOn_43 rfl ?_ ?_
    · refine y_iconst (v := 0) (pc := 59) F dX11_mayOn_59 rfl ?_
      exact y_zret hr dX11_mayOn_60 rfl rfl
    · refine y_aload_n (pc := 46) F dX11_mayOn_46 rfl ?_
      refine y_get (pc := 47) F dX11_mayOn_47 kF_X11_37 0 WM_at0 rfl ?_
      refine y_iload_n (pc := 50) F dX11_mayOn_50 rfl ?_
      refine y_zald (pc := 51) F dX11_mayOn_51 10 WM_at10 ?_
      refine y_if_ne (pc := 52) (tgt := 59) F dX11_mayOn_52 rfl ?_ ?_
      · refine y_iconst (v := 1) (pc := 55) F dX11_mayOn_55 rfl ?_
        refine y_goto (tgt := 60) (pc := 56) F dX11_mayOn_56 rfl ?_
        exact y_zret hr dX11_mayOn_60 rfl rfl
      · refine y_iconst (v := 0) (pc := 59) F dX11_mayOn_59 rfl ?_
        exact y_zret hr dX11_mayOn_60 rfl rfl
  intro K41 hK41
  refine y_jn (fun (K36 : Option Int32) => zY X D out (K36) (WM tA q o) 36 [some (.ref (q 0)), some (.int a1), none, none] []) ?_ ?_
  · skip
    refine y_iconst (v := 1) (pc := 36) F dX11_mayOn_36 rfl ?_
    refine y_goto (tgt := 41) (pc := 37) F dX11_mayOn_37 rfl ?_
    exact hK41 (1 : Int32)
  intro K36 hK36
  refine y_if_lt (pc := 6) (tgt := 36) F dX11_mayOn_6 rfl ?_ ?_
  · refine y_le (lv' := [some (.ref (q 0)), some (.int a1), none, none]) ⟨rfl, ⟨rfl, trivial⟩⟩ ?_
    exact hK36
  · refine y_aload_n (pc := 9) F dX11_mayOn_9 rfl ?_
    refine y_get (pc := 10) F dX11_mayOn_10 kF_X11_25 0 WM_at0 rfl ?_
    refine y_iload_n (pc := 13) F dX11_mayOn_13 rfl ?_
    refine y_iald (pc := 14) F dX11_mayOn_14 6 WM_at6 ?_
    refine y_iconst (v := 2) (pc := 15) F dX11_mayOn_15 rfl ?_
    refine y_jn (fun (K40 : Option Int32) => zY X D out (K40) (WM tA q o) 40 [some (.ref (q 0)), some (.int a1), none, none] []) ?_ ?_
    · skip
      refine y_iconst (v := 0) (pc := 40) F dX11_mayOn_40 rfl ?_
      exact hK41 (0 : Int32)
    intro K40 hK40
    refine y_icmp_eq (pc := 16) (tgt := 40) F dX11_mayOn_16 rfl ?_ ?_
    · refine y_le (lv' := [some (.ref (q 0)), some (.int a1), none, none]) ⟨rfl, ⟨rfl, trivial⟩⟩ ?_
      exact hK40
    · refine y_iload_n (pc := 19) F dX11_mayOn_19 rfl ?_
      refine y_aload_n (pc := 20) F dX11_mayOn_20 rfl ?_
      refine y_get (pc := 21) F dX11_mayOn_21 kF_X11_31 0 WM_at0 rfl ?_
      refine y_iload_n (pc := 24) F dX11_mayOn_24 rfl ?_
      refine y_iald (pc := 25) F dX11_mayOn_25 8 WM_at8 ?_
      refine y_aload_n (pc := 26) F dX11_mayOn_26 rfl ?_
      refine y_iload_n (pc := 27) F dX11_mayOn_27 rfl ?_
      refine y_iconst (v := 2) (pc := 28) F dX11_mayOn_28 rfl ?_
      refine y_calliW (As := [.int a2, .int (2 : Int32)]) (st := [.int (ga o 10 (a1.toNatClampNeg)), .int a2]) (q0 := 0) (pc := 29) F (c_X11_lawOf (q := q) o a2 (2 : Int32)) dX11_mayOn_29 kM_X11_241 ⟨rfl, rfl⟩ ⟨Nat.le_of_ble_eq_true rfl, Nat.le_of_ble_eq_true rfl⟩ rfl rfl rfl (Nat.le_of_ble_eq_true rfl) rfl rfl WM_at0 (fun r2 => ?_)
      refine y_iadd (pc := 32) F dX11_mayOn_32 ?_
      refine y_icmp_lt (pc := 33) (tgt := 40) F dX11_mayOn_33 rfl ?_ ?_
      · refine y_le (lv' := [some (.ref (q 0)), some (.int a1), none, none]) ⟨rfl, ⟨rfl, trivial⟩⟩ ?_
        exact hK40
      · refine y_le (lv' := [some (.ref (q 0)), some (.int a1), none, none]) ⟨rfl, ⟨rfl, trivial⟩⟩ ?_
        exact hK36
abbrev rmX11_mayNow : Room := { frames := 2, cells := 0, slots := 0, locals := 47 }
def pX11_mayNow (o : Ob) (a1 : Int32) : Option Int32 :=
  Option.bind (pX11_mayOn o a1 (gi o 13)) fun (r1 : Int32) =>
  if r1 = 0 then (zgz (0 : Int32) (some (0 : Int32)))
  else (zgd a1 12 <| zgd (ga o 5 (a1.toNatClampNeg)) 6 <| if (ga o 15 ((ga o 5 (a1.toNatClampNeg)).toNatClampNeg)) = 0 then (Option.bind (pX11_lawOf o (gi o 13) (3 : Int32)) fun (r2 : Int32) =>
  if r2 ≤ (gi o 14) then (zgz (0 : Int32) (some (0 : Int32)))
  else (zgz (1 : Int32) (some (1 : Int32))))
  else (zgz (0 : Int32) (some (0 : Int32))))
set_option maxHeartbeats 4000000 in
set_option maxRecDepth 100000 in
theorem c_X11_mayNow {q : Nat → Nat} (o : Ob) (a1 : Int32) : zCi l D tA yX11_mayNow cX11_mayNow 2 .boolean rmX11_mayNow [.ref (q 0), .int a1] (WM tA q o) (fun (r : Int32) => r) (fun (r : Int32) => (WM tA q o)) (pX11_mayNow o a1) := by
  refine zCi_of (lv0 := [some (.ref (q 0)), some (.int a1)]) (by decide +kernel) (Nat.le_of_ble_eq_true rfl) rfl (fun X out F hr => ?_)
  unfold pX11_mayNow
  refine y_aload_n (pc := 0) F dX11_mayNow_0 rfl ?_
  refine y_iload_n (pc := 1) F dX11_mayNow_1 rfl ?_
  refine y_aload_n (pc := 2) F dX11_mayNow_2 rfl ?_
  refine y_get (pc := 3) F dX11_mayNow_3 kF_X11_223 0 WM_at0 rfl ?_
  refine y_calliW (As := [.int a1, .int (gi o 13)]) (st := []) (q0 := 0) (pc := 6) F (c_X11_mayOn (q := q) o a1 (gi o 13)) dX11_mayNow_6 kM_X11_253 ⟨rfl, rfl⟩ ⟨Nat.le_of_ble_eq_true rfl, Nat.le_of_ble_eq_true rfl⟩ rfl rfl rfl (Nat.le_of_ble_eq_true rfl) rfl rfl WM_at0 (fun r1 => ?_)
  refine y_if_eq (pc := 9) (tgt := 46) F dX11_mayNow_9 rfl ?_ ?_
  · refine y_iconst (v := 0) (pc := 46) F dX11_mayNow_46 rfl ?_
    exact y_zret hr dX11_mayNow_47 rfl rfl
  · refine y_aload_n (pc := 12) F dX11_mayNow_12 rfl ?_
    refine y_get (pc := 13) F dX11_mayNow_13 kF_X11_41 0 WM_at0 rfl ?_
    refine y_aload_n (pc := 16) F dX11_mayNow_16 rfl ?_
    refine y_get (pc := 17) F dX11_mayNow_17 kF_X11_19 0 WM_at0 rfl ?_
    refine y_iload_n (pc := 20) F dX11_mayNow_20 rfl ?_
    refine y_iald (pc := 21) F dX11_mayNow_21 4 WM_at4 ?_
    refine y_iald (pc := 22) F dX11_mayNow_22 11 WM_at11 ?_
    refine y_if_ne (pc := 23) (tgt := 46) F dX11_mayNow_23 rfl ?_ ?_
    · refine y_aload_n (pc := 26) F dX11_mayNow_26 rfl ?_
      refine y_get (pc := 27) F dX11_mayNow_27 kF_X11_226 0 WM_at0 rfl ?_
      refine y_aload_n (pc := 30) F dX11_mayNow_30 rfl ?_
      refine y_aload_n (pc := 31) F dX11_mayNow_31 rfl ?_
      refine y_get (pc := 32) F dX11_mayNow_32 kF_X11_223 0 WM_at0 rfl ?_
      refine y_iconst (v := 3) (pc := 35) F dX11_mayNow_35 rfl ?_
      refine y_calliW (As := [.int (gi o 13), .int (3 : Int32)]) (st := [.int (gi o 14)]) (q0 := 0) (pc := 36) F (c_X11_lawOf (q := q) o (gi o 13) (3 : Int32)) dX11_mayNow_36 kM_X11_241 ⟨rfl, rfl⟩ ⟨Nat.le_of_ble_eq_true rfl, Nat.le_of_ble_eq_true rfl⟩ rfl rfl rfl (Nat.le_of_ble_eq_true rfl) rfl rfl WM_at0 (fun r2 => ?_)
      refine y_icmp_ge (pc := 39) (tgt := 46) F dX11_mayNow_39 rfl ?_ ?_
      · refine y_iconst (v := 0) (pc := 46) F dX11_mayNow_46 rfl ?_
        exact y_zret hr dX11_mayNow_47 rfl rfl
      · refine y_iconst (v := 1) (pc := 42) F dX11_mayNow_42 rfl ?_
        refine y_goto (tgt := 47) (pc := 43) F dX11_mayNow_43 rfl ?_
        exact y_zret hr dX11_mayNow_47 rfl rfl
    · refine y_iconst (v := 0) (pc := 46) F dX11_mayNow_46 rfl ?_
      exact y_zret hr dX11_mayNow_47 rfl rfl
abbrev rmX11_witness : Room := { frames := 3, cells := 0, slots := 0, locals := 68 }
def pX11_witness (o : Ob) (a1 : Int32) (a2 : Int32) : Option Int32 :=
  Option.bind (pX11_isWitness o a1) fun (r1 : Int32) =>
  if r1 = 0 then (some (-1000000001 : Int32))
  else (if a2 = (0 : Int32) then (zgd a1 12 <| some (ga o 5 (a1.toNatClampNeg)))
  else (if a2 = (1 : Int32) then (zgd a1 12 <| some (ga o 6 (a1.toNatClampNeg)))
  else (if a2 = (2 : Int32) then (zgd a1 12 <| some (ga o 7 (a1.toNatClampNeg)))
  else (if a2 = (3 : Int32) then (Option.bind (pX11_freshOn o a1 (gi o 13)) fun (r6 : Int32) =>
  some r6)
  else (if a2 = (4 : Int32) then (zgd a1 12 <| some (ga o 10 (a1.toNatClampNeg)))
  else (if a2 = (5 : Int32) then (zgd a1 12 <| some (ga o 11 (a1.toNatClampNeg)))
  else (if a2 = (6 : Int32) then (zgd a1 12 <| if (ga o 12 (a1.toNatClampNeg)) = 0 then (some (0 : Int32))
  else (some (1 : Int32)))
  else (if a2 = (7 : Int32) then (Option.bind (pX11_mayNow o a1) fun (r11 : Int32) =>
  if r11 = 0 then (some (0 : Int32))
  else (some (1 : Int32)))
  else (some (-1000000002 : Int32))))))))))
set_option maxHeartbeats 4000000 in
set_option maxRecDepth 100000 in
theorem c_X11_witness {q : Nat → Nat} (o : Ob) (a1 : Int32) (a2 : Int32) : zCi l D tA yX11_witness cX11_witness 3 .int rmX11_witness [.ref (q 0), .int a1, .int a2] (WM tA q o) (fun (r : Int32) => r) (fun (r : Int32) => (WM tA q o)) (pX11_witness o a1 a2) := by
  refine zCi_of (lv0 := [some (.ref (q 0)), some (.int a1), some (.int a2)]) (by decide +kernel) (Nat.le_of_ble_eq_true rfl) rfl (fun X out F hr => ?_)
  unfold pX11_witness
  refine y_aload_n (pc := 0) F dX11_witness_0 rfl ?_
  refine y_iload_n (pc := 1) F dX11_witness_1 rfl ?_
  refine y_calliW (As := [.int a1]) (st := []) (q0 := 0) (pc := 2) F (c_X11_isWitness (q := q) o a1) dX11_witness_2 kM_X11_257 ⟨rfl, rfl⟩ ⟨Nat.le_of_ble_eq_true rfl, Nat.le_of_ble_eq_true rfl⟩ rfl rfl rfl (Nat.le_of_ble_eq_true rfl) rfl rfl WM_at0 (fun r1 => ?_)
  refine y_if_ne (pc := 5) (tgt := 11) F dX11_witness_5 rfl ?_ ?_
  · refine y_ldc (pc := 8) F dX11_witness_8 kC_X11_248 ?_
    exact y_iret hr dX11_witness_10 rfl rfl
  · refine y_iload_n (pc := 11) F dX11_witness_11 rfl ?_
    refine y_tsI (c := 0) (pc := 12) (tgt := 60) F dX11_witness_12 (by decide) rfl ?_ (fun h2 => ?_)
    · refine y_aload_n (pc := 60) F dX11_witness_60 rfl ?_
      refine y_get (pc := 61) F dX11_witness_61 kF_X11_19 0 WM_at0 rfl ?_
      refine y_iload_n (pc := 64) F dX11_witness_64 rfl ?_
      refine y_iald (pc := 65) F dX11_witness_65 4 WM_at4 ?_
      exact y_iret hr dX11_witness_66 rfl rfl
    refine y_tsI (c := 1) (pc := 12) (tgt := 67) F dX11_witness_12 (by decide) rfl ?_ (fun h3 => ?_)
    · refine y_aload_n (pc := 67) F dX11_witness_67 rfl ?_
      refine y_get (pc := 68) F dX11_witness_68 kF_X11_22 0 WM_at0 rfl ?_
      refine y_iload_n (pc := 71) F dX11_witness_71 rfl ?_
      refine y_iald (pc := 72) F dX11_witness_72 5 WM_at5 ?_
      exact y_iret hr dX11_witness_73 rfl rfl
    refine y_tsI (c := 2) (pc := 12) (tgt := 74) F dX11_witness_12 (by decide) rfl ?_ (fun h4 => ?_)
    · refine y_aload_n (pc := 74) F dX11_witness_74 rfl ?_
      refine y_get (pc := 75) F dX11_witness_75 kF_X11_25 0 WM_at0 rfl ?_
      refine y_iload_n (pc := 78) F dX11_witness_78 rfl ?_
      refine y_iald (pc := 79) F dX11_witness_79 6 WM_at6 ?_
      exact y_iret hr dX11_witness_80 rfl rfl
    refine y_tsI (c := 3) (pc := 12) (tgt := 81) F dX11_witness_12 (by decide) rfl ?_ (fun h5 => ?_)
    · refine y_aload_n (pc := 81) F dX11_witness_81 rfl ?_
      refine y_iload_n (pc := 82) F dX11_witness_82 rfl ?_
      refine y_aload_n (pc := 83) F dX11_witness_83 rfl ?_
      refine y_get (pc := 84) F dX11_witness_84 kF_X11_223 0 WM_at0 rfl ?_
      refine y_calliW (As := [.int a1, .int (gi o 13)]) (st := []) (q0 := 0) (pc := 87) F (c_X11_freshOn (q := q) o a1 (gi o 13)) dX11_witness_87 kM_X11_260 ⟨rfl, rfl⟩ ⟨Nat.le_of_ble_eq_true rfl, Nat.le_of_ble_eq_true rfl⟩ rfl rfl rfl (Nat.le_of_ble_eq_true rfl) rfl rfl WM_at0 (fun r6 => ?_)
      exact y_iret hr dX11_witness_90 rfl rfl
    refine y_tsI (c := 4) (pc := 12) (tgt := 91) F dX11_witness_12 (by decide) rfl ?_ (fun h7 => ?_)
    · refine y_aload_n (pc := 91) F dX11_witness_91 rfl ?_
      refine y_get (pc := 92) F dX11_witness_92 kF_X11_31 0 WM_at0 rfl ?_
      refine y_iload_n (pc := 95) F dX11_witness_95 rfl ?_
      refine y_iald (pc := 96) F dX11_witness_96 8 WM_at8 ?_
      exact y_iret hr dX11_witness_97 rfl rfl
    refine y_tsI (c := 5) (pc := 12) (tgt := 98) F dX11_witness_12 (by decide) rfl ?_ (fun h8 => ?_)
    · refine y_aload_n (pc := 98) F dX11_witness_98 rfl ?_
      refine y_get (pc := 99) F dX11_witness_99 kF_X11_34 0 WM_at0 rfl ?_
      refine y_iload_n (pc := 102) F dX11_witness_102 rfl ?_
      refine y_iald (pc := 103) F dX11_witness_103 9 WM_at9 ?_
      exact y_iret hr dX11_witness_104 rfl rfl
    refine y_tsI (c := 6) (pc := 12) (tgt := 105) F dX11_witness_12 (by decide) rfl ?_ (fun h9 => ?_)
    · refine y_aload_n (pc := 105) F dX11_witness_105 rfl ?_
      refine y_get (pc := 106) F dX11_witness_106 kF_X11_37 0 WM_at0 rfl ?_
      refine y_iload_n (pc := 109) F dX11_witness_109 rfl ?_
      refine y_zald (pc := 110) F dX11_witness_110 10 WM_at10 ?_
      refine y_if_eq (pc := 111) (tgt := 118) F dX11_witness_111 rfl ?_ ?_
      · refine y_iconst (v := 0) (pc := 118) F dX11_witness_118 rfl ?_
        exact y_iret hr dX11_witness_119 rfl rfl
      · refine y_iconst (v := 1) (pc := 114) F dX11_witness_114 rfl ?_
        refine y_goto (tgt := 119) (pc := 115) F dX11_witness_115 rfl ?_
        exact y_iret hr dX11_witness_119 rfl rfl
    refine y_tsI (c := 7) (pc := 12) (tgt := 120) F dX11_witness_12 (by decide) rfl ?_ (fun h10 => ?_)
    · refine y_aload_n (pc := 120) F dX11_witness_120 rfl ?_
      refine y_iload_n (pc := 121) F dX11_witness_121 rfl ?_
      refine y_calliW (As := [.int a1]) (st := []) (q0 := 0) (pc := 122) F (c_X11_mayNow (q := q) o a1) dX11_witness_122 kM_X11_263 ⟨rfl, rfl⟩ ⟨Nat.le_of_ble_eq_true rfl, Nat.le_of_ble_eq_true rfl⟩ rfl rfl rfl (Nat.le_of_ble_eq_true rfl) rfl rfl WM_at0 (fun r11 => ?_)
      refine y_if_eq (pc := 125) (tgt := 132) F dX11_witness_125 rfl ?_ ?_
      · refine y_iconst (v := 0) (pc := 132) F dX11_witness_132 rfl ?_
        exact y_iret hr dX11_witness_133 rfl rfl
      · refine y_iconst (v := 1) (pc := 128) F dX11_witness_128 rfl ?_
        refine y_goto (tgt := 133) (pc := 129) F dX11_witness_129 rfl ?_
        exact y_iret hr dX11_witness_133 rfl rfl
    refine y_tsD (pc := 12) (tgt := 134) F dX11_witness_12 (by have eh2 := lv_neT (a := 0) h2 rfl; have eh3 := lv_neT (a := 1) h3 rfl; have eh4 := lv_neT (a := 2) h4 rfl; have eh5 := lv_neT (a := 3) h5 rfl; have eh7 := lv_neT (a := 4) h7 rfl; have eh8 := lv_neT (a := 5) h8 rfl; have eh9 := lv_neT (a := 6) h9 rfl; have eh10 := lv_neT (a := 7) h10 rfl; omega) rfl ?_
    refine y_ldc (pc := 134) F dX11_witness_134 kC_X11_136 ?_
    exact y_iret hr dX11_witness_136 rfl rfl
abbrev rmX11_weight : Room := { frames := 2, cells := 0, slots := 0, locals := 46 }
def pX11_weight (o : Ob) (a1 : Int32) (a2 : Int32) : Option Int32 :=
  Option.bind (pX11_isSuit o a1) fun (r1 : Int32) =>
  if r1 = 0 then (some (-1000000001 : Int32))
  else (if a2 = (-1 : Int32) then (zgd a1 6 <| some (ga o 17 (a1.toNatClampNeg)))
  else (Option.bind (pX11_in (a2.toInt64) (0 : Int64) (399 : Int64)) fun (r2 : Int32) =>
  if r2 = 0 then (some (-1000000002 : Int32))
  else (zgd (((400 : Int32) * a1) + a2) 2400 <| some (ga o 18 ((((400 : Int32) * a1) + a2).toNatClampNeg)))))
set_option maxHeartbeats 4000000 in
set_option maxRecDepth 100000 in
theorem c_X11_weight {q : Nat → Nat} (o : Ob) (a1 : Int32) (a2 : Int32) : zCi l D tA yX11_weight cX11_weight 3 .int rmX11_weight [.ref (q 0), .int a1, .int a2] (WM tA q o) (fun (r : Int32) => r) (fun (r : Int32) => (WM tA q o)) (pX11_weight o a1 a2) := by
  refine zCi_of (lv0 := [some (.ref (q 0)), some (.int a1), some (.int a2)]) (by decide +kernel) (Nat.le_of_ble_eq_true rfl) rfl (fun X out F hr => ?_)
  unfold pX11_weight
  refine y_aload_n (pc := 0) F dX11_weight_0 rfl ?_
  refine y_iload_n (pc := 1) F dX11_weight_1 rfl ?_
  refine y_calliW (As := [.int a1]) (st := []) (q0 := 0) (pc := 2) F (c_X11_isSuit (q := q) o a1) dX11_weight_2 kM_X11_244 ⟨rfl, rfl⟩ ⟨Nat.le_of_ble_eq_true rfl, Nat.le_of_ble_eq_true rfl⟩ rfl rfl rfl (Nat.le_of_ble_eq_true rfl) rfl rfl WM_at0 (fun r1 => ?_)
  refine y_if_ne (pc := 5) (tgt := 11) F dX11_weight_5 rfl ?_ ?_
  · refine y_ldc (pc := 8) F dX11_weight_8 kC_X11_248 ?_
    exact y_iret hr dX11_weight_10 rfl rfl
  · refine y_iload_n (pc := 11) F dX11_weight_11 rfl ?_
    refine y_iconst (v := -1) (pc := 12) F dX11_weight_12 rfl ?_
    refine y_icmp_ne (pc := 13) (tgt := 25) F dX11_weight_13 rfl ?_ ?_
    · refine y_aload_n (pc := 16) F dX11_weight_16 rfl ?_
      refine y_get (pc := 17) F dX11_weight_17 kF_X11_47 0 WM_at0 rfl ?_
      refine y_iload_n (pc := 20) F dX11_weight_20 rfl ?_
      refine y_iald (pc := 21) F dX11_weight_21 13 WM_at13 ?_
      refine y_goto (tgt := 54) (pc := 22) F dX11_weight_22 rfl ?_
      exact y_iret hr dX11_weight_54 rfl rfl
    · refine y_iload_n (pc := 25) F dX11_weight_25 rfl ?_
      refine y_i2l (pc := 26) F dX11_weight_26 ?_
      refine y_lconst (v := 0) (pc := 27) F dX11_weight_27 rfl ?_
      refine y_ldc2 (pc := 28) F dX11_weight_28 kC_X11_266 ?_
      refine y_scalliP (As := [.long (a2.toInt64), .long (0 : Int64), .long (399 : Int64)]) (st := []) (pc := 31) F (c_X11_in (q := q) (a2.toInt64) (0 : Int64) (399 : Int64)) dX11_weight_31 kM_X11_127 ⟨rfl, rfl⟩ ⟨Nat.le_of_ble_eq_true rfl, Nat.le_of_ble_eq_true rfl⟩ rfl rfl rfl (Nat.le_of_ble_eq_true rfl) (fun r2 => ?_)
      refine y_if_eq (pc := 34) (tgt := 52) F dX11_weight_34 rfl ?_ ?_
      · refine y_ldc (pc := 52) F dX11_weight_52 kC_X11_136 ?_
        exact y_iret hr dX11_weight_54 rfl rfl
      · refine y_aload_n (pc := 37) F dX11_weight_37 rfl ?_
        refine y_get (pc := 38) F dX11_weight_38 kF_X11_50 0 WM_at0 rfl ?_
        refine y_sipush (v := 400) (pc := 41) F dX11_weight_41 rfl ?_
        refine y_iload_n (pc := 44) F dX11_weight_44 rfl ?_
        refine y_imul (pc := 45) F dX11_weight_45 ?_
        refine y_iload_n (pc := 46) F dX11_weight_46 rfl ?_
        refine y_iadd (pc := 47) F dX11_weight_47 ?_
        refine y_iald (pc := 48) F dX11_weight_48 14 WM_at14 ?_
        refine y_goto (tgt := 54) (pc := 49) F dX11_weight_49 rfl ?_
        exact y_iret hr dX11_weight_54 rfl rfl
abbrev rmX11_isEnough : Room := { frames := 0, cells := 0, slots := 0, locals := 0 }
def pX11_isEnough (o : Ob) (a1 : Int32) : Option Int32 :=
  zgd a1 6 <| zgd a1 6 <| if (ga o 17 (a1.toNatClampNeg)) < ((3 : Int32) * (ga o 1 (a1.toNatClampNeg))) then (zgz (0 : Int32) (some (0 : Int32)))
  else (zgz (1 : Int32) (some (1 : Int32)))
set_option maxHeartbeats 4000000 in
set_option maxRecDepth 100000 in
theorem c_X11_isEnough {q : Nat → Nat} (o : Ob) (a1 : Int32) : zCi l D tA yX11_isEnough cX11_isEnough 2 .boolean rmX11_isEnough [.ref (q 0), .int a1] (WM tA q o) (fun (r : Int32) => r) (fun (r : Int32) => (WM tA q o)) (pX11_isEnough o a1) := by
  refine zCi_of (lv0 := [some (.ref (q 0)), some (.int a1)]) (by decide +kernel) (Nat.le_of_ble_eq_true rfl) rfl (fun X out F hr => ?_)
  unfold pX11_isEnough
  refine y_aload_n (pc := 0) F dX11_isEnough_0 rfl ?_
  refine y_get (pc := 1) F dX11_isEnough_1 kF_X11_47 0 WM_at0 rfl ?_
  refine y_iload_n (pc := 4) F dX11_isEnough_4 rfl ?_
  refine y_iald (pc := 5) F dX11_isEnough_5 13 WM_at13 ?_
  refine y_iconst (v := 3) (pc := 6) F dX11_isEnough_6 rfl ?_
  refine y_aload_n (pc := 7) F dX11_isEnough_7 rfl ?_
  refine y_get (pc := 8) F dX11_isEnough_8 kF_X11_7 0 WM_at0 rfl ?_
  refine y_iload_n (pc := 11) F dX11_isEnough_11 rfl ?_
  refine y_iald (pc := 12) F dX11_isEnough_12 1 WM_at1 ?_
  refine y_imul (pc := 13) F dX11_isEnough_13 ?_
  refine y_icmp_lt (pc := 14) (tgt := 21) F dX11_isEnough_14 rfl ?_ ?_
  · refine y_iconst (v := 0) (pc := 21) F dX11_isEnough_21 rfl ?_
    exact y_zret hr dX11_isEnough_22 rfl rfl
  · refine y_iconst (v := 1) (pc := 17) F dX11_isEnough_17 rfl ?_
    refine y_goto (tgt := 22) (pc := 18) F dX11_isEnough_18 rfl ?_
    exact y_zret hr dX11_isEnough_22 rfl rfl
abbrev rmX11_lookAt : Room := { frames := 1, cells := 0, slots := 0, locals := 21 }
def pX11_lookAt (o : Ob) (a1 : Int32) : Option Ob :=
  zgd a1 6 <| if (ga o 15 (a1.toNatClampNeg)) = 0 then (Option.bind (pX11_isEnough o a1) fun (r1 : Int32) =>
  if r1 = 0 then (some o)
  else (zgd a1 6 <| zjn (zgd a1 6 <| zlet (sa o 15 (upd (ga o 15) (a1.toNatClampNeg) (1 : Int32))) fun (o2 : Ob) =>
  zgd a1 6 <| zlet (sa o2 16 (upd (ga o2 16) (a1.toNatClampNeg) (gi o2 13))) fun (o3 : Ob) =>
  some o3) fun (K41 : Option Ob) =>
  if (ga o 3 (a1.toNatClampNeg)) < 0 then (K41)
  else (zgd a1 6 <| zgd (ga o 3 (a1.toNatClampNeg)) 6 <| if (ga o 15 ((ga o 3 (a1.toNatClampNeg)).toNatClampNeg)) = (1 : Int32) then (K41)
  else (some o))))
  else (some o)
set_option maxHeartbeats 4000000 in
set_option maxRecDepth 100000 in
theorem c_X11_lookAt {q : Nat → Nat} (o : Ob) (a1 : Int32) : zCv l D tA yX11_lookAt cX11_lookAt 2 rmX11_lookAt [.ref (q 0), .int a1] (WM tA q o) (fun (r : Ob) => (WM tA q r)) (pX11_lookAt o a1) := by
  refine zCv_of (lv0 := [some (.ref (q 0)), some (.int a1)]) (by decide +kernel) (Nat.le_of_ble_eq_true rfl) rfl (fun X out F hr => ?_)
  unfold pX11_lookAt
  refine y_aload_n (pc := 0) F dX11_lookAt_0 rfl ?_
  refine y_get (pc := 1) F dX11_lookAt_1 kF_X11_41 0 WM_at0 rfl ?_
  refine y_iload_n (pc := 4) F dX11_lookAt_4 rfl ?_
  refine y_iald (pc := 5) F dX11_lookAt_5 11 WM_at11 ?_
  refine y_if_ne (pc := 6) (tgt := 58) F dX11_lookAt_6 rfl ?_ ?_
  · refine y_aload_n (pc := 9) F dX11_lookAt_9 rfl ?_
    refine y_iload_n (pc := 10) F dX11_lookAt_10 rfl ?_
    refine y_calliW (As := [.int a1]) (st := []) (q0 := 0) (pc := 11) F (c_X11_isEnough (q := q) o a1) dX11_lookAt_11 kM_X11_268 ⟨rfl, rfl⟩ ⟨Nat.le_of_ble_eq_true rfl, Nat.le_of_ble_eq_true rfl⟩ rfl rfl rfl (Nat.le_of_ble_eq_true rfl) rfl rfl WM_at0 (fun r1 => ?_)
    refine y_if_eq (pc := 14) (tgt := 58) F dX11_lookAt_14 rfl ?_ ?_
    · exact y_vret hr dX11_lookAt_58 rfl
    · refine y_aload_n (pc := 17) F dX11_lookAt_17 rfl ?_
      refine y_get (pc := 18) F dX11_lookAt_18 kF_X11_16 0 WM_at0 rfl ?_
      refine y_iload_n (pc := 21) F dX11_lookAt_21 rfl ?_
      refine y_iald (pc := 22) F dX11_lookAt_22 3 WM_at3 ?_
      refine y_jn (fun (K41 : Option Ob) => zY X D out (K41) (WM tA q o) 41 [some (.ref (q 0)), some (.int a1)] []) ?_ ?_
      · skip
        refine y_aload_n (pc := 41) F dX11_lookAt_41 rfl ?_
        refine y_get (pc := 42) F dX11_lookAt_42 kF_X11_41 0 WM_at0 rfl ?_
        refine y_iload_n (pc := 45) F dX11_lookAt_45 rfl ?_
        refine y_iconst (v := 1) (pc := 46) F dX11_lookAt_46 rfl ?_
        refine y_iast (pc := 47) F dX11_lookAt_47 11 WM_at11 (fun (o2 : Ob) => (WM tA q o2)) (WM_ar11 _) (fun o2 => ?_)
        refine y_aload_n (pc := 48) F dX11_lookAt_48 rfl ?_
        refine y_get (pc := 49) F dX11_lookAt_49 kF_X11_44 0 WM_at0 rfl ?_
        refine y_iload_n (pc := 52) F dX11_lookAt_52 rfl ?_
        refine y_aload_n (pc := 53) F dX11_lookAt_53 rfl ?_
        refine y_get (pc := 54) F dX11_lookAt_54 kF_X11_223 0 WM_at0 rfl ?_
        refine y_iast (pc := 57) F dX11_lookAt_57 12 WM_at12 (fun (o3 : Ob) => (WM tA q o3)) (WM_ar12 _) (fun o3 => ?_)
        exact y_vret hr dX11_lookAt_58 rfl
      intro K41 hK41
      refine y_if_lt (pc := 23) (tgt := 41) F dX11_lookAt_23 rfl ?_ ?_
      · exact hK41
      · refine y_aload_n (pc := 26) F dX11_lookAt_26 rfl ?_
        refine y_get (pc := 27) F dX11_lookAt_27 kF_X11_41 0 WM_at0 rfl ?_
        refine y_aload_n (pc := 30) F dX11_lookAt_30 rfl ?_
        refine y_get (pc := 31) F dX11_lookAt_31 kF_X11_16 0 WM_at0 rfl ?_
        refine y_iload_n (pc := 34) F dX11_lookAt_34 rfl ?_
        refine y_iald (pc := 35) F dX11_lookAt_35 3 WM_at3 ?_
        refine y_iald (pc := 36) F dX11_lookAt_36 11 WM_at11 ?_
        refine y_iconst (v := 1) (pc := 37) F dX11_lookAt_37 rfl ?_
        refine y_icmp_ne (pc := 38) (tgt := 58) F dX11_lookAt_38 rfl ?_ ?_
        · exact hK41
        · exact y_vret hr dX11_lookAt_58 rfl
  · exact y_vret hr dX11_lookAt_58 rfl
abbrev rmX11_speak : Room := { frames := 2, cells := 0, slots := 0, locals := 47 }
def pX11_speak (o : Ob) (a1 : Int32) : Option Ob :=
  zgd a1 12 <| zgd (ga o 5 (a1.toNatClampNeg)) 6 <| Option.bind (pX11_freshOn o a1 (gi o 13)) fun (r1 : Int32) =>
  zgd (ga o 5 (a1.toNatClampNeg)) 6 <| zlet (sa o 17 (upd (ga o 17) ((ga o 5 (a1.toNatClampNeg)).toNatClampNeg) ((ga o 17 ((ga o 5 (a1.toNatClampNeg)).toNatClampNeg)) + r1))) fun (o2 : Ob) =>
  zgd a1 12 <| zlet (sa o2 10 (upd (ga o2 10) (a1.toNatClampNeg) (gi o2 13))) fun (o3 : Ob) =>
  zgd a1 12 <| zgd a1 12 <| zlet (sa o3 11 (upd (ga o3 11) (a1.toNatClampNeg) ((ga o3 11 (a1.toNatClampNeg)) + (1 : Int32)))) fun (o4 : Ob) =>
  zlet (si o4 14 ((gi o4 14) + (1 : Int32))) fun (o5 : Ob) =>
  zgd a1 12 <| Option.bind (pX11_lookAt o5 (ga o5 5 (a1.toNatClampNeg))) fun (r6 : Ob) =>
  some r6
set_option maxHeartbeats 4000000 in
set_option maxRecDepth 100000 in
theorem c_X11_speak {q : Nat → Nat} (o : Ob) (a1 : Int32) : zCv l D tA yX11_speak cX11_speak 2 rmX11_speak [.ref (q 0), .int a1] (WM tA q o) (fun (r : Ob) => (WM tA q r)) (pX11_speak o a1) := by
  refine zCv_of (lv0 := [some (.ref (q 0)), some (.int a1)]) (by decide +kernel) (Nat.le_of_ble_eq_true rfl) rfl (fun X out F hr => ?_)
  unfold pX11_speak
  refine y_aload_n (pc := 0) F dX11_speak_0 rfl ?_
  refine y_get (pc := 1) F dX11_speak_1 kF_X11_47 0 WM_at0 rfl ?_
  refine y_aload_n (pc := 4) F dX11_speak_4 rfl ?_
  refine y_get (pc := 5) F dX11_speak_5 kF_X11_19 0 WM_at0 rfl ?_
  refine y_iload_n (pc := 8) F dX11_speak_8 rfl ?_
  refine y_iald (pc := 9) F dX11_speak_9 4 WM_at4 ?_
  refine y_dup2 (pc := 10) F dX11_speak_10 rfl rfl ?_
  refine y_iald (pc := 11) F dX11_speak_11 13 WM_at13 ?_
  refine y_aload_n (pc := 12) F dX11_speak_12 rfl ?_
  refine y_iload_n (pc := 13) F dX11_speak_13 rfl ?_
  refine y_aload_n (pc := 14) F dX11_speak_14 rfl ?_
  refine y_get (pc := 15) F dX11_speak_15 kF_X11_223 0 WM_at0 rfl ?_
  refine y_calliW (As := [.int a1, .int (gi o 13)]) (st := [.int (ga o 17 ((ga o 5 (a1.toNatClampNeg)).toNatClampNeg)), .int (ga o 5 (a1.toNatClampNeg)), .ref (q 13)]) (q0 := 0) (pc := 18) F (c_X11_freshOn (q := q) o a1 (gi o 13)) dX11_speak_18 kM_X11_260 ⟨rfl, rfl⟩ ⟨Nat.le_of_ble_eq_true rfl, Nat.le_of_ble_eq_true rfl⟩ rfl rfl rfl (Nat.le_of_ble_eq_true rfl) rfl rfl WM_at0 (fun r1 => ?_)
  refine y_iadd (pc := 21) F dX11_speak_21 ?_
  refine y_iast (pc := 22) F dX11_speak_22 13 WM_at13 (fun (o2 : Ob) => (WM tA q o2)) (WM_ar13 _) (fun o2 => ?_)
  refine y_aload_n (pc := 23) F dX11_speak_23 rfl ?_
  refine y_get (pc := 24) F dX11_speak_24 kF_X11_31 0 WM_at0 rfl ?_
  refine y_iload_n (pc := 27) F dX11_speak_27 rfl ?_
  refine y_aload_n (pc := 28) F dX11_speak_28 rfl ?_
  refine y_get (pc := 29) F dX11_speak_29 kF_X11_223 0 WM_at0 rfl ?_
  refine y_iast (pc := 32) F dX11_speak_32 8 WM_at8 (fun (o3 : Ob) => (WM tA q o3)) (WM_ar8 _) (fun o3 => ?_)
  refine y_aload_n (pc := 33) F dX11_speak_33 rfl ?_
  refine y_get (pc := 34) F dX11_speak_34 kF_X11_34 0 WM_at0 rfl ?_
  refine y_iload_n (pc := 37) F dX11_speak_37 rfl ?_
  refine y_dup2 (pc := 38) F dX11_speak_38 rfl rfl ?_
  refine y_iald (pc := 39) F dX11_speak_39 9 WM_at9 ?_
  refine y_iconst (v := 1) (pc := 40) F dX11_speak_40 rfl ?_
  refine y_iadd (pc := 41) F dX11_speak_41 ?_
  refine y_iast (pc := 42) F dX11_speak_42 9 WM_at9 (fun (o4 : Ob) => (WM tA q o4)) (WM_ar9 _) (fun o4 => ?_)
  refine y_aload_n (pc := 43) F dX11_speak_43 rfl ?_
  refine y_dup (pc := 44) F dX11_speak_44 rfl ?_
  refine y_get (pc := 45) F dX11_speak_45 kF_X11_226 0 WM_at0 rfl ?_
  refine y_iconst (v := 1) (pc := 48) F dX11_speak_48 rfl ?_
  refine y_iadd (pc := 49) F dX11_speak_49 ?_
  refine y_put (pc := 50) F dX11_speak_50 kF_X11_226 0 WM_at0 rfl rfl rfl (Nat.le_of_ble_eq_true rfl) (fun (o5 : Ob) => (WM tA q o5)) (WM_pt0_14 _) (fun o5 => ?_)
  refine y_aload_n (pc := 53) F dX11_speak_53 rfl ?_
  refine y_aload_n (pc := 54) F dX11_speak_54 rfl ?_
  refine y_get (pc := 55) F dX11_speak_55 kF_X11_19 0 WM_at0 rfl ?_
  refine y_iload_n (pc := 58) F dX11_speak_58 rfl ?_
  refine y_iald (pc := 59) F dX11_speak_59 4 WM_at4 ?_
  refine y_callvW (As := [.int (ga o5 5 (a1.toNatClampNeg))]) (st := []) (q0 := 0) (pc := 60) F (c_X11_lookAt (q := q) o5 (ga o5 5 (a1.toNatClampNeg))) dX11_speak_60 kM_X11_271 ⟨rfl, rfl⟩ ⟨Nat.le_of_ble_eq_true rfl, Nat.le_of_ble_eq_true rfl⟩ rfl rfl rfl (Nat.le_of_ble_eq_true rfl) rfl rfl WM_at0 (fun r6 => ?_)
  exact y_vret hr dX11_speak_63 rfl
abbrev rmX11_say : Room := { frames := 3, cells := 0, slots := 0, locals := 68 }
def pX11_say (o : Ob) (a1 : Int32) : Option (Int32 × Ob) :=
  Option.bind (pX11_isWitness o a1) fun (r1 : Int32) =>
  if r1 = 0 then (some ((-1000000001 : Int32), o))
  else (Option.bind (pX11_mayNow o a1) fun (r2 : Int32) =>
  if r2 = 0 then (some ((-1000000003 : Int32), o))
  else (Option.bind (pX11_speak o a1) fun (r3 : Ob) =>
  zgd a1 12 <| zgd (ga r3 5 (a1.toNatClampNeg)) 6 <| some ((ga r3 15 ((ga r3 5 (a1.toNatClampNeg)).toNatClampNeg)), r3)))
set_option maxHeartbeats 4000000 in
set_option maxRecDepth 100000 in
theorem c_X11_say {q : Nat → Nat} (o : Ob) (a1 : Int32) : zCi l D tA yX11_say cX11_say 2 .int rmX11_say [.ref (q 0), .int a1] (WM tA q o) (fun (r : Int32 × Ob) => (r.1)) (fun (r : Int32 × Ob) => (WM tA q (r.2))) (pX11_say o a1) := by
  refine zCi_of (lv0 := [some (.ref (q 0)), some (.int a1)]) (by decide +kernel) (Nat.le_of_ble_eq_true rfl) rfl (fun X out F hr => ?_)
  unfold pX11_say
  refine y_aload_n (pc := 0) F dX11_say_0 rfl ?_
  refine y_iload_n (pc := 1) F dX11_say_1 rfl ?_
  refine y_calliW (As := [.int a1]) (st := []) (q0 := 0) (pc := 2) F (c_X11_isWitness (q := q) o a1) dX11_say_2 kM_X11_257 ⟨rfl, rfl⟩ ⟨Nat.le_of_ble_eq_true rfl, Nat.le_of_ble_eq_true rfl⟩ rfl rfl rfl (Nat.le_of_ble_eq_true rfl) rfl rfl WM_at0 (fun r1 => ?_)
  refine y_if_ne (pc := 5) (tgt := 11) F dX11_say_5 rfl ?_ ?_
  · refine y_ldc (pc := 8) F dX11_say_8 kC_X11_248 ?_
    exact y_iret hr dX11_say_10 rfl rfl
  · refine y_aload_n (pc := 11) F dX11_say_11 rfl ?_
    refine y_iload_n (pc := 12) F dX11_say_12 rfl ?_
    refine y_calliW (As := [.int a1]) (st := []) (q0 := 0) (pc := 13) F (c_X11_mayNow (q := q) o a1) dX11_say_13 kM_X11_263 ⟨rfl, rfl⟩ ⟨Nat.le_of_ble_eq_true rfl, Nat.le_of_ble_eq_true rfl⟩ rfl rfl rfl (Nat.le_of_ble_eq_true rfl) rfl rfl WM_at0 (fun r2 => ?_)
    refine y_if_ne (pc := 16) (tgt := 22) F dX11_say_16 rfl ?_ ?_
    · refine y_ldc (pc := 19) F dX11_say_19 kC_X11_232 ?_
      exact y_iret hr dX11_say_21 rfl rfl
    · refine y_aload_n (pc := 22) F dX11_say_22 rfl ?_
      refine y_iload_n (pc := 23) F dX11_say_23 rfl ?_
      refine y_callvW (As := [.int a1]) (st := []) (q0 := 0) (pc := 24) F (c_X11_speak (q := q) o a1) dX11_say_24 kM_X11_275 ⟨rfl, rfl⟩ ⟨Nat.le_of_ble_eq_true rfl, Nat.le_of_ble_eq_true rfl⟩ rfl rfl rfl (Nat.le_of_ble_eq_true rfl) rfl rfl WM_at0 (fun r3 => ?_)
      refine y_aload_n (pc := 27) F dX11_say_27 rfl ?_
      refine y_get (pc := 28) F dX11_say_28 kF_X11_41 0 WM_at0 rfl ?_
      refine y_aload_n (pc := 31) F dX11_say_31 rfl ?_
      refine y_get (pc := 32) F dX11_say_32 kF_X11_19 0 WM_at0 rfl ?_
      refine y_iload_n (pc := 35) F dX11_say_35 rfl ?_
      refine y_iald (pc := 36) F dX11_say_36 4 WM_at4 ?_
      refine y_iald (pc := 37) F dX11_say_37 11 WM_at11 ?_
      exact y_iret hr dX11_say_38 rfl rfl
abbrev rmX11_strike : Room := { frames := 2, cells := 0, slots := 0, locals := 46 }
def pX11_strike (o : Ob) (a1 : Int32) (a2 : Int32) : Option (Int32 × Ob) :=
  Option.bind (pX11_isWitness o a1) fun (r1 : Int32) =>
  if r1 = 0 then (some ((-1000000001 : Int32), o))
  else (zgd a1 12 <| zjn (fun (x2 : Int32) =>
  zgd a1 12 <| zlet (sa o 12 (upd (ga o 12) (a1.toNatClampNeg) (vp_nar .boolean a2))) fun (o3 : Ob) =>
  some (x2, o3)) fun (K25 : Int32 → Option (Int32 × Ob)) =>
  if (ga o 12 (a1.toNatClampNeg)) = 0 then (K25 (0 : Int32))
  else (K25 (1 : Int32)))
set_option maxHeartbeats 4000000 in
set_option maxRecDepth 100000 in
theorem c_X11_strike {q : Nat → Nat} (o : Ob) (a1 : Int32) (a2 : Int32) : zCi l D tA yX11_strike cX11_strike 4 .int rmX11_strike [.ref (q 0), .int a1, .int a2] (WM tA q o) (fun (r : Int32 × Ob) => (r.1)) (fun (r : Int32 × Ob) => (WM tA q (r.2))) (pX11_strike o a1 a2) := by
  refine zCi_of (lv0 := [some (.ref (q 0)), some (.int a1), some (.int a2), none]) (by decide +kernel) (Nat.le_of_ble_eq_true rfl) rfl (fun X out F hr => ?_)
  unfold pX11_strike
  refine y_aload_n (pc := 0) F dX11_strike_0 rfl ?_
  refine y_iload_n (pc := 1) F dX11_strike_1 rfl ?_
  refine y_calliW (As := [.int a1]) (st := []) (q0 := 0) (pc := 2) F (c_X11_isWitness (q := q) o a1) dX11_strike_2 kM_X11_257 ⟨rfl, rfl⟩ ⟨Nat.le_of_ble_eq_true rfl, Nat.le_of_ble_eq_true rfl⟩ rfl rfl rfl (Nat.le_of_ble_eq_true rfl) rfl rfl WM_at0 (fun r1 => ?_)
  refine y_if_ne (pc := 5) (tgt := 11) F dX11_strike_5 rfl ?_ ?_
  · refine y_ldc (pc := 8) F dX11_strike_8 kC_X11_248 ?_
    exact y_iret hr dX11_strike_10 rfl rfl
  · refine y_aload_n (pc := 11) F dX11_strike_11 rfl ?_
    refine y_get (pc := 12) F dX11_strike_12 kF_X11_37 0 WM_at0 rfl ?_
    refine y_iload_n (pc := 15) F dX11_strike_15 rfl ?_
    refine y_zald (pc := 16) F dX11_strike_16 10 WM_at10 ?_
    refine y_jn (fun (K25 : Int32 → Option (Int32 × Ob)) => ∀ (x2 : Int32), zY X D out (K25 x2) (WM tA q o) 25 [some (.ref (q 0)), some (.int a1), some (.int a2), none] [.int x2]) ?_ ?_
    · intro x2
      refine y_istore_n (lv' := [some (.ref (q 0)), some (.int a1), some (.int a2), some (.int x2)]) (pc := 25) F dX11_strike_25 (Nat.le_of_ble_eq_true rfl) rfl rfl ?_
      refine y_aload_n (pc := 26) F dX11_strike_26 rfl ?_
      refine y_get (pc := 27) F dX11_strike_27 kF_X11_37 0 WM_at0 rfl ?_
      refine y_iload_n (pc := 30) F dX11_strike_30 rfl ?_
      refine y_iload_n (pc := 31) F dX11_strike_31 rfl ?_
      refine y_zast (pc := 32) F dX11_strike_32 10 WM_at10 (fun (o3 : Ob) => (WM tA q o3)) (WM_ar10 _) (fun o3 => ?_)
      refine y_iload_n (pc := 33) F dX11_strike_33 rfl ?_
      exact y_iret hr dX11_strike_34 rfl rfl
    intro K25 hK25
    refine y_if_eq (pc := 17) (tgt := 24) F dX11_strike_17 rfl ?_ ?_
    · refine y_iconst (v := 0) (pc := 24) F dX11_strike_24 rfl ?_
      exact hK25 (0 : Int32)
    · refine y_iconst (v := 1) (pc := 20) F dX11_strike_20 rfl ?_
      refine y_goto (tgt := 25) (pc := 21) F dX11_strike_21 rfl ?_
      exact hK25 (1 : Int32)
abbrev rmX11_halve : Room := { frames := 0, cells := 0, slots := 0, locals := 0 }
def lX11_halve_4 (a1 : Int32) (K40 : Ob → Option Ob) : Nat → Int32 → Ob → Option Ob
  | 0, _, _ => none
  | f + 1, x4, o5 =>
    if x4 ≤ 0 then (K40 o5)
    else (zgd ((((400 : Int32) * a1) + x4) - (1 : Int32)) 2400 <| zgd (((400 : Int32) * a1) + x4) 2400 <| zlet (sa o5 18 (upd (ga o5 18) ((((400 : Int32) * a1) + x4).toNatClampNeg) (ga o5 18 (((((400 : Int32) * a1) + x4) - (1 : Int32)).toNatClampNeg)))) fun (o6 : Ob) =>
    zlet (x4 + (-1 : Int32)) fun (x7 : Int32) =>
    lX11_halve_4 a1 K40 f x7 o6)
def pX11_halve (o : Ob) (a1 : Int32) : Option Ob :=
  zjn (fun (o1 : Ob) =>
  zgd a1 6 <| znz (2 : Int32) <| zgd ((400 : Int32) * a1) 2400 <| zlet (sa o1 18 (upd (ga o1 18) (((400 : Int32) * a1).toNatClampNeg) ((ga o1 17 (a1.toNatClampNeg)) - (ga o1 17 (a1.toNatClampNeg)) / (2 : Int32) * (2 : Int32)))) fun (o2 : Ob) =>
  zgd a1 6 <| znz (2 : Int32) <| zgd a1 6 <| zlet (sa o2 17 (upd (ga o2 17) (a1.toNatClampNeg) ((ga o2 17 (a1.toNatClampNeg)) / (2 : Int32)))) fun (o3 : Ob) =>
  some o3) fun (K40 : Ob → Option Ob) =>
  lX11_halve_4 a1 K40 zfu (399 : Int32) o
set_option maxHeartbeats 4000000 in
set_option maxRecDepth 100000 in
theorem wlX11_halve_4 {X : ZX} {out : Ob} (q : Nat → Nat) (a1 : Int32) (F : zF l D tA RX11 cX11_halve 3 rmX11_halve X) (hr : zRv X D cX11_halve (fun (r : Ob) => (WM tA q r)) out) {K40 : Ob → Option Ob} (hK40 : ∀ (o1 : Ob), zY X D out (K40 o1) (WM tA q o1) 40 [some (.ref (q 0)), some (.int a1), none] []) : ∀ (f : Nat) (x4 : Int32) (o5 : Ob), zY X D out (lX11_halve_4 a1 K40 f x4 o5) (WM tA q o5) 4 [some (.ref (q 0)), some (.int a1), some (.int x4)] [] := by
  intro f
  induction f with
  | zero =>
    intro x4 o5
    exact y_none
  | succ f ih =>
    intro x4 o5
    rw [lX11_halve_4.eq_2]
    refine y_iload_n (pc := 4) F dX11_halve_4 rfl ?_
    refine y_if_le (pc := 5) (tgt := 40) F dX11_halve_5 rfl ?_ ?_
    · refine y_le (lv' := [some (.ref (q 0)), some (.int a1), none]) ⟨rfl, ⟨rfl, trivial⟩⟩ ?_
      exact hK40 o5
    · refine y_aload_n (pc := 8) F dX11_halve_8 rfl ?_
      refine y_get (pc := 9) F dX11_halve_9 kF_X11_50 0 WM_at0 rfl ?_
      refine y_sipush (v := 400) (pc := 12) F dX11_halve_12 rfl ?_
      refine y_iload_n (pc := 15) F dX11_halve_15 rfl ?_
      refine y_imul (pc := 16) F dX11_halve_16 ?_
      refine y_iload_n (pc := 17) F dX11_halve_17 rfl ?_
      refine y_iadd (pc := 18) F dX11_halve_18 ?_
      refine y_aload_n (pc := 19) F dX11_halve_19 rfl ?_
      refine y_get (pc := 20) F dX11_halve_20 kF_X11_50 0 WM_at0 rfl ?_
      refine y_sipush (v := 400) (pc := 23) F dX11_halve_23 rfl ?_
      refine y_iload_n (pc := 26) F dX11_halve_26 rfl ?_
      refine y_imul (pc := 27) F dX11_halve_27 ?_
      refine y_iload_n (pc := 28) F dX11_halve_28 rfl ?_
      refine y_iadd (pc := 29) F dX11_halve_29 ?_
      refine y_iconst (v := 1) (pc := 30) F dX11_halve_30 rfl ?_
      refine y_isub (pc := 31) F dX11_halve_31 ?_
      refine y_iald (pc := 32) F dX11_halve_32 14 WM_at14 ?_
      refine y_iast (pc := 33) F dX11_halve_33 14 WM_at14 (fun (o6 : Ob) => (WM tA q o6)) (WM_ar14 _) (fun o6 => ?_)
      refine y_iinc (v := -1) (lf := fun (x7 : Int32) => [some (.ref (q 0)), some (.int a1), some (.int x7)]) (pc := 34) F dX11_halve_34 rfl rfl rfl (fun _ => rfl) (fun x7 => ?_)
      refine y_goto (tgt := 4) (pc := 37) F dX11_halve_37 rfl ?_
      exact ih x7 o6
set_option maxHeartbeats 4000000 in
set_option maxRecDepth 100000 in
theorem c_X11_halve {q : Nat → Nat} (o : Ob) (a1 : Int32) : zCv l D tA yX11_halve cX11_halve 3 rmX11_halve [.ref (q 0), .int a1] (WM tA q o) (fun (r : Ob) => (WM tA q r)) (pX11_halve o a1) := by
  refine zCv_of (lv0 := [some (.ref (q 0)), some (.int a1), none]) (by decide +kernel) (Nat.le_of_ble_eq_true rfl) rfl (fun X out F hr => ?_)
  unfold pX11_halve
  refine y_sipush (v := 399) (pc := 0) F dX11_halve_0 rfl ?_
  refine y_istore_n (lv' := [some (.ref (q 0)), some (.int a1), some (.int (399 : Int32))]) (pc := 3) F dX11_halve_3 (Nat.le_of_ble_eq_true rfl) rfl rfl ?_
  refine y_jn (fun (K40 : Ob → Option Ob) => ∀ (o1 : Ob), zY X D out (K40 o1) (WM tA q o1) 40 [some (.ref (q 0)), some (.int a1), none] []) ?_ ?_
  · intro o1
    refine y_aload_n (pc := 40) F dX11_halve_40 rfl ?_
    refine y_get (pc := 41) F dX11_halve_41 kF_X11_50 0 WM_at0 rfl ?_
    refine y_sipush (v := 400) (pc := 44) F dX11_halve_44 rfl ?_
    refine y_iload_n (pc := 47) F dX11_halve_47 rfl ?_
    refine y_imul (pc := 48) F dX11_halve_48 ?_
    refine y_aload_n (pc := 49) F dX11_halve_49 rfl ?_
    refine y_get (pc := 50) F dX11_halve_50 kF_X11_47 0 WM_at0 rfl ?_
    refine y_iload_n (pc := 53) F dX11_halve_53 rfl ?_
    refine y_iald (pc := 54) F dX11_halve_54 13 WM_at13 ?_
    refine y_iconst (v := 2) (pc := 55) F dX11_halve_55 rfl ?_
    refine y_irem (pc := 56) F dX11_halve_56 ?_
    refine y_iast (pc := 57) F dX11_halve_57 14 WM_at14 (fun (o2 : Ob) => (WM tA q o2)) (WM_ar14 _) (fun o2 => ?_)
    refine y_aload_n (pc := 58) F dX11_halve_58 rfl ?_
    refine y_get (pc := 59) F dX11_halve_59 kF_X11_47 0 WM_at0 rfl ?_
    refine y_iload_n (pc := 62) F dX11_halve_62 rfl ?_
    refine y_dup2 (pc := 63) F dX11_halve_63 rfl rfl ?_
    refine y_iald (pc := 64) F dX11_halve_64 13 WM_at13 ?_
    refine y_iconst (v := 2) (pc := 65) F dX11_halve_65 rfl ?_
    refine y_idiv (pc := 66) F dX11_halve_66 ?_
    refine y_iast (pc := 67) F dX11_halve_67 13 WM_at13 (fun (o3 : Ob) => (WM tA q o3)) (WM_ar13 _) (fun o3 => ?_)
    exact y_vret hr dX11_halve_68 rfl
  intro K40 hK40
  exact wlX11_halve_4 q a1 F hr hK40 zfu (399 : Int32) o
abbrev rmX11_darken : Room := { frames := 2, cells := 0, slots := 0, locals := 42 }
def lX11_darken_83 (K102 : Ob → Option Ob) : Nat → Int32 → Ob → Option Ob
  | 0, _, _ => none
  | f + 1, x5, o6 =>
    if (gi o6 0) ≤ x5 then (K102 o6)
    else (Option.bind (pX11_halve o6 x5) fun (r7 : Ob) =>
    zlet (x5 + (1 : Int32)) fun (x8 : Int32) =>
    lX11_darken_83 K102 f x8 r7)
def lX11_darken_2 (K81 : Ob → Option Ob) : Nat → Int32 → Ob → Option Ob
  | 0, _, _ => none
  | f + 1, x9, o10 =>
    if (gi o10 0) ≤ x9 then (K81 o10)
    else (zgd x9 6 <| zgd (((400 : Int32) * x9) + (gi o10 13)) 2400 <| zlet (sa o10 19 (upd (ga o10 19) ((((400 : Int32) * x9) + (gi o10 13)).toNatClampNeg) (ga o10 17 (x9.toNatClampNeg)))) fun (o11 : Ob) =>
    Option.bind (pX11_lookAt o11 x9) fun (r12 : Ob) =>
    zgd x9 6 <| zjn (fun (o13 : Ob) =>
    zlet (x9 + (1 : Int32)) fun (x14 : Int32) =>
    lX11_darken_2 K81 f x14 o13) fun (K75 : Ob → Option Ob) =>
    if (ga r12 15 (x9.toNatClampNeg)) = 0 then (zgd x9 6 <| if (gi r12 13) = (ga r12 2 (x9.toNatClampNeg)) then (zgd x9 6 <| zlet (sa r12 15 (upd (ga r12 15) (x9.toNatClampNeg) (2 : Int32))) fun (o15 : Ob) =>
    zgd x9 6 <| zlet (sa o15 16 (upd (ga o15 16) (x9.toNatClampNeg) (gi o15 13))) fun (o16 : Ob) =>
    K75 o16)
    else (K75 r12))
    else (K75 r12))
def pX11_darken (o : Ob) : Option Ob :=
  zjn (fun (o1 : Ob) =>
  zjn (fun (o2 : Ob) =>
  zlet (si o2 13 ((gi o2 13) + (1 : Int32))) fun (o3 : Ob) =>
  zlet (si o3 14 (0 : Int32)) fun (o4 : Ob) =>
  some o4) fun (K102 : Ob → Option Ob) =>
  lX11_darken_83 K102 zfu (0 : Int32) o1) fun (K81 : Ob → Option Ob) =>
  lX11_darken_2 K81 zfu (0 : Int32) o
set_option maxHeartbeats 4000000 in
set_option maxRecDepth 100000 in
theorem wlX11_darken_83 {X : ZX} {out : Ob} (q : Nat → Nat) (F : zF l D tA RX11 cX11_darken 2 rmX11_darken X) (hr : zRv X D cX11_darken (fun (r : Ob) => (WM tA q r)) out) {K102 : Ob → Option Ob} (hK102 : ∀ (o2 : Ob), zY X D out (K102 o2) (WM tA q o2) 102 [some (.ref (q 0)), none] []) : ∀ (f : Nat) (x5 : Int32) (o6 : Ob), zY X D out (lX11_darken_83 K102 f x5 o6) (WM tA q o6) 83 [some (.ref (q 0)), some (.int x5)] [] := by
  intro f
  induction f with
  | zero =>
    intro x5 o6
    exact y_none
  | succ f ih =>
    intro x5 o6
    rw [lX11_darken_83.eq_2]
    refine y_iload_n (pc := 83) F dX11_darken_83 rfl ?_
    refine y_aload_n (pc := 84) F dX11_darken_84 rfl ?_
    refine y_get (pc := 85) F dX11_darken_85 kF_X11_124 0 WM_at0 rfl ?_
    refine y_icmp_ge (pc := 88) (tgt := 102) F dX11_darken_88 rfl ?_ ?_
    · refine y_le (lv' := [some (.ref (q 0)), none]) ⟨rfl, trivial⟩ ?_
      exact hK102 o6
    · refine y_aload_n (pc := 91) F dX11_darken_91 rfl ?_
      refine y_iload_n (pc := 92) F dX11_darken_92 rfl ?_
      refine y_callvW (As := [.int x5]) (st := []) (q0 := 0) (pc := 93) F (c_X11_halve (q := q) o6 x5) dX11_darken_93 kM_X11_278 ⟨rfl, rfl⟩ ⟨Nat.le_of_ble_eq_true rfl, Nat.le_of_ble_eq_true rfl⟩ rfl rfl rfl (Nat.le_of_ble_eq_true rfl) rfl rfl WM_at0 (fun r7 => ?_)
      refine y_iinc (v := 1) (lf := fun (x8 : Int32) => [some (.ref (q 0)), some (.int x8)]) (pc := 96) F dX11_darken_96 rfl rfl rfl (fun _ => rfl) (fun x8 => ?_)
      refine y_goto (tgt := 83) (pc := 99) F dX11_darken_99 rfl ?_
      exact ih x8 r7
set_option maxHeartbeats 4000000 in
set_option maxRecDepth 100000 in
theorem wlX11_darken_2 {X : ZX} {out : Ob} (q : Nat → Nat) (F : zF l D tA RX11 cX11_darken 2 rmX11_darken X) (hr : zRv X D cX11_darken (fun (r : Ob) => (WM tA q r)) out) {K81 : Ob → Option Ob} (hK81 : ∀ (o1 : Ob), zY X D out (K81 o1) (WM tA q o1) 81 [some (.ref (q 0)), none] []) : ∀ (f : Nat) (x9 : Int32) (o10 : Ob), zY X D out (lX11_darken_2 K81 f x9 o10) (WM tA q o10) 2 [some (.ref (q 0)), some (.int x9)] [] := by
  intro f
  induction f with
  | zero =>
    intro x9 o10
    exact y_none
  | succ f ih =>
    intro x9 o10
    rw [lX11_darken_2.eq_2]
    refine y_iload_n (pc := 2) F dX11_darken_2 rfl ?_
    refine y_aload_n (pc := 3) F dX11_darken_3 rfl ?_
    refine y_get (pc := 4) F dX11_darken_4 kF_X11_124 0 WM_at0 rfl ?_
    refine y_icmp_ge (pc := 7) (tgt := 81) F dX11_darken_7 rfl ?_ ?_
    · refine y_le (lv' := [some (.ref (q 0)), none]) ⟨rfl, trivial⟩ ?_
      exact hK81 o10
    · refine y_aload_n (pc := 10) F dX11_darken_10 rfl ?_
      refine y_get (pc := 11) F dX11_darken_11 kF_X11_53 0 WM_at0 rfl ?_
      refine y_sipush (v := 400) (pc := 14) F dX11_darken_14 rfl ?_
      refine y_iload_n (pc := 17) F dX11_darken_17 rfl ?_
      refine y_imul (pc := 18) F dX11_darken_18 ?_
      refine y_aload_n (pc := 19) F dX11_darken_19 rfl ?_
      refine y_get (pc := 20) F dX11_darken_20 kF_X11_223 0 WM_at0 rfl ?_
      refine y_iadd (pc := 23) F dX11_darken_23 ?_
      refine y_aload_n (pc := 24) F dX11_darken_24 rfl ?_
      refine y_get (pc := 25) F dX11_darken_25 kF_X11_47 0 WM_at0 rfl ?_
      refine y_iload_n (pc := 28) F dX11_darken_28 rfl ?_
      refine y_iald (pc := 29) F dX11_darken_29 13 WM_at13 ?_
      refine y_iast (pc := 30) F dX11_darken_30 15 WM_at15 (fun (o11 : Ob) => (WM tA q o11)) (WM_ar15 _) (fun o11 => ?_)
      refine y_aload_n (pc := 31) F dX11_darken_31 rfl ?_
      refine y_iload_n (pc := 32) F dX11_darken_32 rfl ?_
      refine y_callvW (As := [.int x9]) (st := []) (q0 := 0) (pc := 33) F (c_X11_lookAt (q := q) o11 x9) dX11_darken_33 kM_X11_271 ⟨rfl, rfl⟩ ⟨Nat.le_of_ble_eq_true rfl, Nat.le_of_ble_eq_true rfl⟩ rfl rfl rfl (Nat.le_of_ble_eq_true rfl) rfl rfl WM_at0 (fun r12 => ?_)
      refine y_aload_n (pc := 36) F dX11_darken_36 rfl ?_
      refine y_get (pc := 37) F dX11_darken_37 kF_X11_41 0 WM_at0 rfl ?_
      refine y_iload_n (pc := 40) F dX11_darken_40 rfl ?_
      refine y_iald (pc := 41) F dX11_darken_41 11 WM_at11 ?_
      refine y_jn (fun (K75 : Ob → Option Ob) => ∀ (o13 : Ob), zY X D out (K75 o13) (WM tA q o13) 75 [some (.ref (q 0)), some (.int x9)] []) ?_ ?_
      · intro o13
        refine y_iinc (v := 1) (lf := fun (x14 : Int32) => [some (.ref (q 0)), some (.int x14)]) (pc := 75) F dX11_darken_75 rfl rfl rfl (fun _ => rfl) (fun x14 => ?_)
        refine y_goto (tgt := 2) (pc := 78) F dX11_darken_78 rfl ?_
        exact ih x14 o13
      intro K75 hK75
      refine y_if_ne (pc := 42) (tgt := 75) F dX11_darken_42 rfl ?_ ?_
      · refine y_aload_n (pc := 45) F dX11_darken_45 rfl ?_
        refine y_get (pc := 46) F dX11_darken_46 kF_X11_223 0 WM_at0 rfl ?_
        refine y_aload_n (pc := 49) F dX11_darken_49 rfl ?_
        refine y_get (pc := 50) F dX11_darken_50 kF_X11_13 0 WM_at0 rfl ?_
        refine y_iload_n (pc := 53) F dX11_darken_53 rfl ?_
        refine y_iald (pc := 54) F dX11_darken_54 2 WM_at2 ?_
        refine y_icmp_ne (pc := 55) (tgt := 75) F dX11_darken_55 rfl ?_ ?_
        · refine y_aload_n (pc := 58) F dX11_darken_58 rfl ?_
          refine y_get (pc := 59) F dX11_darken_59 kF_X11_41 0 WM_at0 rfl ?_
          refine y_iload_n (pc := 62) F dX11_darken_62 rfl ?_
          refine y_iconst (v := 2) (pc := 63) F dX11_darken_63 rfl ?_
          refine y_iast (pc := 64) F dX11_darken_64 11 WM_at11 (fun (o15 : Ob) => (WM tA q o15)) (WM_ar11 _) (fun o15 => ?_)
          refine y_aload_n (pc := 65) F dX11_darken_65 rfl ?_
          refine y_get (pc := 66) F dX11_darken_66 kF_X11_44 0 WM_at0 rfl ?_
          refine y_iload_n (pc := 69) F dX11_darken_69 rfl ?_
          refine y_aload_n (pc := 70) F dX11_darken_70 rfl ?_
          refine y_get (pc := 71) F dX11_darken_71 kF_X11_223 0 WM_at0 rfl ?_
          refine y_iast (pc := 74) F dX11_darken_74 12 WM_at12 (fun (o16 : Ob) => (WM tA q o16)) (WM_ar12 _) (fun o16 => ?_)
          exact hK75 o16
        · exact hK75 r12
      · exact hK75 r12
set_option maxHeartbeats 4000000 in
set_option maxRecDepth 100000 in
theorem c_X11_darken {q : Nat → Nat} (o : Ob) : zCv l D tA yX11_darken cX11_darken 2 rmX11_darken [.ref (q 0)] (WM tA q o) (fun (r : Ob) => (WM tA q r)) (pX11_darken o) := by
  refine zCv_of (lv0 := [some (.ref (q 0)), none]) (by decide +kernel) (Nat.le_of_ble_eq_true rfl) rfl (fun X out F hr => ?_)
  unfold pX11_darken
  refine y_iconst (v := 0) (pc := 0) F dX11_darken_0 rfl ?_
  refine y_istore_n (lv' := [some (.ref (q 0)), some (.int (0 : Int32))]) (pc := 1) F dX11_darken_1 (Nat.le_of_ble_eq_true rfl) rfl rfl ?_
  refine y_jn (fun (K81 : Ob → Option Ob) => ∀ (o1 : Ob), zY X D out (K81 o1) (WM tA q o1) 81 [some (.ref (q 0)), none] []) ?_ ?_
  · intro o1
    refine y_iconst (v := 0) (pc := 81) F dX11_darken_81 rfl ?_
    refine y_istore_n (lv' := [some (.ref (q 0)), some (.int (0 : Int32))]) (pc := 82) F dX11_darken_82 (Nat.le_of_ble_eq_true rfl) rfl rfl ?_
    refine y_jn (fun (K102 : Ob → Option Ob) => ∀ (o2 : Ob), zY X D out (K102 o2) (WM tA q o2) 102 [some (.ref (q 0)), none] []) ?_ ?_
    · intro o2
      refine y_aload_n (pc := 102) F dX11_darken_102 rfl ?_
      refine y_dup (pc := 103) F dX11_darken_103 rfl ?_
      refine y_get (pc := 104) F dX11_darken_104 kF_X11_223 0 WM_at0 rfl ?_
      refine y_iconst (v := 1) (pc := 107) F dX11_darken_107 rfl ?_
      refine y_iadd (pc := 108) F dX11_darken_108 ?_
      refine y_put (pc := 109) F dX11_darken_109 kF_X11_223 0 WM_at0 rfl rfl rfl (Nat.le_of_ble_eq_true rfl) (fun (o3 : Ob) => (WM tA q o3)) (WM_pt0_13 _) (fun o3 => ?_)
      refine y_aload_n (pc := 112) F dX11_darken_112 rfl ?_
      refine y_iconst (v := 0) (pc := 113) F dX11_darken_113 rfl ?_
      refine y_put (pc := 114) F dX11_darken_114 kF_X11_226 0 WM_at0 rfl rfl rfl (Nat.le_of_ble_eq_true rfl) (fun (o4 : Ob) => (WM tA q o4)) (WM_pt0_14 _) (fun o4 => ?_)
      exact y_vret hr dX11_darken_117 rfl
    intro K102 hK102
    exact wlX11_darken_83 q F hr hK102 zfu (0 : Int32) o1
  intro K81 hK81
  exact wlX11_darken_2 q F hr hK81 zfu (0 : Int32) o
abbrev rmX11_dusk : Room := { frames := 3, cells := 0, slots := 0, locals := 63 }
def lX11_dusk_17 (a1 : Int32) : Nat → Int32 → Ob → Option (Int32 × Ob)
  | 0, _, _ => none
  | f + 1, x2, o3 =>
    if a1 ≤ x2 then (some ((gi o3 13), o3))
    else (if (399 : Int32) ≤ (gi o3 13) then (some ((gi o3 13), o3))
    else (Option.bind (pX11_darken o3) fun (r4 : Ob) =>
    zlet (x2 + (1 : Int32)) fun (x5 : Int32) =>
    lX11_dusk_17 a1 f x5 r4))
def pX11_dusk (o : Ob) (a1 : Int32) : Option (Int32 × Ob) :=
  Option.bind (pX11_in (a1.toInt64) (1 : Int64) (400 : Int64)) fun (r1 : Int32) =>
  if r1 = 0 then (some ((-1000000002 : Int32), o))
  else (lX11_dusk_17 a1 zfu (0 : Int32) o)
set_option maxHeartbeats 4000000 in
set_option maxRecDepth 100000 in
theorem wlX11_dusk_17 {X : ZX} {out : (Int32 × Ob)} (q : Nat → Nat) (a1 : Int32) (F : zF l D tA RX11 cX11_dusk 3 rmX11_dusk X) (hr : zRi X D cX11_dusk .int (fun (r : Int32 × Ob) => (r.1)) (fun (r : Int32 × Ob) => (WM tA q (r.2))) out) : ∀ (f : Nat) (x2 : Int32) (o3 : Ob), zY X D out (lX11_dusk_17 a1 f x2 o3) (WM tA q o3) 17 [some (.ref (q 0)), some (.int a1), some (.int x2)] [] := by
  intro f
  induction f with
  | zero =>
    intro x2 o3
    exact y_none
  | succ f ih =>
    intro x2 o3
    rw [lX11_dusk_17.eq_2]
    refine y_iload_n (pc := 17) F dX11_dusk_17 rfl ?_
    refine y_iload_n (pc := 18) F dX11_dusk_18 rfl ?_
    refine y_icmp_ge (pc := 19) (tgt := 42) F dX11_dusk_19 rfl ?_ ?_
    · refine y_aload_n (pc := 42) F dX11_dusk_42 rfl ?_
      refine y_get (pc := 43) F dX11_dusk_43 kF_X11_223 0 WM_at0 rfl ?_
      exact y_iret hr dX11_dusk_46 rfl rfl
    · refine y_aload_n (pc := 22) F dX11_dusk_22 rfl ?_
      refine y_get (pc := 23) F dX11_dusk_23 kF_X11_223 0 WM_at0 rfl ?_
      refine y_sipush (v := 399) (pc := 26) F dX11_dusk_26 rfl ?_
      refine y_icmp_ge (pc := 29) (tgt := 42) F dX11_dusk_29 rfl ?_ ?_
      · refine y_aload_n (pc := 42) F dX11_dusk_42 rfl ?_
        refine y_get (pc := 43) F dX11_dusk_43 kF_X11_223 0 WM_at0 rfl ?_
        exact y_iret hr dX11_dusk_46 rfl rfl
      · refine y_aload_n (pc := 32) F dX11_dusk_32 rfl ?_
        refine y_callvW (As := []) (st := []) (q0 := 0) (pc := 33) F (c_X11_darken (q := q) o3) dX11_dusk_33 kM_X11_283 ⟨rfl, rfl⟩ ⟨Nat.le_of_ble_eq_true rfl, Nat.le_of_ble_eq_true rfl⟩ rfl rfl rfl (Nat.le_of_ble_eq_true rfl) rfl rfl WM_at0 (fun r4 => ?_)
        refine y_iinc (v := 1) (lf := fun (x5 : Int32) => [some (.ref (q 0)), some (.int a1), some (.int x5)]) (pc := 36) F dX11_dusk_36 rfl rfl rfl (fun _ => rfl) (fun x5 => ?_)
        refine y_goto (tgt := 17) (pc := 39) F dX11_dusk_39 rfl ?_
        exact ih x5 r4
set_option maxHeartbeats 4000000 in
set_option maxRecDepth 100000 in
theorem c_X11_dusk {q : Nat → Nat} (o : Ob) (a1 : Int32) : zCi l D tA yX11_dusk cX11_dusk 3 .int rmX11_dusk [.ref (q 0), .int a1] (WM tA q o) (fun (r : Int32 × Ob) => (r.1)) (fun (r : Int32 × Ob) => (WM tA q (r.2))) (pX11_dusk o a1) := by
  refine zCi_of (lv0 := [some (.ref (q 0)), some (.int a1), none]) (by decide +kernel) (Nat.le_of_ble_eq_true rfl) rfl (fun X out F hr => ?_)
  unfold pX11_dusk
  refine y_iload_n (pc := 0) F dX11_dusk_0 rfl ?_
  refine y_i2l (pc := 1) F dX11_dusk_1 ?_
  refine y_lconst (v := 1) (pc := 2) F dX11_dusk_2 rfl ?_
  refine y_ldc2 (pc := 3) F dX11_dusk_3 kC_X11_281 ?_
  refine y_scalliP (As := [.long (a1.toInt64), .long (1 : Int64), .long (400 : Int64)]) (st := []) (pc := 6) F (c_X11_in (q := q) (a1.toInt64) (1 : Int64) (400 : Int64)) dX11_dusk_6 kM_X11_127 ⟨rfl, rfl⟩ ⟨Nat.le_of_ble_eq_true rfl, Nat.le_of_ble_eq_true rfl⟩ rfl rfl rfl (Nat.le_of_ble_eq_true rfl) (fun r1 => ?_)
  refine y_if_ne (pc := 9) (tgt := 15) F dX11_dusk_9 rfl ?_ ?_
  · refine y_ldc (pc := 12) F dX11_dusk_12 kC_X11_136 ?_
    exact y_iret hr dX11_dusk_14 rfl rfl
  · refine y_iconst (v := 0) (pc := 15) F dX11_dusk_15 rfl ?_
    refine y_istore_n (lv' := [some (.ref (q 0)), some (.int a1), some (.int (0 : Int32))]) (pc := 16) F dX11_dusk_16 (Nat.le_of_ble_eq_true rfl) rfl rfl ?_
    exact wlX11_dusk_17 q a1 F hr zfu (0 : Int32) o
abbrev rmX11_draw : Room := { frames := 0, cells := 0, slots := 0, locals := 0 }
def pX11_draw (o : Ob) (a1 : Int32) : Option (Int32 × Ob) :=
  znl (2147483648 : Int64) <| zlet (si o 20 ((((((gi o 20).toInt64) * (1103515245 : Int64)) + (12345 : Int64)) - ((((gi o 20).toInt64) * (1103515245 : Int64)) + (12345 : Int64)) / (2147483648 : Int64) * (2147483648 : Int64)).toInt32)) fun (o1 : Ob) =>
  znz (65536 : Int32) <| znz a1 <| some ((((gi o1 20) / (65536 : Int32)) - ((gi o1 20) / (65536 : Int32)) / a1 * a1), o1)
set_option maxHeartbeats 4000000 in
set_option maxRecDepth 100000 in
theorem c_X11_draw {q : Nat → Nat} (o : Ob) (a1 : Int32) : zCi l D tA yX11_draw cX11_draw 2 .int rmX11_draw [.ref (q 0), .int a1] (WM tA q o) (fun (r : Int32 × Ob) => (r.1)) (fun (r : Int32 × Ob) => (WM tA q (r.2))) (pX11_draw o a1) := by
  refine zCi_of (lv0 := [some (.ref (q 0)), some (.int a1)]) (by decide +kernel) (Nat.le_of_ble_eq_true rfl) rfl (fun X out F hr => ?_)
  unfold pX11_draw
  refine y_aload_n (pc := 0) F dX11_draw_0 rfl ?_
  refine y_aload_n (pc := 1) F dX11_draw_1 rfl ?_
  refine y_get (pc := 2) F dX11_draw_2 kF_X11_286 0 WM_at0 rfl ?_
  refine y_i2l (pc := 5) F dX11_draw_5 ?_
  refine y_ldc2 (pc := 6) F dX11_draw_6 kC_X11_289 ?_
  refine y_lmul (pc := 9) F dX11_draw_9 ?_
  refine y_ldc2 (pc := 10) F dX11_draw_10 kC_X11_291 ?_
  refine y_ladd (pc := 13) F dX11_draw_13 ?_
  refine y_ldc2 (pc := 14) F dX11_draw_14 kC_X11_293 ?_
  refine y_lrem (pc := 17) F dX11_draw_17 ?_
  refine y_l2i (pc := 18) F dX11_draw_18 ?_
  refine y_put (pc := 19) F dX11_draw_19 kF_X11_286 0 WM_at0 rfl rfl rfl (Nat.le_of_ble_eq_true rfl) (fun (o1 : Ob) => (WM tA q o1)) (WM_pt0_20 _) (fun o1 => ?_)
  refine y_aload_n (pc := 22) F dX11_draw_22 rfl ?_
  refine y_get (pc := 23) F dX11_draw_23 kF_X11_286 0 WM_at0 rfl ?_
  refine y_ldcw (pc := 26) F dX11_draw_26 kC_X11_295 ?_
  refine y_idiv (pc := 29) F dX11_draw_29 ?_
  refine y_iload_n (pc := 30) F dX11_draw_30 rfl ?_
  refine y_irem (pc := 31) F dX11_draw_31 ?_
  exact y_iret hr dX11_draw_32 rfl rfl
abbrev rmX11_drift : Room := { frames := 3, cells := 0, slots := 0, locals := 68 }
def lX11_drift_51 (a2 : Int32) (K94 : Int32 → Int32 → Ob → Option (Int32 × Ob)) : Nat → Int32 → Int32 → Int32 → Ob → Option (Int32 × Ob)
  | 0, _, _, _, _ => none
  | f + 1, x11, x12, x13, o14 =>
    if (gi o14 4) ≤ x13 then (K94 x11 x12 o14)
    else (Option.bind (pX11_draw o14 (100 : Int32)) fun (r15 : Int32 × Ob) =>
    zjn (fun (x16 : Int32) (o17 : Ob) =>
    zlet (x13 + (1 : Int32)) fun (x18 : Int32) =>
    lX11_drift_51 a2 K94 f x16 x12 x18 o17) fun (K88 : Int32 → Ob → Option (Int32 × Ob)) =>
    if a2 ≤ (r15.1) then (K88 x11 (r15.2))
    else (Option.bind (pX11_mayNow (r15.2) x13) fun (r19 : Int32) =>
    if r19 = 0 then (K88 x11 (r15.2))
    else (Option.bind (pX11_speak (r15.2) x13) fun (r20 : Ob) =>
    zlet (x11 + (1 : Int32)) fun (x21 : Int32) =>
    K88 x21 r20)))
def lX11_drift_32 (a1 : Int32) (a2 : Int32) : Nat → Int32 → Int32 → Ob → Option (Int32 × Ob)
  | 0, _, _, _ => none
  | f + 1, x3, x4, o5 =>
    if a1 ≤ x4 then (some (x3, o5))
    else (if (399 : Int32) ≤ (gi o5 13) then (some (x3, o5))
    else (zjn (fun (x6 : Int32) (x7 : Int32) (o8 : Ob) =>
    Option.bind (pX11_darken o8) fun (r9 : Ob) =>
    zlet (x7 + (1 : Int32)) fun (x10 : Int32) =>
    lX11_drift_32 a1 a2 f x6 x10 r9) fun (K94 : Int32 → Int32 → Ob → Option (Int32 × Ob)) =>
    lX11_drift_51 a2 K94 zfu x3 x4 (0 : Int32) o5))
def pX11_drift (o : Ob) (a1 : Int32) (a2 : Int32) : Option (Int32 × Ob) :=
  Option.bind (pX11_in (a1.toInt64) (1 : Int64) (60 : Int64)) fun (r1 : Int32) =>
  if r1 = 0 then (some ((-1000000002 : Int32), o))
  else (Option.bind (pX11_in (a2.toInt64) (0 : Int64) (100 : Int64)) fun (r2 : Int32) =>
  if r2 = 0 then (some ((-1000000002 : Int32), o))
  else (lX11_drift_32 a1 a2 zfu (0 : Int32) (0 : Int32) o))
set_option maxHeartbeats 4000000 in
set_option maxRecDepth 100000 in
theorem wlX11_drift_51 {X : ZX} {out : (Int32 × Ob)} (q : Nat → Nat) (a1 : Int32) (a2 : Int32) (F : zF l D tA RX11 cX11_drift 6 rmX11_drift X) (hr : zRi X D cX11_drift .int (fun (r : Int32 × Ob) => (r.1)) (fun (r : Int32 × Ob) => (WM tA q (r.2))) out) {K94 : Int32 → Int32 → Ob → Option (Int32 × Ob)} (hK94 : ∀ (x6 : Int32) (x7 : Int32) (o8 : Ob), zY X D out (K94 x6 x7 o8) (WM tA q o8) 94 [some (.ref (q 0)), some (.int a1), some (.int a2), some (.int x6), some (.int x7), none] []) : ∀ (f : Nat) (x11 : Int32) (x12 : Int32) (x13 : Int32) (o14 : Ob), zY X D out (lX11_drift_51 a2 K94 f x11 x12 x13 o14) (WM tA q o14) 51 [some (.ref (q 0)), some (.int a1), some (.int a2), some (.int x11), some (.int x12), some (.int x13)] [] := by
  intro f
  induction f with
  | zero =>
    intro x11 x12 x13 o14
    exact y_none
  | succ f ih =>
    intro x11 x12 x13 o14
    rw [lX11_drift_51.eq_2]
    refine y_iload (pc := 51) F dX11_drift_51 rfl ?_
    refine y_aload_n (pc := 53) F dX11_drift_53 rfl ?_
    refine y_get (pc := 54) F dX11_drift_54 kF_X11_131 0 WM_at0 rfl ?_
    refine y_icmp_ge (pc := 57) (tgt := 94) F dX11_drift_57 rfl ?_ ?_
    · refine y_le (lv' := [some (.ref (q 0)), some (.int a1), some (.int a2), some (.int x11), some (.int x12), none]) ⟨rfl, ⟨rfl, ⟨rfl, ⟨rfl, ⟨rfl, trivial⟩⟩⟩⟩⟩ ?_
      exact hK94 x11 x12 o14
    · refine y_aload_n (pc := 60) F dX11_drift_60 rfl ?_
      refine y_bipush (v := 100) (pc := 61) F dX11_drift_61 rfl ?_
      refine y_calliW (As := [.int (100 : Int32)]) (st := []) (q0 := 0) (pc := 63) F (c_X11_draw (q := q) o14 (100 : Int32)) dX11_drift_63 kM_X11_300 ⟨rfl, rfl⟩ ⟨Nat.le_of_ble_eq_true rfl, Nat.le_of_ble_eq_true rfl⟩ rfl rfl rfl (Nat.le_of_ble_eq_true rfl) rfl rfl WM_at0 (fun r15 => ?_)
      refine y_iload_n (pc := 66) F dX11_drift_66 rfl ?_
      refine y_jn (fun (K88 : Int32 → Ob → Option (Int32 × Ob)) => ∀ (x16 : Int32) (o17 : Ob), zY X D out (K88 x16 o17) (WM tA q o17) 88 [some (.ref (q 0)), some (.int a1), some (.int a2), some (.int x16), some (.int x12), some (.int x13)] []) ?_ ?_
      · intro x16 o17
        refine y_iinc (v := 1) (lf := fun (x18 : Int32) => [some (.ref (q 0)), some (.int a1), some (.int a2), some (.int x16), some (.int x12), some (.int x18)]) (pc := 88) F dX11_drift_88 rfl rfl rfl (fun _ => rfl) (fun x18 => ?_)
        refine y_goto (tgt := 51) (pc := 91) F dX11_drift_91 rfl ?_
        exact ih x16 x12 x18 o17
      intro K88 hK88
      refine y_icmp_ge (pc := 67) (tgt := 88) F dX11_drift_67 rfl ?_ ?_
      · exact hK88 x11 (r15.2)
      · refine y_aload_n (pc := 70) F dX11_drift_70 rfl ?_
        refine y_iload (pc := 71) F dX11_drift_71 rfl ?_
        refine y_calliW (As := [.int x13]) (st := []) (q0 := 0) (pc := 73) F (c_X11_mayNow (q := q) (r15.2) x13) dX11_drift_73 kM_X11_263 ⟨rfl, rfl⟩ ⟨Nat.le_of_ble_eq_true rfl, Nat.le_of_ble_eq_true rfl⟩ rfl rfl rfl (Nat.le_of_ble_eq_true rfl) rfl rfl WM_at0 (fun r19 => ?_)
        refine y_if_eq (pc := 76) (tgt := 88) F dX11_drift_76 rfl ?_ ?_
        · exact hK88 x11 (r15.2)
        · refine y_aload_n (pc := 79) F dX11_drift_79 rfl ?_
          refine y_iload (pc := 80) F dX11_drift_80 rfl ?_
          refine y_callvW (As := [.int x13]) (st := []) (q0 := 0) (pc := 82) F (c_X11_speak (q := q) (r15.2) x13) dX11_drift_82 kM_X11_275 ⟨rfl, rfl⟩ ⟨Nat.le_of_ble_eq_true rfl, Nat.le_of_ble_eq_true rfl⟩ rfl rfl rfl (Nat.le_of_ble_eq_true rfl) rfl rfl WM_at0 (fun r20 => ?_)
          refine y_iinc (v := 1) (lf := fun (x21 : Int32) => [some (.ref (q 0)), some (.int a1), some (.int a2), some (.int x21), some (.int x12), some (.int x13)]) (pc := 85) F dX11_drift_85 rfl rfl rfl (fun _ => rfl) (fun x21 => ?_)
          exact hK88 x21 r20
set_option maxHeartbeats 4000000 in
set_option maxRecDepth 100000 in
theorem wlX11_drift_32 {X : ZX} {out : (Int32 × Ob)} (q : Nat → Nat) (a1 : Int32) (a2 : Int32) (F : zF l D tA RX11 cX11_drift 6 rmX11_drift X) (hr : zRi X D cX11_drift .int (fun (r : Int32 × Ob) => (r.1)) (fun (r : Int32 × Ob) => (WM tA q (r.2))) out) : ∀ (f : Nat) (x3 : Int32) (x4 : Int32) (o5 : Ob), zY X D out (lX11_drift_32 a1 a2 f x3 x4 o5) (WM tA q o5) 32 [some (.ref (q 0)), some (.int a1), some (.int a2), some (.int x3), some (.int x4), none] [] := by
  intro f
  induction f with
  | zero =>
    intro x3 x4 o5
    exact y_none
  | succ f ih =>
    intro x3 x4 o5
    rw [lX11_drift_32.eq_2]
    refine y_iload (pc := 32) F dX11_drift_32 rfl ?_
    refine y_iload_n (pc := 34) F dX11_drift_34 rfl ?_
    refine y_icmp_ge (pc := 35) (tgt := 104) F dX11_drift_35 rfl ?_ ?_
    · refine y_iload_n (pc := 104) F dX11_drift_104 rfl ?_
      exact y_iret hr dX11_drift_105 rfl rfl
    · refine y_aload_n (pc := 38) F dX11_drift_38 rfl ?_
      refine y_get (pc := 39) F dX11_drift_39 kF_X11_223 0 WM_at0 rfl ?_
      refine y_sipush (v := 399) (pc := 42) F dX11_drift_42 rfl ?_
      refine y_icmp_ge (pc := 45) (tgt := 104) F dX11_drift_45 rfl ?_ ?_
      · refine y_iload_n (pc := 104) F dX11_drift_104 rfl ?_
        exact y_iret hr dX11_drift_105 rfl rfl
      · refine y_iconst (v := 0) (pc := 48) F dX11_drift_48 rfl ?_
        refine y_istore (lv' := [some (.ref (q 0)), some (.int a1), some (.int a2), some (.int x3), some (.int x4), some (.int (0 : Int32))]) (pc := 49) F dX11_drift_49 (Nat.le_of_ble_eq_true rfl) rfl rfl ?_
        refine y_jn (fun (K94 : Int32 → Int32 → Ob → Option (Int32 × Ob)) => ∀ (x6 : Int32) (x7 : Int32) (o8 : Ob), zY X D out (K94 x6 x7 o8) (WM tA q o8) 94 [some (.ref (q 0)), some (.int a1), some (.int a2), some (.int x6), some (.int x7), none] []) ?_ ?_
        · intro x6 x7 o8
          refine y_aload_n (pc := 94) F dX11_drift_94 rfl ?_
          refine y_callvW (As := []) (st := []) (q0 := 0) (pc := 95) F (c_X11_darken (q := q) o8) dX11_drift_95 kM_X11_283 ⟨rfl, rfl⟩ ⟨Nat.le_of_ble_eq_true rfl, Nat.le_of_ble_eq_true rfl⟩ rfl rfl rfl (Nat.le_of_ble_eq_true rfl) rfl rfl WM_at0 (fun r9 => ?_)
          refine y_iinc (v := 1) (lf := fun (x10 : Int32) => [some (.ref (q 0)), some (.int a1), some (.int a2), some (.int x6), some (.int x10), none]) (pc := 98) F dX11_drift_98 rfl rfl rfl (fun _ => rfl) (fun x10 => ?_)
          refine y_goto (tgt := 32) (pc := 101) F dX11_drift_101 rfl ?_
          exact ih x6 x10 r9
        intro K94 hK94
        exact wlX11_drift_51 q a1 a2 F hr hK94 zfu x3 x4 (0 : Int32) o5
set_option maxHeartbeats 4000000 in
set_option maxRecDepth 100000 in
theorem c_X11_drift {q : Nat → Nat} (o : Ob) (a1 : Int32) (a2 : Int32) : zCi l D tA yX11_drift cX11_drift 6 .int rmX11_drift [.ref (q 0), .int a1, .int a2] (WM tA q o) (fun (r : Int32 × Ob) => (r.1)) (fun (r : Int32 × Ob) => (WM tA q (r.2))) (pX11_drift o a1 a2) := by
  refine zCi_of (lv0 := [some (.ref (q 0)), some (.int a1), some (.int a2), none, none, none]) (by decide +kernel) (Nat.le_of_ble_eq_true rfl) rfl (fun X out F hr => ?_)
  unfold pX11_drift
  refine y_iload_n (pc := 0) F dX11_drift_0 rfl ?_
  refine y_i2l (pc := 1) F dX11_drift_1 ?_
  refine y_lconst (v := 1) (pc := 2) F dX11_drift_2 rfl ?_
  refine y_ldc2 (pc := 3) F dX11_drift_3 kC_X11_296 ?_
  refine y_scalliP (As := [.long (a1.toInt64), .long (1 : Int64), .long (60 : Int64)]) (st := []) (pc := 6) F (c_X11_in (q := q) (a1.toInt64) (1 : Int64) (60 : Int64)) dX11_drift_6 kM_X11_127 ⟨rfl, rfl⟩ ⟨Nat.le_of_ble_eq_true rfl, Nat.le_of_ble_eq_true rfl⟩ rfl rfl rfl (Nat.le_of_ble_eq_true rfl) (fun r1 => ?_)
  refine y_if_eq (pc := 9) (tgt := 24) F dX11_drift_9 rfl ?_ ?_
  · refine y_ldc (pc := 24) F dX11_drift_24 kC_X11_136 ?_
    exact y_iret hr dX11_drift_26 rfl rfl
  · refine y_iload_n (pc := 12) F dX11_drift_12 rfl ?_
    refine y_i2l (pc := 13) F dX11_drift_13 ?_
    refine y_lconst (v := 0) (pc := 14) F dX11_drift_14 rfl ?_
    refine y_ldc2 (pc := 15) F dX11_drift_15 kC_X11_298 ?_
    refine y_scalliP (As := [.long (a2.toInt64), .long (0 : Int64), .long (100 : Int64)]) (st := []) (pc := 18) F (c_X11_in (q := q) (a2.toInt64) (0 : Int64) (100 : Int64)) dX11_drift_18 kM_X11_127 ⟨rfl, rfl⟩ ⟨Nat.le_of_ble_eq_true rfl, Nat.le_of_ble_eq_true rfl⟩ rfl rfl rfl (Nat.le_of_ble_eq_true rfl) (fun r2 => ?_)
    refine y_if_ne (pc := 21) (tgt := 27) F dX11_drift_21 rfl ?_ ?_
    · refine y_ldc (pc := 24) F dX11_drift_24 kC_X11_136 ?_
      exact y_iret hr dX11_drift_26 rfl rfl
    · refine y_iconst (v := 0) (pc := 27) F dX11_drift_27 rfl ?_
      refine y_istore_n (lv' := [some (.ref (q 0)), some (.int a1), some (.int a2), some (.int (0 : Int32)), none, none]) (pc := 28) F dX11_drift_28 (Nat.le_of_ble_eq_true rfl) rfl rfl ?_
      refine y_iconst (v := 0) (pc := 29) F dX11_drift_29 rfl ?_
      refine y_istore (lv' := [some (.ref (q 0)), some (.int a1), some (.int a2), some (.int (0 : Int32)), some (.int (0 : Int32)), none]) (pc := 30) F dX11_drift_30 (Nat.le_of_ble_eq_true rfl) rfl rfl ?_
      exact wlX11_drift_32 q a1 a2 F hr zfu (0 : Int32) (0 : Int32) o
abbrev rmX11_begin : Room := { frames := 1, cells := 0, slots := 0, locals := 21 }
def pX11_begin (o : Ob) : Option (Int32 × Ob) :=
  zlet ((gi o 13)) fun (x1 : Int32) =>
  Option.bind (pX11_anew o) fun (r2 : Ob) =>
  some (x1, r2)
set_option maxHeartbeats 4000000 in
set_option maxRecDepth 100000 in
theorem c_X11_begin {q : Nat → Nat} (o : Ob) : zCi l D tA yX11_begin cX11_begin 2 .int rmX11_begin [.ref (q 0)] (WM tA q o) (fun (r : Int32 × Ob) => (r.1)) (fun (r : Int32 × Ob) => (WM tA q (r.2))) (pX11_begin o) := by
  refine zCi_of (lv0 := [some (.ref (q 0)), none]) (by decide +kernel) (Nat.le_of_ble_eq_true rfl) rfl (fun X out F hr => ?_)
  unfold pX11_begin
  refine y_aload_n (pc := 0) F dX11_begin_0 rfl ?_
  refine y_get (pc := 1) F dX11_begin_1 kF_X11_223 0 WM_at0 rfl ?_
  refine y_lti (fun x1 => ?_)
  refine y_istore_n (lv' := [some (.ref (q 0)), some (.int x1)]) (pc := 4) F dX11_begin_4 (Nat.le_of_ble_eq_true rfl) rfl rfl ?_
  refine y_aload_n (pc := 5) F dX11_begin_5 rfl ?_
  refine y_callvW (As := []) (st := []) (q0 := 0) (pc := 6) F (c_X11_anew (q := q) o) dX11_begin_6 kM_X11_220 ⟨rfl, rfl⟩ ⟨Nat.le_of_ble_eq_true rfl, Nat.le_of_ble_eq_true rfl⟩ rfl rfl rfl (Nat.le_of_ble_eq_true rfl) rfl rfl WM_at0 (fun r2 => ?_)
  refine y_iload_n (pc := 9) F dX11_begin_9 rfl ?_
  exact y_iret hr dX11_begin_10 rfl rfl
abbrev rmX11_listOwn : Room := { frames := 0, cells := 0, slots := 0, locals := 0 }
def lX11_listOwn_7 (a1 : Int32) : Nat → Int32 → Ob → Option Ob
  | 0, _, _ => none
  | f + 1, x2, o3 =>
    if (gi o3 4) ≤ x2 then (some o3)
    else (zgd x2 12 <| zjn (fun (o4 : Ob) =>
    zlet (x2 + (1 : Int32)) fun (x5 : Int32) =>
    lX11_listOwn_7 a1 f x5 o4) fun (K45 : Ob → Option Ob) =>
    if (ga o3 5 (x2.toNatClampNeg)) = a1 then (zgd (gi o3 40) 6 <| zlet (sa o3 39 (upd (ga o3 39) ((gi o3 40).toNatClampNeg) x2)) fun (o6 : Ob) =>
    zlet (si o6 40 ((gi o6 40) + (1 : Int32))) fun (o7 : Ob) =>
    K45 o7)
    else (K45 o3))
def pX11_listOwn (o : Ob) (a1 : Int32) : Option Ob :=
  zlet (si o 40 (0 : Int32)) fun (o1 : Ob) =>
  lX11_listOwn_7 a1 zfu (0 : Int32) o1
set_option maxHeartbeats 4000000 in
set_option maxRecDepth 100000 in
theorem wlX11_listOwn_7 {X : ZX} {out : Ob} (q : Nat → Nat) (a1 : Int32) (F : zF l D tA RX11 cX11_listOwn 3 rmX11_listOwn X) (hr : zRv X D cX11_listOwn (fun (r : Ob) => (WM tA q r)) out) : ∀ (f : Nat) (x2 : Int32) (o3 : Ob), zY X D out (lX11_listOwn_7 a1 f x2 o3) (WM tA q o3) 7 [some (.ref (q 0)), some (.int a1), some (.int x2)] [] := by
  intro f
  induction f with
  | zero =>
    intro x2 o3
    exact y_none
  | succ f ih =>
    intro x2 o3
    rw [lX11_listOwn_7.eq_2]
    refine y_iload_n (pc := 7) F dX11_listOwn_7 rfl ?_
    refine y_aload_n (pc := 8) F dX11_listOwn_8 rfl ?_
    refine y_get (pc := 9) F dX11_listOwn_9 kF_X11_131 0 WM_at0 rfl ?_
    refine y_icmp_ge (pc := 12) (tgt := 51) F dX11_listOwn_12 rfl ?_ ?_
    · exact y_vret hr dX11_listOwn_51 rfl
    · refine y_aload_n (pc := 15) F dX11_listOwn_15 rfl ?_
      refine y_get (pc := 16) F dX11_listOwn_16 kF_X11_19 0 WM_at0 rfl ?_
      refine y_iload_n (pc := 19) F dX11_listOwn_19 rfl ?_
      refine y_iald (pc := 20) F dX11_listOwn_20 4 WM_at4 ?_
      refine y_iload_n (pc := 21) F dX11_listOwn_21 rfl ?_
      refine y_jn (fun (K45 : Ob → Option Ob) => ∀ (o4 : Ob), zY X D out (K45 o4) (WM tA q o4) 45 [some (.ref (q 0)), some (.int a1), some (.int x2)] []) ?_ ?_
      · intro o4
        refine y_iinc (v := 1) (lf := fun (x5 : Int32) => [some (.ref (q 0)), some (.int a1), some (.int x5)]) (pc := 45) F dX11_listOwn_45 rfl rfl rfl (fun _ => rfl) (fun x5 => ?_)
        refine y_goto (tgt := 7) (pc := 48) F dX11_listOwn_48 rfl ?_
        exact ih x5 o4
      intro K45 hK45
      refine y_icmp_ne (pc := 22) (tgt := 45) F dX11_listOwn_22 rfl ?_ ?_
      · refine y_aload_n (pc := 25) F dX11_listOwn_25 rfl ?_
        refine y_get (pc := 26) F dX11_listOwn_26 kF_X11_84 0 WM_at0 rfl ?_
        refine y_aload_n (pc := 29) F dX11_listOwn_29 rfl ?_
        refine y_get (pc := 30) F dX11_listOwn_30 kF_X11_303 0 WM_at0 rfl ?_
        refine y_iload_n (pc := 33) F dX11_listOwn_33 rfl ?_
        refine y_iast (pc := 34) F dX11_listOwn_34 24 WM_at24 (fun (o6 : Ob) => (WM tA q o6)) (WM_ar24 _) (fun o6 => ?_)
        refine y_aload_n (pc := 35) F dX11_listOwn_35 rfl ?_
        refine y_dup (pc := 36) F dX11_listOwn_36 rfl ?_
        refine y_get (pc := 37) F dX11_listOwn_37 kF_X11_303 0 WM_at0 rfl ?_
        refine y_iconst (v := 1) (pc := 40) F dX11_listOwn_40 rfl ?_
        refine y_iadd (pc := 41) F dX11_listOwn_41 ?_
        refine y_put (pc := 42) F dX11_listOwn_42 kF_X11_303 0 WM_at0 rfl rfl rfl (Nat.le_of_ble_eq_true rfl) (fun (o7 : Ob) => (WM tA q o7)) (WM_pt0_40 _) (fun o7 => ?_)
        exact hK45 o7
      · exact hK45 o3
set_option maxHeartbeats 4000000 in
set_option maxRecDepth 100000 in
theorem c_X11_listOwn {q : Nat → Nat} (o : Ob) (a1 : Int32) : zCv l D tA yX11_listOwn cX11_listOwn 3 rmX11_listOwn [.ref (q 0), .int a1] (WM tA q o) (fun (r : Ob) => (WM tA q r)) (pX11_listOwn o a1) := by
  refine zCv_of (lv0 := [some (.ref (q 0)), some (.int a1), none]) (by decide +kernel) (Nat.le_of_ble_eq_true rfl) rfl (fun X out F hr => ?_)
  unfold pX11_listOwn
  refine y_aload_n (pc := 0) F dX11_listOwn_0 rfl ?_
  refine y_iconst (v := 0) (pc := 1) F dX11_listOwn_1 rfl ?_
  refine y_put (pc := 2) F dX11_listOwn_2 kF_X11_303 0 WM_at0 rfl rfl rfl (Nat.le_of_ble_eq_true rfl) (fun (o1 : Ob) => (WM tA q o1)) (WM_pt0_40 _) (fun o1 => ?_)
  refine y_iconst (v := 0) (pc := 5) F dX11_listOwn_5 rfl ?_
  refine y_istore_n (lv' := [some (.ref (q 0)), some (.int a1), some (.int (0 : Int32))]) (pc := 6) F dX11_listOwn_6 (Nat.le_of_ble_eq_true rfl) rfl rfl ?_
  exact wlX11_listOwn_7 q a1 F hr zfu (0 : Int32) o1
abbrev rmX11_mayCall : Room := { frames := 2, cells := 0, slots := 0, locals := 47 }
def pX11_mayCall (o : Ob) (a1 : Int32) (a2 : Int32) : Option Int32 :=
  zgd a1 6 <| Option.bind (pX11_mayOn o (ga o 39 (a1.toNatClampNeg)) ((gi o 13) + a2)) fun (r1 : Int32) =>
  if r1 = 0 then (zgz (0 : Int32) (some (0 : Int32)))
  else (zgd a1 6 <| zjn (zgz (1 : Int32) (some (1 : Int32))) fun (K38 : Option Int32) =>
  if (ga o 41 (a1.toNatClampNeg)) < 0 then (K38)
  else (zgd a1 6 <| if (ga o 41 (a1.toNatClampNeg)) = a2 then (K38)
  else (zgz (0 : Int32) (some (0 : Int32)))))
set_option maxHeartbeats 4000000 in
set_option maxRecDepth 100000 in
theorem c_X11_mayCall {q : Nat → Nat} (o : Ob) (a1 : Int32) (a2 : Int32) : zCi l D tA yX11_mayCall cX11_mayCall 3 .boolean rmX11_mayCall [.ref (q 0), .int a1, .int a2] (WM tA q o) (fun (r : Int32) => r) (fun (r : Int32) => (WM tA q o)) (pX11_mayCall o a1 a2) := by
  refine zCi_of (lv0 := [some (.ref (q 0)), some (.int a1), some (.int a2)]) (by decide +kernel) (Nat.le_of_ble_eq_true rfl) rfl (fun X out F hr => ?_)
  unfold pX11_mayCall
  refine y_aload_n (pc := 0) F dX11_mayCall_0 rfl ?_
  refine y_aload_n (pc := 1) F dX11_mayCall_1 rfl ?_
  refine y_get (pc := 2) F dX11_mayCall_2 kF_X11_84 0 WM_at0 rfl ?_
  refine y_iload_n (pc := 5) F dX11_mayCall_5 rfl ?_
  refine y_iald (pc := 6) F dX11_mayCall_6 24 WM_at24 ?_
  refine y_aload_n (pc := 7) F dX11_mayCall_7 rfl ?_
  refine y_get (pc := 8) F dX11_mayCall_8 kF_X11_223 0 WM_at0 rfl ?_
  refine y_iload_n (pc := 11) F dX11_mayCall_11 rfl ?_
  refine y_iadd (pc := 12) F dX11_mayCall_12 ?_
  refine y_calliW (As := [.int (ga o 39 (a1.toNatClampNeg)), .int ((gi o 13) + a2)]) (st := []) (q0 := 0) (pc := 13) F (c_X11_mayOn (q := q) o (ga o 39 (a1.toNatClampNeg)) ((gi o 13) + a2)) dX11_mayCall_13 kM_X11_253 ⟨rfl, rfl⟩ ⟨Nat.le_of_ble_eq_true rfl, Nat.le_of_ble_eq_true rfl⟩ rfl rfl rfl (Nat.le_of_ble_eq_true rfl) rfl rfl WM_at0 (fun r1 => ?_)
  refine y_if_eq (pc := 16) (tgt := 42) F dX11_mayCall_16 rfl ?_ ?_
  · refine y_iconst (v := 0) (pc := 42) F dX11_mayCall_42 rfl ?_
    exact y_zret hr dX11_mayCall_43 rfl rfl
  · refine y_aload_n (pc := 19) F dX11_mayCall_19 rfl ?_
    refine y_get (pc := 20) F dX11_mayCall_20 kF_X11_87 0 WM_at0 rfl ?_
    refine y_iload_n (pc := 23) F dX11_mayCall_23 rfl ?_
    refine y_iald (pc := 24) F dX11_mayCall_24 25 WM_at25 ?_
    refine y_jn (fun (K38 : Option Int32) => zY X D out (K38) (WM tA q o) 38 [none, none, none] []) ?_ ?_
    · skip
      refine y_iconst (v := 1) (pc := 38) F dX11_mayCall_38 rfl ?_
      refine y_goto (tgt := 43) (pc := 39) F dX11_mayCall_39 rfl ?_
      exact y_zret hr dX11_mayCall_43 rfl rfl
    intro K38 hK38
    refine y_if_lt (pc := 25) (tgt := 38) F dX11_mayCall_25 rfl ?_ ?_
    · refine y_le (lv' := [none, none, none]) trivial ?_
      exact hK38
    · refine y_aload_n (pc := 28) F dX11_mayCall_28 rfl ?_
      refine y_get (pc := 29) F dX11_mayCall_29 kF_X11_87 0 WM_at0 rfl ?_
      refine y_iload_n (pc := 32) F dX11_mayCall_32 rfl ?_
      refine y_iald (pc := 33) F dX11_mayCall_33 25 WM_at25 ?_
      refine y_iload_n (pc := 34) F dX11_mayCall_34 rfl ?_
      refine y_icmp_ne (pc := 35) (tgt := 42) F dX11_mayCall_35 rfl ?_ ?_
      · refine y_le (lv' := [none, none, none]) trivial ?_
        exact hK38
      · refine y_iconst (v := 0) (pc := 42) F dX11_mayCall_42 rfl ?_
        exact y_zret hr dX11_mayCall_43 rfl rfl
abbrev rmX11_room : Room := { frames := 1, cells := 0, slots := 0, locals := 24 }
def pX11_room (o : Ob) (a1 : Int32) : Option Int32 :=
  Option.bind (pX11_lawOf o ((gi o 13) + a1) (3 : Int32)) fun (r1 : Int32) =>
  zjn (fun (x2 : Int32) =>
  zlet ((r1 - x2)) fun (x3 : Int32) =>
  if 0 ≤ x3 then (some x3)
  else (some (0 : Int32))) fun (K23 : Int32 → Option Int32) =>
  if a1 = 0 then (K23 ((gi o 14)))
  else (K23 (0 : Int32))
set_option maxHeartbeats 4000000 in
set_option maxRecDepth 100000 in
theorem c_X11_room {q : Nat → Nat} (o : Ob) (a1 : Int32) : zCi l D tA yX11_room cX11_room 3 .int rmX11_room [.ref (q 0), .int a1] (WM tA q o) (fun (r : Int32) => r) (fun (r : Int32) => (WM tA q o)) (pX11_room o a1) := by
  refine zCi_of (lv0 := [some (.ref (q 0)), some (.int a1), none]) (by decide +kernel) (Nat.le_of_ble_eq_true rfl) rfl (fun X out F hr => ?_)
  unfold pX11_room
  refine y_aload_n (pc := 0) F dX11_room_0 rfl ?_
  refine y_aload_n (pc := 1) F dX11_room_1 rfl ?_
  refine y_get (pc := 2) F dX11_room_2 kF_X11_223 0 WM_at0 rfl ?_
  refine y_iload_n (pc := 5) F dX11_room_5 rfl ?_
  refine y_iadd (pc := 6) F dX11_room_6 ?_
  refine y_iconst (v := 3) (pc := 7) F dX11_room_7 rfl ?_
  refine y_calliW (As := [.int ((gi o 13) + a1), .int (3 : Int32)]) (st := []) (q0 := 0) (pc := 8) F (c_X11_lawOf (q := q) o ((gi o 13) + a1) (3 : Int32)) dX11_room_8 kM_X11_241 ⟨rfl, rfl⟩ ⟨Nat.le_of_ble_eq_true rfl, Nat.le_of_ble_eq_true rfl⟩ rfl rfl rfl (Nat.le_of_ble_eq_true rfl) rfl rfl WM_at0 (fun r1 => ?_)
  refine y_iload_n (pc := 11) F dX11_room_11 rfl ?_
  refine y_jn (fun (K23 : Int32 → Option Int32) => ∀ (x2 : Int32), zY X D out (K23 x2) (WM tA q o) 23 [none, none, none] [.int x2, .int r1]) ?_ ?_
  · intro x2
    refine y_isub (pc := 23) F dX11_room_23 ?_
    refine y_lti (fun x3 => ?_)
    refine y_istore_n (lv' := [none, none, some (.int x3)]) (pc := 24) F dX11_room_24 (Nat.le_of_ble_eq_true rfl) rfl rfl ?_
    refine y_iload_n (pc := 25) F dX11_room_25 rfl ?_
    refine y_if_ge (pc := 26) (tgt := 33) F dX11_room_26 rfl ?_ ?_
    · refine y_iload_n (pc := 33) F dX11_room_33 rfl ?_
      exact y_iret hr dX11_room_34 rfl rfl
    · refine y_iconst (v := 0) (pc := 29) F dX11_room_29 rfl ?_
      refine y_goto (tgt := 34) (pc := 30) F dX11_room_30 rfl ?_
      exact y_iret hr dX11_room_34 rfl rfl
  intro K23 hK23
  refine y_if_ne (pc := 12) (tgt := 22) F dX11_room_12 rfl ?_ ?_
  · refine y_aload_n (pc := 15) F dX11_room_15 rfl ?_
    refine y_get (pc := 16) F dX11_room_16 kF_X11_226 0 WM_at0 rfl ?_
    refine y_goto (tgt := 23) (pc := 19) F dX11_room_19 rfl ?_
    refine y_le (lv' := [none, none, none]) trivial ?_
    exact hK23 ((gi o 14))
  · refine y_iconst (v := 0) (pc := 22) F dX11_room_22 rfl ?_
    refine y_le (lv' := [none, none, none]) trivial ?_
    exact hK23 (0 : Int32)
abbrev rmX11_canCall : Room := { frames := 3, cells := 0, slots := 0, locals := 69 }
def lX11_canCall_5 (o : Ob) (a1 : Int32) (a2 : Int32) : Nat → Int32 → Int32 → Option Int32
  | 0, _, _ => none
  | f + 1, x1, x2 =>
    if (gi o 40) ≤ x2 then (zgz x1 (some x1))
    else (zjn (fun (x3 : Int32) =>
    zlet (x2 + (1 : Int32)) fun (x4 : Int32) =>
    lX11_canCall_5 o a1 a2 f x3 x4) fun (K42 : Int32 → Option Int32) =>
    zjn (K42 (0 : Int32)) fun (K41 : Option Int32) =>
    if x1 = 0 then (K41)
    else (Option.bind (pX11_has a1 x2) fun (r5 : Int32) =>
    zjn (K42 (1 : Int32)) fun (K37 : Option Int32) =>
    if r5 = 0 then (K37)
    else (Option.bind (pX11_mayCall o x2 a2) fun (r6 : Int32) =>
    if r6 = 0 then (K41)
    else (K37))))
def pX11_canCall (o : Ob) (a1 : Int32) (a2 : Int32) : Option Int32 :=
  lX11_canCall_5 o a1 a2 zfu (1 : Int32) (0 : Int32)
set_option maxHeartbeats 4000000 in
set_option maxRecDepth 100000 in
theorem wlX11_canCall_5 {X : ZX} {out : Int32} (q : Nat → Nat) (o : Ob) (a1 : Int32) (a2 : Int32) (F : zF l D tA RX11 cX11_canCall 5 rmX11_canCall X) (hr : zRi X D cX11_canCall .boolean (fun (r : Int32) => r) (fun (r : Int32) => (WM tA q o)) out) : ∀ (f : Nat) (x1 : Int32) (x2 : Int32), zY X D out (lX11_canCall_5 o a1 a2 f x1 x2) (WM tA q o) 5 [some (.ref (q 0)), some (.int a1), some (.int a2), some (.int x1), some (.int x2)] [] := by
  intro f
  induction f with
  | zero =>
    intro x1 x2
    exact y_none
  | succ f ih =>
    intro x1 x2
    rw [lX11_canCall_5.eq_2]
    refine y_iload (pc := 5) F dX11_canCall_5 rfl ?_
    refine y_aload_n (pc := 7) F dX11_canCall_7 rfl ?_
    refine y_get (pc := 8) F dX11_canCall_8 kF_X11_303 0 WM_at0 rfl ?_
    refine y_icmp_ge (pc := 11) (tgt := 49) F dX11_canCall_11 rfl ?_ ?_
    · refine y_iload_n (pc := 49) F dX11_canCall_49 rfl ?_
      exact y_zret hr dX11_canCall_50 rfl rfl
    · refine y_iload_n (pc := 14) F dX11_canCall_14 rfl ?_
      refine y_jn (fun (K42 : Int32 → Option Int32) => ∀ (x3 : Int32), zY X D out (K42 x3) (WM tA q o) 42 [some (.ref (q 0)), some (.int a1), some (.int a2), none, some (.int x2)] [.int x3]) ?_ ?_
      · intro x3
        refine y_istore_n (lv' := [some (.ref (q 0)), some (.int a1), some (.int a2), some (.int x3), some (.int x2)]) (pc := 42) F dX11_canCall_42 (Nat.le_of_ble_eq_true rfl) rfl rfl ?_
        refine y_iinc (v := 1) (lf := fun (x4 : Int32) => [some (.ref (q 0)), some (.int a1), some (.int a2), some (.int x3), some (.int x4)]) (pc := 43) F dX11_canCall_43 rfl rfl rfl (fun _ => rfl) (fun x4 => ?_)
        refine y_goto (tgt := 5) (pc := 46) F dX11_canCall_46 rfl ?_
        exact ih x3 x4
      intro K42 hK42
      refine y_jn (fun (K41 : Option Int32) => zY X D out (K41) (WM tA q o) 41 [some (.ref (q 0)), some (.int a1), some (.int a2), none, some (.int x2)] []) ?_ ?_
      · skip
        refine y_iconst (v := 0) (pc := 41) F dX11_canCall_41 rfl ?_
        exact hK42 (0 : Int32)
      intro K41 hK41
      refine y_if_eq (pc := 15) (tgt := 41) F dX11_canCall_15 rfl ?_ ?_
      · refine y_le (lv' := [some (.ref (q 0)), some (.int a1), some (.int a2), none, some (.int x2)]) ⟨rfl, ⟨rfl, ⟨rfl, ⟨rfl, trivial⟩⟩⟩⟩ ?_
        exact hK41
      · refine y_iload_n (pc := 18) F dX11_canCall_18 rfl ?_
        refine y_iload (pc := 19) F dX11_canCall_19 rfl ?_
        refine y_scalliP (As := [.int a1, .int x2]) (st := []) (pc := 21) F (c_X11_has (q := q) a1 x2) dX11_canCall_21 kM_X11_326 ⟨rfl, rfl⟩ ⟨Nat.le_of_ble_eq_true rfl, Nat.le_of_ble_eq_true rfl⟩ rfl rfl rfl (Nat.le_of_ble_eq_true rfl) (fun r5 => ?_)
        refine y_jn (fun (K37 : Option Int32) => zY X D out (K37) (WM tA q o) 37 [some (.ref (q 0)), some (.int a1), some (.int a2), none, some (.int x2)] []) ?_ ?_
        · skip
          refine y_iconst (v := 1) (pc := 37) F dX11_canCall_37 rfl ?_
          refine y_goto (tgt := 42) (pc := 38) F dX11_canCall_38 rfl ?_
          exact hK42 (1 : Int32)
        intro K37 hK37
        refine y_if_eq (pc := 24) (tgt := 37) F dX11_canCall_24 rfl ?_ ?_
        · refine y_le (lv' := [some (.ref (q 0)), some (.int a1), some (.int a2), none, some (.int x2)]) ⟨rfl, ⟨rfl, ⟨rfl, ⟨rfl, trivial⟩⟩⟩⟩ ?_
          exact hK37
        · refine y_aload_n (pc := 27) F dX11_canCall_27 rfl ?_
          refine y_iload (pc := 28) F dX11_canCall_28 rfl ?_
          refine y_iload_n (pc := 30) F dX11_canCall_30 rfl ?_
          refine y_calliW (As := [.int x2, .int a2]) (st := []) (q0 := 0) (pc := 31) F (c_X11_mayCall (q := q) o x2 a2) dX11_canCall_31 kM_X11_329 ⟨rfl, rfl⟩ ⟨Nat.le_of_ble_eq_true rfl, Nat.le_of_ble_eq_true rfl⟩ rfl rfl rfl (Nat.le_of_ble_eq_true rfl) rfl rfl WM_at0 (fun r6 => ?_)
          refine y_if_eq (pc := 34) (tgt := 41) F dX11_canCall_34 rfl ?_ ?_
          · refine y_le (lv' := [some (.ref (q 0)), some (.int a1), some (.int a2), none, some (.int x2)]) ⟨rfl, ⟨rfl, ⟨rfl, ⟨rfl, trivial⟩⟩⟩⟩ ?_
            exact hK41
          · refine y_le (lv' := [some (.ref (q 0)), some (.int a1), some (.int a2), none, some (.int x2)]) ⟨rfl, ⟨rfl, ⟨rfl, ⟨rfl, trivial⟩⟩⟩⟩ ?_
            exact hK37
set_option maxHeartbeats 4000000 in
set_option maxRecDepth 100000 in
theorem c_X11_canCall {q : Nat → Nat} (o : Ob) (a1 : Int32) (a2 : Int32) : zCi l D tA yX11_canCall cX11_canCall 5 .boolean rmX11_canCall [.ref (q 0), .int a1, .int a2] (WM tA q o) (fun (r : Int32) => r) (fun (r : Int32) => (WM tA q o)) (pX11_canCall o a1 a2) := by
  refine zCi_of (lv0 := [some (.ref (q 0)), some (.int a1), some (.int a2), none, none]) (by decide +kernel) (Nat.le_of_ble_eq_true rfl) rfl (fun X out F hr => ?_)
  unfold pX11_canCall
  refine y_iconst (v := 1) (pc := 0) F dX11_canCall_0 rfl ?_
  refine y_istore_n (lv' := [some (.ref (q 0)), some (.int a1), some (.int a2), some (.int (1 : Int32)), none]) (pc := 1) F dX11_canCall_1 (Nat.le_of_ble_eq_true rfl) rfl rfl ?_
  refine y_iconst (v := 0) (pc := 2) F dX11_canCall_2 rfl ?_
  refine y_istore (lv' := [some (.ref (q 0)), some (.int a1), some (.int a2), some (.int (1 : Int32)), some (.int (0 : Int32))]) (pc := 3) F dX11_canCall_3 (Nat.le_of_ble_eq_true rfl) rfl rfl ?_
  exact wlX11_canCall_5 q o a1 a2 F hr zfu (1 : Int32) (0 : Int32)
abbrev rmX11_valueOf : Room := { frames := 2, cells := 0, slots := 0, locals := 47 }
def lX11_valueOf_5 (o : Ob) (a1 : Int32) (a2 : Int32) : Nat → Int64 → Int32 → Option Int64
  | 0, _, _ => none
  | f + 1, y1, x2 =>
    if (gi o 40) ≤ x2 then (some y1)
    else (Option.bind (pX11_has a1 x2) fun (r3 : Int32) =>
    zjn (fun (y4 : Int64) =>
    zlet ((y1 + y4)) fun (y5 : Int64) =>
    zlet (x2 + (1 : Int32)) fun (x6 : Int32) =>
    lX11_valueOf_5 o a1 a2 f y5 x6) fun (K49 : Int64 → Option Int64) =>
    if r3 = 0 then (K49 (0 : Int64))
    else (zgd x2 6 <| Option.bind (pX11_freshOn o (ga o 39 (x2.toNatClampNeg)) ((gi o 13) + a2)) fun (r7 : Int32) =>
    K49 (((r7.toInt64) <<< ((30 : Int32).toInt64 &&& 63)))))
def pX11_valueOf (o : Ob) (a1 : Int32) (a2 : Int32) : Option Int64 :=
  lX11_valueOf_5 o a1 a2 zfu (0 : Int64) (0 : Int32)
set_option maxHeartbeats 4000000 in
set_option maxRecDepth 100000 in
theorem wlX11_valueOf_5 {X : ZX} {out : Int64} (q : Nat → Nat) (o : Ob) (a1 : Int32) (a2 : Int32) (F : zF l D tA RX11 cX11_valueOf 6 rmX11_valueOf X) (hr : zRl X D cX11_valueOf (fun (r : Int64) => r) (fun (r : Int64) => (WM tA q o)) out) : ∀ (f : Nat) (y1 : Int64) (x2 : Int32), zY X D out (lX11_valueOf_5 o a1 a2 f y1 x2) (WM tA q o) 5 [some (.ref (q 0)), some (.int a1), some (.int a2), some (.long y1), none, some (.int x2)] [] := by
  intro f
  induction f with
  | zero =>
    intro y1 x2
    exact y_none
  | succ f ih =>
    intro y1 x2
    rw [lX11_valueOf_5.eq_2]
    refine y_iload (pc := 5) F dX11_valueOf_5 rfl ?_
    refine y_aload_n (pc := 7) F dX11_valueOf_7 rfl ?_
    refine y_get (pc := 8) F dX11_valueOf_8 kF_X11_303 0 WM_at0 rfl ?_
    refine y_icmp_ge (pc := 11) (tgt := 57) F dX11_valueOf_11 rfl ?_ ?_
    · refine y_lload_n (pc := 57) F dX11_valueOf_57 rfl ?_
      exact y_lret hr dX11_valueOf_58 rfl rfl
    · refine y_lload_n (pc := 14) F dX11_valueOf_14 rfl ?_
      refine y_iload_n (pc := 15) F dX11_valueOf_15 rfl ?_
      refine y_iload (pc := 16) F dX11_valueOf_16 rfl ?_
      refine y_scalliP (As := [.int a1, .int x2]) (st := [.long y1]) (pc := 18) F (c_X11_has (q := q) a1 x2) dX11_valueOf_18 kM_X11_326 ⟨rfl, rfl⟩ ⟨Nat.le_of_ble_eq_true rfl, Nat.le_of_ble_eq_true rfl⟩ rfl rfl rfl (Nat.le_of_ble_eq_true rfl) (fun r3 => ?_)
      refine y_jn (fun (K49 : Int64 → Option Int64) => ∀ (y4 : Int64), zY X D out (K49 y4) (WM tA q o) 49 [some (.ref (q 0)), some (.int a1), some (.int a2), none, none, some (.int x2)] [.long y4, .long y1]) ?_ ?_
      · intro y4
        refine y_ladd (pc := 49) F dX11_valueOf_49 ?_
        refine y_ltl (fun y5 => ?_)
        refine y_lstore_n (lv' := [some (.ref (q 0)), some (.int a1), some (.int a2), some (.long y5), none, some (.int x2)]) (pc := 50) F dX11_valueOf_50 (Nat.le_of_ble_eq_true rfl) rfl rfl ?_
        refine y_iinc (v := 1) (lf := fun (x6 : Int32) => [some (.ref (q 0)), some (.int a1), some (.int a2), some (.long y5), none, some (.int x6)]) (pc := 51) F dX11_valueOf_51 rfl rfl rfl (fun _ => rfl) (fun x6 => ?_)
        refine y_goto (tgt := 5) (pc := 54) F dX11_valueOf_54 rfl ?_
        exact ih y5 x6
      intro K49 hK49
      refine y_if_eq (pc := 21) (tgt := 48) F dX11_valueOf_21 rfl ?_ ?_
      · refine y_lconst (v := 0) (pc := 48) F dX11_valueOf_48 rfl ?_
        refine y_le (lv' := [some (.ref (q 0)), some (.int a1), some (.int a2), none, none, some (.int x2)]) ⟨rfl, ⟨rfl, ⟨rfl, ⟨rfl, trivial⟩⟩⟩⟩ ?_
        exact hK49 (0 : Int64)
      · refine y_aload_n (pc := 24) F dX11_valueOf_24 rfl ?_
        refine y_aload_n (pc := 25) F dX11_valueOf_25 rfl ?_
        refine y_get (pc := 26) F dX11_valueOf_26 kF_X11_84 0 WM_at0 rfl ?_
        refine y_iload (pc := 29) F dX11_valueOf_29 rfl ?_
        refine y_iald (pc := 31) F dX11_valueOf_31 24 WM_at24 ?_
        refine y_aload_n (pc := 32) F dX11_valueOf_32 rfl ?_
        refine y_get (pc := 33) F dX11_valueOf_33 kF_X11_223 0 WM_at0 rfl ?_
        refine y_iload_n (pc := 36) F dX11_valueOf_36 rfl ?_
        refine y_iadd (pc := 37) F dX11_valueOf_37 ?_
        refine y_calliW (As := [.int (ga o 39 (x2.toNatClampNeg)), .int ((gi o 13) + a2)]) (st := [.long y1]) (q0 := 0) (pc := 38) F (c_X11_freshOn (q := q) o (ga o 39 (x2.toNatClampNeg)) ((gi o 13) + a2)) dX11_valueOf_38 kM_X11_260 ⟨rfl, rfl⟩ ⟨Nat.le_of_ble_eq_true rfl, Nat.le_of_ble_eq_true rfl⟩ rfl rfl rfl (Nat.le_of_ble_eq_true rfl) rfl rfl WM_at0 (fun r7 => ?_)
        refine y_i2l (pc := 41) F dX11_valueOf_41 ?_
        refine y_bipush (v := 30) (pc := 42) F dX11_valueOf_42 rfl ?_
        refine y_lshl (pc := 44) F dX11_valueOf_44 ?_
        refine y_goto (tgt := 49) (pc := 45) F dX11_valueOf_45 rfl ?_
        refine y_le (lv' := [some (.ref (q 0)), some (.int a1), some (.int a2), none, none, some (.int x2)]) ⟨rfl, ⟨rfl, ⟨rfl, ⟨rfl, trivial⟩⟩⟩⟩ ?_
        exact hK49 (((r7.toInt64) <<< ((30 : Int32).toInt64 &&& 63)))
set_option maxHeartbeats 4000000 in
set_option maxRecDepth 100000 in
theorem c_X11_valueOf {q : Nat → Nat} (o : Ob) (a1 : Int32) (a2 : Int32) : zCl l D tA yX11_valueOf cX11_valueOf 6 rmX11_valueOf [.ref (q 0), .int a1, .int a2] (WM tA q o) (fun (r : Int64) => r) (fun (r : Int64) => (WM tA q o)) (pX11_valueOf o a1 a2) := by
  refine zCl_of (lv0 := [some (.ref (q 0)), some (.int a1), some (.int a2), none, none, none]) (by decide +kernel) (Nat.le_of_ble_eq_true rfl) rfl (fun X out F hr => ?_)
  unfold pX11_valueOf
  refine y_lconst (v := 0) (pc := 0) F dX11_valueOf_0 rfl ?_
  refine y_lstore_n (lv' := [some (.ref (q 0)), some (.int a1), some (.int a2), some (.long (0 : Int64)), none, none]) (pc := 1) F dX11_valueOf_1 (Nat.le_of_ble_eq_true rfl) rfl rfl ?_
  refine y_iconst (v := 0) (pc := 2) F dX11_valueOf_2 rfl ?_
  refine y_istore (lv' := [some (.ref (q 0)), some (.int a1), some (.int a2), some (.long (0 : Int64)), none, some (.int (0 : Int32))]) (pc := 3) F dX11_valueOf_3 (Nat.le_of_ble_eq_true rfl) rfl rfl ?_
  exact wlX11_valueOf_5 q o a1 a2 F hr zfu (0 : Int64) (0 : Int32)
abbrev rmX11_callOn : Room := { frames := 4, cells := 0, slots := 0, locals := 93 }
def lX11_callOn_233 : Nat → Int32 → Ob → Option Ob
  | 0, _, _ => none
  | f + 1, x4, o5 =>
    if (64 : Int32) ≤ x4 then (some o5)
    else (zgd x4 64 <| zgd x4 64 <| zlet (sb o5 42 (vp_updL (gb o5 42) (x4.toNatClampNeg) (gb o5 43 (x4.toNatClampNeg)))) fun (o6 : Ob) =>
    zlet (x4 + (1 : Int32)) fun (x7 : Int32) =>
    lX11_callOn_233 f x7 o6)
def lX11_callOn_123 (r15 : Int64) (K225 : Int32 → Ob → Option Ob) : Nat → Int32 → Int32 → Ob → Option Ob
  | 0, _, _, _ => none
  | f + 1, x16, x17, o18 =>
    if ((1 : Int32) <<< ((gi o18 40) &&& 31)) ≤ x17 then (K225 x16 o18)
    else (zgd x17 64 <| zjn (fun (x19 : Int32) =>
    zjn (fun (y20 : Int64) =>
    zgd (x17 ||| x16) 64 <| zlet (sb o18 43 (vp_updL (gb o18 43) ((x17 ||| x16).toNatClampNeg) y20)) fun (o21 : Ob) =>
    zlet (x17 + (1 : Int32)) fun (x22 : Int32) =>
    lX11_callOn_123 r15 K225 f x16 x22 o21) fun (K218 : Int64 → Option Ob) =>
    zjn (zgd (x17 ||| x16) 64 <| K218 ((gb o18 43 ((x17 ||| x16).toNatClampNeg)))) fun (K209 : Option Ob) =>
    if x19 = 0 then (K209)
    else (zgd x17 64 <| zgd (x17 ||| x16) 64 <| if ((gb o18 42 (x17.toNatClampNeg)) + r15) ≤ (gb o18 43 ((x17 ||| x16).toNatClampNeg)) then (K209)
    else (zgd x17 64 <| K218 (((gb o18 42 (x17.toNatClampNeg)) + r15))))) fun (K158 : Int32 → Option Ob) =>
    zjn (K158 (0 : Int32)) fun (K157 : Option Ob) =>
    if (gb o18 42 (x17.toNatClampNeg)) < (0 : Int64) then (K157)
    else (if (x16 &&& x17) = 0 then (K158 (1 : Int32))
    else (K157)))
def lX11_callOn_85 (a1 : Int32) (r2 : Int32) (K231 : Ob → Option Ob) : Nat → Int32 → Ob → Option Ob
  | 0, _, _ => none
  | f + 1, x8, o9 =>
    if ((1 : Int32) <<< ((gi o9 40) &&& 31)) ≤ x8 then (K231 o9)
    else (Option.bind (pX11_bits x8) fun (r10 : Int32) =>
    zjn (fun (x11 : Int32) (o12 : Ob) =>
    zlet (x11 + (1 : Int32)) fun (x13 : Int32) =>
    lX11_callOn_85 a1 r2 K231 f x13 o12) fun (K225 : Int32 → Ob → Option Ob) =>
    if r2 < r10 then (K225 x8 o9)
    else (Option.bind (pX11_canCall o9 x8 a1) fun (r14 : Int32) =>
    if r14 = 0 then (K225 x8 o9)
    else (Option.bind (pX11_valueOf o9 x8 a1) fun (r15 : Int64) =>
    lX11_callOn_123 r15 K225 zfu x8 (0 : Int32) o9)))
def lX11_callOn_2 (a1 : Int32) (K77 : Ob → Option Ob) : Nat → Int32 → Ob → Option Ob
  | 0, _, _ => none
  | f + 1, x23, o24 =>
    if (64 : Int32) ≤ x23 then (K77 o24)
    else (zjn (fun (y25 : Int64) =>
    zgd x23 64 <| zlet (sb o24 42 (vp_updL (gb o24 42) (x23.toNatClampNeg) y25)) fun (o26 : Ob) =>
    zgd x23 64 <| zgd x23 64 <| zlet (sb o26 43 (vp_updL (gb o26 43) (x23.toNatClampNeg) (gb o26 42 (x23.toNatClampNeg)))) fun (o27 : Ob) =>
    zlet (x23 + (1 : Int32)) fun (x28 : Int32) =>
    lX11_callOn_2 a1 K77 f x28 o27) fun (K58 : Int64 → Option Ob) =>
    if a1 = 0 then (if x23 = 0 then (K58 (0 : Int64))
    else (K58 (-1 : Int64)))
    else (zgd x23 64 <| if (0 : Int64) ≤ (gb o24 42 (x23.toNatClampNeg)) then (zgd x23 64 <| znl (2 : Int64) <| K58 (((gb o24 42 (x23.toNatClampNeg)) / (2 : Int64))))
    else (K58 (-1 : Int64))))
def pX11_callOn (o : Ob) (a1 : Int32) : Option Ob :=
  zjn (fun (o1 : Ob) =>
  Option.bind (pX11_room o1 a1) fun (r2 : Int32) =>
  zjn (fun (o3 : Ob) =>
  lX11_callOn_233 zfu (0 : Int32) o3) fun (K231 : Ob → Option Ob) =>
  lX11_callOn_85 a1 r2 K231 zfu (1 : Int32) o1) fun (K77 : Ob → Option Ob) =>
  lX11_callOn_2 a1 K77 zfu (0 : Int32) o
set_option maxHeartbeats 4000000 in
set_option maxRecDepth 100000 in
theorem wlX11_callOn_233 {X : ZX} {out : Ob} (q : Nat → Nat) (F : zF l D tA RX11 cX11_callOn 8 rmX11_callOn X) (hr : zRv X D cX11_callOn (fun (r : Ob) => (WM tA q r)) out) : ∀ (f : Nat) (x4 : Int32) (o5 : Ob), zY X D out (lX11_callOn_233 f x4 o5) (WM tA q o5) 233 [some (.ref (q 0)), none, none, some (.int x4), none, none, none, none] [] := by
  intro f
  induction f with
  | zero =>
    intro x4 o5
    exact y_none
  | succ f ih =>
    intro x4 o5
    rw [lX11_callOn_233.eq_2]
    refine y_iload_n (pc := 233) F dX11_callOn_233 rfl ?_
    refine y_bipush (v := 64) (pc := 234) F dX11_callOn_234 rfl ?_
    refine y_icmp_ge (pc := 236) (tgt := 257) F dX11_callOn_236 rfl ?_ ?_
    · exact y_vret hr dX11_callOn_257 rfl
    · refine y_aload_n (pc := 239) F dX11_callOn_239 rfl ?_
      refine y_get (pc := 240) F dX11_callOn_240 kF_X11_90 0 WM_at0 rfl ?_
      refine y_iload_n (pc := 243) F dX11_callOn_243 rfl ?_
      refine y_aload_n (pc := 244) F dX11_callOn_244 rfl ?_
      refine y_get (pc := 245) F dX11_callOn_245 kF_X11_94 0 WM_at0 rfl ?_
      refine y_iload_n (pc := 248) F dX11_callOn_248 rfl ?_
      refine y_lald (pc := 249) F dX11_callOn_249 27 WM_at27 ?_
      refine y_last (pc := 250) F dX11_callOn_250 26 WM_at26 (fun (o6 : Ob) => (WM tA q o6)) (WM_ar26 _) (fun o6 => ?_)
      refine y_iinc (v := 1) (lf := fun (x7 : Int32) => [some (.ref (q 0)), none, none, some (.int x7), none, none, none, none]) (pc := 251) F dX11_callOn_251 rfl rfl rfl (fun _ => rfl) (fun x7 => ?_)
      refine y_goto (tgt := 233) (pc := 254) F dX11_callOn_254 rfl ?_
      exact ih x7 o6
set_option maxHeartbeats 4000000 in
set_option maxRecDepth 100000 in
theorem wlX11_callOn_123 {X : ZX} {out : Ob} (q : Nat → Nat) (a1 : Int32) (r2 : Int32) (r15 : Int64) (F : zF l D tA RX11 cX11_callOn 8 rmX11_callOn X) (hr : zRv X D cX11_callOn (fun (r : Ob) => (WM tA q r)) out) {K225 : Int32 → Ob → Option Ob} (hK225 : ∀ (x11 : Int32) (o12 : Ob), zY X D out (K225 x11 o12) (WM tA q o12) 225 [some (.ref (q 0)), some (.int a1), some (.int r2), some (.int x11), none, none, none, none] []) : ∀ (f : Nat) (x16 : Int32) (x17 : Int32) (o18 : Ob), zY X D out (lX11_callOn_123 r15 K225 f x16 x17 o18) (WM tA q o18) 123 [some (.ref (q 0)), some (.int a1), some (.int r2), some (.int x16), some (.long r15), none, some (.int x17), none] [] := by
  intro f
  induction f with
  | zero =>
    intro x16 x17 o18
    exact y_none
  | succ f ih =>
    intro x16 x17 o18
    rw [lX11_callOn_123.eq_2]
    refine y_iload (pc := 123) F dX11_callOn_123 rfl ?_
    refine y_iconst (v := 1) (pc := 125) F dX11_callOn_125 rfl ?_
    refine y_aload_n (pc := 126) F dX11_callOn_126 rfl ?_
    refine y_get (pc := 127) F dX11_callOn_127 kF_X11_303 0 WM_at0 rfl ?_
    refine y_ishl (pc := 130) F dX11_callOn_130 ?_
    refine y_icmp_ge (pc := 131) (tgt := 225) F dX11_callOn_131 rfl ?_ ?_
    · refine y_le (lv' := [some (.ref (q 0)), some (.int a1), some (.int r2), some (.int x16), none, none, none, none]) ⟨rfl, ⟨rfl, ⟨rfl, ⟨rfl, trivial⟩⟩⟩⟩ ?_
      exact hK225 x16 o18
    · refine y_aload_n (pc := 134) F dX11_callOn_134 rfl ?_
      refine y_get (pc := 135) F dX11_callOn_135 kF_X11_90 0 WM_at0 rfl ?_
      refine y_iload (pc := 138) F dX11_callOn_138 rfl ?_
      refine y_lald (pc := 140) F dX11_callOn_140 26 WM_at26 ?_
      refine y_lconst (v := 0) (pc := 141) F dX11_callOn_141 rfl ?_
      refine y_jn (fun (K158 : Int32 → Option Ob) => ∀ (x19 : Int32), zY X D out (K158 x19) (WM tA q o18) 158 [some (.ref (q 0)), some (.int a1), some (.int r2), some (.int x16), some (.long r15), none, some (.int x17), none] [.int x19]) ?_ ?_
      · intro x19
        refine y_istore (lv' := [some (.ref (q 0)), some (.int a1), some (.int r2), some (.int x16), some (.long r15), none, some (.int x17), some (.int x19)]) (pc := 158) F dX11_callOn_158 (Nat.le_of_ble_eq_true rfl) rfl rfl ?_
        refine y_aload_n (pc := 160) F dX11_callOn_160 rfl ?_
        refine y_get (pc := 161) F dX11_callOn_161 kF_X11_94 0 WM_at0 rfl ?_
        refine y_iload (pc := 164) F dX11_callOn_164 rfl ?_
        refine y_iload_n (pc := 166) F dX11_callOn_166 rfl ?_
        refine y_ior (pc := 167) F dX11_callOn_167 ?_
        refine y_iload (pc := 168) F dX11_callOn_168 rfl ?_
        refine y_jn (fun (K218 : Int64 → Option Ob) => ∀ (y20 : Int64), zY X D out (K218 y20) (WM tA q o18) 218 [some (.ref (q 0)), some (.int a1), some (.int r2), some (.int x16), some (.long r15), none, some (.int x17), none] [.long y20, .int (x17 ||| x16), .ref (q 27)]) ?_ ?_
        · intro y20
          refine y_last (pc := 218) F dX11_callOn_218 27 WM_at27 (fun (o21 : Ob) => (WM tA q o21)) (WM_ar27 _) (fun o21 => ?_)
          refine y_iinc (v := 1) (lf := fun (x22 : Int32) => [some (.ref (q 0)), some (.int a1), some (.int r2), some (.int x16), some (.long r15), none, some (.int x22), none]) (pc := 219) F dX11_callOn_219 rfl rfl rfl (fun _ => rfl) (fun x22 => ?_)
          refine y_goto (tgt := 123) (pc := 222) F dX11_callOn_222 rfl ?_
          exact ih x16 x22 o21
        intro K218 hK218
        refine y_jn (fun (K209 : Option Ob) => zY X D out (K209) (WM tA q o18) 209 [some (.ref (q 0)), some (.int a1), some (.int r2), some (.int x16), some (.long r15), none, some (.int x17), none] [.int (x17 ||| x16), .ref (q 27)]) ?_ ?_
        · skip
          refine y_aload_n (pc := 209) F dX11_callOn_209 rfl ?_
          refine y_get (pc := 210) F dX11_callOn_210 kF_X11_94 0 WM_at0 rfl ?_
          refine y_iload (pc := 213) F dX11_callOn_213 rfl ?_
          refine y_iload_n (pc := 215) F dX11_callOn_215 rfl ?_
          refine y_ior (pc := 216) F dX11_callOn_216 ?_
          refine y_lald (pc := 217) F dX11_callOn_217 27 WM_at27 ?_
          exact hK218 ((gb o18 43 ((x17 ||| x16).toNatClampNeg)))
        intro K209 hK209
        refine y_if_eq (pc := 170) (tgt := 209) F dX11_callOn_170 rfl ?_ ?_
        · refine y_le (lv' := [some (.ref (q 0)), some (.int a1), some (.int r2), some (.int x16), some (.long r15), none, some (.int x17), none]) ⟨rfl, ⟨rfl, ⟨rfl, ⟨rfl, ⟨rfl, ⟨rfl, trivial⟩⟩⟩⟩⟩⟩ ?_
          exact hK209
        · refine y_aload_n (pc := 173) F dX11_callOn_173 rfl ?_
          refine y_get (pc := 174) F dX11_callOn_174 kF_X11_90 0 WM_at0 rfl ?_
          refine y_iload (pc := 177) F dX11_callOn_177 rfl ?_
          refine y_lald (pc := 179) F dX11_callOn_179 26 WM_at26 ?_
          refine y_lload (pc := 180) F dX11_callOn_180 rfl ?_
          refine y_ladd (pc := 182) F dX11_callOn_182 ?_
          refine y_aload_n (pc := 183) F dX11_callOn_183 rfl ?_
          refine y_get (pc := 184) F dX11_callOn_184 kF_X11_94 0 WM_at0 rfl ?_
          refine y_iload (pc := 187) F dX11_callOn_187 rfl ?_
          refine y_iload_n (pc := 189) F dX11_callOn_189 rfl ?_
          refine y_ior (pc := 190) F dX11_callOn_190 ?_
          refine y_lald (pc := 191) F dX11_callOn_191 27 WM_at27 ?_
          refine y_lcmp_le (pc := 192) (tgt := 209) F dX11_callOn_192 dX11_callOn_193 rfl ?_ ?_
          · refine y_le (lv' := [some (.ref (q 0)), some (.int a1), some (.int r2), some (.int x16), some (.long r15), none, some (.int x17), none]) ⟨rfl, ⟨rfl, ⟨rfl, ⟨rfl, ⟨rfl, ⟨rfl, trivial⟩⟩⟩⟩⟩⟩ ?_
            exact hK209
          · refine y_aload_n (pc := 196) F dX11_callOn_196 rfl ?_
            refine y_get (pc := 197) F dX11_callOn_197 kF_X11_90 0 WM_at0 rfl ?_
            refine y_iload (pc := 200) F dX11_callOn_200 rfl ?_
            refine y_lald (pc := 202) F dX11_callOn_202 26 WM_at26 ?_
            refine y_lload (pc := 203) F dX11_callOn_203 rfl ?_
            refine y_ladd (pc := 205) F dX11_callOn_205 ?_
            refine y_goto (tgt := 218) (pc := 206) F dX11_callOn_206 rfl ?_
            refine y_le (lv' := [some (.ref (q 0)), some (.int a1), some (.int r2), some (.int x16), some (.long r15), none, some (.int x17), none]) ⟨rfl, ⟨rfl, ⟨rfl, ⟨rfl, ⟨rfl, ⟨rfl, trivial⟩⟩⟩⟩⟩⟩ ?_
            exact hK218 (((gb o18 42 (x17.toNatClampNeg)) + r15))
      intro K158 hK158
      refine y_jn (fun (K157 : Option Ob) => zY X D out (K157) (WM tA q o18) 157 [some (.ref (q 0)), some (.int a1), some (.int r2), some (.int x16), some (.long r15), none, some (.int x17), none] []) ?_ ?_
      · skip
        refine y_iconst (v := 0) (pc := 157) F dX11_callOn_157 rfl ?_
        exact hK158 (0 : Int32)
      intro K157 hK157
      refine y_lcmp_lt (pc := 142) (tgt := 157) F dX11_callOn_142 dX11_callOn_143 rfl ?_ ?_
      · exact hK157
      · refine y_iload_n (pc := 146) F dX11_callOn_146 rfl ?_
        refine y_iload (pc := 147) F dX11_callOn_147 rfl ?_
        refine y_iand (pc := 149) F dX11_callOn_149 ?_
        refine y_if_ne (pc := 150) (tgt := 157) F dX11_callOn_150 rfl ?_ ?_
        · refine y_iconst (v := 1) (pc := 153) F dX11_callOn_153 rfl ?_
          refine y_goto (tgt := 158) (pc := 154) F dX11_callOn_154 rfl ?_
          exact hK158 (1 : Int32)
        · exact hK157
set_option maxHeartbeats 4000000 in
set_option maxRecDepth 100000 in
theorem wlX11_callOn_85 {X : ZX} {out : Ob} (q : Nat → Nat) (a1 : Int32) (r2 : Int32) (F : zF l D tA RX11 cX11_callOn 8 rmX11_callOn X) (hr : zRv X D cX11_callOn (fun (r : Ob) => (WM tA q r)) out) {K231 : Ob → Option Ob} (hK231 : ∀ (o3 : Ob), zY X D out (K231 o3) (WM tA q o3) 231 [some (.ref (q 0)), none, none, none, none, none, none, none] []) : ∀ (f : Nat) (x8 : Int32) (o9 : Ob), zY X D out (lX11_callOn_85 a1 r2 K231 f x8 o9) (WM tA q o9) 85 [some (.ref (q 0)), some (.int a1), some (.int r2), some (.int x8), none, none, none, none] [] := by
  intro f
  induction f with
  | zero =>
    intro x8 o9
    exact y_none
  | succ f ih =>
    intro x8 o9
    rw [lX11_callOn_85.eq_2]
    refine y_iload_n (pc := 85) F dX11_callOn_85 rfl ?_
    refine y_iconst (v := 1) (pc := 86) F dX11_callOn_86 rfl ?_
    refine y_aload_n (pc := 87) F dX11_callOn_87 rfl ?_
    refine y_get (pc := 88) F dX11_callOn_88 kF_X11_303 0 WM_at0 rfl ?_
    refine y_ishl (pc := 91) F dX11_callOn_91 ?_
    refine y_icmp_ge (pc := 92) (tgt := 231) F dX11_callOn_92 rfl ?_ ?_
    · refine y_le (lv' := [some (.ref (q 0)), none, none, none, none, none, none, none]) ⟨rfl, trivial⟩ ?_
      exact hK231 o9
    · refine y_iload_n (pc := 95) F dX11_callOn_95 rfl ?_
      refine y_scalliP (As := [.int x8]) (st := []) (pc := 96) F (c_X11_bits (q := q) x8) dX11_callOn_96 kM_X11_313 ⟨rfl, rfl⟩ ⟨Nat.le_of_ble_eq_true rfl, Nat.le_of_ble_eq_true rfl⟩ rfl rfl rfl (Nat.le_of_ble_eq_true rfl) (fun r10 => ?_)
      refine y_iload_n (pc := 99) F dX11_callOn_99 rfl ?_
      refine y_jn (fun (K225 : Int32 → Ob → Option Ob) => ∀ (x11 : Int32) (o12 : Ob), zY X D out (K225 x11 o12) (WM tA q o12) 225 [some (.ref (q 0)), some (.int a1), some (.int r2), some (.int x11), none, none, none, none] []) ?_ ?_
      · intro x11 o12
        refine y_iinc (v := 1) (lf := fun (x13 : Int32) => [some (.ref (q 0)), some (.int a1), some (.int r2), some (.int x13), none, none, none, none]) (pc := 225) F dX11_callOn_225 rfl rfl rfl (fun _ => rfl) (fun x13 => ?_)
        refine y_goto (tgt := 85) (pc := 228) F dX11_callOn_228 rfl ?_
        exact ih x13 o12
      intro K225 hK225
      refine y_icmp_gt (pc := 100) (tgt := 225) F dX11_callOn_100 rfl ?_ ?_
      · exact hK225 x8 o9
      · refine y_aload_n (pc := 103) F dX11_callOn_103 rfl ?_
        refine y_iload_n (pc := 104) F dX11_callOn_104 rfl ?_
        refine y_iload_n (pc := 105) F dX11_callOn_105 rfl ?_
        refine y_calliW (As := [.int x8, .int a1]) (st := []) (q0 := 0) (pc := 106) F (c_X11_canCall (q := q) o9 x8 a1) dX11_callOn_106 kM_X11_316 ⟨rfl, rfl⟩ ⟨Nat.le_of_ble_eq_true rfl, Nat.le_of_ble_eq_true rfl⟩ rfl rfl rfl (Nat.le_of_ble_eq_true rfl) rfl rfl WM_at0 (fun r14 => ?_)
        refine y_if_eq (pc := 109) (tgt := 225) F dX11_callOn_109 rfl ?_ ?_
        · exact hK225 x8 o9
        · refine y_aload_n (pc := 112) F dX11_callOn_112 rfl ?_
          refine y_iload_n (pc := 113) F dX11_callOn_113 rfl ?_
          refine y_iload_n (pc := 114) F dX11_callOn_114 rfl ?_
          refine y_calllW (As := [.int x8, .int a1]) (st := []) (q0 := 0) (pc := 115) F (c_X11_valueOf (q := q) o9 x8 a1) dX11_callOn_115 kM_X11_319 ⟨rfl, rfl⟩ ⟨Nat.le_of_ble_eq_true rfl, Nat.le_of_ble_eq_true rfl⟩ rfl rfl rfl (Nat.le_of_ble_eq_true rfl) rfl rfl WM_at0 (fun r15 => ?_)
          refine y_lstore (lv' := [some (.ref (q 0)), some (.int a1), some (.int r2), some (.int x8), some (.long r15), none, none, none]) (pc := 118) F dX11_callOn_118 (Nat.le_of_ble_eq_true rfl) rfl rfl ?_
          refine y_iconst (v := 0) (pc := 120) F dX11_callOn_120 rfl ?_
          refine y_istore (lv' := [some (.ref (q 0)), some (.int a1), some (.int r2), some (.int x8), some (.long r15), none, some (.int (0 : Int32)), none]) (pc := 121) F dX11_callOn_121 (Nat.le_of_ble_eq_true rfl) rfl rfl ?_
          exact wlX11_callOn_123 q a1 r2 r15 F hr hK225 zfu x8 (0 : Int32) o9
set_option maxHeartbeats 4000000 in
set_option maxRecDepth 100000 in
theorem wlX11_callOn_2 {X : ZX} {out : Ob} (q : Nat → Nat) (a1 : Int32) (F : zF l D tA RX11 cX11_callOn 8 rmX11_callOn X) (hr : zRv X D cX11_callOn (fun (r : Ob) => (WM tA q r)) out) {K77 : Ob → Option Ob} (hK77 : ∀ (o1 : Ob), zY X D out (K77 o1) (WM tA q o1) 77 [some (.ref (q 0)), some (.int a1), none, none, none, none, none, none] []) : ∀ (f : Nat) (x23 : Int32) (o24 : Ob), zY X D out (lX11_callOn_2 a1 K77 f x23 o24) (WM tA q o24) 2 [some (.ref (q 0)), some (.int a1), some (.int x23), none, none, none, none, none] [] := by
  intro f
  induction f with
  | zero =>
    intro x23 o24
    exact y_none
  | succ f ih =>
    intro x23 o24
    rw [lX11_callOn_2.eq_2]
    refine y_iload_n (pc := 2) F dX11_callOn_2 rfl ?_
    refine y_bipush (v := 64) (pc := 3) F dX11_callOn_3 rfl ?_
    refine y_icmp_ge (pc := 5) (tgt := 77) F dX11_callOn_5 rfl ?_ ?_
    · refine y_le (lv' := [some (.ref (q 0)), some (.int a1), none, none, none, none, none, none]) ⟨rfl, ⟨rfl, trivial⟩⟩ ?_
      exact hK77 o24
    · refine y_aload_n (pc := 8) F dX11_callOn_8 rfl ?_
      refine y_get (pc := 9) F dX11_callOn_9 kF_X11_90 0 WM_at0 rfl ?_
      refine y_iload_n (pc := 12) F dX11_callOn_12 rfl ?_
      refine y_iload_n (pc := 13) F dX11_callOn_13 rfl ?_
      refine y_jn (fun (K58 : Int64 → Option Ob) => ∀ (y25 : Int64), zY X D out (K58 y25) (WM tA q o24) 58 [some (.ref (q 0)), some (.int a1), some (.int x23), none, none, none, none, none] [.long y25, .int x23, .ref (q 26)]) ?_ ?_
      · intro y25
        refine y_last (pc := 58) F dX11_callOn_58 26 WM_at26 (fun (o26 : Ob) => (WM tA q o26)) (WM_ar26 _) (fun o26 => ?_)
        refine y_aload_n (pc := 59) F dX11_callOn_59 rfl ?_
        refine y_get (pc := 60) F dX11_callOn_60 kF_X11_94 0 WM_at0 rfl ?_
        refine y_iload_n (pc := 63) F dX11_callOn_63 rfl ?_
        refine y_aload_n (pc := 64) F dX11_callOn_64 rfl ?_
        refine y_get (pc := 65) F dX11_callOn_65 kF_X11_90 0 WM_at0 rfl ?_
        refine y_iload_n (pc := 68) F dX11_callOn_68 rfl ?_
        refine y_lald (pc := 69) F dX11_callOn_69 26 WM_at26 ?_
        refine y_last (pc := 70) F dX11_callOn_70 27 WM_at27 (fun (o27 : Ob) => (WM tA q o27)) (WM_ar27 _) (fun o27 => ?_)
        refine y_iinc (v := 1) (lf := fun (x28 : Int32) => [some (.ref (q 0)), some (.int a1), some (.int x28), none, none, none, none, none]) (pc := 71) F dX11_callOn_71 rfl rfl rfl (fun _ => rfl) (fun x28 => ?_)
        refine y_goto (tgt := 2) (pc := 74) F dX11_callOn_74 rfl ?_
        exact ih x28 o27
      intro K58 hK58
      refine y_if_ne (pc := 14) (tgt := 31) F dX11_callOn_14 rfl ?_ ?_
      · refine y_iload_n (pc := 17) F dX11_callOn_17 rfl ?_
        refine y_if_ne (pc := 18) (tgt := 25) F dX11_callOn_18 rfl ?_ ?_
        · refine y_lconst (v := 0) (pc := 21) F dX11_callOn_21 rfl ?_
          refine y_goto (tgt := 58) (pc := 22) F dX11_callOn_22 rfl ?_
          exact hK58 (0 : Int64)
        · refine y_ldc2 (pc := 25) F dX11_callOn_25 kC_X11_306 ?_
          refine y_goto (tgt := 58) (pc := 28) F dX11_callOn_28 rfl ?_
          exact hK58 (-1 : Int64)
      · refine y_aload_n (pc := 31) F dX11_callOn_31 rfl ?_
        refine y_get (pc := 32) F dX11_callOn_32 kF_X11_90 0 WM_at0 rfl ?_
        refine y_iload_n (pc := 35) F dX11_callOn_35 rfl ?_
        refine y_lald (pc := 36) F dX11_callOn_36 26 WM_at26 ?_
        refine y_lconst (v := 0) (pc := 37) F dX11_callOn_37 rfl ?_
        refine y_lcmp_ge (pc := 38) (tgt := 48) F dX11_callOn_38 dX11_callOn_39 rfl ?_ ?_
        · refine y_aload_n (pc := 48) F dX11_callOn_48 rfl ?_
          refine y_get (pc := 49) F dX11_callOn_49 kF_X11_90 0 WM_at0 rfl ?_
          refine y_iload_n (pc := 52) F dX11_callOn_52 rfl ?_
          refine y_lald (pc := 53) F dX11_callOn_53 26 WM_at26 ?_
          refine y_ldc2 (pc := 54) F dX11_callOn_54 kC_X11_308 ?_
          refine y_ldiv (pc := 57) F dX11_callOn_57 ?_
          exact hK58 (((gb o24 42 (x23.toNatClampNeg)) / (2 : Int64)))
        · refine y_ldc2 (pc := 42) F dX11_callOn_42 kC_X11_306 ?_
          refine y_goto (tgt := 58) (pc := 45) F dX11_callOn_45 rfl ?_
          exact hK58 (-1 : Int64)
set_option maxHeartbeats 4000000 in
set_option maxRecDepth 100000 in
theorem c_X11_callOn {q : Nat → Nat} (o : Ob) (a1 : Int32) : zCv l D tA yX11_callOn cX11_callOn 8 rmX11_callOn [.ref (q 0), .int a1] (WM tA q o) (fun (r : Ob) => (WM tA q r)) (pX11_callOn o a1) := by
  refine zCv_of (lv0 := [some (.ref (q 0)), some (.int a1), none, none, none, none, none, none]) (by decide +kernel) (Nat.le_of_ble_eq_true rfl) rfl (fun X out F hr => ?_)
  unfold pX11_callOn
  refine y_iconst (v := 0) (pc := 0) F dX11_callOn_0 rfl ?_
  refine y_istore_n (lv' := [some (.ref (q 0)), some (.int a1), some (.int (0 : Int32)), none, none, none, none, none]) (pc := 1) F dX11_callOn_1 (Nat.le_of_ble_eq_true rfl) rfl rfl ?_
  refine y_jn (fun (K77 : Ob → Option Ob) => ∀ (o1 : Ob), zY X D out (K77 o1) (WM tA q o1) 77 [some (.ref (q 0)), some (.int a1), none, none, none, none, none, none] []) ?_ ?_
  · intro o1
    refine y_aload_n (pc := 77) F dX11_callOn_77 rfl ?_
    refine y_iload_n (pc := 78) F dX11_callOn_78 rfl ?_
    refine y_calliW (As := [.int a1]) (st := []) (q0 := 0) (pc := 79) F (c_X11_room (q := q) o1 a1) dX11_callOn_79 kM_X11_310 ⟨rfl, rfl⟩ ⟨Nat.le_of_ble_eq_true rfl, Nat.le_of_ble_eq_true rfl⟩ rfl rfl rfl (Nat.le_of_ble_eq_true rfl) rfl rfl WM_at0 (fun r2 => ?_)
    refine y_istore_n (lv' := [some (.ref (q 0)), some (.int a1), some (.int r2), none, none, none, none, none]) (pc := 82) F dX11_callOn_82 (Nat.le_of_ble_eq_true rfl) rfl rfl ?_
    refine y_iconst (v := 1) (pc := 83) F dX11_callOn_83 rfl ?_
    refine y_istore_n (lv' := [some (.ref (q 0)), some (.int a1), some (.int r2), some (.int (1 : Int32)), none, none, none, none]) (pc := 84) F dX11_callOn_84 (Nat.le_of_ble_eq_true rfl) rfl rfl ?_
    refine y_jn (fun (K231 : Ob → Option Ob) => ∀ (o3 : Ob), zY X D out (K231 o3) (WM tA q o3) 231 [some (.ref (q 0)), none, none, none, none, none, none, none] []) ?_ ?_
    · intro o3
      refine y_iconst (v := 0) (pc := 231) F dX11_callOn_231 rfl ?_
      refine y_istore_n (lv' := [some (.ref (q 0)), none, none, some (.int (0 : Int32)), none, none, none, none]) (pc := 232) F dX11_callOn_232 (Nat.le_of_ble_eq_true rfl) rfl rfl ?_
      exact wlX11_callOn_233 q F hr zfu (0 : Int32) o3
    intro K231 hK231
    exact wlX11_callOn_85 q a1 r2 F hr hK231 zfu (1 : Int32) o1
  intro K77 hK77
  exact wlX11_callOn_2 q a1 F hr hK77 zfu (0 : Int32) o
abbrev rmX11_findMosts : Room := { frames := 5, cells := 0, slots := 0, locals := 120 }
def lX11_findMosts_2 (a1 : Int32) : Nat → Int32 → Ob → Option Ob
  | 0, _, _ => none
  | f + 1, x1, o2 =>
    if a1 < x1 then (some o2)
    else (Option.bind (pX11_callOn o2 x1) fun (r3 : Ob) =>
    zlet (x1 + (1 : Int32)) fun (x4 : Int32) =>
    lX11_findMosts_2 a1 f x4 r3)
def pX11_findMosts (o : Ob) (a1 : Int32) : Option Ob :=
  lX11_findMosts_2 a1 zfu (0 : Int32) o
set_option maxHeartbeats 4000000 in
set_option maxRecDepth 100000 in
theorem wlX11_findMosts_2 {X : ZX} {out : Ob} (q : Nat → Nat) (a1 : Int32) (F : zF l D tA RX11 cX11_findMosts 3 rmX11_findMosts X) (hr : zRv X D cX11_findMosts (fun (r : Ob) => (WM tA q r)) out) : ∀ (f : Nat) (x1 : Int32) (o2 : Ob), zY X D out (lX11_findMosts_2 a1 f x1 o2) (WM tA q o2) 2 [some (.ref (q 0)), some (.int a1), some (.int x1)] [] := by
  intro f
  induction f with
  | zero =>
    intro x1 o2
    exact y_none
  | succ f ih =>
    intro x1 o2
    rw [lX11_findMosts_2.eq_2]
    refine y_iload_n (pc := 2) F dX11_findMosts_2 rfl ?_
    refine y_iload_n (pc := 3) F dX11_findMosts_3 rfl ?_
    refine y_icmp_gt (pc := 4) (tgt := 18) F dX11_findMosts_4 rfl ?_ ?_
    · exact y_vret hr dX11_findMosts_18 rfl
    · refine y_aload_n (pc := 7) F dX11_findMosts_7 rfl ?_
      refine y_iload_n (pc := 8) F dX11_findMosts_8 rfl ?_
      refine y_callvW (As := [.int x1]) (st := []) (q0 := 0) (pc := 9) F (c_X11_callOn (q := q) o2 x1) dX11_findMosts_9 kM_X11_323 ⟨rfl, rfl⟩ ⟨Nat.le_of_ble_eq_true rfl, Nat.le_of_ble_eq_true rfl⟩ rfl rfl rfl (Nat.le_of_ble_eq_true rfl) rfl rfl WM_at0 (fun r3 => ?_)
      refine y_iinc (v := 1) (lf := fun (x4 : Int32) => [some (.ref (q 0)), some (.int a1), some (.int x4)]) (pc := 12) F dX11_findMosts_12 rfl rfl rfl (fun _ => rfl) (fun x4 => ?_)
      refine y_goto (tgt := 2) (pc := 15) F dX11_findMosts_15 rfl ?_
      exact ih x4 r3
set_option maxHeartbeats 4000000 in
set_option maxRecDepth 100000 in
theorem c_X11_findMosts {q : Nat → Nat} (o : Ob) (a1 : Int32) : zCv l D tA yX11_findMosts cX11_findMosts 3 rmX11_findMosts [.ref (q 0), .int a1] (WM tA q o) (fun (r : Ob) => (WM tA q r)) (pX11_findMosts o a1) := by
  refine zCv_of (lv0 := [some (.ref (q 0)), some (.int a1), none]) (by decide +kernel) (Nat.le_of_ble_eq_true rfl) rfl (fun X out F hr => ?_)
  unfold pX11_findMosts
  refine y_iconst (v := 0) (pc := 0) F dX11_findMosts_0 rfl ?_
  refine y_istore_n (lv' := [some (.ref (q 0)), some (.int a1), some (.int (0 : Int32))]) (pc := 1) F dX11_findMosts_1 (Nat.le_of_ble_eq_true rfl) rfl rfl ?_
  exact wlX11_findMosts_2 q a1 F hr zfu (0 : Int32) o
abbrev rmX11_wholeBy : Room := { frames := 0, cells := 0, slots := 0, locals := 0 }
def lX11_wholeBy_17 (o : Ob) (a1 : Int32) (a2 : Int32) (a3 : Int64) : Nat → Int64 → Int32 → Option Int64
  | 0, _, _ => none
  | f + 1, y2, x3 =>
    if ((30 : Int32) - a2) ≤ x3 then (some ((y2 + a3) >>> ((30 : Int32).toInt64 &&& 63)))
    else (zgd (((400 : Int32) * a1) + x3) 2400 <| zlet ((y2 + (((ga o 18 ((((400 : Int32) * a1) + x3).toNatClampNeg)).toInt64) <<< (((((30 : Int32) - a2) - (1 : Int32)) - x3).toInt64 &&& 63)))) fun (y4 : Int64) =>
    zlet (x3 + (1 : Int32)) fun (x5 : Int32) =>
    lX11_wholeBy_17 o a1 a2 a3 f y4 x5)
def pX11_wholeBy (o : Ob) (a1 : Int32) (a2 : Int32) (a3 : Int64) : Option Int64 :=
  zgd a1 6 <| zlet ((((ga o 17 (a1.toNatClampNeg)).toInt64) <<< (((30 : Int32) - a2).toInt64 &&& 63))) fun (y1 : Int64) =>
  lX11_wholeBy_17 o a1 a2 a3 zfu y1 (0 : Int32)
set_option maxHeartbeats 4000000 in
set_option maxRecDepth 100000 in
theorem wlX11_wholeBy_17 {X : ZX} {out : Int64} (q : Nat → Nat) (o : Ob) (a1 : Int32) (a2 : Int32) (a3 : Int64) (F : zF l D tA RX11 cX11_wholeBy 8 rmX11_wholeBy X) (hr : zRl X D cX11_wholeBy (fun (r : Int64) => r) (fun (r : Int64) => (WM tA q o)) out) : ∀ (f : Nat) (y2 : Int64) (x3 : Int32), zY X D out (lX11_wholeBy_17 o a1 a2 a3 f y2 x3) (WM tA q o) 17 [some (.ref (q 0)), some (.int a1), some (.int a2), some (.long a3), none, some (.long y2), none, some (.int x3)] [] := by
  intro f
  induction f with
  | zero =>
    intro y2 x3
    exact y_none
  | succ f ih =>
    intro y2 x3
    rw [lX11_wholeBy_17.eq_2]
    refine y_iload (pc := 17) F dX11_wholeBy_17 rfl ?_
    refine y_bipush (v := 30) (pc := 19) F dX11_wholeBy_19 rfl ?_
    refine y_iload_n (pc := 21) F dX11_wholeBy_21 rfl ?_
    refine y_isub (pc := 22) F dX11_wholeBy_22 ?_
    refine y_icmp_ge (pc := 23) (tgt := 61) F dX11_wholeBy_23 rfl ?_ ?_
    · refine y_lload (pc := 61) F dX11_wholeBy_61 rfl ?_
      refine y_lload_n (pc := 63) F dX11_wholeBy_63 rfl ?_
      refine y_ladd (pc := 64) F dX11_wholeBy_64 ?_
      refine y_bipush (v := 30) (pc := 65) F dX11_wholeBy_65 rfl ?_
      refine y_lshr (pc := 67) F dX11_wholeBy_67 ?_
      exact y_lret hr dX11_wholeBy_68 rfl rfl
    · refine y_lload (pc := 26) F dX11_wholeBy_26 rfl ?_
      refine y_aload_n (pc := 28) F dX11_wholeBy_28 rfl ?_
      refine y_get (pc := 29) F dX11_wholeBy_29 kF_X11_50 0 WM_at0 rfl ?_
      refine y_sipush (v := 400) (pc := 32) F dX11_wholeBy_32 rfl ?_
      refine y_iload_n (pc := 35) F dX11_wholeBy_35 rfl ?_
      refine y_imul (pc := 36) F dX11_wholeBy_36 ?_
      refine y_iload (pc := 37) F dX11_wholeBy_37 rfl ?_
      refine y_iadd (pc := 39) F dX11_wholeBy_39 ?_
      refine y_iald (pc := 40) F dX11_wholeBy_40 14 WM_at14 ?_
      refine y_i2l (pc := 41) F dX11_wholeBy_41 ?_
      refine y_bipush (v := 30) (pc := 42) F dX11_wholeBy_42 rfl ?_
      refine y_iload_n (pc := 44) F dX11_wholeBy_44 rfl ?_
      refine y_isub (pc := 45) F dX11_wholeBy_45 ?_
      refine y_iconst (v := 1) (pc := 46) F dX11_wholeBy_46 rfl ?_
      refine y_isub (pc := 47) F dX11_wholeBy_47 ?_
      refine y_iload (pc := 48) F dX11_wholeBy_48 rfl ?_
      refine y_isub (pc := 50) F dX11_wholeBy_50 ?_
      refine y_lshl (pc := 51) F dX11_wholeBy_51 ?_
      refine y_ladd (pc := 52) F dX11_wholeBy_52 ?_
      refine y_ltl (fun y4 => ?_)
      refine y_lstore (lv' := [some (.ref (q 0)), some (.int a1), some (.int a2), some (.long a3), none, some (.long y4), none, some (.int x3)]) (pc := 53) F dX11_wholeBy_53 (Nat.le_of_ble_eq_true rfl) rfl rfl ?_
      refine y_iinc (v := 1) (lf := fun (x5 : Int32) => [some (.ref (q 0)), some (.int a1), some (.int a2), some (.long a3), none, some (.long y4), none, some (.int x5)]) (pc := 55) F dX11_wholeBy_55 rfl rfl rfl (fun _ => rfl) (fun x5 => ?_)
      refine y_goto (tgt := 17) (pc := 58) F dX11_wholeBy_58 rfl ?_
      exact ih y4 x5
set_option maxHeartbeats 4000000 in
set_option maxRecDepth 100000 in
theorem c_X11_wholeBy {q : Nat → Nat} (o : Ob) (a1 : Int32) (a2 : Int32) (a3 : Int64) : zCl l D tA yX11_wholeBy cX11_wholeBy 8 rmX11_wholeBy [.ref (q 0), .int a1, .int a2, .long a3] (WM tA q o) (fun (r : Int64) => r) (fun (r : Int64) => (WM tA q o)) (pX11_wholeBy o a1 a2 a3) := by
  refine zCl_of (lv0 := [some (.ref (q 0)), some (.int a1), some (.int a2), some (.long a3), none, none, none, none]) (by decide +kernel) (Nat.le_of_ble_eq_true rfl) rfl (fun X out F hr => ?_)
  unfold pX11_wholeBy
  refine y_aload_n (pc := 0) F dX11_wholeBy_0 rfl ?_
  refine y_get (pc := 1) F dX11_wholeBy_1 kF_X11_47 0 WM_at0 rfl ?_
  refine y_iload_n (pc := 4) F dX11_wholeBy_4 rfl ?_
  refine y_iald (pc := 5) F dX11_wholeBy_5 13 WM_at13 ?_
  refine y_i2l (pc := 6) F dX11_wholeBy_6 ?_
  refine y_bipush (v := 30) (pc := 7) F dX11_wholeBy_7 rfl ?_
  refine y_iload_n (pc := 9) F dX11_wholeBy_9 rfl ?_
  refine y_isub (pc := 10) F dX11_wholeBy_10 ?_
  refine y_lshl (pc := 11) F dX11_wholeBy_11 ?_
  refine y_ltl (fun y1 => ?_)
  refine y_lstore (lv' := [some (.ref (q 0)), some (.int a1), some (.int a2), some (.long a3), none, some (.long y1), none, none]) (pc := 12) F dX11_wholeBy_12 (Nat.le_of_ble_eq_true rfl) rfl rfl ?_
  refine y_iconst (v := 0) (pc := 14) F dX11_wholeBy_14 rfl ?_
  refine y_istore (lv' := [some (.ref (q 0)), some (.int a1), some (.int a2), some (.long a3), none, some (.long y1), none, some (.int (0 : Int32))]) (pc := 15) F dX11_wholeBy_15 (Nat.le_of_ble_eq_true rfl) rfl rfl ?_
  exact wlX11_wholeBy_17 q o a1 a2 a3 F hr zfu y1 (0 : Int32)
abbrev rmX11_unsettle : Room := { frames := 0, cells := 0, slots := 0, locals := 0 }
def lX11_unsettle_2 : Nat → Int32 → Ob → Option Ob
  | 0, _, _ => none
  | f + 1, x1, o2 =>
    if (6 : Int32) ≤ x1 then (some o2)
    else (zgd x1 6 <| zlet (sa o2 41 (upd (ga o2 41) (x1.toNatClampNeg) (-1 : Int32))) fun (o3 : Ob) =>
    zlet (x1 + (1 : Int32)) fun (x4 : Int32) =>
    lX11_unsettle_2 f x4 o3)
def pX11_unsettle (o : Ob) : Option Ob :=
  lX11_unsettle_2 zfu (0 : Int32) o
set_option maxHeartbeats 4000000 in
set_option maxRecDepth 100000 in
theorem wlX11_unsettle_2 {X : ZX} {out : Ob} (q : Nat → Nat) (F : zF l D tA RX11 cX11_unsettle 2 rmX11_unsettle X) (hr : zRv X D cX11_unsettle (fun (r : Ob) => (WM tA q r)) out) : ∀ (f : Nat) (x1 : Int32) (o2 : Ob), zY X D out (lX11_unsettle_2 f x1 o2) (WM tA q o2) 2 [some (.ref (q 0)), some (.int x1)] [] := by
  intro f
  induction f with
  | zero =>
    intro x1 o2
    exact y_none
  | succ f ih =>
    intro x1 o2
    rw [lX11_unsettle_2.eq_2]
    refine y_iload_n (pc := 2) F dX11_unsettle_2 rfl ?_
    refine y_bipush (v := 6) (pc := 3) F dX11_unsettle_3 rfl ?_
    refine y_icmp_ge (pc := 5) (tgt := 21) F dX11_unsettle_5 rfl ?_ ?_
    · exact y_vret hr dX11_unsettle_21 rfl
    · refine y_aload_n (pc := 8) F dX11_unsettle_8 rfl ?_
      refine y_get (pc := 9) F dX11_unsettle_9 kF_X11_87 0 WM_at0 rfl ?_
      refine y_iload_n (pc := 12) F dX11_unsettle_12 rfl ?_
      refine y_iconst (v := -1) (pc := 13) F dX11_unsettle_13 rfl ?_
      refine y_iast (pc := 14) F dX11_unsettle_14 25 WM_at25 (fun (o3 : Ob) => (WM tA q o3)) (WM_ar25 _) (fun o3 => ?_)
      refine y_iinc (v := 1) (lf := fun (x4 : Int32) => [some (.ref (q 0)), some (.int x4)]) (pc := 15) F dX11_unsettle_15 rfl rfl rfl (fun _ => rfl) (fun x4 => ?_)
      refine y_goto (tgt := 2) (pc := 18) F dX11_unsettle_18 rfl ?_
      exact ih x4 o3
set_option maxHeartbeats 4000000 in
set_option maxRecDepth 100000 in
theorem c_X11_unsettle {q : Nat → Nat} (o : Ob) : zCv l D tA yX11_unsettle cX11_unsettle 2 rmX11_unsettle [.ref (q 0)] (WM tA q o) (fun (r : Ob) => (WM tA q r)) (pX11_unsettle o) := by
  refine zCv_of (lv0 := [some (.ref (q 0)), none]) (by decide +kernel) (Nat.le_of_ble_eq_true rfl) rfl (fun X out F hr => ?_)
  unfold pX11_unsettle
  refine y_iconst (v := 0) (pc := 0) F dX11_unsettle_0 rfl ?_
  refine y_istore_n (lv' := [some (.ref (q 0)), some (.int (0 : Int32))]) (pc := 1) F dX11_unsettle_1 (Nat.le_of_ble_eq_true rfl) rfl rfl ?_
  exact wlX11_unsettle_2 q F hr zfu (0 : Int32) o
abbrev rmX11_greatest : Room := { frames := 0, cells := 0, slots := 0, locals := 0 }
def lX11_greatest_4 (o : Ob) : Nat → Int64 → Int32 → Option Int64
  | 0, _, _ => none
  | f + 1, y1, x2 =>
    if (64 : Int32) ≤ x2 then (some y1)
    else (zgd x2 64 <| zjn (fun (y3 : Int64) =>
    zlet (x2 + (1 : Int32)) fun (x4 : Int32) =>
    lX11_greatest_4 o f y3 x4) fun (K31 : Int64 → Option Int64) =>
    if (gb o 42 (x2.toNatClampNeg)) ≤ y1 then (K31 y1)
    else (zgd x2 64 <| K31 ((gb o 42 (x2.toNatClampNeg)))))
def pX11_greatest (o : Ob) : Option Int64 :=
  lX11_greatest_4 o zfu (0 : Int64) (0 : Int32)
set_option maxHeartbeats 4000000 in
set_option maxRecDepth 100000 in
theorem wlX11_greatest_4 {X : ZX} {out : Int64} (q : Nat → Nat) (o : Ob) (F : zF l D tA RX11 cX11_greatest 4 rmX11_greatest X) (hr : zRl X D cX11_greatest (fun (r : Int64) => r) (fun (r : Int64) => (WM tA q o)) out) : ∀ (f : Nat) (y1 : Int64) (x2 : Int32), zY X D out (lX11_greatest_4 o f y1 x2) (WM tA q o) 4 [some (.ref (q 0)), some (.long y1), none, some (.int x2)] [] := by
  intro f
  induction f with
  | zero =>
    intro y1 x2
    exact y_none
  | succ f ih =>
    intro y1 x2
    rw [lX11_greatest_4.eq_2]
    refine y_iload_n (pc := 4) F dX11_greatest_4 rfl ?_
    refine y_bipush (v := 64) (pc := 5) F dX11_greatest_5 rfl ?_
    refine y_icmp_ge (pc := 7) (tgt := 38) F dX11_greatest_7 rfl ?_ ?_
    · refine y_lload_n (pc := 38) F dX11_greatest_38 rfl ?_
      exact y_lret hr dX11_greatest_39 rfl rfl
    · refine y_aload_n (pc := 10) F dX11_greatest_10 rfl ?_
      refine y_get (pc := 11) F dX11_greatest_11 kF_X11_90 0 WM_at0 rfl ?_
      refine y_iload_n (pc := 14) F dX11_greatest_14 rfl ?_
      refine y_lald (pc := 15) F dX11_greatest_15 26 WM_at26 ?_
      refine y_lload_n (pc := 16) F dX11_greatest_16 rfl ?_
      refine y_jn (fun (K31 : Int64 → Option Int64) => ∀ (y3 : Int64), zY X D out (K31 y3) (WM tA q o) 31 [some (.ref (q 0)), none, none, some (.int x2)] [.long y3]) ?_ ?_
      · intro y3
        refine y_lstore_n (lv' := [some (.ref (q 0)), some (.long y3), none, some (.int x2)]) (pc := 31) F dX11_greatest_31 (Nat.le_of_ble_eq_true rfl) rfl rfl ?_
        refine y_iinc (v := 1) (lf := fun (x4 : Int32) => [some (.ref (q 0)), some (.long y3), none, some (.int x4)]) (pc := 32) F dX11_greatest_32 rfl rfl rfl (fun _ => rfl) (fun x4 => ?_)
        refine y_goto (tgt := 4) (pc := 35) F dX11_greatest_35 rfl ?_
        exact ih y3 x4
      intro K31 hK31
      refine y_lcmp_le (pc := 17) (tgt := 30) F dX11_greatest_17 dX11_greatest_18 rfl ?_ ?_
      · refine y_lload_n (pc := 30) F dX11_greatest_30 rfl ?_
        refine y_le (lv' := [some (.ref (q 0)), none, none, some (.int x2)]) ⟨rfl, ⟨rfl, trivial⟩⟩ ?_
        exact hK31 y1
      · refine y_aload_n (pc := 21) F dX11_greatest_21 rfl ?_
        refine y_get (pc := 22) F dX11_greatest_22 kF_X11_90 0 WM_at0 rfl ?_
        refine y_iload_n (pc := 25) F dX11_greatest_25 rfl ?_
        refine y_lald (pc := 26) F dX11_greatest_26 26 WM_at26 ?_
        refine y_goto (tgt := 31) (pc := 27) F dX11_greatest_27 rfl ?_
        refine y_le (lv' := [some (.ref (q 0)), none, none, some (.int x2)]) ⟨rfl, ⟨rfl, trivial⟩⟩ ?_
        exact hK31 ((gb o 42 (x2.toNatClampNeg)))
set_option maxHeartbeats 4000000 in
set_option maxRecDepth 100000 in
theorem c_X11_greatest {q : Nat → Nat} (o : Ob) : zCl l D tA yX11_greatest cX11_greatest 4 rmX11_greatest [.ref (q 0)] (WM tA q o) (fun (r : Int64) => r) (fun (r : Int64) => (WM tA q o)) (pX11_greatest o) := by
  refine zCl_of (lv0 := [some (.ref (q 0)), none, none, none]) (by decide +kernel) (Nat.le_of_ble_eq_true rfl) rfl (fun X out F hr => ?_)
  unfold pX11_greatest
  refine y_lconst (v := 0) (pc := 0) F dX11_greatest_0 rfl ?_
  refine y_lstore_n (lv' := [some (.ref (q 0)), some (.long (0 : Int64)), none, none]) (pc := 1) F dX11_greatest_1 (Nat.le_of_ble_eq_true rfl) rfl rfl ?_
  refine y_iconst (v := 0) (pc := 2) F dX11_greatest_2 rfl ?_
  refine y_istore_n (lv' := [some (.ref (q 0)), some (.long (0 : Int64)), none, some (.int (0 : Int32))]) (pc := 3) F dX11_greatest_3 (Nat.le_of_ble_eq_true rfl) rfl rfl ?_
  exact wlX11_greatest_4 q o F hr zfu (0 : Int64) (0 : Int32)
abbrev rmX11_mostOn : Room := { frames := 6, cells := 0, slots := 0, locals := 142 }
def pX11_mostOn (o : Ob) (a1 : Int32) (a2 : Int32) : Option (Int64 × Ob) :=
  Option.bind (pX11_listOwn o a1) fun (r1 : Ob) =>
  Option.bind (pX11_unsettle r1) fun (r2 : Ob) =>
  Option.bind (pX11_findMosts r2 a2) fun (r3 : Ob) =>
  Option.bind (pX11_greatest r3) fun (r4 : Int64) =>
  Option.bind (pX11_wholeBy r3 a1 a2 r4) fun (r5 : Int64) =>
  some (r5, r3)
set_option maxHeartbeats 4000000 in
set_option maxRecDepth 100000 in
theorem c_X11_mostOn {q : Nat → Nat} (o : Ob) (a1 : Int32) (a2 : Int32) : zCl l D tA yX11_mostOn cX11_mostOn 3 rmX11_mostOn [.ref (q 0), .int a1, .int a2] (WM tA q o) (fun (r : Int64 × Ob) => (r.1)) (fun (r : Int64 × Ob) => (WM tA q (r.2))) (pX11_mostOn o a1 a2) := by
  refine zCl_of (lv0 := [some (.ref (q 0)), some (.int a1), some (.int a2)]) (by decide +kernel) (Nat.le_of_ble_eq_true rfl) rfl (fun X out F hr => ?_)
  unfold pX11_mostOn
  refine y_aload_n (pc := 0) F dX11_mostOn_0 rfl ?_
  refine y_iload_n (pc := 1) F dX11_mostOn_1 rfl ?_
  refine y_callvW (As := [.int a1]) (st := []) (q0 := 0) (pc := 2) F (c_X11_listOwn (q := q) o a1) dX11_mostOn_2 kM_X11_332 ⟨rfl, rfl⟩ ⟨Nat.le_of_ble_eq_true rfl, Nat.le_of_ble_eq_true rfl⟩ rfl rfl rfl (Nat.le_of_ble_eq_true rfl) rfl rfl WM_at0 (fun r1 => ?_)
  refine y_aload_n (pc := 5) F dX11_mostOn_5 rfl ?_
  refine y_callvW (As := []) (st := []) (q0 := 0) (pc := 6) F (c_X11_unsettle (q := q) r1) dX11_mostOn_6 kM_X11_335 ⟨rfl, rfl⟩ ⟨Nat.le_of_ble_eq_true rfl, Nat.le_of_ble_eq_true rfl⟩ rfl rfl rfl (Nat.le_of_ble_eq_true rfl) rfl rfl WM_at0 (fun r2 => ?_)
  refine y_aload_n (pc := 9) F dX11_mostOn_9 rfl ?_
  refine y_iload_n (pc := 10) F dX11_mostOn_10 rfl ?_
  refine y_callvW (As := [.int a2]) (st := []) (q0 := 0) (pc := 11) F (c_X11_findMosts (q := q) r2 a2) dX11_mostOn_11 kM_X11_338 ⟨rfl, rfl⟩ ⟨Nat.le_of_ble_eq_true rfl, Nat.le_of_ble_eq_true rfl⟩ rfl rfl rfl (Nat.le_of_ble_eq_true rfl) rfl rfl WM_at0 (fun r3 => ?_)
  refine y_aload_n (pc := 14) F dX11_mostOn_14 rfl ?_
  refine y_iload_n (pc := 15) F dX11_mostOn_15 rfl ?_
  refine y_iload_n (pc := 16) F dX11_mostOn_16 rfl ?_
  refine y_aload_n (pc := 17) F dX11_mostOn_17 rfl ?_
  refine y_calllW (As := []) (st := [.int a2, .int a1, .ref (q 0)]) (q0 := 0) (pc := 18) F (c_X11_greatest (q := q) r3) dX11_mostOn_18 kM_X11_341 ⟨rfl, rfl⟩ ⟨Nat.le_of_ble_eq_true rfl, Nat.le_of_ble_eq_true rfl⟩ rfl rfl rfl (Nat.le_of_ble_eq_true rfl) rfl rfl WM_at0 (fun r4 => ?_)
  refine y_calllW (As := [.int a1, .int a2, .long r4]) (st := []) (q0 := 0) (pc := 21) F (c_X11_wholeBy (q := q) r3 a1 a2 r4) dX11_mostOn_21 kM_X11_345 ⟨rfl, rfl⟩ ⟨Nat.le_of_ble_eq_true rfl, Nat.le_of_ble_eq_true rfl⟩ rfl rfl rfl (Nat.le_of_ble_eq_true rfl) rfl rfl WM_at0 (fun r5 => ?_)
  exact y_lret hr dX11_mostOn_24 rfl rfl
abbrev rmX11_most : Room := { frames := 7, cells := 0, slots := 0, locals := 164 }
def pX11_most (o : Ob) (a1 : Int32) (a2 : Int32) : Option (Int32 × Ob) :=
  Option.bind (pX11_isSuit o a1) fun (r1 : Int32) =>
  if r1 = 0 then (some ((-1000000001 : Int32), o))
  else (Option.bind (pX11_in (a2.toInt64) (0 : Int64) (30 : Int64)) fun (r2 : Int32) =>
  if r2 = 0 then (some ((-1000000002 : Int32), o))
  else (zgd a1 6 <| if (ga o 15 (a1.toNatClampNeg)) = 0 then (if ((gi o 13) + a2) ≤ (399 : Int32) then (Option.bind (pX11_mostOn o a1 a2) fun (r3 : Int64 × Ob) =>
  some (((r3.1).toInt32), (r3.2)))
  else (some ((-1000000003 : Int32), o)))
  else (some ((-1000000003 : Int32), o))))
set_option maxHeartbeats 4000000 in
set_option maxRecDepth 100000 in
theorem c_X11_most {q : Nat → Nat} (o : Ob) (a1 : Int32) (a2 : Int32) : zCi l D tA yX11_most cX11_most 3 .int rmX11_most [.ref (q 0), .int a1, .int a2] (WM tA q o) (fun (r : Int32 × Ob) => (r.1)) (fun (r : Int32 × Ob) => (WM tA q (r.2))) (pX11_most o a1 a2) := by
  refine zCi_of (lv0 := [some (.ref (q 0)), some (.int a1), some (.int a2)]) (by decide +kernel) (Nat.le_of_ble_eq_true rfl) rfl (fun X out F hr => ?_)
  unfold pX11_most
  refine y_aload_n (pc := 0) F dX11_most_0 rfl ?_
  refine y_iload_n (pc := 1) F dX11_most_1 rfl ?_
  refine y_calliW (As := [.int a1]) (st := []) (q0 := 0) (pc := 2) F (c_X11_isSuit (q := q) o a1) dX11_most_2 kM_X11_244 ⟨rfl, rfl⟩ ⟨Nat.le_of_ble_eq_true rfl, Nat.le_of_ble_eq_true rfl⟩ rfl rfl rfl (Nat.le_of_ble_eq_true rfl) rfl rfl WM_at0 (fun r1 => ?_)
  refine y_if_ne (pc := 5) (tgt := 11) F dX11_most_5 rfl ?_ ?_
  · refine y_ldc (pc := 8) F dX11_most_8 kC_X11_248 ?_
    exact y_iret hr dX11_most_10 rfl rfl
  · refine y_iload_n (pc := 11) F dX11_most_11 rfl ?_
    refine y_i2l (pc := 12) F dX11_most_12 ?_
    refine y_lconst (v := 0) (pc := 13) F dX11_most_13 rfl ?_
    refine y_ldc2 (pc := 14) F dX11_most_14 kC_X11_349 ?_
    refine y_scalliP (As := [.long (a2.toInt64), .long (0 : Int64), .long (30 : Int64)]) (st := []) (pc := 17) F (c_X11_in (q := q) (a2.toInt64) (0 : Int64) (30 : Int64)) dX11_most_17 kM_X11_127 ⟨rfl, rfl⟩ ⟨Nat.le_of_ble_eq_true rfl, Nat.le_of_ble_eq_true rfl⟩ rfl rfl rfl (Nat.le_of_ble_eq_true rfl) (fun r2 => ?_)
    refine y_if_ne (pc := 20) (tgt := 26) F dX11_most_20 rfl ?_ ?_
    · refine y_ldc (pc := 23) F dX11_most_23 kC_X11_136 ?_
      exact y_iret hr dX11_most_25 rfl rfl
    · refine y_aload_n (pc := 26) F dX11_most_26 rfl ?_
      refine y_get (pc := 27) F dX11_most_27 kF_X11_41 0 WM_at0 rfl ?_
      refine y_iload_n (pc := 30) F dX11_most_30 rfl ?_
      refine y_iald (pc := 31) F dX11_most_31 11 WM_at11 ?_
      refine y_if_ne (pc := 32) (tgt := 47) F dX11_most_32 rfl ?_ ?_
      · refine y_aload_n (pc := 35) F dX11_most_35 rfl ?_
        refine y_get (pc := 36) F dX11_most_36 kF_X11_223 0 WM_at0 rfl ?_
        refine y_iload_n (pc := 39) F dX11_most_39 rfl ?_
        refine y_iadd (pc := 40) F dX11_most_40 ?_
        refine y_sipush (v := 399) (pc := 41) F dX11_most_41 rfl ?_
        refine y_icmp_le (pc := 44) (tgt := 50) F dX11_most_44 rfl ?_ ?_
        · refine y_aload_n (pc := 50) F dX11_most_50 rfl ?_
          refine y_iload_n (pc := 51) F dX11_most_51 rfl ?_
          refine y_iload_n (pc := 52) F dX11_most_52 rfl ?_
          refine y_calllW (As := [.int a1, .int a2]) (st := []) (q0 := 0) (pc := 53) F (c_X11_mostOn (q := q) o a1 a2) dX11_most_53 kM_X11_351 ⟨rfl, rfl⟩ ⟨Nat.le_of_ble_eq_true rfl, Nat.le_of_ble_eq_true rfl⟩ rfl rfl rfl (Nat.le_of_ble_eq_true rfl) rfl rfl WM_at0 (fun r3 => ?_)
          refine y_l2i (pc := 56) F dX11_most_56 ?_
          exact y_iret hr dX11_most_57 rfl rfl
        · refine y_ldc (pc := 47) F dX11_most_47 kC_X11_232 ?_
          exact y_iret hr dX11_most_49 rfl rfl
      · refine y_ldc (pc := 47) F dX11_most_47 kC_X11_232 ?_
        exact y_iret hr dX11_most_49 rfl rfl
abbrev rmX11_soonestOf : Room := { frames := 5, cells := 0, slots := 0, locals := 120 }
def lX11_soonestOf_22 (a1 : Int32) : Nat → Int32 → Ob → Option (Int32 × Ob)
  | 0, _, _ => none
  | f + 1, x3, o4 =>
    if (30 : Int32) < x3 then (some ((-1 : Int32), o4))
    else (if (399 : Int32) < ((gi o4 13) + x3) then (some ((-1 : Int32), o4))
    else (Option.bind (pX11_callOn o4 x3) fun (r5 : Ob) =>
    Option.bind (pX11_greatest r5) fun (r6 : Int64) =>
    Option.bind (pX11_wholeBy r5 a1 x3 r6) fun (r7 : Int64) =>
    zgd a1 6 <| if r7 < ((3 : Int64) * ((ga r5 1 (a1.toNatClampNeg)).toInt64)) then (zlet (x3 + (1 : Int32)) fun (x8 : Int32) =>
    lX11_soonestOf_22 a1 f x8 r5)
    else (some (x3, r5))))
def pX11_soonestOf (o : Ob) (a1 : Int32) : Option (Int32 × Ob) :=
  zgd a1 6 <| if (ga o 15 (a1.toNatClampNeg)) = 0 then (Option.bind (pX11_listOwn o a1) fun (r1 : Ob) =>
  Option.bind (pX11_unsettle r1) fun (r2 : Ob) =>
  lX11_soonestOf_22 a1 zfu (0 : Int32) r2)
  else (some ((-1 : Int32), o))
set_option maxHeartbeats 4000000 in
set_option maxRecDepth 100000 in
theorem wlX11_soonestOf_22 {X : ZX} {out : (Int32 × Ob)} (q : Nat → Nat) (a1 : Int32) (F : zF l D tA RX11 cX11_soonestOf 3 rmX11_soonestOf X) (hr : zRi X D cX11_soonestOf .int (fun (r : Int32 × Ob) => (r.1)) (fun (r : Int32 × Ob) => (WM tA q (r.2))) out) : ∀ (f : Nat) (x3 : Int32) (o4 : Ob), zY X D out (lX11_soonestOf_22 a1 f x3 o4) (WM tA q o4) 22 [some (.ref (q 0)), some (.int a1), some (.int x3)] [] := by
  intro f
  induction f with
  | zero =>
    intro x3 o4
    exact y_none
  | succ f ih =>
    intro x3 o4
    rw [lX11_soonestOf_22.eq_2]
    refine y_iload_n (pc := 22) F dX11_soonestOf_22 rfl ?_
    refine y_bipush (v := 30) (pc := 23) F dX11_soonestOf_23 rfl ?_
    refine y_icmp_gt (pc := 25) (tgt := 78) F dX11_soonestOf_25 rfl ?_ ?_
    · refine y_iconst (v := -1) (pc := 78) F dX11_soonestOf_78 rfl ?_
      exact y_iret hr dX11_soonestOf_79 rfl rfl
    · refine y_aload_n (pc := 28) F dX11_soonestOf_28 rfl ?_
      refine y_get (pc := 29) F dX11_soonestOf_29 kF_X11_223 0 WM_at0 rfl ?_
      refine y_iload_n (pc := 32) F dX11_soonestOf_32 rfl ?_
      refine y_iadd (pc := 33) F dX11_soonestOf_33 ?_
      refine y_sipush (v := 399) (pc := 34) F dX11_soonestOf_34 rfl ?_
      refine y_icmp_gt (pc := 37) (tgt := 78) F dX11_soonestOf_37 rfl ?_ ?_
      · refine y_iconst (v := -1) (pc := 78) F dX11_soonestOf_78 rfl ?_
        exact y_iret hr dX11_soonestOf_79 rfl rfl
      · refine y_aload_n (pc := 40) F dX11_soonestOf_40 rfl ?_
        refine y_iload_n (pc := 41) F dX11_soonestOf_41 rfl ?_
        refine y_callvW (As := [.int x3]) (st := []) (q0 := 0) (pc := 42) F (c_X11_callOn (q := q) o4 x3) dX11_soonestOf_42 kM_X11_323 ⟨rfl, rfl⟩ ⟨Nat.le_of_ble_eq_true rfl, Nat.le_of_ble_eq_true rfl⟩ rfl rfl rfl (Nat.le_of_ble_eq_true rfl) rfl rfl WM_at0 (fun r5 => ?_)
        refine y_aload_n (pc := 45) F dX11_soonestOf_45 rfl ?_
        refine y_iload_n (pc := 46) F dX11_soonestOf_46 rfl ?_
        refine y_iload_n (pc := 47) F dX11_soonestOf_47 rfl ?_
        refine y_aload_n (pc := 48) F dX11_soonestOf_48 rfl ?_
        refine y_calllW (As := []) (st := [.int x3, .int a1, .ref (q 0)]) (q0 := 0) (pc := 49) F (c_X11_greatest (q := q) r5) dX11_soonestOf_49 kM_X11_341 ⟨rfl, rfl⟩ ⟨Nat.le_of_ble_eq_true rfl, Nat.le_of_ble_eq_true rfl⟩ rfl rfl rfl (Nat.le_of_ble_eq_true rfl) rfl rfl WM_at0 (fun r6 => ?_)
        refine y_calllW (As := [.int a1, .int x3, .long r6]) (st := []) (q0 := 0) (pc := 52) F (c_X11_wholeBy (q := q) r5 a1 x3 r6) dX11_soonestOf_52 kM_X11_345 ⟨rfl, rfl⟩ ⟨Nat.le_of_ble_eq_true rfl, Nat.le_of_ble_eq_true rfl⟩ rfl rfl rfl (Nat.le_of_ble_eq_true rfl) rfl rfl WM_at0 (fun r7 => ?_)
        refine y_ldc2 (pc := 55) F dX11_soonestOf_55 kC_X11_354 ?_
        refine y_aload_n (pc := 58) F dX11_soonestOf_58 rfl ?_
        refine y_get (pc := 59) F dX11_soonestOf_59 kF_X11_7 0 WM_at0 rfl ?_
        refine y_iload_n (pc := 62) F dX11_soonestOf_62 rfl ?_
        refine y_iald (pc := 63) F dX11_soonestOf_63 1 WM_at1 ?_
        refine y_i2l (pc := 64) F dX11_soonestOf_64 ?_
        refine y_lmul (pc := 65) F dX11_soonestOf_65 ?_
        refine y_lcmp_lt (pc := 66) (tgt := 72) F dX11_soonestOf_66 dX11_soonestOf_67 rfl ?_ ?_
        · refine y_iinc (v := 1) (lf := fun (x8 : Int32) => [some (.ref (q 0)), some (.int a1), some (.int x8)]) (pc := 72) F dX11_soonestOf_72 rfl rfl rfl (fun _ => rfl) (fun x8 => ?_)
          refine y_goto (tgt := 22) (pc := 75) F dX11_soonestOf_75 rfl ?_
          exact ih x8 r5
        · refine y_iload_n (pc := 70) F dX11_soonestOf_70 rfl ?_
          exact y_iret hr dX11_soonestOf_71 rfl rfl
set_option maxHeartbeats 4000000 in
set_option maxRecDepth 100000 in
theorem c_X11_soonestOf {q : Nat → Nat} (o : Ob) (a1 : Int32) : zCi l D tA yX11_soonestOf cX11_soonestOf 3 .int rmX11_soonestOf [.ref (q 0), .int a1] (WM tA q o) (fun (r : Int32 × Ob) => (r.1)) (fun (r : Int32 × Ob) => (WM tA q (r.2))) (pX11_soonestOf o a1) := by
  refine zCi_of (lv0 := [some (.ref (q 0)), some (.int a1), none]) (by decide +kernel) (Nat.le_of_ble_eq_true rfl) rfl (fun X out F hr => ?_)
  unfold pX11_soonestOf
  refine y_aload_n (pc := 0) F dX11_soonestOf_0 rfl ?_
  refine y_get (pc := 1) F dX11_soonestOf_1 kF_X11_41 0 WM_at0 rfl ?_
  refine y_iload_n (pc := 4) F dX11_soonestOf_4 rfl ?_
  refine y_iald (pc := 5) F dX11_soonestOf_5 11 WM_at11 ?_
  refine y_if_eq (pc := 6) (tgt := 11) F dX11_soonestOf_6 rfl ?_ ?_
  · refine y_aload_n (pc := 11) F dX11_soonestOf_11 rfl ?_
    refine y_iload_n (pc := 12) F dX11_soonestOf_12 rfl ?_
    refine y_callvW (As := [.int a1]) (st := []) (q0 := 0) (pc := 13) F (c_X11_listOwn (q := q) o a1) dX11_soonestOf_13 kM_X11_332 ⟨rfl, rfl⟩ ⟨Nat.le_of_ble_eq_true rfl, Nat.le_of_ble_eq_true rfl⟩ rfl rfl rfl (Nat.le_of_ble_eq_true rfl) rfl rfl WM_at0 (fun r1 => ?_)
    refine y_aload_n (pc := 16) F dX11_soonestOf_16 rfl ?_
    refine y_callvW (As := []) (st := []) (q0 := 0) (pc := 17) F (c_X11_unsettle (q := q) r1) dX11_soonestOf_17 kM_X11_335 ⟨rfl, rfl⟩ ⟨Nat.le_of_ble_eq_true rfl, Nat.le_of_ble_eq_true rfl⟩ rfl rfl rfl (Nat.le_of_ble_eq_true rfl) rfl rfl WM_at0 (fun r2 => ?_)
    refine y_iconst (v := 0) (pc := 20) F dX11_soonestOf_20 rfl ?_
    refine y_istore_n (lv' := [some (.ref (q 0)), some (.int a1), some (.int (0 : Int32))]) (pc := 21) F dX11_soonestOf_21 (Nat.le_of_ble_eq_true rfl) rfl rfl ?_
    exact wlX11_soonestOf_22 q a1 F hr zfu (0 : Int32) r2
  · refine y_iconst (v := -1) (pc := 9) F dX11_soonestOf_9 rfl ?_
    exact y_iret hr dX11_soonestOf_10 rfl rfl
abbrev rmX11_soonest : Room := { frames := 6, cells := 0, slots := 0, locals := 142 }
def pX11_soonest (o : Ob) (a1 : Int32) : Option (Int32 × Ob) :=
  Option.bind (pX11_isSuit o a1) fun (r1 : Int32) =>
  if r1 = 0 then (some ((-1000000001 : Int32), o))
  else (Option.bind (pX11_soonestOf o a1) fun (r2 : Int32 × Ob) =>
  some ((r2.1), (r2.2)))
set_option maxHeartbeats 4000000 in
set_option maxRecDepth 100000 in
theorem c_X11_soonest {q : Nat → Nat} (o : Ob) (a1 : Int32) : zCi l D tA yX11_soonest cX11_soonest 2 .int rmX11_soonest [.ref (q 0), .int a1] (WM tA q o) (fun (r : Int32 × Ob) => (r.1)) (fun (r : Int32 × Ob) => (WM tA q (r.2))) (pX11_soonest o a1) := by
  refine zCi_of (lv0 := [some (.ref (q 0)), some (.int a1)]) (by decide +kernel) (Nat.le_of_ble_eq_true rfl) rfl (fun X out F hr => ?_)
  unfold pX11_soonest
  refine y_aload_n (pc := 0) F dX11_soonest_0 rfl ?_
  refine y_iload_n (pc := 1) F dX11_soonest_1 rfl ?_
  refine y_calliW (As := [.int a1]) (st := []) (q0 := 0) (pc := 2) F (c_X11_isSuit (q := q) o a1) dX11_soonest_2 kM_X11_244 ⟨rfl, rfl⟩ ⟨Nat.le_of_ble_eq_true rfl, Nat.le_of_ble_eq_true rfl⟩ rfl rfl rfl (Nat.le_of_ble_eq_true rfl) rfl rfl WM_at0 (fun r1 => ?_)
  refine y_if_eq (pc := 5) (tgt := 16) F dX11_soonest_5 rfl ?_ ?_
  · refine y_ldc (pc := 16) F dX11_soonest_16 kC_X11_248 ?_
    exact y_iret hr dX11_soonest_18 rfl rfl
  · refine y_aload_n (pc := 8) F dX11_soonest_8 rfl ?_
    refine y_iload_n (pc := 9) F dX11_soonest_9 rfl ?_
    refine y_calliW (As := [.int a1]) (st := []) (q0 := 0) (pc := 10) F (c_X11_soonestOf (q := q) o a1) dX11_soonest_10 kM_X11_356 ⟨rfl, rfl⟩ ⟨Nat.le_of_ble_eq_true rfl, Nat.le_of_ble_eq_true rfl⟩ rfl rfl rfl (Nat.le_of_ble_eq_true rfl) rfl rfl WM_at0 (fun r2 => ?_)
    refine y_goto (tgt := 18) (pc := 13) F dX11_soonest_13 rfl ?_
    exact y_iret hr dX11_soonest_18 rfl rfl
abbrev rmX11_isEnoughBy : Room := { frames := 6, cells := 0, slots := 0, locals := 142 }
def pX11_isEnoughBy (o : Ob) (a1 : Int32) (a2 : Int32) (a3 : Int32) : Option (Int32 × Ob) :=
  Option.bind (pX11_findMosts o a2) fun (r1 : Ob) =>
  zgd a3 64 <| if (gb r1 42 (a3.toNatClampNeg)) < (0 : Int64) then (zgz (0 : Int32) (some ((0 : Int32), r1)))
  else (zgd a3 64 <| Option.bind (pX11_wholeBy r1 a1 a2 (gb r1 42 (a3.toNatClampNeg))) fun (r2 : Int64) =>
  zgd a1 6 <| if r2 < ((3 : Int64) * ((ga r1 1 (a1.toNatClampNeg)).toInt64)) then (zgz (0 : Int32) (some ((0 : Int32), r1)))
  else (zgz (1 : Int32) (some ((1 : Int32), r1))))
set_option maxHeartbeats 4000000 in
set_option maxRecDepth 100000 in
theorem c_X11_isEnoughBy {q : Nat → Nat} (o : Ob) (a1 : Int32) (a2 : Int32) (a3 : Int32) : zCi l D tA yX11_isEnoughBy cX11_isEnoughBy 4 .boolean rmX11_isEnoughBy [.ref (q 0), .int a1, .int a2, .int a3] (WM tA q o) (fun (r : Int32 × Ob) => (r.1)) (fun (r : Int32 × Ob) => (WM tA q (r.2))) (pX11_isEnoughBy o a1 a2 a3) := by
  refine zCi_of (lv0 := [some (.ref (q 0)), some (.int a1), some (.int a2), some (.int a3)]) (by decide +kernel) (Nat.le_of_ble_eq_true rfl) rfl (fun X out F hr => ?_)
  unfold pX11_isEnoughBy
  refine y_aload_n (pc := 0) F dX11_isEnoughBy_0 rfl ?_
  refine y_iload_n (pc := 1) F dX11_isEnoughBy_1 rfl ?_
  refine y_callvW (As := [.int a2]) (st := []) (q0 := 0) (pc := 2) F (c_X11_findMosts (q := q) o a2) dX11_isEnoughBy_2 kM_X11_338 ⟨rfl, rfl⟩ ⟨Nat.le_of_ble_eq_true rfl, Nat.le_of_ble_eq_true rfl⟩ rfl rfl rfl (Nat.le_of_ble_eq_true rfl) rfl rfl WM_at0 (fun r1 => ?_)
  refine y_aload_n (pc := 5) F dX11_isEnoughBy_5 rfl ?_
  refine y_get (pc := 6) F dX11_isEnoughBy_6 kF_X11_90 0 WM_at0 rfl ?_
  refine y_iload_n (pc := 9) F dX11_isEnoughBy_9 rfl ?_
  refine y_lald (pc := 10) F dX11_isEnoughBy_10 26 WM_at26 ?_
  refine y_lconst (v := 0) (pc := 11) F dX11_isEnoughBy_11 rfl ?_
  refine y_lcmp_lt (pc := 12) (tgt := 47) F dX11_isEnoughBy_12 dX11_isEnoughBy_13 rfl ?_ ?_
  · refine y_iconst (v := 0) (pc := 47) F dX11_isEnoughBy_47 rfl ?_
    exact y_zret hr dX11_isEnoughBy_48 rfl rfl
  · refine y_aload_n (pc := 16) F dX11_isEnoughBy_16 rfl ?_
    refine y_iload_n (pc := 17) F dX11_isEnoughBy_17 rfl ?_
    refine y_iload_n (pc := 18) F dX11_isEnoughBy_18 rfl ?_
    refine y_aload_n (pc := 19) F dX11_isEnoughBy_19 rfl ?_
    refine y_get (pc := 20) F dX11_isEnoughBy_20 kF_X11_90 0 WM_at0 rfl ?_
    refine y_iload_n (pc := 23) F dX11_isEnoughBy_23 rfl ?_
    refine y_lald (pc := 24) F dX11_isEnoughBy_24 26 WM_at26 ?_
    refine y_calllW (As := [.int a1, .int a2, .long (gb r1 42 (a3.toNatClampNeg))]) (st := []) (q0 := 0) (pc := 25) F (c_X11_wholeBy (q := q) r1 a1 a2 (gb r1 42 (a3.toNatClampNeg))) dX11_isEnoughBy_25 kM_X11_345 ⟨rfl, rfl⟩ ⟨Nat.le_of_ble_eq_true rfl, Nat.le_of_ble_eq_true rfl⟩ rfl rfl rfl (Nat.le_of_ble_eq_true rfl) rfl rfl WM_at0 (fun r2 => ?_)
    refine y_ldc2 (pc := 28) F dX11_isEnoughBy_28 kC_X11_354 ?_
    refine y_aload_n (pc := 31) F dX11_isEnoughBy_31 rfl ?_
    refine y_get (pc := 32) F dX11_isEnoughBy_32 kF_X11_7 0 WM_at0 rfl ?_
    refine y_iload_n (pc := 35) F dX11_isEnoughBy_35 rfl ?_
    refine y_iald (pc := 36) F dX11_isEnoughBy_36 1 WM_at1 ?_
    refine y_i2l (pc := 37) F dX11_isEnoughBy_37 ?_
    refine y_lmul (pc := 38) F dX11_isEnoughBy_38 ?_
    refine y_lcmp_lt (pc := 39) (tgt := 47) F dX11_isEnoughBy_39 dX11_isEnoughBy_40 rfl ?_ ?_
    · refine y_iconst (v := 0) (pc := 47) F dX11_isEnoughBy_47 rfl ?_
      exact y_zret hr dX11_isEnoughBy_48 rfl rfl
    · refine y_iconst (v := 1) (pc := 43) F dX11_isEnoughBy_43 rfl ?_
      refine y_goto (tgt := 48) (pc := 44) F dX11_isEnoughBy_44 rfl ?_
      exact y_zret hr dX11_isEnoughBy_48 rfl rfl
abbrev rmX11_findPlan : Room := { frames := 7, cells := 0, slots := 0, locals := 165 }
def lX11_findPlan_152 (a1 : Int32) (r1 : Int32 × Ob) (K176 : Int32 → Int32 → Ob → Option (Int32 × Ob)) : Nat → Int32 → Int32 → Ob → Option (Int32 × Ob)
  | 0, _, _, _ => none
  | f + 1, x15, x16, o17 =>
    Option.bind (pX11_isEnoughBy o17 a1 (r1.1) x15) fun (r18 : Int32 × Ob) =>
    if (r18.1) = 0 then (zgd x16 6 <| zgd x16 6 <| zlet (sa (r18.2) 41 (upd (ga (r18.2) 41) (x16.toNatClampNeg) ((ga (r18.2) 41 (x16.toNatClampNeg)) - (1 : Int32)))) fun (o19 : Ob) =>
    lX11_findPlan_152 a1 r1 K176 f x15 x16 o19)
    else (K176 x15 x16 (r18.2))
def lX11_findPlan_126 (a1 : Int32) (r1 : Int32 × Ob) : Nat → Int32 → Int32 → Ob → Option (Int32 × Ob)
  | 0, _, _, _ => none
  | f + 1, x6, x7, o8 =>
    if (gi o8 40) ≤ x7 then (some (x6, o8))
    else (Option.bind (pX11_has x6 x7) fun (r9 : Int32) =>
    zjn (fun (x10 : Int32) (x11 : Int32) (o12 : Ob) =>
    zlet (x11 + (1 : Int32)) fun (x13 : Int32) =>
    lX11_findPlan_126 a1 r1 f x10 x13 o12) fun (K176 : Int32 → Int32 → Ob → Option (Int32 × Ob)) =>
    if r9 = 0 then (K176 x6 x7 o8)
    else (zgd x7 6 <| zlet (sa o8 41 (upd (ga o8 41) (x7.toNatClampNeg) (r1.1))) fun (o14 : Ob) =>
    lX11_findPlan_152 a1 r1 K176 zfu x6 x7 o14))
def lX11_findPlan_31 (a1 : Int32) (r1 : Int32 × Ob) (r4 : Ob) (K123 : Int32 → Option (Int32 × Ob)) : Nat → Int32 → Int32 → Option (Int32 × Ob)
  | 0, _, _ => none
  | f + 1, x20, x21 =>
    if ((1 : Int32) <<< ((gi r4 40) &&& 31)) ≤ x21 then (K123 x20)
    else (zgd x21 64 <| zjn (fun (x22 : Int32) =>
    zjn (fun (x23 : Int32) =>
    zlet (x21 + (1 : Int32)) fun (x24 : Int32) =>
    lX11_findPlan_31 a1 r1 r4 K123 f x23 x24) fun (K116 : Int32 → Option (Int32 × Ob)) =>
    zjn (K116 x20) fun (K115 : Option (Int32 × Ob)) =>
    if x22 = 0 then (K115)
    else (zjn (K116 x21) fun (K110 : Option (Int32 × Ob)) =>
    if x20 < 0 then (K110)
    else (Option.bind (pX11_bits x21) fun (r25 : Int32) =>
    Option.bind (pX11_bits x20) fun (r26 : Int32) =>
    if r26 ≤ r25 then (K115)
    else (K110)))) fun (K87 : Int32 → Option (Int32 × Ob)) =>
    zjn (K87 (0 : Int32)) fun (K86 : Option (Int32 × Ob)) =>
    if (gb r4 42 (x21.toNatClampNeg)) < (0 : Int64) then (K86)
    else (zgd x21 64 <| Option.bind (pX11_wholeBy r4 a1 (r1.1) (gb r4 42 (x21.toNatClampNeg))) fun (r27 : Int64) =>
    zgd a1 6 <| if r27 < ((3 : Int64) * ((ga r4 1 (a1.toNatClampNeg)).toInt64)) then (K86)
    else (K87 (1 : Int32))))
def pX11_findPlan (o : Ob) (a1 : Int32) : Option (Int32 × Ob) :=
  Option.bind (pX11_soonestOf o a1) fun (r1 : Int32 × Ob) =>
  if 0 ≤ (r1.1) then (Option.bind (pX11_listOwn (r1.2) a1) fun (r2 : Ob) =>
  Option.bind (pX11_unsettle r2) fun (r3 : Ob) =>
  Option.bind (pX11_findMosts r3 (r1.1)) fun (r4 : Ob) =>
  zjn (fun (x5 : Int32) =>
  lX11_findPlan_126 a1 r1 zfu x5 (0 : Int32) r4) fun (K123 : Int32 → Option (Int32 × Ob)) =>
  lX11_findPlan_31 a1 r1 r4 K123 zfu (-1 : Int32) (0 : Int32))
  else (some ((-1 : Int32), (r1.2)))
set_option maxHeartbeats 4000000 in
set_option maxRecDepth 100000 in
theorem wlX11_findPlan_152 {X : ZX} {out : (Int32 × Ob)} (q : Nat → Nat) (a1 : Int32) (r1 : Int32 × Ob) (F : zF l D tA RX11 cX11_findPlan 6 rmX11_findPlan X) (hr : zRi X D cX11_findPlan .int (fun (r : Int32 × Ob) => (r.1)) (fun (r : Int32 × Ob) => (WM tA q (r.2))) out) {K176 : Int32 → Int32 → Ob → Option (Int32 × Ob)} (hK176 : ∀ (x10 : Int32) (x11 : Int32) (o12 : Ob), zY X D out (K176 x10 x11 o12) (WM tA q o12) 176 [some (.ref (q 0)), some (.int a1), some (.int (r1.1)), some (.int x10), some (.int x11), none] []) : ∀ (f : Nat) (x15 : Int32) (x16 : Int32) (o17 : Ob), zY X D out (lX11_findPlan_152 a1 r1 K176 f x15 x16 o17) (WM tA q o17) 152 [some (.ref (q 0)), some (.int a1), some (.int (r1.1)), some (.int x15), some (.int x16), none] [] := by
  intro f
  induction f with
  | zero =>
    intro x15 x16 o17
    exact y_none
  | succ f ih =>
    intro x15 x16 o17
    rw [lX11_findPlan_152.eq_2]
    refine y_aload_n (pc := 152) F dX11_findPlan_152 rfl ?_
    refine y_iload_n (pc := 153) F dX11_findPlan_153 rfl ?_
    refine y_iload_n (pc := 154) F dX11_findPlan_154 rfl ?_
    refine y_iload_n (pc := 155) F dX11_findPlan_155 rfl ?_
    refine y_calliW (As := [.int a1, .int (r1.1), .int x15]) (st := []) (q0 := 0) (pc := 156) F (c_X11_isEnoughBy (q := q) o17 a1 (r1.1) x15) dX11_findPlan_156 kM_X11_359 ⟨rfl, rfl⟩ ⟨Nat.le_of_ble_eq_true rfl, Nat.le_of_ble_eq_true rfl⟩ rfl rfl rfl (Nat.le_of_ble_eq_true rfl) rfl rfl WM_at0 (fun r18 => ?_)
    refine y_if_ne (pc := 159) (tgt := 176) F dX11_findPlan_159 rfl ?_ ?_
    · refine y_aload_n (pc := 162) F dX11_findPlan_162 rfl ?_
      refine y_get (pc := 163) F dX11_findPlan_163 kF_X11_87 0 WM_at0 rfl ?_
      refine y_iload (pc := 166) F dX11_findPlan_166 rfl ?_
      refine y_dup2 (pc := 168) F dX11_findPlan_168 rfl rfl ?_
      refine y_iald (pc := 169) F dX11_findPlan_169 25 WM_at25 ?_
      refine y_iconst (v := 1) (pc := 170) F dX11_findPlan_170 rfl ?_
      refine y_isub (pc := 171) F dX11_findPlan_171 ?_
      refine y_iast (pc := 172) F dX11_findPlan_172 25 WM_at25 (fun (o19 : Ob) => (WM tA q o19)) (WM_ar25 _) (fun o19 => ?_)
      refine y_goto (tgt := 152) (pc := 173) F dX11_findPlan_173 rfl ?_
      exact ih x15 x16 o19
    · exact hK176 x15 x16 (r18.2)
set_option maxHeartbeats 4000000 in
set_option maxRecDepth 100000 in
theorem wlX11_findPlan_126 {X : ZX} {out : (Int32 × Ob)} (q : Nat → Nat) (a1 : Int32) (r1 : Int32 × Ob) (F : zF l D tA RX11 cX11_findPlan 6 rmX11_findPlan X) (hr : zRi X D cX11_findPlan .int (fun (r : Int32 × Ob) => (r.1)) (fun (r : Int32 × Ob) => (WM tA q (r.2))) out) : ∀ (f : Nat) (x6 : Int32) (x7 : Int32) (o8 : Ob), zY X D out (lX11_findPlan_126 a1 r1 f x6 x7 o8) (WM tA q o8) 126 [some (.ref (q 0)), some (.int a1), some (.int (r1.1)), some (.int x6), some (.int x7), none] [] := by
  intro f
  induction f with
  | zero =>
    intro x6 x7 o8
    exact y_none
  | succ f ih =>
    intro x6 x7 o8
    rw [lX11_findPlan_126.eq_2]
    refine y_iload (pc := 126) F dX11_findPlan_126 rfl ?_
    refine y_aload_n (pc := 128) F dX11_findPlan_128 rfl ?_
    refine y_get (pc := 129) F dX11_findPlan_129 kF_X11_303 0 WM_at0 rfl ?_
    refine y_icmp_ge (pc := 132) (tgt := 182) F dX11_findPlan_132 rfl ?_ ?_
    · refine y_iload_n (pc := 182) F dX11_findPlan_182 rfl ?_
      exact y_iret hr dX11_findPlan_183 rfl rfl
    · refine y_iload_n (pc := 135) F dX11_findPlan_135 rfl ?_
      refine y_iload (pc := 136) F dX11_findPlan_136 rfl ?_
      refine y_scalliP (As := [.int x6, .int x7]) (st := []) (pc := 138) F (c_X11_has (q := q) x6 x7) dX11_findPlan_138 kM_X11_326 ⟨rfl, rfl⟩ ⟨Nat.le_of_ble_eq_true rfl, Nat.le_of_ble_eq_true rfl⟩ rfl rfl rfl (Nat.le_of_ble_eq_true rfl) (fun r9 => ?_)
      refine y_jn (fun (K176 : Int32 → Int32 → Ob → Option (Int32 × Ob)) => ∀ (x10 : Int32) (x11 : Int32) (o12 : Ob), zY X D out (K176 x10 x11 o12) (WM tA q o12) 176 [some (.ref (q 0)), some (.int a1), some (.int (r1.1)), some (.int x10), some (.int x11), none] []) ?_ ?_
      · intro x10 x11 o12
        refine y_iinc (v := 1) (lf := fun (x13 : Int32) => [some (.ref (q 0)), some (.int a1), some (.int (r1.1)), some (.int x10), some (.int x13), none]) (pc := 176) F dX11_findPlan_176 rfl rfl rfl (fun _ => rfl) (fun x13 => ?_)
        refine y_goto (tgt := 126) (pc := 179) F dX11_findPlan_179 rfl ?_
        exact ih x10 x13 o12
      intro K176 hK176
      refine y_if_eq (pc := 141) (tgt := 176) F dX11_findPlan_141 rfl ?_ ?_
      · exact hK176 x6 x7 o8
      · refine y_aload_n (pc := 144) F dX11_findPlan_144 rfl ?_
        refine y_get (pc := 145) F dX11_findPlan_145 kF_X11_87 0 WM_at0 rfl ?_
        refine y_iload (pc := 148) F dX11_findPlan_148 rfl ?_
        refine y_iload_n (pc := 150) F dX11_findPlan_150 rfl ?_
        refine y_iast (pc := 151) F dX11_findPlan_151 25 WM_at25 (fun (o14 : Ob) => (WM tA q o14)) (WM_ar25 _) (fun o14 => ?_)
        exact wlX11_findPlan_152 q a1 r1 F hr hK176 zfu x6 x7 o14
set_option maxHeartbeats 4000000 in
set_option maxRecDepth 100000 in
theorem wlX11_findPlan_31 {X : ZX} {out : (Int32 × Ob)} (q : Nat → Nat) (a1 : Int32) (r1 : Int32 × Ob) (r4 : Ob) (F : zF l D tA RX11 cX11_findPlan 6 rmX11_findPlan X) (hr : zRi X D cX11_findPlan .int (fun (r : Int32 × Ob) => (r.1)) (fun (r : Int32 × Ob) => (WM tA q (r.2))) out) {K123 : Int32 → Option (Int32 × Ob)} (hK123 : ∀ (x5 : Int32), zY X D out (K123 x5) (WM tA q r4) 123 [some (.ref (q 0)), some (.int a1), some (.int (r1.1)), some (.int x5), none, none] []) : ∀ (f : Nat) (x20 : Int32) (x21 : Int32), zY X D out (lX11_findPlan_31 a1 r1 r4 K123 f x20 x21) (WM tA q r4) 31 [some (.ref (q 0)), some (.int a1), some (.int (r1.1)), some (.int x20), some (.int x21), none] [] := by
  intro f
  induction f with
  | zero =>
    intro x20 x21
    exact y_none
  | succ f ih =>
    intro x20 x21
    rw [lX11_findPlan_31.eq_2]
    refine y_iload (pc := 31) F dX11_findPlan_31 rfl ?_
    refine y_iconst (v := 1) (pc := 33) F dX11_findPlan_33 rfl ?_
    refine y_aload_n (pc := 34) F dX11_findPlan_34 rfl ?_
    refine y_get (pc := 35) F dX11_findPlan_35 kF_X11_303 0 WM_at0 rfl ?_
    refine y_ishl (pc := 38) F dX11_findPlan_38 ?_
    refine y_icmp_ge (pc := 39) (tgt := 123) F dX11_findPlan_39 rfl ?_ ?_
    · refine y_le (lv' := [some (.ref (q 0)), some (.int a1), some (.int (r1.1)), some (.int x20), none, none]) ⟨rfl, ⟨rfl, ⟨rfl, ⟨rfl, trivial⟩⟩⟩⟩ ?_
      exact hK123 x20
    · refine y_aload_n (pc := 42) F dX11_findPlan_42 rfl ?_
      refine y_get (pc := 43) F dX11_findPlan_43 kF_X11_90 0 WM_at0 rfl ?_
      refine y_iload (pc := 46) F dX11_findPlan_46 rfl ?_
      refine y_lald (pc := 48) F dX11_findPlan_48 26 WM_at26 ?_
      refine y_lconst (v := 0) (pc := 49) F dX11_findPlan_49 rfl ?_
      refine y_jn (fun (K87 : Int32 → Option (Int32 × Ob)) => ∀ (x22 : Int32), zY X D out (K87 x22) (WM tA q r4) 87 [some (.ref (q 0)), some (.int a1), some (.int (r1.1)), some (.int x20), some (.int x21), none] [.int x22]) ?_ ?_
      · intro x22
        refine y_istore (lv' := [some (.ref (q 0)), some (.int a1), some (.int (r1.1)), some (.int x20), some (.int x21), some (.int x22)]) (pc := 87) F dX11_findPlan_87 (Nat.le_of_ble_eq_true rfl) rfl rfl ?_
        refine y_iload (pc := 89) F dX11_findPlan_89 rfl ?_
        refine y_jn (fun (K116 : Int32 → Option (Int32 × Ob)) => ∀ (x23 : Int32), zY X D out (K116 x23) (WM tA q r4) 116 [some (.ref (q 0)), some (.int a1), some (.int (r1.1)), none, some (.int x21), none] [.int x23]) ?_ ?_
        · intro x23
          refine y_istore_n (lv' := [some (.ref (q 0)), some (.int a1), some (.int (r1.1)), some (.int x23), some (.int x21), none]) (pc := 116) F dX11_findPlan_116 (Nat.le_of_ble_eq_true rfl) rfl rfl ?_
          refine y_iinc (v := 1) (lf := fun (x24 : Int32) => [some (.ref (q 0)), some (.int a1), some (.int (r1.1)), some (.int x23), some (.int x24), none]) (pc := 117) F dX11_findPlan_117 rfl rfl rfl (fun _ => rfl) (fun x24 => ?_)
          refine y_goto (tgt := 31) (pc := 120) F dX11_findPlan_120 rfl ?_
          exact ih x23 x24
        intro K116 hK116
        refine y_jn (fun (K115 : Option (Int32 × Ob)) => zY X D out (K115) (WM tA q r4) 115 [some (.ref (q 0)), some (.int a1), some (.int (r1.1)), some (.int x20), some (.int x21), none] []) ?_ ?_
        · skip
          refine y_iload_n (pc := 115) F dX11_findPlan_115 rfl ?_
          refine y_le (lv' := [some (.ref (q 0)), some (.int a1), some (.int (r1.1)), none, some (.int x21), none]) ⟨rfl, ⟨rfl, ⟨rfl, ⟨rfl, trivial⟩⟩⟩⟩ ?_
          exact hK116 x20
        intro K115 hK115
        refine y_if_eq (pc := 91) (tgt := 115) F dX11_findPlan_91 rfl ?_ ?_
        · refine y_le (lv' := [some (.ref (q 0)), some (.int a1), some (.int (r1.1)), some (.int x20), some (.int x21), none]) ⟨rfl, ⟨rfl, ⟨rfl, ⟨rfl, ⟨rfl, trivial⟩⟩⟩⟩⟩ ?_
          exact hK115
        · refine y_iload_n (pc := 94) F dX11_findPlan_94 rfl ?_
          refine y_jn (fun (K110 : Option (Int32 × Ob)) => zY X D out (K110) (WM tA q r4) 110 [some (.ref (q 0)), some (.int a1), some (.int (r1.1)), none, some (.int x21), none] []) ?_ ?_
          · skip
            refine y_iload (pc := 110) F dX11_findPlan_110 rfl ?_
            refine y_goto (tgt := 116) (pc := 112) F dX11_findPlan_112 rfl ?_
            exact hK116 x21
          intro K110 hK110
          refine y_if_lt (pc := 95) (tgt := 110) F dX11_findPlan_95 rfl ?_ ?_
          · refine y_le (lv' := [some (.ref (q 0)), some (.int a1), some (.int (r1.1)), none, some (.int x21), none]) ⟨rfl, ⟨rfl, ⟨rfl, ⟨rfl, trivial⟩⟩⟩⟩ ?_
            exact hK110
          · refine y_iload (pc := 98) F dX11_findPlan_98 rfl ?_
            refine y_scalliP (As := [.int x21]) (st := []) (pc := 100) F (c_X11_bits (q := q) x21) dX11_findPlan_100 kM_X11_313 ⟨rfl, rfl⟩ ⟨Nat.le_of_ble_eq_true rfl, Nat.le_of_ble_eq_true rfl⟩ rfl rfl rfl (Nat.le_of_ble_eq_true rfl) (fun r25 => ?_)
            refine y_iload_n (pc := 103) F dX11_findPlan_103 rfl ?_
            refine y_scalliP (As := [.int x20]) (st := [.int r25]) (pc := 104) F (c_X11_bits (q := q) x20) dX11_findPlan_104 kM_X11_313 ⟨rfl, rfl⟩ ⟨Nat.le_of_ble_eq_true rfl, Nat.le_of_ble_eq_true rfl⟩ rfl rfl rfl (Nat.le_of_ble_eq_true rfl) (fun r26 => ?_)
            refine y_icmp_ge (pc := 107) (tgt := 115) F dX11_findPlan_107 rfl ?_ ?_
            · refine y_le (lv' := [some (.ref (q 0)), some (.int a1), some (.int (r1.1)), some (.int x20), some (.int x21), none]) ⟨rfl, ⟨rfl, ⟨rfl, ⟨rfl, ⟨rfl, trivial⟩⟩⟩⟩⟩ ?_
              exact hK115
            · refine y_le (lv' := [some (.ref (q 0)), some (.int a1), some (.int (r1.1)), none, some (.int x21), none]) ⟨rfl, ⟨rfl, ⟨rfl, ⟨rfl, trivial⟩⟩⟩⟩ ?_
              exact hK110
      intro K87 hK87
      refine y_jn (fun (K86 : Option (Int32 × Ob)) => zY X D out (K86) (WM tA q r4) 86 [some (.ref (q 0)), some (.int a1), some (.int (r1.1)), some (.int x20), some (.int x21), none] []) ?_ ?_
      · skip
        refine y_iconst (v := 0) (pc := 86) F dX11_findPlan_86 rfl ?_
        exact hK87 (0 : Int32)
      intro K86 hK86
      refine y_lcmp_lt (pc := 50) (tgt := 86) F dX11_findPlan_50 dX11_findPlan_51 rfl ?_ ?_
      · exact hK86
      · refine y_aload_n (pc := 54) F dX11_findPlan_54 rfl ?_
        refine y_iload_n (pc := 55) F dX11_findPlan_55 rfl ?_
        refine y_iload_n (pc := 56) F dX11_findPlan_56 rfl ?_
        refine y_aload_n (pc := 57) F dX11_findPlan_57 rfl ?_
        refine y_get (pc := 58) F dX11_findPlan_58 kF_X11_90 0 WM_at0 rfl ?_
        refine y_iload (pc := 61) F dX11_findPlan_61 rfl ?_
        refine y_lald (pc := 63) F dX11_findPlan_63 26 WM_at26 ?_
        refine y_calllW (As := [.int a1, .int (r1.1), .long (gb r4 42 (x21.toNatClampNeg))]) (st := []) (q0 := 0) (pc := 64) F (c_X11_wholeBy (q := q) r4 a1 (r1.1) (gb r4 42 (x21.toNatClampNeg))) dX11_findPlan_64 kM_X11_345 ⟨rfl, rfl⟩ ⟨Nat.le_of_ble_eq_true rfl, Nat.le_of_ble_eq_true rfl⟩ rfl rfl rfl (Nat.le_of_ble_eq_true rfl) rfl rfl WM_at0 (fun r27 => ?_)
        refine y_ldc2 (pc := 67) F dX11_findPlan_67 kC_X11_354 ?_
        refine y_aload_n (pc := 70) F dX11_findPlan_70 rfl ?_
        refine y_get (pc := 71) F dX11_findPlan_71 kF_X11_7 0 WM_at0 rfl ?_
        refine y_iload_n (pc := 74) F dX11_findPlan_74 rfl ?_
        refine y_iald (pc := 75) F dX11_findPlan_75 1 WM_at1 ?_
        refine y_i2l (pc := 76) F dX11_findPlan_76 ?_
        refine y_lmul (pc := 77) F dX11_findPlan_77 ?_
        refine y_lcmp_lt (pc := 78) (tgt := 86) F dX11_findPlan_78 dX11_findPlan_79 rfl ?_ ?_
        · exact hK86
        · refine y_iconst (v := 1) (pc := 82) F dX11_findPlan_82 rfl ?_
          refine y_goto (tgt := 87) (pc := 83) F dX11_findPlan_83 rfl ?_
          exact hK87 (1 : Int32)
set_option maxHeartbeats 4000000 in
set_option maxRecDepth 100000 in
theorem c_X11_findPlan {q : Nat → Nat} (o : Ob) (a1 : Int32) : zCi l D tA yX11_findPlan cX11_findPlan 6 .int rmX11_findPlan [.ref (q 0), .int a1] (WM tA q o) (fun (r : Int32 × Ob) => (r.1)) (fun (r : Int32 × Ob) => (WM tA q (r.2))) (pX11_findPlan o a1) := by
  refine zCi_of (lv0 := [some (.ref (q 0)), some (.int a1), none, none, none, none]) (by decide +kernel) (Nat.le_of_ble_eq_true rfl) rfl (fun X out F hr => ?_)
  unfold pX11_findPlan
  refine y_aload_n (pc := 0) F dX11_findPlan_0 rfl ?_
  refine y_iload_n (pc := 1) F dX11_findPlan_1 rfl ?_
  refine y_calliW (As := [.int a1]) (st := []) (q0 := 0) (pc := 2) F (c_X11_soonestOf (q := q) o a1) dX11_findPlan_2 kM_X11_356 ⟨rfl, rfl⟩ ⟨Nat.le_of_ble_eq_true rfl, Nat.le_of_ble_eq_true rfl⟩ rfl rfl rfl (Nat.le_of_ble_eq_true rfl) rfl rfl WM_at0 (fun r1 => ?_)
  refine y_istore_n (lv' := [some (.ref (q 0)), some (.int a1), some (.int (r1.1)), none, none, none]) (pc := 5) F dX11_findPlan_5 (Nat.le_of_ble_eq_true rfl) rfl rfl ?_
  refine y_iload_n (pc := 6) F dX11_findPlan_6 rfl ?_
  refine y_if_ge (pc := 7) (tgt := 12) F dX11_findPlan_7 rfl ?_ ?_
  · refine y_aload_n (pc := 12) F dX11_findPlan_12 rfl ?_
    refine y_iload_n (pc := 13) F dX11_findPlan_13 rfl ?_
    refine y_callvW (As := [.int a1]) (st := []) (q0 := 0) (pc := 14) F (c_X11_listOwn (q := q) (r1.2) a1) dX11_findPlan_14 kM_X11_332 ⟨rfl, rfl⟩ ⟨Nat.le_of_ble_eq_true rfl, Nat.le_of_ble_eq_true rfl⟩ rfl rfl rfl (Nat.le_of_ble_eq_true rfl) rfl rfl WM_at0 (fun r2 => ?_)
    refine y_aload_n (pc := 17) F dX11_findPlan_17 rfl ?_
    refine y_callvW (As := []) (st := []) (q0 := 0) (pc := 18) F (c_X11_unsettle (q := q) r2) dX11_findPlan_18 kM_X11_335 ⟨rfl, rfl⟩ ⟨Nat.le_of_ble_eq_true rfl, Nat.le_of_ble_eq_true rfl⟩ rfl rfl rfl (Nat.le_of_ble_eq_true rfl) rfl rfl WM_at0 (fun r3 => ?_)
    refine y_aload_n (pc := 21) F dX11_findPlan_21 rfl ?_
    refine y_iload_n (pc := 22) F dX11_findPlan_22 rfl ?_
    refine y_callvW (As := [.int (r1.1)]) (st := []) (q0 := 0) (pc := 23) F (c_X11_findMosts (q := q) r3 (r1.1)) dX11_findPlan_23 kM_X11_338 ⟨rfl, rfl⟩ ⟨Nat.le_of_ble_eq_true rfl, Nat.le_of_ble_eq_true rfl⟩ rfl rfl rfl (Nat.le_of_ble_eq_true rfl) rfl rfl WM_at0 (fun r4 => ?_)
    refine y_iconst (v := -1) (pc := 26) F dX11_findPlan_26 rfl ?_
    refine y_istore_n (lv' := [some (.ref (q 0)), some (.int a1), some (.int (r1.1)), some (.int (-1 : Int32)), none, none]) (pc := 27) F dX11_findPlan_27 (Nat.le_of_ble_eq_true rfl) rfl rfl ?_
    refine y_iconst (v := 0) (pc := 28) F dX11_findPlan_28 rfl ?_
    refine y_istore (lv' := [some (.ref (q 0)), some (.int a1), some (.int (r1.1)), some (.int (-1 : Int32)), some (.int (0 : Int32)), none]) (pc := 29) F dX11_findPlan_29 (Nat.le_of_ble_eq_true rfl) rfl rfl ?_
    refine y_jn (fun (K123 : Int32 → Option (Int32 × Ob)) => ∀ (x5 : Int32), zY X D out (K123 x5) (WM tA q r4) 123 [some (.ref (q 0)), some (.int a1), some (.int (r1.1)), some (.int x5), none, none] []) ?_ ?_
    · intro x5
      refine y_iconst (v := 0) (pc := 123) F dX11_findPlan_123 rfl ?_
      refine y_istore (lv' := [some (.ref (q 0)), some (.int a1), some (.int (r1.1)), some (.int x5), some (.int (0 : Int32)), none]) (pc := 124) F dX11_findPlan_124 (Nat.le_of_ble_eq_true rfl) rfl rfl ?_
      exact wlX11_findPlan_126 q a1 r1 F hr zfu x5 (0 : Int32) r4
    intro K123 hK123
    exact wlX11_findPlan_31 q a1 r1 r4 F hr hK123 zfu (-1 : Int32) (0 : Int32)
  · refine y_iconst (v := -1) (pc := 10) F dX11_findPlan_10 rfl ?_
    exact y_iret hr dX11_findPlan_11 rfl rfl
abbrev rmX11_plan : Room := { frames := 8, cells := 0, slots := 0, locals := 190 }
def lX11_plan_27 (a1 : Int32) (r2 : Int32 × Ob) : Nat → Int32 → Int32 → Option (Int32 × Ob)
  | 0, _, _ => none
  | f + 1, x3, x4 =>
    if (gi (r2.2) 40) ≤ x4 then (some (x3, (r2.2)))
    else (if (r2.1) < 0 then (some (x3, (r2.2)))
    else (zgd x4 6 <| zjn (fun (x5 : Int32) =>
    zlet (x4 + (1 : Int32)) fun (x6 : Int32) =>
    lX11_plan_27 a1 r2 f x5 x6) fun (K71 : Int32 → Option (Int32 × Ob)) =>
    zjn (K71 x3) fun (K70 : Option (Int32 × Ob)) =>
    if (ga (r2.2) 39 (x4.toNatClampNeg)) = a1 then (Option.bind (pX11_has (r2.1) x4) fun (r7 : Int32) =>
    if r7 = 0 then (K70)
    else (zgd x4 6 <| K71 ((ga (r2.2) 41 (x4.toNatClampNeg)))))
    else (K70)))
def pX11_plan (o : Ob) (a1 : Int32) : Option (Int32 × Ob) :=
  Option.bind (pX11_isWitness o a1) fun (r1 : Int32) =>
  if r1 = 0 then (some ((-1000000001 : Int32), o))
  else (zgd a1 12 <| Option.bind (pX11_findPlan o (ga o 5 (a1.toNatClampNeg))) fun (r2 : Int32 × Ob) =>
  lX11_plan_27 a1 r2 zfu (-1 : Int32) (0 : Int32))
set_option maxHeartbeats 4000000 in
set_option maxRecDepth 100000 in
theorem wlX11_plan_27 {X : ZX} {out : (Int32 × Ob)} (q : Nat → Nat) (a1 : Int32) (r2 : Int32 × Ob) (F : zF l D tA RX11 cX11_plan 5 rmX11_plan X) (hr : zRi X D cX11_plan .int (fun (r : Int32 × Ob) => (r.1)) (fun (r : Int32 × Ob) => (WM tA q (r.2))) out) : ∀ (f : Nat) (x3 : Int32) (x4 : Int32), zY X D out (lX11_plan_27 a1 r2 f x3 x4) (WM tA q (r2.2)) 27 [some (.ref (q 0)), some (.int a1), some (.int (r2.1)), some (.int x3), some (.int x4)] [] := by
  intro f
  induction f with
  | zero =>
    intro x3 x4
    exact y_none
  | succ f ih =>
    intro x3 x4
    rw [lX11_plan_27.eq_2]
    refine y_iload (pc := 27) F dX11_plan_27 rfl ?_
    refine y_aload_n (pc := 29) F dX11_plan_29 rfl ?_
    refine y_get (pc := 30) F dX11_plan_30 kF_X11_303 0 WM_at0 rfl ?_
    refine y_icmp_ge (pc := 33) (tgt := 78) F dX11_plan_33 rfl ?_ ?_
    · refine y_iload_n (pc := 78) F dX11_plan_78 rfl ?_
      exact y_iret hr dX11_plan_79 rfl rfl
    · refine y_iload_n (pc := 36) F dX11_plan_36 rfl ?_
      refine y_if_lt (pc := 37) (tgt := 78) F dX11_plan_37 rfl ?_ ?_
      · refine y_iload_n (pc := 78) F dX11_plan_78 rfl ?_
        exact y_iret hr dX11_plan_79 rfl rfl
      · refine y_aload_n (pc := 40) F dX11_plan_40 rfl ?_
        refine y_get (pc := 41) F dX11_plan_41 kF_X11_84 0 WM_at0 rfl ?_
        refine y_iload (pc := 44) F dX11_plan_44 rfl ?_
        refine y_iald (pc := 46) F dX11_plan_46 24 WM_at24 ?_
        refine y_iload_n (pc := 47) F dX11_plan_47 rfl ?_
        refine y_jn (fun (K71 : Int32 → Option (Int32 × Ob)) => ∀ (x5 : Int32), zY X D out (K71 x5) (WM tA q (r2.2)) 71 [some (.ref (q 0)), some (.int a1), some (.int (r2.1)), none, some (.int x4)] [.int x5]) ?_ ?_
        · intro x5
          refine y_istore_n (lv' := [some (.ref (q 0)), some (.int a1), some (.int (r2.1)), some (.int x5), some (.int x4)]) (pc := 71) F dX11_plan_71 (Nat.le_of_ble_eq_true rfl) rfl rfl ?_
          refine y_iinc (v := 1) (lf := fun (x6 : Int32) => [some (.ref (q 0)), some (.int a1), some (.int (r2.1)), some (.int x5), some (.int x6)]) (pc := 72) F dX11_plan_72 rfl rfl rfl (fun _ => rfl) (fun x6 => ?_)
          refine y_goto (tgt := 27) (pc := 75) F dX11_plan_75 rfl ?_
          exact ih x5 x6
        intro K71 hK71
        refine y_jn (fun (K70 : Option (Int32 × Ob)) => zY X D out (K70) (WM tA q (r2.2)) 70 [some (.ref (q 0)), some (.int a1), some (.int (r2.1)), some (.int x3), some (.int x4)] []) ?_ ?_
        · skip
          refine y_iload_n (pc := 70) F dX11_plan_70 rfl ?_
          refine y_le (lv' := [some (.ref (q 0)), some (.int a1), some (.int (r2.1)), none, some (.int x4)]) ⟨rfl, ⟨rfl, ⟨rfl, ⟨rfl, trivial⟩⟩⟩⟩ ?_
          exact hK71 x3
        intro K70 hK70
        refine y_icmp_ne (pc := 48) (tgt := 70) F dX11_plan_48 rfl ?_ ?_
        · refine y_iload_n (pc := 51) F dX11_plan_51 rfl ?_
          refine y_iload (pc := 52) F dX11_plan_52 rfl ?_
          refine y_scalliP (As := [.int (r2.1), .int x4]) (st := []) (pc := 54) F (c_X11_has (q := q) (r2.1) x4) dX11_plan_54 kM_X11_326 ⟨rfl, rfl⟩ ⟨Nat.le_of_ble_eq_true rfl, Nat.le_of_ble_eq_true rfl⟩ rfl rfl rfl (Nat.le_of_ble_eq_true rfl) (fun r7 => ?_)
          refine y_if_eq (pc := 57) (tgt := 70) F dX11_plan_57 rfl ?_ ?_
          · exact hK70
          · refine y_aload_n (pc := 60) F dX11_plan_60 rfl ?_
            refine y_get (pc := 61) F dX11_plan_61 kF_X11_87 0 WM_at0 rfl ?_
            refine y_iload (pc := 64) F dX11_plan_64 rfl ?_
            refine y_iald (pc := 66) F dX11_plan_66 25 WM_at25 ?_
            refine y_goto (tgt := 71) (pc := 67) F dX11_plan_67 rfl ?_
            refine y_le (lv' := [some (.ref (q 0)), some (.int a1), some (.int (r2.1)), none, some (.int x4)]) ⟨rfl, ⟨rfl, ⟨rfl, ⟨rfl, trivial⟩⟩⟩⟩ ?_
            exact hK71 ((ga (r2.2) 41 (x4.toNatClampNeg)))
        · exact hK70
set_option maxHeartbeats 4000000 in
set_option maxRecDepth 100000 in
theorem c_X11_plan {q : Nat → Nat} (o : Ob) (a1 : Int32) : zCi l D tA yX11_plan cX11_plan 5 .int rmX11_plan [.ref (q 0), .int a1] (WM tA q o) (fun (r : Int32 × Ob) => (r.1)) (fun (r : Int32 × Ob) => (WM tA q (r.2))) (pX11_plan o a1) := by
  refine zCi_of (lv0 := [some (.ref (q 0)), some (.int a1), none, none, none]) (by decide +kernel) (Nat.le_of_ble_eq_true rfl) rfl (fun X out F hr => ?_)
  unfold pX11_plan
  refine y_aload_n (pc := 0) F dX11_plan_0 rfl ?_
  refine y_iload_n (pc := 1) F dX11_plan_1 rfl ?_
  refine y_calliW (As := [.int a1]) (st := []) (q0 := 0) (pc := 2) F (c_X11_isWitness (q := q) o a1) dX11_plan_2 kM_X11_257 ⟨rfl, rfl⟩ ⟨Nat.le_of_ble_eq_true rfl, Nat.le_of_ble_eq_true rfl⟩ rfl rfl rfl (Nat.le_of_ble_eq_true rfl) rfl rfl WM_at0 (fun r1 => ?_)
  refine y_if_ne (pc := 5) (tgt := 11) F dX11_plan_5 rfl ?_ ?_
  · refine y_ldc (pc := 8) F dX11_plan_8 kC_X11_248 ?_
    exact y_iret hr dX11_plan_10 rfl rfl
  · refine y_aload_n (pc := 11) F dX11_plan_11 rfl ?_
    refine y_aload_n (pc := 12) F dX11_plan_12 rfl ?_
    refine y_get (pc := 13) F dX11_plan_13 kF_X11_19 0 WM_at0 rfl ?_
    refine y_iload_n (pc := 16) F dX11_plan_16 rfl ?_
    refine y_iald (pc := 17) F dX11_plan_17 4 WM_at4 ?_
    refine y_calliW (As := [.int (ga o 5 (a1.toNatClampNeg))]) (st := []) (q0 := 0) (pc := 18) F (c_X11_findPlan (q := q) o (ga o 5 (a1.toNatClampNeg))) dX11_plan_18 kM_X11_363 ⟨rfl, rfl⟩ ⟨Nat.le_of_ble_eq_true rfl, Nat.le_of_ble_eq_true rfl⟩ rfl rfl rfl (Nat.le_of_ble_eq_true rfl) rfl rfl WM_at0 (fun r2 => ?_)
    refine y_istore_n (lv' := [some (.ref (q 0)), some (.int a1), some (.int (r2.1)), none, none]) (pc := 21) F dX11_plan_21 (Nat.le_of_ble_eq_true rfl) rfl rfl ?_
    refine y_iconst (v := -1) (pc := 22) F dX11_plan_22 rfl ?_
    refine y_istore_n (lv' := [some (.ref (q 0)), some (.int a1), some (.int (r2.1)), some (.int (-1 : Int32)), none]) (pc := 23) F dX11_plan_23 (Nat.le_of_ble_eq_true rfl) rfl rfl ?_
    refine y_iconst (v := 0) (pc := 24) F dX11_plan_24 rfl ?_
    refine y_istore (lv' := [some (.ref (q 0)), some (.int a1), some (.int (r2.1)), some (.int (-1 : Int32)), some (.int (0 : Int32))]) (pc := 25) F dX11_plan_25 (Nat.le_of_ble_eq_true rfl) rfl rfl ?_
    exact wlX11_plan_27 q a1 r2 F hr zfu (-1 : Int32) (0 : Int32)
abbrev rmX11_cut : Room := { frames := 6, cells := 0, slots := 0, locals := 142 }
def lX11_cut_175 : Nat → Int32 → Int32 → Ob → Option (Int32 × Ob)
  | 0, _, _, _ => none
  | f + 1, x7, x8, o9 =>
    if (12 : Int32) ≤ x8 then (some (x7, o9))
    else (zgd x8 12 <| zgd x8 12 <| zlet (sa o9 12 (upd (ga o9 12) (x8.toNatClampNeg) (vp_nar .boolean (ga o9 44 (x8.toNatClampNeg))))) fun (o10 : Ob) =>
    zlet (x8 + (1 : Int32)) fun (x11 : Int32) =>
    lX11_cut_175 f x7 x11 o10)
def lX11_cut_106 (K151 : Int32 → Int32 → Ob → Option (Int32 × Ob)) : Nat → Int32 → Int32 → Int32 → Ob → Option (Int32 × Ob)
  | 0, _, _, _, _ => none
  | f + 1, x24, x25, x26, o27 =>
    if (12 : Int32) ≤ x26 then (K151 x24 x25 o27)
    else (zgd x26 12 <| zjn (fun (x28 : Int32) =>
    zgd x26 12 <| zlet (sa o27 12 (upd (ga o27 12) (x26.toNatClampNeg) (vp_nar .boolean x28))) fun (o29 : Ob) =>
    zlet (x26 + (1 : Int32)) fun (x30 : Int32) =>
    lX11_cut_106 K151 f x24 x25 x30 o29) fun (K144 : Int32 → Option (Int32 × Ob)) =>
    zjn (K144 (1 : Int32)) fun (K139 : Option (Int32 × Ob)) =>
    if (ga o27 44 (x26.toNatClampNeg)) = 0 then (Option.bind (pX11_has x25 x26) fun (r31 : Int32) =>
    if r31 = 0 then (K144 (0 : Int32))
    else (K139))
    else (K139))
def lX11_cut_70 (a1 : Int32) (r4 : Int32) (K172 : Int32 → Ob → Option (Int32 × Ob)) : Nat → Int32 → Int32 → Ob → Option (Int32 × Ob)
  | 0, _, _, _ => none
  | f + 1, x12, x13, o14 =>
    if (4096 : Int32) ≤ x13 then (K172 x12 o14)
    else (zjn (fun (x15 : Int32) (x16 : Int32) (o17 : Ob) =>
    zlet (x16 + (1 : Int32)) fun (x18 : Int32) =>
    lX11_cut_70 a1 r4 K172 f x15 x18 o17) fun (K166 : Int32 → Int32 → Ob → Option (Int32 × Ob)) =>
    if (x13 &&& (r4 ^^^ (-1 : Int32))) = 0 then (zjn (zjn (fun (x19 : Int32) (x20 : Int32) (o21 : Ob) =>
    Option.bind (pX11_soonestOf o21 a1) fun (r22 : Int32 × Ob) =>
    zjn (fun (x23 : Int32) =>
    K166 x23 x20 (r22.2)) fun (K165 : Int32 → Option (Int32 × Ob)) =>
    if 0 ≤ (r22.1) then (K165 x19)
    else (K165 x20)) fun (K151 : Int32 → Int32 → Ob → Option (Int32 × Ob)) =>
    lX11_cut_106 K151 zfu x12 x13 (0 : Int32) o14) fun (K103 : Option (Int32 × Ob)) =>
    if x12 < 0 then (K103)
    else (Option.bind (pX11_bits x13) fun (r32 : Int32) =>
    Option.bind (pX11_bits x12) fun (r33 : Int32) =>
    if r33 ≤ r32 then (K166 x12 x13 o14)
    else (K103)))
    else (K166 x12 x13 o14))
def lX11_cut_35 (K59 : Ob → Option (Int32 × Ob)) : Nat → Int32 → Ob → Option (Int32 × Ob)
  | 0, _, _ => none
  | f + 1, x34, o35 =>
    if (12 : Int32) ≤ x34 then (K59 o35)
    else (zgd x34 12 <| zgd x34 12 <| zlet (sa o35 44 (upd (ga o35 44) (x34.toNatClampNeg) (vp_nar .boolean (ga o35 12 (x34.toNatClampNeg))))) fun (o36 : Ob) =>
    zlet (x34 + (1 : Int32)) fun (x37 : Int32) =>
    lX11_cut_35 K59 f x37 o36)
def pX11_cut (o : Ob) (a1 : Int32) : Option (Int32 × Ob) :=
  Option.bind (pX11_isSuit o a1) fun (r1 : Int32) =>
  if r1 = 0 then (some ((-1000000001 : Int32), o))
  else (zgd a1 6 <| if (ga o 15 (a1.toNatClampNeg)) = 0 then (Option.bind (pX11_isEnough o a1) fun (r2 : Int32) =>
  if r2 = 0 then (zjn (fun (o3 : Ob) =>
  Option.bind (pX11_witnessesOf o3 a1) fun (r4 : Int32) =>
  zjn (fun (x5 : Int32) (o6 : Ob) =>
  lX11_cut_175 zfu x5 (0 : Int32) o6) fun (K172 : Int32 → Ob → Option (Int32 × Ob)) =>
  lX11_cut_70 a1 r4 K172 zfu (-1 : Int32) (0 : Int32) o3) fun (K59 : Ob → Option (Int32 × Ob)) =>
  lX11_cut_35 K59 zfu (0 : Int32) o)
  else (some ((-1 : Int32), o)))
  else (some ((-1000000003 : Int32), o)))
set_option maxHeartbeats 4000000 in
set_option maxRecDepth 100000 in
theorem wlX11_cut_175 {X : ZX} {out : (Int32 × Ob)} (q : Nat → Nat) (F : zF l D tA RX11 cX11_cut 6 rmX11_cut X) (hr : zRi X D cX11_cut .int (fun (r : Int32 × Ob) => (r.1)) (fun (r : Int32 × Ob) => (WM tA q (r.2))) out) : ∀ (f : Nat) (x7 : Int32) (x8 : Int32) (o9 : Ob), zY X D out (lX11_cut_175 f x7 x8 o9) (WM tA q o9) 175 [some (.ref (q 0)), none, none, some (.int x7), some (.int x8), none] [] := by
  intro f
  induction f with
  | zero =>
    intro x7 x8 o9
    exact y_none
  | succ f ih =>
    intro x7 x8 o9
    rw [lX11_cut_175.eq_2]
    refine y_iload (pc := 175) F dX11_cut_175 rfl ?_
    refine y_bipush (v := 12) (pc := 177) F dX11_cut_177 rfl ?_
    refine y_icmp_ge (pc := 179) (tgt := 202) F dX11_cut_179 rfl ?_ ?_
    · refine y_iload_n (pc := 202) F dX11_cut_202 rfl ?_
      exact y_iret hr dX11_cut_203 rfl rfl
    · refine y_aload_n (pc := 182) F dX11_cut_182 rfl ?_
      refine y_get (pc := 183) F dX11_cut_183 kF_X11_37 0 WM_at0 rfl ?_
      refine y_iload (pc := 186) F dX11_cut_186 rfl ?_
      refine y_aload_n (pc := 188) F dX11_cut_188 rfl ?_
      refine y_get (pc := 189) F dX11_cut_189 kF_X11_97 0 WM_at0 rfl ?_
      refine y_iload (pc := 192) F dX11_cut_192 rfl ?_
      refine y_zald (pc := 194) F dX11_cut_194 28 WM_at28 ?_
      refine y_zast (pc := 195) F dX11_cut_195 10 WM_at10 (fun (o10 : Ob) => (WM tA q o10)) (WM_ar10 _) (fun o10 => ?_)
      refine y_iinc (v := 1) (lf := fun (x11 : Int32) => [some (.ref (q 0)), none, none, some (.int x7), some (.int x11), none]) (pc := 196) F dX11_cut_196 rfl rfl rfl (fun _ => rfl) (fun x11 => ?_)
      refine y_goto (tgt := 175) (pc := 199) F dX11_cut_199 rfl ?_
      exact ih x7 x11 o10
set_option maxHeartbeats 4000000 in
set_option maxRecDepth 100000 in
theorem wlX11_cut_106 {X : ZX} {out : (Int32 × Ob)} (q : Nat → Nat) (a1 : Int32) (r4 : Int32) (F : zF l D tA RX11 cX11_cut 6 rmX11_cut X) (hr : zRi X D cX11_cut .int (fun (r : Int32 × Ob) => (r.1)) (fun (r : Int32 × Ob) => (WM tA q (r.2))) out) {K151 : Int32 → Int32 → Ob → Option (Int32 × Ob)} (hK151 : ∀ (x19 : Int32) (x20 : Int32) (o21 : Ob), zY X D out (K151 x19 x20 o21) (WM tA q o21) 151 [some (.ref (q 0)), some (.int a1), some (.int r4), some (.int x19), some (.int x20), none] []) : ∀ (f : Nat) (x24 : Int32) (x25 : Int32) (x26 : Int32) (o27 : Ob), zY X D out (lX11_cut_106 K151 f x24 x25 x26 o27) (WM tA q o27) 106 [some (.ref (q 0)), some (.int a1), some (.int r4), some (.int x24), some (.int x25), some (.int x26)] [] := by
  intro f
  induction f with
  | zero =>
    intro x24 x25 x26 o27
    exact y_none
  | succ f ih =>
    intro x24 x25 x26 o27
    rw [lX11_cut_106.eq_2]
    refine y_iload (pc := 106) F dX11_cut_106 rfl ?_
    refine y_bipush (v := 12) (pc := 108) F dX11_cut_108 rfl ?_
    refine y_icmp_ge (pc := 110) (tgt := 151) F dX11_cut_110 rfl ?_ ?_
    · refine y_le (lv' := [some (.ref (q 0)), some (.int a1), some (.int r4), some (.int x24), some (.int x25), none]) ⟨rfl, ⟨rfl, ⟨rfl, ⟨rfl, ⟨rfl, trivial⟩⟩⟩⟩⟩ ?_
      exact hK151 x24 x25 o27
    · refine y_aload_n (pc := 113) F dX11_cut_113 rfl ?_
      refine y_get (pc := 114) F dX11_cut_114 kF_X11_37 0 WM_at0 rfl ?_
      refine y_iload (pc := 117) F dX11_cut_117 rfl ?_
      refine y_aload_n (pc := 119) F dX11_cut_119 rfl ?_
      refine y_get (pc := 120) F dX11_cut_120 kF_X11_97 0 WM_at0 rfl ?_
      refine y_iload (pc := 123) F dX11_cut_123 rfl ?_
      refine y_zald (pc := 125) F dX11_cut_125 28 WM_at28 ?_
      refine y_jn (fun (K144 : Int32 → Option (Int32 × Ob)) => ∀ (x28 : Int32), zY X D out (K144 x28) (WM tA q o27) 144 [some (.ref (q 0)), some (.int a1), some (.int r4), some (.int x24), some (.int x25), some (.int x26)] [.int x28, .int x26, .ref (q 10)]) ?_ ?_
      · intro x28
        refine y_zast (pc := 144) F dX11_cut_144 10 WM_at10 (fun (o29 : Ob) => (WM tA q o29)) (WM_ar10 _) (fun o29 => ?_)
        refine y_iinc (v := 1) (lf := fun (x30 : Int32) => [some (.ref (q 0)), some (.int a1), some (.int r4), some (.int x24), some (.int x25), some (.int x30)]) (pc := 145) F dX11_cut_145 rfl rfl rfl (fun _ => rfl) (fun x30 => ?_)
        refine y_goto (tgt := 106) (pc := 148) F dX11_cut_148 rfl ?_
        exact ih x24 x25 x30 o29
      intro K144 hK144
      refine y_jn (fun (K139 : Option (Int32 × Ob)) => zY X D out (K139) (WM tA q o27) 139 [some (.ref (q 0)), some (.int a1), some (.int r4), some (.int x24), some (.int x25), some (.int x26)] [.int x26, .ref (q 10)]) ?_ ?_
      · skip
        refine y_iconst (v := 1) (pc := 139) F dX11_cut_139 rfl ?_
        refine y_goto (tgt := 144) (pc := 140) F dX11_cut_140 rfl ?_
        exact hK144 (1 : Int32)
      intro K139 hK139
      refine y_if_ne (pc := 126) (tgt := 139) F dX11_cut_126 rfl ?_ ?_
      · refine y_iload (pc := 129) F dX11_cut_129 rfl ?_
        refine y_iload (pc := 131) F dX11_cut_131 rfl ?_
        refine y_scalliP (As := [.int x25, .int x26]) (st := [.int x26, .ref (q 10)]) (pc := 133) F (c_X11_has (q := q) x25 x26) dX11_cut_133 kM_X11_326 ⟨rfl, rfl⟩ ⟨Nat.le_of_ble_eq_true rfl, Nat.le_of_ble_eq_true rfl⟩ rfl rfl rfl (Nat.le_of_ble_eq_true rfl) (fun r31 => ?_)
        refine y_if_eq (pc := 136) (tgt := 143) F dX11_cut_136 rfl ?_ ?_
        · refine y_iconst (v := 0) (pc := 143) F dX11_cut_143 rfl ?_
          exact hK144 (0 : Int32)
        · exact hK139
      · exact hK139
set_option maxHeartbeats 4000000 in
set_option maxRecDepth 100000 in
theorem wlX11_cut_70 {X : ZX} {out : (Int32 × Ob)} (q : Nat → Nat) (a1 : Int32) (r4 : Int32) (F : zF l D tA RX11 cX11_cut 6 rmX11_cut X) (hr : zRi X D cX11_cut .int (fun (r : Int32 × Ob) => (r.1)) (fun (r : Int32 × Ob) => (WM tA q (r.2))) out) {K172 : Int32 → Ob → Option (Int32 × Ob)} (hK172 : ∀ (x5 : Int32) (o6 : Ob), zY X D out (K172 x5 o6) (WM tA q o6) 172 [some (.ref (q 0)), none, none, some (.int x5), none, none] []) : ∀ (f : Nat) (x12 : Int32) (x13 : Int32) (o14 : Ob), zY X D out (lX11_cut_70 a1 r4 K172 f x12 x13 o14) (WM tA q o14) 70 [some (.ref (q 0)), some (.int a1), some (.int r4), some (.int x12), some (.int x13), none] [] := by
  intro f
  induction f with
  | zero =>
    intro x12 x13 o14
    exact y_none
  | succ f ih =>
    intro x12 x13 o14
    rw [lX11_cut_70.eq_2]
    refine y_iload (pc := 70) F dX11_cut_70 rfl ?_
    refine y_sipush (v := 4096) (pc := 72) F dX11_cut_72 rfl ?_
    refine y_icmp_ge (pc := 75) (tgt := 172) F dX11_cut_75 rfl ?_ ?_
    · refine y_le (lv' := [some (.ref (q 0)), none, none, some (.int x12), none, none]) ⟨rfl, ⟨rfl, trivial⟩⟩ ?_
      exact hK172 x12 o14
    · refine y_iload (pc := 78) F dX11_cut_78 rfl ?_
      refine y_iload_n (pc := 80) F dX11_cut_80 rfl ?_
      refine y_iconst (v := -1) (pc := 81) F dX11_cut_81 rfl ?_
      refine y_ixor (pc := 82) F dX11_cut_82 ?_
      refine y_iand (pc := 83) F dX11_cut_83 ?_
      refine y_jn (fun (K166 : Int32 → Int32 → Ob → Option (Int32 × Ob)) => ∀ (x15 : Int32) (x16 : Int32) (o17 : Ob), zY X D out (K166 x15 x16 o17) (WM tA q o17) 166 [some (.ref (q 0)), some (.int a1), some (.int r4), some (.int x15), some (.int x16), none] []) ?_ ?_
      · intro x15 x16 o17
        refine y_iinc (v := 1) (lf := fun (x18 : Int32) => [some (.ref (q 0)), some (.int a1), some (.int r4), some (.int x15), some (.int x18), none]) (pc := 166) F dX11_cut_166 rfl rfl rfl (fun _ => rfl) (fun x18 => ?_)
        refine y_goto (tgt := 70) (pc := 169) F dX11_cut_169 rfl ?_
        exact ih x15 x18 o17
      intro K166 hK166
      refine y_if_ne (pc := 84) (tgt := 166) F dX11_cut_84 rfl ?_ ?_
      · refine y_iload_n (pc := 87) F dX11_cut_87 rfl ?_
        refine y_jn (fun (K103 : Option (Int32 × Ob)) => zY X D out (K103) (WM tA q o14) 103 [some (.ref (q 0)), some (.int a1), some (.int r4), some (.int x12), some (.int x13), none] []) ?_ ?_
        · skip
          refine y_iconst (v := 0) (pc := 103) F dX11_cut_103 rfl ?_
          refine y_istore (lv' := [some (.ref (q 0)), some (.int a1), some (.int r4), some (.int x12), some (.int x13), some (.int (0 : Int32))]) (pc := 104) F dX11_cut_104 (Nat.le_of_ble_eq_true rfl) rfl rfl ?_
          refine y_jn (fun (K151 : Int32 → Int32 → Ob → Option (Int32 × Ob)) => ∀ (x19 : Int32) (x20 : Int32) (o21 : Ob), zY X D out (K151 x19 x20 o21) (WM tA q o21) 151 [some (.ref (q 0)), some (.int a1), some (.int r4), some (.int x19), some (.int x20), none] []) ?_ ?_
          · intro x19 x20 o21
            refine y_aload_n (pc := 151) F dX11_cut_151 rfl ?_
            refine y_iload_n (pc := 152) F dX11_cut_152 rfl ?_
            refine y_calliW (As := [.int a1]) (st := []) (q0 := 0) (pc := 153) F (c_X11_soonestOf (q := q) o21 a1) dX11_cut_153 kM_X11_356 ⟨rfl, rfl⟩ ⟨Nat.le_of_ble_eq_true rfl, Nat.le_of_ble_eq_true rfl⟩ rfl rfl rfl (Nat.le_of_ble_eq_true rfl) rfl rfl WM_at0 (fun r22 => ?_)
            refine y_jn (fun (K165 : Int32 → Option (Int32 × Ob)) => ∀ (x23 : Int32), zY X D out (K165 x23) (WM tA q (r22.2)) 165 [some (.ref (q 0)), some (.int a1), some (.int r4), none, some (.int x20), none] [.int x23]) ?_ ?_
            · intro x23
              refine y_istore_n (lv' := [some (.ref (q 0)), some (.int a1), some (.int r4), some (.int x23), some (.int x20), none]) (pc := 165) F dX11_cut_165 (Nat.le_of_ble_eq_true rfl) rfl rfl ?_
              exact hK166 x23 x20 (r22.2)
            intro K165 hK165
            refine y_if_ge (pc := 156) (tgt := 164) F dX11_cut_156 rfl ?_ ?_
            · refine y_iload_n (pc := 164) F dX11_cut_164 rfl ?_
              refine y_le (lv' := [some (.ref (q 0)), some (.int a1), some (.int r4), none, some (.int x20), none]) ⟨rfl, ⟨rfl, ⟨rfl, ⟨rfl, trivial⟩⟩⟩⟩ ?_
              exact hK165 x19
            · refine y_iload (pc := 159) F dX11_cut_159 rfl ?_
              refine y_goto (tgt := 165) (pc := 161) F dX11_cut_161 rfl ?_
              refine y_le (lv' := [some (.ref (q 0)), some (.int a1), some (.int r4), none, some (.int x20), none]) ⟨rfl, ⟨rfl, ⟨rfl, ⟨rfl, trivial⟩⟩⟩⟩ ?_
              exact hK165 x20
          intro K151 hK151
          exact wlX11_cut_106 q a1 r4 F hr hK151 zfu x12 x13 (0 : Int32) o14
        intro K103 hK103
        refine y_if_lt (pc := 88) (tgt := 103) F dX11_cut_88 rfl ?_ ?_
        · exact hK103
        · refine y_iload (pc := 91) F dX11_cut_91 rfl ?_
          refine y_scalliP (As := [.int x13]) (st := []) (pc := 93) F (c_X11_bits (q := q) x13) dX11_cut_93 kM_X11_313 ⟨rfl, rfl⟩ ⟨Nat.le_of_ble_eq_true rfl, Nat.le_of_ble_eq_true rfl⟩ rfl rfl rfl (Nat.le_of_ble_eq_true rfl) (fun r32 => ?_)
          refine y_iload_n (pc := 96) F dX11_cut_96 rfl ?_
          refine y_scalliP (As := [.int x12]) (st := [.int r32]) (pc := 97) F (c_X11_bits (q := q) x12) dX11_cut_97 kM_X11_313 ⟨rfl, rfl⟩ ⟨Nat.le_of_ble_eq_true rfl, Nat.le_of_ble_eq_true rfl⟩ rfl rfl rfl (Nat.le_of_ble_eq_true rfl) (fun r33 => ?_)
          refine y_icmp_ge (pc := 100) (tgt := 166) F dX11_cut_100 rfl ?_ ?_
          · exact hK166 x12 x13 o14
          · exact hK103
      · exact hK166 x12 x13 o14
set_option maxHeartbeats 4000000 in
set_option maxRecDepth 100000 in
theorem wlX11_cut_35 {X : ZX} {out : (Int32 × Ob)} (q : Nat → Nat) (a1 : Int32) (F : zF l D tA RX11 cX11_cut 6 rmX11_cut X) (hr : zRi X D cX11_cut .int (fun (r : Int32 × Ob) => (r.1)) (fun (r : Int32 × Ob) => (WM tA q (r.2))) out) {K59 : Ob → Option (Int32 × Ob)} (hK59 : ∀ (o3 : Ob), zY X D out (K59 o3) (WM tA q o3) 59 [some (.ref (q 0)), some (.int a1), none, none, none, none] []) : ∀ (f : Nat) (x34 : Int32) (o35 : Ob), zY X D out (lX11_cut_35 K59 f x34 o35) (WM tA q o35) 35 [some (.ref (q 0)), some (.int a1), some (.int x34), none, none, none] [] := by
  intro f
  induction f with
  | zero =>
    intro x34 o35
    exact y_none
  | succ f ih =>
    intro x34 o35
    rw [lX11_cut_35.eq_2]
    refine y_iload_n (pc := 35) F dX11_cut_35 rfl ?_
    refine y_bipush (v := 12) (pc := 36) F dX11_cut_36 rfl ?_
    refine y_icmp_ge (pc := 38) (tgt := 59) F dX11_cut_38 rfl ?_ ?_
    · refine y_le (lv' := [some (.ref (q 0)), some (.int a1), none, none, none, none]) ⟨rfl, ⟨rfl, trivial⟩⟩ ?_
      exact hK59 o35
    · refine y_aload_n (pc := 41) F dX11_cut_41 rfl ?_
      refine y_get (pc := 42) F dX11_cut_42 kF_X11_97 0 WM_at0 rfl ?_
      refine y_iload_n (pc := 45) F dX11_cut_45 rfl ?_
      refine y_aload_n (pc := 46) F dX11_cut_46 rfl ?_
      refine y_get (pc := 47) F dX11_cut_47 kF_X11_37 0 WM_at0 rfl ?_
      refine y_iload_n (pc := 50) F dX11_cut_50 rfl ?_
      refine y_zald (pc := 51) F dX11_cut_51 10 WM_at10 ?_
      refine y_zast (pc := 52) F dX11_cut_52 28 WM_at28 (fun (o36 : Ob) => (WM tA q o36)) (WM_ar28 _) (fun o36 => ?_)
      refine y_iinc (v := 1) (lf := fun (x37 : Int32) => [some (.ref (q 0)), some (.int a1), some (.int x37), none, none, none]) (pc := 53) F dX11_cut_53 rfl rfl rfl (fun _ => rfl) (fun x37 => ?_)
      refine y_goto (tgt := 35) (pc := 56) F dX11_cut_56 rfl ?_
      exact ih x37 o36
set_option maxHeartbeats 4000000 in
set_option maxRecDepth 100000 in
theorem c_X11_cut {q : Nat → Nat} (o : Ob) (a1 : Int32) : zCi l D tA yX11_cut cX11_cut 6 .int rmX11_cut [.ref (q 0), .int a1] (WM tA q o) (fun (r : Int32 × Ob) => (r.1)) (fun (r : Int32 × Ob) => (WM tA q (r.2))) (pX11_cut o a1) := by
  refine zCi_of (lv0 := [some (.ref (q 0)), some (.int a1), none, none, none, none]) (by decide +kernel) (Nat.le_of_ble_eq_true rfl) rfl (fun X out F hr => ?_)
  unfold pX11_cut
  refine y_aload_n (pc := 0) F dX11_cut_0 rfl ?_
  refine y_iload_n (pc := 1) F dX11_cut_1 rfl ?_
  refine y_calliW (As := [.int a1]) (st := []) (q0 := 0) (pc := 2) F (c_X11_isSuit (q := q) o a1) dX11_cut_2 kM_X11_244 ⟨rfl, rfl⟩ ⟨Nat.le_of_ble_eq_true rfl, Nat.le_of_ble_eq_true rfl⟩ rfl rfl rfl (Nat.le_of_ble_eq_true rfl) rfl rfl WM_at0 (fun r1 => ?_)
  refine y_if_ne (pc := 5) (tgt := 11) F dX11_cut_5 rfl ?_ ?_
  · refine y_ldc (pc := 8) F dX11_cut_8 kC_X11_248 ?_
    exact y_iret hr dX11_cut_10 rfl rfl
  · refine y_aload_n (pc := 11) F dX11_cut_11 rfl ?_
    refine y_get (pc := 12) F dX11_cut_12 kF_X11_41 0 WM_at0 rfl ?_
    refine y_iload_n (pc := 15) F dX11_cut_15 rfl ?_
    refine y_iald (pc := 16) F dX11_cut_16 11 WM_at11 ?_
    refine y_if_eq (pc := 17) (tgt := 23) F dX11_cut_17 rfl ?_ ?_
    · refine y_aload_n (pc := 23) F dX11_cut_23 rfl ?_
      refine y_iload_n (pc := 24) F dX11_cut_24 rfl ?_
      refine y_calliW (As := [.int a1]) (st := []) (q0 := 0) (pc := 25) F (c_X11_isEnough (q := q) o a1) dX11_cut_25 kM_X11_268 ⟨rfl, rfl⟩ ⟨Nat.le_of_ble_eq_true rfl, Nat.le_of_ble_eq_true rfl⟩ rfl rfl rfl (Nat.le_of_ble_eq_true rfl) rfl rfl WM_at0 (fun r2 => ?_)
      refine y_if_eq (pc := 28) (tgt := 33) F dX11_cut_28 rfl ?_ ?_
      · refine y_iconst (v := 0) (pc := 33) F dX11_cut_33 rfl ?_
        refine y_istore_n (lv' := [some (.ref (q 0)), some (.int a1), some (.int (0 : Int32)), none, none, none]) (pc := 34) F dX11_cut_34 (Nat.le_of_ble_eq_true rfl) rfl rfl ?_
        refine y_jn (fun (K59 : Ob → Option (Int32 × Ob)) => ∀ (o3 : Ob), zY X D out (K59 o3) (WM tA q o3) 59 [some (.ref (q 0)), some (.int a1), none, none, none, none] []) ?_ ?_
        · intro o3
          refine y_aload_n (pc := 59) F dX11_cut_59 rfl ?_
          refine y_iload_n (pc := 60) F dX11_cut_60 rfl ?_
          refine y_calliW (As := [.int a1]) (st := []) (q0 := 0) (pc := 61) F (c_X11_witnessesOf (q := q) o3 a1) dX11_cut_61 kM_X11_249 ⟨rfl, rfl⟩ ⟨Nat.le_of_ble_eq_true rfl, Nat.le_of_ble_eq_true rfl⟩ rfl rfl rfl (Nat.le_of_ble_eq_true rfl) rfl rfl WM_at0 (fun r4 => ?_)
          refine y_istore_n (lv' := [some (.ref (q 0)), some (.int a1), some (.int r4), none, none, none]) (pc := 64) F dX11_cut_64 (Nat.le_of_ble_eq_true rfl) rfl rfl ?_
          refine y_iconst (v := -1) (pc := 65) F dX11_cut_65 rfl ?_
          refine y_istore_n (lv' := [some (.ref (q 0)), some (.int a1), some (.int r4), some (.int (-1 : Int32)), none, none]) (pc := 66) F dX11_cut_66 (Nat.le_of_ble_eq_true rfl) rfl rfl ?_
          refine y_iconst (v := 0) (pc := 67) F dX11_cut_67 rfl ?_
          refine y_istore (lv' := [some (.ref (q 0)), some (.int a1), some (.int r4), some (.int (-1 : Int32)), some (.int (0 : Int32)), none]) (pc := 68) F dX11_cut_68 (Nat.le_of_ble_eq_true rfl) rfl rfl ?_
          refine y_jn (fun (K172 : Int32 → Ob → Option (Int32 × Ob)) => ∀ (x5 : Int32) (o6 : Ob), zY X D out (K172 x5 o6) (WM tA q o6) 172 [some (.ref (q 0)), none, none, some (.int x5), none, none] []) ?_ ?_
          · intro x5 o6
            refine y_iconst (v := 0) (pc := 172) F dX11_cut_172 rfl ?_
            refine y_istore (lv' := [some (.ref (q 0)), none, none, some (.int x5), some (.int (0 : Int32)), none]) (pc := 173) F dX11_cut_173 (Nat.le_of_ble_eq_true rfl) rfl rfl ?_
            exact wlX11_cut_175 q F hr zfu x5 (0 : Int32) o6
          intro K172 hK172
          exact wlX11_cut_70 q a1 r4 F hr hK172 zfu (-1 : Int32) (0 : Int32) o3
        intro K59 hK59
        exact wlX11_cut_35 q a1 F hr hK59 zfu (0 : Int32) o
      · refine y_iconst (v := -1) (pc := 31) F dX11_cut_31 rfl ?_
        exact y_iret hr dX11_cut_32 rfl rfl
    · refine y_ldc (pc := 20) F dX11_cut_20 kC_X11_232 ?_
      exact y_iret hr dX11_cut_22 rfl rfl
abbrev rmX11_wantOf : Room := { frames := 2, cells := 0, slots := 0, locals := 47 }
def lX11_wantOf_83 (o : Ob) (x6 : Int32) (K146 : Int64 → Option Int64) : Nat → Int64 → Int32 → Option Int64
  | 0, _, _ => none
  | f + 1, y9, x10 =>
    if (gi o 40) ≤ x10 then (K146 y9)
    else (Option.bind (pX11_has x6 x10) fun (r11 : Int32) =>
    zjn (fun (y12 : Int64) =>
    zjn (fun (y13 : Int64) =>
    zlet (x10 + (1 : Int32)) fun (x14 : Int32) =>
    lX11_wantOf_83 o x6 K146 f y13 x14) fun (K138 : Int64 → Option Int64) =>
    if y12 ≤ y9 then (K138 y9)
    else (K138 y12)) fun (K121 : Int64 → Option Int64) =>
    if r11 = 0 then (K121 y9)
    else (zgd (x6 &&& (((1 : Int32) <<< (x10 &&& 31)) ^^^ (-1 : Int32))) 64 <| K121 ((gb o 45 ((x6 &&& (((1 : Int32) <<< (x10 &&& 31)) ^^^ (-1 : Int32))).toNatClampNeg)))))
def pX11_wantOf (o : Ob) (a1 : Int32) (a2 : Int32) (a3 : Int32) (a4 : Int32) : Option Int64 :=
  Option.bind (pX11_bits a2) fun (r1 : Int32) =>
  znz (2 : Int32) <| zlet (((a4 - r1) / (2 : Int32))) fun (x2 : Int32) =>
  zgd a3 6 <| Option.bind (pX11_freshOn o (ga o 39 (a3.toNatClampNeg)) (gi o 13)) fun (r3 : Int32) =>
  zlet (((r3.toInt64) <<< (x2.toInt64 &&& 63))) fun (y4 : Int64) =>
  zgd a1 6 <| zgd a1 6 <| zlet (((((3 : Int64) * ((ga o 1 (a1.toNatClampNeg)).toInt64)) <<< (x2.toInt64 &&& 63)) - ((ga o 17 (a1.toNatClampNeg)).toInt64))) fun (y5 : Int64) =>
  zlet ((a2 &&& (((1 : Int32) <<< (a3 &&& 31)) ^^^ (-1 : Int32)))) fun (x6 : Int32) =>
  zjn (fun (y7 : Int64) =>
  zjn (fun (y8 : Int64) =>
  if y8 ≤ y5 then (some (y8 - y4))
  else (some (y5 - y4))) fun (K146 : Int64 → Option Int64) =>
  lX11_wantOf_83 o x6 K146 zfu y7 (0 : Int32)) fun (K78 : Int64 → Option Int64) =>
  if x6 = 0 then (K78 (1152921504606846976 : Int64))
  else (K78 (-1152921504606846976 : Int64))
set_option maxHeartbeats 4000000 in
set_option maxRecDepth 100000 in
theorem wlX11_wantOf_83 {X : ZX} {out : Int64} (q : Nat → Nat) (o : Ob) (y4 : Int64) (y5 : Int64) (x6 : Int32) (F : zF l D tA RX11 cX11_wantOf 16 rmX11_wantOf X) (hr : zRl X D cX11_wantOf (fun (r : Int64) => r) (fun (r : Int64) => (WM tA q o)) out) {K146 : Int64 → Option Int64} (hK146 : ∀ (y8 : Int64), zY X D out (K146 y8) (WM tA q o) 146 [none, none, none, none, none, none, some (.long y4), none, some (.long y5), none, none, some (.long y8), none, none, none, none] []) : ∀ (f : Nat) (y9 : Int64) (x10 : Int32), zY X D out (lX11_wantOf_83 o x6 K146 f y9 x10) (WM tA q o) 83 [some (.ref (q 0)), none, none, none, none, none, some (.long y4), none, some (.long y5), none, some (.int x6), some (.long y9), none, some (.int x10), none, none] [] := by
  intro f
  induction f with
  | zero =>
    intro y9 x10
    exact y_none
  | succ f ih =>
    intro y9 x10
    rw [lX11_wantOf_83.eq_2]
    refine y_iload (pc := 83) F dX11_wantOf_83 rfl ?_
    refine y_aload_n (pc := 85) F dX11_wantOf_85 rfl ?_
    refine y_get (pc := 86) F dX11_wantOf_86 kF_X11_303 0 WM_at0 rfl ?_
    refine y_icmp_ge (pc := 89) (tgt := 146) F dX11_wantOf_89 rfl ?_ ?_
    · refine y_le (lv' := [none, none, none, none, none, none, some (.long y4), none, some (.long y5), none, none, some (.long y9), none, none, none, none]) ⟨rfl, ⟨rfl, ⟨rfl, trivial⟩⟩⟩ ?_
      exact hK146 y9
    · refine y_iload (pc := 92) F dX11_wantOf_92 rfl ?_
      refine y_iload (pc := 94) F dX11_wantOf_94 rfl ?_
      refine y_scalliP (As := [.int x6, .int x10]) (st := []) (pc := 96) F (c_X11_has (q := q) x6 x10) dX11_wantOf_96 kM_X11_326 ⟨rfl, rfl⟩ ⟨Nat.le_of_ble_eq_true rfl, Nat.le_of_ble_eq_true rfl⟩ rfl rfl rfl (Nat.le_of_ble_eq_true rfl) (fun r11 => ?_)
      refine y_jn (fun (K121 : Int64 → Option Int64) => ∀ (y12 : Int64), zY X D out (K121 y12) (WM tA q o) 121 [some (.ref (q 0)), none, none, none, none, none, some (.long y4), none, some (.long y5), none, some (.int x6), some (.long y9), none, some (.int x10), none, none] [.long y12]) ?_ ?_
      · intro y12
        refine y_lstore (lv' := [some (.ref (q 0)), none, none, none, none, none, some (.long y4), none, some (.long y5), none, some (.int x6), some (.long y9), none, some (.int x10), some (.long y12), none]) (pc := 121) F dX11_wantOf_121 (Nat.le_of_ble_eq_true rfl) rfl rfl ?_
        refine y_lload (pc := 123) F dX11_wantOf_123 rfl ?_
        refine y_lload (pc := 125) F dX11_wantOf_125 rfl ?_
        refine y_jn (fun (K138 : Int64 → Option Int64) => ∀ (y13 : Int64), zY X D out (K138 y13) (WM tA q o) 138 [some (.ref (q 0)), none, none, none, none, none, some (.long y4), none, some (.long y5), none, some (.int x6), none, none, some (.int x10), none, none] [.long y13]) ?_ ?_
        · intro y13
          refine y_lstore (lv' := [some (.ref (q 0)), none, none, none, none, none, some (.long y4), none, some (.long y5), none, some (.int x6), some (.long y13), none, some (.int x10), none, none]) (pc := 138) F dX11_wantOf_138 (Nat.le_of_ble_eq_true rfl) rfl rfl ?_
          refine y_iinc (v := 1) (lf := fun (x14 : Int32) => [some (.ref (q 0)), none, none, none, none, none, some (.long y4), none, some (.long y5), none, some (.int x6), some (.long y13), none, some (.int x14), none, none]) (pc := 140) F dX11_wantOf_140 rfl rfl rfl (fun _ => rfl) (fun x14 => ?_)
          refine y_goto (tgt := 83) (pc := 143) F dX11_wantOf_143 rfl ?_
          exact ih y13 x14
        intro K138 hK138
        refine y_lcmp_le (pc := 127) (tgt := 136) F dX11_wantOf_127 dX11_wantOf_128 rfl ?_ ?_
        · refine y_lload (pc := 136) F dX11_wantOf_136 rfl ?_
          refine y_le (lv' := [some (.ref (q 0)), none, none, none, none, none, some (.long y4), none, some (.long y5), none, some (.int x6), none, none, some (.int x10), none, none]) ⟨rfl, ⟨rfl, ⟨rfl, ⟨rfl, ⟨rfl, trivial⟩⟩⟩⟩⟩ ?_
          exact hK138 y9
        · refine y_lload (pc := 131) F dX11_wantOf_131 rfl ?_
          refine y_goto (tgt := 138) (pc := 133) F dX11_wantOf_133 rfl ?_
          refine y_le (lv' := [some (.ref (q 0)), none, none, none, none, none, some (.long y4), none, some (.long y5), none, some (.int x6), none, none, some (.int x10), none, none]) ⟨rfl, ⟨rfl, ⟨rfl, ⟨rfl, ⟨rfl, trivial⟩⟩⟩⟩⟩ ?_
          exact hK138 y12
      intro K121 hK121
      refine y_if_eq (pc := 99) (tgt := 119) F dX11_wantOf_99 rfl ?_ ?_
      · refine y_lload (pc := 119) F dX11_wantOf_119 rfl ?_
        exact hK121 y9
      · refine y_aload_n (pc := 102) F dX11_wantOf_102 rfl ?_
        refine y_get (pc := 103) F dX11_wantOf_103 kF_X11_100 0 WM_at0 rfl ?_
        refine y_iload (pc := 106) F dX11_wantOf_106 rfl ?_
        refine y_iconst (v := 1) (pc := 108) F dX11_wantOf_108 rfl ?_
        refine y_iload (pc := 109) F dX11_wantOf_109 rfl ?_
        refine y_ishl (pc := 111) F dX11_wantOf_111 ?_
        refine y_iconst (v := -1) (pc := 112) F dX11_wantOf_112 rfl ?_
        refine y_ixor (pc := 113) F dX11_wantOf_113 ?_
        refine y_iand (pc := 114) F dX11_wantOf_114 ?_
        refine y_lald (pc := 115) F dX11_wantOf_115 29 WM_at29 ?_
        refine y_goto (tgt := 121) (pc := 116) F dX11_wantOf_116 rfl ?_
        exact hK121 ((gb o 45 ((x6 &&& (((1 : Int32) <<< (x10 &&& 31)) ^^^ (-1 : Int32))).toNatClampNeg)))
set_option maxHeartbeats 4000000 in
set_option maxRecDepth 100000 in
theorem c_X11_wantOf {q : Nat → Nat} (o : Ob) (a1 : Int32) (a2 : Int32) (a3 : Int32) (a4 : Int32) : zCl l D tA yX11_wantOf cX11_wantOf 16 rmX11_wantOf [.ref (q 0), .int a1, .int a2, .int a3, .int a4] (WM tA q o) (fun (r : Int64) => r) (fun (r : Int64) => (WM tA q o)) (pX11_wantOf o a1 a2 a3 a4) := by
  refine zCl_of (lv0 := [some (.ref (q 0)), some (.int a1), some (.int a2), some (.int a3), some (.int a4), none, none, none, none, none, none, none, none, none, none, none]) (by decide +kernel) (Nat.le_of_ble_eq_true rfl) rfl (fun X out F hr => ?_)
  unfold pX11_wantOf
  refine y_iload (pc := 0) F dX11_wantOf_0 rfl ?_
  refine y_iload_n (pc := 2) F dX11_wantOf_2 rfl ?_
  refine y_scalliP (As := [.int a2]) (st := [.int a4]) (pc := 3) F (c_X11_bits (q := q) a2) dX11_wantOf_3 kM_X11_313 ⟨rfl, rfl⟩ ⟨Nat.le_of_ble_eq_true rfl, Nat.le_of_ble_eq_true rfl⟩ rfl rfl rfl (Nat.le_of_ble_eq_true rfl) (fun r1 => ?_)
  refine y_isub (pc := 6) F dX11_wantOf_6 ?_
  refine y_iconst (v := 2) (pc := 7) F dX11_wantOf_7 rfl ?_
  refine y_idiv (pc := 8) F dX11_wantOf_8 ?_
  refine y_lti (fun x2 => ?_)
  refine y_istore (lv' := [some (.ref (q 0)), some (.int a1), some (.int a2), some (.int a3), some (.int a4), some (.int x2), none, none, none, none, none, none, none, none, none, none]) (pc := 9) F dX11_wantOf_9 (Nat.le_of_ble_eq_true rfl) rfl rfl ?_
  refine y_aload_n (pc := 11) F dX11_wantOf_11 rfl ?_
  refine y_aload_n (pc := 12) F dX11_wantOf_12 rfl ?_
  refine y_get (pc := 13) F dX11_wantOf_13 kF_X11_84 0 WM_at0 rfl ?_
  refine y_iload_n (pc := 16) F dX11_wantOf_16 rfl ?_
  refine y_iald (pc := 17) F dX11_wantOf_17 24 WM_at24 ?_
  refine y_aload_n (pc := 18) F dX11_wantOf_18 rfl ?_
  refine y_get (pc := 19) F dX11_wantOf_19 kF_X11_223 0 WM_at0 rfl ?_
  refine y_calliW (As := [.int (ga o 39 (a3.toNatClampNeg)), .int (gi o 13)]) (st := []) (q0 := 0) (pc := 22) F (c_X11_freshOn (q := q) o (ga o 39 (a3.toNatClampNeg)) (gi o 13)) dX11_wantOf_22 kM_X11_260 ⟨rfl, rfl⟩ ⟨Nat.le_of_ble_eq_true rfl, Nat.le_of_ble_eq_true rfl⟩ rfl rfl rfl (Nat.le_of_ble_eq_true rfl) rfl rfl WM_at0 (fun r3 => ?_)
  refine y_i2l (pc := 25) F dX11_wantOf_25 ?_
  refine y_iload (pc := 26) F dX11_wantOf_26 rfl ?_
  refine y_lshl (pc := 28) F dX11_wantOf_28 ?_
  refine y_ltl (fun y4 => ?_)
  refine y_lstore (lv' := [some (.ref (q 0)), some (.int a1), some (.int a2), some (.int a3), some (.int a4), some (.int x2), some (.long y4), none, none, none, none, none, none, none, none, none]) (pc := 29) F dX11_wantOf_29 (Nat.le_of_ble_eq_true rfl) rfl rfl ?_
  refine y_ldc2 (pc := 31) F dX11_wantOf_31 kC_X11_354 ?_
  refine y_aload_n (pc := 34) F dX11_wantOf_34 rfl ?_
  refine y_get (pc := 35) F dX11_wantOf_35 kF_X11_7 0 WM_at0 rfl ?_
  refine y_iload_n (pc := 38) F dX11_wantOf_38 rfl ?_
  refine y_iald (pc := 39) F dX11_wantOf_39 1 WM_at1 ?_
  refine y_i2l (pc := 40) F dX11_wantOf_40 ?_
  refine y_lmul (pc := 41) F dX11_wantOf_41 ?_
  refine y_iload (pc := 42) F dX11_wantOf_42 rfl ?_
  refine y_lshl (pc := 44) F dX11_wantOf_44 ?_
  refine y_aload_n (pc := 45) F dX11_wantOf_45 rfl ?_
  refine y_get (pc := 46) F dX11_wantOf_46 kF_X11_47 0 WM_at0 rfl ?_
  refine y_iload_n (pc := 49) F dX11_wantOf_49 rfl ?_
  refine y_iald (pc := 50) F dX11_wantOf_50 13 WM_at13 ?_
  refine y_i2l (pc := 51) F dX11_wantOf_51 ?_
  refine y_lsub (pc := 52) F dX11_wantOf_52 ?_
  refine y_ltl (fun y5 => ?_)
  refine y_lstore (lv' := [some (.ref (q 0)), some (.int a1), some (.int a2), some (.int a3), some (.int a4), some (.int x2), some (.long y4), none, some (.long y5), none, none, none, none, none, none, none]) (pc := 53) F dX11_wantOf_53 (Nat.le_of_ble_eq_true rfl) rfl rfl ?_
  refine y_iload_n (pc := 55) F dX11_wantOf_55 rfl ?_
  refine y_iconst (v := 1) (pc := 56) F dX11_wantOf_56 rfl ?_
  refine y_iload_n (pc := 57) F dX11_wantOf_57 rfl ?_
  refine y_ishl (pc := 58) F dX11_wantOf_58 ?_
  refine y_iconst (v := -1) (pc := 59) F dX11_wantOf_59 rfl ?_
  refine y_ixor (pc := 60) F dX11_wantOf_60 ?_
  refine y_iand (pc := 61) F dX11_wantOf_61 ?_
  refine y_lti (fun x6 => ?_)
  refine y_istore (lv' := [some (.ref (q 0)), some (.int a1), some (.int a2), some (.int a3), some (.int a4), some (.int x2), some (.long y4), none, some (.long y5), none, some (.int x6), none, none, none, none, none]) (pc := 62) F dX11_wantOf_62 (Nat.le_of_ble_eq_true rfl) rfl rfl ?_
  refine y_iload (pc := 64) F dX11_wantOf_64 rfl ?_
  refine y_jn (fun (K78 : Int64 → Option Int64) => ∀ (y7 : Int64), zY X D out (K78 y7) (WM tA q o) 78 [some (.ref (q 0)), none, none, none, none, none, some (.long y4), none, some (.long y5), none, some (.int x6), none, none, none, none, none] [.long y7]) ?_ ?_
  · intro y7
    refine y_lstore (lv' := [some (.ref (q 0)), none, none, none, none, none, some (.long y4), none, some (.long y5), none, some (.int x6), some (.long y7), none, none, none, none]) (pc := 78) F dX11_wantOf_78 (Nat.le_of_ble_eq_true rfl) rfl rfl ?_
    refine y_iconst (v := 0) (pc := 80) F dX11_wantOf_80 rfl ?_
    refine y_istore (lv' := [some (.ref (q 0)), none, none, none, none, none, some (.long y4), none, some (.long y5), none, some (.int x6), some (.long y7), none, some (.int (0 : Int32)), none, none]) (pc := 81) F dX11_wantOf_81 (Nat.le_of_ble_eq_true rfl) rfl rfl ?_
    refine y_jn (fun (K146 : Int64 → Option Int64) => ∀ (y8 : Int64), zY X D out (K146 y8) (WM tA q o) 146 [none, none, none, none, none, none, some (.long y4), none, some (.long y5), none, none, some (.long y8), none, none, none, none] []) ?_ ?_
    · intro y8
      refine y_lload (pc := 146) F dX11_wantOf_146 rfl ?_
      refine y_lload (pc := 148) F dX11_wantOf_148 rfl ?_
      refine y_lcmp_ge (pc := 150) (tgt := 159) F dX11_wantOf_150 dX11_wantOf_151 rfl ?_ ?_
      · refine y_lload (pc := 159) F dX11_wantOf_159 rfl ?_
        refine y_lload (pc := 161) F dX11_wantOf_161 rfl ?_
        refine y_lsub (pc := 163) F dX11_wantOf_163 ?_
        exact y_lret hr dX11_wantOf_164 rfl rfl
      · refine y_lload (pc := 154) F dX11_wantOf_154 rfl ?_
        refine y_goto (tgt := 161) (pc := 156) F dX11_wantOf_156 rfl ?_
        refine y_lload (pc := 161) F dX11_wantOf_161 rfl ?_
        refine y_lsub (pc := 163) F dX11_wantOf_163 ?_
        exact y_lret hr dX11_wantOf_164 rfl rfl
    intro K146 hK146
    exact wlX11_wantOf_83 q o y4 y5 x6 F hr hK146 zfu y7 (0 : Int32)
  intro K78 hK78
  refine y_if_ne (pc := 66) (tgt := 75) F dX11_wantOf_66 rfl ?_ ?_
  · refine y_ldc2 (pc := 69) F dX11_wantOf_69 kC_X11_366 ?_
    refine y_goto (tgt := 78) (pc := 72) F dX11_wantOf_72 rfl ?_
    refine y_le (lv' := [some (.ref (q 0)), none, none, none, none, none, some (.long y4), none, some (.long y5), none, some (.int x6), none, none, none, none, none]) ⟨rfl, ⟨rfl, ⟨rfl, ⟨rfl, trivial⟩⟩⟩⟩ ?_
    exact hK78 (1152921504606846976 : Int64)
  · refine y_ldc2 (pc := 75) F dX11_wantOf_75 kC_X11_368 ?_
    refine y_le (lv' := [some (.ref (q 0)), none, none, none, none, none, some (.long y4), none, some (.long y5), none, some (.int x6), none, none, none, none, none]) ⟨rfl, ⟨rfl, ⟨rfl, ⟨rfl, trivial⟩⟩⟩⟩ ?_
    exact hK78 (-1152921504606846976 : Int64)
abbrev rmX11_turns : Room := { frames := 3, cells := 0, slots := 0, locals := 82 }
def lX11_turns_273 (a1 : Int32) (r7 : Int32) : Nat → Int32 → Int32 → Ob → Option (Int32 × Ob)
  | 0, _, _, _ => none
  | f + 1, x8, x9, o10 =>
    if (gi o10 40) ≤ x9 then (some ((-1 : Int32), o10))
    else (Option.bind (pX11_has x8 x9) fun (r11 : Int32) =>
    zjn (zlet (x9 + (1 : Int32)) fun (x12 : Int32) =>
    lX11_turns_273 a1 r7 f x8 x12 o10) fun (K321 : Option (Int32 × Ob)) =>
    if r11 = 0 then (K321)
    else (if r7 = 0 then (Option.bind (pX11_bits x8) fun (r13 : Int32) =>
    Option.bind (pX11_wantOf o10 a1 x8 x9 r13) fun (r14 : Int64) =>
    if (0 : Int64) < r14 then (K321)
    else (zgd x9 6 <| some ((ga o10 39 (x9.toNatClampNeg)), o10)))
    else (zgd x9 6 <| some ((ga o10 39 (x9.toNatClampNeg)), o10))))
def lX11_turns_113 (a1 : Int32) (K231 : Int32 → Int32 → Ob → Option (Int32 × Ob)) : Nat → Int32 → Int32 → Int32 → Ob → Option (Int32 × Ob)
  | 0, _, _, _, _ => none
  | f + 1, x23, x24, x25, o26 =>
    if (gi o26 40) ≤ x25 then (K231 x23 x24 o26)
    else (zjn (fun (x27 : Int32) =>
    zjn (fun (y28 : Int64) =>
    zgd x24 64 <| zjn (fun (y29 : Int64) =>
    zgd x24 64 <| zlet (sb o26 45 (vp_updL (gb o26 45) (x24.toNatClampNeg) y29)) fun (o30 : Ob) =>
    zlet (x25 + (1 : Int32)) fun (x31 : Int32) =>
    lX11_turns_113 a1 K231 f x23 x24 x31 o30) fun (K224 : Int64 → Option (Int32 × Ob)) =>
    if (gb o26 45 (x24.toNatClampNeg)) ≤ y28 then (zgd x24 64 <| K224 ((gb o26 45 (x24.toNatClampNeg))))
    else (K224 y28)) fun (K191 : Int64 → Option (Int32 × Ob)) =>
    if x27 = 0 then (zgd x24 64 <| K191 ((gb o26 45 (x24.toNatClampNeg))))
    else (Option.bind (pX11_bits x23) fun (r32 : Int32) =>
    Option.bind (pX11_wantOf o26 a1 x24 x25 r32) fun (r33 : Int64) =>
    K191 r33)) fun (K161 : Int32 → Option (Int32 × Ob)) =>
    zjn (K161 (0 : Int32)) fun (K160 : Option (Int32 × Ob)) =>
    if (x24 &&& (x23 ^^^ (-1 : Int32))) = 0 then (Option.bind (pX11_has x24 x25) fun (r34 : Int32) =>
    if r34 = 0 then (K160)
    else (Option.bind (pX11_bits x23) fun (r35 : Int32) =>
    Option.bind (pX11_bits x24) fun (r36 : Int32) =>
    znz (2 : Int32) <| if ((r35 - r36) - (r35 - r36) / (2 : Int32) * (2 : Int32)) = 0 then (K161 (1 : Int32))
    else (K160)))
    else (K160))
def lX11_turns_93 (a1 : Int32) (K237 : Int32 → Ob → Option (Int32 × Ob)) : Nat → Int32 → Int32 → Ob → Option (Int32 × Ob)
  | 0, _, _, _ => none
  | f + 1, x15, x16, o17 =>
    if (64 : Int32) ≤ x16 then (K237 x15 o17)
    else (zgd x16 64 <| zlet (sb o17 45 (vp_updL (gb o17 45) (x16.toNatClampNeg) (1152921504606846976 : Int64))) fun (o18 : Ob) =>
    zjn (fun (x19 : Int32) (x20 : Int32) (o21 : Ob) =>
    zlet (x20 + (1 : Int32)) fun (x22 : Int32) =>
    lX11_turns_93 a1 K237 f x19 x22 o21) fun (K231 : Int32 → Int32 → Ob → Option (Int32 × Ob)) =>
    lX11_turns_113 a1 K231 zfu x15 x16 (0 : Int32) o18)
def lX11_turns_46 (r3 : Ob) (K90 : Int32 → Option (Int32 × Ob)) : Nat → Int32 → Int32 → Option (Int32 × Ob)
  | 0, _, _ => none
  | f + 1, x37, x38 =>
    if (gi r3 40) ≤ x38 then (K90 x37)
    else (zgd x38 6 <| Option.bind (pX11_mayOn r3 (ga r3 39 (x38.toNatClampNeg)) (gi r3 13)) fun (r39 : Int32) =>
    zjn (fun (x40 : Int32) =>
    zlet ((x37 ||| x40)) fun (x41 : Int32) =>
    zlet (x38 + (1 : Int32)) fun (x42 : Int32) =>
    lX11_turns_46 r3 K90 f x41 x42) fun (K82 : Int32 → Option (Int32 × Ob)) =>
    if r39 = 0 then (K82 (0 : Int32))
    else (K82 (((1 : Int32) <<< (x38 &&& 31)))))
def pX11_turns (o : Ob) (a1 : Int32) (a2 : Int32) : Option (Int32 × Ob) :=
  Option.bind (pX11_isSuit o a1) fun (r1 : Int32) =>
  if r1 = 0 then (some ((-1000000001 : Int32), o))
  else (Option.bind (pX11_in (a2.toInt64) (0 : Int64) (1 : Int64)) fun (r2 : Int32) =>
  if r2 = 0 then (some ((-1000000002 : Int32), o))
  else (zgd a1 6 <| if (ga o 15 (a1.toNatClampNeg)) = 0 then (Option.bind (pX11_listOwn o a1) fun (r3 : Ob) =>
  zjn (fun (x4 : Int32) =>
  zjn (fun (x5 : Int32) (o6 : Ob) =>
  Option.bind (pX11_isEnough o6 a1) fun (r7 : Int32) =>
  if a2 = 0 then (zjn (some ((1 : Int32), o6)) fun (K264 : Option (Int32 × Ob)) =>
  if r7 = 0 then (zgd x5 64 <| if (0 : Int64) < (gb o6 45 (x5.toNatClampNeg)) then (some ((0 : Int32), o6))
  else (K264))
  else (K264))
  else (lX11_turns_273 a1 r7 zfu x5 (0 : Int32) o6)) fun (K237 : Int32 → Ob → Option (Int32 × Ob)) =>
  lX11_turns_93 a1 K237 zfu x4 (0 : Int32) r3) fun (K90 : Int32 → Option (Int32 × Ob)) =>
  lX11_turns_46 r3 K90 zfu (0 : Int32) (0 : Int32))
  else (some ((-1000000003 : Int32), o))))
set_option maxHeartbeats 4000000 in
set_option maxRecDepth 100000 in
theorem wlX11_turns_273 {X : ZX} {out : (Int32 × Ob)} (q : Nat → Nat) (a1 : Int32) (r7 : Int32) (F : zF l D tA RX11 cX11_turns 9 rmX11_turns X) (hr : zRi X D cX11_turns .int (fun (r : Int32 × Ob) => (r.1)) (fun (r : Int32 × Ob) => (WM tA q (r.2))) out) : ∀ (f : Nat) (x8 : Int32) (x9 : Int32) (o10 : Ob), zY X D out (lX11_turns_273 a1 r7 f x8 x9 o10) (WM tA q o10) 273 [some (.ref (q 0)), some (.int a1), none, some (.int x8), some (.int r7), some (.int x9), none, none, none] [] := by
  intro f
  induction f with
  | zero =>
    intro x8 x9 o10
    exact y_none
  | succ f ih =>
    intro x8 x9 o10
    rw [lX11_turns_273.eq_2]
    refine y_iload (pc := 273) F dX11_turns_273 rfl ?_
    refine y_aload_n (pc := 275) F dX11_turns_275 rfl ?_
    refine y_get (pc := 276) F dX11_turns_276 kF_X11_303 0 WM_at0 rfl ?_
    refine y_icmp_ge (pc := 279) (tgt := 327) F dX11_turns_279 rfl ?_ ?_
    · refine y_iconst (v := -1) (pc := 327) F dX11_turns_327 rfl ?_
      exact y_iret hr dX11_turns_328 rfl rfl
    · refine y_iload_n (pc := 282) F dX11_turns_282 rfl ?_
      refine y_iload (pc := 283) F dX11_turns_283 rfl ?_
      refine y_scalliP (As := [.int x8, .int x9]) (st := []) (pc := 285) F (c_X11_has (q := q) x8 x9) dX11_turns_285 kM_X11_326 ⟨rfl, rfl⟩ ⟨Nat.le_of_ble_eq_true rfl, Nat.le_of_ble_eq_true rfl⟩ rfl rfl rfl (Nat.le_of_ble_eq_true rfl) (fun r11 => ?_)
      refine y_jn (fun (K321 : Option (Int32 × Ob)) => zY X D out (K321) (WM tA q o10) 321 [some (.ref (q 0)), some (.int a1), none, some (.int x8), some (.int r7), some (.int x9), none, none, none] []) ?_ ?_
      · skip
        refine y_iinc (v := 1) (lf := fun (x12 : Int32) => [some (.ref (q 0)), some (.int a1), none, some (.int x8), some (.int r7), some (.int x12), none, none, none]) (pc := 321) F dX11_turns_321 rfl rfl rfl (fun _ => rfl) (fun x12 => ?_)
        refine y_goto (tgt := 273) (pc := 324) F dX11_turns_324 rfl ?_
        exact ih x8 x12 o10
      intro K321 hK321
      refine y_if_eq (pc := 288) (tgt := 321) F dX11_turns_288 rfl ?_ ?_
      · exact hK321
      · refine y_iload (pc := 291) F dX11_turns_291 rfl ?_
        refine y_if_ne (pc := 293) (tgt := 313) F dX11_turns_293 rfl ?_ ?_
        · refine y_aload_n (pc := 296) F dX11_turns_296 rfl ?_
          refine y_iload_n (pc := 297) F dX11_turns_297 rfl ?_
          refine y_iload_n (pc := 298) F dX11_turns_298 rfl ?_
          refine y_iload (pc := 299) F dX11_turns_299 rfl ?_
          refine y_iload_n (pc := 301) F dX11_turns_301 rfl ?_
          refine y_scalliP (As := [.int x8]) (st := [.int x9, .int x8, .int a1, .ref (q 0)]) (pc := 302) F (c_X11_bits (q := q) x8) dX11_turns_302 kM_X11_313 ⟨rfl, rfl⟩ ⟨Nat.le_of_ble_eq_true rfl, Nat.le_of_ble_eq_true rfl⟩ rfl rfl rfl (Nat.le_of_ble_eq_true rfl) (fun r13 => ?_)
          refine y_calllW (As := [.int a1, .int x8, .int x9, .int r13]) (st := []) (q0 := 0) (pc := 305) F (c_X11_wantOf (q := q) o10 a1 x8 x9 r13) dX11_turns_305 kM_X11_370 ⟨rfl, rfl⟩ ⟨Nat.le_of_ble_eq_true rfl, Nat.le_of_ble_eq_true rfl⟩ rfl rfl rfl (Nat.le_of_ble_eq_true rfl) rfl rfl WM_at0 (fun r14 => ?_)
          refine y_lconst (v := 0) (pc := 308) F dX11_turns_308 rfl ?_
          refine y_lcmp_gt (pc := 309) (tgt := 321) F dX11_turns_309 dX11_turns_310 rfl ?_ ?_
          · exact hK321
          · refine y_aload_n (pc := 313) F dX11_turns_313 rfl ?_
            refine y_get (pc := 314) F dX11_turns_314 kF_X11_84 0 WM_at0 rfl ?_
            refine y_iload (pc := 317) F dX11_turns_317 rfl ?_
            refine y_iald (pc := 319) F dX11_turns_319 24 WM_at24 ?_
            exact y_iret hr dX11_turns_320 rfl rfl
        · refine y_aload_n (pc := 313) F dX11_turns_313 rfl ?_
          refine y_get (pc := 314) F dX11_turns_314 kF_X11_84 0 WM_at0 rfl ?_
          refine y_iload (pc := 317) F dX11_turns_317 rfl ?_
          refine y_iald (pc := 319) F dX11_turns_319 24 WM_at24 ?_
          exact y_iret hr dX11_turns_320 rfl rfl
set_option maxHeartbeats 4000000 in
set_option maxRecDepth 100000 in
theorem wlX11_turns_113 {X : ZX} {out : (Int32 × Ob)} (q : Nat → Nat) (a1 : Int32) (a2 : Int32) (F : zF l D tA RX11 cX11_turns 9 rmX11_turns X) (hr : zRi X D cX11_turns .int (fun (r : Int32 × Ob) => (r.1)) (fun (r : Int32 × Ob) => (WM tA q (r.2))) out) {K231 : Int32 → Int32 → Ob → Option (Int32 × Ob)} (hK231 : ∀ (x19 : Int32) (x20 : Int32) (o21 : Ob), zY X D out (K231 x19 x20 o21) (WM tA q o21) 231 [some (.ref (q 0)), some (.int a1), some (.int a2), some (.int x19), some (.int x20), none, none, none, none] []) : ∀ (f : Nat) (x23 : Int32) (x24 : Int32) (x25 : Int32) (o26 : Ob), zY X D out (lX11_turns_113 a1 K231 f x23 x24 x25 o26) (WM tA q o26) 113 [some (.ref (q 0)), some (.int a1), some (.int a2), some (.int x23), some (.int x24), some (.int x25), none, none, none] [] := by
  intro f
  induction f with
  | zero =>
    intro x23 x24 x25 o26
    exact y_none
  | succ f ih =>
    intro x23 x24 x25 o26
    rw [lX11_turns_113.eq_2]
    refine y_iload (pc := 113) F dX11_turns_113 rfl ?_
    refine y_aload_n (pc := 115) F dX11_turns_115 rfl ?_
    refine y_get (pc := 116) F dX11_turns_116 kF_X11_303 0 WM_at0 rfl ?_
    refine y_icmp_ge (pc := 119) (tgt := 231) F dX11_turns_119 rfl ?_ ?_
    · refine y_le (lv' := [some (.ref (q 0)), some (.int a1), some (.int a2), some (.int x23), some (.int x24), none, none, none, none]) ⟨rfl, ⟨rfl, ⟨rfl, ⟨rfl, ⟨rfl, trivial⟩⟩⟩⟩⟩ ?_
      exact hK231 x23 x24 o26
    · refine y_iload (pc := 122) F dX11_turns_122 rfl ?_
      refine y_iload_n (pc := 124) F dX11_turns_124 rfl ?_
      refine y_iconst (v := -1) (pc := 125) F dX11_turns_125 rfl ?_
      refine y_ixor (pc := 126) F dX11_turns_126 ?_
      refine y_iand (pc := 127) F dX11_turns_127 ?_
      refine y_jn (fun (K161 : Int32 → Option (Int32 × Ob)) => ∀ (x27 : Int32), zY X D out (K161 x27) (WM tA q o26) 161 [some (.ref (q 0)), some (.int a1), some (.int a2), some (.int x23), some (.int x24), some (.int x25), none, none, none] [.int x27]) ?_ ?_
      · intro x27
        refine y_istore (lv' := [some (.ref (q 0)), some (.int a1), some (.int a2), some (.int x23), some (.int x24), some (.int x25), some (.int x27), none, none]) (pc := 161) F dX11_turns_161 (Nat.le_of_ble_eq_true rfl) rfl rfl ?_
        refine y_iload (pc := 163) F dX11_turns_163 rfl ?_
        refine y_jn (fun (K191 : Int64 → Option (Int32 × Ob)) => ∀ (y28 : Int64), zY X D out (K191 y28) (WM tA q o26) 191 [some (.ref (q 0)), some (.int a1), some (.int a2), some (.int x23), some (.int x24), some (.int x25), none, none, none] [.long y28]) ?_ ?_
        · intro y28
          refine y_lstore (lv' := [some (.ref (q 0)), some (.int a1), some (.int a2), some (.int x23), some (.int x24), some (.int x25), none, some (.long y28), none]) (pc := 191) F dX11_turns_191 (Nat.le_of_ble_eq_true rfl) rfl rfl ?_
          refine y_aload_n (pc := 193) F dX11_turns_193 rfl ?_
          refine y_get (pc := 194) F dX11_turns_194 kF_X11_100 0 WM_at0 rfl ?_
          refine y_iload (pc := 197) F dX11_turns_197 rfl ?_
          refine y_lload (pc := 199) F dX11_turns_199 rfl ?_
          refine y_aload_n (pc := 201) F dX11_turns_201 rfl ?_
          refine y_get (pc := 202) F dX11_turns_202 kF_X11_100 0 WM_at0 rfl ?_
          refine y_iload (pc := 205) F dX11_turns_205 rfl ?_
          refine y_lald (pc := 207) F dX11_turns_207 29 WM_at29 ?_
          refine y_jn (fun (K224 : Int64 → Option (Int32 × Ob)) => ∀ (y29 : Int64), zY X D out (K224 y29) (WM tA q o26) 224 [some (.ref (q 0)), some (.int a1), some (.int a2), some (.int x23), some (.int x24), some (.int x25), none, none, none] [.long y29, .int x24, .ref (q 29)]) ?_ ?_
          · intro y29
            refine y_last (pc := 224) F dX11_turns_224 29 WM_at29 (fun (o30 : Ob) => (WM tA q o30)) (WM_ar29 _) (fun o30 => ?_)
            refine y_iinc (v := 1) (lf := fun (x31 : Int32) => [some (.ref (q 0)), some (.int a1), some (.int a2), some (.int x23), some (.int x24), some (.int x31), none, none, none]) (pc := 225) F dX11_turns_225 rfl rfl rfl (fun _ => rfl) (fun x31 => ?_)
            refine y_goto (tgt := 113) (pc := 228) F dX11_turns_228 rfl ?_
            exact ih x23 x24 x31 o30
          intro K224 hK224
          refine y_lcmp_ge (pc := 208) (tgt := 217) F dX11_turns_208 dX11_turns_209 rfl ?_ ?_
          · refine y_aload_n (pc := 217) F dX11_turns_217 rfl ?_
            refine y_get (pc := 218) F dX11_turns_218 kF_X11_100 0 WM_at0 rfl ?_
            refine y_iload (pc := 221) F dX11_turns_221 rfl ?_
            refine y_lald (pc := 223) F dX11_turns_223 29 WM_at29 ?_
            refine y_le (lv' := [some (.ref (q 0)), some (.int a1), some (.int a2), some (.int x23), some (.int x24), some (.int x25), none, none, none]) ⟨rfl, ⟨rfl, ⟨rfl, ⟨rfl, ⟨rfl, ⟨rfl, trivial⟩⟩⟩⟩⟩⟩ ?_
            exact hK224 ((gb o26 45 (x24.toNatClampNeg)))
          · refine y_lload (pc := 212) F dX11_turns_212 rfl ?_
            refine y_goto (tgt := 224) (pc := 214) F dX11_turns_214 rfl ?_
            refine y_le (lv' := [some (.ref (q 0)), some (.int a1), some (.int a2), some (.int x23), some (.int x24), some (.int x25), none, none, none]) ⟨rfl, ⟨rfl, ⟨rfl, ⟨rfl, ⟨rfl, ⟨rfl, trivial⟩⟩⟩⟩⟩⟩ ?_
            exact hK224 y28
        intro K191 hK191
        refine y_if_eq (pc := 165) (tgt := 184) F dX11_turns_165 rfl ?_ ?_
        · refine y_aload_n (pc := 184) F dX11_turns_184 rfl ?_
          refine y_get (pc := 185) F dX11_turns_185 kF_X11_100 0 WM_at0 rfl ?_
          refine y_iload (pc := 188) F dX11_turns_188 rfl ?_
          refine y_lald (pc := 190) F dX11_turns_190 29 WM_at29 ?_
          refine y_le (lv' := [some (.ref (q 0)), some (.int a1), some (.int a2), some (.int x23), some (.int x24), some (.int x25), none, none, none]) ⟨rfl, ⟨rfl, ⟨rfl, ⟨rfl, ⟨rfl, ⟨rfl, trivial⟩⟩⟩⟩⟩⟩ ?_
          exact hK191 ((gb o26 45 (x24.toNatClampNeg)))
        · refine y_aload_n (pc := 168) F dX11_turns_168 rfl ?_
          refine y_iload_n (pc := 169) F dX11_turns_169 rfl ?_
          refine y_iload (pc := 170) F dX11_turns_170 rfl ?_
          refine y_iload (pc := 172) F dX11_turns_172 rfl ?_
          refine y_iload_n (pc := 174) F dX11_turns_174 rfl ?_
          refine y_scalliP (As := [.int x23]) (st := [.int x25, .int x24, .int a1, .ref (q 0)]) (pc := 175) F (c_X11_bits (q := q) x23) dX11_turns_175 kM_X11_313 ⟨rfl, rfl⟩ ⟨Nat.le_of_ble_eq_true rfl, Nat.le_of_ble_eq_true rfl⟩ rfl rfl rfl (Nat.le_of_ble_eq_true rfl) (fun r32 => ?_)
          refine y_calllW (As := [.int a1, .int x24, .int x25, .int r32]) (st := []) (q0 := 0) (pc := 178) F (c_X11_wantOf (q := q) o26 a1 x24 x25 r32) dX11_turns_178 kM_X11_370 ⟨rfl, rfl⟩ ⟨Nat.le_of_ble_eq_true rfl, Nat.le_of_ble_eq_true rfl⟩ rfl rfl rfl (Nat.le_of_ble_eq_true rfl) rfl rfl WM_at0 (fun r33 => ?_)
          refine y_goto (tgt := 191) (pc := 181) F dX11_turns_181 rfl ?_
          refine y_le (lv' := [some (.ref (q 0)), some (.int a1), some (.int a2), some (.int x23), some (.int x24), some (.int x25), none, none, none]) ⟨rfl, ⟨rfl, ⟨rfl, ⟨rfl, ⟨rfl, ⟨rfl, trivial⟩⟩⟩⟩⟩⟩ ?_
          exact hK191 r33
      intro K161 hK161
      refine y_jn (fun (K160 : Option (Int32 × Ob)) => zY X D out (K160) (WM tA q o26) 160 [some (.ref (q 0)), some (.int a1), some (.int a2), some (.int x23), some (.int x24), some (.int x25), none, none, none] []) ?_ ?_
      · skip
        refine y_iconst (v := 0) (pc := 160) F dX11_turns_160 rfl ?_
        exact hK161 (0 : Int32)
      intro K160 hK160
      refine y_if_ne (pc := 128) (tgt := 160) F dX11_turns_128 rfl ?_ ?_
      · refine y_iload (pc := 131) F dX11_turns_131 rfl ?_
        refine y_iload (pc := 133) F dX11_turns_133 rfl ?_
        refine y_scalliP (As := [.int x24, .int x25]) (st := []) (pc := 135) F (c_X11_has (q := q) x24 x25) dX11_turns_135 kM_X11_326 ⟨rfl, rfl⟩ ⟨Nat.le_of_ble_eq_true rfl, Nat.le_of_ble_eq_true rfl⟩ rfl rfl rfl (Nat.le_of_ble_eq_true rfl) (fun r34 => ?_)
        refine y_if_eq (pc := 138) (tgt := 160) F dX11_turns_138 rfl ?_ ?_
        · exact hK160
        · refine y_iload_n (pc := 141) F dX11_turns_141 rfl ?_
          refine y_scalliP (As := [.int x23]) (st := []) (pc := 142) F (c_X11_bits (q := q) x23) dX11_turns_142 kM_X11_313 ⟨rfl, rfl⟩ ⟨Nat.le_of_ble_eq_true rfl, Nat.le_of_ble_eq_true rfl⟩ rfl rfl rfl (Nat.le_of_ble_eq_true rfl) (fun r35 => ?_)
          refine y_iload (pc := 145) F dX11_turns_145 rfl ?_
          refine y_scalliP (As := [.int x24]) (st := [.int r35]) (pc := 147) F (c_X11_bits (q := q) x24) dX11_turns_147 kM_X11_313 ⟨rfl, rfl⟩ ⟨Nat.le_of_ble_eq_true rfl, Nat.le_of_ble_eq_true rfl⟩ rfl rfl rfl (Nat.le_of_ble_eq_true rfl) (fun r36 => ?_)
          refine y_isub (pc := 150) F dX11_turns_150 ?_
          refine y_iconst (v := 2) (pc := 151) F dX11_turns_151 rfl ?_
          refine y_irem (pc := 152) F dX11_turns_152 ?_
          refine y_if_ne (pc := 153) (tgt := 160) F dX11_turns_153 rfl ?_ ?_
          · refine y_iconst (v := 1) (pc := 156) F dX11_turns_156 rfl ?_
            refine y_goto (tgt := 161) (pc := 157) F dX11_turns_157 rfl ?_
            exact hK161 (1 : Int32)
          · exact hK160
      · exact hK160
set_option maxHeartbeats 4000000 in
set_option maxRecDepth 100000 in
theorem wlX11_turns_93 {X : ZX} {out : (Int32 × Ob)} (q : Nat → Nat) (a1 : Int32) (a2 : Int32) (F : zF l D tA RX11 cX11_turns 9 rmX11_turns X) (hr : zRi X D cX11_turns .int (fun (r : Int32 × Ob) => (r.1)) (fun (r : Int32 × Ob) => (WM tA q (r.2))) out) {K237 : Int32 → Ob → Option (Int32 × Ob)} (hK237 : ∀ (x5 : Int32) (o6 : Ob), zY X D out (K237 x5 o6) (WM tA q o6) 237 [some (.ref (q 0)), some (.int a1), some (.int a2), some (.int x5), none, none, none, none, none] []) : ∀ (f : Nat) (x15 : Int32) (x16 : Int32) (o17 : Ob), zY X D out (lX11_turns_93 a1 K237 f x15 x16 o17) (WM tA q o17) 93 [some (.ref (q 0)), some (.int a1), some (.int a2), some (.int x15), some (.int x16), none, none, none, none] [] := by
  intro f
  induction f with
  | zero =>
    intro x15 x16 o17
    exact y_none
  | succ f ih =>
    intro x15 x16 o17
    rw [lX11_turns_93.eq_2]
    refine y_iload (pc := 93) F dX11_turns_93 rfl ?_
    refine y_bipush (v := 64) (pc := 95) F dX11_turns_95 rfl ?_
    refine y_icmp_ge (pc := 97) (tgt := 237) F dX11_turns_97 rfl ?_ ?_
    · refine y_le (lv' := [some (.ref (q 0)), some (.int a1), some (.int a2), some (.int x15), none, none, none, none, none]) ⟨rfl, ⟨rfl, ⟨rfl, ⟨rfl, trivial⟩⟩⟩⟩ ?_
      exact hK237 x15 o17
    · refine y_aload_n (pc := 100) F dX11_turns_100 rfl ?_
      refine y_get (pc := 101) F dX11_turns_101 kF_X11_100 0 WM_at0 rfl ?_
      refine y_iload (pc := 104) F dX11_turns_104 rfl ?_
      refine y_ldc2 (pc := 106) F dX11_turns_106 kC_X11_366 ?_
      refine y_last (pc := 109) F dX11_turns_109 29 WM_at29 (fun (o18 : Ob) => (WM tA q o18)) (WM_ar29 _) (fun o18 => ?_)
      refine y_iconst (v := 0) (pc := 110) F dX11_turns_110 rfl ?_
      refine y_istore (lv' := [some (.ref (q 0)), some (.int a1), some (.int a2), some (.int x15), some (.int x16), some (.int (0 : Int32)), none, none, none]) (pc := 111) F dX11_turns_111 (Nat.le_of_ble_eq_true rfl) rfl rfl ?_
      refine y_jn (fun (K231 : Int32 → Int32 → Ob → Option (Int32 × Ob)) => ∀ (x19 : Int32) (x20 : Int32) (o21 : Ob), zY X D out (K231 x19 x20 o21) (WM tA q o21) 231 [some (.ref (q 0)), some (.int a1), some (.int a2), some (.int x19), some (.int x20), none, none, none, none] []) ?_ ?_
      · intro x19 x20 o21
        refine y_iinc (v := 1) (lf := fun (x22 : Int32) => [some (.ref (q 0)), some (.int a1), some (.int a2), some (.int x19), some (.int x22), none, none, none, none]) (pc := 231) F dX11_turns_231 rfl rfl rfl (fun _ => rfl) (fun x22 => ?_)
        refine y_goto (tgt := 93) (pc := 234) F dX11_turns_234 rfl ?_
        exact ih x19 x22 o21
      intro K231 hK231
      exact wlX11_turns_113 q a1 a2 F hr hK231 zfu x15 x16 (0 : Int32) o18
set_option maxHeartbeats 4000000 in
set_option maxRecDepth 100000 in
theorem wlX11_turns_46 {X : ZX} {out : (Int32 × Ob)} (q : Nat → Nat) (a1 : Int32) (a2 : Int32) (r3 : Ob) (F : zF l D tA RX11 cX11_turns 9 rmX11_turns X) (hr : zRi X D cX11_turns .int (fun (r : Int32 × Ob) => (r.1)) (fun (r : Int32 × Ob) => (WM tA q (r.2))) out) {K90 : Int32 → Option (Int32 × Ob)} (hK90 : ∀ (x4 : Int32), zY X D out (K90 x4) (WM tA q r3) 90 [some (.ref (q 0)), some (.int a1), some (.int a2), some (.int x4), none, none, none, none, none] []) : ∀ (f : Nat) (x37 : Int32) (x38 : Int32), zY X D out (lX11_turns_46 r3 K90 f x37 x38) (WM tA q r3) 46 [some (.ref (q 0)), some (.int a1), some (.int a2), some (.int x37), some (.int x38), none, none, none, none] [] := by
  intro f
  induction f with
  | zero =>
    intro x37 x38
    exact y_none
  | succ f ih =>
    intro x37 x38
    rw [lX11_turns_46.eq_2]
    refine y_iload (pc := 46) F dX11_turns_46 rfl ?_
    refine y_aload_n (pc := 48) F dX11_turns_48 rfl ?_
    refine y_get (pc := 49) F dX11_turns_49 kF_X11_303 0 WM_at0 rfl ?_
    refine y_icmp_ge (pc := 52) (tgt := 90) F dX11_turns_52 rfl ?_ ?_
    · refine y_le (lv' := [some (.ref (q 0)), some (.int a1), some (.int a2), some (.int x37), none, none, none, none, none]) ⟨rfl, ⟨rfl, ⟨rfl, ⟨rfl, trivial⟩⟩⟩⟩ ?_
      exact hK90 x37
    · refine y_iload_n (pc := 55) F dX11_turns_55 rfl ?_
      refine y_aload_n (pc := 56) F dX11_turns_56 rfl ?_
      refine y_aload_n (pc := 57) F dX11_turns_57 rfl ?_
      refine y_get (pc := 58) F dX11_turns_58 kF_X11_84 0 WM_at0 rfl ?_
      refine y_iload (pc := 61) F dX11_turns_61 rfl ?_
      refine y_iald (pc := 63) F dX11_turns_63 24 WM_at24 ?_
      refine y_aload_n (pc := 64) F dX11_turns_64 rfl ?_
      refine y_get (pc := 65) F dX11_turns_65 kF_X11_223 0 WM_at0 rfl ?_
      refine y_calliW (As := [.int (ga r3 39 (x38.toNatClampNeg)), .int (gi r3 13)]) (st := [.int x37]) (q0 := 0) (pc := 68) F (c_X11_mayOn (q := q) r3 (ga r3 39 (x38.toNatClampNeg)) (gi r3 13)) dX11_turns_68 kM_X11_253 ⟨rfl, rfl⟩ ⟨Nat.le_of_ble_eq_true rfl, Nat.le_of_ble_eq_true rfl⟩ rfl rfl rfl (Nat.le_of_ble_eq_true rfl) rfl rfl WM_at0 (fun r39 => ?_)
      refine y_jn (fun (K82 : Int32 → Option (Int32 × Ob)) => ∀ (x40 : Int32), zY X D out (K82 x40) (WM tA q r3) 82 [some (.ref (q 0)), some (.int a1), some (.int a2), none, some (.int x38), none, none, none, none] [.int x40, .int x37]) ?_ ?_
      · intro x40
        refine y_ior (pc := 82) F dX11_turns_82 ?_
        refine y_lti (fun x41 => ?_)
        refine y_istore_n (lv' := [some (.ref (q 0)), some (.int a1), some (.int a2), some (.int x41), some (.int x38), none, none, none, none]) (pc := 83) F dX11_turns_83 (Nat.le_of_ble_eq_true rfl) rfl rfl ?_
        refine y_iinc (v := 1) (lf := fun (x42 : Int32) => [some (.ref (q 0)), some (.int a1), some (.int a2), some (.int x41), some (.int x42), none, none, none, none]) (pc := 84) F dX11_turns_84 rfl rfl rfl (fun _ => rfl) (fun x42 => ?_)
        refine y_goto (tgt := 46) (pc := 87) F dX11_turns_87 rfl ?_
        exact ih x41 x42
      intro K82 hK82
      refine y_if_eq (pc := 71) (tgt := 81) F dX11_turns_71 rfl ?_ ?_
      · refine y_iconst (v := 0) (pc := 81) F dX11_turns_81 rfl ?_
        refine y_le (lv' := [some (.ref (q 0)), some (.int a1), some (.int a2), none, some (.int x38), none, none, none, none]) ⟨rfl, ⟨rfl, ⟨rfl, ⟨rfl, trivial⟩⟩⟩⟩ ?_
        exact hK82 (0 : Int32)
      · refine y_iconst (v := 1) (pc := 74) F dX11_turns_74 rfl ?_
        refine y_iload (pc := 75) F dX11_turns_75 rfl ?_
        refine y_ishl (pc := 77) F dX11_turns_77 ?_
        refine y_goto (tgt := 82) (pc := 78) F dX11_turns_78 rfl ?_
        refine y_le (lv' := [some (.ref (q 0)), some (.int a1), some (.int a2), none, some (.int x38), none, none, none, none]) ⟨rfl, ⟨rfl, ⟨rfl, ⟨rfl, trivial⟩⟩⟩⟩ ?_
        exact hK82 (((1 : Int32) <<< (x38 &&& 31)))
set_option maxHeartbeats 4000000 in
set_option maxRecDepth 100000 in
theorem c_X11_turns {q : Nat → Nat} (o : Ob) (a1 : Int32) (a2 : Int32) : zCi l D tA yX11_turns cX11_turns 9 .int rmX11_turns [.ref (q 0), .int a1, .int a2] (WM tA q o) (fun (r : Int32 × Ob) => (r.1)) (fun (r : Int32 × Ob) => (WM tA q (r.2))) (pX11_turns o a1 a2) := by
  refine zCi_of (lv0 := [some (.ref (q 0)), some (.int a1), some (.int a2), none, none, none, none, none, none]) (by decide +kernel) (Nat.le_of_ble_eq_true rfl) rfl (fun X out F hr => ?_)
  unfold pX11_turns
  refine y_aload_n (pc := 0) F dX11_turns_0 rfl ?_
  refine y_iload_n (pc := 1) F dX11_turns_1 rfl ?_
  refine y_calliW (As := [.int a1]) (st := []) (q0 := 0) (pc := 2) F (c_X11_isSuit (q := q) o a1) dX11_turns_2 kM_X11_244 ⟨rfl, rfl⟩ ⟨Nat.le_of_ble_eq_true rfl, Nat.le_of_ble_eq_true rfl⟩ rfl rfl rfl (Nat.le_of_ble_eq_true rfl) rfl rfl WM_at0 (fun r1 => ?_)
  refine y_if_ne (pc := 5) (tgt := 11) F dX11_turns_5 rfl ?_ ?_
  · refine y_ldc (pc := 8) F dX11_turns_8 kC_X11_248 ?_
    exact y_iret hr dX11_turns_10 rfl rfl
  · refine y_iload_n (pc := 11) F dX11_turns_11 rfl ?_
    refine y_i2l (pc := 12) F dX11_turns_12 ?_
    refine y_lconst (v := 0) (pc := 13) F dX11_turns_13 rfl ?_
    refine y_lconst (v := 1) (pc := 14) F dX11_turns_14 rfl ?_
    refine y_scalliP (As := [.long (a2.toInt64), .long (0 : Int64), .long (1 : Int64)]) (st := []) (pc := 15) F (c_X11_in (q := q) (a2.toInt64) (0 : Int64) (1 : Int64)) dX11_turns_15 kM_X11_127 ⟨rfl, rfl⟩ ⟨Nat.le_of_ble_eq_true rfl, Nat.le_of_ble_eq_true rfl⟩ rfl rfl rfl (Nat.le_of_ble_eq_true rfl) (fun r2 => ?_)
    refine y_if_ne (pc := 18) (tgt := 24) F dX11_turns_18 rfl ?_ ?_
    · refine y_ldc (pc := 21) F dX11_turns_21 kC_X11_136 ?_
      exact y_iret hr dX11_turns_23 rfl rfl
    · refine y_aload_n (pc := 24) F dX11_turns_24 rfl ?_
      refine y_get (pc := 25) F dX11_turns_25 kF_X11_41 0 WM_at0 rfl ?_
      refine y_iload_n (pc := 28) F dX11_turns_28 rfl ?_
      refine y_iald (pc := 29) F dX11_turns_29 11 WM_at11 ?_
      refine y_if_eq (pc := 30) (tgt := 36) F dX11_turns_30 rfl ?_ ?_
      · refine y_aload_n (pc := 36) F dX11_turns_36 rfl ?_
        refine y_iload_n (pc := 37) F dX11_turns_37 rfl ?_
        refine y_callvW (As := [.int a1]) (st := []) (q0 := 0) (pc := 38) F (c_X11_listOwn (q := q) o a1) dX11_turns_38 kM_X11_332 ⟨rfl, rfl⟩ ⟨Nat.le_of_ble_eq_true rfl, Nat.le_of_ble_eq_true rfl⟩ rfl rfl rfl (Nat.le_of_ble_eq_true rfl) rfl rfl WM_at0 (fun r3 => ?_)
        refine y_iconst (v := 0) (pc := 41) F dX11_turns_41 rfl ?_
        refine y_istore_n (lv' := [some (.ref (q 0)), some (.int a1), some (.int a2), some (.int (0 : Int32)), none, none, none, none, none]) (pc := 42) F dX11_turns_42 (Nat.le_of_ble_eq_true rfl) rfl rfl ?_
        refine y_iconst (v := 0) (pc := 43) F dX11_turns_43 rfl ?_
        refine y_istore (lv' := [some (.ref (q 0)), some (.int a1), some (.int a2), some (.int (0 : Int32)), some (.int (0 : Int32)), none, none, none, none]) (pc := 44) F dX11_turns_44 (Nat.le_of_ble_eq_true rfl) rfl rfl ?_
        refine y_jn (fun (K90 : Int32 → Option (Int32 × Ob)) => ∀ (x4 : Int32), zY X D out (K90 x4) (WM tA q r3) 90 [some (.ref (q 0)), some (.int a1), some (.int a2), some (.int x4), none, none, none, none, none] []) ?_ ?_
        · intro x4
          refine y_iconst (v := 0) (pc := 90) F dX11_turns_90 rfl ?_
          refine y_istore (lv' := [some (.ref (q 0)), some (.int a1), some (.int a2), some (.int x4), some (.int (0 : Int32)), none, none, none, none]) (pc := 91) F dX11_turns_91 (Nat.le_of_ble_eq_true rfl) rfl rfl ?_
          refine y_jn (fun (K237 : Int32 → Ob → Option (Int32 × Ob)) => ∀ (x5 : Int32) (o6 : Ob), zY X D out (K237 x5 o6) (WM tA q o6) 237 [some (.ref (q 0)), some (.int a1), some (.int a2), some (.int x5), none, none, none, none, none] []) ?_ ?_
          · intro x5 o6
            refine y_aload_n (pc := 237) F dX11_turns_237 rfl ?_
            refine y_iload_n (pc := 238) F dX11_turns_238 rfl ?_
            refine y_calliW (As := [.int a1]) (st := []) (q0 := 0) (pc := 239) F (c_X11_isEnough (q := q) o6 a1) dX11_turns_239 kM_X11_268 ⟨rfl, rfl⟩ ⟨Nat.le_of_ble_eq_true rfl, Nat.le_of_ble_eq_true rfl⟩ rfl rfl rfl (Nat.le_of_ble_eq_true rfl) rfl rfl WM_at0 (fun r7 => ?_)
            refine y_istore (lv' := [some (.ref (q 0)), some (.int a1), some (.int a2), some (.int x5), some (.int r7), none, none, none, none]) (pc := 242) F dX11_turns_242 (Nat.le_of_ble_eq_true rfl) rfl rfl ?_
            refine y_iload_n (pc := 244) F dX11_turns_244 rfl ?_
            refine y_if_ne (pc := 245) (tgt := 270) F dX11_turns_245 rfl ?_ ?_
            · refine y_iload (pc := 248) F dX11_turns_248 rfl ?_
              refine y_jn (fun (K264 : Option (Int32 × Ob)) => zY X D out (K264) (WM tA q o6) 264 [none, none, none, none, none, none, none, none, none] []) ?_ ?_
              · skip
                refine y_iconst (v := 1) (pc := 264) F dX11_turns_264 rfl ?_
                refine y_goto (tgt := 269) (pc := 265) F dX11_turns_265 rfl ?_
                exact y_iret hr dX11_turns_269 rfl rfl
              intro K264 hK264
              refine y_if_ne (pc := 250) (tgt := 264) F dX11_turns_250 rfl ?_ ?_
              · refine y_aload_n (pc := 253) F dX11_turns_253 rfl ?_
                refine y_get (pc := 254) F dX11_turns_254 kF_X11_100 0 WM_at0 rfl ?_
                refine y_iload_n (pc := 257) F dX11_turns_257 rfl ?_
                refine y_lald (pc := 258) F dX11_turns_258 29 WM_at29 ?_
                refine y_lconst (v := 0) (pc := 259) F dX11_turns_259 rfl ?_
                refine y_lcmp_gt (pc := 260) (tgt := 268) F dX11_turns_260 dX11_turns_261 rfl ?_ ?_
                · refine y_iconst (v := 0) (pc := 268) F dX11_turns_268 rfl ?_
                  exact y_iret hr dX11_turns_269 rfl rfl
                · refine y_le (lv' := [none, none, none, none, none, none, none, none, none]) trivial ?_
                  exact hK264
              · refine y_le (lv' := [none, none, none, none, none, none, none, none, none]) trivial ?_
                exact hK264
            · refine y_iconst (v := 0) (pc := 270) F dX11_turns_270 rfl ?_
              refine y_istore (lv' := [some (.ref (q 0)), some (.int a1), some (.int a2), some (.int x5), some (.int r7), some (.int (0 : Int32)), none, none, none]) (pc := 271) F dX11_turns_271 (Nat.le_of_ble_eq_true rfl) rfl rfl ?_
              refine y_le (lv' := [some (.ref (q 0)), some (.int a1), none, some (.int x5), some (.int r7), some (.int (0 : Int32)), none, none, none]) ⟨rfl, ⟨rfl, ⟨rfl, ⟨rfl, ⟨rfl, trivial⟩⟩⟩⟩⟩ ?_
              exact wlX11_turns_273 q a1 r7 F hr zfu x5 (0 : Int32) o6
          intro K237 hK237
          exact wlX11_turns_93 q a1 a2 F hr hK237 zfu x4 (0 : Int32) r3
        intro K90 hK90
        exact wlX11_turns_46 q a1 a2 r3 F hr hK90 zfu (0 : Int32) (0 : Int32)
      · refine y_ldc (pc := 33) F dX11_turns_33 kC_X11_232 ?_
        exact y_iret hr dX11_turns_35 rfl rfl
abbrev rmX11_swap : Room := { frames := 0, cells := 0, slots := 0, locals := 0 }
def pX11_swap (o : Ob) (a1 : Int32) (a2 : Int32) : Option Ob :=
  zgd a1 6 <| zlet ((ga o 46 (a1.toNatClampNeg))) fun (x1 : Int32) =>
  zgd a2 6 <| zgd a1 6 <| zlet (sa o 46 (upd (ga o 46) (a1.toNatClampNeg) (ga o 46 (a2.toNatClampNeg)))) fun (o2 : Ob) =>
  zgd a2 6 <| zlet (sa o2 46 (upd (ga o2 46) (a2.toNatClampNeg) x1)) fun (o3 : Ob) =>
  some o3
set_option maxHeartbeats 4000000 in
set_option maxRecDepth 100000 in
theorem c_X11_swap {q : Nat → Nat} (o : Ob) (a1 : Int32) (a2 : Int32) : zCv l D tA yX11_swap cX11_swap 4 rmX11_swap [.ref (q 0), .int a1, .int a2] (WM tA q o) (fun (r : Ob) => (WM tA q r)) (pX11_swap o a1 a2) := by
  refine zCv_of (lv0 := [some (.ref (q 0)), some (.int a1), some (.int a2), none]) (by decide +kernel) (Nat.le_of_ble_eq_true rfl) rfl (fun X out F hr => ?_)
  unfold pX11_swap
  refine y_aload_n (pc := 0) F dX11_swap_0 rfl ?_
  refine y_get (pc := 1) F dX11_swap_1 kF_X11_103 0 WM_at0 rfl ?_
  refine y_iload_n (pc := 4) F dX11_swap_4 rfl ?_
  refine y_iald (pc := 5) F dX11_swap_5 30 WM_at30 ?_
  refine y_lti (fun x1 => ?_)
  refine y_istore_n (lv' := [some (.ref (q 0)), some (.int a1), some (.int a2), some (.int x1)]) (pc := 6) F dX11_swap_6 (Nat.le_of_ble_eq_true rfl) rfl rfl ?_
  refine y_aload_n (pc := 7) F dX11_swap_7 rfl ?_
  refine y_get (pc := 8) F dX11_swap_8 kF_X11_103 0 WM_at0 rfl ?_
  refine y_iload_n (pc := 11) F dX11_swap_11 rfl ?_
  refine y_aload_n (pc := 12) F dX11_swap_12 rfl ?_
  refine y_get (pc := 13) F dX11_swap_13 kF_X11_103 0 WM_at0 rfl ?_
  refine y_iload_n (pc := 16) F dX11_swap_16 rfl ?_
  refine y_iald (pc := 17) F dX11_swap_17 30 WM_at30 ?_
  refine y_iast (pc := 18) F dX11_swap_18 30 WM_at30 (fun (o2 : Ob) => (WM tA q o2)) (WM_ar30 _) (fun o2 => ?_)
  refine y_aload_n (pc := 19) F dX11_swap_19 rfl ?_
  refine y_get (pc := 20) F dX11_swap_20 kF_X11_103 0 WM_at0 rfl ?_
  refine y_iload_n (pc := 23) F dX11_swap_23 rfl ?_
  refine y_iload_n (pc := 24) F dX11_swap_24 rfl ?_
  refine y_iast (pc := 25) F dX11_swap_25 30 WM_at30 (fun (o3 : Ob) => (WM tA q o3)) (WM_ar30 _) (fun o3 => ?_)
  exact y_vret hr dX11_swap_26 rfl
abbrev rmX11_nextOrder : Room := { frames := 1, cells := 0, slots := 0, locals := 23 }
def lX11_nextOrder_78 : Nat → Int32 → Int32 → Ob → Option (Int32 × Ob)
  | 0, _, _, _ => none
  | f + 1, x9, x10, o11 =>
    if x10 ≤ x9 then (zgz (1 : Int32) (some ((1 : Int32), o11)))
    else (Option.bind (pX11_swap o11 x9 x10) fun (r12 : Ob) =>
    zlet (x9 + (1 : Int32)) fun (x13 : Int32) =>
    zlet (x10 + (-1 : Int32)) fun (x14 : Int32) =>
    lX11_nextOrder_78 f x13 x14 r12)
def lX11_nextOrder_41 (o : Ob) (K62 : Int32 → Int32 → Option (Int32 × Ob)) : Nat → Int32 → Int32 → Option (Int32 × Ob)
  | 0, _, _ => none
  | f + 1, x15, x16 =>
    zgd x16 6 <| zgd x15 6 <| if (ga o 46 (x15.toNatClampNeg)) ≤ (ga o 46 (x16.toNatClampNeg)) then (K62 x15 x16)
    else (zlet (x16 + (-1 : Int32)) fun (x17 : Int32) =>
    lX11_nextOrder_41 o K62 f x15 x17)
def lX11_nextOrder_4 (o : Ob) (K31 : Int32 → Option (Int32 × Ob)) : Nat → Int32 → Option (Int32 × Ob)
  | 0, _ => none
  | f + 1, x18 =>
    if x18 < 0 then (K31 x18)
    else (zgd x18 6 <| zgd (x18 + (1 : Int32)) 6 <| if (ga o 46 (x18.toNatClampNeg)) ≤ (ga o 46 ((x18 + (1 : Int32)).toNatClampNeg)) then (K31 x18)
    else (zlet (x18 + (-1 : Int32)) fun (x19 : Int32) =>
    lX11_nextOrder_4 o K31 f x19))
def pX11_nextOrder (o : Ob) (a1 : Int32) : Option (Int32 × Ob) :=
  zlet ((a1 - (2 : Int32))) fun (x1 : Int32) =>
  zjn (fun (x2 : Int32) =>
  if 0 ≤ x2 then (zlet ((a1 - (1 : Int32))) fun (x3 : Int32) =>
  zjn (fun (x4 : Int32) (x5 : Int32) =>
  Option.bind (pX11_swap o x4 x5) fun (r6 : Ob) =>
  zlet ((x4 + (1 : Int32))) fun (x7 : Int32) =>
  zlet ((a1 - (1 : Int32))) fun (x8 : Int32) =>
  lX11_nextOrder_78 zfu x7 x8 r6) fun (K62 : Int32 → Int32 → Option (Int32 × Ob)) =>
  lX11_nextOrder_41 o K62 zfu x2 x3)
  else (zgz (0 : Int32) (some ((0 : Int32), o)))) fun (K31 : Int32 → Option (Int32 × Ob)) =>
  lX11_nextOrder_4 o K31 zfu x1
set_option maxHeartbeats 4000000 in
set_option maxRecDepth 100000 in
theorem wlX11_nextOrder_78 {X : ZX} {out : (Int32 × Ob)} (q : Nat → Nat) (F : zF l D tA RX11 cX11_nextOrder 6 rmX11_nextOrder X) (hr : zRi X D cX11_nextOrder .boolean (fun (r : Int32 × Ob) => (r.1)) (fun (r : Int32 × Ob) => (WM tA q (r.2))) out) : ∀ (f : Nat) (x9 : Int32) (x10 : Int32) (o11 : Ob), zY X D out (lX11_nextOrder_78 f x9 x10 o11) (WM tA q o11) 78 [some (.ref (q 0)), none, none, none, some (.int x9), some (.int x10)] [] := by
  intro f
  induction f with
  | zero =>
    intro x9 x10 o11
    exact y_none
  | succ f ih =>
    intro x9 x10 o11
    rw [lX11_nextOrder_78.eq_2]
    refine y_iload (pc := 78) F dX11_nextOrder_78 rfl ?_
    refine y_iload (pc := 80) F dX11_nextOrder_80 rfl ?_
    refine y_icmp_ge (pc := 82) (tgt := 102) F dX11_nextOrder_82 rfl ?_ ?_
    · refine y_iconst (v := 1) (pc := 102) F dX11_nextOrder_102 rfl ?_
      exact y_zret hr dX11_nextOrder_103 rfl rfl
    · refine y_aload_n (pc := 85) F dX11_nextOrder_85 rfl ?_
      refine y_iload (pc := 86) F dX11_nextOrder_86 rfl ?_
      refine y_iload (pc := 88) F dX11_nextOrder_88 rfl ?_
      refine y_callvW (As := [.int x9, .int x10]) (st := []) (q0 := 0) (pc := 90) F (c_X11_swap (q := q) o11 x9 x10) dX11_nextOrder_90 kM_X11_373 ⟨rfl, rfl⟩ ⟨Nat.le_of_ble_eq_true rfl, Nat.le_of_ble_eq_true rfl⟩ rfl rfl rfl (Nat.le_of_ble_eq_true rfl) rfl rfl WM_at0 (fun r12 => ?_)
      refine y_iinc (v := 1) (lf := fun (x13 : Int32) => [some (.ref (q 0)), none, none, none, some (.int x13), some (.int x10)]) (pc := 93) F dX11_nextOrder_93 rfl rfl rfl (fun _ => rfl) (fun x13 => ?_)
      refine y_iinc (v := -1) (lf := fun (x14 : Int32) => [some (.ref (q 0)), none, none, none, some (.int x13), some (.int x14)]) (pc := 96) F dX11_nextOrder_96 rfl rfl rfl (fun _ => rfl) (fun x14 => ?_)
      refine y_goto (tgt := 78) (pc := 99) F dX11_nextOrder_99 rfl ?_
      exact ih x13 x14 r12
set_option maxHeartbeats 4000000 in
set_option maxRecDepth 100000 in
theorem wlX11_nextOrder_41 {X : ZX} {out : (Int32 × Ob)} (q : Nat → Nat) (o : Ob) (a1 : Int32) (F : zF l D tA RX11 cX11_nextOrder 6 rmX11_nextOrder X) (hr : zRi X D cX11_nextOrder .boolean (fun (r : Int32 × Ob) => (r.1)) (fun (r : Int32 × Ob) => (WM tA q (r.2))) out) {K62 : Int32 → Int32 → Option (Int32 × Ob)} (hK62 : ∀ (x4 : Int32) (x5 : Int32), zY X D out (K62 x4 x5) (WM tA q o) 62 [some (.ref (q 0)), some (.int a1), some (.int x4), some (.int x5), none, none] []) : ∀ (f : Nat) (x15 : Int32) (x16 : Int32), zY X D out (lX11_nextOrder_41 o K62 f x15 x16) (WM tA q o) 41 [some (.ref (q 0)), some (.int a1), some (.int x15), some (.int x16), none, none] [] := by
  intro f
  induction f with
  | zero =>
    intro x15 x16
    exact y_none
  | succ f ih =>
    intro x15 x16
    rw [lX11_nextOrder_41.eq_2]
    refine y_aload_n (pc := 41) F dX11_nextOrder_41 rfl ?_
    refine y_get (pc := 42) F dX11_nextOrder_42 kF_X11_103 0 WM_at0 rfl ?_
    refine y_iload_n (pc := 45) F dX11_nextOrder_45 rfl ?_
    refine y_iald (pc := 46) F dX11_nextOrder_46 30 WM_at30 ?_
    refine y_aload_n (pc := 47) F dX11_nextOrder_47 rfl ?_
    refine y_get (pc := 48) F dX11_nextOrder_48 kF_X11_103 0 WM_at0 rfl ?_
    refine y_iload_n (pc := 51) F dX11_nextOrder_51 rfl ?_
    refine y_iald (pc := 52) F dX11_nextOrder_52 30 WM_at30 ?_
    refine y_icmp_ge (pc := 53) (tgt := 62) F dX11_nextOrder_53 rfl ?_ ?_
    · exact hK62 x15 x16
    · refine y_iinc (v := -1) (lf := fun (x17 : Int32) => [some (.ref (q 0)), some (.int a1), some (.int x15), some (.int x17), none, none]) (pc := 56) F dX11_nextOrder_56 rfl rfl rfl (fun _ => rfl) (fun x17 => ?_)
      refine y_goto (tgt := 41) (pc := 59) F dX11_nextOrder_59 rfl ?_
      exact ih x15 x17
set_option maxHeartbeats 4000000 in
set_option maxRecDepth 100000 in
theorem wlX11_nextOrder_4 {X : ZX} {out : (Int32 × Ob)} (q : Nat → Nat) (o : Ob) (a1 : Int32) (F : zF l D tA RX11 cX11_nextOrder 6 rmX11_nextOrder X) (hr : zRi X D cX11_nextOrder .boolean (fun (r : Int32 × Ob) => (r.1)) (fun (r : Int32 × Ob) => (WM tA q (r.2))) out) {K31 : Int32 → Option (Int32 × Ob)} (hK31 : ∀ (x2 : Int32), zY X D out (K31 x2) (WM tA q o) 31 [some (.ref (q 0)), some (.int a1), some (.int x2), none, none, none] []) : ∀ (f : Nat) (x18 : Int32), zY X D out (lX11_nextOrder_4 o K31 f x18) (WM tA q o) 4 [some (.ref (q 0)), some (.int a1), some (.int x18), none, none, none] [] := by
  intro f
  induction f with
  | zero =>
    intro x18
    exact y_none
  | succ f ih =>
    intro x18
    rw [lX11_nextOrder_4.eq_2]
    refine y_iload_n (pc := 4) F dX11_nextOrder_4 rfl ?_
    refine y_if_lt (pc := 5) (tgt := 31) F dX11_nextOrder_5 rfl ?_ ?_
    · exact hK31 x18
    · refine y_aload_n (pc := 8) F dX11_nextOrder_8 rfl ?_
      refine y_get (pc := 9) F dX11_nextOrder_9 kF_X11_103 0 WM_at0 rfl ?_
      refine y_iload_n (pc := 12) F dX11_nextOrder_12 rfl ?_
      refine y_iald (pc := 13) F dX11_nextOrder_13 30 WM_at30 ?_
      refine y_aload_n (pc := 14) F dX11_nextOrder_14 rfl ?_
      refine y_get (pc := 15) F dX11_nextOrder_15 kF_X11_103 0 WM_at0 rfl ?_
      refine y_iload_n (pc := 18) F dX11_nextOrder_18 rfl ?_
      refine y_iconst (v := 1) (pc := 19) F dX11_nextOrder_19 rfl ?_
      refine y_iadd (pc := 20) F dX11_nextOrder_20 ?_
      refine y_iald (pc := 21) F dX11_nextOrder_21 30 WM_at30 ?_
      refine y_icmp_le (pc := 22) (tgt := 31) F dX11_nextOrder_22 rfl ?_ ?_
      · exact hK31 x18
      · refine y_iinc (v := -1) (lf := fun (x19 : Int32) => [some (.ref (q 0)), some (.int a1), some (.int x19), none, none, none]) (pc := 25) F dX11_nextOrder_25 rfl rfl rfl (fun _ => rfl) (fun x19 => ?_)
        refine y_goto (tgt := 4) (pc := 28) F dX11_nextOrder_28 rfl ?_
        exact ih x19
set_option maxHeartbeats 4000000 in
set_option maxRecDepth 100000 in
theorem c_X11_nextOrder {q : Nat → Nat} (o : Ob) (a1 : Int32) : zCi l D tA yX11_nextOrder cX11_nextOrder 6 .boolean rmX11_nextOrder [.ref (q 0), .int a1] (WM tA q o) (fun (r : Int32 × Ob) => (r.1)) (fun (r : Int32 × Ob) => (WM tA q (r.2))) (pX11_nextOrder o a1) := by
  refine zCi_of (lv0 := [some (.ref (q 0)), some (.int a1), none, none, none, none]) (by decide +kernel) (Nat.le_of_ble_eq_true rfl) rfl (fun X out F hr => ?_)
  unfold pX11_nextOrder
  refine y_iload_n (pc := 0) F dX11_nextOrder_0 rfl ?_
  refine y_iconst (v := 2) (pc := 1) F dX11_nextOrder_1 rfl ?_
  refine y_isub (pc := 2) F dX11_nextOrder_2 ?_
  refine y_lti (fun x1 => ?_)
  refine y_istore_n (lv' := [some (.ref (q 0)), some (.int a1), some (.int x1), none, none, none]) (pc := 3) F dX11_nextOrder_3 (Nat.le_of_ble_eq_true rfl) rfl rfl ?_
  refine y_jn (fun (K31 : Int32 → Option (Int32 × Ob)) => ∀ (x2 : Int32), zY X D out (K31 x2) (WM tA q o) 31 [some (.ref (q 0)), some (.int a1), some (.int x2), none, none, none] []) ?_ ?_
  · intro x2
    refine y_iload_n (pc := 31) F dX11_nextOrder_31 rfl ?_
    refine y_if_ge (pc := 32) (tgt := 37) F dX11_nextOrder_32 rfl ?_ ?_
    · refine y_iload_n (pc := 37) F dX11_nextOrder_37 rfl ?_
      refine y_iconst (v := 1) (pc := 38) F dX11_nextOrder_38 rfl ?_
      refine y_isub (pc := 39) F dX11_nextOrder_39 ?_
      refine y_lti (fun x3 => ?_)
      refine y_istore_n (lv' := [some (.ref (q 0)), some (.int a1), some (.int x2), some (.int x3), none, none]) (pc := 40) F dX11_nextOrder_40 (Nat.le_of_ble_eq_true rfl) rfl rfl ?_
      refine y_jn (fun (K62 : Int32 → Int32 → Option (Int32 × Ob)) => ∀ (x4 : Int32) (x5 : Int32), zY X D out (K62 x4 x5) (WM tA q o) 62 [some (.ref (q 0)), some (.int a1), some (.int x4), some (.int x5), none, none] []) ?_ ?_
      · intro x4 x5
        refine y_aload_n (pc := 62) F dX11_nextOrder_62 rfl ?_
        refine y_iload_n (pc := 63) F dX11_nextOrder_63 rfl ?_
        refine y_iload_n (pc := 64) F dX11_nextOrder_64 rfl ?_
        refine y_callvW (As := [.int x4, .int x5]) (st := []) (q0 := 0) (pc := 65) F (c_X11_swap (q := q) o x4 x5) dX11_nextOrder_65 kM_X11_373 ⟨rfl, rfl⟩ ⟨Nat.le_of_ble_eq_true rfl, Nat.le_of_ble_eq_true rfl⟩ rfl rfl rfl (Nat.le_of_ble_eq_true rfl) rfl rfl WM_at0 (fun r6 => ?_)
        refine y_iload_n (pc := 68) F dX11_nextOrder_68 rfl ?_
        refine y_iconst (v := 1) (pc := 69) F dX11_nextOrder_69 rfl ?_
        refine y_iadd (pc := 70) F dX11_nextOrder_70 ?_
        refine y_lti (fun x7 => ?_)
        refine y_istore (lv' := [some (.ref (q 0)), some (.int a1), some (.int x4), some (.int x5), some (.int x7), none]) (pc := 71) F dX11_nextOrder_71 (Nat.le_of_ble_eq_true rfl) rfl rfl ?_
        refine y_iload_n (pc := 73) F dX11_nextOrder_73 rfl ?_
        refine y_iconst (v := 1) (pc := 74) F dX11_nextOrder_74 rfl ?_
        refine y_isub (pc := 75) F dX11_nextOrder_75 ?_
        refine y_lti (fun x8 => ?_)
        refine y_istore (lv' := [some (.ref (q 0)), some (.int a1), some (.int x4), some (.int x5), some (.int x7), some (.int x8)]) (pc := 76) F dX11_nextOrder_76 (Nat.le_of_ble_eq_true rfl) rfl rfl ?_
        refine y_le (lv' := [some (.ref (q 0)), none, none, none, some (.int x7), some (.int x8)]) ⟨rfl, ⟨rfl, ⟨rfl, trivial⟩⟩⟩ ?_
        exact wlX11_nextOrder_78 q F hr zfu x7 x8 r6
      intro K62 hK62
      exact wlX11_nextOrder_41 q o a1 F hr hK62 zfu x2 x3
    · refine y_iconst (v := 0) (pc := 35) F dX11_nextOrder_35 rfl ?_
      exact y_zret hr dX11_nextOrder_36 rfl rfl
  intro K31 hK31
  exact wlX11_nextOrder_4 q o a1 F hr hK31 zfu x1
abbrev rmX11_enoughBy : Room := { frames := 2, cells := 0, slots := 0, locals := 47 }
def lX11_enoughBy_38 (o : Ob) (x5 : Int32) (K140 : Int32 → Int32 → Int32 → Int32 → Option Int32) : Nat → Int32 → Int32 → Int32 → Int32 → Int32 → Option Int32
  | 0, _, _, _, _, _ => none
  | f + 1, x14, x15, x16, x17, x18 =>
    if (gi o 4) ≤ x18 then (K140 x14 x15 x16 x17)
    else (zgd x18 12 <| zjn (fun (x19 : Int32) =>
    zjn (fun (x20 : Int32) =>
    zlet ((x17 + x20)) fun (x21 : Int32) =>
    zjn (fun (x22 : Int32) =>
    zlet ((x15 - x22)) fun (x23 : Int32) =>
    zlet (x18 + (1 : Int32)) fun (x24 : Int32) =>
    lX11_enoughBy_38 o x5 K140 f x14 x23 x16 x21 x24) fun (K132 : Int32 → Option Int32) =>
    if x19 = 0 then (K132 (0 : Int32))
    else (K132 (1 : Int32))) fun (K118 : Int32 → Option Int32) =>
    if x19 = 0 then (K118 (0 : Int32))
    else (Option.bind (pX11_freshOn o x18 (gi o 13)) fun (r25 : Int32) =>
    K118 r25)) fun (K95 : Int32 → Option Int32) =>
    zjn (K95 (0 : Int32)) fun (K94 : Option Int32) =>
    if (ga o 5 (x18.toNatClampNeg)) = x5 then (zgd x5 6 <| if ((3 : Int32) * (ga o 1 (x5.toNatClampNeg))) ≤ x17 then (K94)
    else (if x15 ≤ 0 then (K94)
    else (Option.bind (pX11_mayOn o x18 (gi o 13)) fun (r26 : Int32) =>
    if r26 = 0 then (K94)
    else (K95 (1 : Int32)))))
    else (K94))
def lX11_enoughBy_11 (o : Ob) (a1 : Int32) : Nat → Int32 → Int32 → Int32 → Option Int32
  | 0, _, _, _ => none
  | f + 1, x2, x3, x4 =>
    if a1 ≤ x4 then (some x2)
    else (zgd x4 6 <| zlet ((ga o 46 (x4.toNatClampNeg))) fun (x5 : Int32) =>
    zgd x5 6 <| zlet ((ga o 17 (x5.toNatClampNeg))) fun (x6 : Int32) =>
    zjn (fun (x7 : Int32) (x8 : Int32) (x9 : Int32) (x10 : Int32) =>
    zgd x5 6 <| zjn (fun (x11 : Int32) =>
    zlet ((x7 ||| x11)) fun (x12 : Int32) =>
    zlet (x9 + (1 : Int32)) fun (x13 : Int32) =>
    lX11_enoughBy_11 o a1 f x12 x8 x13) fun (K163 : Int32 → Option Int32) =>
    if x10 < ((3 : Int32) * (ga o 1 (x5.toNatClampNeg))) then (K163 (0 : Int32))
    else (K163 (((1 : Int32) <<< (x5 &&& 31))))) fun (K140 : Int32 → Int32 → Int32 → Int32 → Option Int32) =>
    lX11_enoughBy_38 o x5 K140 zfu x2 x3 x4 x6 (0 : Int32))
def pX11_enoughBy (o : Ob) (a1 : Int32) : Option Int32 :=
  Option.bind (pX11_room o (0 : Int32)) fun (r1 : Int32) =>
  lX11_enoughBy_11 o a1 zfu (0 : Int32) r1 (0 : Int32)
set_option maxHeartbeats 4000000 in
set_option maxRecDepth 100000 in
theorem wlX11_enoughBy_38 {X : ZX} {out : Int32} (q : Nat → Nat) (o : Ob) (a1 : Int32) (x5 : Int32) (F : zF l D tA RX11 cX11_enoughBy 9 rmX11_enoughBy X) (hr : zRi X D cX11_enoughBy .int (fun (r : Int32) => r) (fun (r : Int32) => (WM tA q o)) out) {K140 : Int32 → Int32 → Int32 → Int32 → Option Int32} (hK140 : ∀ (x7 : Int32) (x8 : Int32) (x9 : Int32) (x10 : Int32), zY X D out (K140 x7 x8 x9 x10) (WM tA q o) 140 [some (.ref (q 0)), some (.int a1), some (.int x7), some (.int x8), some (.int x9), some (.int x5), some (.int x10), none, none] []) : ∀ (f : Nat) (x14 : Int32) (x15 : Int32) (x16 : Int32) (x17 : Int32) (x18 : Int32), zY X D out (lX11_enoughBy_38 o x5 K140 f x14 x15 x16 x17 x18) (WM tA q o) 38 [some (.ref (q 0)), some (.int a1), some (.int x14), some (.int x15), some (.int x16), some (.int x5), some (.int x17), some (.int x18), none] [] := by
  intro f
  induction f with
  | zero =>
    intro x14 x15 x16 x17 x18
    exact y_none
  | succ f ih =>
    intro x14 x15 x16 x17 x18
    rw [lX11_enoughBy_38.eq_2]
    refine y_iload (pc := 38) F dX11_enoughBy_38 rfl ?_
    refine y_aload_n (pc := 40) F dX11_enoughBy_40 rfl ?_
    refine y_get (pc := 41) F dX11_enoughBy_41 kF_X11_131 0 WM_at0 rfl ?_
    refine y_icmp_ge (pc := 44) (tgt := 140) F dX11_enoughBy_44 rfl ?_ ?_
    · refine y_le (lv' := [some (.ref (q 0)), some (.int a1), some (.int x14), some (.int x15), some (.int x16), some (.int x5), some (.int x17), none, none]) ⟨rfl, ⟨rfl, ⟨rfl, ⟨rfl, ⟨rfl, ⟨rfl, ⟨rfl, trivial⟩⟩⟩⟩⟩⟩⟩ ?_
      exact hK140 x14 x15 x16 x17
    · refine y_aload_n (pc := 47) F dX11_enoughBy_47 rfl ?_
      refine y_get (pc := 48) F dX11_enoughBy_48 kF_X11_19 0 WM_at0 rfl ?_
      refine y_iload (pc := 51) F dX11_enoughBy_51 rfl ?_
      refine y_iald (pc := 53) F dX11_enoughBy_53 4 WM_at4 ?_
      refine y_iload (pc := 54) F dX11_enoughBy_54 rfl ?_
      refine y_jn (fun (K95 : Int32 → Option Int32) => ∀ (x19 : Int32), zY X D out (K95 x19) (WM tA q o) 95 [some (.ref (q 0)), some (.int a1), some (.int x14), some (.int x15), some (.int x16), some (.int x5), some (.int x17), some (.int x18), none] [.int x19]) ?_ ?_
      · intro x19
        refine y_istore (lv' := [some (.ref (q 0)), some (.int a1), some (.int x14), some (.int x15), some (.int x16), some (.int x5), some (.int x17), some (.int x18), some (.int x19)]) (pc := 95) F dX11_enoughBy_95 (Nat.le_of_ble_eq_true rfl) rfl rfl ?_
        refine y_iload (pc := 97) F dX11_enoughBy_97 rfl ?_
        refine y_iload (pc := 99) F dX11_enoughBy_99 rfl ?_
        refine y_jn (fun (K118 : Int32 → Option Int32) => ∀ (x20 : Int32), zY X D out (K118 x20) (WM tA q o) 118 [some (.ref (q 0)), some (.int a1), some (.int x14), some (.int x15), some (.int x16), some (.int x5), none, some (.int x18), some (.int x19)] [.int x20, .int x17]) ?_ ?_
        · intro x20
          refine y_iadd (pc := 118) F dX11_enoughBy_118 ?_
          refine y_lti (fun x21 => ?_)
          refine y_istore (lv' := [some (.ref (q 0)), some (.int a1), some (.int x14), some (.int x15), some (.int x16), some (.int x5), some (.int x21), some (.int x18), some (.int x19)]) (pc := 119) F dX11_enoughBy_119 (Nat.le_of_ble_eq_true rfl) rfl rfl ?_
          refine y_iload_n (pc := 121) F dX11_enoughBy_121 rfl ?_
          refine y_iload (pc := 122) F dX11_enoughBy_122 rfl ?_
          refine y_jn (fun (K132 : Int32 → Option Int32) => ∀ (x22 : Int32), zY X D out (K132 x22) (WM tA q o) 132 [some (.ref (q 0)), some (.int a1), some (.int x14), none, some (.int x16), some (.int x5), some (.int x21), some (.int x18), none] [.int x22, .int x15]) ?_ ?_
          · intro x22
            refine y_isub (pc := 132) F dX11_enoughBy_132 ?_
            refine y_lti (fun x23 => ?_)
            refine y_istore_n (lv' := [some (.ref (q 0)), some (.int a1), some (.int x14), some (.int x23), some (.int x16), some (.int x5), some (.int x21), some (.int x18), none]) (pc := 133) F dX11_enoughBy_133 (Nat.le_of_ble_eq_true rfl) rfl rfl ?_
            refine y_iinc (v := 1) (lf := fun (x24 : Int32) => [some (.ref (q 0)), some (.int a1), some (.int x14), some (.int x23), some (.int x16), some (.int x5), some (.int x21), some (.int x24), none]) (pc := 134) F dX11_enoughBy_134 rfl rfl rfl (fun _ => rfl) (fun x24 => ?_)
            refine y_goto (tgt := 38) (pc := 137) F dX11_enoughBy_137 rfl ?_
            exact ih x14 x23 x16 x21 x24
          intro K132 hK132
          refine y_if_eq (pc := 124) (tgt := 131) F dX11_enoughBy_124 rfl ?_ ?_
          · refine y_iconst (v := 0) (pc := 131) F dX11_enoughBy_131 rfl ?_
            refine y_le (lv' := [some (.ref (q 0)), some (.int a1), some (.int x14), none, some (.int x16), some (.int x5), some (.int x21), some (.int x18), none]) ⟨rfl, ⟨rfl, ⟨rfl, ⟨rfl, ⟨rfl, ⟨rfl, ⟨rfl, trivial⟩⟩⟩⟩⟩⟩⟩ ?_
            exact hK132 (0 : Int32)
          · refine y_iconst (v := 1) (pc := 127) F dX11_enoughBy_127 rfl ?_
            refine y_goto (tgt := 132) (pc := 128) F dX11_enoughBy_128 rfl ?_
            refine y_le (lv' := [some (.ref (q 0)), some (.int a1), some (.int x14), none, some (.int x16), some (.int x5), some (.int x21), some (.int x18), none]) ⟨rfl, ⟨rfl, ⟨rfl, ⟨rfl, ⟨rfl, ⟨rfl, ⟨rfl, trivial⟩⟩⟩⟩⟩⟩⟩ ?_
            exact hK132 (1 : Int32)
        intro K118 hK118
        refine y_if_eq (pc := 101) (tgt := 117) F dX11_enoughBy_101 rfl ?_ ?_
        · refine y_iconst (v := 0) (pc := 117) F dX11_enoughBy_117 rfl ?_
          refine y_le (lv' := [some (.ref (q 0)), some (.int a1), some (.int x14), some (.int x15), some (.int x16), some (.int x5), none, some (.int x18), some (.int x19)]) ⟨rfl, ⟨rfl, ⟨rfl, ⟨rfl, ⟨rfl, ⟨rfl, ⟨rfl, ⟨rfl, trivial⟩⟩⟩⟩⟩⟩⟩⟩ ?_
          exact hK118 (0 : Int32)
        · refine y_aload_n (pc := 104) F dX11_enoughBy_104 rfl ?_
          refine y_iload (pc := 105) F dX11_enoughBy_105 rfl ?_
          refine y_aload_n (pc := 107) F dX11_enoughBy_107 rfl ?_
          refine y_get (pc := 108) F dX11_enoughBy_108 kF_X11_223 0 WM_at0 rfl ?_
          refine y_calliW (As := [.int x18, .int (gi o 13)]) (st := [.int x17]) (q0 := 0) (pc := 111) F (c_X11_freshOn (q := q) o x18 (gi o 13)) dX11_enoughBy_111 kM_X11_260 ⟨rfl, rfl⟩ ⟨Nat.le_of_ble_eq_true rfl, Nat.le_of_ble_eq_true rfl⟩ rfl rfl rfl (Nat.le_of_ble_eq_true rfl) rfl rfl WM_at0 (fun r25 => ?_)
          refine y_goto (tgt := 118) (pc := 114) F dX11_enoughBy_114 rfl ?_
          refine y_le (lv' := [some (.ref (q 0)), some (.int a1), some (.int x14), some (.int x15), some (.int x16), some (.int x5), none, some (.int x18), some (.int x19)]) ⟨rfl, ⟨rfl, ⟨rfl, ⟨rfl, ⟨rfl, ⟨rfl, ⟨rfl, ⟨rfl, trivial⟩⟩⟩⟩⟩⟩⟩⟩ ?_
          exact hK118 r25
      intro K95 hK95
      refine y_jn (fun (K94 : Option Int32) => zY X D out (K94) (WM tA q o) 94 [some (.ref (q 0)), some (.int a1), some (.int x14), some (.int x15), some (.int x16), some (.int x5), some (.int x17), some (.int x18), none] []) ?_ ?_
      · skip
        refine y_iconst (v := 0) (pc := 94) F dX11_enoughBy_94 rfl ?_
        exact hK95 (0 : Int32)
      intro K94 hK94
      refine y_icmp_ne (pc := 56) (tgt := 94) F dX11_enoughBy_56 rfl ?_ ?_
      · refine y_iload (pc := 59) F dX11_enoughBy_59 rfl ?_
        refine y_iconst (v := 3) (pc := 61) F dX11_enoughBy_61 rfl ?_
        refine y_aload_n (pc := 62) F dX11_enoughBy_62 rfl ?_
        refine y_get (pc := 63) F dX11_enoughBy_63 kF_X11_7 0 WM_at0 rfl ?_
        refine y_iload (pc := 66) F dX11_enoughBy_66 rfl ?_
        refine y_iald (pc := 68) F dX11_enoughBy_68 1 WM_at1 ?_
        refine y_imul (pc := 69) F dX11_enoughBy_69 ?_
        refine y_icmp_ge (pc := 70) (tgt := 94) F dX11_enoughBy_70 rfl ?_ ?_
        · exact hK94
        · refine y_iload_n (pc := 73) F dX11_enoughBy_73 rfl ?_
          refine y_if_le (pc := 74) (tgt := 94) F dX11_enoughBy_74 rfl ?_ ?_
          · exact hK94
          · refine y_aload_n (pc := 77) F dX11_enoughBy_77 rfl ?_
            refine y_iload (pc := 78) F dX11_enoughBy_78 rfl ?_
            refine y_aload_n (pc := 80) F dX11_enoughBy_80 rfl ?_
            refine y_get (pc := 81) F dX11_enoughBy_81 kF_X11_223 0 WM_at0 rfl ?_
            refine y_calliW (As := [.int x18, .int (gi o 13)]) (st := []) (q0 := 0) (pc := 84) F (c_X11_mayOn (q := q) o x18 (gi o 13)) dX11_enoughBy_84 kM_X11_253 ⟨rfl, rfl⟩ ⟨Nat.le_of_ble_eq_true rfl, Nat.le_of_ble_eq_true rfl⟩ rfl rfl rfl (Nat.le_of_ble_eq_true rfl) rfl rfl WM_at0 (fun r26 => ?_)
            refine y_if_eq (pc := 87) (tgt := 94) F dX11_enoughBy_87 rfl ?_ ?_
            · exact hK94
            · refine y_iconst (v := 1) (pc := 90) F dX11_enoughBy_90 rfl ?_
              refine y_goto (tgt := 95) (pc := 91) F dX11_enoughBy_91 rfl ?_
              exact hK95 (1 : Int32)
      · exact hK94
set_option maxHeartbeats 4000000 in
set_option maxRecDepth 100000 in
theorem wlX11_enoughBy_11 {X : ZX} {out : Int32} (q : Nat → Nat) (o : Ob) (a1 : Int32) (F : zF l D tA RX11 cX11_enoughBy 9 rmX11_enoughBy X) (hr : zRi X D cX11_enoughBy .int (fun (r : Int32) => r) (fun (r : Int32) => (WM tA q o)) out) : ∀ (f : Nat) (x2 : Int32) (x3 : Int32) (x4 : Int32), zY X D out (lX11_enoughBy_11 o a1 f x2 x3 x4) (WM tA q o) 11 [some (.ref (q 0)), some (.int a1), some (.int x2), some (.int x3), some (.int x4), none, none, none, none] [] := by
  intro f
  induction f with
  | zero =>
    intro x2 x3 x4
    exact y_none
  | succ f ih =>
    intro x2 x3 x4
    rw [lX11_enoughBy_11.eq_2]
    refine y_iload (pc := 11) F dX11_enoughBy_11 rfl ?_
    refine y_iload_n (pc := 13) F dX11_enoughBy_13 rfl ?_
    refine y_icmp_ge (pc := 14) (tgt := 171) F dX11_enoughBy_14 rfl ?_ ?_
    · refine y_iload_n (pc := 171) F dX11_enoughBy_171 rfl ?_
      exact y_iret hr dX11_enoughBy_172 rfl rfl
    · refine y_aload_n (pc := 17) F dX11_enoughBy_17 rfl ?_
      refine y_get (pc := 18) F dX11_enoughBy_18 kF_X11_103 0 WM_at0 rfl ?_
      refine y_iload (pc := 21) F dX11_enoughBy_21 rfl ?_
      refine y_iald (pc := 23) F dX11_enoughBy_23 30 WM_at30 ?_
      refine y_lti (fun x5 => ?_)
      refine y_istore (lv' := [some (.ref (q 0)), some (.int a1), some (.int x2), some (.int x3), some (.int x4), some (.int x5), none, none, none]) (pc := 24) F dX11_enoughBy_24 (Nat.le_of_ble_eq_true rfl) rfl rfl ?_
      refine y_aload_n (pc := 26) F dX11_enoughBy_26 rfl ?_
      refine y_get (pc := 27) F dX11_enoughBy_27 kF_X11_47 0 WM_at0 rfl ?_
      refine y_iload (pc := 30) F dX11_enoughBy_30 rfl ?_
      refine y_iald (pc := 32) F dX11_enoughBy_32 13 WM_at13 ?_
      refine y_lti (fun x6 => ?_)
      refine y_istore (lv' := [some (.ref (q 0)), some (.int a1), some (.int x2), some (.int x3), some (.int x4), some (.int x5), some (.int x6), none, none]) (pc := 33) F dX11_enoughBy_33 (Nat.le_of_ble_eq_true rfl) rfl rfl ?_
      refine y_iconst (v := 0) (pc := 35) F dX11_enoughBy_35 rfl ?_
      refine y_istore (lv' := [some (.ref (q 0)), some (.int a1), some (.int x2), some (.int x3), some (.int x4), some (.int x5), some (.int x6), some (.int (0 : Int32)), none]) (pc := 36) F dX11_enoughBy_36 (Nat.le_of_ble_eq_true rfl) rfl rfl ?_
      refine y_jn (fun (K140 : Int32 → Int32 → Int32 → Int32 → Option Int32) => ∀ (x7 : Int32) (x8 : Int32) (x9 : Int32) (x10 : Int32), zY X D out (K140 x7 x8 x9 x10) (WM tA q o) 140 [some (.ref (q 0)), some (.int a1), some (.int x7), some (.int x8), some (.int x9), some (.int x5), some (.int x10), none, none] []) ?_ ?_
      · intro x7 x8 x9 x10
        refine y_iload_n (pc := 140) F dX11_enoughBy_140 rfl ?_
        refine y_iload (pc := 141) F dX11_enoughBy_141 rfl ?_
        refine y_iconst (v := 3) (pc := 143) F dX11_enoughBy_143 rfl ?_
        refine y_aload_n (pc := 144) F dX11_enoughBy_144 rfl ?_
        refine y_get (pc := 145) F dX11_enoughBy_145 kF_X11_7 0 WM_at0 rfl ?_
        refine y_iload (pc := 148) F dX11_enoughBy_148 rfl ?_
        refine y_iald (pc := 150) F dX11_enoughBy_150 1 WM_at1 ?_
        refine y_imul (pc := 151) F dX11_enoughBy_151 ?_
        refine y_jn (fun (K163 : Int32 → Option Int32) => ∀ (x11 : Int32), zY X D out (K163 x11) (WM tA q o) 163 [some (.ref (q 0)), some (.int a1), none, some (.int x8), some (.int x9), none, none, none, none] [.int x11, .int x7]) ?_ ?_
        · intro x11
          refine y_ior (pc := 163) F dX11_enoughBy_163 ?_
          refine y_lti (fun x12 => ?_)
          refine y_istore_n (lv' := [some (.ref (q 0)), some (.int a1), some (.int x12), some (.int x8), some (.int x9), none, none, none, none]) (pc := 164) F dX11_enoughBy_164 (Nat.le_of_ble_eq_true rfl) rfl rfl ?_
          refine y_iinc (v := 1) (lf := fun (x13 : Int32) => [some (.ref (q 0)), some (.int a1), some (.int x12), some (.int x8), some (.int x13), none, none, none, none]) (pc := 165) F dX11_enoughBy_165 rfl rfl rfl (fun _ => rfl) (fun x13 => ?_)
          refine y_goto (tgt := 11) (pc := 168) F dX11_enoughBy_168 rfl ?_
          exact ih x12 x8 x13
        intro K163 hK163
        refine y_icmp_lt (pc := 152) (tgt := 162) F dX11_enoughBy_152 rfl ?_ ?_
        · refine y_iconst (v := 0) (pc := 162) F dX11_enoughBy_162 rfl ?_
          refine y_le (lv' := [some (.ref (q 0)), some (.int a1), none, some (.int x8), some (.int x9), none, none, none, none]) ⟨rfl, ⟨rfl, ⟨rfl, ⟨rfl, trivial⟩⟩⟩⟩ ?_
          exact hK163 (0 : Int32)
        · refine y_iconst (v := 1) (pc := 155) F dX11_enoughBy_155 rfl ?_
          refine y_iload (pc := 156) F dX11_enoughBy_156 rfl ?_
          refine y_ishl (pc := 158) F dX11_enoughBy_158 ?_
          refine y_goto (tgt := 163) (pc := 159) F dX11_enoughBy_159 rfl ?_
          refine y_le (lv' := [some (.ref (q 0)), some (.int a1), none, some (.int x8), some (.int x9), none, none, none, none]) ⟨rfl, ⟨rfl, ⟨rfl, ⟨rfl, trivial⟩⟩⟩⟩ ?_
          exact hK163 (((1 : Int32) <<< (x5 &&& 31)))
      intro K140 hK140
      exact wlX11_enoughBy_38 q o a1 x5 F hr hK140 zfu x2 x3 x4 x6 (0 : Int32)
set_option maxHeartbeats 4000000 in
set_option maxRecDepth 100000 in
theorem c_X11_enoughBy {q : Nat → Nat} (o : Ob) (a1 : Int32) : zCi l D tA yX11_enoughBy cX11_enoughBy 9 .int rmX11_enoughBy [.ref (q 0), .int a1] (WM tA q o) (fun (r : Int32) => r) (fun (r : Int32) => (WM tA q o)) (pX11_enoughBy o a1) := by
  refine zCi_of (lv0 := [some (.ref (q 0)), some (.int a1), none, none, none, none, none, none, none]) (by decide +kernel) (Nat.le_of_ble_eq_true rfl) rfl (fun X out F hr => ?_)
  unfold pX11_enoughBy
  refine y_iconst (v := 0) (pc := 0) F dX11_enoughBy_0 rfl ?_
  refine y_istore_n (lv' := [some (.ref (q 0)), some (.int a1), some (.int (0 : Int32)), none, none, none, none, none, none]) (pc := 1) F dX11_enoughBy_1 (Nat.le_of_ble_eq_true rfl) rfl rfl ?_
  refine y_aload_n (pc := 2) F dX11_enoughBy_2 rfl ?_
  refine y_iconst (v := 0) (pc := 3) F dX11_enoughBy_3 rfl ?_
  refine y_calliW (As := [.int (0 : Int32)]) (st := []) (q0 := 0) (pc := 4) F (c_X11_room (q := q) o (0 : Int32)) dX11_enoughBy_4 kM_X11_310 ⟨rfl, rfl⟩ ⟨Nat.le_of_ble_eq_true rfl, Nat.le_of_ble_eq_true rfl⟩ rfl rfl rfl (Nat.le_of_ble_eq_true rfl) rfl rfl WM_at0 (fun r1 => ?_)
  refine y_istore_n (lv' := [some (.ref (q 0)), some (.int a1), some (.int (0 : Int32)), some (.int r1), none, none, none, none, none]) (pc := 7) F dX11_enoughBy_7 (Nat.le_of_ble_eq_true rfl) rfl rfl ?_
  refine y_iconst (v := 0) (pc := 8) F dX11_enoughBy_8 rfl ?_
  refine y_istore (lv' := [some (.ref (q 0)), some (.int a1), some (.int (0 : Int32)), some (.int r1), some (.int (0 : Int32)), none, none, none, none]) (pc := 9) F dX11_enoughBy_9 (Nat.le_of_ble_eq_true rfl) rfl rfl ?_
  exact wlX11_enoughBy_11 q o a1 F hr zfu (0 : Int32) r1 (0 : Int32)
abbrev rmX11_many : Room := { frames := 3, cells := 0, slots := 0, locals := 75 }
def lX11_many_55 (K130 : Int32 → Ob → Option (Int32 × Ob)) : Nat → Int32 → Int32 → Int32 → Ob → Option (Int32 × Ob)
  | 0, _, _, _, _ => none
  | f + 1, x7, x8, x9, o10 =>
    if x9 = 0 then (K130 x8 o10)
    else (Option.bind (pX11_enoughBy o10 x7) fun (r11 : Int32) =>
    zjn (fun (x12 : Int32) =>
    zjn (fun (x13 : Int32) =>
    Option.bind (pX11_nextOrder o10 x7) fun (r14 : Int32 × Ob) =>
    lX11_many_55 K130 f x7 x13 (r14.1) (r14.2)) fun (K119 : Int32 → Option (Int32 × Ob)) =>
    if x12 = 0 then (K119 x8)
    else (K119 r11)) fun (K106 : Int32 → Option (Int32 × Ob)) =>
    zjn (K106 (1 : Int32)) fun (K101 : Option (Int32 × Ob)) =>
    if x8 < 0 then (K101)
    else (Option.bind (pX11_bits r11) fun (r15 : Int32) =>
    Option.bind (pX11_bits x8) fun (r16 : Int32) =>
    if r16 < r15 then (K101)
    else (Option.bind (pX11_bits r11) fun (r17 : Int32) =>
    Option.bind (pX11_bits x8) fun (r18 : Int32) =>
    zjn (K106 (0 : Int32)) fun (K105 : Option (Int32 × Ob)) =>
    if r17 = r18 then (if x8 ≤ r11 then (K105)
    else (K101))
    else (K105))))
def lX11_many_17 (K50 : Int32 → Ob → Option (Int32 × Ob)) : Nat → Int32 → Int32 → Ob → Option (Int32 × Ob)
  | 0, _, _, _ => none
  | f + 1, x19, x20, o21 =>
    if (gi o21 0) ≤ x20 then (K50 x19 o21)
    else (zgd x20 6 <| zjn (fun (x22 : Int32) (o23 : Ob) =>
    zlet (x20 + (1 : Int32)) fun (x24 : Int32) =>
    lX11_many_17 K50 f x22 x24 o23) fun (K44 : Int32 → Ob → Option (Int32 × Ob)) =>
    if (ga o21 15 (x20.toNatClampNeg)) = 0 then (zgd x19 6 <| zlet (sa o21 46 (upd (ga o21 46) (x19.toNatClampNeg) x20)) fun (o25 : Ob) =>
    zlet (x19 + (1 : Int32)) fun (x26 : Int32) =>
    K44 x26 o25)
    else (K44 x19 o21))
def pX11_many (o : Ob) (a1 : Int32) : Option (Int32 × Ob) :=
  Option.bind (pX11_in (a1.toInt64) (0 : Int64) (1 : Int64)) fun (r1 : Int32) =>
  if r1 = 0 then (some ((-1000000002 : Int32), o))
  else (zjn (fun (x2 : Int32) (o3 : Ob) =>
  zjn (fun (x4 : Int32) (o5 : Ob) =>
  if a1 = 0 then (Option.bind (pX11_bits x4) fun (r6 : Int32) =>
  some (r6, o5))
  else (some (x4, o5))) fun (K130 : Int32 → Ob → Option (Int32 × Ob)) =>
  lX11_many_55 K130 zfu x2 (-1 : Int32) (1 : Int32) o3) fun (K50 : Int32 → Ob → Option (Int32 × Ob)) =>
  lX11_many_17 K50 zfu (0 : Int32) (0 : Int32) o)
set_option maxHeartbeats 4000000 in
set_option maxRecDepth 100000 in
theorem wlX11_many_55 {X : ZX} {out : (Int32 × Ob)} (q : Nat → Nat) (a1 : Int32) (F : zF l D tA RX11 cX11_many 7 rmX11_many X) (hr : zRi X D cX11_many .int (fun (r : Int32 × Ob) => (r.1)) (fun (r : Int32 × Ob) => (WM tA q (r.2))) out) {K130 : Int32 → Ob → Option (Int32 × Ob)} (hK130 : ∀ (x4 : Int32) (o5 : Ob), zY X D out (K130 x4 o5) (WM tA q o5) 130 [none, some (.int a1), none, some (.int x4), none, none, none] []) : ∀ (f : Nat) (x7 : Int32) (x8 : Int32) (x9 : Int32) (o10 : Ob), zY X D out (lX11_many_55 K130 f x7 x8 x9 o10) (WM tA q o10) 55 [some (.ref (q 0)), some (.int a1), some (.int x7), some (.int x8), some (.int x9), none, none] [] := by
  intro f
  induction f with
  | zero =>
    intro x7 x8 x9 o10
    exact y_none
  | succ f ih =>
    intro x7 x8 x9 o10
    rw [lX11_many_55.eq_2]
    refine y_iload (pc := 55) F dX11_many_55 rfl ?_
    refine y_if_eq (pc := 57) (tgt := 130) F dX11_many_57 rfl ?_ ?_
    · refine y_le (lv' := [none, some (.int a1), none, some (.int x8), none, none, none]) ⟨rfl, ⟨rfl, trivial⟩⟩ ?_
      exact hK130 x8 o10
    · refine y_aload_n (pc := 60) F dX11_many_60 rfl ?_
      refine y_iload_n (pc := 61) F dX11_many_61 rfl ?_
      refine y_calliW (As := [.int x7]) (st := []) (q0 := 0) (pc := 62) F (c_X11_enoughBy (q := q) o10 x7) dX11_many_62 kM_X11_377 ⟨rfl, rfl⟩ ⟨Nat.le_of_ble_eq_true rfl, Nat.le_of_ble_eq_true rfl⟩ rfl rfl rfl (Nat.le_of_ble_eq_true rfl) rfl rfl WM_at0 (fun r11 => ?_)
      refine y_istore (lv' := [some (.ref (q 0)), some (.int a1), some (.int x7), some (.int x8), some (.int x9), some (.int r11), none]) (pc := 65) F dX11_many_65 (Nat.le_of_ble_eq_true rfl) rfl rfl ?_
      refine y_iload_n (pc := 67) F dX11_many_67 rfl ?_
      refine y_jn (fun (K106 : Int32 → Option (Int32 × Ob)) => ∀ (x12 : Int32), zY X D out (K106 x12) (WM tA q o10) 106 [some (.ref (q 0)), some (.int a1), some (.int x7), some (.int x8), none, some (.int r11), none] [.int x12]) ?_ ?_
      · intro x12
        refine y_istore (lv' := [some (.ref (q 0)), some (.int a1), some (.int x7), some (.int x8), none, some (.int r11), some (.int x12)]) (pc := 106) F dX11_many_106 (Nat.le_of_ble_eq_true rfl) rfl rfl ?_
        refine y_iload (pc := 108) F dX11_many_108 rfl ?_
        refine y_jn (fun (K119 : Int32 → Option (Int32 × Ob)) => ∀ (x13 : Int32), zY X D out (K119 x13) (WM tA q o10) 119 [some (.ref (q 0)), some (.int a1), some (.int x7), none, none, none, none] [.int x13]) ?_ ?_
        · intro x13
          refine y_istore_n (lv' := [some (.ref (q 0)), some (.int a1), some (.int x7), some (.int x13), none, none, none]) (pc := 119) F dX11_many_119 (Nat.le_of_ble_eq_true rfl) rfl rfl ?_
          refine y_aload_n (pc := 120) F dX11_many_120 rfl ?_
          refine y_iload_n (pc := 121) F dX11_many_121 rfl ?_
          refine y_calliW (As := [.int x7]) (st := []) (q0 := 0) (pc := 122) F (c_X11_nextOrder (q := q) o10 x7) dX11_many_122 kM_X11_380 ⟨rfl, rfl⟩ ⟨Nat.le_of_ble_eq_true rfl, Nat.le_of_ble_eq_true rfl⟩ rfl rfl rfl (Nat.le_of_ble_eq_true rfl) rfl rfl WM_at0 (fun r14 => ?_)
          refine y_istore (lv' := [some (.ref (q 0)), some (.int a1), some (.int x7), some (.int x13), some (.int (r14.1)), none, none]) (pc := 125) F dX11_many_125 (Nat.le_of_ble_eq_true rfl) rfl rfl ?_
          refine y_goto (tgt := 55) (pc := 127) F dX11_many_127 rfl ?_
          exact ih x7 x13 (r14.1) (r14.2)
        intro K119 hK119
        refine y_if_eq (pc := 110) (tgt := 118) F dX11_many_110 rfl ?_ ?_
        · refine y_iload_n (pc := 118) F dX11_many_118 rfl ?_
          refine y_le (lv' := [some (.ref (q 0)), some (.int a1), some (.int x7), none, none, none, none]) ⟨rfl, ⟨rfl, ⟨rfl, trivial⟩⟩⟩ ?_
          exact hK119 x8
        · refine y_iload (pc := 113) F dX11_many_113 rfl ?_
          refine y_goto (tgt := 119) (pc := 115) F dX11_many_115 rfl ?_
          refine y_le (lv' := [some (.ref (q 0)), some (.int a1), some (.int x7), none, none, none, none]) ⟨rfl, ⟨rfl, ⟨rfl, trivial⟩⟩⟩ ?_
          exact hK119 r11
      intro K106 hK106
      refine y_jn (fun (K101 : Option (Int32 × Ob)) => zY X D out (K101) (WM tA q o10) 101 [some (.ref (q 0)), some (.int a1), some (.int x7), some (.int x8), none, some (.int r11), none] []) ?_ ?_
      · skip
        refine y_iconst (v := 1) (pc := 101) F dX11_many_101 rfl ?_
        refine y_goto (tgt := 106) (pc := 102) F dX11_many_102 rfl ?_
        exact hK106 (1 : Int32)
      intro K101 hK101
      refine y_if_lt (pc := 68) (tgt := 101) F dX11_many_68 rfl ?_ ?_
      · refine y_le (lv' := [some (.ref (q 0)), some (.int a1), some (.int x7), some (.int x8), none, some (.int r11), none]) ⟨rfl, ⟨rfl, ⟨rfl, ⟨rfl, ⟨rfl, trivial⟩⟩⟩⟩⟩ ?_
        exact hK101
      · refine y_iload (pc := 71) F dX11_many_71 rfl ?_
        refine y_scalliP (As := [.int r11]) (st := []) (pc := 73) F (c_X11_bits (q := q) r11) dX11_many_73 kM_X11_313 ⟨rfl, rfl⟩ ⟨Nat.le_of_ble_eq_true rfl, Nat.le_of_ble_eq_true rfl⟩ rfl rfl rfl (Nat.le_of_ble_eq_true rfl) (fun r15 => ?_)
        refine y_iload_n (pc := 76) F dX11_many_76 rfl ?_
        refine y_scalliP (As := [.int x8]) (st := [.int r15]) (pc := 77) F (c_X11_bits (q := q) x8) dX11_many_77 kM_X11_313 ⟨rfl, rfl⟩ ⟨Nat.le_of_ble_eq_true rfl, Nat.le_of_ble_eq_true rfl⟩ rfl rfl rfl (Nat.le_of_ble_eq_true rfl) (fun r16 => ?_)
        refine y_icmp_gt (pc := 80) (tgt := 101) F dX11_many_80 rfl ?_ ?_
        · refine y_le (lv' := [some (.ref (q 0)), some (.int a1), some (.int x7), some (.int x8), none, some (.int r11), none]) ⟨rfl, ⟨rfl, ⟨rfl, ⟨rfl, ⟨rfl, trivial⟩⟩⟩⟩⟩ ?_
          exact hK101
        · refine y_iload (pc := 83) F dX11_many_83 rfl ?_
          refine y_scalliP (As := [.int r11]) (st := []) (pc := 85) F (c_X11_bits (q := q) r11) dX11_many_85 kM_X11_313 ⟨rfl, rfl⟩ ⟨Nat.le_of_ble_eq_true rfl, Nat.le_of_ble_eq_true rfl⟩ rfl rfl rfl (Nat.le_of_ble_eq_true rfl) (fun r17 => ?_)
          refine y_iload_n (pc := 88) F dX11_many_88 rfl ?_
          refine y_scalliP (As := [.int x8]) (st := [.int r17]) (pc := 89) F (c_X11_bits (q := q) x8) dX11_many_89 kM_X11_313 ⟨rfl, rfl⟩ ⟨Nat.le_of_ble_eq_true rfl, Nat.le_of_ble_eq_true rfl⟩ rfl rfl rfl (Nat.le_of_ble_eq_true rfl) (fun r18 => ?_)
          refine y_jn (fun (K105 : Option (Int32 × Ob)) => zY X D out (K105) (WM tA q o10) 105 [some (.ref (q 0)), some (.int a1), some (.int x7), some (.int x8), none, some (.int r11), none] []) ?_ ?_
          · skip
            refine y_iconst (v := 0) (pc := 105) F dX11_many_105 rfl ?_
            exact hK106 (0 : Int32)
          intro K105 hK105
          refine y_icmp_ne (pc := 92) (tgt := 105) F dX11_many_92 rfl ?_ ?_
          · refine y_iload (pc := 95) F dX11_many_95 rfl ?_
            refine y_iload_n (pc := 97) F dX11_many_97 rfl ?_
            refine y_icmp_ge (pc := 98) (tgt := 105) F dX11_many_98 rfl ?_ ?_
            · refine y_le (lv' := [some (.ref (q 0)), some (.int a1), some (.int x7), some (.int x8), none, some (.int r11), none]) ⟨rfl, ⟨rfl, ⟨rfl, ⟨rfl, ⟨rfl, trivial⟩⟩⟩⟩⟩ ?_
              exact hK105
            · refine y_le (lv' := [some (.ref (q 0)), some (.int a1), some (.int x7), some (.int x8), none, some (.int r11), none]) ⟨rfl, ⟨rfl, ⟨rfl, ⟨rfl, ⟨rfl, trivial⟩⟩⟩⟩⟩ ?_
              exact hK101
          · refine y_le (lv' := [some (.ref (q 0)), some (.int a1), some (.int x7), some (.int x8), none, some (.int r11), none]) ⟨rfl, ⟨rfl, ⟨rfl, ⟨rfl, ⟨rfl, trivial⟩⟩⟩⟩⟩ ?_
            exact hK105
set_option maxHeartbeats 4000000 in
set_option maxRecDepth 100000 in
theorem wlX11_many_17 {X : ZX} {out : (Int32 × Ob)} (q : Nat → Nat) (a1 : Int32) (F : zF l D tA RX11 cX11_many 7 rmX11_many X) (hr : zRi X D cX11_many .int (fun (r : Int32 × Ob) => (r.1)) (fun (r : Int32 × Ob) => (WM tA q (r.2))) out) {K50 : Int32 → Ob → Option (Int32 × Ob)} (hK50 : ∀ (x2 : Int32) (o3 : Ob), zY X D out (K50 x2 o3) (WM tA q o3) 50 [some (.ref (q 0)), some (.int a1), some (.int x2), none, none, none, none] []) : ∀ (f : Nat) (x19 : Int32) (x20 : Int32) (o21 : Ob), zY X D out (lX11_many_17 K50 f x19 x20 o21) (WM tA q o21) 17 [some (.ref (q 0)), some (.int a1), some (.int x19), some (.int x20), none, none, none] [] := by
  intro f
  induction f with
  | zero =>
    intro x19 x20 o21
    exact y_none
  | succ f ih =>
    intro x19 x20 o21
    rw [lX11_many_17.eq_2]
    refine y_iload_n (pc := 17) F dX11_many_17 rfl ?_
    refine y_aload_n (pc := 18) F dX11_many_18 rfl ?_
    refine y_get (pc := 19) F dX11_many_19 kF_X11_124 0 WM_at0 rfl ?_
    refine y_icmp_ge (pc := 22) (tgt := 50) F dX11_many_22 rfl ?_ ?_
    · refine y_le (lv' := [some (.ref (q 0)), some (.int a1), some (.int x19), none, none, none, none]) ⟨rfl, ⟨rfl, ⟨rfl, trivial⟩⟩⟩ ?_
      exact hK50 x19 o21
    · refine y_aload_n (pc := 25) F dX11_many_25 rfl ?_
      refine y_get (pc := 26) F dX11_many_26 kF_X11_41 0 WM_at0 rfl ?_
      refine y_iload_n (pc := 29) F dX11_many_29 rfl ?_
      refine y_iald (pc := 30) F dX11_many_30 11 WM_at11 ?_
      refine y_jn (fun (K44 : Int32 → Ob → Option (Int32 × Ob)) => ∀ (x22 : Int32) (o23 : Ob), zY X D out (K44 x22 o23) (WM tA q o23) 44 [some (.ref (q 0)), some (.int a1), some (.int x22), some (.int x20), none, none, none] []) ?_ ?_
      · intro x22 o23
        refine y_iinc (v := 1) (lf := fun (x24 : Int32) => [some (.ref (q 0)), some (.int a1), some (.int x22), some (.int x24), none, none, none]) (pc := 44) F dX11_many_44 rfl rfl rfl (fun _ => rfl) (fun x24 => ?_)
        refine y_goto (tgt := 17) (pc := 47) F dX11_many_47 rfl ?_
        exact ih x22 x24 o23
      intro K44 hK44
      refine y_if_ne (pc := 31) (tgt := 44) F dX11_many_31 rfl ?_ ?_
      · refine y_aload_n (pc := 34) F dX11_many_34 rfl ?_
        refine y_get (pc := 35) F dX11_many_35 kF_X11_103 0 WM_at0 rfl ?_
        refine y_iload_n (pc := 38) F dX11_many_38 rfl ?_
        refine y_iload_n (pc := 39) F dX11_many_39 rfl ?_
        refine y_iast (pc := 40) F dX11_many_40 30 WM_at30 (fun (o25 : Ob) => (WM tA q o25)) (WM_ar30 _) (fun o25 => ?_)
        refine y_iinc (v := 1) (lf := fun (x26 : Int32) => [some (.ref (q 0)), some (.int a1), some (.int x26), some (.int x20), none, none, none]) (pc := 41) F dX11_many_41 rfl rfl rfl (fun _ => rfl) (fun x26 => ?_)
        exact hK44 x26 o25
      · exact hK44 x19 o21
set_option maxHeartbeats 4000000 in
set_option maxRecDepth 100000 in
theorem c_X11_many {q : Nat → Nat} (o : Ob) (a1 : Int32) : zCi l D tA yX11_many cX11_many 7 .int rmX11_many [.ref (q 0), .int a1] (WM tA q o) (fun (r : Int32 × Ob) => (r.1)) (fun (r : Int32 × Ob) => (WM tA q (r.2))) (pX11_many o a1) := by
  refine zCi_of (lv0 := [some (.ref (q 0)), some (.int a1), none, none, none, none, none]) (by decide +kernel) (Nat.le_of_ble_eq_true rfl) rfl (fun X out F hr => ?_)
  unfold pX11_many
  refine y_iload_n (pc := 0) F dX11_many_0 rfl ?_
  refine y_i2l (pc := 1) F dX11_many_1 ?_
  refine y_lconst (v := 0) (pc := 2) F dX11_many_2 rfl ?_
  refine y_lconst (v := 1) (pc := 3) F dX11_many_3 rfl ?_
  refine y_scalliP (As := [.long (a1.toInt64), .long (0 : Int64), .long (1 : Int64)]) (st := []) (pc := 4) F (c_X11_in (q := q) (a1.toInt64) (0 : Int64) (1 : Int64)) dX11_many_4 kM_X11_127 ⟨rfl, rfl⟩ ⟨Nat.le_of_ble_eq_true rfl, Nat.le_of_ble_eq_true rfl⟩ rfl rfl rfl (Nat.le_of_ble_eq_true rfl) (fun r1 => ?_)
  refine y_if_ne (pc := 7) (tgt := 13) F dX11_many_7 rfl ?_ ?_
  · refine y_ldc (pc := 10) F dX11_many_10 kC_X11_136 ?_
    exact y_iret hr dX11_many_12 rfl rfl
  · refine y_iconst (v := 0) (pc := 13) F dX11_many_13 rfl ?_
    refine y_istore_n (lv' := [some (.ref (q 0)), some (.int a1), some (.int (0 : Int32)), none, none, none, none]) (pc := 14) F dX11_many_14 (Nat.le_of_ble_eq_true rfl) rfl rfl ?_
    refine y_iconst (v := 0) (pc := 15) F dX11_many_15 rfl ?_
    refine y_istore_n (lv' := [some (.ref (q 0)), some (.int a1), some (.int (0 : Int32)), some (.int (0 : Int32)), none, none, none]) (pc := 16) F dX11_many_16 (Nat.le_of_ble_eq_true rfl) rfl rfl ?_
    refine y_jn (fun (K50 : Int32 → Ob → Option (Int32 × Ob)) => ∀ (x2 : Int32) (o3 : Ob), zY X D out (K50 x2 o3) (WM tA q o3) 50 [some (.ref (q 0)), some (.int a1), some (.int x2), none, none, none, none] []) ?_ ?_
    · intro x2 o3
      refine y_iconst (v := -1) (pc := 50) F dX11_many_50 rfl ?_
      refine y_istore_n (lv' := [some (.ref (q 0)), some (.int a1), some (.int x2), some (.int (-1 : Int32)), none, none, none]) (pc := 51) F dX11_many_51 (Nat.le_of_ble_eq_true rfl) rfl rfl ?_
      refine y_iconst (v := 1) (pc := 52) F dX11_many_52 rfl ?_
      refine y_istore (lv' := [some (.ref (q 0)), some (.int a1), some (.int x2), some (.int (-1 : Int32)), some (.int (1 : Int32)), none, none]) (pc := 53) F dX11_many_53 (Nat.le_of_ble_eq_true rfl) rfl rfl ?_
      refine y_jn (fun (K130 : Int32 → Ob → Option (Int32 × Ob)) => ∀ (x4 : Int32) (o5 : Ob), zY X D out (K130 x4 o5) (WM tA q o5) 130 [none, some (.int a1), none, some (.int x4), none, none, none] []) ?_ ?_
      · intro x4 o5
        refine y_iload_n (pc := 130) F dX11_many_130 rfl ?_
        refine y_if_ne (pc := 131) (tgt := 141) F dX11_many_131 rfl ?_ ?_
        · refine y_iload_n (pc := 134) F dX11_many_134 rfl ?_
          refine y_scalliP (As := [.int x4]) (st := []) (pc := 135) F (c_X11_bits (q := q) x4) dX11_many_135 kM_X11_313 ⟨rfl, rfl⟩ ⟨Nat.le_of_ble_eq_true rfl, Nat.le_of_ble_eq_true rfl⟩ rfl rfl rfl (Nat.le_of_ble_eq_true rfl) (fun r6 => ?_)
          refine y_goto (tgt := 142) (pc := 138) F dX11_many_138 rfl ?_
          exact y_iret hr dX11_many_142 rfl rfl
        · refine y_iload_n (pc := 141) F dX11_many_141 rfl ?_
          exact y_iret hr dX11_many_142 rfl rfl
      intro K130 hK130
      exact wlX11_many_55 q a1 F hr hK130 zfu x2 (-1 : Int32) (1 : Int32) o3
    intro K50 hK50
    exact wlX11_many_17 q a1 F hr hK50 zfu (0 : Int32) (0 : Int32) o
abbrev rmX11_write : Room := { frames := 2, cells := 0, slots := 0, locals := 46 }
def pX11_write (o : Ob) (a1 : Int32) (a2 : Int32) : Option (Int32 × Ob) :=
  Option.bind (pX11_isSuit o a1) fun (r1 : Int32) =>
  if r1 = 0 then (some ((-1000000001 : Int32), o))
  else (Option.bind (pX11_in (a2.toInt64) (0 : Int64) (99999 : Int64)) fun (r2 : Int32) =>
  if r2 = 0 then (some ((-1000000002 : Int32), o))
  else (zgd a1 6 <| if (ga o 47 (a1.toNatClampNeg)) = (60 : Int32) then (some ((-1000000004 : Int32), o))
  else (zgd a1 6 <| zgd (((60 : Int32) * a1) + (ga o 47 (a1.toNatClampNeg))) 360 <| zlet (sa o 48 (upd (ga o 48) ((((60 : Int32) * a1) + (ga o 47 (a1.toNatClampNeg))).toNatClampNeg) a2)) fun (o3 : Ob) =>
  zgd a1 6 <| zgd a1 6 <| zlet (sa o3 47 (upd (ga o3 47) (a1.toNatClampNeg) ((ga o3 47 (a1.toNatClampNeg)) + (1 : Int32)))) fun (o4 : Ob) =>
  zgd a1 6 <| some ((ga o4 47 (a1.toNatClampNeg)), o4))))
set_option maxHeartbeats 4000000 in
set_option maxRecDepth 100000 in
theorem c_X11_write {q : Nat → Nat} (o : Ob) (a1 : Int32) (a2 : Int32) : zCi l D tA yX11_write cX11_write 3 .int rmX11_write [.ref (q 0), .int a1, .int a2] (WM tA q o) (fun (r : Int32 × Ob) => (r.1)) (fun (r : Int32 × Ob) => (WM tA q (r.2))) (pX11_write o a1 a2) := by
  refine zCi_of (lv0 := [some (.ref (q 0)), some (.int a1), some (.int a2)]) (by decide +kernel) (Nat.le_of_ble_eq_true rfl) rfl (fun X out F hr => ?_)
  unfold pX11_write
  refine y_aload_n (pc := 0) F dX11_write_0 rfl ?_
  refine y_iload_n (pc := 1) F dX11_write_1 rfl ?_
  refine y_calliW (As := [.int a1]) (st := []) (q0 := 0) (pc := 2) F (c_X11_isSuit (q := q) o a1) dX11_write_2 kM_X11_244 ⟨rfl, rfl⟩ ⟨Nat.le_of_ble_eq_true rfl, Nat.le_of_ble_eq_true rfl⟩ rfl rfl rfl (Nat.le_of_ble_eq_true rfl) rfl rfl WM_at0 (fun r1 => ?_)
  refine y_if_ne (pc := 5) (tgt := 11) F dX11_write_5 rfl ?_ ?_
  · refine y_ldc (pc := 8) F dX11_write_8 kC_X11_248 ?_
    exact y_iret hr dX11_write_10 rfl rfl
  · refine y_iload_n (pc := 11) F dX11_write_11 rfl ?_
    refine y_i2l (pc := 12) F dX11_write_12 ?_
    refine y_lconst (v := 0) (pc := 13) F dX11_write_13 rfl ?_
    refine y_ldc2 (pc := 14) F dX11_write_14 kC_X11_383 ?_
    refine y_scalliP (As := [.long (a2.toInt64), .long (0 : Int64), .long (99999 : Int64)]) (st := []) (pc := 17) F (c_X11_in (q := q) (a2.toInt64) (0 : Int64) (99999 : Int64)) dX11_write_17 kM_X11_127 ⟨rfl, rfl⟩ ⟨Nat.le_of_ble_eq_true rfl, Nat.le_of_ble_eq_true rfl⟩ rfl rfl rfl (Nat.le_of_ble_eq_true rfl) (fun r2 => ?_)
    refine y_if_ne (pc := 20) (tgt := 26) F dX11_write_20 rfl ?_ ?_
    · refine y_ldc (pc := 23) F dX11_write_23 kC_X11_136 ?_
      exact y_iret hr dX11_write_25 rfl rfl
    · refine y_aload_n (pc := 26) F dX11_write_26 rfl ?_
      refine y_get (pc := 27) F dX11_write_27 kF_X11_106 0 WM_at0 rfl ?_
      refine y_iload_n (pc := 30) F dX11_write_30 rfl ?_
      refine y_iald (pc := 31) F dX11_write_31 31 WM_at31 ?_
      refine y_bipush (v := 60) (pc := 32) F dX11_write_32 rfl ?_
      refine y_icmp_ne (pc := 34) (tgt := 40) F dX11_write_34 rfl ?_ ?_
      · refine y_ldc (pc := 37) F dX11_write_37 kC_X11_140 ?_
        exact y_iret hr dX11_write_39 rfl rfl
      · refine y_aload_n (pc := 40) F dX11_write_40 rfl ?_
        refine y_get (pc := 41) F dX11_write_41 kF_X11_109 0 WM_at0 rfl ?_
        refine y_bipush (v := 60) (pc := 44) F dX11_write_44 rfl ?_
        refine y_iload_n (pc := 46) F dX11_write_46 rfl ?_
        refine y_imul (pc := 47) F dX11_write_47 ?_
        refine y_aload_n (pc := 48) F dX11_write_48 rfl ?_
        refine y_get (pc := 49) F dX11_write_49 kF_X11_106 0 WM_at0 rfl ?_
        refine y_iload_n (pc := 52) F dX11_write_52 rfl ?_
        refine y_iald (pc := 53) F dX11_write_53 31 WM_at31 ?_
        refine y_iadd (pc := 54) F dX11_write_54 ?_
        refine y_iload_n (pc := 55) F dX11_write_55 rfl ?_
        refine y_iast (pc := 56) F dX11_write_56 32 WM_at32 (fun (o3 : Ob) => (WM tA q o3)) (WM_ar32 _) (fun o3 => ?_)
        refine y_aload_n (pc := 57) F dX11_write_57 rfl ?_
        refine y_get (pc := 58) F dX11_write_58 kF_X11_106 0 WM_at0 rfl ?_
        refine y_iload_n (pc := 61) F dX11_write_61 rfl ?_
        refine y_dup2 (pc := 62) F dX11_write_62 rfl rfl ?_
        refine y_iald (pc := 63) F dX11_write_63 31 WM_at31 ?_
        refine y_iconst (v := 1) (pc := 64) F dX11_write_64 rfl ?_
        refine y_iadd (pc := 65) F dX11_write_65 ?_
        refine y_iast (pc := 66) F dX11_write_66 31 WM_at31 (fun (o4 : Ob) => (WM tA q o4)) (WM_ar31 _) (fun o4 => ?_)
        refine y_aload_n (pc := 67) F dX11_write_67 rfl ?_
        refine y_get (pc := 68) F dX11_write_68 kF_X11_106 0 WM_at0 rfl ?_
        refine y_iload_n (pc := 71) F dX11_write_71 rfl ?_
        refine y_iald (pc := 72) F dX11_write_72 31 WM_at31 ?_
        exact y_iret hr dX11_write_73 rfl rfl
abbrev rmX11_tear : Room := { frames := 2, cells := 0, slots := 0, locals := 46 }
def pX11_tear (o : Ob) (a1 : Int32) : Option (Int32 × Ob) :=
  Option.bind (pX11_isSuit o a1) fun (r1 : Int32) =>
  if r1 = 0 then (some ((-1000000001 : Int32), o))
  else (zgd a1 6 <| zlet ((ga o 47 (a1.toNatClampNeg))) fun (x2 : Int32) =>
  zgd a1 6 <| zlet (sa o 47 (upd (ga o 47) (a1.toNatClampNeg) (0 : Int32))) fun (o3 : Ob) =>
  some (x2, o3))
set_option maxHeartbeats 4000000 in
set_option maxRecDepth 100000 in
theorem c_X11_tear {q : Nat → Nat} (o : Ob) (a1 : Int32) : zCi l D tA yX11_tear cX11_tear 3 .int rmX11_tear [.ref (q 0), .int a1] (WM tA q o) (fun (r : Int32 × Ob) => (r.1)) (fun (r : Int32 × Ob) => (WM tA q (r.2))) (pX11_tear o a1) := by
  refine zCi_of (lv0 := [some (.ref (q 0)), some (.int a1), none]) (by decide +kernel) (Nat.le_of_ble_eq_true rfl) rfl (fun X out F hr => ?_)
  unfold pX11_tear
  refine y_aload_n (pc := 0) F dX11_tear_0 rfl ?_
  refine y_iload_n (pc := 1) F dX11_tear_1 rfl ?_
  refine y_calliW (As := [.int a1]) (st := []) (q0 := 0) (pc := 2) F (c_X11_isSuit (q := q) o a1) dX11_tear_2 kM_X11_244 ⟨rfl, rfl⟩ ⟨Nat.le_of_ble_eq_true rfl, Nat.le_of_ble_eq_true rfl⟩ rfl rfl rfl (Nat.le_of_ble_eq_true rfl) rfl rfl WM_at0 (fun r1 => ?_)
  refine y_if_ne (pc := 5) (tgt := 11) F dX11_tear_5 rfl ?_ ?_
  · refine y_ldc (pc := 8) F dX11_tear_8 kC_X11_248 ?_
    exact y_iret hr dX11_tear_10 rfl rfl
  · refine y_aload_n (pc := 11) F dX11_tear_11 rfl ?_
    refine y_get (pc := 12) F dX11_tear_12 kF_X11_106 0 WM_at0 rfl ?_
    refine y_iload_n (pc := 15) F dX11_tear_15 rfl ?_
    refine y_iald (pc := 16) F dX11_tear_16 31 WM_at31 ?_
    refine y_lti (fun x2 => ?_)
    refine y_istore_n (lv' := [some (.ref (q 0)), some (.int a1), some (.int x2)]) (pc := 17) F dX11_tear_17 (Nat.le_of_ble_eq_true rfl) rfl rfl ?_
    refine y_aload_n (pc := 18) F dX11_tear_18 rfl ?_
    refine y_get (pc := 19) F dX11_tear_19 kF_X11_106 0 WM_at0 rfl ?_
    refine y_iload_n (pc := 22) F dX11_tear_22 rfl ?_
    refine y_iconst (v := 0) (pc := 23) F dX11_tear_23 rfl ?_
    refine y_iast (pc := 24) F dX11_tear_24 31 WM_at31 (fun (o3 : Ob) => (WM tA q o3)) (WM_ar31 _) (fun o3 => ?_)
    refine y_iload_n (pc := 25) F dX11_tear_25 rfl ?_
    exact y_iret hr dX11_tear_26 rfl rfl
abbrev rmX11_judge : Room := { frames := 2, cells := 0, slots := 0, locals := 46 }
def lX11_judge_13 (o : Ob) (a1 : Int32) : Nat → Int32 → Option Int32
  | 0, _ => none
  | f + 1, x2 =>
    zgd a1 6 <| if (ga o 47 (a1.toNatClampNeg)) ≤ x2 then (some (-1 : Int32))
    else (if (gi o 13) ≤ x2 then (some (-1 : Int32))
    else (zgd (((60 : Int32) * a1) + x2) 360 <| zgd (((400 : Int32) * a1) + x2) 2400 <| if (ga o 48 ((((60 : Int32) * a1) + x2).toNatClampNeg)) = (ga o 19 ((((400 : Int32) * a1) + x2).toNatClampNeg)) then (zlet (x2 + (1 : Int32)) fun (x3 : Int32) =>
    lX11_judge_13 o a1 f x3)
    else (some x2)))
def pX11_judge (o : Ob) (a1 : Int32) : Option Int32 :=
  Option.bind (pX11_isSuit o a1) fun (r1 : Int32) =>
  if r1 = 0 then (some (-1000000001 : Int32))
  else (lX11_judge_13 o a1 zfu (0 : Int32))
set_option maxHeartbeats 4000000 in
set_option maxRecDepth 100000 in
theorem wlX11_judge_13 {X : ZX} {out : Int32} (q : Nat → Nat) (o : Ob) (a1 : Int32) (F : zF l D tA RX11 cX11_judge 3 rmX11_judge X) (hr : zRi X D cX11_judge .int (fun (r : Int32) => r) (fun (r : Int32) => (WM tA q o)) out) : ∀ (f : Nat) (x2 : Int32), zY X D out (lX11_judge_13 o a1 f x2) (WM tA q o) 13 [some (.ref (q 0)), some (.int a1), some (.int x2)] [] := by
  intro f
  induction f with
  | zero =>
    intro x2
    exact y_none
  | succ f ih =>
    intro x2
    rw [lX11_judge_13.eq_2]
    refine y_iload_n (pc := 13) F dX11_judge_13 rfl ?_
    refine y_aload_n (pc := 14) F dX11_judge_14 rfl ?_
    refine y_get (pc := 15) F dX11_judge_15 kF_X11_106 0 WM_at0 rfl ?_
    refine y_iload_n (pc := 18) F dX11_judge_18 rfl ?_
    refine y_iald (pc := 19) F dX11_judge_19 31 WM_at31 ?_
    refine y_icmp_ge (pc := 20) (tgt := 65) F dX11_judge_20 rfl ?_ ?_
    · refine y_iconst (v := -1) (pc := 65) F dX11_judge_65 rfl ?_
      exact y_iret hr dX11_judge_66 rfl rfl
    · refine y_iload_n (pc := 23) F dX11_judge_23 rfl ?_
      refine y_aload_n (pc := 24) F dX11_judge_24 rfl ?_
      refine y_get (pc := 25) F dX11_judge_25 kF_X11_223 0 WM_at0 rfl ?_
      refine y_icmp_ge (pc := 28) (tgt := 65) F dX11_judge_28 rfl ?_ ?_
      · refine y_iconst (v := -1) (pc := 65) F dX11_judge_65 rfl ?_
        exact y_iret hr dX11_judge_66 rfl rfl
      · refine y_aload_n (pc := 31) F dX11_judge_31 rfl ?_
        refine y_get (pc := 32) F dX11_judge_32 kF_X11_109 0 WM_at0 rfl ?_
        refine y_bipush (v := 60) (pc := 35) F dX11_judge_35 rfl ?_
        refine y_iload_n (pc := 37) F dX11_judge_37 rfl ?_
        refine y_imul (pc := 38) F dX11_judge_38 ?_
        refine y_iload_n (pc := 39) F dX11_judge_39 rfl ?_
        refine y_iadd (pc := 40) F dX11_judge_40 ?_
        refine y_iald (pc := 41) F dX11_judge_41 32 WM_at32 ?_
        refine y_aload_n (pc := 42) F dX11_judge_42 rfl ?_
        refine y_get (pc := 43) F dX11_judge_43 kF_X11_53 0 WM_at0 rfl ?_
        refine y_sipush (v := 400) (pc := 46) F dX11_judge_46 rfl ?_
        refine y_iload_n (pc := 49) F dX11_judge_49 rfl ?_
        refine y_imul (pc := 50) F dX11_judge_50 ?_
        refine y_iload_n (pc := 51) F dX11_judge_51 rfl ?_
        refine y_iadd (pc := 52) F dX11_judge_52 ?_
        refine y_iald (pc := 53) F dX11_judge_53 15 WM_at15 ?_
        refine y_icmp_eq (pc := 54) (tgt := 59) F dX11_judge_54 rfl ?_ ?_
        · refine y_iinc (v := 1) (lf := fun (x3 : Int32) => [some (.ref (q 0)), some (.int a1), some (.int x3)]) (pc := 59) F dX11_judge_59 rfl rfl rfl (fun _ => rfl) (fun x3 => ?_)
          refine y_goto (tgt := 13) (pc := 62) F dX11_judge_62 rfl ?_
          exact ih x3
        · refine y_iload_n (pc := 57) F dX11_judge_57 rfl ?_
          exact y_iret hr dX11_judge_58 rfl rfl
set_option maxHeartbeats 4000000 in
set_option maxRecDepth 100000 in
theorem c_X11_judge {q : Nat → Nat} (o : Ob) (a1 : Int32) : zCi l D tA yX11_judge cX11_judge 3 .int rmX11_judge [.ref (q 0), .int a1] (WM tA q o) (fun (r : Int32) => r) (fun (r : Int32) => (WM tA q o)) (pX11_judge o a1) := by
  refine zCi_of (lv0 := [some (.ref (q 0)), some (.int a1), none]) (by decide +kernel) (Nat.le_of_ble_eq_true rfl) rfl (fun X out F hr => ?_)
  unfold pX11_judge
  refine y_aload_n (pc := 0) F dX11_judge_0 rfl ?_
  refine y_iload_n (pc := 1) F dX11_judge_1 rfl ?_
  refine y_calliW (As := [.int a1]) (st := []) (q0 := 0) (pc := 2) F (c_X11_isSuit (q := q) o a1) dX11_judge_2 kM_X11_244 ⟨rfl, rfl⟩ ⟨Nat.le_of_ble_eq_true rfl, Nat.le_of_ble_eq_true rfl⟩ rfl rfl rfl (Nat.le_of_ble_eq_true rfl) rfl rfl WM_at0 (fun r1 => ?_)
  refine y_if_ne (pc := 5) (tgt := 11) F dX11_judge_5 rfl ?_ ?_
  · refine y_ldc (pc := 8) F dX11_judge_8 kC_X11_248 ?_
    exact y_iret hr dX11_judge_10 rfl rfl
  · refine y_iconst (v := 0) (pc := 11) F dX11_judge_11 rfl ?_
    refine y_istore_n (lv' := [some (.ref (q 0)), some (.int a1), some (.int (0 : Int32))]) (pc := 12) F dX11_judge_12 (Nat.le_of_ble_eq_true rfl) rfl rfl ?_
    exact wlX11_judge_13 q o a1 F hr zfu (0 : Int32)
abbrev rmX11_evening : Room := { frames := 2, cells := 0, slots := 0, locals := 46 }
def pX11_evening (o : Ob) (a1 : Int32) (a2 : Int32) : Option Int32 :=
  Option.bind (pX11_isSuit o a1) fun (r1 : Int32) =>
  if r1 = 0 then (some (-1000000001 : Int32))
  else (Option.bind (pX11_in (a2.toInt64) (0 : Int64) (399 : Int64)) fun (r2 : Int32) =>
  if r2 = 0 then (some (-1000000002 : Int32))
  else (if (gi o 13) ≤ a2 then (some (-1 : Int32))
  else (zgd (((400 : Int32) * a1) + a2) 2400 <| some (ga o 19 ((((400 : Int32) * a1) + a2).toNatClampNeg)))))
set_option maxHeartbeats 4000000 in
set_option maxRecDepth 100000 in
theorem c_X11_evening {q : Nat → Nat} (o : Ob) (a1 : Int32) (a2 : Int32) : zCi l D tA yX11_evening cX11_evening 3 .int rmX11_evening [.ref (q 0), .int a1, .int a2] (WM tA q o) (fun (r : Int32) => r) (fun (r : Int32) => (WM tA q o)) (pX11_evening o a1 a2) := by
  refine zCi_of (lv0 := [some (.ref (q 0)), some (.int a1), some (.int a2)]) (by decide +kernel) (Nat.le_of_ble_eq_true rfl) rfl (fun X out F hr => ?_)
  unfold pX11_evening
  refine y_aload_n (pc := 0) F dX11_evening_0 rfl ?_
  refine y_iload_n (pc := 1) F dX11_evening_1 rfl ?_
  refine y_calliW (As := [.int a1]) (st := []) (q0 := 0) (pc := 2) F (c_X11_isSuit (q := q) o a1) dX11_evening_2 kM_X11_244 ⟨rfl, rfl⟩ ⟨Nat.le_of_ble_eq_true rfl, Nat.le_of_ble_eq_true rfl⟩ rfl rfl rfl (Nat.le_of_ble_eq_true rfl) rfl rfl WM_at0 (fun r1 => ?_)
  refine y_if_ne (pc := 5) (tgt := 11) F dX11_evening_5 rfl ?_ ?_
  · refine y_ldc (pc := 8) F dX11_evening_8 kC_X11_248 ?_
    exact y_iret hr dX11_evening_10 rfl rfl
  · refine y_iload_n (pc := 11) F dX11_evening_11 rfl ?_
    refine y_i2l (pc := 12) F dX11_evening_12 ?_
    refine y_lconst (v := 0) (pc := 13) F dX11_evening_13 rfl ?_
    refine y_ldc2 (pc := 14) F dX11_evening_14 kC_X11_266 ?_
    refine y_scalliP (As := [.long (a2.toInt64), .long (0 : Int64), .long (399 : Int64)]) (st := []) (pc := 17) F (c_X11_in (q := q) (a2.toInt64) (0 : Int64) (399 : Int64)) dX11_evening_17 kM_X11_127 ⟨rfl, rfl⟩ ⟨Nat.le_of_ble_eq_true rfl, Nat.le_of_ble_eq_true rfl⟩ rfl rfl rfl (Nat.le_of_ble_eq_true rfl) (fun r2 => ?_)
    refine y_if_ne (pc := 20) (tgt := 26) F dX11_evening_20 rfl ?_ ?_
    · refine y_ldc (pc := 23) F dX11_evening_23 kC_X11_136 ?_
      exact y_iret hr dX11_evening_25 rfl rfl
    · refine y_iload_n (pc := 26) F dX11_evening_26 rfl ?_
      refine y_aload_n (pc := 27) F dX11_evening_27 rfl ?_
      refine y_get (pc := 28) F dX11_evening_28 kF_X11_223 0 WM_at0 rfl ?_
      refine y_icmp_ge (pc := 31) (tgt := 49) F dX11_evening_31 rfl ?_ ?_
      · refine y_iconst (v := -1) (pc := 49) F dX11_evening_49 rfl ?_
        exact y_iret hr dX11_evening_50 rfl rfl
      · refine y_aload_n (pc := 34) F dX11_evening_34 rfl ?_
        refine y_get (pc := 35) F dX11_evening_35 kF_X11_53 0 WM_at0 rfl ?_
        refine y_sipush (v := 400) (pc := 38) F dX11_evening_38 rfl ?_
        refine y_iload_n (pc := 41) F dX11_evening_41 rfl ?_
        refine y_imul (pc := 42) F dX11_evening_42 ?_
        refine y_iload_n (pc := 43) F dX11_evening_43 rfl ?_
        refine y_iadd (pc := 44) F dX11_evening_44 ?_
        refine y_iald (pc := 45) F dX11_evening_45 15 WM_at15 ?_
        refine y_goto (tgt := 50) (pc := 46) F dX11_evening_46 rfl ?_
        exact y_iret hr dX11_evening_50 rfl rfl
abbrev rmX11_seed : Room := { frames := 0, cells := 0, slots := 0, locals := 0 }
def pX11_seed (o : Ob) (a1 : Int32) : Option (Int32 × Ob) :=
  if 0 ≤ a1 then (zlet ((gi o 20)) fun (x1 : Int32) =>
  zlet (si o 20 a1) fun (o2 : Ob) =>
  some (x1, o2))
  else (some ((-1000000002 : Int32), o))
set_option maxHeartbeats 4000000 in
set_option maxRecDepth 100000 in
theorem c_X11_seed {q : Nat → Nat} (o : Ob) (a1 : Int32) : zCi l D tA yX11_seed cX11_seed 3 .int rmX11_seed [.ref (q 0), .int a1] (WM tA q o) (fun (r : Int32 × Ob) => (r.1)) (fun (r : Int32 × Ob) => (WM tA q (r.2))) (pX11_seed o a1) := by
  refine zCi_of (lv0 := [some (.ref (q 0)), some (.int a1), none]) (by decide +kernel) (Nat.le_of_ble_eq_true rfl) rfl (fun X out F hr => ?_)
  unfold pX11_seed
  refine y_iload_n (pc := 0) F dX11_seed_0 rfl ?_
  refine y_if_ge (pc := 1) (tgt := 7) F dX11_seed_1 rfl ?_ ?_
  · refine y_aload_n (pc := 7) F dX11_seed_7 rfl ?_
    refine y_get (pc := 8) F dX11_seed_8 kF_X11_286 0 WM_at0 rfl ?_
    refine y_lti (fun x1 => ?_)
    refine y_istore_n (lv' := [some (.ref (q 0)), some (.int a1), some (.int x1)]) (pc := 11) F dX11_seed_11 (Nat.le_of_ble_eq_true rfl) rfl rfl ?_
    refine y_aload_n (pc := 12) F dX11_seed_12 rfl ?_
    refine y_iload_n (pc := 13) F dX11_seed_13 rfl ?_
    refine y_put (pc := 14) F dX11_seed_14 kF_X11_286 0 WM_at0 rfl rfl rfl (Nat.le_of_ble_eq_true rfl) (fun (o2 : Ob) => (WM tA q o2)) (WM_pt0_20 _) (fun o2 => ?_)
    refine y_iload_n (pc := 17) F dX11_seed_17 rfl ?_
    exact y_iret hr dX11_seed_18 rfl rfl
  · refine y_ldc (pc := 4) F dX11_seed_4 kC_X11_136 ?_
    exact y_iret hr dX11_seed_6 rfl rfl
abbrev rmX11_keep : Room := { frames := 1, cells := 0, slots := 0, locals := 25 }
def lX11_keep_191 (a1 : Int32) (K240 : Ob → Option (Int32 × Ob)) : Nat → Int32 → Ob → Option (Int32 × Ob)
  | 0, _, _ => none
  | f + 1, x10, o11 =>
    if (2400 : Int32) ≤ x10 then (K240 o11)
    else (zgd x10 2400 <| zgd (((2400 : Int32) * a1) + x10) 4800 <| zlet (sa o11 50 (upd (ga o11 50) ((((2400 : Int32) * a1) + x10).toNatClampNeg) (ga o11 18 (x10.toNatClampNeg)))) fun (o12 : Ob) =>
    zgd x10 2400 <| zgd (((2400 : Int32) * a1) + x10) 4800 <| zlet (sa o12 51 (upd (ga o12 51) ((((2400 : Int32) * a1) + x10).toNatClampNeg) (ga o12 19 (x10.toNatClampNeg)))) fun (o13 : Ob) =>
    zlet (x10 + (1 : Int32)) fun (x14 : Int32) =>
    lX11_keep_191 a1 K240 f x14 o13)
def lX11_keep_126 (x2 : Int32) (K189 : Ob → Option (Int32 × Ob)) : Nat → Int32 → Ob → Option (Int32 × Ob)
  | 0, _, _ => none
  | f + 1, x15, o16 =>
    if (6 : Int32) ≤ x15 then (K189 o16)
    else (zgd x15 6 <| zgd ((x2 + (39 : Int32)) + x15) 120 <| zlet (sa o16 49 (upd (ga o16 49) (((x2 + (39 : Int32)) + x15).toNatClampNeg) (ga o16 15 (x15.toNatClampNeg)))) fun (o17 : Ob) =>
    zgd x15 6 <| zgd ((x2 + (45 : Int32)) + x15) 120 <| zlet (sa o17 49 (upd (ga o17 49) (((x2 + (45 : Int32)) + x15).toNatClampNeg) (ga o17 16 (x15.toNatClampNeg)))) fun (o18 : Ob) =>
    zgd x15 6 <| zgd ((x2 + (51 : Int32)) + x15) 120 <| zlet (sa o18 49 (upd (ga o18 49) (((x2 + (51 : Int32)) + x15).toNatClampNeg) (ga o18 17 (x15.toNatClampNeg)))) fun (o19 : Ob) =>
    zlet (x15 + (1 : Int32)) fun (x20 : Int32) =>
    lX11_keep_126 x2 K189 f x20 o19)
def lX11_keep_54 (x2 : Int32) (K124 : Ob → Option (Int32 × Ob)) : Nat → Int32 → Ob → Option (Int32 × Ob)
  | 0, _, _ => none
  | f + 1, x21, o22 =>
    if (12 : Int32) ≤ x21 then (K124 o22)
    else (zgd x21 12 <| zgd ((x2 + (3 : Int32)) + x21) 120 <| zlet (sa o22 49 (upd (ga o22 49) (((x2 + (3 : Int32)) + x21).toNatClampNeg) (ga o22 10 (x21.toNatClampNeg)))) fun (o23 : Ob) =>
    zgd x21 12 <| zgd ((x2 + (15 : Int32)) + x21) 120 <| zlet (sa o23 49 (upd (ga o23 49) (((x2 + (15 : Int32)) + x21).toNatClampNeg) (ga o23 11 (x21.toNatClampNeg)))) fun (o24 : Ob) =>
    zgd x21 12 <| zjn (fun (x25 : Int32) =>
    zgd ((x2 + (27 : Int32)) + x21) 120 <| zlet (sa o24 49 (upd (ga o24 49) (((x2 + (27 : Int32)) + x21).toNatClampNeg) x25)) fun (o26 : Ob) =>
    zlet (x21 + (1 : Int32)) fun (x27 : Int32) =>
    lX11_keep_54 x2 K124 f x27 o26) fun (K117 : Int32 → Option (Int32 × Ob)) =>
    if (ga o24 12 (x21.toNatClampNeg)) = 0 then (K117 (0 : Int32))
    else (K117 (1 : Int32)))
def pX11_keep (o : Ob) (a1 : Int32) : Option (Int32 × Ob) :=
  Option.bind (pX11_in (a1.toInt64) (0 : Int64) (1 : Int64)) fun (r1 : Int32) =>
  if r1 = 0 then (some ((-1000000001 : Int32), o))
  else (zlet (((60 : Int32) * a1)) fun (x2 : Int32) =>
  zgd x2 120 <| zlet (sa o 49 (upd (ga o 49) (x2.toNatClampNeg) (gi o 13))) fun (o3 : Ob) =>
  zgd (x2 + (1 : Int32)) 120 <| zlet (sa o3 49 (upd (ga o3 49) ((x2 + (1 : Int32)).toNatClampNeg) (gi o3 14))) fun (o4 : Ob) =>
  zgd (x2 + (2 : Int32)) 120 <| zlet (sa o4 49 (upd (ga o4 49) ((x2 + (2 : Int32)).toNatClampNeg) (gi o4 20))) fun (o5 : Ob) =>
  zjn (fun (o6 : Ob) =>
  zjn (fun (o7 : Ob) =>
  zjn (fun (o8 : Ob) =>
  zgd a1 2 <| zlet (sa o8 52 (upd (ga o8 52) (a1.toNatClampNeg) (vp_nar .boolean (1 : Int32)))) fun (o9 : Ob) =>
  some ((1 : Int32), o9)) fun (K240 : Ob → Option (Int32 × Ob)) =>
  lX11_keep_191 a1 K240 zfu (0 : Int32) o7) fun (K189 : Ob → Option (Int32 × Ob)) =>
  lX11_keep_126 x2 K189 zfu (0 : Int32) o6) fun (K124 : Ob → Option (Int32 × Ob)) =>
  lX11_keep_54 x2 K124 zfu (0 : Int32) o5)
set_option maxHeartbeats 4000000 in
set_option maxRecDepth 100000 in
theorem wlX11_keep_191 {X : ZX} {out : (Int32 × Ob)} (q : Nat → Nat) (a1 : Int32) (F : zF l D tA RX11 cX11_keep 4 rmX11_keep X) (hr : zRi X D cX11_keep .int (fun (r : Int32 × Ob) => (r.1)) (fun (r : Int32 × Ob) => (WM tA q (r.2))) out) {K240 : Ob → Option (Int32 × Ob)} (hK240 : ∀ (o8 : Ob), zY X D out (K240 o8) (WM tA q o8) 240 [some (.ref (q 0)), some (.int a1), none, none] []) : ∀ (f : Nat) (x10 : Int32) (o11 : Ob), zY X D out (lX11_keep_191 a1 K240 f x10 o11) (WM tA q o11) 191 [some (.ref (q 0)), some (.int a1), none, some (.int x10)] [] := by
  intro f
  induction f with
  | zero =>
    intro x10 o11
    exact y_none
  | succ f ih =>
    intro x10 o11
    rw [lX11_keep_191.eq_2]
    refine y_iload_n (pc := 191) F dX11_keep_191 rfl ?_
    refine y_sipush (v := 2400) (pc := 192) F dX11_keep_192 rfl ?_
    refine y_icmp_ge (pc := 195) (tgt := 240) F dX11_keep_195 rfl ?_ ?_
    · refine y_le (lv' := [some (.ref (q 0)), some (.int a1), none, none]) ⟨rfl, ⟨rfl, trivial⟩⟩ ?_
      exact hK240 o11
    · refine y_aload_n (pc := 198) F dX11_keep_198 rfl ?_
      refine y_get (pc := 199) F dX11_keep_199 kF_X11_115 0 WM_at0 rfl ?_
      refine y_sipush (v := 2400) (pc := 202) F dX11_keep_202 rfl ?_
      refine y_iload_n (pc := 205) F dX11_keep_205 rfl ?_
      refine y_imul (pc := 206) F dX11_keep_206 ?_
      refine y_iload_n (pc := 207) F dX11_keep_207 rfl ?_
      refine y_iadd (pc := 208) F dX11_keep_208 ?_
      refine y_aload_n (pc := 209) F dX11_keep_209 rfl ?_
      refine y_get (pc := 210) F dX11_keep_210 kF_X11_50 0 WM_at0 rfl ?_
      refine y_iload_n (pc := 213) F dX11_keep_213 rfl ?_
      refine y_iald (pc := 214) F dX11_keep_214 14 WM_at14 ?_
      refine y_iast (pc := 215) F dX11_keep_215 34 WM_at34 (fun (o12 : Ob) => (WM tA q o12)) (WM_ar34 _) (fun o12 => ?_)
      refine y_aload_n (pc := 216) F dX11_keep_216 rfl ?_
      refine y_get (pc := 217) F dX11_keep_217 kF_X11_118 0 WM_at0 rfl ?_
      refine y_sipush (v := 2400) (pc := 220) F dX11_keep_220 rfl ?_
      refine y_iload_n (pc := 223) F dX11_keep_223 rfl ?_
      refine y_imul (pc := 224) F dX11_keep_224 ?_
      refine y_iload_n (pc := 225) F dX11_keep_225 rfl ?_
      refine y_iadd (pc := 226) F dX11_keep_226 ?_
      refine y_aload_n (pc := 227) F dX11_keep_227 rfl ?_
      refine y_get (pc := 228) F dX11_keep_228 kF_X11_53 0 WM_at0 rfl ?_
      refine y_iload_n (pc := 231) F dX11_keep_231 rfl ?_
      refine y_iald (pc := 232) F dX11_keep_232 15 WM_at15 ?_
      refine y_iast (pc := 233) F dX11_keep_233 35 WM_at35 (fun (o13 : Ob) => (WM tA q o13)) (WM_ar35 _) (fun o13 => ?_)
      refine y_iinc (v := 1) (lf := fun (x14 : Int32) => [some (.ref (q 0)), some (.int a1), none, some (.int x14)]) (pc := 234) F dX11_keep_234 rfl rfl rfl (fun _ => rfl) (fun x14 => ?_)
      refine y_goto (tgt := 191) (pc := 237) F dX11_keep_237 rfl ?_
      exact ih x14 o13
set_option maxHeartbeats 4000000 in
set_option maxRecDepth 100000 in
theorem wlX11_keep_126 {X : ZX} {out : (Int32 × Ob)} (q : Nat → Nat) (a1 : Int32) (x2 : Int32) (F : zF l D tA RX11 cX11_keep 4 rmX11_keep X) (hr : zRi X D cX11_keep .int (fun (r : Int32 × Ob) => (r.1)) (fun (r : Int32 × Ob) => (WM tA q (r.2))) out) {K189 : Ob → Option (Int32 × Ob)} (hK189 : ∀ (o7 : Ob), zY X D out (K189 o7) (WM tA q o7) 189 [some (.ref (q 0)), some (.int a1), none, none] []) : ∀ (f : Nat) (x15 : Int32) (o16 : Ob), zY X D out (lX11_keep_126 x2 K189 f x15 o16) (WM tA q o16) 126 [some (.ref (q 0)), some (.int a1), some (.int x2), some (.int x15)] [] := by
  intro f
  induction f with
  | zero =>
    intro x15 o16
    exact y_none
  | succ f ih =>
    intro x15 o16
    rw [lX11_keep_126.eq_2]
    refine y_iload_n (pc := 126) F dX11_keep_126 rfl ?_
    refine y_bipush (v := 6) (pc := 127) F dX11_keep_127 rfl ?_
    refine y_icmp_ge (pc := 129) (tgt := 189) F dX11_keep_129 rfl ?_ ?_
    · refine y_le (lv' := [some (.ref (q 0)), some (.int a1), none, none]) ⟨rfl, ⟨rfl, trivial⟩⟩ ?_
      exact hK189 o16
    · refine y_aload_n (pc := 132) F dX11_keep_132 rfl ?_
      refine y_get (pc := 133) F dX11_keep_133 kF_X11_112 0 WM_at0 rfl ?_
      refine y_iload_n (pc := 136) F dX11_keep_136 rfl ?_
      refine y_bipush (v := 39) (pc := 137) F dX11_keep_137 rfl ?_
      refine y_iadd (pc := 139) F dX11_keep_139 ?_
      refine y_iload_n (pc := 140) F dX11_keep_140 rfl ?_
      refine y_iadd (pc := 141) F dX11_keep_141 ?_
      refine y_aload_n (pc := 142) F dX11_keep_142 rfl ?_
      refine y_get (pc := 143) F dX11_keep_143 kF_X11_41 0 WM_at0 rfl ?_
      refine y_iload_n (pc := 146) F dX11_keep_146 rfl ?_
      refine y_iald (pc := 147) F dX11_keep_147 11 WM_at11 ?_
      refine y_iast (pc := 148) F dX11_keep_148 33 WM_at33 (fun (o17 : Ob) => (WM tA q o17)) (WM_ar33 _) (fun o17 => ?_)
      refine y_aload_n (pc := 149) F dX11_keep_149 rfl ?_
      refine y_get (pc := 150) F dX11_keep_150 kF_X11_112 0 WM_at0 rfl ?_
      refine y_iload_n (pc := 153) F dX11_keep_153 rfl ?_
      refine y_bipush (v := 45) (pc := 154) F dX11_keep_154 rfl ?_
      refine y_iadd (pc := 156) F dX11_keep_156 ?_
      refine y_iload_n (pc := 157) F dX11_keep_157 rfl ?_
      refine y_iadd (pc := 158) F dX11_keep_158 ?_
      refine y_aload_n (pc := 159) F dX11_keep_159 rfl ?_
      refine y_get (pc := 160) F dX11_keep_160 kF_X11_44 0 WM_at0 rfl ?_
      refine y_iload_n (pc := 163) F dX11_keep_163 rfl ?_
      refine y_iald (pc := 164) F dX11_keep_164 12 WM_at12 ?_
      refine y_iast (pc := 165) F dX11_keep_165 33 WM_at33 (fun (o18 : Ob) => (WM tA q o18)) (WM_ar33 _) (fun o18 => ?_)
      refine y_aload_n (pc := 166) F dX11_keep_166 rfl ?_
      refine y_get (pc := 167) F dX11_keep_167 kF_X11_112 0 WM_at0 rfl ?_
      refine y_iload_n (pc := 170) F dX11_keep_170 rfl ?_
      refine y_bipush (v := 51) (pc := 171) F dX11_keep_171 rfl ?_
      refine y_iadd (pc := 173) F dX11_keep_173 ?_
      refine y_iload_n (pc := 174) F dX11_keep_174 rfl ?_
      refine y_iadd (pc := 175) F dX11_keep_175 ?_
      refine y_aload_n (pc := 176) F dX11_keep_176 rfl ?_
      refine y_get (pc := 177) F dX11_keep_177 kF_X11_47 0 WM_at0 rfl ?_
      refine y_iload_n (pc := 180) F dX11_keep_180 rfl ?_
      refine y_iald (pc := 181) F dX11_keep_181 13 WM_at13 ?_
      refine y_iast (pc := 182) F dX11_keep_182 33 WM_at33 (fun (o19 : Ob) => (WM tA q o19)) (WM_ar33 _) (fun o19 => ?_)
      refine y_iinc (v := 1) (lf := fun (x20 : Int32) => [some (.ref (q 0)), some (.int a1), some (.int x2), some (.int x20)]) (pc := 183) F dX11_keep_183 rfl rfl rfl (fun _ => rfl) (fun x20 => ?_)
      refine y_goto (tgt := 126) (pc := 186) F dX11_keep_186 rfl ?_
      exact ih x20 o19
set_option maxHeartbeats 4000000 in
set_option maxRecDepth 100000 in
theorem wlX11_keep_54 {X : ZX} {out : (Int32 × Ob)} (q : Nat → Nat) (a1 : Int32) (x2 : Int32) (F : zF l D tA RX11 cX11_keep 4 rmX11_keep X) (hr : zRi X D cX11_keep .int (fun (r : Int32 × Ob) => (r.1)) (fun (r : Int32 × Ob) => (WM tA q (r.2))) out) {K124 : Ob → Option (Int32 × Ob)} (hK124 : ∀ (o6 : Ob), zY X D out (K124 o6) (WM tA q o6) 124 [some (.ref (q 0)), some (.int a1), some (.int x2), none] []) : ∀ (f : Nat) (x21 : Int32) (o22 : Ob), zY X D out (lX11_keep_54 x2 K124 f x21 o22) (WM tA q o22) 54 [some (.ref (q 0)), some (.int a1), some (.int x2), some (.int x21)] [] := by
  intro f
  induction f with
  | zero =>
    intro x21 o22
    exact y_none
  | succ f ih =>
    intro x21 o22
    rw [lX11_keep_54.eq_2]
    refine y_iload_n (pc := 54) F dX11_keep_54 rfl ?_
    refine y_bipush (v := 12) (pc := 55) F dX11_keep_55 rfl ?_
    refine y_icmp_ge (pc := 57) (tgt := 124) F dX11_keep_57 rfl ?_ ?_
    · refine y_le (lv' := [some (.ref (q 0)), some (.int a1), some (.int x2), none]) ⟨rfl, ⟨rfl, ⟨rfl, trivial⟩⟩⟩ ?_
      exact hK124 o22
    · refine y_aload_n (pc := 60) F dX11_keep_60 rfl ?_
      refine y_get (pc := 61) F dX11_keep_61 kF_X11_112 0 WM_at0 rfl ?_
      refine y_iload_n (pc := 64) F dX11_keep_64 rfl ?_
      refine y_iconst (v := 3) (pc := 65) F dX11_keep_65 rfl ?_
      refine y_iadd (pc := 66) F dX11_keep_66 ?_
      refine y_iload_n (pc := 67) F dX11_keep_67 rfl ?_
      refine y_iadd (pc := 68) F dX11_keep_68 ?_
      refine y_aload_n (pc := 69) F dX11_keep_69 rfl ?_
      refine y_get (pc := 70) F dX11_keep_70 kF_X11_31 0 WM_at0 rfl ?_
      refine y_iload_n (pc := 73) F dX11_keep_73 rfl ?_
      refine y_iald (pc := 74) F dX11_keep_74 8 WM_at8 ?_
      refine y_iast (pc := 75) F dX11_keep_75 33 WM_at33 (fun (o23 : Ob) => (WM tA q o23)) (WM_ar33 _) (fun o23 => ?_)
      refine y_aload_n (pc := 76) F dX11_keep_76 rfl ?_
      refine y_get (pc := 77) F dX11_keep_77 kF_X11_112 0 WM_at0 rfl ?_
      refine y_iload_n (pc := 80) F dX11_keep_80 rfl ?_
      refine y_bipush (v := 15) (pc := 81) F dX11_keep_81 rfl ?_
      refine y_iadd (pc := 83) F dX11_keep_83 ?_
      refine y_iload_n (pc := 84) F dX11_keep_84 rfl ?_
      refine y_iadd (pc := 85) F dX11_keep_85 ?_
      refine y_aload_n (pc := 86) F dX11_keep_86 rfl ?_
      refine y_get (pc := 87) F dX11_keep_87 kF_X11_34 0 WM_at0 rfl ?_
      refine y_iload_n (pc := 90) F dX11_keep_90 rfl ?_
      refine y_iald (pc := 91) F dX11_keep_91 9 WM_at9 ?_
      refine y_iast (pc := 92) F dX11_keep_92 33 WM_at33 (fun (o24 : Ob) => (WM tA q o24)) (WM_ar33 _) (fun o24 => ?_)
      refine y_aload_n (pc := 93) F dX11_keep_93 rfl ?_
      refine y_get (pc := 94) F dX11_keep_94 kF_X11_112 0 WM_at0 rfl ?_
      refine y_iload_n (pc := 97) F dX11_keep_97 rfl ?_
      refine y_bipush (v := 27) (pc := 98) F dX11_keep_98 rfl ?_
      refine y_iadd (pc := 100) F dX11_keep_100 ?_
      refine y_iload_n (pc := 101) F dX11_keep_101 rfl ?_
      refine y_iadd (pc := 102) F dX11_keep_102 ?_
      refine y_aload_n (pc := 103) F dX11_keep_103 rfl ?_
      refine y_get (pc := 104) F dX11_keep_104 kF_X11_37 0 WM_at0 rfl ?_
      refine y_iload_n (pc := 107) F dX11_keep_107 rfl ?_
      refine y_zald (pc := 108) F dX11_keep_108 10 WM_at10 ?_
      refine y_jn (fun (K117 : Int32 → Option (Int32 × Ob)) => ∀ (x25 : Int32), zY X D out (K117 x25) (WM tA q o24) 117 [some (.ref (q 0)), some (.int a1), some (.int x2), some (.int x21)] [.int x25, .int ((x2 + (27 : Int32)) + x21), .ref (q 33)]) ?_ ?_
      · intro x25
        refine y_iast (pc := 117) F dX11_keep_117 33 WM_at33 (fun (o26 : Ob) => (WM tA q o26)) (WM_ar33 _) (fun o26 => ?_)
        refine y_iinc (v := 1) (lf := fun (x27 : Int32) => [some (.ref (q 0)), some (.int a1), some (.int x2), some (.int x27)]) (pc := 118) F dX11_keep_118 rfl rfl rfl (fun _ => rfl) (fun x27 => ?_)
        refine y_goto (tgt := 54) (pc := 121) F dX11_keep_121 rfl ?_
        exact ih x27 o26
      intro K117 hK117
      refine y_if_eq (pc := 109) (tgt := 116) F dX11_keep_109 rfl ?_ ?_
      · refine y_iconst (v := 0) (pc := 116) F dX11_keep_116 rfl ?_
        exact hK117 (0 : Int32)
      · refine y_iconst (v := 1) (pc := 112) F dX11_keep_112 rfl ?_
        refine y_goto (tgt := 117) (pc := 113) F dX11_keep_113 rfl ?_
        exact hK117 (1 : Int32)
set_option maxHeartbeats 4000000 in
set_option maxRecDepth 100000 in
theorem c_X11_keep {q : Nat → Nat} (o : Ob) (a1 : Int32) : zCi l D tA yX11_keep cX11_keep 4 .int rmX11_keep [.ref (q 0), .int a1] (WM tA q o) (fun (r : Int32 × Ob) => (r.1)) (fun (r : Int32 × Ob) => (WM tA q (r.2))) (pX11_keep o a1) := by
  refine zCi_of (lv0 := [some (.ref (q 0)), some (.int a1), none, none]) (by decide +kernel) (Nat.le_of_ble_eq_true rfl) rfl (fun X out F hr => ?_)
  unfold pX11_keep
  refine y_iload_n (pc := 0) F dX11_keep_0 rfl ?_
  refine y_i2l (pc := 1) F dX11_keep_1 ?_
  refine y_lconst (v := 0) (pc := 2) F dX11_keep_2 rfl ?_
  refine y_lconst (v := 1) (pc := 3) F dX11_keep_3 rfl ?_
  refine y_scalliP (As := [.long (a1.toInt64), .long (0 : Int64), .long (1 : Int64)]) (st := []) (pc := 4) F (c_X11_in (q := q) (a1.toInt64) (0 : Int64) (1 : Int64)) dX11_keep_4 kM_X11_127 ⟨rfl, rfl⟩ ⟨Nat.le_of_ble_eq_true rfl, Nat.le_of_ble_eq_true rfl⟩ rfl rfl rfl (Nat.le_of_ble_eq_true rfl) (fun r1 => ?_)
  refine y_if_ne (pc := 7) (tgt := 13) F dX11_keep_7 rfl ?_ ?_
  · refine y_ldc (pc := 10) F dX11_keep_10 kC_X11_248 ?_
    exact y_iret hr dX11_keep_12 rfl rfl
  · refine y_bipush (v := 60) (pc := 13) F dX11_keep_13 rfl ?_
    refine y_iload_n (pc := 15) F dX11_keep_15 rfl ?_
    refine y_imul (pc := 16) F dX11_keep_16 ?_
    refine y_lti (fun x2 => ?_)
    refine y_istore_n (lv' := [some (.ref (q 0)), some (.int a1), some (.int x2), none]) (pc := 17) F dX11_keep_17 (Nat.le_of_ble_eq_true rfl) rfl rfl ?_
    refine y_aload_n (pc := 18) F dX11_keep_18 rfl ?_
    refine y_get (pc := 19) F dX11_keep_19 kF_X11_112 0 WM_at0 rfl ?_
    refine y_iload_n (pc := 22) F dX11_keep_22 rfl ?_
    refine y_aload_n (pc := 23) F dX11_keep_23 rfl ?_
    refine y_get (pc := 24) F dX11_keep_24 kF_X11_223 0 WM_at0 rfl ?_
    refine y_iast (pc := 27) F dX11_keep_27 33 WM_at33 (fun (o3 : Ob) => (WM tA q o3)) (WM_ar33 _) (fun o3 => ?_)
    refine y_aload_n (pc := 28) F dX11_keep_28 rfl ?_
    refine y_get (pc := 29) F dX11_keep_29 kF_X11_112 0 WM_at0 rfl ?_
    refine y_iload_n (pc := 32) F dX11_keep_32 rfl ?_
    refine y_iconst (v := 1) (pc := 33) F dX11_keep_33 rfl ?_
    refine y_iadd (pc := 34) F dX11_keep_34 ?_
    refine y_aload_n (pc := 35) F dX11_keep_35 rfl ?_
    refine y_get (pc := 36) F dX11_keep_36 kF_X11_226 0 WM_at0 rfl ?_
    refine y_iast (pc := 39) F dX11_keep_39 33 WM_at33 (fun (o4 : Ob) => (WM tA q o4)) (WM_ar33 _) (fun o4 => ?_)
    refine y_aload_n (pc := 40) F dX11_keep_40 rfl ?_
    refine y_get (pc := 41) F dX11_keep_41 kF_X11_112 0 WM_at0 rfl ?_
    refine y_iload_n (pc := 44) F dX11_keep_44 rfl ?_
    refine y_iconst (v := 2) (pc := 45) F dX11_keep_45 rfl ?_
    refine y_iadd (pc := 46) F dX11_keep_46 ?_
    refine y_aload_n (pc := 47) F dX11_keep_47 rfl ?_
    refine y_get (pc := 48) F dX11_keep_48 kF_X11_286 0 WM_at0 rfl ?_
    refine y_iast (pc := 51) F dX11_keep_51 33 WM_at33 (fun (o5 : Ob) => (WM tA q o5)) (WM_ar33 _) (fun o5 => ?_)
    refine y_iconst (v := 0) (pc := 52) F dX11_keep_52 rfl ?_
    refine y_istore_n (lv' := [some (.ref (q 0)), some (.int a1), some (.int x2), some (.int (0 : Int32))]) (pc := 53) F dX11_keep_53 (Nat.le_of_ble_eq_true rfl) rfl rfl ?_
    refine y_jn (fun (K124 : Ob → Option (Int32 × Ob)) => ∀ (o6 : Ob), zY X D out (K124 o6) (WM tA q o6) 124 [some (.ref (q 0)), some (.int a1), some (.int x2), none] []) ?_ ?_
    · intro o6
      refine y_iconst (v := 0) (pc := 124) F dX11_keep_124 rfl ?_
      refine y_istore_n (lv' := [some (.ref (q 0)), some (.int a1), some (.int x2), some (.int (0 : Int32))]) (pc := 125) F dX11_keep_125 (Nat.le_of_ble_eq_true rfl) rfl rfl ?_
      refine y_jn (fun (K189 : Ob → Option (Int32 × Ob)) => ∀ (o7 : Ob), zY X D out (K189 o7) (WM tA q o7) 189 [some (.ref (q 0)), some (.int a1), none, none] []) ?_ ?_
      · intro o7
        refine y_iconst (v := 0) (pc := 189) F dX11_keep_189 rfl ?_
        refine y_istore_n (lv' := [some (.ref (q 0)), some (.int a1), none, some (.int (0 : Int32))]) (pc := 190) F dX11_keep_190 (Nat.le_of_ble_eq_true rfl) rfl rfl ?_
        refine y_jn (fun (K240 : Ob → Option (Int32 × Ob)) => ∀ (o8 : Ob), zY X D out (K240 o8) (WM tA q o8) 240 [some (.ref (q 0)), some (.int a1), none, none] []) ?_ ?_
        · intro o8
          refine y_aload_n (pc := 240) F dX11_keep_240 rfl ?_
          refine y_get (pc := 241) F dX11_keep_241 kF_X11_121 0 WM_at0 rfl ?_
          refine y_iload_n (pc := 244) F dX11_keep_244 rfl ?_
          refine y_iconst (v := 1) (pc := 245) F dX11_keep_245 rfl ?_
          refine y_zast (pc := 246) F dX11_keep_246 36 WM_at36 (fun (o9 : Ob) => (WM tA q o9)) (WM_ar36 _) (fun o9 => ?_)
          refine y_iconst (v := 1) (pc := 247) F dX11_keep_247 rfl ?_
          exact y_iret hr dX11_keep_248 rfl rfl
        intro K240 hK240
        exact wlX11_keep_191 q a1 F hr hK240 zfu (0 : Int32) o7
      intro K189 hK189
      exact wlX11_keep_126 q a1 x2 F hr hK189 zfu (0 : Int32) o6
    intro K124 hK124
    exact wlX11_keep_54 q a1 x2 F hr hK124 zfu (0 : Int32) o5
abbrev rmX11_goBack : Room := { frames := 1, cells := 0, slots := 0, locals := 25 }
def lX11_goBack_204 (a1 : Int32) : Nat → Int32 → Ob → Option (Int32 × Ob)
  | 0, _, _ => none
  | f + 1, x8, o9 =>
    if (2400 : Int32) ≤ x8 then (some ((1 : Int32), o9))
    else (zgd (((2400 : Int32) * a1) + x8) 4800 <| zgd x8 2400 <| zlet (sa o9 18 (upd (ga o9 18) (x8.toNatClampNeg) (ga o9 50 ((((2400 : Int32) * a1) + x8).toNatClampNeg)))) fun (o10 : Ob) =>
    zgd (((2400 : Int32) * a1) + x8) 4800 <| zgd x8 2400 <| zlet (sa o10 19 (upd (ga o10 19) (x8.toNatClampNeg) (ga o10 51 ((((2400 : Int32) * a1) + x8).toNatClampNeg)))) fun (o11 : Ob) =>
    zlet (x8 + (1 : Int32)) fun (x12 : Int32) =>
    lX11_goBack_204 a1 f x12 o11)
def lX11_goBack_139 (x2 : Int32) (K202 : Ob → Option (Int32 × Ob)) : Nat → Int32 → Ob → Option (Int32 × Ob)
  | 0, _, _ => none
  | f + 1, x13, o14 =>
    if (6 : Int32) ≤ x13 then (K202 o14)
    else (zgd ((x2 + (39 : Int32)) + x13) 120 <| zgd x13 6 <| zlet (sa o14 15 (upd (ga o14 15) (x13.toNatClampNeg) (ga o14 49 (((x2 + (39 : Int32)) + x13).toNatClampNeg)))) fun (o15 : Ob) =>
    zgd ((x2 + (45 : Int32)) + x13) 120 <| zgd x13 6 <| zlet (sa o15 16 (upd (ga o15 16) (x13.toNatClampNeg) (ga o15 49 (((x2 + (45 : Int32)) + x13).toNatClampNeg)))) fun (o16 : Ob) =>
    zgd ((x2 + (51 : Int32)) + x13) 120 <| zgd x13 6 <| zlet (sa o16 17 (upd (ga o16 17) (x13.toNatClampNeg) (ga o16 49 (((x2 + (51 : Int32)) + x13).toNatClampNeg)))) fun (o17 : Ob) =>
    zlet (x13 + (1 : Int32)) fun (x18 : Int32) =>
    lX11_goBack_139 x2 K202 f x18 o17)
def lX11_goBack_66 (x2 : Int32) (K137 : Ob → Option (Int32 × Ob)) : Nat → Int32 → Ob → Option (Int32 × Ob)
  | 0, _, _ => none
  | f + 1, x19, o20 =>
    if (12 : Int32) ≤ x19 then (K137 o20)
    else (zgd ((x2 + (3 : Int32)) + x19) 120 <| zgd x19 12 <| zlet (sa o20 10 (upd (ga o20 10) (x19.toNatClampNeg) (ga o20 49 (((x2 + (3 : Int32)) + x19).toNatClampNeg)))) fun (o21 : Ob) =>
    zgd ((x2 + (15 : Int32)) + x19) 120 <| zgd x19 12 <| zlet (sa o21 11 (upd (ga o21 11) (x19.toNatClampNeg) (ga o21 49 (((x2 + (15 : Int32)) + x19).toNatClampNeg)))) fun (o22 : Ob) =>
    zgd ((x2 + (27 : Int32)) + x19) 120 <| zjn (fun (x23 : Int32) =>
    zgd x19 12 <| zlet (sa o22 12 (upd (ga o22 12) (x19.toNatClampNeg) (vp_nar .boolean x23))) fun (o24 : Ob) =>
    zlet (x19 + (1 : Int32)) fun (x25 : Int32) =>
    lX11_goBack_66 x2 K137 f x25 o24) fun (K130 : Int32 → Option (Int32 × Ob)) =>
    if (ga o22 49 (((x2 + (27 : Int32)) + x19).toNatClampNeg)) = (1 : Int32) then (K130 (1 : Int32))
    else (K130 (0 : Int32)))
def pX11_goBack (o : Ob) (a1 : Int32) : Option (Int32 × Ob) :=
  Option.bind (pX11_in (a1.toInt64) (0 : Int64) (1 : Int64)) fun (r1 : Int32) =>
  if r1 = 0 then (some ((-1000000001 : Int32), o))
  else (zgd a1 2 <| if (ga o 52 (a1.toNatClampNeg)) = 0 then (some ((-1000000003 : Int32), o))
  else (zlet (((60 : Int32) * a1)) fun (x2 : Int32) =>
  zgd x2 120 <| zlet (si o 13 (ga o 49 (x2.toNatClampNeg))) fun (o3 : Ob) =>
  zgd (x2 + (1 : Int32)) 120 <| zlet (si o3 14 (ga o3 49 ((x2 + (1 : Int32)).toNatClampNeg))) fun (o4 : Ob) =>
  zgd (x2 + (2 : Int32)) 120 <| zlet (si o4 20 (ga o4 49 ((x2 + (2 : Int32)).toNatClampNeg))) fun (o5 : Ob) =>
  zjn (fun (o6 : Ob) =>
  zjn (fun (o7 : Ob) =>
  lX11_goBack_204 a1 zfu (0 : Int32) o7) fun (K202 : Ob → Option (Int32 × Ob)) =>
  lX11_goBack_139 x2 K202 zfu (0 : Int32) o6) fun (K137 : Ob → Option (Int32 × Ob)) =>
  lX11_goBack_66 x2 K137 zfu (0 : Int32) o5))
set_option maxHeartbeats 4000000 in
set_option maxRecDepth 100000 in
theorem wlX11_goBack_204 {X : ZX} {out : (Int32 × Ob)} (q : Nat → Nat) (a1 : Int32) (F : zF l D tA RX11 cX11_goBack 4 rmX11_goBack X) (hr : zRi X D cX11_goBack .int (fun (r : Int32 × Ob) => (r.1)) (fun (r : Int32 × Ob) => (WM tA q (r.2))) out) : ∀ (f : Nat) (x8 : Int32) (o9 : Ob), zY X D out (lX11_goBack_204 a1 f x8 o9) (WM tA q o9) 204 [some (.ref (q 0)), some (.int a1), none, some (.int x8)] [] := by
  intro f
  induction f with
  | zero =>
    intro x8 o9
    exact y_none
  | succ f ih =>
    intro x8 o9
    rw [lX11_goBack_204.eq_2]
    refine y_iload_n (pc := 204) F dX11_goBack_204 rfl ?_
    refine y_sipush (v := 2400) (pc := 205) F dX11_goBack_205 rfl ?_
    refine y_icmp_ge (pc := 208) (tgt := 253) F dX11_goBack_208 rfl ?_ ?_
    · refine y_iconst (v := 1) (pc := 253) F dX11_goBack_253 rfl ?_
      exact y_iret hr dX11_goBack_254 rfl rfl
    · refine y_aload_n (pc := 211) F dX11_goBack_211 rfl ?_
      refine y_get (pc := 212) F dX11_goBack_212 kF_X11_50 0 WM_at0 rfl ?_
      refine y_iload_n (pc := 215) F dX11_goBack_215 rfl ?_
      refine y_aload_n (pc := 216) F dX11_goBack_216 rfl ?_
      refine y_get (pc := 217) F dX11_goBack_217 kF_X11_115 0 WM_at0 rfl ?_
      refine y_sipush (v := 2400) (pc := 220) F dX11_goBack_220 rfl ?_
      refine y_iload_n (pc := 223) F dX11_goBack_223 rfl ?_
      refine y_imul (pc := 224) F dX11_goBack_224 ?_
      refine y_iload_n (pc := 225) F dX11_goBack_225 rfl ?_
      refine y_iadd (pc := 226) F dX11_goBack_226 ?_
      refine y_iald (pc := 227) F dX11_goBack_227 34 WM_at34 ?_
      refine y_iast (pc := 228) F dX11_goBack_228 14 WM_at14 (fun (o10 : Ob) => (WM tA q o10)) (WM_ar14 _) (fun o10 => ?_)
      refine y_aload_n (pc := 229) F dX11_goBack_229 rfl ?_
      refine y_get (pc := 230) F dX11_goBack_230 kF_X11_53 0 WM_at0 rfl ?_
      refine y_iload_n (pc := 233) F dX11_goBack_233 rfl ?_
      refine y_aload_n (pc := 234) F dX11_goBack_234 rfl ?_
      refine y_get (pc := 235) F dX11_goBack_235 kF_X11_118 0 WM_at0 rfl ?_
      refine y_sipush (v := 2400) (pc := 238) F dX11_goBack_238 rfl ?_
      refine y_iload_n (pc := 241) F dX11_goBack_241 rfl ?_
      refine y_imul (pc := 242) F dX11_goBack_242 ?_
      refine y_iload_n (pc := 243) F dX11_goBack_243 rfl ?_
      refine y_iadd (pc := 244) F dX11_goBack_244 ?_
      refine y_iald (pc := 245) F dX11_goBack_245 35 WM_at35 ?_
      refine y_iast (pc := 246) F dX11_goBack_246 15 WM_at15 (fun (o11 : Ob) => (WM tA q o11)) (WM_ar15 _) (fun o11 => ?_)
      refine y_iinc (v := 1) (lf := fun (x12 : Int32) => [some (.ref (q 0)), some (.int a1), none, some (.int x12)]) (pc := 247) F dX11_goBack_247 rfl rfl rfl (fun _ => rfl) (fun x12 => ?_)
      refine y_goto (tgt := 204) (pc := 250) F dX11_goBack_250 rfl ?_
      exact ih x12 o11
set_option maxHeartbeats 4000000 in
set_option maxRecDepth 100000 in
theorem wlX11_goBack_139 {X : ZX} {out : (Int32 × Ob)} (q : Nat → Nat) (a1 : Int32) (x2 : Int32) (F : zF l D tA RX11 cX11_goBack 4 rmX11_goBack X) (hr : zRi X D cX11_goBack .int (fun (r : Int32 × Ob) => (r.1)) (fun (r : Int32 × Ob) => (WM tA q (r.2))) out) {K202 : Ob → Option (Int32 × Ob)} (hK202 : ∀ (o7 : Ob), zY X D out (K202 o7) (WM tA q o7) 202 [some (.ref (q 0)), some (.int a1), none, none] []) : ∀ (f : Nat) (x13 : Int32) (o14 : Ob), zY X D out (lX11_goBack_139 x2 K202 f x13 o14) (WM tA q o14) 139 [some (.ref (q 0)), some (.int a1), some (.int x2), some (.int x13)] [] := by
  intro f
  induction f with
  | zero =>
    intro x13 o14
    exact y_none
  | succ f ih =>
    intro x13 o14
    rw [lX11_goBack_139.eq_2]
    refine y_iload_n (pc := 139) F dX11_goBack_139 rfl ?_
    refine y_bipush (v := 6) (pc := 140) F dX11_goBack_140 rfl ?_
    refine y_icmp_ge (pc := 142) (tgt := 202) F dX11_goBack_142 rfl ?_ ?_
    · refine y_le (lv' := [some (.ref (q 0)), some (.int a1), none, none]) ⟨rfl, ⟨rfl, trivial⟩⟩ ?_
      exact hK202 o14
    · refine y_aload_n (pc := 145) F dX11_goBack_145 rfl ?_
      refine y_get (pc := 146) F dX11_goBack_146 kF_X11_41 0 WM_at0 rfl ?_
      refine y_iload_n (pc := 149) F dX11_goBack_149 rfl ?_
      refine y_aload_n (pc := 150) F dX11_goBack_150 rfl ?_
      refine y_get (pc := 151) F dX11_goBack_151 kF_X11_112 0 WM_at0 rfl ?_
      refine y_iload_n (pc := 154) F dX11_goBack_154 rfl ?_
      refine y_bipush (v := 39) (pc := 155) F dX11_goBack_155 rfl ?_
      refine y_iadd (pc := 157) F dX11_goBack_157 ?_
      refine y_iload_n (pc := 158) F dX11_goBack_158 rfl ?_
      refine y_iadd (pc := 159) F dX11_goBack_159 ?_
      refine y_iald (pc := 160) F dX11_goBack_160 33 WM_at33 ?_
      refine y_iast (pc := 161) F dX11_goBack_161 11 WM_at11 (fun (o15 : Ob) => (WM tA q o15)) (WM_ar11 _) (fun o15 => ?_)
      refine y_aload_n (pc := 162) F dX11_goBack_162 rfl ?_
      refine y_get (pc := 163) F dX11_goBack_163 kF_X11_44 0 WM_at0 rfl ?_
      refine y_iload_n (pc := 166) F dX11_goBack_166 rfl ?_
      refine y_aload_n (pc := 167) F dX11_goBack_167 rfl ?_
      refine y_get (pc := 168) F dX11_goBack_168 kF_X11_112 0 WM_at0 rfl ?_
      refine y_iload_n (pc := 171) F dX11_goBack_171 rfl ?_
      refine y_bipush (v := 45) (pc := 172) F dX11_goBack_172 rfl ?_
      refine y_iadd (pc := 174) F dX11_goBack_174 ?_
      refine y_iload_n (pc := 175) F dX11_goBack_175 rfl ?_
      refine y_iadd (pc := 176) F dX11_goBack_176 ?_
      refine y_iald (pc := 177) F dX11_goBack_177 33 WM_at33 ?_
      refine y_iast (pc := 178) F dX11_goBack_178 12 WM_at12 (fun (o16 : Ob) => (WM tA q o16)) (WM_ar12 _) (fun o16 => ?_)
      refine y_aload_n (pc := 179) F dX11_goBack_179 rfl ?_
      refine y_get (pc := 180) F dX11_goBack_180 kF_X11_47 0 WM_at0 rfl ?_
      refine y_iload_n (pc := 183) F dX11_goBack_183 rfl ?_
      refine y_aload_n (pc := 184) F dX11_goBack_184 rfl ?_
      refine y_get (pc := 185) F dX11_goBack_185 kF_X11_112 0 WM_at0 rfl ?_
      refine y_iload_n (pc := 188) F dX11_goBack_188 rfl ?_
      refine y_bipush (v := 51) (pc := 189) F dX11_goBack_189 rfl ?_
      refine y_iadd (pc := 191) F dX11_goBack_191 ?_
      refine y_iload_n (pc := 192) F dX11_goBack_192 rfl ?_
      refine y_iadd (pc := 193) F dX11_goBack_193 ?_
      refine y_iald (pc := 194) F dX11_goBack_194 33 WM_at33 ?_
      refine y_iast (pc := 195) F dX11_goBack_195 13 WM_at13 (fun (o17 : Ob) => (WM tA q o17)) (WM_ar13 _) (fun o17 => ?_)
      refine y_iinc (v := 1) (lf := fun (x18 : Int32) => [some (.ref (q 0)), some (.int a1), some (.int x2), some (.int x18)]) (pc := 196) F dX11_goBack_196 rfl rfl rfl (fun _ => rfl) (fun x18 => ?_)
      refine y_goto (tgt := 139) (pc := 199) F dX11_goBack_199 rfl ?_
      exact ih x18 o17
set_option maxHeartbeats 4000000 in
set_option maxRecDepth 100000 in
theorem wlX11_goBack_66 {X : ZX} {out : (Int32 × Ob)} (q : Nat → Nat) (a1 : Int32) (x2 : Int32) (F : zF l D tA RX11 cX11_goBack 4 rmX11_goBack X) (hr : zRi X D cX11_goBack .int (fun (r : Int32 × Ob) => (r.1)) (fun (r : Int32 × Ob) => (WM tA q (r.2))) out) {K137 : Ob → Option (Int32 × Ob)} (hK137 : ∀ (o6 : Ob), zY X D out (K137 o6) (WM tA q o6) 137 [some (.ref (q 0)), some (.int a1), some (.int x2), none] []) : ∀ (f : Nat) (x19 : Int32) (o20 : Ob), zY X D out (lX11_goBack_66 x2 K137 f x19 o20) (WM tA q o20) 66 [some (.ref (q 0)), some (.int a1), some (.int x2), some (.int x19)] [] := by
  intro f
  induction f with
  | zero =>
    intro x19 o20
    exact y_none
  | succ f ih =>
    intro x19 o20
    rw [lX11_goBack_66.eq_2]
    refine y_iload_n (pc := 66) F dX11_goBack_66 rfl ?_
    refine y_bipush (v := 12) (pc := 67) F dX11_goBack_67 rfl ?_
    refine y_icmp_ge (pc := 69) (tgt := 137) F dX11_goBack_69 rfl ?_ ?_
    · refine y_le (lv' := [some (.ref (q 0)), some (.int a1), some (.int x2), none]) ⟨rfl, ⟨rfl, ⟨rfl, trivial⟩⟩⟩ ?_
      exact hK137 o20
    · refine y_aload_n (pc := 72) F dX11_goBack_72 rfl ?_
      refine y_get (pc := 73) F dX11_goBack_73 kF_X11_31 0 WM_at0 rfl ?_
      refine y_iload_n (pc := 76) F dX11_goBack_76 rfl ?_
      refine y_aload_n (pc := 77) F dX11_goBack_77 rfl ?_
      refine y_get (pc := 78) F dX11_goBack_78 kF_X11_112 0 WM_at0 rfl ?_
      refine y_iload_n (pc := 81) F dX11_goBack_81 rfl ?_
      refine y_iconst (v := 3) (pc := 82) F dX11_goBack_82 rfl ?_
      refine y_iadd (pc := 83) F dX11_goBack_83 ?_
      refine y_iload_n (pc := 84) F dX11_goBack_84 rfl ?_
      refine y_iadd (pc := 85) F dX11_goBack_85 ?_
      refine y_iald (pc := 86) F dX11_goBack_86 33 WM_at33 ?_
      refine y_iast (pc := 87) F dX11_goBack_87 8 WM_at8 (fun (o21 : Ob) => (WM tA q o21)) (WM_ar8 _) (fun o21 => ?_)
      refine y_aload_n (pc := 88) F dX11_goBack_88 rfl ?_
      refine y_get (pc := 89) F dX11_goBack_89 kF_X11_34 0 WM_at0 rfl ?_
      refine y_iload_n (pc := 92) F dX11_goBack_92 rfl ?_
      refine y_aload_n (pc := 93) F dX11_goBack_93 rfl ?_
      refine y_get (pc := 94) F dX11_goBack_94 kF_X11_112 0 WM_at0 rfl ?_
      refine y_iload_n (pc := 97) F dX11_goBack_97 rfl ?_
      refine y_bipush (v := 15) (pc := 98) F dX11_goBack_98 rfl ?_
      refine y_iadd (pc := 100) F dX11_goBack_100 ?_
      refine y_iload_n (pc := 101) F dX11_goBack_101 rfl ?_
      refine y_iadd (pc := 102) F dX11_goBack_102 ?_
      refine y_iald (pc := 103) F dX11_goBack_103 33 WM_at33 ?_
      refine y_iast (pc := 104) F dX11_goBack_104 9 WM_at9 (fun (o22 : Ob) => (WM tA q o22)) (WM_ar9 _) (fun o22 => ?_)
      refine y_aload_n (pc := 105) F dX11_goBack_105 rfl ?_
      refine y_get (pc := 106) F dX11_goBack_106 kF_X11_37 0 WM_at0 rfl ?_
      refine y_iload_n (pc := 109) F dX11_goBack_109 rfl ?_
      refine y_aload_n (pc := 110) F dX11_goBack_110 rfl ?_
      refine y_get (pc := 111) F dX11_goBack_111 kF_X11_112 0 WM_at0 rfl ?_
      refine y_iload_n (pc := 114) F dX11_goBack_114 rfl ?_
      refine y_bipush (v := 27) (pc := 115) F dX11_goBack_115 rfl ?_
      refine y_iadd (pc := 117) F dX11_goBack_117 ?_
      refine y_iload_n (pc := 118) F dX11_goBack_118 rfl ?_
      refine y_iadd (pc := 119) F dX11_goBack_119 ?_
      refine y_iald (pc := 120) F dX11_goBack_120 33 WM_at33 ?_
      refine y_iconst (v := 1) (pc := 121) F dX11_goBack_121 rfl ?_
      refine y_jn (fun (K130 : Int32 → Option (Int32 × Ob)) => ∀ (x23 : Int32), zY X D out (K130 x23) (WM tA q o22) 130 [some (.ref (q 0)), some (.int a1), some (.int x2), some (.int x19)] [.int x23, .int x19, .ref (q 10)]) ?_ ?_
      · intro x23
        refine y_zast (pc := 130) F dX11_goBack_130 10 WM_at10 (fun (o24 : Ob) => (WM tA q o24)) (WM_ar10 _) (fun o24 => ?_)
        refine y_iinc (v := 1) (lf := fun (x25 : Int32) => [some (.ref (q 0)), some (.int a1), some (.int x2), some (.int x25)]) (pc := 131) F dX11_goBack_131 rfl rfl rfl (fun _ => rfl) (fun x25 => ?_)
        refine y_goto (tgt := 66) (pc := 134) F dX11_goBack_134 rfl ?_
        exact ih x25 o24
      intro K130 hK130
      refine y_icmp_ne (pc := 122) (tgt := 129) F dX11_goBack_122 rfl ?_ ?_
      · refine y_iconst (v := 1) (pc := 125) F dX11_goBack_125 rfl ?_
        refine y_goto (tgt := 130) (pc := 126) F dX11_goBack_126 rfl ?_
        exact hK130 (1 : Int32)
      · refine y_iconst (v := 0) (pc := 129) F dX11_goBack_129 rfl ?_
        exact hK130 (0 : Int32)
set_option maxHeartbeats 4000000 in
set_option maxRecDepth 100000 in
theorem c_X11_goBack {q : Nat → Nat} (o : Ob) (a1 : Int32) : zCi l D tA yX11_goBack cX11_goBack 4 .int rmX11_goBack [.ref (q 0), .int a1] (WM tA q o) (fun (r : Int32 × Ob) => (r.1)) (fun (r : Int32 × Ob) => (WM tA q (r.2))) (pX11_goBack o a1) := by
  refine zCi_of (lv0 := [some (.ref (q 0)), some (.int a1), none, none]) (by decide +kernel) (Nat.le_of_ble_eq_true rfl) rfl (fun X out F hr => ?_)
  unfold pX11_goBack
  refine y_iload_n (pc := 0) F dX11_goBack_0 rfl ?_
  refine y_i2l (pc := 1) F dX11_goBack_1 ?_
  refine y_lconst (v := 0) (pc := 2) F dX11_goBack_2 rfl ?_
  refine y_lconst (v := 1) (pc := 3) F dX11_goBack_3 rfl ?_
  refine y_scalliP (As := [.long (a1.toInt64), .long (0 : Int64), .long (1 : Int64)]) (st := []) (pc := 4) F (c_X11_in (q := q) (a1.toInt64) (0 : Int64) (1 : Int64)) dX11_goBack_4 kM_X11_127 ⟨rfl, rfl⟩ ⟨Nat.le_of_ble_eq_true rfl, Nat.le_of_ble_eq_true rfl⟩ rfl rfl rfl (Nat.le_of_ble_eq_true rfl) (fun r1 => ?_)
  refine y_if_ne (pc := 7) (tgt := 13) F dX11_goBack_7 rfl ?_ ?_
  · refine y_ldc (pc := 10) F dX11_goBack_10 kC_X11_248 ?_
    exact y_iret hr dX11_goBack_12 rfl rfl
  · refine y_aload_n (pc := 13) F dX11_goBack_13 rfl ?_
    refine y_get (pc := 14) F dX11_goBack_14 kF_X11_121 0 WM_at0 rfl ?_
    refine y_iload_n (pc := 17) F dX11_goBack_17 rfl ?_
    refine y_zald (pc := 18) F dX11_goBack_18 36 WM_at36 ?_
    refine y_if_ne (pc := 19) (tgt := 25) F dX11_goBack_19 rfl ?_ ?_
    · refine y_ldc (pc := 22) F dX11_goBack_22 kC_X11_232 ?_
      exact y_iret hr dX11_goBack_24 rfl rfl
    · refine y_bipush (v := 60) (pc := 25) F dX11_goBack_25 rfl ?_
      refine y_iload_n (pc := 27) F dX11_goBack_27 rfl ?_
      refine y_imul (pc := 28) F dX11_goBack_28 ?_
      refine y_lti (fun x2 => ?_)
      refine y_istore_n (lv' := [some (.ref (q 0)), some (.int a1), some (.int x2), none]) (pc := 29) F dX11_goBack_29 (Nat.le_of_ble_eq_true rfl) rfl rfl ?_
      refine y_aload_n (pc := 30) F dX11_goBack_30 rfl ?_
      refine y_aload_n (pc := 31) F dX11_goBack_31 rfl ?_
      refine y_get (pc := 32) F dX11_goBack_32 kF_X11_112 0 WM_at0 rfl ?_
      refine y_iload_n (pc := 35) F dX11_goBack_35 rfl ?_
      refine y_iald (pc := 36) F dX11_goBack_36 33 WM_at33 ?_
      refine y_put (pc := 37) F dX11_goBack_37 kF_X11_223 0 WM_at0 rfl rfl rfl (Nat.le_of_ble_eq_true rfl) (fun (o3 : Ob) => (WM tA q o3)) (WM_pt0_13 _) (fun o3 => ?_)
      refine y_aload_n (pc := 40) F dX11_goBack_40 rfl ?_
      refine y_aload_n (pc := 41) F dX11_goBack_41 rfl ?_
      refine y_get (pc := 42) F dX11_goBack_42 kF_X11_112 0 WM_at0 rfl ?_
      refine y_iload_n (pc := 45) F dX11_goBack_45 rfl ?_
      refine y_iconst (v := 1) (pc := 46) F dX11_goBack_46 rfl ?_
      refine y_iadd (pc := 47) F dX11_goBack_47 ?_
      refine y_iald (pc := 48) F dX11_goBack_48 33 WM_at33 ?_
      refine y_put (pc := 49) F dX11_goBack_49 kF_X11_226 0 WM_at0 rfl rfl rfl (Nat.le_of_ble_eq_true rfl) (fun (o4 : Ob) => (WM tA q o4)) (WM_pt0_14 _) (fun o4 => ?_)
      refine y_aload_n (pc := 52) F dX11_goBack_52 rfl ?_
      refine y_aload_n (pc := 53) F dX11_goBack_53 rfl ?_
      refine y_get (pc := 54) F dX11_goBack_54 kF_X11_112 0 WM_at0 rfl ?_
      refine y_iload_n (pc := 57) F dX11_goBack_57 rfl ?_
      refine y_iconst (v := 2) (pc := 58) F dX11_goBack_58 rfl ?_
      refine y_iadd (pc := 59) F dX11_goBack_59 ?_
      refine y_iald (pc := 60) F dX11_goBack_60 33 WM_at33 ?_
      refine y_put (pc := 61) F dX11_goBack_61 kF_X11_286 0 WM_at0 rfl rfl rfl (Nat.le_of_ble_eq_true rfl) (fun (o5 : Ob) => (WM tA q o5)) (WM_pt0_20 _) (fun o5 => ?_)
      refine y_iconst (v := 0) (pc := 64) F dX11_goBack_64 rfl ?_
      refine y_istore_n (lv' := [some (.ref (q 0)), some (.int a1), some (.int x2), some (.int (0 : Int32))]) (pc := 65) F dX11_goBack_65 (Nat.le_of_ble_eq_true rfl) rfl rfl ?_
      refine y_jn (fun (K137 : Ob → Option (Int32 × Ob)) => ∀ (o6 : Ob), zY X D out (K137 o6) (WM tA q o6) 137 [some (.ref (q 0)), some (.int a1), some (.int x2), none] []) ?_ ?_
      · intro o6
        refine y_iconst (v := 0) (pc := 137) F dX11_goBack_137 rfl ?_
        refine y_istore_n (lv' := [some (.ref (q 0)), some (.int a1), some (.int x2), some (.int (0 : Int32))]) (pc := 138) F dX11_goBack_138 (Nat.le_of_ble_eq_true rfl) rfl rfl ?_
        refine y_jn (fun (K202 : Ob → Option (Int32 × Ob)) => ∀ (o7 : Ob), zY X D out (K202 o7) (WM tA q o7) 202 [some (.ref (q 0)), some (.int a1), none, none] []) ?_ ?_
        · intro o7
          refine y_iconst (v := 0) (pc := 202) F dX11_goBack_202 rfl ?_
          refine y_istore_n (lv' := [some (.ref (q 0)), some (.int a1), none, some (.int (0 : Int32))]) (pc := 203) F dX11_goBack_203 (Nat.le_of_ble_eq_true rfl) rfl rfl ?_
          exact wlX11_goBack_204 q a1 F hr zfu (0 : Int32) o7
        intro K202 hK202
        exact wlX11_goBack_139 q a1 x2 F hr hK202 zfu (0 : Int32) o6
      intro K137 hK137
      exact wlX11_goBack_66 q a1 x2 F hr hK137 zfu (0 : Int32) o5
end ZM
