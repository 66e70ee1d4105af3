section ZWD
variable {l : Launch} {D : va_G} {tA : Nat → ClassId}
def WT (tA : Nat → ClassId) (q : Nat → Nat) (ot : Ob) : va_W := [(q 0, .inr (7, [.ref (q 1), .int (gi ot 1)])), (q 1, .inl (tA 3, (500, .inl (ga ot 0))))]
theorem WT_at0 {tA : Nat → ClassId} {q : Nat → Nat} {ot : Ob} : (WT tA q ot)[0]? = some (q 0, .inr (7, [.ref (q 1), .int (gi ot 1)])) := rfl
theorem WT_pt0_1 {tA : Nat → ClassId} {q : Nat → Nat} {ot : Ob} (v : Int32) : (WT tA q ot).set 0 (q 0, .inr (7, List.set [.ref (q 1), .int (gi ot 1)] 1 (.int v))) = WT tA q (si ot 1 v) := rfl
theorem WT_at1 {tA : Nat → ClassId} {q : Nat → Nat} {ot : Ob} : (WT tA q ot)[1]? = some (q 1, .inl (tA 3, (500, .inl (ga ot 0)))) := rfl
theorem WT_ar1 {tA : Nat → ClassId} {q : Nat → Nat} {ot : Ob} (f : Nat → Int32) : (WT tA q ot).set 1 (q 1, .inl (tA 3, (500, .inl f))) = WT tA q (sa ot 0 f) := rfl
def WR (tA : Nat → ClassId) (q : Nat → Nat) (od : Ob) (ot : Ob) : va_W := [(q 0, .inr (5, [.ref (q 1), .int (gi od 1), .int (gi od 2), .int (gi od 3), .int (gi od 4)])), (q 1, .inr (7, [.ref (q 2), .int (gi ot 1)])), (q 2, .inl (tA 3, (500, .inl (ga ot 0))))]
theorem WR_at0 {tA : Nat → ClassId} {q : Nat → Nat} {od : Ob} {ot : Ob} : (WR tA q od ot)[0]? = some (q 0, .inr (5, [.ref (q 1), .int (gi od 1), .int (gi od 2), .int (gi od 3), .int (gi od 4)])) := rfl
theorem WR_pt0_1 {tA : Nat → ClassId} {q : Nat → Nat} {od : Ob} {ot : Ob} (v : Int32) : (WR tA q od ot).set 0 (q 0, .inr (5, List.set [.ref (q 1), .int (gi od 1), .int (gi od 2), .int (gi od 3), .int (gi od 4)] 1 (.int v))) = WR tA q (si od 1 v) ot := rfl
theorem WR_pt0_2 {tA : Nat → ClassId} {q : Nat → Nat} {od : Ob} {ot : Ob} (v : Int32) : (WR tA q od ot).set 0 (q 0, .inr (5, List.set [.ref (q 1), .int (gi od 1), .int (gi od 2), .int (gi od 3), .int (gi od 4)] 2 (.int v))) = WR tA q (si od 2 v) ot := rfl
theorem WR_pt0_3 {tA : Nat → ClassId} {q : Nat → Nat} {od : Ob} {ot : Ob} (v : Int32) : (WR tA q od ot).set 0 (q 0, .inr (5, List.set [.ref (q 1), .int (gi od 1), .int (gi od 2), .int (gi od 3), .int (gi od 4)] 3 (.int v))) = WR tA q (si od 3 v) ot := rfl
theorem WR_pt0_4 {tA : Nat → ClassId} {q : Nat → Nat} {od : Ob} {ot : Ob} (v : Int32) : (WR tA q od ot).set 0 (q 0, .inr (5, List.set [.ref (q 1), .int (gi od 1), .int (gi od 2), .int (gi od 3), .int (gi od 4)] 4 (.int v))) = WR tA q (si od 4 v) ot := rfl
theorem WR_at1 {tA : Nat → ClassId} {q : Nat → Nat} {od : Ob} {ot : Ob} : (WR tA q od ot)[1]? = some (q 1, .inr (7, [.ref (q 2), .int (gi ot 1)])) := rfl
theorem WR_pt1_1 {tA : Nat → ClassId} {q : Nat → Nat} {od : Ob} {ot : Ob} (v : Int32) : (WR tA q od ot).set 1 (q 1, .inr (7, List.set [.ref (q 2), .int (gi ot 1)] 1 (.int v))) = WR tA q od (si ot 1 v) := rfl
theorem WR_at2 {tA : Nat → ClassId} {q : Nat → Nat} {od : Ob} {ot : Ob} : (WR tA q od ot)[2]? = some (q 2, .inl (tA 3, (500, .inl (ga ot 0)))) := rfl
theorem WR_ar2 {tA : Nat → ClassId} {q : Nat → Nat} {od : Ob} {ot : Ob} (f : Nat → Int32) : (WR tA q od ot).set 2 (q 2, .inl (tA 3, (500, .inl f))) = WR tA q od (sa ot 0 f) := rfl
def WC (tA : Nat → ClassId) (q : Nat → Nat) (oc : Ob) : va_W := [(q 0, .inr (2, [.int (gi oc 0), .int (gi oc 1), .ref (q 1), .ref (q 2), .ref (q 3), .ref (q 4), .ref (q 5), .ref (q 6)])), (q 1, .inl (tA 0, (6, .inl (ga oc 2)))), (q 2, .inl (tA 0, (6, .inl (ga oc 3)))), (q 3, .inl (tA 0, (6, .inl (ga oc 4)))), (q 4, .inl (tA 0, (12, .inl (ga oc 5)))), (q 5, .inl (tA 0, (12, .inl (ga oc 6)))), (q 6, .inl (tA 0, (12, .inl (ga oc 7))))]
theorem WC_at0 {tA : Nat → ClassId} {q : Nat → Nat} {oc : Ob} : (WC tA q oc)[0]? = some (q 0, .inr (2, [.int (gi oc 0), .int (gi oc 1), .ref (q 1), .ref (q 2), .ref (q 3), .ref (q 4), .ref (q 5), .ref (q 6)])) := rfl
theorem WC_pt0_0 {tA : Nat → ClassId} {q : Nat → Nat} {oc : Ob} (v : Int32) : (WC tA q oc).set 0 (q 0, .inr (2, List.set [.int (gi oc 0), .int (gi oc 1), .ref (q 1), .ref (q 2), .ref (q 3), .ref (q 4), .ref (q 5), .ref (q 6)] 0 (.int v))) = WC tA q (si oc 0 v) := rfl
theorem WC_pt0_1 {tA : Nat → ClassId} {q : Nat → Nat} {oc : Ob} (v : Int32) : (WC tA q oc).set 0 (q 0, .inr (2, List.set [.int (gi oc 0), .int (gi oc 1), .ref (q 1), .ref (q 2), .ref (q 3), .ref (q 4), .ref (q 5), .ref (q 6)] 1 (.int v))) = WC tA q (si oc 1 v) := rfl
theorem WC_at1 {tA : Nat → ClassId} {q : Nat → Nat} {oc : Ob} : (WC tA q oc)[1]? = some (q 1, .inl (tA 0, (6, .inl (ga oc 2)))) := rfl
theorem WC_ar1 {tA : Nat → ClassId} {q : Nat → Nat} {oc : Ob} (f : Nat → Int32) : (WC tA q oc).set 1 (q 1, .inl (tA 0, (6, .inl f))) = WC tA q (sa oc 2 f) := rfl
theorem WC_at2 {tA : Nat → ClassId} {q : Nat → Nat} {oc : Ob} : (WC tA q oc)[2]? = some (q 2, .inl (tA 0, (6, .inl (ga oc 3)))) := rfl
theorem WC_ar2 {tA : Nat → ClassId} {q : Nat → Nat} {oc : Ob} (f : Nat → Int32) : (WC tA q oc).set 2 (q 2, .inl (tA 0, (6, .inl f))) = WC tA q (sa oc 3 f) := rfl
theorem WC_at3 {tA : Nat → ClassId} {q : Nat → Nat} {oc : Ob} : (WC tA q oc)[3]? = some (q 3, .inl (tA 0, (6, .inl (ga oc 4)))) := rfl
theorem WC_ar3 {tA : Nat → ClassId} {q : Nat → Nat} {oc : Ob} (f : Nat → Int32) : (WC tA q oc).set 3 (q 3, .inl (tA 0, (6, .inl f))) = WC tA q (sa oc 4 f) := rfl
theorem WC_at4 {tA : Nat → ClassId} {q : Nat → Nat} {oc : Ob} : (WC tA q oc)[4]? = some (q 4, .inl (tA 0, (12, .inl (ga oc 5)))) := rfl
theorem WC_ar4 {tA : Nat → ClassId} {q : Nat → Nat} {oc : Ob} (f : Nat → Int32) : (WC tA q oc).set 4 (q 4, .inl (tA 0, (12, .inl f))) = WC tA q (sa oc 5 f) := rfl
theorem WC_at5 {tA : Nat → ClassId} {q : Nat → Nat} {oc : Ob} : (WC tA q oc)[5]? = some (q 5, .inl (tA 0, (12, .inl (ga oc 6)))) := rfl
theorem WC_ar5 {tA : Nat → ClassId} {q : Nat → Nat} {oc : Ob} (f : Nat → Int32) : (WC tA q oc).set 5 (q 5, .inl (tA 0, (12, .inl f))) = WC tA q (sa oc 6 f) := rfl
theorem WC_at6 {tA : Nat → ClassId} {q : Nat → Nat} {oc : Ob} : (WC tA q oc)[6]? = some (q 6, .inl (tA 0, (12, .inl (ga oc 7)))) := rfl
theorem WC_ar6 {tA : Nat → ClassId} {q : Nat → Nat} {oc : Ob} (f : Nat → Int32) : (WC tA q oc).set 6 (q 6, .inl (tA 0, (12, .inl f))) = WC tA q (sa oc 7 f) := rfl
def WCR (tA : Nat → ClassId) (q : Nat → Nat) (oc : Ob) (od : Ob) (ot : Ob) : va_W := [(q 0, .inr (2, [.int (gi oc 0), .int (gi oc 1), .ref (q 1), .ref (q 2), .ref (q 3), .ref (q 4), .ref (q 5), .ref (q 6)])), (q 1, .inl (tA 0, (6, .inl (ga oc 2)))), (q 2, .inl (tA 0, (6, .inl (ga oc 3)))), (q 3, .inl (tA 0, (6, .inl (ga oc 4)))), (q 4, .inl (tA 0, (12, .inl (ga oc 5)))), (q 5, .inl (tA 0, (12, .inl (ga oc 6)))), (q 6, .inl (tA 0, (12, .inl (ga oc 7)))), (q 7, .inr (5, [.ref (q 8), .int (gi od 1), .int (gi od 2), .int (gi od 3), .int (gi od 4)])), (q 8, .inr (7, [.ref (q 9), .int (gi ot 1)])), (q 9, .inl (tA 3, (500, .inl (ga ot 0))))]
theorem WCR_at0 {tA : Nat → ClassId} {q : Nat → Nat} {oc : Ob} {od : Ob} {ot : Ob} : (WCR tA q oc od ot)[0]? = some (q 0, .inr (2, [.int (gi oc 0), .int (gi oc 1), .ref (q 1), .ref (q 2), .ref (q 3), .ref (q 4), .ref (q 5), .ref (q 6)])) := rfl
theorem WCR_pt0_0 {tA : Nat → ClassId} {q : Nat → Nat} {oc : Ob} {od : Ob} {ot : Ob} (v : Int32) : (WCR tA q oc od ot).set 0 (q 0, .inr (2, List.set [.int (gi oc 0), .int (gi oc 1), .ref (q 1), .ref (q 2), .ref (q 3), .ref (q 4), .ref (q 5), .ref (q 6)] 0 (.int v))) = WCR tA q (si oc 0 v) od ot := rfl
theorem WCR_pt0_1 {tA : Nat → ClassId} {q : Nat → Nat} {oc : Ob} {od : Ob} {ot : Ob} (v : Int32) : (WCR tA q oc od ot).set 0 (q 0, .inr (2, List.set [.int (gi oc 0), .int (gi oc 1), .ref (q 1), .ref (q 2), .ref (q 3), .ref (q 4), .ref (q 5), .ref (q 6)] 1 (.int v))) = WCR tA q (si oc 1 v) od ot := rfl
theorem WCR_at1 {tA : Nat → ClassId} {q : Nat → Nat} {oc : Ob} {od : Ob} {ot : Ob} : (WCR tA q oc od ot)[1]? = some (q 1, .inl (tA 0, (6, .inl (ga oc 2)))) := rfl
theorem WCR_ar1 {tA : Nat → ClassId} {q : Nat → Nat} {oc : Ob} {od : Ob} {ot : Ob} (f : Nat → Int32) : (WCR tA q oc od ot).set 1 (q 1, .inl (tA 0, (6, .inl f))) = WCR tA q (sa oc 2 f) od ot := rfl
theorem WCR_at2 {tA : Nat → ClassId} {q : Nat → Nat} {oc : Ob} {od : Ob} {ot : Ob} : (WCR tA q oc od ot)[2]? = some (q 2, .inl (tA 0, (6, .inl (ga oc 3)))) := rfl
theorem WCR_ar2 {tA : Nat → ClassId} {q : Nat → Nat} {oc : Ob} {od : Ob} {ot : Ob} (f : Nat → Int32) : (WCR tA q oc od ot).set 2 (q 2, .inl (tA 0, (6, .inl f))) = WCR tA q (sa oc 3 f) od ot := rfl
theorem WCR_at3 {tA : Nat → ClassId} {q : Nat → Nat} {oc : Ob} {od : Ob} {ot : Ob} : (WCR tA q oc od ot)[3]? = some (q 3, .inl (tA 0, (6, .inl (ga oc 4)))) := rfl
theorem WCR_ar3 {tA : Nat → ClassId} {q : Nat → Nat} {oc : Ob} {od : Ob} {ot : Ob} (f : Nat → Int32) : (WCR tA q oc od ot).set 3 (q 3, .inl (tA 0, (6, .inl f))) = WCR tA q (sa oc 4 f) od ot := rfl
theorem WCR_at4 {tA : Nat → ClassId} {q : Nat → Nat} {oc : Ob} {od : Ob} {ot : Ob} : (WCR tA q oc od ot)[4]? = some (q 4, .inl (tA 0, (12, .inl (ga oc 5)))) := rfl
theorem WCR_ar4 {tA : Nat → ClassId} {q : Nat → Nat} {oc : Ob} {od : Ob} {ot : Ob} (f : Nat → Int32) : (WCR tA q oc od ot).set 4 (q 4, .inl (tA 0, (12, .inl f))) = WCR tA q (sa oc 5 f) od ot := rfl
theorem WCR_at5 {tA : Nat → ClassId} {q : Nat → Nat} {oc : Ob} {od : Ob} {ot : Ob} : (WCR tA q oc od ot)[5]? = some (q 5, .inl (tA 0, (12, .inl (ga oc 6)))) := rfl
theorem WCR_ar5 {tA : Nat → ClassId} {q : Nat → Nat} {oc : Ob} {od : Ob} {ot : Ob} (f : Nat → Int32) : (WCR tA q oc od ot).set 5 (q 5, .inl (tA 0, (12, .inl f))) = WCR tA q (sa oc 6 f) od ot := rfl
theorem WCR_at6 {tA : Nat → ClassId} {q : Nat → Nat} {oc : Ob} {od : Ob} {ot : Ob} : (WCR tA q oc od ot)[6]? = some (q 6, .inl (tA 0, (12, .inl (ga oc 7)))) := rfl
theorem WCR_ar6 {tA : Nat → ClassId} {q : Nat → Nat} {oc : Ob} {od : Ob} {ot : Ob} (f : Nat → Int32) : (WCR tA q oc od ot).set 6 (q 6, .inl (tA 0, (12, .inl f))) = WCR tA q (sa oc 7 f) od ot := rfl
theorem WCR_at7 {tA : Nat → ClassId} {q : Nat → Nat} {oc : Ob} {od : Ob} {ot : Ob} : (WCR tA q oc od ot)[7]? = some (q 7, .inr (5, [.ref (q 8), .int (gi od 1), .int (gi od 2), .int (gi od 3), .int (gi od 4)])) := rfl
theorem WCR_pt7_1 {tA : Nat → ClassId} {q : Nat → Nat} {oc : Ob} {od : Ob} {ot : Ob} (v : Int32) : (WCR tA q oc od ot).set 7 (q 7, .inr (5, List.set [.ref (q 8), .int (gi od 1), .int (gi od 2), .int (gi od 3), .int (gi od 4)] 1 (.int v))) = WCR tA q oc (si od 1 v) ot := rfl
theorem WCR_pt7_2 {tA : Nat → ClassId} {q : Nat → Nat} {oc : Ob} {od : Ob} {ot : Ob} (v : Int32) : (WCR tA q oc od ot).set 7 (q 7, .inr (5, List.set [.ref (q 8), .int (gi od 1), .int (gi od 2), .int (gi od 3), .int (gi od 4)] 2 (.int v))) = WCR tA q oc (si od 2 v) ot := rfl
theorem WCR_pt7_3 {tA : Nat → ClassId} {q : Nat → Nat} {oc : Ob} {od : Ob} {ot : Ob} (v : Int32) : (WCR tA q oc od ot).set 7 (q 7, .inr (5, List.set [.ref (q 8), .int (gi od 1), .int (gi od 2), .int (gi od 3), .int (gi od 4)] 3 (.int v))) = WCR tA q oc (si od 3 v) ot := rfl
theorem WCR_pt7_4 {tA : Nat → ClassId} {q : Nat → Nat} {oc : Ob} {od : Ob} {ot : Ob} (v : Int32) : (WCR tA q oc od ot).set 7 (q 7, .inr (5, List.set [.ref (q 8), .int (gi od 1), .int (gi od 2), .int (gi od 3), .int (gi od 4)] 4 (.int v))) = WCR tA q oc (si od 4 v) ot := rfl
theorem WCR_at8 {tA : Nat → ClassId} {q : Nat → Nat} {oc : Ob} {od : Ob} {ot : Ob} : (WCR tA q oc od ot)[8]? = some (q 8, .inr (7, [.ref (q 9), .int (gi ot 1)])) := rfl
theorem WCR_pt8_1 {tA : Nat → ClassId} {q : Nat → Nat} {oc : Ob} {od : Ob} {ot : Ob} (v : Int32) : (WCR tA q oc od ot).set 8 (q 8, .inr (7, List.set [.ref (q 9), .int (gi ot 1)] 1 (.int v))) = WCR tA q oc od (si ot 1 v) := rfl
theorem WCR_at9 {tA : Nat → ClassId} {q : Nat → Nat} {oc : Ob} {od : Ob} {ot : Ob} : (WCR tA q oc od ot)[9]? = some (q 9, .inl (tA 3, (500, .inl (ga ot 0)))) := rfl
theorem WCR_ar9 {tA : Nat → ClassId} {q : Nat → Nat} {oc : Ob} {od : Ob} {ot : Ob} (f : Nat → Int32) : (WCR tA q oc od ot).set 9 (q 9, .inl (tA 3, (500, .inl f))) = WCR tA q oc od (sa ot 0 f) := rfl
def WL (tA : Nat → ClassId) (q : Nat → Nat) (ow : Ob) : va_W := [(q 0, .inr (4, [.int (gi ow 0), .ref (q 1), .ref (q 2), .ref (q 3), .ref (q 4)])), (q 1, .inl (tA 0, (6, .inl (ga ow 1)))), (q 2, .inl (tA 0, (6, .inl (ga ow 2)))), (q 3, .inl (tA 0, (6, .inl (ga ow 3)))), (q 4, .inl (tA 0, (6, .inl (ga ow 4))))]
theorem WL_at0 {tA : Nat → ClassId} {q : Nat → Nat} {ow : Ob} : (WL tA q ow)[0]? = some (q 0, .inr (4, [.int (gi ow 0), .ref (q 1), .ref (q 2), .ref (q 3), .ref (q 4)])) := rfl
theorem WL_pt0_0 {tA : Nat → ClassId} {q : Nat → Nat} {ow : Ob} (v : Int32) : (WL tA q ow).set 0 (q 0, .inr (4, List.set [.int (gi ow 0), .ref (q 1), .ref (q 2), .ref (q 3), .ref (q 4)] 0 (.int v))) = WL tA q (si ow 0 v) := rfl
theorem WL_at1 {tA : Nat → ClassId} {q : Nat → Nat} {ow : Ob} : (WL tA q ow)[1]? = some (q 1, .inl (tA 0, (6, .inl (ga ow 1)))) := rfl
theorem WL_ar1 {tA : Nat → ClassId} {q : Nat → Nat} {ow : Ob} (f : Nat → Int32) : (WL tA q ow).set 1 (q 1, .inl (tA 0, (6, .inl f))) = WL tA q (sa ow 1 f) := rfl
theorem WL_at2 {tA : Nat → ClassId} {q : Nat → Nat} {ow : Ob} : (WL tA q ow)[2]? = some (q 2, .inl (tA 0, (6, .inl (ga ow 2)))) := rfl
theorem WL_ar2 {tA : Nat → ClassId} {q : Nat → Nat} {ow : Ob} (f : Nat → Int32) : (WL tA q ow).set 2 (q 2, .inl (tA 0, (6, .inl f))) = WL tA q (sa ow 2 f) := rfl
theorem WL_at3 {tA : Nat → ClassId} {q : Nat → Nat} {ow : Ob} : (WL tA q ow)[3]? = some (q 3, .inl (tA 0, (6, .inl (ga ow 3)))) := rfl
theorem WL_ar3 {tA : Nat → ClassId} {q : Nat → Nat} {ow : Ob} (f : Nat → Int32) : (WL tA q ow).set 3 (q 3, .inl (tA 0, (6, .inl f))) = WL tA q (sa ow 3 f) := rfl
theorem WL_at4 {tA : Nat → ClassId} {q : Nat → Nat} {ow : Ob} : (WL tA q ow)[4]? = some (q 4, .inl (tA 0, (6, .inl (ga ow 4)))) := rfl
theorem WL_ar4 {tA : Nat → ClassId} {q : Nat → Nat} {ow : Ob} (f : Nat → Int32) : (WL tA q ow).set 4 (q 4, .inl (tA 0, (6, .inl f))) = WL tA q (sa ow 4 f) := rfl
def WLR (tA : Nat → ClassId) (q : Nat → Nat) (ow : Ob) (od : Ob) (ot : Ob) : va_W := [(q 0, .inr (4, [.int (gi ow 0), .ref (q 1), .ref (q 2), .ref (q 3), .ref (q 4)])), (q 1, .inl (tA 0, (6, .inl (ga ow 1)))), (q 2, .inl (tA 0, (6, .inl (ga ow 2)))), (q 3, .inl (tA 0, (6, .inl (ga ow 3)))), (q 4, .inl (tA 0, (6, .inl (ga ow 4)))), (q 5, .inr (5, [.ref (q 6), .int (gi od 1), .int (gi od 2), .int (gi od 3), .int (gi od 4)])), (q 6, .inr (7, [.ref (q 7), .int (gi ot 1)])), (q 7, .inl (tA 3, (500, .inl (ga ot 0))))]
theorem WLR_at0 {tA : Nat → ClassId} {q : Nat → Nat} {ow : Ob} {od : Ob} {ot : Ob} : (WLR tA q ow od ot)[0]? = some (q 0, .inr (4, [.int (gi ow 0), .ref (q 1), .ref (q 2), .ref (q 3), .ref (q 4)])) := rfl
theorem WLR_pt0_0 {tA : Nat → ClassId} {q : Nat → Nat} {ow : Ob} {od : Ob} {ot : Ob} (v : Int32) : (WLR tA q ow od ot).set 0 (q 0, .inr (4, List.set [.int (gi ow 0), .ref (q 1), .ref (q 2), .ref (q 3), .ref (q 4)] 0 (.int v))) = WLR tA q (si ow 0 v) od ot := rfl
theorem WLR_at1 {tA : Nat → ClassId} {q : Nat → Nat} {ow : Ob} {od : Ob} {ot : Ob} : (WLR tA q ow od ot)[1]? = some (q 1, .inl (tA 0, (6, .inl (ga ow 1)))) := rfl
theorem WLR_ar1 {tA : Nat → ClassId} {q : Nat → Nat} {ow : Ob} {od : Ob} {ot : Ob} (f : Nat → Int32) : (WLR tA q ow od ot).set 1 (q 1, .inl (tA 0, (6, .inl f))) = WLR tA q (sa ow 1 f) od ot := rfl
theorem WLR_at2 {tA : Nat → ClassId} {q : Nat → Nat} {ow : Ob} {od : Ob} {ot : Ob} : (WLR tA q ow od ot)[2]? = some (q 2, .inl (tA 0, (6, .inl (ga ow 2)))) := rfl
theorem WLR_ar2 {tA : Nat → ClassId} {q : Nat → Nat} {ow : Ob} {od : Ob} {ot : Ob} (f : Nat → Int32) : (WLR tA q ow od ot).set 2 (q 2, .inl (tA 0, (6, .inl f))) = WLR tA q (sa ow 2 f) od ot := rfl
theorem WLR_at3 {tA : Nat → ClassId} {q : Nat → Nat} {ow : Ob} {od : Ob} {ot : Ob} : (WLR tA q ow od ot)[3]? = some (q 3, .inl (tA 0, (6, .inl (ga ow 3)))) := rfl
theorem WLR_ar3 {tA : Nat → ClassId} {q : Nat → Nat} {ow : Ob} {od : Ob} {ot : Ob} (f : Nat → Int32) : (WLR tA q ow od ot).set 3 (q 3, .inl (tA 0, (6, .inl f))) = WLR tA q (sa ow 3 f) od ot := rfl
theorem WLR_at4 {tA : Nat → ClassId} {q : Nat → Nat} {ow : Ob} {od : Ob} {ot : Ob} : (WLR tA q ow od ot)[4]? = some (q 4, .inl (tA 0, (6, .inl (ga ow 4)))) := rfl
theorem WLR_ar4 {tA : Nat → ClassId} {q : Nat → Nat} {ow : Ob} {od : Ob} {ot : Ob} (f : Nat → Int32) : (WLR tA q ow od ot).set 4 (q 4, .inl (tA 0, (6, .inl f))) = WLR tA q (sa ow 4 f) od ot := rfl
theorem WLR_at5 {tA : Nat → ClassId} {q : Nat → Nat} {ow : Ob} {od : Ob} {ot : Ob} : (WLR tA q ow od ot)[5]? = some (q 5, .inr (5, [.ref (q 6), .int (gi od 1), .int (gi od 2), .int (gi od 3), .int (gi od 4)])) := rfl
theorem WLR_pt5_1 {tA : Nat → ClassId} {q : Nat → Nat} {ow : Ob} {od : Ob} {ot : Ob} (v : Int32) : (WLR tA q ow od ot).set 5 (q 5, .inr (5, List.set [.ref (q 6), .int (gi od 1), .int (gi od 2), .int (gi od 3), .int (gi od 4)] 1 (.int v))) = WLR tA q ow (si od 1 v) ot := rfl
theorem WLR_pt5_2 {tA : Nat → ClassId} {q : Nat → Nat} {ow : Ob} {od : Ob} {ot : Ob} (v : Int32) : (WLR tA q ow od ot).set 5 (q 5, .inr (5, List.set [.ref (q 6), .int (gi od 1), .int (gi od 2), .int (gi od 3), .int (gi od 4)] 2 (.int v))) = WLR tA q ow (si od 2 v) ot := rfl
theorem WLR_pt5_3 {tA : Nat → ClassId} {q : Nat → Nat} {ow : Ob} {od : Ob} {ot : Ob} (v : Int32) : (WLR tA q ow od ot).set 5 (q 5, .inr (5, List.set [.ref (q 6), .int (gi od 1), .int (gi od 2), .int (gi od 3), .int (gi od 4)] 3 (.int v))) = WLR tA q ow (si od 3 v) ot := rfl
theorem WLR_pt5_4 {tA : Nat → ClassId} {q : Nat → Nat} {ow : Ob} {od : Ob} {ot : Ob} (v : Int32) : (WLR tA q ow od ot).set 5 (q 5, .inr (5, List.set [.ref (q 6), .int (gi od 1), .int (gi od 2), .int (gi od 3), .int (gi od 4)] 4 (.int v))) = WLR tA q ow (si od 4 v) ot := rfl
theorem WLR_at6 {tA : Nat → ClassId} {q : Nat → Nat} {ow : Ob} {od : Ob} {ot : Ob} : (WLR tA q ow od ot)[6]? = some (q 6, .inr (7, [.ref (q 7), .int (gi ot 1)])) := rfl
theorem WLR_pt6_1 {tA : Nat → ClassId} {q : Nat → Nat} {ow : Ob} {od : Ob} {ot : Ob} (v : Int32) : (WLR tA q ow od ot).set 6 (q 6, .inr (7, List.set [.ref (q 7), .int (gi ot 1)] 1 (.int v))) = WLR tA q ow od (si ot 1 v) := rfl
theorem WLR_at7 {tA : Nat → ClassId} {q : Nat → Nat} {ow : Ob} {od : Ob} {ot : Ob} : (WLR tA q ow od ot)[7]? = some (q 7, .inl (tA 3, (500, .inl (ga ot 0)))) := rfl
theorem WLR_ar7 {tA : Nat → ClassId} {q : Nat → Nat} {ow : Ob} {od : Ob} {ot : Ob} (f : Nat → Int32) : (WLR tA q ow od ot).set 7 (q 7, .inl (tA 3, (500, .inl f))) = WLR tA q ow od (sa ot 0 f) := rfl
def WS (tA : Nat → ClassId) (q : Nat → Nat) (os : Ob) : va_W := [(q 0, .inr (6, [.int (gi os 0), .int (gi os 1), .int (gi os 2), .ref (q 1), .ref (q 2), .ref (q 3), .ref (q 4), .ref (q 5), .ref (q 6), .ref (q 7)])), (q 1, .inl (tA 0, (12, .inl (ga os 3)))), (q 2, .inl (tA 0, (12, .inl (ga os 4)))), (q 3, .inl (tA 0, (12, .inl (ga os 5)))), (q 4, .inl (tA 0, (6, .inl (ga os 6)))), (q 5, .inl (tA 0, (6, .inl (ga os 7)))), (q 6, .inl (tA 0, (6, .inl (ga os 8)))), (q 7, .inl (tA 5, (6, .inr (.inr (.inr (.inr (zrow [q 8, q 9, q 10, q 11, q 12, q 13]))))))), (q 8, .inl (tA 0, (400, .inl (ga os 20)))), (q 9, .inl (tA 0, (400, .inl (ga os 21)))), (q 10, .inl (tA 0, (400, .inl (ga os 22)))), (q 11, .inl (tA 0, (400, .inl (ga os 23)))), (q 12, .inl (tA 0, (400, .inl (ga os 24)))), (q 13, .inl (tA 0, (400, .inl (ga os 25))))]
theorem WS_at0 {tA : Nat → ClassId} {q : Nat → Nat} {os : Ob} : (WS tA q os)[0]? = some (q 0, .inr (6, [.int (gi os 0), .int (gi os 1), .int (gi os 2), .ref (q 1), .ref (q 2), .ref (q 3), .ref (q 4), .ref (q 5), .ref (q 6), .ref (q 7)])) := rfl
theorem WS_pt0_0 {tA : Nat → ClassId} {q : Nat → Nat} {os : Ob} (v : Int32) : (WS tA q os).set 0 (q 0, .inr (6, List.set [.int (gi os 0), .int (gi os 1), .int (gi os 2), .ref (q 1), .ref (q 2), .ref (q 3), .ref (q 4), .ref (q 5), .ref (q 6), .ref (q 7)] 0 (.int v))) = WS tA q (si os 0 v) := rfl
theorem WS_pt0_1 {tA : Nat → ClassId} {q : Nat → Nat} {os : Ob} (v : Int32) : (WS tA q os).set 0 (q 0, .inr (6, List.set [.int (gi os 0), .int (gi os 1), .int (gi os 2), .ref (q 1), .ref (q 2), .ref (q 3), .ref (q 4), .ref (q 5), .ref (q 6), .ref (q 7)] 1 (.int v))) = WS tA q (si os 1 v) := rfl
theorem WS_pt0_2 {tA : Nat → ClassId} {q : Nat → Nat} {os : Ob} (v : Int32) : (WS tA q os).set 0 (q 0, .inr (6, List.set [.int (gi os 0), .int (gi os 1), .int (gi os 2), .ref (q 1), .ref (q 2), .ref (q 3), .ref (q 4), .ref (q 5), .ref (q 6), .ref (q 7)] 2 (.int v))) = WS tA q (si os 2 v) := rfl
theorem WS_at1 {tA : Nat → ClassId} {q : Nat → Nat} {os : Ob} : (WS tA q os)[1]? = some (q 1, .inl (tA 0, (12, .inl (ga os 3)))) := rfl
theorem WS_ar1 {tA : Nat → ClassId} {q : Nat → Nat} {os : Ob} (f : Nat → Int32) : (WS tA q os).set 1 (q 1, .inl (tA 0, (12, .inl f))) = WS tA q (sa os 3 f) := rfl
theorem WS_at2 {tA : Nat → ClassId} {q : Nat → Nat} {os : Ob} : (WS tA q os)[2]? = some (q 2, .inl (tA 0, (12, .inl (ga os 4)))) := rfl
theorem WS_ar2 {tA : Nat → ClassId} {q : Nat → Nat} {os : Ob} (f : Nat → Int32) : (WS tA q os).set 2 (q 2, .inl (tA 0, (12, .inl f))) = WS tA q (sa os 4 f) := rfl
theorem WS_at3 {tA : Nat → ClassId} {q : Nat → Nat} {os : Ob} : (WS tA q os)[3]? = some (q 3, .inl (tA 0, (12, .inl (ga os 5)))) := rfl
theorem WS_ar3 {tA : Nat → ClassId} {q : Nat → Nat} {os : Ob} (f : Nat → Int32) : (WS tA q os).set 3 (q 3, .inl (tA 0, (12, .inl f))) = WS tA q (sa os 5 f) := rfl
theorem WS_at4 {tA : Nat → ClassId} {q : Nat → Nat} {os : Ob} : (WS tA q os)[4]? = some (q 4, .inl (tA 0, (6, .inl (ga os 6)))) := rfl
theorem WS_ar4 {tA : Nat → ClassId} {q : Nat → Nat} {os : Ob} (f : Nat → Int32) : (WS tA q os).set 4 (q 4, .inl (tA 0, (6, .inl f))) = WS tA q (sa os 6 f) := rfl
theorem WS_at5 {tA : Nat → ClassId} {q : Nat → Nat} {os : Ob} : (WS tA q os)[5]? = some (q 5, .inl (tA 0, (6, .inl (ga os 7)))) := rfl
theorem WS_ar5 {tA : Nat → ClassId} {q : Nat → Nat} {os : Ob} (f : Nat → Int32) : (WS tA q os).set 5 (q 5, .inl (tA 0, (6, .inl f))) = WS tA q (sa os 7 f) := rfl
theorem WS_at6 {tA : Nat → ClassId} {q : Nat → Nat} {os : Ob} : (WS tA q os)[6]? = some (q 6, .inl (tA 0, (6, .inl (ga os 8)))) := rfl
theorem WS_ar6 {tA : Nat → ClassId} {q : Nat → Nat} {os : Ob} (f : Nat → Int32) : (WS tA q os).set 6 (q 6, .inl (tA 0, (6, .inl f))) = WS tA q (sa os 8 f) := rfl
theorem WS_at7 {tA : Nat → ClassId} {q : Nat → Nat} {os : Ob} : (WS tA q os)[7]? = some (q 7, .inl (tA 5, (6, .inr (.inr (.inr (.inr (zrow [q 8, q 9, q 10, q 11, q 12, q 13]))))))) := rfl
theorem WS_at8 {tA : Nat → ClassId} {q : Nat → Nat} {os : Ob} : (WS tA q os)[8]? = some (q 8, .inl (tA 0, (400, .inl (ga os 20)))) := rfl
theorem WS_ar8 {tA : Nat → ClassId} {q : Nat → Nat} {os : Ob} (f : Nat → Int32) : (WS tA q os).set 8 (q 8, .inl (tA 0, (400, .inl f))) = WS tA q (sa os 20 f) := rfl
theorem WS_at9 {tA : Nat → ClassId} {q : Nat → Nat} {os : Ob} : (WS tA q os)[9]? = some (q 9, .inl (tA 0, (400, .inl (ga os 21)))) := rfl
theorem WS_ar9 {tA : Nat → ClassId} {q : Nat → Nat} {os : Ob} (f : Nat → Int32) : (WS tA q os).set 9 (q 9, .inl (tA 0, (400, .inl f))) = WS tA q (sa os 21 f) := rfl
theorem WS_at10 {tA : Nat → ClassId} {q : Nat → Nat} {os : Ob} : (WS tA q os)[10]? = some (q 10, .inl (tA 0, (400, .inl (ga os 22)))) := rfl
theorem WS_ar10 {tA : Nat → ClassId} {q : Nat → Nat} {os : Ob} (f : Nat → Int32) : (WS tA q os).set 10 (q 10, .inl (tA 0, (400, .inl f))) = WS tA q (sa os 22 f) := rfl
theorem WS_at11 {tA : Nat → ClassId} {q : Nat → Nat} {os : Ob} : (WS tA q os)[11]? = some (q 11, .inl (tA 0, (400, .inl (ga os 23)))) := rfl
theorem WS_ar11 {tA : Nat → ClassId} {q : Nat → Nat} {os : Ob} (f : Nat → Int32) : (WS tA q os).set 11 (q 11, .inl (tA 0, (400, .inl f))) = WS tA q (sa os 23 f) := rfl
theorem WS_at12 {tA : Nat → ClassId} {q : Nat → Nat} {os : Ob} : (WS tA q os)[12]? = some (q 12, .inl (tA 0, (400, .inl (ga os 24)))) := rfl
theorem WS_ar12 {tA : Nat → ClassId} {q : Nat → Nat} {os : Ob} (f : Nat → Int32) : (WS tA q os).set 12 (q 12, .inl (tA 0, (400, .inl f))) = WS tA q (sa os 24 f) := rfl
theorem WS_at13 {tA : Nat → ClassId} {q : Nat → Nat} {os : Ob} : (WS tA q os)[13]? = some (q 13, .inl (tA 0, (400, .inl (ga os 25)))) := rfl
theorem WS_ar13 {tA : Nat → ClassId} {q : Nat → Nat} {os : Ob} (f : Nat → Int32) : (WS tA q os).set 13 (q 13, .inl (tA 0, (400, .inl f))) = WS tA q (sa os 25 f) := rfl
theorem WS_row7 {tA : Nat → ClassId} {q : Nat → Nat} {os : Ob} (i : Int32) (h : vp_in i 6) : (WS tA q os)[8 + i.toNatClampNeg]? = some ([q 8, q 9, q 10, q 11, q 12, q 13].getD i.toNatClampNeg 0, .inl (tA 0, 400, .inl (ga os (20 + i.toNatClampNeg)))) := by
  have h2 : i.toNatClampNeg < 6 := Nat.not_le.mp fun z => h (Or.inr z)
  generalize i.toNatClampNeg = j at h2
  match j, h2 with
  | 0, _ => rfl
  | 1, _ => rfl
  | 2, _ => rfl
  | 3, _ => rfl
  | 4, _ => rfl
  | 5, _ => rfl
theorem WS_set7 {tA : Nat → ClassId} {q : Nat → Nat} {os : Ob} (i : Int32) (h : vp_in i 6) (f : Nat → Int32) : (WS tA q os).set (8 + i.toNatClampNeg) ([q 8, q 9, q 10, q 11, q 12, q 13].getD i.toNatClampNeg 0, .inl (tA 0, 400, .inl f)) = WS tA q (sa os (20 + i.toNatClampNeg) f) := by
  have h2 : i.toNatClampNeg < 6 := Nat.not_le.mp fun z => h (Or.inr z)
  generalize i.toNatClampNeg = j at h2
  match j, h2 with
  | 0, _ => rfl
  | 1, _ => rfl
  | 2, _ => rfl
  | 3, _ => rfl
  | 4, _ => rfl
  | 5, _ => rfl
def WSS (tA : Nat → ClassId) (q : Nat → Nat) (os : Ob) (ou : Ob) : va_W := [(q 0, .inr (6, [.int (gi os 0), .int (gi os 1), .int (gi os 2), .ref (q 1), .ref (q 2), .ref (q 3), .ref (q 4), .ref (q 5), .ref (q 6), .ref (q 7)])), (q 1, .inl (tA 0, (12, .inl (ga os 3)))), (q 2, .inl (tA 0, (12, .inl (ga os 4)))), (q 3, .inl (tA 0, (12, .inl (ga os 5)))), (q 4, .inl (tA 0, (6, .inl (ga os 6)))), (q 5, .inl (tA 0, (6, .inl (ga os 7)))), (q 6, .inl (tA 0, (6, .inl (ga os 8)))), (q 7, .inl (tA 5, (6, .inr (.inr (.inr (.inr (zrow [q 8, q 9, q 10, q 11, q 12, q 13]))))))), (q 8, .inl (tA 0, (400, .inl (ga os 20)))), (q 9, .inl (tA 0, (400, .inl (ga os 21)))), (q 10, .inl (tA 0, (400, .inl (ga os 22)))), (q 11, .inl (tA 0, (400, .inl (ga os 23)))), (q 12, .inl (tA 0, (400, .inl (ga os 24)))), (q 13, .inl (tA 0, (400, .inl (ga os 25)))), (q 14, .inr (6, [.int (gi ou 0), .int (gi ou 1), .int (gi ou 2), .ref (q 15), .ref (q 16), .ref (q 17), .ref (q 18), .ref (q 19), .ref (q 20), .ref (q 21)])), (q 15, .inl (tA 0, (12, .inl (ga ou 3)))), (q 16, .inl (tA 0, (12, .inl (ga ou 4)))), (q 17, .inl (tA 0, (12, .inl (ga ou 5)))), (q 18, .inl (tA 0, (6, .inl (ga ou 6)))), (q 19, .inl (tA 0, (6, .inl (ga ou 7)))), (q 20, .inl (tA 0, (6, .inl (ga ou 8)))), (q 21, .inl (tA 5, (6, .inr (.inr (.inr (.inr (zrow [q 22, q 23, q 24, q 25, q 26, q 27]))))))), (q 22, .inl (tA 0, (400, .inl (ga ou 20)))), (q 23, .inl (tA 0, (400, .inl (ga ou 21)))), (q 24, .inl (tA 0, (400, .inl (ga ou 22)))), (q 25, .inl (tA 0, (400, .inl (ga ou 23)))), (q 26, .inl (tA 0, (400, .inl (ga ou 24)))), (q 27, .inl (tA 0, (400, .inl (ga ou 25))))]
theorem WSS_at0 {tA : Nat → ClassId} {q : Nat → Nat} {os : Ob} {ou : Ob} : (WSS tA q os ou)[0]? = some (q 0, .inr (6, [.int (gi os 0), .int (gi os 1), .int (gi os 2), .ref (q 1), .ref (q 2), .ref (q 3), .ref (q 4), .ref (q 5), .ref (q 6), .ref (q 7)])) := rfl
theorem WSS_pt0_0 {tA : Nat → ClassId} {q : Nat → Nat} {os : Ob} {ou : Ob} (v : Int32) : (WSS tA q os ou).set 0 (q 0, .inr (6, List.set [.int (gi os 0), .int (gi os 1), .int (gi os 2), .ref (q 1), .ref (q 2), .ref (q 3), .ref (q 4), .ref (q 5), .ref (q 6), .ref (q 7)] 0 (.int v))) = WSS tA q (si os 0 v) ou := rfl
theorem WSS_pt0_1 {tA : Nat → ClassId} {q : Nat → Nat} {os : Ob} {ou : Ob} (v : Int32) : (WSS tA q os ou).set 0 (q 0, .inr (6, List.set [.int (gi os 0), .int (gi os 1), .int (gi os 2), .ref (q 1), .ref (q 2), .ref (q 3), .ref (q 4), .ref (q 5), .ref (q 6), .ref (q 7)] 1 (.int v))) = WSS tA q (si os 1 v) ou := rfl
theorem WSS_pt0_2 {tA : Nat → ClassId} {q : Nat → Nat} {os : Ob} {ou : Ob} (v : Int32) : (WSS tA q os ou).set 0 (q 0, .inr (6, List.set [.int (gi os 0), .int (gi os 1), .int (gi os 2), .ref (q 1), .ref (q 2), .ref (q 3), .ref (q 4), .ref (q 5), .ref (q 6), .ref (q 7)] 2 (.int v))) = WSS tA q (si os 2 v) ou := rfl
theorem WSS_at1 {tA : Nat → ClassId} {q : Nat → Nat} {os : Ob} {ou : Ob} : (WSS tA q os ou)[1]? = some (q 1, .inl (tA 0, (12, .inl (ga os 3)))) := rfl
theorem WSS_ar1 {tA : Nat → ClassId} {q : Nat → Nat} {os : Ob} {ou : Ob} (f : Nat → Int32) : (WSS tA q os ou).set 1 (q 1, .inl (tA 0, (12, .inl f))) = WSS tA q (sa os 3 f) ou := rfl
theorem WSS_at2 {tA : Nat → ClassId} {q : Nat → Nat} {os : Ob} {ou : Ob} : (WSS tA q os ou)[2]? = some (q 2, .inl (tA 0, (12, .inl (ga os 4)))) := rfl
theorem WSS_ar2 {tA : Nat → ClassId} {q : Nat → Nat} {os : Ob} {ou : Ob} (f : Nat → Int32) : (WSS tA q os ou).set 2 (q 2, .inl (tA 0, (12, .inl f))) = WSS tA q (sa os 4 f) ou := rfl
theorem WSS_at3 {tA : Nat → ClassId} {q : Nat → Nat} {os : Ob} {ou : Ob} : (WSS tA q os ou)[3]? = some (q 3, .inl (tA 0, (12, .inl (ga os 5)))) := rfl
theorem WSS_ar3 {tA : Nat → ClassId} {q : Nat → Nat} {os : Ob} {ou : Ob} (f : Nat → Int32) : (WSS tA q os ou).set 3 (q 3, .inl (tA 0, (12, .inl f))) = WSS tA q (sa os 5 f) ou := rfl
theorem WSS_at4 {tA : Nat → ClassId} {q : Nat → Nat} {os : Ob} {ou : Ob} : (WSS tA q os ou)[4]? = some (q 4, .inl (tA 0, (6, .inl (ga os 6)))) := rfl
theorem WSS_ar4 {tA : Nat → ClassId} {q : Nat → Nat} {os : Ob} {ou : Ob} (f : Nat → Int32) : (WSS tA q os ou).set 4 (q 4, .inl (tA 0, (6, .inl f))) = WSS tA q (sa os 6 f) ou := rfl
theorem WSS_at5 {tA : Nat → ClassId} {q : Nat → Nat} {os : Ob} {ou : Ob} : (WSS tA q os ou)[5]? = some (q 5, .inl (tA 0, (6, .inl (ga os 7)))) := rfl
theorem WSS_ar5 {tA : Nat → ClassId} {q : Nat → Nat} {os : Ob} {ou : Ob} (f : Nat → Int32) : (WSS tA q os ou).set 5 (q 5, .inl (tA 0, (6, .inl f))) = WSS tA q (sa os 7 f) ou := rfl
theorem WSS_at6 {tA : Nat → ClassId} {q : Nat → Nat} {os : Ob} {ou : Ob} : (WSS tA q os ou)[6]? = some (q 6, .inl (tA 0, (6, .inl (ga os 8)))) := rfl
theorem WSS_ar6 {tA : Nat → ClassId} {q : Nat → Nat} {os : Ob} {ou : Ob} (f : Nat → Int32) : (WSS tA q os ou).set 6 (q 6, .inl (tA 0, (6, .inl f))) = WSS tA q (sa os 8 f) ou := rfl
theorem WSS_at7 {tA : Nat → ClassId} {q : Nat → Nat} {os : Ob} {ou : Ob} : (WSS tA q os ou)[7]? = some (q 7, .inl (tA 5, (6, .inr (.inr (.inr (.inr (zrow [q 8, q 9, q 10, q 11, q 12, q 13]))))))) := rfl
theorem WSS_at8 {tA : Nat → ClassId} {q : Nat → Nat} {os : Ob} {ou : Ob} : (WSS tA q os ou)[8]? = some (q 8, .inl (tA 0, (400, .inl (ga os 20)))) := rfl
theorem WSS_ar8 {tA : Nat → ClassId} {q : Nat → Nat} {os : Ob} {ou : Ob} (f : Nat → Int32) : (WSS tA q os ou).set 8 (q 8, .inl (tA 0, (400, .inl f))) = WSS tA q (sa os 20 f) ou := rfl
theorem WSS_at9 {tA : Nat → ClassId} {q : Nat → Nat} {os : Ob} {ou : Ob} : (WSS tA q os ou)[9]? = some (q 9, .inl (tA 0, (400, .inl (ga os 21)))) := rfl
theorem WSS_ar9 {tA : Nat → ClassId} {q : Nat → Nat} {os : Ob} {ou : Ob} (f : Nat → Int32) : (WSS tA q os ou).set 9 (q 9, .inl (tA 0, (400, .inl f))) = WSS tA q (sa os 21 f) ou := rfl
theorem WSS_at10 {tA : Nat → ClassId} {q : Nat → Nat} {os : Ob} {ou : Ob} : (WSS tA q os ou)[10]? = some (q 10, .inl (tA 0, (400, .inl (ga os 22)))) := rfl
theorem WSS_ar10 {tA : Nat → ClassId} {q : Nat → Nat} {os : Ob} {ou : Ob} (f : Nat → Int32) : (WSS tA q os ou).set 10 (q 10, .inl (tA 0, (400, .inl f))) = WSS tA q (sa os 22 f) ou := rfl
theorem WSS_at11 {tA : Nat → ClassId} {q : Nat → Nat} {os : Ob} {ou : Ob} : (WSS tA q os ou)[11]? = some (q 11, .inl (tA 0, (400, .inl (ga os 23)))) := rfl
theorem WSS_ar11 {tA : Nat → ClassId} {q : Nat → Nat} {os : Ob} {ou : Ob} (f : Nat → Int32) : (WSS tA q os ou).set 11 (q 11, .inl (tA 0, (400, .inl f))) = WSS tA q (sa os 23 f) ou := rfl
theorem WSS_at12 {tA : Nat → ClassId} {q : Nat → Nat} {os : Ob} {ou : Ob} : (WSS tA q os ou)[12]? = some (q 12, .inl (tA 0, (400, .inl (ga os 24)))) := rfl
theorem WSS_ar12 {tA : Nat → ClassId} {q : Nat → Nat} {os : Ob} {ou : Ob} (f : Nat → Int32) : (WSS tA q os ou).set 12 (q 12, .inl (tA 0, (400, .inl f))) = WSS tA q (sa os 24 f) ou := rfl
theorem WSS_at13 {tA : Nat → ClassId} {q : Nat → Nat} {os : Ob} {ou : Ob} : (WSS tA q os ou)[13]? = some (q 13, .inl (tA 0, (400, .inl (ga os 25)))) := rfl
theorem WSS_ar13 {tA : Nat → ClassId} {q : Nat → Nat} {os : Ob} {ou : Ob} (f : Nat → Int32) : (WSS tA q os ou).set 13 (q 13, .inl (tA 0, (400, .inl f))) = WSS tA q (sa os 25 f) ou := rfl
theorem WSS_at14 {tA : Nat → ClassId} {q : Nat → Nat} {os : Ob} {ou : Ob} : (WSS tA q os ou)[14]? = some (q 14, .inr (6, [.int (gi ou 0), .int (gi ou 1), .int (gi ou 2), .ref (q 15), .ref (q 16), .ref (q 17), .ref (q 18), .ref (q 19), .ref (q 20), .ref (q 21)])) := rfl
theorem WSS_pt14_0 {tA : Nat → ClassId} {q : Nat → Nat} {os : Ob} {ou : Ob} (v : Int32) : (WSS tA q os ou).set 14 (q 14, .inr (6, List.set [.int (gi ou 0), .int (gi ou 1), .int (gi ou 2), .ref (q 15), .ref (q 16), .ref (q 17), .ref (q 18), .ref (q 19), .ref (q 20), .ref (q 21)] 0 (.int v))) = WSS tA q os (si ou 0 v) := rfl
theorem WSS_pt14_1 {tA : Nat → ClassId} {q : Nat → Nat} {os : Ob} {ou : Ob} (v : Int32) : (WSS tA q os ou).set 14 (q 14, .inr (6, List.set [.int (gi ou 0), .int (gi ou 1), .int (gi ou 2), .ref (q 15), .ref (q 16), .ref (q 17), .ref (q 18), .ref (q 19), .ref (q 20), .ref (q 21)] 1 (.int v))) = WSS tA q os (si ou 1 v) := rfl
theorem WSS_pt14_2 {tA : Nat → ClassId} {q : Nat → Nat} {os : Ob} {ou : Ob} (v : Int32) : (WSS tA q os ou).set 14 (q 14, .inr (6, List.set [.int (gi ou 0), .int (gi ou 1), .int (gi ou 2), .ref (q 15), .ref (q 16), .ref (q 17), .ref (q 18), .ref (q 19), .ref (q 20), .ref (q 21)] 2 (.int v))) = WSS tA q os (si ou 2 v) := rfl
theorem WSS_at15 {tA : Nat → ClassId} {q : Nat → Nat} {os : Ob} {ou : Ob} : (WSS tA q os ou)[15]? = some (q 15, .inl (tA 0, (12, .inl (ga ou 3)))) := rfl
theorem WSS_ar15 {tA : Nat → ClassId} {q : Nat → Nat} {os : Ob} {ou : Ob} (f : Nat → Int32) : (WSS tA q os ou).set 15 (q 15, .inl (tA 0, (12, .inl f))) = WSS tA q os (sa ou 3 f) := rfl
theorem WSS_at16 {tA : Nat → ClassId} {q : Nat → Nat} {os : Ob} {ou : Ob} : (WSS tA q os ou)[16]? = some (q 16, .inl (tA 0, (12, .inl (ga ou 4)))) := rfl
theorem WSS_ar16 {tA : Nat → ClassId} {q : Nat → Nat} {os : Ob} {ou : Ob} (f : Nat → Int32) : (WSS tA q os ou).set 16 (q 16, .inl (tA 0, (12, .inl f))) = WSS tA q os (sa ou 4 f) := rfl
theorem WSS_at17 {tA : Nat → ClassId} {q : Nat → Nat} {os : Ob} {ou : Ob} : (WSS tA q os ou)[17]? = some (q 17, .inl (tA 0, (12, .inl (ga ou 5)))) := rfl
theorem WSS_ar17 {tA : Nat → ClassId} {q : Nat → Nat} {os : Ob} {ou : Ob} (f : Nat → Int32) : (WSS tA q os ou).set 17 (q 17, .inl (tA 0, (12, .inl f))) = WSS tA q os (sa ou 5 f) := rfl
theorem WSS_at18 {tA : Nat → ClassId} {q : Nat → Nat} {os : Ob} {ou : Ob} : (WSS tA q os ou)[18]? = some (q 18, .inl (tA 0, (6, .inl (ga ou 6)))) := rfl
theorem WSS_ar18 {tA : Nat → ClassId} {q : Nat → Nat} {os : Ob} {ou : Ob} (f : Nat → Int32) : (WSS tA q os ou).set 18 (q 18, .inl (tA 0, (6, .inl f))) = WSS tA q os (sa ou 6 f) := rfl
theorem WSS_at19 {tA : Nat → ClassId} {q : Nat → Nat} {os : Ob} {ou : Ob} : (WSS tA q os ou)[19]? = some (q 19, .inl (tA 0, (6, .inl (ga ou 7)))) := rfl
theorem WSS_ar19 {tA : Nat → ClassId} {q : Nat → Nat} {os : Ob} {ou : Ob} (f : Nat → Int32) : (WSS tA q os ou).set 19 (q 19, .inl (tA 0, (6, .inl f))) = WSS tA q os (sa ou 7 f) := rfl
theorem WSS_at20 {tA : Nat → ClassId} {q : Nat → Nat} {os : Ob} {ou : Ob} : (WSS tA q os ou)[20]? = some (q 20, .inl (tA 0, (6, .inl (ga ou 8)))) := rfl
theorem WSS_ar20 {tA : Nat → ClassId} {q : Nat → Nat} {os : Ob} {ou : Ob} (f : Nat → Int32) : (WSS tA q os ou).set 20 (q 20, .inl (tA 0, (6, .inl f))) = WSS tA q os (sa ou 8 f) := rfl
theorem WSS_at21 {tA : Nat → ClassId} {q : Nat → Nat} {os : Ob} {ou : Ob} : (WSS tA q os ou)[21]? = some (q 21, .inl (tA 5, (6, .inr (.inr (.inr (.inr (zrow [q 22, q 23, q 24, q 25, q 26, q 27]))))))) := rfl
theorem WSS_at22 {tA : Nat → ClassId} {q : Nat → Nat} {os : Ob} {ou : Ob} : (WSS tA q os ou)[22]? = some (q 22, .inl (tA 0, (400, .inl (ga ou 20)))) := rfl
theorem WSS_ar22 {tA : Nat → ClassId} {q : Nat → Nat} {os : Ob} {ou : Ob} (f : Nat → Int32) : (WSS tA q os ou).set 22 (q 22, .inl (tA 0, (400, .inl f))) = WSS tA q os (sa ou 20 f) := rfl
theorem WSS_at23 {tA : Nat → ClassId} {q : Nat → Nat} {os : Ob} {ou : Ob} : (WSS tA q os ou)[23]? = some (q 23, .inl (tA 0, (400, .inl (ga ou 21)))) := rfl
theorem WSS_ar23 {tA : Nat → ClassId} {q : Nat → Nat} {os : Ob} {ou : Ob} (f : Nat → Int32) : (WSS tA q os ou).set 23 (q 23, .inl (tA 0, (400, .inl f))) = WSS tA q os (sa ou 21 f) := rfl
theorem WSS_at24 {tA : Nat → ClassId} {q : Nat → Nat} {os : Ob} {ou : Ob} : (WSS tA q os ou)[24]? = some (q 24, .inl (tA 0, (400, .inl (ga ou 22)))) := rfl
theorem WSS_ar24 {tA : Nat → ClassId} {q : Nat → Nat} {os : Ob} {ou : Ob} (f : Nat → Int32) : (WSS tA q os ou).set 24 (q 24, .inl (tA 0, (400, .inl f))) = WSS tA q os (sa ou 22 f) := rfl
theorem WSS_at25 {tA : Nat → ClassId} {q : Nat → Nat} {os : Ob} {ou : Ob} : (WSS tA q os ou)[25]? = some (q 25, .inl (tA 0, (400, .inl (ga ou 23)))) := rfl
theorem WSS_ar25 {tA : Nat → ClassId} {q : Nat → Nat} {os : Ob} {ou : Ob} (f : Nat → Int32) : (WSS tA q os ou).set 25 (q 25, .inl (tA 0, (400, .inl f))) = WSS tA q os (sa ou 23 f) := rfl
theorem WSS_at26 {tA : Nat → ClassId} {q : Nat → Nat} {os : Ob} {ou : Ob} : (WSS tA q os ou)[26]? = some (q 26, .inl (tA 0, (400, .inl (ga ou 24)))) := rfl
theorem WSS_ar26 {tA : Nat → ClassId} {q : Nat → Nat} {os : Ob} {ou : Ob} (f : Nat → Int32) : (WSS tA q os ou).set 26 (q 26, .inl (tA 0, (400, .inl f))) = WSS tA q os (sa ou 24 f) := rfl
theorem WSS_at27 {tA : Nat → ClassId} {q : Nat → Nat} {os : Ob} {ou : Ob} : (WSS tA q os ou)[27]? = some (q 27, .inl (tA 0, (400, .inl (ga ou 25)))) := rfl
theorem WSS_ar27 {tA : Nat → ClassId} {q : Nat → Nat} {os : Ob} {ou : Ob} (f : Nat → Int32) : (WSS tA q os ou).set 27 (q 27, .inl (tA 0, (400, .inl f))) = WSS tA q os (sa ou 25 f) := rfl
theorem WSS_row7 {tA : Nat → ClassId} {q : Nat → Nat} {os : Ob} {ou : Ob} (i : Int32) (h : vp_in i 6) : (WSS tA q os ou)[8 + i.toNatClampNeg]? = some ([q 8, q 9, q 10, q 11, q 12, q 13].getD i.toNatClampNeg 0, .inl (tA 0, 400, .inl (ga os (20 + i.toNatClampNeg)))) := by
  have h2 : i.toNatClampNeg < 6 := Nat.not_le.mp fun z => h (Or.inr z)
  generalize i.toNatClampNeg = j at h2
  match j, h2 with
  | 0, _ => rfl
  | 1, _ => rfl
  | 2, _ => rfl
  | 3, _ => rfl
  | 4, _ => rfl
  | 5, _ => rfl
theorem WSS_set7 {tA : Nat → ClassId} {q : Nat → Nat} {os : Ob} {ou : Ob} (i : Int32) (h : vp_in i 6) (f : Nat → Int32) : (WSS tA q os ou).set (8 + i.toNatClampNeg) ([q 8, q 9, q 10, q 11, q 12, q 13].getD i.toNatClampNeg 0, .inl (tA 0, 400, .inl f)) = WSS tA q (sa os (20 + i.toNatClampNeg) f) ou := by
  have h2 : i.toNatClampNeg < 6 := Nat.not_le.mp fun z => h (Or.inr z)
  generalize i.toNatClampNeg = j at h2
  match j, h2 with
  | 0, _ => rfl
  | 1, _ => rfl
  | 2, _ => rfl
  | 3, _ => rfl
  | 4, _ => rfl
  | 5, _ => rfl
theorem WSS_row21 {tA : Nat → ClassId} {q : Nat → Nat} {os : Ob} {ou : Ob} (i : Int32) (h : vp_in i 6) : (WSS tA q os ou)[22 + i.toNatClampNeg]? = some ([q 22, q 23, q 24, q 25, q 26, q 27].getD i.toNatClampNeg 0, .inl (tA 0, 400, .inl (ga ou (20 + i.toNatClampNeg)))) := by
  have h2 : i.toNatClampNeg < 6 := Nat.not_le.mp fun z => h (Or.inr z)
  generalize i.toNatClampNeg = j at h2
  match j, h2 with
  | 0, _ => rfl
  | 1, _ => rfl
  | 2, _ => rfl
  | 3, _ => rfl
  | 4, _ => rfl
  | 5, _ => rfl
theorem WSS_set21 {tA : Nat → ClassId} {q : Nat → Nat} {os : Ob} {ou : Ob} (i : Int32) (h : vp_in i 6) (f : Nat → Int32) : (WSS tA q os ou).set (22 + i.toNatClampNeg) ([q 22, q 23, q 24, q 25, q 26, q 27].getD i.toNatClampNeg 0, .inl (tA 0, 400, .inl f)) = WSS tA q os (sa ou (20 + i.toNatClampNeg) f) := by
  have h2 : i.toNatClampNeg < 6 := Nat.not_le.mp fun z => h (Or.inr z)
  generalize i.toNatClampNeg = j at h2
  match j, h2 with
  | 0, _ => rfl
  | 1, _ => rfl
  | 2, _ => rfl
  | 3, _ => rfl
  | 4, _ => rfl
  | 5, _ => rfl
def WTr (tA : Nat → ClassId) (q : Nat → Nat) (oc : Ob) (ow : Ob) (os : Ob) : va_W := [(q 0, .inr (9, [.ref (q 1), .ref (q 8), .ref (q 13)])), (q 1, .inr (2, [.int (gi oc 0), .int (gi oc 1), .ref (q 2), .ref (q 3), .ref (q 4), .ref (q 5), .ref (q 6), .ref (q 7)])), (q 2, .inl (tA 0, (6, .inl (ga oc 2)))), (q 3, .inl (tA 0, (6, .inl (ga oc 3)))), (q 4, .inl (tA 0, (6, .inl (ga oc 4)))), (q 5, .inl (tA 0, (12, .inl (ga oc 5)))), (q 6, .inl (tA 0, (12, .inl (ga oc 6)))), (q 7, .inl (tA 0, (12, .inl (ga oc 7)))), (q 8, .inr (4, [.int (gi ow 0), .ref (q 9), .ref (q 10), .ref (q 11), .ref (q 12)])), (q 9, .inl (tA 0, (6, .inl (ga ow 1)))), (q 10, .inl (tA 0, (6, .inl (ga ow 2)))), (q 11, .inl (tA 0, (6, .inl (ga ow 3)))), (q 12, .inl (tA 0, (6, .inl (ga ow 4)))), (q 13, .inr (6, [.int (gi os 0), .int (gi os 1), .int (gi os 2), .ref (q 14), .ref (q 15), .ref (q 16), .ref (q 17), .ref (q 18), .ref (q 19), .ref (q 20)])), (q 14, .inl (tA 0, (12, .inl (ga os 3)))), (q 15, .inl (tA 0, (12, .inl (ga os 4)))), (q 16, .inl (tA 0, (12, .inl (ga os 5)))), (q 17, .inl (tA 0, (6, .inl (ga os 6)))), (q 18, .inl (tA 0, (6, .inl (ga os 7)))), (q 19, .inl (tA 0, (6, .inl (ga os 8)))), (q 20, .inl (tA 5, (6, .inr (.inr (.inr (.inr (zrow [q 21, q 22, q 23, q 24, q 25, q 26]))))))), (q 21, .inl (tA 0, (400, .inl (ga os 20)))), (q 22, .inl (tA 0, (400, .inl (ga os 21)))), (q 23, .inl (tA 0, (400, .inl (ga os 22)))), (q 24, .inl (tA 0, (400, .inl (ga os 23)))), (q 25, .inl (tA 0, (400, .inl (ga os 24)))), (q 26, .inl (tA 0, (400, .inl (ga os 25))))]
theorem WTr_at0 {tA : Nat → ClassId} {q : Nat → Nat} {oc : Ob} {ow : Ob} {os : Ob} : (WTr tA q oc ow os)[0]? = some (q 0, .inr (9, [.ref (q 1), .ref (q 8), .ref (q 13)])) := rfl
theorem WTr_at1 {tA : Nat → ClassId} {q : Nat → Nat} {oc : Ob} {ow : Ob} {os : Ob} : (WTr tA q oc ow os)[1]? = some (q 1, .inr (2, [.int (gi oc 0), .int (gi oc 1), .ref (q 2), .ref (q 3), .ref (q 4), .ref (q 5), .ref (q 6), .ref (q 7)])) := rfl
theorem WTr_pt1_0 {tA : Nat → ClassId} {q : Nat → Nat} {oc : Ob} {ow : Ob} {os : Ob} (v : Int32) : (WTr tA q oc ow os).set 1 (q 1, .inr (2, List.set [.int (gi oc 0), .int (gi oc 1), .ref (q 2), .ref (q 3), .ref (q 4), .ref (q 5), .ref (q 6), .ref (q 7)] 0 (.int v))) = WTr tA q (si oc 0 v) ow os := rfl
theorem WTr_pt1_1 {tA : Nat → ClassId} {q : Nat → Nat} {oc : Ob} {ow : Ob} {os : Ob} (v : Int32) : (WTr tA q oc ow os).set 1 (q 1, .inr (2, List.set [.int (gi oc 0), .int (gi oc 1), .ref (q 2), .ref (q 3), .ref (q 4), .ref (q 5), .ref (q 6), .ref (q 7)] 1 (.int v))) = WTr tA q (si oc 1 v) ow os := rfl
theorem WTr_at2 {tA : Nat → ClassId} {q : Nat → Nat} {oc : Ob} {ow : Ob} {os : Ob} : (WTr tA q oc ow os)[2]? = some (q 2, .inl (tA 0, (6, .inl (ga oc 2)))) := rfl
theorem WTr_ar2 {tA : Nat → ClassId} {q : Nat → Nat} {oc : Ob} {ow : Ob} {os : Ob} (f : Nat → Int32) : (WTr tA q oc ow os).set 2 (q 2, .inl (tA 0, (6, .inl f))) = WTr tA q (sa oc 2 f) ow os := rfl
theorem WTr_at3 {tA : Nat → ClassId} {q : Nat → Nat} {oc : Ob} {ow : Ob} {os : Ob} : (WTr tA q oc ow os)[3]? = some (q 3, .inl (tA 0, (6, .inl (ga oc 3)))) := rfl
theorem WTr_ar3 {tA : Nat → ClassId} {q : Nat → Nat} {oc : Ob} {ow : Ob} {os : Ob} (f : Nat → Int32) : (WTr tA q oc ow os).set 3 (q 3, .inl (tA 0, (6, .inl f))) = WTr tA q (sa oc 3 f) ow os := rfl
theorem WTr_at4 {tA : Nat → ClassId} {q : Nat → Nat} {oc : Ob} {ow : Ob} {os : Ob} : (WTr tA q oc ow os)[4]? = some (q 4, .inl (tA 0, (6, .inl (ga oc 4)))) := rfl
theorem WTr_ar4 {tA : Nat → ClassId} {q : Nat → Nat} {oc : Ob} {ow : Ob} {os : Ob} (f : Nat → Int32) : (WTr tA q oc ow os).set 4 (q 4, .inl (tA 0, (6, .inl f))) = WTr tA q (sa oc 4 f) ow os := rfl
theorem WTr_at5 {tA : Nat → ClassId} {q : Nat → Nat} {oc : Ob} {ow : Ob} {os : Ob} : (WTr tA q oc ow os)[5]? = some (q 5, .inl (tA 0, (12, .inl (ga oc 5)))) := rfl
theorem WTr_ar5 {tA : Nat → ClassId} {q : Nat → Nat} {oc : Ob} {ow : Ob} {os : Ob} (f : Nat → Int32) : (WTr tA q oc ow os).set 5 (q 5, .inl (tA 0, (12, .inl f))) = WTr tA q (sa oc 5 f) ow os := rfl
theorem WTr_at6 {tA : Nat → ClassId} {q : Nat → Nat} {oc : Ob} {ow : Ob} {os : Ob} : (WTr tA q oc ow os)[6]? = some (q 6, .inl (tA 0, (12, .inl (ga oc 6)))) := rfl
theorem WTr_ar6 {tA : Nat → ClassId} {q : Nat → Nat} {oc : Ob} {ow : Ob} {os : Ob} (f : Nat → Int32) : (WTr tA q oc ow os).set 6 (q 6, .inl (tA 0, (12, .inl f))) = WTr tA q (sa oc 6 f) ow os := rfl
theorem WTr_at7 {tA : Nat → ClassId} {q : Nat → Nat} {oc : Ob} {ow : Ob} {os : Ob} : (WTr tA q oc ow os)[7]? = some (q 7, .inl (tA 0, (12, .inl (ga oc 7)))) := rfl
theorem WTr_ar7 {tA : Nat → ClassId} {q : Nat → Nat} {oc : Ob} {ow : Ob} {os : Ob} (f : Nat → Int32) : (WTr tA q oc ow os).set 7 (q 7, .inl (tA 0, (12, .inl f))) = WTr tA q (sa oc 7 f) ow os := rfl
theorem WTr_at8 {tA : Nat → ClassId} {q : Nat → Nat} {oc : Ob} {ow : Ob} {os : Ob} : (WTr tA q oc ow os)[8]? = some (q 8, .inr (4, [.int (gi ow 0), .ref (q 9), .ref (q 10), .ref (q 11), .ref (q 12)])) := rfl
theorem WTr_pt8_0 {tA : Nat → ClassId} {q : Nat → Nat} {oc : Ob} {ow : Ob} {os : Ob} (v : Int32) : (WTr tA q oc ow os).set 8 (q 8, .inr (4, List.set [.int (gi ow 0), .ref (q 9), .ref (q 10), .ref (q 11), .ref (q 12)] 0 (.int v))) = WTr tA q oc (si ow 0 v) os := rfl
theorem WTr_at9 {tA : Nat → ClassId} {q : Nat → Nat} {oc : Ob} {ow : Ob} {os : Ob} : (WTr tA q oc ow os)[9]? = some (q 9, .inl (tA 0, (6, .inl (ga ow 1)))) := rfl
theorem WTr_ar9 {tA : Nat → ClassId} {q : Nat → Nat} {oc : Ob} {ow : Ob} {os : Ob} (f : Nat → Int32) : (WTr tA q oc ow os).set 9 (q 9, .inl (tA 0, (6, .inl f))) = WTr tA q oc (sa ow 1 f) os := rfl
theorem WTr_at10 {tA : Nat → ClassId} {q : Nat → Nat} {oc : Ob} {ow : Ob} {os : Ob} : (WTr tA q oc ow os)[10]? = some (q 10, .inl (tA 0, (6, .inl (ga ow 2)))) := rfl
theorem WTr_ar10 {tA : Nat → ClassId} {q : Nat → Nat} {oc : Ob} {ow : Ob} {os : Ob} (f : Nat → Int32) : (WTr tA q oc ow os).set 10 (q 10, .inl (tA 0, (6, .inl f))) = WTr tA q oc (sa ow 2 f) os := rfl
theorem WTr_at11 {tA : Nat → ClassId} {q : Nat → Nat} {oc : Ob} {ow : Ob} {os : Ob} : (WTr tA q oc ow os)[11]? = some (q 11, .inl (tA 0, (6, .inl (ga ow 3)))) := rfl
theorem WTr_ar11 {tA : Nat → ClassId} {q : Nat → Nat} {oc : Ob} {ow : Ob} {os : Ob} (f : Nat → Int32) : (WTr tA q oc ow os).set 11 (q 11, .inl (tA 0, (6, .inl f))) = WTr tA q oc (sa ow 3 f) os := rfl
theorem WTr_at12 {tA : Nat → ClassId} {q : Nat → Nat} {oc : Ob} {ow : Ob} {os : Ob} : (WTr tA q oc ow os)[12]? = some (q 12, .inl (tA 0, (6, .inl (ga ow 4)))) := rfl
theorem WTr_ar12 {tA : Nat → ClassId} {q : Nat → Nat} {oc : Ob} {ow : Ob} {os : Ob} (f : Nat → Int32) : (WTr tA q oc ow os).set 12 (q 12, .inl (tA 0, (6, .inl f))) = WTr tA q oc (sa ow 4 f) os := rfl
theorem WTr_at13 {tA : Nat → ClassId} {q : Nat → Nat} {oc : Ob} {ow : Ob} {os : Ob} : (WTr tA q oc ow os)[13]? = some (q 13, .inr (6, [.int (gi os 0), .int (gi os 1), .int (gi os 2), .ref (q 14), .ref (q 15), .ref (q 16), .ref (q 17), .ref (q 18), .ref (q 19), .ref (q 20)])) := rfl
theorem WTr_pt13_0 {tA : Nat → ClassId} {q : Nat → Nat} {oc : Ob} {ow : Ob} {os : Ob} (v : Int32) : (WTr tA q oc ow os).set 13 (q 13, .inr (6, List.set [.int (gi os 0), .int (gi os 1), .int (gi os 2), .ref (q 14), .ref (q 15), .ref (q 16), .ref (q 17), .ref (q 18), .ref (q 19), .ref (q 20)] 0 (.int v))) = WTr tA q oc ow (si os 0 v) := rfl
theorem WTr_pt13_1 {tA : Nat → ClassId} {q : Nat → Nat} {oc : Ob} {ow : Ob} {os : Ob} (v : Int32) : (WTr tA q oc ow os).set 13 (q 13, .inr (6, List.set [.int (gi os 0), .int (gi os 1), .int (gi os 2), .ref (q 14), .ref (q 15), .ref (q 16), .ref (q 17), .ref (q 18), .ref (q 19), .ref (q 20)] 1 (.int v))) = WTr tA q oc ow (si os 1 v) := rfl
theorem WTr_pt13_2 {tA : Nat → ClassId} {q : Nat → Nat} {oc : Ob} {ow : Ob} {os : Ob} (v : Int32) : (WTr tA q oc ow os).set 13 (q 13, .inr (6, List.set [.int (gi os 0), .int (gi os 1), .int (gi os 2), .ref (q 14), .ref (q 15), .ref (q 16), .ref (q 17), .ref (q 18), .ref (q 19), .ref (q 20)] 2 (.int v))) = WTr tA q oc ow (si os 2 v) := rfl
theorem WTr_at14 {tA : Nat → ClassId} {q : Nat → Nat} {oc : Ob} {ow : Ob} {os : Ob} : (WTr tA q oc ow os)[14]? = some (q 14, .inl (tA 0, (12, .inl (ga os 3)))) := rfl
theorem WTr_ar14 {tA : Nat → ClassId} {q : Nat → Nat} {oc : Ob} {ow : Ob} {os : Ob} (f : Nat → Int32) : (WTr tA q oc ow os).set 14 (q 14, .inl (tA 0, (12, .inl f))) = WTr tA q oc ow (sa os 3 f) := rfl
theorem WTr_at15 {tA : Nat → ClassId} {q : Nat → Nat} {oc : Ob} {ow : Ob} {os : Ob} : (WTr tA q oc ow os)[15]? = some (q 15, .inl (tA 0, (12, .inl (ga os 4)))) := rfl
theorem WTr_ar15 {tA : Nat → ClassId} {q : Nat → Nat} {oc : Ob} {ow : Ob} {os : Ob} (f : Nat → Int32) : (WTr tA q oc ow os).set 15 (q 15, .inl (tA 0, (12, .inl f))) = WTr tA q oc ow (sa os 4 f) := rfl
theorem WTr_at16 {tA : Nat → ClassId} {q : Nat → Nat} {oc : Ob} {ow : Ob} {os : Ob} : (WTr tA q oc ow os)[16]? = some (q 16, .inl (tA 0, (12, .inl (ga os 5)))) := rfl
theorem WTr_ar16 {tA : Nat → ClassId} {q : Nat → Nat} {oc : Ob} {ow : Ob} {os : Ob} (f : Nat → Int32) : (WTr tA q oc ow os).set 16 (q 16, .inl (tA 0, (12, .inl f))) = WTr tA q oc ow (sa os 5 f) := rfl
theorem WTr_at17 {tA : Nat → ClassId} {q : Nat → Nat} {oc : Ob} {ow : Ob} {os : Ob} : (WTr tA q oc ow os)[17]? = some (q 17, .inl (tA 0, (6, .inl (ga os 6)))) := rfl
theorem WTr_ar17 {tA : Nat → ClassId} {q : Nat → Nat} {oc : Ob} {ow : Ob} {os : Ob} (f : Nat → Int32) : (WTr tA q oc ow os).set 17 (q 17, .inl (tA 0, (6, .inl f))) = WTr tA q oc ow (sa os 6 f) := rfl
theorem WTr_at18 {tA : Nat → ClassId} {q : Nat → Nat} {oc : Ob} {ow : Ob} {os : Ob} : (WTr tA q oc ow os)[18]? = some (q 18, .inl (tA 0, (6, .inl (ga os 7)))) := rfl
theorem WTr_ar18 {tA : Nat → ClassId} {q : Nat → Nat} {oc : Ob} {ow : Ob} {os : Ob} (f : Nat → Int32) : (WTr tA q oc ow os).set 18 (q 18, .inl (tA 0, (6, .inl f))) = WTr tA q oc ow (sa os 7 f) := rfl
theorem WTr_at19 {tA : Nat → ClassId} {q : Nat → Nat} {oc : Ob} {ow : Ob} {os : Ob} : (WTr tA q oc ow os)[19]? = some (q 19, .inl (tA 0, (6, .inl (ga os 8)))) := rfl
theorem WTr_ar19 {tA : Nat → ClassId} {q : Nat → Nat} {oc : Ob} {ow : Ob} {os : Ob} (f : Nat → Int32) : (WTr tA q oc ow os).set 19 (q 19, .inl (tA 0, (6, .inl f))) = WTr tA q oc ow (sa os 8 f) := rfl
theorem WTr_at20 {tA : Nat → ClassId} {q : Nat → Nat} {oc : Ob} {ow : Ob} {os : Ob} : (WTr tA q oc ow os)[20]? = some (q 20, .inl (tA 5, (6, .inr (.inr (.inr (.inr (zrow [q 21, q 22, q 23, q 24, q 25, q 26]))))))) := rfl
theorem WTr_at21 {tA : Nat → ClassId} {q : Nat → Nat} {oc : Ob} {ow : Ob} {os : Ob} : (WTr tA q oc ow os)[21]? = some (q 21, .inl (tA 0, (400, .inl (ga os 20)))) := rfl
theorem WTr_ar21 {tA : Nat → ClassId} {q : Nat → Nat} {oc : Ob} {ow : Ob} {os : Ob} (f : Nat → Int32) : (WTr tA q oc ow os).set 21 (q 21, .inl (tA 0, (400, .inl f))) = WTr tA q oc ow (sa os 20 f) := rfl
theorem WTr_at22 {tA : Nat → ClassId} {q : Nat → Nat} {oc : Ob} {ow : Ob} {os : Ob} : (WTr tA q oc ow os)[22]? = some (q 22, .inl (tA 0, (400, .inl (ga os 21)))) := rfl
theorem WTr_ar22 {tA : Nat → ClassId} {q : Nat → Nat} {oc : Ob} {ow : Ob} {os : Ob} (f : Nat → Int32) : (WTr tA q oc ow os).set 22 (q 22, .inl (tA 0, (400, .inl f))) = WTr tA q oc ow (sa os 21 f) := rfl
theorem WTr_at23 {tA : Nat → ClassId} {q : Nat → Nat} {oc : Ob} {ow : Ob} {os : Ob} : (WTr tA q oc ow os)[23]? = some (q 23, .inl (tA 0, (400, .inl (ga os 22)))) := rfl
theorem WTr_ar23 {tA : Nat → ClassId} {q : Nat → Nat} {oc : Ob} {ow : Ob} {os : Ob} (f : Nat → Int32) : (WTr tA q oc ow os).set 23 (q 23, .inl (tA 0, (400, .inl f))) = WTr tA q oc ow (sa os 22 f) := rfl
theorem WTr_at24 {tA : Nat → ClassId} {q : Nat → Nat} {oc : Ob} {ow : Ob} {os : Ob} : (WTr tA q oc ow os)[24]? = some (q 24, .inl (tA 0, (400, .inl (ga os 23)))) := rfl
theorem WTr_ar24 {tA : Nat → ClassId} {q : Nat → Nat} {oc : Ob} {ow : Ob} {os : Ob} (f : Nat → Int32) : (WTr tA q oc ow os).set 24 (q 24, .inl (tA 0, (400, .inl f))) = WTr tA q oc ow (sa os 23 f) := rfl
theorem WTr_at25 {tA : Nat → ClassId} {q : Nat → Nat} {oc : Ob} {ow : Ob} {os : Ob} : (WTr tA q oc ow os)[25]? = some (q 25, .inl (tA 0, (400, .inl (ga os 24)))) := rfl
theorem WTr_ar25 {tA : Nat → ClassId} {q : Nat → Nat} {oc : Ob} {ow : Ob} {os : Ob} (f : Nat → Int32) : (WTr tA q oc ow os).set 25 (q 25, .inl (tA 0, (400, .inl f))) = WTr tA q oc ow (sa os 24 f) := rfl
theorem WTr_at26 {tA : Nat → ClassId} {q : Nat → Nat} {oc : Ob} {ow : Ob} {os : Ob} : (WTr tA q oc ow os)[26]? = some (q 26, .inl (tA 0, (400, .inl (ga os 25)))) := rfl
theorem WTr_ar26 {tA : Nat → ClassId} {q : Nat → Nat} {oc : Ob} {ow : Ob} {os : Ob} (f : Nat → Int32) : (WTr tA q oc ow os).set 26 (q 26, .inl (tA 0, (400, .inl f))) = WTr tA q oc ow (sa os 25 f) := rfl
theorem WTr_row20 {tA : Nat → ClassId} {q : Nat → Nat} {oc : Ob} {ow : Ob} {os : Ob} (i : Int32) (h : vp_in i 6) : (WTr tA q oc ow os)[21 + i.toNatClampNeg]? = some ([q 21, q 22, q 23, q 24, q 25, q 26].getD i.toNatClampNeg 0, .inl (tA 0, 400, .inl (ga os (20 + i.toNatClampNeg)))) := by
  have h2 : i.toNatClampNeg < 6 := Nat.not_le.mp fun z => h (Or.inr z)
  generalize i.toNatClampNeg = j at h2
  match j, h2 with
  | 0, _ => rfl
  | 1, _ => rfl
  | 2, _ => rfl
  | 3, _ => rfl
  | 4, _ => rfl
  | 5, _ => rfl
theorem WTr_set20 {tA : Nat → ClassId} {q : Nat → Nat} {oc : Ob} {ow : Ob} {os : Ob} (i : Int32) (h : vp_in i 6) (f : Nat → Int32) : (WTr tA q oc ow os).set (21 + i.toNatClampNeg) ([q 21, q 22, q 23, q 24, q 25, q 26].getD i.toNatClampNeg 0, .inl (tA 0, 400, .inl f)) = WTr tA q oc ow (sa os (20 + i.toNatClampNeg) f) := by
  have h2 : i.toNatClampNeg < 6 := Nat.not_le.mp fun z => h (Or.inr z)
  generalize i.toNatClampNeg = j at h2
  match j, h2 with
  | 0, _ => rfl
  | 1, _ => rfl
  | 2, _ => rfl
  | 3, _ => rfl
  | 4, _ => rfl
  | 5, _ => rfl
def WCa (tA : Nat → ClassId) (q : Nat → Nat) (oe : Ob) (oc : Ob) (ow : Ob) (os : Ob) : va_W := [(q 0, .inr (1, [.ref (q 14), .ref (q 1), .ref (q 2), .ref (q 9), .ref (q 10), .ref (q 11), .ref (q 12), .ref (q 13), .int (gi oe 8), .int (gi oe 9), .long (gl oe 10), .long (gl oe 11)])), (q 1, .inl (tA 0, (6, .inl (ga oe 1)))), (q 2, .inl (tA 6, (6, .inr (.inr (.inr (.inr (zrow [q 3, q 4, q 5, q 6, q 7, q 8]))))))), (q 3, .inl (tA 1, (31, .inr (.inl (gb oe 20))))), (q 4, .inl (tA 1, (31, .inr (.inl (gb oe 21))))), (q 5, .inl (tA 1, (31, .inr (.inl (gb oe 22))))), (q 6, .inl (tA 1, (31, .inr (.inl (gb oe 23))))), (q 7, .inl (tA 1, (31, .inr (.inl (gb oe 24))))), (q 8, .inl (tA 1, (31, .inr (.inl (gb oe 25))))), (q 9, .inl (tA 0, (31, .inl (ga oe 3)))), (q 10, .inl (tA 1, (64, .inr (.inl (gb oe 4))))), (q 11, .inl (tA 1, (64, .inr (.inl (gb oe 5))))), (q 12, .inl (tA 2, (64, .inl (ga oe 6)))), (q 13, .inl (tA 0, (6, .inl (ga oe 7)))), (q 14, .inr (9, [.ref (q 15), .ref (q 22), .ref (q 27)])), (q 15, .inr (2, [.int (gi oc 0), .int (gi oc 1), .ref (q 16), .ref (q 17), .ref (q 18), .ref (q 19), .ref (q 20), .ref (q 21)])), (q 16, .inl (tA 0, (6, .inl (ga oc 2)))), (q 17, .inl (tA 0, (6, .inl (ga oc 3)))), (q 18, .inl (tA 0, (6, .inl (ga oc 4)))), (q 19, .inl (tA 0, (12, .inl (ga oc 5)))), (q 20, .inl (tA 0, (12, .inl (ga oc 6)))), (q 21, .inl (tA 0, (12, .inl (ga oc 7)))), (q 22, .inr (4, [.int (gi ow 0), .ref (q 23), .ref (q 24), .ref (q 25), .ref (q 26)])), (q 23, .inl (tA 0, (6, .inl (ga ow 1)))), (q 24, .inl (tA 0, (6, .inl (ga ow 2)))), (q 25, .inl (tA 0, (6, .inl (ga ow 3)))), (q 26, .inl (tA 0, (6, .inl (ga ow 4)))), (q 27, .inr (6, [.int (gi os 0), .int (gi os 1), .int (gi os 2), .ref (q 28), .ref (q 29), .ref (q 30), .ref (q 31), .ref (q 32), .ref (q 33), .ref (q 34)])), (q 28, .inl (tA 0, (12, .inl (ga os 3)))), (q 29, .inl (tA 0, (12, .inl (ga os 4)))), (q 30, .inl (tA 0, (12, .inl (ga os 5)))), (q 31, .inl (tA 0, (6, .inl (ga os 6)))), (q 32, .inl (tA 0, (6, .inl (ga os 7)))), (q 33, .inl (tA 0, (6, .inl (ga os 8)))), (q 34, .inl (tA 5, (6, .inr (.inr (.inr (.inr (zrow [q 35, q 36, q 37, q 38, q 39, q 40]))))))), (q 35, .inl (tA 0, (400, .inl (ga os 20)))), (q 36, .inl (tA 0, (400, .inl (ga os 21)))), (q 37, .inl (tA 0, (400, .inl (ga os 22)))), (q 38, .inl (tA 0, (400, .inl (ga os 23)))), (q 39, .inl (tA 0, (400, .inl (ga os 24)))), (q 40, .inl (tA 0, (400, .inl (ga os 25))))]
theorem WCa_at0 {tA : Nat → ClassId} {q : Nat → Nat} {oe : Ob} {oc : Ob} {ow : Ob} {os : Ob} : (WCa tA q oe oc ow os)[0]? = some (q 0, .inr (1, [.ref (q 14), .ref (q 1), .ref (q 2), .ref (q 9), .ref (q 10), .ref (q 11), .ref (q 12), .ref (q 13), .int (gi oe 8), .int (gi oe 9), .long (gl oe 10), .long (gl oe 11)])) := rfl
theorem WCa_pt0_8 {tA : Nat → ClassId} {q : Nat → Nat} {oe : Ob} {oc : Ob} {ow : Ob} {os : Ob} (v : Int32) : (WCa tA q oe oc ow os).set 0 (q 0, .inr (1, List.set [.ref (q 14), .ref (q 1), .ref (q 2), .ref (q 9), .ref (q 10), .ref (q 11), .ref (q 12), .ref (q 13), .int (gi oe 8), .int (gi oe 9), .long (gl oe 10), .long (gl oe 11)] 8 (.int v))) = WCa tA q (si oe 8 v) oc ow os := rfl
theorem WCa_pt0_9 {tA : Nat → ClassId} {q : Nat → Nat} {oe : Ob} {oc : Ob} {ow : Ob} {os : Ob} (v : Int32) : (WCa tA q oe oc ow os).set 0 (q 0, .inr (1, List.set [.ref (q 14), .ref (q 1), .ref (q 2), .ref (q 9), .ref (q 10), .ref (q 11), .ref (q 12), .ref (q 13), .int (gi oe 8), .int (gi oe 9), .long (gl oe 10), .long (gl oe 11)] 9 (.int v))) = WCa tA q (si oe 9 v) oc ow os := rfl
theorem WCa_pt0_10 {tA : Nat → ClassId} {q : Nat → Nat} {oe : Ob} {oc : Ob} {ow : Ob} {os : Ob} (v : Int64) : (WCa tA q oe oc ow os).set 0 (q 0, .inr (1, List.set [.ref (q 14), .ref (q 1), .ref (q 2), .ref (q 9), .ref (q 10), .ref (q 11), .ref (q 12), .ref (q 13), .int (gi oe 8), .int (gi oe 9), .long (gl oe 10), .long (gl oe 11)] 10 (.long v))) = WCa tA q (sl oe 10 v) oc ow os := rfl
theorem WCa_pt0_11 {tA : Nat → ClassId} {q : Nat → Nat} {oe : Ob} {oc : Ob} {ow : Ob} {os : Ob} (v : Int64) : (WCa tA q oe oc ow os).set 0 (q 0, .inr (1, List.set [.ref (q 14), .ref (q 1), .ref (q 2), .ref (q 9), .ref (q 10), .ref (q 11), .ref (q 12), .ref (q 13), .int (gi oe 8), .int (gi oe 9), .long (gl oe 10), .long (gl oe 11)] 11 (.long v))) = WCa tA q (sl oe 11 v) oc ow os := rfl
theorem WCa_at1 {tA : Nat → ClassId} {q : Nat → Nat} {oe : Ob} {oc : Ob} {ow : Ob} {os : Ob} : (WCa tA q oe oc ow os)[1]? = some (q 1, .inl (tA 0, (6, .inl (ga oe 1)))) := rfl
theorem WCa_ar1 {tA : Nat → ClassId} {q : Nat → Nat} {oe : Ob} {oc : Ob} {ow : Ob} {os : Ob} (f : Nat → Int32) : (WCa tA q oe oc ow os).set 1 (q 1, .inl (tA 0, (6, .inl f))) = WCa tA q (sa oe 1 f) oc ow os := rfl
theorem WCa_at2 {tA : Nat → ClassId} {q : Nat → Nat} {oe : Ob} {oc : Ob} {ow : Ob} {os : Ob} : (WCa tA q oe oc ow os)[2]? = some (q 2, .inl (tA 6, (6, .inr (.inr (.inr (.inr (zrow [q 3, q 4, q 5, q 6, q 7, q 8]))))))) := rfl
theorem WCa_at3 {tA : Nat → ClassId} {q : Nat → Nat} {oe : Ob} {oc : Ob} {ow : Ob} {os : Ob} : (WCa tA q oe oc ow os)[3]? = some (q 3, .inl (tA 1, (31, .inr (.inl (gb oe 20))))) := rfl
theorem WCa_ar3 {tA : Nat → ClassId} {q : Nat → Nat} {oe : Ob} {oc : Ob} {ow : Ob} {os : Ob} (f : Nat → Int64) : (WCa tA q oe oc ow os).set 3 (q 3, .inl (tA 1, (31, .inr (.inl f)))) = WCa tA q (sb oe 20 f) oc ow os := rfl
theorem WCa_at4 {tA : Nat → ClassId} {q : Nat → Nat} {oe : Ob} {oc : Ob} {ow : Ob} {os : Ob} : (WCa tA q oe oc ow os)[4]? = some (q 4, .inl (tA 1, (31, .inr (.inl (gb oe 21))))) := rfl
theorem WCa_ar4 {tA : Nat → ClassId} {q : Nat → Nat} {oe : Ob} {oc : Ob} {ow : Ob} {os : Ob} (f : Nat → Int64) : (WCa tA q oe oc ow os).set 4 (q 4, .inl (tA 1, (31, .inr (.inl f)))) = WCa tA q (sb oe 21 f) oc ow os := rfl
theorem WCa_at5 {tA : Nat → ClassId} {q : Nat → Nat} {oe : Ob} {oc : Ob} {ow : Ob} {os : Ob} : (WCa tA q oe oc ow os)[5]? = some (q 5, .inl (tA 1, (31, .inr (.inl (gb oe 22))))) := rfl
theorem WCa_ar5 {tA : Nat → ClassId} {q : Nat → Nat} {oe : Ob} {oc : Ob} {ow : Ob} {os : Ob} (f : Nat → Int64) : (WCa tA q oe oc ow os).set 5 (q 5, .inl (tA 1, (31, .inr (.inl f)))) = WCa tA q (sb oe 22 f) oc ow os := rfl
theorem WCa_at6 {tA : Nat → ClassId} {q : Nat → Nat} {oe : Ob} {oc : Ob} {ow : Ob} {os : Ob} : (WCa tA q oe oc ow os)[6]? = some (q 6, .inl (tA 1, (31, .inr (.inl (gb oe 23))))) := rfl
theorem WCa_ar6 {tA : Nat → ClassId} {q : Nat → Nat} {oe : Ob} {oc : Ob} {ow : Ob} {os : Ob} (f : Nat → Int64) : (WCa tA q oe oc ow os).set 6 (q 6, .inl (tA 1, (31, .inr (.inl f)))) = WCa tA q (sb oe 23 f) oc ow os := rfl
theorem WCa_at7 {tA : Nat → ClassId} {q : Nat → Nat} {oe : Ob} {oc : Ob} {ow : Ob} {os : Ob} : (WCa tA q oe oc ow os)[7]? = some (q 7, .inl (tA 1, (31, .inr (.inl (gb oe 24))))) := rfl
theorem WCa_ar7 {tA : Nat → ClassId} {q : Nat → Nat} {oe : Ob} {oc : Ob} {ow : Ob} {os : Ob} (f : Nat → Int64) : (WCa tA q oe oc ow os).set 7 (q 7, .inl (tA 1, (31, .inr (.inl f)))) = WCa tA q (sb oe 24 f) oc ow os := rfl
theorem WCa_at8 {tA : Nat → ClassId} {q : Nat → Nat} {oe : Ob} {oc : Ob} {ow : Ob} {os : Ob} : (WCa tA q oe oc ow os)[8]? = some (q 8, .inl (tA 1, (31, .inr (.inl (gb oe 25))))) := rfl
theorem WCa_ar8 {tA : Nat → ClassId} {q : Nat → Nat} {oe : Ob} {oc : Ob} {ow : Ob} {os : Ob} (f : Nat → Int64) : (WCa tA q oe oc ow os).set 8 (q 8, .inl (tA 1, (31, .inr (.inl f)))) = WCa tA q (sb oe 25 f) oc ow os := rfl
theorem WCa_at9 {tA : Nat → ClassId} {q : Nat → Nat} {oe : Ob} {oc : Ob} {ow : Ob} {os : Ob} : (WCa tA q oe oc ow os)[9]? = some (q 9, .inl (tA 0, (31, .inl (ga oe 3)))) := rfl
theorem WCa_ar9 {tA : Nat → ClassId} {q : Nat → Nat} {oe : Ob} {oc : Ob} {ow : Ob} {os : Ob} (f : Nat → Int32) : (WCa tA q oe oc ow os).set 9 (q 9, .inl (tA 0, (31, .inl f))) = WCa tA q (sa oe 3 f) oc ow os := rfl
theorem WCa_at10 {tA : Nat → ClassId} {q : Nat → Nat} {oe : Ob} {oc : Ob} {ow : Ob} {os : Ob} : (WCa tA q oe oc ow os)[10]? = some (q 10, .inl (tA 1, (64, .inr (.inl (gb oe 4))))) := rfl
theorem WCa_ar10 {tA : Nat → ClassId} {q : Nat → Nat} {oe : Ob} {oc : Ob} {ow : Ob} {os : Ob} (f : Nat → Int64) : (WCa tA q oe oc ow os).set 10 (q 10, .inl (tA 1, (64, .inr (.inl f)))) = WCa tA q (sb oe 4 f) oc ow os := rfl
theorem WCa_at11 {tA : Nat → ClassId} {q : Nat → Nat} {oe : Ob} {oc : Ob} {ow : Ob} {os : Ob} : (WCa tA q oe oc ow os)[11]? = some (q 11, .inl (tA 1, (64, .inr (.inl (gb oe 5))))) := rfl
theorem WCa_ar11 {tA : Nat → ClassId} {q : Nat → Nat} {oe : Ob} {oc : Ob} {ow : Ob} {os : Ob} (f : Nat → Int64) : (WCa tA q oe oc ow os).set 11 (q 11, .inl (tA 1, (64, .inr (.inl f)))) = WCa tA q (sb oe 5 f) oc ow os := rfl
theorem WCa_at12 {tA : Nat → ClassId} {q : Nat → Nat} {oe : Ob} {oc : Ob} {ow : Ob} {os : Ob} : (WCa tA q oe oc ow os)[12]? = some (q 12, .inl (tA 2, (64, .inl (ga oe 6)))) := rfl
theorem WCa_ar12 {tA : Nat → ClassId} {q : Nat → Nat} {oe : Ob} {oc : Ob} {ow : Ob} {os : Ob} (f : Nat → Int32) : (WCa tA q oe oc ow os).set 12 (q 12, .inl (tA 2, (64, .inl f))) = WCa tA q (sa oe 6 f) oc ow os := rfl
theorem WCa_at13 {tA : Nat → ClassId} {q : Nat → Nat} {oe : Ob} {oc : Ob} {ow : Ob} {os : Ob} : (WCa tA q oe oc ow os)[13]? = some (q 13, .inl (tA 0, (6, .inl (ga oe 7)))) := rfl
theorem WCa_ar13 {tA : Nat → ClassId} {q : Nat → Nat} {oe : Ob} {oc : Ob} {ow : Ob} {os : Ob} (f : Nat → Int32) : (WCa tA q oe oc ow os).set 13 (q 13, .inl (tA 0, (6, .inl f))) = WCa tA q (sa oe 7 f) oc ow os := rfl
theorem WCa_at14 {tA : Nat → ClassId} {q : Nat → Nat} {oe : Ob} {oc : Ob} {ow : Ob} {os : Ob} : (WCa tA q oe oc ow os)[14]? = some (q 14, .inr (9, [.ref (q 15), .ref (q 22), .ref (q 27)])) := rfl
theorem WCa_at15 {tA : Nat → ClassId} {q : Nat → Nat} {oe : Ob} {oc : Ob} {ow : Ob} {os : Ob} : (WCa tA q oe oc ow os)[15]? = some (q 15, .inr (2, [.int (gi oc 0), .int (gi oc 1), .ref (q 16), .ref (q 17), .ref (q 18), .ref (q 19), .ref (q 20), .ref (q 21)])) := rfl
theorem WCa_pt15_0 {tA : Nat → ClassId} {q : Nat → Nat} {oe : Ob} {oc : Ob} {ow : Ob} {os : Ob} (v : Int32) : (WCa tA q oe oc ow os).set 15 (q 15, .inr (2, List.set [.int (gi oc 0), .int (gi oc 1), .ref (q 16), .ref (q 17), .ref (q 18), .ref (q 19), .ref (q 20), .ref (q 21)] 0 (.int v))) = WCa tA q oe (si oc 0 v) ow os := rfl
theorem WCa_pt15_1 {tA : Nat → ClassId} {q : Nat → Nat} {oe : Ob} {oc : Ob} {ow : Ob} {os : Ob} (v : Int32) : (WCa tA q oe oc ow os).set 15 (q 15, .inr (2, List.set [.int (gi oc 0), .int (gi oc 1), .ref (q 16), .ref (q 17), .ref (q 18), .ref (q 19), .ref (q 20), .ref (q 21)] 1 (.int v))) = WCa tA q oe (si oc 1 v) ow os := rfl
theorem WCa_at16 {tA : Nat → ClassId} {q : Nat → Nat} {oe : Ob} {oc : Ob} {ow : Ob} {os : Ob} : (WCa tA q oe oc ow os)[16]? = some (q 16, .inl (tA 0, (6, .inl (ga oc 2)))) := rfl
theorem WCa_ar16 {tA : Nat → ClassId} {q : Nat → Nat} {oe : Ob} {oc : Ob} {ow : Ob} {os : Ob} (f : Nat → Int32) : (WCa tA q oe oc ow os).set 16 (q 16, .inl (tA 0, (6, .inl f))) = WCa tA q oe (sa oc 2 f) ow os := rfl
theorem WCa_at17 {tA : Nat → ClassId} {q : Nat → Nat} {oe : Ob} {oc : Ob} {ow : Ob} {os : Ob} : (WCa tA q oe oc ow os)[17]? = some (q 17, .inl (tA 0, (6, .inl (ga oc 3)))) := rfl
theorem WCa_ar17 {tA : Nat → ClassId} {q : Nat → Nat} {oe : Ob} {oc : Ob} {ow : Ob} {os : Ob} (f : Nat → Int32) : (WCa tA q oe oc ow os).set 17 (q 17, .inl (tA 0, (6, .inl f))) = WCa tA q oe (sa oc 3 f) ow os := rfl
theorem WCa_at18 {tA : Nat → ClassId} {q : Nat → Nat} {oe : Ob} {oc : Ob} {ow : Ob} {os : Ob} : (WCa tA q oe oc ow os)[18]? = some (q 18, .inl (tA 0, (6, .inl (ga oc 4)))) := rfl
theorem WCa_ar18 {tA : Nat → ClassId} {q : Nat → Nat} {oe : Ob} {oc : Ob} {ow : Ob} {os : Ob} (f : Nat → Int32) : (WCa tA q oe oc ow os).set 18 (q 18, .inl (tA 0, (6, .inl f))) = WCa tA q oe (sa oc 4 f) ow os := rfl
theorem WCa_at19 {tA : Nat → ClassId} {q : Nat → Nat} {oe : Ob} {oc : Ob} {ow : Ob} {os : Ob} : (WCa tA q oe oc ow os)[19]? = some (q 19, .inl (tA 0, (12, .inl (ga oc 5)))) := rfl
theorem WCa_ar19 {tA : Nat → ClassId} {q : Nat → Nat} {oe : Ob} {oc : Ob} {ow : Ob} {os : Ob} (f : Nat → Int32) : (WCa tA q oe oc ow os).set 19 (q 19, .inl (tA 0, (12, .inl f))) = WCa tA q oe (sa oc 5 f) ow os := rfl
theorem WCa_at20 {tA : Nat → ClassId} {q : Nat → Nat} {oe : Ob} {oc : Ob} {ow : Ob} {os : Ob} : (WCa tA q oe oc ow os)[20]? = some (q 20, .inl (tA 0, (12, .inl (ga oc 6)))) := rfl
theorem WCa_ar20 {tA : Nat → ClassId} {q : Nat → Nat} {oe : Ob} {oc : Ob} {ow : Ob} {os : Ob} (f : Nat → Int32) : (WCa tA q oe oc ow os).set 20 (q 20, .inl (tA 0, (12, .inl f))) = WCa tA q oe (sa oc 6 f) ow os := rfl
theorem WCa_at21 {tA : Nat → ClassId} {q : Nat → Nat} {oe : Ob} {oc : Ob} {ow : Ob} {os : Ob} : (WCa tA q oe oc ow os)[21]? = some (q 21, .inl (tA 0, (12, .inl (ga oc 7)))) := rfl
theorem WCa_ar21 {tA : Nat → ClassId} {q : Nat → Nat} {oe : Ob} {oc : Ob} {ow : Ob} {os : Ob} (f : Nat → Int32) : (WCa tA q oe oc ow os).set 21 (q 21, .inl (tA 0, (12, .inl f))) = WCa tA q oe (sa oc 7 f) ow os := rfl
theorem WCa_at22 {tA : Nat → ClassId} {q : Nat → Nat} {oe : Ob} {oc : Ob} {ow : Ob} {os : Ob} : (WCa tA q oe oc ow os)[22]? = some (q 22, .inr (4, [.int (gi ow 0), .ref (q 23), .ref (q 24), .ref (q 25), .ref (q 26)])) := rfl
theorem WCa_pt22_0 {tA : Nat → ClassId} {q : Nat → Nat} {oe : Ob} {oc : Ob} {ow : Ob} {os : Ob} (v : Int32) : (WCa tA q oe oc ow os).set 22 (q 22, .inr (4, List.set [.int (gi ow 0), .ref (q 23), .ref (q 24), .ref (q 25), .ref (q 26)] 0 (.int v))) = WCa tA q oe oc (si ow 0 v) os := rfl
theorem WCa_at23 {tA : Nat → ClassId} {q : Nat → Nat} {oe : Ob} {oc : Ob} {ow : Ob} {os : Ob} : (WCa tA q oe oc ow os)[23]? = some (q 23, .inl (tA 0, (6, .inl (ga ow 1)))) := rfl
theorem WCa_ar23 {tA : Nat → ClassId} {q : Nat → Nat} {oe : Ob} {oc : Ob} {ow : Ob} {os : Ob} (f : Nat → Int32) : (WCa tA q oe oc ow os).set 23 (q 23, .inl (tA 0, (6, .inl f))) = WCa tA q oe oc (sa ow 1 f) os := rfl
theorem WCa_at24 {tA : Nat → ClassId} {q : Nat → Nat} {oe : Ob} {oc : Ob} {ow : Ob} {os : Ob} : (WCa tA q oe oc ow os)[24]? = some (q 24, .inl (tA 0, (6, .inl (ga ow 2)))) := rfl
theorem WCa_ar24 {tA : Nat → ClassId} {q : Nat → Nat} {oe : Ob} {oc : Ob} {ow : Ob} {os : Ob} (f : Nat → Int32) : (WCa tA q oe oc ow os).set 24 (q 24, .inl (tA 0, (6, .inl f))) = WCa tA q oe oc (sa ow 2 f) os := rfl
theorem WCa_at25 {tA : Nat → ClassId} {q : Nat → Nat} {oe : Ob} {oc : Ob} {ow : Ob} {os : Ob} : (WCa tA q oe oc ow os)[25]? = some (q 25, .inl (tA 0, (6, .inl (ga ow 3)))) := rfl
theorem WCa_ar25 {tA : Nat → ClassId} {q : Nat → Nat} {oe : Ob} {oc : Ob} {ow : Ob} {os : Ob} (f : Nat → Int32) : (WCa tA q oe oc ow os).set 25 (q 25, .inl (tA 0, (6, .inl f))) = WCa tA q oe oc (sa ow 3 f) os := rfl
theorem WCa_at26 {tA : Nat → ClassId} {q : Nat → Nat} {oe : Ob} {oc : Ob} {ow : Ob} {os : Ob} : (WCa tA q oe oc ow os)[26]? = some (q 26, .inl (tA 0, (6, .inl (ga ow 4)))) := rfl
theorem WCa_ar26 {tA : Nat → ClassId} {q : Nat → Nat} {oe : Ob} {oc : Ob} {ow : Ob} {os : Ob} (f : Nat → Int32) : (WCa tA q oe oc ow os).set 26 (q 26, .inl (tA 0, (6, .inl f))) = WCa tA q oe oc (sa ow 4 f) os := rfl
theorem WCa_at27 {tA : Nat → ClassId} {q : Nat → Nat} {oe : Ob} {oc : Ob} {ow : Ob} {os : Ob} : (WCa tA q oe oc ow os)[27]? = some (q 27, .inr (6, [.int (gi os 0), .int (gi os 1), .int (gi os 2), .ref (q 28), .ref (q 29), .ref (q 30), .ref (q 31), .ref (q 32), .ref (q 33), .ref (q 34)])) := rfl
theorem WCa_pt27_0 {tA : Nat → ClassId} {q : Nat → Nat} {oe : Ob} {oc : Ob} {ow : Ob} {os : Ob} (v : Int32) : (WCa tA q oe oc ow os).set 27 (q 27, .inr (6, List.set [.int (gi os 0), .int (gi os 1), .int (gi os 2), .ref (q 28), .ref (q 29), .ref (q 30), .ref (q 31), .ref (q 32), .ref (q 33), .ref (q 34)] 0 (.int v))) = WCa tA q oe oc ow (si os 0 v) := rfl
theorem WCa_pt27_1 {tA : Nat → ClassId} {q : Nat → Nat} {oe : Ob} {oc : Ob} {ow : Ob} {os : Ob} (v : Int32) : (WCa tA q oe oc ow os).set 27 (q 27, .inr (6, List.set [.int (gi os 0), .int (gi os 1), .int (gi os 2), .ref (q 28), .ref (q 29), .ref (q 30), .ref (q 31), .ref (q 32), .ref (q 33), .ref (q 34)] 1 (.int v))) = WCa tA q oe oc ow (si os 1 v) := rfl
theorem WCa_pt27_2 {tA : Nat → ClassId} {q : Nat → Nat} {oe : Ob} {oc : Ob} {ow : Ob} {os : Ob} (v : Int32) : (WCa tA q oe oc ow os).set 27 (q 27, .inr (6, List.set [.int (gi os 0), .int (gi os 1), .int (gi os 2), .ref (q 28), .ref (q 29), .ref (q 30), .ref (q 31), .ref (q 32), .ref (q 33), .ref (q 34)] 2 (.int v))) = WCa tA q oe oc ow (si os 2 v) := rfl
theorem WCa_at28 {tA : Nat → ClassId} {q : Nat → Nat} {oe : Ob} {oc : Ob} {ow : Ob} {os : Ob} : (WCa tA q oe oc ow os)[28]? = some (q 28, .inl (tA 0, (12, .inl (ga os 3)))) := rfl
theorem WCa_ar28 {tA : Nat → ClassId} {q : Nat → Nat} {oe : Ob} {oc : Ob} {ow : Ob} {os : Ob} (f : Nat → Int32) : (WCa tA q oe oc ow os).set 28 (q 28, .inl (tA 0, (12, .inl f))) = WCa tA q oe oc ow (sa os 3 f) := rfl
theorem WCa_at29 {tA : Nat → ClassId} {q : Nat → Nat} {oe : Ob} {oc : Ob} {ow : Ob} {os : Ob} : (WCa tA q oe oc ow os)[29]? = some (q 29, .inl (tA 0, (12, .inl (ga os 4)))) := rfl
theorem WCa_ar29 {tA : Nat → ClassId} {q : Nat → Nat} {oe : Ob} {oc : Ob} {ow : Ob} {os : Ob} (f : Nat → Int32) : (WCa tA q oe oc ow os).set 29 (q 29, .inl (tA 0, (12, .inl f))) = WCa tA q oe oc ow (sa os 4 f) := rfl
theorem WCa_at30 {tA : Nat → ClassId} {q : Nat → Nat} {oe : Ob} {oc : Ob} {ow : Ob} {os : Ob} : (WCa tA q oe oc ow os)[30]? = some (q 30, .inl (tA 0, (12, .inl (ga os 5)))) := rfl
theorem WCa_ar30 {tA : Nat → ClassId} {q : Nat → Nat} {oe : Ob} {oc : Ob} {ow : Ob} {os : Ob} (f : Nat → Int32) : (WCa tA q oe oc ow os).set 30 (q 30, .inl (tA 0, (12, .inl f))) = WCa tA q oe oc ow (sa os 5 f) := rfl
theorem WCa_at31 {tA : Nat → ClassId} {q : Nat → Nat} {oe : Ob} {oc : Ob} {ow : Ob} {os : Ob} : (WCa tA q oe oc ow os)[31]? = some (q 31, .inl (tA 0, (6, .inl (ga os 6)))) := rfl
theorem WCa_ar31 {tA : Nat → ClassId} {q : Nat → Nat} {oe : Ob} {oc : Ob} {ow : Ob} {os : Ob} (f : Nat → Int32) : (WCa tA q oe oc ow os).set 31 (q 31, .inl (tA 0, (6, .inl f))) = WCa tA q oe oc ow (sa os 6 f) := rfl
theorem WCa_at32 {tA : Nat → ClassId} {q : Nat → Nat} {oe : Ob} {oc : Ob} {ow : Ob} {os : Ob} : (WCa tA q oe oc ow os)[32]? = some (q 32, .inl (tA 0, (6, .inl (ga os 7)))) := rfl
theorem WCa_ar32 {tA : Nat → ClassId} {q : Nat → Nat} {oe : Ob} {oc : Ob} {ow : Ob} {os : Ob} (f : Nat → Int32) : (WCa tA q oe oc ow os).set 32 (q 32, .inl (tA 0, (6, .inl f))) = WCa tA q oe oc ow (sa os 7 f) := rfl
theorem WCa_at33 {tA : Nat → ClassId} {q : Nat → Nat} {oe : Ob} {oc : Ob} {ow : Ob} {os : Ob} : (WCa tA q oe oc ow os)[33]? = some (q 33, .inl (tA 0, (6, .inl (ga os 8)))) := rfl
theorem WCa_ar33 {tA : Nat → ClassId} {q : Nat → Nat} {oe : Ob} {oc : Ob} {ow : Ob} {os : Ob} (f : Nat → Int32) : (WCa tA q oe oc ow os).set 33 (q 33, .inl (tA 0, (6, .inl f))) = WCa tA q oe oc ow (sa os 8 f) := rfl
theorem WCa_at34 {tA : Nat → ClassId} {q : Nat → Nat} {oe : Ob} {oc : Ob} {ow : Ob} {os : Ob} : (WCa tA q oe oc ow os)[34]? = some (q 34, .inl (tA 5, (6, .inr (.inr (.inr (.inr (zrow [q 35, q 36, q 37, q 38, q 39, q 40]))))))) := rfl
theorem WCa_at35 {tA : Nat → ClassId} {q : Nat → Nat} {oe : Ob} {oc : Ob} {ow : Ob} {os : Ob} : (WCa tA q oe oc ow os)[35]? = some (q 35, .inl (tA 0, (400, .inl (ga os 20)))) := rfl
theorem WCa_ar35 {tA : Nat → ClassId} {q : Nat → Nat} {oe : Ob} {oc : Ob} {ow : Ob} {os : Ob} (f : Nat → Int32) : (WCa tA q oe oc ow os).set 35 (q 35, .inl (tA 0, (400, .inl f))) = WCa tA q oe oc ow (sa os 20 f) := rfl
theorem WCa_at36 {tA : Nat → ClassId} {q : Nat → Nat} {oe : Ob} {oc : Ob} {ow : Ob} {os : Ob} : (WCa tA q oe oc ow os)[36]? = some (q 36, .inl (tA 0, (400, .inl (ga os 21)))) := rfl
theorem WCa_ar36 {tA : Nat → ClassId} {q : Nat → Nat} {oe : Ob} {oc : Ob} {ow : Ob} {os : Ob} (f : Nat → Int32) : (WCa tA q oe oc ow os).set 36 (q 36, .inl (tA 0, (400, .inl f))) = WCa tA q oe oc ow (sa os 21 f) := rfl
theorem WCa_at37 {tA : Nat → ClassId} {q : Nat → Nat} {oe : Ob} {oc : Ob} {ow : Ob} {os : Ob} : (WCa tA q oe oc ow os)[37]? = some (q 37, .inl (tA 0, (400, .inl (ga os 22)))) := rfl
theorem WCa_ar37 {tA : Nat → ClassId} {q : Nat → Nat} {oe : Ob} {oc : Ob} {ow : Ob} {os : Ob} (f : Nat → Int32) : (WCa tA q oe oc ow os).set 37 (q 37, .inl (tA 0, (400, .inl f))) = WCa tA q oe oc ow (sa os 22 f) := rfl
theorem WCa_at38 {tA : Nat → ClassId} {q : Nat → Nat} {oe : Ob} {oc : Ob} {ow : Ob} {os : Ob} : (WCa tA q oe oc ow os)[38]? = some (q 38, .inl (tA 0, (400, .inl (ga os 23)))) := rfl
theorem WCa_ar38 {tA : Nat → ClassId} {q : Nat → Nat} {oe : Ob} {oc : Ob} {ow : Ob} {os : Ob} (f : Nat → Int32) : (WCa tA q oe oc ow os).set 38 (q 38, .inl (tA 0, (400, .inl f))) = WCa tA q oe oc ow (sa os 23 f) := rfl
theorem WCa_at39 {tA : Nat → ClassId} {q : Nat → Nat} {oe : Ob} {oc : Ob} {ow : Ob} {os : Ob} : (WCa tA q oe oc ow os)[39]? = some (q 39, .inl (tA 0, (400, .inl (ga os 24)))) := rfl
theorem WCa_ar39 {tA : Nat → ClassId} {q : Nat → Nat} {oe : Ob} {oc : Ob} {ow : Ob} {os : Ob} (f : Nat → Int32) : (WCa tA q oe oc ow os).set 39 (q 39, .inl (tA 0, (400, .inl f))) = WCa tA q oe oc ow (sa os 24 f) := rfl
theorem WCa_at40 {tA : Nat → ClassId} {q : Nat → Nat} {oe : Ob} {oc : Ob} {ow : Ob} {os : Ob} : (WCa tA q oe oc ow os)[40]? = some (q 40, .inl (tA 0, (400, .inl (ga os 25)))) := rfl
theorem WCa_ar40 {tA : Nat → ClassId} {q : Nat → Nat} {oe : Ob} {oc : Ob} {ow : Ob} {os : Ob} (f : Nat → Int32) : (WCa tA q oe oc ow os).set 40 (q 40, .inl (tA 0, (400, .inl f))) = WCa tA q oe oc ow (sa os 25 f) := rfl
theorem WCa_row2 {tA : Nat → ClassId} {q : Nat → Nat} {oe : Ob} {oc : Ob} {ow : Ob} {os : Ob} (i : Int32) (h : vp_in i 6) : (WCa tA q oe oc ow os)[3 + i.toNatClampNeg]? = some ([q 3, q 4, q 5, q 6, q 7, q 8].getD i.toNatClampNeg 0, .inl (tA 1, 31, .inr (.inl (gb oe (20 + i.toNatClampNeg))))) := by
  have h2 : i.toNatClampNeg < 6 := Nat.not_le.mp fun z => h (Or.inr z)
  generalize i.toNatClampNeg = j at h2
  match j, h2 with
  | 0, _ => rfl
  | 1, _ => rfl
  | 2, _ => rfl
  | 3, _ => rfl
  | 4, _ => rfl
  | 5, _ => rfl
theorem WCa_set2 {tA : Nat → ClassId} {q : Nat → Nat} {oe : Ob} {oc : Ob} {ow : Ob} {os : Ob} (i : Int32) (h : vp_in i 6) (f : Nat → Int64) : (WCa tA q oe oc ow os).set (3 + i.toNatClampNeg) ([q 3, q 4, q 5, q 6, q 7, q 8].getD i.toNatClampNeg 0, .inl (tA 1, 31, .inr (.inl f))) = WCa tA q (sb oe (20 + i.toNatClampNeg) f) oc ow os := by
  have h2 : i.toNatClampNeg < 6 := Nat.not_le.mp fun z => h (Or.inr z)
  generalize i.toNatClampNeg = j at h2
  match j, h2 with
  | 0, _ => rfl
  | 1, _ => rfl
  | 2, _ => rfl
  | 3, _ => rfl
  | 4, _ => rfl
  | 5, _ => rfl
theorem WCa_row34 {tA : Nat → ClassId} {q : Nat → Nat} {oe : Ob} {oc : Ob} {ow : Ob} {os : Ob} (i : Int32) (h : vp_in i 6) : (WCa tA q oe oc ow os)[35 + i.toNatClampNeg]? = some ([q 35, q 36, q 37, q 38, q 39, q 40].getD i.toNatClampNeg 0, .inl (tA 0, 400, .inl (ga os (20 + i.toNatClampNeg)))) := by
  have h2 : i.toNatClampNeg < 6 := Nat.not_le.mp fun z => h (Or.inr z)
  generalize i.toNatClampNeg = j at h2
  match j, h2 with
  | 0, _ => rfl
  | 1, _ => rfl
  | 2, _ => rfl
  | 3, _ => rfl
  | 4, _ => rfl
  | 5, _ => rfl
theorem WCa_set34 {tA : Nat → ClassId} {q : Nat → Nat} {oe : Ob} {oc : Ob} {ow : Ob} {os : Ob} (i : Int32) (h : vp_in i 6) (f : Nat → Int32) : (WCa tA q oe oc ow os).set (35 + i.toNatClampNeg) ([q 35, q 36, q 37, q 38, q 39, q 40].getD i.toNatClampNeg 0, .inl (tA 0, 400, .inl f)) = WCa tA q oe oc ow (sa os (20 + i.toNatClampNeg) f) := by
  have h2 : i.toNatClampNeg < 6 := Nat.not_le.mp fun z => h (Or.inr z)
  generalize i.toNatClampNeg = j at h2
  match j, h2 with
  | 0, _ => rfl
  | 1, _ => rfl
  | 2, _ => rfl
  | 3, _ => rfl
  | 4, _ => rfl
  | 5, _ => rfl
def WDu (tA : Nat → ClassId) (q : Nat → Nat) (of : Ob) (oc : Ob) (ow : Ob) (os : Ob) : va_W := [(q 0, .inr (3, [.ref (q 2), .ref (q 1), .int (gi of 2), .int (gi of 3), .int (gi of 4)])), (q 1, .inl (tA 0, (12, .inl (ga of 1)))), (q 2, .inr (9, [.ref (q 3), .ref (q 10), .ref (q 15)])), (q 3, .inr (2, [.int (gi oc 0), .int (gi oc 1), .ref (q 4), .ref (q 5), .ref (q 6), .ref (q 7), .ref (q 8), .ref (q 9)])), (q 4, .inl (tA 0, (6, .inl (ga oc 2)))), (q 5, .inl (tA 0, (6, .inl (ga oc 3)))), (q 6, .inl (tA 0, (6, .inl (ga oc 4)))), (q 7, .inl (tA 0, (12, .inl (ga oc 5)))), (q 8, .inl (tA 0, (12, .inl (ga oc 6)))), (q 9, .inl (tA 0, (12, .inl (ga oc 7)))), (q 10, .inr (4, [.int (gi ow 0), .ref (q 11), .ref (q 12), .ref (q 13), .ref (q 14)])), (q 11, .inl (tA 0, (6, .inl (ga ow 1)))), (q 12, .inl (tA 0, (6, .inl (ga ow 2)))), (q 13, .inl (tA 0, (6, .inl (ga ow 3)))), (q 14, .inl (tA 0, (6, .inl (ga ow 4)))), (q 15, .inr (6, [.int (gi os 0), .int (gi os 1), .int (gi os 2), .ref (q 16), .ref (q 17), .ref (q 18), .ref (q 19), .ref (q 20), .ref (q 21), .ref (q 22)])), (q 16, .inl (tA 0, (12, .inl (ga os 3)))), (q 17, .inl (tA 0, (12, .inl (ga os 4)))), (q 18, .inl (tA 0, (12, .inl (ga os 5)))), (q 19, .inl (tA 0, (6, .inl (ga os 6)))), (q 20, .inl (tA 0, (6, .inl (ga os 7)))), (q 21, .inl (tA 0, (6, .inl (ga os 8)))), (q 22, .inl (tA 5, (6, .inr (.inr (.inr (.inr (zrow [q 23, q 24, q 25, q 26, q 27, q 28]))))))), (q 23, .inl (tA 0, (400, .inl (ga os 20)))), (q 24, .inl (tA 0, (400, .inl (ga os 21)))), (q 25, .inl (tA 0, (400, .inl (ga os 22)))), (q 26, .inl (tA 0, (400, .inl (ga os 23)))), (q 27, .inl (tA 0, (400, .inl (ga os 24)))), (q 28, .inl (tA 0, (400, .inl (ga os 25))))]
theorem WDu_at0 {tA : Nat → ClassId} {q : Nat → Nat} {of : Ob} {oc : Ob} {ow : Ob} {os : Ob} : (WDu tA q of oc ow os)[0]? = some (q 0, .inr (3, [.ref (q 2), .ref (q 1), .int (gi of 2), .int (gi of 3), .int (gi of 4)])) := rfl
theorem WDu_pt0_2 {tA : Nat → ClassId} {q : Nat → Nat} {of : Ob} {oc : Ob} {ow : Ob} {os : Ob} (v : Int32) : (WDu tA q of oc ow os).set 0 (q 0, .inr (3, List.set [.ref (q 2), .ref (q 1), .int (gi of 2), .int (gi of 3), .int (gi of 4)] 2 (.int v))) = WDu tA q (si of 2 v) oc ow os := rfl
theorem WDu_pt0_3 {tA : Nat → ClassId} {q : Nat → Nat} {of : Ob} {oc : Ob} {ow : Ob} {os : Ob} (v : Int32) : (WDu tA q of oc ow os).set 0 (q 0, .inr (3, List.set [.ref (q 2), .ref (q 1), .int (gi of 2), .int (gi of 3), .int (gi of 4)] 3 (.int v))) = WDu tA q (si of 3 v) oc ow os := rfl
theorem WDu_pt0_4 {tA : Nat → ClassId} {q : Nat → Nat} {of : Ob} {oc : Ob} {ow : Ob} {os : Ob} (v : Int32) : (WDu tA q of oc ow os).set 0 (q 0, .inr (3, List.set [.ref (q 2), .ref (q 1), .int (gi of 2), .int (gi of 3), .int (gi of 4)] 4 (.int v))) = WDu tA q (si of 4 v) oc ow os := rfl
theorem WDu_at1 {tA : Nat → ClassId} {q : Nat → Nat} {of : Ob} {oc : Ob} {ow : Ob} {os : Ob} : (WDu tA q of oc ow os)[1]? = some (q 1, .inl (tA 0, (12, .inl (ga of 1)))) := rfl
theorem WDu_ar1 {tA : Nat → ClassId} {q : Nat → Nat} {of : Ob} {oc : Ob} {ow : Ob} {os : Ob} (f : Nat → Int32) : (WDu tA q of oc ow os).set 1 (q 1, .inl (tA 0, (12, .inl f))) = WDu tA q (sa of 1 f) oc ow os := rfl
theorem WDu_at2 {tA : Nat → ClassId} {q : Nat → Nat} {of : Ob} {oc : Ob} {ow : Ob} {os : Ob} : (WDu tA q of oc ow os)[2]? = some (q 2, .inr (9, [.ref (q 3), .ref (q 10), .ref (q 15)])) := rfl
theorem WDu_at3 {tA : Nat → ClassId} {q : Nat → Nat} {of : Ob} {oc : Ob} {ow : Ob} {os : Ob} : (WDu tA q of oc ow os)[3]? = some (q 3, .inr (2, [.int (gi oc 0), .int (gi oc 1), .ref (q 4), .ref (q 5), .ref (q 6), .ref (q 7), .ref (q 8), .ref (q 9)])) := rfl
theorem WDu_pt3_0 {tA : Nat → ClassId} {q : Nat → Nat} {of : Ob} {oc : Ob} {ow : Ob} {os : Ob} (v : Int32) : (WDu tA q of oc ow os).set 3 (q 3, .inr (2, List.set [.int (gi oc 0), .int (gi oc 1), .ref (q 4), .ref (q 5), .ref (q 6), .ref (q 7), .ref (q 8), .ref (q 9)] 0 (.int v))) = WDu tA q of (si oc 0 v) ow os := rfl
theorem WDu_pt3_1 {tA : Nat → ClassId} {q : Nat → Nat} {of : Ob} {oc : Ob} {ow : Ob} {os : Ob} (v : Int32) : (WDu tA q of oc ow os).set 3 (q 3, .inr (2, List.set [.int (gi oc 0), .int (gi oc 1), .ref (q 4), .ref (q 5), .ref (q 6), .ref (q 7), .ref (q 8), .ref (q 9)] 1 (.int v))) = WDu tA q of (si oc 1 v) ow os := rfl
theorem WDu_at4 {tA : Nat → ClassId} {q : Nat → Nat} {of : Ob} {oc : Ob} {ow : Ob} {os : Ob} : (WDu tA q of oc ow os)[4]? = some (q 4, .inl (tA 0, (6, .inl (ga oc 2)))) := rfl
theorem WDu_ar4 {tA : Nat → ClassId} {q : Nat → Nat} {of : Ob} {oc : Ob} {ow : Ob} {os : Ob} (f : Nat → Int32) : (WDu tA q of oc ow os).set 4 (q 4, .inl (tA 0, (6, .inl f))) = WDu tA q of (sa oc 2 f) ow os := rfl
theorem WDu_at5 {tA : Nat → ClassId} {q : Nat → Nat} {of : Ob} {oc : Ob} {ow : Ob} {os : Ob} : (WDu tA q of oc ow os)[5]? = some (q 5, .inl (tA 0, (6, .inl (ga oc 3)))) := rfl
theorem WDu_ar5 {tA : Nat → ClassId} {q : Nat → Nat} {of : Ob} {oc : Ob} {ow : Ob} {os : Ob} (f : Nat → Int32) : (WDu tA q of oc ow os).set 5 (q 5, .inl (tA 0, (6, .inl f))) = WDu tA q of (sa oc 3 f) ow os := rfl
theorem WDu_at6 {tA : Nat → ClassId} {q : Nat → Nat} {of : Ob} {oc : Ob} {ow : Ob} {os : Ob} : (WDu tA q of oc ow os)[6]? = some (q 6, .inl (tA 0, (6, .inl (ga oc 4)))) := rfl
theorem WDu_ar6 {tA : Nat → ClassId} {q : Nat → Nat} {of : Ob} {oc : Ob} {ow : Ob} {os : Ob} (f : Nat → Int32) : (WDu tA q of oc ow os).set 6 (q 6, .inl (tA 0, (6, .inl f))) = WDu tA q of (sa oc 4 f) ow os := rfl
theorem WDu_at7 {tA : Nat → ClassId} {q : Nat → Nat} {of : Ob} {oc : Ob} {ow : Ob} {os : Ob} : (WDu tA q of oc ow os)[7]? = some (q 7, .inl (tA 0, (12, .inl (ga oc 5)))) := rfl
theorem WDu_ar7 {tA : Nat → ClassId} {q : Nat → Nat} {of : Ob} {oc : Ob} {ow : Ob} {os : Ob} (f : Nat → Int32) : (WDu tA q of oc ow os).set 7 (q 7, .inl (tA 0, (12, .inl f))) = WDu tA q of (sa oc 5 f) ow os := rfl
theorem WDu_at8 {tA : Nat → ClassId} {q : Nat → Nat} {of : Ob} {oc : Ob} {ow : Ob} {os : Ob} : (WDu tA q of oc ow os)[8]? = some (q 8, .inl (tA 0, (12, .inl (ga oc 6)))) := rfl
theorem WDu_ar8 {tA : Nat → ClassId} {q : Nat → Nat} {of : Ob} {oc : Ob} {ow : Ob} {os : Ob} (f : Nat → Int32) : (WDu tA q of oc ow os).set 8 (q 8, .inl (tA 0, (12, .inl f))) = WDu tA q of (sa oc 6 f) ow os := rfl
theorem WDu_at9 {tA : Nat → ClassId} {q : Nat → Nat} {of : Ob} {oc : Ob} {ow : Ob} {os : Ob} : (WDu tA q of oc ow os)[9]? = some (q 9, .inl (tA 0, (12, .inl (ga oc 7)))) := rfl
theorem WDu_ar9 {tA : Nat → ClassId} {q : Nat → Nat} {of : Ob} {oc : Ob} {ow : Ob} {os : Ob} (f : Nat → Int32) : (WDu tA q of oc ow os).set 9 (q 9, .inl (tA 0, (12, .inl f))) = WDu tA q of (sa oc 7 f) ow os := rfl
theorem WDu_at10 {tA : Nat → ClassId} {q : Nat → Nat} {of : Ob} {oc : Ob} {ow : Ob} {os : Ob} : (WDu tA q of oc ow os)[10]? = some (q 10, .inr (4, [.int (gi ow 0), .ref (q 11), .ref (q 12), .ref (q 13), .ref (q 14)])) := rfl
theorem WDu_pt10_0 {tA : Nat → ClassId} {q : Nat → Nat} {of : Ob} {oc : Ob} {ow : Ob} {os : Ob} (v : Int32) : (WDu tA q of oc ow os).set 10 (q 10, .inr (4, List.set [.int (gi ow 0), .ref (q 11), .ref (q 12), .ref (q 13), .ref (q 14)] 0 (.int v))) = WDu tA q of oc (si ow 0 v) os := rfl
theorem WDu_at11 {tA : Nat → ClassId} {q : Nat → Nat} {of : Ob} {oc : Ob} {ow : Ob} {os : Ob} : (WDu tA q of oc ow os)[11]? = some (q 11, .inl (tA 0, (6, .inl (ga ow 1)))) := rfl
theorem WDu_ar11 {tA : Nat → ClassId} {q : Nat → Nat} {of : Ob} {oc : Ob} {ow : Ob} {os : Ob} (f : Nat → Int32) : (WDu tA q of oc ow os).set 11 (q 11, .inl (tA 0, (6, .inl f))) = WDu tA q of oc (sa ow 1 f) os := rfl
theorem WDu_at12 {tA : Nat → ClassId} {q : Nat → Nat} {of : Ob} {oc : Ob} {ow : Ob} {os : Ob} : (WDu tA q of oc ow os)[12]? = some (q 12, .inl (tA 0, (6, .inl (ga ow 2)))) := rfl
theorem WDu_ar12 {tA : Nat → ClassId} {q : Nat → Nat} {of : Ob} {oc : Ob} {ow : Ob} {os : Ob} (f : Nat → Int32) : (WDu tA q of oc ow os).set 12 (q 12, .inl (tA 0, (6, .inl f))) = WDu tA q of oc (sa ow 2 f) os := rfl
theorem WDu_at13 {tA : Nat → ClassId} {q : Nat → Nat} {of : Ob} {oc : Ob} {ow : Ob} {os : Ob} : (WDu tA q of oc ow os)[13]? = some (q 13, .inl (tA 0, (6, .inl (ga ow 3)))) := rfl
theorem WDu_ar13 {tA : Nat → ClassId} {q : Nat → Nat} {of : Ob} {oc : Ob} {ow : Ob} {os : Ob} (f : Nat → Int32) : (WDu tA q of oc ow os).set 13 (q 13, .inl (tA 0, (6, .inl f))) = WDu tA q of oc (sa ow 3 f) os := rfl
theorem WDu_at14 {tA : Nat → ClassId} {q : Nat → Nat} {of : Ob} {oc : Ob} {ow : Ob} {os : Ob} : (WDu tA q of oc ow os)[14]? = some (q 14, .inl (tA 0, (6, .inl (ga ow 4)))) := rfl
theorem WDu_ar14 {tA : Nat → ClassId} {q : Nat → Nat} {of : Ob} {oc : Ob} {ow : Ob} {os : Ob} (f : Nat → Int32) : (WDu tA q of oc ow os).set 14 (q 14, .inl (tA 0, (6, .inl f))) = WDu tA q of oc (sa ow 4 f) os := rfl
theorem WDu_at15 {tA : Nat → ClassId} {q : Nat → Nat} {of : Ob} {oc : Ob} {ow : Ob} {os : Ob} : (WDu tA q of oc ow os)[15]? = some (q 15, .inr (6, [.int (gi os 0), .int (gi os 1), .int (gi os 2), .ref (q 16), .ref (q 17), .ref (q 18), .ref (q 19), .ref (q 20), .ref (q 21), .ref (q 22)])) := rfl
theorem WDu_pt15_0 {tA : Nat → ClassId} {q : Nat → Nat} {of : Ob} {oc : Ob} {ow : Ob} {os : Ob} (v : Int32) : (WDu tA q of oc ow os).set 15 (q 15, .inr (6, List.set [.int (gi os 0), .int (gi os 1), .int (gi os 2), .ref (q 16), .ref (q 17), .ref (q 18), .ref (q 19), .ref (q 20), .ref (q 21), .ref (q 22)] 0 (.int v))) = WDu tA q of oc ow (si os 0 v) := rfl
theorem WDu_pt15_1 {tA : Nat → ClassId} {q : Nat → Nat} {of : Ob} {oc : Ob} {ow : Ob} {os : Ob} (v : Int32) : (WDu tA q of oc ow os).set 15 (q 15, .inr (6, List.set [.int (gi os 0), .int (gi os 1), .int (gi os 2), .ref (q 16), .ref (q 17), .ref (q 18), .ref (q 19), .ref (q 20), .ref (q 21), .ref (q 22)] 1 (.int v))) = WDu tA q of oc ow (si os 1 v) := rfl
theorem WDu_pt15_2 {tA : Nat → ClassId} {q : Nat → Nat} {of : Ob} {oc : Ob} {ow : Ob} {os : Ob} (v : Int32) : (WDu tA q of oc ow os).set 15 (q 15, .inr (6, List.set [.int (gi os 0), .int (gi os 1), .int (gi os 2), .ref (q 16), .ref (q 17), .ref (q 18), .ref (q 19), .ref (q 20), .ref (q 21), .ref (q 22)] 2 (.int v))) = WDu tA q of oc ow (si os 2 v) := rfl
theorem WDu_at16 {tA : Nat → ClassId} {q : Nat → Nat} {of : Ob} {oc : Ob} {ow : Ob} {os : Ob} : (WDu tA q of oc ow os)[16]? = some (q 16, .inl (tA 0, (12, .inl (ga os 3)))) := rfl
theorem WDu_ar16 {tA : Nat → ClassId} {q : Nat → Nat} {of : Ob} {oc : Ob} {ow : Ob} {os : Ob} (f : Nat → Int32) : (WDu tA q of oc ow os).set 16 (q 16, .inl (tA 0, (12, .inl f))) = WDu tA q of oc ow (sa os 3 f) := rfl
theorem WDu_at17 {tA : Nat → ClassId} {q : Nat → Nat} {of : Ob} {oc : Ob} {ow : Ob} {os : Ob} : (WDu tA q of oc ow os)[17]? = some (q 17, .inl (tA 0, (12, .inl (ga os 4)))) := rfl
theorem WDu_ar17 {tA : Nat → ClassId} {q : Nat → Nat} {of : Ob} {oc : Ob} {ow : Ob} {os : Ob} (f : Nat → Int32) : (WDu tA q of oc ow os).set 17 (q 17, .inl (tA 0, (12, .inl f))) = WDu tA q of oc ow (sa os 4 f) := rfl
theorem WDu_at18 {tA : Nat → ClassId} {q : Nat → Nat} {of : Ob} {oc : Ob} {ow : Ob} {os : Ob} : (WDu tA q of oc ow os)[18]? = some (q 18, .inl (tA 0, (12, .inl (ga os 5)))) := rfl
theorem WDu_ar18 {tA : Nat → ClassId} {q : Nat → Nat} {of : Ob} {oc : Ob} {ow : Ob} {os : Ob} (f : Nat → Int32) : (WDu tA q of oc ow os).set 18 (q 18, .inl (tA 0, (12, .inl f))) = WDu tA q of oc ow (sa os 5 f) := rfl
theorem WDu_at19 {tA : Nat → ClassId} {q : Nat → Nat} {of : Ob} {oc : Ob} {ow : Ob} {os : Ob} : (WDu tA q of oc ow os)[19]? = some (q 19, .inl (tA 0, (6, .inl (ga os 6)))) := rfl
theorem WDu_ar19 {tA : Nat → ClassId} {q : Nat → Nat} {of : Ob} {oc : Ob} {ow : Ob} {os : Ob} (f : Nat → Int32) : (WDu tA q of oc ow os).set 19 (q 19, .inl (tA 0, (6, .inl f))) = WDu tA q of oc ow (sa os 6 f) := rfl
theorem WDu_at20 {tA : Nat → ClassId} {q : Nat → Nat} {of : Ob} {oc : Ob} {ow : Ob} {os : Ob} : (WDu tA q of oc ow os)[20]? = some (q 20, .inl (tA 0, (6, .inl (ga os 7)))) := rfl
theorem WDu_ar20 {tA : Nat → ClassId} {q : Nat → Nat} {of : Ob} {oc : Ob} {ow : Ob} {os : Ob} (f : Nat → Int32) : (WDu tA q of oc ow os).set 20 (q 20, .inl (tA 0, (6, .inl f))) = WDu tA q of oc ow (sa os 7 f) := rfl
theorem WDu_at21 {tA : Nat → ClassId} {q : Nat → Nat} {of : Ob} {oc : Ob} {ow : Ob} {os : Ob} : (WDu tA q of oc ow os)[21]? = some (q 21, .inl (tA 0, (6, .inl (ga os 8)))) := rfl
theorem WDu_ar21 {tA : Nat → ClassId} {q : Nat → Nat} {of : Ob} {oc : Ob} {ow : Ob} {os : Ob} (f : Nat → Int32) : (WDu tA q of oc ow os).set 21 (q 21, .inl (tA 0, (6, .inl f))) = WDu tA q of oc ow (sa os 8 f) := rfl
theorem WDu_at22 {tA : Nat → ClassId} {q : Nat → Nat} {of : Ob} {oc : Ob} {ow : Ob} {os : Ob} : (WDu tA q of oc ow os)[22]? = some (q 22, .inl (tA 5, (6, .inr (.inr (.inr (.inr (zrow [q 23, q 24, q 25, q 26, q 27, q 28]))))))) := rfl
theorem WDu_at23 {tA : Nat → ClassId} {q : Nat → Nat} {of : Ob} {oc : Ob} {ow : Ob} {os : Ob} : (WDu tA q of oc ow os)[23]? = some (q 23, .inl (tA 0, (400, .inl (ga os 20)))) := rfl
theorem WDu_ar23 {tA : Nat → ClassId} {q : Nat → Nat} {of : Ob} {oc : Ob} {ow : Ob} {os : Ob} (f : Nat → Int32) : (WDu tA q of oc ow os).set 23 (q 23, .inl (tA 0, (400, .inl f))) = WDu tA q of oc ow (sa os 20 f) := rfl
theorem WDu_at24 {tA : Nat → ClassId} {q : Nat → Nat} {of : Ob} {oc : Ob} {ow : Ob} {os : Ob} : (WDu tA q of oc ow os)[24]? = some (q 24, .inl (tA 0, (400, .inl (ga os 21)))) := rfl
theorem WDu_ar24 {tA : Nat → ClassId} {q : Nat → Nat} {of : Ob} {oc : Ob} {ow : Ob} {os : Ob} (f : Nat → Int32) : (WDu tA q of oc ow os).set 24 (q 24, .inl (tA 0, (400, .inl f))) = WDu tA q of oc ow (sa os 21 f) := rfl
theorem WDu_at25 {tA : Nat → ClassId} {q : Nat → Nat} {of : Ob} {oc : Ob} {ow : Ob} {os : Ob} : (WDu tA q of oc ow os)[25]? = some (q 25, .inl (tA 0, (400, .inl (ga os 22)))) := rfl
theorem WDu_ar25 {tA : Nat → ClassId} {q : Nat → Nat} {of : Ob} {oc : Ob} {ow : Ob} {os : Ob} (f : Nat → Int32) : (WDu tA q of oc ow os).set 25 (q 25, .inl (tA 0, (400, .inl f))) = WDu tA q of oc ow (sa os 22 f) := rfl
theorem WDu_at26 {tA : Nat → ClassId} {q : Nat → Nat} {of : Ob} {oc : Ob} {ow : Ob} {os : Ob} : (WDu tA q of oc ow os)[26]? = some (q 26, .inl (tA 0, (400, .inl (ga os 23)))) := rfl
theorem WDu_ar26 {tA : Nat → ClassId} {q : Nat → Nat} {of : Ob} {oc : Ob} {ow : Ob} {os : Ob} (f : Nat → Int32) : (WDu tA q of oc ow os).set 26 (q 26, .inl (tA 0, (400, .inl f))) = WDu tA q of oc ow (sa os 23 f) := rfl
theorem WDu_at27 {tA : Nat → ClassId} {q : Nat → Nat} {of : Ob} {oc : Ob} {ow : Ob} {os : Ob} : (WDu tA q of oc ow os)[27]? = some (q 27, .inl (tA 0, (400, .inl (ga os 24)))) := rfl
theorem WDu_ar27 {tA : Nat → ClassId} {q : Nat → Nat} {of : Ob} {oc : Ob} {ow : Ob} {os : Ob} (f : Nat → Int32) : (WDu tA q of oc ow os).set 27 (q 27, .inl (tA 0, (400, .inl f))) = WDu tA q of oc ow (sa os 24 f) := rfl
theorem WDu_at28 {tA : Nat → ClassId} {q : Nat → Nat} {of : Ob} {oc : Ob} {ow : Ob} {os : Ob} : (WDu tA q of oc ow os)[28]? = some (q 28, .inl (tA 0, (400, .inl (ga os 25)))) := rfl
theorem WDu_ar28 {tA : Nat → ClassId} {q : Nat → Nat} {of : Ob} {oc : Ob} {ow : Ob} {os : Ob} (f : Nat → Int32) : (WDu tA q of oc ow os).set 28 (q 28, .inl (tA 0, (400, .inl f))) = WDu tA q of oc ow (sa os 25 f) := rfl
theorem WDu_row22 {tA : Nat → ClassId} {q : Nat → Nat} {of : Ob} {oc : Ob} {ow : Ob} {os : Ob} (i : Int32) (h : vp_in i 6) : (WDu tA q of oc ow os)[23 + i.toNatClampNeg]? = some ([q 23, q 24, q 25, q 26, q 27, q 28].getD i.toNatClampNeg 0, .inl (tA 0, 400, .inl (ga os (20 + i.toNatClampNeg)))) := by
  have h2 : i.toNatClampNeg < 6 := Nat.not_le.mp fun z => h (Or.inr z)
  generalize i.toNatClampNeg = j at h2
  match j, h2 with
  | 0, _ => rfl
  | 1, _ => rfl
  | 2, _ => rfl
  | 3, _ => rfl
  | 4, _ => rfl
  | 5, _ => rfl
theorem WDu_set22 {tA : Nat → ClassId} {q : Nat → Nat} {of : Ob} {oc : Ob} {ow : Ob} {os : Ob} (i : Int32) (h : vp_in i 6) (f : Nat → Int32) : (WDu tA q of oc ow os).set (23 + i.toNatClampNeg) ([q 23, q 24, q 25, q 26, q 27, q 28].getD i.toNatClampNeg 0, .inl (tA 0, 400, .inl f)) = WDu tA q of oc ow (sa os (20 + i.toNatClampNeg) f) := by
  have h2 : i.toNatClampNeg < 6 := Nat.not_le.mp fun z => h (Or.inr z)
  generalize i.toNatClampNeg = j at h2
  match j, h2 with
  | 0, _ => rfl
  | 1, _ => rfl
  | 2, _ => rfl
  | 3, _ => rfl
  | 4, _ => rfl
  | 5, _ => rfl
def WTo (tA : Nat → ClassId) (q : Nat → Nat) (oh : Ob) (oc : Ob) (ow : Ob) (os : Ob) : va_W := [(q 0, .inr (8, [.ref (q 2), .ref (q 1)])), (q 1, .inl (tA 0, (6, .inl (ga oh 1)))), (q 2, .inr (9, [.ref (q 3), .ref (q 10), .ref (q 15)])), (q 3, .inr (2, [.int (gi oc 0), .int (gi oc 1), .ref (q 4), .ref (q 5), .ref (q 6), .ref (q 7), .ref (q 8), .ref (q 9)])), (q 4, .inl (tA 0, (6, .inl (ga oc 2)))), (q 5, .inl (tA 0, (6, .inl (ga oc 3)))), (q 6, .inl (tA 0, (6, .inl (ga oc 4)))), (q 7, .inl (tA 0, (12, .inl (ga oc 5)))), (q 8, .inl (tA 0, (12, .inl (ga oc 6)))), (q 9, .inl (tA 0, (12, .inl (ga oc 7)))), (q 10, .inr (4, [.int (gi ow 0), .ref (q 11), .ref (q 12), .ref (q 13), .ref (q 14)])), (q 11, .inl (tA 0, (6, .inl (ga ow 1)))), (q 12, .inl (tA 0, (6, .inl (ga ow 2)))), (q 13, .inl (tA 0, (6, .inl (ga ow 3)))), (q 14, .inl (tA 0, (6, .inl (ga ow 4)))), (q 15, .inr (6, [.int (gi os 0), .int (gi os 1), .int (gi os 2), .ref (q 16), .ref (q 17), .ref (q 18), .ref (q 19), .ref (q 20), .ref (q 21), .ref (q 22)])), (q 16, .inl (tA 0, (12, .inl (ga os 3)))), (q 17, .inl (tA 0, (12, .inl (ga os 4)))), (q 18, .inl (tA 0, (12, .inl (ga os 5)))), (q 19, .inl (tA 0, (6, .inl (ga os 6)))), (q 20, .inl (tA 0, (6, .inl (ga os 7)))), (q 21, .inl (tA 0, (6, .inl (ga os 8)))), (q 22, .inl (tA 5, (6, .inr (.inr (.inr (.inr (zrow [q 23, q 24, q 25, q 26, q 27, q 28]))))))), (q 23, .inl (tA 0, (400, .inl (ga os 20)))), (q 24, .inl (tA 0, (400, .inl (ga os 21)))), (q 25, .inl (tA 0, (400, .inl (ga os 22)))), (q 26, .inl (tA 0, (400, .inl (ga os 23)))), (q 27, .inl (tA 0, (400, .inl (ga os 24)))), (q 28, .inl (tA 0, (400, .inl (ga os 25))))]
theorem WTo_at0 {tA : Nat → ClassId} {q : Nat → Nat} {oh : Ob} {oc : Ob} {ow : Ob} {os : Ob} : (WTo tA q oh oc ow os)[0]? = some (q 0, .inr (8, [.ref (q 2), .ref (q 1)])) := rfl
theorem WTo_at1 {tA : Nat → ClassId} {q : Nat → Nat} {oh : Ob} {oc : Ob} {ow : Ob} {os : Ob} : (WTo tA q oh oc ow os)[1]? = some (q 1, .inl (tA 0, (6, .inl (ga oh 1)))) := rfl
theorem WTo_ar1 {tA : Nat → ClassId} {q : Nat → Nat} {oh : Ob} {oc : Ob} {ow : Ob} {os : Ob} (f : Nat → Int32) : (WTo tA q oh oc ow os).set 1 (q 1, .inl (tA 0, (6, .inl f))) = WTo tA q (sa oh 1 f) oc ow os := rfl
theorem WTo_at2 {tA : Nat → ClassId} {q : Nat → Nat} {oh : Ob} {oc : Ob} {ow : Ob} {os : Ob} : (WTo tA q oh oc ow os)[2]? = some (q 2, .inr (9, [.ref (q 3), .ref (q 10), .ref (q 15)])) := rfl
theorem WTo_at3 {tA : Nat → ClassId} {q : Nat → Nat} {oh : Ob} {oc : Ob} {ow : Ob} {os : Ob} : (WTo tA q oh oc ow os)[3]? = some (q 3, .inr (2, [.int (gi oc 0), .int (gi oc 1), .ref (q 4), .ref (q 5), .ref (q 6), .ref (q 7), .ref (q 8), .ref (q 9)])) := rfl
theorem WTo_pt3_0 {tA : Nat → ClassId} {q : Nat → Nat} {oh : Ob} {oc : Ob} {ow : Ob} {os : Ob} (v : Int32) : (WTo tA q oh oc ow os).set 3 (q 3, .inr (2, List.set [.int (gi oc 0), .int (gi oc 1), .ref (q 4), .ref (q 5), .ref (q 6), .ref (q 7), .ref (q 8), .ref (q 9)] 0 (.int v))) = WTo tA q oh (si oc 0 v) ow os := rfl
theorem WTo_pt3_1 {tA : Nat → ClassId} {q : Nat → Nat} {oh : Ob} {oc : Ob} {ow : Ob} {os : Ob} (v : Int32) : (WTo tA q oh oc ow os).set 3 (q 3, .inr (2, List.set [.int (gi oc 0), .int (gi oc 1), .ref (q 4), .ref (q 5), .ref (q 6), .ref (q 7), .ref (q 8), .ref (q 9)] 1 (.int v))) = WTo tA q oh (si oc 1 v) ow os := rfl
theorem WTo_at4 {tA : Nat → ClassId} {q : Nat → Nat} {oh : Ob} {oc : Ob} {ow : Ob} {os : Ob} : (WTo tA q oh oc ow os)[4]? = some (q 4, .inl (tA 0, (6, .inl (ga oc 2)))) := rfl
theorem WTo_ar4 {tA : Nat → ClassId} {q : Nat → Nat} {oh : Ob} {oc : Ob} {ow : Ob} {os : Ob} (f : Nat → Int32) : (WTo tA q oh oc ow os).set 4 (q 4, .inl (tA 0, (6, .inl f))) = WTo tA q oh (sa oc 2 f) ow os := rfl
theorem WTo_at5 {tA : Nat → ClassId} {q : Nat → Nat} {oh : Ob} {oc : Ob} {ow : Ob} {os : Ob} : (WTo tA q oh oc ow os)[5]? = some (q 5, .inl (tA 0, (6, .inl (ga oc 3)))) := rfl
theorem WTo_ar5 {tA : Nat → ClassId} {q : Nat → Nat} {oh : Ob} {oc : Ob} {ow : Ob} {os : Ob} (f : Nat → Int32) : (WTo tA q oh oc ow os).set 5 (q 5, .inl (tA 0, (6, .inl f))) = WTo tA q oh (sa oc 3 f) ow os := rfl
theorem WTo_at6 {tA : Nat → ClassId} {q : Nat → Nat} {oh : Ob} {oc : Ob} {ow : Ob} {os : Ob} : (WTo tA q oh oc ow os)[6]? = some (q 6, .inl (tA 0, (6, .inl (ga oc 4)))) := rfl
theorem WTo_ar6 {tA : Nat → ClassId} {q : Nat → Nat} {oh : Ob} {oc : Ob} {ow : Ob} {os : Ob} (f : Nat → Int32) : (WTo tA q oh oc ow os).set 6 (q 6, .inl (tA 0, (6, .inl f))) = WTo tA q oh (sa oc 4 f) ow os := rfl
theorem WTo_at7 {tA : Nat → ClassId} {q : Nat → Nat} {oh : Ob} {oc : Ob} {ow : Ob} {os : Ob} : (WTo tA q oh oc ow os)[7]? = some (q 7, .inl (tA 0, (12, .inl (ga oc 5)))) := rfl
theorem WTo_ar7 {tA : Nat → ClassId} {q : Nat → Nat} {oh : Ob} {oc : Ob} {ow : Ob} {os : Ob} (f : Nat → Int32) : (WTo tA q oh oc ow os).set 7 (q 7, .inl (tA 0, (12, .inl f))) = WTo tA q oh (sa oc 5 f) ow os := rfl
theorem WTo_at8 {tA : Nat → ClassId} {q : Nat → Nat} {oh : Ob} {oc : Ob} {ow : Ob} {os : Ob} : (WTo tA q oh oc ow os)[8]? = some (q 8, .inl (tA 0, (12, .inl (ga oc 6)))) := rfl
theorem WTo_ar8 {tA : Nat → ClassId} {q : Nat → Nat} {oh : Ob} {oc : Ob} {ow : Ob} {os : Ob} (f : Nat → Int32) : (WTo tA q oh oc ow os).set 8 (q 8, .inl (tA 0, (12, .inl f))) = WTo tA q oh (sa oc 6 f) ow os := rfl
theorem WTo_at9 {tA : Nat → ClassId} {q : Nat → Nat} {oh : Ob} {oc : Ob} {ow : Ob} {os : Ob} : (WTo tA q oh oc ow os)[9]? = some (q 9, .inl (tA 0, (12, .inl (ga oc 7)))) := rfl
theorem WTo_ar9 {tA : Nat → ClassId} {q : Nat → Nat} {oh : Ob} {oc : Ob} {ow : Ob} {os : Ob} (f : Nat → Int32) : (WTo tA q oh oc ow os).set 9 (q 9, .inl (tA 0, (12, .inl f))) = WTo tA q oh (sa oc 7 f) ow os := rfl
theorem WTo_at10 {tA : Nat → ClassId} {q : Nat → Nat} {oh : Ob} {oc : Ob} {ow : Ob} {os : Ob} : (WTo tA q oh oc ow os)[10]? = some (q 10, .inr (4, [.int (gi ow 0), .ref (q 11), .ref (q 12), .ref (q 13), .ref (q 14)])) := rfl
theorem WTo_pt10_0 {tA : Nat → ClassId} {q : Nat → Nat} {oh : Ob} {oc : Ob} {ow : Ob} {os : Ob} (v : Int32) : (WTo tA q oh oc ow os).set 10 (q 10, .inr (4, List.set [.int (gi ow 0), .ref (q 11), .ref (q 12), .ref (q 13), .ref (q 14)] 0 (.int v))) = WTo tA q oh oc (si ow 0 v) os := rfl
theorem WTo_at11 {tA : Nat → ClassId} {q : Nat → Nat} {oh : Ob} {oc : Ob} {ow : Ob} {os : Ob} : (WTo tA q oh oc ow os)[11]? = some (q 11, .inl (tA 0, (6, .inl (ga ow 1)))) := rfl
theorem WTo_ar11 {tA : Nat → ClassId} {q : Nat → Nat} {oh : Ob} {oc : Ob} {ow : Ob} {os : Ob} (f : Nat → Int32) : (WTo tA q oh oc ow os).set 11 (q 11, .inl (tA 0, (6, .inl f))) = WTo tA q oh oc (sa ow 1 f) os := rfl
theorem WTo_at12 {tA : Nat → ClassId} {q : Nat → Nat} {oh : Ob} {oc : Ob} {ow : Ob} {os : Ob} : (WTo tA q oh oc ow os)[12]? = some (q 12, .inl (tA 0, (6, .inl (ga ow 2)))) := rfl
theorem WTo_ar12 {tA : Nat → ClassId} {q : Nat → Nat} {oh : Ob} {oc : Ob} {ow : Ob} {os : Ob} (f : Nat → Int32) : (WTo tA q oh oc ow os).set 12 (q 12, .inl (tA 0, (6, .inl f))) = WTo tA q oh oc (sa ow 2 f) os := rfl
theorem WTo_at13 {tA : Nat → ClassId} {q : Nat → Nat} {oh : Ob} {oc : Ob} {ow : Ob} {os : Ob} : (WTo tA q oh oc ow os)[13]? = some (q 13, .inl (tA 0, (6, .inl (ga ow 3)))) := rfl
theorem WTo_ar13 {tA : Nat → ClassId} {q : Nat → Nat} {oh : Ob} {oc : Ob} {ow : Ob} {os : Ob} (f : Nat → Int32) : (WTo tA q oh oc ow os).set 13 (q 13, .inl (tA 0, (6, .inl f))) = WTo tA q oh oc (sa ow 3 f) os := rfl
theorem WTo_at14 {tA : Nat → ClassId} {q : Nat → Nat} {oh : Ob} {oc : Ob} {ow : Ob} {os : Ob} : (WTo tA q oh oc ow os)[14]? = some (q 14, .inl (tA 0, (6, .inl (ga ow 4)))) := rfl
theorem WTo_ar14 {tA : Nat → ClassId} {q : Nat → Nat} {oh : Ob} {oc : Ob} {ow : Ob} {os : Ob} (f : Nat → Int32) : (WTo tA q oh oc ow os).set 14 (q 14, .inl (tA 0, (6, .inl f))) = WTo tA q oh oc (sa ow 4 f) os := rfl
theorem WTo_at15 {tA : Nat → ClassId} {q : Nat → Nat} {oh : Ob} {oc : Ob} {ow : Ob} {os : Ob} : (WTo tA q oh oc ow os)[15]? = some (q 15, .inr (6, [.int (gi os 0), .int (gi os 1), .int (gi os 2), .ref (q 16), .ref (q 17), .ref (q 18), .ref (q 19), .ref (q 20), .ref (q 21), .ref (q 22)])) := rfl
theorem WTo_pt15_0 {tA : Nat → ClassId} {q : Nat → Nat} {oh : Ob} {oc : Ob} {ow : Ob} {os : Ob} (v : Int32) : (WTo tA q oh oc ow os).set 15 (q 15, .inr (6, List.set [.int (gi os 0), .int (gi os 1), .int (gi os 2), .ref (q 16), .ref (q 17), .ref (q 18), .ref (q 19), .ref (q 20), .ref (q 21), .ref (q 22)] 0 (.int v))) = WTo tA q oh oc ow (si os 0 v) := rfl
theorem WTo_pt15_1 {tA : Nat → ClassId} {q : Nat → Nat} {oh : Ob} {oc : Ob} {ow : Ob} {os : Ob} (v : Int32) : (WTo tA q oh oc ow os).set 15 (q 15, .inr (6, List.set [.int (gi os 0), .int (gi os 1), .int (gi os 2), .ref (q 16), .ref (q 17), .ref (q 18), .ref (q 19), .ref (q 20), .ref (q 21), .ref (q 22)] 1 (.int v))) = WTo tA q oh oc ow (si os 1 v) := rfl
theorem WTo_pt15_2 {tA : Nat → ClassId} {q : Nat → Nat} {oh : Ob} {oc : Ob} {ow : Ob} {os : Ob} (v : Int32) : (WTo tA q oh oc ow os).set 15 (q 15, .inr (6, List.set [.int (gi os 0), .int (gi os 1), .int (gi os 2), .ref (q 16), .ref (q 17), .ref (q 18), .ref (q 19), .ref (q 20), .ref (q 21), .ref (q 22)] 2 (.int v))) = WTo tA q oh oc ow (si os 2 v) := rfl
theorem WTo_at16 {tA : Nat → ClassId} {q : Nat → Nat} {oh : Ob} {oc : Ob} {ow : Ob} {os : Ob} : (WTo tA q oh oc ow os)[16]? = some (q 16, .inl (tA 0, (12, .inl (ga os 3)))) := rfl
theorem WTo_ar16 {tA : Nat → ClassId} {q : Nat → Nat} {oh : Ob} {oc : Ob} {ow : Ob} {os : Ob} (f : Nat → Int32) : (WTo tA q oh oc ow os).set 16 (q 16, .inl (tA 0, (12, .inl f))) = WTo tA q oh oc ow (sa os 3 f) := rfl
theorem WTo_at17 {tA : Nat → ClassId} {q : Nat → Nat} {oh : Ob} {oc : Ob} {ow : Ob} {os : Ob} : (WTo tA q oh oc ow os)[17]? = some (q 17, .inl (tA 0, (12, .inl (ga os 4)))) := rfl
theorem WTo_ar17 {tA : Nat → ClassId} {q : Nat → Nat} {oh : Ob} {oc : Ob} {ow : Ob} {os : Ob} (f : Nat → Int32) : (WTo tA q oh oc ow os).set 17 (q 17, .inl (tA 0, (12, .inl f))) = WTo tA q oh oc ow (sa os 4 f) := rfl
theorem WTo_at18 {tA : Nat → ClassId} {q : Nat → Nat} {oh : Ob} {oc : Ob} {ow : Ob} {os : Ob} : (WTo tA q oh oc ow os)[18]? = some (q 18, .inl (tA 0, (12, .inl (ga os 5)))) := rfl
theorem WTo_ar18 {tA : Nat → ClassId} {q : Nat → Nat} {oh : Ob} {oc : Ob} {ow : Ob} {os : Ob} (f : Nat → Int32) : (WTo tA q oh oc ow os).set 18 (q 18, .inl (tA 0, (12, .inl f))) = WTo tA q oh oc ow (sa os 5 f) := rfl
theorem WTo_at19 {tA : Nat → ClassId} {q : Nat → Nat} {oh : Ob} {oc : Ob} {ow : Ob} {os : Ob} : (WTo tA q oh oc ow os)[19]? = some (q 19, .inl (tA 0, (6, .inl (ga os 6)))) := rfl
theorem WTo_ar19 {tA : Nat → ClassId} {q : Nat → Nat} {oh : Ob} {oc : Ob} {ow : Ob} {os : Ob} (f : Nat → Int32) : (WTo tA q oh oc ow os).set 19 (q 19, .inl (tA 0, (6, .inl f))) = WTo tA q oh oc ow (sa os 6 f) := rfl
theorem WTo_at20 {tA : Nat → ClassId} {q : Nat → Nat} {oh : Ob} {oc : Ob} {ow : Ob} {os : Ob} : (WTo tA q oh oc ow os)[20]? = some (q 20, .inl (tA 0, (6, .inl (ga os 7)))) := rfl
theorem WTo_ar20 {tA : Nat → ClassId} {q : Nat → Nat} {oh : Ob} {oc : Ob} {ow : Ob} {os : Ob} (f : Nat → Int32) : (WTo tA q oh oc ow os).set 20 (q 20, .inl (tA 0, (6, .inl f))) = WTo tA q oh oc ow (sa os 7 f) := rfl
theorem WTo_at21 {tA : Nat → ClassId} {q : Nat → Nat} {oh : Ob} {oc : Ob} {ow : Ob} {os : Ob} : (WTo tA q oh oc ow os)[21]? = some (q 21, .inl (tA 0, (6, .inl (ga os 8)))) := rfl
theorem WTo_ar21 {tA : Nat → ClassId} {q : Nat → Nat} {oh : Ob} {oc : Ob} {ow : Ob} {os : Ob} (f : Nat → Int32) : (WTo tA q oh oc ow os).set 21 (q 21, .inl (tA 0, (6, .inl f))) = WTo tA q oh oc ow (sa os 8 f) := rfl
theorem WTo_at22 {tA : Nat → ClassId} {q : Nat → Nat} {oh : Ob} {oc : Ob} {ow : Ob} {os : Ob} : (WTo tA q oh oc ow os)[22]? = some (q 22, .inl (tA 5, (6, .inr (.inr (.inr (.inr (zrow [q 23, q 24, q 25, q 26, q 27, q 28]))))))) := rfl
theorem WTo_at23 {tA : Nat → ClassId} {q : Nat → Nat} {oh : Ob} {oc : Ob} {ow : Ob} {os : Ob} : (WTo tA q oh oc ow os)[23]? = some (q 23, .inl (tA 0, (400, .inl (ga os 20)))) := rfl
theorem WTo_ar23 {tA : Nat → ClassId} {q : Nat → Nat} {oh : Ob} {oc : Ob} {ow : Ob} {os : Ob} (f : Nat → Int32) : (WTo tA q oh oc ow os).set 23 (q 23, .inl (tA 0, (400, .inl f))) = WTo tA q oh oc ow (sa os 20 f) := rfl
theorem WTo_at24 {tA : Nat → ClassId} {q : Nat → Nat} {oh : Ob} {oc : Ob} {ow : Ob} {os : Ob} : (WTo tA q oh oc ow os)[24]? = some (q 24, .inl (tA 0, (400, .inl (ga os 21)))) := rfl
theorem WTo_ar24 {tA : Nat → ClassId} {q : Nat → Nat} {oh : Ob} {oc : Ob} {ow : Ob} {os : Ob} (f : Nat → Int32) : (WTo tA q oh oc ow os).set 24 (q 24, .inl (tA 0, (400, .inl f))) = WTo tA q oh oc ow (sa os 21 f) := rfl
theorem WTo_at25 {tA : Nat → ClassId} {q : Nat → Nat} {oh : Ob} {oc : Ob} {ow : Ob} {os : Ob} : (WTo tA q oh oc ow os)[25]? = some (q 25, .inl (tA 0, (400, .inl (ga os 22)))) := rfl
theorem WTo_ar25 {tA : Nat → ClassId} {q : Nat → Nat} {oh : Ob} {oc : Ob} {ow : Ob} {os : Ob} (f : Nat → Int32) : (WTo tA q oh oc ow os).set 25 (q 25, .inl (tA 0, (400, .inl f))) = WTo tA q oh oc ow (sa os 22 f) := rfl
theorem WTo_at26 {tA : Nat → ClassId} {q : Nat → Nat} {oh : Ob} {oc : Ob} {ow : Ob} {os : Ob} : (WTo tA q oh oc ow os)[26]? = some (q 26, .inl (tA 0, (400, .inl (ga os 23)))) := rfl
theorem WTo_ar26 {tA : Nat → ClassId} {q : Nat → Nat} {oh : Ob} {oc : Ob} {ow : Ob} {os : Ob} (f : Nat → Int32) : (WTo tA q oh oc ow os).set 26 (q 26, .inl (tA 0, (400, .inl f))) = WTo tA q oh oc ow (sa os 23 f) := rfl
theorem WTo_at27 {tA : Nat → ClassId} {q : Nat → Nat} {oh : Ob} {oc : Ob} {ow : Ob} {os : Ob} : (WTo tA q oh oc ow os)[27]? = some (q 27, .inl (tA 0, (400, .inl (ga os 24)))) := rfl
theorem WTo_ar27 {tA : Nat → ClassId} {q : Nat → Nat} {oh : Ob} {oc : Ob} {ow : Ob} {os : Ob} (f : Nat → Int32) : (WTo tA q oh oc ow os).set 27 (q 27, .inl (tA 0, (400, .inl f))) = WTo tA q oh oc ow (sa os 24 f) := rfl
theorem WTo_at28 {tA : Nat → ClassId} {q : Nat → Nat} {oh : Ob} {oc : Ob} {ow : Ob} {os : Ob} : (WTo tA q oh oc ow os)[28]? = some (q 28, .inl (tA 0, (400, .inl (ga os 25)))) := rfl
theorem WTo_ar28 {tA : Nat → ClassId} {q : Nat → Nat} {oh : Ob} {oc : Ob} {ow : Ob} {os : Ob} (f : Nat → Int32) : (WTo tA q oh oc ow os).set 28 (q 28, .inl (tA 0, (400, .inl f))) = WTo tA q oh oc ow (sa os 25 f) := rfl
theorem WTo_row22 {tA : Nat → ClassId} {q : Nat → Nat} {oh : Ob} {oc : Ob} {ow : Ob} {os : Ob} (i : Int32) (h : vp_in i 6) : (WTo tA q oh oc ow os)[23 + i.toNatClampNeg]? = some ([q 23, q 24, q 25, q 26, q 27, q 28].getD i.toNatClampNeg 0, .inl (tA 0, 400, .inl (ga os (20 + i.toNatClampNeg)))) := by
  have h2 : i.toNatClampNeg < 6 := Nat.not_le.mp fun z => h (Or.inr z)
  generalize i.toNatClampNeg = j at h2
  match j, h2 with
  | 0, _ => rfl
  | 1, _ => rfl
  | 2, _ => rfl
  | 3, _ => rfl
  | 4, _ => rfl
  | 5, _ => rfl
theorem WTo_set22 {tA : Nat → ClassId} {q : Nat → Nat} {oh : Ob} {oc : Ob} {ow : Ob} {os : Ob} (i : Int32) (h : vp_in i 6) (f : Nat → Int32) : (WTo tA q oh oc ow os).set (23 + i.toNatClampNeg) ([q 23, q 24, q 25, q 26, q 27, q 28].getD i.toNatClampNeg 0, .inl (tA 0, 400, .inl f)) = WTo tA q oh oc ow (sa os (20 + i.toNatClampNeg) f) := by
  have h2 : i.toNatClampNeg < 6 := Nat.not_le.mp fun z => h (Or.inr z)
  generalize i.toNatClampNeg = j at h2
  match j, h2 with
  | 0, _ => rfl
  | 1, _ => rfl
  | 2, _ => rfl
  | 3, _ => rfl
  | 4, _ => rfl
  | 5, _ => rfl
def WB (tA : Nat → ClassId) (q : Nat → Nat) (ob : Ob) : va_W := [(q 0, .inr (0, [.ref (q 1), .ref (q 2)])), (q 1, .inl (tA 0, (6, .inl (ga ob 0)))), (q 2, .inl (tA 5, (6, .inr (.inr (.inr (.inr (zrow [q 3, q 4, q 5, q 6, q 7, q 8]))))))), (q 3, .inl (tA 0, (60, .inl (ga ob 20)))), (q 4, .inl (tA 0, (60, .inl (ga ob 21)))), (q 5, .inl (tA 0, (60, .inl (ga ob 22)))), (q 6, .inl (tA 0, (60, .inl (ga ob 23)))), (q 7, .inl (tA 0, (60, .inl (ga ob 24)))), (q 8, .inl (tA 0, (60, .inl (ga ob 25))))]
theorem WB_at0 {tA : Nat → ClassId} {q : Nat → Nat} {ob : Ob} : (WB tA q ob)[0]? = some (q 0, .inr (0, [.ref (q 1), .ref (q 2)])) := rfl
theorem WB_at1 {tA : Nat → ClassId} {q : Nat → Nat} {ob : Ob} : (WB tA q ob)[1]? = some (q 1, .inl (tA 0, (6, .inl (ga ob 0)))) := rfl
theorem WB_ar1 {tA : Nat → ClassId} {q : Nat → Nat} {ob : Ob} (f : Nat → Int32) : (WB tA q ob).set 1 (q 1, .inl (tA 0, (6, .inl f))) = WB tA q (sa ob 0 f) := rfl
theorem WB_at2 {tA : Nat → ClassId} {q : Nat → Nat} {ob : Ob} : (WB tA q ob)[2]? = some (q 2, .inl (tA 5, (6, .inr (.inr (.inr (.inr (zrow [q 3, q 4, q 5, q 6, q 7, q 8]))))))) := rfl
theorem WB_at3 {tA : Nat → ClassId} {q : Nat → Nat} {ob : Ob} : (WB tA q ob)[3]? = some (q 3, .inl (tA 0, (60, .inl (ga ob 20)))) := rfl
theorem WB_ar3 {tA : Nat → ClassId} {q : Nat → Nat} {ob : Ob} (f : Nat → Int32) : (WB tA q ob).set 3 (q 3, .inl (tA 0, (60, .inl f))) = WB tA q (sa ob 20 f) := rfl
theorem WB_at4 {tA : Nat → ClassId} {q : Nat → Nat} {ob : Ob} : (WB tA q ob)[4]? = some (q 4, .inl (tA 0, (60, .inl (ga ob 21)))) := rfl
theorem WB_ar4 {tA : Nat → ClassId} {q : Nat → Nat} {ob : Ob} (f : Nat → Int32) : (WB tA q ob).set 4 (q 4, .inl (tA 0, (60, .inl f))) = WB tA q (sa ob 21 f) := rfl
theorem WB_at5 {tA : Nat → ClassId} {q : Nat → Nat} {ob : Ob} : (WB tA q ob)[5]? = some (q 5, .inl (tA 0, (60, .inl (ga ob 22)))) := rfl
theorem WB_ar5 {tA : Nat → ClassId} {q : Nat → Nat} {ob : Ob} (f : Nat → Int32) : (WB tA q ob).set 5 (q 5, .inl (tA 0, (60, .inl f))) = WB tA q (sa ob 22 f) := rfl
theorem WB_at6 {tA : Nat → ClassId} {q : Nat → Nat} {ob : Ob} : (WB tA q ob)[6]? = some (q 6, .inl (tA 0, (60, .inl (ga ob 23)))) := rfl
theorem WB_ar6 {tA : Nat → ClassId} {q : Nat → Nat} {ob : Ob} (f : Nat → Int32) : (WB tA q ob).set 6 (q 6, .inl (tA 0, (60, .inl f))) = WB tA q (sa ob 23 f) := rfl
theorem WB_at7 {tA : Nat → ClassId} {q : Nat → Nat} {ob : Ob} : (WB tA q ob)[7]? = some (q 7, .inl (tA 0, (60, .inl (ga ob 24)))) := rfl
theorem WB_ar7 {tA : Nat → ClassId} {q : Nat → Nat} {ob : Ob} (f : Nat → Int32) : (WB tA q ob).set 7 (q 7, .inl (tA 0, (60, .inl f))) = WB tA q (sa ob 24 f) := rfl
theorem WB_at8 {tA : Nat → ClassId} {q : Nat → Nat} {ob : Ob} : (WB tA q ob)[8]? = some (q 8, .inl (tA 0, (60, .inl (ga ob 25)))) := rfl
theorem WB_ar8 {tA : Nat → ClassId} {q : Nat → Nat} {ob : Ob} (f : Nat → Int32) : (WB tA q ob).set 8 (q 8, .inl (tA 0, (60, .inl f))) = WB tA q (sa ob 25 f) := rfl
theorem WB_row2 {tA : Nat → ClassId} {q : Nat → Nat} {ob : Ob} (i : Int32) (h : vp_in i 6) : (WB tA q ob)[3 + i.toNatClampNeg]? = some ([q 3, q 4, q 5, q 6, q 7, q 8].getD i.toNatClampNeg 0, .inl (tA 0, 60, .inl (ga ob (20 + i.toNatClampNeg)))) := by
  have h2 : i.toNatClampNeg < 6 := Nat.not_le.mp fun z => h (Or.inr z)
  generalize i.toNatClampNeg = j at h2
  match j, h2 with
  | 0, _ => rfl
  | 1, _ => rfl
  | 2, _ => rfl
  | 3, _ => rfl
  | 4, _ => rfl
  | 5, _ => rfl
theorem WB_set2 {tA : Nat → ClassId} {q : Nat → Nat} {ob : Ob} (i : Int32) (h : vp_in i 6) (f : Nat → Int32) : (WB tA q ob).set (3 + i.toNatClampNeg) ([q 3, q 4, q 5, q 6, q 7, q 8].getD i.toNatClampNeg 0, .inl (tA 0, 60, .inl f)) = WB tA q (sa ob (20 + i.toNatClampNeg) f) := by
  have h2 : i.toNatClampNeg < 6 := Nat.not_le.mp fun z => h (Or.inr z)
  generalize i.toNatClampNeg = j at h2
  match j, h2 with
  | 0, _ => rfl
  | 1, _ => rfl
  | 2, _ => rfl
  | 3, _ => rfl
  | 4, _ => rfl
  | 5, _ => rfl
def WBS (tA : Nat → ClassId) (q : Nat → Nat) (ob : Ob) (os : Ob) : va_W := [(q 0, .inr (0, [.ref (q 1), .ref (q 2)])), (q 1, .inl (tA 0, (6, .inl (ga ob 0)))), (q 2, .inl (tA 5, (6, .inr (.inr (.inr (.inr (zrow [q 3, q 4, q 5, q 6, q 7, q 8]))))))), (q 3, .inl (tA 0, (60, .inl (ga ob 20)))), (q 4, .inl (tA 0, (60, .inl (ga ob 21)))), (q 5, .inl (tA 0, (60, .inl (ga ob 22)))), (q 6, .inl (tA 0, (60, .inl (ga ob 23)))), (q 7, .inl (tA 0, (60, .inl (ga ob 24)))), (q 8, .inl (tA 0, (60, .inl (ga ob 25)))), (q 9, .inr (6, [.int (gi os 0), .int (gi os 1), .int (gi os 2), .ref (q 10), .ref (q 11), .ref (q 12), .ref (q 13), .ref (q 14), .ref (q 15), .ref (q 16)])), (q 10, .inl (tA 0, (12, .inl (ga os 3)))), (q 11, .inl (tA 0, (12, .inl (ga os 4)))), (q 12, .inl (tA 0, (12, .inl (ga os 5)))), (q 13, .inl (tA 0, (6, .inl (ga os 6)))), (q 14, .inl (tA 0, (6, .inl (ga os 7)))), (q 15, .inl (tA 0, (6, .inl (ga os 8)))), (q 16, .inl (tA 5, (6, .inr (.inr (.inr (.inr (zrow [q 17, q 18, q 19, q 20, q 21, q 22]))))))), (q 17, .inl (tA 0, (400, .inl (ga os 20)))), (q 18, .inl (tA 0, (400, .inl (ga os 21)))), (q 19, .inl (tA 0, (400, .inl (ga os 22)))), (q 20, .inl (tA 0, (400, .inl (ga os 23)))), (q 21, .inl (tA 0, (400, .inl (ga os 24)))), (q 22, .inl (tA 0, (400, .inl (ga os 25))))]
theorem WBS_at0 {tA : Nat → ClassId} {q : Nat → Nat} {ob : Ob} {os : Ob} : (WBS tA q ob os)[0]? = some (q 0, .inr (0, [.ref (q 1), .ref (q 2)])) := rfl
theorem WBS_at1 {tA : Nat → ClassId} {q : Nat → Nat} {ob : Ob} {os : Ob} : (WBS tA q ob os)[1]? = some (q 1, .inl (tA 0, (6, .inl (ga ob 0)))) := rfl
theorem WBS_ar1 {tA : Nat → ClassId} {q : Nat → Nat} {ob : Ob} {os : Ob} (f : Nat → Int32) : (WBS tA q ob os).set 1 (q 1, .inl (tA 0, (6, .inl f))) = WBS tA q (sa ob 0 f) os := rfl
theorem WBS_at2 {tA : Nat → ClassId} {q : Nat → Nat} {ob : Ob} {os : Ob} : (WBS tA q ob os)[2]? = some (q 2, .inl (tA 5, (6, .inr (.inr (.inr (.inr (zrow [q 3, q 4, q 5, q 6, q 7, q 8]))))))) := rfl
theorem WBS_at3 {tA : Nat → ClassId} {q : Nat → Nat} {ob : Ob} {os : Ob} : (WBS tA q ob os)[3]? = some (q 3, .inl (tA 0, (60, .inl (ga ob 20)))) := rfl
theorem WBS_ar3 {tA : Nat → ClassId} {q : Nat → Nat} {ob : Ob} {os : Ob} (f : Nat → Int32) : (WBS tA q ob os).set 3 (q 3, .inl (tA 0, (60, .inl f))) = WBS tA q (sa ob 20 f) os := rfl
theorem WBS_at4 {tA : Nat → ClassId} {q : Nat → Nat} {ob : Ob} {os : Ob} : (WBS tA q ob os)[4]? = some (q 4, .inl (tA 0, (60, .inl (ga ob 21)))) := rfl
theorem WBS_ar4 {tA : Nat → ClassId} {q : Nat → Nat} {ob : Ob} {os : Ob} (f : Nat → Int32) : (WBS tA q ob os).set 4 (q 4, .inl (tA 0, (60, .inl f))) = WBS tA q (sa ob 21 f) os := rfl
theorem WBS_at5 {tA : Nat → ClassId} {q : Nat → Nat} {ob : Ob} {os : Ob} : (WBS tA q ob os)[5]? = some (q 5, .inl (tA 0, (60, .inl (ga ob 22)))) := rfl
theorem WBS_ar5 {tA : Nat → ClassId} {q : Nat → Nat} {ob : Ob} {os : Ob} (f : Nat → Int32) : (WBS tA q ob os).set 5 (q 5, .inl (tA 0, (60, .inl f))) = WBS tA q (sa ob 22 f) os := rfl
theorem WBS_at6 {tA : Nat → ClassId} {q : Nat → Nat} {ob : Ob} {os : Ob} : (WBS tA q ob os)[6]? = some (q 6, .inl (tA 0, (60, .inl (ga ob 23)))) := rfl
theorem WBS_ar6 {tA : Nat → ClassId} {q : Nat → Nat} {ob : Ob} {os : Ob} (f : Nat → Int32) : (WBS tA q ob os).set 6 (q 6, .inl (tA 0, (60, .inl f))) = WBS tA q (sa ob 23 f) os := rfl
theorem WBS_at7 {tA : Nat → ClassId} {q : Nat → Nat} {ob : Ob} {os : Ob} : (WBS tA q ob os)[7]? = some (q 7, .inl (tA 0, (60, .inl (ga ob 24)))) := rfl
theorem WBS_ar7 {tA : Nat → ClassId} {q : Nat → Nat} {ob : Ob} {os : Ob} (f : Nat → Int32) : (WBS tA q ob os).set 7 (q 7, .inl (tA 0, (60, .inl f))) = WBS tA q (sa ob 24 f) os := rfl
theorem WBS_at8 {tA : Nat → ClassId} {q : Nat → Nat} {ob : Ob} {os : Ob} : (WBS tA q ob os)[8]? = some (q 8, .inl (tA 0, (60, .inl (ga ob 25)))) := rfl
theorem WBS_ar8 {tA : Nat → ClassId} {q : Nat → Nat} {ob : Ob} {os : Ob} (f : Nat → Int32) : (WBS tA q ob os).set 8 (q 8, .inl (tA 0, (60, .inl f))) = WBS tA q (sa ob 25 f) os := rfl
theorem WBS_at9 {tA : Nat → ClassId} {q : Nat → Nat} {ob : Ob} {os : Ob} : (WBS tA q ob os)[9]? = some (q 9, .inr (6, [.int (gi os 0), .int (gi os 1), .int (gi os 2), .ref (q 10), .ref (q 11), .ref (q 12), .ref (q 13), .ref (q 14), .ref (q 15), .ref (q 16)])) := rfl
theorem WBS_pt9_0 {tA : Nat → ClassId} {q : Nat → Nat} {ob : Ob} {os : Ob} (v : Int32) : (WBS tA q ob os).set 9 (q 9, .inr (6, List.set [.int (gi os 0), .int (gi os 1), .int (gi os 2), .ref (q 10), .ref (q 11), .ref (q 12), .ref (q 13), .ref (q 14), .ref (q 15), .ref (q 16)] 0 (.int v))) = WBS tA q ob (si os 0 v) := rfl
theorem WBS_pt9_1 {tA : Nat → ClassId} {q : Nat → Nat} {ob : Ob} {os : Ob} (v : Int32) : (WBS tA q ob os).set 9 (q 9, .inr (6, List.set [.int (gi os 0), .int (gi os 1), .int (gi os 2), .ref (q 10), .ref (q 11), .ref (q 12), .ref (q 13), .ref (q 14), .ref (q 15), .ref (q 16)] 1 (.int v))) = WBS tA q ob (si os 1 v) := rfl
theorem WBS_pt9_2 {tA : Nat → ClassId} {q : Nat → Nat} {ob : Ob} {os : Ob} (v : Int32) : (WBS tA q ob os).set 9 (q 9, .inr (6, List.set [.int (gi os 0), .int (gi os 1), .int (gi os 2), .ref (q 10), .ref (q 11), .ref (q 12), .ref (q 13), .ref (q 14), .ref (q 15), .ref (q 16)] 2 (.int v))) = WBS tA q ob (si os 2 v) := rfl
theorem WBS_at10 {tA : Nat → ClassId} {q : Nat → Nat} {ob : Ob} {os : Ob} : (WBS tA q ob os)[10]? = some (q 10, .inl (tA 0, (12, .inl (ga os 3)))) := rfl
theorem WBS_ar10 {tA : Nat → ClassId} {q : Nat → Nat} {ob : Ob} {os : Ob} (f : Nat → Int32) : (WBS tA q ob os).set 10 (q 10, .inl (tA 0, (12, .inl f))) = WBS tA q ob (sa os 3 f) := rfl
theorem WBS_at11 {tA : Nat → ClassId} {q : Nat → Nat} {ob : Ob} {os : Ob} : (WBS tA q ob os)[11]? = some (q 11, .inl (tA 0, (12, .inl (ga os 4)))) := rfl
theorem WBS_ar11 {tA : Nat → ClassId} {q : Nat → Nat} {ob : Ob} {os : Ob} (f : Nat → Int32) : (WBS tA q ob os).set 11 (q 11, .inl (tA 0, (12, .inl f))) = WBS tA q ob (sa os 4 f) := rfl
theorem WBS_at12 {tA : Nat → ClassId} {q : Nat → Nat} {ob : Ob} {os : Ob} : (WBS tA q ob os)[12]? = some (q 12, .inl (tA 0, (12, .inl (ga os 5)))) := rfl
theorem WBS_ar12 {tA : Nat → ClassId} {q : Nat → Nat} {ob : Ob} {os : Ob} (f : Nat → Int32) : (WBS tA q ob os).set 12 (q 12, .inl (tA 0, (12, .inl f))) = WBS tA q ob (sa os 5 f) := rfl
theorem WBS_at13 {tA : Nat → ClassId} {q : Nat → Nat} {ob : Ob} {os : Ob} : (WBS tA q ob os)[13]? = some (q 13, .inl (tA 0, (6, .inl (ga os 6)))) := rfl
theorem WBS_ar13 {tA : Nat → ClassId} {q : Nat → Nat} {ob : Ob} {os : Ob} (f : Nat → Int32) : (WBS tA q ob os).set 13 (q 13, .inl (tA 0, (6, .inl f))) = WBS tA q ob (sa os 6 f) := rfl
theorem WBS_at14 {tA : Nat → ClassId} {q : Nat → Nat} {ob : Ob} {os : Ob} : (WBS tA q ob os)[14]? = some (q 14, .inl (tA 0, (6, .inl (ga os 7)))) := rfl
theorem WBS_ar14 {tA : Nat → ClassId} {q : Nat → Nat} {ob : Ob} {os : Ob} (f : Nat → Int32) : (WBS tA q ob os).set 14 (q 14, .inl (tA 0, (6, .inl f))) = WBS tA q ob (sa os 7 f) := rfl
theorem WBS_at15 {tA : Nat → ClassId} {q : Nat → Nat} {ob : Ob} {os : Ob} : (WBS tA q ob os)[15]? = some (q 15, .inl (tA 0, (6, .inl (ga os 8)))) := rfl
theorem WBS_ar15 {tA : Nat → ClassId} {q : Nat → Nat} {ob : Ob} {os : Ob} (f : Nat → Int32) : (WBS tA q ob os).set 15 (q 15, .inl (tA 0, (6, .inl f))) = WBS tA q ob (sa os 8 f) := rfl
theorem WBS_at16 {tA : Nat → ClassId} {q : Nat → Nat} {ob : Ob} {os : Ob} : (WBS tA q ob os)[16]? = some (q 16, .inl (tA 5, (6, .inr (.inr (.inr (.inr (zrow [q 17, q 18, q 19, q 20, q 21, q 22]))))))) := rfl
theorem WBS_at17 {tA : Nat → ClassId} {q : Nat → Nat} {ob : Ob} {os : Ob} : (WBS tA q ob os)[17]? = some (q 17, .inl (tA 0, (400, .inl (ga os 20)))) := rfl
theorem WBS_ar17 {tA : Nat → ClassId} {q : Nat → Nat} {ob : Ob} {os : Ob} (f : Nat → Int32) : (WBS tA q ob os).set 17 (q 17, .inl (tA 0, (400, .inl f))) = WBS tA q ob (sa os 20 f) := rfl
theorem WBS_at18 {tA : Nat → ClassId} {q : Nat → Nat} {ob : Ob} {os : Ob} : (WBS tA q ob os)[18]? = some (q 18, .inl (tA 0, (400, .inl (ga os 21)))) := rfl
theorem WBS_ar18 {tA : Nat → ClassId} {q : Nat → Nat} {ob : Ob} {os : Ob} (f : Nat → Int32) : (WBS tA q ob os).set 18 (q 18, .inl (tA 0, (400, .inl f))) = WBS tA q ob (sa os 21 f) := rfl
theorem WBS_at19 {tA : Nat → ClassId} {q : Nat → Nat} {ob : Ob} {os : Ob} : (WBS tA q ob os)[19]? = some (q 19, .inl (tA 0, (400, .inl (ga os 22)))) := rfl
theorem WBS_ar19 {tA : Nat → ClassId} {q : Nat → Nat} {ob : Ob} {os : Ob} (f : Nat → Int32) : (WBS tA q ob os).set 19 (q 19, .inl (tA 0, (400, .inl f))) = WBS tA q ob (sa os 22 f) := rfl
theorem WBS_at20 {tA : Nat → ClassId} {q : Nat → Nat} {ob : Ob} {os : Ob} : (WBS tA q ob os)[20]? = some (q 20, .inl (tA 0, (400, .inl (ga os 23)))) := rfl
theorem WBS_ar20 {tA : Nat → ClassId} {q : Nat → Nat} {ob : Ob} {os : Ob} (f : Nat → Int32) : (WBS tA q ob os).set 20 (q 20, .inl (tA 0, (400, .inl f))) = WBS tA q ob (sa os 23 f) := rfl
theorem WBS_at21 {tA : Nat → ClassId} {q : Nat → Nat} {ob : Ob} {os : Ob} : (WBS tA q ob os)[21]? = some (q 21, .inl (tA 0, (400, .inl (ga os 24)))) := rfl
theorem WBS_ar21 {tA : Nat → ClassId} {q : Nat → Nat} {ob : Ob} {os : Ob} (f : Nat → Int32) : (WBS tA q ob os).set 21 (q 21, .inl (tA 0, (400, .inl f))) = WBS tA q ob (sa os 24 f) := rfl
theorem WBS_at22 {tA : Nat → ClassId} {q : Nat → Nat} {ob : Ob} {os : Ob} : (WBS tA q ob os)[22]? = some (q 22, .inl (tA 0, (400, .inl (ga os 25)))) := rfl
theorem WBS_ar22 {tA : Nat → ClassId} {q : Nat → Nat} {ob : Ob} {os : Ob} (f : Nat → Int32) : (WBS tA q ob os).set 22 (q 22, .inl (tA 0, (400, .inl f))) = WBS tA q ob (sa os 25 f) := rfl
theorem WBS_row2 {tA : Nat → ClassId} {q : Nat → Nat} {ob : Ob} {os : Ob} (i : Int32) (h : vp_in i 6) : (WBS tA q ob os)[3 + i.toNatClampNeg]? = some ([q 3, q 4, q 5, q 6, q 7, q 8].getD i.toNatClampNeg 0, .inl (tA 0, 60, .inl (ga ob (20 + i.toNatClampNeg)))) := by
  have h2 : i.toNatClampNeg < 6 := Nat.not_le.mp fun z => h (Or.inr z)
  generalize i.toNatClampNeg = j at h2
  match j, h2 with
  | 0, _ => rfl
  | 1, _ => rfl
  | 2, _ => rfl
  | 3, _ => rfl
  | 4, _ => rfl
  | 5, _ => rfl
theorem WBS_set2 {tA : Nat → ClassId} {q : Nat → Nat} {ob : Ob} {os : Ob} (i : Int32) (h : vp_in i 6) (f : Nat → Int32) : (WBS tA q ob os).set (3 + i.toNatClampNeg) ([q 3, q 4, q 5, q 6, q 7, q 8].getD i.toNatClampNeg 0, .inl (tA 0, 60, .inl f)) = WBS tA q (sa ob (20 + i.toNatClampNeg) f) os := by
  have h2 : i.toNatClampNeg < 6 := Nat.not_le.mp fun z => h (Or.inr z)
  generalize i.toNatClampNeg = j at h2
  match j, h2 with
  | 0, _ => rfl
  | 1, _ => rfl
  | 2, _ => rfl
  | 3, _ => rfl
  | 4, _ => rfl
  | 5, _ => rfl
theorem WBS_row16 {tA : Nat → ClassId} {q : Nat → Nat} {ob : Ob} {os : Ob} (i : Int32) (h : vp_in i 6) : (WBS tA q ob os)[17 + i.toNatClampNeg]? = some ([q 17, q 18, q 19, q 20, q 21, q 22].getD i.toNatClampNeg 0, .inl (tA 0, 400, .inl (ga os (20 + i.toNatClampNeg)))) := by
  have h2 : i.toNatClampNeg < 6 := Nat.not_le.mp fun z => h (Or.inr z)
  generalize i.toNatClampNeg = j at h2
  match j, h2 with
  | 0, _ => rfl
  | 1, _ => rfl
  | 2, _ => rfl
  | 3, _ => rfl
  | 4, _ => rfl
  | 5, _ => rfl
theorem WBS_set16 {tA : Nat → ClassId} {q : Nat → Nat} {ob : Ob} {os : Ob} (i : Int32) (h : vp_in i 6) (f : Nat → Int32) : (WBS tA q ob os).set (17 + i.toNatClampNeg) ([q 17, q 18, q 19, q 20, q 21, q 22].getD i.toNatClampNeg 0, .inl (tA 0, 400, .inl f)) = WBS tA q ob (sa os (20 + i.toNatClampNeg) f) := by
  have h2 : i.toNatClampNeg < 6 := Nat.not_le.mp fun z => h (Or.inr z)
  generalize i.toNatClampNeg = j at h2
  match j, h2 with
  | 0, _ => rfl
  | 1, _ => rfl
  | 2, _ => rfl
  | 3, _ => rfl
  | 4, _ => rfl
  | 5, _ => rfl
end ZWD
