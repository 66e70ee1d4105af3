section ZWD
variable {l : Launch} {D : va_G} {tA : Nat → ClassId}
theorem zn1_c {tA : Nat → ClassId} {q : Nat → Nat} {oc : Ob} {ow : Ob} {os : Ob} : [8, 9, 10, 11, 12].map (fun i => (WTr tA q oc ow os)[i]?) = (WL tA (zq q [8, 9, 10, 11, 12]) ow).map some := rfl
theorem zn1_n : va_nd [8, 9, 10, 11, 12] = true := by decide +kernel
theorem zn2_c {tA : Nat → ClassId} {q : Nat → Nat} {oc : Ob} {ow : Ob} {os : Ob} : [1, 2, 3, 4, 5, 6, 7].map (fun i => (WTr tA q oc ow os)[i]?) = (WC tA (zq q [1, 2, 3, 4, 5, 6, 7]) oc).map some := rfl
theorem zn2_n : va_nd [1, 2, 3, 4, 5, 6, 7] = true := by decide +kernel
theorem zn3_c {tA : Nat → ClassId} {q : Nat → Nat} {oe : Ob} {oc : Ob} {ow : Ob} {os : Ob} : [15, 16, 17, 18, 19, 20, 21].map (fun i => (WCa tA q oe oc ow os)[i]?) = (WC tA (zq q [15, 16, 17, 18, 19, 20, 21]) oc).map some := rfl
theorem zn3_n : va_nd [15, 16, 17, 18, 19, 20, 21] = true := by decide +kernel
theorem zn4_c {tA : Nat → ClassId} {q : Nat → Nat} {oe : Ob} {oc : Ob} {ow : Ob} {os : Ob} : [14, 15, 16, 17, 18, 19, 20, 21, 22, 23, 24, 25, 26, 27, 28, 29, 30, 31, 32, 33, 34, 35, 36, 37, 38, 39, 40].map (fun i => (WCa tA q oe oc ow os)[i]?) = (WTr tA (zq q [14, 15, 16, 17, 18, 19, 20, 21, 22, 23, 24, 25, 26, 27, 28, 29, 30, 31, 32, 33, 34, 35, 36, 37, 38, 39, 40]) oc ow os).map some := rfl
theorem zn4_n : va_nd [14, 15, 16, 17, 18, 19, 20, 21, 22, 23, 24, 25, 26, 27, 28, 29, 30, 31, 32, 33, 34, 35, 36, 37, 38, 39, 40] = true := by decide +kernel
theorem zn5_c {tA : Nat → ClassId} {q : Nat → Nat} {oc : Ob} {od : Ob} {ot : Ob} : [7, 8, 9].map (fun i => (WCR tA q oc od ot)[i]?) = (WR tA (zq q [7, 8, 9]) od ot).map some := rfl
theorem zn5_n : va_nd [7, 8, 9] = true := by decide +kernel
theorem zn5_d {tA : Nat → ClassId} {q : Nat → Nat} {oc : Ob} {od : Ob} {ot : Ob} : [0, 1, 2, 3, 4, 5, 6].map (fun i => (WCR tA q oc od ot)[i]?) = ([(q 0, .inr (2, [.int (gi oc 0), .int (gi oc 1), .ref (q 1), .ref (q 2), .ref (q 3), .ref (q 4), .ref (q 5), .ref (q 6)])), (q 1, .inl (tA 0, (6, .inl (ga oc 2)))), (q 2, .inl (tA 0, (6, .inl (ga oc 3)))), (q 3, .inl (tA 0, (6, .inl (ga oc 4)))), (q 4, .inl (tA 0, (12, .inl (ga oc 5)))), (q 5, .inl (tA 0, (12, .inl (ga oc 6)))), (q 6, .inl (tA 0, (12, .inl (ga oc 7))))] : va_W).map some := rfl
theorem zn5_p {tA : Nat → ClassId} {q : Nat → Nat} {oc : Ob} {od : Ob} {ot : Ob} (nod : Ob) : zCh (WCR tA q oc od ot) [7, 8, 9] (WR tA (zq q [7, 8, 9]) nod ot) (WCR tA q oc nod ot) := zCh_of (n := 10) zn5_c (zn5_d.trans zn5_d.symm) rfl (by decide +kernel)
theorem zn6_c {tA : Nat → ClassId} {q : Nat → Nat} {oc : Ob} {od : Ob} {ot : Ob} : [7, 8, 9].map (fun i => (WCR tA q oc od ot)[i]?) = (WR tA (zq q [7, 8, 9]) od ot).map some := rfl
theorem zn6_n : va_nd [7, 8, 9] = true := by decide +kernel
theorem zn7_c {tA : Nat → ClassId} {q : Nat → Nat} {oc : Ob} {od : Ob} {ot : Ob} : [0, 1, 2, 3, 4, 5, 6].map (fun i => (WCR tA q oc od ot)[i]?) = (WC tA (zq q [0, 1, 2, 3, 4, 5, 6]) oc).map some := rfl
theorem zn7_n : va_nd [0, 1, 2, 3, 4, 5, 6] = true := by decide +kernel
theorem zn8_c {tA : Nat → ClassId} {q : Nat → Nat} {of : Ob} {oc : Ob} {ow : Ob} {os : Ob} : [3, 4, 5, 6, 7, 8, 9].map (fun i => (WDu tA q of oc ow os)[i]?) = (WC tA (zq q [3, 4, 5, 6, 7, 8, 9]) oc).map some := rfl
theorem zn8_n : va_nd [3, 4, 5, 6, 7, 8, 9] = true := by decide +kernel
theorem zn9_c {tA : Nat → ClassId} {q : Nat → Nat} {of : Ob} {oc : Ob} {ow : Ob} {os : Ob} : [2, 3, 4, 5, 6, 7, 8, 9, 10, 11, 12, 13, 14, 15, 16, 17, 18, 19, 20, 21, 22, 23, 24, 25, 26, 27, 28].map (fun i => (WDu tA q of oc ow os)[i]?) = (WTr tA (zq q [2, 3, 4, 5, 6, 7, 8, 9, 10, 11, 12, 13, 14, 15, 16, 17, 18, 19, 20, 21, 22, 23, 24, 25, 26, 27, 28]) oc ow os).map some := rfl
theorem zn9_n : va_nd [2, 3, 4, 5, 6, 7, 8, 9, 10, 11, 12, 13, 14, 15, 16, 17, 18, 19, 20, 21, 22, 23, 24, 25, 26, 27, 28] = true := by decide +kernel
theorem zn10_c {tA : Nat → ClassId} {q : Nat → Nat} {ow : Ob} {od : Ob} {ot : Ob} : [5, 6, 7].map (fun i => (WLR tA q ow od ot)[i]?) = (WR tA (zq q [5, 6, 7]) od ot).map some := rfl
theorem zn10_n : va_nd [5, 6, 7] = true := by decide +kernel
theorem zn10_d {tA : Nat → ClassId} {q : Nat → Nat} {ow : Ob} {od : Ob} {ot : Ob} : [0, 1, 2, 3, 4].map (fun i => (WLR tA q ow od ot)[i]?) = ([(q 0, .inr (4, [.int (gi ow 0), .ref (q 1), .ref (q 2), .ref (q 3), .ref (q 4)])), (q 1, .inl (tA 0, (6, .inl (ga ow 1)))), (q 2, .inl (tA 0, (6, .inl (ga ow 2)))), (q 3, .inl (tA 0, (6, .inl (ga ow 3)))), (q 4, .inl (tA 0, (6, .inl (ga ow 4))))] : va_W).map some := rfl
theorem zn10_p {tA : Nat → ClassId} {q : Nat → Nat} {ow : Ob} {od : Ob} {ot : Ob} (nod : Ob) : zCh (WLR tA q ow od ot) [5, 6, 7] (WR tA (zq q [5, 6, 7]) nod ot) (WLR tA q ow nod ot) := zCh_of (n := 8) zn10_c (zn10_d.trans zn10_d.symm) rfl (by decide +kernel)
theorem zn11_c {tA : Nat → ClassId} {q : Nat → Nat} {ow : Ob} {od : Ob} {ot : Ob} : [5, 6, 7].map (fun i => (WLR tA q ow od ot)[i]?) = (WR tA (zq q [5, 6, 7]) od ot).map some := rfl
theorem zn11_n : va_nd [5, 6, 7] = true := by decide +kernel
theorem zn12_c {tA : Nat → ClassId} {q : Nat → Nat} {oh : Ob} {oc : Ob} {ow : Ob} {os : Ob} : [2, 3, 4, 5, 6, 7, 8, 9, 10, 11, 12, 13, 14, 15, 16, 17, 18, 19, 20, 21, 22, 23, 24, 25, 26, 27, 28].map (fun i => (WTo tA q oh oc ow os)[i]?) = (WTr tA (zq q [2, 3, 4, 5, 6, 7, 8, 9, 10, 11, 12, 13, 14, 15, 16, 17, 18, 19, 20, 21, 22, 23, 24, 25, 26, 27, 28]) oc ow os).map some := rfl
theorem zn12_n : va_nd [2, 3, 4, 5, 6, 7, 8, 9, 10, 11, 12, 13, 14, 15, 16, 17, 18, 19, 20, 21, 22, 23, 24, 25, 26, 27, 28] = true := by decide +kernel
theorem zn13_c {tA : Nat → ClassId} {q : Nat → Nat} {oh : Ob} {oc : Ob} {ow : Ob} {os : Ob} : [3, 4, 5, 6, 7, 8, 9].map (fun i => (WTo tA q oh oc ow os)[i]?) = (WC tA (zq q [3, 4, 5, 6, 7, 8, 9]) oc).map some := rfl
theorem zn13_n : va_nd [3, 4, 5, 6, 7, 8, 9] = true := by decide +kernel
theorem zn14_c {tA : Nat → ClassId} {q : Nat → Nat} {oc : Ob} {ow : Ob} {os : Ob} : [13, 14, 15, 16, 17, 18, 19, 20, 21, 22, 23, 24, 25, 26].map (fun i => (WTr tA q oc ow os)[i]?) = (WS tA (zq q [13, 14, 15, 16, 17, 18, 19, 20, 21, 22, 23, 24, 25, 26]) os).map some := rfl
theorem zn14_n : va_nd [13, 14, 15, 16, 17, 18, 19, 20, 21, 22, 23, 24, 25, 26] = true := by decide +kernel
theorem zn14_d {tA : Nat → ClassId} {q : Nat → Nat} {oc : Ob} {ow : Ob} {os : Ob} : [0, 1, 2, 3, 4, 5, 6, 7, 8, 9, 10, 11, 12].map (fun i => (WTr tA q oc ow os)[i]?) = ([(q 0, .inr (9, [.ref (q 1), .ref (q 8), .ref (q 13)])), (q 1, .inr (2, [.int (gi oc 0), .int (gi oc 1), .ref (q 2), .ref (q 3), .ref (q 4), .ref (q 5), .ref (q 6), .ref (q 7)])), (q 2, .inl (tA 0, (6, .inl (ga oc 2)))), (q 3, .inl (tA 0, (6, .inl (ga oc 3)))), (q 4, .inl (tA 0, (6, .inl (ga oc 4)))), (q 5, .inl (tA 0, (12, .inl (ga oc 5)))), (q 6, .inl (tA 0, (12, .inl (ga oc 6)))), (q 7, .inl (tA 0, (12, .inl (ga oc 7)))), (q 8, .inr (4, [.int (gi ow 0), .ref (q 9), .ref (q 10), .ref (q 11), .ref (q 12)])), (q 9, .inl (tA 0, (6, .inl (ga ow 1)))), (q 10, .inl (tA 0, (6, .inl (ga ow 2)))), (q 11, .inl (tA 0, (6, .inl (ga ow 3)))), (q 12, .inl (tA 0, (6, .inl (ga ow 4))))] : va_W).map some := rfl
theorem zn14_p {tA : Nat → ClassId} {q : Nat → Nat} {oc : Ob} {ow : Ob} {os : Ob} (nos : Ob) : zCh (WTr tA q oc ow os) [13, 14, 15, 16, 17, 18, 19, 20, 21, 22, 23, 24, 25, 26] (WS tA (zq q [13, 14, 15, 16, 17, 18, 19, 20, 21, 22, 23, 24, 25, 26]) nos) (WTr tA q oc ow nos) := zCh_of (n := 27) zn14_c (zn14_d.trans zn14_d.symm) rfl (by decide +kernel)
theorem zn15_n : va_nd [4, 5] = true := by decide +kernel
theorem zn16_n : va_nd [3, 4, 5] = true := by decide +kernel
theorem zn17_n : va_nd [88, 89, 90, 91, 92, 93, 94, 3, 4, 5] = true := by decide +kernel
theorem zn18_n : va_nd [19, 20, 21, 22, 23, 24, 25, 26, 27, 28, 29, 30, 31, 32] = true := by decide +kernel
theorem zn19_n : va_nd [51, 52, 53, 54, 55, 56, 57, 58, 59] = true := by decide +kernel
theorem zn20_n : va_nd [95, 96, 97, 98, 99, 3, 4, 5] = true := by decide +kernel
theorem zn21_n : va_nd [14, 15, 16, 17, 18] = true := by decide +kernel
theorem zn22_n : va_nd [7, 8, 9, 10, 11, 12, 13] = true := by decide +kernel
theorem zn23_n : va_nd [6, 7, 8, 9, 10, 11, 12, 13, 14, 15, 16, 17, 18, 19, 20, 21, 22, 23, 24, 25, 26, 27, 28, 29, 30, 31, 32] = true := by decide +kernel
theorem zn24_n : va_nd [19, 20, 21, 22, 23, 24, 25, 26, 27, 28, 29, 30, 31, 32] = true := by decide +kernel
theorem zn25_n : va_nd [6, 7, 8, 9, 10, 11, 12, 13, 14, 15, 16, 17, 18, 19, 20, 21, 22, 23, 24, 25, 26, 27, 28, 29, 30, 31, 32] = true := by decide +kernel
theorem zn26_n : va_nd [33, 34, 35, 36, 37, 38, 39, 40, 41, 42, 43, 44, 45, 46, 6, 7, 8, 9, 10, 11, 12, 13, 14, 15, 16, 17, 18, 19, 20, 21, 22, 23, 24, 25, 26, 27, 28, 29, 30, 31, 32] = true := by decide +kernel
theorem zn27_n : va_nd [47, 48, 6, 7, 8, 9, 10, 11, 12, 13, 14, 15, 16, 17, 18, 19, 20, 21, 22, 23, 24, 25, 26, 27, 28, 29, 30, 31, 32] = true := by decide +kernel
theorem zn28_n : va_nd [47, 48, 6, 7, 8, 9, 10, 11, 12, 13, 14, 15, 16, 17, 18, 19, 20, 21, 22, 23, 24, 25, 26, 27, 28, 29, 30, 31, 32] = true := by decide +kernel
theorem zn29_n : va_nd [49, 50, 6, 7, 8, 9, 10, 11, 12, 13, 14, 15, 16, 17, 18, 19, 20, 21, 22, 23, 24, 25, 26, 27, 28, 29, 30, 31, 32] = true := by decide +kernel
theorem zn30_n : va_nd [51, 52, 53, 54, 55, 56, 57, 58, 59, 19, 20, 21, 22, 23, 24, 25, 26, 27, 28, 29, 30, 31, 32] = true := by decide +kernel
theorem zn31_n : va_nd [60, 61, 62, 63, 64, 65, 66, 67, 68, 69, 70, 71, 72, 73, 19, 20, 21, 22, 23, 24, 25, 26, 27, 28, 29, 30, 31, 32] = true := by decide +kernel
theorem zn32_n : va_nd [74, 75, 76, 77, 78, 79, 80, 81, 82, 83, 84, 85, 86, 87, 19, 20, 21, 22, 23, 24, 25, 26, 27, 28, 29, 30, 31, 32] = true := by decide +kernel
theorem zn33_n : va_nd [19, 20, 21, 22, 23, 24, 25, 26, 27, 28, 29, 30, 31, 32, 60, 61, 62, 63, 64, 65, 66, 67, 68, 69, 70, 71, 72, 73] = true := by decide +kernel
theorem zn34_n : va_nd [19, 20, 21, 22, 23, 24, 25, 26, 27, 28, 29, 30, 31, 32, 74, 75, 76, 77, 78, 79, 80, 81, 82, 83, 84, 85, 86, 87] = true := by decide +kernel
end ZWD
