theorem zin_X0 : ∀ w ∈ u_ws RX0 TX0 2, w ∈ zT := by
  intro w hw
  obtain ⟨k, hk, rfl⟩ := List.mem_map.mp hw
  have hk := List.mem_range.mp hk
  match k, hk with
  | 0, _ => exact zT_in (List.mem_of_getElem? (i := 404) (by decide +kernel)) rfl
  | 1, _ => exact zT_in (List.mem_of_getElem? (i := 406) (by decide +kernel)) rfl
  | n + 2, h => exact absurd h (by omega)
theorem zin_X1 : ∀ w ∈ u_ws RX1 TX1 12, w ∈ zT := by
  intro w hw
  obtain ⟨k, hk, rfl⟩ := List.mem_map.mp hw
  have hk := List.mem_range.mp hk
  match k, hk with
  | 0, _ => exact zT_in (List.mem_of_getElem? (i := 332) (by decide +kernel)) rfl
  | 1, _ => exact zT_in (List.mem_of_getElem? (i := 334) (by decide +kernel)) rfl
  | 2, _ => exact zT_in (List.mem_of_getElem? (i := 336) (by decide +kernel)) rfl
  | 3, _ => exact zT_in (List.mem_of_getElem? (i := 338) (by decide +kernel)) rfl
  | 4, _ => exact zT_in (List.mem_of_getElem? (i := 340) (by decide +kernel)) rfl
  | 5, _ => exact zT_in (List.mem_of_getElem? (i := 342) (by decide +kernel)) rfl
  | 6, _ => exact zT_in (List.mem_of_getElem? (i := 344) (by decide +kernel)) rfl
  | 7, _ => exact zT_in (List.mem_of_getElem? (i := 346) (by decide +kernel)) rfl
  | 8, _ => exact zT_in (List.mem_of_getElem? (i := 348) (by decide +kernel)) rfl
  | 9, _ => exact zT_in (List.mem_of_getElem? (i := 350) (by decide +kernel)) rfl
  | 10, _ => exact zT_in (List.mem_of_getElem? (i := 352) (by decide +kernel)) rfl
  | 11, _ => exact zT_in (List.mem_of_getElem? (i := 354) (by decide +kernel)) rfl
  | n + 12, h => exact absurd h (by omega)
theorem zin_X2 : ∀ w ∈ u_ws RX2 TX2 8, w ∈ zT := by
  intro w hw
  obtain ⟨k, hk, rfl⟩ := List.mem_map.mp hw
  have hk := List.mem_range.mp hk
  match k, hk with
  | 0, _ => exact zT_in (List.mem_of_getElem? (i := 181) (by decide +kernel)) rfl
  | 1, _ => exact zT_in (List.mem_of_getElem? (i := 183) (by decide +kernel)) rfl
  | 2, _ => exact zT_in (List.mem_of_getElem? (i := 185) (by decide +kernel)) rfl
  | 3, _ => exact zT_in (List.mem_of_getElem? (i := 187) (by decide +kernel)) rfl
  | 4, _ => exact zT_in (List.mem_of_getElem? (i := 189) (by decide +kernel)) rfl
  | 5, _ => exact zT_in (List.mem_of_getElem? (i := 191) (by decide +kernel)) rfl
  | 6, _ => exact zT_in (List.mem_of_getElem? (i := 193) (by decide +kernel)) rfl
  | 7, _ => exact zT_in (List.mem_of_getElem? (i := 195) (by decide +kernel)) rfl
  | n + 8, h => exact absurd h (by omega)
theorem zin_X3 : ∀ w ∈ u_ws RX3 TX3 5, w ∈ zT := by
  intro w hw
  obtain ⟨k, hk, rfl⟩ := List.mem_map.mp hw
  have hk := List.mem_range.mp hk
  match k, hk with
  | 0, _ => exact zT_in (List.mem_of_getElem? (i := 370) (by decide +kernel)) rfl
  | 1, _ => exact zT_in (List.mem_of_getElem? (i := 372) (by decide +kernel)) rfl
  | 2, _ => exact zT_in (List.mem_of_getElem? (i := 374) (by decide +kernel)) rfl
  | 3, _ => exact zT_in (List.mem_of_getElem? (i := 376) (by decide +kernel)) rfl
  | 4, _ => exact zT_in (List.mem_of_getElem? (i := 378) (by decide +kernel)) rfl
  | n + 5, h => exact absurd h (by omega)
theorem zin_X4 : ∀ w ∈ u_ws RX4 TX4 5, w ∈ zT := by
  intro w hw
  obtain ⟨k, hk, rfl⟩ := List.mem_map.mp hw
  have hk := List.mem_range.mp hk
  match k, hk with
  | 0, _ => exact zT_in (List.mem_of_getElem? (i := 211) (by decide +kernel)) rfl
  | 1, _ => exact zT_in (List.mem_of_getElem? (i := 213) (by decide +kernel)) rfl
  | 2, _ => exact zT_in (List.mem_of_getElem? (i := 215) (by decide +kernel)) rfl
  | 3, _ => exact zT_in (List.mem_of_getElem? (i := 217) (by decide +kernel)) rfl
  | 4, _ => exact zT_in (List.mem_of_getElem? (i := 219) (by decide +kernel)) rfl
  | n + 5, h => exact absurd h (by omega)
theorem zin_X5 : ∀ w ∈ u_ws RX5 TX5 5, w ∈ zT := by
  intro w hw
  obtain ⟨k, hk, rfl⟩ := List.mem_map.mp hw
  have hk := List.mem_range.mp hk
  match k, hk with
  | 0, _ => exact zT_in (List.mem_of_getElem? (i := 128) (by decide +kernel)) rfl
  | 1, _ => exact zT_in (List.mem_of_getElem? (i := 130) (by decide +kernel)) rfl
  | 2, _ => exact zT_in (List.mem_of_getElem? (i := 132) (by decide +kernel)) rfl
  | 3, _ => exact zT_in (List.mem_of_getElem? (i := 134) (by decide +kernel)) rfl
  | 4, _ => exact zT_in (List.mem_of_getElem? (i := 136) (by decide +kernel)) rfl
  | n + 5, h => exact absurd h (by omega)
theorem zin_X6 : ∀ w ∈ u_ws RX6 TX6 10, w ∈ zT := by
  intro w hw
  obtain ⟨k, hk, rfl⟩ := List.mem_map.mp hw
  have hk := List.mem_range.mp hk
  match k, hk with
  | 0, _ => exact zT_in (List.mem_of_getElem? (i := 272) (by decide +kernel)) rfl
  | 1, _ => exact zT_in (List.mem_of_getElem? (i := 274) (by decide +kernel)) rfl
  | 2, _ => exact zT_in (List.mem_of_getElem? (i := 276) (by decide +kernel)) rfl
  | 3, _ => exact zT_in (List.mem_of_getElem? (i := 278) (by decide +kernel)) rfl
  | 4, _ => exact zT_in (List.mem_of_getElem? (i := 280) (by decide +kernel)) rfl
  | 5, _ => exact zT_in (List.mem_of_getElem? (i := 282) (by decide +kernel)) rfl
  | 6, _ => exact zT_in (List.mem_of_getElem? (i := 284) (by decide +kernel)) rfl
  | 7, _ => exact zT_in (List.mem_of_getElem? (i := 286) (by decide +kernel)) rfl
  | 8, _ => exact zT_in (List.mem_of_getElem? (i := 288) (by decide +kernel)) rfl
  | 9, _ => exact zT_in (List.mem_of_getElem? (i := 290) (by decide +kernel)) rfl
  | n + 10, h => exact absurd h (by omega)
theorem zin_X7 : ∀ w ∈ u_ws RX7 TX7 2, w ∈ zT := by
  intro w hw
  obtain ⟨k, hk, rfl⟩ := List.mem_map.mp hw
  have hk := List.mem_range.mp hk
  match k, hk with
  | 0, _ => exact zT_in (List.mem_of_getElem? (i := 109) (by decide +kernel)) rfl
  | 1, _ => exact zT_in (List.mem_of_getElem? (i := 111) (by decide +kernel)) rfl
  | n + 2, h => exact absurd h (by omega)
theorem zin_X8 : ∀ w ∈ u_ws RX8 TX8 2, w ∈ zT := by
  intro w hw
  obtain ⟨k, hk, rfl⟩ := List.mem_map.mp hw
  have hk := List.mem_range.mp hk
  match k, hk with
  | 0, _ => exact zT_in (List.mem_of_getElem? (i := 389) (by decide +kernel)) rfl
  | 1, _ => exact zT_in (List.mem_of_getElem? (i := 391) (by decide +kernel)) rfl
  | n + 2, h => exact absurd h (by omega)
theorem zin_X9 : ∀ w ∈ u_ws RX9 TX9 3, w ∈ zT := by
  intro w hw
  obtain ⟨k, hk, rfl⟩ := List.mem_map.mp hw
  have hk := List.mem_range.mp hk
  match k, hk with
  | 0, _ => exact zT_in (List.mem_of_getElem? (i := 305) (by decide +kernel)) rfl
  | 1, _ => exact zT_in (List.mem_of_getElem? (i := 307) (by decide +kernel)) rfl
  | 2, _ => exact zT_in (List.mem_of_getElem? (i := 309) (by decide +kernel)) rfl
  | n + 3, h => exact absurd h (by omega)
theorem zin_X10 : ∀ w ∈ u_ws RX10 TX10 12, w ∈ zT := by
  intro w hw
  obtain ⟨k, hk, rfl⟩ := List.mem_map.mp hw
  have hk := List.mem_range.mp hk
  match k, hk with
  | 0, _ => exact zT_in (List.mem_of_getElem? (i := 428) (by decide +kernel)) rfl
  | 1, _ => exact zT_in (List.mem_of_getElem? (i := 430) (by decide +kernel)) rfl
  | 2, _ => exact zT_in (List.mem_of_getElem? (i := 432) (by decide +kernel)) rfl
  | 3, _ => exact zT_in (List.mem_of_getElem? (i := 434) (by decide +kernel)) rfl
  | 4, _ => exact zT_in (List.mem_of_getElem? (i := 436) (by decide +kernel)) rfl
  | 5, _ => exact zT_in (List.mem_of_getElem? (i := 438) (by decide +kernel)) rfl
  | 6, _ => exact zT_in (List.mem_of_getElem? (i := 440) (by decide +kernel)) rfl
  | 7, _ => exact zT_in (List.mem_of_getElem? (i := 442) (by decide +kernel)) rfl
  | 8, _ => exact zT_in (List.mem_of_getElem? (i := 444) (by decide +kernel)) rfl
  | 9, _ => exact zT_in (List.mem_of_getElem? (i := 446) (by decide +kernel)) rfl
  | 10, _ => exact zT_in (List.mem_of_getElem? (i := 448) (by decide +kernel)) rfl
  | 11, _ => exact zT_in (List.mem_of_getElem? (i := 450) (by decide +kernel)) rfl
  | n + 12, h => exact absurd h (by omega)
theorem kF_X0_9 : zFl RX0 9 0 0 RX0 TX0 2 tyX0 := ⟨rfl, zin_X0, tyX0_ok, nmX0, Nat.le_of_ble_eq_true rfl, zT_in (List.mem_of_getElem? (i := 401) (by decide +kernel)) rfl⟩
theorem kM_X0_20 : zMs RX0 20 yJ7_fill_53178 cJ7_fill_53178 4 none 2 := ⟨zT_in (List.mem_of_getElem? (i := 608) (by decide +kernel)) rfl, zT_in (List.mem_of_getElem? (i := 235) (by decide +kernel)) rfl, zT_in (List.mem_of_getElem? (i := 77) (by decide +kernel)) rfl, zT_in (List.mem_of_getElem? (i := 236) (by decide +kernel)) rfl, by decide +kernel, by decide +kernel⟩
theorem kC_X0_26 : Cond.constant RX0 26 (-1000000004) ∈ zT := zT_in (List.mem_of_getElem? (i := 943) (by decide +kernel)) rfl
theorem kF_X0_17 : zFl RX0 17 0 1 RX0 TX0 2 tyX0 := ⟨rfl, zin_X0, tyX0_ok, nmX0, Nat.le_of_ble_eq_true rfl, zT_in (List.mem_of_getElem? (i := 403) (by decide +kernel)) rfl⟩
theorem kF_X0_27 : zFl RX0 27 6 0 RX6 TX6 10 tyX6 := ⟨rfl, zin_X6, tyX6_ok, nmX6, Nat.le_of_ble_eq_true rfl, zT_in (List.mem_of_getElem? (i := 240) (by decide +kernel)) rfl⟩
theorem kF_X0_33 : zFl RX0 33 6 9 RX6 TX6 10 tyX6 := ⟨rfl, zin_X6, tyX6_ok, nmX6, Nat.le_of_ble_eq_true rfl, zT_in (List.mem_of_getElem? (i := 270) (by decide +kernel)) rfl⟩
theorem kF_X4_28 : zFl RX4 28 4 0 RX4 TX4 5 tyX4 := ⟨rfl, zin_X4, tyX4_ok, nmX4, Nat.le_of_ble_eq_true rfl, zT_in (List.mem_of_getElem? (i := 206) (by decide +kernel)) rfl⟩
theorem kF_X4_9 : zFl RX4 9 4 1 RX4 TX4 5 tyX4 := ⟨rfl, zin_X4, tyX4_ok, nmX4, Nat.le_of_ble_eq_true rfl, zT_in (List.mem_of_getElem? (i := 207) (by decide +kernel)) rfl⟩
theorem kM_X4_24 : zMv RX4 24 yX4_clauseOn cX4_clauseOn 4 (some .int) 1 := ⟨zT_in (List.mem_of_getElem? (i := 642) (by decide +kernel)) rfl, zT_in (List.mem_of_getElem? (i := 644) (by decide +kernel)) rfl, zT_in (List.mem_of_getElem? (i := 7) (by decide +kernel)) rfl, zT_in (List.mem_of_getElem? (i := 75) (by decide +kernel)) rfl, zT_in (List.mem_of_getElem? (i := 645) (by decide +kernel)) rfl, by decide +kernel, by decide +kernel⟩
theorem kF_X4_21 : zFl RX4 21 4 4 RX4 TX4 5 tyX4 := ⟨rfl, zin_X4, tyX4_ok, nmX4, Nat.le_of_ble_eq_true rfl, zT_in (List.mem_of_getElem? (i := 210) (by decide +kernel)) rfl⟩
theorem kF_X9_28 : zFl RX9 28 9 2 RX9 TX9 3 tyX9 := ⟨rfl, zin_X9, tyX9_ok, nmX9, Nat.le_of_ble_eq_true rfl, zT_in (List.mem_of_getElem? (i := 300) (by decide +kernel)) rfl⟩
theorem kF_X9_71 : zFl RX9 71 6 0 RX6 TX6 10 tyX6 := ⟨rfl, zin_X6, tyX6_ok, nmX6, Nat.le_of_ble_eq_true rfl, zT_in (List.mem_of_getElem? (i := 241) (by decide +kernel)) rfl⟩
theorem kF_X9_21 : zFl RX9 21 9 1 RX9 TX9 3 tyX9 := ⟨rfl, zin_X9, tyX9_ok, nmX9, Nat.le_of_ble_eq_true rfl, zT_in (List.mem_of_getElem? (i := 298) (by decide +kernel)) rfl⟩
theorem kM_X9_85 : zMv RX9 85 yX4_talkersOn cX4_talkersOn 3 (some .int) 1 := ⟨zT_in (List.mem_of_getElem? (i := 696) (by decide +kernel)) rfl, zT_in (List.mem_of_getElem? (i := 651) (by decide +kernel)) rfl, zT_in (List.mem_of_getElem? (i := 652) (by decide +kernel)) rfl, zT_in (List.mem_of_getElem? (i := 75) (by decide +kernel)) rfl, zT_in (List.mem_of_getElem? (i := 653) (by decide +kernel)) rfl, by decide +kernel, by decide +kernel⟩
theorem kM_X9_88 : Cond.methodLink RX9 88 Lib.Math.max.name ∈ zT ∧ Cond.static Lib.Math.max.name ∈ zT ∧ Cond.initialized "java/lang/Math" ∈ zT ∧ Cond.code Lib.Math.max.name Lib.Math.max.code 2 (some .int) ∈ zT := ⟨zT_in (List.mem_of_getElem? (i := 697) (by decide +kernel)) rfl, zT_in (List.mem_of_getElem? (i := 698) (by decide +kernel)) rfl, zT_in (List.mem_of_getElem? (i := 88) (by decide +kernel)) rfl, zT_in (List.mem_of_getElem? (i := 699) (by decide +kernel)) rfl⟩
theorem kF_X9_82 : zFl RX9 82 6 1 RX6 TX6 10 tyX6 := ⟨rfl, zin_X6, tyX6_ok, nmX6, Nat.le_of_ble_eq_true rfl, zT_in (List.mem_of_getElem? (i := 245) (by decide +kernel)) rfl⟩
theorem kF_X2_34 : zFl RX2 34 2 1 RX2 TX2 8 tyX2 := ⟨rfl, zin_X2, tyX2_ok, nmX2, Nat.le_of_ble_eq_true rfl, zT_in (List.mem_of_getElem? (i := 156) (by decide +kernel)) rfl⟩
theorem kF_X2_30 : zFl RX2 30 2 0 RX2 TX2 8 tyX2 := ⟨rfl, zin_X2, tyX2_ok, nmX2, Nat.le_of_ble_eq_true rfl, zT_in (List.mem_of_getElem? (i := 151) (by decide +kernel)) rfl⟩
theorem kF_X9_12 : zFl RX9 12 9 0 RX9 TX9 3 tyX9 := ⟨rfl, zin_X9, tyX9_ok, nmX9, Nat.le_of_ble_eq_true rfl, zT_in (List.mem_of_getElem? (i := 293) (by decide +kernel)) rfl⟩
theorem kM_X9_32 : zMv RX9 32 yX2_hasSuit cX2_hasSuit 2 (some .boolean) 1 := ⟨zT_in (List.mem_of_getElem? (i := 690) (by decide +kernel)) rfl, zT_in (List.mem_of_getElem? (i := 659) (by decide +kernel)) rfl, zT_in (List.mem_of_getElem? (i := 660) (by decide +kernel)) rfl, zT_in (List.mem_of_getElem? (i := 74) (by decide +kernel)) rfl, zT_in (List.mem_of_getElem? (i := 661) (by decide +kernel)) rfl, by decide +kernel, by decide +kernel⟩
theorem kF_X9_36 : zFl RX9 36 6 7 RX6 TX6 10 tyX6 := ⟨rfl, zin_X6, tyX6_ok, nmX6, Nat.le_of_ble_eq_true rfl, zT_in (List.mem_of_getElem? (i := 265) (by decide +kernel)) rfl⟩
theorem kF_X4_18 : zFl RX4 18 4 3 RX4 TX4 5 tyX4 := ⟨rfl, zin_X4, tyX4_ok, nmX4, Nat.le_of_ble_eq_true rfl, zT_in (List.mem_of_getElem? (i := 209) (by decide +kernel)) rfl⟩
theorem kM_X9_40 : zMv RX9 40 yX2_hasWitness cX2_hasWitness 2 (some .boolean) 1 := ⟨zT_in (List.mem_of_getElem? (i := 676) (by decide +kernel)) rfl, zT_in (List.mem_of_getElem? (i := 669) (by decide +kernel)) rfl, zT_in (List.mem_of_getElem? (i := 670) (by decide +kernel)) rfl, zT_in (List.mem_of_getElem? (i := 74) (by decide +kernel)) rfl, zT_in (List.mem_of_getElem? (i := 671) (by decide +kernel)) rfl, by decide +kernel, by decide +kernel⟩
theorem kF_X9_53 : zFl RX9 53 6 5 RX6 TX6 10 tyX6 := ⟨rfl, zin_X6, tyX6_ok, nmX6, Nat.le_of_ble_eq_true rfl, zT_in (List.mem_of_getElem? (i := 256) (by decide +kernel)) rfl⟩
theorem kF_X9_56 : zFl RX9 56 2 5 RX2 TX2 8 tyX2 := ⟨rfl, zin_X2, tyX2_ok, nmX2, Nat.le_of_ble_eq_true rfl, zT_in (List.mem_of_getElem? (i := 171) (by decide +kernel)) rfl⟩
theorem kM_X9_59 : zMv RX9 59 yX9_goesOn cX9_goesOn 2 (some .boolean) 1 := ⟨zT_in (List.mem_of_getElem? (i := 686) (by decide +kernel)) rfl, zT_in (List.mem_of_getElem? (i := 687) (by decide +kernel)) rfl, zT_in (List.mem_of_getElem? (i := 688) (by decide +kernel)) rfl, zT_in (List.mem_of_getElem? (i := 73) (by decide +kernel)) rfl, zT_in (List.mem_of_getElem? (i := 689) (by decide +kernel)) rfl, by decide +kernel, by decide +kernel⟩
theorem kF_X9_62 : zFl RX9 62 6 4 RX6 TX6 10 tyX6 := ⟨rfl, zin_X6, tyX6_ok, nmX6, Nat.le_of_ble_eq_true rfl, zT_in (List.mem_of_getElem? (i := 253) (by decide +kernel)) rfl⟩
theorem kF_X9_43 : zFl RX9 43 2 7 RX2 TX2 8 tyX2 := ⟨rfl, zin_X2, tyX2_ok, nmX2, Nat.le_of_ble_eq_true rfl, zT_in (List.mem_of_getElem? (i := 179) (by decide +kernel)) rfl⟩
theorem kF_X9_65 : zFl RX9 65 6 3 RX6 TX6 10 tyX6 := ⟨rfl, zin_X6, tyX6_ok, nmX6, Nat.le_of_ble_eq_true rfl, zT_in (List.mem_of_getElem? (i := 250) (by decide +kernel)) rfl⟩
theorem kM_X9_68 : zMv RX9 68 yX4_moonOn cX4_moonOn 3 (some .int) 1 := ⟨zT_in (List.mem_of_getElem? (i := 691) (by decide +kernel)) rfl, zT_in (List.mem_of_getElem? (i := 647) (by decide +kernel)) rfl, zT_in (List.mem_of_getElem? (i := 648) (by decide +kernel)) rfl, zT_in (List.mem_of_getElem? (i := 75) (by decide +kernel)) rfl, zT_in (List.mem_of_getElem? (i := 649) (by decide +kernel)) rfl, by decide +kernel, by decide +kernel⟩
theorem kF_X4_15 : zFl RX4 15 4 2 RX4 TX4 5 tyX4 := ⟨rfl, zin_X4, tyX4_ok, nmX4, Nat.le_of_ble_eq_true rfl, zT_in (List.mem_of_getElem? (i := 208) (by decide +kernel)) rfl⟩
theorem kF_X9_46 : zFl RX9 46 2 6 RX2 TX2 8 tyX2 := ⟨rfl, zin_X2, tyX2_ok, nmX2, Nat.le_of_ble_eq_true rfl, zT_in (List.mem_of_getElem? (i := 176) (by decide +kernel)) rfl⟩
theorem kM_X9_49 : zMv RX9 49 yX4_copiesOn cX4_copiesOn 3 (some .int) 1 := ⟨zT_in (List.mem_of_getElem? (i := 677) (by decide +kernel)) rfl, zT_in (List.mem_of_getElem? (i := 639) (by decide +kernel)) rfl, zT_in (List.mem_of_getElem? (i := 640) (by decide +kernel)) rfl, zT_in (List.mem_of_getElem? (i := 75) (by decide +kernel)) rfl, zT_in (List.mem_of_getElem? (i := 641) (by decide +kernel)) rfl, by decide +kernel, by decide +kernel⟩
theorem kM_X2_37 : zMv RX2 37 yX2_hasSuit cX2_hasSuit 2 (some .boolean) 1 := ⟨zT_in (List.mem_of_getElem? (i := 728) (by decide +kernel)) rfl, zT_in (List.mem_of_getElem? (i := 659) (by decide +kernel)) rfl, zT_in (List.mem_of_getElem? (i := 660) (by decide +kernel)) rfl, zT_in (List.mem_of_getElem? (i := 74) (by decide +kernel)) rfl, zT_in (List.mem_of_getElem? (i := 661) (by decide +kernel)) rfl, by decide +kernel, by decide +kernel⟩
theorem kF_X2_9 : zFl RX2 9 2 2 RX2 TX2 8 tyX2 := ⟨rfl, zin_X2, tyX2_ok, nmX2, Nat.le_of_ble_eq_true rfl, zT_in (List.mem_of_getElem? (i := 161) (by decide +kernel)) rfl⟩
theorem kF_X1_81 : zFl RX1 81 1 8 RX1 TX1 12 tyX1 := ⟨rfl, zin_X1, tyX1_ok, nmX1, Nat.le_of_ble_eq_true rfl, zT_in (List.mem_of_getElem? (i := 328) (by decide +kernel)) rfl⟩
theorem kF_X1_37 : zFl RX1 37 1 0 RX1 TX1 12 tyX1 := ⟨rfl, zin_X1, tyX1_ok, nmX1, Nat.le_of_ble_eq_true rfl, zT_in (List.mem_of_getElem? (i := 320) (by decide +kernel)) rfl⟩
theorem kF_X1_110 : zFl RX1 110 9 2 RX9 TX9 3 tyX9 := ⟨rfl, zin_X9, tyX9_ok, nmX9, Nat.le_of_ble_eq_true rfl, zT_in (List.mem_of_getElem? (i := 304) (by decide +kernel)) rfl⟩
theorem kF_X1_114 : zFl RX1 114 6 0 RX6 TX6 10 tyX6 := ⟨rfl, zin_X6, tyX6_ok, nmX6, Nat.le_of_ble_eq_true rfl, zT_in (List.mem_of_getElem? (i := 243) (by decide +kernel)) rfl⟩
theorem kM_X1_119 : Cond.methodLink RX1 119 Lib.Math.min.name ∈ zT ∧ Cond.static Lib.Math.min.name ∈ zT ∧ Cond.initialized "java/lang/Math" ∈ zT ∧ Cond.code Lib.Math.min.name Lib.Math.min.code 2 (some .int) ∈ zT := ⟨zT_in (List.mem_of_getElem? (i := 789) (by decide +kernel)) rfl, zT_in (List.mem_of_getElem? (i := 790) (by decide +kernel)) rfl, zT_in (List.mem_of_getElem? (i := 88) (by decide +kernel)) rfl, zT_in (List.mem_of_getElem? (i := 791) (by decide +kernel)) rfl⟩
theorem kF_X1_48 : zFl RX1 48 1 9 RX1 TX1 12 tyX1 := ⟨rfl, zin_X1, tyX1_ok, nmX1, Nat.le_of_ble_eq_true rfl, zT_in (List.mem_of_getElem? (i := 329) (by decide +kernel)) rfl⟩
theorem kF_X1_98 : zFl RX1 98 9 0 RX9 TX9 3 tyX9 := ⟨rfl, zin_X9, tyX9_ok, nmX9, Nat.le_of_ble_eq_true rfl, zT_in (List.mem_of_getElem? (i := 297) (by decide +kernel)) rfl⟩
theorem kM_X1_137 : zMv RX1 137 yX2_hasSuit cX2_hasSuit 2 (some .boolean) 1 := ⟨zT_in (List.mem_of_getElem? (i := 796) (by decide +kernel)) rfl, zT_in (List.mem_of_getElem? (i := 659) (by decide +kernel)) rfl, zT_in (List.mem_of_getElem? (i := 660) (by decide +kernel)) rfl, zT_in (List.mem_of_getElem? (i := 74) (by decide +kernel)) rfl, zT_in (List.mem_of_getElem? (i := 661) (by decide +kernel)) rfl, by decide +kernel, by decide +kernel⟩
theorem kF_X1_143 : zFl RX1 143 1 10 RX1 TX1 12 tyX1 := ⟨rfl, zin_X1, tyX1_ok, nmX1, Nat.le_of_ble_eq_true rfl, zT_in (List.mem_of_getElem? (i := 330) (by decide +kernel)) rfl⟩
theorem kM_X1_146 : zMv RX1 146 yX2_goalOf cX2_goalOf 2 (some .int) 1 := ⟨zT_in (List.mem_of_getElem? (i := 797) (by decide +kernel)) rfl, zT_in (List.mem_of_getElem? (i := 725) (by decide +kernel)) rfl, zT_in (List.mem_of_getElem? (i := 726) (by decide +kernel)) rfl, zT_in (List.mem_of_getElem? (i := 74) (by decide +kernel)) rfl, zT_in (List.mem_of_getElem? (i := 727) (by decide +kernel)) rfl, by decide +kernel, by decide +kernel⟩
theorem kF_X1_70 : zFl RX1 70 1 11 RX1 TX1 12 tyX1 := ⟨rfl, zin_X1, tyX1_ok, nmX1, Nat.le_of_ble_eq_true rfl, zT_in (List.mem_of_getElem? (i := 331) (by decide +kernel)) rfl⟩
theorem kF_X1_140 : zFl RX1 140 6 6 RX6 TX6 10 tyX6 := ⟨rfl, zin_X6, tyX6_ok, nmX6, Nat.le_of_ble_eq_true rfl, zT_in (List.mem_of_getElem? (i := 261) (by decide +kernel)) rfl⟩
theorem kF_X1_20 : zFl RX1 20 1 3 RX1 TX1 12 tyX1 := ⟨rfl, zin_X1, tyX1_ok, nmX1, Nat.le_of_ble_eq_true rfl, zT_in (List.mem_of_getElem? (i := 323) (by decide +kernel)) rfl⟩
theorem kM_X1_125 : zMv RX1 125 yX9_roomOn cX9_roomOn 3 (some .int) 1 := ⟨zT_in (List.mem_of_getElem? (i := 792) (by decide +kernel)) rfl, zT_in (List.mem_of_getElem? (i := 693) (by decide +kernel)) rfl, zT_in (List.mem_of_getElem? (i := 694) (by decide +kernel)) rfl, zT_in (List.mem_of_getElem? (i := 73) (by decide +kernel)) rfl, zT_in (List.mem_of_getElem? (i := 695) (by decide +kernel)) rfl, by decide +kernel, by decide +kernel⟩
theorem kF_X1_9 : zFl RX1 9 1 1 RX1 TX1 12 tyX1 := ⟨rfl, zin_X1, tyX1_ok, nmX1, Nat.le_of_ble_eq_true rfl, zT_in (List.mem_of_getElem? (i := 321) (by decide +kernel)) rfl⟩
theorem kM_X1_128 : zMv RX1 128 yX9_mayBeCalled cX9_mayBeCalled 3 (some .boolean) 2 := ⟨zT_in (List.mem_of_getElem? (i := 793) (by decide +kernel)) rfl, zT_in (List.mem_of_getElem? (i := 683) (by decide +kernel)) rfl, zT_in (List.mem_of_getElem? (i := 684) (by decide +kernel)) rfl, zT_in (List.mem_of_getElem? (i := 73) (by decide +kernel)) rfl, zT_in (List.mem_of_getElem? (i := 685) (by decide +kernel)) rfl, by decide +kernel, by decide +kernel⟩
theorem kF_X1_17 : zFl RX1 17 1 2 RX1 TX1 12 tyX1 := ⟨rfl, zin_X1, tyX1_ok, nmX1, Nat.le_of_ble_eq_true rfl, zT_in (List.mem_of_getElem? (i := 322) (by decide +kernel)) rfl⟩
theorem kC_X1_135 : Cond.constantLong RX1 135 (-1) ∈ zT := zT_in (List.mem_of_getElem? (i := 795) (by decide +kernel)) rfl
theorem kM_X1_132 : zMv RX1 132 yX9_freshOn cX9_freshOn 3 (some .int) 2 := ⟨zT_in (List.mem_of_getElem? (i := 794) (by decide +kernel)) rfl, zT_in (List.mem_of_getElem? (i := 673) (by decide +kernel)) rfl, zT_in (List.mem_of_getElem? (i := 674) (by decide +kernel)) rfl, zT_in (List.mem_of_getElem? (i := 73) (by decide +kernel)) rfl, zT_in (List.mem_of_getElem? (i := 675) (by decide +kernel)) rfl, by decide +kernel, by decide +kernel⟩
theorem kF_X1_102 : zFl RX1 102 2 1 RX2 TX2 8 tyX2 := ⟨rfl, zin_X2, tyX2_ok, nmX2, Nat.le_of_ble_eq_true rfl, zT_in (List.mem_of_getElem? (i := 158) (by decide +kernel)) rfl⟩
theorem kF_X1_107 : zFl RX1 107 2 5 RX2 TX2 8 tyX2 := ⟨rfl, zin_X2, tyX2_ok, nmX2, Nat.le_of_ble_eq_true rfl, zT_in (List.mem_of_getElem? (i := 173) (by decide +kernel)) rfl⟩
theorem kF_X1_23 : zFl RX1 23 1 4 RX1 TX1 12 tyX1 := ⟨rfl, zin_X1, tyX1_ok, nmX1, Nat.le_of_ble_eq_true rfl, zT_in (List.mem_of_getElem? (i := 324) (by decide +kernel)) rfl⟩
theorem kM_X1_149 : zMs RX1 149 yJ7_fill_d0a16 cJ7_fill_d0a16 5 none 2 := ⟨zT_in (List.mem_of_getElem? (i := 802) (by decide +kernel)) rfl, zT_in (List.mem_of_getElem? (i := 803) (by decide +kernel)) rfl, zT_in (List.mem_of_getElem? (i := 77) (by decide +kernel)) rfl, zT_in (List.mem_of_getElem? (i := 804) (by decide +kernel)) rfl, by decide +kernel, by decide +kernel⟩
theorem kF_X1_27 : zFl RX1 27 1 5 RX1 TX1 12 tyX1 := ⟨rfl, zin_X1, tyX1_ok, nmX1, Nat.le_of_ble_eq_true rfl, zT_in (List.mem_of_getElem? (i := 325) (by decide +kernel)) rfl⟩
theorem kC_J6_265 : Cond.constant RJ6 265 (1431655765) ∈ zT := zT_in (List.mem_of_getElem? (i := 592) (by decide +kernel)) rfl
theorem kC_J6_266 : Cond.constant RJ6 266 (858993459) ∈ zT := zT_in (List.mem_of_getElem? (i := 593) (by decide +kernel)) rfl
theorem kC_J6_267 : Cond.constant RJ6 267 (252645135) ∈ zT := zT_in (List.mem_of_getElem? (i := 594) (by decide +kernel)) rfl
theorem kM_X1_155 : zMv RX1 155 yX1_addUp cX1_addUp 6 (some .int) 1 := ⟨zT_in (List.mem_of_getElem? (i := 813) (by decide +kernel)) rfl, zT_in (List.mem_of_getElem? (i := 815) (by decide +kernel)) rfl, zT_in (List.mem_of_getElem? (i := 14) (by decide +kernel)) rfl, zT_in (List.mem_of_getElem? (i := 78) (by decide +kernel)) rfl, zT_in (List.mem_of_getElem? (i := 816) (by decide +kernel)) rfl, by decide +kernel, by decide +kernel⟩
theorem kM_X1_87 : zMs RX1 87 yJ6_bitCount_0f7a4 cJ6_bitCount_0f7a4 1 (some .int) 1 := ⟨zT_in (List.mem_of_getElem? (i := 817) (by decide +kernel)) rfl, zT_in (List.mem_of_getElem? (i := 590) (by decide +kernel)) rfl, zT_in (List.mem_of_getElem? (i := 87) (by decide +kernel)) rfl, zT_in (List.mem_of_getElem? (i := 591) (by decide +kernel)) rfl, by decide +kernel, by decide +kernel⟩
theorem kM_X1_158 : Cond.methodLink RX1 158 Lib.MathLoose.max_long.x ∈ zT ∧ Cond.static Lib.MathLoose.max_long.x ∈ zT ∧ Cond.initialized "java/lang/Math" ∈ zT ∧ Cond.code Lib.MathLoose.max_long.x Lib.MathLoose.max_long.code 4 (some .long) ∈ zT := ⟨zT_in (List.mem_of_getElem? (i := 818) (by decide +kernel)) rfl, zT_in (List.mem_of_getElem? (i := 819) (by decide +kernel)) rfl, zT_in (List.mem_of_getElem? (i := 88) (by decide +kernel)) rfl, zT_in (List.mem_of_getElem? (i := 820) (by decide +kernel)) rfl⟩
theorem kM_X1_52 : zMv RX1 52 yX1_allOfThem cX1_allOfThem 1 (some .int) 0 := ⟨zT_in (List.mem_of_getElem? (i := 805) (by decide +kernel)) rfl, zT_in (List.mem_of_getElem? (i := 807) (by decide +kernel)) rfl, zT_in (List.mem_of_getElem? (i := 12) (by decide +kernel)) rfl, zT_in (List.mem_of_getElem? (i := 78) (by decide +kernel)) rfl, zT_in (List.mem_of_getElem? (i := 808) (by decide +kernel)) rfl, by decide +kernel, by decide +kernel⟩
theorem kM_X1_41 : zMv RX1 41 yX1_prepare cX1_prepare 6 none 1 := ⟨zT_in (List.mem_of_getElem? (i := 785) (by decide +kernel)) rfl, zT_in (List.mem_of_getElem? (i := 787) (by decide +kernel)) rfl, zT_in (List.mem_of_getElem? (i := 10) (by decide +kernel)) rfl, zT_in (List.mem_of_getElem? (i := 78) (by decide +kernel)) rfl, zT_in (List.mem_of_getElem? (i := 788) (by decide +kernel)) rfl, by decide +kernel, by decide +kernel⟩
theorem kM_X1_45 : zMv RX1 45 yX1_clearPlans cX1_clearPlans 1 none 0 := ⟨zT_in (List.mem_of_getElem? (i := 798) (by decide +kernel)) rfl, zT_in (List.mem_of_getElem? (i := 800) (by decide +kernel)) rfl, zT_in (List.mem_of_getElem? (i := 11) (by decide +kernel)) rfl, zT_in (List.mem_of_getElem? (i := 78) (by decide +kernel)) rfl, zT_in (List.mem_of_getElem? (i := 801) (by decide +kernel)) rfl, by decide +kernel, by decide +kernel⟩
theorem kM_X1_60 : zMv RX1 60 yX1_greatest cX1_greatest 4 (some .long) 0 := ⟨zT_in (List.mem_of_getElem? (i := 821) (by decide +kernel)) rfl, zT_in (List.mem_of_getElem? (i := 823) (by decide +kernel)) rfl, zT_in (List.mem_of_getElem? (i := 15) (by decide +kernel)) rfl, zT_in (List.mem_of_getElem? (i := 78) (by decide +kernel)) rfl, zT_in (List.mem_of_getElem? (i := 824) (by decide +kernel)) rfl, by decide +kernel, by decide +kernel⟩
theorem kM_X1_56 : zMv RX1 56 yX1_callOn cX1_callOn 8 none 2 := ⟨zT_in (List.mem_of_getElem? (i := 809) (by decide +kernel)) rfl, zT_in (List.mem_of_getElem? (i := 811) (by decide +kernel)) rfl, zT_in (List.mem_of_getElem? (i := 13) (by decide +kernel)) rfl, zT_in (List.mem_of_getElem? (i := 78) (by decide +kernel)) rfl, zT_in (List.mem_of_getElem? (i := 812) (by decide +kernel)) rfl, by decide +kernel, by decide +kernel⟩
theorem kM_X1_64 : zMv RX1 64 yX9_goesOn cX9_goesOn 2 (some .boolean) 1 := ⟨zT_in (List.mem_of_getElem? (i := 833) (by decide +kernel)) rfl, zT_in (List.mem_of_getElem? (i := 687) (by decide +kernel)) rfl, zT_in (List.mem_of_getElem? (i := 688) (by decide +kernel)) rfl, zT_in (List.mem_of_getElem? (i := 73) (by decide +kernel)) rfl, zT_in (List.mem_of_getElem? (i := 689) (by decide +kernel)) rfl, by decide +kernel, by decide +kernel⟩
theorem kM_X1_166 : Cond.methodLink RX1 166 Lib.Math.max.name ∈ zT ∧ Cond.static Lib.Math.max.name ∈ zT ∧ Cond.initialized "java/lang/Math" ∈ zT ∧ Cond.code Lib.Math.max.name Lib.Math.max.code 2 (some .int) ∈ zT := ⟨zT_in (List.mem_of_getElem? (i := 850) (by decide +kernel)) rfl, zT_in (List.mem_of_getElem? (i := 698) (by decide +kernel)) rfl, zT_in (List.mem_of_getElem? (i := 88) (by decide +kernel)) rfl, zT_in (List.mem_of_getElem? (i := 699) (by decide +kernel)) rfl⟩
theorem kM_X1_162 : zMv RX1 162 yX1_suffices cX1_suffices 4 (some .boolean) 2 := ⟨zT_in (List.mem_of_getElem? (i := 846) (by decide +kernel)) rfl, zT_in (List.mem_of_getElem? (i := 848) (by decide +kernel)) rfl, zT_in (List.mem_of_getElem? (i := 17) (by decide +kernel)) rfl, zT_in (List.mem_of_getElem? (i := 78) (by decide +kernel)) rfl, zT_in (List.mem_of_getElem? (i := 849) (by decide +kernel)) rfl, by decide +kernel, by decide +kernel⟩
theorem kF_X1_34 : zFl RX1 34 1 7 RX1 TX1 12 tyX1 := ⟨rfl, zin_X1, tyX1_ok, nmX1, Nat.le_of_ble_eq_true rfl, zT_in (List.mem_of_getElem? (i := 327) (by decide +kernel)) rfl⟩
theorem kM_X1_168 : zMv RX1 168 yX1_othersMakeUp cX1_othersMakeUp 7 (some .boolean) 4 := ⟨zT_in (List.mem_of_getElem? (i := 855) (by decide +kernel)) rfl, zT_in (List.mem_of_getElem? (i := 857) (by decide +kernel)) rfl, zT_in (List.mem_of_getElem? (i := 19) (by decide +kernel)) rfl, zT_in (List.mem_of_getElem? (i := 78) (by decide +kernel)) rfl, zT_in (List.mem_of_getElem? (i := 858) (by decide +kernel)) rfl, by decide +kernel, by decide +kernel⟩
theorem kM_X1_74 : zMv RX1 74 yX1_fewestSpeakers cX1_fewestSpeakers 5 (some .int) 1 := ⟨zT_in (List.mem_of_getElem? (i := 842) (by decide +kernel)) rfl, zT_in (List.mem_of_getElem? (i := 844) (by decide +kernel)) rfl, zT_in (List.mem_of_getElem? (i := 16) (by decide +kernel)) rfl, zT_in (List.mem_of_getElem? (i := 78) (by decide +kernel)) rfl, zT_in (List.mem_of_getElem? (i := 845) (by decide +kernel)) rfl, by decide +kernel, by decide +kernel⟩
theorem kM_X1_78 : zMv RX1 78 yX1_setDays cX1_setDays 8 none 2 := ⟨zT_in (List.mem_of_getElem? (i := 851) (by decide +kernel)) rfl, zT_in (List.mem_of_getElem? (i := 853) (by decide +kernel)) rfl, zT_in (List.mem_of_getElem? (i := 18) (by decide +kernel)) rfl, zT_in (List.mem_of_getElem? (i := 78) (by decide +kernel)) rfl, zT_in (List.mem_of_getElem? (i := 854) (by decide +kernel)) rfl, by decide +kernel, by decide +kernel⟩
theorem kF_X1_30 : zFl RX1 30 1 6 RX1 TX1 12 tyX1 := ⟨rfl, zin_X1, tyX1_ok, nmX1, Nat.le_of_ble_eq_true rfl, zT_in (List.mem_of_getElem? (i := 326) (by decide +kernel)) rfl⟩
theorem kM_X1_84 : zMv RX1 84 yX1_findWins cX1_findWins 3 none 0 := ⟨zT_in (List.mem_of_getElem? (i := 867) (by decide +kernel)) rfl, zT_in (List.mem_of_getElem? (i := 869) (by decide +kernel)) rfl, zT_in (List.mem_of_getElem? (i := 20) (by decide +kernel)) rfl, zT_in (List.mem_of_getElem? (i := 78) (by decide +kernel)) rfl, zT_in (List.mem_of_getElem? (i := 870) (by decide +kernel)) rfl, by decide +kernel, by decide +kernel⟩
theorem kM_X1_95 : zMv RX1 95 yX1_asWitnesses cX1_asWitnesses 4 (some .int) 1 := ⟨zT_in (List.mem_of_getElem? (i := 875) (by decide +kernel)) rfl, zT_in (List.mem_of_getElem? (i := 877) (by decide +kernel)) rfl, zT_in (List.mem_of_getElem? (i := 22) (by decide +kernel)) rfl, zT_in (List.mem_of_getElem? (i := 78) (by decide +kernel)) rfl, zT_in (List.mem_of_getElem? (i := 878) (by decide +kernel)) rfl, by decide +kernel, by decide +kernel⟩
theorem kM_X1_92 : zMv RX1 92 yX1_stopsAll cX1_stopsAll 3 (some .boolean) 1 := ⟨zT_in (List.mem_of_getElem? (i := 871) (by decide +kernel)) rfl, zT_in (List.mem_of_getElem? (i := 873) (by decide +kernel)) rfl, zT_in (List.mem_of_getElem? (i := 21) (by decide +kernel)) rfl, zT_in (List.mem_of_getElem? (i := 78) (by decide +kernel)) rfl, zT_in (List.mem_of_getElem? (i := 874) (by decide +kernel)) rfl, by decide +kernel, by decide +kernel⟩
theorem kF_X2_21 : zFl RX2 21 2 5 RX2 TX2 8 tyX2 := ⟨rfl, zin_X2, tyX2_ok, nmX2, Nat.le_of_ble_eq_true rfl, zT_in (List.mem_of_getElem? (i := 169) (by decide +kernel)) rfl⟩
theorem kF_X5_15 : zFl RX5 15 5 1 RX5 TX5 5 tyX5 := ⟨rfl, zin_X5, tyX5_ok, nmX5, Nat.le_of_ble_eq_true rfl, zT_in (List.mem_of_getElem? (i := 122) (by decide +kernel)) rfl⟩
theorem kF_X5_22 : zFl RX5 22 5 3 RX5 TX5 5 tyX5 := ⟨rfl, zin_X5, tyX5_ok, nmX5, Nat.le_of_ble_eq_true rfl, zT_in (List.mem_of_getElem? (i := 126) (by decide +kernel)) rfl⟩
theorem kF_X5_9 : zFl RX5 9 5 0 RX5 TX5 5 tyX5 := ⟨rfl, zin_X5, tyX5_ok, nmX5, Nat.le_of_ble_eq_true rfl, zT_in (List.mem_of_getElem? (i := 121) (by decide +kernel)) rfl⟩
theorem kF_X5_29 : zFl RX5 29 7 1 RX7 TX7 2 tyX7 := ⟨rfl, zin_X7, tyX7_ok, nmX7, Nat.le_of_ble_eq_true rfl, zT_in (List.mem_of_getElem? (i := 108) (by decide +kernel)) rfl⟩
theorem kF_X5_72 : zFl RX5 72 7 0 RX7 TX7 2 tyX7 := ⟨rfl, zin_X7, tyX7_ok, nmX7, Nat.le_of_ble_eq_true rfl, zT_in (List.mem_of_getElem? (i := 105) (by decide +kernel)) rfl⟩
theorem kF_X5_38 : zFl RX5 38 5 4 RX5 TX5 5 tyX5 := ⟨rfl, zin_X5, tyX5_ok, nmX5, Nat.le_of_ble_eq_true rfl, zT_in (List.mem_of_getElem? (i := 127) (by decide +kernel)) rfl⟩
theorem kM_X5_54 : zMv RX5 54 yX5_byteAt cX5_byteAt 2 (some .int) 1 := ⟨zT_in (List.mem_of_getElem? (i := 475) (by decide +kernel)) rfl, zT_in (List.mem_of_getElem? (i := 477) (by decide +kernel)) rfl, zT_in (List.mem_of_getElem? (i := 1) (by decide +kernel)) rfl, zT_in (List.mem_of_getElem? (i := 72) (by decide +kernel)) rfl, zT_in (List.mem_of_getElem? (i := 478) (by decide +kernel)) rfl, by decide +kernel, by decide +kernel⟩
theorem kF_X5_19 : zFl RX5 19 5 2 RX5 TX5 5 tyX5 := ⟨rfl, zin_X5, tyX5_ok, nmX5, Nat.le_of_ble_eq_true rfl, zT_in (List.mem_of_getElem? (i := 124) (by decide +kernel)) rfl⟩
theorem kM_X5_34 : zMv RX5 34 yX5_refuseAt cX5_refuseAt 3 none 2 := ⟨zT_in (List.mem_of_getElem? (i := 559) (by decide +kernel)) rfl, zT_in (List.mem_of_getElem? (i := 561) (by decide +kernel)) rfl, zT_in (List.mem_of_getElem? (i := 4) (by decide +kernel)) rfl, zT_in (List.mem_of_getElem? (i := 72) (by decide +kernel)) rfl, zT_in (List.mem_of_getElem? (i := 562) (by decide +kernel)) rfl, by decide +kernel, by decide +kernel⟩
theorem kM_X5_41 : zMv RX5 41 yX5_isSound cX5_isSound 1 (some .boolean) 0 := ⟨zT_in (List.mem_of_getElem? (i := 492) (by decide +kernel)) rfl, zT_in (List.mem_of_getElem? (i := 493) (by decide +kernel)) rfl, zT_in (List.mem_of_getElem? (i := 494) (by decide +kernel)) rfl, zT_in (List.mem_of_getElem? (i := 72) (by decide +kernel)) rfl, zT_in (List.mem_of_getElem? (i := 495) (by decide +kernel)) rfl, by decide +kernel, by decide +kernel⟩
theorem kM_X5_62 : zMv RX5 62 yX5_refuseHere cX5_refuseHere 2 none 1 := ⟨zT_in (List.mem_of_getElem? (i := 570) (by decide +kernel)) rfl, zT_in (List.mem_of_getElem? (i := 571) (by decide +kernel)) rfl, zT_in (List.mem_of_getElem? (i := 572) (by decide +kernel)) rfl, zT_in (List.mem_of_getElem? (i := 72) (by decide +kernel)) rfl, zT_in (List.mem_of_getElem? (i := 573) (by decide +kernel)) rfl, by decide +kernel, by decide +kernel⟩
theorem kM_X5_25 : zMv RX5 25 yX5_pass cX5_pass 3 none 1 := ⟨zT_in (List.mem_of_getElem? (i := 471) (by decide +kernel)) rfl, zT_in (List.mem_of_getElem? (i := 473) (by decide +kernel)) rfl, zT_in (List.mem_of_getElem? (i := 0) (by decide +kernel)) rfl, zT_in (List.mem_of_getElem? (i := 72) (by decide +kernel)) rfl, zT_in (List.mem_of_getElem? (i := 474) (by decide +kernel)) rfl, by decide +kernel, by decide +kernel⟩
theorem kM_X5_58 : zMs RX5 58 yX5_isFigure cX5_isFigure 1 (some .boolean) 1 := ⟨zT_in (List.mem_of_getElem? (i := 567) (by decide +kernel)) rfl, zT_in (List.mem_of_getElem? (i := 568) (by decide +kernel)) rfl, zT_in (List.mem_of_getElem? (i := 72) (by decide +kernel)) rfl, zT_in (List.mem_of_getElem? (i := 569) (by decide +kernel)) rfl, by decide +kernel, by decide +kernel⟩
theorem kF_X3_19 : zFl RX3 19 3 2 RX3 TX3 5 tyX3 := ⟨rfl, zin_X3, tyX3_ok, nmX3, Nat.le_of_ble_eq_true rfl, zT_in (List.mem_of_getElem? (i := 367) (by decide +kernel)) rfl⟩
theorem kF_X3_15 : zFl RX3 15 3 0 RX3 TX3 5 tyX3 := ⟨rfl, zin_X3, tyX3_ok, nmX3, Nat.le_of_ble_eq_true rfl, zT_in (List.mem_of_getElem? (i := 365) (by decide +kernel)) rfl⟩
theorem kF_X3_23 : zFl RX3 23 9 0 RX9 TX9 3 tyX9 := ⟨rfl, zin_X9, tyX9_ok, nmX9, Nat.le_of_ble_eq_true rfl, zT_in (List.mem_of_getElem? (i := 295) (by decide +kernel)) rfl⟩
theorem kM_X3_54 : zMv RX3 54 yX2_hasSuit cX2_hasSuit 2 (some .boolean) 1 := ⟨zT_in (List.mem_of_getElem? (i := 889) (by decide +kernel)) rfl, zT_in (List.mem_of_getElem? (i := 659) (by decide +kernel)) rfl, zT_in (List.mem_of_getElem? (i := 660) (by decide +kernel)) rfl, zT_in (List.mem_of_getElem? (i := 74) (by decide +kernel)) rfl, zT_in (List.mem_of_getElem? (i := 661) (by decide +kernel)) rfl, by decide +kernel, by decide +kernel⟩
theorem kF_X3_61 : zFl RX3 61 3 3 RX3 TX3 5 tyX3 := ⟨rfl, zin_X3, tyX3_ok, nmX3, Nat.le_of_ble_eq_true rfl, zT_in (List.mem_of_getElem? (i := 368) (by decide +kernel)) rfl⟩
theorem kM_X3_64 : zMv RX3 64 yX2_goalOf cX2_goalOf 2 (some .int) 1 := ⟨zT_in (List.mem_of_getElem? (i := 890) (by decide +kernel)) rfl, zT_in (List.mem_of_getElem? (i := 725) (by decide +kernel)) rfl, zT_in (List.mem_of_getElem? (i := 726) (by decide +kernel)) rfl, zT_in (List.mem_of_getElem? (i := 74) (by decide +kernel)) rfl, zT_in (List.mem_of_getElem? (i := 727) (by decide +kernel)) rfl, by decide +kernel, by decide +kernel⟩
theorem kF_X3_68 : zFl RX3 68 3 4 RX3 TX3 5 tyX3 := ⟨rfl, zin_X3, tyX3_ok, nmX3, Nat.le_of_ble_eq_true rfl, zT_in (List.mem_of_getElem? (i := 369) (by decide +kernel)) rfl⟩
theorem kF_X3_34 : zFl RX3 34 9 2 RX9 TX9 3 tyX9 := ⟨rfl, zin_X9, tyX9_ok, nmX9, Nat.le_of_ble_eq_true rfl, zT_in (List.mem_of_getElem? (i := 302) (by decide +kernel)) rfl⟩
theorem kF_X3_58 : zFl RX3 58 6 6 RX6 TX6 10 tyX6 := ⟨rfl, zin_X6, tyX6_ok, nmX6, Nat.le_of_ble_eq_true rfl, zT_in (List.mem_of_getElem? (i := 259) (by decide +kernel)) rfl⟩
theorem kF_X3_29 : zFl RX3 29 2 1 RX2 TX2 8 tyX2 := ⟨rfl, zin_X2, tyX2_ok, nmX2, Nat.le_of_ble_eq_true rfl, zT_in (List.mem_of_getElem? (i := 155) (by decide +kernel)) rfl⟩
theorem kF_X3_9 : zFl RX3 9 3 1 RX3 TX3 5 tyX3 := ⟨rfl, zin_X3, tyX3_ok, nmX3, Nat.le_of_ble_eq_true rfl, zT_in (List.mem_of_getElem? (i := 366) (by decide +kernel)) rfl⟩
theorem kF_X3_38 : zFl RX3 38 6 0 RX6 TX6 10 tyX6 := ⟨rfl, zin_X6, tyX6_ok, nmX6, Nat.le_of_ble_eq_true rfl, zT_in (List.mem_of_getElem? (i := 239) (by decide +kernel)) rfl⟩
theorem kM_X3_43 : zMv RX3 43 yX9_freshOn cX9_freshOn 3 (some .int) 2 := ⟨zT_in (List.mem_of_getElem? (i := 887) (by decide +kernel)) rfl, zT_in (List.mem_of_getElem? (i := 673) (by decide +kernel)) rfl, zT_in (List.mem_of_getElem? (i := 674) (by decide +kernel)) rfl, zT_in (List.mem_of_getElem? (i := 73) (by decide +kernel)) rfl, zT_in (List.mem_of_getElem? (i := 675) (by decide +kernel)) rfl, by decide +kernel, by decide +kernel⟩
theorem kF_X3_47 : zFl RX3 47 2 5 RX2 TX2 8 tyX2 := ⟨rfl, zin_X2, tyX2_ok, nmX2, Nat.le_of_ble_eq_true rfl, zT_in (List.mem_of_getElem? (i := 170) (by decide +kernel)) rfl⟩
theorem kM_X3_50 : zMv RX3 50 yX9_mayBeCalled cX9_mayBeCalled 3 (some .boolean) 2 := ⟨zT_in (List.mem_of_getElem? (i := 888) (by decide +kernel)) rfl, zT_in (List.mem_of_getElem? (i := 683) (by decide +kernel)) rfl, zT_in (List.mem_of_getElem? (i := 684) (by decide +kernel)) rfl, zT_in (List.mem_of_getElem? (i := 73) (by decide +kernel)) rfl, zT_in (List.mem_of_getElem? (i := 685) (by decide +kernel)) rfl, by decide +kernel, by decide +kernel⟩
theorem kM_X4_54 : zMv RX4 54 yX5_takeNumber cX5_takeNumber 6 (some .int) 2 := ⟨zT_in (List.mem_of_getElem? (i := 626) (by decide +kernel)) rfl, zT_in (List.mem_of_getElem? (i := 564) (by decide +kernel)) rfl, zT_in (List.mem_of_getElem? (i := 565) (by decide +kernel)) rfl, zT_in (List.mem_of_getElem? (i := 72) (by decide +kernel)) rfl, zT_in (List.mem_of_getElem? (i := 566) (by decide +kernel)) rfl, by decide +kernel, by decide +kernel⟩
theorem kM_X4_58 : zMv RX4 58 yX5_isSound cX5_isSound 1 (some .boolean) 0 := ⟨zT_in (List.mem_of_getElem? (i := 627) (by decide +kernel)) rfl, zT_in (List.mem_of_getElem? (i := 493) (by decide +kernel)) rfl, zT_in (List.mem_of_getElem? (i := 494) (by decide +kernel)) rfl, zT_in (List.mem_of_getElem? (i := 72) (by decide +kernel)) rfl, zT_in (List.mem_of_getElem? (i := 495) (by decide +kernel)) rfl, by decide +kernel, by decide +kernel⟩
theorem kM_X4_61 : zMv RX4 61 yX5_takeSemicolon cX5_takeSemicolon 1 none 0 := ⟨zT_in (List.mem_of_getElem? (i := 628) (by decide +kernel)) rfl, zT_in (List.mem_of_getElem? (i := 576) (by decide +kernel)) rfl, zT_in (List.mem_of_getElem? (i := 577) (by decide +kernel)) rfl, zT_in (List.mem_of_getElem? (i := 72) (by decide +kernel)) rfl, zT_in (List.mem_of_getElem? (i := 578) (by decide +kernel)) rfl, by decide +kernel, by decide +kernel⟩
theorem kM_X4_51 : zMv RX4 51 yX5_refuseTaken cX5_refuseTaken 2 none 1 := ⟨zT_in (List.mem_of_getElem? (i := 625) (by decide +kernel)) rfl, zT_in (List.mem_of_getElem? (i := 556) (by decide +kernel)) rfl, zT_in (List.mem_of_getElem? (i := 557) (by decide +kernel)) rfl, zT_in (List.mem_of_getElem? (i := 72) (by decide +kernel)) rfl, zT_in (List.mem_of_getElem? (i := 558) (by decide +kernel)) rfl, by decide +kernel, by decide +kernel⟩
theorem kF_X6_38 : zFl RX6 38 6 0 RX6 TX6 10 tyX6 := ⟨rfl, zin_X6, tyX6_ok, nmX6, Nat.le_of_ble_eq_true rfl, zT_in (List.mem_of_getElem? (i := 237) (by decide +kernel)) rfl⟩
theorem kF_X6_42 : zFl RX6 42 6 1 RX6 TX6 10 tyX6 := ⟨rfl, zin_X6, tyX6_ok, nmX6, Nat.le_of_ble_eq_true rfl, zT_in (List.mem_of_getElem? (i := 244) (by decide +kernel)) rfl⟩
theorem kF_X6_9 : zFl RX6 9 6 3 RX6 TX6 10 tyX6 := ⟨rfl, zin_X6, tyX6_ok, nmX6, Nat.le_of_ble_eq_true rfl, zT_in (List.mem_of_getElem? (i := 249) (by decide +kernel)) rfl⟩
theorem kM_X6_45 : zMs RX6 45 yJ7_fill_53178 cJ7_fill_53178 4 none 2 := ⟨zT_in (List.mem_of_getElem? (i := 234) (by decide +kernel)) rfl, zT_in (List.mem_of_getElem? (i := 235) (by decide +kernel)) rfl, zT_in (List.mem_of_getElem? (i := 77) (by decide +kernel)) rfl, zT_in (List.mem_of_getElem? (i := 236) (by decide +kernel)) rfl, by decide +kernel, by decide +kernel⟩
theorem kF_X6_15 : zFl RX6 15 6 4 RX6 TX6 10 tyX6 := ⟨rfl, zin_X6, tyX6_ok, nmX6, Nat.le_of_ble_eq_true rfl, zT_in (List.mem_of_getElem? (i := 252) (by decide +kernel)) rfl⟩
theorem kF_X6_18 : zFl RX6 18 6 5 RX6 TX6 10 tyX6 := ⟨rfl, zin_X6, tyX6_ok, nmX6, Nat.le_of_ble_eq_true rfl, zT_in (List.mem_of_getElem? (i := 255) (by decide +kernel)) rfl⟩
theorem kF_X6_21 : zFl RX6 21 6 6 RX6 TX6 10 tyX6 := ⟨rfl, zin_X6, tyX6_ok, nmX6, Nat.le_of_ble_eq_true rfl, zT_in (List.mem_of_getElem? (i := 258) (by decide +kernel)) rfl⟩
theorem kF_X6_24 : zFl RX6 24 6 7 RX6 TX6 10 tyX6 := ⟨rfl, zin_X6, tyX6_ok, nmX6, Nat.le_of_ble_eq_true rfl, zT_in (List.mem_of_getElem? (i := 264) (by decide +kernel)) rfl⟩
theorem kF_X6_27 : zFl RX6 27 6 8 RX6 TX6 10 tyX6 := ⟨rfl, zin_X6, tyX6_ok, nmX6, Nat.le_of_ble_eq_true rfl, zT_in (List.mem_of_getElem? (i := 267) (by decide +kernel)) rfl⟩
theorem kF_X6_51 : zFl RX6 51 6 2 RX6 TX6 10 tyX6 := ⟨rfl, zin_X6, tyX6_ok, nmX6, Nat.le_of_ble_eq_true rfl, zT_in (List.mem_of_getElem? (i := 247) (by decide +kernel)) rfl⟩
theorem kM_X6_54 : Cond.methodLink RX6 54 arraycopyName ∈ zT ∧ Cond.native arraycopyName ∈ zT ∧ Cond.static arraycopyName ∈ zT ∧ Cond.initialized "java/lang/System" ∈ zT := ⟨zT_in (List.mem_of_getElem? (i := 972) (by decide +kernel)) rfl, zT_in (List.mem_of_getElem? (i := 974) (by decide +kernel)) rfl, zT_in (List.mem_of_getElem? (i := 973) (by decide +kernel)) rfl, zT_in (List.mem_of_getElem? (i := 89) (by decide +kernel)) rfl⟩
theorem kF_X6_32 : zFl RX6 32 6 9 RX6 TX6 10 tyX6 := ⟨rfl, zin_X6, tyX6_ok, nmX6, Nat.le_of_ble_eq_true rfl, zT_in (List.mem_of_getElem? (i := 269) (by decide +kernel)) rfl⟩
theorem kC_X6_60 : Cond.constantLong RX6 60 (1103515245) ∈ zT := zT_in (List.mem_of_getElem? (i := 765) (by decide +kernel)) rfl
theorem kC_X6_62 : Cond.constantLong RX6 62 (12345) ∈ zT := zT_in (List.mem_of_getElem? (i := 766) (by decide +kernel)) rfl
theorem kC_X6_64 : Cond.constantLong RX6 64 (2147483647) ∈ zT := zT_in (List.mem_of_getElem? (i := 767) (by decide +kernel)) rfl
theorem kC_X6_66 : Cond.constant RX6 66 (65536) ∈ zT := zT_in (List.mem_of_getElem? (i := 768) (by decide +kernel)) rfl
theorem kF_X7_15 : zFl RX7 15 7 1 RX7 TX7 2 tyX7 := ⟨rfl, zin_X7, tyX7_ok, nmX7, Nat.le_of_ble_eq_true rfl, zT_in (List.mem_of_getElem? (i := 106) (by decide +kernel)) rfl⟩
theorem kF_X7_9 : zFl RX7 9 7 0 RX7 TX7 2 tyX7 := ⟨rfl, zin_X7, tyX7_ok, nmX7, Nat.le_of_ble_eq_true rfl, zT_in (List.mem_of_getElem? (i := 104) (by decide +kernel)) rfl⟩
theorem kF_X8_15 : zFl RX8 15 8 0 RX8 TX8 2 tyX8 := ⟨rfl, zin_X8, tyX8_ok, nmX8, Nat.le_of_ble_eq_true rfl, zT_in (List.mem_of_getElem? (i := 387) (by decide +kernel)) rfl⟩
theorem kM_X8_61 : zMv RX8 61 yX9_goesOn cX9_goesOn 2 (some .boolean) 1 := ⟨zT_in (List.mem_of_getElem? (i := 924) (by decide +kernel)) rfl, zT_in (List.mem_of_getElem? (i := 687) (by decide +kernel)) rfl, zT_in (List.mem_of_getElem? (i := 688) (by decide +kernel)) rfl, zT_in (List.mem_of_getElem? (i := 73) (by decide +kernel)) rfl, zT_in (List.mem_of_getElem? (i := 689) (by decide +kernel)) rfl, by decide +kernel, by decide +kernel⟩
theorem kF_X8_37 : zFl RX8 37 9 2 RX9 TX9 3 tyX9 := ⟨rfl, zin_X9, tyX9_ok, nmX9, Nat.le_of_ble_eq_true rfl, zT_in (List.mem_of_getElem? (i := 301) (by decide +kernel)) rfl⟩
theorem kF_X8_41 : zFl RX8 41 6 0 RX6 TX6 10 tyX6 := ⟨rfl, zin_X6, tyX6_ok, nmX6, Nat.le_of_ble_eq_true rfl, zT_in (List.mem_of_getElem? (i := 238) (by decide +kernel)) rfl⟩
theorem kF_X8_19 : zFl RX8 19 9 0 RX9 TX9 3 tyX9 := ⟨rfl, zin_X9, tyX9_ok, nmX9, Nat.le_of_ble_eq_true rfl, zT_in (List.mem_of_getElem? (i := 294) (by decide +kernel)) rfl⟩
theorem kM_X8_65 : zMv RX8 65 yX2_goalOf cX2_goalOf 2 (some .int) 1 := ⟨zT_in (List.mem_of_getElem? (i := 925) (by decide +kernel)) rfl, zT_in (List.mem_of_getElem? (i := 725) (by decide +kernel)) rfl, zT_in (List.mem_of_getElem? (i := 726) (by decide +kernel)) rfl, zT_in (List.mem_of_getElem? (i := 74) (by decide +kernel)) rfl, zT_in (List.mem_of_getElem? (i := 727) (by decide +kernel)) rfl, by decide +kernel, by decide +kernel⟩
theorem kF_X8_68 : zFl RX8 68 6 6 RX6 TX6 10 tyX6 := ⟨rfl, zin_X6, tyX6_ok, nmX6, Nat.le_of_ble_eq_true rfl, zT_in (List.mem_of_getElem? (i := 260) (by decide +kernel)) rfl⟩
theorem kF_X8_71 : zFl RX8 71 2 1 RX2 TX2 8 tyX2 := ⟨rfl, zin_X2, tyX2_ok, nmX2, Nat.le_of_ble_eq_true rfl, zT_in (List.mem_of_getElem? (i := 157) (by decide +kernel)) rfl⟩
theorem kF_X8_74 : zFl RX8 74 2 5 RX2 TX2 8 tyX2 := ⟨rfl, zin_X2, tyX2_ok, nmX2, Nat.le_of_ble_eq_true rfl, zT_in (List.mem_of_getElem? (i := 172) (by decide +kernel)) rfl⟩
theorem kM_X8_77 : zMv RX8 77 yX9_mayBeCalled cX9_mayBeCalled 3 (some .boolean) 2 := ⟨zT_in (List.mem_of_getElem? (i := 926) (by decide +kernel)) rfl, zT_in (List.mem_of_getElem? (i := 683) (by decide +kernel)) rfl, zT_in (List.mem_of_getElem? (i := 684) (by decide +kernel)) rfl, zT_in (List.mem_of_getElem? (i := 73) (by decide +kernel)) rfl, zT_in (List.mem_of_getElem? (i := 685) (by decide +kernel)) rfl, by decide +kernel, by decide +kernel⟩
theorem kM_X8_81 : zMv RX8 81 yX9_freshOn cX9_freshOn 3 (some .int) 2 := ⟨zT_in (List.mem_of_getElem? (i := 927) (by decide +kernel)) rfl, zT_in (List.mem_of_getElem? (i := 673) (by decide +kernel)) rfl, zT_in (List.mem_of_getElem? (i := 674) (by decide +kernel)) rfl, zT_in (List.mem_of_getElem? (i := 73) (by decide +kernel)) rfl, zT_in (List.mem_of_getElem? (i := 675) (by decide +kernel)) rfl, by decide +kernel, by decide +kernel⟩
theorem kF_X8_9 : zFl RX8 9 8 1 RX8 TX8 2 tyX8 := ⟨rfl, zin_X8, tyX8_ok, nmX8, Nat.le_of_ble_eq_true rfl, zT_in (List.mem_of_getElem? (i := 388) (by decide +kernel)) rfl⟩
theorem kF_X8_25 : zFl RX8 25 2 0 RX2 TX2 8 tyX2 := ⟨rfl, zin_X2, tyX2_ok, nmX2, Nat.le_of_ble_eq_true rfl, zT_in (List.mem_of_getElem? (i := 152) (by decide +kernel)) rfl⟩
theorem kM_X8_31 : Cond.methodLink RX8 31 Lib.Math.min.name ∈ zT ∧ Cond.static Lib.Math.min.name ∈ zT ∧ Cond.initialized "java/lang/Math" ∈ zT ∧ Cond.code Lib.Math.min.name Lib.Math.min.code 2 (some .int) ∈ zT := ⟨zT_in (List.mem_of_getElem? (i := 918) (by decide +kernel)) rfl, zT_in (List.mem_of_getElem? (i := 790) (by decide +kernel)) rfl, zT_in (List.mem_of_getElem? (i := 88) (by decide +kernel)) rfl, zT_in (List.mem_of_getElem? (i := 791) (by decide +kernel)) rfl⟩
theorem kM_X8_46 : zMv RX8 46 yX9_roomOn cX9_roomOn 3 (some .int) 1 := ⟨zT_in (List.mem_of_getElem? (i := 919) (by decide +kernel)) rfl, zT_in (List.mem_of_getElem? (i := 693) (by decide +kernel)) rfl, zT_in (List.mem_of_getElem? (i := 694) (by decide +kernel)) rfl, zT_in (List.mem_of_getElem? (i := 73) (by decide +kernel)) rfl, zT_in (List.mem_of_getElem? (i := 695) (by decide +kernel)) rfl, by decide +kernel, by decide +kernel⟩
theorem kM_X8_53 : zMs RX8 53 yJ6_bitCount_0f7a4 cJ6_bitCount_0f7a4 1 (some .int) 1 := ⟨zT_in (List.mem_of_getElem? (i := 928) (by decide +kernel)) rfl, zT_in (List.mem_of_getElem? (i := 590) (by decide +kernel)) rfl, zT_in (List.mem_of_getElem? (i := 87) (by decide +kernel)) rfl, zT_in (List.mem_of_getElem? (i := 591) (by decide +kernel)) rfl, by decide +kernel, by decide +kernel⟩
theorem kM_X8_58 : zMv RX8 58 yX8_speakersOf cX8_speakersOf 4 (some .int) 1 := ⟨zT_in (List.mem_of_getElem? (i := 929) (by decide +kernel)) rfl, zT_in (List.mem_of_getElem? (i := 931) (by decide +kernel)) rfl, zT_in (List.mem_of_getElem? (i := 26) (by decide +kernel)) rfl, zT_in (List.mem_of_getElem? (i := 80) (by decide +kernel)) rfl, zT_in (List.mem_of_getElem? (i := 932) (by decide +kernel)) rfl, by decide +kernel, by decide +kernel⟩
theorem kM_X8_50 : zMv RX8 50 yX8_speakersNeeded cX8_speakersNeeded 7 (some .int) 1 := ⟨zT_in (List.mem_of_getElem? (i := 920) (by decide +kernel)) rfl, zT_in (List.mem_of_getElem? (i := 922) (by decide +kernel)) rfl, zT_in (List.mem_of_getElem? (i := 25) (by decide +kernel)) rfl, zT_in (List.mem_of_getElem? (i := 80) (by decide +kernel)) rfl, zT_in (List.mem_of_getElem? (i := 923) (by decide +kernel)) rfl, by decide +kernel, by decide +kernel⟩
theorem kM_X9_75 : zMv RX9 75 yX9_mayBeCalled cX9_mayBeCalled 3 (some .boolean) 2 := ⟨zT_in (List.mem_of_getElem? (i := 682) (by decide +kernel)) rfl, zT_in (List.mem_of_getElem? (i := 683) (by decide +kernel)) rfl, zT_in (List.mem_of_getElem? (i := 684) (by decide +kernel)) rfl, zT_in (List.mem_of_getElem? (i := 73) (by decide +kernel)) rfl, zT_in (List.mem_of_getElem? (i := 685) (by decide +kernel)) rfl, by decide +kernel, by decide +kernel⟩
theorem kM_X9_79 : zMv RX9 79 yX9_roomOn cX9_roomOn 3 (some .int) 1 := ⟨zT_in (List.mem_of_getElem? (i := 692) (by decide +kernel)) rfl, zT_in (List.mem_of_getElem? (i := 693) (by decide +kernel)) rfl, zT_in (List.mem_of_getElem? (i := 694) (by decide +kernel)) rfl, zT_in (List.mem_of_getElem? (i := 73) (by decide +kernel)) rfl, zT_in (List.mem_of_getElem? (i := 695) (by decide +kernel)) rfl, by decide +kernel, by decide +kernel⟩
theorem kF_X9_138 : zFl RX9 138 2 4 RX2 TX2 8 tyX2 := ⟨rfl, zin_X2, tyX2_ok, nmX2, Nat.le_of_ble_eq_true rfl, zT_in (List.mem_of_getElem? (i := 168) (by decide +kernel)) rfl⟩
theorem kF_X9_94 : zFl RX9 94 6 6 RX6 TX6 10 tyX6 := ⟨rfl, zin_X6, tyX6_ok, nmX6, Nat.le_of_ble_eq_true rfl, zT_in (List.mem_of_getElem? (i := 262) (by decide +kernel)) rfl⟩
theorem kM_X9_132 : zMv RX9 132 yX2_goalOf cX2_goalOf 2 (some .int) 1 := ⟨zT_in (List.mem_of_getElem? (i := 724) (by decide +kernel)) rfl, zT_in (List.mem_of_getElem? (i := 725) (by decide +kernel)) rfl, zT_in (List.mem_of_getElem? (i := 726) (by decide +kernel)) rfl, zT_in (List.mem_of_getElem? (i := 74) (by decide +kernel)) rfl, zT_in (List.mem_of_getElem? (i := 727) (by decide +kernel)) rfl, by decide +kernel, by decide +kernel⟩
theorem kM_X9_135 : zMv RX9 135 yX9_isCarried cX9_isCarried 3 (some .boolean) 1 := ⟨zT_in (List.mem_of_getElem? (i := 729) (by decide +kernel)) rfl, zT_in (List.mem_of_getElem? (i := 731) (by decide +kernel)) rfl, zT_in (List.mem_of_getElem? (i := 9) (by decide +kernel)) rfl, zT_in (List.mem_of_getElem? (i := 73) (by decide +kernel)) rfl, zT_in (List.mem_of_getElem? (i := 732) (by decide +kernel)) rfl, by decide +kernel, by decide +kernel⟩
theorem kM_X9_110 : zMv RX9 110 yX6_end cX6_end 3 none 2 := ⟨zT_in (List.mem_of_getElem? (i := 733) (by decide +kernel)) rfl, zT_in (List.mem_of_getElem? (i := 734) (by decide +kernel)) rfl, zT_in (List.mem_of_getElem? (i := 735) (by decide +kernel)) rfl, zT_in (List.mem_of_getElem? (i := 76) (by decide +kernel)) rfl, zT_in (List.mem_of_getElem? (i := 736) (by decide +kernel)) rfl, by decide +kernel, by decide +kernel⟩
theorem kM_X9_97 : zMv RX9 97 yX9_freshOn cX9_freshOn 3 (some .int) 2 := ⟨zT_in (List.mem_of_getElem? (i := 719) (by decide +kernel)) rfl, zT_in (List.mem_of_getElem? (i := 673) (by decide +kernel)) rfl, zT_in (List.mem_of_getElem? (i := 674) (by decide +kernel)) rfl, zT_in (List.mem_of_getElem? (i := 73) (by decide +kernel)) rfl, zT_in (List.mem_of_getElem? (i := 675) (by decide +kernel)) rfl, by decide +kernel, by decide +kernel⟩
theorem kM_X9_100 : zMv RX9 100 yX9_look cX9_look 2 none 1 := ⟨zT_in (List.mem_of_getElem? (i := 720) (by decide +kernel)) rfl, zT_in (List.mem_of_getElem? (i := 722) (by decide +kernel)) rfl, zT_in (List.mem_of_getElem? (i := 8) (by decide +kernel)) rfl, zT_in (List.mem_of_getElem? (i := 73) (by decide +kernel)) rfl, zT_in (List.mem_of_getElem? (i := 723) (by decide +kernel)) rfl, by decide +kernel, by decide +kernel⟩
theorem kF_X9_104 : zFl RX9 104 2 0 RX2 TX2 8 tyX2 := ⟨rfl, zin_X2, tyX2_ok, nmX2, Nat.le_of_ble_eq_true rfl, zT_in (List.mem_of_getElem? (i := 154) (by decide +kernel)) rfl⟩
theorem kM_X9_114 : zMv RX9 114 yX6_halve cX6_halve 2 none 1 := ⟨zT_in (List.mem_of_getElem? (i := 749) (by decide +kernel)) rfl, zT_in (List.mem_of_getElem? (i := 750) (by decide +kernel)) rfl, zT_in (List.mem_of_getElem? (i := 751) (by decide +kernel)) rfl, zT_in (List.mem_of_getElem? (i := 76) (by decide +kernel)) rfl, zT_in (List.mem_of_getElem? (i := 752) (by decide +kernel)) rfl, by decide +kernel, by decide +kernel⟩
theorem kF_X9_107 : zFl RX9 107 2 3 RX2 TX2 8 tyX2 := ⟨rfl, zin_X2, tyX2_ok, nmX2, Nat.le_of_ble_eq_true rfl, zT_in (List.mem_of_getElem? (i := 165) (by decide +kernel)) rfl⟩
theorem kM_X9_129 : zMv RX9 129 yX9_endDay cX9_endDay 2 none 0 := ⟨zT_in (List.mem_of_getElem? (i := 771) (by decide +kernel)) rfl, zT_in (List.mem_of_getElem? (i := 746) (by decide +kernel)) rfl, zT_in (List.mem_of_getElem? (i := 747) (by decide +kernel)) rfl, zT_in (List.mem_of_getElem? (i := 73) (by decide +kernel)) rfl, zT_in (List.mem_of_getElem? (i := 748) (by decide +kernel)) rfl, by decide +kernel, by decide +kernel⟩
theorem kF_X9_117 : zFl RX9 117 2 1 RX2 TX2 8 tyX2 := ⟨rfl, zin_X2, tyX2_ok, nmX2, Nat.le_of_ble_eq_true rfl, zT_in (List.mem_of_getElem? (i := 160) (by decide +kernel)) rfl⟩
theorem kM_X9_120 : zMv RX9 120 yX6_draw cX6_draw 2 (some .int) 1 := ⟨zT_in (List.mem_of_getElem? (i := 761) (by decide +kernel)) rfl, zT_in (List.mem_of_getElem? (i := 762) (by decide +kernel)) rfl, zT_in (List.mem_of_getElem? (i := 763) (by decide +kernel)) rfl, zT_in (List.mem_of_getElem? (i := 76) (by decide +kernel)) rfl, zT_in (List.mem_of_getElem? (i := 764) (by decide +kernel)) rfl, by decide +kernel, by decide +kernel⟩
theorem kM_X9_123 : zMv RX9 123 yX9_maySpeak cX9_maySpeak 2 (some .boolean) 1 := ⟨zT_in (List.mem_of_getElem? (i := 769) (by decide +kernel)) rfl, zT_in (List.mem_of_getElem? (i := 679) (by decide +kernel)) rfl, zT_in (List.mem_of_getElem? (i := 680) (by decide +kernel)) rfl, zT_in (List.mem_of_getElem? (i := 73) (by decide +kernel)) rfl, zT_in (List.mem_of_getElem? (i := 681) (by decide +kernel)) rfl, by decide +kernel, by decide +kernel⟩
theorem kM_X9_126 : zMv RX9 126 yX9_hear cX9_hear 3 (some .int) 1 := ⟨zT_in (List.mem_of_getElem? (i := 770) (by decide +kernel)) rfl, zT_in (List.mem_of_getElem? (i := 716) (by decide +kernel)) rfl, zT_in (List.mem_of_getElem? (i := 717) (by decide +kernel)) rfl, zT_in (List.mem_of_getElem? (i := 73) (by decide +kernel)) rfl, zT_in (List.mem_of_getElem? (i := 718) (by decide +kernel)) rfl, by decide +kernel, by decide +kernel⟩
theorem kC_X10_91 : Cond.constant RX10 91 (-1000000002) ∈ zT := zT_in (List.mem_of_getElem? (i := 457) (by decide +kernel)) rfl
theorem kF_X10_10 : zFl RX10 10 10 0 RX10 TX10 12 tyX10 := ⟨rfl, zin_X10, tyX10_ok, nmX10, Nat.le_of_ble_eq_true rfl, zT_in (List.mem_of_getElem? (i := 416) (by decide +kernel)) rfl⟩
theorem kF_X10_92 : zFl RX10 92 7 1 RX7 TX7 2 tyX7 := ⟨rfl, zin_X7, tyX7_ok, nmX7, Nat.le_of_ble_eq_true rfl, zT_in (List.mem_of_getElem? (i := 107) (by decide +kernel)) rfl⟩
theorem kM_X10_96 : zMv RX10 96 yX7_append cX7_append 2 none 1 := ⟨zT_in (List.mem_of_getElem? (i := 459) (by decide +kernel)) rfl, zT_in (List.mem_of_getElem? (i := 460) (by decide +kernel)) rfl, zT_in (List.mem_of_getElem? (i := 461) (by decide +kernel)) rfl, zT_in (List.mem_of_getElem? (i := 71) (by decide +kernel)) rfl, zT_in (List.mem_of_getElem? (i := 462) (by decide +kernel)) rfl, by decide +kernel, by decide +kernel⟩
theorem kC_X10_95 : Cond.constant RX10 95 (-1000000004) ∈ zT := zT_in (List.mem_of_getElem? (i := 458) (by decide +kernel)) rfl
theorem kF_X10_87 : zFl RX10 87 10 11 RX10 TX10 12 tyX10 := ⟨rfl, zin_X10, tyX10_ok, nmX10, Nat.le_of_ble_eq_true rfl, zT_in (List.mem_of_getElem? (i := 427) (by decide +kernel)) rfl⟩
theorem kF_X10_28 : zFl RX10 28 10 2 RX10 TX10 12 tyX10 := ⟨rfl, zin_X10, tyX10_ok, nmX10, Nat.le_of_ble_eq_true rfl, zT_in (List.mem_of_getElem? (i := 418) (by decide +kernel)) rfl⟩
theorem kF_X10_114 : zFl RX10 114 9 2 RX9 TX9 3 tyX9 := ⟨rfl, zin_X9, tyX9_ok, nmX9, Nat.le_of_ble_eq_true rfl, zT_in (List.mem_of_getElem? (i := 303) (by decide +kernel)) rfl⟩
theorem kF_X10_135 : zFl RX10 135 6 0 RX6 TX6 10 tyX6 := ⟨rfl, zin_X6, tyX6_ok, nmX6, Nat.le_of_ble_eq_true rfl, zT_in (List.mem_of_getElem? (i := 242) (by decide +kernel)) rfl⟩
theorem kF_X10_111 : zFl RX10 111 9 0 RX9 TX9 3 tyX9 := ⟨rfl, zin_X9, tyX9_ok, nmX9, Nat.le_of_ble_eq_true rfl, zT_in (List.mem_of_getElem? (i := 296) (by decide +kernel)) rfl⟩
theorem kF_X10_124 : zFl RX10 124 2 0 RX2 TX2 8 tyX2 := ⟨rfl, zin_X2, tyX2_ok, nmX2, Nat.le_of_ble_eq_true rfl, zT_in (List.mem_of_getElem? (i := 153) (by decide +kernel)) rfl⟩
theorem kF_X10_138 : zFl RX10 138 2 1 RX2 TX2 8 tyX2 := ⟨rfl, zin_X2, tyX2_ok, nmX2, Nat.le_of_ble_eq_true rfl, zT_in (List.mem_of_getElem? (i := 159) (by decide +kernel)) rfl⟩
theorem kF_X10_129 : zFl RX10 129 9 1 RX9 TX9 3 tyX9 := ⟨rfl, zin_X9, tyX9_ok, nmX9, Nat.le_of_ble_eq_true rfl, zT_in (List.mem_of_getElem? (i := 299) (by decide +kernel)) rfl⟩
theorem kF_X10_132 : zFl RX10 132 4 0 RX4 TX4 5 tyX4 := ⟨rfl, zin_X4, tyX4_ok, nmX4, Nat.le_of_ble_eq_true rfl, zT_in (List.mem_of_getElem? (i := 205) (by decide +kernel)) rfl⟩
theorem kF_X10_141 : zFl RX10 141 6 1 RX6 TX6 10 tyX6 := ⟨rfl, zin_X6, tyX6_ok, nmX6, Nat.le_of_ble_eq_true rfl, zT_in (List.mem_of_getElem? (i := 246) (by decide +kernel)) rfl⟩
theorem kM_X10_144 : zMv RX10 144 yX4_copiesOn cX4_copiesOn 3 (some .int) 1 := ⟨zT_in (List.mem_of_getElem? (i := 638) (by decide +kernel)) rfl, zT_in (List.mem_of_getElem? (i := 639) (by decide +kernel)) rfl, zT_in (List.mem_of_getElem? (i := 640) (by decide +kernel)) rfl, zT_in (List.mem_of_getElem? (i := 75) (by decide +kernel)) rfl, zT_in (List.mem_of_getElem? (i := 641) (by decide +kernel)) rfl, by decide +kernel, by decide +kernel⟩
theorem kM_X10_148 : zMv RX10 148 yX4_moonOn cX4_moonOn 3 (some .int) 1 := ⟨zT_in (List.mem_of_getElem? (i := 646) (by decide +kernel)) rfl, zT_in (List.mem_of_getElem? (i := 647) (by decide +kernel)) rfl, zT_in (List.mem_of_getElem? (i := 648) (by decide +kernel)) rfl, zT_in (List.mem_of_getElem? (i := 75) (by decide +kernel)) rfl, zT_in (List.mem_of_getElem? (i := 649) (by decide +kernel)) rfl, by decide +kernel, by decide +kernel⟩
theorem kM_X10_151 : zMv RX10 151 yX4_talkersOn cX4_talkersOn 3 (some .int) 1 := ⟨zT_in (List.mem_of_getElem? (i := 650) (by decide +kernel)) rfl, zT_in (List.mem_of_getElem? (i := 651) (by decide +kernel)) rfl, zT_in (List.mem_of_getElem? (i := 652) (by decide +kernel)) rfl, zT_in (List.mem_of_getElem? (i := 75) (by decide +kernel)) rfl, zT_in (List.mem_of_getElem? (i := 653) (by decide +kernel)) rfl, by decide +kernel, by decide +kernel⟩
theorem kM_X10_154 : zMv RX10 154 yX2_hasSuit cX2_hasSuit 2 (some .boolean) 1 := ⟨zT_in (List.mem_of_getElem? (i := 658) (by decide +kernel)) rfl, zT_in (List.mem_of_getElem? (i := 659) (by decide +kernel)) rfl, zT_in (List.mem_of_getElem? (i := 660) (by decide +kernel)) rfl, zT_in (List.mem_of_getElem? (i := 74) (by decide +kernel)) rfl, zT_in (List.mem_of_getElem? (i := 661) (by decide +kernel)) rfl, by decide +kernel, by decide +kernel⟩
theorem kF_X10_159 : zFl RX10 159 2 2 RX2 TX2 8 tyX2 := ⟨rfl, zin_X2, tyX2_ok, nmX2, Nat.le_of_ble_eq_true rfl, zT_in (List.mem_of_getElem? (i := 162) (by decide +kernel)) rfl⟩
theorem kF_X10_163 : zFl RX10 163 2 3 RX2 TX2 8 tyX2 := ⟨rfl, zin_X2, tyX2_ok, nmX2, Nat.le_of_ble_eq_true rfl, zT_in (List.mem_of_getElem? (i := 164) (by decide +kernel)) rfl⟩
theorem kF_X10_166 : zFl RX10 166 2 4 RX2 TX2 8 tyX2 := ⟨rfl, zin_X2, tyX2_ok, nmX2, Nat.le_of_ble_eq_true rfl, zT_in (List.mem_of_getElem? (i := 167) (by decide +kernel)) rfl⟩
theorem kF_X10_169 : zFl RX10 169 6 7 RX6 TX6 10 tyX6 := ⟨rfl, zin_X6, tyX6_ok, nmX6, Nat.le_of_ble_eq_true rfl, zT_in (List.mem_of_getElem? (i := 266) (by decide +kernel)) rfl⟩
theorem kF_X10_172 : zFl RX10 172 6 8 RX6 TX6 10 tyX6 := ⟨rfl, zin_X6, tyX6_ok, nmX6, Nat.le_of_ble_eq_true rfl, zT_in (List.mem_of_getElem? (i := 268) (by decide +kernel)) rfl⟩
theorem kM_X10_175 : zMv RX10 175 yX2_witnessesOf cX2_witnessesOf 4 (some .int) 1 := ⟨zT_in (List.mem_of_getElem? (i := 663) (by decide +kernel)) rfl, zT_in (List.mem_of_getElem? (i := 586) (by decide +kernel)) rfl, zT_in (List.mem_of_getElem? (i := 587) (by decide +kernel)) rfl, zT_in (List.mem_of_getElem? (i := 74) (by decide +kernel)) rfl, zT_in (List.mem_of_getElem? (i := 588) (by decide +kernel)) rfl, by decide +kernel, by decide +kernel⟩
theorem kC_X10_158 : Cond.constant RX10 158 (-1000000001) ∈ zT := zT_in (List.mem_of_getElem? (i := 662) (by decide +kernel)) rfl
theorem kM_X10_178 : zMv RX10 178 yX2_hasWitness cX2_hasWitness 2 (some .boolean) 1 := ⟨zT_in (List.mem_of_getElem? (i := 668) (by decide +kernel)) rfl, zT_in (List.mem_of_getElem? (i := 669) (by decide +kernel)) rfl, zT_in (List.mem_of_getElem? (i := 670) (by decide +kernel)) rfl, zT_in (List.mem_of_getElem? (i := 74) (by decide +kernel)) rfl, zT_in (List.mem_of_getElem? (i := 671) (by decide +kernel)) rfl, by decide +kernel, by decide +kernel⟩
theorem kF_X10_181 : zFl RX10 181 2 5 RX2 TX2 8 tyX2 := ⟨rfl, zin_X2, tyX2_ok, nmX2, Nat.le_of_ble_eq_true rfl, zT_in (List.mem_of_getElem? (i := 174) (by decide +kernel)) rfl⟩
theorem kF_X10_184 : zFl RX10 184 2 6 RX2 TX2 8 tyX2 := ⟨rfl, zin_X2, tyX2_ok, nmX2, Nat.le_of_ble_eq_true rfl, zT_in (List.mem_of_getElem? (i := 177) (by decide +kernel)) rfl⟩
theorem kF_X10_187 : zFl RX10 187 2 7 RX2 TX2 8 tyX2 := ⟨rfl, zin_X2, tyX2_ok, nmX2, Nat.le_of_ble_eq_true rfl, zT_in (List.mem_of_getElem? (i := 180) (by decide +kernel)) rfl⟩
theorem kM_X10_190 : zMv RX10 190 yX9_freshOn cX9_freshOn 3 (some .int) 2 := ⟨zT_in (List.mem_of_getElem? (i := 672) (by decide +kernel)) rfl, zT_in (List.mem_of_getElem? (i := 673) (by decide +kernel)) rfl, zT_in (List.mem_of_getElem? (i := 674) (by decide +kernel)) rfl, zT_in (List.mem_of_getElem? (i := 73) (by decide +kernel)) rfl, zT_in (List.mem_of_getElem? (i := 675) (by decide +kernel)) rfl, by decide +kernel, by decide +kernel⟩
theorem kF_X10_194 : zFl RX10 194 6 3 RX6 TX6 10 tyX6 := ⟨rfl, zin_X6, tyX6_ok, nmX6, Nat.le_of_ble_eq_true rfl, zT_in (List.mem_of_getElem? (i := 251) (by decide +kernel)) rfl⟩
theorem kF_X10_197 : zFl RX10 197 6 4 RX6 TX6 10 tyX6 := ⟨rfl, zin_X6, tyX6_ok, nmX6, Nat.le_of_ble_eq_true rfl, zT_in (List.mem_of_getElem? (i := 254) (by decide +kernel)) rfl⟩
theorem kF_X10_200 : zFl RX10 200 6 5 RX6 TX6 10 tyX6 := ⟨rfl, zin_X6, tyX6_ok, nmX6, Nat.le_of_ble_eq_true rfl, zT_in (List.mem_of_getElem? (i := 257) (by decide +kernel)) rfl⟩
theorem kM_X10_203 : zMv RX10 203 yX9_maySpeak cX9_maySpeak 2 (some .boolean) 1 := ⟨zT_in (List.mem_of_getElem? (i := 678) (by decide +kernel)) rfl, zT_in (List.mem_of_getElem? (i := 679) (by decide +kernel)) rfl, zT_in (List.mem_of_getElem? (i := 680) (by decide +kernel)) rfl, zT_in (List.mem_of_getElem? (i := 73) (by decide +kernel)) rfl, zT_in (List.mem_of_getElem? (i := 681) (by decide +kernel)) rfl, by decide +kernel, by decide +kernel⟩
theorem kM_X10_206 : zMs RX10 206 yX10_oneIf cX10_oneIf 1 (some .int) 1 := ⟨zT_in (List.mem_of_getElem? (i := 700) (by decide +kernel)) rfl, zT_in (List.mem_of_getElem? (i := 701) (by decide +kernel)) rfl, zT_in (List.mem_of_getElem? (i := 70) (by decide +kernel)) rfl, zT_in (List.mem_of_getElem? (i := 702) (by decide +kernel)) rfl, by decide +kernel, by decide +kernel⟩
theorem kM_X10_213 : zMv RX10 213 yX6_figure cX6_figure 4 (some .int) 2 := ⟨zT_in (List.mem_of_getElem? (i := 707) (by decide +kernel)) rfl, zT_in (List.mem_of_getElem? (i := 708) (by decide +kernel)) rfl, zT_in (List.mem_of_getElem? (i := 709) (by decide +kernel)) rfl, zT_in (List.mem_of_getElem? (i := 76) (by decide +kernel)) rfl, zT_in (List.mem_of_getElem? (i := 710) (by decide +kernel)) rfl, by decide +kernel, by decide +kernel⟩
theorem kF_X10_210 : zFl RX10 210 6 6 RX6 TX6 10 tyX6 := ⟨rfl, zin_X6, tyX6_ok, nmX6, Nat.le_of_ble_eq_true rfl, zT_in (List.mem_of_getElem? (i := 263) (by decide +kernel)) rfl⟩
theorem kM_X10_216 : zMv RX10 216 yX9_hear cX9_hear 3 (some .int) 1 := ⟨zT_in (List.mem_of_getElem? (i := 715) (by decide +kernel)) rfl, zT_in (List.mem_of_getElem? (i := 716) (by decide +kernel)) rfl, zT_in (List.mem_of_getElem? (i := 717) (by decide +kernel)) rfl, zT_in (List.mem_of_getElem? (i := 73) (by decide +kernel)) rfl, zT_in (List.mem_of_getElem? (i := 718) (by decide +kernel)) rfl, by decide +kernel, by decide +kernel⟩
theorem kC_X10_127 : Cond.constant RX10 127 (-1000000003) ∈ zT := zT_in (List.mem_of_getElem? (i := 613) (by decide +kernel)) rfl
theorem kM_X10_219 : zMv RX10 219 yX9_endDay cX9_endDay 2 none 0 := ⟨zT_in (List.mem_of_getElem? (i := 745) (by decide +kernel)) rfl, zT_in (List.mem_of_getElem? (i := 746) (by decide +kernel)) rfl, zT_in (List.mem_of_getElem? (i := 747) (by decide +kernel)) rfl, zT_in (List.mem_of_getElem? (i := 73) (by decide +kernel)) rfl, zT_in (List.mem_of_getElem? (i := 748) (by decide +kernel)) rfl, by decide +kernel, by decide +kernel⟩
theorem kM_X10_222 : zMv RX10 222 yX9_passDayByDraws cX9_passDayByDraws 4 (some .int) 1 := ⟨zT_in (List.mem_of_getElem? (i := 757) (by decide +kernel)) rfl, zT_in (List.mem_of_getElem? (i := 758) (by decide +kernel)) rfl, zT_in (List.mem_of_getElem? (i := 759) (by decide +kernel)) rfl, zT_in (List.mem_of_getElem? (i := 73) (by decide +kernel)) rfl, zT_in (List.mem_of_getElem? (i := 760) (by decide +kernel)) rfl, by decide +kernel, by decide +kernel⟩
theorem kM_X10_118 : zMv RX10 118 yX6_startAgain cX6_startAgain 1 none 0 := ⟨zT_in (List.mem_of_getElem? (i := 603) (by decide +kernel)) rfl, zT_in (List.mem_of_getElem? (i := 231) (by decide +kernel)) rfl, zT_in (List.mem_of_getElem? (i := 232) (by decide +kernel)) rfl, zT_in (List.mem_of_getElem? (i := 76) (by decide +kernel)) rfl, zT_in (List.mem_of_getElem? (i := 233) (by decide +kernel)) rfl, by decide +kernel, by decide +kernel⟩
theorem kM_X10_225 : zMv RX10 225 yX9_goesOn cX9_goesOn 2 (some .boolean) 1 := ⟨zT_in (List.mem_of_getElem? (i := 780) (by decide +kernel)) rfl, zT_in (List.mem_of_getElem? (i := 687) (by decide +kernel)) rfl, zT_in (List.mem_of_getElem? (i := 688) (by decide +kernel)) rfl, zT_in (List.mem_of_getElem? (i := 73) (by decide +kernel)) rfl, zT_in (List.mem_of_getElem? (i := 689) (by decide +kernel)) rfl, by decide +kernel, by decide +kernel⟩
theorem kF_X10_37 : zFl RX10 37 10 3 RX10 TX10 12 tyX10 := ⟨rfl, zin_X10, tyX10_ok, nmX10, Nat.le_of_ble_eq_true rfl, zT_in (List.mem_of_getElem? (i := 419) (by decide +kernel)) rfl⟩
theorem kM_X10_228 : zMv RX10 228 yX1_mostOn cX1_mostOn 4 (some .int) 2 := ⟨zT_in (List.mem_of_getElem? (i := 781) (by decide +kernel)) rfl, zT_in (List.mem_of_getElem? (i := 782) (by decide +kernel)) rfl, zT_in (List.mem_of_getElem? (i := 783) (by decide +kernel)) rfl, zT_in (List.mem_of_getElem? (i := 78) (by decide +kernel)) rfl, zT_in (List.mem_of_getElem? (i := 784) (by decide +kernel)) rfl, by decide +kernel, by decide +kernel⟩
theorem kM_X10_231 : zMv RX10 231 yX1_soonestOf cX1_soonestOf 3 (some .int) 1 := ⟨zT_in (List.mem_of_getElem? (i := 829) (by decide +kernel)) rfl, zT_in (List.mem_of_getElem? (i := 830) (by decide +kernel)) rfl, zT_in (List.mem_of_getElem? (i := 831) (by decide +kernel)) rfl, zT_in (List.mem_of_getElem? (i := 78) (by decide +kernel)) rfl, zT_in (List.mem_of_getElem? (i := 832) (by decide +kernel)) rfl, by decide +kernel, by decide +kernel⟩
theorem kM_X10_234 : zMv RX10 234 yX1_plannedDayOf cX1_plannedDayOf 4 (some .int) 2 := ⟨zT_in (List.mem_of_getElem? (i := 838) (by decide +kernel)) rfl, zT_in (List.mem_of_getElem? (i := 839) (by decide +kernel)) rfl, zT_in (List.mem_of_getElem? (i := 840) (by decide +kernel)) rfl, zT_in (List.mem_of_getElem? (i := 78) (by decide +kernel)) rfl, zT_in (List.mem_of_getElem? (i := 841) (by decide +kernel)) rfl, by decide +kernel, by decide +kernel⟩
theorem kM_X10_237 : zMv RX10 237 yX1_fewestToStrike cX1_fewestToStrike 4 (some .int) 1 := ⟨zT_in (List.mem_of_getElem? (i := 863) (by decide +kernel)) rfl, zT_in (List.mem_of_getElem? (i := 864) (by decide +kernel)) rfl, zT_in (List.mem_of_getElem? (i := 865) (by decide +kernel)) rfl, zT_in (List.mem_of_getElem? (i := 78) (by decide +kernel)) rfl, zT_in (List.mem_of_getElem? (i := 866) (by decide +kernel)) rfl, by decide +kernel, by decide +kernel⟩
theorem kF_X10_51 : zFl RX10 51 10 5 RX10 TX10 12 tyX10 := ⟨rfl, zin_X10, tyX10_ok, nmX10, Nat.le_of_ble_eq_true rfl, zT_in (List.mem_of_getElem? (i := 421) (by decide +kernel)) rfl⟩
theorem kM_X10_252 : zMv RX10 252 yX8_winnableTogether cX8_winnableTogether 5 (some .int) 0 := ⟨zT_in (List.mem_of_getElem? (i := 914) (by decide +kernel)) rfl, zT_in (List.mem_of_getElem? (i := 915) (by decide +kernel)) rfl, zT_in (List.mem_of_getElem? (i := 916) (by decide +kernel)) rfl, zT_in (List.mem_of_getElem? (i := 80) (by decide +kernel)) rfl, zT_in (List.mem_of_getElem? (i := 917) (by decide +kernel)) rfl, by decide +kernel, by decide +kernel⟩
theorem kM_X10_255 : zMs RX10 255 yJ6_bitCount_0f7a4 cJ6_bitCount_0f7a4 1 (some .int) 1 := ⟨zT_in (List.mem_of_getElem? (i := 933) (by decide +kernel)) rfl, zT_in (List.mem_of_getElem? (i := 590) (by decide +kernel)) rfl, zT_in (List.mem_of_getElem? (i := 87) (by decide +kernel)) rfl, zT_in (List.mem_of_getElem? (i := 591) (by decide +kernel)) rfl, by decide +kernel, by decide +kernel⟩
theorem kC_X10_260 : Cond.constant RX10 260 (99999) ∈ zT := zT_in (List.mem_of_getElem? (i := 938) (by decide +kernel)) rfl
theorem kF_X10_58 : zFl RX10 58 10 6 RX10 TX10 12 tyX10 := ⟨rfl, zin_X10, tyX10_ok, nmX10, Nat.le_of_ble_eq_true rfl, zT_in (List.mem_of_getElem? (i := 422) (by decide +kernel)) rfl⟩
theorem kF_X10_261 : zFl RX10 261 0 0 RX0 TX0 2 tyX0 := ⟨rfl, zin_X0, tyX0_ok, nmX0, Nat.le_of_ble_eq_true rfl, zT_in (List.mem_of_getElem? (i := 402) (by decide +kernel)) rfl⟩
theorem kM_X10_264 : zMv RX10 264 yX0_append cX0_append 3 (some .int) 2 := ⟨zT_in (List.mem_of_getElem? (i := 939) (by decide +kernel)) rfl, zT_in (List.mem_of_getElem? (i := 940) (by decide +kernel)) rfl, zT_in (List.mem_of_getElem? (i := 941) (by decide +kernel)) rfl, zT_in (List.mem_of_getElem? (i := 81) (by decide +kernel)) rfl, zT_in (List.mem_of_getElem? (i := 942) (by decide +kernel)) rfl, by decide +kernel, by decide +kernel⟩
theorem kM_X10_266 : zMv RX10 266 yX0_firstWrong cX0_firstWrong 4 (some .int) 2 := ⟨zT_in (List.mem_of_getElem? (i := 952) (by decide +kernel)) rfl, zT_in (List.mem_of_getElem? (i := 953) (by decide +kernel)) rfl, zT_in (List.mem_of_getElem? (i := 954) (by decide +kernel)) rfl, zT_in (List.mem_of_getElem? (i := 81) (by decide +kernel)) rfl, zT_in (List.mem_of_getElem? (i := 955) (by decide +kernel)) rfl, by decide +kernel, by decide +kernel⟩
theorem kF_X10_270 : zFl RX10 270 6 9 RX6 TX6 10 tyX6 := ⟨rfl, zin_X6, tyX6_ok, nmX6, Nat.le_of_ble_eq_true rfl, zT_in (List.mem_of_getElem? (i := 271) (by decide +kernel)) rfl⟩
theorem kF_X10_274 : zFl RX10 274 6 2 RX6 TX6 10 tyX6 := ⟨rfl, zin_X6, tyX6_ok, nmX6, Nat.le_of_ble_eq_true rfl, zT_in (List.mem_of_getElem? (i := 248) (by decide +kernel)) rfl⟩
theorem kF_X10_64 : zFl RX10 64 10 7 RX10 TX10 12 tyX10 := ⟨rfl, zin_X10, tyX10_ok, nmX10, Nat.le_of_ble_eq_true rfl, zT_in (List.mem_of_getElem? (i := 423) (by decide +kernel)) rfl⟩
theorem kM_X10_277 : zMv RX10 277 yX6_become cX6_become 3 none 1 := ⟨zT_in (List.mem_of_getElem? (i := 968) (by decide +kernel)) rfl, zT_in (List.mem_of_getElem? (i := 969) (by decide +kernel)) rfl, zT_in (List.mem_of_getElem? (i := 970) (by decide +kernel)) rfl, zT_in (List.mem_of_getElem? (i := 76) (by decide +kernel)) rfl, zT_in (List.mem_of_getElem? (i := 971) (by decide +kernel)) rfl, by decide +kernel, by decide +kernel⟩
theorem kF_X10_69 : zFl RX10 69 10 8 RX10 TX10 12 tyX10 := ⟨rfl, zin_X10, tyX10_ok, nmX10, Nat.le_of_ble_eq_true rfl, zT_in (List.mem_of_getElem? (i := 424) (by decide +kernel)) rfl⟩
