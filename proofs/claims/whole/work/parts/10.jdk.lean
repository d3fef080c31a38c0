/-! THE WALKS, by program: 10.jdk -/
theorem dJ6_bitCount_0f7a4_0 : decode cJ6_bitCount_0f7a4 0 = .ok (.iload_n 0, 1) := by decide +kernel
theorem dJ6_bitCount_0f7a4_1 : decode cJ6_bitCount_0f7a4 1 = .ok (.iload_n 0, 1) := by decide +kernel
theorem dJ6_bitCount_0f7a4_2 : decode cJ6_bitCount_0f7a4 2 = .ok (.iconst 1, 1) := by decide +kernel
theorem dJ6_bitCount_0f7a4_3 : decode cJ6_bitCount_0f7a4 3 = .ok (.iushr, 1) := by decide +kernel
theorem dJ6_bitCount_0f7a4_4 : decode cJ6_bitCount_0f7a4 4 = .ok (.ldc_w 265, 3) := by decide +kernel
theorem dJ6_bitCount_0f7a4_7 : decode cJ6_bitCount_0f7a4 7 = .ok (.iand, 1) := by decide +kernel
theorem dJ6_bitCount_0f7a4_8 : decode cJ6_bitCount_0f7a4 8 = .ok (.isub, 1) := by decide +kernel
theorem dJ6_bitCount_0f7a4_9 : decode cJ6_bitCount_0f7a4 9 = .ok (.istore_n 0, 1) := by decide +kernel
theorem dJ6_bitCount_0f7a4_10 : decode cJ6_bitCount_0f7a4 10 = .ok (.iload_n 0, 1) := by decide +kernel
theorem dJ6_bitCount_0f7a4_11 : decode cJ6_bitCount_0f7a4 11 = .ok (.ldc_w 266, 3) := by decide +kernel
theorem dJ6_bitCount_0f7a4_14 : decode cJ6_bitCount_0f7a4 14 = .ok (.iand, 1) := by decide +kernel
theorem dJ6_bitCount_0f7a4_15 : decode cJ6_bitCount_0f7a4 15 = .ok (.iload_n 0, 1) := by decide +kernel
theorem dJ6_bitCount_0f7a4_16 : decode cJ6_bitCount_0f7a4 16 = .ok (.iconst 2, 1) := by decide +kernel
theorem dJ6_bitCount_0f7a4_17 : decode cJ6_bitCount_0f7a4 17 = .ok (.iushr, 1) := by decide +kernel
theorem dJ6_bitCount_0f7a4_18 : decode cJ6_bitCount_0f7a4 18 = .ok (.ldc_w 266, 3) := by decide +kernel
theorem dJ6_bitCount_0f7a4_21 : decode cJ6_bitCount_0f7a4 21 = .ok (.iand, 1) := by decide +kernel
theorem dJ6_bitCount_0f7a4_22 : decode cJ6_bitCount_0f7a4 22 = .ok (.iadd, 1) := by decide +kernel
theorem dJ6_bitCount_0f7a4_23 : decode cJ6_bitCount_0f7a4 23 = .ok (.istore_n 0, 1) := by decide +kernel
theorem dJ6_bitCount_0f7a4_24 : decode cJ6_bitCount_0f7a4 24 = .ok (.iload_n 0, 1) := by decide +kernel
theorem dJ6_bitCount_0f7a4_25 : decode cJ6_bitCount_0f7a4 25 = .ok (.iload_n 0, 1) := by decide +kernel
theorem dJ6_bitCount_0f7a4_26 : decode cJ6_bitCount_0f7a4 26 = .ok (.iconst 4, 1) := by decide +kernel
theorem dJ6_bitCount_0f7a4_27 : decode cJ6_bitCount_0f7a4 27 = .ok (.iushr, 1) := by decide +kernel
theorem dJ6_bitCount_0f7a4_28 : decode cJ6_bitCount_0f7a4 28 = .ok (.iadd, 1) := by decide +kernel
theorem dJ6_bitCount_0f7a4_29 : decode cJ6_bitCount_0f7a4 29 = .ok (.ldc_w 267, 3) := by decide +kernel
theorem dJ6_bitCount_0f7a4_32 : decode cJ6_bitCount_0f7a4 32 = .ok (.iand, 1) := by decide +kernel
theorem dJ6_bitCount_0f7a4_33 : decode cJ6_bitCount_0f7a4 33 = .ok (.istore_n 0, 1) := by decide +kernel
theorem dJ6_bitCount_0f7a4_34 : decode cJ6_bitCount_0f7a4 34 = .ok (.iload_n 0, 1) := by decide +kernel
theorem dJ6_bitCount_0f7a4_35 : decode cJ6_bitCount_0f7a4 35 = .ok (.iload_n 0, 1) := by decide +kernel
theorem dJ6_bitCount_0f7a4_36 : decode cJ6_bitCount_0f7a4 36 = .ok (.bipush 8, 2) := by decide +kernel
theorem dJ6_bitCount_0f7a4_38 : decode cJ6_bitCount_0f7a4 38 = .ok (.iushr, 1) := by decide +kernel
theorem dJ6_bitCount_0f7a4_39 : decode cJ6_bitCount_0f7a4 39 = .ok (.iadd, 1) := by decide +kernel
theorem dJ6_bitCount_0f7a4_40 : decode cJ6_bitCount_0f7a4 40 = .ok (.istore_n 0, 1) := by decide +kernel
theorem dJ6_bitCount_0f7a4_41 : decode cJ6_bitCount_0f7a4 41 = .ok (.iload_n 0, 1) := by decide +kernel
theorem dJ6_bitCount_0f7a4_42 : decode cJ6_bitCount_0f7a4 42 = .ok (.iload_n 0, 1) := by decide +kernel
theorem dJ6_bitCount_0f7a4_43 : decode cJ6_bitCount_0f7a4 43 = .ok (.bipush 16, 2) := by decide +kernel
theorem dJ6_bitCount_0f7a4_45 : decode cJ6_bitCount_0f7a4 45 = .ok (.iushr, 1) := by decide +kernel
theorem dJ6_bitCount_0f7a4_46 : decode cJ6_bitCount_0f7a4 46 = .ok (.iadd, 1) := by decide +kernel
theorem dJ6_bitCount_0f7a4_47 : decode cJ6_bitCount_0f7a4 47 = .ok (.istore_n 0, 1) := by decide +kernel
theorem dJ6_bitCount_0f7a4_48 : decode cJ6_bitCount_0f7a4 48 = .ok (.iload_n 0, 1) := by decide +kernel
theorem dJ6_bitCount_0f7a4_49 : decode cJ6_bitCount_0f7a4 49 = .ok (.bipush 63, 2) := by decide +kernel
theorem dJ6_bitCount_0f7a4_51 : decode cJ6_bitCount_0f7a4 51 = .ok (.iand, 1) := by decide +kernel
theorem dJ6_bitCount_0f7a4_52 : decode cJ6_bitCount_0f7a4 52 = .ok (.ireturn, 1) := by decide +kernel
set_option maxRecDepth 20000 in
theorem vJ6_bitCount_0f7a4 {g : zG} {d : Nat} {Q : Int32 → zM → Prop} {M : zM} {sh : List zSh} {l0 : Int32} (h : ∀ v1 : Int32, v1 = (((l0).toUInt32 >>> ((1 : Int32).toUInt32 &&& Int32.toUInt32 31)).toInt32) → ∀ v2 : Int32, v2 = ((((l0 - (v1 &&& 1431655765))).toUInt32 >>> ((2 : Int32).toUInt32 &&& Int32.toUInt32 31)).toInt32) → ∀ v3 : Int32, v3 = (((l0 - (v1 &&& 1431655765)) &&& 858993459) + (v2 &&& 858993459)) → ∀ v4 : Int32, v4 = (((v3).toUInt32 >>> ((4 : Int32).toUInt32 &&& Int32.toUInt32 31)).toInt32) → ∀ v5 : Int32, v5 = (((((v3 + v4) &&& 252645135)).toUInt32 >>> ((8 : Int32).toUInt32 &&& Int32.toUInt32 31)).toInt32) → ∀ v6 : Int32, v6 = ((((((v3 + v4) &&& 252645135) + v5)).toUInt32 >>> ((16 : Int32).toUInt32 &&& Int32.toUInt32 31)).toInt32) → Q (((((v3 + v4) &&& 252645135) + v5) + v6) &&& 63) M) : zCi sh g d mJ6_bitCount_0f7a4 [.int l0] M Q := by
  refine zW.enter (by decide +kernel) (Nat.le_of_ble_eq_true rfl) ?_
  change zW sh g d mJ6_bitCount_0f7a4 (zi Q) 0 [(0, .int l0)] [] M
  refine z_iload_n dJ6_bitCount_0f7a4_0 0 rfl ?_
  refine z_iload_n dJ6_bitCount_0f7a4_1 0 rfl ?_
  refine z_iconst (v := 1) dJ6_bitCount_0f7a4_2 (by decide) ?_
  refine z_iushr dJ6_bitCount_0f7a4_3 ?_
  obtain ⟨v1, ev1⟩ : ∃ y : Int32, y = (((l0).toUInt32 >>> ((1 : Int32).toUInt32 &&& Int32.toUInt32 31)).toInt32) := ⟨_, rfl⟩
  refine z_topi v1 ev1 ?_
  have h := h v1 ev1
  refine z_ldcw dJ6_bitCount_0f7a4_4 kcJ6_265 ?_
  refine z_iand dJ6_bitCount_0f7a4_7 ?_
  refine z_isub dJ6_bitCount_0f7a4_8 ?_
  refine z_istore_n [(0, .int (l0 - (v1 &&& 1431655765)))] dJ6_bitCount_0f7a4_9 (by decide) rfl ?_
  refine z_iload_n dJ6_bitCount_0f7a4_10 0 rfl ?_
  refine z_ldcw dJ6_bitCount_0f7a4_11 kcJ6_266 ?_
  refine z_iand dJ6_bitCount_0f7a4_14 ?_
  refine z_iload_n dJ6_bitCount_0f7a4_15 0 rfl ?_
  refine z_iconst (v := 2) dJ6_bitCount_0f7a4_16 (by decide) ?_
  refine z_iushr dJ6_bitCount_0f7a4_17 ?_
  obtain ⟨v2, ev2⟩ : ∃ y : Int32, y = ((((l0 - (v1 &&& 1431655765))).toUInt32 >>> ((2 : Int32).toUInt32 &&& Int32.toUInt32 31)).toInt32) := ⟨_, rfl⟩
  refine z_topi v2 ev2 ?_
  have h := h v2 ev2
  refine z_ldcw dJ6_bitCount_0f7a4_18 kcJ6_266 ?_
  refine z_iand dJ6_bitCount_0f7a4_21 ?_
  refine z_iadd dJ6_bitCount_0f7a4_22 ?_
  obtain ⟨v3, ev3⟩ : ∃ y : Int32, y = (((l0 - (v1 &&& 1431655765)) &&& 858993459) + (v2 &&& 858993459)) := ⟨_, rfl⟩
  refine z_topi v3 ev3 ?_
  have h := h v3 ev3
  refine z_istore_n [(0, .int v3)] dJ6_bitCount_0f7a4_23 (by decide) rfl ?_
  refine z_iload_n dJ6_bitCount_0f7a4_24 0 rfl ?_
  refine z_iload_n dJ6_bitCount_0f7a4_25 0 rfl ?_
  refine z_iconst (v := 4) dJ6_bitCount_0f7a4_26 (by decide) ?_
  refine z_iushr dJ6_bitCount_0f7a4_27 ?_
  obtain ⟨v4, ev4⟩ : ∃ y : Int32, y = (((v3).toUInt32 >>> ((4 : Int32).toUInt32 &&& Int32.toUInt32 31)).toInt32) := ⟨_, rfl⟩
  refine z_topi v4 ev4 ?_
  have h := h v4 ev4
  refine z_iadd dJ6_bitCount_0f7a4_28 ?_
  refine z_ldcw dJ6_bitCount_0f7a4_29 kcJ6_267 ?_
  refine z_iand dJ6_bitCount_0f7a4_32 ?_
  refine z_istore_n [(0, .int ((v3 + v4) &&& 252645135))] dJ6_bitCount_0f7a4_33 (by decide) rfl ?_
  refine z_iload_n dJ6_bitCount_0f7a4_34 0 rfl ?_
  refine z_iload_n dJ6_bitCount_0f7a4_35 0 rfl ?_
  refine z_bipush (v := 8) dJ6_bitCount_0f7a4_36 (by decide) ?_
  refine z_iushr dJ6_bitCount_0f7a4_38 ?_
  obtain ⟨v5, ev5⟩ : ∃ y : Int32, y = (((((v3 + v4) &&& 252645135)).toUInt32 >>> ((8 : Int32).toUInt32 &&& Int32.toUInt32 31)).toInt32) := ⟨_, rfl⟩
  refine z_topi v5 ev5 ?_
  have h := h v5 ev5
  refine z_iadd dJ6_bitCount_0f7a4_39 ?_
  refine z_istore_n [(0, .int (((v3 + v4) &&& 252645135) + v5))] dJ6_bitCount_0f7a4_40 (by decide) rfl ?_
  refine z_iload_n dJ6_bitCount_0f7a4_41 0 rfl ?_
  refine z_iload_n dJ6_bitCount_0f7a4_42 0 rfl ?_
  refine z_bipush (v := 16) dJ6_bitCount_0f7a4_43 (by decide) ?_
  refine z_iushr dJ6_bitCount_0f7a4_45 ?_
  obtain ⟨v6, ev6⟩ : ∃ y : Int32, y = ((((((v3 + v4) &&& 252645135) + v5)).toUInt32 >>> ((16 : Int32).toUInt32 &&& Int32.toUInt32 31)).toInt32) := ⟨_, rfl⟩
  refine z_topi v6 ev6 ?_
  have h := h v6 ev6
  refine z_iadd dJ6_bitCount_0f7a4_46 ?_
  refine z_istore_n [(0, .int ((((v3 + v4) &&& 252645135) + v5) + v6))] dJ6_bitCount_0f7a4_47 (by decide) rfl ?_
  refine z_iload_n dJ6_bitCount_0f7a4_48 0 rfl ?_
  refine z_bipush (v := 63) dJ6_bitCount_0f7a4_49 (by decide) ?_
  refine z_iand dJ6_bitCount_0f7a4_51 ?_
  exact z_iret (st := []) rfl rfl dJ6_bitCount_0f7a4_52 ⟨_, rfl, h⟩
theorem dJ13_bitCount_95d88_0 : decode cJ13_bitCount_95d88 0 = .ok (.lload_n 0, 1) := by decide +kernel
theorem dJ13_bitCount_95d88_1 : decode cJ13_bitCount_95d88 1 = .ok (.lload_n 0, 1) := by decide +kernel
theorem dJ13_bitCount_95d88_2 : decode cJ13_bitCount_95d88 2 = .ok (.iconst 1, 1) := by decide +kernel
theorem dJ13_bitCount_95d88_3 : decode cJ13_bitCount_95d88 3 = .ok (.lushr, 1) := by decide +kernel
theorem dJ13_bitCount_95d88_4 : decode cJ13_bitCount_95d88 4 = .ok (.ldc2_w 314, 3) := by decide +kernel
theorem dJ13_bitCount_95d88_7 : decode cJ13_bitCount_95d88 7 = .ok (.land, 1) := by decide +kernel
theorem dJ13_bitCount_95d88_8 : decode cJ13_bitCount_95d88 8 = .ok (.lsub, 1) := by decide +kernel
theorem dJ13_bitCount_95d88_9 : decode cJ13_bitCount_95d88 9 = .ok (.lstore_n 0, 1) := by decide +kernel
theorem dJ13_bitCount_95d88_10 : decode cJ13_bitCount_95d88 10 = .ok (.lload_n 0, 1) := by decide +kernel
theorem dJ13_bitCount_95d88_11 : decode cJ13_bitCount_95d88 11 = .ok (.ldc2_w 316, 3) := by decide +kernel
theorem dJ13_bitCount_95d88_14 : decode cJ13_bitCount_95d88 14 = .ok (.land, 1) := by decide +kernel
theorem dJ13_bitCount_95d88_15 : decode cJ13_bitCount_95d88 15 = .ok (.lload_n 0, 1) := by decide +kernel
theorem dJ13_bitCount_95d88_16 : decode cJ13_bitCount_95d88 16 = .ok (.iconst 2, 1) := by decide +kernel
theorem dJ13_bitCount_95d88_17 : decode cJ13_bitCount_95d88 17 = .ok (.lushr, 1) := by decide +kernel
theorem dJ13_bitCount_95d88_18 : decode cJ13_bitCount_95d88 18 = .ok (.ldc2_w 316, 3) := by decide +kernel
theorem dJ13_bitCount_95d88_21 : decode cJ13_bitCount_95d88 21 = .ok (.land, 1) := by decide +kernel
theorem dJ13_bitCount_95d88_22 : decode cJ13_bitCount_95d88 22 = .ok (.ladd, 1) := by decide +kernel
theorem dJ13_bitCount_95d88_23 : decode cJ13_bitCount_95d88 23 = .ok (.lstore_n 0, 1) := by decide +kernel
theorem dJ13_bitCount_95d88_24 : decode cJ13_bitCount_95d88 24 = .ok (.lload_n 0, 1) := by decide +kernel
theorem dJ13_bitCount_95d88_25 : decode cJ13_bitCount_95d88 25 = .ok (.lload_n 0, 1) := by decide +kernel
theorem dJ13_bitCount_95d88_26 : decode cJ13_bitCount_95d88 26 = .ok (.iconst 4, 1) := by decide +kernel
theorem dJ13_bitCount_95d88_27 : decode cJ13_bitCount_95d88 27 = .ok (.lushr, 1) := by decide +kernel
theorem dJ13_bitCount_95d88_28 : decode cJ13_bitCount_95d88 28 = .ok (.ladd, 1) := by decide +kernel
theorem dJ13_bitCount_95d88_29 : decode cJ13_bitCount_95d88 29 = .ok (.ldc2_w 318, 3) := by decide +kernel
theorem dJ13_bitCount_95d88_32 : decode cJ13_bitCount_95d88 32 = .ok (.land, 1) := by decide +kernel
theorem dJ13_bitCount_95d88_33 : decode cJ13_bitCount_95d88 33 = .ok (.lstore_n 0, 1) := by decide +kernel
theorem dJ13_bitCount_95d88_34 : decode cJ13_bitCount_95d88 34 = .ok (.lload_n 0, 1) := by decide +kernel
theorem dJ13_bitCount_95d88_35 : decode cJ13_bitCount_95d88 35 = .ok (.lload_n 0, 1) := by decide +kernel
theorem dJ13_bitCount_95d88_36 : decode cJ13_bitCount_95d88 36 = .ok (.bipush 8, 2) := by decide +kernel
theorem dJ13_bitCount_95d88_38 : decode cJ13_bitCount_95d88 38 = .ok (.lushr, 1) := by decide +kernel
theorem dJ13_bitCount_95d88_39 : decode cJ13_bitCount_95d88 39 = .ok (.ladd, 1) := by decide +kernel
theorem dJ13_bitCount_95d88_40 : decode cJ13_bitCount_95d88 40 = .ok (.lstore_n 0, 1) := by decide +kernel
theorem dJ13_bitCount_95d88_41 : decode cJ13_bitCount_95d88 41 = .ok (.lload_n 0, 1) := by decide +kernel
theorem dJ13_bitCount_95d88_42 : decode cJ13_bitCount_95d88 42 = .ok (.lload_n 0, 1) := by decide +kernel
theorem dJ13_bitCount_95d88_43 : decode cJ13_bitCount_95d88 43 = .ok (.bipush 16, 2) := by decide +kernel
theorem dJ13_bitCount_95d88_45 : decode cJ13_bitCount_95d88 45 = .ok (.lushr, 1) := by decide +kernel
theorem dJ13_bitCount_95d88_46 : decode cJ13_bitCount_95d88 46 = .ok (.ladd, 1) := by decide +kernel
theorem dJ13_bitCount_95d88_47 : decode cJ13_bitCount_95d88 47 = .ok (.lstore_n 0, 1) := by decide +kernel
theorem dJ13_bitCount_95d88_48 : decode cJ13_bitCount_95d88 48 = .ok (.lload_n 0, 1) := by decide +kernel
theorem dJ13_bitCount_95d88_49 : decode cJ13_bitCount_95d88 49 = .ok (.lload_n 0, 1) := by decide +kernel
theorem dJ13_bitCount_95d88_50 : decode cJ13_bitCount_95d88 50 = .ok (.bipush 32, 2) := by decide +kernel
theorem dJ13_bitCount_95d88_52 : decode cJ13_bitCount_95d88 52 = .ok (.lushr, 1) := by decide +kernel
theorem dJ13_bitCount_95d88_53 : decode cJ13_bitCount_95d88 53 = .ok (.ladd, 1) := by decide +kernel
theorem dJ13_bitCount_95d88_54 : decode cJ13_bitCount_95d88 54 = .ok (.lstore_n 0, 1) := by decide +kernel
theorem dJ13_bitCount_95d88_55 : decode cJ13_bitCount_95d88 55 = .ok (.lload_n 0, 1) := by decide +kernel
theorem dJ13_bitCount_95d88_56 : decode cJ13_bitCount_95d88 56 = .ok (.l2i, 1) := by decide +kernel
theorem dJ13_bitCount_95d88_57 : decode cJ13_bitCount_95d88 57 = .ok (.bipush 127, 2) := by decide +kernel
theorem dJ13_bitCount_95d88_59 : decode cJ13_bitCount_95d88 59 = .ok (.iand, 1) := by decide +kernel
theorem dJ13_bitCount_95d88_60 : decode cJ13_bitCount_95d88 60 = .ok (.ireturn, 1) := by decide +kernel
set_option maxRecDepth 20000 in
theorem vJ13_bitCount_95d88 {g : zG} {d : Nat} {Q : Int32 → zM → Prop} {M : zM} {sh : List zSh} {l0 : Int64} (h : ∀ v1 : Int64, v1 = (((l0 : Int64).toUInt64 >>> ((1 : Int32).toInt64.toUInt64 &&& Int64.toUInt64 63)).toInt64) → ∀ v2 : Int64, v2 = ((((l0 - (v1 &&& 6148914691236517205)) : Int64).toUInt64 >>> ((2 : Int32).toInt64.toUInt64 &&& Int64.toUInt64 63)).toInt64) → ∀ v3 : Int64, v3 = ((((((l0 - (v1 &&& 6148914691236517205)) &&& 3689348814741910323) + (v2 &&& 3689348814741910323)) : Int64).toUInt64 >>> ((4 : Int32).toInt64.toUInt64 &&& Int64.toUInt64 63)).toInt64) → ∀ v4 : Int64, v4 = ((((((((l0 - (v1 &&& 6148914691236517205)) &&& 3689348814741910323) + (v2 &&& 3689348814741910323)) + v3) &&& 1085102592571150095) : Int64).toUInt64 >>> ((8 : Int32).toInt64.toUInt64 &&& Int64.toUInt64 63)).toInt64) → ∀ v5 : Int64, v5 = (((((((((l0 - (v1 &&& 6148914691236517205)) &&& 3689348814741910323) + (v2 &&& 3689348814741910323)) + v3) &&& 1085102592571150095) + v4) : Int64).toUInt64 >>> ((16 : Int32).toInt64.toUInt64 &&& Int64.toUInt64 63)).toInt64) → ∀ v6 : Int64, v6 = ((((((((((l0 - (v1 &&& 6148914691236517205)) &&& 3689348814741910323) + (v2 &&& 3689348814741910323)) + v3) &&& 1085102592571150095) + v4) + v5) : Int64).toUInt64 >>> ((32 : Int32).toInt64.toUInt64 &&& Int64.toUInt64 63)).toInt64) → ∀ v7 : Int32, v7 = (((((((((l0 - (v1 &&& 6148914691236517205)) &&& 3689348814741910323) + (v2 &&& 3689348814741910323)) + v3) &&& 1085102592571150095) + v4) + v5) + v6).toInt32 &&& 127) → Q v7 M) : zCi sh g d mJ13_bitCount_95d88 [.long l0] M Q := by
  refine zW.enter (by decide +kernel) (Nat.le_of_ble_eq_true rfl) ?_
  change zW sh g d mJ13_bitCount_95d88 (zi Q) 0 [(0, .long l0)] [] M
  refine z_lload_n dJ13_bitCount_95d88_0 0 rfl ?_
  refine z_lload_n dJ13_bitCount_95d88_1 0 rfl ?_
  refine z_iconst (v := 1) dJ13_bitCount_95d88_2 (by decide) ?_
  refine z_lushr dJ13_bitCount_95d88_3 ?_
  obtain ⟨v1, ev1⟩ : ∃ y : Int64, y = (((l0 : Int64).toUInt64 >>> ((1 : Int32).toInt64.toUInt64 &&& Int64.toUInt64 63)).toInt64) := ⟨_, rfl⟩
  refine z_topl v1 ev1 ?_
  have h := h v1 ev1
  refine z_ldc2 dJ13_bitCount_95d88_4 kcJ13_314 ?_
  refine z_land dJ13_bitCount_95d88_7 ?_
  refine z_lsub dJ13_bitCount_95d88_8 ?_
  refine z_lstore_n [(0, .long (l0 - (v1 &&& 6148914691236517205)))] dJ13_bitCount_95d88_9 (by decide) rfl ?_
  refine z_lload_n dJ13_bitCount_95d88_10 0 rfl ?_
  refine z_ldc2 dJ13_bitCount_95d88_11 kcJ13_316 ?_
  refine z_land dJ13_bitCount_95d88_14 ?_
  refine z_lload_n dJ13_bitCount_95d88_15 0 rfl ?_
  refine z_iconst (v := 2) dJ13_bitCount_95d88_16 (by decide) ?_
  refine z_lushr dJ13_bitCount_95d88_17 ?_
  obtain ⟨v2, ev2⟩ : ∃ y : Int64, y = ((((l0 - (v1 &&& 6148914691236517205)) : Int64).toUInt64 >>> ((2 : Int32).toInt64.toUInt64 &&& Int64.toUInt64 63)).toInt64) := ⟨_, rfl⟩
  refine z_topl v2 ev2 ?_
  have h := h v2 ev2
  refine z_ldc2 dJ13_bitCount_95d88_18 kcJ13_316 ?_
  refine z_land dJ13_bitCount_95d88_21 ?_
  refine z_ladd dJ13_bitCount_95d88_22 ?_
  refine z_lstore_n [(0, .long (((l0 - (v1 &&& 6148914691236517205)) &&& 3689348814741910323) + (v2 &&& 3689348814741910323)))] dJ13_bitCount_95d88_23 (by decide) rfl ?_
  refine z_lload_n dJ13_bitCount_95d88_24 0 rfl ?_
  refine z_lload_n dJ13_bitCount_95d88_25 0 rfl ?_
  refine z_iconst (v := 4) dJ13_bitCount_95d88_26 (by decide) ?_
  refine z_lushr dJ13_bitCount_95d88_27 ?_
  obtain ⟨v3, ev3⟩ : ∃ y : Int64, y = ((((((l0 - (v1 &&& 6148914691236517205)) &&& 3689348814741910323) + (v2 &&& 3689348814741910323)) : Int64).toUInt64 >>> ((4 : Int32).toInt64.toUInt64 &&& Int64.toUInt64 63)).toInt64) := ⟨_, rfl⟩
  refine z_topl v3 ev3 ?_
  have h := h v3 ev3
  refine z_ladd dJ13_bitCount_95d88_28 ?_
  refine z_ldc2 dJ13_bitCount_95d88_29 kcJ13_318 ?_
  refine z_land dJ13_bitCount_95d88_32 ?_
  refine z_lstore_n [(0, .long (((((l0 - (v1 &&& 6148914691236517205)) &&& 3689348814741910323) + (v2 &&& 3689348814741910323)) + v3) &&& 1085102592571150095))] dJ13_bitCount_95d88_33 (by decide) rfl ?_
  refine z_lload_n dJ13_bitCount_95d88_34 0 rfl ?_
  refine z_lload_n dJ13_bitCount_95d88_35 0 rfl ?_
  refine z_bipush (v := 8) dJ13_bitCount_95d88_36 (by decide) ?_
  refine z_lushr dJ13_bitCount_95d88_38 ?_
  obtain ⟨v4, ev4⟩ : ∃ y : Int64, y = ((((((((l0 - (v1 &&& 6148914691236517205)) &&& 3689348814741910323) + (v2 &&& 3689348814741910323)) + v3) &&& 1085102592571150095) : Int64).toUInt64 >>> ((8 : Int32).toInt64.toUInt64 &&& Int64.toUInt64 63)).toInt64) := ⟨_, rfl⟩
  refine z_topl v4 ev4 ?_
  have h := h v4 ev4
  refine z_ladd dJ13_bitCount_95d88_39 ?_
  refine z_lstore_n [(0, .long ((((((l0 - (v1 &&& 6148914691236517205)) &&& 3689348814741910323) + (v2 &&& 3689348814741910323)) + v3) &&& 1085102592571150095) + v4))] dJ13_bitCount_95d88_40 (by decide) rfl ?_
  refine z_lload_n dJ13_bitCount_95d88_41 0 rfl ?_
  refine z_lload_n dJ13_bitCount_95d88_42 0 rfl ?_
  refine z_bipush (v := 16) dJ13_bitCount_95d88_43 (by decide) ?_
  refine z_lushr dJ13_bitCount_95d88_45 ?_
  obtain ⟨v5, ev5⟩ : ∃ y : Int64, y = (((((((((l0 - (v1 &&& 6148914691236517205)) &&& 3689348814741910323) + (v2 &&& 3689348814741910323)) + v3) &&& 1085102592571150095) + v4) : Int64).toUInt64 >>> ((16 : Int32).toInt64.toUInt64 &&& Int64.toUInt64 63)).toInt64) := ⟨_, rfl⟩
  refine z_topl v5 ev5 ?_
  have h := h v5 ev5
  refine z_ladd dJ13_bitCount_95d88_46 ?_
  refine z_lstore_n [(0, .long (((((((l0 - (v1 &&& 6148914691236517205)) &&& 3689348814741910323) + (v2 &&& 3689348814741910323)) + v3) &&& 1085102592571150095) + v4) + v5))] dJ13_bitCount_95d88_47 (by decide) rfl ?_
  refine z_lload_n dJ13_bitCount_95d88_48 0 rfl ?_
  refine z_lload_n dJ13_bitCount_95d88_49 0 rfl ?_
  refine z_bipush (v := 32) dJ13_bitCount_95d88_50 (by decide) ?_
  refine z_lushr dJ13_bitCount_95d88_52 ?_
  obtain ⟨v6, ev6⟩ : ∃ y : Int64, y = ((((((((((l0 - (v1 &&& 6148914691236517205)) &&& 3689348814741910323) + (v2 &&& 3689348814741910323)) + v3) &&& 1085102592571150095) + v4) + v5) : Int64).toUInt64 >>> ((32 : Int32).toInt64.toUInt64 &&& Int64.toUInt64 63)).toInt64) := ⟨_, rfl⟩
  refine z_topl v6 ev6 ?_
  have h := h v6 ev6
  refine z_ladd dJ13_bitCount_95d88_53 ?_
  refine z_lstore_n [(0, .long ((((((((l0 - (v1 &&& 6148914691236517205)) &&& 3689348814741910323) + (v2 &&& 3689348814741910323)) + v3) &&& 1085102592571150095) + v4) + v5) + v6))] dJ13_bitCount_95d88_54 (by decide) rfl ?_
  refine z_lload_n dJ13_bitCount_95d88_55 0 rfl ?_
  refine z_l2i dJ13_bitCount_95d88_56 ?_
  refine z_bipush (v := 127) dJ13_bitCount_95d88_57 (by decide) ?_
  refine z_iand dJ13_bitCount_95d88_59 ?_
  obtain ⟨v7, ev7⟩ : ∃ y : Int32, y = (((((((((l0 - (v1 &&& 6148914691236517205)) &&& 3689348814741910323) + (v2 &&& 3689348814741910323)) + v3) &&& 1085102592571150095) + v4) + v5) + v6).toInt32 &&& 127) := ⟨_, rfl⟩
  refine z_topi v7 ev7 ?_
  have h := h v7 ev7
  exact z_iret (st := []) rfl rfl dJ13_bitCount_95d88_60 ⟨_, rfl, h⟩
theorem dJ0_coder_7d493_0 : decode cJ0_coder_7d493 0 = .ok (.getstatic 38, 3) := by decide +kernel
theorem dJ0_coder_7d493_3 : decode cJ0_coder_7d493 3 = .ok (.ifCond .eq 10, 3) := by decide +kernel
theorem dJ0_coder_7d493_6 : decode cJ0_coder_7d493 6 = .ok (.aload_n 0, 1) := by decide +kernel
theorem dJ0_coder_7d493_7 : decode cJ0_coder_7d493 7 = .ok (.getfield 15, 3) := by decide +kernel
theorem dJ0_coder_7d493_10 : decode cJ0_coder_7d493 10 = .ok (.goto 4, 3) := by decide +kernel
theorem dJ0_coder_7d493_13 : decode cJ0_coder_7d493 13 = .ok (.iconst 1, 1) := by decide +kernel
theorem dJ0_coder_7d493_14 : decode cJ0_coder_7d493 14 = .ok (.ireturn, 1) := by decide +kernel
set_option maxRecDepth 20000 in
theorem vJ0_coder_7d493 {g : zG} {d : Nat} {Q : Int32 → zM → Prop} {M : zM} {q : Nat} {sh : List zSh} (hq : q < 23) (h : narrow .byte (.int 0) = .int 0 ∧ Q 0 M) : zCi sh g d mJ0_coder_7d493 [.ref (4096 + q)] M Q := by
  refine zW.enter (by decide +kernel) (Nat.le_of_ble_eq_true rfl) ?_
  change zW sh g d mJ0_coder_7d493 (zi Q) 0 [(0, .ref (4096 + q))] [] M
  refine z_getsC (zat 596 (by decide +kernel) rfl) dJ0_coder_7d493_0 ?_
  refine z_if_eq 13 dJ0_coder_7d493_3 (by decide) (fun c => absurd c (by decide)) (fun _ => ?_)
  refine z_aload_n dJ0_coder_7d493_6 0 rfl ?_
  refine z_strcod (q := q) hq (zat 1857 (by decide +kernel) rfl) dJ0_coder_7d493_7 ?_
  refine z_goto 14 dJ0_coder_7d493_10 (by decide) ?_
  exact z_iret (st := []) rfl h.1 dJ0_coder_7d493_14 ⟨_, rfl, h.2⟩
theorem dJ0_isLatin1_aae02_0 : decode cJ0_isLatin1_aae02 0 = .ok (.getstatic 38, 3) := by decide +kernel
theorem dJ0_isLatin1_aae02_3 : decode cJ0_isLatin1_aae02 3 = .ok (.ifCond .eq 14, 3) := by decide +kernel
theorem dJ0_isLatin1_aae02_6 : decode cJ0_isLatin1_aae02 6 = .ok (.aload_n 0, 1) := by decide +kernel
theorem dJ0_isLatin1_aae02_7 : decode cJ0_isLatin1_aae02 7 = .ok (.getfield 15, 3) := by decide +kernel
theorem dJ0_isLatin1_aae02_10 : decode cJ0_isLatin1_aae02 10 = .ok (.ifCond .ne 7, 3) := by decide +kernel
theorem dJ0_isLatin1_aae02_13 : decode cJ0_isLatin1_aae02 13 = .ok (.iconst 1, 1) := by decide +kernel
theorem dJ0_isLatin1_aae02_14 : decode cJ0_isLatin1_aae02 14 = .ok (.goto 4, 3) := by decide +kernel
theorem dJ0_isLatin1_aae02_17 : decode cJ0_isLatin1_aae02 17 = .ok (.iconst 0, 1) := by decide +kernel
theorem dJ0_isLatin1_aae02_18 : decode cJ0_isLatin1_aae02 18 = .ok (.ireturn, 1) := by decide +kernel
set_option maxRecDepth 20000 in
theorem vJ0_isLatin1_aae02 {g : zG} {d : Nat} {Q : Bool → zM → Prop} {M : zM} {q : Nat} {sh : List zSh} (hq : q < 23) (h : Q true M) : zCz sh g d mJ0_isLatin1_aae02 [.ref (4096 + q)] M Q := by
  refine zW.enter (by decide +kernel) (Nat.le_of_ble_eq_true rfl) ?_
  change zW sh g d mJ0_isLatin1_aae02 (zz Q) 0 [(0, .ref (4096 + q))] [] M
  refine z_getsC (zat 596 (by decide +kernel) rfl) dJ0_isLatin1_aae02_0 ?_
  refine z_if_eq 17 dJ0_isLatin1_aae02_3 (by decide) (fun c => absurd c (by decide)) (fun _ => ?_)
  refine z_aload_n dJ0_isLatin1_aae02_6 0 rfl ?_
  refine z_strcod (q := q) hq (zat 1857 (by decide +kernel) rfl) dJ0_isLatin1_aae02_7 ?_
  refine z_if_ne 17 dJ0_isLatin1_aae02_10 (by decide) (fun c => absurd c (by decide)) (fun _ => ?_)
  refine z_iconst (v := 1) dJ0_isLatin1_aae02_13 (by decide) ?_
  refine z_goto 18 dJ0_isLatin1_aae02_14 (by decide) ?_
  exact z_zret (b := true) rfl rfl dJ0_isLatin1_aae02_18 h
theorem dJ1_charAt_3b067_0 : decode cJ1_charAt_3b067 0 = .ok (.iload_n 1, 1) := by decide +kernel
theorem dJ1_charAt_3b067_1 : decode cJ1_charAt_3b067 1 = .ok (.aload_n 0, 1) := by decide +kernel
theorem dJ1_charAt_3b067_2 : decode cJ1_charAt_3b067 2 = .ok (.arraylength, 1) := by decide +kernel
theorem dJ1_charAt_3b067_3 : decode cJ1_charAt_3b067 3 = .ok (.invokestatic 9, 3) := by decide +kernel
theorem dJ1_charAt_3b067_6 : decode cJ1_charAt_3b067 6 = .ok (.aload_n 0, 1) := by decide +kernel
theorem dJ1_charAt_3b067_7 : decode cJ1_charAt_3b067 7 = .ok (.iload_n 1, 1) := by decide +kernel
theorem dJ1_charAt_3b067_8 : decode cJ1_charAt_3b067 8 = .ok (.baload, 1) := by decide +kernel
theorem dJ1_charAt_3b067_9 : decode cJ1_charAt_3b067 9 = .ok (.sipush 255, 3) := by decide +kernel
theorem dJ1_charAt_3b067_12 : decode cJ1_charAt_3b067 12 = .ok (.iand, 1) := by decide +kernel
theorem dJ1_charAt_3b067_13 : decode cJ1_charAt_3b067 13 = .ok (.i2c, 1) := by decide +kernel
theorem dJ1_charAt_3b067_14 : decode cJ1_charAt_3b067 14 = .ok (.ireturn, 1) := by decide +kernel
set_option maxRecDepth 20000 in
theorem vJ1_charAt_3b067 {g : zG} {d : Nat} {Q : Int32 → zM → Prop} {M : zM} {q : Nat} {sh : List zSh} {l1 : Int32} (hq : q < 23) (h : zCv sh g d mJ0_checkIndex_df160 [.int l1, .int (iv (zLen.getD q 0))] M (fun  M1 => ∃ k1 : Nat, l1 = iv k1 ∧ k1 < zLen.getD q 0 ∧ narrow .char (.int ((((((zBy.getD q []).getD k1 0) &&& 255)).toUInt32 % 65536).toInt32)) = .int ((((((zBy.getD q []).getD k1 0) &&& 255)).toUInt32 % 65536).toInt32) ∧ Q ((((((zBy.getD q []).getD k1 0) &&& 255)).toUInt32 % 65536).toInt32) M1)) : zCi sh g (d + 1) mJ1_charAt_3b067 [.ref (8192 + q), .int l1] M Q := by
  refine zW.enter (by decide +kernel) (Nat.le_of_ble_eq_true rfl) ?_
  change zW sh g (d + 1) mJ1_charAt_3b067 (zi Q) 0 [(0, .ref (8192 + q)), (1, .int l1)] [] M
  refine z_iload_n dJ1_charAt_3b067_0 1 rfl ?_
  refine z_aload_n dJ1_charAt_3b067_1 0 rfl ?_
  refine z_strlen (v := iv (zLen.getD q 0)) hq rfl dJ1_charAt_3b067_2 ?_
  refine z_callS (m2 := mJ0_checkIndex_df160) (st := []) [.int l1, .int (iv (zLen.getD q 0))] okJ0_checkIndex_df160 (Or.inl lkJ1_9) rfl rfl (Nat.le_of_ble_eq_true rfl) dJ1_charAt_3b067_3 (zgo_v h fun  M1 h => ?_)
  refine z_aload_n dJ1_charAt_3b067_6 0 rfl ?_
  refine z_iload_n dJ1_charAt_3b067_7 1 rfl ?_
  obtain ⟨k1, ek1, uk1, h⟩ := h
  refine z_strald2 (q := q) (k0 := k1) hq ek1 uk1 dJ1_charAt_3b067_8 ?_
  refine z_sipush (v := 255) dJ1_charAt_3b067_9 (by decide) ?_
  refine z_iand dJ1_charAt_3b067_12 ?_
  refine z_i2c dJ1_charAt_3b067_13 ?_
  exact z_iret (st := []) rfl h.1 dJ1_charAt_3b067_14 ⟨_, rfl, h.2⟩
theorem dJ0_length_8abf5_0 : decode cJ0_length_8abf5 0 = .ok (.aload_n 0, 1) := by decide +kernel
theorem dJ0_length_8abf5_1 : decode cJ0_length_8abf5 1 = .ok (.getfield 9, 3) := by decide +kernel
theorem dJ0_length_8abf5_4 : decode cJ0_length_8abf5 4 = .ok (.arraylength, 1) := by decide +kernel
theorem dJ0_length_8abf5_5 : decode cJ0_length_8abf5 5 = .ok (.aload_n 0, 1) := by decide +kernel
theorem dJ0_length_8abf5_6 : decode cJ0_length_8abf5 6 = .ok (.invokevirtual 335, 3) := by decide +kernel
theorem dJ0_length_8abf5_9 : decode cJ0_length_8abf5 9 = .ok (.ishr, 1) := by decide +kernel
theorem dJ0_length_8abf5_10 : decode cJ0_length_8abf5 10 = .ok (.ireturn, 1) := by decide +kernel
set_option maxRecDepth 20000 in
theorem vJ0_length_8abf5 {g : zG} {d : Nat} {Q : Int32 → zM → Prop} {M : zM} {q : Nat} {sh : List zSh} (hq : q < 23) (h : zCi sh g d mJ0_coder_7d493 [.ref (4096 + q)] M (fun x1 M1 => Q ((iv (zLen.getD q 0)) >>> (x1 &&& 31)) M1)) : zCi sh g (d + 1) mJ0_length_8abf5 [.ref (4096 + q)] M Q := by
  refine zW.enter (by decide +kernel) (Nat.le_of_ble_eq_true rfl) ?_
  change zW sh g (d + 1) mJ0_length_8abf5 (zi Q) 0 [(0, .ref (4096 + q))] [] M
  refine z_aload_n dJ0_length_8abf5_0 0 rfl ?_
  refine z_strval (q := q) hq (zat 1856 (by decide +kernel) rfl) dJ0_length_8abf5_1 ?_
  refine z_strlen (v := iv (zLen.getD q 0)) hq rfl dJ0_length_8abf5_4 ?_
  refine z_aload_n dJ0_length_8abf5_5 0 rfl ?_
  refine z_callT (m2 := mJ0_coder_7d493) (i := q) (st := [.int (iv (zLen.getD q 0))]) [] okJ0_coder_7d493 lkJ0_335 hq rfl rfl rfl (Nat.le_of_ble_eq_true rfl) dJ0_length_8abf5_6 (zgo_i h fun x1 M1 h => ?_)
  refine z_ishr dJ0_length_8abf5_9 ?_
  exact z_iret (st := []) rfl rfl dJ0_length_8abf5_10 ⟨_, rfl, h⟩
theorem dJ0_charAt_5068e_0 : decode cJ0_charAt_5068e 0 = .ok (.aload_n 0, 1) := by decide +kernel
theorem dJ0_charAt_5068e_1 : decode cJ0_charAt_5068e 1 = .ok (.invokevirtual 492, 3) := by decide +kernel
theorem dJ0_charAt_5068e_4 : decode cJ0_charAt_5068e 4 = .ok (.ifCond .eq 12, 3) := by decide +kernel
theorem dJ0_charAt_5068e_7 : decode cJ0_charAt_5068e 7 = .ok (.aload_n 0, 1) := by decide +kernel
theorem dJ0_charAt_5068e_8 : decode cJ0_charAt_5068e 8 = .ok (.getfield 9, 3) := by decide +kernel
theorem dJ0_charAt_5068e_11 : decode cJ0_charAt_5068e 11 = .ok (.iload_n 1, 1) := by decide +kernel
theorem dJ0_charAt_5068e_12 : decode cJ0_charAt_5068e 12 = .ok (.invokestatic 495, 3) := by decide +kernel
theorem dJ0_charAt_5068e_15 : decode cJ0_charAt_5068e 15 = .ok (.ireturn, 1) := by decide +kernel
theorem dJ0_charAt_5068e_16 : decode cJ0_charAt_5068e 16 = .ok (.aload_n 0, 1) := by decide +kernel
theorem dJ0_charAt_5068e_17 : decode cJ0_charAt_5068e 17 = .ok (.getfield 9, 3) := by decide +kernel
theorem dJ0_charAt_5068e_20 : decode cJ0_charAt_5068e 20 = .ok (.iload_n 1, 1) := by decide +kernel
theorem dJ0_charAt_5068e_21 : decode cJ0_charAt_5068e 21 = .ok (.invokestatic 498, 3) := by decide +kernel
theorem dJ0_charAt_5068e_24 : decode cJ0_charAt_5068e 24 = .ok (.ireturn, 1) := by decide +kernel
set_option maxRecDepth 20000 in
theorem vJ0_charAt_5068e {g : zG} {d : Nat} {Q : Int32 → zM → Prop} {M : zM} {q : Nat} {sh : List zSh} {l1 : Int32} (hq : q < 23) (h : zCz sh g d mJ0_isLatin1_aae02 [.ref (4096 + q)] M (fun b1 M1 => (b1 = false → zCi sh g d mJ2_charAt_3b067 [.ref (8192 + q), .int l1] M1 (fun x1 M2 => narrow .char (.int x1) = .int x1 ∧ Q x1 M2)) ∧ (b1 = true → zCi sh g d mJ1_charAt_3b067 [.ref (8192 + q), .int l1] M1 (fun x1 M2 => narrow .char (.int x1) = .int x1 ∧ Q x1 M2)))) : zCi sh g (d + 1) mJ0_charAt_5068e [.ref (4096 + q), .int l1] M Q := by
  refine zW.enter (by decide +kernel) (Nat.le_of_ble_eq_true rfl) ?_
  change zW sh g (d + 1) mJ0_charAt_5068e (zi Q) 0 [(0, .ref (4096 + q)), (1, .int l1)] [] M
  refine z_aload_n dJ0_charAt_5068e_0 0 rfl ?_
  refine z_callT (m2 := mJ0_isLatin1_aae02) (i := q) (st := []) [] okJ0_isLatin1_aae02 lkJ0_492 hq rfl rfl rfl (Nat.le_of_ble_eq_true rfl) dJ0_charAt_5068e_1 (zgo_z h fun b1 M1 h => ?_)
  refine z_ifb_eq 16 dJ0_charAt_5068e_4 (by decide) (fun c1 => ?_) (fun c1 => ?_)
  · have h := h.1 c1
    refine z_aload_n dJ0_charAt_5068e_16 0 rfl ?_
    refine z_strval (q := q) hq (zat 1856 (by decide +kernel) rfl) dJ0_charAt_5068e_17 ?_
    refine z_iload_n dJ0_charAt_5068e_20 1 rfl ?_
    refine z_callS (m2 := mJ2_charAt_3b067) (st := []) [.ref (8192 + q), .int l1] okJ2_charAt_3b067 (Or.inl lkJ0_498) rfl rfl (Nat.le_of_ble_eq_true rfl) dJ0_charAt_5068e_21 (zgo_i h fun x1 M2 h => ?_)
    exact z_iret (st := []) rfl h.1 dJ0_charAt_5068e_24 ⟨_, rfl, h.2⟩
  · have h := h.2 c1
    refine z_aload_n dJ0_charAt_5068e_7 0 rfl ?_
    refine z_strval (q := q) hq (zat 1856 (by decide +kernel) rfl) dJ0_charAt_5068e_8 ?_
    refine z_iload_n dJ0_charAt_5068e_11 1 rfl ?_
    refine z_callS (m2 := mJ1_charAt_3b067) (st := []) [.ref (8192 + q), .int l1] okJ1_charAt_3b067 (Or.inl lkJ0_495) rfl rfl (Nat.le_of_ble_eq_true rfl) dJ0_charAt_5068e_12 (zgo_i h fun x1 M2 h => ?_)
    exact z_iret (st := []) rfl h.1 dJ0_charAt_5068e_15 ⟨_, rfl, h.2⟩
theorem dJ0_checkIndex_df160_0 : decode cJ0_checkIndex_df160 0 = .ok (.iload_n 0, 1) := by decide +kernel
theorem dJ0_checkIndex_df160_1 : decode cJ0_checkIndex_df160 1 = .ok (.iload_n 1, 1) := by decide +kernel
theorem dJ0_checkIndex_df160_2 : decode cJ0_checkIndex_df160 2 = .ok (.getstatic 1053, 3) := by decide +kernel
theorem dJ0_checkIndex_df160_5 : decode cJ0_checkIndex_df160 5 = .ok (.invokestatic 1059, 3) := by decide +kernel
theorem dJ0_checkIndex_df160_8 : decode cJ0_checkIndex_df160 8 = .ok (.pop, 1) := by decide +kernel
theorem dJ0_checkIndex_df160_9 : decode cJ0_checkIndex_df160 9 = .ok (.return_, 1) := by decide +kernel
theorem dJ3_checkIndex_8e157_0 : decode cJ3_checkIndex_8e157 0 = .ok (.iload_n 0, 1) := by decide +kernel
theorem dJ3_checkIndex_8e157_1 : decode cJ3_checkIndex_8e157 1 = .ok (.ifCond .lt 8, 3) := by decide +kernel
theorem dJ3_checkIndex_8e157_4 : decode cJ3_checkIndex_8e157 4 = .ok (.iload_n 0, 1) := by decide +kernel
theorem dJ3_checkIndex_8e157_5 : decode cJ3_checkIndex_8e157 5 = .ok (.iload_n 1, 1) := by decide +kernel
theorem dJ3_checkIndex_8e157_6 : decode cJ3_checkIndex_8e157 6 = .ok (.if_icmp .lt 10, 3) := by decide +kernel
theorem dJ3_checkIndex_8e157_9 : decode cJ3_checkIndex_8e157 9 = .ok (.aload_n 2, 1) := by decide +kernel
theorem dJ3_checkIndex_8e157_10 : decode cJ3_checkIndex_8e157 10 = .ok (.iload_n 0, 1) := by decide +kernel
theorem dJ3_checkIndex_8e157_11 : decode cJ3_checkIndex_8e157 11 = .ok (.iload_n 1, 1) := by decide +kernel
theorem dJ3_checkIndex_8e157_12 : decode cJ3_checkIndex_8e157 12 = .ok (.invokestatic 95, 3) := by decide +kernel
theorem dJ3_checkIndex_8e157_15 : decode cJ3_checkIndex_8e157 15 = .ok (.athrow, 1) := by decide +kernel
theorem dJ3_checkIndex_8e157_16 : decode cJ3_checkIndex_8e157 16 = .ok (.iload_n 0, 1) := by decide +kernel
theorem dJ3_checkIndex_8e157_17 : decode cJ3_checkIndex_8e157 17 = .ok (.ireturn, 1) := by decide +kernel
theorem dJ7_fill_53178_0 : decode cJ7_fill_53178 0 = .ok (.iconst 0, 1) := by decide +kernel
theorem dJ7_fill_53178_1 : decode cJ7_fill_53178 1 = .ok (.istore_n 2, 1) := by decide +kernel
theorem dJ7_fill_53178_2 : decode cJ7_fill_53178 2 = .ok (.aload_n 0, 1) := by decide +kernel
theorem dJ7_fill_53178_3 : decode cJ7_fill_53178 3 = .ok (.arraylength, 1) := by decide +kernel
theorem dJ7_fill_53178_4 : decode cJ7_fill_53178 4 = .ok (.istore_n 3, 1) := by decide +kernel
theorem dJ7_fill_53178_5 : decode cJ7_fill_53178 5 = .ok (.iload_n 2, 1) := by decide +kernel
theorem dJ7_fill_53178_6 : decode cJ7_fill_53178 6 = .ok (.iload_n 3, 1) := by decide +kernel
theorem dJ7_fill_53178_7 : decode cJ7_fill_53178 7 = .ok (.if_icmp .ge 13, 3) := by decide +kernel
theorem dJ7_fill_53178_10 : decode cJ7_fill_53178 10 = .ok (.aload_n 0, 1) := by decide +kernel
theorem dJ7_fill_53178_11 : decode cJ7_fill_53178 11 = .ok (.iload_n 2, 1) := by decide +kernel
theorem dJ7_fill_53178_12 : decode cJ7_fill_53178 12 = .ok (.iload_n 1, 1) := by decide +kernel
theorem dJ7_fill_53178_13 : decode cJ7_fill_53178 13 = .ok (.iastore, 1) := by decide +kernel
theorem dJ7_fill_53178_14 : decode cJ7_fill_53178 14 = .ok (.iinc 2 1, 3) := by decide +kernel
theorem dJ7_fill_53178_17 : decode cJ7_fill_53178 17 = .ok (.goto (-12), 3) := by decide +kernel
theorem dJ7_fill_53178_20 : decode cJ7_fill_53178 20 = .ok (.return_, 1) := by decide +kernel
