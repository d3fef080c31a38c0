/-! THE WALKS, by program: 13.world -/
theorem dX2_clear_0 : decode cX2_clear 0 = .ok (.aload_n 0, 1) := by decide +kernel
theorem dX2_clear_1 : decode cX2_clear 1 = .ok (.getfield 9, 3) := by decide +kernel
theorem dX2_clear_4 : decode cX2_clear 4 = .ok (.iconst 0, 1) := by decide +kernel
theorem dX2_clear_5 : decode cX2_clear 5 = .ok (.invokestatic 37, 3) := by decide +kernel
theorem dX2_clear_8 : decode cX2_clear 8 = .ok (.aload_n 0, 1) := by decide +kernel
theorem dX2_clear_9 : decode cX2_clear 9 = .ok (.getfield 15, 3) := by decide +kernel
theorem dX2_clear_12 : decode cX2_clear 12 = .ok (.iconst (-1), 1) := by decide +kernel
theorem dX2_clear_13 : decode cX2_clear 13 = .ok (.invokestatic 37, 3) := by decide +kernel
theorem dX2_clear_16 : decode cX2_clear 16 = .ok (.aload_n 0, 1) := by decide +kernel
theorem dX2_clear_17 : decode cX2_clear 17 = .ok (.iconst 0, 1) := by decide +kernel
theorem dX2_clear_18 : decode cX2_clear 18 = .ok (.putfield 27, 3) := by decide +kernel
theorem dX2_clear_21 : decode cX2_clear 21 = .ok (.aload_n 0, 1) := by decide +kernel
theorem dX2_clear_22 : decode cX2_clear 22 = .ok (.iconst 0, 1) := by decide +kernel
theorem dX2_clear_23 : decode cX2_clear 23 = .ok (.putfield 34, 3) := by decide +kernel
theorem dX2_clear_26 : decode cX2_clear 26 = .ok (.return_, 1) := by decide +kernel
set_option maxRecDepth 20000 in
theorem vX2_clear {g : zG} {d : Nat} {Q : zM → Prop} {M : zM} (h : zCv shC g d mJ7_fill_53178 [.ref 4, .int 0] M (fun  M1 => zCv shC g d mJ7_fill_53178 [.ref 5, .int (-1)] M1 (fun  M2 => Q (zup (zup M2 3 5 0) 3 7 0)))) : zCv shC g (d + 1) mX2_clear [.ref 3] M Q := by
  refine zW.enter (by decide +kernel) (Nat.le_of_ble_eq_true rfl) ?_
  change zW shC g (d + 1) mX2_clear (zv Q) 0 [(0, .ref 3)] [] M
  refine z_aload_n dX2_clear_0 0 rfl ?_
  refine z_getr shC_3 rfl flX2_9 dX2_clear_1 ?_
  refine z_iconst (v := 0) dX2_clear_4 (by decide) ?_
  refine z_callS (m2 := mJ7_fill_53178) (st := []) [.ref 4, .int 0] okJ7_fill_53178 (Or.inl lkX2_37) rfl rfl (Nat.le_of_ble_eq_true rfl) dX2_clear_5 (zgo_v h fun  M1 h => ?_)
  refine z_aload_n dX2_clear_8 0 rfl ?_
  refine z_getr shC_3 rfl flX2_15 dX2_clear_9 ?_
  refine z_iconst (v := (-1)) dX2_clear_12 (by decide) ?_
  refine z_callS (m2 := mJ7_fill_53178) (st := []) [.ref 5, .int (-1)] okJ7_fill_53178 (Or.inl lkX2_37) rfl rfl (Nat.le_of_ble_eq_true rfl) dX2_clear_13 (zgo_v h fun  M2 h => ?_)
  refine z_aload_n dX2_clear_16 0 rfl ?_
  refine z_iconst (v := 0) dX2_clear_17 (by decide) ?_
  refine z_puti shC_3 rfl fpX2_27 rfl rfl dX2_clear_18 ?_
  refine z_aload_n dX2_clear_21 0 rfl ?_
  refine z_iconst (v := 0) dX2_clear_22 (by decide) ?_
  refine z_puti shC_3 rfl fpX2_34 rfl rfl dX2_clear_23 ?_
  exact z_vret (st := []) rfl dX2_clear_26 ⟨rfl, h⟩
theorem dX2_copy_0 : decode cX2_copy 0 = .ok (.aload_n 1, 1) := by decide +kernel
theorem dX2_copy_1 : decode cX2_copy 1 = .ok (.getfield 9, 3) := by decide +kernel
theorem dX2_copy_4 : decode cX2_copy 4 = .ok (.iconst 0, 1) := by decide +kernel
theorem dX2_copy_5 : decode cX2_copy 5 = .ok (.aload_n 0, 1) := by decide +kernel
theorem dX2_copy_6 : decode cX2_copy 6 = .ok (.getfield 9, 3) := by decide +kernel
theorem dX2_copy_9 : decode cX2_copy 9 = .ok (.iconst 0, 1) := by decide +kernel
theorem dX2_copy_10 : decode cX2_copy 10 = .ok (.bipush 64, 2) := by decide +kernel
theorem dX2_copy_12 : decode cX2_copy 12 = .ok (.invokestatic 43, 3) := by decide +kernel
theorem dX2_copy_15 : decode cX2_copy 15 = .ok (.aload_n 1, 1) := by decide +kernel
theorem dX2_copy_16 : decode cX2_copy 16 = .ok (.getfield 15, 3) := by decide +kernel
theorem dX2_copy_19 : decode cX2_copy 19 = .ok (.iconst 0, 1) := by decide +kernel
theorem dX2_copy_20 : decode cX2_copy 20 = .ok (.aload_n 0, 1) := by decide +kernel
theorem dX2_copy_21 : decode cX2_copy 21 = .ok (.getfield 15, 3) := by decide +kernel
theorem dX2_copy_24 : decode cX2_copy 24 = .ok (.iconst 0, 1) := by decide +kernel
theorem dX2_copy_25 : decode cX2_copy 25 = .ok (.bipush 64, 2) := by decide +kernel
theorem dX2_copy_27 : decode cX2_copy 27 = .ok (.invokestatic 43, 3) := by decide +kernel
theorem dX2_copy_30 : decode cX2_copy 30 = .ok (.aload_n 1, 1) := by decide +kernel
theorem dX2_copy_31 : decode cX2_copy 31 = .ok (.getfield 18, 3) := by decide +kernel
theorem dX2_copy_34 : decode cX2_copy 34 = .ok (.iconst 0, 1) := by decide +kernel
theorem dX2_copy_35 : decode cX2_copy 35 = .ok (.aload_n 0, 1) := by decide +kernel
theorem dX2_copy_36 : decode cX2_copy 36 = .ok (.getfield 18, 3) := by decide +kernel
theorem dX2_copy_39 : decode cX2_copy 39 = .ok (.iconst 0, 1) := by decide +kernel
theorem dX2_copy_40 : decode cX2_copy 40 = .ok (.bipush 6, 2) := by decide +kernel
theorem dX2_copy_42 : decode cX2_copy 42 = .ok (.invokestatic 43, 3) := by decide +kernel
theorem dX2_copy_45 : decode cX2_copy 45 = .ok (.aload_n 1, 1) := by decide +kernel
theorem dX2_copy_46 : decode cX2_copy 46 = .ok (.getfield 21, 3) := by decide +kernel
theorem dX2_copy_49 : decode cX2_copy 49 = .ok (.iconst 0, 1) := by decide +kernel
theorem dX2_copy_50 : decode cX2_copy 50 = .ok (.aload_n 0, 1) := by decide +kernel
theorem dX2_copy_51 : decode cX2_copy 51 = .ok (.getfield 21, 3) := by decide +kernel
theorem dX2_copy_54 : decode cX2_copy 54 = .ok (.iconst 0, 1) := by decide +kernel
theorem dX2_copy_55 : decode cX2_copy 55 = .ok (.bipush 6, 2) := by decide +kernel
theorem dX2_copy_57 : decode cX2_copy 57 = .ok (.invokestatic 43, 3) := by decide +kernel
theorem dX2_copy_60 : decode cX2_copy 60 = .ok (.aload_n 1, 1) := by decide +kernel
theorem dX2_copy_61 : decode cX2_copy 61 = .ok (.getfield 24, 3) := by decide +kernel
theorem dX2_copy_64 : decode cX2_copy 64 = .ok (.iconst 0, 1) := by decide +kernel
theorem dX2_copy_65 : decode cX2_copy 65 = .ok (.aload_n 0, 1) := by decide +kernel
theorem dX2_copy_66 : decode cX2_copy 66 = .ok (.getfield 24, 3) := by decide +kernel
theorem dX2_copy_69 : decode cX2_copy 69 = .ok (.iconst 0, 1) := by decide +kernel
theorem dX2_copy_70 : decode cX2_copy 70 = .ok (.bipush 6, 2) := by decide +kernel
theorem dX2_copy_72 : decode cX2_copy 72 = .ok (.invokestatic 43, 3) := by decide +kernel
theorem dX2_copy_75 : decode cX2_copy 75 = .ok (.aload_n 0, 1) := by decide +kernel
theorem dX2_copy_76 : decode cX2_copy 76 = .ok (.aload_n 1, 1) := by decide +kernel
theorem dX2_copy_77 : decode cX2_copy 77 = .ok (.getfield 27, 3) := by decide +kernel
theorem dX2_copy_80 : decode cX2_copy 80 = .ok (.putfield 27, 3) := by decide +kernel
theorem dX2_copy_83 : decode cX2_copy 83 = .ok (.aload_n 0, 1) := by decide +kernel
theorem dX2_copy_84 : decode cX2_copy 84 = .ok (.aload_n 1, 1) := by decide +kernel
theorem dX2_copy_85 : decode cX2_copy 85 = .ok (.getfield 31, 3) := by decide +kernel
theorem dX2_copy_88 : decode cX2_copy 88 = .ok (.putfield 31, 3) := by decide +kernel
theorem dX2_copy_91 : decode cX2_copy 91 = .ok (.aload_n 0, 1) := by decide +kernel
theorem dX2_copy_92 : decode cX2_copy 92 = .ok (.aload_n 1, 1) := by decide +kernel
theorem dX2_copy_93 : decode cX2_copy 93 = .ok (.getfield 34, 3) := by decide +kernel
theorem dX2_copy_96 : decode cX2_copy 96 = .ok (.putfield 34, 3) := by decide +kernel
theorem dX2_copy_99 : decode cX2_copy 99 = .ok (.return_, 1) := by decide +kernel
set_option maxRecDepth 20000 in
theorem vX2_copy {g : zG} {d : Nat} {Q : zM → Prop} {M : zM} {o : Nat} {m : Nat} (ho : zMo shC o) (hm : zMo shC m) (h : ∀ N1 : zM, N1 = zup (zcpy (zcpy (zcpy (zcpy (zcpy M (m + 1) (o + 1) 64) (m + 2) (o + 2) 64) (m + 3) (o + 3) 6) (m + 4) (o + 4) 6) (m + 5) (o + 5) 6) o 5 ((zcpy (zcpy (zcpy (zcpy (zcpy M (m + 1) (o + 1) 64) (m + 2) (o + 2) 64) (m + 3) (o + 3) 6) (m + 4) (o + 4) 6) (m + 5) (o + 5) 6) m 5) → Q (zup (zup N1 o 6 (N1 m 6)) o 7 ((zup N1 o 6 (N1 m 6)) m 7))) : zCv shC g (d + 1) mX2_copy [.ref o, .ref m] M Q := by
  refine zW.enter (by decide +kernel) (Nat.le_of_ble_eq_true rfl) ?_
  change zW shC g (d + 1) mX2_copy (zv Q) 0 [(0, .ref o), (1, .ref m)] [] M
  refine z_aload_n dX2_copy_0 1 rfl ?_
  refine z_getr hm.1 rfl flX2_9 dX2_copy_1 ?_
  refine z_iconst (v := 0) dX2_copy_4 (by decide) ?_
  refine z_aload_n dX2_copy_5 0 rfl ?_
  refine z_getr ho.1 rfl flX2_9 dX2_copy_6 ?_
  refine z_iconst (v := 0) dX2_copy_9 (by decide) ?_
  refine z_bipush (v := 64) dX2_copy_10 (by decide) ?_
  refine z_cpy (k0 := 64) hm.2.1 ho.2.1 (zat 803 (by decide +kernel) rfl) (by decide) (by decide) (by decide) (by decide) (by decide) (Nat.le_of_ble_eq_true rfl) dX2_copy_12 ?_
  refine z_aload_n dX2_copy_15 1 rfl ?_
  refine z_getr hm.1 rfl flX2_15 dX2_copy_16 ?_
  refine z_iconst (v := 0) dX2_copy_19 (by decide) ?_
  refine z_aload_n dX2_copy_20 0 rfl ?_
  refine z_getr ho.1 rfl flX2_15 dX2_copy_21 ?_
  refine z_iconst (v := 0) dX2_copy_24 (by decide) ?_
  refine z_bipush (v := 64) dX2_copy_25 (by decide) ?_
  refine z_cpy (k0 := 64) hm.2.2.1 ho.2.2.1 (zat 803 (by decide +kernel) rfl) (by decide) (by decide) (by decide) (by decide) (by decide) (Nat.le_of_ble_eq_true rfl) dX2_copy_27 ?_
  refine z_aload_n dX2_copy_30 1 rfl ?_
  refine z_getr hm.1 rfl flX2_18 dX2_copy_31 ?_
  refine z_iconst (v := 0) dX2_copy_34 (by decide) ?_
  refine z_aload_n dX2_copy_35 0 rfl ?_
  refine z_getr ho.1 rfl flX2_18 dX2_copy_36 ?_
  refine z_iconst (v := 0) dX2_copy_39 (by decide) ?_
  refine z_bipush (v := 6) dX2_copy_40 (by decide) ?_
  refine z_cpy (k0 := 6) hm.2.2.2.1 ho.2.2.2.1 (zat 803 (by decide +kernel) rfl) (by decide) (by decide) (by decide) (by decide) (by decide) (Nat.le_of_ble_eq_true rfl) dX2_copy_42 ?_
  refine z_aload_n dX2_copy_45 1 rfl ?_
  refine z_getr hm.1 rfl flX2_21 dX2_copy_46 ?_
  refine z_iconst (v := 0) dX2_copy_49 (by decide) ?_
  refine z_aload_n dX2_copy_50 0 rfl ?_
  refine z_getr ho.1 rfl flX2_21 dX2_copy_51 ?_
  refine z_iconst (v := 0) dX2_copy_54 (by decide) ?_
  refine z_bipush (v := 6) dX2_copy_55 (by decide) ?_
  refine z_cpy (k0 := 6) hm.2.2.2.2.1 ho.2.2.2.2.1 (zat 803 (by decide +kernel) rfl) (by decide) (by decide) (by decide) (by decide) (by decide) (Nat.le_of_ble_eq_true rfl) dX2_copy_57 ?_
  refine z_aload_n dX2_copy_60 1 rfl ?_
  refine z_getr hm.1 rfl flX2_24 dX2_copy_61 ?_
  refine z_iconst (v := 0) dX2_copy_64 (by decide) ?_
  refine z_aload_n dX2_copy_65 0 rfl ?_
  refine z_getr ho.1 rfl flX2_24 dX2_copy_66 ?_
  refine z_iconst (v := 0) dX2_copy_69 (by decide) ?_
  refine z_bipush (v := 6) dX2_copy_70 (by decide) ?_
  refine z_cpy (k0 := 6) hm.2.2.2.2.2 ho.2.2.2.2.2 (zat 803 (by decide +kernel) rfl) (by decide) (by decide) (by decide) (by decide) (by decide) (Nat.le_of_ble_eq_true rfl) dX2_copy_72 ?_
  refine z_aload_n dX2_copy_75 0 rfl ?_
  refine z_aload_n dX2_copy_76 1 rfl ?_
  refine z_geti hm.1 rfl flX2_27 dX2_copy_77 ?_
  refine z_puti ho.1 rfl fpX2_27 rfl rfl dX2_copy_80 ?_
  obtain ⟨N1, eN1⟩ : ∃ y : zM, y = zup (zcpy (zcpy (zcpy (zcpy (zcpy M (m + 1) (o + 1) 64) (m + 2) (o + 2) 64) (m + 3) (o + 3) 6) (m + 4) (o + 4) 6) (m + 5) (o + 5) 6) o 5 ((zcpy (zcpy (zcpy (zcpy (zcpy M (m + 1) (o + 1) 64) (m + 2) (o + 2) 64) (m + 3) (o + 3) 6) (m + 4) (o + 4) 6) (m + 5) (o + 5) 6) m 5) := ⟨_, rfl⟩
  refine z_mem N1 eN1 ?_
  have h := h N1 eN1
  refine z_aload_n dX2_copy_83 0 rfl ?_
  refine z_aload_n dX2_copy_84 1 rfl ?_
  refine z_geti hm.1 rfl flX2_31 dX2_copy_85 ?_
  refine z_puti ho.1 rfl fpX2_31 rfl rfl dX2_copy_88 ?_
  refine z_aload_n dX2_copy_91 0 rfl ?_
  refine z_aload_n dX2_copy_92 1 rfl ?_
  refine z_geti hm.1 rfl flX2_34 dX2_copy_93 ?_
  refine z_puti ho.1 rfl fpX2_34 rfl rfl dX2_copy_96 ?_
  exact z_vret (st := []) rfl dX2_copy_99 ⟨rfl, h⟩
theorem dX2_drawOf1000_0 : decode cX2_drawOf1000 0 = .ok (.aload_n 0, 1) := by decide +kernel
theorem dX2_drawOf1000_1 : decode cX2_drawOf1000 1 = .ok (.aload_n 0, 1) := by decide +kernel
theorem dX2_drawOf1000_2 : decode cX2_drawOf1000 2 = .ok (.getfield 31, 3) := by decide +kernel
theorem dX2_drawOf1000_5 : decode cX2_drawOf1000 5 = .ok (.ldc 49, 2) := by decide +kernel
theorem dX2_drawOf1000_7 : decode cX2_drawOf1000 7 = .ok (.imul, 1) := by decide +kernel
theorem dX2_drawOf1000_8 : decode cX2_drawOf1000 8 = .ok (.ldc 50, 2) := by decide +kernel
theorem dX2_drawOf1000_10 : decode cX2_drawOf1000 10 = .ok (.iadd, 1) := by decide +kernel
theorem dX2_drawOf1000_11 : decode cX2_drawOf1000 11 = .ok (.putfield 31, 3) := by decide +kernel
theorem dX2_drawOf1000_14 : decode cX2_drawOf1000 14 = .ok (.aload_n 0, 1) := by decide +kernel
theorem dX2_drawOf1000_15 : decode cX2_drawOf1000 15 = .ok (.getfield 31, 3) := by decide +kernel
theorem dX2_drawOf1000_18 : decode cX2_drawOf1000 18 = .ok (.bipush 8, 2) := by decide +kernel
theorem dX2_drawOf1000_20 : decode cX2_drawOf1000 20 = .ok (.iushr, 1) := by decide +kernel
theorem dX2_drawOf1000_21 : decode cX2_drawOf1000 21 = .ok (.sipush 1000, 3) := by decide +kernel
theorem dX2_drawOf1000_24 : decode cX2_drawOf1000 24 = .ok (.irem, 1) := by decide +kernel
theorem dX2_drawOf1000_25 : decode cX2_drawOf1000 25 = .ok (.ireturn, 1) := by decide +kernel
set_option maxRecDepth 20000 in
theorem vX2_drawOf1000 {g : zG} {d : Nat} {Q : Int32 → zM → Prop} {M : zM} (h : ∀ v1 : Int32, v1 = (((((zup M 3 6 (((M 3 6) * 1664525) + 1013904223)) 3 6)).toUInt32 >>> ((8 : Int32).toUInt32 &&& Int32.toUInt32 31)).toInt32) → Q (v1 - v1 / 1000 * 1000) (zup M 3 6 (((M 3 6) * 1664525) + 1013904223))) : zCi shC g d mX2_drawOf1000 [.ref 3] M Q := by
  refine zW.enter (by decide +kernel) (Nat.le_of_ble_eq_true rfl) ?_
  change zW shC g d mX2_drawOf1000 (zi Q) 0 [(0, .ref 3)] [] M
  refine z_aload_n dX2_drawOf1000_0 0 rfl ?_
  refine z_aload_n dX2_drawOf1000_1 0 rfl ?_
  refine z_geti shC_3 rfl flX2_31 dX2_drawOf1000_2 ?_
  refine z_ldc dX2_drawOf1000_5 kcX2_49 ?_
  refine z_imul dX2_drawOf1000_7 ?_
  refine z_ldc dX2_drawOf1000_8 kcX2_50 ?_
  refine z_iadd dX2_drawOf1000_10 ?_
  refine z_puti shC_3 rfl fpX2_31 rfl rfl dX2_drawOf1000_11 ?_
  refine z_aload_n dX2_drawOf1000_14 0 rfl ?_
  refine z_geti shC_3 rfl flX2_31 dX2_drawOf1000_15 ?_
  refine z_bipush (v := 8) dX2_drawOf1000_18 (by decide) ?_
  refine z_iushr dX2_drawOf1000_20 ?_
  obtain ⟨v1, ev1⟩ : ∃ y : Int32, y = (((((zup M 3 6 (((M 3 6) * 1664525) + 1013904223)) 3 6)).toUInt32 >>> ((8 : Int32).toUInt32 &&& Int32.toUInt32 31)).toInt32) := ⟨_, rfl⟩
  refine z_topi v1 ev1 ?_
  have h := h v1 ev1
  refine z_sipush (v := 1000) dX2_drawOf1000_21 (by decide) ?_
  refine z_irem dX2_drawOf1000_24 (by decide) ?_
  exact z_iret (st := []) rfl rfl dX2_drawOf1000_25 ⟨_, rfl, h⟩
theorem dX7_restart_0 : decode cX7_restart 0 = .ok (.aload_n 0, 1) := by decide +kernel
theorem dX7_restart_1 : decode cX7_restart 1 = .ok (.iload_n 1, 1) := by decide +kernel
theorem dX7_restart_2 : decode cX7_restart 2 = .ok (.putfield 9, 3) := by decide +kernel
theorem dX7_restart_5 : decode cX7_restart 5 = .ok (.aload_n 0, 1) := by decide +kernel
theorem dX7_restart_6 : decode cX7_restart 6 = .ok (.iload_n 2, 1) := by decide +kernel
theorem dX7_restart_7 : decode cX7_restart 7 = .ok (.putfield 15, 3) := by decide +kernel
theorem dX7_restart_10 : decode cX7_restart 10 = .ok (.aload_n 0, 1) := by decide +kernel
theorem dX7_restart_11 : decode cX7_restart 11 = .ok (.iconst 1, 1) := by decide +kernel
theorem dX7_restart_12 : decode cX7_restart 12 = .ok (.putfield 18, 3) := by decide +kernel
theorem dX7_restart_15 : decode cX7_restart 15 = .ok (.aload_n 0, 1) := by decide +kernel
theorem dX7_restart_16 : decode cX7_restart 16 = .ok (.iconst 0, 1) := by decide +kernel
theorem dX7_restart_17 : decode cX7_restart 17 = .ok (.putfield 21, 3) := by decide +kernel
theorem dX7_restart_20 : decode cX7_restart 20 = .ok (.aload_n 0, 1) := by decide +kernel
theorem dX7_restart_21 : decode cX7_restart 21 = .ok (.iconst 0, 1) := by decide +kernel
theorem dX7_restart_22 : decode cX7_restart 22 = .ok (.putfield 24, 3) := by decide +kernel
theorem dX7_restart_25 : decode cX7_restart 25 = .ok (.aload_n 0, 1) := by decide +kernel
theorem dX7_restart_26 : decode cX7_restart 26 = .ok (.getfield 34, 3) := by decide +kernel
theorem dX7_restart_29 : decode cX7_restart 29 = .ok (.invokevirtual 68, 3) := by decide +kernel
theorem dX7_restart_32 : decode cX7_restart 32 = .ok (.aload_n 0, 1) := by decide +kernel
theorem dX7_restart_33 : decode cX7_restart 33 = .ok (.getfield 44, 3) := by decide +kernel
theorem dX7_restart_36 : decode cX7_restart 36 = .ok (.invokevirtual 71, 3) := by decide +kernel
theorem dX7_restart_39 : decode cX7_restart 39 = .ok (.aload_n 0, 1) := by decide +kernel
theorem dX7_restart_40 : decode cX7_restart 40 = .ok (.getfield 51, 3) := by decide +kernel
theorem dX7_restart_43 : decode cX7_restart 43 = .ok (.invokevirtual 72, 3) := by decide +kernel
theorem dX7_restart_46 : decode cX7_restart 46 = .ok (.aload_n 0, 1) := by decide +kernel
theorem dX7_restart_47 : decode cX7_restart 47 = .ok (.getfield 58, 3) := by decide +kernel
theorem dX7_restart_50 : decode cX7_restart 50 = .ok (.invokevirtual 73, 3) := by decide +kernel
theorem dX7_restart_53 : decode cX7_restart 53 = .ok (.return_, 1) := by decide +kernel
set_option maxRecDepth 20000 in
theorem vX7_restart {g : zG} {d : Nat} {Q : zM → Prop} {M : zM} {l1 : Int32} {l2 : Int32} (h : zCv shC g d mX2_clear [.ref 3] (zup (zup (zup (zup (zup M 1 0 l1) 1 1 l2) 1 2 1) 1 3 0) 1 4 0) (fun  M1 => zCv shC g d mX6_clear [.ref 10] M1 (fun  M2 => zCv shC g d mX1_clear [.ref 15] M2 (fun  M3 => zCv shC g d mX3_clear [.ref 22] M3 (fun  M4 => Q M4))))) : zCv shC g (d + 1) mX7_restart [.ref 1, .int l1, .int l2] M Q := by
  refine zW.enter (by decide +kernel) (Nat.le_of_ble_eq_true rfl) ?_
  change zW shC g (d + 1) mX7_restart (zv Q) 0 [(0, .ref 1), (1, .int l1), (2, .int l2)] [] M
  refine z_aload_n dX7_restart_0 0 rfl ?_
  refine z_iload_n dX7_restart_1 1 rfl ?_
  refine z_puti shC_1 rfl fpX7_9 rfl rfl dX7_restart_2 ?_
  refine z_aload_n dX7_restart_5 0 rfl ?_
  refine z_iload_n dX7_restart_6 2 rfl ?_
  refine z_puti shC_1 rfl fpX7_15 rfl rfl dX7_restart_7 ?_
  refine z_aload_n dX7_restart_10 0 rfl ?_
  refine z_iconst (v := 1) dX7_restart_11 (by decide) ?_
  refine z_puti shC_1 rfl fpX7_18 rfl rfl dX7_restart_12 ?_
  refine z_aload_n dX7_restart_15 0 rfl ?_
  refine z_iconst (v := 0) dX7_restart_16 (by decide) ?_
  refine z_puti shC_1 rfl fpX7_21 rfl rfl dX7_restart_17 ?_
  refine z_aload_n dX7_restart_20 0 rfl ?_
  refine z_iconst (v := 0) dX7_restart_21 (by decide) ?_
  refine z_puti shC_1 rfl fpX7_24 rfl rfl dX7_restart_22 ?_
  refine z_aload_n dX7_restart_25 0 rfl ?_
  refine z_getr shC_1 rfl flX7_34 dX7_restart_26 ?_
  refine z_callV (m2 := mX2_clear) (st := []) [] okX2_clear (Or.inl lkX7_68) shC_3 rfl rfl rfl (Nat.le_of_ble_eq_true rfl) dX7_restart_29 (zgo_v h fun  M1 h => ?_)
  refine z_aload_n dX7_restart_32 0 rfl ?_
  refine z_getr shC_1 rfl flX7_44 dX7_restart_33 ?_
  refine z_callV (m2 := mX6_clear) (st := []) [] okX6_clear (Or.inl lkX7_71) shC_10 rfl rfl rfl (Nat.le_of_ble_eq_true rfl) dX7_restart_36 (zgo_v h fun  M2 h => ?_)
  refine z_aload_n dX7_restart_39 0 rfl ?_
  refine z_getr shC_1 rfl flX7_51 dX7_restart_40 ?_
  refine z_callV (m2 := mX1_clear) (st := []) [] okX1_clear (Or.inl lkX7_72) shC_15 rfl rfl rfl (Nat.le_of_ble_eq_true rfl) dX7_restart_43 (zgo_v h fun  M3 h => ?_)
  refine z_aload_n dX7_restart_46 0 rfl ?_
  refine z_getr shC_1 rfl flX7_58 dX7_restart_47 ?_
  refine z_callV (m2 := mX3_clear) (st := []) [] okX3_clear (Or.inl lkX7_73) shC_22 rfl rfl rfl (Nat.le_of_ble_eq_true rfl) dX7_restart_50 (zgo_v h fun  M4 h => ?_)
  exact z_vret (st := []) rfl dX7_restart_53 ⟨rfl, h⟩
theorem dX7_copy_0 : decode cX7_copy 0 = .ok (.aload_n 0, 1) := by decide +kernel
theorem dX7_copy_1 : decode cX7_copy 1 = .ok (.aload_n 1, 1) := by decide +kernel
theorem dX7_copy_2 : decode cX7_copy 2 = .ok (.getfield 9, 3) := by decide +kernel
theorem dX7_copy_5 : decode cX7_copy 5 = .ok (.putfield 9, 3) := by decide +kernel
theorem dX7_copy_8 : decode cX7_copy 8 = .ok (.aload_n 0, 1) := by decide +kernel
theorem dX7_copy_9 : decode cX7_copy 9 = .ok (.aload_n 1, 1) := by decide +kernel
theorem dX7_copy_10 : decode cX7_copy 10 = .ok (.getfield 15, 3) := by decide +kernel
theorem dX7_copy_13 : decode cX7_copy 13 = .ok (.putfield 15, 3) := by decide +kernel
theorem dX7_copy_16 : decode cX7_copy 16 = .ok (.aload_n 0, 1) := by decide +kernel
theorem dX7_copy_17 : decode cX7_copy 17 = .ok (.aload_n 1, 1) := by decide +kernel
theorem dX7_copy_18 : decode cX7_copy 18 = .ok (.getfield 18, 3) := by decide +kernel
theorem dX7_copy_21 : decode cX7_copy 21 = .ok (.putfield 18, 3) := by decide +kernel
theorem dX7_copy_24 : decode cX7_copy 24 = .ok (.aload_n 0, 1) := by decide +kernel
theorem dX7_copy_25 : decode cX7_copy 25 = .ok (.aload_n 1, 1) := by decide +kernel
theorem dX7_copy_26 : decode cX7_copy 26 = .ok (.getfield 21, 3) := by decide +kernel
theorem dX7_copy_29 : decode cX7_copy 29 = .ok (.putfield 21, 3) := by decide +kernel
theorem dX7_copy_32 : decode cX7_copy 32 = .ok (.aload_n 0, 1) := by decide +kernel
theorem dX7_copy_33 : decode cX7_copy 33 = .ok (.aload_n 1, 1) := by decide +kernel
theorem dX7_copy_34 : decode cX7_copy 34 = .ok (.getfield 24, 3) := by decide +kernel
theorem dX7_copy_37 : decode cX7_copy 37 = .ok (.putfield 24, 3) := by decide +kernel
theorem dX7_copy_40 : decode cX7_copy 40 = .ok (.aload_n 1, 1) := by decide +kernel
theorem dX7_copy_41 : decode cX7_copy 41 = .ok (.getfield 27, 3) := by decide +kernel
theorem dX7_copy_44 : decode cX7_copy 44 = .ok (.iconst 0, 1) := by decide +kernel
theorem dX7_copy_45 : decode cX7_copy 45 = .ok (.aload_n 0, 1) := by decide +kernel
theorem dX7_copy_46 : decode cX7_copy 46 = .ok (.getfield 27, 3) := by decide +kernel
theorem dX7_copy_49 : decode cX7_copy 49 = .ok (.iconst 0, 1) := by decide +kernel
theorem dX7_copy_50 : decode cX7_copy 50 = .ok (.bipush 6, 2) := by decide +kernel
theorem dX7_copy_52 : decode cX7_copy 52 = .ok (.invokestatic 74, 3) := by decide +kernel
theorem dX7_copy_55 : decode cX7_copy 55 = .ok (.aload_n 0, 1) := by decide +kernel
theorem dX7_copy_56 : decode cX7_copy 56 = .ok (.getfield 34, 3) := by decide +kernel
theorem dX7_copy_59 : decode cX7_copy 59 = .ok (.aload_n 1, 1) := by decide +kernel
theorem dX7_copy_60 : decode cX7_copy 60 = .ok (.getfield 34, 3) := by decide +kernel
theorem dX7_copy_63 : decode cX7_copy 63 = .ok (.invokevirtual 80, 3) := by decide +kernel
theorem dX7_copy_66 : decode cX7_copy 66 = .ok (.aload_n 1, 1) := by decide +kernel
theorem dX7_copy_67 : decode cX7_copy 67 = .ok (.getfield 38, 3) := by decide +kernel
theorem dX7_copy_70 : decode cX7_copy 70 = .ok (.iconst 0, 1) := by decide +kernel
theorem dX7_copy_71 : decode cX7_copy 71 = .ok (.aload_n 0, 1) := by decide +kernel
theorem dX7_copy_72 : decode cX7_copy 72 = .ok (.getfield 38, 3) := by decide +kernel
theorem dX7_copy_75 : decode cX7_copy 75 = .ok (.iconst 0, 1) := by decide +kernel
theorem dX7_copy_76 : decode cX7_copy 76 = .ok (.sipush 150, 3) := by decide +kernel
theorem dX7_copy_79 : decode cX7_copy 79 = .ok (.invokestatic 74, 3) := by decide +kernel
theorem dX7_copy_82 : decode cX7_copy 82 = .ok (.aload_n 0, 1) := by decide +kernel
theorem dX7_copy_83 : decode cX7_copy 83 = .ok (.getfield 44, 3) := by decide +kernel
theorem dX7_copy_86 : decode cX7_copy 86 = .ok (.aload_n 1, 1) := by decide +kernel
theorem dX7_copy_87 : decode cX7_copy 87 = .ok (.getfield 44, 3) := by decide +kernel
theorem dX7_copy_90 : decode cX7_copy 90 = .ok (.invokevirtual 84, 3) := by decide +kernel
theorem dX7_copy_93 : decode cX7_copy 93 = .ok (.aload_n 0, 1) := by decide +kernel
theorem dX7_copy_94 : decode cX7_copy 94 = .ok (.getfield 51, 3) := by decide +kernel
theorem dX7_copy_97 : decode cX7_copy 97 = .ok (.aload_n 1, 1) := by decide +kernel
theorem dX7_copy_98 : decode cX7_copy 98 = .ok (.getfield 51, 3) := by decide +kernel
theorem dX7_copy_101 : decode cX7_copy 101 = .ok (.invokevirtual 87, 3) := by decide +kernel
theorem dX7_copy_104 : decode cX7_copy 104 = .ok (.aload_n 0, 1) := by decide +kernel
theorem dX7_copy_105 : decode cX7_copy 105 = .ok (.getfield 58, 3) := by decide +kernel
theorem dX7_copy_108 : decode cX7_copy 108 = .ok (.aload_n 1, 1) := by decide +kernel
theorem dX7_copy_109 : decode cX7_copy 109 = .ok (.getfield 58, 3) := by decide +kernel
theorem dX7_copy_112 : decode cX7_copy 112 = .ok (.invokevirtual 90, 3) := by decide +kernel
theorem dX7_copy_115 : decode cX7_copy 115 = .ok (.return_, 1) := by decide +kernel
set_option maxRecDepth 20000 in
theorem vX7_copy_a {g : zG} {d : Nat} {Q : zM → Prop} {M : zM} (h : ∀ N1 : zM, N1 = zup (zup (zup (zup M 28 0 (M 1 0)) 28 1 ((zup M 28 0 (M 1 0)) 1 1)) 28 2 ((zup (zup M 28 0 (M 1 0)) 28 1 ((zup M 28 0 (M 1 0)) 1 1)) 1 2)) 28 3 ((zup (zup (zup M 28 0 (M 1 0)) 28 1 ((zup M 28 0 (M 1 0)) 1 1)) 28 2 ((zup (zup M 28 0 (M 1 0)) 28 1 ((zup M 28 0 (M 1 0)) 1 1)) 1 2)) 1 3) → zCv shC g d mX2_copy [.ref 30, .ref 3] (zcpy (zup N1 28 4 (N1 1 4)) 2 29 6) (fun  M1 => zCv shC g d mX6_copy [.ref 37, .ref 10] (zcpy M1 9 36 150) (fun  M2 => zCv shC g d mX1_copy [.ref 42, .ref 15] M2 (fun  M3 => zCv shC g d mX3_copy [.ref 49, .ref 22] M3 (fun  M4 => Q M4))))) : zCv shC g (d + 1) mX7_copy [.ref 28, .ref 1] M Q := by
  refine zW.enter (by decide +kernel) (Nat.le_of_ble_eq_true rfl) ?_
  change zW shC g (d + 1) mX7_copy (zv Q) 0 [(0, .ref 28), (1, .ref 1)] [] M
  refine z_aload_n dX7_copy_0 0 rfl ?_
  refine z_aload_n dX7_copy_1 1 rfl ?_
  refine z_geti shC_1 rfl flX7_9 dX7_copy_2 ?_
  refine z_puti shC_28 rfl fpX7_9 rfl rfl dX7_copy_5 ?_
  refine z_aload_n dX7_copy_8 0 rfl ?_
  refine z_aload_n dX7_copy_9 1 rfl ?_
  refine z_geti shC_1 rfl flX7_15 dX7_copy_10 ?_
  refine z_puti shC_28 rfl fpX7_15 rfl rfl dX7_copy_13 ?_
  refine z_aload_n dX7_copy_16 0 rfl ?_
  refine z_aload_n dX7_copy_17 1 rfl ?_
  refine z_geti shC_1 rfl flX7_18 dX7_copy_18 ?_
  refine z_puti shC_28 rfl fpX7_18 rfl rfl dX7_copy_21 ?_
  refine z_aload_n dX7_copy_24 0 rfl ?_
  refine z_aload_n dX7_copy_25 1 rfl ?_
  refine z_geti shC_1 rfl flX7_21 dX7_copy_26 ?_
  refine z_puti shC_28 rfl fpX7_21 rfl rfl dX7_copy_29 ?_
  obtain ⟨N1, eN1⟩ : ∃ y : zM, y = zup (zup (zup (zup M 28 0 (M 1 0)) 28 1 ((zup M 28 0 (M 1 0)) 1 1)) 28 2 ((zup (zup M 28 0 (M 1 0)) 28 1 ((zup M 28 0 (M 1 0)) 1 1)) 1 2)) 28 3 ((zup (zup (zup M 28 0 (M 1 0)) 28 1 ((zup M 28 0 (M 1 0)) 1 1)) 28 2 ((zup (zup M 28 0 (M 1 0)) 28 1 ((zup M 28 0 (M 1 0)) 1 1)) 1 2)) 1 3) := ⟨_, rfl⟩
  refine z_mem N1 eN1 ?_
  have h := h N1 eN1
  refine z_aload_n dX7_copy_32 0 rfl ?_
  refine z_aload_n dX7_copy_33 1 rfl ?_
  refine z_geti shC_1 rfl flX7_24 dX7_copy_34 ?_
  refine z_puti shC_28 rfl fpX7_24 rfl rfl dX7_copy_37 ?_
  refine z_aload_n dX7_copy_40 1 rfl ?_
  refine z_getr shC_1 rfl flX7_27 dX7_copy_41 ?_
  refine z_iconst (v := 0) dX7_copy_44 (by decide) ?_
  refine z_aload_n dX7_copy_45 0 rfl ?_
  refine z_getr shC_28 rfl flX7_27 dX7_copy_46 ?_
  refine z_iconst (v := 0) dX7_copy_49 (by decide) ?_
  refine z_bipush (v := 6) dX7_copy_50 (by decide) ?_
  refine z_cpy (k0 := 6) shC_2 shC_29 (zat 1182 (by decide +kernel) rfl) (by decide) (by decide) (by decide) (by decide) (by decide) (Nat.le_of_ble_eq_true rfl) dX7_copy_52 ?_
  refine z_aload_n dX7_copy_55 0 rfl ?_
  refine z_getr shC_28 rfl flX7_34 dX7_copy_56 ?_
  refine z_aload_n dX7_copy_59 1 rfl ?_
  refine z_getr shC_1 rfl flX7_34 dX7_copy_60 ?_
  refine z_callV (m2 := mX2_copy) (st := []) [.ref 3] okX2_copy (Or.inl lkX7_80) shC_30 rfl rfl rfl (Nat.le_of_ble_eq_true rfl) dX7_copy_63 (zgo_v h fun  M1 h => ?_)
  refine z_aload_n dX7_copy_66 1 rfl ?_
  refine z_getr shC_1 rfl flX7_38 dX7_copy_67 ?_
  refine z_iconst (v := 0) dX7_copy_70 (by decide) ?_
  refine z_aload_n dX7_copy_71 0 rfl ?_
  refine z_getr shC_28 rfl flX7_38 dX7_copy_72 ?_
  refine z_iconst (v := 0) dX7_copy_75 (by decide) ?_
  refine z_sipush (v := 150) dX7_copy_76 (by decide) ?_
  refine z_cpy (k0 := 150) shC_9 shC_36 (zat 1182 (by decide +kernel) rfl) (by decide) (by decide) (by decide) (by decide) (by decide) (Nat.le_of_ble_eq_true rfl) dX7_copy_79 ?_
  refine z_aload_n dX7_copy_82 0 rfl ?_
  refine z_getr shC_28 rfl flX7_44 dX7_copy_83 ?_
  refine z_aload_n dX7_copy_86 1 rfl ?_
  refine z_getr shC_1 rfl flX7_44 dX7_copy_87 ?_
  refine z_callV (m2 := mX6_copy) (st := []) [.ref 10] okX6_copy (Or.inl lkX7_84) shC_37 rfl rfl rfl (Nat.le_of_ble_eq_true rfl) dX7_copy_90 (zgo_v h fun  M2 h => ?_)
  refine z_aload_n dX7_copy_93 0 rfl ?_
  refine z_getr shC_28 rfl flX7_51 dX7_copy_94 ?_
  refine z_aload_n dX7_copy_97 1 rfl ?_
  refine z_getr shC_1 rfl flX7_51 dX7_copy_98 ?_
  refine z_callV (m2 := mX1_copy) (st := []) [.ref 15] okX1_copy (Or.inl lkX7_87) shC_42 rfl rfl rfl (Nat.le_of_ble_eq_true rfl) dX7_copy_101 (zgo_v h fun  M3 h => ?_)
  refine z_aload_n dX7_copy_104 0 rfl ?_
  refine z_getr shC_28 rfl flX7_58 dX7_copy_105 ?_
  refine z_aload_n dX7_copy_108 1 rfl ?_
  refine z_getr shC_1 rfl flX7_58 dX7_copy_109 ?_
  refine z_callV (m2 := mX3_copy) (st := []) [.ref 22] okX3_copy (Or.inl lkX7_90) shC_49 rfl rfl rfl (Nat.le_of_ble_eq_true rfl) dX7_copy_112 (zgo_v h fun  M4 h => ?_)
  exact z_vret (st := []) rfl dX7_copy_115 ⟨rfl, h⟩
set_option maxRecDepth 20000 in
theorem vX7_copy_b {g : zG} {d : Nat} {Q : zM → Prop} {M : zM} (h : ∀ N1 : zM, N1 = zup (zup (zup (zup M 1 0 (M 28 0)) 1 1 ((zup M 1 0 (M 28 0)) 28 1)) 1 2 ((zup (zup M 1 0 (M 28 0)) 1 1 ((zup M 1 0 (M 28 0)) 28 1)) 28 2)) 1 3 ((zup (zup (zup M 1 0 (M 28 0)) 1 1 ((zup M 1 0 (M 28 0)) 28 1)) 1 2 ((zup (zup M 1 0 (M 28 0)) 1 1 ((zup M 1 0 (M 28 0)) 28 1)) 28 2)) 28 3) → zCv shC g d mX2_copy [.ref 3, .ref 30] (zcpy (zup N1 1 4 (N1 28 4)) 29 2 6) (fun  M1 => zCv shC g d mX6_copy [.ref 10, .ref 37] (zcpy M1 36 9 150) (fun  M2 => zCv shC g d mX1_copy [.ref 15, .ref 42] M2 (fun  M3 => zCv shC g d mX3_copy [.ref 22, .ref 49] M3 (fun  M4 => Q M4))))) : zCv shC g (d + 1) mX7_copy [.ref 1, .ref 28] M Q := by
  refine zW.enter (by decide +kernel) (Nat.le_of_ble_eq_true rfl) ?_
  change zW shC g (d + 1) mX7_copy (zv Q) 0 [(0, .ref 1), (1, .ref 28)] [] M
  refine z_aload_n dX7_copy_0 0 rfl ?_
  refine z_aload_n dX7_copy_1 1 rfl ?_
  refine z_geti shC_28 rfl flX7_9 dX7_copy_2 ?_
  refine z_puti shC_1 rfl fpX7_9 rfl rfl dX7_copy_5 ?_
  refine z_aload_n dX7_copy_8 0 rfl ?_
  refine z_aload_n dX7_copy_9 1 rfl ?_
  refine z_geti shC_28 rfl flX7_15 dX7_copy_10 ?_
  refine z_puti shC_1 rfl fpX7_15 rfl rfl dX7_copy_13 ?_
  refine z_aload_n dX7_copy_16 0 rfl ?_
  refine z_aload_n dX7_copy_17 1 rfl ?_
  refine z_geti shC_28 rfl flX7_18 dX7_copy_18 ?_
  refine z_puti shC_1 rfl fpX7_18 rfl rfl dX7_copy_21 ?_
  refine z_aload_n dX7_copy_24 0 rfl ?_
  refine z_aload_n dX7_copy_25 1 rfl ?_
  refine z_geti shC_28 rfl flX7_21 dX7_copy_26 ?_
  refine z_puti shC_1 rfl fpX7_21 rfl rfl dX7_copy_29 ?_
  obtain ⟨N1, eN1⟩ : ∃ y : zM, y = zup (zup (zup (zup M 1 0 (M 28 0)) 1 1 ((zup M 1 0 (M 28 0)) 28 1)) 1 2 ((zup (zup M 1 0 (M 28 0)) 1 1 ((zup M 1 0 (M 28 0)) 28 1)) 28 2)) 1 3 ((zup (zup (zup M 1 0 (M 28 0)) 1 1 ((zup M 1 0 (M 28 0)) 28 1)) 1 2 ((zup (zup M 1 0 (M 28 0)) 1 1 ((zup M 1 0 (M 28 0)) 28 1)) 28 2)) 28 3) := ⟨_, rfl⟩
  refine z_mem N1 eN1 ?_
  have h := h N1 eN1
  refine z_aload_n dX7_copy_32 0 rfl ?_
  refine z_aload_n dX7_copy_33 1 rfl ?_
  refine z_geti shC_28 rfl flX7_24 dX7_copy_34 ?_
  refine z_puti shC_1 rfl fpX7_24 rfl rfl dX7_copy_37 ?_
  refine z_aload_n dX7_copy_40 1 rfl ?_
  refine z_getr shC_28 rfl flX7_27 dX7_copy_41 ?_
  refine z_iconst (v := 0) dX7_copy_44 (by decide) ?_
  refine z_aload_n dX7_copy_45 0 rfl ?_
  refine z_getr shC_1 rfl flX7_27 dX7_copy_46 ?_
  refine z_iconst (v := 0) dX7_copy_49 (by decide) ?_
  refine z_bipush (v := 6) dX7_copy_50 (by decide) ?_
  refine z_cpy (k0 := 6) shC_29 shC_2 (zat 1182 (by decide +kernel) rfl) (by decide) (by decide) (by decide) (by decide) (by decide) (Nat.le_of_ble_eq_true rfl) dX7_copy_52 ?_
  refine z_aload_n dX7_copy_55 0 rfl ?_
  refine z_getr shC_1 rfl flX7_34 dX7_copy_56 ?_
  refine z_aload_n dX7_copy_59 1 rfl ?_
  refine z_getr shC_28 rfl flX7_34 dX7_copy_60 ?_
  refine z_callV (m2 := mX2_copy) (st := []) [.ref 30] okX2_copy (Or.inl lkX7_80) shC_3 rfl rfl rfl (Nat.le_of_ble_eq_true rfl) dX7_copy_63 (zgo_v h fun  M1 h => ?_)
  refine z_aload_n dX7_copy_66 1 rfl ?_
  refine z_getr shC_28 rfl flX7_38 dX7_copy_67 ?_
  refine z_iconst (v := 0) dX7_copy_70 (by decide) ?_
  refine z_aload_n dX7_copy_71 0 rfl ?_
  refine z_getr shC_1 rfl flX7_38 dX7_copy_72 ?_
  refine z_iconst (v := 0) dX7_copy_75 (by decide) ?_
  refine z_sipush (v := 150) dX7_copy_76 (by decide) ?_
  refine z_cpy (k0 := 150) shC_36 shC_9 (zat 1182 (by decide +kernel) rfl) (by decide) (by decide) (by decide) (by decide) (by decide) (Nat.le_of_ble_eq_true rfl) dX7_copy_79 ?_
  refine z_aload_n dX7_copy_82 0 rfl ?_
  refine z_getr shC_1 rfl flX7_44 dX7_copy_83 ?_
  refine z_aload_n dX7_copy_86 1 rfl ?_
  refine z_getr shC_28 rfl flX7_44 dX7_copy_87 ?_
  refine z_callV (m2 := mX6_copy) (st := []) [.ref 37] okX6_copy (Or.inl lkX7_84) shC_10 rfl rfl rfl (Nat.le_of_ble_eq_true rfl) dX7_copy_90 (zgo_v h fun  M2 h => ?_)
  refine z_aload_n dX7_copy_93 0 rfl ?_
  refine z_getr shC_1 rfl flX7_51 dX7_copy_94 ?_
  refine z_aload_n dX7_copy_97 1 rfl ?_
  refine z_getr shC_28 rfl flX7_51 dX7_copy_98 ?_
  refine z_callV (m2 := mX1_copy) (st := []) [.ref 42] okX1_copy (Or.inl lkX7_87) shC_15 rfl rfl rfl (Nat.le_of_ble_eq_true rfl) dX7_copy_101 (zgo_v h fun  M3 h => ?_)
  refine z_aload_n dX7_copy_104 0 rfl ?_
  refine z_getr shC_1 rfl flX7_58 dX7_copy_105 ?_
  refine z_aload_n dX7_copy_108 1 rfl ?_
  refine z_getr shC_28 rfl flX7_58 dX7_copy_109 ?_
  refine z_callV (m2 := mX3_copy) (st := []) [.ref 49] okX3_copy (Or.inl lkX7_90) shC_22 rfl rfl rfl (Nat.le_of_ble_eq_true rfl) dX7_copy_112 (zgo_v h fun  M4 h => ?_)
  exact z_vret (st := []) rfl dX7_copy_115 ⟨rfl, h⟩
theorem dX7_join_0 : decode cX7_join 0 = .ok (.aload_n 0, 1) := by decide +kernel
theorem dX7_join_1 : decode cX7_join 1 = .ok (.getfield 24, 3) := by decide +kernel
theorem dX7_join_4 : decode cX7_join 4 = .ok (.istore_n 3, 1) := by decide +kernel
theorem dX7_join_5 : decode cX7_join 5 = .ok (.aload_n 0, 1) := by decide +kernel
theorem dX7_join_6 : decode cX7_join 6 = .ok (.getfield 27, 3) := by decide +kernel
theorem dX7_join_9 : decode cX7_join 9 = .ok (.iload_n 3, 1) := by decide +kernel
theorem dX7_join_10 : decode cX7_join 10 = .ok (.iload_n 1, 1) := by decide +kernel
theorem dX7_join_11 : decode cX7_join 11 = .ok (.iastore, 1) := by decide +kernel
theorem dX7_join_12 : decode cX7_join 12 = .ok (.aload_n 0, 1) := by decide +kernel
theorem dX7_join_13 : decode cX7_join 13 = .ok (.getfield 34, 3) := by decide +kernel
theorem dX7_join_16 : decode cX7_join 16 = .ok (.getfield 93, 3) := by decide +kernel
theorem dX7_join_19 : decode cX7_join 19 = .ok (.iload_n 3, 1) := by decide +kernel
theorem dX7_join_20 : decode cX7_join 20 = .ok (.iload_n 2, 1) := by decide +kernel
theorem dX7_join_21 : decode cX7_join 21 = .ok (.iastore, 1) := by decide +kernel
theorem dX7_join_22 : decode cX7_join 22 = .ok (.aload_n 0, 1) := by decide +kernel
theorem dX7_join_23 : decode cX7_join 23 = .ok (.getfield 34, 3) := by decide +kernel
theorem dX7_join_26 : decode cX7_join 26 = .ok (.getfield 96, 3) := by decide +kernel
theorem dX7_join_29 : decode cX7_join 29 = .ok (.iload_n 3, 1) := by decide +kernel
theorem dX7_join_30 : decode cX7_join 30 = .ok (.iconst 0, 1) := by decide +kernel
theorem dX7_join_31 : decode cX7_join 31 = .ok (.iastore, 1) := by decide +kernel
theorem dX7_join_32 : decode cX7_join 32 = .ok (.aload_n 0, 1) := by decide +kernel
theorem dX7_join_33 : decode cX7_join 33 = .ok (.getfield 34, 3) := by decide +kernel
theorem dX7_join_36 : decode cX7_join 36 = .ok (.getfield 99, 3) := by decide +kernel
theorem dX7_join_39 : decode cX7_join 39 = .ok (.iload_n 3, 1) := by decide +kernel
theorem dX7_join_40 : decode cX7_join 40 = .ok (.iconst 1, 1) := by decide +kernel
theorem dX7_join_41 : decode cX7_join 41 = .ok (.iastore, 1) := by decide +kernel
theorem dX7_join_42 : decode cX7_join 42 = .ok (.aload_n 0, 1) := by decide +kernel
theorem dX7_join_43 : decode cX7_join 43 = .ok (.dup, 1) := by decide +kernel
theorem dX7_join_44 : decode cX7_join 44 = .ok (.getfield 24, 3) := by decide +kernel
theorem dX7_join_47 : decode cX7_join 47 = .ok (.iconst 1, 1) := by decide +kernel
theorem dX7_join_48 : decode cX7_join 48 = .ok (.iadd, 1) := by decide +kernel
theorem dX7_join_49 : decode cX7_join 49 = .ok (.putfield 24, 3) := by decide +kernel
theorem dX7_join_52 : decode cX7_join 52 = .ok (.iload_n 3, 1) := by decide +kernel
theorem dX7_join_53 : decode cX7_join 53 = .ok (.ireturn, 1) := by decide +kernel
set_option maxRecDepth 20000 in
theorem vX7_join {g : zG} {d : Nat} {Q : Int32 → zM → Prop} {M : zM} {l1 : Int32} {l2 : Int32} (h : ∃ k1 : Nat, (M 1 4) = iv k1 ∧ k1 < 6 ∧ ∀ v1 : Int32, v1 = (((zup (zup (zup (zup M 2 k1 l1) 6 k1 l2) 7 k1 0) 8 k1 1) 1 4) + 1) → Q (M 1 4) (zup (zup (zup (zup (zup M 2 k1 l1) 6 k1 l2) 7 k1 0) 8 k1 1) 1 4 v1)) : zCi shC g d mX7_join [.ref 1, .int l1, .int l2] M Q := by
  refine zW.enter (by decide +kernel) (Nat.le_of_ble_eq_true rfl) ?_
  change zW shC g d mX7_join (zi Q) 0 [(0, .ref 1), (1, .int l1), (2, .int l2)] [] M
  refine z_aload_n dX7_join_0 0 rfl ?_
  refine z_geti shC_1 rfl flX7_24 dX7_join_1 ?_
  refine z_istore_n [(3, .int (M 1 4)), (0, .ref 1), (1, .int l1), (2, .int l2)] dX7_join_4 (by decide) rfl ?_
  refine z_aload_n dX7_join_5 1 rfl ?_
  refine z_getr shC_1 rfl flX7_27 dX7_join_6 ?_
  refine z_iload_n dX7_join_9 0 rfl ?_
  refine z_iload_n dX7_join_10 2 rfl ?_
  obtain ⟨k1, ek1, uk1, h⟩ := h
  refine z_iast2 (k0 := k1) shC_2 (by decide) ek1 uk1 dX7_join_11 ?_
  refine z_aload_n dX7_join_12 1 rfl ?_
  refine z_getr shC_1 rfl flX7_34 dX7_join_13 ?_
  refine z_getr shC_3 rfl flX7_93 dX7_join_16 ?_
  refine z_iload_n dX7_join_19 0 rfl ?_
  refine z_iload_n dX7_join_20 3 rfl ?_
  refine z_iast2 (k0 := k1) shC_6 (by decide) ek1 uk1 dX7_join_21 ?_
  refine z_aload_n dX7_join_22 1 rfl ?_
  refine z_getr shC_1 rfl flX7_34 dX7_join_23 ?_
  refine z_getr shC_3 rfl flX7_96 dX7_join_26 ?_
  refine z_iload_n dX7_join_29 0 rfl ?_
  refine z_iconst (v := 0) dX7_join_30 (by decide) ?_
  refine z_iast2 (k0 := k1) shC_7 (by decide) ek1 uk1 dX7_join_31 ?_
  refine z_aload_n dX7_join_32 1 rfl ?_
  refine z_getr shC_1 rfl flX7_34 dX7_join_33 ?_
  refine z_getr shC_3 rfl flX7_99 dX7_join_36 ?_
  refine z_iload_n dX7_join_39 0 rfl ?_
  refine z_iconst (v := 1) dX7_join_40 (by decide) ?_
  refine z_iast2 (k0 := k1) shC_8 (by decide) ek1 uk1 dX7_join_41 ?_
  refine z_aload_n dX7_join_42 1 rfl ?_
  refine z_dupr dX7_join_43 ?_
  refine z_geti shC_1 rfl flX7_24 dX7_join_44 ?_
  refine z_iconst (v := 1) dX7_join_47 (by decide) ?_
  refine z_iadd dX7_join_48 ?_
  obtain ⟨v1, ev1⟩ : ∃ y : Int32, y = (((zup (zup (zup (zup M 2 k1 l1) 6 k1 l2) 7 k1 0) 8 k1 1) 1 4) + 1) := ⟨_, rfl⟩
  refine z_topi v1 ev1 ?_
  have h := h v1 ev1
  refine z_puti shC_1 rfl fpX7_24 rfl rfl dX7_join_49 ?_
  refine z_iload_n dX7_join_52 0 rfl ?_
  exact z_iret (st := []) rfl rfl dX7_join_53 ⟨_, rfl, h⟩
theorem dX7_beginWays_0 : decode cX7_beginWays 0 = .ok (.aload_n 0, 1) := by decide +kernel
theorem dX7_beginWays_1 : decode cX7_beginWays 1 = .ok (.getfield 34, 3) := by decide +kernel
theorem dX7_beginWays_4 : decode cX7_beginWays 4 = .ok (.getfield 96, 3) := by decide +kernel
theorem dX7_beginWays_7 : decode cX7_beginWays 7 = .ok (.iconst 0, 1) := by decide +kernel
theorem dX7_beginWays_8 : decode cX7_beginWays 8 = .ok (.invokestatic 102, 3) := by decide +kernel
theorem dX7_beginWays_11 : decode cX7_beginWays 11 = .ok (.aload_n 0, 1) := by decide +kernel
theorem dX7_beginWays_12 : decode cX7_beginWays 12 = .ok (.getfield 34, 3) := by decide +kernel
theorem dX7_beginWays_15 : decode cX7_beginWays 15 = .ok (.getfield 99, 3) := by decide +kernel
theorem dX7_beginWays_18 : decode cX7_beginWays 18 = .ok (.iconst 1, 1) := by decide +kernel
theorem dX7_beginWays_19 : decode cX7_beginWays 19 = .ok (.invokestatic 102, 3) := by decide +kernel
theorem dX7_beginWays_22 : decode cX7_beginWays 22 = .ok (.return_, 1) := by decide +kernel
set_option maxRecDepth 20000 in
theorem vX7_beginWays {g : zG} {d : Nat} {Q : zM → Prop} {M : zM} (h : zCv shC g d mJ7_fill_53178 [.ref 7, .int 0] M (fun  M1 => zCv shC g d mJ7_fill_53178 [.ref 8, .int 1] M1 (fun  M2 => Q M2))) : zCv shC g (d + 1) mX7_beginWays [.ref 1] M Q := by
  refine zW.enter (by decide +kernel) (Nat.le_of_ble_eq_true rfl) ?_
  change zW shC g (d + 1) mX7_beginWays (zv Q) 0 [(0, .ref 1)] [] M
  refine z_aload_n dX7_beginWays_0 0 rfl ?_
  refine z_getr shC_1 rfl flX7_34 dX7_beginWays_1 ?_
  refine z_getr shC_3 rfl flX7_96 dX7_beginWays_4 ?_
  refine z_iconst (v := 0) dX7_beginWays_7 (by decide) ?_
  refine z_callS (m2 := mJ7_fill_53178) (st := []) [.ref 7, .int 0] okJ7_fill_53178 (Or.inl lkX7_102) rfl rfl (Nat.le_of_ble_eq_true rfl) dX7_beginWays_8 (zgo_v h fun  M1 h => ?_)
  refine z_aload_n dX7_beginWays_11 0 rfl ?_
  refine z_getr shC_1 rfl flX7_34 dX7_beginWays_12 ?_
  refine z_getr shC_3 rfl flX7_99 dX7_beginWays_15 ?_
  refine z_iconst (v := 1) dX7_beginWays_18 (by decide) ?_
  refine z_callS (m2 := mJ7_fill_53178) (st := []) [.ref 8, .int 1] okJ7_fill_53178 (Or.inl lkX7_102) rfl rfl (Nat.le_of_ble_eq_true rfl) dX7_beginWays_19 (zgo_v h fun  M2 h => ?_)
  exact z_vret (st := []) rfl dX7_beginWays_22 ⟨rfl, h⟩
theorem dX7_isCell_0 : decode cX7_isCell 0 = .ok (.iload_n 1, 1) := by decide +kernel
theorem dX7_isCell_1 : decode cX7_isCell 1 = .ok (.ifCond .lt 35, 3) := by decide +kernel
theorem dX7_isCell_4 : decode cX7_isCell 4 = .ok (.iload_n 1, 1) := by decide +kernel
theorem dX7_isCell_5 : decode cX7_isCell 5 = .ok (.bipush 64, 2) := by decide +kernel
theorem dX7_isCell_7 : decode cX7_isCell 7 = .ok (.if_icmp .ge 29, 3) := by decide +kernel
theorem dX7_isCell_10 : decode cX7_isCell 10 = .ok (.iload_n 1, 1) := by decide +kernel
theorem dX7_isCell_11 : decode cX7_isCell 11 = .ok (.bipush 8, 2) := by decide +kernel
theorem dX7_isCell_13 : decode cX7_isCell 13 = .ok (.irem, 1) := by decide +kernel
theorem dX7_isCell_14 : decode cX7_isCell 14 = .ok (.aload_n 0, 1) := by decide +kernel
theorem dX7_isCell_15 : decode cX7_isCell 15 = .ok (.getfield 9, 3) := by decide +kernel
theorem dX7_isCell_18 : decode cX7_isCell 18 = .ok (.if_icmp .ge 18, 3) := by decide +kernel
theorem dX7_isCell_21 : decode cX7_isCell 21 = .ok (.iload_n 1, 1) := by decide +kernel
theorem dX7_isCell_22 : decode cX7_isCell 22 = .ok (.bipush 8, 2) := by decide +kernel
theorem dX7_isCell_24 : decode cX7_isCell 24 = .ok (.idiv, 1) := by decide +kernel
theorem dX7_isCell_25 : decode cX7_isCell 25 = .ok (.aload_n 0, 1) := by decide +kernel
theorem dX7_isCell_26 : decode cX7_isCell 26 = .ok (.getfield 15, 3) := by decide +kernel
theorem dX7_isCell_29 : decode cX7_isCell 29 = .ok (.if_icmp .ge 7, 3) := by decide +kernel
theorem dX7_isCell_32 : decode cX7_isCell 32 = .ok (.iconst 1, 1) := by decide +kernel
theorem dX7_isCell_33 : decode cX7_isCell 33 = .ok (.goto 4, 3) := by decide +kernel
theorem dX7_isCell_36 : decode cX7_isCell 36 = .ok (.iconst 0, 1) := by decide +kernel
theorem dX7_isCell_37 : decode cX7_isCell 37 = .ok (.ireturn, 1) := by decide +kernel
set_option maxRecDepth 20000 in
theorem vX7_isCell {g : zG} {d : Nat} {Q : Bool → zM → Prop} {M : zM} {l1 : Int32} (h : (l1 < 0 → Q false M) ∧ (¬ l1 < 0 → (64 ≤ l1 → Q false M) ∧ (¬ 64 ≤ l1 → ((M 1 0) ≤ (l1 - l1 / 8 * 8) → Q false M) ∧ (¬ (M 1 0) ≤ (l1 - l1 / 8 * 8) → ((M 1 1) ≤ (l1 / 8) → Q false M) ∧ (¬ (M 1 1) ≤ (l1 / 8) → Q true M))))) : zCz shC g d mX7_isCell [.ref 1, .int l1] M Q := by
  refine zW.enter (by decide +kernel) (Nat.le_of_ble_eq_true rfl) ?_
  change zW shC g d mX7_isCell (zz Q) 0 [(0, .ref 1), (1, .int l1)] [] M
  refine z_iload_n dX7_isCell_0 1 rfl ?_
  refine z_if_lt 36 dX7_isCell_1 (by decide) (fun c1 => ?_) (fun c1 => ?_)
  · have h := h.1 c1
    refine z_iconst (v := 0) dX7_isCell_36 (by decide) ?_
    exact z_zret (b := false) rfl rfl dX7_isCell_37 h
  · have h := h.2 c1
    refine z_iload_n dX7_isCell_4 1 rfl ?_
    refine z_bipush (v := 64) dX7_isCell_5 (by decide) ?_
    refine z_icmp_ge 36 dX7_isCell_7 (by decide) (fun c2 => ?_) (fun c2 => ?_)
    · have h := h.1 c2
      refine z_iconst (v := 0) dX7_isCell_36 (by decide) ?_
      exact z_zret (b := false) rfl rfl dX7_isCell_37 h
    · have h := h.2 c2
      refine z_iload_n dX7_isCell_10 1 rfl ?_
      refine z_bipush (v := 8) dX7_isCell_11 (by decide) ?_
      refine z_irem dX7_isCell_13 (by decide) ?_
      refine z_aload_n dX7_isCell_14 0 rfl ?_
      refine z_geti shC_1 rfl flX7_9 dX7_isCell_15 ?_
      refine z_icmp_ge 36 dX7_isCell_18 (by decide) (fun c3 => ?_) (fun c3 => ?_)
      · have h := h.1 c3
        refine z_iconst (v := 0) dX7_isCell_36 (by decide) ?_
        exact z_zret (b := false) rfl rfl dX7_isCell_37 h
      · have h := h.2 c3
        refine z_iload_n dX7_isCell_21 1 rfl ?_
        refine z_bipush (v := 8) dX7_isCell_22 (by decide) ?_
        refine z_idiv dX7_isCell_24 (by decide) ?_
        refine z_aload_n dX7_isCell_25 0 rfl ?_
        refine z_geti shC_1 rfl flX7_15 dX7_isCell_26 ?_
        refine z_icmp_ge 36 dX7_isCell_29 (by decide) (fun c4 => ?_) (fun c4 => ?_)
        · have h := h.1 c4
          refine z_iconst (v := 0) dX7_isCell_36 (by decide) ?_
          exact z_zret (b := false) rfl rfl dX7_isCell_37 h
        · have h := h.2 c4
          refine z_iconst (v := 1) dX7_isCell_32 (by decide) ?_
          refine z_goto 37 dX7_isCell_33 (by decide) ?_
          exact z_zret (b := true) rfl rfl dX7_isCell_37 h
theorem dX7_isBox_0 : decode cX7_isBox 0 = .ok (.aload_n 0, 1) := by decide +kernel
theorem dX7_isBox_1 : decode cX7_isBox 1 = .ok (.iload_n 1, 1) := by decide +kernel
theorem dX7_isBox_2 : decode cX7_isBox 2 = .ok (.invokevirtual 108, 3) := by decide +kernel
theorem dX7_isBox_5 : decode cX7_isBox 5 = .ok (.ifCond .eq 33, 3) := by decide +kernel
theorem dX7_isBox_8 : decode cX7_isBox 8 = .ok (.iload_n 1, 1) := by decide +kernel
theorem dX7_isBox_9 : decode cX7_isBox 9 = .ok (.bipush 8, 2) := by decide +kernel
theorem dX7_isBox_11 : decode cX7_isBox 11 = .ok (.irem, 1) := by decide +kernel
theorem dX7_isBox_12 : decode cX7_isBox 12 = .ok (.aload_n 0, 1) := by decide +kernel
theorem dX7_isBox_13 : decode cX7_isBox 13 = .ok (.getfield 9, 3) := by decide +kernel
theorem dX7_isBox_16 : decode cX7_isBox 16 = .ok (.iconst 3, 1) := by decide +kernel
theorem dX7_isBox_17 : decode cX7_isBox 17 = .ok (.isub, 1) := by decide +kernel
theorem dX7_isBox_18 : decode cX7_isBox 18 = .ok (.if_icmp .gt 20, 3) := by decide +kernel
theorem dX7_isBox_21 : decode cX7_isBox 21 = .ok (.iload_n 1, 1) := by decide +kernel
theorem dX7_isBox_22 : decode cX7_isBox 22 = .ok (.bipush 8, 2) := by decide +kernel
theorem dX7_isBox_24 : decode cX7_isBox 24 = .ok (.idiv, 1) := by decide +kernel
theorem dX7_isBox_25 : decode cX7_isBox 25 = .ok (.aload_n 0, 1) := by decide +kernel
theorem dX7_isBox_26 : decode cX7_isBox 26 = .ok (.getfield 15, 3) := by decide +kernel
theorem dX7_isBox_29 : decode cX7_isBox 29 = .ok (.iconst 3, 1) := by decide +kernel
theorem dX7_isBox_30 : decode cX7_isBox 30 = .ok (.isub, 1) := by decide +kernel
theorem dX7_isBox_31 : decode cX7_isBox 31 = .ok (.if_icmp .gt 7, 3) := by decide +kernel
theorem dX7_isBox_34 : decode cX7_isBox 34 = .ok (.iconst 1, 1) := by decide +kernel
theorem dX7_isBox_35 : decode cX7_isBox 35 = .ok (.goto 4, 3) := by decide +kernel
theorem dX7_isBox_38 : decode cX7_isBox 38 = .ok (.iconst 0, 1) := by decide +kernel
theorem dX7_isBox_39 : decode cX7_isBox 39 = .ok (.ireturn, 1) := by decide +kernel
set_option maxRecDepth 20000 in
theorem vX7_isBox {g : zG} {d : Nat} {Q : Bool → zM → Prop} {M : zM} {l1 : Int32} (h : zCz shC g d mX7_isCell [.ref 1, .int l1] M (fun b1 M1 => (b1 = false → Q false M1) ∧ (b1 = true → (((M1 1 0) - 3) < (l1 - l1 / 8 * 8) → Q false M1) ∧ (¬ ((M1 1 0) - 3) < (l1 - l1 / 8 * 8) → (((M1 1 1) - 3) < (l1 / 8) → Q false M1) ∧ (¬ ((M1 1 1) - 3) < (l1 / 8) → Q true M1))))) : zCz shC g (d + 1) mX7_isBox [.ref 1, .int l1] M Q := by
  refine zW.enter (by decide +kernel) (Nat.le_of_ble_eq_true rfl) ?_
  change zW shC g (d + 1) mX7_isBox (zz Q) 0 [(0, .ref 1), (1, .int l1)] [] M
  refine z_aload_n dX7_isBox_0 0 rfl ?_
  refine z_iload_n dX7_isBox_1 1 rfl ?_
  refine z_callV (m2 := mX7_isCell) (st := []) [.int l1] okX7_isCell (Or.inl lkX7_108) shC_1 rfl rfl rfl (Nat.le_of_ble_eq_true rfl) dX7_isBox_2 (zgo_z h fun b1 M1 h => ?_)
  refine z_ifb_eq 38 dX7_isBox_5 (by decide) (fun c1 => ?_) (fun c1 => ?_)
  · have h := h.1 c1
    refine z_iconst (v := 0) dX7_isBox_38 (by decide) ?_
    exact z_zret (b := false) rfl rfl dX7_isBox_39 h
  · have h := h.2 c1
    refine z_iload_n dX7_isBox_8 1 rfl ?_
    refine z_bipush (v := 8) dX7_isBox_9 (by decide) ?_
    refine z_irem dX7_isBox_11 (by decide) ?_
    refine z_aload_n dX7_isBox_12 0 rfl ?_
    refine z_geti shC_1 rfl flX7_9 dX7_isBox_13 ?_
    refine z_iconst (v := 3) dX7_isBox_16 (by decide) ?_
    refine z_isub dX7_isBox_17 ?_
    refine z_icmp_gt 38 dX7_isBox_18 (by decide) (fun c2 => ?_) (fun c2 => ?_)
    · have h := h.1 c2
      refine z_iconst (v := 0) dX7_isBox_38 (by decide) ?_
      exact z_zret (b := false) rfl rfl dX7_isBox_39 h
    · have h := h.2 c2
      refine z_iload_n dX7_isBox_21 1 rfl ?_
      refine z_bipush (v := 8) dX7_isBox_22 (by decide) ?_
      refine z_idiv dX7_isBox_24 (by decide) ?_
      refine z_aload_n dX7_isBox_25 0 rfl ?_
      refine z_geti shC_1 rfl flX7_15 dX7_isBox_26 ?_
      refine z_iconst (v := 3) dX7_isBox_29 (by decide) ?_
      refine z_isub dX7_isBox_30 ?_
      refine z_icmp_gt 38 dX7_isBox_31 (by decide) (fun c3 => ?_) (fun c3 => ?_)
      · have h := h.1 c3
        refine z_iconst (v := 0) dX7_isBox_38 (by decide) ?_
        exact z_zret (b := false) rfl rfl dX7_isBox_39 h
      · have h := h.2 c3
        refine z_iconst (v := 1) dX7_isBox_34 (by decide) ?_
        refine z_goto 39 dX7_isBox_35 (by decide) ?_
        exact z_zret (b := true) rfl rfl dX7_isBox_39 h
theorem dX7_isSkater_0 : decode cX7_isSkater 0 = .ok (.iload_n 1, 1) := by decide +kernel
theorem dX7_isSkater_1 : decode cX7_isSkater 1 = .ok (.ifCond .lt 15, 3) := by decide +kernel
theorem dX7_isSkater_4 : decode cX7_isSkater 4 = .ok (.iload_n 1, 1) := by decide +kernel
theorem dX7_isSkater_5 : decode cX7_isSkater 5 = .ok (.aload_n 0, 1) := by decide +kernel
theorem dX7_isSkater_6 : decode cX7_isSkater 6 = .ok (.getfield 24, 3) := by decide +kernel
theorem dX7_isSkater_9 : decode cX7_isSkater 9 = .ok (.if_icmp .ge 7, 3) := by decide +kernel
theorem dX7_isSkater_12 : decode cX7_isSkater 12 = .ok (.iconst 1, 1) := by decide +kernel
theorem dX7_isSkater_13 : decode cX7_isSkater 13 = .ok (.goto 4, 3) := by decide +kernel
theorem dX7_isSkater_16 : decode cX7_isSkater 16 = .ok (.iconst 0, 1) := by decide +kernel
theorem dX7_isSkater_17 : decode cX7_isSkater 17 = .ok (.ireturn, 1) := by decide +kernel
set_option maxRecDepth 20000 in
theorem vX7_isSkater {g : zG} {d : Nat} {Q : Bool → zM → Prop} {M : zM} {l1 : Int32} (h : (l1 < 0 → Q false M) ∧ (¬ l1 < 0 → ((M 1 4) ≤ l1 → Q false M) ∧ (¬ (M 1 4) ≤ l1 → Q true M))) : zCz shC g d mX7_isSkater [.ref 1, .int l1] M Q := by
  refine zW.enter (by decide +kernel) (Nat.le_of_ble_eq_true rfl) ?_
  change zW shC g d mX7_isSkater (zz Q) 0 [(0, .ref 1), (1, .int l1)] [] M
  refine z_iload_n dX7_isSkater_0 1 rfl ?_
  refine z_if_lt 16 dX7_isSkater_1 (by decide) (fun c1 => ?_) (fun c1 => ?_)
  · have h := h.1 c1
    refine z_iconst (v := 0) dX7_isSkater_16 (by decide) ?_
    exact z_zret (b := false) rfl rfl dX7_isSkater_17 h
  · have h := h.2 c1
    refine z_iload_n dX7_isSkater_4 1 rfl ?_
    refine z_aload_n dX7_isSkater_5 0 rfl ?_
    refine z_geti shC_1 rfl flX7_24 dX7_isSkater_6 ?_
    refine z_icmp_ge 16 dX7_isSkater_9 (by decide) (fun c2 => ?_) (fun c2 => ?_)
    · have h := h.1 c2
      refine z_iconst (v := 0) dX7_isSkater_16 (by decide) ?_
      exact z_zret (b := false) rfl rfl dX7_isSkater_17 h
    · have h := h.2 c2
      refine z_iconst (v := 1) dX7_isSkater_12 (by decide) ?_
      refine z_goto 17 dX7_isSkater_13 (by decide) ?_
      exact z_zret (b := true) rfl rfl dX7_isSkater_17 h
theorem dX7_areCells_0 : decode cX7_areCells 0 = .ok (.iconst 0, 1) := by decide +kernel
theorem dX7_areCells_1 : decode cX7_areCells 1 = .ok (.istore_n 3, 1) := by decide +kernel
theorem dX7_areCells_2 : decode cX7_areCells 2 = .ok (.iload_n 3, 1) := by decide +kernel
theorem dX7_areCells_3 : decode cX7_areCells 3 = .ok (.bipush 64, 2) := by decide +kernel
theorem dX7_areCells_5 : decode cX7_areCells 5 = .ok (.if_icmp .ge 29, 3) := by decide +kernel
theorem dX7_areCells_8 : decode cX7_areCells 8 = .ok (.lload_n 1, 1) := by decide +kernel
theorem dX7_areCells_9 : decode cX7_areCells 9 = .ok (.iload_n 3, 1) := by decide +kernel
theorem dX7_areCells_10 : decode cX7_areCells 10 = .ok (.lshr, 1) := by decide +kernel
theorem dX7_areCells_11 : decode cX7_areCells 11 = .ok (.lconst 1, 1) := by decide +kernel
theorem dX7_areCells_12 : decode cX7_areCells 12 = .ok (.land, 1) := by decide +kernel
theorem dX7_areCells_13 : decode cX7_areCells 13 = .ok (.lconst 1, 1) := by decide +kernel
theorem dX7_areCells_14 : decode cX7_areCells 14 = .ok (.lcmp, 1) := by decide +kernel
theorem dX7_areCells_15 : decode cX7_areCells 15 = .ok (.ifCond .ne 13, 3) := by decide +kernel
theorem dX7_areCells_18 : decode cX7_areCells 18 = .ok (.aload_n 0, 1) := by decide +kernel
theorem dX7_areCells_19 : decode cX7_areCells 19 = .ok (.iload_n 3, 1) := by decide +kernel
theorem dX7_areCells_20 : decode cX7_areCells 20 = .ok (.invokevirtual 108, 3) := by decide +kernel
theorem dX7_areCells_23 : decode cX7_areCells 23 = .ok (.ifCond .ne 5, 3) := by decide +kernel
theorem dX7_areCells_26 : decode cX7_areCells 26 = .ok (.iconst 0, 1) := by decide +kernel
theorem dX7_areCells_27 : decode cX7_areCells 27 = .ok (.ireturn, 1) := by decide +kernel
theorem dX7_areCells_28 : decode cX7_areCells 28 = .ok (.iinc 3 1, 3) := by decide +kernel
theorem dX7_areCells_31 : decode cX7_areCells 31 = .ok (.goto (-29), 3) := by decide +kernel
theorem dX7_areCells_34 : decode cX7_areCells 34 = .ok (.iconst 1, 1) := by decide +kernel
theorem dX7_areCells_35 : decode cX7_areCells 35 = .ok (.ireturn, 1) := by decide +kernel
set_option maxRecDepth 20000 in
theorem vX7_areCells {g : zG} {d : Nat} {Q : Bool → zM → Prop} {M : zM} {l1 : Int64} (h : zW shC g (d + 1) mX7_areCells (zz Q) 2 [(0, .ref 1), (1, .long l1), (3, .int 0)] [] M) : zCz shC g (d + 1) mX7_areCells [.ref 1, .long l1] M Q := by
  refine zW.enter (by decide +kernel) (Nat.le_of_ble_eq_true rfl) ?_
  change zW shC g (d + 1) mX7_areCells (zz Q) 0 [(0, .ref 1), (1, .long l1)] [] M
  refine z_iconst (v := 0) dX7_areCells_0 (by decide) ?_
  refine z_istore_n [(3, .int 0), (0, .ref 1), (1, .long l1)] dX7_areCells_1 (by decide) rfl ?_
  exact zW.sub [1, 2, 0] rfl h
set_option maxRecDepth 20000 in
theorem vX7_areCells_2 {g : zG} {d : Nat} {Q : Bool → zM → Prop} {M : zM} {l1 : Int64} {l3 : Int32} (h : (64 ≤ l3 → Q true M) ∧ (¬ 64 ≤ l3 → (¬ (lg_cmp ((l1 >>> ((l3 : Int32).toInt64 &&& 63)) &&& 1) 1) = 0 → zW shC g (d + 1) mX7_areCells (zz Q) 2 [(0, .ref 1), (1, .long l1), (3, .int (l3 + 1))] [] M) ∧ ((lg_cmp ((l1 >>> ((l3 : Int32).toInt64 &&& 63)) &&& 1) 1) = 0 → zCz shC g d mX7_isCell [.ref 1, .int l3] M (fun b1 M1 => (b1 = true → zW shC g (d + 1) mX7_areCells (zz Q) 2 [(0, .ref 1), (1, .long l1), (3, .int (l3 + 1))] [] M1) ∧ (b1 = false → Q false M1))))) : zW shC g (d + 1) mX7_areCells (zz Q) 2 [(0, .ref 1), (1, .long l1), (3, .int l3)] [] M := by
  refine z_iload_n dX7_areCells_2 2 rfl ?_
  refine z_bipush (v := 64) dX7_areCells_3 (by decide) ?_
  refine z_icmp_ge 34 dX7_areCells_5 (by decide) (fun c1 => ?_) (fun c1 => ?_)
  · have h := h.1 c1
    refine z_iconst (v := 1) dX7_areCells_34 (by decide) ?_
    exact z_zret (b := true) rfl rfl dX7_areCells_35 h
  · have h := h.2 c1
    refine z_lload_n dX7_areCells_8 1 rfl ?_
    refine z_iload_n dX7_areCells_9 2 rfl ?_
    refine z_lshr dX7_areCells_10 ?_
    refine z_lconst (v := 1) dX7_areCells_11 (by decide) ?_
    refine z_land dX7_areCells_12 ?_
    refine z_lconst (v := 1) dX7_areCells_13 (by decide) ?_
    refine z_lcmp dX7_areCells_14 ?_
    refine z_if_ne 28 dX7_areCells_15 (by decide) (fun c2 => ?_) (fun c2 => ?_)
    · have h := h.1 c2
      refine z_iinc (x := l3) (v := (l3 + 1)) [(3, .int (l3 + 1)), (0, .ref 1), (1, .long l1)] dX7_areCells_28 2 rfl rfl (by decide) rfl ?_
      refine z_goto 2 dX7_areCells_31 (by decide) ?_
      exact zW.sub [1, 2, 0] rfl h
    · have h := h.2 c2
      refine z_aload_n dX7_areCells_18 0 rfl ?_
      refine z_iload_n dX7_areCells_19 2 rfl ?_
      refine z_callV (m2 := mX7_isCell) (st := []) [.int l3] okX7_isCell (Or.inl lkX7_108) shC_1 rfl rfl rfl (Nat.le_of_ble_eq_true rfl) dX7_areCells_20 (zgo_z h fun b1 M1 h => ?_)
      refine z_ifb_ne 28 dX7_areCells_23 (by decide) (fun c3 => ?_) (fun c3 => ?_)
      · have h := h.1 c3
        refine z_iinc (x := l3) (v := (l3 + 1)) [(3, .int (l3 + 1)), (0, .ref 1), (1, .long l1)] dX7_areCells_28 2 rfl rfl (by decide) rfl ?_
        refine z_goto 2 dX7_areCells_31 (by decide) ?_
        exact zW.sub [1, 2, 0] rfl h
      · have h := h.2 c3
        refine z_iconst (v := 0) dX7_areCells_26 (by decide) ?_
        exact z_zret (b := false) rfl rfl dX7_areCells_27 h
theorem dX7_beside_0 : decode cX7_beside 0 = .ok (.iload_n 1, 1) := by decide +kernel
theorem dX7_beside_1 : decode cX7_beside 1 = .ok (.bipush 8, 2) := by decide +kernel
theorem dX7_beside_3 : decode cX7_beside 3 = .ok (.irem, 1) := by decide +kernel
theorem dX7_beside_4 : decode cX7_beside 4 = .ok (.getstatic 112, 3) := by decide +kernel
theorem dX7_beside_7 : decode cX7_beside 7 = .ok (.iload_n 2, 1) := by decide +kernel
theorem dX7_beside_8 : decode cX7_beside 8 = .ok (.iaload, 1) := by decide +kernel
theorem dX7_beside_9 : decode cX7_beside 9 = .ok (.iadd, 1) := by decide +kernel
theorem dX7_beside_10 : decode cX7_beside 10 = .ok (.istore_n 3, 1) := by decide +kernel
theorem dX7_beside_11 : decode cX7_beside 11 = .ok (.iload_n 1, 1) := by decide +kernel
theorem dX7_beside_12 : decode cX7_beside 12 = .ok (.bipush 8, 2) := by decide +kernel
theorem dX7_beside_14 : decode cX7_beside 14 = .ok (.idiv, 1) := by decide +kernel
theorem dX7_beside_15 : decode cX7_beside 15 = .ok (.getstatic 115, 3) := by decide +kernel
theorem dX7_beside_18 : decode cX7_beside 18 = .ok (.iload_n 2, 1) := by decide +kernel
theorem dX7_beside_19 : decode cX7_beside 19 = .ok (.iaload, 1) := by decide +kernel
theorem dX7_beside_20 : decode cX7_beside 20 = .ok (.iadd, 1) := by decide +kernel
theorem dX7_beside_21 : decode cX7_beside 21 = .ok (.istore 4, 2) := by decide +kernel
theorem dX7_beside_23 : decode cX7_beside 23 = .ok (.iload_n 3, 1) := by decide +kernel
theorem dX7_beside_24 : decode cX7_beside 24 = .ok (.ifCond .lt 25, 3) := by decide +kernel
theorem dX7_beside_27 : decode cX7_beside 27 = .ok (.iload 4, 2) := by decide +kernel
theorem dX7_beside_29 : decode cX7_beside 29 = .ok (.ifCond .lt 20, 3) := by decide +kernel
theorem dX7_beside_32 : decode cX7_beside 32 = .ok (.iload_n 3, 1) := by decide +kernel
theorem dX7_beside_33 : decode cX7_beside 33 = .ok (.aload_n 0, 1) := by decide +kernel
theorem dX7_beside_34 : decode cX7_beside 34 = .ok (.getfield 9, 3) := by decide +kernel
theorem dX7_beside_37 : decode cX7_beside 37 = .ok (.if_icmp .ge 12, 3) := by decide +kernel
theorem dX7_beside_40 : decode cX7_beside 40 = .ok (.iload 4, 2) := by decide +kernel
theorem dX7_beside_42 : decode cX7_beside 42 = .ok (.aload_n 0, 1) := by decide +kernel
theorem dX7_beside_43 : decode cX7_beside 43 = .ok (.getfield 15, 3) := by decide +kernel
theorem dX7_beside_46 : decode cX7_beside 46 = .ok (.if_icmp .lt 7, 3) := by decide +kernel
theorem dX7_beside_49 : decode cX7_beside 49 = .ok (.iconst (-1), 1) := by decide +kernel
theorem dX7_beside_50 : decode cX7_beside 50 = .ok (.goto 10, 3) := by decide +kernel
theorem dX7_beside_53 : decode cX7_beside 53 = .ok (.bipush 8, 2) := by decide +kernel
theorem dX7_beside_55 : decode cX7_beside 55 = .ok (.iload 4, 2) := by decide +kernel
theorem dX7_beside_57 : decode cX7_beside 57 = .ok (.imul, 1) := by decide +kernel
theorem dX7_beside_58 : decode cX7_beside 58 = .ok (.iload_n 3, 1) := by decide +kernel
theorem dX7_beside_59 : decode cX7_beside 59 = .ok (.iadd, 1) := by decide +kernel
theorem dX7_beside_60 : decode cX7_beside 60 = .ok (.ireturn, 1) := by decide +kernel
set_option maxRecDepth 20000 in
theorem vX7_beside {g : zG} {d : Nat} {Q : Int32 → zM → Prop} {M : zM} {l1 : Int32} {l2 : Int32} (h : ∃ k1 : Nat, l2 = iv k1 ∧ k1 < 4 ∧ (((l1 - l1 / 8 * 8) + (zSt 0 k1)) < 0 → Q (-1) M) ∧ (¬ ((l1 - l1 / 8 * 8) + (zSt 0 k1)) < 0 → (((l1 / 8) + (zSt 1 k1)) < 0 → Q (-1) M) ∧ (¬ ((l1 / 8) + (zSt 1 k1)) < 0 → ((M 1 0) ≤ ((l1 - l1 / 8 * 8) + (zSt 0 k1)) → Q (-1) M) ∧ (¬ (M 1 0) ≤ ((l1 - l1 / 8 * 8) + (zSt 0 k1)) → (((l1 / 8) + (zSt 1 k1)) < (M 1 1) → ∀ v1 : Int32, v1 = ((8 * ((l1 / 8) + (zSt 1 k1))) + ((l1 - l1 / 8 * 8) + (zSt 0 k1))) → Q v1 M) ∧ (¬ ((l1 / 8) + (zSt 1 k1)) < (M 1 1) → Q (-1) M))))) : zCi shC g d mX7_beside [.ref 1, .int l1, .int l2] M Q := by
  refine zW.enter (by decide +kernel) (Nat.le_of_ble_eq_true rfl) ?_
  change zW shC g d mX7_beside (zi Q) 0 [(0, .ref 1), (1, .int l1), (2, .int l2)] [] M
  refine z_iload_n dX7_beside_0 1 rfl ?_
  refine z_bipush (v := 8) dX7_beside_1 (by decide) ?_
  refine z_irem dX7_beside_3 (by decide) ?_
  refine z_gets0 (host := "LeftSkate") (by decide +kernel) dX7_beside_4 ?_
  refine z_iload_n dX7_beside_7 2 rfl ?_
  obtain ⟨k1, ek1, uk1, h⟩ := h
  refine z_stald2 (q := 0) (k0 := k1) (by decide) ek1 uk1 dX7_beside_8 ?_
  refine z_iadd dX7_beside_9 ?_
  refine z_istore_n [(3, .int ((l1 - l1 / 8 * 8) + (zSt 0 k1))), (0, .ref 1), (1, .int l1), (2, .int l2)] dX7_beside_10 (by decide) rfl ?_
  refine z_iload_n dX7_beside_11 2 rfl ?_
  refine z_bipush (v := 8) dX7_beside_12 (by decide) ?_
  refine z_idiv dX7_beside_14 (by decide) ?_
  refine z_gets1 (host := "LeftSkate") (by decide +kernel) dX7_beside_15 ?_
  refine z_iload_n dX7_beside_18 3 rfl ?_
  refine z_stald2 (q := 1) (k0 := k1) (by decide) ek1 uk1 dX7_beside_19 ?_
  refine z_iadd dX7_beside_20 ?_
  refine z_istore [(4, .int ((l1 / 8) + (zSt 1 k1))), (3, .int ((l1 - l1 / 8 * 8) + (zSt 0 k1))), (0, .ref 1), (1, .int l1), (2, .int l2)] dX7_beside_21 (by decide) rfl ?_
  refine z_iload_n dX7_beside_23 1 rfl ?_
  refine z_if_lt 49 dX7_beside_24 (by decide) (fun c1 => ?_) (fun c1 => ?_)
  · have h := h.1 c1
    refine z_iconst (v := (-1)) dX7_beside_49 (by decide) ?_
    refine z_goto 60 dX7_beside_50 (by decide) ?_
    exact z_iret (st := []) rfl rfl dX7_beside_60 ⟨_, rfl, h⟩
  · have h := h.2 c1
    refine z_iload dX7_beside_27 0 rfl ?_
    refine z_if_lt 49 dX7_beside_29 (by decide) (fun c2 => ?_) (fun c2 => ?_)
    · have h := h.1 c2
      refine z_iconst (v := (-1)) dX7_beside_49 (by decide) ?_
      refine z_goto 60 dX7_beside_50 (by decide) ?_
      exact z_iret (st := []) rfl rfl dX7_beside_60 ⟨_, rfl, h⟩
    · have h := h.2 c2
      refine z_iload_n dX7_beside_32 1 rfl ?_
      refine z_aload_n dX7_beside_33 2 rfl ?_
      refine z_geti shC_1 rfl flX7_9 dX7_beside_34 ?_
      refine z_icmp_ge 49 dX7_beside_37 (by decide) (fun c3 => ?_) (fun c3 => ?_)
      · have h := h.1 c3
        refine z_iconst (v := (-1)) dX7_beside_49 (by decide) ?_
        refine z_goto 60 dX7_beside_50 (by decide) ?_
        exact z_iret (st := []) rfl rfl dX7_beside_60 ⟨_, rfl, h⟩
      · have h := h.2 c3
        refine z_iload dX7_beside_40 0 rfl ?_
        refine z_aload_n dX7_beside_42 2 rfl ?_
        refine z_geti shC_1 rfl flX7_15 dX7_beside_43 ?_
        refine z_icmp_lt 53 dX7_beside_46 (by decide) (fun c4 => ?_) (fun c4 => ?_)
        · have h := h.1 c4
          refine z_bipush (v := 8) dX7_beside_53 (by decide) ?_
          refine z_iload dX7_beside_55 0 rfl ?_
          refine z_imul dX7_beside_57 ?_
          refine z_iload_n dX7_beside_58 1 rfl ?_
          refine z_iadd dX7_beside_59 ?_
          obtain ⟨v1, ev1⟩ : ∃ y : Int32, y = ((8 * ((l1 / 8) + (zSt 1 k1))) + ((l1 - l1 / 8 * 8) + (zSt 0 k1))) := ⟨_, rfl⟩
          refine z_topi v1 ev1 ?_
          have h := h v1 ev1
          exact z_iret (st := []) rfl rfl dX7_beside_60 ⟨_, rfl, h⟩
        · have h := h.2 c4
          refine z_iconst (v := (-1)) dX7_beside_49 (by decide) ?_
          refine z_goto 60 dX7_beside_50 (by decide) ?_
          exact z_iret (st := []) rfl rfl dX7_beside_60 ⟨_, rfl, h⟩
theorem dX7_isSeen_0 : decode cX7_isSeen 0 = .ok (.aload_n 1, 1) := by decide +kernel
theorem dX7_isSeen_1 : decode cX7_isSeen 1 = .ok (.getfield 118, 3) := by decide +kernel
theorem dX7_isSeen_4 : decode cX7_isSeen 4 = .ok (.iload_n 2, 1) := by decide +kernel
theorem dX7_isSeen_5 : decode cX7_isSeen 5 = .ok (.iaload, 1) := by decide +kernel
theorem dX7_isSeen_6 : decode cX7_isSeen 6 = .ok (.aload_n 0, 1) := by decide +kernel
theorem dX7_isSeen_7 : decode cX7_isSeen 7 = .ok (.getfield 18, 3) := by decide +kernel
theorem dX7_isSeen_10 : decode cX7_isSeen 10 = .ok (.if_icmp .lt 7, 3) := by decide +kernel
theorem dX7_isSeen_13 : decode cX7_isSeen 13 = .ok (.iconst 1, 1) := by decide +kernel
theorem dX7_isSeen_14 : decode cX7_isSeen 14 = .ok (.goto 4, 3) := by decide +kernel
theorem dX7_isSeen_17 : decode cX7_isSeen 17 = .ok (.iconst 0, 1) := by decide +kernel
theorem dX7_isSeen_18 : decode cX7_isSeen 18 = .ok (.ireturn, 1) := by decide +kernel
set_option maxRecDepth 20000 in
theorem vX7_isSeen {g : zG} {d : Nat} {Q : Bool → zM → Prop} {M : zM} {m : Nat} {l2 : Int32} (hm : zMo shC m) (h : ∃ k1 : Nat, l2 = iv k1 ∧ k1 < 64 ∧ ((M (m + 1) k1) < (M 1 2) → Q false M) ∧ (¬ (M (m + 1) k1) < (M 1 2) → Q true M)) : zCz shC g d mX7_isSeen [.ref 1, .ref m, .int l2] M Q := by
  refine zW.enter (by decide +kernel) (Nat.le_of_ble_eq_true rfl) ?_
  change zW shC g d mX7_isSeen (zz Q) 0 [(0, .ref 1), (1, .ref m), (2, .int l2)] [] M
  refine z_aload_n dX7_isSeen_0 1 rfl ?_
  refine z_getr hm.1 rfl flX7_118 dX7_isSeen_1 ?_
  refine z_iload_n dX7_isSeen_4 2 rfl ?_
  obtain ⟨k1, ek1, uk1, h⟩ := h
  refine z_iald2 (k0 := k1) hm.2.1 (by decide) ek1 uk1 dX7_isSeen_5 ?_
  refine z_aload_n dX7_isSeen_6 0 rfl ?_
  refine z_geti shC_1 rfl flX7_18 dX7_isSeen_7 ?_
  refine z_icmp_lt 17 dX7_isSeen_10 (by decide) (fun c1 => ?_) (fun c1 => ?_)
  · have h := h.1 c1
    refine z_iconst (v := 0) dX7_isSeen_17 (by decide) ?_
    exact z_zret (b := false) rfl rfl dX7_isSeen_18 h
  · have h := h.2 c1
    refine z_iconst (v := 1) dX7_isSeen_13 (by decide) ?_
    refine z_goto 18 dX7_isSeen_14 (by decide) ?_
    exact z_zret (b := true) rfl rfl dX7_isSeen_18 h
theorem dX7_seenAround_0 : decode cX7_seenAround 0 = .ok (.iconst 0, 1) := by decide +kernel
theorem dX7_seenAround_1 : decode cX7_seenAround 1 = .ok (.istore_n 3, 1) := by decide +kernel
theorem dX7_seenAround_2 : decode cX7_seenAround 2 = .ok (.iconst 0, 1) := by decide +kernel
theorem dX7_seenAround_3 : decode cX7_seenAround 3 = .ok (.istore 4, 2) := by decide +kernel
theorem dX7_seenAround_5 : decode cX7_seenAround 5 = .ok (.iload 4, 2) := by decide +kernel
theorem dX7_seenAround_7 : decode cX7_seenAround 7 = .ok (.iconst 4, 1) := by decide +kernel
theorem dX7_seenAround_8 : decode cX7_seenAround 8 = .ok (.if_icmp .ge 37, 3) := by decide +kernel
theorem dX7_seenAround_11 : decode cX7_seenAround 11 = .ok (.aload_n 0, 1) := by decide +kernel
theorem dX7_seenAround_12 : decode cX7_seenAround 12 = .ok (.iload_n 2, 1) := by decide +kernel
theorem dX7_seenAround_13 : decode cX7_seenAround 13 = .ok (.iload 4, 2) := by decide +kernel
theorem dX7_seenAround_15 : decode cX7_seenAround 15 = .ok (.invokevirtual 121, 3) := by decide +kernel
theorem dX7_seenAround_18 : decode cX7_seenAround 18 = .ok (.istore 5, 2) := by decide +kernel
theorem dX7_seenAround_20 : decode cX7_seenAround 20 = .ok (.iload 5, 2) := by decide +kernel
theorem dX7_seenAround_22 : decode cX7_seenAround 22 = .ok (.iconst (-1), 1) := by decide +kernel
theorem dX7_seenAround_23 : decode cX7_seenAround 23 = .ok (.if_icmp .eq 16, 3) := by decide +kernel
theorem dX7_seenAround_26 : decode cX7_seenAround 26 = .ok (.aload_n 0, 1) := by decide +kernel
theorem dX7_seenAround_27 : decode cX7_seenAround 27 = .ok (.aload_n 1, 1) := by decide +kernel
theorem dX7_seenAround_28 : decode cX7_seenAround 28 = .ok (.iload 5, 2) := by decide +kernel
theorem dX7_seenAround_30 : decode cX7_seenAround 30 = .ok (.invokevirtual 125, 3) := by decide +kernel
theorem dX7_seenAround_33 : decode cX7_seenAround 33 = .ok (.ifCond .eq 6, 3) := by decide +kernel
theorem dX7_seenAround_36 : decode cX7_seenAround 36 = .ok (.iinc 3 1, 3) := by decide +kernel
theorem dX7_seenAround_39 : decode cX7_seenAround 39 = .ok (.iinc 4 1, 3) := by decide +kernel
theorem dX7_seenAround_42 : decode cX7_seenAround 42 = .ok (.goto (-37), 3) := by decide +kernel
theorem dX7_seenAround_45 : decode cX7_seenAround 45 = .ok (.iload_n 3, 1) := by decide +kernel
theorem dX7_seenAround_46 : decode cX7_seenAround 46 = .ok (.ireturn, 1) := by decide +kernel
set_option maxRecDepth 20000 in
theorem vX7_seenAround {g : zG} {d : Nat} {Q : Int32 → zM → Prop} {M : zM} {m : Nat} {l2 : Int32} (hm : zMo shC m) (h : zW shC g (d + 1) mX7_seenAround (zi Q) 5 [(0, .ref 1), (1, .ref m), (2, .int l2), (3, .int 0), (4, .int 0)] [] M) : zCi shC g (d + 1) mX7_seenAround [.ref 1, .ref m, .int l2] M Q := by
  refine zW.enter (by decide +kernel) (Nat.le_of_ble_eq_true rfl) ?_
  change zW shC g (d + 1) mX7_seenAround (zi Q) 0 [(0, .ref 1), (1, .ref m), (2, .int l2)] [] M
  refine z_iconst (v := 0) dX7_seenAround_0 (by decide) ?_
  refine z_istore_n [(3, .int 0), (0, .ref 1), (1, .ref m), (2, .int l2)] dX7_seenAround_1 (by decide) rfl ?_
  refine z_iconst (v := 0) dX7_seenAround_2 (by decide) ?_
  refine z_istore [(4, .int 0), (3, .int 0), (0, .ref 1), (1, .ref m), (2, .int l2)] dX7_seenAround_3 (by decide) rfl ?_
  exact zW.sub [2, 3, 4, 1, 0] rfl h
set_option maxRecDepth 20000 in
theorem vX7_seenAround_5 {g : zG} {d : Nat} {Q : Int32 → zM → Prop} {M : zM} {m : Nat} {l2 : Int32} {l3 : Int32} {l4 : Int32} (hm : zMo shC m) (h : (4 ≤ l4 → Q l3 M) ∧ (¬ 4 ≤ l4 → zCi shC g d mX7_beside [.ref 1, .int l2, .int l4] M (fun x1 M1 => (x1 = (-1) → zW shC g (d + 1) mX7_seenAround (zi Q) 5 [(0, .ref 1), (1, .ref m), (2, .int l2), (3, .int l3), (4, .int (l4 + 1))] [] M1) ∧ (¬ x1 = (-1) → zCz shC g d mX7_isSeen [.ref 1, .ref m, .int x1] M1 (fun b1 M2 => (b1 = false → zW shC g (d + 1) mX7_seenAround (zi Q) 5 [(0, .ref 1), (1, .ref m), (2, .int l2), (3, .int l3), (4, .int (l4 + 1))] [] M2) ∧ (b1 = true → zW shC g (d + 1) mX7_seenAround (zi Q) 5 [(0, .ref 1), (1, .ref m), (2, .int l2), (3, .int (l3 + 1)), (4, .int (l4 + 1))] [] M2)))))) : zW shC g (d + 1) mX7_seenAround (zi Q) 5 [(0, .ref 1), (1, .ref m), (2, .int l2), (3, .int l3), (4, .int l4)] [] M := by
  refine z_iload dX7_seenAround_5 4 rfl ?_
  refine z_iconst (v := 4) dX7_seenAround_7 (by decide) ?_
  refine z_icmp_ge 45 dX7_seenAround_8 (by decide) (fun c1 => ?_) (fun c1 => ?_)
  · have h := h.1 c1
    refine z_iload_n dX7_seenAround_45 3 rfl ?_
    exact z_iret (st := []) rfl rfl dX7_seenAround_46 ⟨_, rfl, h⟩
  · have h := h.2 c1
    refine z_aload_n dX7_seenAround_11 0 rfl ?_
    refine z_iload_n dX7_seenAround_12 2 rfl ?_
    refine z_iload dX7_seenAround_13 4 rfl ?_
    refine z_callV (m2 := mX7_beside) (st := []) [.int l2, .int l4] okX7_beside (Or.inl lkX7_121) shC_1 rfl rfl rfl (Nat.le_of_ble_eq_true rfl) dX7_seenAround_15 (zgo_i h fun x1 M1 h => ?_)
    refine z_istore [(5, .int x1), (0, .ref 1), (1, .ref m), (2, .int l2), (3, .int l3), (4, .int l4)] dX7_seenAround_18 (by decide) rfl ?_
    refine z_iload dX7_seenAround_20 0 rfl ?_
    refine z_iconst (v := (-1)) dX7_seenAround_22 (by decide) ?_
    refine z_icmp_eq 39 dX7_seenAround_23 (by decide) (fun c2 => ?_) (fun c2 => ?_)
    · have h := h.1 c2
      refine z_iinc (x := l4) (v := (l4 + 1)) [(4, .int (l4 + 1)), (5, .int x1), (0, .ref 1), (1, .ref m), (2, .int l2), (3, .int l3)] dX7_seenAround_39 5 rfl rfl (by decide) rfl ?_
      refine z_goto 5 dX7_seenAround_42 (by decide) ?_
      exact zW.sub [2, 3, 4, 5, 0] rfl h
    · have h := h.2 c2
      refine z_aload_n dX7_seenAround_26 1 rfl ?_
      refine z_aload_n dX7_seenAround_27 2 rfl ?_
      refine z_iload dX7_seenAround_28 0 rfl ?_
      refine z_callV (m2 := mX7_isSeen) (st := []) [.ref m, .int x1] okX7_isSeen (Or.inl lkX7_125) shC_1 rfl rfl rfl (Nat.le_of_ble_eq_true rfl) dX7_seenAround_30 (zgo_z h fun b1 M2 h => ?_)
      refine z_ifb_eq 39 dX7_seenAround_33 (by decide) (fun c3 => ?_) (fun c3 => ?_)
      · have h := h.1 c3
        refine z_iinc (x := l4) (v := (l4 + 1)) [(4, .int (l4 + 1)), (5, .int x1), (0, .ref 1), (1, .ref m), (2, .int l2), (3, .int l3)] dX7_seenAround_39 5 rfl rfl (by decide) rfl ?_
        refine z_goto 5 dX7_seenAround_42 (by decide) ?_
        exact zW.sub [2, 3, 4, 5, 0] rfl h
      · have h := h.2 c3
        refine z_iinc (x := l3) (v := (l3 + 1)) [(3, .int (l3 + 1)), (5, .int x1), (0, .ref 1), (1, .ref m), (2, .int l2), (4, .int l4)] dX7_seenAround_36 4 rfl rfl (by decide) rfl ?_
        refine z_iinc (x := l4) (v := (l4 + 1)) [(4, .int (l4 + 1)), (3, .int (l3 + 1)), (5, .int x1), (0, .ref 1), (1, .ref m), (2, .int l2)] dX7_seenAround_39 5 rfl rfl (by decide) rfl ?_
        refine z_goto 5 dX7_seenAround_42 (by decide) ?_
        exact zW.sub [3, 4, 5, 1, 0] rfl h
theorem dX7_seenCells_0 : decode cX7_seenCells 0 = .ok (.lconst 0, 1) := by decide +kernel
theorem dX7_seenCells_1 : decode cX7_seenCells 1 = .ok (.lstore_n 2, 1) := by decide +kernel
theorem dX7_seenCells_2 : decode cX7_seenCells 2 = .ok (.iconst 0, 1) := by decide +kernel
theorem dX7_seenCells_3 : decode cX7_seenCells 3 = .ok (.istore 4, 2) := by decide +kernel
theorem dX7_seenCells_5 : decode cX7_seenCells 5 = .ok (.iload 4, 2) := by decide +kernel
theorem dX7_seenCells_7 : decode cX7_seenCells 7 = .ok (.bipush 64, 2) := by decide +kernel
theorem dX7_seenCells_9 : decode cX7_seenCells 9 = .ok (.if_icmp .ge 35, 3) := by decide +kernel
theorem dX7_seenCells_12 : decode cX7_seenCells 12 = .ok (.aload_n 0, 1) := by decide +kernel
theorem dX7_seenCells_13 : decode cX7_seenCells 13 = .ok (.iload 4, 2) := by decide +kernel
theorem dX7_seenCells_15 : decode cX7_seenCells 15 = .ok (.invokevirtual 108, 3) := by decide +kernel
theorem dX7_seenCells_18 : decode cX7_seenCells 18 = .ok (.ifCond .eq 20, 3) := by decide +kernel
theorem dX7_seenCells_21 : decode cX7_seenCells 21 = .ok (.aload_n 0, 1) := by decide +kernel
theorem dX7_seenCells_22 : decode cX7_seenCells 22 = .ok (.aload_n 1, 1) := by decide +kernel
theorem dX7_seenCells_23 : decode cX7_seenCells 23 = .ok (.iload 4, 2) := by decide +kernel
theorem dX7_seenCells_25 : decode cX7_seenCells 25 = .ok (.invokevirtual 125, 3) := by decide +kernel
theorem dX7_seenCells_28 : decode cX7_seenCells 28 = .ok (.ifCond .eq 10, 3) := by decide +kernel
theorem dX7_seenCells_31 : decode cX7_seenCells 31 = .ok (.lload_n 2, 1) := by decide +kernel
theorem dX7_seenCells_32 : decode cX7_seenCells 32 = .ok (.lconst 1, 1) := by decide +kernel
theorem dX7_seenCells_33 : decode cX7_seenCells 33 = .ok (.iload 4, 2) := by decide +kernel
theorem dX7_seenCells_35 : decode cX7_seenCells 35 = .ok (.lshl, 1) := by decide +kernel
theorem dX7_seenCells_36 : decode cX7_seenCells 36 = .ok (.lor, 1) := by decide +kernel
theorem dX7_seenCells_37 : decode cX7_seenCells 37 = .ok (.lstore_n 2, 1) := by decide +kernel
theorem dX7_seenCells_38 : decode cX7_seenCells 38 = .ok (.iinc 4 1, 3) := by decide +kernel
theorem dX7_seenCells_41 : decode cX7_seenCells 41 = .ok (.goto (-36), 3) := by decide +kernel
theorem dX7_seenCells_44 : decode cX7_seenCells 44 = .ok (.lload_n 2, 1) := by decide +kernel
theorem dX7_seenCells_45 : decode cX7_seenCells 45 = .ok (.lreturn, 1) := by decide +kernel
set_option maxRecDepth 20000 in
theorem vX7_seenCells {g : zG} {d : Nat} {Q : Int64 → zM → Prop} {M : zM} {m : Nat} (hm : zMo shC m) (h : zW shC g (d + 1) mX7_seenCells (zl Q) 5 [(0, .ref 1), (1, .ref m), (2, .long 0), (4, .int 0)] [] M) : zCl shC g (d + 1) mX7_seenCells [.ref 1, .ref m] M Q := by
  refine zW.enter (by decide +kernel) (Nat.le_of_ble_eq_true rfl) ?_
  change zW shC g (d + 1) mX7_seenCells (zl Q) 0 [(0, .ref 1), (1, .ref m)] [] M
  refine z_lconst (v := 0) dX7_seenCells_0 (by decide) ?_
  refine z_lstore_n [(2, .long 0), (0, .ref 1), (1, .ref m)] dX7_seenCells_1 (by decide) rfl ?_
  refine z_iconst (v := 0) dX7_seenCells_2 (by decide) ?_
  refine z_istore [(4, .int 0), (2, .long 0), (0, .ref 1), (1, .ref m)] dX7_seenCells_3 (by decide) rfl ?_
  exact zW.sub [2, 3, 1, 0] rfl h
set_option maxRecDepth 20000 in
theorem vX7_seenCells_5 {g : zG} {d : Nat} {Q : Int64 → zM → Prop} {M : zM} {m : Nat} {l2 : Int64} {l4 : Int32} (hm : zMo shC m) (h : (64 ≤ l4 → Q l2 M) ∧ (¬ 64 ≤ l4 → zCz shC g d mX7_isCell [.ref 1, .int l4] M (fun b1 M1 => (b1 = false → zW shC g (d + 1) mX7_seenCells (zl Q) 5 [(0, .ref 1), (1, .ref m), (2, .long l2), (4, .int (l4 + 1))] [] M1) ∧ (b1 = true → zCz shC g d mX7_isSeen [.ref 1, .ref m, .int l4] M1 (fun b2 M2 => (b2 = false → zW shC g (d + 1) mX7_seenCells (zl Q) 5 [(0, .ref 1), (1, .ref m), (2, .long l2), (4, .int (l4 + 1))] [] M2) ∧ (b2 = true → zW shC g (d + 1) mX7_seenCells (zl Q) 5 [(0, .ref 1), (1, .ref m), (2, .long (l2 ||| (1 <<< ((l4 : Int32).toInt64 &&& 63)))), (4, .int (l4 + 1))] [] M2)))))) : zW shC g (d + 1) mX7_seenCells (zl Q) 5 [(0, .ref 1), (1, .ref m), (2, .long l2), (4, .int l4)] [] M := by
  refine z_iload dX7_seenCells_5 3 rfl ?_
  refine z_bipush (v := 64) dX7_seenCells_7 (by decide) ?_
  refine z_icmp_ge 44 dX7_seenCells_9 (by decide) (fun c1 => ?_) (fun c1 => ?_)
  · have h := h.1 c1
    refine z_lload_n dX7_seenCells_44 2 rfl ?_
    exact z_lret (st := []) rfl dX7_seenCells_45 ⟨_, rfl, h⟩
  · have h := h.2 c1
    refine z_aload_n dX7_seenCells_12 0 rfl ?_
    refine z_iload dX7_seenCells_13 3 rfl ?_
    refine z_callV (m2 := mX7_isCell) (st := []) [.int l4] okX7_isCell (Or.inl lkX7_108) shC_1 rfl rfl rfl (Nat.le_of_ble_eq_true rfl) dX7_seenCells_15 (zgo_z h fun b1 M1 h => ?_)
    refine z_ifb_eq 38 dX7_seenCells_18 (by decide) (fun c2 => ?_) (fun c2 => ?_)
    · have h := h.1 c2
      refine z_iinc (x := l4) (v := (l4 + 1)) [(4, .int (l4 + 1)), (0, .ref 1), (1, .ref m), (2, .long l2)] dX7_seenCells_38 3 rfl rfl (by decide) rfl ?_
      refine z_goto 5 dX7_seenCells_41 (by decide) ?_
      exact zW.sub [1, 2, 3, 0] rfl h
    · have h := h.2 c2
      refine z_aload_n dX7_seenCells_21 0 rfl ?_
      refine z_aload_n dX7_seenCells_22 1 rfl ?_
      refine z_iload dX7_seenCells_23 3 rfl ?_
      refine z_callV (m2 := mX7_isSeen) (st := []) [.ref m, .int l4] okX7_isSeen (Or.inl lkX7_125) shC_1 rfl rfl rfl (Nat.le_of_ble_eq_true rfl) dX7_seenCells_25 (zgo_z h fun b2 M2 h => ?_)
      refine z_ifb_eq 38 dX7_seenCells_28 (by decide) (fun c3 => ?_) (fun c3 => ?_)
      · have h := h.1 c3
        refine z_iinc (x := l4) (v := (l4 + 1)) [(4, .int (l4 + 1)), (0, .ref 1), (1, .ref m), (2, .long l2)] dX7_seenCells_38 3 rfl rfl (by decide) rfl ?_
        refine z_goto 5 dX7_seenCells_41 (by decide) ?_
        exact zW.sub [1, 2, 3, 0] rfl h
      · have h := h.2 c3
        refine z_lload_n dX7_seenCells_31 2 rfl ?_
        refine z_lconst (v := 1) dX7_seenCells_32 (by decide) ?_
        refine z_iload dX7_seenCells_33 3 rfl ?_
        refine z_lshl dX7_seenCells_35 ?_
        refine z_lor dX7_seenCells_36 ?_
        refine z_lstore_n [(2, .long (l2 ||| (1 <<< ((l4 : Int32).toInt64 &&& 63)))), (0, .ref 1), (1, .ref m), (4, .int l4)] dX7_seenCells_37 (by decide) rfl ?_
        refine z_iinc (x := l4) (v := (l4 + 1)) [(4, .int (l4 + 1)), (2, .long (l2 ||| (1 <<< ((l4 : Int32).toInt64 &&& 63)))), (0, .ref 1), (1, .ref m)] dX7_seenCells_38 3 rfl rfl (by decide) rfl ?_
        refine z_goto 5 dX7_seenCells_41 (by decide) ?_
        exact zW.sub [2, 3, 1, 0] rfl h
theorem dX7_seenBox_0 : decode cX7_seenBox 0 = .ok (.iconst 0, 1) := by decide +kernel
theorem dX7_seenBox_1 : decode cX7_seenBox 1 = .ok (.istore_n 3, 1) := by decide +kernel
theorem dX7_seenBox_2 : decode cX7_seenBox 2 = .ok (.iconst 0, 1) := by decide +kernel
theorem dX7_seenBox_3 : decode cX7_seenBox 3 = .ok (.istore 4, 2) := by decide +kernel
theorem dX7_seenBox_5 : decode cX7_seenBox 5 = .ok (.iload 4, 2) := by decide +kernel
theorem dX7_seenBox_7 : decode cX7_seenBox 7 = .ok (.bipush 9, 2) := by decide +kernel
theorem dX7_seenBox_9 : decode cX7_seenBox 9 = .ok (.if_icmp .ge 30, 3) := by decide +kernel
theorem dX7_seenBox_12 : decode cX7_seenBox 12 = .ok (.aload_n 0, 1) := by decide +kernel
theorem dX7_seenBox_13 : decode cX7_seenBox 13 = .ok (.aload_n 1, 1) := by decide +kernel
theorem dX7_seenBox_14 : decode cX7_seenBox 14 = .ok (.iload_n 2, 1) := by decide +kernel
theorem dX7_seenBox_15 : decode cX7_seenBox 15 = .ok (.iload 4, 2) := by decide +kernel
theorem dX7_seenBox_17 : decode cX7_seenBox 17 = .ok (.invokestatic 129, 3) := by decide +kernel
theorem dX7_seenBox_20 : decode cX7_seenBox 20 = .ok (.invokevirtual 125, 3) := by decide +kernel
theorem dX7_seenBox_23 : decode cX7_seenBox 23 = .ok (.ifCond .eq 10, 3) := by decide +kernel
theorem dX7_seenBox_26 : decode cX7_seenBox 26 = .ok (.iload_n 3, 1) := by decide +kernel
theorem dX7_seenBox_27 : decode cX7_seenBox 27 = .ok (.iconst 1, 1) := by decide +kernel
theorem dX7_seenBox_28 : decode cX7_seenBox 28 = .ok (.iload 4, 2) := by decide +kernel
theorem dX7_seenBox_30 : decode cX7_seenBox 30 = .ok (.ishl, 1) := by decide +kernel
theorem dX7_seenBox_31 : decode cX7_seenBox 31 = .ok (.ior, 1) := by decide +kernel
theorem dX7_seenBox_32 : decode cX7_seenBox 32 = .ok (.istore_n 3, 1) := by decide +kernel
theorem dX7_seenBox_33 : decode cX7_seenBox 33 = .ok (.iinc 4 1, 3) := by decide +kernel
theorem dX7_seenBox_36 : decode cX7_seenBox 36 = .ok (.goto (-31), 3) := by decide +kernel
theorem dX7_seenBox_39 : decode cX7_seenBox 39 = .ok (.iload_n 3, 1) := by decide +kernel
theorem dX7_seenBox_40 : decode cX7_seenBox 40 = .ok (.ireturn, 1) := by decide +kernel
set_option maxRecDepth 20000 in
theorem vX7_seenBox {g : zG} {d : Nat} {Q : Int32 → zM → Prop} {M : zM} {m : Nat} {l2 : Int32} (hm : zMo shC m) (h : zW shC g (d + 1) mX7_seenBox (zi Q) 5 [(0, .ref 1), (1, .ref m), (2, .int l2), (3, .int 0), (4, .int 0)] [] M) : zCi shC g (d + 1) mX7_seenBox [.ref 1, .ref m, .int l2] M Q := by
  refine zW.enter (by decide +kernel) (Nat.le_of_ble_eq_true rfl) ?_
  change zW shC g (d + 1) mX7_seenBox (zi Q) 0 [(0, .ref 1), (1, .ref m), (2, .int l2)] [] M
  refine z_iconst (v := 0) dX7_seenBox_0 (by decide) ?_
  refine z_istore_n [(3, .int 0), (0, .ref 1), (1, .ref m), (2, .int l2)] dX7_seenBox_1 (by decide) rfl ?_
  refine z_iconst (v := 0) dX7_seenBox_2 (by decide) ?_
  refine z_istore [(4, .int 0), (3, .int 0), (0, .ref 1), (1, .ref m), (2, .int l2)] dX7_seenBox_3 (by decide) rfl ?_
  exact zW.sub [2, 3, 4, 1, 0] rfl h
set_option maxRecDepth 20000 in
theorem vX7_seenBox_5 {g : zG} {d : Nat} {Q : Int32 → zM → Prop} {M : zM} {m : Nat} {l2 : Int32} {l3 : Int32} {l4 : Int32} (hm : zMo shC m) (h : (9 ≤ l4 → Q l3 M) ∧ (¬ 9 ≤ l4 → zCi shC g d mX7_inBox [.int l2, .int l4] M (fun x1 M1 => zCz shC g d mX7_isSeen [.ref 1, .ref m, .int x1] M1 (fun b1 M2 => (b1 = false → zW shC g (d + 1) mX7_seenBox (zi Q) 5 [(0, .ref 1), (1, .ref m), (2, .int l2), (3, .int l3), (4, .int (l4 + 1))] [] M2) ∧ (b1 = true → zW shC g (d + 1) mX7_seenBox (zi Q) 5 [(0, .ref 1), (1, .ref m), (2, .int l2), (3, .int (l3 ||| (1 <<< (l4 &&& 31)))), (4, .int (l4 + 1))] [] M2))))) : zW shC g (d + 1) mX7_seenBox (zi Q) 5 [(0, .ref 1), (1, .ref m), (2, .int l2), (3, .int l3), (4, .int l4)] [] M := by
  refine z_iload dX7_seenBox_5 4 rfl ?_
  refine z_bipush (v := 9) dX7_seenBox_7 (by decide) ?_
  refine z_icmp_ge 39 dX7_seenBox_9 (by decide) (fun c1 => ?_) (fun c1 => ?_)
  · have h := h.1 c1
    refine z_iload_n dX7_seenBox_39 3 rfl ?_
    exact z_iret (st := []) rfl rfl dX7_seenBox_40 ⟨_, rfl, h⟩
  · have h := h.2 c1
    refine z_aload_n dX7_seenBox_12 0 rfl ?_
    refine z_aload_n dX7_seenBox_13 1 rfl ?_
    refine z_iload_n dX7_seenBox_14 2 rfl ?_
    refine z_iload dX7_seenBox_15 4 rfl ?_
    refine z_callS (m2 := mX7_inBox) (st := [.ref m, .ref 1]) [.int l2, .int l4] okX7_inBox (Or.inl lkX7_129) rfl rfl (Nat.le_of_ble_eq_true rfl) dX7_seenBox_17 (zgo_i h fun x1 M1 h => ?_)
    refine z_callV (m2 := mX7_isSeen) (st := []) [.ref m, .int x1] okX7_isSeen (Or.inl lkX7_125) shC_1 rfl rfl rfl (Nat.le_of_ble_eq_true rfl) dX7_seenBox_20 (zgo_z h fun b1 M2 h => ?_)
    refine z_ifb_eq 33 dX7_seenBox_23 (by decide) (fun c2 => ?_) (fun c2 => ?_)
    · have h := h.1 c2
      refine z_iinc (x := l4) (v := (l4 + 1)) [(4, .int (l4 + 1)), (0, .ref 1), (1, .ref m), (2, .int l2), (3, .int l3)] dX7_seenBox_33 4 rfl rfl (by decide) rfl ?_
      refine z_goto 5 dX7_seenBox_36 (by decide) ?_
      exact zW.sub [1, 2, 3, 4, 0] rfl h
    · have h := h.2 c2
      refine z_iload_n dX7_seenBox_26 3 rfl ?_
      refine z_iconst (v := 1) dX7_seenBox_27 (by decide) ?_
      refine z_iload dX7_seenBox_28 4 rfl ?_
      refine z_ishl dX7_seenBox_30 ?_
      refine z_ior dX7_seenBox_31 ?_
      refine z_istore_n [(3, .int (l3 ||| (1 <<< (l4 &&& 31)))), (0, .ref 1), (1, .ref m), (2, .int l2), (4, .int l4)] dX7_seenBox_32 (by decide) rfl ?_
      refine z_iinc (x := l4) (v := (l4 + 1)) [(4, .int (l4 + 1)), (3, .int (l3 ||| (1 <<< (l4 &&& 31)))), (0, .ref 1), (1, .ref m), (2, .int l2)] dX7_seenBox_33 4 rfl rfl (by decide) rfl ?_
      refine z_goto 5 dX7_seenBox_36 (by decide) ?_
      exact zW.sub [2, 3, 4, 1, 0] rfl h
theorem dX7_inBox_0 : decode cX7_inBox 0 = .ok (.iload_n 0, 1) := by decide +kernel
theorem dX7_inBox_1 : decode cX7_inBox 1 = .ok (.iload_n 1, 1) := by decide +kernel
theorem dX7_inBox_2 : decode cX7_inBox 2 = .ok (.iconst 3, 1) := by decide +kernel
theorem dX7_inBox_3 : decode cX7_inBox 3 = .ok (.idiv, 1) := by decide +kernel
theorem dX7_inBox_4 : decode cX7_inBox 4 = .ok (.bipush 8, 2) := by decide +kernel
theorem dX7_inBox_6 : decode cX7_inBox 6 = .ok (.imul, 1) := by decide +kernel
theorem dX7_inBox_7 : decode cX7_inBox 7 = .ok (.iadd, 1) := by decide +kernel
theorem dX7_inBox_8 : decode cX7_inBox 8 = .ok (.iload_n 1, 1) := by decide +kernel
theorem dX7_inBox_9 : decode cX7_inBox 9 = .ok (.iconst 3, 1) := by decide +kernel
theorem dX7_inBox_10 : decode cX7_inBox 10 = .ok (.irem, 1) := by decide +kernel
theorem dX7_inBox_11 : decode cX7_inBox 11 = .ok (.iadd, 1) := by decide +kernel
theorem dX7_inBox_12 : decode cX7_inBox 12 = .ok (.ireturn, 1) := by decide +kernel
set_option maxRecDepth 20000 in
theorem vX7_inBox {g : zG} {d : Nat} {Q : Int32 → zM → Prop} {M : zM} {l0 : Int32} {l1 : Int32} (h : Q ((l0 + ((l1 / 3) * 8)) + (l1 - l1 / 3 * 3)) M) : zCi shC g d mX7_inBox [.int l0, .int l1] M Q := by
  refine zW.enter (by decide +kernel) (Nat.le_of_ble_eq_true rfl) ?_
  change zW shC g d mX7_inBox (zi Q) 0 [(0, .int l0), (1, .int l1)] [] M
  refine z_iload_n dX7_inBox_0 0 rfl ?_
  refine z_iload_n dX7_inBox_1 1 rfl ?_
  refine z_iconst (v := 3) dX7_inBox_2 (by decide) ?_
  refine z_idiv dX7_inBox_3 (by decide) ?_
  refine z_bipush (v := 8) dX7_inBox_4 (by decide) ?_
  refine z_imul dX7_inBox_6 ?_
  refine z_iadd dX7_inBox_7 ?_
  refine z_iload_n dX7_inBox_8 1 rfl ?_
  refine z_iconst (v := 3) dX7_inBox_9 (by decide) ?_
  refine z_irem dX7_inBox_10 (by decide) ?_
  refine z_iadd dX7_inBox_11 ?_
  exact z_iret (st := []) rfl rfl dX7_inBox_12 ⟨_, rfl, h⟩
theorem dX7_readBox_0 : decode cX7_readBox 0 = .ok (.aload_n 0, 1) := by decide +kernel
theorem dX7_readBox_1 : decode cX7_readBox 1 = .ok (.aload_n 1, 1) := by decide +kernel
theorem dX7_readBox_2 : decode cX7_readBox 2 = .ok (.iload_n 2, 1) := by decide +kernel
theorem dX7_readBox_3 : decode cX7_readBox 3 = .ok (.invokevirtual 132, 3) := by decide +kernel
theorem dX7_readBox_6 : decode cX7_readBox 6 = .ok (.istore_n 3, 1) := by decide +kernel
theorem dX7_readBox_7 : decode cX7_readBox 7 = .ok (.iconst 0, 1) := by decide +kernel
theorem dX7_readBox_8 : decode cX7_readBox 8 = .ok (.istore 4, 2) := by decide +kernel
theorem dX7_readBox_10 : decode cX7_readBox 10 = .ok (.iload 4, 2) := by decide +kernel
theorem dX7_readBox_12 : decode cX7_readBox 12 = .ok (.aload_n 0, 1) := by decide +kernel
theorem dX7_readBox_13 : decode cX7_readBox 13 = .ok (.getfield 58, 3) := by decide +kernel
theorem dX7_readBox_16 : decode cX7_readBox 16 = .ok (.getfield 136, 3) := by decide +kernel
theorem dX7_readBox_19 : decode cX7_readBox 19 = .ok (.if_icmp .ge 26, 3) := by decide +kernel
theorem dX7_readBox_22 : decode cX7_readBox 22 = .ok (.aload_n 0, 1) := by decide +kernel
theorem dX7_readBox_23 : decode cX7_readBox 23 = .ok (.getfield 58, 3) := by decide +kernel
theorem dX7_readBox_26 : decode cX7_readBox 26 = .ok (.getfield 139, 3) := by decide +kernel
theorem dX7_readBox_29 : decode cX7_readBox 29 = .ok (.iload 4, 2) := by decide +kernel
theorem dX7_readBox_31 : decode cX7_readBox 31 = .ok (.iaload, 1) := by decide +kernel
theorem dX7_readBox_32 : decode cX7_readBox 32 = .ok (.iload_n 3, 1) := by decide +kernel
theorem dX7_readBox_33 : decode cX7_readBox 33 = .ok (.if_icmp .ne 6, 3) := by decide +kernel
theorem dX7_readBox_36 : decode cX7_readBox 36 = .ok (.iload 4, 2) := by decide +kernel
theorem dX7_readBox_38 : decode cX7_readBox 38 = .ok (.ireturn, 1) := by decide +kernel
theorem dX7_readBox_39 : decode cX7_readBox 39 = .ok (.iinc 4 1, 3) := by decide +kernel
theorem dX7_readBox_42 : decode cX7_readBox 42 = .ok (.goto (-32), 3) := by decide +kernel
theorem dX7_readBox_45 : decode cX7_readBox 45 = .ok (.iconst (-1), 1) := by decide +kernel
theorem dX7_readBox_46 : decode cX7_readBox 46 = .ok (.ireturn, 1) := by decide +kernel
set_option maxRecDepth 20000 in
theorem vX7_readBox {g : zG} {d : Nat} {Q : Int32 → zM → Prop} {M : zM} {m : Nat} {l2 : Int32} (hm : zMo shC m) (h : zCi shC g d mX7_seenBox [.ref 1, .ref m, .int l2] M (fun x1 M1 => zW shC g (d + 1) mX7_readBox (zi Q) 10 [(0, .ref 1), (3, .int x1), (4, .int 0)] [] M1)) : zCi shC g (d + 1) mX7_readBox [.ref 1, .ref m, .int l2] M Q := by
  refine zW.enter (by decide +kernel) (Nat.le_of_ble_eq_true rfl) ?_
  change zW shC g (d + 1) mX7_readBox (zi Q) 0 [(0, .ref 1), (1, .ref m), (2, .int l2)] [] M
  refine z_aload_n dX7_readBox_0 0 rfl ?_
  refine z_aload_n dX7_readBox_1 1 rfl ?_
  refine z_iload_n dX7_readBox_2 2 rfl ?_
  refine z_callV (m2 := mX7_seenBox) (st := []) [.ref m, .int l2] okX7_seenBox (Or.inl lkX7_132) shC_1 rfl rfl rfl (Nat.le_of_ble_eq_true rfl) dX7_readBox_3 (zgo_i h fun x1 M1 h => ?_)
  refine z_istore_n [(3, .int x1), (0, .ref 1), (1, .ref m), (2, .int l2)] dX7_readBox_6 (by decide) rfl ?_
  refine z_iconst (v := 0) dX7_readBox_7 (by decide) ?_
  refine z_istore [(4, .int 0), (3, .int x1), (0, .ref 1), (1, .ref m), (2, .int l2)] dX7_readBox_8 (by decide) rfl ?_
  exact zW.sub [2, 1, 0] rfl h
set_option maxRecDepth 20000 in
theorem vX7_readBox_10 {g : zG} {d : Nat} {Q : Int32 → zM → Prop} {M : zM} {m : Nat} {l3 : Int32} {l4 : Int32} (hm : zMo shC m) (h : ((M 22 1) ≤ l4 → Q (-1) M) ∧ (¬ (M 22 1) ≤ l4 → ∃ k1 : Nat, l4 = iv k1 ∧ k1 < 8 ∧ (¬ (M 23 k1) = l3 → zW shC g (d + 1) mX7_readBox (zi Q) 10 [(0, .ref 1), (3, .int l3), (4, .int (l4 + 1))] [] M) ∧ ((M 23 k1) = l3 → Q l4 M))) : zW shC g (d + 1) mX7_readBox (zi Q) 10 [(0, .ref 1), (3, .int l3), (4, .int l4)] [] M := by
  refine z_iload dX7_readBox_10 2 rfl ?_
  refine z_aload_n dX7_readBox_12 0 rfl ?_
  refine z_getr shC_1 rfl flX7_58 dX7_readBox_13 ?_
  refine z_geti shC_22 rfl flX7_136 dX7_readBox_16 ?_
  refine z_icmp_ge 45 dX7_readBox_19 (by decide) (fun c1 => ?_) (fun c1 => ?_)
  · have h := h.1 c1
    refine z_iconst (v := (-1)) dX7_readBox_45 (by decide) ?_
    exact z_iret (st := []) rfl rfl dX7_readBox_46 ⟨_, rfl, h⟩
  · have h := h.2 c1
    refine z_aload_n dX7_readBox_22 0 rfl ?_
    refine z_getr shC_1 rfl flX7_58 dX7_readBox_23 ?_
    refine z_getr shC_22 rfl flX7_139 dX7_readBox_26 ?_
    refine z_iload dX7_readBox_29 2 rfl ?_
    obtain ⟨k1, ek1, uk1, h⟩ := h
    refine z_iald2 (k0 := k1) shC_23 (by decide) ek1 uk1 dX7_readBox_31 ?_
    refine z_iload_n dX7_readBox_32 1 rfl ?_
    refine z_icmp_ne 39 dX7_readBox_33 (by decide) (fun c2 => ?_) (fun c2 => ?_)
    · have h := h.1 c2
      refine z_iinc (x := l4) (v := (l4 + 1)) [(4, .int (l4 + 1)), (0, .ref 1), (3, .int l3)] dX7_readBox_39 2 rfl rfl (by decide) rfl ?_
      refine z_goto 10 dX7_readBox_42 (by decide) ?_
      exact zW.sub [1, 2, 0] rfl h
    · have h := h.2 c2
      refine z_iload dX7_readBox_36 2 rfl ?_
      exact z_iret (st := []) rfl rfl dX7_readBox_38 ⟨_, rfl, h⟩
theorem dX7_isReadSo_0 : decode cX7_isReadSo 0 = .ok (.aload_n 0, 1) := by decide +kernel
theorem dX7_isReadSo_1 : decode cX7_isReadSo 1 = .ok (.aload_n 1, 1) := by decide +kernel
theorem dX7_isReadSo_2 : decode cX7_isReadSo 2 = .ok (.aload_n 0, 1) := by decide +kernel
theorem dX7_isReadSo_3 : decode cX7_isReadSo 3 = .ok (.getfield 58, 3) := by decide +kernel
theorem dX7_isReadSo_6 : decode cX7_isReadSo 6 = .ok (.getfield 142, 3) := by decide +kernel
theorem dX7_isReadSo_9 : decode cX7_isReadSo 9 = .ok (.iload_n 2, 1) := by decide +kernel
theorem dX7_isReadSo_10 : decode cX7_isReadSo 10 = .ok (.iaload, 1) := by decide +kernel
theorem dX7_isReadSo_11 : decode cX7_isReadSo 11 = .ok (.invokevirtual 145, 3) := by decide +kernel
theorem dX7_isReadSo_14 : decode cX7_isReadSo 14 = .ok (.aload_n 0, 1) := by decide +kernel
theorem dX7_isReadSo_15 : decode cX7_isReadSo 15 = .ok (.getfield 58, 3) := by decide +kernel
theorem dX7_isReadSo_18 : decode cX7_isReadSo 18 = .ok (.getfield 148, 3) := by decide +kernel
theorem dX7_isReadSo_21 : decode cX7_isReadSo 21 = .ok (.iload_n 2, 1) := by decide +kernel
theorem dX7_isReadSo_22 : decode cX7_isReadSo 22 = .ok (.iaload, 1) := by decide +kernel
theorem dX7_isReadSo_23 : decode cX7_isReadSo 23 = .ok (.if_icmp .ne 7, 3) := by decide +kernel
theorem dX7_isReadSo_26 : decode cX7_isReadSo 26 = .ok (.iconst 1, 1) := by decide +kernel
theorem dX7_isReadSo_27 : decode cX7_isReadSo 27 = .ok (.goto 4, 3) := by decide +kernel
theorem dX7_isReadSo_30 : decode cX7_isReadSo 30 = .ok (.iconst 0, 1) := by decide +kernel
theorem dX7_isReadSo_31 : decode cX7_isReadSo 31 = .ok (.ireturn, 1) := by decide +kernel
set_option maxRecDepth 20000 in
theorem vX7_isReadSo {g : zG} {d : Nat} {Q : Bool → zM → Prop} {M : zM} {m : Nat} {l2 : Int32} (hm : zMo shC m) (h : ∃ k1 : Nat, l2 = iv k1 ∧ k1 < 10 ∧ zCi shC g d mX7_readBox [.ref 1, .ref m, .int (M 25 k1)] M (fun x1 M1 => (¬ x1 = (M1 24 k1) → Q false M1) ∧ (x1 = (M1 24 k1) → Q true M1))) : zCz shC g (d + 1) mX7_isReadSo [.ref 1, .ref m, .int l2] M Q := by
  refine zW.enter (by decide +kernel) (Nat.le_of_ble_eq_true rfl) ?_
  change zW shC g (d + 1) mX7_isReadSo (zz Q) 0 [(0, .ref 1), (1, .ref m), (2, .int l2)] [] M
  refine z_aload_n dX7_isReadSo_0 0 rfl ?_
  refine z_aload_n dX7_isReadSo_1 1 rfl ?_
  refine z_aload_n dX7_isReadSo_2 0 rfl ?_
  refine z_getr shC_1 rfl flX7_58 dX7_isReadSo_3 ?_
  refine z_getr shC_22 rfl flX7_142 dX7_isReadSo_6 ?_
  refine z_iload_n dX7_isReadSo_9 2 rfl ?_
  obtain ⟨k1, ek1, uk1, h⟩ := h
  refine z_iald2 (k0 := k1) shC_25 (by decide) ek1 uk1 dX7_isReadSo_10 ?_
  refine z_callV (m2 := mX7_readBox) (st := []) [.ref m, .int (M 25 k1)] okX7_readBox (Or.inl lkX7_145) shC_1 rfl rfl rfl (Nat.le_of_ble_eq_true rfl) dX7_isReadSo_11 (zgo_i h fun x1 M1 h => ?_)
  refine z_aload_n dX7_isReadSo_14 0 rfl ?_
  refine z_getr shC_1 rfl flX7_58 dX7_isReadSo_15 ?_
  refine z_getr shC_22 rfl flX7_148 dX7_isReadSo_18 ?_
  refine z_iload_n dX7_isReadSo_21 2 rfl ?_
  refine z_iald2 (k0 := k1) shC_24 (by decide) ek1 uk1 dX7_isReadSo_22 ?_
  refine z_icmp_ne 30 dX7_isReadSo_23 (by decide) (fun c1 => ?_) (fun c1 => ?_)
  · have h := h.1 c1
    refine z_iconst (v := 0) dX7_isReadSo_30 (by decide) ?_
    exact z_zret (b := false) rfl rfl dX7_isReadSo_31 h
  · have h := h.2 c1
    refine z_iconst (v := 1) dX7_isReadSo_26 (by decide) ?_
    refine z_goto 31 dX7_isReadSo_27 (by decide) ?_
    exact z_zret (b := true) rfl rfl dX7_isReadSo_31 h
theorem dX7_wantsRead_0 : decode cX7_wantsRead 0 = .ok (.iconst 0, 1) := by decide +kernel
theorem dX7_wantsRead_1 : decode cX7_wantsRead 1 = .ok (.istore_n 2, 1) := by decide +kernel
theorem dX7_wantsRead_2 : decode cX7_wantsRead 2 = .ok (.iconst 0, 1) := by decide +kernel
theorem dX7_wantsRead_3 : decode cX7_wantsRead 3 = .ok (.istore_n 3, 1) := by decide +kernel
theorem dX7_wantsRead_4 : decode cX7_wantsRead 4 = .ok (.iload_n 3, 1) := by decide +kernel
theorem dX7_wantsRead_5 : decode cX7_wantsRead 5 = .ok (.aload_n 0, 1) := by decide +kernel
theorem dX7_wantsRead_6 : decode cX7_wantsRead 6 = .ok (.getfield 58, 3) := by decide +kernel
theorem dX7_wantsRead_9 : decode cX7_wantsRead 9 = .ok (.getfield 151, 3) := by decide +kernel
theorem dX7_wantsRead_12 : decode cX7_wantsRead 12 = .ok (.if_icmp .ge 24, 3) := by decide +kernel
theorem dX7_wantsRead_15 : decode cX7_wantsRead 15 = .ok (.aload_n 0, 1) := by decide +kernel
theorem dX7_wantsRead_16 : decode cX7_wantsRead 16 = .ok (.aload_n 1, 1) := by decide +kernel
theorem dX7_wantsRead_17 : decode cX7_wantsRead 17 = .ok (.iload_n 3, 1) := by decide +kernel
theorem dX7_wantsRead_18 : decode cX7_wantsRead 18 = .ok (.invokevirtual 154, 3) := by decide +kernel
theorem dX7_wantsRead_21 : decode cX7_wantsRead 21 = .ok (.ifCond .eq 9, 3) := by decide +kernel
theorem dX7_wantsRead_24 : decode cX7_wantsRead 24 = .ok (.iload_n 2, 1) := by decide +kernel
theorem dX7_wantsRead_25 : decode cX7_wantsRead 25 = .ok (.iconst 1, 1) := by decide +kernel
theorem dX7_wantsRead_26 : decode cX7_wantsRead 26 = .ok (.iload_n 3, 1) := by decide +kernel
theorem dX7_wantsRead_27 : decode cX7_wantsRead 27 = .ok (.ishl, 1) := by decide +kernel
theorem dX7_wantsRead_28 : decode cX7_wantsRead 28 = .ok (.ior, 1) := by decide +kernel
theorem dX7_wantsRead_29 : decode cX7_wantsRead 29 = .ok (.istore_n 2, 1) := by decide +kernel
theorem dX7_wantsRead_30 : decode cX7_wantsRead 30 = .ok (.iinc 3 1, 3) := by decide +kernel
theorem dX7_wantsRead_33 : decode cX7_wantsRead 33 = .ok (.goto (-29), 3) := by decide +kernel
theorem dX7_wantsRead_36 : decode cX7_wantsRead 36 = .ok (.iload_n 2, 1) := by decide +kernel
theorem dX7_wantsRead_37 : decode cX7_wantsRead 37 = .ok (.ireturn, 1) := by decide +kernel
set_option maxRecDepth 20000 in
theorem vX7_wantsRead {g : zG} {d : Nat} {Q : Int32 → zM → Prop} {M : zM} {m : Nat} (hm : zMo shC m) (h : zW shC g (d + 1) mX7_wantsRead (zi Q) 4 [(0, .ref 1), (1, .ref m), (2, .int 0), (3, .int 0)] [] M) : zCi shC g (d + 1) mX7_wantsRead [.ref 1, .ref m] M Q := by
  refine zW.enter (by decide +kernel) (Nat.le_of_ble_eq_true rfl) ?_
  change zW shC g (d + 1) mX7_wantsRead (zi Q) 0 [(0, .ref 1), (1, .ref m)] [] M
  refine z_iconst (v := 0) dX7_wantsRead_0 (by decide) ?_
  refine z_istore_n [(2, .int 0), (0, .ref 1), (1, .ref m)] dX7_wantsRead_1 (by decide) rfl ?_
  refine z_iconst (v := 0) dX7_wantsRead_2 (by decide) ?_
  refine z_istore_n [(3, .int 0), (2, .int 0), (0, .ref 1), (1, .ref m)] dX7_wantsRead_3 (by decide) rfl ?_
  exact zW.sub [2, 3, 1, 0] rfl h
set_option maxRecDepth 20000 in
theorem vX7_wantsRead_4 {g : zG} {d : Nat} {Q : Int32 → zM → Prop} {M : zM} {m : Nat} {l2 : Int32} {l3 : Int32} (hm : zMo shC m) (h : ((M 22 4) ≤ l3 → Q l2 M) ∧ (¬ (M 22 4) ≤ l3 → zCz shC g d mX7_isReadSo [.ref 1, .ref m, .int l3] M (fun b1 M1 => (b1 = false → zW shC g (d + 1) mX7_wantsRead (zi Q) 4 [(0, .ref 1), (1, .ref m), (2, .int l2), (3, .int (l3 + 1))] [] M1) ∧ (b1 = true → zW shC g (d + 1) mX7_wantsRead (zi Q) 4 [(0, .ref 1), (1, .ref m), (2, .int (l2 ||| (1 <<< (l3 &&& 31)))), (3, .int (l3 + 1))] [] M1)))) : zW shC g (d + 1) mX7_wantsRead (zi Q) 4 [(0, .ref 1), (1, .ref m), (2, .int l2), (3, .int l3)] [] M := by
  refine z_iload_n dX7_wantsRead_4 3 rfl ?_
  refine z_aload_n dX7_wantsRead_5 0 rfl ?_
  refine z_getr shC_1 rfl flX7_58 dX7_wantsRead_6 ?_
  refine z_geti shC_22 rfl flX7_151 dX7_wantsRead_9 ?_
  refine z_icmp_ge 36 dX7_wantsRead_12 (by decide) (fun c1 => ?_) (fun c1 => ?_)
  · have h := h.1 c1
    refine z_iload_n dX7_wantsRead_36 2 rfl ?_
    exact z_iret (st := []) rfl rfl dX7_wantsRead_37 ⟨_, rfl, h⟩
  · have h := h.2 c1
    refine z_aload_n dX7_wantsRead_15 0 rfl ?_
    refine z_aload_n dX7_wantsRead_16 1 rfl ?_
    refine z_iload_n dX7_wantsRead_17 3 rfl ?_
    refine z_callV (m2 := mX7_isReadSo) (st := []) [.ref m, .int l3] okX7_isReadSo (Or.inl lkX7_154) shC_1 rfl rfl rfl (Nat.le_of_ble_eq_true rfl) dX7_wantsRead_18 (zgo_z h fun b1 M1 h => ?_)
    refine z_ifb_eq 30 dX7_wantsRead_21 (by decide) (fun c2 => ?_) (fun c2 => ?_)
    · have h := h.1 c2
      refine z_iinc (x := l3) (v := (l3 + 1)) [(3, .int (l3 + 1)), (0, .ref 1), (1, .ref m), (2, .int l2)] dX7_wantsRead_30 3 rfl rfl (by decide) rfl ?_
      refine z_goto 4 dX7_wantsRead_33 (by decide) ?_
      exact zW.sub [1, 2, 3, 0] rfl h
    · have h := h.2 c2
      refine z_iload_n dX7_wantsRead_24 2 rfl ?_
      refine z_iconst (v := 1) dX7_wantsRead_25 (by decide) ?_
      refine z_iload_n dX7_wantsRead_26 3 rfl ?_
      refine z_ishl dX7_wantsRead_27 ?_
      refine z_ior dX7_wantsRead_28 ?_
      refine z_istore_n [(2, .int (l2 ||| (1 <<< (l3 &&& 31)))), (0, .ref 1), (1, .ref m), (3, .int l3)] dX7_wantsRead_29 (by decide) rfl ?_
      refine z_iinc (x := l3) (v := (l3 + 1)) [(3, .int (l3 + 1)), (2, .int (l2 ||| (1 <<< (l3 &&& 31)))), (0, .ref 1), (1, .ref m)] dX7_wantsRead_30 3 rfl rfl (by decide) rfl ?_
      refine z_goto 4 dX7_wantsRead_33 (by decide) ?_
      exact zW.sub [2, 3, 1, 0] rfl h
theorem dX7_writtenBy_0 : decode cX7_writtenBy 0 = .ok (.iconst 0, 1) := by decide +kernel
theorem dX7_writtenBy_1 : decode cX7_writtenBy 1 = .ok (.istore_n 3, 1) := by decide +kernel
theorem dX7_writtenBy_2 : decode cX7_writtenBy 2 = .ok (.iconst 0, 1) := by decide +kernel
theorem dX7_writtenBy_3 : decode cX7_writtenBy 3 = .ok (.istore 4, 2) := by decide +kernel
theorem dX7_writtenBy_5 : decode cX7_writtenBy 5 = .ok (.iload 4, 2) := by decide +kernel
theorem dX7_writtenBy_7 : decode cX7_writtenBy 7 = .ok (.bipush 9, 2) := by decide +kernel
theorem dX7_writtenBy_9 : decode cX7_writtenBy 9 = .ok (.if_icmp .ge 47, 3) := by decide +kernel
theorem dX7_writtenBy_12 : decode cX7_writtenBy 12 = .ok (.iload_n 2, 1) := by decide +kernel
theorem dX7_writtenBy_13 : decode cX7_writtenBy 13 = .ok (.iload 4, 2) := by decide +kernel
theorem dX7_writtenBy_15 : decode cX7_writtenBy 15 = .ok (.invokestatic 129, 3) := by decide +kernel
theorem dX7_writtenBy_18 : decode cX7_writtenBy 18 = .ok (.istore 5, 2) := by decide +kernel
theorem dX7_writtenBy_20 : decode cX7_writtenBy 20 = .ok (.aload_n 0, 1) := by decide +kernel
theorem dX7_writtenBy_21 : decode cX7_writtenBy 21 = .ok (.aload_n 0, 1) := by decide +kernel
theorem dX7_writtenBy_22 : decode cX7_writtenBy 22 = .ok (.getfield 34, 3) := by decide +kernel
theorem dX7_writtenBy_25 : decode cX7_writtenBy 25 = .ok (.iload 5, 2) := by decide +kernel
theorem dX7_writtenBy_27 : decode cX7_writtenBy 27 = .ok (.invokevirtual 125, 3) := by decide +kernel
theorem dX7_writtenBy_30 : decode cX7_writtenBy 30 = .ok (.ifCond .eq 20, 3) := by decide +kernel
theorem dX7_writtenBy_33 : decode cX7_writtenBy 33 = .ok (.aload_n 0, 1) := by decide +kernel
theorem dX7_writtenBy_34 : decode cX7_writtenBy 34 = .ok (.getfield 34, 3) := by decide +kernel
theorem dX7_writtenBy_37 : decode cX7_writtenBy 37 = .ok (.getfield 157, 3) := by decide +kernel
theorem dX7_writtenBy_40 : decode cX7_writtenBy 40 = .ok (.iload 5, 2) := by decide +kernel
theorem dX7_writtenBy_42 : decode cX7_writtenBy 42 = .ok (.iaload, 1) := by decide +kernel
theorem dX7_writtenBy_43 : decode cX7_writtenBy 43 = .ok (.iload_n 1, 1) := by decide +kernel
theorem dX7_writtenBy_44 : decode cX7_writtenBy 44 = .ok (.if_icmp .ne 6, 3) := by decide +kernel
theorem dX7_writtenBy_47 : decode cX7_writtenBy 47 = .ok (.iinc 3 1, 3) := by decide +kernel
theorem dX7_writtenBy_50 : decode cX7_writtenBy 50 = .ok (.iinc 4 1, 3) := by decide +kernel
theorem dX7_writtenBy_53 : decode cX7_writtenBy 53 = .ok (.goto (-48), 3) := by decide +kernel
theorem dX7_writtenBy_56 : decode cX7_writtenBy 56 = .ok (.iload_n 3, 1) := by decide +kernel
theorem dX7_writtenBy_57 : decode cX7_writtenBy 57 = .ok (.ireturn, 1) := by decide +kernel
set_option maxRecDepth 20000 in
theorem vX7_writtenBy {g : zG} {d : Nat} {Q : Int32 → zM → Prop} {M : zM} {l1 : Int32} {l2 : Int32} (h : zW shC g (d + 1) mX7_writtenBy (zi Q) 5 [(0, .ref 1), (1, .int l1), (2, .int l2), (3, .int 0), (4, .int 0)] [] M) : zCi shC g (d + 1) mX7_writtenBy [.ref 1, .int l1, .int l2] M Q := by
  refine zW.enter (by decide +kernel) (Nat.le_of_ble_eq_true rfl) ?_
  change zW shC g (d + 1) mX7_writtenBy (zi Q) 0 [(0, .ref 1), (1, .int l1), (2, .int l2)] [] M
  refine z_iconst (v := 0) dX7_writtenBy_0 (by decide) ?_
  refine z_istore_n [(3, .int 0), (0, .ref 1), (1, .int l1), (2, .int l2)] dX7_writtenBy_1 (by decide) rfl ?_
  refine z_iconst (v := 0) dX7_writtenBy_2 (by decide) ?_
  refine z_istore [(4, .int 0), (3, .int 0), (0, .ref 1), (1, .int l1), (2, .int l2)] dX7_writtenBy_3 (by decide) rfl ?_
  exact zW.sub [2, 3, 4, 1, 0] rfl h
set_option maxRecDepth 20000 in
theorem vX7_writtenBy_5 {g : zG} {d : Nat} {Q : Int32 → zM → Prop} {M : zM} {l1 : Int32} {l2 : Int32} {l3 : Int32} {l4 : Int32} (h : (9 ≤ l4 → Q l3 M) ∧ (¬ 9 ≤ l4 → zCi shC g d mX7_inBox [.int l2, .int l4] M (fun x1 M1 => zCz shC g d mX7_isSeen [.ref 1, .ref 3, .int x1] M1 (fun b1 M2 => (b1 = false → zW shC g (d + 1) mX7_writtenBy (zi Q) 5 [(0, .ref 1), (1, .int l1), (2, .int l2), (3, .int l3), (4, .int (l4 + 1))] [] M2) ∧ (b1 = true → ∃ k1 : Nat, x1 = iv k1 ∧ k1 < 64 ∧ (¬ (M2 5 k1) = l1 → zW shC g (d + 1) mX7_writtenBy (zi Q) 5 [(0, .ref 1), (1, .int l1), (2, .int l2), (3, .int l3), (4, .int (l4 + 1))] [] M2) ∧ ((M2 5 k1) = l1 → zW shC g (d + 1) mX7_writtenBy (zi Q) 5 [(0, .ref 1), (1, .int l1), (2, .int l2), (3, .int (l3 + 1)), (4, .int (l4 + 1))] [] M2)))))) : zW shC g (d + 1) mX7_writtenBy (zi Q) 5 [(0, .ref 1), (1, .int l1), (2, .int l2), (3, .int l3), (4, .int l4)] [] M := by
  refine z_iload dX7_writtenBy_5 4 rfl ?_
  refine z_bipush (v := 9) dX7_writtenBy_7 (by decide) ?_
  refine z_icmp_ge 56 dX7_writtenBy_9 (by decide) (fun c1 => ?_) (fun c1 => ?_)
  · have h := h.1 c1
    refine z_iload_n dX7_writtenBy_56 3 rfl ?_
    exact z_iret (st := []) rfl rfl dX7_writtenBy_57 ⟨_, rfl, h⟩
  · have h := h.2 c1
    refine z_iload_n dX7_writtenBy_12 2 rfl ?_
    refine z_iload dX7_writtenBy_13 4 rfl ?_
    refine z_callS (m2 := mX7_inBox) (st := []) [.int l2, .int l4] okX7_inBox (Or.inl lkX7_129) rfl rfl (Nat.le_of_ble_eq_true rfl) dX7_writtenBy_15 (zgo_i h fun x1 M1 h => ?_)
    refine z_istore [(5, .int x1), (0, .ref 1), (1, .int l1), (2, .int l2), (3, .int l3), (4, .int l4)] dX7_writtenBy_18 (by decide) rfl ?_
    refine z_aload_n dX7_writtenBy_20 1 rfl ?_
    refine z_aload_n dX7_writtenBy_21 1 rfl ?_
    refine z_getr shC_1 rfl flX7_34 dX7_writtenBy_22 ?_
    refine z_iload dX7_writtenBy_25 0 rfl ?_
    refine z_callV (m2 := mX7_isSeen) (st := []) [.ref 3, .int x1] okX7_isSeen (Or.inl lkX7_125) shC_1 rfl rfl rfl (Nat.le_of_ble_eq_true rfl) dX7_writtenBy_27 (zgo_z h fun b1 M2 h => ?_)
    refine z_ifb_eq 50 dX7_writtenBy_30 (by decide) (fun c2 => ?_) (fun c2 => ?_)
    · have h := h.1 c2
      refine z_iinc (x := l4) (v := (l4 + 1)) [(4, .int (l4 + 1)), (5, .int x1), (0, .ref 1), (1, .int l1), (2, .int l2), (3, .int l3)] dX7_writtenBy_50 5 rfl rfl (by decide) rfl ?_
      refine z_goto 5 dX7_writtenBy_53 (by decide) ?_
      exact zW.sub [2, 3, 4, 5, 0] rfl h
    · have h := h.2 c2
      refine z_aload_n dX7_writtenBy_33 1 rfl ?_
      refine z_getr shC_1 rfl flX7_34 dX7_writtenBy_34 ?_
      refine z_getr shC_3 rfl flX7_157 dX7_writtenBy_37 ?_
      refine z_iload dX7_writtenBy_40 0 rfl ?_
      obtain ⟨k1, ek1, uk1, h⟩ := h
      refine z_iald2 (k0 := k1) shC_5 (by decide) ek1 uk1 dX7_writtenBy_42 ?_
      refine z_iload_n dX7_writtenBy_43 2 rfl ?_
      refine z_icmp_ne 50 dX7_writtenBy_44 (by decide) (fun c3 => ?_) (fun c3 => ?_)
      · have h := h.1 c3
        refine z_iinc (x := l4) (v := (l4 + 1)) [(4, .int (l4 + 1)), (5, .int x1), (0, .ref 1), (1, .int l1), (2, .int l2), (3, .int l3)] dX7_writtenBy_50 5 rfl rfl (by decide) rfl ?_
        refine z_goto 5 dX7_writtenBy_53 (by decide) ?_
        exact zW.sub [2, 3, 4, 5, 0] rfl h
      · have h := h.2 c3
        refine z_iinc (x := l3) (v := (l3 + 1)) [(3, .int (l3 + 1)), (5, .int x1), (0, .ref 1), (1, .int l1), (2, .int l2), (4, .int l4)] dX7_writtenBy_47 4 rfl rfl (by decide) rfl ?_
        refine z_iinc (x := l4) (v := (l4 + 1)) [(4, .int (l4 + 1)), (3, .int (l3 + 1)), (5, .int x1), (0, .ref 1), (1, .int l1), (2, .int l2)] dX7_writtenBy_50 5 rfl rfl (by decide) rfl ?_
        refine z_goto 5 dX7_writtenBy_53 (by decide) ?_
        exact zW.sub [3, 4, 5, 1, 0] rfl h
theorem dX7_fillFacts_0 : decode cX7_fillFacts 0 = .ok (.iload_n 2, 1) := by decide +kernel
theorem dX7_fillFacts_1 : decode cX7_fillFacts 1 = .ok (.bipush 8, 2) := by decide +kernel
theorem dX7_fillFacts_3 : decode cX7_fillFacts 3 = .ok (.irem, 1) := by decide +kernel
theorem dX7_fillFacts_4 : decode cX7_fillFacts 4 = .ok (.istore_n 3, 1) := by decide +kernel
theorem dX7_fillFacts_5 : decode cX7_fillFacts 5 = .ok (.iload_n 2, 1) := by decide +kernel
theorem dX7_fillFacts_6 : decode cX7_fillFacts 6 = .ok (.bipush 8, 2) := by decide +kernel
theorem dX7_fillFacts_8 : decode cX7_fillFacts 8 = .ok (.idiv, 1) := by decide +kernel
theorem dX7_fillFacts_9 : decode cX7_fillFacts 9 = .ok (.istore 4, 2) := by decide +kernel
theorem dX7_fillFacts_11 : decode cX7_fillFacts 11 = .ok (.iload_n 3, 1) := by decide +kernel
theorem dX7_fillFacts_12 : decode cX7_fillFacts 12 = .ok (.ifCond .eq 29, 3) := by decide +kernel
theorem dX7_fillFacts_15 : decode cX7_fillFacts 15 = .ok (.iload 4, 2) := by decide +kernel
theorem dX7_fillFacts_17 : decode cX7_fillFacts 17 = .ok (.ifCond .eq 24, 3) := by decide +kernel
theorem dX7_fillFacts_20 : decode cX7_fillFacts 20 = .ok (.iload_n 3, 1) := by decide +kernel
theorem dX7_fillFacts_21 : decode cX7_fillFacts 21 = .ok (.aload_n 0, 1) := by decide +kernel
theorem dX7_fillFacts_22 : decode cX7_fillFacts 22 = .ok (.getfield 9, 3) := by decide +kernel
theorem dX7_fillFacts_25 : decode cX7_fillFacts 25 = .ok (.iconst 1, 1) := by decide +kernel
theorem dX7_fillFacts_26 : decode cX7_fillFacts 26 = .ok (.isub, 1) := by decide +kernel
theorem dX7_fillFacts_27 : decode cX7_fillFacts 27 = .ok (.if_icmp .eq 14, 3) := by decide +kernel
theorem dX7_fillFacts_30 : decode cX7_fillFacts 30 = .ok (.iload 4, 2) := by decide +kernel
theorem dX7_fillFacts_32 : decode cX7_fillFacts 32 = .ok (.aload_n 0, 1) := by decide +kernel
theorem dX7_fillFacts_33 : decode cX7_fillFacts 33 = .ok (.getfield 15, 3) := by decide +kernel
theorem dX7_fillFacts_36 : decode cX7_fillFacts 36 = .ok (.iconst 1, 1) := by decide +kernel
theorem dX7_fillFacts_37 : decode cX7_fillFacts 37 = .ok (.isub, 1) := by decide +kernel
theorem dX7_fillFacts_38 : decode cX7_fillFacts 38 = .ok (.if_icmp .ne 7, 3) := by decide +kernel
theorem dX7_fillFacts_41 : decode cX7_fillFacts 41 = .ok (.iconst 1, 1) := by decide +kernel
theorem dX7_fillFacts_42 : decode cX7_fillFacts 42 = .ok (.goto 4, 3) := by decide +kernel
theorem dX7_fillFacts_45 : decode cX7_fillFacts 45 = .ok (.iconst 0, 1) := by decide +kernel
theorem dX7_fillFacts_46 : decode cX7_fillFacts 46 = .ok (.istore 5, 2) := by decide +kernel
theorem dX7_fillFacts_48 : decode cX7_fillFacts 48 = .ok (.aload_n 0, 1) := by decide +kernel
theorem dX7_fillFacts_49 : decode cX7_fillFacts 49 = .ok (.getfield 62, 3) := by decide +kernel
theorem dX7_fillFacts_52 : decode cX7_fillFacts 52 = .ok (.iconst 0, 1) := by decide +kernel
theorem dX7_fillFacts_53 : decode cX7_fillFacts 53 = .ok (.aload_n 1, 1) := by decide +kernel
theorem dX7_fillFacts_54 : decode cX7_fillFacts 54 = .ok (.getfield 118, 3) := by decide +kernel
theorem dX7_fillFacts_57 : decode cX7_fillFacts 57 = .ok (.iload_n 2, 1) := by decide +kernel
theorem dX7_fillFacts_58 : decode cX7_fillFacts 58 = .ok (.iaload, 1) := by decide +kernel
theorem dX7_fillFacts_59 : decode cX7_fillFacts 59 = .ok (.iastore, 1) := by decide +kernel
theorem dX7_fillFacts_60 : decode cX7_fillFacts 60 = .ok (.aload_n 0, 1) := by decide +kernel
theorem dX7_fillFacts_61 : decode cX7_fillFacts 61 = .ok (.getfield 62, 3) := by decide +kernel
theorem dX7_fillFacts_64 : decode cX7_fillFacts 64 = .ok (.iconst 1, 1) := by decide +kernel
theorem dX7_fillFacts_65 : decode cX7_fillFacts 65 = .ok (.iload 5, 2) := by decide +kernel
theorem dX7_fillFacts_67 : decode cX7_fillFacts 67 = .ok (.ifCond .eq 7, 3) := by decide +kernel
theorem dX7_fillFacts_70 : decode cX7_fillFacts 70 = .ok (.iconst 1, 1) := by decide +kernel
theorem dX7_fillFacts_71 : decode cX7_fillFacts 71 = .ok (.goto 4, 3) := by decide +kernel
theorem dX7_fillFacts_74 : decode cX7_fillFacts 74 = .ok (.iconst 0, 1) := by decide +kernel
theorem dX7_fillFacts_75 : decode cX7_fillFacts 75 = .ok (.iastore, 1) := by decide +kernel
theorem dX7_fillFacts_76 : decode cX7_fillFacts 76 = .ok (.aload_n 0, 1) := by decide +kernel
theorem dX7_fillFacts_77 : decode cX7_fillFacts 77 = .ok (.getfield 62, 3) := by decide +kernel
theorem dX7_fillFacts_80 : decode cX7_fillFacts 80 = .ok (.iconst 2, 1) := by decide +kernel
theorem dX7_fillFacts_81 : decode cX7_fillFacts 81 = .ok (.aload_n 1, 1) := by decide +kernel
theorem dX7_fillFacts_82 : decode cX7_fillFacts 82 = .ok (.getfield 160, 3) := by decide +kernel
theorem dX7_fillFacts_85 : decode cX7_fillFacts 85 = .ok (.iastore, 1) := by decide +kernel
theorem dX7_fillFacts_86 : decode cX7_fillFacts 86 = .ok (.aload_n 0, 1) := by decide +kernel
theorem dX7_fillFacts_87 : decode cX7_fillFacts 87 = .ok (.getfield 62, 3) := by decide +kernel
theorem dX7_fillFacts_90 : decode cX7_fillFacts 90 = .ok (.iconst 3, 1) := by decide +kernel
theorem dX7_fillFacts_91 : decode cX7_fillFacts 91 = .ok (.iconst 0, 1) := by decide +kernel
theorem dX7_fillFacts_92 : decode cX7_fillFacts 92 = .ok (.iastore, 1) := by decide +kernel
theorem dX7_fillFacts_93 : decode cX7_fillFacts 93 = .ok (.aload_n 0, 1) := by decide +kernel
theorem dX7_fillFacts_94 : decode cX7_fillFacts 94 = .ok (.getfield 62, 3) := by decide +kernel
theorem dX7_fillFacts_97 : decode cX7_fillFacts 97 = .ok (.iconst 4, 1) := by decide +kernel
theorem dX7_fillFacts_98 : decode cX7_fillFacts 98 = .ok (.iconst 0, 1) := by decide +kernel
theorem dX7_fillFacts_99 : decode cX7_fillFacts 99 = .ok (.iastore, 1) := by decide +kernel
theorem dX7_fillFacts_100 : decode cX7_fillFacts 100 = .ok (.aload_n 0, 1) := by decide +kernel
theorem dX7_fillFacts_101 : decode cX7_fillFacts 101 = .ok (.getfield 62, 3) := by decide +kernel
theorem dX7_fillFacts_104 : decode cX7_fillFacts 104 = .ok (.iconst 5, 1) := by decide +kernel
theorem dX7_fillFacts_105 : decode cX7_fillFacts 105 = .ok (.aload_n 0, 1) := by decide +kernel
theorem dX7_fillFacts_106 : decode cX7_fillFacts 106 = .ok (.aload_n 1, 1) := by decide +kernel
theorem dX7_fillFacts_107 : decode cX7_fillFacts 107 = .ok (.iload_n 2, 1) := by decide +kernel
theorem dX7_fillFacts_108 : decode cX7_fillFacts 108 = .ok (.invokevirtual 163, 3) := by decide +kernel
theorem dX7_fillFacts_111 : decode cX7_fillFacts 111 = .ok (.iastore, 1) := by decide +kernel
theorem dX7_fillFacts_112 : decode cX7_fillFacts 112 = .ok (.return_, 1) := by decide +kernel
set_option maxRecDepth 20000 in
theorem vX7_fillFacts {g : zG} {d : Nat} {Q : zM → Prop} {M : zM} {m : Nat} {l2 : Int32} (hm : zMo shC m) (h : ((l2 - l2 / 8 * 8) = 0 → zW shC g (d + 1) mX7_fillFacts (zv Q) 41 [(0, .ref 1), (1, .ref m), (2, .int l2)] [] M) ∧ (¬ (l2 - l2 / 8 * 8) = 0 → ((l2 / 8) = 0 → zW shC g (d + 1) mX7_fillFacts (zv Q) 41 [(0, .ref 1), (1, .ref m), (2, .int l2)] [] M) ∧ (¬ (l2 / 8) = 0 → ((l2 - l2 / 8 * 8) = ((M 1 0) - 1) → zW shC g (d + 1) mX7_fillFacts (zv Q) 41 [(0, .ref 1), (1, .ref m), (2, .int l2)] [] M) ∧ (¬ (l2 - l2 / 8 * 8) = ((M 1 0) - 1) → (¬ (l2 / 8) = ((M 1 1) - 1) → zW shC g (d + 1) mX7_fillFacts (zv Q) 46 [(0, .ref 1), (1, .ref m), (2, .int l2)] [.int 0] M) ∧ ((l2 / 8) = ((M 1 1) - 1) → zW shC g (d + 1) mX7_fillFacts (zv Q) 41 [(0, .ref 1), (1, .ref m), (2, .int l2)] [] M))))) : zCv shC g (d + 1) mX7_fillFacts [.ref 1, .ref m, .int l2] M Q := by
  refine zW.enter (by decide +kernel) (Nat.le_of_ble_eq_true rfl) ?_
  change zW shC g (d + 1) mX7_fillFacts (zv Q) 0 [(0, .ref 1), (1, .ref m), (2, .int l2)] [] M
  refine z_iload_n dX7_fillFacts_0 2 rfl ?_
  refine z_bipush (v := 8) dX7_fillFacts_1 (by decide) ?_
  refine z_irem dX7_fillFacts_3 (by decide) ?_
  refine z_istore_n [(3, .int (l2 - l2 / 8 * 8)), (0, .ref 1), (1, .ref m), (2, .int l2)] dX7_fillFacts_4 (by decide) rfl ?_
  refine z_iload_n dX7_fillFacts_5 3 rfl ?_
  refine z_bipush (v := 8) dX7_fillFacts_6 (by decide) ?_
  refine z_idiv dX7_fillFacts_8 (by decide) ?_
  refine z_istore [(4, .int (l2 / 8)), (3, .int (l2 - l2 / 8 * 8)), (0, .ref 1), (1, .ref m), (2, .int l2)] dX7_fillFacts_9 (by decide) rfl ?_
  refine z_iload_n dX7_fillFacts_11 1 rfl ?_
  refine z_if_eq 41 dX7_fillFacts_12 (by decide) (fun c1 => ?_) (fun c1 => ?_)
  · have h := h.1 c1
    exact zW.sub [2, 3, 4] rfl h
  · have h := h.2 c1
    refine z_iload dX7_fillFacts_15 0 rfl ?_
    refine z_if_eq 41 dX7_fillFacts_17 (by decide) (fun c2 => ?_) (fun c2 => ?_)
    · have h := h.1 c2
      exact zW.sub [2, 3, 4] rfl h
    · have h := h.2 c2
      refine z_iload_n dX7_fillFacts_20 1 rfl ?_
      refine z_aload_n dX7_fillFacts_21 2 rfl ?_
      refine z_geti shC_1 rfl flX7_9 dX7_fillFacts_22 ?_
      refine z_iconst (v := 1) dX7_fillFacts_25 (by decide) ?_
      refine z_isub dX7_fillFacts_26 ?_
      refine z_icmp_eq 41 dX7_fillFacts_27 (by decide) (fun c3 => ?_) (fun c3 => ?_)
      · have h := h.1 c3
        exact zW.sub [2, 3, 4] rfl h
      · have h := h.2 c3
        refine z_iload dX7_fillFacts_30 0 rfl ?_
        refine z_aload_n dX7_fillFacts_32 2 rfl ?_
        refine z_geti shC_1 rfl flX7_15 dX7_fillFacts_33 ?_
        refine z_iconst (v := 1) dX7_fillFacts_36 (by decide) ?_
        refine z_isub dX7_fillFacts_37 ?_
        refine z_icmp_ne 45 dX7_fillFacts_38 (by decide) (fun c4 => ?_) (fun c4 => ?_)
        · have h := h.1 c4
          refine z_iconst (v := 0) dX7_fillFacts_45 (by decide) ?_
          exact zW.sub [2, 3, 4] rfl h
        · have h := h.2 c4
          exact zW.sub [2, 3, 4] rfl h
set_option maxRecDepth 20000 in
theorem vX7_fillFacts_41 {g : zG} {d : Nat} {Q : zM → Prop} {M : zM} {m : Nat} {l2 : Int32} (hm : zMo shC m) (h : zW shC g (d + 1) mX7_fillFacts (zv Q) 46 [(0, .ref 1), (1, .ref m), (2, .int l2)] [.int 1] M) : zW shC g (d + 1) mX7_fillFacts (zv Q) 41 [(0, .ref 1), (1, .ref m), (2, .int l2)] [] M := by
  refine z_iconst (v := 1) dX7_fillFacts_41 (by decide) ?_
  refine z_goto 46 dX7_fillFacts_42 (by decide) ?_
  exact h
set_option maxRecDepth 20000 in
theorem vX7_fillFacts_46 {g : zG} {d : Nat} {Q : zM → Prop} {M : zM} {m : Nat} {l2 : Int32} {s0 : Int32} (hm : zMo shC m) (h : ∃ k1 : Nat, l2 = iv k1 ∧ k1 < 64 ∧ (s0 = 0 → zW shC g (d + 1) mX7_fillFacts (zv Q) 75 [(0, .ref 1), (1, .ref m), (2, .int l2)] [.int 0, .int 1, .ref 26] (zup M 26 0 (M (m + 1) k1))) ∧ (¬ s0 = 0 → zW shC g (d + 1) mX7_fillFacts (zv Q) 75 [(0, .ref 1), (1, .ref m), (2, .int l2)] [.int 1, .int 1, .ref 26] (zup M 26 0 (M (m + 1) k1)))) : zW shC g (d + 1) mX7_fillFacts (zv Q) 46 [(0, .ref 1), (1, .ref m), (2, .int l2)] [.int s0] M := by
  refine z_istore [(5, .int s0), (0, .ref 1), (1, .ref m), (2, .int l2)] dX7_fillFacts_46 (by decide) rfl ?_
  refine z_aload_n dX7_fillFacts_48 1 rfl ?_
  refine z_getr shC_1 rfl flX7_62 dX7_fillFacts_49 ?_
  refine z_iconst (v := 0) dX7_fillFacts_52 (by decide) ?_
  refine z_aload_n dX7_fillFacts_53 2 rfl ?_
  refine z_getr hm.1 rfl flX7_118 dX7_fillFacts_54 ?_
  refine z_iload_n dX7_fillFacts_57 3 rfl ?_
  obtain ⟨k1, ek1, uk1, h⟩ := h
  refine z_iald2 (k0 := k1) hm.2.1 (by decide) ek1 uk1 dX7_fillFacts_58 ?_
  refine z_iast2 (k0 := 0) shC_26 (by decide) (by decide) (by decide) dX7_fillFacts_59 ?_
  refine z_aload_n dX7_fillFacts_60 1 rfl ?_
  refine z_getr shC_1 rfl flX7_62 dX7_fillFacts_61 ?_
  refine z_iconst (v := 1) dX7_fillFacts_64 (by decide) ?_
  refine z_iload dX7_fillFacts_65 0 rfl ?_
  refine z_if_eq 74 dX7_fillFacts_67 (by decide) (fun c1 => ?_) (fun c1 => ?_)
  · have h := h.1 c1
    refine z_iconst (v := 0) dX7_fillFacts_74 (by decide) ?_
    exact zW.sub [1, 2, 3] rfl h
  · have h := h.2 c1
    refine z_iconst (v := 1) dX7_fillFacts_70 (by decide) ?_
    refine z_goto 75 dX7_fillFacts_71 (by decide) ?_
    exact zW.sub [1, 2, 3] rfl h
set_option maxRecDepth 20000 in
theorem vX7_fillFacts_75 {g : zG} {d : Nat} {Q : zM → Prop} {M : zM} {m : Nat} {l2 : Int32} {s0 : Int32} (hm : zMo shC m) (h : zCi shC g d mX7_seenAround [.ref 1, .ref m, .int l2] (zup (zup (zup (zup M 26 1 s0) 26 2 ((zup M 26 1 s0) m 5)) 26 3 0) 26 4 0) (fun x1 M1 => Q (zup M1 26 5 x1))) : zW shC g (d + 1) mX7_fillFacts (zv Q) 75 [(0, .ref 1), (1, .ref m), (2, .int l2)] [.int s0, .int 1, .ref 26] M := by
  refine z_iast2 (k0 := 1) shC_26 (by decide) (by decide) (by decide) dX7_fillFacts_75 ?_
  refine z_aload_n dX7_fillFacts_76 0 rfl ?_
  refine z_getr shC_1 rfl flX7_62 dX7_fillFacts_77 ?_
  refine z_iconst (v := 2) dX7_fillFacts_80 (by decide) ?_
  refine z_aload_n dX7_fillFacts_81 1 rfl ?_
  refine z_geti hm.1 rfl flX7_160 dX7_fillFacts_82 ?_
  refine z_iast2 (k0 := 2) shC_26 (by decide) (by decide) (by decide) dX7_fillFacts_85 ?_
  refine z_aload_n dX7_fillFacts_86 0 rfl ?_
  refine z_getr shC_1 rfl flX7_62 dX7_fillFacts_87 ?_
  refine z_iconst (v := 3) dX7_fillFacts_90 (by decide) ?_
  refine z_iconst (v := 0) dX7_fillFacts_91 (by decide) ?_
  refine z_iast2 (k0 := 3) shC_26 (by decide) (by decide) (by decide) dX7_fillFacts_92 ?_
  refine z_aload_n dX7_fillFacts_93 0 rfl ?_
  refine z_getr shC_1 rfl flX7_62 dX7_fillFacts_94 ?_
  refine z_iconst (v := 4) dX7_fillFacts_97 (by decide) ?_
  refine z_iconst (v := 0) dX7_fillFacts_98 (by decide) ?_
  refine z_iast2 (k0 := 4) shC_26 (by decide) (by decide) (by decide) dX7_fillFacts_99 ?_
  refine z_aload_n dX7_fillFacts_100 0 rfl ?_
  refine z_getr shC_1 rfl flX7_62 dX7_fillFacts_101 ?_
  refine z_iconst (v := 5) dX7_fillFacts_104 (by decide) ?_
  refine z_aload_n dX7_fillFacts_105 0 rfl ?_
  refine z_aload_n dX7_fillFacts_106 1 rfl ?_
  refine z_iload_n dX7_fillFacts_107 2 rfl ?_
  refine z_callV (m2 := mX7_seenAround) (st := [.int 5, .ref 26]) [.ref m, .int l2] okX7_seenAround (Or.inl lkX7_163) shC_1 rfl rfl rfl (Nat.le_of_ble_eq_true rfl) dX7_fillFacts_108 (zgo_i h fun x1 M1 h => ?_)
  refine z_iast2 (k0 := 5) shC_26 (by decide) (by decide) (by decide) dX7_fillFacts_111 ?_
  exact z_vret (st := []) rfl dX7_fillFacts_112 ⟨rfl, h⟩
theorem dX7_cutOf_0 : decode cX7_cutOf 0 = .ok (.aload_n 0, 1) := by decide +kernel
theorem dX7_cutOf_1 : decode cX7_cutOf 1 = .ok (.aload_n 1, 1) := by decide +kernel
theorem dX7_cutOf_2 : decode cX7_cutOf 2 = .ok (.iload_n 3, 1) := by decide +kernel
theorem dX7_cutOf_3 : decode cX7_cutOf 3 = .ok (.invokevirtual 166, 3) := by decide +kernel
theorem dX7_cutOf_6 : decode cX7_cutOf 6 = .ok (.aload_n 0, 1) := by decide +kernel
theorem dX7_cutOf_7 : decode cX7_cutOf 7 = .ok (.getfield 62, 3) := by decide +kernel
theorem dX7_cutOf_10 : decode cX7_cutOf 10 = .ok (.iconst 3, 1) := by decide +kernel
theorem dX7_cutOf_11 : decode cX7_cutOf 11 = .ok (.aload_n 0, 1) := by decide +kernel
theorem dX7_cutOf_12 : decode cX7_cutOf 12 = .ok (.getfield 27, 3) := by decide +kernel
theorem dX7_cutOf_15 : decode cX7_cutOf 15 = .ok (.iload_n 2, 1) := by decide +kernel
theorem dX7_cutOf_16 : decode cX7_cutOf 16 = .ok (.iaload, 1) := by decide +kernel
theorem dX7_cutOf_17 : decode cX7_cutOf 17 = .ok (.iastore, 1) := by decide +kernel
theorem dX7_cutOf_18 : decode cX7_cutOf 18 = .ok (.aload_n 0, 1) := by decide +kernel
theorem dX7_cutOf_19 : decode cX7_cutOf 19 = .ok (.getfield 62, 3) := by decide +kernel
theorem dX7_cutOf_22 : decode cX7_cutOf 22 = .ok (.iconst 4, 1) := by decide +kernel
theorem dX7_cutOf_23 : decode cX7_cutOf 23 = .ok (.aload_n 1, 1) := by decide +kernel
theorem dX7_cutOf_24 : decode cX7_cutOf 24 = .ok (.getfield 157, 3) := by decide +kernel
theorem dX7_cutOf_27 : decode cX7_cutOf 27 = .ok (.iload_n 3, 1) := by decide +kernel
theorem dX7_cutOf_28 : decode cX7_cutOf 28 = .ok (.iaload, 1) := by decide +kernel
theorem dX7_cutOf_29 : decode cX7_cutOf 29 = .ok (.iload_n 2, 1) := by decide +kernel
theorem dX7_cutOf_30 : decode cX7_cutOf 30 = .ok (.invokestatic 170, 3) := by decide +kernel
theorem dX7_cutOf_33 : decode cX7_cutOf 33 = .ok (.ifCond .eq 7, 3) := by decide +kernel
theorem dX7_cutOf_36 : decode cX7_cutOf 36 = .ok (.iconst 1, 1) := by decide +kernel
theorem dX7_cutOf_37 : decode cX7_cutOf 37 = .ok (.goto 4, 3) := by decide +kernel
theorem dX7_cutOf_40 : decode cX7_cutOf 40 = .ok (.iconst 0, 1) := by decide +kernel
theorem dX7_cutOf_41 : decode cX7_cutOf 41 = .ok (.iastore, 1) := by decide +kernel
theorem dX7_cutOf_42 : decode cX7_cutOf 42 = .ok (.aload_n 0, 1) := by decide +kernel
theorem dX7_cutOf_43 : decode cX7_cutOf 43 = .ok (.getfield 51, 3) := by decide +kernel
theorem dX7_cutOf_46 : decode cX7_cutOf 46 = .ok (.iconst 0, 1) := by decide +kernel
theorem dX7_cutOf_47 : decode cX7_cutOf 47 = .ok (.aload_n 0, 1) := by decide +kernel
theorem dX7_cutOf_48 : decode cX7_cutOf 48 = .ok (.getfield 62, 3) := by decide +kernel
theorem dX7_cutOf_51 : decode cX7_cutOf 51 = .ok (.iconst 2, 1) := by decide +kernel
theorem dX7_cutOf_52 : decode cX7_cutOf 52 = .ok (.invokevirtual 174, 3) := by decide +kernel
theorem dX7_cutOf_55 : decode cX7_cutOf 55 = .ok (.invokestatic 178, 3) := by decide +kernel
theorem dX7_cutOf_58 : decode cX7_cutOf 58 = .ok (.ireturn, 1) := by decide +kernel
set_option maxRecDepth 20000 in
theorem vX7_cutOf {g : zG} {d : Nat} {Q : Int32 → zM → Prop} {M : zM} {m : Nat} {l2 : Int32} {l3 : Int32} (hm : zMo shC m) (h : zCv shC g d mX7_fillFacts [.ref 1, .ref m, .int l3] M (fun  M1 => ∃ k1 : Nat, l2 = iv k1 ∧ k1 < 6 ∧ ∃ k2 : Nat, l3 = iv k2 ∧ k2 < 64 ∧ zCz shC g d mX7_isOther [.int ((zup M1 26 3 (M1 2 k1)) (m + 2) k2), .int l2] (zup M1 26 3 (M1 2 k1)) (fun b1 M2 => (b1 = false → zW shC g (d + 1) mX7_cutOf (zi Q) 41 [(0, .ref 1)] [.int 0, .int 4, .ref 26] M2) ∧ (b1 = true → zW shC g (d + 1) mX7_cutOf (zi Q) 41 [(0, .ref 1)] [.int 1, .int 4, .ref 26] M2)))) : zCi shC g (d + 1) mX7_cutOf [.ref 1, .ref m, .int l2, .int l3] M Q := by
  refine zW.enter (by decide +kernel) (Nat.le_of_ble_eq_true rfl) ?_
  change zW shC g (d + 1) mX7_cutOf (zi Q) 0 [(0, .ref 1), (1, .ref m), (2, .int l2), (3, .int l3)] [] M
  refine z_aload_n dX7_cutOf_0 0 rfl ?_
  refine z_aload_n dX7_cutOf_1 1 rfl ?_
  refine z_iload_n dX7_cutOf_2 3 rfl ?_
  refine z_callV (m2 := mX7_fillFacts) (st := []) [.ref m, .int l3] okX7_fillFacts (Or.inl lkX7_166) shC_1 rfl rfl rfl (Nat.le_of_ble_eq_true rfl) dX7_cutOf_3 (zgo_v h fun  M1 h => ?_)
  refine z_aload_n dX7_cutOf_6 0 rfl ?_
  refine z_getr shC_1 rfl flX7_62 dX7_cutOf_7 ?_
  refine z_iconst (v := 3) dX7_cutOf_10 (by decide) ?_
  refine z_aload_n dX7_cutOf_11 0 rfl ?_
  refine z_getr shC_1 rfl flX7_27 dX7_cutOf_12 ?_
  refine z_iload_n dX7_cutOf_15 2 rfl ?_
  obtain ⟨k1, ek1, uk1, h⟩ := h
  refine z_iald2 (k0 := k1) shC_2 (by decide) ek1 uk1 dX7_cutOf_16 ?_
  refine z_iast2 (k0 := 3) shC_26 (by decide) (by decide) (by decide) dX7_cutOf_17 ?_
  refine z_aload_n dX7_cutOf_18 0 rfl ?_
  refine z_getr shC_1 rfl flX7_62 dX7_cutOf_19 ?_
  refine z_iconst (v := 4) dX7_cutOf_22 (by decide) ?_
  refine z_aload_n dX7_cutOf_23 1 rfl ?_
  refine z_getr hm.1 rfl flX7_157 dX7_cutOf_24 ?_
  refine z_iload_n dX7_cutOf_27 3 rfl ?_
  obtain ⟨k2, ek2, uk2, h⟩ := h
  refine z_iald2 (k0 := k2) hm.2.2.1 (by decide) ek2 uk2 dX7_cutOf_28 ?_
  refine z_iload_n dX7_cutOf_29 2 rfl ?_
  refine z_callS (m2 := mX7_isOther) (st := [.int 4, .ref 26]) [.int ((zup M1 26 3 (M1 2 k1)) (m + 2) k2), .int l2] okX7_isOther (Or.inl lkX7_170) rfl rfl (Nat.le_of_ble_eq_true rfl) dX7_cutOf_30 (zgo_z h fun b1 M2 h => ?_)
  refine z_ifb_eq 40 dX7_cutOf_33 (by decide) (fun c1 => ?_) (fun c1 => ?_)
  · have h := h.1 c1
    refine z_iconst (v := 0) dX7_cutOf_40 (by decide) ?_
    exact zW.sub [0] rfl h
  · have h := h.2 c1
    refine z_iconst (v := 1) dX7_cutOf_36 (by decide) ?_
    refine z_goto 41 dX7_cutOf_37 (by decide) ?_
    exact zW.sub [0] rfl h
set_option maxRecDepth 20000 in
theorem vX7_cutOf_41 {g : zG} {d : Nat} {Q : Int32 → zM → Prop} {M : zM} {m : Nat} {s0 : Int32} (hm : zMo shC m) (h : zCi shC g d mX1_answer [.ref 15, .int 0, .ref 26, .int 2] (zup M 26 4 s0) (fun x1 M1 => zCi shC g d mX7_held [.int x1] M1 (fun x2 M2 => Q x2 M2))) : zW shC g (d + 1) mX7_cutOf (zi Q) 41 [(0, .ref 1)] [.int s0, .int 4, .ref 26] M := by
  refine z_iast2 (k0 := 4) shC_26 (by decide) (by decide) (by decide) dX7_cutOf_41 ?_
  refine z_aload_n dX7_cutOf_42 0 rfl ?_
  refine z_getr shC_1 rfl flX7_51 dX7_cutOf_43 ?_
  refine z_iconst (v := 0) dX7_cutOf_46 (by decide) ?_
  refine z_aload_n dX7_cutOf_47 0 rfl ?_
  refine z_getr shC_1 rfl flX7_62 dX7_cutOf_48 ?_
  refine z_iconst (v := 2) dX7_cutOf_51 (by decide) ?_
  refine z_callV (m2 := mX1_answer) (st := []) [.int 0, .ref 26, .int 2] okX1_answer (Or.inl lkX7_174) shC_15 rfl rfl rfl (Nat.le_of_ble_eq_true rfl) dX7_cutOf_52 (zgo_i h fun x1 M1 h => ?_)
  refine z_callS (m2 := mX7_held) (st := []) [.int x1] okX7_held (Or.inl lkX7_178) rfl rfl (Nat.le_of_ble_eq_true rfl) dX7_cutOf_55 (zgo_i h fun x2 M2 h => ?_)
  exact z_iret (st := []) rfl rfl dX7_cutOf_58 ⟨_, rfl, h⟩
theorem dX7_thawOf_0 : decode cX7_thawOf 0 = .ok (.aload_n 0, 1) := by decide +kernel
theorem dX7_thawOf_1 : decode cX7_thawOf 1 = .ok (.aload_n 1, 1) := by decide +kernel
theorem dX7_thawOf_2 : decode cX7_thawOf 2 = .ok (.iload_n 2, 1) := by decide +kernel
theorem dX7_thawOf_3 : decode cX7_thawOf 3 = .ok (.invokevirtual 166, 3) := by decide +kernel
theorem dX7_thawOf_6 : decode cX7_thawOf 6 = .ok (.aload_n 0, 1) := by decide +kernel
theorem dX7_thawOf_7 : decode cX7_thawOf 7 = .ok (.getfield 51, 3) := by decide +kernel
theorem dX7_thawOf_10 : decode cX7_thawOf 10 = .ok (.iconst 1, 1) := by decide +kernel
theorem dX7_thawOf_11 : decode cX7_thawOf 11 = .ok (.aload_n 0, 1) := by decide +kernel
theorem dX7_thawOf_12 : decode cX7_thawOf 12 = .ok (.getfield 62, 3) := by decide +kernel
theorem dX7_thawOf_15 : decode cX7_thawOf 15 = .ok (.iconst 0, 1) := by decide +kernel
theorem dX7_thawOf_16 : decode cX7_thawOf 16 = .ok (.invokevirtual 174, 3) := by decide +kernel
theorem dX7_thawOf_19 : decode cX7_thawOf 19 = .ok (.invokestatic 178, 3) := by decide +kernel
theorem dX7_thawOf_22 : decode cX7_thawOf 22 = .ok (.ireturn, 1) := by decide +kernel
set_option maxRecDepth 20000 in
theorem vX7_thawOf {g : zG} {d : Nat} {Q : Int32 → zM → Prop} {M : zM} {m : Nat} {l2 : Int32} (hm : zMo shC m) (h : zCv shC g d mX7_fillFacts [.ref 1, .ref m, .int l2] M (fun  M1 => zCi shC g d mX1_answer [.ref 15, .int 1, .ref 26, .int 0] M1 (fun x2 M2 => zCi shC g d mX7_held [.int x2] M2 (fun x3 M3 => Q x3 M3)))) : zCi shC g (d + 1) mX7_thawOf [.ref 1, .ref m, .int l2] M Q := by
  refine zW.enter (by decide +kernel) (Nat.le_of_ble_eq_true rfl) ?_
  change zW shC g (d + 1) mX7_thawOf (zi Q) 0 [(0, .ref 1), (1, .ref m), (2, .int l2)] [] M
  refine z_aload_n dX7_thawOf_0 0 rfl ?_
  refine z_aload_n dX7_thawOf_1 1 rfl ?_
  refine z_iload_n dX7_thawOf_2 2 rfl ?_
  refine z_callV (m2 := mX7_fillFacts) (st := []) [.ref m, .int l2] okX7_fillFacts (Or.inl lkX7_166) shC_1 rfl rfl rfl (Nat.le_of_ble_eq_true rfl) dX7_thawOf_3 (zgo_v h fun  M1 h => ?_)
  refine z_aload_n dX7_thawOf_6 0 rfl ?_
  refine z_getr shC_1 rfl flX7_51 dX7_thawOf_7 ?_
  refine z_iconst (v := 1) dX7_thawOf_10 (by decide) ?_
  refine z_aload_n dX7_thawOf_11 0 rfl ?_
  refine z_getr shC_1 rfl flX7_62 dX7_thawOf_12 ?_
  refine z_iconst (v := 0) dX7_thawOf_15 (by decide) ?_
  refine z_callV (m2 := mX1_answer) (st := []) [.int 1, .ref 26, .int 0] okX1_answer (Or.inl lkX7_174) shC_15 rfl rfl rfl (Nat.le_of_ble_eq_true rfl) dX7_thawOf_16 (zgo_i h fun x2 M2 h => ?_)
  refine z_callS (m2 := mX7_held) (st := []) [.int x2] okX7_held (Or.inl lkX7_178) rfl rfl (Nat.le_of_ble_eq_true rfl) dX7_thawOf_19 (zgo_i h fun x3 M3 h => ?_)
  exact z_iret (st := []) rfl rfl dX7_thawOf_22 ⟨_, rfl, h⟩
theorem dX7_isOther_0 : decode cX7_isOther 0 = .ok (.iload_n 0, 1) := by decide +kernel
theorem dX7_isOther_1 : decode cX7_isOther 1 = .ok (.iconst (-1), 1) := by decide +kernel
theorem dX7_isOther_2 : decode cX7_isOther 2 = .ok (.if_icmp .eq 12, 3) := by decide +kernel
theorem dX7_isOther_5 : decode cX7_isOther 5 = .ok (.iload_n 0, 1) := by decide +kernel
theorem dX7_isOther_6 : decode cX7_isOther 6 = .ok (.iload_n 1, 1) := by decide +kernel
theorem dX7_isOther_7 : decode cX7_isOther 7 = .ok (.if_icmp .eq 7, 3) := by decide +kernel
theorem dX7_isOther_10 : decode cX7_isOther 10 = .ok (.iconst 1, 1) := by decide +kernel
theorem dX7_isOther_11 : decode cX7_isOther 11 = .ok (.goto 4, 3) := by decide +kernel
theorem dX7_isOther_14 : decode cX7_isOther 14 = .ok (.iconst 0, 1) := by decide +kernel
theorem dX7_isOther_15 : decode cX7_isOther 15 = .ok (.ireturn, 1) := by decide +kernel
set_option maxRecDepth 20000 in
theorem vX7_isOther {g : zG} {d : Nat} {Q : Bool → zM → Prop} {M : zM} {l0 : Int32} {l1 : Int32} (h : (l0 = (-1) → Q false M) ∧ (¬ l0 = (-1) → (l0 = l1 → Q false M) ∧ (¬ l0 = l1 → Q true M))) : zCz shC g d mX7_isOther [.int l0, .int l1] M Q := by
  refine zW.enter (by decide +kernel) (Nat.le_of_ble_eq_true rfl) ?_
  change zW shC g d mX7_isOther (zz Q) 0 [(0, .int l0), (1, .int l1)] [] M
  refine z_iload_n dX7_isOther_0 0 rfl ?_
  refine z_iconst (v := (-1)) dX7_isOther_1 (by decide) ?_
  refine z_icmp_eq 14 dX7_isOther_2 (by decide) (fun c1 => ?_) (fun c1 => ?_)
  · have h := h.1 c1
    refine z_iconst (v := 0) dX7_isOther_14 (by decide) ?_
    exact z_zret (b := false) rfl rfl dX7_isOther_15 h
  · have h := h.2 c1
    refine z_iload_n dX7_isOther_5 0 rfl ?_
    refine z_iload_n dX7_isOther_6 1 rfl ?_
    refine z_icmp_eq 14 dX7_isOther_7 (by decide) (fun c2 => ?_) (fun c2 => ?_)
    · have h := h.1 c2
      refine z_iconst (v := 0) dX7_isOther_14 (by decide) ?_
      exact z_zret (b := false) rfl rfl dX7_isOther_15 h
    · have h := h.2 c2
      refine z_iconst (v := 1) dX7_isOther_10 (by decide) ?_
      refine z_goto 15 dX7_isOther_11 (by decide) ?_
      exact z_zret (b := true) rfl rfl dX7_isOther_15 h
theorem dX7_held_0 : decode cX7_held 0 = .ok (.iconst 0, 1) := by decide +kernel
theorem dX7_held_1 : decode cX7_held 1 = .ok (.bipush 9, 2) := by decide +kernel
theorem dX7_held_3 : decode cX7_held 3 = .ok (.iload_n 0, 1) := by decide +kernel
theorem dX7_held_4 : decode cX7_held 4 = .ok (.invokestatic 182, 3) := by decide +kernel
theorem dX7_held_7 : decode cX7_held 7 = .ok (.invokestatic 187, 3) := by decide +kernel
theorem dX7_held_10 : decode cX7_held 10 = .ok (.ireturn, 1) := by decide +kernel
set_option maxRecDepth 20000 in
theorem vX7_held {g : zG} {d : Nat} {Q : Int32 → zM → Prop} {M : zM} {l0 : Int32} (h : Q (imax 0 (imin 9 l0)) M) : zCi shC g (d + 1) mX7_held [.int l0] M Q := by
  refine zW.enter (by decide +kernel) (Nat.le_of_ble_eq_true rfl) ?_
  change zW shC g (d + 1) mX7_held (zi Q) 0 [(0, .int l0)] [] M
  refine z_iconst (v := 0) dX7_held_0 (by decide) ?_
  refine z_bipush (v := 9) dX7_held_1 (by decide) ?_
  refine z_iload_n dX7_held_3 0 rfl ?_
  refine z_min (st := [.int 0]) lkX7_182 (Nat.le_of_ble_eq_true rfl) dX7_held_4 ?_
  refine z_max (st := []) lkX7_187 (Nat.le_of_ble_eq_true rfl) dX7_held_7 ?_
  exact z_iret (st := []) rfl rfl dX7_held_10 ⟨_, rfl, h⟩
theorem dX7_pass_0 : decode cX7_pass 0 = .ok (.iconst 0, 1) := by decide +kernel
theorem dX7_pass_1 : decode cX7_pass 1 = .ok (.istore_n 3, 1) := by decide +kernel
theorem dX7_pass_2 : decode cX7_pass 2 = .ok (.iconst 0, 1) := by decide +kernel
theorem dX7_pass_3 : decode cX7_pass 3 = .ok (.istore 4, 2) := by decide +kernel
theorem dX7_pass_5 : decode cX7_pass 5 = .ok (.iload 4, 2) := by decide +kernel
theorem dX7_pass_7 : decode cX7_pass 7 = .ok (.aload_n 0, 1) := by decide +kernel
theorem dX7_pass_8 : decode cX7_pass 8 = .ok (.getfield 24, 3) := by decide +kernel
theorem dX7_pass_11 : decode cX7_pass 11 = .ok (.if_icmp .ge 78, 3) := by decide +kernel
theorem dX7_pass_14 : decode cX7_pass 14 = .ok (.aload_n 1, 1) := by decide +kernel
theorem dX7_pass_15 : decode cX7_pass 15 = .ok (.getfield 96, 3) := by decide +kernel
theorem dX7_pass_18 : decode cX7_pass 18 = .ok (.iload 4, 2) := by decide +kernel
theorem dX7_pass_20 : decode cX7_pass 20 = .ok (.iaload, 1) := by decide +kernel
theorem dX7_pass_21 : decode cX7_pass 21 = .ok (.aload_n 0, 1) := by decide +kernel
theorem dX7_pass_22 : decode cX7_pass 22 = .ok (.getfield 44, 3) := by decide +kernel
theorem dX7_pass_25 : decode cX7_pass 25 = .ok (.getfield 190, 3) := by decide +kernel
theorem dX7_pass_28 : decode cX7_pass 28 = .ok (.iload 4, 2) := by decide +kernel
theorem dX7_pass_30 : decode cX7_pass 30 = .ok (.iaload, 1) := by decide +kernel
theorem dX7_pass_31 : decode cX7_pass 31 = .ok (.if_icmp .lt 6, 3) := by decide +kernel
theorem dX7_pass_34 : decode cX7_pass 34 = .ok (.goto 49, 3) := by decide +kernel
theorem dX7_pass_37 : decode cX7_pass 37 = .ok (.iload_n 2, 1) := by decide +kernel
theorem dX7_pass_38 : decode cX7_pass 38 = .ok (.ifCond .eq 37, 3) := by decide +kernel
theorem dX7_pass_41 : decode cX7_pass 41 = .ok (.aload_n 0, 1) := by decide +kernel
theorem dX7_pass_42 : decode cX7_pass 42 = .ok (.getfield 21, 3) := by decide +kernel
theorem dX7_pass_45 : decode cX7_pass 45 = .ok (.ifCond .le 30, 3) := by decide +kernel
theorem dX7_pass_48 : decode cX7_pass 48 = .ok (.aload_n 1, 1) := by decide +kernel
theorem dX7_pass_49 : decode cX7_pass 49 = .ok (.invokevirtual 193, 3) := by decide +kernel
theorem dX7_pass_52 : decode cX7_pass 52 = .ok (.aload_n 0, 1) := by decide +kernel
theorem dX7_pass_53 : decode cX7_pass 53 = .ok (.getfield 21, 3) := by decide +kernel
theorem dX7_pass_56 : decode cX7_pass 56 = .ok (.if_icmp .ge 19, 3) := by decide +kernel
theorem dX7_pass_59 : decode cX7_pass 59 = .ok (.aload_n 0, 1) := by decide +kernel
theorem dX7_pass_60 : decode cX7_pass 60 = .ok (.aload_n 1, 1) := by decide +kernel
theorem dX7_pass_61 : decode cX7_pass 61 = .ok (.iload 4, 2) := by decide +kernel
theorem dX7_pass_63 : decode cX7_pass 63 = .ok (.iconst 3, 1) := by decide +kernel
theorem dX7_pass_64 : decode cX7_pass 64 = .ok (.iconst 1, 1) := by decide +kernel
theorem dX7_pass_65 : decode cX7_pass 65 = .ok (.iconst 1, 1) := by decide +kernel
theorem dX7_pass_66 : decode cX7_pass 66 = .ok (.invokevirtual 197, 3) := by decide +kernel
theorem dX7_pass_69 : decode cX7_pass 69 = .ok (.iinc 3 1, 3) := by decide +kernel
theorem dX7_pass_72 : decode cX7_pass 72 = .ok (.goto 11, 3) := by decide +kernel
theorem dX7_pass_75 : decode cX7_pass 75 = .ok (.aload_n 0, 1) := by decide +kernel
theorem dX7_pass_76 : decode cX7_pass 76 = .ok (.aload_n 1, 1) := by decide +kernel
theorem dX7_pass_77 : decode cX7_pass 77 = .ok (.iload 4, 2) := by decide +kernel
theorem dX7_pass_79 : decode cX7_pass 79 = .ok (.iload_n 2, 1) := by decide +kernel
theorem dX7_pass_80 : decode cX7_pass 80 = .ok (.invokevirtual 201, 3) := by decide +kernel
theorem dX7_pass_83 : decode cX7_pass 83 = .ok (.iinc 4 1, 3) := by decide +kernel
theorem dX7_pass_86 : decode cX7_pass 86 = .ok (.goto (-81), 3) := by decide +kernel
theorem dX7_pass_89 : decode cX7_pass 89 = .ok (.aload_n 0, 1) := by decide +kernel
theorem dX7_pass_90 : decode cX7_pass 90 = .ok (.aload_n 1, 1) := by decide +kernel
theorem dX7_pass_91 : decode cX7_pass 91 = .ok (.invokevirtual 205, 3) := by decide +kernel
theorem dX7_pass_94 : decode cX7_pass 94 = .ok (.aload_n 1, 1) := by decide +kernel
theorem dX7_pass_95 : decode cX7_pass 95 = .ok (.dup, 1) := by decide +kernel
theorem dX7_pass_96 : decode cX7_pass 96 = .ok (.getfield 160, 3) := by decide +kernel
theorem dX7_pass_99 : decode cX7_pass 99 = .ok (.iconst 1, 1) := by decide +kernel
theorem dX7_pass_100 : decode cX7_pass 100 = .ok (.iadd, 1) := by decide +kernel
theorem dX7_pass_101 : decode cX7_pass 101 = .ok (.putfield 160, 3) := by decide +kernel
theorem dX7_pass_104 : decode cX7_pass 104 = .ok (.iload_n 3, 1) := by decide +kernel
theorem dX7_pass_105 : decode cX7_pass 105 = .ok (.ireturn, 1) := by decide +kernel
set_option maxRecDepth 20000 in
theorem vX7_pass {g : zG} {d : Nat} {Q : Int32 → zM → Prop} {M : zM} {m : Nat} {l2 : Bool} (hm : zMo shC m) (h : zW shC g (d + 1) mX7_pass (zi Q) 5 [(0, .ref 1), (1, .ref m), (2, .int (zbI l2)), (3, .int 0), (4, .int 0)] [] M) : zCi shC g (d + 1) mX7_pass [.ref 1, .ref m, .int (zbI l2)] M Q := by
  refine zW.enter (by decide +kernel) (Nat.le_of_ble_eq_true rfl) ?_
  change zW shC g (d + 1) mX7_pass (zi Q) 0 [(0, .ref 1), (1, .ref m), (2, .int (zbI l2))] [] M
  refine z_iconst (v := 0) dX7_pass_0 (by decide) ?_
  refine z_istore_n [(3, .int 0), (0, .ref 1), (1, .ref m), (2, .int (zbI l2))] dX7_pass_1 (by decide) rfl ?_
  refine z_iconst (v := 0) dX7_pass_2 (by decide) ?_
  refine z_istore [(4, .int 0), (3, .int 0), (0, .ref 1), (1, .ref m), (2, .int (zbI l2))] dX7_pass_3 (by decide) rfl ?_
  exact zW.sub [2, 3, 4, 1, 0] rfl h
set_option maxRecDepth 20000 in
theorem vX7_pass_5 {g : zG} {d : Nat} {Q : Int32 → zM → Prop} {M : zM} {m : Nat} {l2 : Bool} {l3 : Int32} {l4 : Int32} (hm : zMo shC m) (h : ((M 1 4) ≤ l4 → zCv shC g d mX7_thaw [.ref 1, .ref m] M (fun  M1 => Q l3 (zup M1 m 5 ((M1 m 5) + 1)))) ∧ (¬ (M 1 4) ≤ l4 → ∃ k1 : Nat, l4 = iv k1 ∧ k1 < 6 ∧ ((M (m + 4) k1) < (M 12 k1) → (l2 = false → zCv shC g d mX7_step [.ref 1, .ref m, .int l4, .int (zbI l2)] M (fun  M1 => zW shC g (d + 1) mX7_pass (zi Q) 5 [(0, .ref 1), (1, .ref m), (2, .int (zbI l2)), (3, .int l3), (4, .int (l4 + 1))] [] M1)) ∧ (l2 = true → ((M 1 3) ≤ 0 → zCv shC g d mX7_step [.ref 1, .ref m, .int l4, .int (zbI l2)] M (fun  M1 => zW shC g (d + 1) mX7_pass (zi Q) 5 [(0, .ref 1), (1, .ref m), (2, .int (zbI l2)), (3, .int l3), (4, .int (l4 + 1))] [] M1)) ∧ (¬ (M 1 3) ≤ 0 → zCi shC g d mX2_drawOf1000 [.ref m] M (fun x1 M1 => ((M1 1 3) ≤ x1 → zCv shC g d mX7_step [.ref 1, .ref m, .int l4, .int (zbI l2)] M1 (fun  M2 => zW shC g (d + 1) mX7_pass (zi Q) 5 [(0, .ref 1), (1, .ref m), (2, .int (zbI l2)), (3, .int l3), (4, .int (l4 + 1))] [] M2)) ∧ (¬ (M1 1 3) ≤ x1 → zCv shC g d mX7_deepen [.ref 1, .ref m, .int l4, .int 3, .int 1, .int (zbI true)] M1 (fun  M2 => zW shC g (d + 1) mX7_pass (zi Q) 5 [(0, .ref 1), (1, .ref m), (2, .int (zbI l2)), (3, .int (l3 + 1)), (4, .int (l4 + 1))] [] M2)))))) ∧ (¬ (M (m + 4) k1) < (M 12 k1) → zW shC g (d + 1) mX7_pass (zi Q) 5 [(0, .ref 1), (1, .ref m), (2, .int (zbI l2)), (3, .int l3), (4, .int (l4 + 1))] [] M))) : zW shC g (d + 1) mX7_pass (zi Q) 5 [(0, .ref 1), (1, .ref m), (2, .int (zbI l2)), (3, .int l3), (4, .int l4)] [] M := by
  refine z_iload dX7_pass_5 4 rfl ?_
  refine z_aload_n dX7_pass_7 0 rfl ?_
  refine z_geti shC_1 rfl flX7_24 dX7_pass_8 ?_
  refine z_icmp_ge 89 dX7_pass_11 (by decide) (fun c1 => ?_) (fun c1 => ?_)
  · have h := h.1 c1
    refine z_aload_n dX7_pass_89 0 rfl ?_
    refine z_aload_n dX7_pass_90 1 rfl ?_
    refine z_callV (m2 := mX7_thaw) (st := []) [.ref m] okX7_thaw (Or.inl lkX7_205) shC_1 rfl rfl rfl (Nat.le_of_ble_eq_true rfl) dX7_pass_91 (zgo_v h fun  M1 h => ?_)
    refine z_aload_n dX7_pass_94 1 rfl ?_
    refine z_dupr dX7_pass_95 ?_
    refine z_geti hm.1 rfl flX7_160 dX7_pass_96 ?_
    refine z_iconst (v := 1) dX7_pass_99 (by decide) ?_
    refine z_iadd dX7_pass_100 ?_
    refine z_puti hm.1 rfl fpX7_160 rfl rfl dX7_pass_101 ?_
    refine z_iload_n dX7_pass_104 3 rfl ?_
    exact z_iret (st := []) rfl rfl dX7_pass_105 ⟨_, rfl, h⟩
  · have h := h.2 c1
    refine z_aload_n dX7_pass_14 1 rfl ?_
    refine z_getr hm.1 rfl flX7_96 dX7_pass_15 ?_
    refine z_iload dX7_pass_18 4 rfl ?_
    obtain ⟨k1, ek1, uk1, h⟩ := h
    refine z_iald2 (k0 := k1) hm.2.2.2.2.1 (by decide) ek1 uk1 dX7_pass_20 ?_
    refine z_aload_n dX7_pass_21 0 rfl ?_
    refine z_getr shC_1 rfl flX7_44 dX7_pass_22 ?_
    refine z_getr shC_10 rfl flX7_190 dX7_pass_25 ?_
    refine z_iload dX7_pass_28 4 rfl ?_
    refine z_iald2 (k0 := k1) shC_12 (by decide) ek1 uk1 dX7_pass_30 ?_
    refine z_icmp_lt 37 dX7_pass_31 (by decide) (fun c2 => ?_) (fun c2 => ?_)
    · have h := h.1 c2
      refine z_iload_n dX7_pass_37 2 rfl ?_
      refine z_ifb_eq 75 dX7_pass_38 (by decide) (fun c3 => ?_) (fun c3 => ?_)
      · have h := h.1 c3
        refine z_aload_n dX7_pass_75 0 rfl ?_
        refine z_aload_n dX7_pass_76 1 rfl ?_
        refine z_iload dX7_pass_77 4 rfl ?_
        refine z_iload_n dX7_pass_79 2 rfl ?_
        refine z_callV (m2 := mX7_step) (st := []) [.ref m, .int l4, .int (zbI l2)] okX7_step (Or.inl lkX7_201) shC_1 rfl rfl rfl (Nat.le_of_ble_eq_true rfl) dX7_pass_80 (zgo_v h fun  M1 h => ?_)
        refine z_iinc (x := l4) (v := (l4 + 1)) [(4, .int (l4 + 1)), (0, .ref 1), (1, .ref m), (2, .int (zbI l2)), (3, .int l3)] dX7_pass_83 4 rfl rfl (by decide) rfl ?_
        refine z_goto 5 dX7_pass_86 (by decide) ?_
        exact zW.sub [1, 2, 3, 4, 0] rfl h
      · have h := h.2 c3
        refine z_aload_n dX7_pass_41 0 rfl ?_
        refine z_geti shC_1 rfl flX7_21 dX7_pass_42 ?_
        refine z_if_le 75 dX7_pass_45 (by decide) (fun c4 => ?_) (fun c4 => ?_)
        · have h := h.1 c4
          refine z_aload_n dX7_pass_75 0 rfl ?_
          refine z_aload_n dX7_pass_76 1 rfl ?_
          refine z_iload dX7_pass_77 4 rfl ?_
          refine z_iload_n dX7_pass_79 2 rfl ?_
          refine z_callV (m2 := mX7_step) (st := []) [.ref m, .int l4, .int (zbI l2)] okX7_step (Or.inl lkX7_201) shC_1 rfl rfl rfl (Nat.le_of_ble_eq_true rfl) dX7_pass_80 (zgo_v h fun  M1 h => ?_)
          refine z_iinc (x := l4) (v := (l4 + 1)) [(4, .int (l4 + 1)), (0, .ref 1), (1, .ref m), (2, .int (zbI l2)), (3, .int l3)] dX7_pass_83 4 rfl rfl (by decide) rfl ?_
          refine z_goto 5 dX7_pass_86 (by decide) ?_
          exact zW.sub [1, 2, 3, 4, 0] rfl h
        · have h := h.2 c4
          refine z_aload_n dX7_pass_48 1 rfl ?_
          refine z_callV (m2 := mX2_drawOf1000) (st := []) [] okX2_drawOf1000 (Or.inl lkX7_193) hm.1 rfl rfl rfl (Nat.le_of_ble_eq_true rfl) dX7_pass_49 (zgo_i h fun x1 M1 h => ?_)
          refine z_aload_n dX7_pass_52 0 rfl ?_
          refine z_geti shC_1 rfl flX7_21 dX7_pass_53 ?_
          refine z_icmp_ge 75 dX7_pass_56 (by decide) (fun c5 => ?_) (fun c5 => ?_)
          · have h := h.1 c5
            refine z_aload_n dX7_pass_75 0 rfl ?_
            refine z_aload_n dX7_pass_76 1 rfl ?_
            refine z_iload dX7_pass_77 4 rfl ?_
            refine z_iload_n dX7_pass_79 2 rfl ?_
            refine z_callV (m2 := mX7_step) (st := []) [.ref m, .int l4, .int (zbI l2)] okX7_step (Or.inl lkX7_201) shC_1 rfl rfl rfl (Nat.le_of_ble_eq_true rfl) dX7_pass_80 (zgo_v h fun  M2 h => ?_)
            refine z_iinc (x := l4) (v := (l4 + 1)) [(4, .int (l4 + 1)), (0, .ref 1), (1, .ref m), (2, .int (zbI l2)), (3, .int l3)] dX7_pass_83 4 rfl rfl (by decide) rfl ?_
            refine z_goto 5 dX7_pass_86 (by decide) ?_
            exact zW.sub [1, 2, 3, 4, 0] rfl h
          · have h := h.2 c5
            refine z_aload_n dX7_pass_59 0 rfl ?_
            refine z_aload_n dX7_pass_60 1 rfl ?_
            refine z_iload dX7_pass_61 4 rfl ?_
            refine z_iconst (v := 3) dX7_pass_63 (by decide) ?_
            refine z_iconst (v := 1) dX7_pass_64 (by decide) ?_
            refine z_iconst (v := 1) dX7_pass_65 (by decide) ?_
            refine z_callV (m2 := mX7_deepen) (st := []) [.ref m, .int l4, .int 3, .int 1, .int (zbI true)] okX7_deepen (Or.inl lkX7_197) shC_1 rfl rfl rfl (Nat.le_of_ble_eq_true rfl) dX7_pass_66 (zgo_v h fun  M2 h => ?_)
            refine z_iinc (x := l3) (v := (l3 + 1)) [(3, .int (l3 + 1)), (0, .ref 1), (1, .ref m), (2, .int (zbI l2)), (4, .int l4)] dX7_pass_69 3 rfl rfl (by decide) rfl ?_
            refine z_goto 83 dX7_pass_72 (by decide) ?_
            refine z_iinc (x := l4) (v := (l4 + 1)) [(4, .int (l4 + 1)), (3, .int (l3 + 1)), (0, .ref 1), (1, .ref m), (2, .int (zbI l2))] dX7_pass_83 4 rfl rfl (by decide) rfl ?_
            refine z_goto 5 dX7_pass_86 (by decide) ?_
            exact zW.sub [2, 3, 4, 1, 0] rfl h
    · have h := h.2 c2
      refine z_goto 83 dX7_pass_34 (by decide) ?_
      refine z_iinc (x := l4) (v := (l4 + 1)) [(4, .int (l4 + 1)), (0, .ref 1), (1, .ref m), (2, .int (zbI l2)), (3, .int l3)] dX7_pass_83 4 rfl rfl (by decide) rfl ?_
      refine z_goto 5 dX7_pass_86 (by decide) ?_
      exact zW.sub [1, 2, 3, 4, 0] rfl h
theorem dX7_step_0 : decode cX7_step 0 = .ok (.aload_n 1, 1) := by decide +kernel
theorem dX7_step_1 : decode cX7_step 1 = .ok (.getfield 96, 3) := by decide +kernel
theorem dX7_step_4 : decode cX7_step 4 = .ok (.iload_n 2, 1) := by decide +kernel
theorem dX7_step_5 : decode cX7_step 5 = .ok (.iaload, 1) := by decide +kernel
theorem dX7_step_6 : decode cX7_step 6 = .ok (.istore 4, 2) := by decide +kernel
theorem dX7_step_8 : decode cX7_step 8 = .ok (.aload_n 1, 1) := by decide +kernel
theorem dX7_step_9 : decode cX7_step 9 = .ok (.getfield 99, 3) := by decide +kernel
theorem dX7_step_12 : decode cX7_step 12 = .ok (.iload_n 2, 1) := by decide +kernel
theorem dX7_step_13 : decode cX7_step 13 = .ok (.aload_n 0, 1) := by decide +kernel
theorem dX7_step_14 : decode cX7_step 14 = .ok (.getfield 44, 3) := by decide +kernel
theorem dX7_step_17 : decode cX7_step 17 = .ok (.iload_n 2, 1) := by decide +kernel
theorem dX7_step_18 : decode cX7_step 18 = .ok (.iload 4, 2) := by decide +kernel
theorem dX7_step_20 : decode cX7_step 20 = .ok (.aload_n 1, 1) := by decide +kernel
theorem dX7_step_21 : decode cX7_step 21 = .ok (.getfield 99, 3) := by decide +kernel
theorem dX7_step_24 : decode cX7_step 24 = .ok (.iload_n 2, 1) := by decide +kernel
theorem dX7_step_25 : decode cX7_step 25 = .ok (.iaload, 1) := by decide +kernel
theorem dX7_step_26 : decode cX7_step 26 = .ok (.invokevirtual 208, 3) := by decide +kernel
theorem dX7_step_29 : decode cX7_step 29 = .ok (.iastore, 1) := by decide +kernel
theorem dX7_step_30 : decode cX7_step 30 = .ok (.aload_n 1, 1) := by decide +kernel
theorem dX7_step_31 : decode cX7_step 31 = .ok (.getfield 93, 3) := by decide +kernel
theorem dX7_step_34 : decode cX7_step 34 = .ok (.iload_n 2, 1) := by decide +kernel
theorem dX7_step_35 : decode cX7_step 35 = .ok (.aload_n 0, 1) := by decide +kernel
theorem dX7_step_36 : decode cX7_step 36 = .ok (.aload_n 1, 1) := by decide +kernel
theorem dX7_step_37 : decode cX7_step 37 = .ok (.getfield 93, 3) := by decide +kernel
theorem dX7_step_40 : decode cX7_step 40 = .ok (.iload_n 2, 1) := by decide +kernel
theorem dX7_step_41 : decode cX7_step 41 = .ok (.iaload, 1) := by decide +kernel
theorem dX7_step_42 : decode cX7_step 42 = .ok (.aload_n 0, 1) := by decide +kernel
theorem dX7_step_43 : decode cX7_step 43 = .ok (.getfield 44, 3) := by decide +kernel
theorem dX7_step_46 : decode cX7_step 46 = .ok (.iload_n 2, 1) := by decide +kernel
theorem dX7_step_47 : decode cX7_step 47 = .ok (.iload 4, 2) := by decide +kernel
theorem dX7_step_49 : decode cX7_step 49 = .ok (.invokevirtual 212, 3) := by decide +kernel
theorem dX7_step_52 : decode cX7_step 52 = .ok (.invokevirtual 215, 3) := by decide +kernel
theorem dX7_step_55 : decode cX7_step 55 = .ok (.iastore, 1) := by decide +kernel
theorem dX7_step_56 : decode cX7_step 56 = .ok (.aload_n 0, 1) := by decide +kernel
theorem dX7_step_57 : decode cX7_step 57 = .ok (.getfield 44, 3) := by decide +kernel
theorem dX7_step_60 : decode cX7_step 60 = .ok (.iload_n 2, 1) := by decide +kernel
theorem dX7_step_61 : decode cX7_step 61 = .ok (.iload 4, 2) := by decide +kernel
theorem dX7_step_63 : decode cX7_step 63 = .ok (.invokevirtual 212, 3) := by decide +kernel
theorem dX7_step_66 : decode cX7_step 66 = .ok (.iconst 4, 1) := by decide +kernel
theorem dX7_step_67 : decode cX7_step 67 = .ok (.if_icmp .eq 42, 3) := by decide +kernel
theorem dX7_step_70 : decode cX7_step 70 = .ok (.aload_n 1, 1) := by decide +kernel
theorem dX7_step_71 : decode cX7_step 71 = .ok (.getfield 99, 3) := by decide +kernel
theorem dX7_step_74 : decode cX7_step 74 = .ok (.iload_n 2, 1) := by decide +kernel
theorem dX7_step_75 : decode cX7_step 75 = .ok (.iaload, 1) := by decide +kernel
theorem dX7_step_76 : decode cX7_step 76 = .ok (.iconst 1, 1) := by decide +kernel
theorem dX7_step_77 : decode cX7_step 77 = .ok (.if_icmp .ne 32, 3) := by decide +kernel
theorem dX7_step_80 : decode cX7_step 80 = .ok (.aload_n 0, 1) := by decide +kernel
theorem dX7_step_81 : decode cX7_step 81 = .ok (.aload_n 1, 1) := by decide +kernel
theorem dX7_step_82 : decode cX7_step 82 = .ok (.iload_n 2, 1) := by decide +kernel
theorem dX7_step_83 : decode cX7_step 83 = .ok (.aload_n 1, 1) := by decide +kernel
theorem dX7_step_84 : decode cX7_step 84 = .ok (.getfield 93, 3) := by decide +kernel
theorem dX7_step_87 : decode cX7_step 87 = .ok (.iload_n 2, 1) := by decide +kernel
theorem dX7_step_88 : decode cX7_step 88 = .ok (.iaload, 1) := by decide +kernel
theorem dX7_step_89 : decode cX7_step 89 = .ok (.invokevirtual 218, 3) := by decide +kernel
theorem dX7_step_92 : decode cX7_step 92 = .ok (.istore 5, 2) := by decide +kernel
theorem dX7_step_94 : decode cX7_step 94 = .ok (.iload 5, 2) := by decide +kernel
theorem dX7_step_96 : decode cX7_step 96 = .ok (.ifCond .le 13, 3) := by decide +kernel
theorem dX7_step_99 : decode cX7_step 99 = .ok (.aload_n 0, 1) := by decide +kernel
theorem dX7_step_100 : decode cX7_step 100 = .ok (.aload_n 1, 1) := by decide +kernel
theorem dX7_step_101 : decode cX7_step 101 = .ok (.iload_n 2, 1) := by decide +kernel
theorem dX7_step_102 : decode cX7_step 102 = .ok (.iload 5, 2) := by decide +kernel
theorem dX7_step_104 : decode cX7_step 104 = .ok (.iconst 0, 1) := by decide +kernel
theorem dX7_step_105 : decode cX7_step 105 = .ok (.iload_n 3, 1) := by decide +kernel
theorem dX7_step_106 : decode cX7_step 106 = .ok (.invokevirtual 197, 3) := by decide +kernel
theorem dX7_step_109 : decode cX7_step 109 = .ok (.aload_n 1, 1) := by decide +kernel
theorem dX7_step_110 : decode cX7_step 110 = .ok (.getfield 96, 3) := by decide +kernel
theorem dX7_step_113 : decode cX7_step 113 = .ok (.iload_n 2, 1) := by decide +kernel
theorem dX7_step_114 : decode cX7_step 114 = .ok (.dup2, 1) := by decide +kernel
theorem dX7_step_115 : decode cX7_step 115 = .ok (.iaload, 1) := by decide +kernel
theorem dX7_step_116 : decode cX7_step 116 = .ok (.iconst 1, 1) := by decide +kernel
theorem dX7_step_117 : decode cX7_step 117 = .ok (.iadd, 1) := by decide +kernel
theorem dX7_step_118 : decode cX7_step 118 = .ok (.iastore, 1) := by decide +kernel
theorem dX7_step_119 : decode cX7_step 119 = .ok (.aload_n 1, 1) := by decide +kernel
theorem dX7_step_120 : decode cX7_step 120 = .ok (.getfield 96, 3) := by decide +kernel
theorem dX7_step_123 : decode cX7_step 123 = .ok (.iload_n 2, 1) := by decide +kernel
theorem dX7_step_124 : decode cX7_step 124 = .ok (.iaload, 1) := by decide +kernel
theorem dX7_step_125 : decode cX7_step 125 = .ok (.aload_n 0, 1) := by decide +kernel
theorem dX7_step_126 : decode cX7_step 126 = .ok (.getfield 44, 3) := by decide +kernel
theorem dX7_step_129 : decode cX7_step 129 = .ok (.getfield 190, 3) := by decide +kernel
theorem dX7_step_132 : decode cX7_step 132 = .ok (.iload_n 2, 1) := by decide +kernel
theorem dX7_step_133 : decode cX7_step 133 = .ok (.iaload, 1) := by decide +kernel
theorem dX7_step_134 : decode cX7_step 134 = .ok (.if_icmp .ne 23, 3) := by decide +kernel
theorem dX7_step_137 : decode cX7_step 137 = .ok (.aload_n 1, 1) := by decide +kernel
theorem dX7_step_138 : decode cX7_step 138 = .ok (.getfield 99, 3) := by decide +kernel
theorem dX7_step_141 : decode cX7_step 141 = .ok (.iload_n 2, 1) := by decide +kernel
theorem dX7_step_142 : decode cX7_step 142 = .ok (.aload_n 0, 1) := by decide +kernel
theorem dX7_step_143 : decode cX7_step 143 = .ok (.getfield 44, 3) := by decide +kernel
theorem dX7_step_146 : decode cX7_step 146 = .ok (.iload_n 2, 1) := by decide +kernel
theorem dX7_step_147 : decode cX7_step 147 = .ok (.aload_n 1, 1) := by decide +kernel
theorem dX7_step_148 : decode cX7_step 148 = .ok (.getfield 99, 3) := by decide +kernel
theorem dX7_step_151 : decode cX7_step 151 = .ok (.iload_n 2, 1) := by decide +kernel
theorem dX7_step_152 : decode cX7_step 152 = .ok (.iaload, 1) := by decide +kernel
theorem dX7_step_153 : decode cX7_step 153 = .ok (.invokevirtual 222, 3) := by decide +kernel
theorem dX7_step_156 : decode cX7_step 156 = .ok (.iastore, 1) := by decide +kernel
theorem dX7_step_157 : decode cX7_step 157 = .ok (.return_, 1) := by decide +kernel
set_option maxRecDepth 20000 in
theorem vX7_step {g : zG} {d : Nat} {Q : zM → Prop} {M : zM} {m : Nat} {l2 : Int32} {l3 : Bool} (hm : zMo shC m) (h : ∃ k1 : Nat, l2 = iv k1 ∧ k1 < 6 ∧ zCi shC g d mX6_downAt [.ref 10, .int l2, .int (M (m + 4) k1), .int (M (m + 5) k1)] M (fun x1 M1 => zCi shC g d mX6_wayOf [.ref 10, .int l2, .int (M (m + 4) k1)] (zup M1 (m + 5) k1 x1) (fun x2 M2 => zCi shC g d mX7_cellBehind [.ref 1, .int ((zup M1 (m + 5) k1 x1) (m + 3) k1), .int x2] M2 (fun x3 M3 => zCi shC g d mX6_wayOf [.ref 10, .int l2, .int (M (m + 4) k1)] (zup M3 (m + 3) k1 x3) (fun x4 M4 => (x4 = 4 → zW shC g (d + 1) mX7_step (zv Q) 109 [(0, .ref 1), (1, .ref m), (2, .int l2)] [] M4) ∧ (¬ x4 = 4 → (¬ (M4 (m + 5) k1) = 1 → zW shC g (d + 1) mX7_step (zv Q) 109 [(0, .ref 1), (1, .ref m), (2, .int l2)] [] M4) ∧ ((M4 (m + 5) k1) = 1 → zCi shC g d mX7_cutOf [.ref 1, .ref m, .int l2, .int (M4 (m + 3) k1)] M4 (fun x5 M5 => (x5 ≤ 0 → zW shC g (d + 1) mX7_step (zv Q) 109 [(0, .ref 1), (1, .ref m), (2, .int l2)] [] M5) ∧ (¬ x5 ≤ 0 → zCv shC g d mX7_deepen [.ref 1, .ref m, .int l2, .int x5, .int 0, .int (zbI l3)] M5 (fun  M6 => zW shC g (d + 1) mX7_step (zv Q) 109 [(0, .ref 1), (1, .ref m), (2, .int l2)] [] M6)))))))))) : zCv shC g (d + 1) mX7_step [.ref 1, .ref m, .int l2, .int (zbI l3)] M Q := by
  refine zW.enter (by decide +kernel) (Nat.le_of_ble_eq_true rfl) ?_
  change zW shC g (d + 1) mX7_step (zv Q) 0 [(0, .ref 1), (1, .ref m), (2, .int l2), (3, .int (zbI l3))] [] M
  refine z_aload_n dX7_step_0 1 rfl ?_
  refine z_getr hm.1 rfl flX7_96 dX7_step_1 ?_
  refine z_iload_n dX7_step_4 2 rfl ?_
  obtain ⟨k1, ek1, uk1, h⟩ := h
  refine z_iald2 (k0 := k1) hm.2.2.2.2.1 (by decide) ek1 uk1 dX7_step_5 ?_
  refine z_istore [(4, .int (M (m + 4) k1)), (0, .ref 1), (1, .ref m), (2, .int l2), (3, .int (zbI l3))] dX7_step_6 (by decide) rfl ?_
  refine z_aload_n dX7_step_8 2 rfl ?_
  refine z_getr hm.1 rfl flX7_99 dX7_step_9 ?_
  refine z_iload_n dX7_step_12 3 rfl ?_
  refine z_aload_n dX7_step_13 1 rfl ?_
  refine z_getr shC_1 rfl flX7_44 dX7_step_14 ?_
  refine z_iload_n dX7_step_17 3 rfl ?_
  refine z_iload dX7_step_18 0 rfl ?_
  refine z_aload_n dX7_step_20 2 rfl ?_
  refine z_getr hm.1 rfl flX7_99 dX7_step_21 ?_
  refine z_iload_n dX7_step_24 3 rfl ?_
  refine z_iald2 (k0 := k1) hm.2.2.2.2.2 (by decide) ek1 uk1 dX7_step_25 ?_
  refine z_callV (m2 := mX6_downAt) (st := [.int l2, .ref (m + 5)]) [.int l2, .int (M (m + 4) k1), .int (M (m + 5) k1)] okX6_downAt (Or.inl lkX7_208) shC_10 rfl rfl rfl (Nat.le_of_ble_eq_true rfl) dX7_step_26 (zgo_i h fun x1 M1 h => ?_)
  refine z_iast2 (k0 := k1) hm.2.2.2.2.2 (by decide) ek1 uk1 dX7_step_29 ?_
  refine z_aload_n dX7_step_30 2 rfl ?_
  refine z_getr hm.1 rfl flX7_93 dX7_step_31 ?_
  refine z_iload_n dX7_step_34 3 rfl ?_
  refine z_aload_n dX7_step_35 1 rfl ?_
  refine z_aload_n dX7_step_36 2 rfl ?_
  refine z_getr hm.1 rfl flX7_93 dX7_step_37 ?_
  refine z_iload_n dX7_step_40 3 rfl ?_
  refine z_iald2 (k0 := k1) hm.2.2.2.1 (by decide) ek1 uk1 dX7_step_41 ?_
  refine z_aload_n dX7_step_42 1 rfl ?_
  refine z_getr shC_1 rfl flX7_44 dX7_step_43 ?_
  refine z_iload_n dX7_step_46 3 rfl ?_
  refine z_iload dX7_step_47 0 rfl ?_
  refine z_callV (m2 := mX6_wayOf) (st := [.int ((zup M1 (m + 5) k1 x1) (m + 3) k1), .ref 1, .int l2, .ref (m + 3)]) [.int l2, .int (M (m + 4) k1)] okX6_wayOf (Or.inl lkX7_212) shC_10 rfl rfl rfl (Nat.le_of_ble_eq_true rfl) dX7_step_49 (zgo_i h fun x2 M2 h => ?_)
  refine z_callV (m2 := mX7_cellBehind) (st := [.int l2, .ref (m + 3)]) [.int ((zup M1 (m + 5) k1 x1) (m + 3) k1), .int x2] okX7_cellBehind (Or.inl lkX7_215) shC_1 rfl rfl rfl (Nat.le_of_ble_eq_true rfl) dX7_step_52 (zgo_i h fun x3 M3 h => ?_)
  refine z_iast2 (k0 := k1) hm.2.2.2.1 (by decide) ek1 uk1 dX7_step_55 ?_
  refine z_aload_n dX7_step_56 1 rfl ?_
  refine z_getr shC_1 rfl flX7_44 dX7_step_57 ?_
  refine z_iload_n dX7_step_60 3 rfl ?_
  refine z_iload dX7_step_61 0 rfl ?_
  refine z_callV (m2 := mX6_wayOf) (st := []) [.int l2, .int (M (m + 4) k1)] okX6_wayOf (Or.inl lkX7_212) shC_10 rfl rfl rfl (Nat.le_of_ble_eq_true rfl) dX7_step_63 (zgo_i h fun x4 M4 h => ?_)
  refine z_iconst (v := 4) dX7_step_66 (by decide) ?_
  refine z_icmp_eq 109 dX7_step_67 (by decide) (fun c1 => ?_) (fun c1 => ?_)
  · have h := h.1 c1
    exact zW.sub [1, 2, 3] rfl h
  · have h := h.2 c1
    refine z_aload_n dX7_step_70 2 rfl ?_
    refine z_getr hm.1 rfl flX7_99 dX7_step_71 ?_
    refine z_iload_n dX7_step_74 3 rfl ?_
    refine z_iald2 (k0 := k1) hm.2.2.2.2.2 (by decide) ek1 uk1 dX7_step_75 ?_
    refine z_iconst (v := 1) dX7_step_76 (by decide) ?_
    refine z_icmp_ne 109 dX7_step_77 (by decide) (fun c2 => ?_) (fun c2 => ?_)
    · have h := h.1 c2
      exact zW.sub [1, 2, 3] rfl h
    · have h := h.2 c2
      refine z_aload_n dX7_step_80 1 rfl ?_
      refine z_aload_n dX7_step_81 2 rfl ?_
      refine z_iload_n dX7_step_82 3 rfl ?_
      refine z_aload_n dX7_step_83 2 rfl ?_
      refine z_getr hm.1 rfl flX7_93 dX7_step_84 ?_
      refine z_iload_n dX7_step_87 3 rfl ?_
      refine z_iald2 (k0 := k1) hm.2.2.2.1 (by decide) ek1 uk1 dX7_step_88 ?_
      refine z_callV (m2 := mX7_cutOf) (st := []) [.ref m, .int l2, .int (M4 (m + 3) k1)] okX7_cutOf (Or.inl lkX7_218) shC_1 rfl rfl rfl (Nat.le_of_ble_eq_true rfl) dX7_step_89 (zgo_i h fun x5 M5 h => ?_)
      refine z_istore [(5, .int x5), (4, .int (M (m + 4) k1)), (0, .ref 1), (1, .ref m), (2, .int l2), (3, .int (zbI l3))] dX7_step_92 (by decide) rfl ?_
      refine z_iload dX7_step_94 0 rfl ?_
      refine z_if_le 109 dX7_step_96 (by decide) (fun c3 => ?_) (fun c3 => ?_)
      · have h := h.1 c3
        exact zW.sub [2, 3, 4] rfl h
      · have h := h.2 c3
        refine z_aload_n dX7_step_99 2 rfl ?_
        refine z_aload_n dX7_step_100 3 rfl ?_
        refine z_iload_n dX7_step_101 4 rfl ?_
        refine z_iload dX7_step_102 0 rfl ?_
        refine z_iconst (v := 0) dX7_step_104 (by decide) ?_
        refine z_iload_n dX7_step_105 5 rfl ?_
        refine z_callV (m2 := mX7_deepen) (st := []) [.ref m, .int l2, .int x5, .int 0, .int (zbI l3)] okX7_deepen (Or.inl lkX7_197) shC_1 rfl rfl rfl (Nat.le_of_ble_eq_true rfl) dX7_step_106 (zgo_v h fun  M6 h => ?_)
        exact zW.sub [2, 3, 4] rfl h
set_option maxRecDepth 20000 in
theorem vX7_step_109 {g : zG} {d : Nat} {Q : zM → Prop} {M : zM} {m : Nat} {l2 : Int32} (hm : zMo shC m) (h : ∃ k1 : Nat, l2 = iv k1 ∧ k1 < 6 ∧ (¬ ((zup M (m + 4) k1 ((M (m + 4) k1) + 1)) (m + 4) k1) = ((zup M (m + 4) k1 ((M (m + 4) k1) + 1)) 12 k1) → Q (zup M (m + 4) k1 ((M (m + 4) k1) + 1))) ∧ (((zup M (m + 4) k1 ((M (m + 4) k1) + 1)) (m + 4) k1) = ((zup M (m + 4) k1 ((M (m + 4) k1) + 1)) 12 k1) → zCi shC g d mX6_downBehind [.ref 10, .int l2, .int ((zup M (m + 4) k1 ((M (m + 4) k1) + 1)) (m + 5) k1)] (zup M (m + 4) k1 ((M (m + 4) k1) + 1)) (fun x1 M1 => Q (zup M1 (m + 5) k1 x1)))) : zW shC g (d + 1) mX7_step (zv Q) 109 [(0, .ref 1), (1, .ref m), (2, .int l2)] [] M := by
  refine z_aload_n dX7_step_109 1 rfl ?_
  refine z_getr hm.1 rfl flX7_96 dX7_step_110 ?_
  refine z_iload_n dX7_step_113 2 rfl ?_
  refine z_dup2 dX7_step_114 ?_
  obtain ⟨k1, ek1, uk1, h⟩ := h
  refine z_iald2 (k0 := k1) hm.2.2.2.2.1 (by decide) ek1 uk1 dX7_step_115 ?_
  refine z_iconst (v := 1) dX7_step_116 (by decide) ?_
  refine z_iadd dX7_step_117 ?_
  refine z_iast2 (k0 := k1) hm.2.2.2.2.1 (by decide) ek1 uk1 dX7_step_118 ?_
  refine z_aload_n dX7_step_119 1 rfl ?_
  refine z_getr hm.1 rfl flX7_96 dX7_step_120 ?_
  refine z_iload_n dX7_step_123 2 rfl ?_
  refine z_iald2 (k0 := k1) hm.2.2.2.2.1 (by decide) ek1 uk1 dX7_step_124 ?_
  refine z_aload_n dX7_step_125 0 rfl ?_
  refine z_getr shC_1 rfl flX7_44 dX7_step_126 ?_
  refine z_getr shC_10 rfl flX7_190 dX7_step_129 ?_
  refine z_iload_n dX7_step_132 2 rfl ?_
  refine z_iald2 (k0 := k1) shC_12 (by decide) ek1 uk1 dX7_step_133 ?_
  refine z_icmp_ne 157 dX7_step_134 (by decide) (fun c1 => ?_) (fun c1 => ?_)
  · have h := h.1 c1
    exact z_vret (st := []) rfl dX7_step_157 ⟨rfl, h⟩
  · have h := h.2 c1
    refine z_aload_n dX7_step_137 1 rfl ?_
    refine z_getr hm.1 rfl flX7_99 dX7_step_138 ?_
    refine z_iload_n dX7_step_141 2 rfl ?_
    refine z_aload_n dX7_step_142 0 rfl ?_
    refine z_getr shC_1 rfl flX7_44 dX7_step_143 ?_
    refine z_iload_n dX7_step_146 2 rfl ?_
    refine z_aload_n dX7_step_147 1 rfl ?_
    refine z_getr hm.1 rfl flX7_99 dX7_step_148 ?_
    refine z_iload_n dX7_step_151 2 rfl ?_
    refine z_iald2 (k0 := k1) hm.2.2.2.2.2 (by decide) ek1 uk1 dX7_step_152 ?_
    refine z_callV (m2 := mX6_downBehind) (st := [.int l2, .ref (m + 5)]) [.int l2, .int ((zup M (m + 4) k1 ((M (m + 4) k1) + 1)) (m + 5) k1)] okX6_downBehind (Or.inl lkX7_222) shC_10 rfl rfl rfl (Nat.le_of_ble_eq_true rfl) dX7_step_153 (zgo_i h fun x1 M1 h => ?_)
    refine z_iast2 (k0 := k1) hm.2.2.2.2.2 (by decide) ek1 uk1 dX7_step_156 ?_
    exact z_vret (st := []) rfl dX7_step_157 ⟨rfl, h⟩
theorem dX7_cellBehind_0 : decode cX7_cellBehind 0 = .ok (.iload_n 2, 1) := by decide +kernel
theorem dX7_cellBehind_1 : decode cX7_cellBehind 1 = .ok (.iconst 4, 1) := by decide +kernel
theorem dX7_cellBehind_2 : decode cX7_cellBehind 2 = .ok (.if_icmp .ne 5, 3) := by decide +kernel
theorem dX7_cellBehind_5 : decode cX7_cellBehind 5 = .ok (.iload_n 1, 1) := by decide +kernel
theorem dX7_cellBehind_6 : decode cX7_cellBehind 6 = .ok (.ireturn, 1) := by decide +kernel
theorem dX7_cellBehind_7 : decode cX7_cellBehind 7 = .ok (.aload_n 0, 1) := by decide +kernel
theorem dX7_cellBehind_8 : decode cX7_cellBehind 8 = .ok (.iload_n 1, 1) := by decide +kernel
theorem dX7_cellBehind_9 : decode cX7_cellBehind 9 = .ok (.iload_n 2, 1) := by decide +kernel
theorem dX7_cellBehind_10 : decode cX7_cellBehind 10 = .ok (.invokevirtual 121, 3) := by decide +kernel
theorem dX7_cellBehind_13 : decode cX7_cellBehind 13 = .ok (.istore_n 3, 1) := by decide +kernel
theorem dX7_cellBehind_14 : decode cX7_cellBehind 14 = .ok (.iload_n 3, 1) := by decide +kernel
theorem dX7_cellBehind_15 : decode cX7_cellBehind 15 = .ok (.iconst (-1), 1) := by decide +kernel
theorem dX7_cellBehind_16 : decode cX7_cellBehind 16 = .ok (.if_icmp .ne 7, 3) := by decide +kernel
theorem dX7_cellBehind_19 : decode cX7_cellBehind 19 = .ok (.iload_n 1, 1) := by decide +kernel
theorem dX7_cellBehind_20 : decode cX7_cellBehind 20 = .ok (.goto 4, 3) := by decide +kernel
theorem dX7_cellBehind_23 : decode cX7_cellBehind 23 = .ok (.iload_n 3, 1) := by decide +kernel
theorem dX7_cellBehind_24 : decode cX7_cellBehind 24 = .ok (.ireturn, 1) := by decide +kernel
set_option maxRecDepth 20000 in
theorem vX7_cellBehind {g : zG} {d : Nat} {Q : Int32 → zM → Prop} {M : zM} {l1 : Int32} {l2 : Int32} (h : (¬ l2 = 4 → zCi shC g d mX7_beside [.ref 1, .int l1, .int l2] M (fun x1 M1 => (¬ x1 = (-1) → Q x1 M1) ∧ (x1 = (-1) → Q l1 M1))) ∧ (l2 = 4 → Q l1 M)) : zCi shC g (d + 1) mX7_cellBehind [.ref 1, .int l1, .int l2] M Q := by
  refine zW.enter (by decide +kernel) (Nat.le_of_ble_eq_true rfl) ?_
  change zW shC g (d + 1) mX7_cellBehind (zi Q) 0 [(0, .ref 1), (1, .int l1), (2, .int l2)] [] M
  refine z_iload_n dX7_cellBehind_0 2 rfl ?_
  refine z_iconst (v := 4) dX7_cellBehind_1 (by decide) ?_
  refine z_icmp_ne 7 dX7_cellBehind_2 (by decide) (fun c1 => ?_) (fun c1 => ?_)
  · have h := h.1 c1
    refine z_aload_n dX7_cellBehind_7 0 rfl ?_
    refine z_iload_n dX7_cellBehind_8 1 rfl ?_
    refine z_iload_n dX7_cellBehind_9 2 rfl ?_
    refine z_callV (m2 := mX7_beside) (st := []) [.int l1, .int l2] okX7_beside (Or.inl lkX7_121) shC_1 rfl rfl rfl (Nat.le_of_ble_eq_true rfl) dX7_cellBehind_10 (zgo_i h fun x1 M1 h => ?_)
    refine z_istore_n [(3, .int x1), (0, .ref 1), (1, .int l1), (2, .int l2)] dX7_cellBehind_13 (by decide) rfl ?_
    refine z_iload_n dX7_cellBehind_14 0 rfl ?_
    refine z_iconst (v := (-1)) dX7_cellBehind_15 (by decide) ?_
    refine z_icmp_ne 23 dX7_cellBehind_16 (by decide) (fun c2 => ?_) (fun c2 => ?_)
    · have h := h.1 c2
      refine z_iload_n dX7_cellBehind_23 0 rfl ?_
      exact z_iret (st := []) rfl rfl dX7_cellBehind_24 ⟨_, rfl, h⟩
    · have h := h.2 c2
      refine z_iload_n dX7_cellBehind_19 2 rfl ?_
      refine z_goto 24 dX7_cellBehind_20 (by decide) ?_
      exact z_iret (st := []) rfl rfl dX7_cellBehind_24 ⟨_, rfl, h⟩
  · have h := h.2 c1
    refine z_iload_n dX7_cellBehind_5 1 rfl ?_
    exact z_iret (st := []) rfl rfl dX7_cellBehind_6 ⟨_, rfl, h⟩
theorem dX7_deepen_0 : decode cX7_deepen 0 = .ok (.aload_n 1, 1) := by decide +kernel
theorem dX7_deepen_1 : decode cX7_deepen 1 = .ok (.getfield 93, 3) := by decide +kernel
theorem dX7_deepen_4 : decode cX7_deepen 4 = .ok (.iload_n 2, 1) := by decide +kernel
theorem dX7_deepen_5 : decode cX7_deepen 5 = .ok (.iaload, 1) := by decide +kernel
theorem dX7_deepen_6 : decode cX7_deepen 6 = .ok (.istore 6, 2) := by decide +kernel
theorem dX7_deepen_8 : decode cX7_deepen 8 = .ok (.aload_n 1, 1) := by decide +kernel
theorem dX7_deepen_9 : decode cX7_deepen 9 = .ok (.getfield 118, 3) := by decide +kernel
theorem dX7_deepen_12 : decode cX7_deepen 12 = .ok (.iload 6, 2) := by decide +kernel
theorem dX7_deepen_14 : decode cX7_deepen 14 = .ok (.iaload, 1) := by decide +kernel
theorem dX7_deepen_15 : decode cX7_deepen 15 = .ok (.istore 7, 2) := by decide +kernel
theorem dX7_deepen_17 : decode cX7_deepen 17 = .ok (.aload_n 1, 1) := by decide +kernel
theorem dX7_deepen_18 : decode cX7_deepen 18 = .ok (.getfield 118, 3) := by decide +kernel
theorem dX7_deepen_21 : decode cX7_deepen 21 = .ok (.iload 6, 2) := by decide +kernel
theorem dX7_deepen_23 : decode cX7_deepen 23 = .ok (.bipush 9, 2) := by decide +kernel
theorem dX7_deepen_25 : decode cX7_deepen 25 = .ok (.iload 7, 2) := by decide +kernel
theorem dX7_deepen_27 : decode cX7_deepen 27 = .ok (.iload_n 3, 1) := by decide +kernel
theorem dX7_deepen_28 : decode cX7_deepen 28 = .ok (.iadd, 1) := by decide +kernel
theorem dX7_deepen_29 : decode cX7_deepen 29 = .ok (.invokestatic 182, 3) := by decide +kernel
theorem dX7_deepen_32 : decode cX7_deepen 32 = .ok (.iastore, 1) := by decide +kernel
theorem dX7_deepen_33 : decode cX7_deepen 33 = .ok (.aload_n 1, 1) := by decide +kernel
theorem dX7_deepen_34 : decode cX7_deepen 34 = .ok (.getfield 157, 3) := by decide +kernel
theorem dX7_deepen_37 : decode cX7_deepen 37 = .ok (.iload 6, 2) := by decide +kernel
theorem dX7_deepen_39 : decode cX7_deepen 39 = .ok (.iload_n 2, 1) := by decide +kernel
theorem dX7_deepen_40 : decode cX7_deepen 40 = .ok (.iastore, 1) := by decide +kernel
theorem dX7_deepen_41 : decode cX7_deepen 41 = .ok (.iload 5, 2) := by decide +kernel
theorem dX7_deepen_43 : decode cX7_deepen 43 = .ok (.ifCond .eq 65, 3) := by decide +kernel
theorem dX7_deepen_46 : decode cX7_deepen 46 = .ok (.aload_n 1, 1) := by decide +kernel
theorem dX7_deepen_47 : decode cX7_deepen 47 = .ok (.getfield 225, 3) := by decide +kernel
theorem dX7_deepen_50 : decode cX7_deepen 50 = .ok (.sipush 150, 3) := by decide +kernel
theorem dX7_deepen_53 : decode cX7_deepen 53 = .ok (.if_icmp .ge 55, 3) := by decide +kernel
theorem dX7_deepen_56 : decode cX7_deepen 56 = .ok (.aload_n 0, 1) := by decide +kernel
theorem dX7_deepen_57 : decode cX7_deepen 57 = .ok (.getfield 38, 3) := by decide +kernel
theorem dX7_deepen_60 : decode cX7_deepen 60 = .ok (.aload_n 1, 1) := by decide +kernel
theorem dX7_deepen_61 : decode cX7_deepen 61 = .ok (.getfield 225, 3) := by decide +kernel
theorem dX7_deepen_64 : decode cX7_deepen 64 = .ok (.aload_n 1, 1) := by decide +kernel
theorem dX7_deepen_65 : decode cX7_deepen 65 = .ok (.getfield 160, 3) := by decide +kernel
theorem dX7_deepen_68 : decode cX7_deepen 68 = .ok (.bipush 14, 2) := by decide +kernel
theorem dX7_deepen_70 : decode cX7_deepen 70 = .ok (.ishl, 1) := by decide +kernel
theorem dX7_deepen_71 : decode cX7_deepen 71 = .ok (.iload_n 2, 1) := by decide +kernel
theorem dX7_deepen_72 : decode cX7_deepen 72 = .ok (.bipush 11, 2) := by decide +kernel
theorem dX7_deepen_74 : decode cX7_deepen 74 = .ok (.ishl, 1) := by decide +kernel
theorem dX7_deepen_75 : decode cX7_deepen 75 = .ok (.ior, 1) := by decide +kernel
theorem dX7_deepen_76 : decode cX7_deepen 76 = .ok (.iload 6, 2) := by decide +kernel
theorem dX7_deepen_78 : decode cX7_deepen 78 = .ok (.iconst 5, 1) := by decide +kernel
theorem dX7_deepen_79 : decode cX7_deepen 79 = .ok (.ishl, 1) := by decide +kernel
theorem dX7_deepen_80 : decode cX7_deepen 80 = .ok (.ior, 1) := by decide +kernel
theorem dX7_deepen_81 : decode cX7_deepen 81 = .ok (.aload_n 1, 1) := by decide +kernel
theorem dX7_deepen_82 : decode cX7_deepen 82 = .ok (.getfield 118, 3) := by decide +kernel
theorem dX7_deepen_85 : decode cX7_deepen 85 = .ok (.iload 6, 2) := by decide +kernel
theorem dX7_deepen_87 : decode cX7_deepen 87 = .ok (.iaload, 1) := by decide +kernel
theorem dX7_deepen_88 : decode cX7_deepen 88 = .ok (.iload 7, 2) := by decide +kernel
theorem dX7_deepen_90 : decode cX7_deepen 90 = .ok (.isub, 1) := by decide +kernel
theorem dX7_deepen_91 : decode cX7_deepen 91 = .ok (.iconst 1, 1) := by decide +kernel
theorem dX7_deepen_92 : decode cX7_deepen 92 = .ok (.ishl, 1) := by decide +kernel
theorem dX7_deepen_93 : decode cX7_deepen 93 = .ok (.ior, 1) := by decide +kernel
theorem dX7_deepen_94 : decode cX7_deepen 94 = .ok (.iload 4, 2) := by decide +kernel
theorem dX7_deepen_96 : decode cX7_deepen 96 = .ok (.ior, 1) := by decide +kernel
theorem dX7_deepen_97 : decode cX7_deepen 97 = .ok (.iastore, 1) := by decide +kernel
theorem dX7_deepen_98 : decode cX7_deepen 98 = .ok (.aload_n 1, 1) := by decide +kernel
theorem dX7_deepen_99 : decode cX7_deepen 99 = .ok (.dup, 1) := by decide +kernel
theorem dX7_deepen_100 : decode cX7_deepen 100 = .ok (.getfield 225, 3) := by decide +kernel
theorem dX7_deepen_103 : decode cX7_deepen 103 = .ok (.iconst 1, 1) := by decide +kernel
theorem dX7_deepen_104 : decode cX7_deepen 104 = .ok (.iadd, 1) := by decide +kernel
theorem dX7_deepen_105 : decode cX7_deepen 105 = .ok (.putfield 225, 3) := by decide +kernel
theorem dX7_deepen_108 : decode cX7_deepen 108 = .ok (.return_, 1) := by decide +kernel
set_option maxRecDepth 20000 in
theorem vX7_deepen {g : zG} {d : Nat} {Q : zM → Prop} {M : zM} {m : Nat} {l2 : Int32} {l3 : Int32} {l4 : Int32} {l5 : Bool} (hm : zMo shC m) (h : ∃ k1 : Nat, l2 = iv k1 ∧ k1 < 6 ∧ ∃ k2 : Nat, (M (m + 3) k1) = iv k2 ∧ k2 < 64 ∧ (l5 = false → Q (zup (zup M (m + 1) k2 (imin 9 ((M (m + 1) k2) + l3))) (m + 2) k2 l2)) ∧ (l5 = true → (150 ≤ ((zup (zup M (m + 1) k2 (imin 9 ((M (m + 1) k2) + l3))) (m + 2) k2 l2) m 7) → Q (zup (zup M (m + 1) k2 (imin 9 ((M (m + 1) k2) + l3))) (m + 2) k2 l2)) ∧ (¬ 150 ≤ ((zup (zup M (m + 1) k2 (imin 9 ((M (m + 1) k2) + l3))) (m + 2) k2 l2) m 7) → ∀ v1 : Int32, v1 = (((zup (zup M (m + 1) k2 (imin 9 ((M (m + 1) k2) + l3))) (m + 2) k2 l2) m 5) <<< (14 &&& 31)) → ∀ v2 : Int32, v2 = ((v1 ||| (l2 <<< (11 &&& 31))) ||| ((M (m + 3) k1) <<< (5 &&& 31))) → ∀ v3 : Int32, v3 = (((zup (zup M (m + 1) k2 (imin 9 ((M (m + 1) k2) + l3))) (m + 2) k2 l2) (m + 1) k2) - (M (m + 1) k2)) → ∃ k3 : Nat, ((zup (zup M (m + 1) k2 (imin 9 ((M (m + 1) k2) + l3))) (m + 2) k2 l2) m 7) = iv k3 ∧ k3 < 150 ∧ ∀ v4 : Int32, v4 = (((zup (zup (zup M (m + 1) k2 (imin 9 ((M (m + 1) k2) + l3))) (m + 2) k2 l2) 9 k3 ((v2 ||| (v3 <<< (1 &&& 31))) ||| l4)) m 7) + 1) → Q (zup (zup (zup (zup M (m + 1) k2 (imin 9 ((M (m + 1) k2) + l3))) (m + 2) k2 l2) 9 k3 ((v2 ||| (v3 <<< (1 &&& 31))) ||| l4)) m 7 v4)))) : zCv shC g (d + 1) mX7_deepen [.ref 1, .ref m, .int l2, .int l3, .int l4, .int (zbI l5)] M Q := by
  refine zW.enter (by decide +kernel) (Nat.le_of_ble_eq_true rfl) ?_
  change zW shC g (d + 1) mX7_deepen (zv Q) 0 [(0, .ref 1), (1, .ref m), (2, .int l2), (3, .int l3), (4, .int l4), (5, .int (zbI l5))] [] M
  refine z_aload_n dX7_deepen_0 1 rfl ?_
  refine z_getr hm.1 rfl flX7_93 dX7_deepen_1 ?_
  refine z_iload_n dX7_deepen_4 2 rfl ?_
  obtain ⟨k1, ek1, uk1, h⟩ := h
  refine z_iald2 (k0 := k1) hm.2.2.2.1 (by decide) ek1 uk1 dX7_deepen_5 ?_
  refine z_istore [(6, .int (M (m + 3) k1)), (0, .ref 1), (1, .ref m), (2, .int l2), (3, .int l3), (4, .int l4), (5, .int (zbI l5))] dX7_deepen_6 (by decide) rfl ?_
  refine z_aload_n dX7_deepen_8 2 rfl ?_
  refine z_getr hm.1 rfl flX7_118 dX7_deepen_9 ?_
  refine z_iload dX7_deepen_12 0 rfl ?_
  obtain ⟨k2, ek2, uk2, h⟩ := h
  refine z_iald2 (k0 := k2) hm.2.1 (by decide) ek2 uk2 dX7_deepen_14 ?_
  refine z_istore [(7, .int (M (m + 1) k2)), (6, .int (M (m + 3) k1)), (0, .ref 1), (1, .ref m), (2, .int l2), (3, .int l3), (4, .int l4), (5, .int (zbI l5))] dX7_deepen_15 (by decide) rfl ?_
  refine z_aload_n dX7_deepen_17 3 rfl ?_
  refine z_getr hm.1 rfl flX7_118 dX7_deepen_18 ?_
  refine z_iload dX7_deepen_21 1 rfl ?_
  refine z_bipush (v := 9) dX7_deepen_23 (by decide) ?_
  refine z_iload dX7_deepen_25 0 rfl ?_
  refine z_iload_n dX7_deepen_27 5 rfl ?_
  refine z_iadd dX7_deepen_28 ?_
  refine z_min (st := [.int (M (m + 3) k1), .ref (m + 1)]) lkX7_182 (Nat.le_of_ble_eq_true rfl) dX7_deepen_29 ?_
  refine z_iast2 (k0 := k2) hm.2.1 (by decide) ek2 uk2 dX7_deepen_32 ?_
  refine z_aload_n dX7_deepen_33 3 rfl ?_
  refine z_getr hm.1 rfl flX7_157 dX7_deepen_34 ?_
  refine z_iload dX7_deepen_37 1 rfl ?_
  refine z_iload_n dX7_deepen_39 4 rfl ?_
  refine z_iast2 (k0 := k2) hm.2.2.1 (by decide) ek2 uk2 dX7_deepen_40 ?_
  refine z_iload dX7_deepen_41 7 rfl ?_
  refine z_ifb_eq 108 dX7_deepen_43 (by decide) (fun c1 => ?_) (fun c1 => ?_)
  · have h := h.1 c1
    exact z_vret (st := []) rfl dX7_deepen_108 ⟨rfl, h⟩
  · have h := h.2 c1
    refine z_aload_n dX7_deepen_46 3 rfl ?_
    refine z_geti hm.1 rfl flX7_225 dX7_deepen_47 ?_
    refine z_sipush (v := 150) dX7_deepen_50 (by decide) ?_
    refine z_icmp_ge 108 dX7_deepen_53 (by decide) (fun c2 => ?_) (fun c2 => ?_)
    · have h := h.1 c2
      exact z_vret (st := []) rfl dX7_deepen_108 ⟨rfl, h⟩
    · have h := h.2 c2
      refine z_aload_n dX7_deepen_56 2 rfl ?_
      refine z_getr shC_1 rfl flX7_38 dX7_deepen_57 ?_
      refine z_aload_n dX7_deepen_60 3 rfl ?_
      refine z_geti hm.1 rfl flX7_225 dX7_deepen_61 ?_
      refine z_aload_n dX7_deepen_64 3 rfl ?_
      refine z_geti hm.1 rfl flX7_160 dX7_deepen_65 ?_
      refine z_bipush (v := 14) dX7_deepen_68 (by decide) ?_
      refine z_ishl dX7_deepen_70 ?_
      obtain ⟨v1, ev1⟩ : ∃ y : Int32, y = (((zup (zup M (m + 1) k2 (imin 9 ((M (m + 1) k2) + l3))) (m + 2) k2 l2) m 5) <<< (14 &&& 31)) := ⟨_, rfl⟩
      refine z_topi v1 ev1 ?_
      have h := h v1 ev1
      refine z_iload_n dX7_deepen_71 4 rfl ?_
      refine z_bipush (v := 11) dX7_deepen_72 (by decide) ?_
      refine z_ishl dX7_deepen_74 ?_
      refine z_ior dX7_deepen_75 ?_
      refine z_iload dX7_deepen_76 1 rfl ?_
      refine z_iconst (v := 5) dX7_deepen_78 (by decide) ?_
      refine z_ishl dX7_deepen_79 ?_
      refine z_ior dX7_deepen_80 ?_
      obtain ⟨v2, ev2⟩ : ∃ y : Int32, y = ((v1 ||| (l2 <<< (11 &&& 31))) ||| ((M (m + 3) k1) <<< (5 &&& 31))) := ⟨_, rfl⟩
      refine z_topi v2 ev2 ?_
      have h := h v2 ev2
      refine z_aload_n dX7_deepen_81 3 rfl ?_
      refine z_getr hm.1 rfl flX7_118 dX7_deepen_82 ?_
      refine z_iload dX7_deepen_85 1 rfl ?_
      refine z_iald2 (k0 := k2) hm.2.1 (by decide) ek2 uk2 dX7_deepen_87 ?_
      refine z_iload dX7_deepen_88 0 rfl ?_
      refine z_isub dX7_deepen_90 ?_
      obtain ⟨v3, ev3⟩ : ∃ y : Int32, y = (((zup (zup M (m + 1) k2 (imin 9 ((M (m + 1) k2) + l3))) (m + 2) k2 l2) (m + 1) k2) - (M (m + 1) k2)) := ⟨_, rfl⟩
      refine z_topi v3 ev3 ?_
      have h := h v3 ev3
      refine z_iconst (v := 1) dX7_deepen_91 (by decide) ?_
      refine z_ishl dX7_deepen_92 ?_
      refine z_ior dX7_deepen_93 ?_
      refine z_iload dX7_deepen_94 6 rfl ?_
      refine z_ior dX7_deepen_96 ?_
      obtain ⟨k3, ek3, uk3, h⟩ := h
      refine z_iast2 (k0 := k3) shC_9 (by decide) ek3 uk3 dX7_deepen_97 ?_
      refine z_aload_n dX7_deepen_98 3 rfl ?_
      refine z_dupr dX7_deepen_99 ?_
      refine z_geti hm.1 rfl flX7_225 dX7_deepen_100 ?_
      refine z_iconst (v := 1) dX7_deepen_103 (by decide) ?_
      refine z_iadd dX7_deepen_104 ?_
      obtain ⟨v4, ev4⟩ : ∃ y : Int32, y = (((zup (zup (zup M (m + 1) k2 (imin 9 ((M (m + 1) k2) + l3))) (m + 2) k2 l2) 9 k3 ((v2 ||| (v3 <<< (1 &&& 31))) ||| l4)) m 7) + 1) := ⟨_, rfl⟩
      refine z_topi v4 ev4 ?_
      have h := h v4 ev4
      refine z_puti hm.1 rfl fpX7_225 rfl rfl dX7_deepen_105 ?_
      exact z_vret (st := []) rfl dX7_deepen_108 ⟨rfl, h⟩
theorem dX7_thaw_0 : decode cX7_thaw 0 = .ok (.aload_n 0, 1) := by decide +kernel
theorem dX7_thaw_1 : decode cX7_thaw 1 = .ok (.getfield 51, 3) := by decide +kernel
theorem dX7_thaw_4 : decode cX7_thaw 4 = .ok (.getfield 228, 3) := by decide +kernel
theorem dX7_thaw_7 : decode cX7_thaw 7 = .ok (.ifCond .ne 4, 3) := by decide +kernel
theorem dX7_thaw_10 : decode cX7_thaw 10 = .ok (.return_, 1) := by decide +kernel
theorem dX7_thaw_11 : decode cX7_thaw 11 = .ok (.iconst 0, 1) := by decide +kernel
theorem dX7_thaw_12 : decode cX7_thaw 12 = .ok (.istore_n 2, 1) := by decide +kernel
theorem dX7_thaw_13 : decode cX7_thaw 13 = .ok (.iload_n 2, 1) := by decide +kernel
theorem dX7_thaw_14 : decode cX7_thaw 14 = .ok (.bipush 64, 2) := by decide +kernel
theorem dX7_thaw_16 : decode cX7_thaw 16 = .ok (.if_icmp .ge 34, 3) := by decide +kernel
theorem dX7_thaw_19 : decode cX7_thaw 19 = .ok (.aload_n 0, 1) := by decide +kernel
theorem dX7_thaw_20 : decode cX7_thaw 20 = .ok (.getfield 65, 3) := by decide +kernel
theorem dX7_thaw_23 : decode cX7_thaw 23 = .ok (.iload_n 2, 1) := by decide +kernel
theorem dX7_thaw_24 : decode cX7_thaw 24 = .ok (.aload_n 1, 1) := by decide +kernel
theorem dX7_thaw_25 : decode cX7_thaw 25 = .ok (.getfield 118, 3) := by decide +kernel
theorem dX7_thaw_28 : decode cX7_thaw 28 = .ok (.iload_n 2, 1) := by decide +kernel
theorem dX7_thaw_29 : decode cX7_thaw 29 = .ok (.iaload, 1) := by decide +kernel
theorem dX7_thaw_30 : decode cX7_thaw 30 = .ok (.ifCond .le 12, 3) := by decide +kernel
theorem dX7_thaw_33 : decode cX7_thaw 33 = .ok (.aload_n 0, 1) := by decide +kernel
theorem dX7_thaw_34 : decode cX7_thaw 34 = .ok (.aload_n 1, 1) := by decide +kernel
theorem dX7_thaw_35 : decode cX7_thaw 35 = .ok (.iload_n 2, 1) := by decide +kernel
theorem dX7_thaw_36 : decode cX7_thaw 36 = .ok (.invokevirtual 231, 3) := by decide +kernel
theorem dX7_thaw_39 : decode cX7_thaw 39 = .ok (.goto 4, 3) := by decide +kernel
theorem dX7_thaw_42 : decode cX7_thaw 42 = .ok (.iconst 0, 1) := by decide +kernel
theorem dX7_thaw_43 : decode cX7_thaw 43 = .ok (.iastore, 1) := by decide +kernel
theorem dX7_thaw_44 : decode cX7_thaw 44 = .ok (.iinc 2 1, 3) := by decide +kernel
theorem dX7_thaw_47 : decode cX7_thaw 47 = .ok (.goto (-34), 3) := by decide +kernel
theorem dX7_thaw_50 : decode cX7_thaw 50 = .ok (.iconst 0, 1) := by decide +kernel
theorem dX7_thaw_51 : decode cX7_thaw 51 = .ok (.istore_n 2, 1) := by decide +kernel
theorem dX7_thaw_52 : decode cX7_thaw 52 = .ok (.iload_n 2, 1) := by decide +kernel
theorem dX7_thaw_53 : decode cX7_thaw 53 = .ok (.bipush 64, 2) := by decide +kernel
theorem dX7_thaw_55 : decode cX7_thaw 55 = .ok (.if_icmp .ge 32, 3) := by decide +kernel
theorem dX7_thaw_58 : decode cX7_thaw 58 = .ok (.aload_n 1, 1) := by decide +kernel
theorem dX7_thaw_59 : decode cX7_thaw 59 = .ok (.getfield 118, 3) := by decide +kernel
theorem dX7_thaw_62 : decode cX7_thaw 62 = .ok (.iload_n 2, 1) := by decide +kernel
theorem dX7_thaw_63 : decode cX7_thaw 63 = .ok (.iconst 0, 1) := by decide +kernel
theorem dX7_thaw_64 : decode cX7_thaw 64 = .ok (.aload_n 1, 1) := by decide +kernel
theorem dX7_thaw_65 : decode cX7_thaw 65 = .ok (.getfield 118, 3) := by decide +kernel
theorem dX7_thaw_68 : decode cX7_thaw 68 = .ok (.iload_n 2, 1) := by decide +kernel
theorem dX7_thaw_69 : decode cX7_thaw 69 = .ok (.iaload, 1) := by decide +kernel
theorem dX7_thaw_70 : decode cX7_thaw 70 = .ok (.aload_n 0, 1) := by decide +kernel
theorem dX7_thaw_71 : decode cX7_thaw 71 = .ok (.getfield 65, 3) := by decide +kernel
theorem dX7_thaw_74 : decode cX7_thaw 74 = .ok (.iload_n 2, 1) := by decide +kernel
theorem dX7_thaw_75 : decode cX7_thaw 75 = .ok (.iaload, 1) := by decide +kernel
theorem dX7_thaw_76 : decode cX7_thaw 76 = .ok (.isub, 1) := by decide +kernel
theorem dX7_thaw_77 : decode cX7_thaw 77 = .ok (.invokestatic 187, 3) := by decide +kernel
theorem dX7_thaw_80 : decode cX7_thaw 80 = .ok (.iastore, 1) := by decide +kernel
theorem dX7_thaw_81 : decode cX7_thaw 81 = .ok (.iinc 2 1, 3) := by decide +kernel
theorem dX7_thaw_84 : decode cX7_thaw 84 = .ok (.goto (-32), 3) := by decide +kernel
theorem dX7_thaw_87 : decode cX7_thaw 87 = .ok (.return_, 1) := by decide +kernel
set_option maxRecDepth 20000 in
theorem vX7_thaw {g : zG} {d : Nat} {Q : zM → Prop} {M : zM} {m : Nat} (hm : zMo shC m) (h : (¬ (M 15 7) = 0 → zW shC g (d + 1) mX7_thaw (zv Q) 13 [(0, .ref 1), (1, .ref m), (2, .int 0)] [] M) ∧ ((M 15 7) = 0 → Q M)) : zCv shC g (d + 1) mX7_thaw [.ref 1, .ref m] M Q := by
  refine zW.enter (by decide +kernel) (Nat.le_of_ble_eq_true rfl) ?_
  change zW shC g (d + 1) mX7_thaw (zv Q) 0 [(0, .ref 1), (1, .ref m)] [] M
  refine z_aload_n dX7_thaw_0 0 rfl ?_
  refine z_getr shC_1 rfl flX7_51 dX7_thaw_1 ?_
  refine z_geti shC_15 rfl flX7_228 dX7_thaw_4 ?_
  refine z_if_ne 11 dX7_thaw_7 (by decide) (fun c1 => ?_) (fun c1 => ?_)
  · have h := h.1 c1
    refine z_iconst (v := 0) dX7_thaw_11 (by decide) ?_
    refine z_istore_n [(2, .int 0), (0, .ref 1), (1, .ref m)] dX7_thaw_12 (by decide) rfl ?_
    exact zW.sub [1, 2, 0] rfl h
  · have h := h.2 c1
    exact z_vret (st := []) rfl dX7_thaw_10 ⟨rfl, h⟩
set_option maxRecDepth 20000 in
theorem vX7_thaw_13 {g : zG} {d : Nat} {Q : zM → Prop} {M : zM} {m : Nat} {l2 : Int32} (hm : zMo shC m) (h : (64 ≤ l2 → zW shC g (d + 1) mX7_thaw (zv Q) 52 [(0, .ref 1), (1, .ref m), (2, .int 0)] [] M) ∧ (¬ 64 ≤ l2 → ∃ k1 : Nat, l2 = iv k1 ∧ k1 < 64 ∧ ((M (m + 1) k1) ≤ 0 → zW shC g (d + 1) mX7_thaw (zv Q) 13 [(0, .ref 1), (1, .ref m), (2, .int (l2 + 1))] [] (zup M 27 k1 0)) ∧ (¬ (M (m + 1) k1) ≤ 0 → zCi shC g d mX7_thawOf [.ref 1, .ref m, .int l2] M (fun x1 M1 => zW shC g (d + 1) mX7_thaw (zv Q) 13 [(0, .ref 1), (1, .ref m), (2, .int (l2 + 1))] [] (zup M1 27 k1 x1))))) : zW shC g (d + 1) mX7_thaw (zv Q) 13 [(0, .ref 1), (1, .ref m), (2, .int l2)] [] M := by
  refine z_iload_n dX7_thaw_13 2 rfl ?_
  refine z_bipush (v := 64) dX7_thaw_14 (by decide) ?_
  refine z_icmp_ge 50 dX7_thaw_16 (by decide) (fun c1 => ?_) (fun c1 => ?_)
  · have h := h.1 c1
    refine z_iconst (v := 0) dX7_thaw_50 (by decide) ?_
    refine z_istore_n [(2, .int 0), (0, .ref 1), (1, .ref m)] dX7_thaw_51 (by decide) rfl ?_
    exact zW.sub [1, 2, 0] rfl h
  · have h := h.2 c1
    refine z_aload_n dX7_thaw_19 0 rfl ?_
    refine z_getr shC_1 rfl flX7_65 dX7_thaw_20 ?_
    refine z_iload_n dX7_thaw_23 2 rfl ?_
    refine z_aload_n dX7_thaw_24 1 rfl ?_
    refine z_getr hm.1 rfl flX7_118 dX7_thaw_25 ?_
    refine z_iload_n dX7_thaw_28 2 rfl ?_
    obtain ⟨k1, ek1, uk1, h⟩ := h
    refine z_iald2 (k0 := k1) hm.2.1 (by decide) ek1 uk1 dX7_thaw_29 ?_
    refine z_if_le 42 dX7_thaw_30 (by decide) (fun c2 => ?_) (fun c2 => ?_)
    · have h := h.1 c2
      refine z_iconst (v := 0) dX7_thaw_42 (by decide) ?_
      refine z_iast2 (k0 := k1) shC_27 (by decide) ek1 uk1 dX7_thaw_43 ?_
      refine z_iinc (x := l2) (v := (l2 + 1)) [(2, .int (l2 + 1)), (0, .ref 1), (1, .ref m)] dX7_thaw_44 2 rfl rfl (by decide) rfl ?_
      refine z_goto 13 dX7_thaw_47 (by decide) ?_
      exact zW.sub [1, 2, 0] rfl h
    · have h := h.2 c2
      refine z_aload_n dX7_thaw_33 0 rfl ?_
      refine z_aload_n dX7_thaw_34 1 rfl ?_
      refine z_iload_n dX7_thaw_35 2 rfl ?_
      refine z_callV (m2 := mX7_thawOf) (st := [.int l2, .ref 27]) [.ref m, .int l2] okX7_thawOf (Or.inl lkX7_231) shC_1 rfl rfl rfl (Nat.le_of_ble_eq_true rfl) dX7_thaw_36 (zgo_i h fun x1 M1 h => ?_)
      refine z_goto 43 dX7_thaw_39 (by decide) ?_
      refine z_iast2 (k0 := k1) shC_27 (by decide) ek1 uk1 dX7_thaw_43 ?_
      refine z_iinc (x := l2) (v := (l2 + 1)) [(2, .int (l2 + 1)), (0, .ref 1), (1, .ref m)] dX7_thaw_44 2 rfl rfl (by decide) rfl ?_
      refine z_goto 13 dX7_thaw_47 (by decide) ?_
      exact zW.sub [1, 2, 0] rfl h
set_option maxRecDepth 20000 in
theorem vX7_thaw_52 {g : zG} {d : Nat} {Q : zM → Prop} {M : zM} {m : Nat} {l2 : Int32} (hm : zMo shC m) (h : (64 ≤ l2 → Q M) ∧ (¬ 64 ≤ l2 → ∃ k1 : Nat, l2 = iv k1 ∧ k1 < 64 ∧ zW shC g (d + 1) mX7_thaw (zv Q) 52 [(0, .ref 1), (1, .ref m), (2, .int (l2 + 1))] [] (zup M (m + 1) k1 (imax 0 ((M (m + 1) k1) - (M 27 k1)))))) : zW shC g (d + 1) mX7_thaw (zv Q) 52 [(0, .ref 1), (1, .ref m), (2, .int l2)] [] M := by
  refine z_iload_n dX7_thaw_52 2 rfl ?_
  refine z_bipush (v := 64) dX7_thaw_53 (by decide) ?_
  refine z_icmp_ge 87 dX7_thaw_55 (by decide) (fun c1 => ?_) (fun c1 => ?_)
  · have h := h.1 c1
    exact z_vret (st := []) rfl dX7_thaw_87 ⟨rfl, h⟩
  · have h := h.2 c1
    refine z_aload_n dX7_thaw_58 1 rfl ?_
    refine z_getr hm.1 rfl flX7_118 dX7_thaw_59 ?_
    refine z_iload_n dX7_thaw_62 2 rfl ?_
    refine z_iconst (v := 0) dX7_thaw_63 (by decide) ?_
    refine z_aload_n dX7_thaw_64 1 rfl ?_
    refine z_getr hm.1 rfl flX7_118 dX7_thaw_65 ?_
    refine z_iload_n dX7_thaw_68 2 rfl ?_
    obtain ⟨k1, ek1, uk1, h⟩ := h
    refine z_iald2 (k0 := k1) hm.2.1 (by decide) ek1 uk1 dX7_thaw_69 ?_
    refine z_aload_n dX7_thaw_70 0 rfl ?_
    refine z_getr shC_1 rfl flX7_65 dX7_thaw_71 ?_
    refine z_iload_n dX7_thaw_74 2 rfl ?_
    refine z_iald2 (k0 := k1) shC_27 (by decide) ek1 uk1 dX7_thaw_75 ?_
    refine z_isub dX7_thaw_76 ?_
    refine z_max (st := [.int l2, .ref (m + 1)]) lkX7_187 (Nat.le_of_ble_eq_true rfl) dX7_thaw_77 ?_
    refine z_iast2 (k0 := k1) hm.2.1 (by decide) ek1 uk1 dX7_thaw_80 ?_
    refine z_iinc (x := l2) (v := (l2 + 1)) [(2, .int (l2 + 1)), (0, .ref 1), (1, .ref m)] dX7_thaw_81 2 rfl rfl (by decide) rfl ?_
    refine z_goto 52 dX7_thaw_84 (by decide) ?_
    exact zW.sub [1, 2, 0] rfl h
theorem dX7_crossings_0 : decode cX7_crossings 0 = .ok (.aload_n 0, 1) := by decide +kernel
theorem dX7_crossings_1 : decode cX7_crossings 1 = .ok (.getfield 34, 3) := by decide +kernel
theorem dX7_crossings_4 : decode cX7_crossings 4 = .ok (.getfield 93, 3) := by decide +kernel
theorem dX7_crossings_7 : decode cX7_crossings 7 = .ok (.iload_n 1, 1) := by decide +kernel
theorem dX7_crossings_8 : decode cX7_crossings 8 = .ok (.iaload, 1) := by decide +kernel
theorem dX7_crossings_9 : decode cX7_crossings 9 = .ok (.istore_n 2, 1) := by decide +kernel
theorem dX7_crossings_10 : decode cX7_crossings 10 = .ok (.aload_n 0, 1) := by decide +kernel
theorem dX7_crossings_11 : decode cX7_crossings 11 = .ok (.getfield 34, 3) := by decide +kernel
theorem dX7_crossings_14 : decode cX7_crossings 14 = .ok (.getfield 99, 3) := by decide +kernel
theorem dX7_crossings_17 : decode cX7_crossings 17 = .ok (.iload_n 1, 1) := by decide +kernel
theorem dX7_crossings_18 : decode cX7_crossings 18 = .ok (.iaload, 1) := by decide +kernel
theorem dX7_crossings_19 : decode cX7_crossings 19 = .ok (.istore_n 3, 1) := by decide +kernel
theorem dX7_crossings_20 : decode cX7_crossings 20 = .ok (.iconst 0, 1) := by decide +kernel
theorem dX7_crossings_21 : decode cX7_crossings 21 = .ok (.istore 4, 2) := by decide +kernel
theorem dX7_crossings_23 : decode cX7_crossings 23 = .ok (.aload_n 0, 1) := by decide +kernel
theorem dX7_crossings_24 : decode cX7_crossings 24 = .ok (.getfield 34, 3) := by decide +kernel
theorem dX7_crossings_27 : decode cX7_crossings 27 = .ok (.getfield 96, 3) := by decide +kernel
theorem dX7_crossings_30 : decode cX7_crossings 30 = .ok (.iload_n 1, 1) := by decide +kernel
theorem dX7_crossings_31 : decode cX7_crossings 31 = .ok (.iaload, 1) := by decide +kernel
theorem dX7_crossings_32 : decode cX7_crossings 32 = .ok (.istore 5, 2) := by decide +kernel
theorem dX7_crossings_34 : decode cX7_crossings 34 = .ok (.iload 5, 2) := by decide +kernel
theorem dX7_crossings_36 : decode cX7_crossings 36 = .ok (.aload_n 0, 1) := by decide +kernel
theorem dX7_crossings_37 : decode cX7_crossings 37 = .ok (.getfield 44, 3) := by decide +kernel
theorem dX7_crossings_40 : decode cX7_crossings 40 = .ok (.getfield 190, 3) := by decide +kernel
theorem dX7_crossings_43 : decode cX7_crossings 43 = .ok (.iload_n 1, 1) := by decide +kernel
theorem dX7_crossings_44 : decode cX7_crossings 44 = .ok (.iaload, 1) := by decide +kernel
theorem dX7_crossings_45 : decode cX7_crossings 45 = .ok (.if_icmp .ge 71, 3) := by decide +kernel
theorem dX7_crossings_48 : decode cX7_crossings 48 = .ok (.aload_n 0, 1) := by decide +kernel
theorem dX7_crossings_49 : decode cX7_crossings 49 = .ok (.getfield 44, 3) := by decide +kernel
theorem dX7_crossings_52 : decode cX7_crossings 52 = .ok (.iload_n 1, 1) := by decide +kernel
theorem dX7_crossings_53 : decode cX7_crossings 53 = .ok (.iload 5, 2) := by decide +kernel
theorem dX7_crossings_55 : decode cX7_crossings 55 = .ok (.invokevirtual 212, 3) := by decide +kernel
theorem dX7_crossings_58 : decode cX7_crossings 58 = .ok (.istore 6, 2) := by decide +kernel
theorem dX7_crossings_60 : decode cX7_crossings 60 = .ok (.aload_n 0, 1) := by decide +kernel
theorem dX7_crossings_61 : decode cX7_crossings 61 = .ok (.getfield 44, 3) := by decide +kernel
theorem dX7_crossings_64 : decode cX7_crossings 64 = .ok (.iload_n 1, 1) := by decide +kernel
theorem dX7_crossings_65 : decode cX7_crossings 65 = .ok (.iload 5, 2) := by decide +kernel
theorem dX7_crossings_67 : decode cX7_crossings 67 = .ok (.iload_n 3, 1) := by decide +kernel
theorem dX7_crossings_68 : decode cX7_crossings 68 = .ok (.invokevirtual 208, 3) := by decide +kernel
theorem dX7_crossings_71 : decode cX7_crossings 71 = .ok (.istore_n 3, 1) := by decide +kernel
theorem dX7_crossings_72 : decode cX7_crossings 72 = .ok (.aload_n 0, 1) := by decide +kernel
theorem dX7_crossings_73 : decode cX7_crossings 73 = .ok (.iload_n 2, 1) := by decide +kernel
theorem dX7_crossings_74 : decode cX7_crossings 74 = .ok (.iload 6, 2) := by decide +kernel
theorem dX7_crossings_76 : decode cX7_crossings 76 = .ok (.invokevirtual 215, 3) := by decide +kernel
theorem dX7_crossings_79 : decode cX7_crossings 79 = .ok (.istore_n 2, 1) := by decide +kernel
theorem dX7_crossings_80 : decode cX7_crossings 80 = .ok (.iload 6, 2) := by decide +kernel
theorem dX7_crossings_82 : decode cX7_crossings 82 = .ok (.iconst 4, 1) := by decide +kernel
theorem dX7_crossings_83 : decode cX7_crossings 83 = .ok (.if_icmp .eq 27, 3) := by decide +kernel
theorem dX7_crossings_86 : decode cX7_crossings 86 = .ok (.iload_n 3, 1) := by decide +kernel
theorem dX7_crossings_87 : decode cX7_crossings 87 = .ok (.iconst 1, 1) := by decide +kernel
theorem dX7_crossings_88 : decode cX7_crossings 88 = .ok (.if_icmp .ne 22, 3) := by decide +kernel
theorem dX7_crossings_91 : decode cX7_crossings 91 = .ok (.aload_n 0, 1) := by decide +kernel
theorem dX7_crossings_92 : decode cX7_crossings 92 = .ok (.getfield 34, 3) := by decide +kernel
theorem dX7_crossings_95 : decode cX7_crossings 95 = .ok (.getfield 157, 3) := by decide +kernel
theorem dX7_crossings_98 : decode cX7_crossings 98 = .ok (.iload_n 2, 1) := by decide +kernel
theorem dX7_crossings_99 : decode cX7_crossings 99 = .ok (.iaload, 1) := by decide +kernel
theorem dX7_crossings_100 : decode cX7_crossings 100 = .ok (.iload_n 1, 1) := by decide +kernel
theorem dX7_crossings_101 : decode cX7_crossings 101 = .ok (.invokestatic 170, 3) := by decide +kernel
theorem dX7_crossings_104 : decode cX7_crossings 104 = .ok (.ifCond .eq 6, 3) := by decide +kernel
theorem dX7_crossings_107 : decode cX7_crossings 107 = .ok (.iinc 4 1, 3) := by decide +kernel
theorem dX7_crossings_110 : decode cX7_crossings 110 = .ok (.iinc 5 1, 3) := by decide +kernel
theorem dX7_crossings_113 : decode cX7_crossings 113 = .ok (.goto (-79), 3) := by decide +kernel
theorem dX7_crossings_116 : decode cX7_crossings 116 = .ok (.iload 4, 2) := by decide +kernel
theorem dX7_crossings_118 : decode cX7_crossings 118 = .ok (.ireturn, 1) := by decide +kernel
set_option maxRecDepth 20000 in
theorem vX7_crossings {g : zG} {d : Nat} {Q : Int32 → zM → Prop} {M : zM} {l1 : Int32} (h : ∃ k1 : Nat, l1 = iv k1 ∧ k1 < 6 ∧ zW shC g (d + 1) mX7_crossings (zi Q) 34 [(0, .ref 1), (1, .int l1), (2, .int (M 6 k1)), (3, .int (M 8 k1)), (4, .int 0), (5, .int (M 7 k1))] [] M) : zCi shC g (d + 1) mX7_crossings [.ref 1, .int l1] M Q := by
  refine zW.enter (by decide +kernel) (Nat.le_of_ble_eq_true rfl) ?_
  change zW shC g (d + 1) mX7_crossings (zi Q) 0 [(0, .ref 1), (1, .int l1)] [] M
  refine z_aload_n dX7_crossings_0 0 rfl ?_
  refine z_getr shC_1 rfl flX7_34 dX7_crossings_1 ?_
  refine z_getr shC_3 rfl flX7_93 dX7_crossings_4 ?_
  refine z_iload_n dX7_crossings_7 1 rfl ?_
  obtain ⟨k1, ek1, uk1, h⟩ := h
  refine z_iald2 (k0 := k1) shC_6 (by decide) ek1 uk1 dX7_crossings_8 ?_
  refine z_istore_n [(2, .int (M 6 k1)), (0, .ref 1), (1, .int l1)] dX7_crossings_9 (by decide) rfl ?_
  refine z_aload_n dX7_crossings_10 1 rfl ?_
  refine z_getr shC_1 rfl flX7_34 dX7_crossings_11 ?_
  refine z_getr shC_3 rfl flX7_99 dX7_crossings_14 ?_
  refine z_iload_n dX7_crossings_17 2 rfl ?_
  refine z_iald2 (k0 := k1) shC_8 (by decide) ek1 uk1 dX7_crossings_18 ?_
  refine z_istore_n [(3, .int (M 8 k1)), (2, .int (M 6 k1)), (0, .ref 1), (1, .int l1)] dX7_crossings_19 (by decide) rfl ?_
  refine z_iconst (v := 0) dX7_crossings_20 (by decide) ?_
  refine z_istore [(4, .int 0), (3, .int (M 8 k1)), (2, .int (M 6 k1)), (0, .ref 1), (1, .int l1)] dX7_crossings_21 (by decide) rfl ?_
  refine z_aload_n dX7_crossings_23 3 rfl ?_
  refine z_getr shC_1 rfl flX7_34 dX7_crossings_24 ?_
  refine z_getr shC_3 rfl flX7_96 dX7_crossings_27 ?_
  refine z_iload_n dX7_crossings_30 4 rfl ?_
  refine z_iald2 (k0 := k1) shC_7 (by decide) ek1 uk1 dX7_crossings_31 ?_
  refine z_istore [(5, .int (M 7 k1)), (4, .int 0), (3, .int (M 8 k1)), (2, .int (M 6 k1)), (0, .ref 1), (1, .int l1)] dX7_crossings_32 (by decide) rfl ?_
  exact zW.sub [4, 5, 3, 2, 1, 0] rfl h
set_option maxRecDepth 20000 in
theorem vX7_crossings_34 {g : zG} {d : Nat} {Q : Int32 → zM → Prop} {M : zM} {l1 : Int32} {l2 : Int32} {l3 : Int32} {l4 : Int32} {l5 : Int32} (h : ∃ k1 : Nat, l1 = iv k1 ∧ k1 < 6 ∧ ((M 12 k1) ≤ l5 → Q l4 M) ∧ (¬ (M 12 k1) ≤ l5 → zCi shC g d mX6_wayOf [.ref 10, .int l1, .int l5] M (fun x1 M1 => zCi shC g d mX6_downAt [.ref 10, .int l1, .int l5, .int l3] M1 (fun x2 M2 => zCi shC g d mX7_cellBehind [.ref 1, .int l2, .int x1] M2 (fun x3 M3 => (x1 = 4 → zW shC g (d + 1) mX7_crossings (zi Q) 34 [(0, .ref 1), (1, .int l1), (2, .int x3), (3, .int x2), (4, .int l4), (5, .int (l5 + 1))] [] M3) ∧ (¬ x1 = 4 → (¬ x2 = 1 → zW shC g (d + 1) mX7_crossings (zi Q) 34 [(0, .ref 1), (1, .int l1), (2, .int x3), (3, .int x2), (4, .int l4), (5, .int (l5 + 1))] [] M3) ∧ (x2 = 1 → ∃ k2 : Nat, x3 = iv k2 ∧ k2 < 64 ∧ zCz shC g d mX7_isOther [.int (M3 5 k2), .int l1] M3 (fun b1 M4 => (b1 = false → zW shC g (d + 1) mX7_crossings (zi Q) 34 [(0, .ref 1), (1, .int l1), (2, .int x3), (3, .int x2), (4, .int l4), (5, .int (l5 + 1))] [] M4) ∧ (b1 = true → zW shC g (d + 1) mX7_crossings (zi Q) 34 [(0, .ref 1), (1, .int l1), (2, .int x3), (3, .int x2), (4, .int (l4 + 1)), (5, .int (l5 + 1))] [] M4))))))))) : zW shC g (d + 1) mX7_crossings (zi Q) 34 [(0, .ref 1), (1, .int l1), (2, .int l2), (3, .int l3), (4, .int l4), (5, .int l5)] [] M := by
  refine z_iload dX7_crossings_34 5 rfl ?_
  refine z_aload_n dX7_crossings_36 0 rfl ?_
  refine z_getr shC_1 rfl flX7_44 dX7_crossings_37 ?_
  refine z_getr shC_10 rfl flX7_190 dX7_crossings_40 ?_
  refine z_iload_n dX7_crossings_43 1 rfl ?_
  obtain ⟨k1, ek1, uk1, h⟩ := h
  refine z_iald2 (k0 := k1) shC_12 (by decide) ek1 uk1 dX7_crossings_44 ?_
  refine z_icmp_ge 116 dX7_crossings_45 (by decide) (fun c1 => ?_) (fun c1 => ?_)
  · have h := h.1 c1
    refine z_iload dX7_crossings_116 4 rfl ?_
    exact z_iret (st := []) rfl rfl dX7_crossings_118 ⟨_, rfl, h⟩
  · have h := h.2 c1
    refine z_aload_n dX7_crossings_48 0 rfl ?_
    refine z_getr shC_1 rfl flX7_44 dX7_crossings_49 ?_
    refine z_iload_n dX7_crossings_52 1 rfl ?_
    refine z_iload dX7_crossings_53 5 rfl ?_
    refine z_callV (m2 := mX6_wayOf) (st := []) [.int l1, .int l5] okX6_wayOf (Or.inl lkX7_212) shC_10 rfl rfl rfl (Nat.le_of_ble_eq_true rfl) dX7_crossings_55 (zgo_i h fun x1 M1 h => ?_)
    refine z_istore [(6, .int x1), (0, .ref 1), (1, .int l1), (2, .int l2), (3, .int l3), (4, .int l4), (5, .int l5)] dX7_crossings_58 (by decide) rfl ?_
    refine z_aload_n dX7_crossings_60 1 rfl ?_
    refine z_getr shC_1 rfl flX7_44 dX7_crossings_61 ?_
    refine z_iload_n dX7_crossings_64 2 rfl ?_
    refine z_iload dX7_crossings_65 6 rfl ?_
    refine z_iload_n dX7_crossings_67 4 rfl ?_
    refine z_callV (m2 := mX6_downAt) (st := []) [.int l1, .int l5, .int l3] okX6_downAt (Or.inl lkX7_208) shC_10 rfl rfl rfl (Nat.le_of_ble_eq_true rfl) dX7_crossings_68 (zgo_i h fun x2 M2 h => ?_)
    refine z_istore_n [(3, .int x2), (6, .int x1), (0, .ref 1), (1, .int l1), (2, .int l2), (4, .int l4), (5, .int l5)] dX7_crossings_71 (by decide) rfl ?_
    refine z_aload_n dX7_crossings_72 2 rfl ?_
    refine z_iload_n dX7_crossings_73 4 rfl ?_
    refine z_iload dX7_crossings_74 1 rfl ?_
    refine z_callV (m2 := mX7_cellBehind) (st := []) [.int l2, .int x1] okX7_cellBehind (Or.inl lkX7_215) shC_1 rfl rfl rfl (Nat.le_of_ble_eq_true rfl) dX7_crossings_76 (zgo_i h fun x3 M3 h => ?_)
    refine z_istore_n [(2, .int x3), (3, .int x2), (6, .int x1), (0, .ref 1), (1, .int l1), (4, .int l4), (5, .int l5)] dX7_crossings_79 (by decide) rfl ?_
    refine z_iload dX7_crossings_80 2 rfl ?_
    refine z_iconst (v := 4) dX7_crossings_82 (by decide) ?_
    refine z_icmp_eq 110 dX7_crossings_83 (by decide) (fun c2 => ?_) (fun c2 => ?_)
    · have h := h.1 c2
      refine z_iinc (x := l5) (v := (l5 + 1)) [(5, .int (l5 + 1)), (2, .int x3), (3, .int x2), (6, .int x1), (0, .ref 1), (1, .int l1), (4, .int l4)] dX7_crossings_110 6 rfl rfl (by decide) rfl ?_
      refine z_goto 34 dX7_crossings_113 (by decide) ?_
      exact zW.sub [4, 5, 1, 2, 6, 0] rfl h
    · have h := h.2 c2
      refine z_iload_n dX7_crossings_86 1 rfl ?_
      refine z_iconst (v := 1) dX7_crossings_87 (by decide) ?_
      refine z_icmp_ne 110 dX7_crossings_88 (by decide) (fun c3 => ?_) (fun c3 => ?_)
      · have h := h.1 c3
        refine z_iinc (x := l5) (v := (l5 + 1)) [(5, .int (l5 + 1)), (2, .int x3), (3, .int x2), (6, .int x1), (0, .ref 1), (1, .int l1), (4, .int l4)] dX7_crossings_110 6 rfl rfl (by decide) rfl ?_
        refine z_goto 34 dX7_crossings_113 (by decide) ?_
        exact zW.sub [4, 5, 1, 2, 6, 0] rfl h
      · have h := h.2 c3
        refine z_aload_n dX7_crossings_91 3 rfl ?_
        refine z_getr shC_1 rfl flX7_34 dX7_crossings_92 ?_
        refine z_getr shC_3 rfl flX7_157 dX7_crossings_95 ?_
        refine z_iload_n dX7_crossings_98 0 rfl ?_
        obtain ⟨k2, ek2, uk2, h⟩ := h
        refine z_iald2 (k0 := k2) shC_5 (by decide) ek2 uk2 dX7_crossings_99 ?_
        refine z_iload_n dX7_crossings_100 4 rfl ?_
        refine z_callS (m2 := mX7_isOther) (st := []) [.int (M3 5 k2), .int l1] okX7_isOther (Or.inl lkX7_170) rfl rfl (Nat.le_of_ble_eq_true rfl) dX7_crossings_101 (zgo_z h fun b1 M4 h => ?_)
        refine z_ifb_eq 110 dX7_crossings_104 (by decide) (fun c4 => ?_) (fun c4 => ?_)
        · have h := h.1 c4
          refine z_iinc (x := l5) (v := (l5 + 1)) [(5, .int (l5 + 1)), (2, .int x3), (3, .int x2), (6, .int x1), (0, .ref 1), (1, .int l1), (4, .int l4)] dX7_crossings_110 6 rfl rfl (by decide) rfl ?_
          refine z_goto 34 dX7_crossings_113 (by decide) ?_
          exact zW.sub [4, 5, 1, 2, 6, 0] rfl h
        · have h := h.2 c4
          refine z_iinc (x := l4) (v := (l4 + 1)) [(4, .int (l4 + 1)), (2, .int x3), (3, .int x2), (6, .int x1), (0, .ref 1), (1, .int l1), (5, .int l5)] dX7_crossings_107 5 rfl rfl (by decide) rfl ?_
          refine z_iinc (x := l5) (v := (l5 + 1)) [(5, .int (l5 + 1)), (4, .int (l4 + 1)), (2, .int x3), (3, .int x2), (6, .int x1), (0, .ref 1), (1, .int l1)] dX7_crossings_110 6 rfl rfl (by decide) rfl ?_
          refine z_goto 34 dX7_crossings_113 (by decide) ?_
          exact zW.sub [5, 6, 2, 3, 1, 0] rfl h
