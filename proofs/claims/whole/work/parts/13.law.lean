/-! THE WALKS, by program: 12.law -/
theorem dX1_clear_0 : decode cX1_clear 0 = .ok (.aload_n 0, 1) := by decide +kernel
theorem dX1_clear_1 : decode cX1_clear 1 = .ok (.iconst 0, 1) := by decide +kernel
theorem dX1_clear_2 : decode cX1_clear 2 = .ok (.putfield 15, 3) := by decide +kernel
theorem dX1_clear_5 : decode cX1_clear 5 = .ok (.aload_n 0, 1) := by decide +kernel
theorem dX1_clear_6 : decode cX1_clear 6 = .ok (.iconst 0, 1) := by decide +kernel
theorem dX1_clear_7 : decode cX1_clear 7 = .ok (.putfield 31, 3) := by decide +kernel
theorem dX1_clear_10 : decode cX1_clear 10 = .ok (.aload_n 0, 1) := by decide +kernel
theorem dX1_clear_11 : decode cX1_clear 11 = .ok (.iconst 0, 1) := by decide +kernel
theorem dX1_clear_12 : decode cX1_clear 12 = .ok (.putfield 34, 3) := by decide +kernel
theorem dX1_clear_15 : decode cX1_clear 15 = .ok (.return_, 1) := by decide +kernel
set_option maxRecDepth 20000 in
theorem vX1_clear_a {g : zG} {d : Nat} {Q : zM → Prop} {M : zM} (h : Q (zup (zup (zup M 15 1 0) 15 6 0) 15 7 0)) : zCv shC g d mX1_clear [.ref 15] M Q := by
  refine zW.enter (by decide +kernel) (Nat.le_of_ble_eq_true rfl) ?_
  change zW shC g d mX1_clear (zv Q) 0 [(0, .ref 15)] [] M
  refine z_aload_n dX1_clear_0 0 rfl ?_
  refine z_iconst (v := 0) dX1_clear_1 (by decide) ?_
  refine z_puti shC_15 rfl fpX1_15 rfl rfl dX1_clear_2 ?_
  refine z_aload_n dX1_clear_5 0 rfl ?_
  refine z_iconst (v := 0) dX1_clear_6 (by decide) ?_
  refine z_puti shC_15 rfl fpX1_31 rfl rfl dX1_clear_7 ?_
  refine z_aload_n dX1_clear_10 0 rfl ?_
  refine z_iconst (v := 0) dX1_clear_11 (by decide) ?_
  refine z_puti shC_15 rfl fpX1_34 rfl rfl dX1_clear_12 ?_
  exact z_vret (st := []) rfl dX1_clear_15 ⟨rfl, h⟩
set_option maxRecDepth 20000 in
theorem vX1_clear_b {g : zG} {d : Nat} {Q : zM → Prop} {M : zM} (h : Q (zup (zup (zup M 105 1 0) 105 6 0) 105 7 0)) : zCv shC g d mX1_clear [.ref 105] M Q := by
  refine zW.enter (by decide +kernel) (Nat.le_of_ble_eq_true rfl) ?_
  change zW shC g d mX1_clear (zv Q) 0 [(0, .ref 105)] [] M
  refine z_aload_n dX1_clear_0 0 rfl ?_
  refine z_iconst (v := 0) dX1_clear_1 (by decide) ?_
  refine z_puti shC_105 rfl fpX1_15 rfl rfl dX1_clear_2 ?_
  refine z_aload_n dX1_clear_5 0 rfl ?_
  refine z_iconst (v := 0) dX1_clear_6 (by decide) ?_
  refine z_puti shC_105 rfl fpX1_31 rfl rfl dX1_clear_7 ?_
  refine z_aload_n dX1_clear_10 0 rfl ?_
  refine z_iconst (v := 0) dX1_clear_11 (by decide) ?_
  refine z_puti shC_105 rfl fpX1_34 rfl rfl dX1_clear_12 ?_
  exact z_vret (st := []) rfl dX1_clear_15 ⟨rfl, h⟩
theorem dX1_copy_0 : decode cX1_copy 0 = .ok (.aload_n 1, 1) := by decide +kernel
theorem dX1_copy_1 : decode cX1_copy 1 = .ok (.getfield 9, 3) := by decide +kernel
theorem dX1_copy_4 : decode cX1_copy 4 = .ok (.iconst 0, 1) := by decide +kernel
theorem dX1_copy_5 : decode cX1_copy 5 = .ok (.aload_n 0, 1) := by decide +kernel
theorem dX1_copy_6 : decode cX1_copy 6 = .ok (.getfield 9, 3) := by decide +kernel
theorem dX1_copy_9 : decode cX1_copy 9 = .ok (.iconst 0, 1) := by decide +kernel
theorem dX1_copy_10 : decode cX1_copy 10 = .ok (.sipush 400, 3) := by decide +kernel
theorem dX1_copy_13 : decode cX1_copy 13 = .ok (.invokestatic 40, 3) := by decide +kernel
theorem dX1_copy_16 : decode cX1_copy 16 = .ok (.aload_n 1, 1) := by decide +kernel
theorem dX1_copy_17 : decode cX1_copy 17 = .ok (.getfield 19, 3) := by decide +kernel
theorem dX1_copy_20 : decode cX1_copy 20 = .ok (.iconst 0, 1) := by decide +kernel
theorem dX1_copy_21 : decode cX1_copy 21 = .ok (.aload_n 0, 1) := by decide +kernel
theorem dX1_copy_22 : decode cX1_copy 22 = .ok (.getfield 19, 3) := by decide +kernel
theorem dX1_copy_25 : decode cX1_copy 25 = .ok (.iconst 0, 1) := by decide +kernel
theorem dX1_copy_26 : decode cX1_copy 26 = .ok (.bipush 16, 2) := by decide +kernel
theorem dX1_copy_28 : decode cX1_copy 28 = .ok (.invokestatic 40, 3) := by decide +kernel
theorem dX1_copy_31 : decode cX1_copy 31 = .ok (.aload_n 1, 1) := by decide +kernel
theorem dX1_copy_32 : decode cX1_copy 32 = .ok (.getfield 22, 3) := by decide +kernel
theorem dX1_copy_35 : decode cX1_copy 35 = .ok (.iconst 0, 1) := by decide +kernel
theorem dX1_copy_36 : decode cX1_copy 36 = .ok (.aload_n 0, 1) := by decide +kernel
theorem dX1_copy_37 : decode cX1_copy 37 = .ok (.getfield 22, 3) := by decide +kernel
theorem dX1_copy_40 : decode cX1_copy 40 = .ok (.iconst 0, 1) := by decide +kernel
theorem dX1_copy_41 : decode cX1_copy 41 = .ok (.bipush 16, 2) := by decide +kernel
theorem dX1_copy_43 : decode cX1_copy 43 = .ok (.invokestatic 40, 3) := by decide +kernel
theorem dX1_copy_46 : decode cX1_copy 46 = .ok (.aload_n 1, 1) := by decide +kernel
theorem dX1_copy_47 : decode cX1_copy 47 = .ok (.getfield 25, 3) := by decide +kernel
theorem dX1_copy_50 : decode cX1_copy 50 = .ok (.iconst 0, 1) := by decide +kernel
theorem dX1_copy_51 : decode cX1_copy 51 = .ok (.aload_n 0, 1) := by decide +kernel
theorem dX1_copy_52 : decode cX1_copy 52 = .ok (.getfield 25, 3) := by decide +kernel
theorem dX1_copy_55 : decode cX1_copy 55 = .ok (.iconst 0, 1) := by decide +kernel
theorem dX1_copy_56 : decode cX1_copy 56 = .ok (.bipush 16, 2) := by decide +kernel
theorem dX1_copy_58 : decode cX1_copy 58 = .ok (.invokestatic 40, 3) := by decide +kernel
theorem dX1_copy_61 : decode cX1_copy 61 = .ok (.aload_n 1, 1) := by decide +kernel
theorem dX1_copy_62 : decode cX1_copy 62 = .ok (.getfield 28, 3) := by decide +kernel
theorem dX1_copy_65 : decode cX1_copy 65 = .ok (.iconst 0, 1) := by decide +kernel
theorem dX1_copy_66 : decode cX1_copy 66 = .ok (.aload_n 0, 1) := by decide +kernel
theorem dX1_copy_67 : decode cX1_copy 67 = .ok (.getfield 28, 3) := by decide +kernel
theorem dX1_copy_70 : decode cX1_copy 70 = .ok (.iconst 0, 1) := by decide +kernel
theorem dX1_copy_71 : decode cX1_copy 71 = .ok (.bipush 16, 2) := by decide +kernel
theorem dX1_copy_73 : decode cX1_copy 73 = .ok (.invokestatic 40, 3) := by decide +kernel
theorem dX1_copy_76 : decode cX1_copy 76 = .ok (.aload_n 0, 1) := by decide +kernel
theorem dX1_copy_77 : decode cX1_copy 77 = .ok (.aload_n 1, 1) := by decide +kernel
theorem dX1_copy_78 : decode cX1_copy 78 = .ok (.getfield 15, 3) := by decide +kernel
theorem dX1_copy_81 : decode cX1_copy 81 = .ok (.putfield 15, 3) := by decide +kernel
theorem dX1_copy_84 : decode cX1_copy 84 = .ok (.aload_n 0, 1) := by decide +kernel
theorem dX1_copy_85 : decode cX1_copy 85 = .ok (.aload_n 1, 1) := by decide +kernel
theorem dX1_copy_86 : decode cX1_copy 86 = .ok (.getfield 31, 3) := by decide +kernel
theorem dX1_copy_89 : decode cX1_copy 89 = .ok (.putfield 31, 3) := by decide +kernel
theorem dX1_copy_92 : decode cX1_copy 92 = .ok (.aload_n 0, 1) := by decide +kernel
theorem dX1_copy_93 : decode cX1_copy 93 = .ok (.aload_n 1, 1) := by decide +kernel
theorem dX1_copy_94 : decode cX1_copy 94 = .ok (.getfield 34, 3) := by decide +kernel
theorem dX1_copy_97 : decode cX1_copy 97 = .ok (.putfield 34, 3) := by decide +kernel
theorem dX1_copy_100 : decode cX1_copy 100 = .ok (.return_, 1) := by decide +kernel
set_option maxRecDepth 20000 in
theorem vX1_copy_a {g : zG} {d : Nat} {Q : zM → Prop} {M : zM} (h : ∀ N1 : zM, N1 = zup (zcpy (zcpy (zcpy (zcpy (zcpy M 106 16 400) 107 17 16) 108 18 16) 109 19 16) 110 20 16) 15 1 ((zcpy (zcpy (zcpy (zcpy (zcpy M 106 16 400) 107 17 16) 108 18 16) 109 19 16) 110 20 16) 105 1) → Q (zup (zup N1 15 6 (N1 105 6)) 15 7 ((zup N1 15 6 (N1 105 6)) 105 7))) : zCv shC g (d + 1) mX1_copy [.ref 15, .ref 105] M Q := by
  refine zW.enter (by decide +kernel) (Nat.le_of_ble_eq_true rfl) ?_
  change zW shC g (d + 1) mX1_copy (zv Q) 0 [(0, .ref 15), (1, .ref 105)] [] M
  refine z_aload_n dX1_copy_0 1 rfl ?_
  refine z_getr shC_105 rfl flX1_9 dX1_copy_1 ?_
  refine z_iconst (v := 0) dX1_copy_4 (by decide) ?_
  refine z_aload_n dX1_copy_5 0 rfl ?_
  refine z_getr shC_15 rfl flX1_9 dX1_copy_6 ?_
  refine z_iconst (v := 0) dX1_copy_9 (by decide) ?_
  refine z_sipush (v := 400) dX1_copy_10 (by decide) ?_
  refine z_cpy (k0 := 400) shC_106 shC_16 (zat 748 (by decide +kernel) rfl) (by decide) (by decide) (by decide) (by decide) (by decide) (Nat.le_of_ble_eq_true rfl) dX1_copy_13 ?_
  refine z_aload_n dX1_copy_16 1 rfl ?_
  refine z_getr shC_105 rfl flX1_19 dX1_copy_17 ?_
  refine z_iconst (v := 0) dX1_copy_20 (by decide) ?_
  refine z_aload_n dX1_copy_21 0 rfl ?_
  refine z_getr shC_15 rfl flX1_19 dX1_copy_22 ?_
  refine z_iconst (v := 0) dX1_copy_25 (by decide) ?_
  refine z_bipush (v := 16) dX1_copy_26 (by decide) ?_
  refine z_cpy (k0 := 16) shC_107 shC_17 (zat 748 (by decide +kernel) rfl) (by decide) (by decide) (by decide) (by decide) (by decide) (Nat.le_of_ble_eq_true rfl) dX1_copy_28 ?_
  refine z_aload_n dX1_copy_31 1 rfl ?_
  refine z_getr shC_105 rfl flX1_22 dX1_copy_32 ?_
  refine z_iconst (v := 0) dX1_copy_35 (by decide) ?_
  refine z_aload_n dX1_copy_36 0 rfl ?_
  refine z_getr shC_15 rfl flX1_22 dX1_copy_37 ?_
  refine z_iconst (v := 0) dX1_copy_40 (by decide) ?_
  refine z_bipush (v := 16) dX1_copy_41 (by decide) ?_
  refine z_cpy (k0 := 16) shC_108 shC_18 (zat 748 (by decide +kernel) rfl) (by decide) (by decide) (by decide) (by decide) (by decide) (Nat.le_of_ble_eq_true rfl) dX1_copy_43 ?_
  refine z_aload_n dX1_copy_46 1 rfl ?_
  refine z_getr shC_105 rfl flX1_25 dX1_copy_47 ?_
  refine z_iconst (v := 0) dX1_copy_50 (by decide) ?_
  refine z_aload_n dX1_copy_51 0 rfl ?_
  refine z_getr shC_15 rfl flX1_25 dX1_copy_52 ?_
  refine z_iconst (v := 0) dX1_copy_55 (by decide) ?_
  refine z_bipush (v := 16) dX1_copy_56 (by decide) ?_
  refine z_cpy (k0 := 16) shC_109 shC_19 (zat 748 (by decide +kernel) rfl) (by decide) (by decide) (by decide) (by decide) (by decide) (Nat.le_of_ble_eq_true rfl) dX1_copy_58 ?_
  refine z_aload_n dX1_copy_61 1 rfl ?_
  refine z_getr shC_105 rfl flX1_28 dX1_copy_62 ?_
  refine z_iconst (v := 0) dX1_copy_65 (by decide) ?_
  refine z_aload_n dX1_copy_66 0 rfl ?_
  refine z_getr shC_15 rfl flX1_28 dX1_copy_67 ?_
  refine z_iconst (v := 0) dX1_copy_70 (by decide) ?_
  refine z_bipush (v := 16) dX1_copy_71 (by decide) ?_
  refine z_cpy (k0 := 16) shC_110 shC_20 (zat 748 (by decide +kernel) rfl) (by decide) (by decide) (by decide) (by decide) (by decide) (Nat.le_of_ble_eq_true rfl) dX1_copy_73 ?_
  refine z_aload_n dX1_copy_76 0 rfl ?_
  refine z_aload_n dX1_copy_77 1 rfl ?_
  refine z_geti shC_105 rfl flX1_15 dX1_copy_78 ?_
  refine z_puti shC_15 rfl fpX1_15 rfl rfl dX1_copy_81 ?_
  obtain ⟨N1, eN1⟩ : ∃ y : zM, y = zup (zcpy (zcpy (zcpy (zcpy (zcpy M 106 16 400) 107 17 16) 108 18 16) 109 19 16) 110 20 16) 15 1 ((zcpy (zcpy (zcpy (zcpy (zcpy M 106 16 400) 107 17 16) 108 18 16) 109 19 16) 110 20 16) 105 1) := ⟨_, rfl⟩
  refine z_mem N1 eN1 ?_
  have h := h N1 eN1
  refine z_aload_n dX1_copy_84 0 rfl ?_
  refine z_aload_n dX1_copy_85 1 rfl ?_
  refine z_geti shC_105 rfl flX1_31 dX1_copy_86 ?_
  refine z_puti shC_15 rfl fpX1_31 rfl rfl dX1_copy_89 ?_
  refine z_aload_n dX1_copy_92 0 rfl ?_
  refine z_aload_n dX1_copy_93 1 rfl ?_
  refine z_geti shC_105 rfl flX1_34 dX1_copy_94 ?_
  refine z_puti shC_15 rfl fpX1_34 rfl rfl dX1_copy_97 ?_
  exact z_vret (st := []) rfl dX1_copy_100 ⟨rfl, h⟩
set_option maxRecDepth 20000 in
theorem vX1_copy_b {g : zG} {d : Nat} {Q : zM → Prop} {M : zM} (h : ∀ N1 : zM, N1 = zup (zcpy (zcpy (zcpy (zcpy (zcpy M 16 43 400) 17 44 16) 18 45 16) 19 46 16) 20 47 16) 42 1 ((zcpy (zcpy (zcpy (zcpy (zcpy M 16 43 400) 17 44 16) 18 45 16) 19 46 16) 20 47 16) 15 1) → Q (zup (zup N1 42 6 (N1 15 6)) 42 7 ((zup N1 42 6 (N1 15 6)) 15 7))) : zCv shC g (d + 1) mX1_copy [.ref 42, .ref 15] M Q := by
  refine zW.enter (by decide +kernel) (Nat.le_of_ble_eq_true rfl) ?_
  change zW shC g (d + 1) mX1_copy (zv Q) 0 [(0, .ref 42), (1, .ref 15)] [] M
  refine z_aload_n dX1_copy_0 1 rfl ?_
  refine z_getr shC_15 rfl flX1_9 dX1_copy_1 ?_
  refine z_iconst (v := 0) dX1_copy_4 (by decide) ?_
  refine z_aload_n dX1_copy_5 0 rfl ?_
  refine z_getr shC_42 rfl flX1_9 dX1_copy_6 ?_
  refine z_iconst (v := 0) dX1_copy_9 (by decide) ?_
  refine z_sipush (v := 400) dX1_copy_10 (by decide) ?_
  refine z_cpy (k0 := 400) shC_16 shC_43 (zat 748 (by decide +kernel) rfl) (by decide) (by decide) (by decide) (by decide) (by decide) (Nat.le_of_ble_eq_true rfl) dX1_copy_13 ?_
  refine z_aload_n dX1_copy_16 1 rfl ?_
  refine z_getr shC_15 rfl flX1_19 dX1_copy_17 ?_
  refine z_iconst (v := 0) dX1_copy_20 (by decide) ?_
  refine z_aload_n dX1_copy_21 0 rfl ?_
  refine z_getr shC_42 rfl flX1_19 dX1_copy_22 ?_
  refine z_iconst (v := 0) dX1_copy_25 (by decide) ?_
  refine z_bipush (v := 16) dX1_copy_26 (by decide) ?_
  refine z_cpy (k0 := 16) shC_17 shC_44 (zat 748 (by decide +kernel) rfl) (by decide) (by decide) (by decide) (by decide) (by decide) (Nat.le_of_ble_eq_true rfl) dX1_copy_28 ?_
  refine z_aload_n dX1_copy_31 1 rfl ?_
  refine z_getr shC_15 rfl flX1_22 dX1_copy_32 ?_
  refine z_iconst (v := 0) dX1_copy_35 (by decide) ?_
  refine z_aload_n dX1_copy_36 0 rfl ?_
  refine z_getr shC_42 rfl flX1_22 dX1_copy_37 ?_
  refine z_iconst (v := 0) dX1_copy_40 (by decide) ?_
  refine z_bipush (v := 16) dX1_copy_41 (by decide) ?_
  refine z_cpy (k0 := 16) shC_18 shC_45 (zat 748 (by decide +kernel) rfl) (by decide) (by decide) (by decide) (by decide) (by decide) (Nat.le_of_ble_eq_true rfl) dX1_copy_43 ?_
  refine z_aload_n dX1_copy_46 1 rfl ?_
  refine z_getr shC_15 rfl flX1_25 dX1_copy_47 ?_
  refine z_iconst (v := 0) dX1_copy_50 (by decide) ?_
  refine z_aload_n dX1_copy_51 0 rfl ?_
  refine z_getr shC_42 rfl flX1_25 dX1_copy_52 ?_
  refine z_iconst (v := 0) dX1_copy_55 (by decide) ?_
  refine z_bipush (v := 16) dX1_copy_56 (by decide) ?_
  refine z_cpy (k0 := 16) shC_19 shC_46 (zat 748 (by decide +kernel) rfl) (by decide) (by decide) (by decide) (by decide) (by decide) (Nat.le_of_ble_eq_true rfl) dX1_copy_58 ?_
  refine z_aload_n dX1_copy_61 1 rfl ?_
  refine z_getr shC_15 rfl flX1_28 dX1_copy_62 ?_
  refine z_iconst (v := 0) dX1_copy_65 (by decide) ?_
  refine z_aload_n dX1_copy_66 0 rfl ?_
  refine z_getr shC_42 rfl flX1_28 dX1_copy_67 ?_
  refine z_iconst (v := 0) dX1_copy_70 (by decide) ?_
  refine z_bipush (v := 16) dX1_copy_71 (by decide) ?_
  refine z_cpy (k0 := 16) shC_20 shC_47 (zat 748 (by decide +kernel) rfl) (by decide) (by decide) (by decide) (by decide) (by decide) (Nat.le_of_ble_eq_true rfl) dX1_copy_73 ?_
  refine z_aload_n dX1_copy_76 0 rfl ?_
  refine z_aload_n dX1_copy_77 1 rfl ?_
  refine z_geti shC_15 rfl flX1_15 dX1_copy_78 ?_
  refine z_puti shC_42 rfl fpX1_15 rfl rfl dX1_copy_81 ?_
  obtain ⟨N1, eN1⟩ : ∃ y : zM, y = zup (zcpy (zcpy (zcpy (zcpy (zcpy M 16 43 400) 17 44 16) 18 45 16) 19 46 16) 20 47 16) 42 1 ((zcpy (zcpy (zcpy (zcpy (zcpy M 16 43 400) 17 44 16) 18 45 16) 19 46 16) 20 47 16) 15 1) := ⟨_, rfl⟩
  refine z_mem N1 eN1 ?_
  have h := h N1 eN1
  refine z_aload_n dX1_copy_84 0 rfl ?_
  refine z_aload_n dX1_copy_85 1 rfl ?_
  refine z_geti shC_15 rfl flX1_31 dX1_copy_86 ?_
  refine z_puti shC_42 rfl fpX1_31 rfl rfl dX1_copy_89 ?_
  refine z_aload_n dX1_copy_92 0 rfl ?_
  refine z_aload_n dX1_copy_93 1 rfl ?_
  refine z_geti shC_15 rfl flX1_34 dX1_copy_94 ?_
  refine z_puti shC_42 rfl fpX1_34 rfl rfl dX1_copy_97 ?_
  exact z_vret (st := []) rfl dX1_copy_100 ⟨rfl, h⟩
set_option maxRecDepth 20000 in
theorem vX1_copy_c {g : zG} {d : Nat} {Q : zM → Prop} {M : zM} (h : ∀ N1 : zM, N1 = zup (zcpy (zcpy (zcpy (zcpy (zcpy M 43 16 400) 44 17 16) 45 18 16) 46 19 16) 47 20 16) 15 1 ((zcpy (zcpy (zcpy (zcpy (zcpy M 43 16 400) 44 17 16) 45 18 16) 46 19 16) 47 20 16) 42 1) → Q (zup (zup N1 15 6 (N1 42 6)) 15 7 ((zup N1 15 6 (N1 42 6)) 42 7))) : zCv shC g (d + 1) mX1_copy [.ref 15, .ref 42] M Q := by
  refine zW.enter (by decide +kernel) (Nat.le_of_ble_eq_true rfl) ?_
  change zW shC g (d + 1) mX1_copy (zv Q) 0 [(0, .ref 15), (1, .ref 42)] [] M
  refine z_aload_n dX1_copy_0 1 rfl ?_
  refine z_getr shC_42 rfl flX1_9 dX1_copy_1 ?_
  refine z_iconst (v := 0) dX1_copy_4 (by decide) ?_
  refine z_aload_n dX1_copy_5 0 rfl ?_
  refine z_getr shC_15 rfl flX1_9 dX1_copy_6 ?_
  refine z_iconst (v := 0) dX1_copy_9 (by decide) ?_
  refine z_sipush (v := 400) dX1_copy_10 (by decide) ?_
  refine z_cpy (k0 := 400) shC_43 shC_16 (zat 748 (by decide +kernel) rfl) (by decide) (by decide) (by decide) (by decide) (by decide) (Nat.le_of_ble_eq_true rfl) dX1_copy_13 ?_
  refine z_aload_n dX1_copy_16 1 rfl ?_
  refine z_getr shC_42 rfl flX1_19 dX1_copy_17 ?_
  refine z_iconst (v := 0) dX1_copy_20 (by decide) ?_
  refine z_aload_n dX1_copy_21 0 rfl ?_
  refine z_getr shC_15 rfl flX1_19 dX1_copy_22 ?_
  refine z_iconst (v := 0) dX1_copy_25 (by decide) ?_
  refine z_bipush (v := 16) dX1_copy_26 (by decide) ?_
  refine z_cpy (k0 := 16) shC_44 shC_17 (zat 748 (by decide +kernel) rfl) (by decide) (by decide) (by decide) (by decide) (by decide) (Nat.le_of_ble_eq_true rfl) dX1_copy_28 ?_
  refine z_aload_n dX1_copy_31 1 rfl ?_
  refine z_getr shC_42 rfl flX1_22 dX1_copy_32 ?_
  refine z_iconst (v := 0) dX1_copy_35 (by decide) ?_
  refine z_aload_n dX1_copy_36 0 rfl ?_
  refine z_getr shC_15 rfl flX1_22 dX1_copy_37 ?_
  refine z_iconst (v := 0) dX1_copy_40 (by decide) ?_
  refine z_bipush (v := 16) dX1_copy_41 (by decide) ?_
  refine z_cpy (k0 := 16) shC_45 shC_18 (zat 748 (by decide +kernel) rfl) (by decide) (by decide) (by decide) (by decide) (by decide) (Nat.le_of_ble_eq_true rfl) dX1_copy_43 ?_
  refine z_aload_n dX1_copy_46 1 rfl ?_
  refine z_getr shC_42 rfl flX1_25 dX1_copy_47 ?_
  refine z_iconst (v := 0) dX1_copy_50 (by decide) ?_
  refine z_aload_n dX1_copy_51 0 rfl ?_
  refine z_getr shC_15 rfl flX1_25 dX1_copy_52 ?_
  refine z_iconst (v := 0) dX1_copy_55 (by decide) ?_
  refine z_bipush (v := 16) dX1_copy_56 (by decide) ?_
  refine z_cpy (k0 := 16) shC_46 shC_19 (zat 748 (by decide +kernel) rfl) (by decide) (by decide) (by decide) (by decide) (by decide) (Nat.le_of_ble_eq_true rfl) dX1_copy_58 ?_
  refine z_aload_n dX1_copy_61 1 rfl ?_
  refine z_getr shC_42 rfl flX1_28 dX1_copy_62 ?_
  refine z_iconst (v := 0) dX1_copy_65 (by decide) ?_
  refine z_aload_n dX1_copy_66 0 rfl ?_
  refine z_getr shC_15 rfl flX1_28 dX1_copy_67 ?_
  refine z_iconst (v := 0) dX1_copy_70 (by decide) ?_
  refine z_bipush (v := 16) dX1_copy_71 (by decide) ?_
  refine z_cpy (k0 := 16) shC_47 shC_20 (zat 748 (by decide +kernel) rfl) (by decide) (by decide) (by decide) (by decide) (by decide) (Nat.le_of_ble_eq_true rfl) dX1_copy_73 ?_
  refine z_aload_n dX1_copy_76 0 rfl ?_
  refine z_aload_n dX1_copy_77 1 rfl ?_
  refine z_geti shC_42 rfl flX1_15 dX1_copy_78 ?_
  refine z_puti shC_15 rfl fpX1_15 rfl rfl dX1_copy_81 ?_
  obtain ⟨N1, eN1⟩ : ∃ y : zM, y = zup (zcpy (zcpy (zcpy (zcpy (zcpy M 43 16 400) 44 17 16) 45 18 16) 46 19 16) 47 20 16) 15 1 ((zcpy (zcpy (zcpy (zcpy (zcpy M 43 16 400) 44 17 16) 45 18 16) 46 19 16) 47 20 16) 42 1) := ⟨_, rfl⟩
  refine z_mem N1 eN1 ?_
  have h := h N1 eN1
  refine z_aload_n dX1_copy_84 0 rfl ?_
  refine z_aload_n dX1_copy_85 1 rfl ?_
  refine z_geti shC_42 rfl flX1_31 dX1_copy_86 ?_
  refine z_puti shC_15 rfl fpX1_31 rfl rfl dX1_copy_89 ?_
  refine z_aload_n dX1_copy_92 0 rfl ?_
  refine z_aload_n dX1_copy_93 1 rfl ?_
  refine z_geti shC_42 rfl flX1_34 dX1_copy_94 ?_
  refine z_puti shC_15 rfl fpX1_34 rfl rfl dX1_copy_97 ?_
  exact z_vret (st := []) rfl dX1_copy_100 ⟨rfl, h⟩
theorem dX1_parse_0 : decode cX1_parse 0 = .ok (.aload_n 0, 1) := by decide +kernel
theorem dX1_parse_1 : decode cX1_parse 1 = .ok (.invokevirtual 46, 3) := by decide +kernel
theorem dX1_parse_4 : decode cX1_parse 4 = .ok (.iconst 0, 1) := by decide +kernel
theorem dX1_parse_5 : decode cX1_parse 5 = .ok (.istore_n 2, 1) := by decide +kernel
theorem dX1_parse_6 : decode cX1_parse 6 = .ok (.iload_n 2, 1) := by decide +kernel
theorem dX1_parse_7 : decode cX1_parse 7 = .ok (.sipush 400, 3) := by decide +kernel
theorem dX1_parse_10 : decode cX1_parse 10 = .ok (.if_icmp .ge 26, 3) := by decide +kernel
theorem dX1_parse_13 : decode cX1_parse 13 = .ok (.aload_n 1, 1) := by decide +kernel
theorem dX1_parse_14 : decode cX1_parse 14 = .ok (.invokevirtual 49, 3) := by decide +kernel
theorem dX1_parse_17 : decode cX1_parse 17 = .ok (.ifCond .ne 19, 3) := by decide +kernel
theorem dX1_parse_20 : decode cX1_parse 20 = .ok (.aload_n 0, 1) := by decide +kernel
theorem dX1_parse_21 : decode cX1_parse 21 = .ok (.aload_n 1, 1) := by decide +kernel
theorem dX1_parse_22 : decode cX1_parse 22 = .ok (.invokevirtual 55, 3) := by decide +kernel
theorem dX1_parse_25 : decode cX1_parse 25 = .ok (.ifCond .ne 5, 3) := by decide +kernel
theorem dX1_parse_28 : decode cX1_parse 28 = .ok (.iconst 0, 1) := by decide +kernel
theorem dX1_parse_29 : decode cX1_parse 29 = .ok (.ireturn, 1) := by decide +kernel
theorem dX1_parse_30 : decode cX1_parse 30 = .ok (.iinc 2 1, 3) := by decide +kernel
theorem dX1_parse_33 : decode cX1_parse 33 = .ok (.goto (-27), 3) := by decide +kernel
theorem dX1_parse_36 : decode cX1_parse 36 = .ok (.iconst 1, 1) := by decide +kernel
theorem dX1_parse_37 : decode cX1_parse 37 = .ok (.ireturn, 1) := by decide +kernel
set_option maxRecDepth 20000 in
theorem vX1_parse {g : zG} {d : Nat} {Q : Bool → zM → Prop} {M : zM} (h : zCv shC g d mX1_clear [.ref 105] M (fun  M1 => zW shC g (d + 1) mX1_parse (zz Q) 6 [(0, .ref 105), (1, .ref 98), (2, .int 0)] [] M1)) : zCz shC g (d + 1) mX1_parse [.ref 105, .ref 98] M Q := by
  refine zW.enter (by decide +kernel) (Nat.le_of_ble_eq_true rfl) ?_
  change zW shC g (d + 1) mX1_parse (zz Q) 0 [(0, .ref 105), (1, .ref 98)] [] M
  refine z_aload_n dX1_parse_0 0 rfl ?_
  refine z_callV (m2 := mX1_clear) (st := []) [] okX1_clear (Or.inl lkX1_46) shC_105 rfl rfl rfl (Nat.le_of_ble_eq_true rfl) dX1_parse_1 (zgo_v h fun  M1 h => ?_)
  refine z_iconst (v := 0) dX1_parse_4 (by decide) ?_
  refine z_istore_n [(2, .int 0), (0, .ref 105), (1, .ref 98)] dX1_parse_5 (by decide) rfl ?_
  exact zW.sub [1, 2, 0] rfl h
set_option maxRecDepth 20000 in
theorem vX1_parse_6 {g : zG} {d : Nat} {Q : Bool → zM → Prop} {M : zM} {l2 : Int32} (h : (400 ≤ l2 → Q true M) ∧ (¬ 400 ≤ l2 → zCz shC g d mX5_isEnd [.ref 98] M (fun b1 M1 => (b1 = true → Q true M1) ∧ (b1 = false → zCz shC g d mX1_parseLine [.ref 105, .ref 98] M1 (fun b2 M2 => (b2 = true → zW shC g (d + 1) mX1_parse (zz Q) 6 [(0, .ref 105), (1, .ref 98), (2, .int (l2 + 1))] [] M2) ∧ (b2 = false → Q false M2)))))) : zW shC g (d + 1) mX1_parse (zz Q) 6 [(0, .ref 105), (1, .ref 98), (2, .int l2)] [] M := by
  refine z_iload_n dX1_parse_6 2 rfl ?_
  refine z_sipush (v := 400) dX1_parse_7 (by decide) ?_
  refine z_icmp_ge 36 dX1_parse_10 (by decide) (fun c1 => ?_) (fun c1 => ?_)
  · have h := h.1 c1
    refine z_iconst (v := 1) dX1_parse_36 (by decide) ?_
    exact z_zret (b := true) rfl rfl dX1_parse_37 h
  · have h := h.2 c1
    refine z_aload_n dX1_parse_13 1 rfl ?_
    refine z_callV (m2 := mX5_isEnd) (st := []) [] okX5_isEnd (Or.inl lkX1_49) shC_98 rfl rfl rfl (Nat.le_of_ble_eq_true rfl) dX1_parse_14 (zgo_z h fun b1 M1 h => ?_)
    refine z_ifb_ne 36 dX1_parse_17 (by decide) (fun c2 => ?_) (fun c2 => ?_)
    · have h := h.1 c2
      refine z_iconst (v := 1) dX1_parse_36 (by decide) ?_
      exact z_zret (b := true) rfl rfl dX1_parse_37 h
    · have h := h.2 c2
      refine z_aload_n dX1_parse_20 0 rfl ?_
      refine z_aload_n dX1_parse_21 1 rfl ?_
      refine z_callV (m2 := mX1_parseLine) (st := []) [.ref 98] okX1_parseLine (Or.inl lkX1_55) shC_105 rfl rfl rfl (Nat.le_of_ble_eq_true rfl) dX1_parse_22 (zgo_z h fun b2 M2 h => ?_)
      refine z_ifb_ne 30 dX1_parse_25 (by decide) (fun c3 => ?_) (fun c3 => ?_)
      · have h := h.1 c3
        refine z_iinc (x := l2) (v := (l2 + 1)) [(2, .int (l2 + 1)), (0, .ref 105), (1, .ref 98)] dX1_parse_30 2 rfl rfl (by decide) rfl ?_
        refine z_goto 6 dX1_parse_33 (by decide) ?_
        exact zW.sub [1, 2, 0] rfl h
      · have h := h.2 c3
        refine z_iconst (v := 0) dX1_parse_28 (by decide) ?_
        exact z_zret (b := false) rfl rfl dX1_parse_29 h
theorem dX1_parseLine_0 : decode cX1_parseLine 0 = .ok (.aload_n 1, 1) := by decide +kernel
theorem dX1_parseLine_1 : decode cX1_parseLine 1 = .ok (.ldc 59, 2) := by decide +kernel
theorem dX1_parseLine_3 : decode cX1_parseLine 3 = .ok (.invokevirtual 61, 3) := by decide +kernel
theorem dX1_parseLine_6 : decode cX1_parseLine 6 = .ok (.istore_n 2, 1) := by decide +kernel
theorem dX1_parseLine_7 : decode cX1_parseLine 7 = .ok (.iload_n 2, 1) := by decide +kernel
theorem dX1_parseLine_8 : decode cX1_parseLine 8 = .ok (.ifCond .ne 18, 3) := by decide +kernel
theorem dX1_parseLine_11 : decode cX1_parseLine 11 = .ok (.aload_n 1, 1) := by decide +kernel
theorem dX1_parseLine_12 : decode cX1_parseLine 12 = .ok (.ldc 65, 2) := by decide +kernel
theorem dX1_parseLine_14 : decode cX1_parseLine 14 = .ok (.invokevirtual 61, 3) := by decide +kernel
theorem dX1_parseLine_17 : decode cX1_parseLine 17 = .ok (.ifCond .ne 9, 3) := by decide +kernel
theorem dX1_parseLine_20 : decode cX1_parseLine 20 = .ok (.aload_n 1, 1) := by decide +kernel
theorem dX1_parseLine_21 : decode cX1_parseLine 21 = .ok (.iconst 1, 1) := by decide +kernel
theorem dX1_parseLine_22 : decode cX1_parseLine 22 = .ok (.invokevirtual 67, 3) := by decide +kernel
theorem dX1_parseLine_25 : decode cX1_parseLine 25 = .ok (.ireturn, 1) := by decide +kernel
theorem dX1_parseLine_26 : decode cX1_parseLine 26 = .ok (.aload_n 0, 1) := by decide +kernel
theorem dX1_parseLine_27 : decode cX1_parseLine 27 = .ok (.getfield 31, 3) := by decide +kernel
theorem dX1_parseLine_30 : decode cX1_parseLine 30 = .ok (.bipush 16, 2) := by decide +kernel
theorem dX1_parseLine_32 : decode cX1_parseLine 32 = .ok (.if_icmp .lt 9, 3) := by decide +kernel
theorem dX1_parseLine_35 : decode cX1_parseLine 35 = .ok (.aload_n 1, 1) := by decide +kernel
theorem dX1_parseLine_36 : decode cX1_parseLine 36 = .ok (.iconst 3, 1) := by decide +kernel
theorem dX1_parseLine_37 : decode cX1_parseLine 37 = .ok (.invokevirtual 67, 3) := by decide +kernel
theorem dX1_parseLine_40 : decode cX1_parseLine 40 = .ok (.ireturn, 1) := by decide +kernel
theorem dX1_parseLine_41 : decode cX1_parseLine 41 = .ok (.aload_n 1, 1) := by decide +kernel
theorem dX1_parseLine_42 : decode cX1_parseLine 42 = .ok (.invokevirtual 71, 3) := by decide +kernel
theorem dX1_parseLine_45 : decode cX1_parseLine 45 = .ok (.aload_n 0, 1) := by decide +kernel
theorem dX1_parseLine_46 : decode cX1_parseLine 46 = .ok (.getfield 19, 3) := by decide +kernel
theorem dX1_parseLine_49 : decode cX1_parseLine 49 = .ok (.aload_n 0, 1) := by decide +kernel
theorem dX1_parseLine_50 : decode cX1_parseLine 50 = .ok (.getfield 31, 3) := by decide +kernel
theorem dX1_parseLine_53 : decode cX1_parseLine 53 = .ok (.iload_n 2, 1) := by decide +kernel
theorem dX1_parseLine_54 : decode cX1_parseLine 54 = .ok (.ifCond .eq 7, 3) := by decide +kernel
theorem dX1_parseLine_57 : decode cX1_parseLine 57 = .ok (.iconst 1, 1) := by decide +kernel
theorem dX1_parseLine_58 : decode cX1_parseLine 58 = .ok (.goto 4, 3) := by decide +kernel
theorem dX1_parseLine_61 : decode cX1_parseLine 61 = .ok (.iconst 0, 1) := by decide +kernel
theorem dX1_parseLine_62 : decode cX1_parseLine 62 = .ok (.iastore, 1) := by decide +kernel
theorem dX1_parseLine_63 : decode cX1_parseLine 63 = .ok (.aload_n 0, 1) := by decide +kernel
theorem dX1_parseLine_64 : decode cX1_parseLine 64 = .ok (.getfield 22, 3) := by decide +kernel
theorem dX1_parseLine_67 : decode cX1_parseLine 67 = .ok (.aload_n 0, 1) := by decide +kernel
theorem dX1_parseLine_68 : decode cX1_parseLine 68 = .ok (.getfield 31, 3) := by decide +kernel
theorem dX1_parseLine_71 : decode cX1_parseLine 71 = .ok (.aload_n 0, 1) := by decide +kernel
theorem dX1_parseLine_72 : decode cX1_parseLine 72 = .ok (.getfield 15, 3) := by decide +kernel
theorem dX1_parseLine_75 : decode cX1_parseLine 75 = .ok (.iastore, 1) := by decide +kernel
theorem dX1_parseLine_76 : decode cX1_parseLine 76 = .ok (.aload_n 0, 1) := by decide +kernel
theorem dX1_parseLine_77 : decode cX1_parseLine 77 = .ok (.aload_n 1, 1) := by decide +kernel
theorem dX1_parseLine_78 : decode cX1_parseLine 78 = .ok (.invokevirtual 74, 3) := by decide +kernel
theorem dX1_parseLine_81 : decode cX1_parseLine 81 = .ok (.ifCond .ne 5, 3) := by decide +kernel
theorem dX1_parseLine_84 : decode cX1_parseLine 84 = .ok (.iconst 0, 1) := by decide +kernel
theorem dX1_parseLine_85 : decode cX1_parseLine 85 = .ok (.ireturn, 1) := by decide +kernel
theorem dX1_parseLine_86 : decode cX1_parseLine 86 = .ok (.aload_n 0, 1) := by decide +kernel
theorem dX1_parseLine_87 : decode cX1_parseLine 87 = .ok (.getfield 25, 3) := by decide +kernel
theorem dX1_parseLine_90 : decode cX1_parseLine 90 = .ok (.aload_n 0, 1) := by decide +kernel
theorem dX1_parseLine_91 : decode cX1_parseLine 91 = .ok (.getfield 31, 3) := by decide +kernel
theorem dX1_parseLine_94 : decode cX1_parseLine 94 = .ok (.aload_n 0, 1) := by decide +kernel
theorem dX1_parseLine_95 : decode cX1_parseLine 95 = .ok (.getfield 15, 3) := by decide +kernel
theorem dX1_parseLine_98 : decode cX1_parseLine 98 = .ok (.iastore, 1) := by decide +kernel
theorem dX1_parseLine_99 : decode cX1_parseLine 99 = .ok (.aload_n 1, 1) := by decide +kernel
theorem dX1_parseLine_100 : decode cX1_parseLine 100 = .ok (.ldc 77, 2) := by decide +kernel
theorem dX1_parseLine_102 : decode cX1_parseLine 102 = .ok (.invokevirtual 61, 3) := by decide +kernel
theorem dX1_parseLine_105 : decode cX1_parseLine 105 = .ok (.ifCond .eq 18, 3) := by decide +kernel
theorem dX1_parseLine_108 : decode cX1_parseLine 108 = .ok (.aload_n 1, 1) := by decide +kernel
theorem dX1_parseLine_109 : decode cX1_parseLine 109 = .ok (.invokevirtual 71, 3) := by decide +kernel
theorem dX1_parseLine_112 : decode cX1_parseLine 112 = .ok (.aload_n 0, 1) := by decide +kernel
theorem dX1_parseLine_113 : decode cX1_parseLine 113 = .ok (.aload_n 1, 1) := by decide +kernel
theorem dX1_parseLine_114 : decode cX1_parseLine 114 = .ok (.iconst 0, 1) := by decide +kernel
theorem dX1_parseLine_115 : decode cX1_parseLine 115 = .ok (.invokevirtual 79, 3) := by decide +kernel
theorem dX1_parseLine_118 : decode cX1_parseLine 118 = .ok (.ifCond .ne 5, 3) := by decide +kernel
theorem dX1_parseLine_121 : decode cX1_parseLine 121 = .ok (.iconst 0, 1) := by decide +kernel
theorem dX1_parseLine_122 : decode cX1_parseLine 122 = .ok (.ireturn, 1) := by decide +kernel
theorem dX1_parseLine_123 : decode cX1_parseLine 123 = .ok (.aload_n 0, 1) := by decide +kernel
theorem dX1_parseLine_124 : decode cX1_parseLine 124 = .ok (.getfield 28, 3) := by decide +kernel
theorem dX1_parseLine_127 : decode cX1_parseLine 127 = .ok (.aload_n 0, 1) := by decide +kernel
theorem dX1_parseLine_128 : decode cX1_parseLine 128 = .ok (.getfield 31, 3) := by decide +kernel
theorem dX1_parseLine_131 : decode cX1_parseLine 131 = .ok (.aload_n 0, 1) := by decide +kernel
theorem dX1_parseLine_132 : decode cX1_parseLine 132 = .ok (.getfield 15, 3) := by decide +kernel
theorem dX1_parseLine_135 : decode cX1_parseLine 135 = .ok (.iastore, 1) := by decide +kernel
theorem dX1_parseLine_136 : decode cX1_parseLine 136 = .ok (.aload_n 1, 1) := by decide +kernel
theorem dX1_parseLine_137 : decode cX1_parseLine 137 = .ok (.bipush 59, 2) := by decide +kernel
theorem dX1_parseLine_139 : decode cX1_parseLine 139 = .ok (.invokevirtual 83, 3) := by decide +kernel
theorem dX1_parseLine_142 : decode cX1_parseLine 142 = .ok (.ifCond .ne 9, 3) := by decide +kernel
theorem dX1_parseLine_145 : decode cX1_parseLine 145 = .ok (.aload_n 1, 1) := by decide +kernel
theorem dX1_parseLine_146 : decode cX1_parseLine 146 = .ok (.iconst 1, 1) := by decide +kernel
theorem dX1_parseLine_147 : decode cX1_parseLine 147 = .ok (.invokevirtual 67, 3) := by decide +kernel
theorem dX1_parseLine_150 : decode cX1_parseLine 150 = .ok (.ireturn, 1) := by decide +kernel
theorem dX1_parseLine_151 : decode cX1_parseLine 151 = .ok (.aload_n 1, 1) := by decide +kernel
theorem dX1_parseLine_152 : decode cX1_parseLine 152 = .ok (.invokevirtual 71, 3) := by decide +kernel
theorem dX1_parseLine_155 : decode cX1_parseLine 155 = .ok (.aload_n 0, 1) := by decide +kernel
theorem dX1_parseLine_156 : decode cX1_parseLine 156 = .ok (.dup, 1) := by decide +kernel
theorem dX1_parseLine_157 : decode cX1_parseLine 157 = .ok (.getfield 31, 3) := by decide +kernel
theorem dX1_parseLine_160 : decode cX1_parseLine 160 = .ok (.iconst 1, 1) := by decide +kernel
theorem dX1_parseLine_161 : decode cX1_parseLine 161 = .ok (.iadd, 1) := by decide +kernel
theorem dX1_parseLine_162 : decode cX1_parseLine 162 = .ok (.putfield 31, 3) := by decide +kernel
theorem dX1_parseLine_165 : decode cX1_parseLine 165 = .ok (.aload_n 0, 1) := by decide +kernel
theorem dX1_parseLine_166 : decode cX1_parseLine 166 = .ok (.dup, 1) := by decide +kernel
theorem dX1_parseLine_167 : decode cX1_parseLine 167 = .ok (.getfield 34, 3) := by decide +kernel
theorem dX1_parseLine_170 : decode cX1_parseLine 170 = .ok (.iload_n 2, 1) := by decide +kernel
theorem dX1_parseLine_171 : decode cX1_parseLine 171 = .ok (.ifCond .eq 7, 3) := by decide +kernel
theorem dX1_parseLine_174 : decode cX1_parseLine 174 = .ok (.iconst 1, 1) := by decide +kernel
theorem dX1_parseLine_175 : decode cX1_parseLine 175 = .ok (.goto 4, 3) := by decide +kernel
theorem dX1_parseLine_178 : decode cX1_parseLine 178 = .ok (.iconst 0, 1) := by decide +kernel
theorem dX1_parseLine_179 : decode cX1_parseLine 179 = .ok (.iadd, 1) := by decide +kernel
theorem dX1_parseLine_180 : decode cX1_parseLine 180 = .ok (.putfield 34, 3) := by decide +kernel
theorem dX1_parseLine_183 : decode cX1_parseLine 183 = .ok (.iconst 1, 1) := by decide +kernel
theorem dX1_parseLine_184 : decode cX1_parseLine 184 = .ok (.ireturn, 1) := by decide +kernel
set_option maxRecDepth 20000 in
theorem vX1_parseLine {g : zG} {d : Nat} {Q : Bool → zM → Prop} {M : zM} (h : zCz shC g d mX5_isWord [.ref 98, .ref (4096 + 8)] M (fun b1 M1 => (b1 = true → zW shC g (d + 1) mX1_parseLine (zz Q) 26 [(0, .ref 105), (1, .ref 98), (2, .int (zbI b1))] [] M1) ∧ (b1 = false → zCz shC g d mX5_isWord [.ref 98, .ref (4096 + 9)] M1 (fun b2 M2 => (b2 = true → zW shC g (d + 1) mX1_parseLine (zz Q) 26 [(0, .ref 105), (1, .ref 98), (2, .int (zbI b1))] [] M2) ∧ (b2 = false → zCz shC g d mX5_fail [.ref 98, .int 1] M2 (fun b3 M3 => Q b3 M3)))))) : zCz shC g (d + 1) mX1_parseLine [.ref 105, .ref 98] M Q := by
  refine zW.enter (by decide +kernel) (Nat.le_of_ble_eq_true rfl) ?_
  change zW shC g (d + 1) mX1_parseLine (zz Q) 0 [(0, .ref 105), (1, .ref 98)] [] M
  refine z_aload_n dX1_parseLine_0 1 rfl ?_
  refine z_ldcS (i := 8) (tx := "thaw") dX1_parseLine_1 (by decide +kernel) ?_
  refine z_callV (m2 := mX5_isWord) (st := []) [.ref (4096 + 8)] okX5_isWord (Or.inl lkX1_61) shC_98 rfl rfl rfl (Nat.le_of_ble_eq_true rfl) dX1_parseLine_3 (zgo_z h fun b1 M1 h => ?_)
  refine z_istore_n [(2, .int (zbI b1)), (0, .ref 105), (1, .ref 98)] dX1_parseLine_6 (by decide) rfl ?_
  refine z_iload_n dX1_parseLine_7 0 rfl ?_
  refine z_ifb_ne 26 dX1_parseLine_8 (by decide) (fun c1 => ?_) (fun c1 => ?_)
  · have h := h.1 c1
    exact zW.sub [1, 2, 0] rfl h
  · have h := h.2 c1
    refine z_aload_n dX1_parseLine_11 2 rfl ?_
    refine z_ldcS (i := 9) (tx := "cut") dX1_parseLine_12 (by decide +kernel) ?_
    refine z_callV (m2 := mX5_isWord) (st := []) [.ref (4096 + 9)] okX5_isWord (Or.inl lkX1_61) shC_98 rfl rfl rfl (Nat.le_of_ble_eq_true rfl) dX1_parseLine_14 (zgo_z h fun b2 M2 h => ?_)
    refine z_ifb_ne 26 dX1_parseLine_17 (by decide) (fun c2 => ?_) (fun c2 => ?_)
    · have h := h.1 c2
      exact zW.sub [1, 2, 0] rfl h
    · have h := h.2 c2
      refine z_aload_n dX1_parseLine_20 2 rfl ?_
      refine z_iconst (v := 1) dX1_parseLine_21 (by decide) ?_
      refine z_callV (m2 := mX5_fail) (st := []) [.int 1] okX5_fail (Or.inl lkX1_67) shC_98 rfl rfl rfl (Nat.le_of_ble_eq_true rfl) dX1_parseLine_22 (zgo_z h fun b3 M3 h => ?_)
      exact z_zret rfl rfl dX1_parseLine_25 h
set_option maxRecDepth 20000 in
theorem vX1_parseLine_26 {g : zG} {d : Nat} {Q : Bool → zM → Prop} {M : zM} {l2 : Bool} (h : ((M 105 6) < 16 → zCv shC g d mX5_next [.ref 98] M (fun  M1 => (l2 = false → zW shC g (d + 1) mX1_parseLine (zz Q) 62 [(0, .ref 105), (1, .ref 98), (2, .int (zbI l2))] [.int 0, .int (M1 105 6), .ref 107] M1) ∧ (l2 = true → zW shC g (d + 1) mX1_parseLine (zz Q) 62 [(0, .ref 105), (1, .ref 98), (2, .int (zbI l2))] [.int 1, .int (M1 105 6), .ref 107] M1))) ∧ (¬ (M 105 6) < 16 → zCz shC g d mX5_fail [.ref 98, .int 3] M (fun b1 M1 => Q b1 M1))) : zW shC g (d + 1) mX1_parseLine (zz Q) 26 [(0, .ref 105), (1, .ref 98), (2, .int (zbI l2))] [] M := by
  refine z_aload_n dX1_parseLine_26 0 rfl ?_
  refine z_geti shC_105 rfl flX1_31 dX1_parseLine_27 ?_
  refine z_bipush (v := 16) dX1_parseLine_30 (by decide) ?_
  refine z_icmp_lt 41 dX1_parseLine_32 (by decide) (fun c1 => ?_) (fun c1 => ?_)
  · have h := h.1 c1
    refine z_aload_n dX1_parseLine_41 1 rfl ?_
    refine z_callV (m2 := mX5_next) (st := []) [] okX5_next (Or.inl lkX1_71) shC_98 rfl rfl rfl (Nat.le_of_ble_eq_true rfl) dX1_parseLine_42 (zgo_v h fun  M1 h => ?_)
    refine z_aload_n dX1_parseLine_45 0 rfl ?_
    refine z_getr shC_105 rfl flX1_19 dX1_parseLine_46 ?_
    refine z_aload_n dX1_parseLine_49 0 rfl ?_
    refine z_geti shC_105 rfl flX1_31 dX1_parseLine_50 ?_
    refine z_iload_n dX1_parseLine_53 2 rfl ?_
    refine z_ifb_eq 61 dX1_parseLine_54 (by decide) (fun c2 => ?_) (fun c2 => ?_)
    · have h := h.1 c2
      refine z_iconst (v := 0) dX1_parseLine_61 (by decide) ?_
      exact h
    · have h := h.2 c2
      refine z_iconst (v := 1) dX1_parseLine_57 (by decide) ?_
      refine z_goto 62 dX1_parseLine_58 (by decide) ?_
      exact h
  · have h := h.2 c1
    refine z_aload_n dX1_parseLine_35 1 rfl ?_
    refine z_iconst (v := 3) dX1_parseLine_36 (by decide) ?_
    refine z_callV (m2 := mX5_fail) (st := []) [.int 3] okX5_fail (Or.inl lkX1_67) shC_98 rfl rfl rfl (Nat.le_of_ble_eq_true rfl) dX1_parseLine_37 (zgo_z h fun b1 M1 h => ?_)
    exact z_zret rfl rfl dX1_parseLine_40 h
set_option maxRecDepth 20000 in
theorem vX1_parseLine_62 {g : zG} {d : Nat} {Q : Bool → zM → Prop} {M : zM} {l2 : Bool} {s0 : Int32} {s1 : Int32} (h : ∃ k1 : Nat, s1 = iv k1 ∧ k1 < 16 ∧ ∃ k2 : Nat, ((zup M 107 k1 s0) 105 6) = iv k2 ∧ k2 < 16 ∧ zCz shC g d mX1_parseSum [.ref 105, .ref 98] (zup (zup M 107 k1 s0) 108 k2 ((zup M 107 k1 s0) 105 1)) (fun b1 M1 => (b1 = true → ∃ k3 : Nat, (M1 105 6) = iv k3 ∧ k3 < 16 ∧ zCz shC g d mX5_isWord [.ref 98, .ref (4096 + 16)] (zup M1 109 k3 (M1 105 1)) (fun b2 M2 => (b2 = false → zW shC g (d + 1) mX1_parseLine (zz Q) 123 [(0, .ref 105), (1, .ref 98), (2, .int (zbI l2))] [] M2) ∧ (b2 = true → zCv shC g d mX5_next [.ref 98] M2 (fun  M3 => zCz shC g d mX1_parseCondition [.ref 105, .ref 98, .int 0] M3 (fun b3 M4 => (b3 = true → zW shC g (d + 1) mX1_parseLine (zz Q) 123 [(0, .ref 105), (1, .ref 98), (2, .int (zbI l2))] [] M4) ∧ (b3 = false → Q false M4)))))) ∧ (b1 = false → Q false M1))) : zW shC g (d + 1) mX1_parseLine (zz Q) 62 [(0, .ref 105), (1, .ref 98), (2, .int (zbI l2))] [.int s0, .int s1, .ref 107] M := by
  obtain ⟨k1, ek1, uk1, h⟩ := h
  refine z_iast2 (k0 := k1) shC_107 (by decide) ek1 uk1 dX1_parseLine_62 ?_
  refine z_aload_n dX1_parseLine_63 0 rfl ?_
  refine z_getr shC_105 rfl flX1_22 dX1_parseLine_64 ?_
  refine z_aload_n dX1_parseLine_67 0 rfl ?_
  refine z_geti shC_105 rfl flX1_31 dX1_parseLine_68 ?_
  refine z_aload_n dX1_parseLine_71 0 rfl ?_
  refine z_geti shC_105 rfl flX1_15 dX1_parseLine_72 ?_
  obtain ⟨k2, ek2, uk2, h⟩ := h
  refine z_iast2 (k0 := k2) shC_108 (by decide) ek2 uk2 dX1_parseLine_75 ?_
  refine z_aload_n dX1_parseLine_76 0 rfl ?_
  refine z_aload_n dX1_parseLine_77 1 rfl ?_
  refine z_callV (m2 := mX1_parseSum) (st := []) [.ref 98] okX1_parseSum (Or.inl lkX1_74) shC_105 rfl rfl rfl (Nat.le_of_ble_eq_true rfl) dX1_parseLine_78 (zgo_z h fun b1 M1 h => ?_)
  refine z_ifb_ne 86 dX1_parseLine_81 (by decide) (fun c1 => ?_) (fun c1 => ?_)
  · have h := h.1 c1
    refine z_aload_n dX1_parseLine_86 0 rfl ?_
    refine z_getr shC_105 rfl flX1_25 dX1_parseLine_87 ?_
    refine z_aload_n dX1_parseLine_90 0 rfl ?_
    refine z_geti shC_105 rfl flX1_31 dX1_parseLine_91 ?_
    refine z_aload_n dX1_parseLine_94 0 rfl ?_
    refine z_geti shC_105 rfl flX1_15 dX1_parseLine_95 ?_
    obtain ⟨k3, ek3, uk3, h⟩ := h
    refine z_iast2 (k0 := k3) shC_109 (by decide) ek3 uk3 dX1_parseLine_98 ?_
    refine z_aload_n dX1_parseLine_99 1 rfl ?_
    refine z_ldcS (i := 16) (tx := "when") dX1_parseLine_100 (by decide +kernel) ?_
    refine z_callV (m2 := mX5_isWord) (st := []) [.ref (4096 + 16)] okX5_isWord (Or.inl lkX1_61) shC_98 rfl rfl rfl (Nat.le_of_ble_eq_true rfl) dX1_parseLine_102 (zgo_z h fun b2 M2 h => ?_)
    refine z_ifb_eq 123 dX1_parseLine_105 (by decide) (fun c2 => ?_) (fun c2 => ?_)
    · have h := h.1 c2
      exact h
    · have h := h.2 c2
      refine z_aload_n dX1_parseLine_108 1 rfl ?_
      refine z_callV (m2 := mX5_next) (st := []) [] okX5_next (Or.inl lkX1_71) shC_98 rfl rfl rfl (Nat.le_of_ble_eq_true rfl) dX1_parseLine_109 (zgo_v h fun  M3 h => ?_)
      refine z_aload_n dX1_parseLine_112 0 rfl ?_
      refine z_aload_n dX1_parseLine_113 1 rfl ?_
      refine z_iconst (v := 0) dX1_parseLine_114 (by decide) ?_
      refine z_callV (m2 := mX1_parseCondition) (st := []) [.ref 98, .int 0] okX1_parseCondition (Or.inl lkX1_79) shC_105 rfl rfl rfl (Nat.le_of_ble_eq_true rfl) dX1_parseLine_115 (zgo_z h fun b3 M4 h => ?_)
      refine z_ifb_ne 123 dX1_parseLine_118 (by decide) (fun c3 => ?_) (fun c3 => ?_)
      · have h := h.1 c3
        exact h
      · have h := h.2 c3
        refine z_iconst (v := 0) dX1_parseLine_121 (by decide) ?_
        exact z_zret (b := false) rfl rfl dX1_parseLine_122 h
  · have h := h.2 c1
    refine z_iconst (v := 0) dX1_parseLine_84 (by decide) ?_
    exact z_zret (b := false) rfl rfl dX1_parseLine_85 h
set_option maxRecDepth 20000 in
theorem vX1_parseLine_123 {g : zG} {d : Nat} {Q : Bool → zM → Prop} {M : zM} {l2 : Bool} (h : ∃ k1 : Nat, (M 105 6) = iv k1 ∧ k1 < 16 ∧ zCz shC g d mX5_isSign [.ref 98, .int 59] (zup M 110 k1 (M 105 1)) (fun b1 M1 => (b1 = true → zCv shC g d mX5_next [.ref 98] M1 (fun  M2 => (l2 = false → Q true (zup (zup M2 105 6 ((M2 105 6) + 1)) 105 7 (((zup M2 105 6 ((M2 105 6) + 1)) 105 7) + 0))) ∧ (l2 = true → Q true (zup (zup M2 105 6 ((M2 105 6) + 1)) 105 7 (((zup M2 105 6 ((M2 105 6) + 1)) 105 7) + 1))))) ∧ (b1 = false → zCz shC g d mX5_fail [.ref 98, .int 1] M1 (fun b2 M2 => Q b2 M2)))) : zW shC g (d + 1) mX1_parseLine (zz Q) 123 [(0, .ref 105), (1, .ref 98), (2, .int (zbI l2))] [] M := by
  refine z_aload_n dX1_parseLine_123 0 rfl ?_
  refine z_getr shC_105 rfl flX1_28 dX1_parseLine_124 ?_
  refine z_aload_n dX1_parseLine_127 0 rfl ?_
  refine z_geti shC_105 rfl flX1_31 dX1_parseLine_128 ?_
  refine z_aload_n dX1_parseLine_131 0 rfl ?_
  refine z_geti shC_105 rfl flX1_15 dX1_parseLine_132 ?_
  obtain ⟨k1, ek1, uk1, h⟩ := h
  refine z_iast2 (k0 := k1) shC_110 (by decide) ek1 uk1 dX1_parseLine_135 ?_
  refine z_aload_n dX1_parseLine_136 1 rfl ?_
  refine z_bipush (v := 59) dX1_parseLine_137 (by decide) ?_
  refine z_callV (m2 := mX5_isSign) (st := []) [.int 59] okX5_isSign (Or.inl lkX1_83) shC_98 rfl rfl rfl (Nat.le_of_ble_eq_true rfl) dX1_parseLine_139 (zgo_z h fun b1 M1 h => ?_)
  refine z_ifb_ne 151 dX1_parseLine_142 (by decide) (fun c1 => ?_) (fun c1 => ?_)
  · have h := h.1 c1
    refine z_aload_n dX1_parseLine_151 1 rfl ?_
    refine z_callV (m2 := mX5_next) (st := []) [] okX5_next (Or.inl lkX1_71) shC_98 rfl rfl rfl (Nat.le_of_ble_eq_true rfl) dX1_parseLine_152 (zgo_v h fun  M2 h => ?_)
    refine z_aload_n dX1_parseLine_155 0 rfl ?_
    refine z_dupr dX1_parseLine_156 ?_
    refine z_geti shC_105 rfl flX1_31 dX1_parseLine_157 ?_
    refine z_iconst (v := 1) dX1_parseLine_160 (by decide) ?_
    refine z_iadd dX1_parseLine_161 ?_
    refine z_puti shC_105 rfl fpX1_31 rfl rfl dX1_parseLine_162 ?_
    refine z_aload_n dX1_parseLine_165 0 rfl ?_
    refine z_dupr dX1_parseLine_166 ?_
    refine z_geti shC_105 rfl flX1_34 dX1_parseLine_167 ?_
    refine z_iload_n dX1_parseLine_170 2 rfl ?_
    refine z_ifb_eq 178 dX1_parseLine_171 (by decide) (fun c2 => ?_) (fun c2 => ?_)
    · have h := h.1 c2
      refine z_iconst (v := 0) dX1_parseLine_178 (by decide) ?_
      refine z_iadd dX1_parseLine_179 ?_
      refine z_puti shC_105 rfl fpX1_34 rfl rfl dX1_parseLine_180 ?_
      refine z_iconst (v := 1) dX1_parseLine_183 (by decide) ?_
      exact z_zret (b := true) rfl rfl dX1_parseLine_184 h
    · have h := h.2 c2
      refine z_iconst (v := 1) dX1_parseLine_174 (by decide) ?_
      refine z_goto 179 dX1_parseLine_175 (by decide) ?_
      refine z_iadd dX1_parseLine_179 ?_
      refine z_puti shC_105 rfl fpX1_34 rfl rfl dX1_parseLine_180 ?_
      refine z_iconst (v := 1) dX1_parseLine_183 (by decide) ?_
      exact z_zret (b := true) rfl rfl dX1_parseLine_184 h
  · have h := h.2 c1
    refine z_aload_n dX1_parseLine_145 1 rfl ?_
    refine z_iconst (v := 1) dX1_parseLine_146 (by decide) ?_
    refine z_callV (m2 := mX5_fail) (st := []) [.int 1] okX5_fail (Or.inl lkX1_67) shC_98 rfl rfl rfl (Nat.le_of_ble_eq_true rfl) dX1_parseLine_147 (zgo_z h fun b2 M2 h => ?_)
    exact z_zret rfl rfl dX1_parseLine_150 h
theorem dX1_parseCondition_0 : decode cX1_parseCondition 0 = .ok (.iconst 0, 1) := by decide +kernel
theorem dX1_parseCondition_1 : decode cX1_parseCondition 1 = .ok (.istore_n 3, 1) := by decide +kernel
theorem dX1_parseCondition_2 : decode cX1_parseCondition 2 = .ok (.iconst 0, 1) := by decide +kernel
theorem dX1_parseCondition_3 : decode cX1_parseCondition 3 = .ok (.istore 4, 2) := by decide +kernel
theorem dX1_parseCondition_5 : decode cX1_parseCondition 5 = .ok (.iconst 0, 1) := by decide +kernel
theorem dX1_parseCondition_6 : decode cX1_parseCondition 6 = .ok (.istore 5, 2) := by decide +kernel
theorem dX1_parseCondition_8 : decode cX1_parseCondition 8 = .ok (.iload 5, 2) := by decide +kernel
theorem dX1_parseCondition_10 : decode cX1_parseCondition 10 = .ok (.sipush 400, 3) := by decide +kernel
theorem dX1_parseCondition_13 : decode cX1_parseCondition 13 = .ok (.if_icmp .ge 70, 3) := by decide +kernel
theorem dX1_parseCondition_16 : decode cX1_parseCondition 16 = .ok (.aload_n 0, 1) := by decide +kernel
theorem dX1_parseCondition_17 : decode cX1_parseCondition 17 = .ok (.aload_n 1, 1) := by decide +kernel
theorem dX1_parseCondition_18 : decode cX1_parseCondition 18 = .ok (.iload_n 2, 1) := by decide +kernel
theorem dX1_parseCondition_19 : decode cX1_parseCondition 19 = .ok (.invokevirtual 87, 3) := by decide +kernel
theorem dX1_parseCondition_22 : decode cX1_parseCondition 22 = .ok (.ifCond .ne 5, 3) := by decide +kernel
theorem dX1_parseCondition_25 : decode cX1_parseCondition 25 = .ok (.iconst 0, 1) := by decide +kernel
theorem dX1_parseCondition_26 : decode cX1_parseCondition 26 = .ok (.ireturn, 1) := by decide +kernel
theorem dX1_parseCondition_27 : decode cX1_parseCondition 27 = .ok (.aload_n 0, 1) := by decide +kernel
theorem dX1_parseCondition_28 : decode cX1_parseCondition 28 = .ok (.iload 4, 2) := by decide +kernel
theorem dX1_parseCondition_30 : decode cX1_parseCondition 30 = .ok (.bipush 10, 2) := by decide +kernel
theorem dX1_parseCondition_32 : decode cX1_parseCondition 32 = .ok (.invokevirtual 90, 3) := by decide +kernel
theorem dX1_parseCondition_35 : decode cX1_parseCondition 35 = .ok (.aload_n 1, 1) := by decide +kernel
theorem dX1_parseCondition_36 : decode cX1_parseCondition 36 = .ok (.ldc 94, 2) := by decide +kernel
theorem dX1_parseCondition_38 : decode cX1_parseCondition 38 = .ok (.invokevirtual 61, 3) := by decide +kernel
theorem dX1_parseCondition_41 : decode cX1_parseCondition 41 = .ok (.istore 4, 2) := by decide +kernel
theorem dX1_parseCondition_43 : decode cX1_parseCondition 43 = .ok (.iload 4, 2) := by decide +kernel
theorem dX1_parseCondition_45 : decode cX1_parseCondition 45 = .ok (.ifCond .ne 17, 3) := by decide +kernel
theorem dX1_parseCondition_48 : decode cX1_parseCondition 48 = .ok (.aload_n 0, 1) := by decide +kernel
theorem dX1_parseCondition_49 : decode cX1_parseCondition 49 = .ok (.iload_n 3, 1) := by decide +kernel
theorem dX1_parseCondition_50 : decode cX1_parseCondition 50 = .ok (.bipush 11, 2) := by decide +kernel
theorem dX1_parseCondition_52 : decode cX1_parseCondition 52 = .ok (.invokevirtual 90, 3) := by decide +kernel
theorem dX1_parseCondition_55 : decode cX1_parseCondition 55 = .ok (.aload_n 1, 1) := by decide +kernel
theorem dX1_parseCondition_56 : decode cX1_parseCondition 56 = .ok (.ldc 96, 2) := by decide +kernel
theorem dX1_parseCondition_58 : decode cX1_parseCondition 58 = .ok (.invokevirtual 61, 3) := by decide +kernel
theorem dX1_parseCondition_61 : decode cX1_parseCondition 61 = .ok (.istore_n 3, 1) := by decide +kernel
theorem dX1_parseCondition_62 : decode cX1_parseCondition 62 = .ok (.iload 4, 2) := by decide +kernel
theorem dX1_parseCondition_64 : decode cX1_parseCondition 64 = .ok (.ifCond .ne 9, 3) := by decide +kernel
theorem dX1_parseCondition_67 : decode cX1_parseCondition 67 = .ok (.iload_n 3, 1) := by decide +kernel
theorem dX1_parseCondition_68 : decode cX1_parseCondition 68 = .ok (.ifCond .ne 5, 3) := by decide +kernel
theorem dX1_parseCondition_71 : decode cX1_parseCondition 71 = .ok (.iconst 1, 1) := by decide +kernel
theorem dX1_parseCondition_72 : decode cX1_parseCondition 72 = .ok (.ireturn, 1) := by decide +kernel
theorem dX1_parseCondition_73 : decode cX1_parseCondition 73 = .ok (.aload_n 1, 1) := by decide +kernel
theorem dX1_parseCondition_74 : decode cX1_parseCondition 74 = .ok (.invokevirtual 71, 3) := by decide +kernel
theorem dX1_parseCondition_77 : decode cX1_parseCondition 77 = .ok (.iinc 5 1, 3) := by decide +kernel
theorem dX1_parseCondition_80 : decode cX1_parseCondition 80 = .ok (.goto (-72), 3) := by decide +kernel
theorem dX1_parseCondition_83 : decode cX1_parseCondition 83 = .ok (.iconst 1, 1) := by decide +kernel
theorem dX1_parseCondition_84 : decode cX1_parseCondition 84 = .ok (.ireturn, 1) := by decide +kernel
set_option maxRecDepth 20000 in
theorem vX1_parseCondition {g : zG} {d : Nat} {Q : Bool → zM → Prop} {M : zM} {l2 : Int32} (h : zW shC g (d + 1) mX1_parseCondition (zz Q) 8 [(0, .ref 105), (1, .ref 98), (2, .int l2), (3, .int 0), (4, .int 0), (5, .int 0)] [] M) : zCz shC g (d + 1) mX1_parseCondition [.ref 105, .ref 98, .int l2] M Q := by
  refine zW.enter (by decide +kernel) (Nat.le_of_ble_eq_true rfl) ?_
  change zW shC g (d + 1) mX1_parseCondition (zz Q) 0 [(0, .ref 105), (1, .ref 98), (2, .int l2)] [] M
  refine z_iconst (v := 0) dX1_parseCondition_0 (by decide) ?_
  refine z_istore_n [(3, .int 0), (0, .ref 105), (1, .ref 98), (2, .int l2)] dX1_parseCondition_1 (by decide) rfl ?_
  refine z_iconst (v := 0) dX1_parseCondition_2 (by decide) ?_
  refine z_istore [(4, .int 0), (3, .int 0), (0, .ref 105), (1, .ref 98), (2, .int l2)] dX1_parseCondition_3 (by decide) rfl ?_
  refine z_iconst (v := 0) dX1_parseCondition_5 (by decide) ?_
  refine z_istore [(5, .int 0), (4, .int 0), (3, .int 0), (0, .ref 105), (1, .ref 98), (2, .int l2)] dX1_parseCondition_6 (by decide) rfl ?_
  exact zW.sub [3, 4, 5, 2, 1, 0] rfl h
set_option maxRecDepth 20000 in
theorem vX1_parseCondition_8 {g : zG} {d : Nat} {Q : Bool → zM → Prop} {M : zM} {l2 : Int32} {l3 : Int32} {l4 : Int32} {l5 : Int32} (h : (400 ≤ l5 → Q true M) ∧ (¬ 400 ≤ l5 → zCz shC g d mX1_parseClause [.ref 105, .ref 98, .int l2] M (fun b1 M1 => (b1 = true → zCv shC g d mX1_emitIf [.ref 105, .int l4, .int 10] M1 (fun  M2 => zCz shC g d mX5_isWord [.ref 98, .ref (4096 + 18)] M2 (fun b2 M3 => (b2 = true → zW shC g (d + 1) mX1_parseCondition (zz Q) 62 [(0, .ref 105), (1, .ref 98), (2, .int l2), (3, .int l3), (4, .int (zbI b2)), (5, .int l5)] [] M3) ∧ (b2 = false → zCv shC g d mX1_emitIf [.ref 105, .int l3, .int 11] M3 (fun  M4 => zCz shC g d mX5_isWord [.ref 98, .ref (4096 + 19)] M4 (fun b3 M5 => zW shC g (d + 1) mX1_parseCondition (zz Q) 62 [(0, .ref 105), (1, .ref 98), (2, .int l2), (3, .int (zbI b3)), (4, .int (zbI b2)), (5, .int l5)] [] M5)))))) ∧ (b1 = false → Q false M1)))) : zW shC g (d + 1) mX1_parseCondition (zz Q) 8 [(0, .ref 105), (1, .ref 98), (2, .int l2), (3, .int l3), (4, .int l4), (5, .int l5)] [] M := by
  refine z_iload dX1_parseCondition_8 5 rfl ?_
  refine z_sipush (v := 400) dX1_parseCondition_10 (by decide) ?_
  refine z_icmp_ge 83 dX1_parseCondition_13 (by decide) (fun c1 => ?_) (fun c1 => ?_)
  · have h := h.1 c1
    refine z_iconst (v := 1) dX1_parseCondition_83 (by decide) ?_
    exact z_zret (b := true) rfl rfl dX1_parseCondition_84 h
  · have h := h.2 c1
    refine z_aload_n dX1_parseCondition_16 0 rfl ?_
    refine z_aload_n dX1_parseCondition_17 1 rfl ?_
    refine z_iload_n dX1_parseCondition_18 2 rfl ?_
    refine z_callV (m2 := mX1_parseClause) (st := []) [.ref 98, .int l2] okX1_parseClause (Or.inl lkX1_87) shC_105 rfl rfl rfl (Nat.le_of_ble_eq_true rfl) dX1_parseCondition_19 (zgo_z h fun b1 M1 h => ?_)
    refine z_ifb_ne 27 dX1_parseCondition_22 (by decide) (fun c2 => ?_) (fun c2 => ?_)
    · have h := h.1 c2
      refine z_aload_n dX1_parseCondition_27 0 rfl ?_
      refine z_iload dX1_parseCondition_28 4 rfl ?_
      refine z_bipush (v := 10) dX1_parseCondition_30 (by decide) ?_
      refine z_callV (m2 := mX1_emitIf) (st := []) [.int l4, .int 10] okX1_emitIf (Or.inl lkX1_90) shC_105 rfl rfl rfl (Nat.le_of_ble_eq_true rfl) dX1_parseCondition_32 (zgo_v h fun  M2 h => ?_)
      refine z_aload_n dX1_parseCondition_35 1 rfl ?_
      refine z_ldcS (i := 18) (tx := "and") dX1_parseCondition_36 (by decide +kernel) ?_
      refine z_callV (m2 := mX5_isWord) (st := []) [.ref (4096 + 18)] okX5_isWord (Or.inl lkX1_61) shC_98 rfl rfl rfl (Nat.le_of_ble_eq_true rfl) dX1_parseCondition_38 (zgo_z h fun b2 M3 h => ?_)
      refine z_istore [(4, .int (zbI b2)), (0, .ref 105), (1, .ref 98), (2, .int l2), (3, .int l3), (5, .int l5)] dX1_parseCondition_41 (by decide) rfl ?_
      refine z_iload dX1_parseCondition_43 0 rfl ?_
      refine z_ifb_ne 62 dX1_parseCondition_45 (by decide) (fun c3 => ?_) (fun c3 => ?_)
      · have h := h.1 c3
        exact zW.sub [1, 2, 3, 4, 0, 5] rfl h
      · have h := h.2 c3
        refine z_aload_n dX1_parseCondition_48 1 rfl ?_
        refine z_iload_n dX1_parseCondition_49 4 rfl ?_
        refine z_bipush (v := 11) dX1_parseCondition_50 (by decide) ?_
        refine z_callV (m2 := mX1_emitIf) (st := []) [.int l3, .int 11] okX1_emitIf (Or.inl lkX1_90) shC_105 rfl rfl rfl (Nat.le_of_ble_eq_true rfl) dX1_parseCondition_52 (zgo_v h fun  M4 h => ?_)
        refine z_aload_n dX1_parseCondition_55 2 rfl ?_
        refine z_ldcS (i := 19) (tx := "or") dX1_parseCondition_56 (by decide +kernel) ?_
        refine z_callV (m2 := mX5_isWord) (st := []) [.ref (4096 + 19)] okX5_isWord (Or.inl lkX1_61) shC_98 rfl rfl rfl (Nat.le_of_ble_eq_true rfl) dX1_parseCondition_58 (zgo_z h fun b3 M5 h => ?_)
        refine z_istore_n [(3, .int (zbI b3)), (4, .int (zbI b2)), (0, .ref 105), (1, .ref 98), (2, .int l2), (5, .int l5)] dX1_parseCondition_61 (by decide) rfl ?_
        exact zW.sub [2, 3, 4, 0, 1, 5] rfl h
    · have h := h.2 c2
      refine z_iconst (v := 0) dX1_parseCondition_25 (by decide) ?_
      exact z_zret (b := false) rfl rfl dX1_parseCondition_26 h
set_option maxRecDepth 20000 in
theorem vX1_parseCondition_62 {g : zG} {d : Nat} {Q : Bool → zM → Prop} {M : zM} {l2 : Int32} {l3 : Int32} {l4 : Bool} {l5 : Int32} (h : (l4 = true → zCv shC g d mX5_next [.ref 98] M (fun  M1 => zW shC g (d + 1) mX1_parseCondition (zz Q) 8 [(0, .ref 105), (1, .ref 98), (2, .int l2), (3, .int l3), (4, .int (zbI l4)), (5, .int (l5 + 1))] [] M1)) ∧ (l4 = false → (¬ l3 = 0 → zCv shC g d mX5_next [.ref 98] M (fun  M1 => zW shC g (d + 1) mX1_parseCondition (zz Q) 8 [(0, .ref 105), (1, .ref 98), (2, .int l2), (3, .int l3), (4, .int (zbI l4)), (5, .int (l5 + 1))] [] M1)) ∧ (l3 = 0 → Q true M))) : zW shC g (d + 1) mX1_parseCondition (zz Q) 62 [(0, .ref 105), (1, .ref 98), (2, .int l2), (3, .int l3), (4, .int (zbI l4)), (5, .int l5)] [] M := by
  refine z_iload dX1_parseCondition_62 4 rfl ?_
  refine z_ifb_ne 73 dX1_parseCondition_64 (by decide) (fun c1 => ?_) (fun c1 => ?_)
  · have h := h.1 c1
    refine z_aload_n dX1_parseCondition_73 1 rfl ?_
    refine z_callV (m2 := mX5_next) (st := []) [] okX5_next (Or.inl lkX1_71) shC_98 rfl rfl rfl (Nat.le_of_ble_eq_true rfl) dX1_parseCondition_74 (zgo_v h fun  M1 h => ?_)
    refine z_iinc (x := l5) (v := (l5 + 1)) [(5, .int (l5 + 1)), (0, .ref 105), (1, .ref 98), (2, .int l2), (3, .int l3), (4, .int (zbI l4))] dX1_parseCondition_77 5 rfl rfl (by decide) rfl ?_
    refine z_goto 8 dX1_parseCondition_80 (by decide) ?_
    exact zW.sub [1, 2, 3, 4, 5, 0] rfl h
  · have h := h.2 c1
    refine z_iload_n dX1_parseCondition_67 3 rfl ?_
    refine z_if_ne 73 dX1_parseCondition_68 (by decide) (fun c2 => ?_) (fun c2 => ?_)
    · have h := h.1 c2
      refine z_aload_n dX1_parseCondition_73 1 rfl ?_
      refine z_callV (m2 := mX5_next) (st := []) [] okX5_next (Or.inl lkX1_71) shC_98 rfl rfl rfl (Nat.le_of_ble_eq_true rfl) dX1_parseCondition_74 (zgo_v h fun  M1 h => ?_)
      refine z_iinc (x := l5) (v := (l5 + 1)) [(5, .int (l5 + 1)), (0, .ref 105), (1, .ref 98), (2, .int l2), (3, .int l3), (4, .int (zbI l4))] dX1_parseCondition_77 5 rfl rfl (by decide) rfl ?_
      refine z_goto 8 dX1_parseCondition_80 (by decide) ?_
      exact zW.sub [1, 2, 3, 4, 5, 0] rfl h
    · have h := h.2 c2
      refine z_iconst (v := 1) dX1_parseCondition_71 (by decide) ?_
      exact z_zret (b := true) rfl rfl dX1_parseCondition_72 h
theorem dX1_parseClause_0 : decode cX1_parseClause 0 = .ok (.aload_n 1, 1) := by decide +kernel
theorem dX1_parseClause_1 : decode cX1_parseClause 1 = .ok (.ldc 98, 2) := by decide +kernel
theorem dX1_parseClause_3 : decode cX1_parseClause 3 = .ok (.invokevirtual 61, 3) := by decide +kernel
theorem dX1_parseClause_6 : decode cX1_parseClause 6 = .ok (.istore_n 3, 1) := by decide +kernel
theorem dX1_parseClause_7 : decode cX1_parseClause 7 = .ok (.aload_n 1, 1) := by decide +kernel
theorem dX1_parseClause_8 : decode cX1_parseClause 8 = .ok (.bipush 40, 2) := by decide +kernel
theorem dX1_parseClause_10 : decode cX1_parseClause 10 = .ok (.invokevirtual 83, 3) := by decide +kernel
theorem dX1_parseClause_13 : decode cX1_parseClause 13 = .ok (.istore 4, 2) := by decide +kernel
theorem dX1_parseClause_15 : decode cX1_parseClause 15 = .ok (.iload_n 3, 1) := by decide +kernel
theorem dX1_parseClause_16 : decode cX1_parseClause 16 = .ok (.ifCond .ne 8, 3) := by decide +kernel
theorem dX1_parseClause_19 : decode cX1_parseClause 19 = .ok (.iload 4, 2) := by decide +kernel
theorem dX1_parseClause_21 : decode cX1_parseClause 21 = .ok (.ifCond .eq 15, 3) := by decide +kernel
theorem dX1_parseClause_24 : decode cX1_parseClause 24 = .ok (.iload_n 2, 1) := by decide +kernel
theorem dX1_parseClause_25 : decode cX1_parseClause 25 = .ok (.bipush 8, 2) := by decide +kernel
theorem dX1_parseClause_27 : decode cX1_parseClause 27 = .ok (.if_icmp .lt 9, 3) := by decide +kernel
theorem dX1_parseClause_30 : decode cX1_parseClause 30 = .ok (.aload_n 1, 1) := by decide +kernel
theorem dX1_parseClause_31 : decode cX1_parseClause 31 = .ok (.iconst 3, 1) := by decide +kernel
theorem dX1_parseClause_32 : decode cX1_parseClause 32 = .ok (.invokevirtual 67, 3) := by decide +kernel
theorem dX1_parseClause_35 : decode cX1_parseClause 35 = .ok (.ireturn, 1) := by decide +kernel
theorem dX1_parseClause_36 : decode cX1_parseClause 36 = .ok (.iload_n 3, 1) := by decide +kernel
theorem dX1_parseClause_37 : decode cX1_parseClause 37 = .ok (.ifCond .eq 27, 3) := by decide +kernel
theorem dX1_parseClause_40 : decode cX1_parseClause 40 = .ok (.aload_n 1, 1) := by decide +kernel
theorem dX1_parseClause_41 : decode cX1_parseClause 41 = .ok (.invokevirtual 71, 3) := by decide +kernel
theorem dX1_parseClause_44 : decode cX1_parseClause 44 = .ok (.aload_n 0, 1) := by decide +kernel
theorem dX1_parseClause_45 : decode cX1_parseClause 45 = .ok (.aload_n 1, 1) := by decide +kernel
theorem dX1_parseClause_46 : decode cX1_parseClause 46 = .ok (.iload_n 2, 1) := by decide +kernel
theorem dX1_parseClause_47 : decode cX1_parseClause 47 = .ok (.iconst 1, 1) := by decide +kernel
theorem dX1_parseClause_48 : decode cX1_parseClause 48 = .ok (.iadd, 1) := by decide +kernel
theorem dX1_parseClause_49 : decode cX1_parseClause 49 = .ok (.invokevirtual 87, 3) := by decide +kernel
theorem dX1_parseClause_52 : decode cX1_parseClause 52 = .ok (.istore 5, 2) := by decide +kernel
theorem dX1_parseClause_54 : decode cX1_parseClause 54 = .ok (.aload_n 0, 1) := by decide +kernel
theorem dX1_parseClause_55 : decode cX1_parseClause 55 = .ok (.iload 5, 2) := by decide +kernel
theorem dX1_parseClause_57 : decode cX1_parseClause 57 = .ok (.iconst 2, 1) := by decide +kernel
theorem dX1_parseClause_58 : decode cX1_parseClause 58 = .ok (.invokevirtual 90, 3) := by decide +kernel
theorem dX1_parseClause_61 : decode cX1_parseClause 61 = .ok (.iload 5, 2) := by decide +kernel
theorem dX1_parseClause_63 : decode cX1_parseClause 63 = .ok (.ireturn, 1) := by decide +kernel
theorem dX1_parseClause_64 : decode cX1_parseClause 64 = .ok (.iload 4, 2) := by decide +kernel
theorem dX1_parseClause_66 : decode cX1_parseClause 66 = .ok (.ifCond .eq 41, 3) := by decide +kernel
theorem dX1_parseClause_69 : decode cX1_parseClause 69 = .ok (.aload_n 1, 1) := by decide +kernel
theorem dX1_parseClause_70 : decode cX1_parseClause 70 = .ok (.invokevirtual 71, 3) := by decide +kernel
theorem dX1_parseClause_73 : decode cX1_parseClause 73 = .ok (.aload_n 0, 1) := by decide +kernel
theorem dX1_parseClause_74 : decode cX1_parseClause 74 = .ok (.aload_n 1, 1) := by decide +kernel
theorem dX1_parseClause_75 : decode cX1_parseClause 75 = .ok (.iload_n 2, 1) := by decide +kernel
theorem dX1_parseClause_76 : decode cX1_parseClause 76 = .ok (.iconst 1, 1) := by decide +kernel
theorem dX1_parseClause_77 : decode cX1_parseClause 77 = .ok (.iadd, 1) := by decide +kernel
theorem dX1_parseClause_78 : decode cX1_parseClause 78 = .ok (.invokevirtual 79, 3) := by decide +kernel
theorem dX1_parseClause_81 : decode cX1_parseClause 81 = .ok (.ifCond .ne 5, 3) := by decide +kernel
theorem dX1_parseClause_84 : decode cX1_parseClause 84 = .ok (.iconst 0, 1) := by decide +kernel
theorem dX1_parseClause_85 : decode cX1_parseClause 85 = .ok (.ireturn, 1) := by decide +kernel
theorem dX1_parseClause_86 : decode cX1_parseClause 86 = .ok (.aload_n 1, 1) := by decide +kernel
theorem dX1_parseClause_87 : decode cX1_parseClause 87 = .ok (.bipush 41, 2) := by decide +kernel
theorem dX1_parseClause_89 : decode cX1_parseClause 89 = .ok (.invokevirtual 83, 3) := by decide +kernel
theorem dX1_parseClause_92 : decode cX1_parseClause 92 = .ok (.ifCond .ne 9, 3) := by decide +kernel
theorem dX1_parseClause_95 : decode cX1_parseClause 95 = .ok (.aload_n 1, 1) := by decide +kernel
theorem dX1_parseClause_96 : decode cX1_parseClause 96 = .ok (.iconst 1, 1) := by decide +kernel
theorem dX1_parseClause_97 : decode cX1_parseClause 97 = .ok (.invokevirtual 67, 3) := by decide +kernel
theorem dX1_parseClause_100 : decode cX1_parseClause 100 = .ok (.ireturn, 1) := by decide +kernel
theorem dX1_parseClause_101 : decode cX1_parseClause 101 = .ok (.aload_n 1, 1) := by decide +kernel
theorem dX1_parseClause_102 : decode cX1_parseClause 102 = .ok (.invokevirtual 71, 3) := by decide +kernel
theorem dX1_parseClause_105 : decode cX1_parseClause 105 = .ok (.iconst 1, 1) := by decide +kernel
theorem dX1_parseClause_106 : decode cX1_parseClause 106 = .ok (.ireturn, 1) := by decide +kernel
theorem dX1_parseClause_107 : decode cX1_parseClause 107 = .ok (.aload_n 0, 1) := by decide +kernel
theorem dX1_parseClause_108 : decode cX1_parseClause 108 = .ok (.aload_n 1, 1) := by decide +kernel
theorem dX1_parseClause_109 : decode cX1_parseClause 109 = .ok (.invokevirtual 74, 3) := by decide +kernel
theorem dX1_parseClause_112 : decode cX1_parseClause 112 = .ok (.ifCond .ne 5, 3) := by decide +kernel
theorem dX1_parseClause_115 : decode cX1_parseClause 115 = .ok (.iconst 0, 1) := by decide +kernel
theorem dX1_parseClause_116 : decode cX1_parseClause 116 = .ok (.ireturn, 1) := by decide +kernel
theorem dX1_parseClause_117 : decode cX1_parseClause 117 = .ok (.aload_n 1, 1) := by decide +kernel
theorem dX1_parseClause_118 : decode cX1_parseClause 118 = .ok (.invokestatic 100, 3) := by decide +kernel
theorem dX1_parseClause_121 : decode cX1_parseClause 121 = .ok (.istore 5, 2) := by decide +kernel
theorem dX1_parseClause_123 : decode cX1_parseClause 123 = .ok (.iload 5, 2) := by decide +kernel
theorem dX1_parseClause_125 : decode cX1_parseClause 125 = .ok (.iconst (-1), 1) := by decide +kernel
theorem dX1_parseClause_126 : decode cX1_parseClause 126 = .ok (.if_icmp .ne 9, 3) := by decide +kernel
theorem dX1_parseClause_129 : decode cX1_parseClause 129 = .ok (.aload_n 1, 1) := by decide +kernel
theorem dX1_parseClause_130 : decode cX1_parseClause 130 = .ok (.iconst 1, 1) := by decide +kernel
theorem dX1_parseClause_131 : decode cX1_parseClause 131 = .ok (.invokevirtual 67, 3) := by decide +kernel
theorem dX1_parseClause_134 : decode cX1_parseClause 134 = .ok (.ireturn, 1) := by decide +kernel
theorem dX1_parseClause_135 : decode cX1_parseClause 135 = .ok (.aload_n 1, 1) := by decide +kernel
theorem dX1_parseClause_136 : decode cX1_parseClause 136 = .ok (.invokevirtual 71, 3) := by decide +kernel
theorem dX1_parseClause_139 : decode cX1_parseClause 139 = .ok (.aload_n 0, 1) := by decide +kernel
theorem dX1_parseClause_140 : decode cX1_parseClause 140 = .ok (.aload_n 1, 1) := by decide +kernel
theorem dX1_parseClause_141 : decode cX1_parseClause 141 = .ok (.invokevirtual 74, 3) := by decide +kernel
theorem dX1_parseClause_144 : decode cX1_parseClause 144 = .ok (.istore 6, 2) := by decide +kernel
theorem dX1_parseClause_146 : decode cX1_parseClause 146 = .ok (.aload_n 0, 1) := by decide +kernel
theorem dX1_parseClause_147 : decode cX1_parseClause 147 = .ok (.iload 6, 2) := by decide +kernel
theorem dX1_parseClause_149 : decode cX1_parseClause 149 = .ok (.iload 5, 2) := by decide +kernel
theorem dX1_parseClause_151 : decode cX1_parseClause 151 = .ok (.invokevirtual 90, 3) := by decide +kernel
theorem dX1_parseClause_154 : decode cX1_parseClause 154 = .ok (.iload 6, 2) := by decide +kernel
theorem dX1_parseClause_156 : decode cX1_parseClause 156 = .ok (.ireturn, 1) := by decide +kernel
set_option maxRecDepth 20000 in
theorem vX1_parseClause {g : zG} {d : Nat} {Q : Bool → zM → Prop} {M : zM} {l2 : Int32} (h : zCz shC g d mX5_isWord [.ref 98, .ref (4096 + 17)] M (fun b1 M1 => zCz shC g d mX5_isSign [.ref 98, .int 40] M1 (fun b2 M2 => (b1 = true → zW shC g (d + 1) mX1_parseClause (zz Q) 24 [(0, .ref 105), (1, .ref 98), (2, .int l2), (3, .int (zbI b1)), (4, .int (zbI b2))] [] M2) ∧ (b1 = false → (b2 = false → zW shC g (d + 1) mX1_parseClause (zz Q) 36 [(0, .ref 105), (1, .ref 98), (2, .int l2), (3, .int (zbI b1)), (4, .int (zbI b2))] [] M2) ∧ (b2 = true → zW shC g (d + 1) mX1_parseClause (zz Q) 24 [(0, .ref 105), (1, .ref 98), (2, .int l2), (3, .int (zbI b1)), (4, .int (zbI b2))] [] M2))))) : zCz shC g (d + 1) mX1_parseClause [.ref 105, .ref 98, .int l2] M Q := by
  refine zW.enter (by decide +kernel) (Nat.le_of_ble_eq_true rfl) ?_
  change zW shC g (d + 1) mX1_parseClause (zz Q) 0 [(0, .ref 105), (1, .ref 98), (2, .int l2)] [] M
  refine z_aload_n dX1_parseClause_0 1 rfl ?_
  refine z_ldcS (i := 17) (tx := "not") dX1_parseClause_1 (by decide +kernel) ?_
  refine z_callV (m2 := mX5_isWord) (st := []) [.ref (4096 + 17)] okX5_isWord (Or.inl lkX1_61) shC_98 rfl rfl rfl (Nat.le_of_ble_eq_true rfl) dX1_parseClause_3 (zgo_z h fun b1 M1 h => ?_)
  refine z_istore_n [(3, .int (zbI b1)), (0, .ref 105), (1, .ref 98), (2, .int l2)] dX1_parseClause_6 (by decide) rfl ?_
  refine z_aload_n dX1_parseClause_7 2 rfl ?_
  refine z_bipush (v := 40) dX1_parseClause_8 (by decide) ?_
  refine z_callV (m2 := mX5_isSign) (st := []) [.int 40] okX5_isSign (Or.inl lkX1_83) shC_98 rfl rfl rfl (Nat.le_of_ble_eq_true rfl) dX1_parseClause_10 (zgo_z h fun b2 M2 h => ?_)
  refine z_istore [(4, .int (zbI b2)), (3, .int (zbI b1)), (0, .ref 105), (1, .ref 98), (2, .int l2)] dX1_parseClause_13 (by decide) rfl ?_
  refine z_iload_n dX1_parseClause_15 1 rfl ?_
  refine z_ifb_ne 24 dX1_parseClause_16 (by decide) (fun c1 => ?_) (fun c1 => ?_)
  · have h := h.1 c1
    exact zW.sub [2, 3, 4, 1, 0] rfl h
  · have h := h.2 c1
    refine z_iload dX1_parseClause_19 0 rfl ?_
    refine z_ifb_eq 36 dX1_parseClause_21 (by decide) (fun c2 => ?_) (fun c2 => ?_)
    · have h := h.1 c2
      exact zW.sub [2, 3, 4, 1, 0] rfl h
    · have h := h.2 c2
      exact zW.sub [2, 3, 4, 1, 0] rfl h
set_option maxRecDepth 20000 in
theorem vX1_parseClause_24 {g : zG} {d : Nat} {Q : Bool → zM → Prop} {M : zM} {l2 : Int32} {l3 : Bool} {l4 : Bool} (h : (l2 < 8 → zW shC g (d + 1) mX1_parseClause (zz Q) 36 [(0, .ref 105), (1, .ref 98), (2, .int l2), (3, .int (zbI l3)), (4, .int (zbI l4))] [] M) ∧ (¬ l2 < 8 → zCz shC g d mX5_fail [.ref 98, .int 3] M (fun b1 M1 => Q b1 M1))) : zW shC g (d + 1) mX1_parseClause (zz Q) 24 [(0, .ref 105), (1, .ref 98), (2, .int l2), (3, .int (zbI l3)), (4, .int (zbI l4))] [] M := by
  refine z_iload_n dX1_parseClause_24 2 rfl ?_
  refine z_bipush (v := 8) dX1_parseClause_25 (by decide) ?_
  refine z_icmp_lt 36 dX1_parseClause_27 (by decide) (fun c1 => ?_) (fun c1 => ?_)
  · have h := h.1 c1
    exact h
  · have h := h.2 c1
    refine z_aload_n dX1_parseClause_30 1 rfl ?_
    refine z_iconst (v := 3) dX1_parseClause_31 (by decide) ?_
    refine z_callV (m2 := mX5_fail) (st := []) [.int 3] okX5_fail (Or.inl lkX1_67) shC_98 rfl rfl rfl (Nat.le_of_ble_eq_true rfl) dX1_parseClause_32 (zgo_z h fun b1 M1 h => ?_)
    exact z_zret rfl rfl dX1_parseClause_35 h
set_option maxRecDepth 20000 in
theorem vX1_parseClause_36 {g : zG} {d : Nat} {Q : Bool → zM → Prop} {M : zM} {l2 : Int32} {l3 : Bool} {l4 : Bool} (h : (l3 = false → (l4 = false → zCz shC g d mX1_parseSum [.ref 105, .ref 98] M (fun b1 M1 => (b1 = true → zCi shC g d mX1_comparisonTold [.ref 98] M1 (fun x1 M2 => (¬ x1 = (-1) → zCv shC g d mX5_next [.ref 98] M2 (fun  M3 => zCz shC g d mX1_parseSum [.ref 105, .ref 98] M3 (fun b2 M4 => zCv shC g d mX1_emitIf [.ref 105, .int (zbI b2), .int x1] M4 (fun  M5 => Q b2 M5)))) ∧ (x1 = (-1) → zCz shC g d mX5_fail [.ref 98, .int 1] M2 (fun b2 M3 => Q b2 M3)))) ∧ (b1 = false → Q false M1))) ∧ (l4 = true → zCv shC g d mX5_next [.ref 98] M (fun  M1 => zCz shC g d mX1_parseCondition [.ref 105, .ref 98, .int (l2 + 1)] M1 (fun b1 M2 => (b1 = true → zCz shC g d mX5_isSign [.ref 98, .int 41] M2 (fun b2 M3 => (b2 = true → zCv shC g d mX5_next [.ref 98] M3 (fun  M4 => Q true M4)) ∧ (b2 = false → zCz shC g d mX5_fail [.ref 98, .int 1] M3 (fun b3 M4 => Q b3 M4)))) ∧ (b1 = false → Q false M2))))) ∧ (l3 = true → zCv shC g d mX5_next [.ref 98] M (fun  M1 => zCz shC g d mX1_parseClause [.ref 105, .ref 98, .int (l2 + 1)] M1 (fun b1 M2 => zCv shC g d mX1_emitIf [.ref 105, .int (zbI b1), .int 2] M2 (fun  M3 => Q b1 M3))))) : zW shC g (d + 1) mX1_parseClause (zz Q) 36 [(0, .ref 105), (1, .ref 98), (2, .int l2), (3, .int (zbI l3)), (4, .int (zbI l4))] [] M := by
  refine z_iload_n dX1_parseClause_36 3 rfl ?_
  refine z_ifb_eq 64 dX1_parseClause_37 (by decide) (fun c1 => ?_) (fun c1 => ?_)
  · have h := h.1 c1
    refine z_iload dX1_parseClause_64 4 rfl ?_
    refine z_ifb_eq 107 dX1_parseClause_66 (by decide) (fun c2 => ?_) (fun c2 => ?_)
    · have h := h.1 c2
      refine z_aload_n dX1_parseClause_107 0 rfl ?_
      refine z_aload_n dX1_parseClause_108 1 rfl ?_
      refine z_callV (m2 := mX1_parseSum) (st := []) [.ref 98] okX1_parseSum (Or.inl lkX1_74) shC_105 rfl rfl rfl (Nat.le_of_ble_eq_true rfl) dX1_parseClause_109 (zgo_z h fun b1 M1 h => ?_)
      refine z_ifb_ne 117 dX1_parseClause_112 (by decide) (fun c3 => ?_) (fun c3 => ?_)
      · have h := h.1 c3
        refine z_aload_n dX1_parseClause_117 1 rfl ?_
        refine z_callS (m2 := mX1_comparisonTold) (st := []) [.ref 98] okX1_comparisonTold (Or.inl lkX1_100) rfl rfl (Nat.le_of_ble_eq_true rfl) dX1_parseClause_118 (zgo_i h fun x1 M2 h => ?_)
        refine z_istore [(5, .int x1), (0, .ref 105), (1, .ref 98), (2, .int l2), (3, .int (zbI l3)), (4, .int (zbI l4))] dX1_parseClause_121 (by decide) rfl ?_
        refine z_iload dX1_parseClause_123 0 rfl ?_
        refine z_iconst (v := (-1)) dX1_parseClause_125 (by decide) ?_
        refine z_icmp_ne 135 dX1_parseClause_126 (by decide) (fun c4 => ?_) (fun c4 => ?_)
        · have h := h.1 c4
          refine z_aload_n dX1_parseClause_135 2 rfl ?_
          refine z_callV (m2 := mX5_next) (st := []) [] okX5_next (Or.inl lkX1_71) shC_98 rfl rfl rfl (Nat.le_of_ble_eq_true rfl) dX1_parseClause_136 (zgo_v h fun  M3 h => ?_)
          refine z_aload_n dX1_parseClause_139 1 rfl ?_
          refine z_aload_n dX1_parseClause_140 2 rfl ?_
          refine z_callV (m2 := mX1_parseSum) (st := []) [.ref 98] okX1_parseSum (Or.inl lkX1_74) shC_105 rfl rfl rfl (Nat.le_of_ble_eq_true rfl) dX1_parseClause_141 (zgo_z h fun b2 M4 h => ?_)
          refine z_istore [(6, .int (zbI b2)), (5, .int x1), (0, .ref 105), (1, .ref 98), (2, .int l2), (3, .int (zbI l3)), (4, .int (zbI l4))] dX1_parseClause_144 (by decide) rfl ?_
          refine z_aload_n dX1_parseClause_146 2 rfl ?_
          refine z_iload dX1_parseClause_147 0 rfl ?_
          refine z_iload dX1_parseClause_149 1 rfl ?_
          refine z_callV (m2 := mX1_emitIf) (st := []) [.int (zbI b2), .int x1] okX1_emitIf (Or.inl lkX1_90) shC_105 rfl rfl rfl (Nat.le_of_ble_eq_true rfl) dX1_parseClause_151 (zgo_v h fun  M5 h => ?_)
          refine z_iload dX1_parseClause_154 0 rfl ?_
          exact z_zret rfl rfl dX1_parseClause_156 h
        · have h := h.2 c4
          refine z_aload_n dX1_parseClause_129 2 rfl ?_
          refine z_iconst (v := 1) dX1_parseClause_130 (by decide) ?_
          refine z_callV (m2 := mX5_fail) (st := []) [.int 1] okX5_fail (Or.inl lkX1_67) shC_98 rfl rfl rfl (Nat.le_of_ble_eq_true rfl) dX1_parseClause_131 (zgo_z h fun b2 M3 h => ?_)
          exact z_zret rfl rfl dX1_parseClause_134 h
      · have h := h.2 c3
        refine z_iconst (v := 0) dX1_parseClause_115 (by decide) ?_
        exact z_zret (b := false) rfl rfl dX1_parseClause_116 h
    · have h := h.2 c2
      refine z_aload_n dX1_parseClause_69 1 rfl ?_
      refine z_callV (m2 := mX5_next) (st := []) [] okX5_next (Or.inl lkX1_71) shC_98 rfl rfl rfl (Nat.le_of_ble_eq_true rfl) dX1_parseClause_70 (zgo_v h fun  M1 h => ?_)
      refine z_aload_n dX1_parseClause_73 0 rfl ?_
      refine z_aload_n dX1_parseClause_74 1 rfl ?_
      refine z_iload_n dX1_parseClause_75 2 rfl ?_
      refine z_iconst (v := 1) dX1_parseClause_76 (by decide) ?_
      refine z_iadd dX1_parseClause_77 ?_
      refine z_callV (m2 := mX1_parseCondition) (st := []) [.ref 98, .int (l2 + 1)] okX1_parseCondition (Or.inl lkX1_79) shC_105 rfl rfl rfl (Nat.le_of_ble_eq_true rfl) dX1_parseClause_78 (zgo_z h fun b1 M2 h => ?_)
      refine z_ifb_ne 86 dX1_parseClause_81 (by decide) (fun c3 => ?_) (fun c3 => ?_)
      · have h := h.1 c3
        refine z_aload_n dX1_parseClause_86 1 rfl ?_
        refine z_bipush (v := 41) dX1_parseClause_87 (by decide) ?_
        refine z_callV (m2 := mX5_isSign) (st := []) [.int 41] okX5_isSign (Or.inl lkX1_83) shC_98 rfl rfl rfl (Nat.le_of_ble_eq_true rfl) dX1_parseClause_89 (zgo_z h fun b2 M3 h => ?_)
        refine z_ifb_ne 101 dX1_parseClause_92 (by decide) (fun c4 => ?_) (fun c4 => ?_)
        · have h := h.1 c4
          refine z_aload_n dX1_parseClause_101 1 rfl ?_
          refine z_callV (m2 := mX5_next) (st := []) [] okX5_next (Or.inl lkX1_71) shC_98 rfl rfl rfl (Nat.le_of_ble_eq_true rfl) dX1_parseClause_102 (zgo_v h fun  M4 h => ?_)
          refine z_iconst (v := 1) dX1_parseClause_105 (by decide) ?_
          exact z_zret (b := true) rfl rfl dX1_parseClause_106 h
        · have h := h.2 c4
          refine z_aload_n dX1_parseClause_95 1 rfl ?_
          refine z_iconst (v := 1) dX1_parseClause_96 (by decide) ?_
          refine z_callV (m2 := mX5_fail) (st := []) [.int 1] okX5_fail (Or.inl lkX1_67) shC_98 rfl rfl rfl (Nat.le_of_ble_eq_true rfl) dX1_parseClause_97 (zgo_z h fun b3 M4 h => ?_)
          exact z_zret rfl rfl dX1_parseClause_100 h
      · have h := h.2 c3
        refine z_iconst (v := 0) dX1_parseClause_84 (by decide) ?_
        exact z_zret (b := false) rfl rfl dX1_parseClause_85 h
  · have h := h.2 c1
    refine z_aload_n dX1_parseClause_40 1 rfl ?_
    refine z_callV (m2 := mX5_next) (st := []) [] okX5_next (Or.inl lkX1_71) shC_98 rfl rfl rfl (Nat.le_of_ble_eq_true rfl) dX1_parseClause_41 (zgo_v h fun  M1 h => ?_)
    refine z_aload_n dX1_parseClause_44 0 rfl ?_
    refine z_aload_n dX1_parseClause_45 1 rfl ?_
    refine z_iload_n dX1_parseClause_46 2 rfl ?_
    refine z_iconst (v := 1) dX1_parseClause_47 (by decide) ?_
    refine z_iadd dX1_parseClause_48 ?_
    refine z_callV (m2 := mX1_parseClause) (st := []) [.ref 98, .int (l2 + 1)] okX1_parseClause (Or.inl lkX1_87) shC_105 rfl rfl rfl (Nat.le_of_ble_eq_true rfl) dX1_parseClause_49 (zgo_z h fun b1 M2 h => ?_)
    refine z_istore [(5, .int (zbI b1)), (0, .ref 105), (1, .ref 98), (2, .int l2), (3, .int (zbI l3)), (4, .int (zbI l4))] dX1_parseClause_52 (by decide) rfl ?_
    refine z_aload_n dX1_parseClause_54 1 rfl ?_
    refine z_iload dX1_parseClause_55 0 rfl ?_
    refine z_iconst (v := 2) dX1_parseClause_57 (by decide) ?_
    refine z_callV (m2 := mX1_emitIf) (st := []) [.int (zbI b1), .int 2] okX1_emitIf (Or.inl lkX1_90) shC_105 rfl rfl rfl (Nat.le_of_ble_eq_true rfl) dX1_parseClause_58 (zgo_v h fun  M3 h => ?_)
    refine z_iload dX1_parseClause_61 0 rfl ?_
    exact z_zret rfl rfl dX1_parseClause_63 h
theorem dX1_comparisonTold_0 : decode cX1_comparisonTold 0 = .ok (.aload_n 0, 1) := by decide +kernel
theorem dX1_comparisonTold_1 : decode cX1_comparisonTold 1 = .ok (.bipush 60, 2) := by decide +kernel
theorem dX1_comparisonTold_3 : decode cX1_comparisonTold 3 = .ok (.invokevirtual 83, 3) := by decide +kernel
theorem dX1_comparisonTold_6 : decode cX1_comparisonTold 6 = .ok (.ifCond .eq 6, 3) := by decide +kernel
theorem dX1_comparisonTold_9 : decode cX1_comparisonTold 9 = .ok (.bipush 7, 2) := by decide +kernel
theorem dX1_comparisonTold_11 : decode cX1_comparisonTold 11 = .ok (.ireturn, 1) := by decide +kernel
theorem dX1_comparisonTold_12 : decode cX1_comparisonTold 12 = .ok (.aload_n 0, 1) := by decide +kernel
theorem dX1_comparisonTold_13 : decode cX1_comparisonTold 13 = .ok (.bipush 61, 2) := by decide +kernel
theorem dX1_comparisonTold_15 : decode cX1_comparisonTold 15 = .ok (.invokevirtual 83, 3) := by decide +kernel
theorem dX1_comparisonTold_18 : decode cX1_comparisonTold 18 = .ok (.ifCond .eq 6, 3) := by decide +kernel
theorem dX1_comparisonTold_21 : decode cX1_comparisonTold 21 = .ok (.bipush 8, 2) := by decide +kernel
theorem dX1_comparisonTold_23 : decode cX1_comparisonTold 23 = .ok (.ireturn, 1) := by decide +kernel
theorem dX1_comparisonTold_24 : decode cX1_comparisonTold 24 = .ok (.aload_n 0, 1) := by decide +kernel
theorem dX1_comparisonTold_25 : decode cX1_comparisonTold 25 = .ok (.bipush 62, 2) := by decide +kernel
theorem dX1_comparisonTold_27 : decode cX1_comparisonTold 27 = .ok (.invokevirtual 83, 3) := by decide +kernel
theorem dX1_comparisonTold_30 : decode cX1_comparisonTold 30 = .ok (.ifCond .eq 8, 3) := by decide +kernel
theorem dX1_comparisonTold_33 : decode cX1_comparisonTold 33 = .ok (.bipush 9, 2) := by decide +kernel
theorem dX1_comparisonTold_35 : decode cX1_comparisonTold 35 = .ok (.goto 4, 3) := by decide +kernel
theorem dX1_comparisonTold_38 : decode cX1_comparisonTold 38 = .ok (.iconst (-1), 1) := by decide +kernel
theorem dX1_comparisonTold_39 : decode cX1_comparisonTold 39 = .ok (.ireturn, 1) := by decide +kernel
set_option maxRecDepth 20000 in
theorem vX1_comparisonTold {g : zG} {d : Nat} {Q : Int32 → zM → Prop} {M : zM} (h : zCz shC g d mX5_isSign [.ref 98, .int 60] M (fun b1 M1 => (b1 = false → zCz shC g d mX5_isSign [.ref 98, .int 61] M1 (fun b2 M2 => (b2 = false → zCz shC g d mX5_isSign [.ref 98, .int 62] M2 (fun b3 M3 => (b3 = false → Q (-1) M3) ∧ (b3 = true → Q 9 M3))) ∧ (b2 = true → Q 8 M2))) ∧ (b1 = true → Q 7 M1))) : zCi shC g (d + 1) mX1_comparisonTold [.ref 98] M Q := by
  refine zW.enter (by decide +kernel) (Nat.le_of_ble_eq_true rfl) ?_
  change zW shC g (d + 1) mX1_comparisonTold (zi Q) 0 [(0, .ref 98)] [] M
  refine z_aload_n dX1_comparisonTold_0 0 rfl ?_
  refine z_bipush (v := 60) dX1_comparisonTold_1 (by decide) ?_
  refine z_callV (m2 := mX5_isSign) (st := []) [.int 60] okX5_isSign (Or.inl lkX1_83) shC_98 rfl rfl rfl (Nat.le_of_ble_eq_true rfl) dX1_comparisonTold_3 (zgo_z h fun b1 M1 h => ?_)
  refine z_ifb_eq 12 dX1_comparisonTold_6 (by decide) (fun c1 => ?_) (fun c1 => ?_)
  · have h := h.1 c1
    refine z_aload_n dX1_comparisonTold_12 0 rfl ?_
    refine z_bipush (v := 61) dX1_comparisonTold_13 (by decide) ?_
    refine z_callV (m2 := mX5_isSign) (st := []) [.int 61] okX5_isSign (Or.inl lkX1_83) shC_98 rfl rfl rfl (Nat.le_of_ble_eq_true rfl) dX1_comparisonTold_15 (zgo_z h fun b2 M2 h => ?_)
    refine z_ifb_eq 24 dX1_comparisonTold_18 (by decide) (fun c2 => ?_) (fun c2 => ?_)
    · have h := h.1 c2
      refine z_aload_n dX1_comparisonTold_24 0 rfl ?_
      refine z_bipush (v := 62) dX1_comparisonTold_25 (by decide) ?_
      refine z_callV (m2 := mX5_isSign) (st := []) [.int 62] okX5_isSign (Or.inl lkX1_83) shC_98 rfl rfl rfl (Nat.le_of_ble_eq_true rfl) dX1_comparisonTold_27 (zgo_z h fun b3 M3 h => ?_)
      refine z_ifb_eq 38 dX1_comparisonTold_30 (by decide) (fun c3 => ?_) (fun c3 => ?_)
      · have h := h.1 c3
        refine z_iconst (v := (-1)) dX1_comparisonTold_38 (by decide) ?_
        exact z_iret (st := []) rfl rfl dX1_comparisonTold_39 ⟨_, rfl, h⟩
      · have h := h.2 c3
        refine z_bipush (v := 9) dX1_comparisonTold_33 (by decide) ?_
        refine z_goto 39 dX1_comparisonTold_35 (by decide) ?_
        exact z_iret (st := []) rfl rfl dX1_comparisonTold_39 ⟨_, rfl, h⟩
    · have h := h.2 c2
      refine z_bipush (v := 8) dX1_comparisonTold_21 (by decide) ?_
      exact z_iret (st := []) rfl rfl dX1_comparisonTold_23 ⟨_, rfl, h⟩
  · have h := h.2 c1
    refine z_bipush (v := 7) dX1_comparisonTold_9 (by decide) ?_
    exact z_iret (st := []) rfl rfl dX1_comparisonTold_11 ⟨_, rfl, h⟩
theorem dX1_parseSum_0 : decode cX1_parseSum 0 = .ok (.iconst 0, 1) := by decide +kernel
theorem dX1_parseSum_1 : decode cX1_parseSum 1 = .ok (.istore_n 2, 1) := by decide +kernel
theorem dX1_parseSum_2 : decode cX1_parseSum 2 = .ok (.iconst 0, 1) := by decide +kernel
theorem dX1_parseSum_3 : decode cX1_parseSum 3 = .ok (.istore_n 3, 1) := by decide +kernel
theorem dX1_parseSum_4 : decode cX1_parseSum 4 = .ok (.iconst (-1), 1) := by decide +kernel
theorem dX1_parseSum_5 : decode cX1_parseSum 5 = .ok (.istore 4, 2) := by decide +kernel
theorem dX1_parseSum_7 : decode cX1_parseSum 7 = .ok (.iconst 0, 1) := by decide +kernel
theorem dX1_parseSum_8 : decode cX1_parseSum 8 = .ok (.istore 5, 2) := by decide +kernel
theorem dX1_parseSum_10 : decode cX1_parseSum 10 = .ok (.iload 5, 2) := by decide +kernel
theorem dX1_parseSum_12 : decode cX1_parseSum 12 = .ok (.sipush 400, 3) := by decide +kernel
theorem dX1_parseSum_15 : decode cX1_parseSum 15 = .ok (.if_icmp .ge 187, 3) := by decide +kernel
theorem dX1_parseSum_18 : decode cX1_parseSum 18 = .ok (.iload_n 3, 1) := by decide +kernel
theorem dX1_parseSum_19 : decode cX1_parseSum 19 = .ok (.ifCond .eq 31, 3) := by decide +kernel
theorem dX1_parseSum_22 : decode cX1_parseSum 22 = .ok (.aload_n 1, 1) := by decide +kernel
theorem dX1_parseSum_23 : decode cX1_parseSum 23 = .ok (.iconst 1, 1) := by decide +kernel
theorem dX1_parseSum_24 : decode cX1_parseSum 24 = .ok (.sipush 9999, 3) := by decide +kernel
theorem dX1_parseSum_27 : decode cX1_parseSum 27 = .ok (.invokevirtual 104, 3) := by decide +kernel
theorem dX1_parseSum_30 : decode cX1_parseSum 30 = .ok (.istore 6, 2) := by decide +kernel
theorem dX1_parseSum_32 : decode cX1_parseSum 32 = .ok (.iload 6, 2) := by decide +kernel
theorem dX1_parseSum_34 : decode cX1_parseSum 34 = .ok (.iconst (-1), 1) := by decide +kernel
theorem dX1_parseSum_35 : decode cX1_parseSum 35 = .ok (.if_icmp .ne 5, 3) := by decide +kernel
theorem dX1_parseSum_38 : decode cX1_parseSum 38 = .ok (.iconst 0, 1) := by decide +kernel
theorem dX1_parseSum_39 : decode cX1_parseSum 39 = .ok (.ireturn, 1) := by decide +kernel
theorem dX1_parseSum_40 : decode cX1_parseSum 40 = .ok (.aload_n 0, 1) := by decide +kernel
theorem dX1_parseSum_41 : decode cX1_parseSum 41 = .ok (.iconst 3, 1) := by decide +kernel
theorem dX1_parseSum_42 : decode cX1_parseSum 42 = .ok (.iload 6, 2) := by decide +kernel
theorem dX1_parseSum_44 : decode cX1_parseSum 44 = .ok (.invokevirtual 108, 3) := by decide +kernel
theorem dX1_parseSum_47 : decode cX1_parseSum 47 = .ok (.goto 64, 3) := by decide +kernel
theorem dX1_parseSum_50 : decode cX1_parseSum 50 = .ok (.aload_n 1, 1) := by decide +kernel
theorem dX1_parseSum_51 : decode cX1_parseSum 51 = .ok (.invokestatic 112, 3) := by decide +kernel
theorem dX1_parseSum_54 : decode cX1_parseSum 54 = .ok (.istore 6, 2) := by decide +kernel
theorem dX1_parseSum_56 : decode cX1_parseSum 56 = .ok (.iload 6, 2) := by decide +kernel
theorem dX1_parseSum_58 : decode cX1_parseSum 58 = .ok (.iconst (-1), 1) := by decide +kernel
theorem dX1_parseSum_59 : decode cX1_parseSum 59 = .ok (.if_icmp .ne 16, 3) := by decide +kernel
theorem dX1_parseSum_62 : decode cX1_parseSum 62 = .ok (.aload_n 1, 1) := by decide +kernel
theorem dX1_parseSum_63 : decode cX1_parseSum 63 = .ok (.invokevirtual 115, 3) := by decide +kernel
theorem dX1_parseSum_66 : decode cX1_parseSum 66 = .ok (.ifCond .ne 9, 3) := by decide +kernel
theorem dX1_parseSum_69 : decode cX1_parseSum 69 = .ok (.aload_n 1, 1) := by decide +kernel
theorem dX1_parseSum_70 : decode cX1_parseSum 70 = .ok (.iconst 1, 1) := by decide +kernel
theorem dX1_parseSum_71 : decode cX1_parseSum 71 = .ok (.invokevirtual 67, 3) := by decide +kernel
theorem dX1_parseSum_74 : decode cX1_parseSum 74 = .ok (.ireturn, 1) := by decide +kernel
theorem dX1_parseSum_75 : decode cX1_parseSum 75 = .ok (.aload_n 0, 1) := by decide +kernel
theorem dX1_parseSum_76 : decode cX1_parseSum 76 = .ok (.iload 6, 2) := by decide +kernel
theorem dX1_parseSum_78 : decode cX1_parseSum 78 = .ok (.iconst (-1), 1) := by decide +kernel
theorem dX1_parseSum_79 : decode cX1_parseSum 79 = .ok (.if_icmp .ne 7, 3) := by decide +kernel
theorem dX1_parseSum_82 : decode cX1_parseSum 82 = .ok (.iconst 0, 1) := by decide +kernel
theorem dX1_parseSum_83 : decode cX1_parseSum 83 = .ok (.goto 4, 3) := by decide +kernel
theorem dX1_parseSum_86 : decode cX1_parseSum 86 = .ok (.iconst 1, 1) := by decide +kernel
theorem dX1_parseSum_87 : decode cX1_parseSum 87 = .ok (.iload 6, 2) := by decide +kernel
theorem dX1_parseSum_89 : decode cX1_parseSum 89 = .ok (.iconst (-1), 1) := by decide +kernel
theorem dX1_parseSum_90 : decode cX1_parseSum 90 = .ok (.if_icmp .ne 10, 3) := by decide +kernel
theorem dX1_parseSum_93 : decode cX1_parseSum 93 = .ok (.aload_n 1, 1) := by decide +kernel
theorem dX1_parseSum_94 : decode cX1_parseSum 94 = .ok (.getfield 118, 3) := by decide +kernel
theorem dX1_parseSum_97 : decode cX1_parseSum 97 = .ok (.goto 5, 3) := by decide +kernel
theorem dX1_parseSum_100 : decode cX1_parseSum 100 = .ok (.iload 6, 2) := by decide +kernel
theorem dX1_parseSum_102 : decode cX1_parseSum 102 = .ok (.invokevirtual 108, 3) := by decide +kernel
theorem dX1_parseSum_105 : decode cX1_parseSum 105 = .ok (.aload_n 0, 1) := by decide +kernel
theorem dX1_parseSum_106 : decode cX1_parseSum 106 = .ok (.iload_n 2, 1) := by decide +kernel
theorem dX1_parseSum_107 : decode cX1_parseSum 107 = .ok (.iconst 4, 1) := by decide +kernel
theorem dX1_parseSum_108 : decode cX1_parseSum 108 = .ok (.invokevirtual 90, 3) := by decide +kernel
theorem dX1_parseSum_111 : decode cX1_parseSum 111 = .ok (.aload_n 1, 1) := by decide +kernel
theorem dX1_parseSum_112 : decode cX1_parseSum 112 = .ok (.invokevirtual 71, 3) := by decide +kernel
theorem dX1_parseSum_115 : decode cX1_parseSum 115 = .ok (.aload_n 1, 1) := by decide +kernel
theorem dX1_parseSum_116 : decode cX1_parseSum 116 = .ok (.bipush 42, 2) := by decide +kernel
theorem dX1_parseSum_118 : decode cX1_parseSum 118 = .ok (.invokevirtual 83, 3) := by decide +kernel
theorem dX1_parseSum_121 : decode cX1_parseSum 121 = .ok (.istore_n 2, 1) := by decide +kernel
theorem dX1_parseSum_122 : decode cX1_parseSum 122 = .ok (.aload_n 1, 1) := by decide +kernel
theorem dX1_parseSum_123 : decode cX1_parseSum 123 = .ok (.bipush 47, 2) := by decide +kernel
theorem dX1_parseSum_125 : decode cX1_parseSum 125 = .ok (.invokevirtual 83, 3) := by decide +kernel
theorem dX1_parseSum_128 : decode cX1_parseSum 128 = .ok (.istore_n 3, 1) := by decide +kernel
theorem dX1_parseSum_129 : decode cX1_parseSum 129 = .ok (.iload_n 2, 1) := by decide +kernel
theorem dX1_parseSum_130 : decode cX1_parseSum 130 = .ok (.ifCond .ne 62, 3) := by decide +kernel
theorem dX1_parseSum_133 : decode cX1_parseSum 133 = .ok (.iload_n 3, 1) := by decide +kernel
theorem dX1_parseSum_134 : decode cX1_parseSum 134 = .ok (.ifCond .ne 58, 3) := by decide +kernel
theorem dX1_parseSum_137 : decode cX1_parseSum 137 = .ok (.aload_n 0, 1) := by decide +kernel
theorem dX1_parseSum_138 : decode cX1_parseSum 138 = .ok (.iload 4, 2) := by decide +kernel
theorem dX1_parseSum_140 : decode cX1_parseSum 140 = .ok (.iconst (-1), 1) := by decide +kernel
theorem dX1_parseSum_141 : decode cX1_parseSum 141 = .ok (.if_icmp .eq 7, 3) := by decide +kernel
theorem dX1_parseSum_144 : decode cX1_parseSum 144 = .ok (.iconst 1, 1) := by decide +kernel
theorem dX1_parseSum_145 : decode cX1_parseSum 145 = .ok (.goto 4, 3) := by decide +kernel
theorem dX1_parseSum_148 : decode cX1_parseSum 148 = .ok (.iconst 0, 1) := by decide +kernel
theorem dX1_parseSum_149 : decode cX1_parseSum 149 = .ok (.iload 4, 2) := by decide +kernel
theorem dX1_parseSum_151 : decode cX1_parseSum 151 = .ok (.invokevirtual 90, 3) := by decide +kernel
theorem dX1_parseSum_154 : decode cX1_parseSum 154 = .ok (.aload_n 1, 1) := by decide +kernel
theorem dX1_parseSum_155 : decode cX1_parseSum 155 = .ok (.bipush 43, 2) := by decide +kernel
theorem dX1_parseSum_157 : decode cX1_parseSum 157 = .ok (.invokevirtual 83, 3) := by decide +kernel
theorem dX1_parseSum_160 : decode cX1_parseSum 160 = .ok (.ifCond .eq 7, 3) := by decide +kernel
theorem dX1_parseSum_163 : decode cX1_parseSum 163 = .ok (.iconst 5, 1) := by decide +kernel
theorem dX1_parseSum_164 : decode cX1_parseSum 164 = .ok (.goto 18, 3) := by decide +kernel
theorem dX1_parseSum_167 : decode cX1_parseSum 167 = .ok (.aload_n 1, 1) := by decide +kernel
theorem dX1_parseSum_168 : decode cX1_parseSum 168 = .ok (.bipush 45, 2) := by decide +kernel
theorem dX1_parseSum_170 : decode cX1_parseSum 170 = .ok (.invokevirtual 83, 3) := by decide +kernel
theorem dX1_parseSum_173 : decode cX1_parseSum 173 = .ok (.ifCond .eq 8, 3) := by decide +kernel
theorem dX1_parseSum_176 : decode cX1_parseSum 176 = .ok (.bipush 6, 2) := by decide +kernel
theorem dX1_parseSum_178 : decode cX1_parseSum 178 = .ok (.goto 4, 3) := by decide +kernel
theorem dX1_parseSum_181 : decode cX1_parseSum 181 = .ok (.iconst (-1), 1) := by decide +kernel
theorem dX1_parseSum_182 : decode cX1_parseSum 182 = .ok (.istore 4, 2) := by decide +kernel
theorem dX1_parseSum_184 : decode cX1_parseSum 184 = .ok (.iload 4, 2) := by decide +kernel
theorem dX1_parseSum_186 : decode cX1_parseSum 186 = .ok (.iconst (-1), 1) := by decide +kernel
theorem dX1_parseSum_187 : decode cX1_parseSum 187 = .ok (.if_icmp .ne 5, 3) := by decide +kernel
theorem dX1_parseSum_190 : decode cX1_parseSum 190 = .ok (.iconst 1, 1) := by decide +kernel
theorem dX1_parseSum_191 : decode cX1_parseSum 191 = .ok (.ireturn, 1) := by decide +kernel
theorem dX1_parseSum_192 : decode cX1_parseSum 192 = .ok (.aload_n 1, 1) := by decide +kernel
theorem dX1_parseSum_193 : decode cX1_parseSum 193 = .ok (.invokevirtual 71, 3) := by decide +kernel
theorem dX1_parseSum_196 : decode cX1_parseSum 196 = .ok (.iinc 5 1, 3) := by decide +kernel
theorem dX1_parseSum_199 : decode cX1_parseSum 199 = .ok (.goto (-189), 3) := by decide +kernel
theorem dX1_parseSum_202 : decode cX1_parseSum 202 = .ok (.iconst 1, 1) := by decide +kernel
theorem dX1_parseSum_203 : decode cX1_parseSum 203 = .ok (.ireturn, 1) := by decide +kernel
set_option maxRecDepth 20000 in
theorem vX1_parseSum {g : zG} {d : Nat} {Q : Bool → zM → Prop} {M : zM} (h : zW shC g (d + 1) mX1_parseSum (zz Q) 10 [(0, .ref 105), (1, .ref 98), (2, .int 0), (3, .int 0), (4, .int (-1)), (5, .int 0)] [] M) : zCz shC g (d + 1) mX1_parseSum [.ref 105, .ref 98] M Q := by
  refine zW.enter (by decide +kernel) (Nat.le_of_ble_eq_true rfl) ?_
  change zW shC g (d + 1) mX1_parseSum (zz Q) 0 [(0, .ref 105), (1, .ref 98)] [] M
  refine z_iconst (v := 0) dX1_parseSum_0 (by decide) ?_
  refine z_istore_n [(2, .int 0), (0, .ref 105), (1, .ref 98)] dX1_parseSum_1 (by decide) rfl ?_
  refine z_iconst (v := 0) dX1_parseSum_2 (by decide) ?_
  refine z_istore_n [(3, .int 0), (2, .int 0), (0, .ref 105), (1, .ref 98)] dX1_parseSum_3 (by decide) rfl ?_
  refine z_iconst (v := (-1)) dX1_parseSum_4 (by decide) ?_
  refine z_istore [(4, .int (-1)), (3, .int 0), (2, .int 0), (0, .ref 105), (1, .ref 98)] dX1_parseSum_5 (by decide) rfl ?_
  refine z_iconst (v := 0) dX1_parseSum_7 (by decide) ?_
  refine z_istore [(5, .int 0), (4, .int (-1)), (3, .int 0), (2, .int 0), (0, .ref 105), (1, .ref 98)] dX1_parseSum_8 (by decide) rfl ?_
  exact zW.sub [4, 5, 3, 2, 1, 0] rfl h
set_option maxRecDepth 20000 in
theorem vX1_parseSum_10 {g : zG} {d : Nat} {Q : Bool → zM → Prop} {M : zM} {l2 : Int32} {l3 : Int32} {l4 : Int32} {l5 : Int32} (h : (400 ≤ l5 → Q true M) ∧ (¬ 400 ≤ l5 → (l3 = 0 → zCi shC g d mX1_factTold [.ref 98] M (fun x1 M1 => (¬ x1 = (-1) → zW shC g (d + 1) mX1_parseSum (zz Q) 75 [(0, .ref 105), (1, .ref 98), (2, .int l2), (4, .int l4), (5, .int l5), (6, .int x1)] [] M1) ∧ (x1 = (-1) → zCz shC g d mX5_isNumber [.ref 98] M1 (fun b1 M2 => (b1 = true → zW shC g (d + 1) mX1_parseSum (zz Q) 75 [(0, .ref 105), (1, .ref 98), (2, .int l2), (4, .int l4), (5, .int l5), (6, .int x1)] [] M2) ∧ (b1 = false → zCz shC g d mX5_fail [.ref 98, .int 1] M2 (fun b2 M3 => Q b2 M3)))))) ∧ (¬ l3 = 0 → zCi shC g d mX5_number [.ref 98, .int 1, .int 9999] M (fun x1 M1 => (¬ x1 = (-1) → zCv shC g d mX1_emit [.ref 105, .int 3, .int x1] M1 (fun  M2 => zW shC g (d + 1) mX1_parseSum (zz Q) 111 [(0, .ref 105), (1, .ref 98), (4, .int l4), (5, .int l5)] [] M2)) ∧ (x1 = (-1) → Q false M1))))) : zW shC g (d + 1) mX1_parseSum (zz Q) 10 [(0, .ref 105), (1, .ref 98), (2, .int l2), (3, .int l3), (4, .int l4), (5, .int l5)] [] M := by
  refine z_iload dX1_parseSum_10 5 rfl ?_
  refine z_sipush (v := 400) dX1_parseSum_12 (by decide) ?_
  refine z_icmp_ge 202 dX1_parseSum_15 (by decide) (fun c1 => ?_) (fun c1 => ?_)
  · have h := h.1 c1
    refine z_iconst (v := 1) dX1_parseSum_202 (by decide) ?_
    exact z_zret (b := true) rfl rfl dX1_parseSum_203 h
  · have h := h.2 c1
    refine z_iload_n dX1_parseSum_18 3 rfl ?_
    refine z_if_eq 50 dX1_parseSum_19 (by decide) (fun c2 => ?_) (fun c2 => ?_)
    · have h := h.1 c2
      refine z_aload_n dX1_parseSum_50 1 rfl ?_
      refine z_callS (m2 := mX1_factTold) (st := []) [.ref 98] okX1_factTold (Or.inl lkX1_112) rfl rfl (Nat.le_of_ble_eq_true rfl) dX1_parseSum_51 (zgo_i h fun x1 M1 h => ?_)
      refine z_istore [(6, .int x1), (0, .ref 105), (1, .ref 98), (2, .int l2), (3, .int l3), (4, .int l4), (5, .int l5)] dX1_parseSum_54 (by decide) rfl ?_
      refine z_iload dX1_parseSum_56 0 rfl ?_
      refine z_iconst (v := (-1)) dX1_parseSum_58 (by decide) ?_
      refine z_icmp_ne 75 dX1_parseSum_59 (by decide) (fun c3 => ?_) (fun c3 => ?_)
      · have h := h.1 c3
        exact zW.sub [1, 2, 3, 5, 6, 0] rfl h
      · have h := h.2 c3
        refine z_aload_n dX1_parseSum_62 2 rfl ?_
        refine z_callV (m2 := mX5_isNumber) (st := []) [] okX5_isNumber (Or.inl lkX1_115) shC_98 rfl rfl rfl (Nat.le_of_ble_eq_true rfl) dX1_parseSum_63 (zgo_z h fun b1 M2 h => ?_)
        refine z_ifb_ne 75 dX1_parseSum_66 (by decide) (fun c4 => ?_) (fun c4 => ?_)
        · have h := h.1 c4
          exact zW.sub [1, 2, 3, 5, 6, 0] rfl h
        · have h := h.2 c4
          refine z_aload_n dX1_parseSum_69 2 rfl ?_
          refine z_iconst (v := 1) dX1_parseSum_70 (by decide) ?_
          refine z_callV (m2 := mX5_fail) (st := []) [.int 1] okX5_fail (Or.inl lkX1_67) shC_98 rfl rfl rfl (Nat.le_of_ble_eq_true rfl) dX1_parseSum_71 (zgo_z h fun b2 M3 h => ?_)
          exact z_zret rfl rfl dX1_parseSum_74 h
    · have h := h.2 c2
      refine z_aload_n dX1_parseSum_22 1 rfl ?_
      refine z_iconst (v := 1) dX1_parseSum_23 (by decide) ?_
      refine z_sipush (v := 9999) dX1_parseSum_24 (by decide) ?_
      refine z_callV (m2 := mX5_number) (st := []) [.int 1, .int 9999] okX5_number (Or.inl lkX1_104) shC_98 rfl rfl rfl (Nat.le_of_ble_eq_true rfl) dX1_parseSum_27 (zgo_i h fun x1 M1 h => ?_)
      refine z_istore [(6, .int x1), (0, .ref 105), (1, .ref 98), (2, .int l2), (3, .int l3), (4, .int l4), (5, .int l5)] dX1_parseSum_30 (by decide) rfl ?_
      refine z_iload dX1_parseSum_32 0 rfl ?_
      refine z_iconst (v := (-1)) dX1_parseSum_34 (by decide) ?_
      refine z_icmp_ne 40 dX1_parseSum_35 (by decide) (fun c3 => ?_) (fun c3 => ?_)
      · have h := h.1 c3
        refine z_aload_n dX1_parseSum_40 1 rfl ?_
        refine z_iconst (v := 3) dX1_parseSum_41 (by decide) ?_
        refine z_iload dX1_parseSum_42 0 rfl ?_
        refine z_callV (m2 := mX1_emit) (st := []) [.int 3, .int x1] okX1_emit (Or.inl lkX1_108) shC_105 rfl rfl rfl (Nat.le_of_ble_eq_true rfl) dX1_parseSum_44 (zgo_v h fun  M2 h => ?_)
        refine z_goto 111 dX1_parseSum_47 (by decide) ?_
        exact zW.sub [1, 2, 5, 6] rfl h
      · have h := h.2 c3
        refine z_iconst (v := 0) dX1_parseSum_38 (by decide) ?_
        exact z_zret (b := false) rfl rfl dX1_parseSum_39 h
set_option maxRecDepth 20000 in
theorem vX1_parseSum_75 {g : zG} {d : Nat} {Q : Bool → zM → Prop} {M : zM} {l2 : Int32} {l4 : Int32} {l5 : Int32} {l6 : Int32} (h : (¬ l6 = (-1) → zW shC g (d + 1) mX1_parseSum (zz Q) 87 [(0, .ref 105), (1, .ref 98), (2, .int l2), (4, .int l4), (5, .int l5), (6, .int l6)] [.int 1, .ref 105] M) ∧ (l6 = (-1) → zW shC g (d + 1) mX1_parseSum (zz Q) 87 [(0, .ref 105), (1, .ref 98), (2, .int l2), (4, .int l4), (5, .int l5), (6, .int l6)] [.int 0, .ref 105] M)) : zW shC g (d + 1) mX1_parseSum (zz Q) 75 [(0, .ref 105), (1, .ref 98), (2, .int l2), (4, .int l4), (5, .int l5), (6, .int l6)] [] M := by
  refine z_aload_n dX1_parseSum_75 0 rfl ?_
  refine z_iload dX1_parseSum_76 5 rfl ?_
  refine z_iconst (v := (-1)) dX1_parseSum_78 (by decide) ?_
  refine z_icmp_ne 86 dX1_parseSum_79 (by decide) (fun c1 => ?_) (fun c1 => ?_)
  · have h := h.1 c1
    refine z_iconst (v := 1) dX1_parseSum_86 (by decide) ?_
    exact h
  · have h := h.2 c1
    refine z_iconst (v := 0) dX1_parseSum_82 (by decide) ?_
    refine z_goto 87 dX1_parseSum_83 (by decide) ?_
    exact h
set_option maxRecDepth 20000 in
theorem vX1_parseSum_87 {g : zG} {d : Nat} {Q : Bool → zM → Prop} {M : zM} {l2 : Int32} {l4 : Int32} {l5 : Int32} {l6 : Int32} {s0 : Int32} (h : (¬ l6 = (-1) → zW shC g (d + 1) mX1_parseSum (zz Q) 102 [(0, .ref 105), (1, .ref 98), (2, .int l2), (4, .int l4), (5, .int l5)] [.int l6, .int s0, .ref 105] M) ∧ (l6 = (-1) → zW shC g (d + 1) mX1_parseSum (zz Q) 102 [(0, .ref 105), (1, .ref 98), (2, .int l2), (4, .int l4), (5, .int l5)] [.int (M 98 5), .int s0, .ref 105] M)) : zW shC g (d + 1) mX1_parseSum (zz Q) 87 [(0, .ref 105), (1, .ref 98), (2, .int l2), (4, .int l4), (5, .int l5), (6, .int l6)] [.int s0, .ref 105] M := by
  refine z_iload dX1_parseSum_87 5 rfl ?_
  refine z_iconst (v := (-1)) dX1_parseSum_89 (by decide) ?_
  refine z_icmp_ne 100 dX1_parseSum_90 (by decide) (fun c1 => ?_) (fun c1 => ?_)
  · have h := h.1 c1
    refine z_iload dX1_parseSum_100 5 rfl ?_
    exact zW.sub [0, 1, 2, 3, 4] rfl h
  · have h := h.2 c1
    refine z_aload_n dX1_parseSum_93 1 rfl ?_
    refine z_geti shC_98 rfl flX1_118 dX1_parseSum_94 ?_
    refine z_goto 102 dX1_parseSum_97 (by decide) ?_
    exact zW.sub [0, 1, 2, 3, 4] rfl h
set_option maxRecDepth 20000 in
theorem vX1_parseSum_102 {g : zG} {d : Nat} {Q : Bool → zM → Prop} {M : zM} {l2 : Int32} {l4 : Int32} {l5 : Int32} {s0 : Int32} {s1 : Int32} (h : zCv shC g d mX1_emit [.ref 105, .int s1, .int s0] M (fun  M1 => zCv shC g d mX1_emitIf [.ref 105, .int l2, .int 4] M1 (fun  M2 => zW shC g (d + 1) mX1_parseSum (zz Q) 111 [(0, .ref 105), (1, .ref 98), (4, .int l4), (5, .int l5)] [] M2))) : zW shC g (d + 1) mX1_parseSum (zz Q) 102 [(0, .ref 105), (1, .ref 98), (2, .int l2), (4, .int l4), (5, .int l5)] [.int s0, .int s1, .ref 105] M := by
  refine z_callV (m2 := mX1_emit) (st := []) [.int s1, .int s0] okX1_emit (Or.inl lkX1_108) shC_105 rfl rfl rfl (Nat.le_of_ble_eq_true rfl) dX1_parseSum_102 (zgo_v h fun  M1 h => ?_)
  refine z_aload_n dX1_parseSum_105 0 rfl ?_
  refine z_iload_n dX1_parseSum_106 2 rfl ?_
  refine z_iconst (v := 4) dX1_parseSum_107 (by decide) ?_
  refine z_callV (m2 := mX1_emitIf) (st := []) [.int l2, .int 4] okX1_emitIf (Or.inl lkX1_90) shC_105 rfl rfl rfl (Nat.le_of_ble_eq_true rfl) dX1_parseSum_108 (zgo_v h fun  M2 h => ?_)
  exact zW.sub [0, 1, 3, 4] rfl h
set_option maxRecDepth 20000 in
theorem vX1_parseSum_111 {g : zG} {d : Nat} {Q : Bool → zM → Prop} {M : zM} {l4 : Int32} {l5 : Int32} (h : zCv shC g d mX5_next [.ref 98] M (fun  M1 => zCz shC g d mX5_isSign [.ref 98, .int 42] M1 (fun b1 M2 => zCz shC g d mX5_isSign [.ref 98, .int 47] M2 (fun b2 M3 => (b1 = true → zCv shC g d mX5_next [.ref 98] M3 (fun  M4 => zW shC g (d + 1) mX1_parseSum (zz Q) 10 [(0, .ref 105), (1, .ref 98), (2, .int (zbI b1)), (3, .int (zbI b2)), (4, .int l4), (5, .int (l5 + 1))] [] M4)) ∧ (b1 = false → (b2 = true → zCv shC g d mX5_next [.ref 98] M3 (fun  M4 => zW shC g (d + 1) mX1_parseSum (zz Q) 10 [(0, .ref 105), (1, .ref 98), (2, .int (zbI b1)), (3, .int (zbI b2)), (4, .int l4), (5, .int (l5 + 1))] [] M4)) ∧ (b2 = false → (l4 = (-1) → zW shC g (d + 1) mX1_parseSum (zz Q) 149 [(0, .ref 105), (1, .ref 98), (2, .int (zbI b1)), (3, .int (zbI b2)), (4, .int l4), (5, .int l5)] [.int 0, .ref 105] M3) ∧ (¬ l4 = (-1) → zW shC g (d + 1) mX1_parseSum (zz Q) 149 [(0, .ref 105), (1, .ref 98), (2, .int (zbI b1)), (3, .int (zbI b2)), (4, .int l4), (5, .int l5)] [.int 1, .ref 105] M3))))))) : zW shC g (d + 1) mX1_parseSum (zz Q) 111 [(0, .ref 105), (1, .ref 98), (4, .int l4), (5, .int l5)] [] M := by
  refine z_aload_n dX1_parseSum_111 1 rfl ?_
  refine z_callV (m2 := mX5_next) (st := []) [] okX5_next (Or.inl lkX1_71) shC_98 rfl rfl rfl (Nat.le_of_ble_eq_true rfl) dX1_parseSum_112 (zgo_v h fun  M1 h => ?_)
  refine z_aload_n dX1_parseSum_115 1 rfl ?_
  refine z_bipush (v := 42) dX1_parseSum_116 (by decide) ?_
  refine z_callV (m2 := mX5_isSign) (st := []) [.int 42] okX5_isSign (Or.inl lkX1_83) shC_98 rfl rfl rfl (Nat.le_of_ble_eq_true rfl) dX1_parseSum_118 (zgo_z h fun b1 M2 h => ?_)
  refine z_istore_n [(2, .int (zbI b1)), (0, .ref 105), (1, .ref 98), (4, .int l4), (5, .int l5)] dX1_parseSum_121 (by decide) rfl ?_
  refine z_aload_n dX1_parseSum_122 2 rfl ?_
  refine z_bipush (v := 47) dX1_parseSum_123 (by decide) ?_
  refine z_callV (m2 := mX5_isSign) (st := []) [.int 47] okX5_isSign (Or.inl lkX1_83) shC_98 rfl rfl rfl (Nat.le_of_ble_eq_true rfl) dX1_parseSum_125 (zgo_z h fun b2 M3 h => ?_)
  refine z_istore_n [(3, .int (zbI b2)), (2, .int (zbI b1)), (0, .ref 105), (1, .ref 98), (4, .int l4), (5, .int l5)] dX1_parseSum_128 (by decide) rfl ?_
  refine z_iload_n dX1_parseSum_129 1 rfl ?_
  refine z_ifb_ne 192 dX1_parseSum_130 (by decide) (fun c1 => ?_) (fun c1 => ?_)
  · have h := h.1 c1
    refine z_aload_n dX1_parseSum_192 3 rfl ?_
    refine z_callV (m2 := mX5_next) (st := []) [] okX5_next (Or.inl lkX1_71) shC_98 rfl rfl rfl (Nat.le_of_ble_eq_true rfl) dX1_parseSum_193 (zgo_v h fun  M4 h => ?_)
    refine z_iinc (x := l5) (v := (l5 + 1)) [(5, .int (l5 + 1)), (3, .int (zbI b2)), (2, .int (zbI b1)), (0, .ref 105), (1, .ref 98), (4, .int l4)] dX1_parseSum_196 5 rfl rfl (by decide) rfl ?_
    refine z_goto 10 dX1_parseSum_199 (by decide) ?_
    exact zW.sub [3, 4, 2, 1, 5, 0] rfl h
  · have h := h.2 c1
    refine z_iload_n dX1_parseSum_133 0 rfl ?_
    refine z_ifb_ne 192 dX1_parseSum_134 (by decide) (fun c2 => ?_) (fun c2 => ?_)
    · have h := h.1 c2
      refine z_aload_n dX1_parseSum_192 3 rfl ?_
      refine z_callV (m2 := mX5_next) (st := []) [] okX5_next (Or.inl lkX1_71) shC_98 rfl rfl rfl (Nat.le_of_ble_eq_true rfl) dX1_parseSum_193 (zgo_v h fun  M4 h => ?_)
      refine z_iinc (x := l5) (v := (l5 + 1)) [(5, .int (l5 + 1)), (3, .int (zbI b2)), (2, .int (zbI b1)), (0, .ref 105), (1, .ref 98), (4, .int l4)] dX1_parseSum_196 5 rfl rfl (by decide) rfl ?_
      refine z_goto 10 dX1_parseSum_199 (by decide) ?_
      exact zW.sub [3, 4, 2, 1, 5, 0] rfl h
    · have h := h.2 c2
      refine z_aload_n dX1_parseSum_137 2 rfl ?_
      refine z_iload dX1_parseSum_138 4 rfl ?_
      refine z_iconst (v := (-1)) dX1_parseSum_140 (by decide) ?_
      refine z_icmp_eq 148 dX1_parseSum_141 (by decide) (fun c3 => ?_) (fun c3 => ?_)
      · have h := h.1 c3
        refine z_iconst (v := 0) dX1_parseSum_148 (by decide) ?_
        exact zW.sub [2, 3, 1, 0, 4, 5] rfl h
      · have h := h.2 c3
        refine z_iconst (v := 1) dX1_parseSum_144 (by decide) ?_
        refine z_goto 149 dX1_parseSum_145 (by decide) ?_
        exact zW.sub [2, 3, 1, 0, 4, 5] rfl h
set_option maxRecDepth 20000 in
theorem vX1_parseSum_149 {g : zG} {d : Nat} {Q : Bool → zM → Prop} {M : zM} {l2 : Bool} {l3 : Bool} {l4 : Int32} {l5 : Int32} {s0 : Int32} (h : zCv shC g d mX1_emitIf [.ref 105, .int s0, .int l4] M (fun  M1 => zCz shC g d mX5_isSign [.ref 98, .int 43] M1 (fun b1 M2 => (b1 = false → zCz shC g d mX5_isSign [.ref 98, .int 45] M2 (fun b2 M3 => (b2 = false → zW shC g (d + 1) mX1_parseSum (zz Q) 182 [(0, .ref 105), (1, .ref 98), (2, .int (zbI l2)), (3, .int (zbI l3)), (5, .int l5)] [.int (-1)] M3) ∧ (b2 = true → zW shC g (d + 1) mX1_parseSum (zz Q) 182 [(0, .ref 105), (1, .ref 98), (2, .int (zbI l2)), (3, .int (zbI l3)), (5, .int l5)] [.int 6] M3))) ∧ (b1 = true → zW shC g (d + 1) mX1_parseSum (zz Q) 182 [(0, .ref 105), (1, .ref 98), (2, .int (zbI l2)), (3, .int (zbI l3)), (5, .int l5)] [.int 5] M2)))) : zW shC g (d + 1) mX1_parseSum (zz Q) 149 [(0, .ref 105), (1, .ref 98), (2, .int (zbI l2)), (3, .int (zbI l3)), (4, .int l4), (5, .int l5)] [.int s0, .ref 105] M := by
  refine z_iload dX1_parseSum_149 4 rfl ?_
  refine z_callV (m2 := mX1_emitIf) (st := []) [.int s0, .int l4] okX1_emitIf (Or.inl lkX1_90) shC_105 rfl rfl rfl (Nat.le_of_ble_eq_true rfl) dX1_parseSum_151 (zgo_v h fun  M1 h => ?_)
  refine z_aload_n dX1_parseSum_154 1 rfl ?_
  refine z_bipush (v := 43) dX1_parseSum_155 (by decide) ?_
  refine z_callV (m2 := mX5_isSign) (st := []) [.int 43] okX5_isSign (Or.inl lkX1_83) shC_98 rfl rfl rfl (Nat.le_of_ble_eq_true rfl) dX1_parseSum_157 (zgo_z h fun b1 M2 h => ?_)
  refine z_ifb_eq 167 dX1_parseSum_160 (by decide) (fun c1 => ?_) (fun c1 => ?_)
  · have h := h.1 c1
    refine z_aload_n dX1_parseSum_167 1 rfl ?_
    refine z_bipush (v := 45) dX1_parseSum_168 (by decide) ?_
    refine z_callV (m2 := mX5_isSign) (st := []) [.int 45] okX5_isSign (Or.inl lkX1_83) shC_98 rfl rfl rfl (Nat.le_of_ble_eq_true rfl) dX1_parseSum_170 (zgo_z h fun b2 M3 h => ?_)
    refine z_ifb_eq 181 dX1_parseSum_173 (by decide) (fun c2 => ?_) (fun c2 => ?_)
    · have h := h.1 c2
      refine z_iconst (v := (-1)) dX1_parseSum_181 (by decide) ?_
      exact zW.sub [0, 1, 2, 3, 5] rfl h
    · have h := h.2 c2
      refine z_bipush (v := 6) dX1_parseSum_176 (by decide) ?_
      refine z_goto 182 dX1_parseSum_178 (by decide) ?_
      exact zW.sub [0, 1, 2, 3, 5] rfl h
  · have h := h.2 c1
    refine z_iconst (v := 5) dX1_parseSum_163 (by decide) ?_
    refine z_goto 182 dX1_parseSum_164 (by decide) ?_
    exact zW.sub [0, 1, 2, 3, 5] rfl h
set_option maxRecDepth 20000 in
theorem vX1_parseSum_182 {g : zG} {d : Nat} {Q : Bool → zM → Prop} {M : zM} {l2 : Bool} {l3 : Bool} {l5 : Int32} {s0 : Int32} (h : (¬ s0 = (-1) → zCv shC g d mX5_next [.ref 98] M (fun  M1 => zW shC g (d + 1) mX1_parseSum (zz Q) 10 [(0, .ref 105), (1, .ref 98), (2, .int (zbI l2)), (3, .int (zbI l3)), (4, .int s0), (5, .int (l5 + 1))] [] M1)) ∧ (s0 = (-1) → Q true M)) : zW shC g (d + 1) mX1_parseSum (zz Q) 182 [(0, .ref 105), (1, .ref 98), (2, .int (zbI l2)), (3, .int (zbI l3)), (5, .int l5)] [.int s0] M := by
  refine z_istore [(4, .int s0), (0, .ref 105), (1, .ref 98), (2, .int (zbI l2)), (3, .int (zbI l3)), (5, .int l5)] dX1_parseSum_182 (by decide) rfl ?_
  refine z_iload dX1_parseSum_184 0 rfl ?_
  refine z_iconst (v := (-1)) dX1_parseSum_186 (by decide) ?_
  refine z_icmp_ne 192 dX1_parseSum_187 (by decide) (fun c1 => ?_) (fun c1 => ?_)
  · have h := h.1 c1
    refine z_aload_n dX1_parseSum_192 2 rfl ?_
    refine z_callV (m2 := mX5_next) (st := []) [] okX5_next (Or.inl lkX1_71) shC_98 rfl rfl rfl (Nat.le_of_ble_eq_true rfl) dX1_parseSum_193 (zgo_v h fun  M1 h => ?_)
    refine z_iinc (x := l5) (v := (l5 + 1)) [(5, .int (l5 + 1)), (4, .int s0), (0, .ref 105), (1, .ref 98), (2, .int (zbI l2)), (3, .int (zbI l3))] dX1_parseSum_196 5 rfl rfl (by decide) rfl ?_
    refine z_goto 10 dX1_parseSum_199 (by decide) ?_
    exact zW.sub [2, 3, 4, 5, 1, 0] rfl h
  · have h := h.2 c1
    refine z_iconst (v := 1) dX1_parseSum_190 (by decide) ?_
    exact z_zret (b := true) rfl rfl dX1_parseSum_191 h
theorem dX1_factTold_0 : decode cX1_factTold 0 = .ok (.aload_n 0, 1) := by decide +kernel
theorem dX1_factTold_1 : decode cX1_factTold 1 = .ok (.ldc 121, 2) := by decide +kernel
theorem dX1_factTold_3 : decode cX1_factTold 3 = .ok (.invokevirtual 61, 3) := by decide +kernel
theorem dX1_factTold_6 : decode cX1_factTold 6 = .ok (.ifCond .eq 5, 3) := by decide +kernel
theorem dX1_factTold_9 : decode cX1_factTold 9 = .ok (.iconst 0, 1) := by decide +kernel
theorem dX1_factTold_10 : decode cX1_factTold 10 = .ok (.ireturn, 1) := by decide +kernel
theorem dX1_factTold_11 : decode cX1_factTold 11 = .ok (.aload_n 0, 1) := by decide +kernel
theorem dX1_factTold_12 : decode cX1_factTold 12 = .ok (.ldc 123, 2) := by decide +kernel
theorem dX1_factTold_14 : decode cX1_factTold 14 = .ok (.invokevirtual 61, 3) := by decide +kernel
theorem dX1_factTold_17 : decode cX1_factTold 17 = .ok (.ifCond .eq 5, 3) := by decide +kernel
theorem dX1_factTold_20 : decode cX1_factTold 20 = .ok (.iconst 1, 1) := by decide +kernel
theorem dX1_factTold_21 : decode cX1_factTold 21 = .ok (.ireturn, 1) := by decide +kernel
theorem dX1_factTold_22 : decode cX1_factTold 22 = .ok (.aload_n 0, 1) := by decide +kernel
theorem dX1_factTold_23 : decode cX1_factTold 23 = .ok (.ldc 125, 2) := by decide +kernel
theorem dX1_factTold_25 : decode cX1_factTold 25 = .ok (.invokevirtual 61, 3) := by decide +kernel
theorem dX1_factTold_28 : decode cX1_factTold 28 = .ok (.ifCond .eq 5, 3) := by decide +kernel
theorem dX1_factTold_31 : decode cX1_factTold 31 = .ok (.iconst 2, 1) := by decide +kernel
theorem dX1_factTold_32 : decode cX1_factTold 32 = .ok (.ireturn, 1) := by decide +kernel
theorem dX1_factTold_33 : decode cX1_factTold 33 = .ok (.aload_n 0, 1) := by decide +kernel
theorem dX1_factTold_34 : decode cX1_factTold 34 = .ok (.ldc 127, 2) := by decide +kernel
theorem dX1_factTold_36 : decode cX1_factTold 36 = .ok (.invokevirtual 61, 3) := by decide +kernel
theorem dX1_factTold_39 : decode cX1_factTold 39 = .ok (.ifCond .eq 5, 3) := by decide +kernel
theorem dX1_factTold_42 : decode cX1_factTold 42 = .ok (.iconst 3, 1) := by decide +kernel
theorem dX1_factTold_43 : decode cX1_factTold 43 = .ok (.ireturn, 1) := by decide +kernel
theorem dX1_factTold_44 : decode cX1_factTold 44 = .ok (.aload_n 0, 1) := by decide +kernel
theorem dX1_factTold_45 : decode cX1_factTold 45 = .ok (.ldc 129, 2) := by decide +kernel
theorem dX1_factTold_47 : decode cX1_factTold 47 = .ok (.invokevirtual 61, 3) := by decide +kernel
theorem dX1_factTold_50 : decode cX1_factTold 50 = .ok (.ifCond .eq 5, 3) := by decide +kernel
theorem dX1_factTold_53 : decode cX1_factTold 53 = .ok (.iconst 4, 1) := by decide +kernel
theorem dX1_factTold_54 : decode cX1_factTold 54 = .ok (.ireturn, 1) := by decide +kernel
theorem dX1_factTold_55 : decode cX1_factTold 55 = .ok (.aload_n 0, 1) := by decide +kernel
theorem dX1_factTold_56 : decode cX1_factTold 56 = .ok (.ldc 131, 2) := by decide +kernel
theorem dX1_factTold_58 : decode cX1_factTold 58 = .ok (.invokevirtual 61, 3) := by decide +kernel
theorem dX1_factTold_61 : decode cX1_factTold 61 = .ok (.ifCond .eq 7, 3) := by decide +kernel
theorem dX1_factTold_64 : decode cX1_factTold 64 = .ok (.iconst 5, 1) := by decide +kernel
theorem dX1_factTold_65 : decode cX1_factTold 65 = .ok (.goto 4, 3) := by decide +kernel
theorem dX1_factTold_68 : decode cX1_factTold 68 = .ok (.iconst (-1), 1) := by decide +kernel
theorem dX1_factTold_69 : decode cX1_factTold 69 = .ok (.ireturn, 1) := by decide +kernel
set_option maxRecDepth 20000 in
theorem vX1_factTold {g : zG} {d : Nat} {Q : Int32 → zM → Prop} {M : zM} (h : zCz shC g d mX5_isWord [.ref 98, .ref (4096 + 10)] M (fun b1 M1 => (b1 = false → zCz shC g d mX5_isWord [.ref 98, .ref (4096 + 11)] M1 (fun b2 M2 => (b2 = false → zCz shC g d mX5_isWord [.ref 98, .ref (4096 + 12)] M2 (fun b3 M3 => (b3 = false → zCz shC g d mX5_isWord [.ref 98, .ref (4096 + 13)] M3 (fun b4 M4 => (b4 = false → zCz shC g d mX5_isWord [.ref 98, .ref (4096 + 14)] M4 (fun b5 M5 => (b5 = false → zCz shC g d mX5_isWord [.ref 98, .ref (4096 + 15)] M5 (fun b6 M6 => (b6 = false → Q (-1) M6) ∧ (b6 = true → Q 5 M6))) ∧ (b5 = true → Q 4 M5))) ∧ (b4 = true → Q 3 M4))) ∧ (b3 = true → Q 2 M3))) ∧ (b2 = true → Q 1 M2))) ∧ (b1 = true → Q 0 M1))) : zCi shC g (d + 1) mX1_factTold [.ref 98] M Q := by
  refine zW.enter (by decide +kernel) (Nat.le_of_ble_eq_true rfl) ?_
  change zW shC g (d + 1) mX1_factTold (zi Q) 0 [(0, .ref 98)] [] M
  refine z_aload_n dX1_factTold_0 0 rfl ?_
  refine z_ldcS (i := 10) (tx := "depth") dX1_factTold_1 (by decide +kernel) ?_
  refine z_callV (m2 := mX5_isWord) (st := []) [.ref (4096 + 10)] okX5_isWord (Or.inl lkX1_61) shC_98 rfl rfl rfl (Nat.le_of_ble_eq_true rfl) dX1_factTold_3 (zgo_z h fun b1 M1 h => ?_)
  refine z_ifb_eq 11 dX1_factTold_6 (by decide) (fun c1 => ?_) (fun c1 => ?_)
  · have h := h.1 c1
    refine z_aload_n dX1_factTold_11 0 rfl ?_
    refine z_ldcS (i := 11) (tx := "edge") dX1_factTold_12 (by decide +kernel) ?_
    refine z_callV (m2 := mX5_isWord) (st := []) [.ref (4096 + 11)] okX5_isWord (Or.inl lkX1_61) shC_98 rfl rfl rfl (Nat.le_of_ble_eq_true rfl) dX1_factTold_14 (zgo_z h fun b2 M2 h => ?_)
    refine z_ifb_eq 22 dX1_factTold_17 (by decide) (fun c2 => ?_) (fun c2 => ?_)
    · have h := h.1 c2
      refine z_aload_n dX1_factTold_22 0 rfl ?_
      refine z_ldcS (i := 12) (tx := "minute") dX1_factTold_23 (by decide +kernel) ?_
      refine z_callV (m2 := mX5_isWord) (st := []) [.ref (4096 + 12)] okX5_isWord (Or.inl lkX1_61) shC_98 rfl rfl rfl (Nat.le_of_ble_eq_true rfl) dX1_factTold_25 (zgo_z h fun b3 M3 h => ?_)
      refine z_ifb_eq 33 dX1_factTold_28 (by decide) (fun c3 => ?_) (fun c3 => ?_)
      · have h := h.1 c3
        refine z_aload_n dX1_factTold_33 0 rfl ?_
        refine z_ldcS (i := 13) (tx := "hand") dX1_factTold_34 (by decide +kernel) ?_
        refine z_callV (m2 := mX5_isWord) (st := []) [.ref (4096 + 13)] okX5_isWord (Or.inl lkX1_61) shC_98 rfl rfl rfl (Nat.le_of_ble_eq_true rfl) dX1_factTold_36 (zgo_z h fun b4 M4 h => ?_)
        refine z_ifb_eq 44 dX1_factTold_39 (by decide) (fun c4 => ?_) (fun c4 => ?_)
        · have h := h.1 c4
          refine z_aload_n dX1_factTold_44 0 rfl ?_
          refine z_ldcS (i := 14) (tx := "crossed") dX1_factTold_45 (by decide +kernel) ?_
          refine z_callV (m2 := mX5_isWord) (st := []) [.ref (4096 + 14)] okX5_isWord (Or.inl lkX1_61) shC_98 rfl rfl rfl (Nat.le_of_ble_eq_true rfl) dX1_factTold_47 (zgo_z h fun b5 M5 h => ?_)
          refine z_ifb_eq 55 dX1_factTold_50 (by decide) (fun c5 => ?_) (fun c5 => ?_)
          · have h := h.1 c5
            refine z_aload_n dX1_factTold_55 0 rfl ?_
            refine z_ldcS (i := 15) (tx := "around") dX1_factTold_56 (by decide +kernel) ?_
            refine z_callV (m2 := mX5_isWord) (st := []) [.ref (4096 + 15)] okX5_isWord (Or.inl lkX1_61) shC_98 rfl rfl rfl (Nat.le_of_ble_eq_true rfl) dX1_factTold_58 (zgo_z h fun b6 M6 h => ?_)
            refine z_ifb_eq 68 dX1_factTold_61 (by decide) (fun c6 => ?_) (fun c6 => ?_)
            · have h := h.1 c6
              refine z_iconst (v := (-1)) dX1_factTold_68 (by decide) ?_
              exact z_iret (st := []) rfl rfl dX1_factTold_69 ⟨_, rfl, h⟩
            · have h := h.2 c6
              refine z_iconst (v := 5) dX1_factTold_64 (by decide) ?_
              refine z_goto 69 dX1_factTold_65 (by decide) ?_
              exact z_iret (st := []) rfl rfl dX1_factTold_69 ⟨_, rfl, h⟩
          · have h := h.2 c5
            refine z_iconst (v := 4) dX1_factTold_53 (by decide) ?_
            exact z_iret (st := []) rfl rfl dX1_factTold_54 ⟨_, rfl, h⟩
        · have h := h.2 c4
          refine z_iconst (v := 3) dX1_factTold_42 (by decide) ?_
          exact z_iret (st := []) rfl rfl dX1_factTold_43 ⟨_, rfl, h⟩
      · have h := h.2 c3
        refine z_iconst (v := 2) dX1_factTold_31 (by decide) ?_
        exact z_iret (st := []) rfl rfl dX1_factTold_32 ⟨_, rfl, h⟩
    · have h := h.2 c2
      refine z_iconst (v := 1) dX1_factTold_20 (by decide) ?_
      exact z_iret (st := []) rfl rfl dX1_factTold_21 ⟨_, rfl, h⟩
  · have h := h.2 c1
    refine z_iconst (v := 0) dX1_factTold_9 (by decide) ?_
    exact z_iret (st := []) rfl rfl dX1_factTold_10 ⟨_, rfl, h⟩
theorem dX1_emit_0 : decode cX1_emit 0 = .ok (.aload_n 0, 1) := by decide +kernel
theorem dX1_emit_1 : decode cX1_emit 1 = .ok (.getfield 15, 3) := by decide +kernel
theorem dX1_emit_4 : decode cX1_emit 4 = .ok (.sipush 400, 3) := by decide +kernel
theorem dX1_emit_7 : decode cX1_emit 7 = .ok (.if_icmp .ge 28, 3) := by decide +kernel
theorem dX1_emit_10 : decode cX1_emit 10 = .ok (.aload_n 0, 1) := by decide +kernel
theorem dX1_emit_11 : decode cX1_emit 11 = .ok (.getfield 9, 3) := by decide +kernel
theorem dX1_emit_14 : decode cX1_emit 14 = .ok (.aload_n 0, 1) := by decide +kernel
theorem dX1_emit_15 : decode cX1_emit 15 = .ok (.getfield 15, 3) := by decide +kernel
theorem dX1_emit_18 : decode cX1_emit 18 = .ok (.iload_n 1, 1) := by decide +kernel
theorem dX1_emit_19 : decode cX1_emit 19 = .ok (.bipush 16, 2) := by decide +kernel
theorem dX1_emit_21 : decode cX1_emit 21 = .ok (.iload_n 2, 1) := by decide +kernel
theorem dX1_emit_22 : decode cX1_emit 22 = .ok (.imul, 1) := by decide +kernel
theorem dX1_emit_23 : decode cX1_emit 23 = .ok (.iadd, 1) := by decide +kernel
theorem dX1_emit_24 : decode cX1_emit 24 = .ok (.iastore, 1) := by decide +kernel
theorem dX1_emit_25 : decode cX1_emit 25 = .ok (.aload_n 0, 1) := by decide +kernel
theorem dX1_emit_26 : decode cX1_emit 26 = .ok (.dup, 1) := by decide +kernel
theorem dX1_emit_27 : decode cX1_emit 27 = .ok (.getfield 15, 3) := by decide +kernel
theorem dX1_emit_30 : decode cX1_emit 30 = .ok (.iconst 1, 1) := by decide +kernel
theorem dX1_emit_31 : decode cX1_emit 31 = .ok (.iadd, 1) := by decide +kernel
theorem dX1_emit_32 : decode cX1_emit 32 = .ok (.putfield 15, 3) := by decide +kernel
theorem dX1_emit_35 : decode cX1_emit 35 = .ok (.return_, 1) := by decide +kernel
set_option maxRecDepth 20000 in
theorem vX1_emit {g : zG} {d : Nat} {Q : zM → Prop} {M : zM} {l1 : Int32} {l2 : Int32} (h : (400 ≤ (M 105 1) → Q M) ∧ (¬ 400 ≤ (M 105 1) → ∃ k1 : Nat, (M 105 1) = iv k1 ∧ k1 < 400 ∧ Q (zup (zup M 106 k1 (l1 + (16 * l2))) 105 1 (((zup M 106 k1 (l1 + (16 * l2))) 105 1) + 1)))) : zCv shC g d mX1_emit [.ref 105, .int l1, .int l2] M Q := by
  refine zW.enter (by decide +kernel) (Nat.le_of_ble_eq_true rfl) ?_
  change zW shC g d mX1_emit (zv Q) 0 [(0, .ref 105), (1, .int l1), (2, .int l2)] [] M
  refine z_aload_n dX1_emit_0 0 rfl ?_
  refine z_geti shC_105 rfl flX1_15 dX1_emit_1 ?_
  refine z_sipush (v := 400) dX1_emit_4 (by decide) ?_
  refine z_icmp_ge 35 dX1_emit_7 (by decide) (fun c1 => ?_) (fun c1 => ?_)
  · have h := h.1 c1
    exact z_vret (st := []) rfl dX1_emit_35 ⟨rfl, h⟩
  · have h := h.2 c1
    refine z_aload_n dX1_emit_10 0 rfl ?_
    refine z_getr shC_105 rfl flX1_9 dX1_emit_11 ?_
    refine z_aload_n dX1_emit_14 0 rfl ?_
    refine z_geti shC_105 rfl flX1_15 dX1_emit_15 ?_
    refine z_iload_n dX1_emit_18 1 rfl ?_
    refine z_bipush (v := 16) dX1_emit_19 (by decide) ?_
    refine z_iload_n dX1_emit_21 2 rfl ?_
    refine z_imul dX1_emit_22 ?_
    refine z_iadd dX1_emit_23 ?_
    obtain ⟨k1, ek1, uk1, h⟩ := h
    refine z_iast2 (k0 := k1) shC_106 (by decide) ek1 uk1 dX1_emit_24 ?_
    refine z_aload_n dX1_emit_25 0 rfl ?_
    refine z_dupr dX1_emit_26 ?_
    refine z_geti shC_105 rfl flX1_15 dX1_emit_27 ?_
    refine z_iconst (v := 1) dX1_emit_30 (by decide) ?_
    refine z_iadd dX1_emit_31 ?_
    refine z_puti shC_105 rfl fpX1_15 rfl rfl dX1_emit_32 ?_
    exact z_vret (st := []) rfl dX1_emit_35 ⟨rfl, h⟩
theorem dX1_emitIf_0 : decode cX1_emitIf 0 = .ok (.iload_n 1, 1) := by decide +kernel
theorem dX1_emitIf_1 : decode cX1_emitIf 1 = .ok (.ifCond .eq 9, 3) := by decide +kernel
theorem dX1_emitIf_4 : decode cX1_emitIf 4 = .ok (.aload_n 0, 1) := by decide +kernel
theorem dX1_emitIf_5 : decode cX1_emitIf 5 = .ok (.iload_n 2, 1) := by decide +kernel
theorem dX1_emitIf_6 : decode cX1_emitIf 6 = .ok (.iconst 0, 1) := by decide +kernel
theorem dX1_emitIf_7 : decode cX1_emitIf 7 = .ok (.invokevirtual 108, 3) := by decide +kernel
theorem dX1_emitIf_10 : decode cX1_emitIf 10 = .ok (.return_, 1) := by decide +kernel
set_option maxRecDepth 20000 in
theorem vX1_emitIf {g : zG} {d : Nat} {Q : zM → Prop} {M : zM} {l1 : Bool} {l2 : Int32} (h : (l1 = false → Q M) ∧ (l1 = true → zCv shC g d mX1_emit [.ref 105, .int l2, .int 0] M (fun  M1 => Q M1))) : zCv shC g (d + 1) mX1_emitIf [.ref 105, .int (zbI l1), .int l2] M Q := by
  refine zW.enter (by decide +kernel) (Nat.le_of_ble_eq_true rfl) ?_
  change zW shC g (d + 1) mX1_emitIf (zv Q) 0 [(0, .ref 105), (1, .int (zbI l1)), (2, .int l2)] [] M
  refine z_iload_n dX1_emitIf_0 1 rfl ?_
  refine z_ifb_eq 10 dX1_emitIf_1 (by decide) (fun c1 => ?_) (fun c1 => ?_)
  · have h := h.1 c1
    exact z_vret (st := []) rfl dX1_emitIf_10 ⟨rfl, h⟩
  · have h := h.2 c1
    refine z_aload_n dX1_emitIf_4 0 rfl ?_
    refine z_iload_n dX1_emitIf_5 2 rfl ?_
    refine z_iconst (v := 0) dX1_emitIf_6 (by decide) ?_
    refine z_callV (m2 := mX1_emit) (st := []) [.int l2, .int 0] okX1_emit (Or.inl lkX1_108) shC_105 rfl rfl rfl (Nat.le_of_ble_eq_true rfl) dX1_emitIf_7 (zgo_v h fun  M1 h => ?_)
    exact z_vret (st := []) rfl dX1_emitIf_10 ⟨rfl, h⟩
theorem dX1_answer_0 : decode cX1_answer 0 = .ok (.iconst 0, 1) := by decide +kernel
theorem dX1_answer_1 : decode cX1_answer 1 = .ok (.istore 4, 2) := by decide +kernel
theorem dX1_answer_3 : decode cX1_answer 3 = .ok (.iload 4, 2) := by decide +kernel
theorem dX1_answer_5 : decode cX1_answer 5 = .ok (.aload_n 0, 1) := by decide +kernel
theorem dX1_answer_6 : decode cX1_answer 6 = .ok (.getfield 31, 3) := by decide +kernel
theorem dX1_answer_9 : decode cX1_answer 9 = .ok (.if_icmp .ge 94, 3) := by decide +kernel
theorem dX1_answer_12 : decode cX1_answer 12 = .ok (.aload_n 0, 1) := by decide +kernel
theorem dX1_answer_13 : decode cX1_answer 13 = .ok (.getfield 19, 3) := by decide +kernel
theorem dX1_answer_16 : decode cX1_answer 16 = .ok (.iload 4, 2) := by decide +kernel
theorem dX1_answer_18 : decode cX1_answer 18 = .ok (.iaload, 1) := by decide +kernel
theorem dX1_answer_19 : decode cX1_answer 19 = .ok (.iload_n 1, 1) := by decide +kernel
theorem dX1_answer_20 : decode cX1_answer 20 = .ok (.if_icmp .eq 6, 3) := by decide +kernel
theorem dX1_answer_23 : decode cX1_answer 23 = .ok (.goto 74, 3) := by decide +kernel
theorem dX1_answer_26 : decode cX1_answer 26 = .ok (.aload_n 0, 1) := by decide +kernel
theorem dX1_answer_27 : decode cX1_answer 27 = .ok (.getfield 25, 3) := by decide +kernel
theorem dX1_answer_30 : decode cX1_answer 30 = .ok (.iload 4, 2) := by decide +kernel
theorem dX1_answer_32 : decode cX1_answer 32 = .ok (.iaload, 1) := by decide +kernel
theorem dX1_answer_33 : decode cX1_answer 33 = .ok (.aload_n 0, 1) := by decide +kernel
theorem dX1_answer_34 : decode cX1_answer 34 = .ok (.getfield 28, 3) := by decide +kernel
theorem dX1_answer_37 : decode cX1_answer 37 = .ok (.iload 4, 2) := by decide +kernel
theorem dX1_answer_39 : decode cX1_answer 39 = .ok (.iaload, 1) := by decide +kernel
theorem dX1_answer_40 : decode cX1_answer 40 = .ok (.if_icmp .ne 7, 3) := by decide +kernel
theorem dX1_answer_43 : decode cX1_answer 43 = .ok (.iconst 1, 1) := by decide +kernel
theorem dX1_answer_44 : decode cX1_answer 44 = .ok (.goto 4, 3) := by decide +kernel
theorem dX1_answer_47 : decode cX1_answer 47 = .ok (.iconst 0, 1) := by decide +kernel
theorem dX1_answer_48 : decode cX1_answer 48 = .ok (.istore 5, 2) := by decide +kernel
theorem dX1_answer_50 : decode cX1_answer 50 = .ok (.iload 5, 2) := by decide +kernel
theorem dX1_answer_52 : decode cX1_answer 52 = .ok (.ifCond .ne 25, 3) := by decide +kernel
theorem dX1_answer_55 : decode cX1_answer 55 = .ok (.aload_n 0, 1) := by decide +kernel
theorem dX1_answer_56 : decode cX1_answer 56 = .ok (.aload_n 0, 1) := by decide +kernel
theorem dX1_answer_57 : decode cX1_answer 57 = .ok (.getfield 25, 3) := by decide +kernel
theorem dX1_answer_60 : decode cX1_answer 60 = .ok (.iload 4, 2) := by decide +kernel
theorem dX1_answer_62 : decode cX1_answer 62 = .ok (.iaload, 1) := by decide +kernel
theorem dX1_answer_63 : decode cX1_answer 63 = .ok (.aload_n 0, 1) := by decide +kernel
theorem dX1_answer_64 : decode cX1_answer 64 = .ok (.getfield 28, 3) := by decide +kernel
theorem dX1_answer_67 : decode cX1_answer 67 = .ok (.iload 4, 2) := by decide +kernel
theorem dX1_answer_69 : decode cX1_answer 69 = .ok (.iaload, 1) := by decide +kernel
theorem dX1_answer_70 : decode cX1_answer 70 = .ok (.aload_n 2, 1) := by decide +kernel
theorem dX1_answer_71 : decode cX1_answer 71 = .ok (.invokevirtual 133, 3) := by decide +kernel
theorem dX1_answer_74 : decode cX1_answer 74 = .ok (.ifCond .eq 23, 3) := by decide +kernel
theorem dX1_answer_77 : decode cX1_answer 77 = .ok (.aload_n 0, 1) := by decide +kernel
theorem dX1_answer_78 : decode cX1_answer 78 = .ok (.aload_n 0, 1) := by decide +kernel
theorem dX1_answer_79 : decode cX1_answer 79 = .ok (.getfield 22, 3) := by decide +kernel
theorem dX1_answer_82 : decode cX1_answer 82 = .ok (.iload 4, 2) := by decide +kernel
theorem dX1_answer_84 : decode cX1_answer 84 = .ok (.iaload, 1) := by decide +kernel
theorem dX1_answer_85 : decode cX1_answer 85 = .ok (.aload_n 0, 1) := by decide +kernel
theorem dX1_answer_86 : decode cX1_answer 86 = .ok (.getfield 25, 3) := by decide +kernel
theorem dX1_answer_89 : decode cX1_answer 89 = .ok (.iload 4, 2) := by decide +kernel
theorem dX1_answer_91 : decode cX1_answer 91 = .ok (.iaload, 1) := by decide +kernel
theorem dX1_answer_92 : decode cX1_answer 92 = .ok (.aload_n 2, 1) := by decide +kernel
theorem dX1_answer_93 : decode cX1_answer 93 = .ok (.invokevirtual 133, 3) := by decide +kernel
theorem dX1_answer_96 : decode cX1_answer 96 = .ok (.ireturn, 1) := by decide +kernel
theorem dX1_answer_97 : decode cX1_answer 97 = .ok (.iinc 4 1, 3) := by decide +kernel
theorem dX1_answer_100 : decode cX1_answer 100 = .ok (.goto (-97), 3) := by decide +kernel
theorem dX1_answer_103 : decode cX1_answer 103 = .ok (.iload_n 3, 1) := by decide +kernel
theorem dX1_answer_104 : decode cX1_answer 104 = .ok (.ireturn, 1) := by decide +kernel
set_option maxRecDepth 20000 in
theorem vX1_answer {g : zG} {d : Nat} {Q : Int32 → zM → Prop} {M : zM} {l1 : Int32} {l3 : Int32} (h : zW shC g (d + 1) mX1_answer (zi Q) 3 [(0, .ref 15), (1, .int l1), (2, .ref 26), (3, .int l3), (4, .int 0)] [] M) : zCi shC g (d + 1) mX1_answer [.ref 15, .int l1, .ref 26, .int l3] M Q := by
  refine zW.enter (by decide +kernel) (Nat.le_of_ble_eq_true rfl) ?_
  change zW shC g (d + 1) mX1_answer (zi Q) 0 [(0, .ref 15), (1, .int l1), (2, .ref 26), (3, .int l3)] [] M
  refine z_iconst (v := 0) dX1_answer_0 (by decide) ?_
  refine z_istore [(4, .int 0), (0, .ref 15), (1, .int l1), (2, .ref 26), (3, .int l3)] dX1_answer_1 (by decide) rfl ?_
  exact zW.sub [1, 2, 3, 4, 0] rfl h
set_option maxRecDepth 20000 in
theorem vX1_answer_3 {g : zG} {d : Nat} {Q : Int32 → zM → Prop} {M : zM} {l1 : Int32} {l3 : Int32} {l4 : Int32} (h : ((M 15 6) ≤ l4 → Q l3 M) ∧ (¬ (M 15 6) ≤ l4 → ∃ k1 : Nat, l4 = iv k1 ∧ k1 < 16 ∧ ((M 17 k1) = l1 → (¬ (M 19 k1) = (M 20 k1) → zW shC g (d + 1) mX1_answer (zi Q) 48 [(0, .ref 15), (1, .int l1), (2, .ref 26), (3, .int l3), (4, .int l4)] [.int 0] M) ∧ ((M 19 k1) = (M 20 k1) → zW shC g (d + 1) mX1_answer (zi Q) 48 [(0, .ref 15), (1, .int l1), (2, .ref 26), (3, .int l3), (4, .int l4)] [.int 1] M)) ∧ (¬ (M 17 k1) = l1 → zW shC g (d + 1) mX1_answer (zi Q) 3 [(0, .ref 15), (1, .int l1), (2, .ref 26), (3, .int l3), (4, .int (l4 + 1))] [] M))) : zW shC g (d + 1) mX1_answer (zi Q) 3 [(0, .ref 15), (1, .int l1), (2, .ref 26), (3, .int l3), (4, .int l4)] [] M := by
  refine z_iload dX1_answer_3 4 rfl ?_
  refine z_aload_n dX1_answer_5 0 rfl ?_
  refine z_geti shC_15 rfl flX1_31 dX1_answer_6 ?_
  refine z_icmp_ge 103 dX1_answer_9 (by decide) (fun c1 => ?_) (fun c1 => ?_)
  · have h := h.1 c1
    refine z_iload_n dX1_answer_103 3 rfl ?_
    exact z_iret (st := []) rfl rfl dX1_answer_104 ⟨_, rfl, h⟩
  · have h := h.2 c1
    refine z_aload_n dX1_answer_12 0 rfl ?_
    refine z_getr shC_15 rfl flX1_19 dX1_answer_13 ?_
    refine z_iload dX1_answer_16 4 rfl ?_
    obtain ⟨k1, ek1, uk1, h⟩ := h
    refine z_iald2 (k0 := k1) shC_17 (by decide) ek1 uk1 dX1_answer_18 ?_
    refine z_iload_n dX1_answer_19 1 rfl ?_
    refine z_icmp_eq 26 dX1_answer_20 (by decide) (fun c2 => ?_) (fun c2 => ?_)
    · have h := h.1 c2
      refine z_aload_n dX1_answer_26 0 rfl ?_
      refine z_getr shC_15 rfl flX1_25 dX1_answer_27 ?_
      refine z_iload dX1_answer_30 4 rfl ?_
      refine z_iald2 (k0 := k1) shC_19 (by decide) ek1 uk1 dX1_answer_32 ?_
      refine z_aload_n dX1_answer_33 0 rfl ?_
      refine z_getr shC_15 rfl flX1_28 dX1_answer_34 ?_
      refine z_iload dX1_answer_37 4 rfl ?_
      refine z_iald2 (k0 := k1) shC_20 (by decide) ek1 uk1 dX1_answer_39 ?_
      refine z_icmp_ne 47 dX1_answer_40 (by decide) (fun c3 => ?_) (fun c3 => ?_)
      · have h := h.1 c3
        refine z_iconst (v := 0) dX1_answer_47 (by decide) ?_
        exact h
      · have h := h.2 c3
        refine z_iconst (v := 1) dX1_answer_43 (by decide) ?_
        refine z_goto 48 dX1_answer_44 (by decide) ?_
        exact h
    · have h := h.2 c2
      refine z_goto 97 dX1_answer_23 (by decide) ?_
      refine z_iinc (x := l4) (v := (l4 + 1)) [(4, .int (l4 + 1)), (0, .ref 15), (1, .int l1), (2, .ref 26), (3, .int l3)] dX1_answer_97 4 rfl rfl (by decide) rfl ?_
      refine z_goto 3 dX1_answer_100 (by decide) ?_
      exact zW.sub [1, 2, 3, 4, 0] rfl h
set_option maxRecDepth 20000 in
theorem vX1_answer_48 {g : zG} {d : Nat} {Q : Int32 → zM → Prop} {M : zM} {l1 : Int32} {l3 : Int32} {l4 : Int32} {s0 : Int32} (h : (¬ s0 = 0 → zW shC g (d + 1) mX1_answer (zi Q) 77 [(0, .ref 15), (2, .ref 26), (4, .int l4)] [] M) ∧ (s0 = 0 → ∃ k1 : Nat, l4 = iv k1 ∧ k1 < 16 ∧ zCi shC g d mX1_value [.ref 15, .int (M 19 k1), .int (M 20 k1), .ref 26] M (fun x1 M1 => (x1 = 0 → zW shC g (d + 1) mX1_answer (zi Q) 3 [(0, .ref 15), (1, .int l1), (2, .ref 26), (3, .int l3), (4, .int (l4 + 1))] [] M1) ∧ (¬ x1 = 0 → zW shC g (d + 1) mX1_answer (zi Q) 77 [(0, .ref 15), (2, .ref 26), (4, .int l4)] [] M1)))) : zW shC g (d + 1) mX1_answer (zi Q) 48 [(0, .ref 15), (1, .int l1), (2, .ref 26), (3, .int l3), (4, .int l4)] [.int s0] M := by
  refine z_istore [(5, .int s0), (0, .ref 15), (1, .int l1), (2, .ref 26), (3, .int l3), (4, .int l4)] dX1_answer_48 (by decide) rfl ?_
  refine z_iload dX1_answer_50 0 rfl ?_
  refine z_if_ne 77 dX1_answer_52 (by decide) (fun c1 => ?_) (fun c1 => ?_)
  · have h := h.1 c1
    exact zW.sub [1, 3, 5] rfl h
  · have h := h.2 c1
    refine z_aload_n dX1_answer_55 1 rfl ?_
    refine z_aload_n dX1_answer_56 1 rfl ?_
    refine z_getr shC_15 rfl flX1_25 dX1_answer_57 ?_
    refine z_iload dX1_answer_60 5 rfl ?_
    obtain ⟨k1, ek1, uk1, h⟩ := h
    refine z_iald2 (k0 := k1) shC_19 (by decide) ek1 uk1 dX1_answer_62 ?_
    refine z_aload_n dX1_answer_63 1 rfl ?_
    refine z_getr shC_15 rfl flX1_28 dX1_answer_64 ?_
    refine z_iload dX1_answer_67 5 rfl ?_
    refine z_iald2 (k0 := k1) shC_20 (by decide) ek1 uk1 dX1_answer_69 ?_
    refine z_aload_n dX1_answer_70 3 rfl ?_
    refine z_callV (m2 := mX1_value) (st := []) [.int (M 19 k1), .int (M 20 k1), .ref 26] okX1_value (Or.inl lkX1_133) shC_15 rfl rfl rfl (Nat.le_of_ble_eq_true rfl) dX1_answer_71 (zgo_i h fun x1 M1 h => ?_)
    refine z_if_eq 97 dX1_answer_74 (by decide) (fun c2 => ?_) (fun c2 => ?_)
    · have h := h.1 c2
      refine z_iinc (x := l4) (v := (l4 + 1)) [(4, .int (l4 + 1)), (5, .int s0), (0, .ref 15), (1, .int l1), (2, .ref 26), (3, .int l3)] dX1_answer_97 5 rfl rfl (by decide) rfl ?_
      refine z_goto 3 dX1_answer_100 (by decide) ?_
      exact zW.sub [2, 3, 4, 5, 0] rfl h
    · have h := h.2 c2
      exact zW.sub [1, 3, 5] rfl h
set_option maxRecDepth 20000 in
theorem vX1_answer_77 {g : zG} {d : Nat} {Q : Int32 → zM → Prop} {M : zM} {l4 : Int32} (h : ∃ k1 : Nat, l4 = iv k1 ∧ k1 < 16 ∧ zCi shC g d mX1_value [.ref 15, .int (M 18 k1), .int (M 19 k1), .ref 26] M (fun x1 M1 => Q x1 M1)) : zW shC g (d + 1) mX1_answer (zi Q) 77 [(0, .ref 15), (2, .ref 26), (4, .int l4)] [] M := by
  refine z_aload_n dX1_answer_77 0 rfl ?_
  refine z_aload_n dX1_answer_78 0 rfl ?_
  refine z_getr shC_15 rfl flX1_22 dX1_answer_79 ?_
  refine z_iload dX1_answer_82 2 rfl ?_
  obtain ⟨k1, ek1, uk1, h⟩ := h
  refine z_iald2 (k0 := k1) shC_18 (by decide) ek1 uk1 dX1_answer_84 ?_
  refine z_aload_n dX1_answer_85 0 rfl ?_
  refine z_getr shC_15 rfl flX1_25 dX1_answer_86 ?_
  refine z_iload dX1_answer_89 2 rfl ?_
  refine z_iald2 (k0 := k1) shC_19 (by decide) ek1 uk1 dX1_answer_91 ?_
  refine z_aload_n dX1_answer_92 1 rfl ?_
  refine z_callV (m2 := mX1_value) (st := []) [.int (M 18 k1), .int (M 19 k1), .ref 26] okX1_value (Or.inl lkX1_133) shC_15 rfl rfl rfl (Nat.le_of_ble_eq_true rfl) dX1_answer_93 (zgo_i h fun x1 M1 h => ?_)
  exact z_iret (st := []) rfl rfl dX1_answer_96 ⟨_, rfl, h⟩
theorem dX1_value_0 : decode cX1_value 0 = .ok (.iconst 0, 1) := by decide +kernel
theorem dX1_value_1 : decode cX1_value 1 = .ok (.istore 4, 2) := by decide +kernel
theorem dX1_value_3 : decode cX1_value 3 = .ok (.iload_n 1, 1) := by decide +kernel
theorem dX1_value_4 : decode cX1_value 4 = .ok (.istore 5, 2) := by decide +kernel
theorem dX1_value_6 : decode cX1_value 6 = .ok (.iload 5, 2) := by decide +kernel
theorem dX1_value_8 : decode cX1_value 8 = .ok (.iload_n 2, 1) := by decide +kernel
theorem dX1_value_9 : decode cX1_value 9 = .ok (.if_icmp .ge 196, 3) := by decide +kernel
theorem dX1_value_12 : decode cX1_value 12 = .ok (.aload_n 0, 1) := by decide +kernel
theorem dX1_value_13 : decode cX1_value 13 = .ok (.getfield 9, 3) := by decide +kernel
theorem dX1_value_16 : decode cX1_value 16 = .ok (.iload 5, 2) := by decide +kernel
theorem dX1_value_18 : decode cX1_value 18 = .ok (.iaload, 1) := by decide +kernel
theorem dX1_value_19 : decode cX1_value 19 = .ok (.bipush 16, 2) := by decide +kernel
theorem dX1_value_21 : decode cX1_value 21 = .ok (.irem, 1) := by decide +kernel
theorem dX1_value_22 : decode cX1_value 22 = .ok (.istore 6, 2) := by decide +kernel
theorem dX1_value_24 : decode cX1_value 24 = .ok (.aload_n 0, 1) := by decide +kernel
theorem dX1_value_25 : decode cX1_value 25 = .ok (.getfield 9, 3) := by decide +kernel
theorem dX1_value_28 : decode cX1_value 28 = .ok (.iload 5, 2) := by decide +kernel
theorem dX1_value_30 : decode cX1_value 30 = .ok (.iaload, 1) := by decide +kernel
theorem dX1_value_31 : decode cX1_value 31 = .ok (.bipush 16, 2) := by decide +kernel
theorem dX1_value_33 : decode cX1_value 33 = .ok (.idiv, 1) := by decide +kernel
theorem dX1_value_34 : decode cX1_value 34 = .ok (.istore 7, 2) := by decide +kernel
theorem dX1_value_36 : decode cX1_value 36 = .ok (.iload 6, 2) := by decide +kernel
theorem dX1_value_38 : decode cX1_value 38 = .ok (.ifCond .eq 9, 3) := by decide +kernel
theorem dX1_value_41 : decode cX1_value 41 = .ok (.iload 6, 2) := by decide +kernel
theorem dX1_value_43 : decode cX1_value 43 = .ok (.iconst 1, 1) := by decide +kernel
theorem dX1_value_44 : decode cX1_value 44 = .ok (.if_icmp .ne 39, 3) := by decide +kernel
theorem dX1_value_47 : decode cX1_value 47 = .ok (.iload 4, 2) := by decide +kernel
theorem dX1_value_49 : decode cX1_value 49 = .ok (.bipush 64, 2) := by decide +kernel
theorem dX1_value_51 : decode cX1_value 51 = .ok (.if_icmp .lt 5, 3) := by decide +kernel
theorem dX1_value_54 : decode cX1_value 54 = .ok (.iconst 0, 1) := by decide +kernel
theorem dX1_value_55 : decode cX1_value 55 = .ok (.ireturn, 1) := by decide +kernel
theorem dX1_value_56 : decode cX1_value 56 = .ok (.aload_n 0, 1) := by decide +kernel
theorem dX1_value_57 : decode cX1_value 57 = .ok (.getfield 37, 3) := by decide +kernel
theorem dX1_value_60 : decode cX1_value 60 = .ok (.iload 4, 2) := by decide +kernel
theorem dX1_value_62 : decode cX1_value 62 = .ok (.iload 6, 2) := by decide +kernel
theorem dX1_value_64 : decode cX1_value 64 = .ok (.ifCond .ne 8, 3) := by decide +kernel
theorem dX1_value_67 : decode cX1_value 67 = .ok (.iload 7, 2) := by decide +kernel
theorem dX1_value_69 : decode cX1_value 69 = .ok (.goto 7, 3) := by decide +kernel
theorem dX1_value_72 : decode cX1_value 72 = .ok (.aload_n 3, 1) := by decide +kernel
theorem dX1_value_73 : decode cX1_value 73 = .ok (.iload 7, 2) := by decide +kernel
theorem dX1_value_75 : decode cX1_value 75 = .ok (.iaload, 1) := by decide +kernel
theorem dX1_value_76 : decode cX1_value 76 = .ok (.iastore, 1) := by decide +kernel
theorem dX1_value_77 : decode cX1_value 77 = .ok (.iinc 4 1, 3) := by decide +kernel
theorem dX1_value_80 : decode cX1_value 80 = .ok (.goto 119, 3) := by decide +kernel
theorem dX1_value_83 : decode cX1_value 83 = .ok (.iload 6, 2) := by decide +kernel
theorem dX1_value_85 : decode cX1_value 85 = .ok (.iconst 2, 1) := by decide +kernel
theorem dX1_value_86 : decode cX1_value 86 = .ok (.if_icmp .eq 9, 3) := by decide +kernel
theorem dX1_value_89 : decode cX1_value 89 = .ok (.iload 6, 2) := by decide +kernel
theorem dX1_value_91 : decode cX1_value 91 = .ok (.iconst 3, 1) := by decide +kernel
theorem dX1_value_92 : decode cX1_value 92 = .ok (.if_icmp .ne 66, 3) := by decide +kernel
theorem dX1_value_95 : decode cX1_value 95 = .ok (.iload 4, 2) := by decide +kernel
theorem dX1_value_97 : decode cX1_value 97 = .ok (.iconst 1, 1) := by decide +kernel
theorem dX1_value_98 : decode cX1_value 98 = .ok (.if_icmp .lt 14, 3) := by decide +kernel
theorem dX1_value_101 : decode cX1_value 101 = .ok (.iload 6, 2) := by decide +kernel
theorem dX1_value_103 : decode cX1_value 103 = .ok (.iconst 3, 1) := by decide +kernel
theorem dX1_value_104 : decode cX1_value 104 = .ok (.if_icmp .ne 10, 3) := by decide +kernel
theorem dX1_value_107 : decode cX1_value 107 = .ok (.iload 7, 2) := by decide +kernel
theorem dX1_value_109 : decode cX1_value 109 = .ok (.ifCond .ne 5, 3) := by decide +kernel
theorem dX1_value_112 : decode cX1_value 112 = .ok (.iconst 0, 1) := by decide +kernel
theorem dX1_value_113 : decode cX1_value 113 = .ok (.ireturn, 1) := by decide +kernel
theorem dX1_value_114 : decode cX1_value 114 = .ok (.aload_n 0, 1) := by decide +kernel
theorem dX1_value_115 : decode cX1_value 115 = .ok (.getfield 37, 3) := by decide +kernel
theorem dX1_value_118 : decode cX1_value 118 = .ok (.iload 4, 2) := by decide +kernel
theorem dX1_value_120 : decode cX1_value 120 = .ok (.iconst 1, 1) := by decide +kernel
theorem dX1_value_121 : decode cX1_value 121 = .ok (.isub, 1) := by decide +kernel
theorem dX1_value_122 : decode cX1_value 122 = .ok (.iload 6, 2) := by decide +kernel
theorem dX1_value_124 : decode cX1_value 124 = .ok (.iconst 3, 1) := by decide +kernel
theorem dX1_value_125 : decode cX1_value 125 = .ok (.if_icmp .ne 18, 3) := by decide +kernel
theorem dX1_value_128 : decode cX1_value 128 = .ok (.aload_n 0, 1) := by decide +kernel
theorem dX1_value_129 : decode cX1_value 129 = .ok (.getfield 37, 3) := by decide +kernel
theorem dX1_value_132 : decode cX1_value 132 = .ok (.iload 4, 2) := by decide +kernel
theorem dX1_value_134 : decode cX1_value 134 = .ok (.iconst 1, 1) := by decide +kernel
theorem dX1_value_135 : decode cX1_value 135 = .ok (.isub, 1) := by decide +kernel
theorem dX1_value_136 : decode cX1_value 136 = .ok (.iaload, 1) := by decide +kernel
theorem dX1_value_137 : decode cX1_value 137 = .ok (.iload 7, 2) := by decide +kernel
theorem dX1_value_139 : decode cX1_value 139 = .ok (.idiv, 1) := by decide +kernel
theorem dX1_value_140 : decode cX1_value 140 = .ok (.goto 14, 3) := by decide +kernel
theorem dX1_value_143 : decode cX1_value 143 = .ok (.iconst 1, 1) := by decide +kernel
theorem dX1_value_144 : decode cX1_value 144 = .ok (.aload_n 0, 1) := by decide +kernel
theorem dX1_value_145 : decode cX1_value 145 = .ok (.getfield 37, 3) := by decide +kernel
theorem dX1_value_148 : decode cX1_value 148 = .ok (.iload 4, 2) := by decide +kernel
theorem dX1_value_150 : decode cX1_value 150 = .ok (.iconst 1, 1) := by decide +kernel
theorem dX1_value_151 : decode cX1_value 151 = .ok (.isub, 1) := by decide +kernel
theorem dX1_value_152 : decode cX1_value 152 = .ok (.iaload, 1) := by decide +kernel
theorem dX1_value_153 : decode cX1_value 153 = .ok (.isub, 1) := by decide +kernel
theorem dX1_value_154 : decode cX1_value 154 = .ok (.iastore, 1) := by decide +kernel
theorem dX1_value_155 : decode cX1_value 155 = .ok (.goto 44, 3) := by decide +kernel
theorem dX1_value_158 : decode cX1_value 158 = .ok (.iload 4, 2) := by decide +kernel
theorem dX1_value_160 : decode cX1_value 160 = .ok (.iconst 2, 1) := by decide +kernel
theorem dX1_value_161 : decode cX1_value 161 = .ok (.if_icmp .ge 5, 3) := by decide +kernel
theorem dX1_value_164 : decode cX1_value 164 = .ok (.iconst 0, 1) := by decide +kernel
theorem dX1_value_165 : decode cX1_value 165 = .ok (.ireturn, 1) := by decide +kernel
theorem dX1_value_166 : decode cX1_value 166 = .ok (.iinc 4 (-1), 3) := by decide +kernel
theorem dX1_value_169 : decode cX1_value 169 = .ok (.aload_n 0, 1) := by decide +kernel
theorem dX1_value_170 : decode cX1_value 170 = .ok (.getfield 37, 3) := by decide +kernel
theorem dX1_value_173 : decode cX1_value 173 = .ok (.iload 4, 2) := by decide +kernel
theorem dX1_value_175 : decode cX1_value 175 = .ok (.iconst 1, 1) := by decide +kernel
theorem dX1_value_176 : decode cX1_value 176 = .ok (.isub, 1) := by decide +kernel
theorem dX1_value_177 : decode cX1_value 177 = .ok (.iload 6, 2) := by decide +kernel
theorem dX1_value_179 : decode cX1_value 179 = .ok (.aload_n 0, 1) := by decide +kernel
theorem dX1_value_180 : decode cX1_value 180 = .ok (.getfield 37, 3) := by decide +kernel
theorem dX1_value_183 : decode cX1_value 183 = .ok (.iload 4, 2) := by decide +kernel
theorem dX1_value_185 : decode cX1_value 185 = .ok (.iconst 1, 1) := by decide +kernel
theorem dX1_value_186 : decode cX1_value 186 = .ok (.isub, 1) := by decide +kernel
theorem dX1_value_187 : decode cX1_value 187 = .ok (.iaload, 1) := by decide +kernel
theorem dX1_value_188 : decode cX1_value 188 = .ok (.aload_n 0, 1) := by decide +kernel
theorem dX1_value_189 : decode cX1_value 189 = .ok (.getfield 37, 3) := by decide +kernel
theorem dX1_value_192 : decode cX1_value 192 = .ok (.iload 4, 2) := by decide +kernel
theorem dX1_value_194 : decode cX1_value 194 = .ok (.iaload, 1) := by decide +kernel
theorem dX1_value_195 : decode cX1_value 195 = .ok (.invokestatic 136, 3) := by decide +kernel
theorem dX1_value_198 : decode cX1_value 198 = .ok (.iastore, 1) := by decide +kernel
theorem dX1_value_199 : decode cX1_value 199 = .ok (.iinc 5 1, 3) := by decide +kernel
theorem dX1_value_202 : decode cX1_value 202 = .ok (.goto (-196), 3) := by decide +kernel
theorem dX1_value_205 : decode cX1_value 205 = .ok (.iload 4, 2) := by decide +kernel
theorem dX1_value_207 : decode cX1_value 207 = .ok (.ifCond .le 12, 3) := by decide +kernel
theorem dX1_value_210 : decode cX1_value 210 = .ok (.aload_n 0, 1) := by decide +kernel
theorem dX1_value_211 : decode cX1_value 211 = .ok (.getfield 37, 3) := by decide +kernel
theorem dX1_value_214 : decode cX1_value 214 = .ok (.iconst 0, 1) := by decide +kernel
theorem dX1_value_215 : decode cX1_value 215 = .ok (.iaload, 1) := by decide +kernel
theorem dX1_value_216 : decode cX1_value 216 = .ok (.goto 4, 3) := by decide +kernel
theorem dX1_value_219 : decode cX1_value 219 = .ok (.iconst 0, 1) := by decide +kernel
theorem dX1_value_220 : decode cX1_value 220 = .ok (.ireturn, 1) := by decide +kernel
set_option maxRecDepth 20000 in
theorem vX1_value {g : zG} {d : Nat} {Q : Int32 → zM → Prop} {M : zM} {l1 : Int32} {l2 : Int32} (h : zW shC g (d + 1) mX1_value (zi Q) 6 [(0, .ref 15), (2, .int l2), (3, .ref 26), (4, .int 0), (5, .int l1)] [] M) : zCi shC g (d + 1) mX1_value [.ref 15, .int l1, .int l2, .ref 26] M Q := by
  refine zW.enter (by decide +kernel) (Nat.le_of_ble_eq_true rfl) ?_
  change zW shC g (d + 1) mX1_value (zi Q) 0 [(0, .ref 15), (1, .int l1), (2, .int l2), (3, .ref 26)] [] M
  refine z_iconst (v := 0) dX1_value_0 (by decide) ?_
  refine z_istore [(4, .int 0), (0, .ref 15), (1, .int l1), (2, .int l2), (3, .ref 26)] dX1_value_1 (by decide) rfl ?_
  refine z_iload_n dX1_value_3 2 rfl ?_
  refine z_istore [(5, .int l1), (4, .int 0), (0, .ref 15), (1, .int l1), (2, .int l2), (3, .ref 26)] dX1_value_4 (by decide) rfl ?_
  exact zW.sub [2, 4, 5, 1, 0] rfl h
set_option maxRecDepth 20000 in
theorem vX1_value_6 {g : zG} {d : Nat} {Q : Int32 → zM → Prop} {M : zM} {l2 : Int32} {l4 : Int32} {l5 : Int32} (h : (l2 ≤ l5 → (l4 ≤ 0 → Q 0 M) ∧ (¬ l4 ≤ 0 → Q (M 21 0) M)) ∧ (¬ l2 ≤ l5 → ∃ k1 : Nat, l5 = iv k1 ∧ k1 < 400 ∧ (((M 16 k1) - (M 16 k1) / 16 * 16) = 0 → zW shC g (d + 1) mX1_value (zi Q) 47 [(0, .ref 15), (2, .int l2), (3, .ref 26), (4, .int l4), (5, .int l5), (6, .int ((M 16 k1) - (M 16 k1) / 16 * 16)), (7, .int ((M 16 k1) / 16))] [] M) ∧ (¬ ((M 16 k1) - (M 16 k1) / 16 * 16) = 0 → (¬ ((M 16 k1) - (M 16 k1) / 16 * 16) = 1 → (((M 16 k1) - (M 16 k1) / 16 * 16) = 2 → zW shC g (d + 1) mX1_value (zi Q) 95 [(0, .ref 15), (2, .int l2), (3, .ref 26), (4, .int l4), (5, .int l5), (6, .int ((M 16 k1) - (M 16 k1) / 16 * 16)), (7, .int ((M 16 k1) / 16))] [] M) ∧ (¬ ((M 16 k1) - (M 16 k1) / 16 * 16) = 2 → (¬ ((M 16 k1) - (M 16 k1) / 16 * 16) = 3 → (2 ≤ l4 → ∃ k2 : Nat, ((l4 + (-1)) - 1) = iv k2 ∧ k2 < 64 ∧ ∃ k3 : Nat, (l4 + (-1)) = iv k3 ∧ k3 < 64 ∧ zCi shC g d mX1_joined [.int ((M 16 k1) - (M 16 k1) / 16 * 16), .int (M 21 k2), .int (M 21 k3)] M (fun x1 M1 => zW shC g (d + 1) mX1_value (zi Q) 6 [(0, .ref 15), (2, .int l2), (3, .ref 26), (4, .int (l4 + (-1))), (5, .int (l5 + 1))] [] (zup M1 21 k2 x1))) ∧ (¬ 2 ≤ l4 → Q 0 M)) ∧ (((M 16 k1) - (M 16 k1) / 16 * 16) = 3 → zW shC g (d + 1) mX1_value (zi Q) 95 [(0, .ref 15), (2, .int l2), (3, .ref 26), (4, .int l4), (5, .int l5), (6, .int ((M 16 k1) - (M 16 k1) / 16 * 16)), (7, .int ((M 16 k1) / 16))] [] M))) ∧ (((M 16 k1) - (M 16 k1) / 16 * 16) = 1 → zW shC g (d + 1) mX1_value (zi Q) 47 [(0, .ref 15), (2, .int l2), (3, .ref 26), (4, .int l4), (5, .int l5), (6, .int ((M 16 k1) - (M 16 k1) / 16 * 16)), (7, .int ((M 16 k1) / 16))] [] M)))) : zW shC g (d + 1) mX1_value (zi Q) 6 [(0, .ref 15), (2, .int l2), (3, .ref 26), (4, .int l4), (5, .int l5)] [] M := by
  refine z_iload dX1_value_6 4 rfl ?_
  refine z_iload_n dX1_value_8 1 rfl ?_
  refine z_icmp_ge 205 dX1_value_9 (by decide) (fun c1 => ?_) (fun c1 => ?_)
  · have h := h.1 c1
    refine z_iload dX1_value_205 3 rfl ?_
    refine z_if_le 219 dX1_value_207 (by decide) (fun c2 => ?_) (fun c2 => ?_)
    · have h := h.1 c2
      refine z_iconst (v := 0) dX1_value_219 (by decide) ?_
      exact z_iret (st := []) rfl rfl dX1_value_220 ⟨_, rfl, h⟩
    · have h := h.2 c2
      refine z_aload_n dX1_value_210 0 rfl ?_
      refine z_getr shC_15 rfl flX1_37 dX1_value_211 ?_
      refine z_iconst (v := 0) dX1_value_214 (by decide) ?_
      refine z_iald2 (k0 := 0) shC_21 (by decide) (by decide) (by decide) dX1_value_215 ?_
      refine z_goto 220 dX1_value_216 (by decide) ?_
      exact z_iret (st := []) rfl rfl dX1_value_220 ⟨_, rfl, h⟩
  · have h := h.2 c1
    refine z_aload_n dX1_value_12 0 rfl ?_
    refine z_getr shC_15 rfl flX1_9 dX1_value_13 ?_
    refine z_iload dX1_value_16 4 rfl ?_
    obtain ⟨k1, ek1, uk1, h⟩ := h
    refine z_iald2 (k0 := k1) shC_16 (by decide) ek1 uk1 dX1_value_18 ?_
    refine z_bipush (v := 16) dX1_value_19 (by decide) ?_
    refine z_irem dX1_value_21 (by decide) ?_
    refine z_istore [(6, .int ((M 16 k1) - (M 16 k1) / 16 * 16)), (0, .ref 15), (2, .int l2), (3, .ref 26), (4, .int l4), (5, .int l5)] dX1_value_22 (by decide) rfl ?_
    refine z_aload_n dX1_value_24 1 rfl ?_
    refine z_getr shC_15 rfl flX1_9 dX1_value_25 ?_
    refine z_iload dX1_value_28 5 rfl ?_
    refine z_iald2 (k0 := k1) shC_16 (by decide) ek1 uk1 dX1_value_30 ?_
    refine z_bipush (v := 16) dX1_value_31 (by decide) ?_
    refine z_idiv dX1_value_33 (by decide) ?_
    refine z_istore [(7, .int ((M 16 k1) / 16)), (6, .int ((M 16 k1) - (M 16 k1) / 16 * 16)), (0, .ref 15), (2, .int l2), (3, .ref 26), (4, .int l4), (5, .int l5)] dX1_value_34 (by decide) rfl ?_
    refine z_iload dX1_value_36 1 rfl ?_
    refine z_if_eq 47 dX1_value_38 (by decide) (fun c2 => ?_) (fun c2 => ?_)
    · have h := h.1 c2
      exact zW.sub [2, 3, 4, 5, 6, 1, 0] rfl h
    · have h := h.2 c2
      refine z_iload dX1_value_41 1 rfl ?_
      refine z_iconst (v := 1) dX1_value_43 (by decide) ?_
      refine z_icmp_ne 83 dX1_value_44 (by decide) (fun c3 => ?_) (fun c3 => ?_)
      · have h := h.1 c3
        refine z_iload dX1_value_83 1 rfl ?_
        refine z_iconst (v := 2) dX1_value_85 (by decide) ?_
        refine z_icmp_eq 95 dX1_value_86 (by decide) (fun c4 => ?_) (fun c4 => ?_)
        · have h := h.1 c4
          exact zW.sub [2, 3, 4, 5, 6, 1, 0] rfl h
        · have h := h.2 c4
          refine z_iload dX1_value_89 1 rfl ?_
          refine z_iconst (v := 3) dX1_value_91 (by decide) ?_
          refine z_icmp_ne 158 dX1_value_92 (by decide) (fun c5 => ?_) (fun c5 => ?_)
          · have h := h.1 c5
            refine z_iload dX1_value_158 5 rfl ?_
            refine z_iconst (v := 2) dX1_value_160 (by decide) ?_
            refine z_icmp_ge 166 dX1_value_161 (by decide) (fun c6 => ?_) (fun c6 => ?_)
            · have h := h.1 c6
              refine z_iinc (x := l4) (v := (l4 + (-1))) [(4, .int (l4 + (-1))), (7, .int ((M 16 k1) / 16)), (6, .int ((M 16 k1) - (M 16 k1) / 16 * 16)), (0, .ref 15), (2, .int l2), (3, .ref 26), (5, .int l5)] dX1_value_166 5 rfl rfl (by decide) rfl ?_
              refine z_aload_n dX1_value_169 3 rfl ?_
              refine z_getr shC_15 rfl flX1_37 dX1_value_170 ?_
              refine z_iload dX1_value_173 0 rfl ?_
              refine z_iconst (v := 1) dX1_value_175 (by decide) ?_
              refine z_isub dX1_value_176 ?_
              refine z_iload dX1_value_177 2 rfl ?_
              refine z_aload_n dX1_value_179 3 rfl ?_
              refine z_getr shC_15 rfl flX1_37 dX1_value_180 ?_
              refine z_iload dX1_value_183 0 rfl ?_
              refine z_iconst (v := 1) dX1_value_185 (by decide) ?_
              refine z_isub dX1_value_186 ?_
              obtain ⟨k2, ek2, uk2, h⟩ := h
              refine z_iald2 (k0 := k2) shC_21 (by decide) ek2 uk2 dX1_value_187 ?_
              refine z_aload_n dX1_value_188 3 rfl ?_
              refine z_getr shC_15 rfl flX1_37 dX1_value_189 ?_
              refine z_iload dX1_value_192 0 rfl ?_
              obtain ⟨k3, ek3, uk3, h⟩ := h
              refine z_iald2 (k0 := k3) shC_21 (by decide) ek3 uk3 dX1_value_194 ?_
              refine z_callS (m2 := mX1_joined) (st := [.int ((l4 + (-1)) - 1), .ref 21]) [.int ((M 16 k1) - (M 16 k1) / 16 * 16), .int (M 21 k2), .int (M 21 k3)] okX1_joined (Or.inl lkX1_136) rfl rfl (Nat.le_of_ble_eq_true rfl) dX1_value_195 (zgo_i h fun x1 M1 h => ?_)
              refine z_iast2 (k0 := k2) shC_21 (by decide) ek2 uk2 dX1_value_198 ?_
              refine z_iinc (x := l5) (v := (l5 + 1)) [(5, .int (l5 + 1)), (4, .int (l4 + (-1))), (7, .int ((M 16 k1) / 16)), (6, .int ((M 16 k1) - (M 16 k1) / 16 * 16)), (0, .ref 15), (2, .int l2), (3, .ref 26)] dX1_value_199 6 rfl rfl (by decide) rfl ?_
              refine z_goto 6 dX1_value_202 (by decide) ?_
              exact zW.sub [4, 5, 6, 1, 0] rfl h
            · have h := h.2 c6
              refine z_iconst (v := 0) dX1_value_164 (by decide) ?_
              exact z_iret (st := []) rfl rfl dX1_value_165 ⟨_, rfl, h⟩
          · have h := h.2 c5
            exact zW.sub [2, 3, 4, 5, 6, 1, 0] rfl h
      · have h := h.2 c3
        exact zW.sub [2, 3, 4, 5, 6, 1, 0] rfl h
set_option maxRecDepth 20000 in
theorem vX1_value_47 {g : zG} {d : Nat} {Q : Int32 → zM → Prop} {M : zM} {l2 : Int32} {l4 : Int32} {l5 : Int32} {l6 : Int32} {l7 : Int32} (h : (l4 < 64 → (¬ l6 = 0 → ∃ k1 : Nat, l7 = iv k1 ∧ k1 < 6 ∧ ∃ k2 : Nat, l4 = iv k2 ∧ k2 < 64 ∧ zW shC g (d + 1) mX1_value (zi Q) 6 [(0, .ref 15), (2, .int l2), (3, .ref 26), (4, .int (l4 + 1)), (5, .int (l5 + 1))] [] (zup M 21 k2 (M 26 k1))) ∧ (l6 = 0 → ∃ k1 : Nat, l4 = iv k1 ∧ k1 < 64 ∧ zW shC g (d + 1) mX1_value (zi Q) 6 [(0, .ref 15), (2, .int l2), (3, .ref 26), (4, .int (l4 + 1)), (5, .int (l5 + 1))] [] (zup M 21 k1 l7))) ∧ (¬ l4 < 64 → Q 0 M)) : zW shC g (d + 1) mX1_value (zi Q) 47 [(0, .ref 15), (2, .int l2), (3, .ref 26), (4, .int l4), (5, .int l5), (6, .int l6), (7, .int l7)] [] M := by
  refine z_iload dX1_value_47 3 rfl ?_
  refine z_bipush (v := 64) dX1_value_49 (by decide) ?_
  refine z_icmp_lt 56 dX1_value_51 (by decide) (fun c1 => ?_) (fun c1 => ?_)
  · have h := h.1 c1
    refine z_aload_n dX1_value_56 0 rfl ?_
    refine z_getr shC_15 rfl flX1_37 dX1_value_57 ?_
    refine z_iload dX1_value_60 3 rfl ?_
    refine z_iload dX1_value_62 5 rfl ?_
    refine z_if_ne 72 dX1_value_64 (by decide) (fun c2 => ?_) (fun c2 => ?_)
    · have h := h.1 c2
      refine z_aload_n dX1_value_72 2 rfl ?_
      refine z_iload dX1_value_73 6 rfl ?_
      obtain ⟨k1, ek1, uk1, h⟩ := h
      refine z_iald2 (k0 := k1) shC_26 (by decide) ek1 uk1 dX1_value_75 ?_
      obtain ⟨k2, ek2, uk2, h⟩ := h
      refine z_iast2 (k0 := k2) shC_21 (by decide) ek2 uk2 dX1_value_76 ?_
      refine z_iinc (x := l4) (v := (l4 + 1)) [(4, .int (l4 + 1)), (0, .ref 15), (2, .int l2), (3, .ref 26), (5, .int l5), (6, .int l6), (7, .int l7)] dX1_value_77 3 rfl rfl (by decide) rfl ?_
      refine z_goto 199 dX1_value_80 (by decide) ?_
      refine z_iinc (x := l5) (v := (l5 + 1)) [(5, .int (l5 + 1)), (4, .int (l4 + 1)), (0, .ref 15), (2, .int l2), (3, .ref 26), (6, .int l6), (7, .int l7)] dX1_value_199 4 rfl rfl (by decide) rfl ?_
      refine z_goto 6 dX1_value_202 (by decide) ?_
      exact zW.sub [2, 3, 4, 1, 0] rfl h
    · have h := h.2 c2
      refine z_iload dX1_value_67 6 rfl ?_
      refine z_goto 76 dX1_value_69 (by decide) ?_
      obtain ⟨k1, ek1, uk1, h⟩ := h
      refine z_iast2 (k0 := k1) shC_21 (by decide) ek1 uk1 dX1_value_76 ?_
      refine z_iinc (x := l4) (v := (l4 + 1)) [(4, .int (l4 + 1)), (0, .ref 15), (2, .int l2), (3, .ref 26), (5, .int l5), (6, .int l6), (7, .int l7)] dX1_value_77 3 rfl rfl (by decide) rfl ?_
      refine z_goto 199 dX1_value_80 (by decide) ?_
      refine z_iinc (x := l5) (v := (l5 + 1)) [(5, .int (l5 + 1)), (4, .int (l4 + 1)), (0, .ref 15), (2, .int l2), (3, .ref 26), (6, .int l6), (7, .int l7)] dX1_value_199 4 rfl rfl (by decide) rfl ?_
      refine z_goto 6 dX1_value_202 (by decide) ?_
      exact zW.sub [2, 3, 4, 1, 0] rfl h
  · have h := h.2 c1
    refine z_iconst (v := 0) dX1_value_54 (by decide) ?_
    exact z_iret (st := []) rfl rfl dX1_value_55 ⟨_, rfl, h⟩
set_option maxRecDepth 20000 in
theorem vX1_value_95 {g : zG} {d : Nat} {Q : Int32 → zM → Prop} {M : zM} {l2 : Int32} {l4 : Int32} {l5 : Int32} {l6 : Int32} {l7 : Int32} (h : (l4 < 1 → Q 0 M) ∧ (¬ l4 < 1 → (¬ l6 = 3 → zW shC g (d + 1) mX1_value (zi Q) 114 [(0, .ref 15), (2, .int l2), (3, .ref 26), (4, .int l4), (5, .int l5), (6, .int l6), (7, .int l7)] [] M) ∧ (l6 = 3 → (¬ l7 = 0 → zW shC g (d + 1) mX1_value (zi Q) 114 [(0, .ref 15), (2, .int l2), (3, .ref 26), (4, .int l4), (5, .int l5), (6, .int l6), (7, .int l7)] [] M) ∧ (l7 = 0 → Q 0 M)))) : zW shC g (d + 1) mX1_value (zi Q) 95 [(0, .ref 15), (2, .int l2), (3, .ref 26), (4, .int l4), (5, .int l5), (6, .int l6), (7, .int l7)] [] M := by
  refine z_iload dX1_value_95 3 rfl ?_
  refine z_iconst (v := 1) dX1_value_97 (by decide) ?_
  refine z_icmp_lt 112 dX1_value_98 (by decide) (fun c1 => ?_) (fun c1 => ?_)
  · have h := h.1 c1
    refine z_iconst (v := 0) dX1_value_112 (by decide) ?_
    exact z_iret (st := []) rfl rfl dX1_value_113 ⟨_, rfl, h⟩
  · have h := h.2 c1
    refine z_iload dX1_value_101 5 rfl ?_
    refine z_iconst (v := 3) dX1_value_103 (by decide) ?_
    refine z_icmp_ne 114 dX1_value_104 (by decide) (fun c2 => ?_) (fun c2 => ?_)
    · have h := h.1 c2
      exact h
    · have h := h.2 c2
      refine z_iload dX1_value_107 6 rfl ?_
      refine z_if_ne 114 dX1_value_109 (by decide) (fun c3 => ?_) (fun c3 => ?_)
      · have h := h.1 c3
        exact h
      · have h := h.2 c3
        refine z_iconst (v := 0) dX1_value_112 (by decide) ?_
        exact z_iret (st := []) rfl rfl dX1_value_113 ⟨_, rfl, h⟩
set_option maxRecDepth 20000 in
theorem vX1_value_114 {g : zG} {d : Nat} {Q : Int32 → zM → Prop} {M : zM} {l2 : Int32} {l4 : Int32} {l5 : Int32} {l6 : Int32} {l7 : Int32} (h : (¬ l6 = 3 → ∃ k1 : Nat, (l4 - 1) = iv k1 ∧ k1 < 64 ∧ zW shC g (d + 1) mX1_value (zi Q) 6 [(0, .ref 15), (2, .int l2), (3, .ref 26), (4, .int l4), (5, .int (l5 + 1))] [] (zup M 21 k1 (1 - (M 21 k1)))) ∧ (l6 = 3 → ∃ k1 : Nat, (l4 - 1) = iv k1 ∧ k1 < 64 ∧ ¬ l7 = 0 ∧ zW shC g (d + 1) mX1_value (zi Q) 6 [(0, .ref 15), (2, .int l2), (3, .ref 26), (4, .int l4), (5, .int (l5 + 1))] [] (zup M 21 k1 ((M 21 k1) / l7)))) : zW shC g (d + 1) mX1_value (zi Q) 114 [(0, .ref 15), (2, .int l2), (3, .ref 26), (4, .int l4), (5, .int l5), (6, .int l6), (7, .int l7)] [] M := by
  refine z_aload_n dX1_value_114 0 rfl ?_
  refine z_getr shC_15 rfl flX1_37 dX1_value_115 ?_
  refine z_iload dX1_value_118 3 rfl ?_
  refine z_iconst (v := 1) dX1_value_120 (by decide) ?_
  refine z_isub dX1_value_121 ?_
  refine z_iload dX1_value_122 5 rfl ?_
  refine z_iconst (v := 3) dX1_value_124 (by decide) ?_
  refine z_icmp_ne 143 dX1_value_125 (by decide) (fun c1 => ?_) (fun c1 => ?_)
  · have h := h.1 c1
    refine z_iconst (v := 1) dX1_value_143 (by decide) ?_
    refine z_aload_n dX1_value_144 0 rfl ?_
    refine z_getr shC_15 rfl flX1_37 dX1_value_145 ?_
    refine z_iload dX1_value_148 3 rfl ?_
    refine z_iconst (v := 1) dX1_value_150 (by decide) ?_
    refine z_isub dX1_value_151 ?_
    obtain ⟨k1, ek1, uk1, h⟩ := h
    refine z_iald2 (k0 := k1) shC_21 (by decide) ek1 uk1 dX1_value_152 ?_
    refine z_isub dX1_value_153 ?_
    refine z_iast2 (k0 := k1) shC_21 (by decide) ek1 uk1 dX1_value_154 ?_
    refine z_goto 199 dX1_value_155 (by decide) ?_
    refine z_iinc (x := l5) (v := (l5 + 1)) [(5, .int (l5 + 1)), (0, .ref 15), (2, .int l2), (3, .ref 26), (4, .int l4), (6, .int l6), (7, .int l7)] dX1_value_199 4 rfl rfl (by decide) rfl ?_
    refine z_goto 6 dX1_value_202 (by decide) ?_
    exact zW.sub [1, 2, 3, 4, 0] rfl h
  · have h := h.2 c1
    refine z_aload_n dX1_value_128 0 rfl ?_
    refine z_getr shC_15 rfl flX1_37 dX1_value_129 ?_
    refine z_iload dX1_value_132 3 rfl ?_
    refine z_iconst (v := 1) dX1_value_134 (by decide) ?_
    refine z_isub dX1_value_135 ?_
    obtain ⟨k1, ek1, uk1, h⟩ := h
    refine z_iald2 (k0 := k1) shC_21 (by decide) ek1 uk1 dX1_value_136 ?_
    refine z_iload dX1_value_137 6 rfl ?_
    refine z_idiv dX1_value_139 h.1 ?_
    have h := h.2
    refine z_goto 154 dX1_value_140 (by decide) ?_
    refine z_iast2 (k0 := k1) shC_21 (by decide) ek1 uk1 dX1_value_154 ?_
    refine z_goto 199 dX1_value_155 (by decide) ?_
    refine z_iinc (x := l5) (v := (l5 + 1)) [(5, .int (l5 + 1)), (0, .ref 15), (2, .int l2), (3, .ref 26), (4, .int l4), (6, .int l6), (7, .int l7)] dX1_value_199 4 rfl rfl (by decide) rfl ?_
    refine z_goto 6 dX1_value_202 (by decide) ?_
    exact zW.sub [1, 2, 3, 4, 0] rfl h
theorem dX1_joined_0 : decode cX1_joined 0 = .ok (.iload_n 0, 1) := by decide +kernel
theorem dX1_joined_1 : decode cX1_joined 1 = .ok (.tableswitch 100 4 11 #[47, 51, 55, 59, 70, 81, 92, 96], 47) := by decide +kernel
theorem dX1_joined_48 : decode cX1_joined 48 = .ok (.iload_n 1, 1) := by decide +kernel
theorem dX1_joined_49 : decode cX1_joined 49 = .ok (.iload_n 2, 1) := by decide +kernel
theorem dX1_joined_50 : decode cX1_joined 50 = .ok (.imul, 1) := by decide +kernel
theorem dX1_joined_51 : decode cX1_joined 51 = .ok (.ireturn, 1) := by decide +kernel
theorem dX1_joined_52 : decode cX1_joined 52 = .ok (.iload_n 1, 1) := by decide +kernel
theorem dX1_joined_53 : decode cX1_joined 53 = .ok (.iload_n 2, 1) := by decide +kernel
theorem dX1_joined_54 : decode cX1_joined 54 = .ok (.iadd, 1) := by decide +kernel
theorem dX1_joined_55 : decode cX1_joined 55 = .ok (.ireturn, 1) := by decide +kernel
theorem dX1_joined_56 : decode cX1_joined 56 = .ok (.iload_n 1, 1) := by decide +kernel
theorem dX1_joined_57 : decode cX1_joined 57 = .ok (.iload_n 2, 1) := by decide +kernel
theorem dX1_joined_58 : decode cX1_joined 58 = .ok (.isub, 1) := by decide +kernel
theorem dX1_joined_59 : decode cX1_joined 59 = .ok (.ireturn, 1) := by decide +kernel
theorem dX1_joined_60 : decode cX1_joined 60 = .ok (.iload_n 1, 1) := by decide +kernel
theorem dX1_joined_61 : decode cX1_joined 61 = .ok (.iload_n 2, 1) := by decide +kernel
theorem dX1_joined_62 : decode cX1_joined 62 = .ok (.if_icmp .ge 7, 3) := by decide +kernel
theorem dX1_joined_65 : decode cX1_joined 65 = .ok (.iconst 1, 1) := by decide +kernel
theorem dX1_joined_66 : decode cX1_joined 66 = .ok (.goto 4, 3) := by decide +kernel
theorem dX1_joined_69 : decode cX1_joined 69 = .ok (.iconst 0, 1) := by decide +kernel
theorem dX1_joined_70 : decode cX1_joined 70 = .ok (.ireturn, 1) := by decide +kernel
theorem dX1_joined_71 : decode cX1_joined 71 = .ok (.iload_n 1, 1) := by decide +kernel
theorem dX1_joined_72 : decode cX1_joined 72 = .ok (.iload_n 2, 1) := by decide +kernel
theorem dX1_joined_73 : decode cX1_joined 73 = .ok (.if_icmp .ne 7, 3) := by decide +kernel
theorem dX1_joined_76 : decode cX1_joined 76 = .ok (.iconst 1, 1) := by decide +kernel
theorem dX1_joined_77 : decode cX1_joined 77 = .ok (.goto 4, 3) := by decide +kernel
theorem dX1_joined_80 : decode cX1_joined 80 = .ok (.iconst 0, 1) := by decide +kernel
theorem dX1_joined_81 : decode cX1_joined 81 = .ok (.ireturn, 1) := by decide +kernel
theorem dX1_joined_82 : decode cX1_joined 82 = .ok (.iload_n 1, 1) := by decide +kernel
theorem dX1_joined_83 : decode cX1_joined 83 = .ok (.iload_n 2, 1) := by decide +kernel
theorem dX1_joined_84 : decode cX1_joined 84 = .ok (.if_icmp .le 7, 3) := by decide +kernel
theorem dX1_joined_87 : decode cX1_joined 87 = .ok (.iconst 1, 1) := by decide +kernel
theorem dX1_joined_88 : decode cX1_joined 88 = .ok (.goto 4, 3) := by decide +kernel
theorem dX1_joined_91 : decode cX1_joined 91 = .ok (.iconst 0, 1) := by decide +kernel
theorem dX1_joined_92 : decode cX1_joined 92 = .ok (.ireturn, 1) := by decide +kernel
theorem dX1_joined_93 : decode cX1_joined 93 = .ok (.iload_n 1, 1) := by decide +kernel
theorem dX1_joined_94 : decode cX1_joined 94 = .ok (.iload_n 2, 1) := by decide +kernel
theorem dX1_joined_95 : decode cX1_joined 95 = .ok (.iand, 1) := by decide +kernel
theorem dX1_joined_96 : decode cX1_joined 96 = .ok (.ireturn, 1) := by decide +kernel
theorem dX1_joined_97 : decode cX1_joined 97 = .ok (.iload_n 1, 1) := by decide +kernel
theorem dX1_joined_98 : decode cX1_joined 98 = .ok (.iload_n 2, 1) := by decide +kernel
theorem dX1_joined_99 : decode cX1_joined 99 = .ok (.ior, 1) := by decide +kernel
theorem dX1_joined_100 : decode cX1_joined 100 = .ok (.ireturn, 1) := by decide +kernel
theorem dX1_joined_101 : decode cX1_joined 101 = .ok (.iconst 0, 1) := by decide +kernel
theorem dX1_joined_102 : decode cX1_joined 102 = .ok (.ireturn, 1) := by decide +kernel
set_option maxRecDepth 20000 in
theorem vX1_joined {g : zG} {d : Nat} {Q : Int32 → zM → Prop} {M : zM} {l0 : Int32} {l1 : Int32} {l2 : Int32} (h : (l0.toInt < 4 ∨ 11 < l0.toInt → Q 0 M) ∧ (l0.toInt = 4 → Q (l1 * l2) M) ∧ (l0.toInt = 5 → Q (l1 + l2) M) ∧ (l0.toInt = 6 → Q (l1 - l2) M) ∧ (l0.toInt = 7 → (l2 ≤ l1 → Q 0 M) ∧ (¬ l2 ≤ l1 → Q 1 M)) ∧ (l0.toInt = 8 → (¬ l1 = l2 → Q 0 M) ∧ (l1 = l2 → Q 1 M)) ∧ (l0.toInt = 9 → (l1 ≤ l2 → Q 0 M) ∧ (¬ l1 ≤ l2 → Q 1 M)) ∧ (l0.toInt = 10 → Q (l1 &&& l2) M) ∧ (l0.toInt = 11 → Q (l1 ||| l2) M)) : zCi shC g d mX1_joined [.int l0, .int l1, .int l2] M Q := by
  refine zW.enter (by decide +kernel) (Nat.le_of_ble_eq_true rfl) ?_
  change zW shC g d mX1_joined (zi Q) 0 [(0, .int l0), (1, .int l1), (2, .int l2)] [] M
  refine z_iload_n dX1_joined_0 0 rfl ?_
  refine z_table [48, 52, 56, 60, 71, 82, 93, 97] 101 dX1_joined_1 (by decide) (by decide) (by decide) (fun c1 => ?_) ⟨fun c1 => ?_, fun c1 => ?_, fun c1 => ?_, fun c1 => ?_, fun c1 => ?_, fun c1 => ?_, fun c1 => ?_, fun c1 => ?_, trivial⟩
  · have h := h.1 c1
    refine z_iconst (v := 0) dX1_joined_101 (by decide) ?_
    exact z_iret (st := []) rfl rfl dX1_joined_102 ⟨_, rfl, h⟩
  · have h := h.2.1 c1
    refine z_iload_n dX1_joined_48 1 rfl ?_
    refine z_iload_n dX1_joined_49 2 rfl ?_
    refine z_imul dX1_joined_50 ?_
    exact z_iret (st := []) rfl rfl dX1_joined_51 ⟨_, rfl, h⟩
  · have h := h.2.2.1 c1
    refine z_iload_n dX1_joined_52 1 rfl ?_
    refine z_iload_n dX1_joined_53 2 rfl ?_
    refine z_iadd dX1_joined_54 ?_
    exact z_iret (st := []) rfl rfl dX1_joined_55 ⟨_, rfl, h⟩
  · have h := h.2.2.2.1 c1
    refine z_iload_n dX1_joined_56 1 rfl ?_
    refine z_iload_n dX1_joined_57 2 rfl ?_
    refine z_isub dX1_joined_58 ?_
    exact z_iret (st := []) rfl rfl dX1_joined_59 ⟨_, rfl, h⟩
  · have h := h.2.2.2.2.1 c1
    refine z_iload_n dX1_joined_60 1 rfl ?_
    refine z_iload_n dX1_joined_61 2 rfl ?_
    refine z_icmp_ge 69 dX1_joined_62 (by decide) (fun c2 => ?_) (fun c2 => ?_)
    · have h := h.1 c2
      refine z_iconst (v := 0) dX1_joined_69 (by decide) ?_
      exact z_iret (st := []) rfl rfl dX1_joined_70 ⟨_, rfl, h⟩
    · have h := h.2 c2
      refine z_iconst (v := 1) dX1_joined_65 (by decide) ?_
      refine z_goto 70 dX1_joined_66 (by decide) ?_
      exact z_iret (st := []) rfl rfl dX1_joined_70 ⟨_, rfl, h⟩
  · have h := h.2.2.2.2.2.1 c1
    refine z_iload_n dX1_joined_71 1 rfl ?_
    refine z_iload_n dX1_joined_72 2 rfl ?_
    refine z_icmp_ne 80 dX1_joined_73 (by decide) (fun c2 => ?_) (fun c2 => ?_)
    · have h := h.1 c2
      refine z_iconst (v := 0) dX1_joined_80 (by decide) ?_
      exact z_iret (st := []) rfl rfl dX1_joined_81 ⟨_, rfl, h⟩
    · have h := h.2 c2
      refine z_iconst (v := 1) dX1_joined_76 (by decide) ?_
      refine z_goto 81 dX1_joined_77 (by decide) ?_
      exact z_iret (st := []) rfl rfl dX1_joined_81 ⟨_, rfl, h⟩
  · have h := h.2.2.2.2.2.2.1 c1
    refine z_iload_n dX1_joined_82 1 rfl ?_
    refine z_iload_n dX1_joined_83 2 rfl ?_
    refine z_icmp_le 91 dX1_joined_84 (by decide) (fun c2 => ?_) (fun c2 => ?_)
    · have h := h.1 c2
      refine z_iconst (v := 0) dX1_joined_91 (by decide) ?_
      exact z_iret (st := []) rfl rfl dX1_joined_92 ⟨_, rfl, h⟩
    · have h := h.2 c2
      refine z_iconst (v := 1) dX1_joined_87 (by decide) ?_
      refine z_goto 92 dX1_joined_88 (by decide) ?_
      exact z_iret (st := []) rfl rfl dX1_joined_92 ⟨_, rfl, h⟩
  · have h := h.2.2.2.2.2.2.2.1 c1
    refine z_iload_n dX1_joined_93 1 rfl ?_
    refine z_iload_n dX1_joined_94 2 rfl ?_
    refine z_iand dX1_joined_95 ?_
    exact z_iret (st := []) rfl rfl dX1_joined_96 ⟨_, rfl, h⟩
  · have h := h.2.2.2.2.2.2.2.2 c1
    refine z_iload_n dX1_joined_97 1 rfl ?_
    refine z_iload_n dX1_joined_98 2 rfl ?_
    refine z_ior dX1_joined_99 ?_
    exact z_iret (st := []) rfl rfl dX1_joined_100 ⟨_, rfl, h⟩
theorem dX3_clear_0 : decode cX3_clear 0 = .ok (.aload_n 0, 1) := by decide +kernel
theorem dX3_clear_1 : decode cX3_clear 1 = .ok (.iconst 0, 1) := by decide +kernel
theorem dX3_clear_2 : decode cX3_clear 2 = .ok (.putfield 15, 3) := by decide +kernel
theorem dX3_clear_5 : decode cX3_clear 5 = .ok (.aload_n 0, 1) := by decide +kernel
theorem dX3_clear_6 : decode cX3_clear 6 = .ok (.iconst 0, 1) := by decide +kernel
theorem dX3_clear_7 : decode cX3_clear 7 = .ok (.putfield 25, 3) := by decide +kernel
theorem dX3_clear_10 : decode cX3_clear 10 = .ok (.return_, 1) := by decide +kernel
set_option maxRecDepth 20000 in
theorem vX3_clear_a {g : zG} {d : Nat} {Q : zM → Prop} {M : zM} (h : Q (zup (zup M 22 1 0) 22 4 0)) : zCv shC g d mX3_clear [.ref 22] M Q := by
  refine zW.enter (by decide +kernel) (Nat.le_of_ble_eq_true rfl) ?_
  change zW shC g d mX3_clear (zv Q) 0 [(0, .ref 22)] [] M
  refine z_aload_n dX3_clear_0 0 rfl ?_
  refine z_iconst (v := 0) dX3_clear_1 (by decide) ?_
  refine z_puti shC_22 rfl fpX3_15 rfl rfl dX3_clear_2 ?_
  refine z_aload_n dX3_clear_5 0 rfl ?_
  refine z_iconst (v := 0) dX3_clear_6 (by decide) ?_
  refine z_puti shC_22 rfl fpX3_25 rfl rfl dX3_clear_7 ?_
  exact z_vret (st := []) rfl dX3_clear_10 ⟨rfl, h⟩
set_option maxRecDepth 20000 in
theorem vX3_clear_b {g : zG} {d : Nat} {Q : zM → Prop} {M : zM} (h : Q (zup (zup M 112 1 0) 112 4 0)) : zCv shC g d mX3_clear [.ref 112] M Q := by
  refine zW.enter (by decide +kernel) (Nat.le_of_ble_eq_true rfl) ?_
  change zW shC g d mX3_clear (zv Q) 0 [(0, .ref 112)] [] M
  refine z_aload_n dX3_clear_0 0 rfl ?_
  refine z_iconst (v := 0) dX3_clear_1 (by decide) ?_
  refine z_puti shC_112 rfl fpX3_15 rfl rfl dX3_clear_2 ?_
  refine z_aload_n dX3_clear_5 0 rfl ?_
  refine z_iconst (v := 0) dX3_clear_6 (by decide) ?_
  refine z_puti shC_112 rfl fpX3_25 rfl rfl dX3_clear_7 ?_
  exact z_vret (st := []) rfl dX3_clear_10 ⟨rfl, h⟩
theorem dX3_copy_0 : decode cX3_copy 0 = .ok (.aload_n 1, 1) := by decide +kernel
theorem dX3_copy_1 : decode cX3_copy 1 = .ok (.getfield 11, 3) := by decide +kernel
theorem dX3_copy_4 : decode cX3_copy 4 = .ok (.iconst 0, 1) := by decide +kernel
theorem dX3_copy_5 : decode cX3_copy 5 = .ok (.aload_n 0, 1) := by decide +kernel
theorem dX3_copy_6 : decode cX3_copy 6 = .ok (.getfield 11, 3) := by decide +kernel
theorem dX3_copy_9 : decode cX3_copy 9 = .ok (.iconst 0, 1) := by decide +kernel
theorem dX3_copy_10 : decode cX3_copy 10 = .ok (.bipush 8, 2) := by decide +kernel
theorem dX3_copy_12 : decode cX3_copy 12 = .ok (.invokestatic 28, 3) := by decide +kernel
theorem dX3_copy_15 : decode cX3_copy 15 = .ok (.aload_n 1, 1) := by decide +kernel
theorem dX3_copy_16 : decode cX3_copy 16 = .ok (.getfield 19, 3) := by decide +kernel
theorem dX3_copy_19 : decode cX3_copy 19 = .ok (.iconst 0, 1) := by decide +kernel
theorem dX3_copy_20 : decode cX3_copy 20 = .ok (.aload_n 0, 1) := by decide +kernel
theorem dX3_copy_21 : decode cX3_copy 21 = .ok (.getfield 19, 3) := by decide +kernel
theorem dX3_copy_24 : decode cX3_copy 24 = .ok (.iconst 0, 1) := by decide +kernel
theorem dX3_copy_25 : decode cX3_copy 25 = .ok (.bipush 10, 2) := by decide +kernel
theorem dX3_copy_27 : decode cX3_copy 27 = .ok (.invokestatic 28, 3) := by decide +kernel
theorem dX3_copy_30 : decode cX3_copy 30 = .ok (.aload_n 1, 1) := by decide +kernel
theorem dX3_copy_31 : decode cX3_copy 31 = .ok (.getfield 22, 3) := by decide +kernel
theorem dX3_copy_34 : decode cX3_copy 34 = .ok (.iconst 0, 1) := by decide +kernel
theorem dX3_copy_35 : decode cX3_copy 35 = .ok (.aload_n 0, 1) := by decide +kernel
theorem dX3_copy_36 : decode cX3_copy 36 = .ok (.getfield 22, 3) := by decide +kernel
theorem dX3_copy_39 : decode cX3_copy 39 = .ok (.iconst 0, 1) := by decide +kernel
theorem dX3_copy_40 : decode cX3_copy 40 = .ok (.bipush 10, 2) := by decide +kernel
theorem dX3_copy_42 : decode cX3_copy 42 = .ok (.invokestatic 28, 3) := by decide +kernel
theorem dX3_copy_45 : decode cX3_copy 45 = .ok (.aload_n 0, 1) := by decide +kernel
theorem dX3_copy_46 : decode cX3_copy 46 = .ok (.aload_n 1, 1) := by decide +kernel
theorem dX3_copy_47 : decode cX3_copy 47 = .ok (.getfield 15, 3) := by decide +kernel
theorem dX3_copy_50 : decode cX3_copy 50 = .ok (.putfield 15, 3) := by decide +kernel
theorem dX3_copy_53 : decode cX3_copy 53 = .ok (.aload_n 0, 1) := by decide +kernel
theorem dX3_copy_54 : decode cX3_copy 54 = .ok (.aload_n 1, 1) := by decide +kernel
theorem dX3_copy_55 : decode cX3_copy 55 = .ok (.getfield 25, 3) := by decide +kernel
theorem dX3_copy_58 : decode cX3_copy 58 = .ok (.putfield 25, 3) := by decide +kernel
theorem dX3_copy_61 : decode cX3_copy 61 = .ok (.return_, 1) := by decide +kernel
set_option maxRecDepth 20000 in
theorem vX3_copy_a {g : zG} {d : Nat} {Q : zM → Prop} {M : zM} (h : ∀ N1 : zM, N1 = zup (zup (zcpy (zcpy (zcpy M 113 23 8) 114 24 10) 115 25 10) 22 1 ((zcpy (zcpy (zcpy M 113 23 8) 114 24 10) 115 25 10) 112 1)) 22 4 ((zup (zcpy (zcpy (zcpy M 113 23 8) 114 24 10) 115 25 10) 22 1 ((zcpy (zcpy (zcpy M 113 23 8) 114 24 10) 115 25 10) 112 1)) 112 4) → Q N1) : zCv shC g (d + 1) mX3_copy [.ref 22, .ref 112] M Q := by
  refine zW.enter (by decide +kernel) (Nat.le_of_ble_eq_true rfl) ?_
  change zW shC g (d + 1) mX3_copy (zv Q) 0 [(0, .ref 22), (1, .ref 112)] [] M
  refine z_aload_n dX3_copy_0 1 rfl ?_
  refine z_getr shC_112 rfl flX3_11 dX3_copy_1 ?_
  refine z_iconst (v := 0) dX3_copy_4 (by decide) ?_
  refine z_aload_n dX3_copy_5 0 rfl ?_
  refine z_getr shC_22 rfl flX3_11 dX3_copy_6 ?_
  refine z_iconst (v := 0) dX3_copy_9 (by decide) ?_
  refine z_bipush (v := 8) dX3_copy_10 (by decide) ?_
  refine z_cpy (k0 := 8) shC_113 shC_23 (zat 769 (by decide +kernel) rfl) (by decide) (by decide) (by decide) (by decide) (by decide) (Nat.le_of_ble_eq_true rfl) dX3_copy_12 ?_
  refine z_aload_n dX3_copy_15 1 rfl ?_
  refine z_getr shC_112 rfl flX3_19 dX3_copy_16 ?_
  refine z_iconst (v := 0) dX3_copy_19 (by decide) ?_
  refine z_aload_n dX3_copy_20 0 rfl ?_
  refine z_getr shC_22 rfl flX3_19 dX3_copy_21 ?_
  refine z_iconst (v := 0) dX3_copy_24 (by decide) ?_
  refine z_bipush (v := 10) dX3_copy_25 (by decide) ?_
  refine z_cpy (k0 := 10) shC_114 shC_24 (zat 769 (by decide +kernel) rfl) (by decide) (by decide) (by decide) (by decide) (by decide) (Nat.le_of_ble_eq_true rfl) dX3_copy_27 ?_
  refine z_aload_n dX3_copy_30 1 rfl ?_
  refine z_getr shC_112 rfl flX3_22 dX3_copy_31 ?_
  refine z_iconst (v := 0) dX3_copy_34 (by decide) ?_
  refine z_aload_n dX3_copy_35 0 rfl ?_
  refine z_getr shC_22 rfl flX3_22 dX3_copy_36 ?_
  refine z_iconst (v := 0) dX3_copy_39 (by decide) ?_
  refine z_bipush (v := 10) dX3_copy_40 (by decide) ?_
  refine z_cpy (k0 := 10) shC_115 shC_25 (zat 769 (by decide +kernel) rfl) (by decide) (by decide) (by decide) (by decide) (by decide) (Nat.le_of_ble_eq_true rfl) dX3_copy_42 ?_
  refine z_aload_n dX3_copy_45 0 rfl ?_
  refine z_aload_n dX3_copy_46 1 rfl ?_
  refine z_geti shC_112 rfl flX3_15 dX3_copy_47 ?_
  refine z_puti shC_22 rfl fpX3_15 rfl rfl dX3_copy_50 ?_
  refine z_aload_n dX3_copy_53 0 rfl ?_
  refine z_aload_n dX3_copy_54 1 rfl ?_
  refine z_geti shC_112 rfl flX3_25 dX3_copy_55 ?_
  refine z_puti shC_22 rfl fpX3_25 rfl rfl dX3_copy_58 ?_
  obtain ⟨N1, eN1⟩ : ∃ y : zM, y = zup (zup (zcpy (zcpy (zcpy M 113 23 8) 114 24 10) 115 25 10) 22 1 ((zcpy (zcpy (zcpy M 113 23 8) 114 24 10) 115 25 10) 112 1)) 22 4 ((zup (zcpy (zcpy (zcpy M 113 23 8) 114 24 10) 115 25 10) 22 1 ((zcpy (zcpy (zcpy M 113 23 8) 114 24 10) 115 25 10) 112 1)) 112 4) := ⟨_, rfl⟩
  refine z_mem N1 eN1 ?_
  have h := h N1 eN1
  exact z_vret (st := []) rfl dX3_copy_61 ⟨rfl, h⟩
set_option maxRecDepth 20000 in
theorem vX3_copy_b {g : zG} {d : Nat} {Q : zM → Prop} {M : zM} (h : ∀ N1 : zM, N1 = zup (zup (zcpy (zcpy (zcpy M 23 50 8) 24 51 10) 25 52 10) 49 1 ((zcpy (zcpy (zcpy M 23 50 8) 24 51 10) 25 52 10) 22 1)) 49 4 ((zup (zcpy (zcpy (zcpy M 23 50 8) 24 51 10) 25 52 10) 49 1 ((zcpy (zcpy (zcpy M 23 50 8) 24 51 10) 25 52 10) 22 1)) 22 4) → Q N1) : zCv shC g (d + 1) mX3_copy [.ref 49, .ref 22] M Q := by
  refine zW.enter (by decide +kernel) (Nat.le_of_ble_eq_true rfl) ?_
  change zW shC g (d + 1) mX3_copy (zv Q) 0 [(0, .ref 49), (1, .ref 22)] [] M
  refine z_aload_n dX3_copy_0 1 rfl ?_
  refine z_getr shC_22 rfl flX3_11 dX3_copy_1 ?_
  refine z_iconst (v := 0) dX3_copy_4 (by decide) ?_
  refine z_aload_n dX3_copy_5 0 rfl ?_
  refine z_getr shC_49 rfl flX3_11 dX3_copy_6 ?_
  refine z_iconst (v := 0) dX3_copy_9 (by decide) ?_
  refine z_bipush (v := 8) dX3_copy_10 (by decide) ?_
  refine z_cpy (k0 := 8) shC_23 shC_50 (zat 769 (by decide +kernel) rfl) (by decide) (by decide) (by decide) (by decide) (by decide) (Nat.le_of_ble_eq_true rfl) dX3_copy_12 ?_
  refine z_aload_n dX3_copy_15 1 rfl ?_
  refine z_getr shC_22 rfl flX3_19 dX3_copy_16 ?_
  refine z_iconst (v := 0) dX3_copy_19 (by decide) ?_
  refine z_aload_n dX3_copy_20 0 rfl ?_
  refine z_getr shC_49 rfl flX3_19 dX3_copy_21 ?_
  refine z_iconst (v := 0) dX3_copy_24 (by decide) ?_
  refine z_bipush (v := 10) dX3_copy_25 (by decide) ?_
  refine z_cpy (k0 := 10) shC_24 shC_51 (zat 769 (by decide +kernel) rfl) (by decide) (by decide) (by decide) (by decide) (by decide) (Nat.le_of_ble_eq_true rfl) dX3_copy_27 ?_
  refine z_aload_n dX3_copy_30 1 rfl ?_
  refine z_getr shC_22 rfl flX3_22 dX3_copy_31 ?_
  refine z_iconst (v := 0) dX3_copy_34 (by decide) ?_
  refine z_aload_n dX3_copy_35 0 rfl ?_
  refine z_getr shC_49 rfl flX3_22 dX3_copy_36 ?_
  refine z_iconst (v := 0) dX3_copy_39 (by decide) ?_
  refine z_bipush (v := 10) dX3_copy_40 (by decide) ?_
  refine z_cpy (k0 := 10) shC_25 shC_52 (zat 769 (by decide +kernel) rfl) (by decide) (by decide) (by decide) (by decide) (by decide) (Nat.le_of_ble_eq_true rfl) dX3_copy_42 ?_
  refine z_aload_n dX3_copy_45 0 rfl ?_
  refine z_aload_n dX3_copy_46 1 rfl ?_
  refine z_geti shC_22 rfl flX3_15 dX3_copy_47 ?_
  refine z_puti shC_49 rfl fpX3_15 rfl rfl dX3_copy_50 ?_
  refine z_aload_n dX3_copy_53 0 rfl ?_
  refine z_aload_n dX3_copy_54 1 rfl ?_
  refine z_geti shC_22 rfl flX3_25 dX3_copy_55 ?_
  refine z_puti shC_49 rfl fpX3_25 rfl rfl dX3_copy_58 ?_
  obtain ⟨N1, eN1⟩ : ∃ y : zM, y = zup (zup (zcpy (zcpy (zcpy M 23 50 8) 24 51 10) 25 52 10) 49 1 ((zcpy (zcpy (zcpy M 23 50 8) 24 51 10) 25 52 10) 22 1)) 49 4 ((zup (zcpy (zcpy (zcpy M 23 50 8) 24 51 10) 25 52 10) 49 1 ((zcpy (zcpy (zcpy M 23 50 8) 24 51 10) 25 52 10) 22 1)) 22 4) := ⟨_, rfl⟩
  refine z_mem N1 eN1 ?_
  have h := h N1 eN1
  exact z_vret (st := []) rfl dX3_copy_61 ⟨rfl, h⟩
set_option maxRecDepth 20000 in
theorem vX3_copy_c {g : zG} {d : Nat} {Q : zM → Prop} {M : zM} (h : ∀ N1 : zM, N1 = zup (zup (zcpy (zcpy (zcpy M 50 23 8) 51 24 10) 52 25 10) 22 1 ((zcpy (zcpy (zcpy M 50 23 8) 51 24 10) 52 25 10) 49 1)) 22 4 ((zup (zcpy (zcpy (zcpy M 50 23 8) 51 24 10) 52 25 10) 22 1 ((zcpy (zcpy (zcpy M 50 23 8) 51 24 10) 52 25 10) 49 1)) 49 4) → Q N1) : zCv shC g (d + 1) mX3_copy [.ref 22, .ref 49] M Q := by
  refine zW.enter (by decide +kernel) (Nat.le_of_ble_eq_true rfl) ?_
  change zW shC g (d + 1) mX3_copy (zv Q) 0 [(0, .ref 22), (1, .ref 49)] [] M
  refine z_aload_n dX3_copy_0 1 rfl ?_
  refine z_getr shC_49 rfl flX3_11 dX3_copy_1 ?_
  refine z_iconst (v := 0) dX3_copy_4 (by decide) ?_
  refine z_aload_n dX3_copy_5 0 rfl ?_
  refine z_getr shC_22 rfl flX3_11 dX3_copy_6 ?_
  refine z_iconst (v := 0) dX3_copy_9 (by decide) ?_
  refine z_bipush (v := 8) dX3_copy_10 (by decide) ?_
  refine z_cpy (k0 := 8) shC_50 shC_23 (zat 769 (by decide +kernel) rfl) (by decide) (by decide) (by decide) (by decide) (by decide) (Nat.le_of_ble_eq_true rfl) dX3_copy_12 ?_
  refine z_aload_n dX3_copy_15 1 rfl ?_
  refine z_getr shC_49 rfl flX3_19 dX3_copy_16 ?_
  refine z_iconst (v := 0) dX3_copy_19 (by decide) ?_
  refine z_aload_n dX3_copy_20 0 rfl ?_
  refine z_getr shC_22 rfl flX3_19 dX3_copy_21 ?_
  refine z_iconst (v := 0) dX3_copy_24 (by decide) ?_
  refine z_bipush (v := 10) dX3_copy_25 (by decide) ?_
  refine z_cpy (k0 := 10) shC_51 shC_24 (zat 769 (by decide +kernel) rfl) (by decide) (by decide) (by decide) (by decide) (by decide) (Nat.le_of_ble_eq_true rfl) dX3_copy_27 ?_
  refine z_aload_n dX3_copy_30 1 rfl ?_
  refine z_getr shC_49 rfl flX3_22 dX3_copy_31 ?_
  refine z_iconst (v := 0) dX3_copy_34 (by decide) ?_
  refine z_aload_n dX3_copy_35 0 rfl ?_
  refine z_getr shC_22 rfl flX3_22 dX3_copy_36 ?_
  refine z_iconst (v := 0) dX3_copy_39 (by decide) ?_
  refine z_bipush (v := 10) dX3_copy_40 (by decide) ?_
  refine z_cpy (k0 := 10) shC_52 shC_25 (zat 769 (by decide +kernel) rfl) (by decide) (by decide) (by decide) (by decide) (by decide) (Nat.le_of_ble_eq_true rfl) dX3_copy_42 ?_
  refine z_aload_n dX3_copy_45 0 rfl ?_
  refine z_aload_n dX3_copy_46 1 rfl ?_
  refine z_geti shC_49 rfl flX3_15 dX3_copy_47 ?_
  refine z_puti shC_22 rfl fpX3_15 rfl rfl dX3_copy_50 ?_
  refine z_aload_n dX3_copy_53 0 rfl ?_
  refine z_aload_n dX3_copy_54 1 rfl ?_
  refine z_geti shC_49 rfl flX3_25 dX3_copy_55 ?_
  refine z_puti shC_22 rfl fpX3_25 rfl rfl dX3_copy_58 ?_
  obtain ⟨N1, eN1⟩ : ∃ y : zM, y = zup (zup (zcpy (zcpy (zcpy M 50 23 8) 51 24 10) 52 25 10) 22 1 ((zcpy (zcpy (zcpy M 50 23 8) 51 24 10) 52 25 10) 49 1)) 22 4 ((zup (zcpy (zcpy (zcpy M 50 23 8) 51 24 10) 52 25 10) 22 1 ((zcpy (zcpy (zcpy M 50 23 8) 51 24 10) 52 25 10) 49 1)) 49 4) := ⟨_, rfl⟩
  refine z_mem N1 eN1 ?_
  have h := h N1 eN1
  exact z_vret (st := []) rfl dX3_copy_61 ⟨rfl, h⟩
set_option maxRecDepth 20000 in
theorem vX3_copy_d {g : zG} {d : Nat} {Q : zM → Prop} {M : zM} (h : ∀ N1 : zM, N1 = zup (zup (zcpy (zcpy (zcpy M 23 113 8) 24 114 10) 25 115 10) 112 1 ((zcpy (zcpy (zcpy M 23 113 8) 24 114 10) 25 115 10) 22 1)) 112 4 ((zup (zcpy (zcpy (zcpy M 23 113 8) 24 114 10) 25 115 10) 112 1 ((zcpy (zcpy (zcpy M 23 113 8) 24 114 10) 25 115 10) 22 1)) 22 4) → Q N1) : zCv shC g (d + 1) mX3_copy [.ref 112, .ref 22] M Q := by
  refine zW.enter (by decide +kernel) (Nat.le_of_ble_eq_true rfl) ?_
  change zW shC g (d + 1) mX3_copy (zv Q) 0 [(0, .ref 112), (1, .ref 22)] [] M
  refine z_aload_n dX3_copy_0 1 rfl ?_
  refine z_getr shC_22 rfl flX3_11 dX3_copy_1 ?_
  refine z_iconst (v := 0) dX3_copy_4 (by decide) ?_
  refine z_aload_n dX3_copy_5 0 rfl ?_
  refine z_getr shC_112 rfl flX3_11 dX3_copy_6 ?_
  refine z_iconst (v := 0) dX3_copy_9 (by decide) ?_
  refine z_bipush (v := 8) dX3_copy_10 (by decide) ?_
  refine z_cpy (k0 := 8) shC_23 shC_113 (zat 769 (by decide +kernel) rfl) (by decide) (by decide) (by decide) (by decide) (by decide) (Nat.le_of_ble_eq_true rfl) dX3_copy_12 ?_
  refine z_aload_n dX3_copy_15 1 rfl ?_
  refine z_getr shC_22 rfl flX3_19 dX3_copy_16 ?_
  refine z_iconst (v := 0) dX3_copy_19 (by decide) ?_
  refine z_aload_n dX3_copy_20 0 rfl ?_
  refine z_getr shC_112 rfl flX3_19 dX3_copy_21 ?_
  refine z_iconst (v := 0) dX3_copy_24 (by decide) ?_
  refine z_bipush (v := 10) dX3_copy_25 (by decide) ?_
  refine z_cpy (k0 := 10) shC_24 shC_114 (zat 769 (by decide +kernel) rfl) (by decide) (by decide) (by decide) (by decide) (by decide) (Nat.le_of_ble_eq_true rfl) dX3_copy_27 ?_
  refine z_aload_n dX3_copy_30 1 rfl ?_
  refine z_getr shC_22 rfl flX3_22 dX3_copy_31 ?_
  refine z_iconst (v := 0) dX3_copy_34 (by decide) ?_
  refine z_aload_n dX3_copy_35 0 rfl ?_
  refine z_getr shC_112 rfl flX3_22 dX3_copy_36 ?_
  refine z_iconst (v := 0) dX3_copy_39 (by decide) ?_
  refine z_bipush (v := 10) dX3_copy_40 (by decide) ?_
  refine z_cpy (k0 := 10) shC_25 shC_115 (zat 769 (by decide +kernel) rfl) (by decide) (by decide) (by decide) (by decide) (by decide) (Nat.le_of_ble_eq_true rfl) dX3_copy_42 ?_
  refine z_aload_n dX3_copy_45 0 rfl ?_
  refine z_aload_n dX3_copy_46 1 rfl ?_
  refine z_geti shC_22 rfl flX3_15 dX3_copy_47 ?_
  refine z_puti shC_112 rfl fpX3_15 rfl rfl dX3_copy_50 ?_
  refine z_aload_n dX3_copy_53 0 rfl ?_
  refine z_aload_n dX3_copy_54 1 rfl ?_
  refine z_geti shC_22 rfl flX3_25 dX3_copy_55 ?_
  refine z_puti shC_112 rfl fpX3_25 rfl rfl dX3_copy_58 ?_
  obtain ⟨N1, eN1⟩ : ∃ y : zM, y = zup (zup (zcpy (zcpy (zcpy M 23 113 8) 24 114 10) 25 115 10) 112 1 ((zcpy (zcpy (zcpy M 23 113 8) 24 114 10) 25 115 10) 22 1)) 112 4 ((zup (zcpy (zcpy (zcpy M 23 113 8) 24 114 10) 25 115 10) 112 1 ((zcpy (zcpy (zcpy M 23 113 8) 24 114 10) 25 115 10) 22 1)) 22 4) := ⟨_, rfl⟩
  refine z_mem N1 eN1 ?_
  have h := h N1 eN1
  exact z_vret (st := []) rfl dX3_copy_61 ⟨rfl, h⟩
theorem dX3_isLetter_0 : decode cX3_isLetter 0 = .ok (.iload_n 1, 1) := by decide +kernel
theorem dX3_isLetter_1 : decode cX3_isLetter 1 = .ok (.ifCond .lt 15, 3) := by decide +kernel
theorem dX3_isLetter_4 : decode cX3_isLetter 4 = .ok (.iload_n 1, 1) := by decide +kernel
theorem dX3_isLetter_5 : decode cX3_isLetter 5 = .ok (.aload_n 0, 1) := by decide +kernel
theorem dX3_isLetter_6 : decode cX3_isLetter 6 = .ok (.getfield 15, 3) := by decide +kernel
theorem dX3_isLetter_9 : decode cX3_isLetter 9 = .ok (.if_icmp .ge 7, 3) := by decide +kernel
theorem dX3_isLetter_12 : decode cX3_isLetter 12 = .ok (.iconst 1, 1) := by decide +kernel
theorem dX3_isLetter_13 : decode cX3_isLetter 13 = .ok (.goto 4, 3) := by decide +kernel
theorem dX3_isLetter_16 : decode cX3_isLetter 16 = .ok (.iconst 0, 1) := by decide +kernel
theorem dX3_isLetter_17 : decode cX3_isLetter 17 = .ok (.ireturn, 1) := by decide +kernel
set_option maxRecDepth 20000 in
theorem vX3_isLetter {g : zG} {d : Nat} {Q : Bool → zM → Prop} {M : zM} {l1 : Int32} (h : (l1 < 0 → Q false M) ∧ (¬ l1 < 0 → ((M 22 1) ≤ l1 → Q false M) ∧ (¬ (M 22 1) ≤ l1 → Q true M))) : zCz shC g d mX3_isLetter [.ref 22, .int l1] M Q := by
  refine zW.enter (by decide +kernel) (Nat.le_of_ble_eq_true rfl) ?_
  change zW shC g d mX3_isLetter (zz Q) 0 [(0, .ref 22), (1, .int l1)] [] M
  refine z_iload_n dX3_isLetter_0 1 rfl ?_
  refine z_if_lt 16 dX3_isLetter_1 (by decide) (fun c1 => ?_) (fun c1 => ?_)
  · have h := h.1 c1
    refine z_iconst (v := 0) dX3_isLetter_16 (by decide) ?_
    exact z_zret (b := false) rfl rfl dX3_isLetter_17 h
  · have h := h.2 c1
    refine z_iload_n dX3_isLetter_4 1 rfl ?_
    refine z_aload_n dX3_isLetter_5 0 rfl ?_
    refine z_geti shC_22 rfl flX3_15 dX3_isLetter_6 ?_
    refine z_icmp_ge 16 dX3_isLetter_9 (by decide) (fun c2 => ?_) (fun c2 => ?_)
    · have h := h.1 c2
      refine z_iconst (v := 0) dX3_isLetter_16 (by decide) ?_
      exact z_zret (b := false) rfl rfl dX3_isLetter_17 h
    · have h := h.2 c2
      refine z_iconst (v := 1) dX3_isLetter_12 (by decide) ?_
      refine z_goto 17 dX3_isLetter_13 (by decide) ?_
      exact z_zret (b := true) rfl rfl dX3_isLetter_17 h
theorem dX3_isWant_0 : decode cX3_isWant 0 = .ok (.iload_n 1, 1) := by decide +kernel
theorem dX3_isWant_1 : decode cX3_isWant 1 = .ok (.ifCond .lt 15, 3) := by decide +kernel
theorem dX3_isWant_4 : decode cX3_isWant 4 = .ok (.iload_n 1, 1) := by decide +kernel
theorem dX3_isWant_5 : decode cX3_isWant 5 = .ok (.aload_n 0, 1) := by decide +kernel
theorem dX3_isWant_6 : decode cX3_isWant 6 = .ok (.getfield 25, 3) := by decide +kernel
theorem dX3_isWant_9 : decode cX3_isWant 9 = .ok (.if_icmp .ge 7, 3) := by decide +kernel
theorem dX3_isWant_12 : decode cX3_isWant 12 = .ok (.iconst 1, 1) := by decide +kernel
theorem dX3_isWant_13 : decode cX3_isWant 13 = .ok (.goto 4, 3) := by decide +kernel
theorem dX3_isWant_16 : decode cX3_isWant 16 = .ok (.iconst 0, 1) := by decide +kernel
theorem dX3_isWant_17 : decode cX3_isWant 17 = .ok (.ireturn, 1) := by decide +kernel
set_option maxRecDepth 20000 in
theorem vX3_isWant {g : zG} {d : Nat} {Q : Bool → zM → Prop} {M : zM} {l1 : Int32} (h : (l1 < 0 → Q false M) ∧ (¬ l1 < 0 → ((M 22 4) ≤ l1 → Q false M) ∧ (¬ (M 22 4) ≤ l1 → Q true M))) : zCz shC g d mX3_isWant [.ref 22, .int l1] M Q := by
  refine zW.enter (by decide +kernel) (Nat.le_of_ble_eq_true rfl) ?_
  change zW shC g d mX3_isWant (zz Q) 0 [(0, .ref 22), (1, .int l1)] [] M
  refine z_iload_n dX3_isWant_0 1 rfl ?_
  refine z_if_lt 16 dX3_isWant_1 (by decide) (fun c1 => ?_) (fun c1 => ?_)
  · have h := h.1 c1
    refine z_iconst (v := 0) dX3_isWant_16 (by decide) ?_
    exact z_zret (b := false) rfl rfl dX3_isWant_17 h
  · have h := h.2 c1
    refine z_iload_n dX3_isWant_4 1 rfl ?_
    refine z_aload_n dX3_isWant_5 0 rfl ?_
    refine z_geti shC_22 rfl flX3_25 dX3_isWant_6 ?_
    refine z_icmp_ge 16 dX3_isWant_9 (by decide) (fun c2 => ?_) (fun c2 => ?_)
    · have h := h.1 c2
      refine z_iconst (v := 0) dX3_isWant_16 (by decide) ?_
      exact z_zret (b := false) rfl rfl dX3_isWant_17 h
    · have h := h.2 c2
      refine z_iconst (v := 1) dX3_isWant_12 (by decide) ?_
      refine z_goto 17 dX3_isWant_13 (by decide) ?_
      exact z_zret (b := true) rfl rfl dX3_isWant_17 h
theorem dX3_allLetters_0 : decode cX3_allLetters 0 = .ok (.iconst 1, 1) := by decide +kernel
theorem dX3_allLetters_1 : decode cX3_allLetters 1 = .ok (.aload_n 0, 1) := by decide +kernel
theorem dX3_allLetters_2 : decode cX3_allLetters 2 = .ok (.getfield 15, 3) := by decide +kernel
theorem dX3_allLetters_5 : decode cX3_allLetters 5 = .ok (.ishl, 1) := by decide +kernel
theorem dX3_allLetters_6 : decode cX3_allLetters 6 = .ok (.iconst 1, 1) := by decide +kernel
theorem dX3_allLetters_7 : decode cX3_allLetters 7 = .ok (.isub, 1) := by decide +kernel
theorem dX3_allLetters_8 : decode cX3_allLetters 8 = .ok (.ireturn, 1) := by decide +kernel
set_option maxRecDepth 20000 in
theorem vX3_allLetters {g : zG} {d : Nat} {Q : Int32 → zM → Prop} {M : zM} (h : Q ((1 <<< ((M 22 1) &&& 31)) - 1) M) : zCi shC g d mX3_allLetters [.ref 22] M Q := by
  refine zW.enter (by decide +kernel) (Nat.le_of_ble_eq_true rfl) ?_
  change zW shC g d mX3_allLetters (zi Q) 0 [(0, .ref 22)] [] M
  refine z_iconst (v := 1) dX3_allLetters_0 (by decide) ?_
  refine z_aload_n dX3_allLetters_1 0 rfl ?_
  refine z_geti shC_22 rfl flX3_15 dX3_allLetters_2 ?_
  refine z_ishl dX3_allLetters_5 ?_
  refine z_iconst (v := 1) dX3_allLetters_6 (by decide) ?_
  refine z_isub dX3_allLetters_7 ?_
  exact z_iret (st := []) rfl rfl dX3_allLetters_8 ⟨_, rfl, h⟩
theorem dX3_having_0 : decode cX3_having 0 = .ok (.iconst 0, 1) := by decide +kernel
theorem dX3_having_1 : decode cX3_having 1 = .ok (.istore_n 3, 1) := by decide +kernel
theorem dX3_having_2 : decode cX3_having 2 = .ok (.iconst 0, 1) := by decide +kernel
theorem dX3_having_3 : decode cX3_having 3 = .ok (.istore 4, 2) := by decide +kernel
theorem dX3_having_5 : decode cX3_having 5 = .ok (.iload 4, 2) := by decide +kernel
theorem dX3_having_7 : decode cX3_having 7 = .ok (.aload_n 0, 1) := by decide +kernel
theorem dX3_having_8 : decode cX3_having 8 = .ok (.getfield 15, 3) := by decide +kernel
theorem dX3_having_11 : decode cX3_having 11 = .ok (.if_icmp .ge 28, 3) := by decide +kernel
theorem dX3_having_14 : decode cX3_having 14 = .ok (.iload_n 3, 1) := by decide +kernel
theorem dX3_having_15 : decode cX3_having 15 = .ok (.iload_n 1, 1) := by decide +kernel
theorem dX3_having_16 : decode cX3_having 16 = .ok (.iload 4, 2) := by decide +kernel
theorem dX3_having_18 : decode cX3_having 18 = .ok (.ishr, 1) := by decide +kernel
theorem dX3_having_19 : decode cX3_having 19 = .ok (.aload_n 0, 1) := by decide +kernel
theorem dX3_having_20 : decode cX3_having 20 = .ok (.getfield 11, 3) := by decide +kernel
theorem dX3_having_23 : decode cX3_having 23 = .ok (.iload 4, 2) := by decide +kernel
theorem dX3_having_25 : decode cX3_having 25 = .ok (.iaload, 1) := by decide +kernel
theorem dX3_having_26 : decode cX3_having 26 = .ok (.iload_n 2, 1) := by decide +kernel
theorem dX3_having_27 : decode cX3_having 27 = .ok (.ishr, 1) := by decide +kernel
theorem dX3_having_28 : decode cX3_having 28 = .ok (.iand, 1) := by decide +kernel
theorem dX3_having_29 : decode cX3_having 29 = .ok (.iconst 1, 1) := by decide +kernel
theorem dX3_having_30 : decode cX3_having 30 = .ok (.iand, 1) := by decide +kernel
theorem dX3_having_31 : decode cX3_having 31 = .ok (.iadd, 1) := by decide +kernel
theorem dX3_having_32 : decode cX3_having 32 = .ok (.istore_n 3, 1) := by decide +kernel
theorem dX3_having_33 : decode cX3_having 33 = .ok (.iinc 4 1, 3) := by decide +kernel
theorem dX3_having_36 : decode cX3_having 36 = .ok (.goto (-31), 3) := by decide +kernel
theorem dX3_having_39 : decode cX3_having 39 = .ok (.iload_n 3, 1) := by decide +kernel
theorem dX3_having_40 : decode cX3_having 40 = .ok (.ireturn, 1) := by decide +kernel
set_option maxRecDepth 20000 in
theorem vX3_having {g : zG} {d : Nat} {Q : Int32 → zM → Prop} {M : zM} {l1 : Int32} {l2 : Int32} (h : zW shC g d mX3_having (zi Q) 5 [(0, .ref 22), (1, .int l1), (2, .int l2), (3, .int 0), (4, .int 0)] [] M) : zCi shC g d mX3_having [.ref 22, .int l1, .int l2] M Q := by
  refine zW.enter (by decide +kernel) (Nat.le_of_ble_eq_true rfl) ?_
  change zW shC g d mX3_having (zi Q) 0 [(0, .ref 22), (1, .int l1), (2, .int l2)] [] M
  refine z_iconst (v := 0) dX3_having_0 (by decide) ?_
  refine z_istore_n [(3, .int 0), (0, .ref 22), (1, .int l1), (2, .int l2)] dX3_having_1 (by decide) rfl ?_
  refine z_iconst (v := 0) dX3_having_2 (by decide) ?_
  refine z_istore [(4, .int 0), (3, .int 0), (0, .ref 22), (1, .int l1), (2, .int l2)] dX3_having_3 (by decide) rfl ?_
  exact zW.sub [2, 3, 4, 1, 0] rfl h
set_option maxRecDepth 20000 in
theorem vX3_having_5 {g : zG} {d : Nat} {Q : Int32 → zM → Prop} {M : zM} {l1 : Int32} {l2 : Int32} {l3 : Int32} {l4 : Int32} (h : ((M 22 1) ≤ l4 → Q l3 M) ∧ (¬ (M 22 1) ≤ l4 → ∃ k1 : Nat, l4 = iv k1 ∧ k1 < 8 ∧ ∀ v1 : Int32, v1 = (((l1 >>> (l4 &&& 31)) &&& ((M 23 k1) >>> (l2 &&& 31))) &&& 1) → zW shC g d mX3_having (zi Q) 5 [(0, .ref 22), (1, .int l1), (2, .int l2), (3, .int (l3 + v1)), (4, .int (l4 + 1))] [] M)) : zW shC g d mX3_having (zi Q) 5 [(0, .ref 22), (1, .int l1), (2, .int l2), (3, .int l3), (4, .int l4)] [] M := by
  refine z_iload dX3_having_5 4 rfl ?_
  refine z_aload_n dX3_having_7 0 rfl ?_
  refine z_geti shC_22 rfl flX3_15 dX3_having_8 ?_
  refine z_icmp_ge 39 dX3_having_11 (by decide) (fun c1 => ?_) (fun c1 => ?_)
  · have h := h.1 c1
    refine z_iload_n dX3_having_39 3 rfl ?_
    exact z_iret (st := []) rfl rfl dX3_having_40 ⟨_, rfl, h⟩
  · have h := h.2 c1
    refine z_iload_n dX3_having_14 3 rfl ?_
    refine z_iload_n dX3_having_15 1 rfl ?_
    refine z_iload dX3_having_16 4 rfl ?_
    refine z_ishr dX3_having_18 ?_
    refine z_aload_n dX3_having_19 0 rfl ?_
    refine z_getr shC_22 rfl flX3_11 dX3_having_20 ?_
    refine z_iload dX3_having_23 4 rfl ?_
    obtain ⟨k1, ek1, uk1, h⟩ := h
    refine z_iald2 (k0 := k1) shC_23 (by decide) ek1 uk1 dX3_having_25 ?_
    refine z_iload_n dX3_having_26 2 rfl ?_
    refine z_ishr dX3_having_27 ?_
    refine z_iand dX3_having_28 ?_
    refine z_iconst (v := 1) dX3_having_29 (by decide) ?_
    refine z_iand dX3_having_30 ?_
    obtain ⟨v1, ev1⟩ : ∃ y : Int32, y = (((l1 >>> (l4 &&& 31)) &&& ((M 23 k1) >>> (l2 &&& 31))) &&& 1) := ⟨_, rfl⟩
    refine z_topi v1 ev1 ?_
    have h := h v1 ev1
    refine z_iadd dX3_having_31 ?_
    refine z_istore_n [(3, .int (l3 + v1)), (0, .ref 22), (1, .int l1), (2, .int l2), (4, .int l4)] dX3_having_32 (by decide) rfl ?_
    refine z_iinc (x := l4) (v := (l4 + 1)) [(4, .int (l4 + 1)), (3, .int (l3 + v1)), (0, .ref 22), (1, .int l1), (2, .int l2)] dX3_having_33 4 rfl rfl (by decide) rfl ?_
    refine z_goto 5 dX3_having_36 (by decide) ?_
    exact zW.sub [2, 3, 4, 1, 0] rfl h
theorem dX3_differ_0 : decode cX3_differ 0 = .ok (.iconst 0, 1) := by decide +kernel
theorem dX3_differ_1 : decode cX3_differ 1 = .ok (.istore_n 3, 1) := by decide +kernel
theorem dX3_differ_2 : decode cX3_differ 2 = .ok (.iload_n 3, 1) := by decide +kernel
theorem dX3_differ_3 : decode cX3_differ 3 = .ok (.aload_n 0, 1) := by decide +kernel
theorem dX3_differ_4 : decode cX3_differ 4 = .ok (.getfield 15, 3) := by decide +kernel
theorem dX3_differ_7 : decode cX3_differ 7 = .ok (.if_icmp .ge 73, 3) := by decide +kernel
theorem dX3_differ_10 : decode cX3_differ 10 = .ok (.iconst 0, 1) := by decide +kernel
theorem dX3_differ_11 : decode cX3_differ 11 = .ok (.istore 4, 2) := by decide +kernel
theorem dX3_differ_13 : decode cX3_differ 13 = .ok (.iload 4, 2) := by decide +kernel
theorem dX3_differ_15 : decode cX3_differ 15 = .ok (.iload_n 3, 1) := by decide +kernel
theorem dX3_differ_16 : decode cX3_differ 16 = .ok (.if_icmp .ge 58, 3) := by decide +kernel
theorem dX3_differ_19 : decode cX3_differ 19 = .ok (.iload_n 1, 1) := by decide +kernel
theorem dX3_differ_20 : decode cX3_differ 20 = .ok (.iload_n 3, 1) := by decide +kernel
theorem dX3_differ_21 : decode cX3_differ 21 = .ok (.ishr, 1) := by decide +kernel
theorem dX3_differ_22 : decode cX3_differ 22 = .ok (.iload_n 1, 1) := by decide +kernel
theorem dX3_differ_23 : decode cX3_differ 23 = .ok (.iload 4, 2) := by decide +kernel
theorem dX3_differ_25 : decode cX3_differ 25 = .ok (.ishr, 1) := by decide +kernel
theorem dX3_differ_26 : decode cX3_differ 26 = .ok (.iand, 1) := by decide +kernel
theorem dX3_differ_27 : decode cX3_differ 27 = .ok (.iconst 1, 1) := by decide +kernel
theorem dX3_differ_28 : decode cX3_differ 28 = .ok (.iand, 1) := by decide +kernel
theorem dX3_differ_29 : decode cX3_differ 29 = .ok (.iconst 1, 1) := by decide +kernel
theorem dX3_differ_30 : decode cX3_differ 30 = .ok (.if_icmp .ne 7, 3) := by decide +kernel
theorem dX3_differ_33 : decode cX3_differ 33 = .ok (.iconst 1, 1) := by decide +kernel
theorem dX3_differ_34 : decode cX3_differ 34 = .ok (.goto 4, 3) := by decide +kernel
theorem dX3_differ_37 : decode cX3_differ 37 = .ok (.iconst 0, 1) := by decide +kernel
theorem dX3_differ_38 : decode cX3_differ 38 = .ok (.istore 5, 2) := by decide +kernel
theorem dX3_differ_40 : decode cX3_differ 40 = .ok (.iload 5, 2) := by decide +kernel
theorem dX3_differ_42 : decode cX3_differ 42 = .ok (.ifCond .eq 26, 3) := by decide +kernel
theorem dX3_differ_45 : decode cX3_differ 45 = .ok (.aload_n 0, 1) := by decide +kernel
theorem dX3_differ_46 : decode cX3_differ 46 = .ok (.getfield 11, 3) := by decide +kernel
theorem dX3_differ_49 : decode cX3_differ 49 = .ok (.iload_n 3, 1) := by decide +kernel
theorem dX3_differ_50 : decode cX3_differ 50 = .ok (.iaload, 1) := by decide +kernel
theorem dX3_differ_51 : decode cX3_differ 51 = .ok (.aload_n 0, 1) := by decide +kernel
theorem dX3_differ_52 : decode cX3_differ 52 = .ok (.getfield 11, 3) := by decide +kernel
theorem dX3_differ_55 : decode cX3_differ 55 = .ok (.iload 4, 2) := by decide +kernel
theorem dX3_differ_57 : decode cX3_differ 57 = .ok (.iaload, 1) := by decide +kernel
theorem dX3_differ_58 : decode cX3_differ 58 = .ok (.ixor, 1) := by decide +kernel
theorem dX3_differ_59 : decode cX3_differ 59 = .ok (.invokestatic 34, 3) := by decide +kernel
theorem dX3_differ_62 : decode cX3_differ 62 = .ok (.iload_n 2, 1) := by decide +kernel
theorem dX3_differ_63 : decode cX3_differ 63 = .ok (.if_icmp .ge 5, 3) := by decide +kernel
theorem dX3_differ_66 : decode cX3_differ 66 = .ok (.iconst 0, 1) := by decide +kernel
theorem dX3_differ_67 : decode cX3_differ 67 = .ok (.ireturn, 1) := by decide +kernel
theorem dX3_differ_68 : decode cX3_differ 68 = .ok (.iinc 4 1, 3) := by decide +kernel
theorem dX3_differ_71 : decode cX3_differ 71 = .ok (.goto (-58), 3) := by decide +kernel
theorem dX3_differ_74 : decode cX3_differ 74 = .ok (.iinc 3 1, 3) := by decide +kernel
theorem dX3_differ_77 : decode cX3_differ 77 = .ok (.goto (-75), 3) := by decide +kernel
theorem dX3_differ_80 : decode cX3_differ 80 = .ok (.iconst 1, 1) := by decide +kernel
theorem dX3_differ_81 : decode cX3_differ 81 = .ok (.ireturn, 1) := by decide +kernel
set_option maxRecDepth 20000 in
theorem vX3_differ {g : zG} {d : Nat} {Q : Bool → zM → Prop} {M : zM} {l1 : Int32} {l2 : Int32} (h : zW shC g (d + 1) mX3_differ (zz Q) 2 [(0, .ref 22), (1, .int l1), (2, .int l2), (3, .int 0)] [] M) : zCz shC g (d + 1) mX3_differ [.ref 22, .int l1, .int l2] M Q := by
  refine zW.enter (by decide +kernel) (Nat.le_of_ble_eq_true rfl) ?_
  change zW shC g (d + 1) mX3_differ (zz Q) 0 [(0, .ref 22), (1, .int l1), (2, .int l2)] [] M
  refine z_iconst (v := 0) dX3_differ_0 (by decide) ?_
  refine z_istore_n [(3, .int 0), (0, .ref 22), (1, .int l1), (2, .int l2)] dX3_differ_1 (by decide) rfl ?_
  exact zW.sub [1, 2, 3, 0] rfl h
set_option maxRecDepth 20000 in
theorem vX3_differ_2 {g : zG} {d : Nat} {Q : Bool → zM → Prop} {M : zM} {l1 : Int32} {l2 : Int32} {l3 : Int32} (h : ((M 22 1) ≤ l3 → Q true M) ∧ (¬ (M 22 1) ≤ l3 → zW shC g (d + 1) mX3_differ (zz Q) 13 [(0, .ref 22), (1, .int l1), (2, .int l2), (3, .int l3), (4, .int 0)] [] M)) : zW shC g (d + 1) mX3_differ (zz Q) 2 [(0, .ref 22), (1, .int l1), (2, .int l2), (3, .int l3)] [] M := by
  refine z_iload_n dX3_differ_2 3 rfl ?_
  refine z_aload_n dX3_differ_3 0 rfl ?_
  refine z_geti shC_22 rfl flX3_15 dX3_differ_4 ?_
  refine z_icmp_ge 80 dX3_differ_7 (by decide) (fun c1 => ?_) (fun c1 => ?_)
  · have h := h.1 c1
    refine z_iconst (v := 1) dX3_differ_80 (by decide) ?_
    exact z_zret (b := true) rfl rfl dX3_differ_81 h
  · have h := h.2 c1
    refine z_iconst (v := 0) dX3_differ_10 (by decide) ?_
    refine z_istore [(4, .int 0), (0, .ref 22), (1, .int l1), (2, .int l2), (3, .int l3)] dX3_differ_11 (by decide) rfl ?_
    exact zW.sub [1, 2, 3, 4, 0] rfl h
set_option maxRecDepth 20000 in
theorem vX3_differ_13 {g : zG} {d : Nat} {Q : Bool → zM → Prop} {M : zM} {l1 : Int32} {l2 : Int32} {l3 : Int32} {l4 : Int32} (h : (l3 ≤ l4 → zW shC g (d + 1) mX3_differ (zz Q) 2 [(0, .ref 22), (1, .int l1), (2, .int l2), (3, .int (l3 + 1))] [] M) ∧ (¬ l3 ≤ l4 → (¬ (((l1 >>> (l3 &&& 31)) &&& (l1 >>> (l4 &&& 31))) &&& 1) = 1 → zW shC g (d + 1) mX3_differ (zz Q) 38 [(0, .ref 22), (1, .int l1), (2, .int l2), (3, .int l3), (4, .int l4)] [.int 0] M) ∧ ((((l1 >>> (l3 &&& 31)) &&& (l1 >>> (l4 &&& 31))) &&& 1) = 1 → zW shC g (d + 1) mX3_differ (zz Q) 38 [(0, .ref 22), (1, .int l1), (2, .int l2), (3, .int l3), (4, .int l4)] [.int 1] M))) : zW shC g (d + 1) mX3_differ (zz Q) 13 [(0, .ref 22), (1, .int l1), (2, .int l2), (3, .int l3), (4, .int l4)] [] M := by
  refine z_iload dX3_differ_13 4 rfl ?_
  refine z_iload_n dX3_differ_15 3 rfl ?_
  refine z_icmp_ge 74 dX3_differ_16 (by decide) (fun c1 => ?_) (fun c1 => ?_)
  · have h := h.1 c1
    refine z_iinc (x := l3) (v := (l3 + 1)) [(3, .int (l3 + 1)), (0, .ref 22), (1, .int l1), (2, .int l2), (4, .int l4)] dX3_differ_74 3 rfl rfl (by decide) rfl ?_
    refine z_goto 2 dX3_differ_77 (by decide) ?_
    exact zW.sub [1, 2, 3, 0] rfl h
  · have h := h.2 c1
    refine z_iload_n dX3_differ_19 1 rfl ?_
    refine z_iload_n dX3_differ_20 3 rfl ?_
    refine z_ishr dX3_differ_21 ?_
    refine z_iload_n dX3_differ_22 1 rfl ?_
    refine z_iload dX3_differ_23 4 rfl ?_
    refine z_ishr dX3_differ_25 ?_
    refine z_iand dX3_differ_26 ?_
    refine z_iconst (v := 1) dX3_differ_27 (by decide) ?_
    refine z_iand dX3_differ_28 ?_
    refine z_iconst (v := 1) dX3_differ_29 (by decide) ?_
    refine z_icmp_ne 37 dX3_differ_30 (by decide) (fun c2 => ?_) (fun c2 => ?_)
    · have h := h.1 c2
      refine z_iconst (v := 0) dX3_differ_37 (by decide) ?_
      exact h
    · have h := h.2 c2
      refine z_iconst (v := 1) dX3_differ_33 (by decide) ?_
      refine z_goto 38 dX3_differ_34 (by decide) ?_
      exact h
set_option maxRecDepth 20000 in
theorem vX3_differ_38 {g : zG} {d : Nat} {Q : Bool → zM → Prop} {M : zM} {l1 : Int32} {l2 : Int32} {l3 : Int32} {l4 : Int32} {s0 : Int32} (h : (s0 = 0 → zW shC g (d + 1) mX3_differ (zz Q) 13 [(0, .ref 22), (1, .int l1), (2, .int l2), (3, .int l3), (4, .int (l4 + 1))] [] M) ∧ (¬ s0 = 0 → ∃ k1 : Nat, l3 = iv k1 ∧ k1 < 8 ∧ ∃ k2 : Nat, l4 = iv k2 ∧ k2 < 8 ∧ zCi shC g d mJ6_bitCount_0f7a4 [.int ((M 23 k1) ^^^ (M 23 k2))] M (fun x1 M1 => (l2 ≤ x1 → zW shC g (d + 1) mX3_differ (zz Q) 13 [(0, .ref 22), (1, .int l1), (2, .int l2), (3, .int l3), (4, .int (l4 + 1))] [] M1) ∧ (¬ l2 ≤ x1 → Q false M1)))) : zW shC g (d + 1) mX3_differ (zz Q) 38 [(0, .ref 22), (1, .int l1), (2, .int l2), (3, .int l3), (4, .int l4)] [.int s0] M := by
  refine z_istore [(5, .int s0), (0, .ref 22), (1, .int l1), (2, .int l2), (3, .int l3), (4, .int l4)] dX3_differ_38 (by decide) rfl ?_
  refine z_iload dX3_differ_40 0 rfl ?_
  refine z_if_eq 68 dX3_differ_42 (by decide) (fun c1 => ?_) (fun c1 => ?_)
  · have h := h.1 c1
    refine z_iinc (x := l4) (v := (l4 + 1)) [(4, .int (l4 + 1)), (5, .int s0), (0, .ref 22), (1, .int l1), (2, .int l2), (3, .int l3)] dX3_differ_68 5 rfl rfl (by decide) rfl ?_
    refine z_goto 13 dX3_differ_71 (by decide) ?_
    exact zW.sub [2, 3, 4, 5, 0] rfl h
  · have h := h.2 c1
    refine z_aload_n dX3_differ_45 1 rfl ?_
    refine z_getr shC_22 rfl flX3_11 dX3_differ_46 ?_
    refine z_iload_n dX3_differ_49 4 rfl ?_
    obtain ⟨k1, ek1, uk1, h⟩ := h
    refine z_iald2 (k0 := k1) shC_23 (by decide) ek1 uk1 dX3_differ_50 ?_
    refine z_aload_n dX3_differ_51 1 rfl ?_
    refine z_getr shC_22 rfl flX3_11 dX3_differ_52 ?_
    refine z_iload dX3_differ_55 5 rfl ?_
    obtain ⟨k2, ek2, uk2, h⟩ := h
    refine z_iald2 (k0 := k2) shC_23 (by decide) ek2 uk2 dX3_differ_57 ?_
    refine z_ixor dX3_differ_58 ?_
    refine z_callS (m2 := mJ6_bitCount_0f7a4) (st := []) [.int ((M 23 k1) ^^^ (M 23 k2))] okJ6_bitCount_0f7a4 (Or.inl lkX3_34) rfl rfl (Nat.le_of_ble_eq_true rfl) dX3_differ_59 (zgo_i h fun x1 M1 h => ?_)
    refine z_iload_n dX3_differ_62 3 rfl ?_
    refine z_icmp_ge 68 dX3_differ_63 (by decide) (fun c2 => ?_) (fun c2 => ?_)
    · have h := h.1 c2
      refine z_iinc (x := l4) (v := (l4 + 1)) [(4, .int (l4 + 1)), (5, .int s0), (0, .ref 22), (1, .int l1), (2, .int l2), (3, .int l3)] dX3_differ_68 5 rfl rfl (by decide) rfl ?_
      refine z_goto 13 dX3_differ_71 (by decide) ?_
      exact zW.sub [2, 3, 4, 5, 0] rfl h
    · have h := h.2 c2
      refine z_iconst (v := 0) dX3_differ_66 (by decide) ?_
      exact z_zret (b := false) rfl rfl dX3_differ_67 h
theorem dX3_parseLetters_0 : decode cX3_parseLetters 0 = .ok (.aload_n 0, 1) := by decide +kernel
theorem dX3_parseLetters_1 : decode cX3_parseLetters 1 = .ok (.invokevirtual 40, 3) := by decide +kernel
theorem dX3_parseLetters_4 : decode cX3_parseLetters 4 = .ok (.iconst 0, 1) := by decide +kernel
theorem dX3_parseLetters_5 : decode cX3_parseLetters 5 = .ok (.istore_n 2, 1) := by decide +kernel
theorem dX3_parseLetters_6 : decode cX3_parseLetters 6 = .ok (.iload_n 2, 1) := by decide +kernel
theorem dX3_parseLetters_7 : decode cX3_parseLetters 7 = .ok (.sipush 400, 3) := by decide +kernel
theorem dX3_parseLetters_10 : decode cX3_parseLetters 10 = .ok (.if_icmp .ge 26, 3) := by decide +kernel
theorem dX3_parseLetters_13 : decode cX3_parseLetters 13 = .ok (.aload_n 1, 1) := by decide +kernel
theorem dX3_parseLetters_14 : decode cX3_parseLetters 14 = .ok (.invokevirtual 43, 3) := by decide +kernel
theorem dX3_parseLetters_17 : decode cX3_parseLetters 17 = .ok (.ifCond .ne 19, 3) := by decide +kernel
theorem dX3_parseLetters_20 : decode cX3_parseLetters 20 = .ok (.aload_n 0, 1) := by decide +kernel
theorem dX3_parseLetters_21 : decode cX3_parseLetters 21 = .ok (.aload_n 1, 1) := by decide +kernel
theorem dX3_parseLetters_22 : decode cX3_parseLetters 22 = .ok (.invokevirtual 49, 3) := by decide +kernel
theorem dX3_parseLetters_25 : decode cX3_parseLetters 25 = .ok (.ifCond .ne 5, 3) := by decide +kernel
theorem dX3_parseLetters_28 : decode cX3_parseLetters 28 = .ok (.iconst 0, 1) := by decide +kernel
theorem dX3_parseLetters_29 : decode cX3_parseLetters 29 = .ok (.ireturn, 1) := by decide +kernel
theorem dX3_parseLetters_30 : decode cX3_parseLetters 30 = .ok (.iinc 2 1, 3) := by decide +kernel
theorem dX3_parseLetters_33 : decode cX3_parseLetters 33 = .ok (.goto (-27), 3) := by decide +kernel
theorem dX3_parseLetters_36 : decode cX3_parseLetters 36 = .ok (.iconst 1, 1) := by decide +kernel
theorem dX3_parseLetters_37 : decode cX3_parseLetters 37 = .ok (.ireturn, 1) := by decide +kernel
set_option maxRecDepth 20000 in
theorem vX3_parseLetters {g : zG} {d : Nat} {Q : Bool → zM → Prop} {M : zM} (h : zCv shC g d mX3_clear [.ref 112] M (fun  M1 => zW shC g (d + 1) mX3_parseLetters (zz Q) 6 [(0, .ref 112), (1, .ref 98), (2, .int 0)] [] M1)) : zCz shC g (d + 1) mX3_parseLetters [.ref 112, .ref 98] M Q := by
  refine zW.enter (by decide +kernel) (Nat.le_of_ble_eq_true rfl) ?_
  change zW shC g (d + 1) mX3_parseLetters (zz Q) 0 [(0, .ref 112), (1, .ref 98)] [] M
  refine z_aload_n dX3_parseLetters_0 0 rfl ?_
  refine z_callV (m2 := mX3_clear) (st := []) [] okX3_clear (Or.inl lkX3_40) shC_112 rfl rfl rfl (Nat.le_of_ble_eq_true rfl) dX3_parseLetters_1 (zgo_v h fun  M1 h => ?_)
  refine z_iconst (v := 0) dX3_parseLetters_4 (by decide) ?_
  refine z_istore_n [(2, .int 0), (0, .ref 112), (1, .ref 98)] dX3_parseLetters_5 (by decide) rfl ?_
  exact zW.sub [1, 2, 0] rfl h
set_option maxRecDepth 20000 in
theorem vX3_parseLetters_6 {g : zG} {d : Nat} {Q : Bool → zM → Prop} {M : zM} {l2 : Int32} (h : (400 ≤ l2 → Q true M) ∧ (¬ 400 ≤ l2 → zCz shC g d mX5_isEnd [.ref 98] M (fun b1 M1 => (b1 = true → Q true M1) ∧ (b1 = false → zCz shC g d mX3_parseLetter [.ref 112, .ref 98] M1 (fun b2 M2 => (b2 = true → zW shC g (d + 1) mX3_parseLetters (zz Q) 6 [(0, .ref 112), (1, .ref 98), (2, .int (l2 + 1))] [] M2) ∧ (b2 = false → Q false M2)))))) : zW shC g (d + 1) mX3_parseLetters (zz Q) 6 [(0, .ref 112), (1, .ref 98), (2, .int l2)] [] M := by
  refine z_iload_n dX3_parseLetters_6 2 rfl ?_
  refine z_sipush (v := 400) dX3_parseLetters_7 (by decide) ?_
  refine z_icmp_ge 36 dX3_parseLetters_10 (by decide) (fun c1 => ?_) (fun c1 => ?_)
  · have h := h.1 c1
    refine z_iconst (v := 1) dX3_parseLetters_36 (by decide) ?_
    exact z_zret (b := true) rfl rfl dX3_parseLetters_37 h
  · have h := h.2 c1
    refine z_aload_n dX3_parseLetters_13 1 rfl ?_
    refine z_callV (m2 := mX5_isEnd) (st := []) [] okX5_isEnd (Or.inl lkX3_43) shC_98 rfl rfl rfl (Nat.le_of_ble_eq_true rfl) dX3_parseLetters_14 (zgo_z h fun b1 M1 h => ?_)
    refine z_ifb_ne 36 dX3_parseLetters_17 (by decide) (fun c2 => ?_) (fun c2 => ?_)
    · have h := h.1 c2
      refine z_iconst (v := 1) dX3_parseLetters_36 (by decide) ?_
      exact z_zret (b := true) rfl rfl dX3_parseLetters_37 h
    · have h := h.2 c2
      refine z_aload_n dX3_parseLetters_20 0 rfl ?_
      refine z_aload_n dX3_parseLetters_21 1 rfl ?_
      refine z_callV (m2 := mX3_parseLetter) (st := []) [.ref 98] okX3_parseLetter (Or.inl lkX3_49) shC_112 rfl rfl rfl (Nat.le_of_ble_eq_true rfl) dX3_parseLetters_22 (zgo_z h fun b2 M2 h => ?_)
      refine z_ifb_ne 30 dX3_parseLetters_25 (by decide) (fun c3 => ?_) (fun c3 => ?_)
      · have h := h.1 c3
        refine z_iinc (x := l2) (v := (l2 + 1)) [(2, .int (l2 + 1)), (0, .ref 112), (1, .ref 98)] dX3_parseLetters_30 2 rfl rfl (by decide) rfl ?_
        refine z_goto 6 dX3_parseLetters_33 (by decide) ?_
        exact zW.sub [1, 2, 0] rfl h
      · have h := h.2 c3
        refine z_iconst (v := 0) dX3_parseLetters_28 (by decide) ?_
        exact z_zret (b := false) rfl rfl dX3_parseLetters_29 h
theorem dX3_parseLetter_0 : decode cX3_parseLetter 0 = .ok (.aload_n 1, 1) := by decide +kernel
theorem dX3_parseLetter_1 : decode cX3_parseLetter 1 = .ok (.ldc 53, 2) := by decide +kernel
theorem dX3_parseLetter_3 : decode cX3_parseLetter 3 = .ok (.invokevirtual 55, 3) := by decide +kernel
theorem dX3_parseLetter_6 : decode cX3_parseLetter 6 = .ok (.ifCond .ne 9, 3) := by decide +kernel
theorem dX3_parseLetter_9 : decode cX3_parseLetter 9 = .ok (.aload_n 1, 1) := by decide +kernel
theorem dX3_parseLetter_10 : decode cX3_parseLetter 10 = .ok (.iconst 1, 1) := by decide +kernel
theorem dX3_parseLetter_11 : decode cX3_parseLetter 11 = .ok (.invokevirtual 59, 3) := by decide +kernel
theorem dX3_parseLetter_14 : decode cX3_parseLetter 14 = .ok (.ireturn, 1) := by decide +kernel
theorem dX3_parseLetter_15 : decode cX3_parseLetter 15 = .ok (.aload_n 0, 1) := by decide +kernel
theorem dX3_parseLetter_16 : decode cX3_parseLetter 16 = .ok (.getfield 15, 3) := by decide +kernel
theorem dX3_parseLetter_19 : decode cX3_parseLetter 19 = .ok (.bipush 8, 2) := by decide +kernel
theorem dX3_parseLetter_21 : decode cX3_parseLetter 21 = .ok (.if_icmp .lt 9, 3) := by decide +kernel
theorem dX3_parseLetter_24 : decode cX3_parseLetter 24 = .ok (.aload_n 1, 1) := by decide +kernel
theorem dX3_parseLetter_25 : decode cX3_parseLetter 25 = .ok (.iconst 3, 1) := by decide +kernel
theorem dX3_parseLetter_26 : decode cX3_parseLetter 26 = .ok (.invokevirtual 59, 3) := by decide +kernel
theorem dX3_parseLetter_29 : decode cX3_parseLetter 29 = .ok (.ireturn, 1) := by decide +kernel
theorem dX3_parseLetter_30 : decode cX3_parseLetter 30 = .ok (.iconst 0, 1) := by decide +kernel
theorem dX3_parseLetter_31 : decode cX3_parseLetter 31 = .ok (.istore_n 2, 1) := by decide +kernel
theorem dX3_parseLetter_32 : decode cX3_parseLetter 32 = .ok (.iconst 0, 1) := by decide +kernel
theorem dX3_parseLetter_33 : decode cX3_parseLetter 33 = .ok (.istore_n 3, 1) := by decide +kernel
theorem dX3_parseLetter_34 : decode cX3_parseLetter 34 = .ok (.iload_n 3, 1) := by decide +kernel
theorem dX3_parseLetter_35 : decode cX3_parseLetter 35 = .ok (.iconst 3, 1) := by decide +kernel
theorem dX3_parseLetter_36 : decode cX3_parseLetter 36 = .ok (.if_icmp .ge 39, 3) := by decide +kernel
theorem dX3_parseLetter_39 : decode cX3_parseLetter 39 = .ok (.aload_n 1, 1) := by decide +kernel
theorem dX3_parseLetter_40 : decode cX3_parseLetter 40 = .ok (.invokevirtual 63, 3) := by decide +kernel
theorem dX3_parseLetter_43 : decode cX3_parseLetter 43 = .ok (.aload_n 1, 1) := by decide +kernel
theorem dX3_parseLetter_44 : decode cX3_parseLetter 44 = .ok (.iconst 0, 1) := by decide +kernel
theorem dX3_parseLetter_45 : decode cX3_parseLetter 45 = .ok (.bipush 7, 2) := by decide +kernel
theorem dX3_parseLetter_47 : decode cX3_parseLetter 47 = .ok (.invokevirtual 66, 3) := by decide +kernel
theorem dX3_parseLetter_50 : decode cX3_parseLetter 50 = .ok (.istore 4, 2) := by decide +kernel
theorem dX3_parseLetter_52 : decode cX3_parseLetter 52 = .ok (.iload 4, 2) := by decide +kernel
theorem dX3_parseLetter_54 : decode cX3_parseLetter 54 = .ok (.iconst (-1), 1) := by decide +kernel
theorem dX3_parseLetter_55 : decode cX3_parseLetter 55 = .ok (.if_icmp .ne 5, 3) := by decide +kernel
theorem dX3_parseLetter_58 : decode cX3_parseLetter 58 = .ok (.iconst 0, 1) := by decide +kernel
theorem dX3_parseLetter_59 : decode cX3_parseLetter 59 = .ok (.ireturn, 1) := by decide +kernel
theorem dX3_parseLetter_60 : decode cX3_parseLetter 60 = .ok (.iload_n 2, 1) := by decide +kernel
theorem dX3_parseLetter_61 : decode cX3_parseLetter 61 = .ok (.iload 4, 2) := by decide +kernel
theorem dX3_parseLetter_63 : decode cX3_parseLetter 63 = .ok (.iconst 3, 1) := by decide +kernel
theorem dX3_parseLetter_64 : decode cX3_parseLetter 64 = .ok (.iload_n 3, 1) := by decide +kernel
theorem dX3_parseLetter_65 : decode cX3_parseLetter 65 = .ok (.imul, 1) := by decide +kernel
theorem dX3_parseLetter_66 : decode cX3_parseLetter 66 = .ok (.ishl, 1) := by decide +kernel
theorem dX3_parseLetter_67 : decode cX3_parseLetter 67 = .ok (.ior, 1) := by decide +kernel
theorem dX3_parseLetter_68 : decode cX3_parseLetter 68 = .ok (.istore_n 2, 1) := by decide +kernel
theorem dX3_parseLetter_69 : decode cX3_parseLetter 69 = .ok (.iinc 3 1, 3) := by decide +kernel
theorem dX3_parseLetter_72 : decode cX3_parseLetter 72 = .ok (.goto (-38), 3) := by decide +kernel
theorem dX3_parseLetter_75 : decode cX3_parseLetter 75 = .ok (.iload_n 2, 1) := by decide +kernel
theorem dX3_parseLetter_76 : decode cX3_parseLetter 76 = .ok (.ifCond .ne 9, 3) := by decide +kernel
theorem dX3_parseLetter_79 : decode cX3_parseLetter 79 = .ok (.aload_n 1, 1) := by decide +kernel
theorem dX3_parseLetter_80 : decode cX3_parseLetter 80 = .ok (.iconst 3, 1) := by decide +kernel
theorem dX3_parseLetter_81 : decode cX3_parseLetter 81 = .ok (.invokevirtual 59, 3) := by decide +kernel
theorem dX3_parseLetter_84 : decode cX3_parseLetter 84 = .ok (.ireturn, 1) := by decide +kernel
theorem dX3_parseLetter_85 : decode cX3_parseLetter 85 = .ok (.aload_n 1, 1) := by decide +kernel
theorem dX3_parseLetter_86 : decode cX3_parseLetter 86 = .ok (.invokevirtual 63, 3) := by decide +kernel
theorem dX3_parseLetter_89 : decode cX3_parseLetter 89 = .ok (.aload_n 1, 1) := by decide +kernel
theorem dX3_parseLetter_90 : decode cX3_parseLetter 90 = .ok (.bipush 59, 2) := by decide +kernel
theorem dX3_parseLetter_92 : decode cX3_parseLetter 92 = .ok (.invokevirtual 70, 3) := by decide +kernel
theorem dX3_parseLetter_95 : decode cX3_parseLetter 95 = .ok (.ifCond .ne 9, 3) := by decide +kernel
theorem dX3_parseLetter_98 : decode cX3_parseLetter 98 = .ok (.aload_n 1, 1) := by decide +kernel
theorem dX3_parseLetter_99 : decode cX3_parseLetter 99 = .ok (.iconst 1, 1) := by decide +kernel
theorem dX3_parseLetter_100 : decode cX3_parseLetter 100 = .ok (.invokevirtual 59, 3) := by decide +kernel
theorem dX3_parseLetter_103 : decode cX3_parseLetter 103 = .ok (.ireturn, 1) := by decide +kernel
theorem dX3_parseLetter_104 : decode cX3_parseLetter 104 = .ok (.aload_n 1, 1) := by decide +kernel
theorem dX3_parseLetter_105 : decode cX3_parseLetter 105 = .ok (.invokevirtual 63, 3) := by decide +kernel
theorem dX3_parseLetter_108 : decode cX3_parseLetter 108 = .ok (.aload_n 0, 1) := by decide +kernel
theorem dX3_parseLetter_109 : decode cX3_parseLetter 109 = .ok (.getfield 11, 3) := by decide +kernel
theorem dX3_parseLetter_112 : decode cX3_parseLetter 112 = .ok (.aload_n 0, 1) := by decide +kernel
theorem dX3_parseLetter_113 : decode cX3_parseLetter 113 = .ok (.getfield 15, 3) := by decide +kernel
theorem dX3_parseLetter_116 : decode cX3_parseLetter 116 = .ok (.iload_n 2, 1) := by decide +kernel
theorem dX3_parseLetter_117 : decode cX3_parseLetter 117 = .ok (.iastore, 1) := by decide +kernel
theorem dX3_parseLetter_118 : decode cX3_parseLetter 118 = .ok (.aload_n 0, 1) := by decide +kernel
theorem dX3_parseLetter_119 : decode cX3_parseLetter 119 = .ok (.dup, 1) := by decide +kernel
theorem dX3_parseLetter_120 : decode cX3_parseLetter 120 = .ok (.getfield 15, 3) := by decide +kernel
theorem dX3_parseLetter_123 : decode cX3_parseLetter 123 = .ok (.iconst 1, 1) := by decide +kernel
theorem dX3_parseLetter_124 : decode cX3_parseLetter 124 = .ok (.iadd, 1) := by decide +kernel
theorem dX3_parseLetter_125 : decode cX3_parseLetter 125 = .ok (.putfield 15, 3) := by decide +kernel
theorem dX3_parseLetter_128 : decode cX3_parseLetter 128 = .ok (.iconst 1, 1) := by decide +kernel
theorem dX3_parseLetter_129 : decode cX3_parseLetter 129 = .ok (.ireturn, 1) := by decide +kernel
set_option maxRecDepth 20000 in
theorem vX3_parseLetter {g : zG} {d : Nat} {Q : Bool → zM → Prop} {M : zM} (h : zCz shC g d mX5_isWord [.ref 98, .ref (4096 + 20)] M (fun b1 M1 => (b1 = true → ((M1 112 1) < 8 → zW shC g (d + 1) mX3_parseLetter (zz Q) 34 [(0, .ref 112), (1, .ref 98), (2, .int 0), (3, .int 0)] [] M1) ∧ (¬ (M1 112 1) < 8 → zCz shC g d mX5_fail [.ref 98, .int 3] M1 (fun b2 M2 => Q b2 M2))) ∧ (b1 = false → zCz shC g d mX5_fail [.ref 98, .int 1] M1 (fun b2 M2 => Q b2 M2)))) : zCz shC g (d + 1) mX3_parseLetter [.ref 112, .ref 98] M Q := by
  refine zW.enter (by decide +kernel) (Nat.le_of_ble_eq_true rfl) ?_
  change zW shC g (d + 1) mX3_parseLetter (zz Q) 0 [(0, .ref 112), (1, .ref 98)] [] M
  refine z_aload_n dX3_parseLetter_0 1 rfl ?_
  refine z_ldcS (i := 20) (tx := "letter") dX3_parseLetter_1 (by decide +kernel) ?_
  refine z_callV (m2 := mX5_isWord) (st := []) [.ref (4096 + 20)] okX5_isWord (Or.inl lkX3_55) shC_98 rfl rfl rfl (Nat.le_of_ble_eq_true rfl) dX3_parseLetter_3 (zgo_z h fun b1 M1 h => ?_)
  refine z_ifb_ne 15 dX3_parseLetter_6 (by decide) (fun c1 => ?_) (fun c1 => ?_)
  · have h := h.1 c1
    refine z_aload_n dX3_parseLetter_15 0 rfl ?_
    refine z_geti shC_112 rfl flX3_15 dX3_parseLetter_16 ?_
    refine z_bipush (v := 8) dX3_parseLetter_19 (by decide) ?_
    refine z_icmp_lt 30 dX3_parseLetter_21 (by decide) (fun c2 => ?_) (fun c2 => ?_)
    · have h := h.1 c2
      refine z_iconst (v := 0) dX3_parseLetter_30 (by decide) ?_
      refine z_istore_n [(2, .int 0), (0, .ref 112), (1, .ref 98)] dX3_parseLetter_31 (by decide) rfl ?_
      refine z_iconst (v := 0) dX3_parseLetter_32 (by decide) ?_
      refine z_istore_n [(3, .int 0), (2, .int 0), (0, .ref 112), (1, .ref 98)] dX3_parseLetter_33 (by decide) rfl ?_
      exact zW.sub [2, 3, 1, 0] rfl h
    · have h := h.2 c2
      refine z_aload_n dX3_parseLetter_24 1 rfl ?_
      refine z_iconst (v := 3) dX3_parseLetter_25 (by decide) ?_
      refine z_callV (m2 := mX5_fail) (st := []) [.int 3] okX5_fail (Or.inl lkX3_59) shC_98 rfl rfl rfl (Nat.le_of_ble_eq_true rfl) dX3_parseLetter_26 (zgo_z h fun b2 M2 h => ?_)
      exact z_zret rfl rfl dX3_parseLetter_29 h
  · have h := h.2 c1
    refine z_aload_n dX3_parseLetter_9 1 rfl ?_
    refine z_iconst (v := 1) dX3_parseLetter_10 (by decide) ?_
    refine z_callV (m2 := mX5_fail) (st := []) [.int 1] okX5_fail (Or.inl lkX3_59) shC_98 rfl rfl rfl (Nat.le_of_ble_eq_true rfl) dX3_parseLetter_11 (zgo_z h fun b2 M2 h => ?_)
    exact z_zret rfl rfl dX3_parseLetter_14 h
set_option maxRecDepth 20000 in
theorem vX3_parseLetter_34 {g : zG} {d : Nat} {Q : Bool → zM → Prop} {M : zM} {l2 : Int32} {l3 : Int32} (h : (3 ≤ l3 → (¬ l2 = 0 → zCv shC g d mX5_next [.ref 98] M (fun  M1 => zCz shC g d mX5_isSign [.ref 98, .int 59] M1 (fun b1 M2 => (b1 = true → zCv shC g d mX5_next [.ref 98] M2 (fun  M3 => ∃ k1 : Nat, (M3 112 1) = iv k1 ∧ k1 < 8 ∧ Q true (zup (zup M3 113 k1 l2) 112 1 (((zup M3 113 k1 l2) 112 1) + 1)))) ∧ (b1 = false → zCz shC g d mX5_fail [.ref 98, .int 1] M2 (fun b2 M3 => Q b2 M3))))) ∧ (l2 = 0 → zCz shC g d mX5_fail [.ref 98, .int 3] M (fun b1 M1 => Q b1 M1))) ∧ (¬ 3 ≤ l3 → zCv shC g d mX5_next [.ref 98] M (fun  M1 => zCi shC g d mX5_number [.ref 98, .int 0, .int 7] M1 (fun x2 M2 => (¬ x2 = (-1) → zW shC g (d + 1) mX3_parseLetter (zz Q) 34 [(0, .ref 112), (1, .ref 98), (2, .int (l2 ||| (x2 <<< ((3 * l3) &&& 31)))), (3, .int (l3 + 1))] [] M2) ∧ (x2 = (-1) → Q false M2))))) : zW shC g (d + 1) mX3_parseLetter (zz Q) 34 [(0, .ref 112), (1, .ref 98), (2, .int l2), (3, .int l3)] [] M := by
  refine z_iload_n dX3_parseLetter_34 3 rfl ?_
  refine z_iconst (v := 3) dX3_parseLetter_35 (by decide) ?_
  refine z_icmp_ge 75 dX3_parseLetter_36 (by decide) (fun c1 => ?_) (fun c1 => ?_)
  · have h := h.1 c1
    refine z_iload_n dX3_parseLetter_75 2 rfl ?_
    refine z_if_ne 85 dX3_parseLetter_76 (by decide) (fun c2 => ?_) (fun c2 => ?_)
    · have h := h.1 c2
      refine z_aload_n dX3_parseLetter_85 1 rfl ?_
      refine z_callV (m2 := mX5_next) (st := []) [] okX5_next (Or.inl lkX3_63) shC_98 rfl rfl rfl (Nat.le_of_ble_eq_true rfl) dX3_parseLetter_86 (zgo_v h fun  M1 h => ?_)
      refine z_aload_n dX3_parseLetter_89 1 rfl ?_
      refine z_bipush (v := 59) dX3_parseLetter_90 (by decide) ?_
      refine z_callV (m2 := mX5_isSign) (st := []) [.int 59] okX5_isSign (Or.inl lkX3_70) shC_98 rfl rfl rfl (Nat.le_of_ble_eq_true rfl) dX3_parseLetter_92 (zgo_z h fun b1 M2 h => ?_)
      refine z_ifb_ne 104 dX3_parseLetter_95 (by decide) (fun c3 => ?_) (fun c3 => ?_)
      · have h := h.1 c3
        refine z_aload_n dX3_parseLetter_104 1 rfl ?_
        refine z_callV (m2 := mX5_next) (st := []) [] okX5_next (Or.inl lkX3_63) shC_98 rfl rfl rfl (Nat.le_of_ble_eq_true rfl) dX3_parseLetter_105 (zgo_v h fun  M3 h => ?_)
        refine z_aload_n dX3_parseLetter_108 0 rfl ?_
        refine z_getr shC_112 rfl flX3_11 dX3_parseLetter_109 ?_
        refine z_aload_n dX3_parseLetter_112 0 rfl ?_
        refine z_geti shC_112 rfl flX3_15 dX3_parseLetter_113 ?_
        refine z_iload_n dX3_parseLetter_116 2 rfl ?_
        obtain ⟨k1, ek1, uk1, h⟩ := h
        refine z_iast2 (k0 := k1) shC_113 (by decide) ek1 uk1 dX3_parseLetter_117 ?_
        refine z_aload_n dX3_parseLetter_118 0 rfl ?_
        refine z_dupr dX3_parseLetter_119 ?_
        refine z_geti shC_112 rfl flX3_15 dX3_parseLetter_120 ?_
        refine z_iconst (v := 1) dX3_parseLetter_123 (by decide) ?_
        refine z_iadd dX3_parseLetter_124 ?_
        refine z_puti shC_112 rfl fpX3_15 rfl rfl dX3_parseLetter_125 ?_
        refine z_iconst (v := 1) dX3_parseLetter_128 (by decide) ?_
        exact z_zret (b := true) rfl rfl dX3_parseLetter_129 h
      · have h := h.2 c3
        refine z_aload_n dX3_parseLetter_98 1 rfl ?_
        refine z_iconst (v := 1) dX3_parseLetter_99 (by decide) ?_
        refine z_callV (m2 := mX5_fail) (st := []) [.int 1] okX5_fail (Or.inl lkX3_59) shC_98 rfl rfl rfl (Nat.le_of_ble_eq_true rfl) dX3_parseLetter_100 (zgo_z h fun b2 M3 h => ?_)
        exact z_zret rfl rfl dX3_parseLetter_103 h
    · have h := h.2 c2
      refine z_aload_n dX3_parseLetter_79 1 rfl ?_
      refine z_iconst (v := 3) dX3_parseLetter_80 (by decide) ?_
      refine z_callV (m2 := mX5_fail) (st := []) [.int 3] okX5_fail (Or.inl lkX3_59) shC_98 rfl rfl rfl (Nat.le_of_ble_eq_true rfl) dX3_parseLetter_81 (zgo_z h fun b1 M1 h => ?_)
      exact z_zret rfl rfl dX3_parseLetter_84 h
  · have h := h.2 c1
    refine z_aload_n dX3_parseLetter_39 1 rfl ?_
    refine z_callV (m2 := mX5_next) (st := []) [] okX5_next (Or.inl lkX3_63) shC_98 rfl rfl rfl (Nat.le_of_ble_eq_true rfl) dX3_parseLetter_40 (zgo_v h fun  M1 h => ?_)
    refine z_aload_n dX3_parseLetter_43 1 rfl ?_
    refine z_iconst (v := 0) dX3_parseLetter_44 (by decide) ?_
    refine z_bipush (v := 7) dX3_parseLetter_45 (by decide) ?_
    refine z_callV (m2 := mX5_number) (st := []) [.int 0, .int 7] okX5_number (Or.inl lkX3_66) shC_98 rfl rfl rfl (Nat.le_of_ble_eq_true rfl) dX3_parseLetter_47 (zgo_i h fun x2 M2 h => ?_)
    refine z_istore [(4, .int x2), (0, .ref 112), (1, .ref 98), (2, .int l2), (3, .int l3)] dX3_parseLetter_50 (by decide) rfl ?_
    refine z_iload dX3_parseLetter_52 0 rfl ?_
    refine z_iconst (v := (-1)) dX3_parseLetter_54 (by decide) ?_
    refine z_icmp_ne 60 dX3_parseLetter_55 (by decide) (fun c2 => ?_) (fun c2 => ?_)
    · have h := h.1 c2
      refine z_iload_n dX3_parseLetter_60 3 rfl ?_
      refine z_iload dX3_parseLetter_61 0 rfl ?_
      refine z_iconst (v := 3) dX3_parseLetter_63 (by decide) ?_
      refine z_iload_n dX3_parseLetter_64 4 rfl ?_
      refine z_imul dX3_parseLetter_65 ?_
      refine z_ishl dX3_parseLetter_66 ?_
      refine z_ior dX3_parseLetter_67 ?_
      refine z_istore_n [(2, .int (l2 ||| (x2 <<< ((3 * l3) &&& 31)))), (4, .int x2), (0, .ref 112), (1, .ref 98), (3, .int l3)] dX3_parseLetter_68 (by decide) rfl ?_
      refine z_iinc (x := l3) (v := (l3 + 1)) [(3, .int (l3 + 1)), (2, .int (l2 ||| (x2 <<< ((3 * l3) &&& 31)))), (4, .int x2), (0, .ref 112), (1, .ref 98)] dX3_parseLetter_69 4 rfl rfl (by decide) rfl ?_
      refine z_goto 34 dX3_parseLetter_72 (by decide) ?_
      exact zW.sub [3, 4, 1, 0] rfl h
    · have h := h.2 c2
      refine z_iconst (v := 0) dX3_parseLetter_58 (by decide) ?_
      exact z_zret (b := false) rfl rfl dX3_parseLetter_59 h
theorem dX3_parseWants_0 : decode cX3_parseWants 0 = .ok (.aload_n 0, 1) := by decide +kernel
theorem dX3_parseWants_1 : decode cX3_parseWants 1 = .ok (.aload_n 2, 1) := by decide +kernel
theorem dX3_parseWants_2 : decode cX3_parseWants 2 = .ok (.getfield 74, 3) := by decide +kernel
theorem dX3_parseWants_5 : decode cX3_parseWants 5 = .ok (.invokevirtual 80, 3) := by decide +kernel
theorem dX3_parseWants_8 : decode cX3_parseWants 8 = .ok (.aload_n 0, 1) := by decide +kernel
theorem dX3_parseWants_9 : decode cX3_parseWants 9 = .ok (.iconst 0, 1) := by decide +kernel
theorem dX3_parseWants_10 : decode cX3_parseWants 10 = .ok (.putfield 25, 3) := by decide +kernel
theorem dX3_parseWants_13 : decode cX3_parseWants 13 = .ok (.iconst 0, 1) := by decide +kernel
theorem dX3_parseWants_14 : decode cX3_parseWants 14 = .ok (.istore_n 3, 1) := by decide +kernel
theorem dX3_parseWants_15 : decode cX3_parseWants 15 = .ok (.iload_n 3, 1) := by decide +kernel
theorem dX3_parseWants_16 : decode cX3_parseWants 16 = .ok (.sipush 400, 3) := by decide +kernel
theorem dX3_parseWants_19 : decode cX3_parseWants 19 = .ok (.if_icmp .ge 27, 3) := by decide +kernel
theorem dX3_parseWants_22 : decode cX3_parseWants 22 = .ok (.aload_n 1, 1) := by decide +kernel
theorem dX3_parseWants_23 : decode cX3_parseWants 23 = .ok (.invokevirtual 43, 3) := by decide +kernel
theorem dX3_parseWants_26 : decode cX3_parseWants 26 = .ok (.ifCond .ne 20, 3) := by decide +kernel
theorem dX3_parseWants_29 : decode cX3_parseWants 29 = .ok (.aload_n 0, 1) := by decide +kernel
theorem dX3_parseWants_30 : decode cX3_parseWants 30 = .ok (.aload_n 1, 1) := by decide +kernel
theorem dX3_parseWants_31 : decode cX3_parseWants 31 = .ok (.aload_n 2, 1) := by decide +kernel
theorem dX3_parseWants_32 : decode cX3_parseWants 32 = .ok (.invokevirtual 84, 3) := by decide +kernel
theorem dX3_parseWants_35 : decode cX3_parseWants 35 = .ok (.ifCond .ne 5, 3) := by decide +kernel
theorem dX3_parseWants_38 : decode cX3_parseWants 38 = .ok (.iconst 0, 1) := by decide +kernel
theorem dX3_parseWants_39 : decode cX3_parseWants 39 = .ok (.ireturn, 1) := by decide +kernel
theorem dX3_parseWants_40 : decode cX3_parseWants 40 = .ok (.iinc 3 1, 3) := by decide +kernel
theorem dX3_parseWants_43 : decode cX3_parseWants 43 = .ok (.goto (-28), 3) := by decide +kernel
theorem dX3_parseWants_46 : decode cX3_parseWants 46 = .ok (.iconst 1, 1) := by decide +kernel
theorem dX3_parseWants_47 : decode cX3_parseWants 47 = .ok (.ireturn, 1) := by decide +kernel
set_option maxRecDepth 20000 in
theorem vX3_parseWants {g : zG} {d : Nat} {Q : Bool → zM → Prop} {M : zM} (h : zCv shC g d mX3_copy [.ref 112, .ref 22] M (fun  M1 => zW shC g (d + 1) mX3_parseWants (zz Q) 15 [(0, .ref 112), (1, .ref 98), (2, .ref 1), (3, .int 0)] [] (zup M1 112 4 0))) : zCz shC g (d + 1) mX3_parseWants [.ref 112, .ref 98, .ref 1] M Q := by
  refine zW.enter (by decide +kernel) (Nat.le_of_ble_eq_true rfl) ?_
  change zW shC g (d + 1) mX3_parseWants (zz Q) 0 [(0, .ref 112), (1, .ref 98), (2, .ref 1)] [] M
  refine z_aload_n dX3_parseWants_0 0 rfl ?_
  refine z_aload_n dX3_parseWants_1 2 rfl ?_
  refine z_getr shC_1 rfl flX3_74 dX3_parseWants_2 ?_
  refine z_callV (m2 := mX3_copy) (st := []) [.ref 22] okX3_copy (Or.inl lkX3_80) shC_112 rfl rfl rfl (Nat.le_of_ble_eq_true rfl) dX3_parseWants_5 (zgo_v h fun  M1 h => ?_)
  refine z_aload_n dX3_parseWants_8 0 rfl ?_
  refine z_iconst (v := 0) dX3_parseWants_9 (by decide) ?_
  refine z_puti shC_112 rfl fpX3_25 rfl rfl dX3_parseWants_10 ?_
  refine z_iconst (v := 0) dX3_parseWants_13 (by decide) ?_
  refine z_istore_n [(3, .int 0), (0, .ref 112), (1, .ref 98), (2, .ref 1)] dX3_parseWants_14 (by decide) rfl ?_
  exact zW.sub [1, 2, 3, 0] rfl h
set_option maxRecDepth 20000 in
theorem vX3_parseWants_15 {g : zG} {d : Nat} {Q : Bool → zM → Prop} {M : zM} {l3 : Int32} (h : (400 ≤ l3 → Q true M) ∧ (¬ 400 ≤ l3 → zCz shC g d mX5_isEnd [.ref 98] M (fun b1 M1 => (b1 = true → Q true M1) ∧ (b1 = false → zCz shC g d mX3_parseWant [.ref 112, .ref 98, .ref 1] M1 (fun b2 M2 => (b2 = true → zW shC g (d + 1) mX3_parseWants (zz Q) 15 [(0, .ref 112), (1, .ref 98), (2, .ref 1), (3, .int (l3 + 1))] [] M2) ∧ (b2 = false → Q false M2)))))) : zW shC g (d + 1) mX3_parseWants (zz Q) 15 [(0, .ref 112), (1, .ref 98), (2, .ref 1), (3, .int l3)] [] M := by
  refine z_iload_n dX3_parseWants_15 3 rfl ?_
  refine z_sipush (v := 400) dX3_parseWants_16 (by decide) ?_
  refine z_icmp_ge 46 dX3_parseWants_19 (by decide) (fun c1 => ?_) (fun c1 => ?_)
  · have h := h.1 c1
    refine z_iconst (v := 1) dX3_parseWants_46 (by decide) ?_
    exact z_zret (b := true) rfl rfl dX3_parseWants_47 h
  · have h := h.2 c1
    refine z_aload_n dX3_parseWants_22 1 rfl ?_
    refine z_callV (m2 := mX5_isEnd) (st := []) [] okX5_isEnd (Or.inl lkX3_43) shC_98 rfl rfl rfl (Nat.le_of_ble_eq_true rfl) dX3_parseWants_23 (zgo_z h fun b1 M1 h => ?_)
    refine z_ifb_ne 46 dX3_parseWants_26 (by decide) (fun c2 => ?_) (fun c2 => ?_)
    · have h := h.1 c2
      refine z_iconst (v := 1) dX3_parseWants_46 (by decide) ?_
      exact z_zret (b := true) rfl rfl dX3_parseWants_47 h
    · have h := h.2 c2
      refine z_aload_n dX3_parseWants_29 0 rfl ?_
      refine z_aload_n dX3_parseWants_30 1 rfl ?_
      refine z_aload_n dX3_parseWants_31 2 rfl ?_
      refine z_callV (m2 := mX3_parseWant) (st := []) [.ref 98, .ref 1] okX3_parseWant (Or.inl lkX3_84) shC_112 rfl rfl rfl (Nat.le_of_ble_eq_true rfl) dX3_parseWants_32 (zgo_z h fun b2 M2 h => ?_)
      refine z_ifb_ne 40 dX3_parseWants_35 (by decide) (fun c3 => ?_) (fun c3 => ?_)
      · have h := h.1 c3
        refine z_iinc (x := l3) (v := (l3 + 1)) [(3, .int (l3 + 1)), (0, .ref 112), (1, .ref 98), (2, .ref 1)] dX3_parseWants_40 3 rfl rfl (by decide) rfl ?_
        refine z_goto 15 dX3_parseWants_43 (by decide) ?_
        exact zW.sub [1, 2, 3, 0] rfl h
      · have h := h.2 c3
        refine z_iconst (v := 0) dX3_parseWants_38 (by decide) ?_
        exact z_zret (b := false) rfl rfl dX3_parseWants_39 h
theorem dX3_parseWant_0 : decode cX3_parseWant 0 = .ok (.aload_n 1, 1) := by decide +kernel
theorem dX3_parseWant_1 : decode cX3_parseWant 1 = .ok (.ldc 88, 2) := by decide +kernel
theorem dX3_parseWant_3 : decode cX3_parseWant 3 = .ok (.invokevirtual 55, 3) := by decide +kernel
theorem dX3_parseWant_6 : decode cX3_parseWant 6 = .ok (.ifCond .ne 9, 3) := by decide +kernel
theorem dX3_parseWant_9 : decode cX3_parseWant 9 = .ok (.aload_n 1, 1) := by decide +kernel
theorem dX3_parseWant_10 : decode cX3_parseWant 10 = .ok (.iconst 1, 1) := by decide +kernel
theorem dX3_parseWant_11 : decode cX3_parseWant 11 = .ok (.invokevirtual 59, 3) := by decide +kernel
theorem dX3_parseWant_14 : decode cX3_parseWant 14 = .ok (.ireturn, 1) := by decide +kernel
theorem dX3_parseWant_15 : decode cX3_parseWant 15 = .ok (.aload_n 0, 1) := by decide +kernel
theorem dX3_parseWant_16 : decode cX3_parseWant 16 = .ok (.getfield 25, 3) := by decide +kernel
theorem dX3_parseWant_19 : decode cX3_parseWant 19 = .ok (.bipush 10, 2) := by decide +kernel
theorem dX3_parseWant_21 : decode cX3_parseWant 21 = .ok (.if_icmp .lt 9, 3) := by decide +kernel
theorem dX3_parseWant_24 : decode cX3_parseWant 24 = .ok (.aload_n 1, 1) := by decide +kernel
theorem dX3_parseWant_25 : decode cX3_parseWant 25 = .ok (.iconst 3, 1) := by decide +kernel
theorem dX3_parseWant_26 : decode cX3_parseWant 26 = .ok (.invokevirtual 59, 3) := by decide +kernel
theorem dX3_parseWant_29 : decode cX3_parseWant 29 = .ok (.ireturn, 1) := by decide +kernel
theorem dX3_parseWant_30 : decode cX3_parseWant 30 = .ok (.aload_n 1, 1) := by decide +kernel
theorem dX3_parseWant_31 : decode cX3_parseWant 31 = .ok (.invokevirtual 63, 3) := by decide +kernel
theorem dX3_parseWant_34 : decode cX3_parseWant 34 = .ok (.aload_n 1, 1) := by decide +kernel
theorem dX3_parseWant_35 : decode cX3_parseWant 35 = .ok (.iconst 0, 1) := by decide +kernel
theorem dX3_parseWant_36 : decode cX3_parseWant 36 = .ok (.aload_n 0, 1) := by decide +kernel
theorem dX3_parseWant_37 : decode cX3_parseWant 37 = .ok (.getfield 15, 3) := by decide +kernel
theorem dX3_parseWant_40 : decode cX3_parseWant 40 = .ok (.iconst 1, 1) := by decide +kernel
theorem dX3_parseWant_41 : decode cX3_parseWant 41 = .ok (.isub, 1) := by decide +kernel
theorem dX3_parseWant_42 : decode cX3_parseWant 42 = .ok (.invokevirtual 66, 3) := by decide +kernel
theorem dX3_parseWant_45 : decode cX3_parseWant 45 = .ok (.istore_n 3, 1) := by decide +kernel
theorem dX3_parseWant_46 : decode cX3_parseWant 46 = .ok (.iload_n 3, 1) := by decide +kernel
theorem dX3_parseWant_47 : decode cX3_parseWant 47 = .ok (.iconst (-1), 1) := by decide +kernel
theorem dX3_parseWant_48 : decode cX3_parseWant 48 = .ok (.if_icmp .ne 5, 3) := by decide +kernel
theorem dX3_parseWant_51 : decode cX3_parseWant 51 = .ok (.iconst 0, 1) := by decide +kernel
theorem dX3_parseWant_52 : decode cX3_parseWant 52 = .ok (.ireturn, 1) := by decide +kernel
theorem dX3_parseWant_53 : decode cX3_parseWant 53 = .ok (.aload_n 1, 1) := by decide +kernel
theorem dX3_parseWant_54 : decode cX3_parseWant 54 = .ok (.invokevirtual 63, 3) := by decide +kernel
theorem dX3_parseWant_57 : decode cX3_parseWant 57 = .ok (.aload_n 1, 1) := by decide +kernel
theorem dX3_parseWant_58 : decode cX3_parseWant 58 = .ok (.ldc 90, 2) := by decide +kernel
theorem dX3_parseWant_60 : decode cX3_parseWant 60 = .ok (.invokevirtual 55, 3) := by decide +kernel
theorem dX3_parseWant_63 : decode cX3_parseWant 63 = .ok (.ifCond .ne 9, 3) := by decide +kernel
theorem dX3_parseWant_66 : decode cX3_parseWant 66 = .ok (.aload_n 1, 1) := by decide +kernel
theorem dX3_parseWant_67 : decode cX3_parseWant 67 = .ok (.iconst 1, 1) := by decide +kernel
theorem dX3_parseWant_68 : decode cX3_parseWant 68 = .ok (.invokevirtual 59, 3) := by decide +kernel
theorem dX3_parseWant_71 : decode cX3_parseWant 71 = .ok (.ireturn, 1) := by decide +kernel
theorem dX3_parseWant_72 : decode cX3_parseWant 72 = .ok (.aload_n 1, 1) := by decide +kernel
theorem dX3_parseWant_73 : decode cX3_parseWant 73 = .ok (.invokevirtual 63, 3) := by decide +kernel
theorem dX3_parseWant_76 : decode cX3_parseWant 76 = .ok (.aload_n 1, 1) := by decide +kernel
theorem dX3_parseWant_77 : decode cX3_parseWant 77 = .ok (.iconst 0, 1) := by decide +kernel
theorem dX3_parseWant_78 : decode cX3_parseWant 78 = .ok (.bipush 63, 2) := by decide +kernel
theorem dX3_parseWant_80 : decode cX3_parseWant 80 = .ok (.invokevirtual 66, 3) := by decide +kernel
theorem dX3_parseWant_83 : decode cX3_parseWant 83 = .ok (.istore 4, 2) := by decide +kernel
theorem dX3_parseWant_85 : decode cX3_parseWant 85 = .ok (.iload 4, 2) := by decide +kernel
theorem dX3_parseWant_87 : decode cX3_parseWant 87 = .ok (.iconst (-1), 1) := by decide +kernel
theorem dX3_parseWant_88 : decode cX3_parseWant 88 = .ok (.if_icmp .ne 5, 3) := by decide +kernel
theorem dX3_parseWant_91 : decode cX3_parseWant 91 = .ok (.iconst 0, 1) := by decide +kernel
theorem dX3_parseWant_92 : decode cX3_parseWant 92 = .ok (.ireturn, 1) := by decide +kernel
theorem dX3_parseWant_93 : decode cX3_parseWant 93 = .ok (.aload_n 2, 1) := by decide +kernel
theorem dX3_parseWant_94 : decode cX3_parseWant 94 = .ok (.iload 4, 2) := by decide +kernel
theorem dX3_parseWant_96 : decode cX3_parseWant 96 = .ok (.invokevirtual 92, 3) := by decide +kernel
theorem dX3_parseWant_99 : decode cX3_parseWant 99 = .ok (.ifCond .ne 9, 3) := by decide +kernel
theorem dX3_parseWant_102 : decode cX3_parseWant 102 = .ok (.aload_n 1, 1) := by decide +kernel
theorem dX3_parseWant_103 : decode cX3_parseWant 103 = .ok (.iconst 2, 1) := by decide +kernel
theorem dX3_parseWant_104 : decode cX3_parseWant 104 = .ok (.invokevirtual 59, 3) := by decide +kernel
theorem dX3_parseWant_107 : decode cX3_parseWant 107 = .ok (.ireturn, 1) := by decide +kernel
theorem dX3_parseWant_108 : decode cX3_parseWant 108 = .ok (.aload_n 1, 1) := by decide +kernel
theorem dX3_parseWant_109 : decode cX3_parseWant 109 = .ok (.invokevirtual 63, 3) := by decide +kernel
theorem dX3_parseWant_112 : decode cX3_parseWant 112 = .ok (.aload_n 1, 1) := by decide +kernel
theorem dX3_parseWant_113 : decode cX3_parseWant 113 = .ok (.bipush 59, 2) := by decide +kernel
theorem dX3_parseWant_115 : decode cX3_parseWant 115 = .ok (.invokevirtual 70, 3) := by decide +kernel
theorem dX3_parseWant_118 : decode cX3_parseWant 118 = .ok (.ifCond .ne 9, 3) := by decide +kernel
theorem dX3_parseWant_121 : decode cX3_parseWant 121 = .ok (.aload_n 1, 1) := by decide +kernel
theorem dX3_parseWant_122 : decode cX3_parseWant 122 = .ok (.iconst 1, 1) := by decide +kernel
theorem dX3_parseWant_123 : decode cX3_parseWant 123 = .ok (.invokevirtual 59, 3) := by decide +kernel
theorem dX3_parseWant_126 : decode cX3_parseWant 126 = .ok (.ireturn, 1) := by decide +kernel
theorem dX3_parseWant_127 : decode cX3_parseWant 127 = .ok (.aload_n 1, 1) := by decide +kernel
theorem dX3_parseWant_128 : decode cX3_parseWant 128 = .ok (.invokevirtual 63, 3) := by decide +kernel
theorem dX3_parseWant_131 : decode cX3_parseWant 131 = .ok (.aload_n 0, 1) := by decide +kernel
theorem dX3_parseWant_132 : decode cX3_parseWant 132 = .ok (.getfield 19, 3) := by decide +kernel
theorem dX3_parseWant_135 : decode cX3_parseWant 135 = .ok (.aload_n 0, 1) := by decide +kernel
theorem dX3_parseWant_136 : decode cX3_parseWant 136 = .ok (.getfield 25, 3) := by decide +kernel
theorem dX3_parseWant_139 : decode cX3_parseWant 139 = .ok (.iload_n 3, 1) := by decide +kernel
theorem dX3_parseWant_140 : decode cX3_parseWant 140 = .ok (.iastore, 1) := by decide +kernel
theorem dX3_parseWant_141 : decode cX3_parseWant 141 = .ok (.aload_n 0, 1) := by decide +kernel
theorem dX3_parseWant_142 : decode cX3_parseWant 142 = .ok (.getfield 22, 3) := by decide +kernel
theorem dX3_parseWant_145 : decode cX3_parseWant 145 = .ok (.aload_n 0, 1) := by decide +kernel
theorem dX3_parseWant_146 : decode cX3_parseWant 146 = .ok (.getfield 25, 3) := by decide +kernel
theorem dX3_parseWant_149 : decode cX3_parseWant 149 = .ok (.iload 4, 2) := by decide +kernel
theorem dX3_parseWant_151 : decode cX3_parseWant 151 = .ok (.iastore, 1) := by decide +kernel
theorem dX3_parseWant_152 : decode cX3_parseWant 152 = .ok (.aload_n 0, 1) := by decide +kernel
theorem dX3_parseWant_153 : decode cX3_parseWant 153 = .ok (.dup, 1) := by decide +kernel
theorem dX3_parseWant_154 : decode cX3_parseWant 154 = .ok (.getfield 25, 3) := by decide +kernel
theorem dX3_parseWant_157 : decode cX3_parseWant 157 = .ok (.iconst 1, 1) := by decide +kernel
theorem dX3_parseWant_158 : decode cX3_parseWant 158 = .ok (.iadd, 1) := by decide +kernel
theorem dX3_parseWant_159 : decode cX3_parseWant 159 = .ok (.putfield 25, 3) := by decide +kernel
theorem dX3_parseWant_162 : decode cX3_parseWant 162 = .ok (.iconst 1, 1) := by decide +kernel
theorem dX3_parseWant_163 : decode cX3_parseWant 163 = .ok (.ireturn, 1) := by decide +kernel
set_option maxRecDepth 20000 in
theorem vX3_parseWant {g : zG} {d : Nat} {Q : Bool → zM → Prop} {M : zM} (h : zCz shC g d mX5_isWord [.ref 98, .ref (4096 + 21)] M (fun b1 M1 => (b1 = true → ((M1 112 4) < 10 → zCv shC g d mX5_next [.ref 98] M1 (fun  M2 => zCi shC g d mX5_number [.ref 98, .int 0, .int ((M2 112 1) - 1)] M2 (fun x2 M3 => (¬ x2 = (-1) → zCv shC g d mX5_next [.ref 98] M3 (fun  M4 => zCz shC g d mX5_isWord [.ref 98, .ref (4096 + 22)] M4 (fun b2 M5 => (b2 = true → zCv shC g d mX5_next [.ref 98] M5 (fun  M6 => zCi shC g d mX5_number [.ref 98, .int 0, .int 63] M6 (fun x5 M7 => (¬ x5 = (-1) → zCz shC g d mX7_isBox [.ref 1, .int x5] M7 (fun b3 M8 => (b3 = true → zCv shC g d mX5_next [.ref 98] M8 (fun  M9 => zCz shC g d mX5_isSign [.ref 98, .int 59] M9 (fun b4 M10 => (b4 = true → zCv shC g d mX5_next [.ref 98] M10 (fun  M11 => ∃ k1 : Nat, (M11 112 4) = iv k1 ∧ k1 < 10 ∧ ∃ k2 : Nat, ((zup M11 114 k1 x2) 112 4) = iv k2 ∧ k2 < 10 ∧ Q true (zup (zup (zup M11 114 k1 x2) 115 k2 x5) 112 4 (((zup (zup M11 114 k1 x2) 115 k2 x5) 112 4) + 1)))) ∧ (b4 = false → zCz shC g d mX5_fail [.ref 98, .int 1] M10 (fun b5 M11 => Q b5 M11))))) ∧ (b3 = false → zCz shC g d mX5_fail [.ref 98, .int 2] M8 (fun b4 M9 => Q b4 M9)))) ∧ (x5 = (-1) → Q false M7)))) ∧ (b2 = false → zCz shC g d mX5_fail [.ref 98, .int 1] M5 (fun b3 M6 => Q b3 M6))))) ∧ (x2 = (-1) → Q false M3)))) ∧ (¬ (M1 112 4) < 10 → zCz shC g d mX5_fail [.ref 98, .int 3] M1 (fun b2 M2 => Q b2 M2))) ∧ (b1 = false → zCz shC g d mX5_fail [.ref 98, .int 1] M1 (fun b2 M2 => Q b2 M2)))) : zCz shC g (d + 1) mX3_parseWant [.ref 112, .ref 98, .ref 1] M Q := by
  refine zW.enter (by decide +kernel) (Nat.le_of_ble_eq_true rfl) ?_
  change zW shC g (d + 1) mX3_parseWant (zz Q) 0 [(0, .ref 112), (1, .ref 98), (2, .ref 1)] [] M
  refine z_aload_n dX3_parseWant_0 1 rfl ?_
  refine z_ldcS (i := 21) (tx := "want") dX3_parseWant_1 (by decide +kernel) ?_
  refine z_callV (m2 := mX5_isWord) (st := []) [.ref (4096 + 21)] okX5_isWord (Or.inl lkX3_55) shC_98 rfl rfl rfl (Nat.le_of_ble_eq_true rfl) dX3_parseWant_3 (zgo_z h fun b1 M1 h => ?_)
  refine z_ifb_ne 15 dX3_parseWant_6 (by decide) (fun c1 => ?_) (fun c1 => ?_)
  · have h := h.1 c1
    refine z_aload_n dX3_parseWant_15 0 rfl ?_
    refine z_geti shC_112 rfl flX3_25 dX3_parseWant_16 ?_
    refine z_bipush (v := 10) dX3_parseWant_19 (by decide) ?_
    refine z_icmp_lt 30 dX3_parseWant_21 (by decide) (fun c2 => ?_) (fun c2 => ?_)
    · have h := h.1 c2
      refine z_aload_n dX3_parseWant_30 1 rfl ?_
      refine z_callV (m2 := mX5_next) (st := []) [] okX5_next (Or.inl lkX3_63) shC_98 rfl rfl rfl (Nat.le_of_ble_eq_true rfl) dX3_parseWant_31 (zgo_v h fun  M2 h => ?_)
      refine z_aload_n dX3_parseWant_34 1 rfl ?_
      refine z_iconst (v := 0) dX3_parseWant_35 (by decide) ?_
      refine z_aload_n dX3_parseWant_36 0 rfl ?_
      refine z_geti shC_112 rfl flX3_15 dX3_parseWant_37 ?_
      refine z_iconst (v := 1) dX3_parseWant_40 (by decide) ?_
      refine z_isub dX3_parseWant_41 ?_
      refine z_callV (m2 := mX5_number) (st := []) [.int 0, .int ((M2 112 1) - 1)] okX5_number (Or.inl lkX3_66) shC_98 rfl rfl rfl (Nat.le_of_ble_eq_true rfl) dX3_parseWant_42 (zgo_i h fun x2 M3 h => ?_)
      refine z_istore_n [(3, .int x2), (0, .ref 112), (1, .ref 98), (2, .ref 1)] dX3_parseWant_45 (by decide) rfl ?_
      refine z_iload_n dX3_parseWant_46 0 rfl ?_
      refine z_iconst (v := (-1)) dX3_parseWant_47 (by decide) ?_
      refine z_icmp_ne 53 dX3_parseWant_48 (by decide) (fun c3 => ?_) (fun c3 => ?_)
      · have h := h.1 c3
        refine z_aload_n dX3_parseWant_53 2 rfl ?_
        refine z_callV (m2 := mX5_next) (st := []) [] okX5_next (Or.inl lkX3_63) shC_98 rfl rfl rfl (Nat.le_of_ble_eq_true rfl) dX3_parseWant_54 (zgo_v h fun  M4 h => ?_)
        refine z_aload_n dX3_parseWant_57 2 rfl ?_
        refine z_ldcS (i := 22) (tx := "at") dX3_parseWant_58 (by decide +kernel) ?_
        refine z_callV (m2 := mX5_isWord) (st := []) [.ref (4096 + 22)] okX5_isWord (Or.inl lkX3_55) shC_98 rfl rfl rfl (Nat.le_of_ble_eq_true rfl) dX3_parseWant_60 (zgo_z h fun b2 M5 h => ?_)
        refine z_ifb_ne 72 dX3_parseWant_63 (by decide) (fun c4 => ?_) (fun c4 => ?_)
        · have h := h.1 c4
          refine z_aload_n dX3_parseWant_72 2 rfl ?_
          refine z_callV (m2 := mX5_next) (st := []) [] okX5_next (Or.inl lkX3_63) shC_98 rfl rfl rfl (Nat.le_of_ble_eq_true rfl) dX3_parseWant_73 (zgo_v h fun  M6 h => ?_)
          refine z_aload_n dX3_parseWant_76 2 rfl ?_
          refine z_iconst (v := 0) dX3_parseWant_77 (by decide) ?_
          refine z_bipush (v := 63) dX3_parseWant_78 (by decide) ?_
          refine z_callV (m2 := mX5_number) (st := []) [.int 0, .int 63] okX5_number (Or.inl lkX3_66) shC_98 rfl rfl rfl (Nat.le_of_ble_eq_true rfl) dX3_parseWant_80 (zgo_i h fun x5 M7 h => ?_)
          refine z_istore [(4, .int x5), (3, .int x2), (0, .ref 112), (1, .ref 98), (2, .ref 1)] dX3_parseWant_83 (by decide) rfl ?_
          refine z_iload dX3_parseWant_85 0 rfl ?_
          refine z_iconst (v := (-1)) dX3_parseWant_87 (by decide) ?_
          refine z_icmp_ne 93 dX3_parseWant_88 (by decide) (fun c5 => ?_) (fun c5 => ?_)
          · have h := h.1 c5
            refine z_aload_n dX3_parseWant_93 4 rfl ?_
            refine z_iload dX3_parseWant_94 0 rfl ?_
            refine z_callV (m2 := mX7_isBox) (st := []) [.int x5] okX7_isBox (Or.inl lkX3_92) shC_1 rfl rfl rfl (Nat.le_of_ble_eq_true rfl) dX3_parseWant_96 (zgo_z h fun b3 M8 h => ?_)
            refine z_ifb_ne 108 dX3_parseWant_99 (by decide) (fun c6 => ?_) (fun c6 => ?_)
            · have h := h.1 c6
              refine z_aload_n dX3_parseWant_108 3 rfl ?_
              refine z_callV (m2 := mX5_next) (st := []) [] okX5_next (Or.inl lkX3_63) shC_98 rfl rfl rfl (Nat.le_of_ble_eq_true rfl) dX3_parseWant_109 (zgo_v h fun  M9 h => ?_)
              refine z_aload_n dX3_parseWant_112 3 rfl ?_
              refine z_bipush (v := 59) dX3_parseWant_113 (by decide) ?_
              refine z_callV (m2 := mX5_isSign) (st := []) [.int 59] okX5_isSign (Or.inl lkX3_70) shC_98 rfl rfl rfl (Nat.le_of_ble_eq_true rfl) dX3_parseWant_115 (zgo_z h fun b4 M10 h => ?_)
              refine z_ifb_ne 127 dX3_parseWant_118 (by decide) (fun c7 => ?_) (fun c7 => ?_)
              · have h := h.1 c7
                refine z_aload_n dX3_parseWant_127 3 rfl ?_
                refine z_callV (m2 := mX5_next) (st := []) [] okX5_next (Or.inl lkX3_63) shC_98 rfl rfl rfl (Nat.le_of_ble_eq_true rfl) dX3_parseWant_128 (zgo_v h fun  M11 h => ?_)
                refine z_aload_n dX3_parseWant_131 2 rfl ?_
                refine z_getr shC_112 rfl flX3_19 dX3_parseWant_132 ?_
                refine z_aload_n dX3_parseWant_135 2 rfl ?_
                refine z_geti shC_112 rfl flX3_25 dX3_parseWant_136 ?_
                refine z_iload_n dX3_parseWant_139 1 rfl ?_
                obtain ⟨k1, ek1, uk1, h⟩ := h
                refine z_iast2 (k0 := k1) shC_114 (by decide) ek1 uk1 dX3_parseWant_140 ?_
                refine z_aload_n dX3_parseWant_141 2 rfl ?_
                refine z_getr shC_112 rfl flX3_22 dX3_parseWant_142 ?_
                refine z_aload_n dX3_parseWant_145 2 rfl ?_
                refine z_geti shC_112 rfl flX3_25 dX3_parseWant_146 ?_
                refine z_iload dX3_parseWant_149 0 rfl ?_
                obtain ⟨k2, ek2, uk2, h⟩ := h
                refine z_iast2 (k0 := k2) shC_115 (by decide) ek2 uk2 dX3_parseWant_151 ?_
                refine z_aload_n dX3_parseWant_152 2 rfl ?_
                refine z_dupr dX3_parseWant_153 ?_
                refine z_geti shC_112 rfl flX3_25 dX3_parseWant_154 ?_
                refine z_iconst (v := 1) dX3_parseWant_157 (by decide) ?_
                refine z_iadd dX3_parseWant_158 ?_
                refine z_puti shC_112 rfl fpX3_25 rfl rfl dX3_parseWant_159 ?_
                refine z_iconst (v := 1) dX3_parseWant_162 (by decide) ?_
                exact z_zret (b := true) rfl rfl dX3_parseWant_163 h
              · have h := h.2 c7
                refine z_aload_n dX3_parseWant_121 3 rfl ?_
                refine z_iconst (v := 1) dX3_parseWant_122 (by decide) ?_
                refine z_callV (m2 := mX5_fail) (st := []) [.int 1] okX5_fail (Or.inl lkX3_59) shC_98 rfl rfl rfl (Nat.le_of_ble_eq_true rfl) dX3_parseWant_123 (zgo_z h fun b5 M11 h => ?_)
                exact z_zret rfl rfl dX3_parseWant_126 h
            · have h := h.2 c6
              refine z_aload_n dX3_parseWant_102 3 rfl ?_
              refine z_iconst (v := 2) dX3_parseWant_103 (by decide) ?_
              refine z_callV (m2 := mX5_fail) (st := []) [.int 2] okX5_fail (Or.inl lkX3_59) shC_98 rfl rfl rfl (Nat.le_of_ble_eq_true rfl) dX3_parseWant_104 (zgo_z h fun b4 M9 h => ?_)
              exact z_zret rfl rfl dX3_parseWant_107 h
          · have h := h.2 c5
            refine z_iconst (v := 0) dX3_parseWant_91 (by decide) ?_
            exact z_zret (b := false) rfl rfl dX3_parseWant_92 h
        · have h := h.2 c4
          refine z_aload_n dX3_parseWant_66 2 rfl ?_
          refine z_iconst (v := 1) dX3_parseWant_67 (by decide) ?_
          refine z_callV (m2 := mX5_fail) (st := []) [.int 1] okX5_fail (Or.inl lkX3_59) shC_98 rfl rfl rfl (Nat.le_of_ble_eq_true rfl) dX3_parseWant_68 (zgo_z h fun b3 M6 h => ?_)
          exact z_zret rfl rfl dX3_parseWant_71 h
      · have h := h.2 c3
        refine z_iconst (v := 0) dX3_parseWant_51 (by decide) ?_
        exact z_zret (b := false) rfl rfl dX3_parseWant_52 h
    · have h := h.2 c2
      refine z_aload_n dX3_parseWant_24 1 rfl ?_
      refine z_iconst (v := 3) dX3_parseWant_25 (by decide) ?_
      refine z_callV (m2 := mX5_fail) (st := []) [.int 3] okX5_fail (Or.inl lkX3_59) shC_98 rfl rfl rfl (Nat.le_of_ble_eq_true rfl) dX3_parseWant_26 (zgo_z h fun b2 M2 h => ?_)
      exact z_zret rfl rfl dX3_parseWant_29 h
  · have h := h.2 c1
    refine z_aload_n dX3_parseWant_9 1 rfl ?_
    refine z_iconst (v := 1) dX3_parseWant_10 (by decide) ?_
    refine z_callV (m2 := mX5_fail) (st := []) [.int 1] okX5_fail (Or.inl lkX3_59) shC_98 rfl rfl rfl (Nat.le_of_ble_eq_true rfl) dX3_parseWant_11 (zgo_z h fun b2 M2 h => ?_)
    exact z_zret rfl rfl dX3_parseWant_14 h
