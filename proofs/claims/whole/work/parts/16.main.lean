/-! THE WALKS, by program: 15.main -/
theorem dX8_state_0 : decode cX8_state 0 = .ok (.aload_n 0, 1) := by decide +kernel
theorem dX8_state_1 : decode cX8_state 1 = .ok (.getfield 10, 3) := by decide +kernel
theorem dX8_state_4 : decode cX8_state 4 = .ok (.getfield 88, 3) := by decide +kernel
theorem dX8_state_7 : decode cX8_state 7 = .ok (.getfield 91, 3) := by decide +kernel
theorem dX8_state_10 : decode cX8_state 10 = .ok (.istore_n 2, 1) := by decide +kernel
theorem dX8_state_11 : decode cX8_state 11 = .ok (.aload_n 0, 1) := by decide +kernel
theorem dX8_state_12 : decode cX8_state 12 = .ok (.getfield 10, 3) := by decide +kernel
theorem dX8_state_15 : decode cX8_state 15 = .ok (.getfield 88, 3) := by decide +kernel
theorem dX8_state_18 : decode cX8_state 18 = .ok (.iload_n 1, 1) := by decide +kernel
theorem dX8_state_19 : decode cX8_state 19 = .ok (.putfield 91, 3) := by decide +kernel
theorem dX8_state_22 : decode cX8_state 22 = .ok (.aload_n 0, 1) := by decide +kernel
theorem dX8_state_23 : decode cX8_state 23 = .ok (.invokevirtual 94, 3) := by decide +kernel
theorem dX8_state_26 : decode cX8_state 26 = .ok (.iload_n 2, 1) := by decide +kernel
theorem dX8_state_27 : decode cX8_state 27 = .ok (.ireturn, 1) := by decide +kernel
set_option maxRecDepth 20000 in
theorem vX8_state {g : zG} {d : Nat} {Q : Int32 → zM → Prop} {M : zM} {l1 : Int32} (h : zCv shC g d mX8_forgetPast [.ref 0] (zup M 3 6 l1) (fun  M1 => Q (M 3 6) M1)) : zCi shC g (d + 1) mX8_state [.ref 0, .int l1] M Q := by
  refine zW.enter (by decide +kernel) (Nat.le_of_ble_eq_true rfl) ?_
  change zW shC g (d + 1) mX8_state (zi Q) 0 [(0, .ref 0), (1, .int l1)] [] M
  refine z_aload_n dX8_state_0 0 rfl ?_
  refine z_getr shC_0 rfl flX8_10 dX8_state_1 ?_
  refine z_getr shC_1 rfl flX8_88 dX8_state_4 ?_
  refine z_geti shC_3 rfl flX8_91 dX8_state_7 ?_
  refine z_istore_n [(2, .int (M 3 6)), (0, .ref 0), (1, .int l1)] dX8_state_10 (by decide) rfl ?_
  refine z_aload_n dX8_state_11 1 rfl ?_
  refine z_getr shC_0 rfl flX8_10 dX8_state_12 ?_
  refine z_getr shC_1 rfl flX8_88 dX8_state_15 ?_
  refine z_iload_n dX8_state_18 2 rfl ?_
  refine z_puti shC_3 rfl fpX8_91 rfl rfl dX8_state_19 ?_
  refine z_aload_n dX8_state_22 1 rfl ?_
  refine z_callV (m2 := mX8_forgetPast) (st := []) [] okX8_forgetPast (Or.inl lkX8_94) shC_0 rfl rfl rfl (Nat.le_of_ble_eq_true rfl) dX8_state_23 (zgo_v h fun  M1 h => ?_)
  refine z_iload_n dX8_state_26 0 rfl ?_
  exact z_iret (st := []) rfl rfl dX8_state_27 ⟨_, rfl, h⟩
theorem dX8_basin_0 : decode cX8_basin 0 = .ok (.iload_n 1, 1) := by decide +kernel
theorem dX8_basin_1 : decode cX8_basin 1 = .ok (.iconst 3, 1) := by decide +kernel
theorem dX8_basin_2 : decode cX8_basin 2 = .ok (.if_icmp .lt 20, 3) := by decide +kernel
theorem dX8_basin_5 : decode cX8_basin 5 = .ok (.iload_n 1, 1) := by decide +kernel
theorem dX8_basin_6 : decode cX8_basin 6 = .ok (.bipush 8, 2) := by decide +kernel
theorem dX8_basin_8 : decode cX8_basin 8 = .ok (.if_icmp .gt 14, 3) := by decide +kernel
theorem dX8_basin_11 : decode cX8_basin 11 = .ok (.iload_n 2, 1) := by decide +kernel
theorem dX8_basin_12 : decode cX8_basin 12 = .ok (.iconst 3, 1) := by decide +kernel
theorem dX8_basin_13 : decode cX8_basin 13 = .ok (.if_icmp .lt 9, 3) := by decide +kernel
theorem dX8_basin_16 : decode cX8_basin 16 = .ok (.iload_n 2, 1) := by decide +kernel
theorem dX8_basin_17 : decode cX8_basin 17 = .ok (.bipush 7, 2) := by decide +kernel
theorem dX8_basin_19 : decode cX8_basin 19 = .ok (.if_icmp .le 5, 3) := by decide +kernel
theorem dX8_basin_22 : decode cX8_basin 22 = .ok (.iconst 0, 1) := by decide +kernel
theorem dX8_basin_23 : decode cX8_basin 23 = .ok (.ireturn, 1) := by decide +kernel
theorem dX8_basin_24 : decode cX8_basin 24 = .ok (.aload_n 0, 1) := by decide +kernel
theorem dX8_basin_25 : decode cX8_basin 25 = .ok (.getfield 10, 3) := by decide +kernel
theorem dX8_basin_28 : decode cX8_basin 28 = .ok (.iload_n 1, 1) := by decide +kernel
theorem dX8_basin_29 : decode cX8_basin 29 = .ok (.iload_n 2, 1) := by decide +kernel
theorem dX8_basin_30 : decode cX8_basin 30 = .ok (.invokevirtual 84, 3) := by decide +kernel
theorem dX8_basin_33 : decode cX8_basin 33 = .ok (.aload_n 0, 1) := by decide +kernel
theorem dX8_basin_34 : decode cX8_basin 34 = .ok (.invokevirtual 94, 3) := by decide +kernel
theorem dX8_basin_37 : decode cX8_basin 37 = .ok (.iconst 1, 1) := by decide +kernel
theorem dX8_basin_38 : decode cX8_basin 38 = .ok (.ireturn, 1) := by decide +kernel
set_option maxRecDepth 20000 in
theorem vX8_basin {g : zG} {d : Nat} {Q : Bool → zM → Prop} {M : zM} {l1 : Int32} {l2 : Int32} (h : (l1 < 3 → Q false M) ∧ (¬ l1 < 3 → (8 < l1 → Q false M) ∧ (¬ 8 < l1 → (l2 < 3 → Q false M) ∧ (¬ l2 < 3 → (l2 ≤ 7 → zCv shC g d mX7_restart [.ref 1, .int l1, .int l2] M (fun  M1 => zCv shC g d mX8_forgetPast [.ref 0] M1 (fun  M2 => Q true M2))) ∧ (¬ l2 ≤ 7 → Q false M))))) : zCz shC g (d + 1) mX8_basin [.ref 0, .int l1, .int l2] M Q := by
  refine zW.enter (by decide +kernel) (Nat.le_of_ble_eq_true rfl) ?_
  change zW shC g (d + 1) mX8_basin (zz Q) 0 [(0, .ref 0), (1, .int l1), (2, .int l2)] [] M
  refine z_iload_n dX8_basin_0 1 rfl ?_
  refine z_iconst (v := 3) dX8_basin_1 (by decide) ?_
  refine z_icmp_lt 22 dX8_basin_2 (by decide) (fun c1 => ?_) (fun c1 => ?_)
  · have h := h.1 c1
    refine z_iconst (v := 0) dX8_basin_22 (by decide) ?_
    exact z_zret (b := false) rfl rfl dX8_basin_23 h
  · have h := h.2 c1
    refine z_iload_n dX8_basin_5 1 rfl ?_
    refine z_bipush (v := 8) dX8_basin_6 (by decide) ?_
    refine z_icmp_gt 22 dX8_basin_8 (by decide) (fun c2 => ?_) (fun c2 => ?_)
    · have h := h.1 c2
      refine z_iconst (v := 0) dX8_basin_22 (by decide) ?_
      exact z_zret (b := false) rfl rfl dX8_basin_23 h
    · have h := h.2 c2
      refine z_iload_n dX8_basin_11 2 rfl ?_
      refine z_iconst (v := 3) dX8_basin_12 (by decide) ?_
      refine z_icmp_lt 22 dX8_basin_13 (by decide) (fun c3 => ?_) (fun c3 => ?_)
      · have h := h.1 c3
        refine z_iconst (v := 0) dX8_basin_22 (by decide) ?_
        exact z_zret (b := false) rfl rfl dX8_basin_23 h
      · have h := h.2 c3
        refine z_iload_n dX8_basin_16 2 rfl ?_
        refine z_bipush (v := 7) dX8_basin_17 (by decide) ?_
        refine z_icmp_le 24 dX8_basin_19 (by decide) (fun c4 => ?_) (fun c4 => ?_)
        · have h := h.1 c4
          refine z_aload_n dX8_basin_24 0 rfl ?_
          refine z_getr shC_0 rfl flX8_10 dX8_basin_25 ?_
          refine z_iload_n dX8_basin_28 1 rfl ?_
          refine z_iload_n dX8_basin_29 2 rfl ?_
          refine z_callV (m2 := mX7_restart) (st := []) [.int l1, .int l2] okX7_restart (Or.inl lkX8_84) shC_1 rfl rfl rfl (Nat.le_of_ble_eq_true rfl) dX8_basin_30 (zgo_v h fun  M1 h => ?_)
          refine z_aload_n dX8_basin_33 0 rfl ?_
          refine z_callV (m2 := mX8_forgetPast) (st := []) [] okX8_forgetPast (Or.inl lkX8_94) shC_0 rfl rfl rfl (Nat.le_of_ble_eq_true rfl) dX8_basin_34 (zgo_v h fun  M2 h => ?_)
          refine z_iconst (v := 1) dX8_basin_37 (by decide) ?_
          exact z_zret (b := true) rfl rfl dX8_basin_38 h
        · have h := h.2 c4
          refine z_iconst (v := 0) dX8_basin_22 (by decide) ?_
          exact z_zret (b := false) rfl rfl dX8_basin_23 h
theorem dX8_skater_0 : decode cX8_skater 0 = .ok (.iload_n 1, 1) := by decide +kernel
theorem dX8_skater_1 : decode cX8_skater 1 = .ok (.ifCond .lt 32, 3) := by decide +kernel
theorem dX8_skater_4 : decode cX8_skater 4 = .ok (.iload_n 1, 1) := by decide +kernel
theorem dX8_skater_5 : decode cX8_skater 5 = .ok (.bipush 9, 2) := by decide +kernel
theorem dX8_skater_7 : decode cX8_skater 7 = .ok (.if_icmp .gt 26, 3) := by decide +kernel
theorem dX8_skater_10 : decode cX8_skater 10 = .ok (.aload_n 0, 1) := by decide +kernel
theorem dX8_skater_11 : decode cX8_skater 11 = .ok (.getfield 10, 3) := by decide +kernel
theorem dX8_skater_14 : decode cX8_skater 14 = .ok (.iload_n 2, 1) := by decide +kernel
theorem dX8_skater_15 : decode cX8_skater 15 = .ok (.invokevirtual 97, 3) := by decide +kernel
theorem dX8_skater_18 : decode cX8_skater 18 = .ok (.ifCond .eq 15, 3) := by decide +kernel
theorem dX8_skater_21 : decode cX8_skater 21 = .ok (.aload_n 0, 1) := by decide +kernel
theorem dX8_skater_22 : decode cX8_skater 22 = .ok (.getfield 10, 3) := by decide +kernel
theorem dX8_skater_25 : decode cX8_skater 25 = .ok (.getfield 101, 3) := by decide +kernel
theorem dX8_skater_28 : decode cX8_skater 28 = .ok (.bipush 6, 2) := by decide +kernel
theorem dX8_skater_30 : decode cX8_skater 30 = .ok (.if_icmp .lt 5, 3) := by decide +kernel
theorem dX8_skater_33 : decode cX8_skater 33 = .ok (.iconst (-1), 1) := by decide +kernel
theorem dX8_skater_34 : decode cX8_skater 34 = .ok (.ireturn, 1) := by decide +kernel
theorem dX8_skater_35 : decode cX8_skater 35 = .ok (.aload_n 0, 1) := by decide +kernel
theorem dX8_skater_36 : decode cX8_skater 36 = .ok (.invokevirtual 94, 3) := by decide +kernel
theorem dX8_skater_39 : decode cX8_skater 39 = .ok (.aload_n 0, 1) := by decide +kernel
theorem dX8_skater_40 : decode cX8_skater 40 = .ok (.getfield 10, 3) := by decide +kernel
theorem dX8_skater_43 : decode cX8_skater 43 = .ok (.iload_n 1, 1) := by decide +kernel
theorem dX8_skater_44 : decode cX8_skater 44 = .ok (.iload_n 2, 1) := by decide +kernel
theorem dX8_skater_45 : decode cX8_skater 45 = .ok (.invokevirtual 104, 3) := by decide +kernel
theorem dX8_skater_48 : decode cX8_skater 48 = .ok (.ireturn, 1) := by decide +kernel
set_option maxRecDepth 20000 in
theorem vX8_skater {g : zG} {d : Nat} {Q : Int32 → zM → Prop} {M : zM} {l1 : Int32} {l2 : Int32} (h : (l1 < 0 → Q (-1) M) ∧ (¬ l1 < 0 → (9 < l1 → Q (-1) M) ∧ (¬ 9 < l1 → zCz shC g d mX7_isCell [.ref 1, .int l2] M (fun b1 M1 => (b1 = false → Q (-1) M1) ∧ (b1 = true → ((M1 1 4) < 6 → zCv shC g d mX8_forgetPast [.ref 0] M1 (fun  M2 => zCi shC g d mX7_join [.ref 1, .int l1, .int l2] M2 (fun x2 M3 => Q x2 M3))) ∧ (¬ (M1 1 4) < 6 → Q (-1) M1)))))) : zCi shC g (d + 1) mX8_skater [.ref 0, .int l1, .int l2] M Q := by
  refine zW.enter (by decide +kernel) (Nat.le_of_ble_eq_true rfl) ?_
  change zW shC g (d + 1) mX8_skater (zi Q) 0 [(0, .ref 0), (1, .int l1), (2, .int l2)] [] M
  refine z_iload_n dX8_skater_0 1 rfl ?_
  refine z_if_lt 33 dX8_skater_1 (by decide) (fun c1 => ?_) (fun c1 => ?_)
  · have h := h.1 c1
    refine z_iconst (v := (-1)) dX8_skater_33 (by decide) ?_
    exact z_iret (st := []) rfl rfl dX8_skater_34 ⟨_, rfl, h⟩
  · have h := h.2 c1
    refine z_iload_n dX8_skater_4 1 rfl ?_
    refine z_bipush (v := 9) dX8_skater_5 (by decide) ?_
    refine z_icmp_gt 33 dX8_skater_7 (by decide) (fun c2 => ?_) (fun c2 => ?_)
    · have h := h.1 c2
      refine z_iconst (v := (-1)) dX8_skater_33 (by decide) ?_
      exact z_iret (st := []) rfl rfl dX8_skater_34 ⟨_, rfl, h⟩
    · have h := h.2 c2
      refine z_aload_n dX8_skater_10 0 rfl ?_
      refine z_getr shC_0 rfl flX8_10 dX8_skater_11 ?_
      refine z_iload_n dX8_skater_14 2 rfl ?_
      refine z_callV (m2 := mX7_isCell) (st := []) [.int l2] okX7_isCell (Or.inl lkX8_97) shC_1 rfl rfl rfl (Nat.le_of_ble_eq_true rfl) dX8_skater_15 (zgo_z h fun b1 M1 h => ?_)
      refine z_ifb_eq 33 dX8_skater_18 (by decide) (fun c3 => ?_) (fun c3 => ?_)
      · have h := h.1 c3
        refine z_iconst (v := (-1)) dX8_skater_33 (by decide) ?_
        exact z_iret (st := []) rfl rfl dX8_skater_34 ⟨_, rfl, h⟩
      · have h := h.2 c3
        refine z_aload_n dX8_skater_21 0 rfl ?_
        refine z_getr shC_0 rfl flX8_10 dX8_skater_22 ?_
        refine z_geti shC_1 rfl flX8_101 dX8_skater_25 ?_
        refine z_bipush (v := 6) dX8_skater_28 (by decide) ?_
        refine z_icmp_lt 35 dX8_skater_30 (by decide) (fun c4 => ?_) (fun c4 => ?_)
        · have h := h.1 c4
          refine z_aload_n dX8_skater_35 0 rfl ?_
          refine z_callV (m2 := mX8_forgetPast) (st := []) [] okX8_forgetPast (Or.inl lkX8_94) shC_0 rfl rfl rfl (Nat.le_of_ble_eq_true rfl) dX8_skater_36 (zgo_v h fun  M2 h => ?_)
          refine z_aload_n dX8_skater_39 0 rfl ?_
          refine z_getr shC_0 rfl flX8_10 dX8_skater_40 ?_
          refine z_iload_n dX8_skater_43 1 rfl ?_
          refine z_iload_n dX8_skater_44 2 rfl ?_
          refine z_callV (m2 := mX7_join) (st := []) [.int l1, .int l2] okX7_join (Or.inl lkX8_104) shC_1 rfl rfl rfl (Nat.le_of_ble_eq_true rfl) dX8_skater_45 (zgo_i h fun x2 M3 h => ?_)
          exact z_iret (st := []) rfl rfl dX8_skater_48 ⟨_, rfl, h⟩
        · have h := h.2 c4
          refine z_iconst (v := (-1)) dX8_skater_33 (by decide) ?_
          exact z_iret (st := []) rfl rfl dX8_skater_34 ⟨_, rfl, h⟩
theorem dX8_set_0 : decode cX8_set 0 = .ok (.aload_n 0, 1) := by decide +kernel
theorem dX8_set_1 : decode cX8_set 1 = .ok (.iload_n 1, 1) := by decide +kernel
theorem dX8_set_2 : decode cX8_set 2 = .ok (.iload_n 2, 1) := by decide +kernel
theorem dX8_set_3 : decode cX8_set 3 = .ok (.iload_n 3, 1) := by decide +kernel
theorem dX8_set_4 : decode cX8_set 4 = .ok (.invokevirtual 108, 3) := by decide +kernel
theorem dX8_set_7 : decode cX8_set 7 = .ok (.istore 4, 2) := by decide +kernel
theorem dX8_set_9 : decode cX8_set 9 = .ok (.iload 4, 2) := by decide +kernel
theorem dX8_set_11 : decode cX8_set 11 = .ok (.ifCond .eq 7, 3) := by decide +kernel
theorem dX8_set_14 : decode cX8_set 14 = .ok (.aload_n 0, 1) := by decide +kernel
theorem dX8_set_15 : decode cX8_set 15 = .ok (.invokevirtual 94, 3) := by decide +kernel
theorem dX8_set_18 : decode cX8_set 18 = .ok (.iload 4, 2) := by decide +kernel
theorem dX8_set_20 : decode cX8_set 20 = .ok (.ireturn, 1) := by decide +kernel
set_option maxRecDepth 20000 in
theorem vX8_set {g : zG} {d : Nat} {Q : Bool → zM → Prop} {M : zM} {l1 : Int32} {l2 : Int32} {l3 : Int32} (h : zCz shC g d mX8_tell [.ref 0, .int l1, .int l2, .int l3] M (fun b1 M1 => (b1 = false → Q b1 M1) ∧ (b1 = true → zCv shC g d mX8_forgetPast [.ref 0] M1 (fun  M2 => Q b1 M2)))) : zCz shC g (d + 1) mX8_set [.ref 0, .int l1, .int l2, .int l3] M Q := by
  refine zW.enter (by decide +kernel) (Nat.le_of_ble_eq_true rfl) ?_
  change zW shC g (d + 1) mX8_set (zz Q) 0 [(0, .ref 0), (1, .int l1), (2, .int l2), (3, .int l3)] [] M
  refine z_aload_n dX8_set_0 0 rfl ?_
  refine z_iload_n dX8_set_1 1 rfl ?_
  refine z_iload_n dX8_set_2 2 rfl ?_
  refine z_iload_n dX8_set_3 3 rfl ?_
  refine z_callV (m2 := mX8_tell) (st := []) [.int l1, .int l2, .int l3] okX8_tell (Or.inl lkX8_108) shC_0 rfl rfl rfl (Nat.le_of_ble_eq_true rfl) dX8_set_4 (zgo_z h fun b1 M1 h => ?_)
  refine z_istore [(4, .int (zbI b1)), (0, .ref 0), (1, .int l1), (2, .int l2), (3, .int l3)] dX8_set_7 (by decide) rfl ?_
  refine z_iload dX8_set_9 0 rfl ?_
  refine z_ifb_eq 18 dX8_set_11 (by decide) (fun c1 => ?_) (fun c1 => ?_)
  · have h := h.1 c1
    refine z_iload dX8_set_18 0 rfl ?_
    exact z_zret rfl rfl dX8_set_20 h
  · have h := h.2 c1
    refine z_aload_n dX8_set_14 1 rfl ?_
    refine z_callV (m2 := mX8_forgetPast) (st := []) [] okX8_forgetPast (Or.inl lkX8_94) shC_0 rfl rfl rfl (Nat.le_of_ble_eq_true rfl) dX8_set_15 (zgo_v h fun  M2 h => ?_)
    refine z_iload dX8_set_18 0 rfl ?_
    exact z_zret rfl rfl dX8_set_20 h
theorem dX8_tell_0 : decode cX8_tell 0 = .ok (.iload_n 1, 1) := by decide +kernel
theorem dX8_tell_1 : decode cX8_tell 1 = .ok (.ifCond .ne 24, 3) := by decide +kernel
theorem dX8_tell_4 : decode cX8_tell 4 = .ok (.iload_n 3, 1) := by decide +kernel
theorem dX8_tell_5 : decode cX8_tell 5 = .ok (.iconst 1, 1) := by decide +kernel
theorem dX8_tell_6 : decode cX8_tell 6 = .ok (.if_icmp .lt 19, 3) := by decide +kernel
theorem dX8_tell_9 : decode cX8_tell 9 = .ok (.iload_n 3, 1) := by decide +kernel
theorem dX8_tell_10 : decode cX8_tell 10 = .ok (.bipush 9, 2) := by decide +kernel
theorem dX8_tell_12 : decode cX8_tell 12 = .ok (.if_icmp .gt 13, 3) := by decide +kernel
theorem dX8_tell_15 : decode cX8_tell 15 = .ok (.aload_n 0, 1) := by decide +kernel
theorem dX8_tell_16 : decode cX8_tell 16 = .ok (.getfield 10, 3) := by decide +kernel
theorem dX8_tell_19 : decode cX8_tell 19 = .ok (.iload_n 3, 1) := by decide +kernel
theorem dX8_tell_20 : decode cX8_tell 20 = .ok (.putfield 112, 3) := by decide +kernel
theorem dX8_tell_23 : decode cX8_tell 23 = .ok (.iconst 1, 1) := by decide +kernel
theorem dX8_tell_24 : decode cX8_tell 24 = .ok (.ireturn, 1) := by decide +kernel
theorem dX8_tell_25 : decode cX8_tell 25 = .ok (.iload_n 1, 1) := by decide +kernel
theorem dX8_tell_26 : decode cX8_tell 26 = .ok (.iconst 1, 1) := by decide +kernel
theorem dX8_tell_27 : decode cX8_tell 27 = .ok (.if_icmp .ne 24, 3) := by decide +kernel
theorem dX8_tell_30 : decode cX8_tell 30 = .ok (.iload_n 3, 1) := by decide +kernel
theorem dX8_tell_31 : decode cX8_tell 31 = .ok (.ifCond .lt 20, 3) := by decide +kernel
theorem dX8_tell_34 : decode cX8_tell 34 = .ok (.iload_n 3, 1) := by decide +kernel
theorem dX8_tell_35 : decode cX8_tell 35 = .ok (.sipush 1000, 3) := by decide +kernel
theorem dX8_tell_38 : decode cX8_tell 38 = .ok (.if_icmp .gt 13, 3) := by decide +kernel
theorem dX8_tell_41 : decode cX8_tell 41 = .ok (.aload_n 0, 1) := by decide +kernel
theorem dX8_tell_42 : decode cX8_tell 42 = .ok (.getfield 10, 3) := by decide +kernel
theorem dX8_tell_45 : decode cX8_tell 45 = .ok (.iload_n 3, 1) := by decide +kernel
theorem dX8_tell_46 : decode cX8_tell 46 = .ok (.putfield 115, 3) := by decide +kernel
theorem dX8_tell_49 : decode cX8_tell 49 = .ok (.iconst 1, 1) := by decide +kernel
theorem dX8_tell_50 : decode cX8_tell 50 = .ok (.ireturn, 1) := by decide +kernel
theorem dX8_tell_51 : decode cX8_tell 51 = .ok (.iload_n 1, 1) := by decide +kernel
theorem dX8_tell_52 : decode cX8_tell 52 = .ok (.iconst 2, 1) := by decide +kernel
theorem dX8_tell_53 : decode cX8_tell 53 = .ok (.if_icmp .ne 39, 3) := by decide +kernel
theorem dX8_tell_56 : decode cX8_tell 56 = .ok (.aload_n 0, 1) := by decide +kernel
theorem dX8_tell_57 : decode cX8_tell 57 = .ok (.getfield 10, 3) := by decide +kernel
theorem dX8_tell_60 : decode cX8_tell 60 = .ok (.iload_n 2, 1) := by decide +kernel
theorem dX8_tell_61 : decode cX8_tell 61 = .ok (.invokevirtual 97, 3) := by decide +kernel
theorem dX8_tell_64 : decode cX8_tell 64 = .ok (.ifCond .eq 28, 3) := by decide +kernel
theorem dX8_tell_67 : decode cX8_tell 67 = .ok (.iload_n 3, 1) := by decide +kernel
theorem dX8_tell_68 : decode cX8_tell 68 = .ok (.ifCond .lt 24, 3) := by decide +kernel
theorem dX8_tell_71 : decode cX8_tell 71 = .ok (.iload_n 3, 1) := by decide +kernel
theorem dX8_tell_72 : decode cX8_tell 72 = .ok (.bipush 9, 2) := by decide +kernel
theorem dX8_tell_74 : decode cX8_tell 74 = .ok (.if_icmp .gt 18, 3) := by decide +kernel
theorem dX8_tell_77 : decode cX8_tell 77 = .ok (.aload_n 0, 1) := by decide +kernel
theorem dX8_tell_78 : decode cX8_tell 78 = .ok (.getfield 10, 3) := by decide +kernel
theorem dX8_tell_81 : decode cX8_tell 81 = .ok (.getfield 88, 3) := by decide +kernel
theorem dX8_tell_84 : decode cX8_tell 84 = .ok (.getfield 118, 3) := by decide +kernel
theorem dX8_tell_87 : decode cX8_tell 87 = .ok (.iload_n 2, 1) := by decide +kernel
theorem dX8_tell_88 : decode cX8_tell 88 = .ok (.iload_n 3, 1) := by decide +kernel
theorem dX8_tell_89 : decode cX8_tell 89 = .ok (.iastore, 1) := by decide +kernel
theorem dX8_tell_90 : decode cX8_tell 90 = .ok (.iconst 1, 1) := by decide +kernel
theorem dX8_tell_91 : decode cX8_tell 91 = .ok (.ireturn, 1) := by decide +kernel
theorem dX8_tell_92 : decode cX8_tell 92 = .ok (.iload_n 1, 1) := by decide +kernel
theorem dX8_tell_93 : decode cX8_tell 93 = .ok (.iconst 3, 1) := by decide +kernel
theorem dX8_tell_94 : decode cX8_tell 94 = .ok (.if_icmp .ne 40, 3) := by decide +kernel
theorem dX8_tell_97 : decode cX8_tell 97 = .ok (.aload_n 0, 1) := by decide +kernel
theorem dX8_tell_98 : decode cX8_tell 98 = .ok (.getfield 10, 3) := by decide +kernel
theorem dX8_tell_101 : decode cX8_tell 101 = .ok (.iload_n 2, 1) := by decide +kernel
theorem dX8_tell_102 : decode cX8_tell 102 = .ok (.invokevirtual 121, 3) := by decide +kernel
theorem dX8_tell_105 : decode cX8_tell 105 = .ok (.ifCond .eq 29, 3) := by decide +kernel
theorem dX8_tell_108 : decode cX8_tell 108 = .ok (.aload_n 0, 1) := by decide +kernel
theorem dX8_tell_109 : decode cX8_tell 109 = .ok (.getfield 10, 3) := by decide +kernel
theorem dX8_tell_112 : decode cX8_tell 112 = .ok (.iload_n 3, 1) := by decide +kernel
theorem dX8_tell_113 : decode cX8_tell 113 = .ok (.invokevirtual 97, 3) := by decide +kernel
theorem dX8_tell_116 : decode cX8_tell 116 = .ok (.ifCond .eq 18, 3) := by decide +kernel
theorem dX8_tell_119 : decode cX8_tell 119 = .ok (.aload_n 0, 1) := by decide +kernel
theorem dX8_tell_120 : decode cX8_tell 120 = .ok (.getfield 10, 3) := by decide +kernel
theorem dX8_tell_123 : decode cX8_tell 123 = .ok (.getfield 88, 3) := by decide +kernel
theorem dX8_tell_126 : decode cX8_tell 126 = .ok (.getfield 124, 3) := by decide +kernel
theorem dX8_tell_129 : decode cX8_tell 129 = .ok (.iload_n 2, 1) := by decide +kernel
theorem dX8_tell_130 : decode cX8_tell 130 = .ok (.iload_n 3, 1) := by decide +kernel
theorem dX8_tell_131 : decode cX8_tell 131 = .ok (.iastore, 1) := by decide +kernel
theorem dX8_tell_132 : decode cX8_tell 132 = .ok (.iconst 1, 1) := by decide +kernel
theorem dX8_tell_133 : decode cX8_tell 133 = .ok (.ireturn, 1) := by decide +kernel
theorem dX8_tell_134 : decode cX8_tell 134 = .ok (.iconst 0, 1) := by decide +kernel
theorem dX8_tell_135 : decode cX8_tell 135 = .ok (.ireturn, 1) := by decide +kernel
set_option maxRecDepth 20000 in
theorem vX8_tell {g : zG} {d : Nat} {Q : Bool → zM → Prop} {M : zM} {l1 : Int32} {l2 : Int32} {l3 : Int32} (h : (¬ l1 = 0 → zW shC g (d + 1) mX8_tell (zz Q) 25 [(0, .ref 0), (1, .int l1), (2, .int l2), (3, .int l3)] [] M) ∧ (l1 = 0 → (l3 < 1 → zW shC g (d + 1) mX8_tell (zz Q) 25 [(0, .ref 0), (1, .int l1), (2, .int l2), (3, .int l3)] [] M) ∧ (¬ l3 < 1 → (9 < l3 → zW shC g (d + 1) mX8_tell (zz Q) 25 [(0, .ref 0), (1, .int l1), (2, .int l2), (3, .int l3)] [] M) ∧ (¬ 9 < l3 → Q true (zup M 1 2 l3))))) : zCz shC g (d + 1) mX8_tell [.ref 0, .int l1, .int l2, .int l3] M Q := by
  refine zW.enter (by decide +kernel) (Nat.le_of_ble_eq_true rfl) ?_
  change zW shC g (d + 1) mX8_tell (zz Q) 0 [(0, .ref 0), (1, .int l1), (2, .int l2), (3, .int l3)] [] M
  refine z_iload_n dX8_tell_0 1 rfl ?_
  refine z_if_ne 25 dX8_tell_1 (by decide) (fun c1 => ?_) (fun c1 => ?_)
  · have h := h.1 c1
    exact h
  · have h := h.2 c1
    refine z_iload_n dX8_tell_4 3 rfl ?_
    refine z_iconst (v := 1) dX8_tell_5 (by decide) ?_
    refine z_icmp_lt 25 dX8_tell_6 (by decide) (fun c2 => ?_) (fun c2 => ?_)
    · have h := h.1 c2
      exact h
    · have h := h.2 c2
      refine z_iload_n dX8_tell_9 3 rfl ?_
      refine z_bipush (v := 9) dX8_tell_10 (by decide) ?_
      refine z_icmp_gt 25 dX8_tell_12 (by decide) (fun c3 => ?_) (fun c3 => ?_)
      · have h := h.1 c3
        exact h
      · have h := h.2 c3
        refine z_aload_n dX8_tell_15 0 rfl ?_
        refine z_getr shC_0 rfl flX8_10 dX8_tell_16 ?_
        refine z_iload_n dX8_tell_19 3 rfl ?_
        refine z_puti shC_1 rfl fpX8_112 rfl rfl dX8_tell_20 ?_
        refine z_iconst (v := 1) dX8_tell_23 (by decide) ?_
        exact z_zret (b := true) rfl rfl dX8_tell_24 h
set_option maxRecDepth 20000 in
theorem vX8_tell_25 {g : zG} {d : Nat} {Q : Bool → zM → Prop} {M : zM} {l1 : Int32} {l2 : Int32} {l3 : Int32} (h : (¬ l1 = 1 → zW shC g (d + 1) mX8_tell (zz Q) 51 [(0, .ref 0), (1, .int l1), (2, .int l2), (3, .int l3)] [] M) ∧ (l1 = 1 → (l3 < 0 → zW shC g (d + 1) mX8_tell (zz Q) 51 [(0, .ref 0), (1, .int l1), (2, .int l2), (3, .int l3)] [] M) ∧ (¬ l3 < 0 → (1000 < l3 → zW shC g (d + 1) mX8_tell (zz Q) 51 [(0, .ref 0), (1, .int l1), (2, .int l2), (3, .int l3)] [] M) ∧ (¬ 1000 < l3 → Q true (zup M 1 3 l3))))) : zW shC g (d + 1) mX8_tell (zz Q) 25 [(0, .ref 0), (1, .int l1), (2, .int l2), (3, .int l3)] [] M := by
  refine z_iload_n dX8_tell_25 1 rfl ?_
  refine z_iconst (v := 1) dX8_tell_26 (by decide) ?_
  refine z_icmp_ne 51 dX8_tell_27 (by decide) (fun c1 => ?_) (fun c1 => ?_)
  · have h := h.1 c1
    exact h
  · have h := h.2 c1
    refine z_iload_n dX8_tell_30 3 rfl ?_
    refine z_if_lt 51 dX8_tell_31 (by decide) (fun c2 => ?_) (fun c2 => ?_)
    · have h := h.1 c2
      exact h
    · have h := h.2 c2
      refine z_iload_n dX8_tell_34 3 rfl ?_
      refine z_sipush (v := 1000) dX8_tell_35 (by decide) ?_
      refine z_icmp_gt 51 dX8_tell_38 (by decide) (fun c3 => ?_) (fun c3 => ?_)
      · have h := h.1 c3
        exact h
      · have h := h.2 c3
        refine z_aload_n dX8_tell_41 0 rfl ?_
        refine z_getr shC_0 rfl flX8_10 dX8_tell_42 ?_
        refine z_iload_n dX8_tell_45 3 rfl ?_
        refine z_puti shC_1 rfl fpX8_115 rfl rfl dX8_tell_46 ?_
        refine z_iconst (v := 1) dX8_tell_49 (by decide) ?_
        exact z_zret (b := true) rfl rfl dX8_tell_50 h
set_option maxRecDepth 20000 in
theorem vX8_tell_51 {g : zG} {d : Nat} {Q : Bool → zM → Prop} {M : zM} {l1 : Int32} {l2 : Int32} {l3 : Int32} (h : (¬ l1 = 2 → zW shC g (d + 1) mX8_tell (zz Q) 92 [(0, .ref 0), (1, .int l1), (2, .int l2), (3, .int l3)] [] M) ∧ (l1 = 2 → zCz shC g d mX7_isCell [.ref 1, .int l2] M (fun b1 M1 => (b1 = false → zW shC g (d + 1) mX8_tell (zz Q) 92 [(0, .ref 0), (1, .int l1), (2, .int l2), (3, .int l3)] [] M1) ∧ (b1 = true → (l3 < 0 → zW shC g (d + 1) mX8_tell (zz Q) 92 [(0, .ref 0), (1, .int l1), (2, .int l2), (3, .int l3)] [] M1) ∧ (¬ l3 < 0 → (9 < l3 → zW shC g (d + 1) mX8_tell (zz Q) 92 [(0, .ref 0), (1, .int l1), (2, .int l2), (3, .int l3)] [] M1) ∧ (¬ 9 < l3 → ∃ k1 : Nat, l2 = iv k1 ∧ k1 < 64 ∧ Q true (zup M1 4 k1 l3))))))) : zW shC g (d + 1) mX8_tell (zz Q) 51 [(0, .ref 0), (1, .int l1), (2, .int l2), (3, .int l3)] [] M := by
  refine z_iload_n dX8_tell_51 1 rfl ?_
  refine z_iconst (v := 2) dX8_tell_52 (by decide) ?_
  refine z_icmp_ne 92 dX8_tell_53 (by decide) (fun c1 => ?_) (fun c1 => ?_)
  · have h := h.1 c1
    exact h
  · have h := h.2 c1
    refine z_aload_n dX8_tell_56 0 rfl ?_
    refine z_getr shC_0 rfl flX8_10 dX8_tell_57 ?_
    refine z_iload_n dX8_tell_60 2 rfl ?_
    refine z_callV (m2 := mX7_isCell) (st := []) [.int l2] okX7_isCell (Or.inl lkX8_97) shC_1 rfl rfl rfl (Nat.le_of_ble_eq_true rfl) dX8_tell_61 (zgo_z h fun b1 M1 h => ?_)
    refine z_ifb_eq 92 dX8_tell_64 (by decide) (fun c2 => ?_) (fun c2 => ?_)
    · have h := h.1 c2
      exact h
    · have h := h.2 c2
      refine z_iload_n dX8_tell_67 3 rfl ?_
      refine z_if_lt 92 dX8_tell_68 (by decide) (fun c3 => ?_) (fun c3 => ?_)
      · have h := h.1 c3
        exact h
      · have h := h.2 c3
        refine z_iload_n dX8_tell_71 3 rfl ?_
        refine z_bipush (v := 9) dX8_tell_72 (by decide) ?_
        refine z_icmp_gt 92 dX8_tell_74 (by decide) (fun c4 => ?_) (fun c4 => ?_)
        · have h := h.1 c4
          exact h
        · have h := h.2 c4
          refine z_aload_n dX8_tell_77 0 rfl ?_
          refine z_getr shC_0 rfl flX8_10 dX8_tell_78 ?_
          refine z_getr shC_1 rfl flX8_88 dX8_tell_81 ?_
          refine z_getr shC_3 rfl flX8_118 dX8_tell_84 ?_
          refine z_iload_n dX8_tell_87 2 rfl ?_
          refine z_iload_n dX8_tell_88 3 rfl ?_
          obtain ⟨k1, ek1, uk1, h⟩ := h
          refine z_iast2 (k0 := k1) shC_4 (by decide) ek1 uk1 dX8_tell_89 ?_
          refine z_iconst (v := 1) dX8_tell_90 (by decide) ?_
          exact z_zret (b := true) rfl rfl dX8_tell_91 h
set_option maxRecDepth 20000 in
theorem vX8_tell_92 {g : zG} {d : Nat} {Q : Bool → zM → Prop} {M : zM} {l1 : Int32} {l2 : Int32} {l3 : Int32} (h : (¬ l1 = 3 → Q false M) ∧ (l1 = 3 → zCz shC g d mX7_isSkater [.ref 1, .int l2] M (fun b1 M1 => (b1 = false → Q false M1) ∧ (b1 = true → zCz shC g d mX7_isCell [.ref 1, .int l3] M1 (fun b2 M2 => (b2 = false → Q false M2) ∧ (b2 = true → ∃ k1 : Nat, l2 = iv k1 ∧ k1 < 6 ∧ Q true (zup M2 6 k1 l3))))))) : zW shC g (d + 1) mX8_tell (zz Q) 92 [(0, .ref 0), (1, .int l1), (2, .int l2), (3, .int l3)] [] M := by
  refine z_iload_n dX8_tell_92 1 rfl ?_
  refine z_iconst (v := 3) dX8_tell_93 (by decide) ?_
  refine z_icmp_ne 134 dX8_tell_94 (by decide) (fun c1 => ?_) (fun c1 => ?_)
  · have h := h.1 c1
    refine z_iconst (v := 0) dX8_tell_134 (by decide) ?_
    exact z_zret (b := false) rfl rfl dX8_tell_135 h
  · have h := h.2 c1
    refine z_aload_n dX8_tell_97 0 rfl ?_
    refine z_getr shC_0 rfl flX8_10 dX8_tell_98 ?_
    refine z_iload_n dX8_tell_101 2 rfl ?_
    refine z_callV (m2 := mX7_isSkater) (st := []) [.int l2] okX7_isSkater (Or.inl lkX8_121) shC_1 rfl rfl rfl (Nat.le_of_ble_eq_true rfl) dX8_tell_102 (zgo_z h fun b1 M1 h => ?_)
    refine z_ifb_eq 134 dX8_tell_105 (by decide) (fun c2 => ?_) (fun c2 => ?_)
    · have h := h.1 c2
      refine z_iconst (v := 0) dX8_tell_134 (by decide) ?_
      exact z_zret (b := false) rfl rfl dX8_tell_135 h
    · have h := h.2 c2
      refine z_aload_n dX8_tell_108 0 rfl ?_
      refine z_getr shC_0 rfl flX8_10 dX8_tell_109 ?_
      refine z_iload_n dX8_tell_112 3 rfl ?_
      refine z_callV (m2 := mX7_isCell) (st := []) [.int l3] okX7_isCell (Or.inl lkX8_97) shC_1 rfl rfl rfl (Nat.le_of_ble_eq_true rfl) dX8_tell_113 (zgo_z h fun b2 M2 h => ?_)
      refine z_ifb_eq 134 dX8_tell_116 (by decide) (fun c3 => ?_) (fun c3 => ?_)
      · have h := h.1 c3
        refine z_iconst (v := 0) dX8_tell_134 (by decide) ?_
        exact z_zret (b := false) rfl rfl dX8_tell_135 h
      · have h := h.2 c3
        refine z_aload_n dX8_tell_119 0 rfl ?_
        refine z_getr shC_0 rfl flX8_10 dX8_tell_120 ?_
        refine z_getr shC_1 rfl flX8_88 dX8_tell_123 ?_
        refine z_getr shC_3 rfl flX8_124 dX8_tell_126 ?_
        refine z_iload_n dX8_tell_129 2 rfl ?_
        refine z_iload_n dX8_tell_130 3 rfl ?_
        obtain ⟨k1, ek1, uk1, h⟩ := h
        refine z_iast2 (k0 := k1) shC_6 (by decide) ek1 uk1 dX8_tell_131 ?_
        refine z_iconst (v := 1) dX8_tell_132 (by decide) ?_
        exact z_zret (b := true) rfl rfl dX8_tell_133 h
theorem dX8_feed_0 : decode cX8_feed 0 = .ok (.aload_n 0, 1) := by decide +kernel
theorem dX8_feed_1 : decode cX8_feed 1 = .ok (.getfield 41, 3) := by decide +kernel
theorem dX8_feed_4 : decode cX8_feed 4 = .ok (.getfield 127, 3) := by decide +kernel
theorem dX8_feed_7 : decode cX8_feed 7 = .ok (.bipush 20, 2) := by decide +kernel
theorem dX8_feed_9 : decode cX8_feed 9 = .ok (.iadd, 1) := by decide +kernel
theorem dX8_feed_10 : decode cX8_feed 10 = .ok (.sipush 400, 3) := by decide +kernel
theorem dX8_feed_13 : decode cX8_feed 13 = .ok (.if_icmp .le 5, 3) := by decide +kernel
theorem dX8_feed_16 : decode cX8_feed 16 = .ok (.iconst (-1), 1) := by decide +kernel
theorem dX8_feed_17 : decode cX8_feed 17 = .ok (.ireturn, 1) := by decide +kernel
theorem dX8_feed_18 : decode cX8_feed 18 = .ok (.aload_n 0, 1) := by decide +kernel
theorem dX8_feed_19 : decode cX8_feed 19 = .ok (.getfield 41, 3) := by decide +kernel
theorem dX8_feed_22 : decode cX8_feed 22 = .ok (.iload_n 1, 1) := by decide +kernel
theorem dX8_feed_23 : decode cX8_feed 23 = .ok (.invokevirtual 130, 3) := by decide +kernel
theorem dX8_feed_26 : decode cX8_feed 26 = .ok (.aload_n 0, 1) := by decide +kernel
theorem dX8_feed_27 : decode cX8_feed 27 = .ok (.getfield 41, 3) := by decide +kernel
theorem dX8_feed_30 : decode cX8_feed 30 = .ok (.iload_n 2, 1) := by decide +kernel
theorem dX8_feed_31 : decode cX8_feed 31 = .ok (.invokevirtual 130, 3) := by decide +kernel
theorem dX8_feed_34 : decode cX8_feed 34 = .ok (.aload_n 0, 1) := by decide +kernel
theorem dX8_feed_35 : decode cX8_feed 35 = .ok (.getfield 41, 3) := by decide +kernel
theorem dX8_feed_38 : decode cX8_feed 38 = .ok (.iload_n 3, 1) := by decide +kernel
theorem dX8_feed_39 : decode cX8_feed 39 = .ok (.invokevirtual 130, 3) := by decide +kernel
theorem dX8_feed_42 : decode cX8_feed 42 = .ok (.aload_n 0, 1) := by decide +kernel
theorem dX8_feed_43 : decode cX8_feed 43 = .ok (.getfield 41, 3) := by decide +kernel
theorem dX8_feed_46 : decode cX8_feed 46 = .ok (.iload 4, 2) := by decide +kernel
theorem dX8_feed_48 : decode cX8_feed 48 = .ok (.invokevirtual 130, 3) := by decide +kernel
theorem dX8_feed_51 : decode cX8_feed 51 = .ok (.aload_n 0, 1) := by decide +kernel
theorem dX8_feed_52 : decode cX8_feed 52 = .ok (.getfield 41, 3) := by decide +kernel
theorem dX8_feed_55 : decode cX8_feed 55 = .ok (.iload 5, 2) := by decide +kernel
theorem dX8_feed_57 : decode cX8_feed 57 = .ok (.invokevirtual 130, 3) := by decide +kernel
theorem dX8_feed_60 : decode cX8_feed 60 = .ok (.aload_n 0, 1) := by decide +kernel
theorem dX8_feed_61 : decode cX8_feed 61 = .ok (.getfield 41, 3) := by decide +kernel
theorem dX8_feed_64 : decode cX8_feed 64 = .ok (.getfield 127, 3) := by decide +kernel
theorem dX8_feed_67 : decode cX8_feed 67 = .ok (.ireturn, 1) := by decide +kernel
set_option maxRecDepth 20000 in
theorem vX8_feed {g : zG} {d : Nat} {Q : Int32 → zM → Prop} {M : zM} {l1 : Int32} {l2 : Int32} {l3 : Int32} {l4 : Int32} {l5 : Int32} (h : (((M 98 1) + 20) ≤ 400 → zCv shC g d mX5_put [.ref 98, .int l1] M (fun  M1 => zCv shC g d mX5_put [.ref 98, .int l2] M1 (fun  M2 => zCv shC g d mX5_put [.ref 98, .int l3] M2 (fun  M3 => zCv shC g d mX5_put [.ref 98, .int l4] M3 (fun  M4 => zCv shC g d mX5_put [.ref 98, .int l5] M4 (fun  M5 => Q (M5 98 1) M5)))))) ∧ (¬ ((M 98 1) + 20) ≤ 400 → Q (-1) M)) : zCi shC g (d + 1) mX8_feed [.ref 0, .int l1, .int l2, .int l3, .int l4, .int l5] M Q := by
  refine zW.enter (by decide +kernel) (Nat.le_of_ble_eq_true rfl) ?_
  change zW shC g (d + 1) mX8_feed (zi Q) 0 [(0, .ref 0), (1, .int l1), (2, .int l2), (3, .int l3), (4, .int l4), (5, .int l5)] [] M
  refine z_aload_n dX8_feed_0 0 rfl ?_
  refine z_getr shC_0 rfl flX8_41 dX8_feed_1 ?_
  refine z_geti shC_98 rfl flX8_127 dX8_feed_4 ?_
  refine z_bipush (v := 20) dX8_feed_7 (by decide) ?_
  refine z_iadd dX8_feed_9 ?_
  refine z_sipush (v := 400) dX8_feed_10 (by decide) ?_
  refine z_icmp_le 18 dX8_feed_13 (by decide) (fun c1 => ?_) (fun c1 => ?_)
  · have h := h.1 c1
    refine z_aload_n dX8_feed_18 0 rfl ?_
    refine z_getr shC_0 rfl flX8_41 dX8_feed_19 ?_
    refine z_iload_n dX8_feed_22 1 rfl ?_
    refine z_callV (m2 := mX5_put) (st := []) [.int l1] okX5_put (Or.inl lkX8_130) shC_98 rfl rfl rfl (Nat.le_of_ble_eq_true rfl) dX8_feed_23 (zgo_v h fun  M1 h => ?_)
    refine z_aload_n dX8_feed_26 0 rfl ?_
    refine z_getr shC_0 rfl flX8_41 dX8_feed_27 ?_
    refine z_iload_n dX8_feed_30 2 rfl ?_
    refine z_callV (m2 := mX5_put) (st := []) [.int l2] okX5_put (Or.inl lkX8_130) shC_98 rfl rfl rfl (Nat.le_of_ble_eq_true rfl) dX8_feed_31 (zgo_v h fun  M2 h => ?_)
    refine z_aload_n dX8_feed_34 0 rfl ?_
    refine z_getr shC_0 rfl flX8_41 dX8_feed_35 ?_
    refine z_iload_n dX8_feed_38 3 rfl ?_
    refine z_callV (m2 := mX5_put) (st := []) [.int l3] okX5_put (Or.inl lkX8_130) shC_98 rfl rfl rfl (Nat.le_of_ble_eq_true rfl) dX8_feed_39 (zgo_v h fun  M3 h => ?_)
    refine z_aload_n dX8_feed_42 0 rfl ?_
    refine z_getr shC_0 rfl flX8_41 dX8_feed_43 ?_
    refine z_iload dX8_feed_46 4 rfl ?_
    refine z_callV (m2 := mX5_put) (st := []) [.int l4] okX5_put (Or.inl lkX8_130) shC_98 rfl rfl rfl (Nat.le_of_ble_eq_true rfl) dX8_feed_48 (zgo_v h fun  M4 h => ?_)
    refine z_aload_n dX8_feed_51 0 rfl ?_
    refine z_getr shC_0 rfl flX8_41 dX8_feed_52 ?_
    refine z_iload dX8_feed_55 5 rfl ?_
    refine z_callV (m2 := mX5_put) (st := []) [.int l5] okX5_put (Or.inl lkX8_130) shC_98 rfl rfl rfl (Nat.le_of_ble_eq_true rfl) dX8_feed_57 (zgo_v h fun  M5 h => ?_)
    refine z_aload_n dX8_feed_60 0 rfl ?_
    refine z_getr shC_0 rfl flX8_41 dX8_feed_61 ?_
    refine z_geti shC_98 rfl flX8_127 dX8_feed_64 ?_
    exact z_iret (st := []) rfl rfl dX8_feed_67 ⟨_, rfl, h⟩
  · have h := h.2 c1
    refine z_iconst (v := (-1)) dX8_feed_16 (by decide) ?_
    exact z_iret (st := []) rfl rfl dX8_feed_17 ⟨_, rfl, h⟩
theorem dX8_end_0 : decode cX8_end 0 = .ok (.iload_n 1, 1) := by decide +kernel
theorem dX8_end_1 : decode cX8_end 1 = .ok (.ifCond .lt 14, 3) := by decide +kernel
theorem dX8_end_4 : decode cX8_end 4 = .ok (.iload_n 1, 1) := by decide +kernel
theorem dX8_end_5 : decode cX8_end 5 = .ok (.aload_n 0, 1) := by decide +kernel
theorem dX8_end_6 : decode cX8_end 6 = .ok (.getfield 41, 3) := by decide +kernel
theorem dX8_end_9 : decode cX8_end 9 = .ok (.getfield 127, 3) := by decide +kernel
theorem dX8_end_12 : decode cX8_end 12 = .ok (.if_icmp .le 5, 3) := by decide +kernel
theorem dX8_end_15 : decode cX8_end 15 = .ok (.iconst 0, 1) := by decide +kernel
theorem dX8_end_16 : decode cX8_end 16 = .ok (.ireturn, 1) := by decide +kernel
theorem dX8_end_17 : decode cX8_end 17 = .ok (.aload_n 0, 1) := by decide +kernel
theorem dX8_end_18 : decode cX8_end 18 = .ok (.getfield 41, 3) := by decide +kernel
theorem dX8_end_21 : decode cX8_end 21 = .ok (.iload_n 1, 1) := by decide +kernel
theorem dX8_end_22 : decode cX8_end 22 = .ok (.putfield 127, 3) := by decide +kernel
theorem dX8_end_25 : decode cX8_end 25 = .ok (.iconst 1, 1) := by decide +kernel
theorem dX8_end_26 : decode cX8_end 26 = .ok (.ireturn, 1) := by decide +kernel
set_option maxRecDepth 20000 in
theorem vX8_end {g : zG} {d : Nat} {Q : Bool → zM → Prop} {M : zM} {l1 : Int32} (h : (l1 < 0 → Q false M) ∧ (¬ l1 < 0 → (l1 ≤ (M 98 1) → Q true (zup M 98 1 l1)) ∧ (¬ l1 ≤ (M 98 1) → Q false M))) : zCz shC g d mX8_end [.ref 0, .int l1] M Q := by
  refine zW.enter (by decide +kernel) (Nat.le_of_ble_eq_true rfl) ?_
  change zW shC g d mX8_end (zz Q) 0 [(0, .ref 0), (1, .int l1)] [] M
  refine z_iload_n dX8_end_0 1 rfl ?_
  refine z_if_lt 15 dX8_end_1 (by decide) (fun c1 => ?_) (fun c1 => ?_)
  · have h := h.1 c1
    refine z_iconst (v := 0) dX8_end_15 (by decide) ?_
    exact z_zret (b := false) rfl rfl dX8_end_16 h
  · have h := h.2 c1
    refine z_iload_n dX8_end_4 1 rfl ?_
    refine z_aload_n dX8_end_5 0 rfl ?_
    refine z_getr shC_0 rfl flX8_41 dX8_end_6 ?_
    refine z_geti shC_98 rfl flX8_127 dX8_end_9 ?_
    refine z_icmp_le 17 dX8_end_12 (by decide) (fun c2 => ?_) (fun c2 => ?_)
    · have h := h.1 c2
      refine z_aload_n dX8_end_17 0 rfl ?_
      refine z_getr shC_0 rfl flX8_41 dX8_end_18 ?_
      refine z_iload_n dX8_end_21 1 rfl ?_
      refine z_puti shC_98 rfl fpX8_127 rfl rfl dX8_end_22 ?_
      refine z_iconst (v := 1) dX8_end_25 (by decide) ?_
      exact z_zret (b := true) rfl rfl dX8_end_26 h
    · have h := h.2 c2
      refine z_iconst (v := 0) dX8_end_15 (by decide) ?_
      exact z_zret (b := false) rfl rfl dX8_end_16 h
theorem dX8_text_0 : decode cX8_text 0 = .ok (.aload_n 0, 1) := by decide +kernel
theorem dX8_text_1 : decode cX8_text 1 = .ok (.getfield 41, 3) := by decide +kernel
theorem dX8_text_4 : decode cX8_text 4 = .ok (.invokevirtual 134, 3) := by decide +kernel
theorem dX8_text_7 : decode cX8_text 7 = .ok (.iconst (-1), 1) := by decide +kernel
theorem dX8_text_8 : decode cX8_text 8 = .ok (.istore_n 2, 1) := by decide +kernel
theorem dX8_text_9 : decode cX8_text 9 = .ok (.iload_n 1, 1) := by decide +kernel
theorem dX8_text_10 : decode cX8_text 10 = .ok (.ifCond .ne 32, 3) := by decide +kernel
theorem dX8_text_13 : decode cX8_text 13 = .ok (.aload_n 0, 1) := by decide +kernel
theorem dX8_text_14 : decode cX8_text 14 = .ok (.getfield 48, 3) := by decide +kernel
theorem dX8_text_17 : decode cX8_text 17 = .ok (.aload_n 0, 1) := by decide +kernel
theorem dX8_text_18 : decode cX8_text 18 = .ok (.getfield 41, 3) := by decide +kernel
theorem dX8_text_21 : decode cX8_text 21 = .ok (.aload_n 0, 1) := by decide +kernel
theorem dX8_text_22 : decode cX8_text 22 = .ok (.getfield 10, 3) := by decide +kernel
theorem dX8_text_25 : decode cX8_text 25 = .ok (.getfield 101, 3) := by decide +kernel
theorem dX8_text_28 : decode cX8_text 28 = .ok (.invokevirtual 137, 3) := by decide +kernel
theorem dX8_text_31 : decode cX8_text 31 = .ok (.ifCond .eq 11, 3) := by decide +kernel
theorem dX8_text_34 : decode cX8_text 34 = .ok (.aload_n 0, 1) := by decide +kernel
theorem dX8_text_35 : decode cX8_text 35 = .ok (.invokevirtual 141, 3) := by decide +kernel
theorem dX8_text_38 : decode cX8_text 38 = .ok (.istore_n 2, 1) := by decide +kernel
theorem dX8_text_39 : decode cX8_text 39 = .ok (.goto 145, 3) := by decide +kernel
theorem dX8_text_42 : decode cX8_text 42 = .ok (.iload_n 1, 1) := by decide +kernel
theorem dX8_text_43 : decode cX8_text 43 = .ok (.iconst 1, 1) := by decide +kernel
theorem dX8_text_44 : decode cX8_text 44 = .ok (.if_icmp .ne 45, 3) := by decide +kernel
theorem dX8_text_47 : decode cX8_text 47 = .ok (.aload_n 0, 1) := by decide +kernel
theorem dX8_text_48 : decode cX8_text 48 = .ok (.getfield 55, 3) := by decide +kernel
theorem dX8_text_51 : decode cX8_text 51 = .ok (.aload_n 0, 1) := by decide +kernel
theorem dX8_text_52 : decode cX8_text 52 = .ok (.getfield 41, 3) := by decide +kernel
theorem dX8_text_55 : decode cX8_text 55 = .ok (.invokevirtual 145, 3) := by decide +kernel
theorem dX8_text_58 : decode cX8_text 58 = .ok (.ifCond .eq 31, 3) := by decide +kernel
theorem dX8_text_61 : decode cX8_text 61 = .ok (.aload_n 0, 1) := by decide +kernel
theorem dX8_text_62 : decode cX8_text 62 = .ok (.getfield 10, 3) := by decide +kernel
theorem dX8_text_65 : decode cX8_text 65 = .ok (.getfield 148, 3) := by decide +kernel
theorem dX8_text_68 : decode cX8_text 68 = .ok (.aload_n 0, 1) := by decide +kernel
theorem dX8_text_69 : decode cX8_text 69 = .ok (.getfield 55, 3) := by decide +kernel
theorem dX8_text_72 : decode cX8_text 72 = .ok (.invokevirtual 151, 3) := by decide +kernel
theorem dX8_text_75 : decode cX8_text 75 = .ok (.aload_n 0, 1) := by decide +kernel
theorem dX8_text_76 : decode cX8_text 76 = .ok (.getfield 10, 3) := by decide +kernel
theorem dX8_text_79 : decode cX8_text 79 = .ok (.getfield 148, 3) := by decide +kernel
theorem dX8_text_82 : decode cX8_text 82 = .ok (.getfield 155, 3) := by decide +kernel
theorem dX8_text_85 : decode cX8_text 85 = .ok (.istore_n 2, 1) := by decide +kernel
theorem dX8_text_86 : decode cX8_text 86 = .ok (.goto 98, 3) := by decide +kernel
theorem dX8_text_89 : decode cX8_text 89 = .ok (.iload_n 1, 1) := by decide +kernel
theorem dX8_text_90 : decode cX8_text 90 = .ok (.iconst 2, 1) := by decide +kernel
theorem dX8_text_91 : decode cX8_text 91 = .ok (.if_icmp .ne 45, 3) := by decide +kernel
theorem dX8_text_94 : decode cX8_text 94 = .ok (.aload_n 0, 1) := by decide +kernel
theorem dX8_text_95 : decode cX8_text 95 = .ok (.getfield 62, 3) := by decide +kernel
theorem dX8_text_98 : decode cX8_text 98 = .ok (.aload_n 0, 1) := by decide +kernel
theorem dX8_text_99 : decode cX8_text 99 = .ok (.getfield 41, 3) := by decide +kernel
theorem dX8_text_102 : decode cX8_text 102 = .ok (.invokevirtual 158, 3) := by decide +kernel
theorem dX8_text_105 : decode cX8_text 105 = .ok (.ifCond .eq 31, 3) := by decide +kernel
theorem dX8_text_108 : decode cX8_text 108 = .ok (.aload_n 0, 1) := by decide +kernel
theorem dX8_text_109 : decode cX8_text 109 = .ok (.getfield 10, 3) := by decide +kernel
theorem dX8_text_112 : decode cX8_text 112 = .ok (.getfield 161, 3) := by decide +kernel
theorem dX8_text_115 : decode cX8_text 115 = .ok (.aload_n 0, 1) := by decide +kernel
theorem dX8_text_116 : decode cX8_text 116 = .ok (.getfield 62, 3) := by decide +kernel
theorem dX8_text_119 : decode cX8_text 119 = .ok (.invokevirtual 164, 3) := by decide +kernel
theorem dX8_text_122 : decode cX8_text 122 = .ok (.aload_n 0, 1) := by decide +kernel
theorem dX8_text_123 : decode cX8_text 123 = .ok (.getfield 10, 3) := by decide +kernel
theorem dX8_text_126 : decode cX8_text 126 = .ok (.getfield 161, 3) := by decide +kernel
theorem dX8_text_129 : decode cX8_text 129 = .ok (.getfield 167, 3) := by decide +kernel
theorem dX8_text_132 : decode cX8_text 132 = .ok (.istore_n 2, 1) := by decide +kernel
theorem dX8_text_133 : decode cX8_text 133 = .ok (.goto 51, 3) := by decide +kernel
theorem dX8_text_136 : decode cX8_text 136 = .ok (.iload_n 1, 1) := by decide +kernel
theorem dX8_text_137 : decode cX8_text 137 = .ok (.iconst 3, 1) := by decide +kernel
theorem dX8_text_138 : decode cX8_text 138 = .ok (.if_icmp .ne 46, 3) := by decide +kernel
theorem dX8_text_141 : decode cX8_text 141 = .ok (.aload_n 0, 1) := by decide +kernel
theorem dX8_text_142 : decode cX8_text 142 = .ok (.getfield 62, 3) := by decide +kernel
theorem dX8_text_145 : decode cX8_text 145 = .ok (.aload_n 0, 1) := by decide +kernel
theorem dX8_text_146 : decode cX8_text 146 = .ok (.getfield 41, 3) := by decide +kernel
theorem dX8_text_149 : decode cX8_text 149 = .ok (.aload_n 0, 1) := by decide +kernel
theorem dX8_text_150 : decode cX8_text 150 = .ok (.getfield 10, 3) := by decide +kernel
theorem dX8_text_153 : decode cX8_text 153 = .ok (.invokevirtual 170, 3) := by decide +kernel
theorem dX8_text_156 : decode cX8_text 156 = .ok (.ifCond .eq 28, 3) := by decide +kernel
theorem dX8_text_159 : decode cX8_text 159 = .ok (.aload_n 0, 1) := by decide +kernel
theorem dX8_text_160 : decode cX8_text 160 = .ok (.getfield 10, 3) := by decide +kernel
theorem dX8_text_163 : decode cX8_text 163 = .ok (.getfield 161, 3) := by decide +kernel
theorem dX8_text_166 : decode cX8_text 166 = .ok (.aload_n 0, 1) := by decide +kernel
theorem dX8_text_167 : decode cX8_text 167 = .ok (.getfield 62, 3) := by decide +kernel
theorem dX8_text_170 : decode cX8_text 170 = .ok (.invokevirtual 164, 3) := by decide +kernel
theorem dX8_text_173 : decode cX8_text 173 = .ok (.aload_n 0, 1) := by decide +kernel
theorem dX8_text_174 : decode cX8_text 174 = .ok (.getfield 10, 3) := by decide +kernel
theorem dX8_text_177 : decode cX8_text 177 = .ok (.getfield 161, 3) := by decide +kernel
theorem dX8_text_180 : decode cX8_text 180 = .ok (.getfield 174, 3) := by decide +kernel
theorem dX8_text_183 : decode cX8_text 183 = .ok (.istore_n 2, 1) := by decide +kernel
theorem dX8_text_184 : decode cX8_text 184 = .ok (.aload_n 0, 1) := by decide +kernel
theorem dX8_text_185 : decode cX8_text 185 = .ok (.getfield 41, 3) := by decide +kernel
theorem dX8_text_188 : decode cX8_text 188 = .ok (.iconst 0, 1) := by decide +kernel
theorem dX8_text_189 : decode cX8_text 189 = .ok (.putfield 127, 3) := by decide +kernel
theorem dX8_text_192 : decode cX8_text 192 = .ok (.iload_n 2, 1) := by decide +kernel
theorem dX8_text_193 : decode cX8_text 193 = .ok (.ireturn, 1) := by decide +kernel
set_option maxRecDepth 20000 in
theorem vX8_text {g : zG} {d : Nat} {Q : Int32 → zM → Prop} {M : zM} {l1 : Int32} (h : zCv shC g d mX5_begin [.ref 98] M (fun  M1 => (¬ l1 = 0 → zW shC g (d + 1) mX8_text (zi Q) 42 [(0, .ref 0), (1, .int l1), (2, .int (-1))] [] M1) ∧ (l1 = 0 → zCz shC g d mX6_parse [.ref 100, .ref 98, .int (M1 1 4)] M1 (fun b1 M2 => (b1 = false → zW shC g (d + 1) mX8_text (zi Q) 42 [(0, .ref 0), (1, .int l1), (2, .int (-1))] [] M2) ∧ (b1 = true → zCi shC g d mX8_takeWays [.ref 0] M2 (fun x2 M3 => Q x2 (zup M3 98 1 0))))))) : zCi shC g (d + 1) mX8_text [.ref 0, .int l1] M Q := by
  refine zW.enter (by decide +kernel) (Nat.le_of_ble_eq_true rfl) ?_
  change zW shC g (d + 1) mX8_text (zi Q) 0 [(0, .ref 0), (1, .int l1)] [] M
  refine z_aload_n dX8_text_0 0 rfl ?_
  refine z_getr shC_0 rfl flX8_41 dX8_text_1 ?_
  refine z_callV (m2 := mX5_begin) (st := []) [] okX5_begin (Or.inl lkX8_134) shC_98 rfl rfl rfl (Nat.le_of_ble_eq_true rfl) dX8_text_4 (zgo_v h fun  M1 h => ?_)
  refine z_iconst (v := (-1)) dX8_text_7 (by decide) ?_
  refine z_istore_n [(2, .int (-1)), (0, .ref 0), (1, .int l1)] dX8_text_8 (by decide) rfl ?_
  refine z_iload_n dX8_text_9 2 rfl ?_
  refine z_if_ne 42 dX8_text_10 (by decide) (fun c1 => ?_) (fun c1 => ?_)
  · have h := h.1 c1
    exact zW.sub [1, 2, 0] rfl h
  · have h := h.2 c1
    refine z_aload_n dX8_text_13 1 rfl ?_
    refine z_getr shC_0 rfl flX8_48 dX8_text_14 ?_
    refine z_aload_n dX8_text_17 1 rfl ?_
    refine z_getr shC_0 rfl flX8_41 dX8_text_18 ?_
    refine z_aload_n dX8_text_21 1 rfl ?_
    refine z_getr shC_0 rfl flX8_10 dX8_text_22 ?_
    refine z_geti shC_1 rfl flX8_101 dX8_text_25 ?_
    refine z_callV (m2 := mX6_parse) (st := []) [.ref 98, .int (M1 1 4)] okX6_parse (Or.inl lkX8_137) shC_100 rfl rfl rfl (Nat.le_of_ble_eq_true rfl) dX8_text_28 (zgo_z h fun b1 M2 h => ?_)
    refine z_ifb_eq 42 dX8_text_31 (by decide) (fun c2 => ?_) (fun c2 => ?_)
    · have h := h.1 c2
      exact zW.sub [1, 2, 0] rfl h
    · have h := h.2 c2
      refine z_aload_n dX8_text_34 1 rfl ?_
      refine z_callV (m2 := mX8_takeWays) (st := []) [] okX8_takeWays (Or.inl lkX8_141) shC_0 rfl rfl rfl (Nat.le_of_ble_eq_true rfl) dX8_text_35 (zgo_i h fun x2 M3 h => ?_)
      refine z_istore_n [(2, .int x2), (0, .ref 0), (1, .int l1)] dX8_text_38 (by decide) rfl ?_
      refine z_goto 184 dX8_text_39 (by decide) ?_
      refine z_aload_n dX8_text_184 1 rfl ?_
      refine z_getr shC_0 rfl flX8_41 dX8_text_185 ?_
      refine z_iconst (v := 0) dX8_text_188 (by decide) ?_
      refine z_puti shC_98 rfl fpX8_127 rfl rfl dX8_text_189 ?_
      refine z_iload_n dX8_text_192 0 rfl ?_
      exact z_iret (st := []) rfl rfl dX8_text_193 ⟨_, rfl, h⟩
set_option maxRecDepth 20000 in
theorem vX8_text_42 {g : zG} {d : Nat} {Q : Int32 → zM → Prop} {M : zM} {l1 : Int32} (h : (¬ l1 = 1 → zW shC g (d + 1) mX8_text (zi Q) 89 [(0, .ref 0), (1, .int l1), (2, .int (-1))] [] M) ∧ (l1 = 1 → zCz shC g d mX1_parse [.ref 105, .ref 98] M (fun b1 M1 => (b1 = false → zW shC g (d + 1) mX8_text (zi Q) 89 [(0, .ref 0), (1, .int l1), (2, .int (-1))] [] M1) ∧ (b1 = true → zCv shC g d mX1_copy [.ref 15, .ref 105] M1 (fun  M2 => Q (M2 15 6) (zup M2 98 1 0)))))) : zW shC g (d + 1) mX8_text (zi Q) 42 [(0, .ref 0), (1, .int l1), (2, .int (-1))] [] M := by
  refine z_iload_n dX8_text_42 1 rfl ?_
  refine z_iconst (v := 1) dX8_text_43 (by decide) ?_
  refine z_icmp_ne 89 dX8_text_44 (by decide) (fun c1 => ?_) (fun c1 => ?_)
  · have h := h.1 c1
    exact h
  · have h := h.2 c1
    refine z_aload_n dX8_text_47 0 rfl ?_
    refine z_getr shC_0 rfl flX8_55 dX8_text_48 ?_
    refine z_aload_n dX8_text_51 0 rfl ?_
    refine z_getr shC_0 rfl flX8_41 dX8_text_52 ?_
    refine z_callV (m2 := mX1_parse) (st := []) [.ref 98] okX1_parse (Or.inl lkX8_145) shC_105 rfl rfl rfl (Nat.le_of_ble_eq_true rfl) dX8_text_55 (zgo_z h fun b1 M1 h => ?_)
    refine z_ifb_eq 89 dX8_text_58 (by decide) (fun c2 => ?_) (fun c2 => ?_)
    · have h := h.1 c2
      exact h
    · have h := h.2 c2
      refine z_aload_n dX8_text_61 0 rfl ?_
      refine z_getr shC_0 rfl flX8_10 dX8_text_62 ?_
      refine z_getr shC_1 rfl flX8_148 dX8_text_65 ?_
      refine z_aload_n dX8_text_68 0 rfl ?_
      refine z_getr shC_0 rfl flX8_55 dX8_text_69 ?_
      refine z_callV (m2 := mX1_copy) (st := []) [.ref 105] okX1_copy (Or.inl lkX8_151) shC_15 rfl rfl rfl (Nat.le_of_ble_eq_true rfl) dX8_text_72 (zgo_v h fun  M2 h => ?_)
      refine z_aload_n dX8_text_75 0 rfl ?_
      refine z_getr shC_0 rfl flX8_10 dX8_text_76 ?_
      refine z_getr shC_1 rfl flX8_148 dX8_text_79 ?_
      refine z_geti shC_15 rfl flX8_155 dX8_text_82 ?_
      refine z_istore_n [(2, .int (M2 15 6)), (0, .ref 0), (1, .int l1)] dX8_text_85 (by decide) rfl ?_
      refine z_goto 184 dX8_text_86 (by decide) ?_
      refine z_aload_n dX8_text_184 1 rfl ?_
      refine z_getr shC_0 rfl flX8_41 dX8_text_185 ?_
      refine z_iconst (v := 0) dX8_text_188 (by decide) ?_
      refine z_puti shC_98 rfl fpX8_127 rfl rfl dX8_text_189 ?_
      refine z_iload_n dX8_text_192 0 rfl ?_
      exact z_iret (st := []) rfl rfl dX8_text_193 ⟨_, rfl, h⟩
set_option maxRecDepth 20000 in
theorem vX8_text_89 {g : zG} {d : Nat} {Q : Int32 → zM → Prop} {M : zM} {l1 : Int32} (h : (¬ l1 = 2 → zW shC g (d + 1) mX8_text (zi Q) 136 [(0, .ref 0), (1, .int l1), (2, .int (-1))] [] M) ∧ (l1 = 2 → zCz shC g d mX3_parseLetters [.ref 112, .ref 98] M (fun b1 M1 => (b1 = false → zW shC g (d + 1) mX8_text (zi Q) 136 [(0, .ref 0), (1, .int l1), (2, .int (-1))] [] M1) ∧ (b1 = true → zCv shC g d mX3_copy [.ref 22, .ref 112] M1 (fun  M2 => Q (M2 22 1) (zup M2 98 1 0)))))) : zW shC g (d + 1) mX8_text (zi Q) 89 [(0, .ref 0), (1, .int l1), (2, .int (-1))] [] M := by
  refine z_iload_n dX8_text_89 1 rfl ?_
  refine z_iconst (v := 2) dX8_text_90 (by decide) ?_
  refine z_icmp_ne 136 dX8_text_91 (by decide) (fun c1 => ?_) (fun c1 => ?_)
  · have h := h.1 c1
    exact h
  · have h := h.2 c1
    refine z_aload_n dX8_text_94 0 rfl ?_
    refine z_getr shC_0 rfl flX8_62 dX8_text_95 ?_
    refine z_aload_n dX8_text_98 0 rfl ?_
    refine z_getr shC_0 rfl flX8_41 dX8_text_99 ?_
    refine z_callV (m2 := mX3_parseLetters) (st := []) [.ref 98] okX3_parseLetters (Or.inl lkX8_158) shC_112 rfl rfl rfl (Nat.le_of_ble_eq_true rfl) dX8_text_102 (zgo_z h fun b1 M1 h => ?_)
    refine z_ifb_eq 136 dX8_text_105 (by decide) (fun c2 => ?_) (fun c2 => ?_)
    · have h := h.1 c2
      exact h
    · have h := h.2 c2
      refine z_aload_n dX8_text_108 0 rfl ?_
      refine z_getr shC_0 rfl flX8_10 dX8_text_109 ?_
      refine z_getr shC_1 rfl flX8_161 dX8_text_112 ?_
      refine z_aload_n dX8_text_115 0 rfl ?_
      refine z_getr shC_0 rfl flX8_62 dX8_text_116 ?_
      refine z_callV (m2 := mX3_copy) (st := []) [.ref 112] okX3_copy (Or.inl lkX8_164) shC_22 rfl rfl rfl (Nat.le_of_ble_eq_true rfl) dX8_text_119 (zgo_v h fun  M2 h => ?_)
      refine z_aload_n dX8_text_122 0 rfl ?_
      refine z_getr shC_0 rfl flX8_10 dX8_text_123 ?_
      refine z_getr shC_1 rfl flX8_161 dX8_text_126 ?_
      refine z_geti shC_22 rfl flX8_167 dX8_text_129 ?_
      refine z_istore_n [(2, .int (M2 22 1)), (0, .ref 0), (1, .int l1)] dX8_text_132 (by decide) rfl ?_
      refine z_goto 184 dX8_text_133 (by decide) ?_
      refine z_aload_n dX8_text_184 1 rfl ?_
      refine z_getr shC_0 rfl flX8_41 dX8_text_185 ?_
      refine z_iconst (v := 0) dX8_text_188 (by decide) ?_
      refine z_puti shC_98 rfl fpX8_127 rfl rfl dX8_text_189 ?_
      refine z_iload_n dX8_text_192 0 rfl ?_
      exact z_iret (st := []) rfl rfl dX8_text_193 ⟨_, rfl, h⟩
set_option maxRecDepth 20000 in
theorem vX8_text_136 {g : zG} {d : Nat} {Q : Int32 → zM → Prop} {M : zM} {l1 : Int32} (h : (¬ l1 = 3 → Q (-1) (zup M 98 1 0)) ∧ (l1 = 3 → zCz shC g d mX3_parseWants [.ref 112, .ref 98, .ref 1] M (fun b1 M1 => (b1 = false → Q (-1) (zup M1 98 1 0)) ∧ (b1 = true → zCv shC g d mX3_copy [.ref 22, .ref 112] M1 (fun  M2 => Q (M2 22 4) (zup M2 98 1 0)))))) : zW shC g (d + 1) mX8_text (zi Q) 136 [(0, .ref 0), (1, .int l1), (2, .int (-1))] [] M := by
  refine z_iload_n dX8_text_136 1 rfl ?_
  refine z_iconst (v := 3) dX8_text_137 (by decide) ?_
  refine z_icmp_ne 184 dX8_text_138 (by decide) (fun c1 => ?_) (fun c1 => ?_)
  · have h := h.1 c1
    refine z_aload_n dX8_text_184 0 rfl ?_
    refine z_getr shC_0 rfl flX8_41 dX8_text_185 ?_
    refine z_iconst (v := 0) dX8_text_188 (by decide) ?_
    refine z_puti shC_98 rfl fpX8_127 rfl rfl dX8_text_189 ?_
    refine z_iload_n dX8_text_192 2 rfl ?_
    exact z_iret (st := []) rfl rfl dX8_text_193 ⟨_, rfl, h⟩
  · have h := h.2 c1
    refine z_aload_n dX8_text_141 0 rfl ?_
    refine z_getr shC_0 rfl flX8_62 dX8_text_142 ?_
    refine z_aload_n dX8_text_145 0 rfl ?_
    refine z_getr shC_0 rfl flX8_41 dX8_text_146 ?_
    refine z_aload_n dX8_text_149 0 rfl ?_
    refine z_getr shC_0 rfl flX8_10 dX8_text_150 ?_
    refine z_callV (m2 := mX3_parseWants) (st := []) [.ref 98, .ref 1] okX3_parseWants (Or.inl lkX8_170) shC_112 rfl rfl rfl (Nat.le_of_ble_eq_true rfl) dX8_text_153 (zgo_z h fun b1 M1 h => ?_)
    refine z_ifb_eq 184 dX8_text_156 (by decide) (fun c2 => ?_) (fun c2 => ?_)
    · have h := h.1 c2
      refine z_aload_n dX8_text_184 0 rfl ?_
      refine z_getr shC_0 rfl flX8_41 dX8_text_185 ?_
      refine z_iconst (v := 0) dX8_text_188 (by decide) ?_
      refine z_puti shC_98 rfl fpX8_127 rfl rfl dX8_text_189 ?_
      refine z_iload_n dX8_text_192 2 rfl ?_
      exact z_iret (st := []) rfl rfl dX8_text_193 ⟨_, rfl, h⟩
    · have h := h.2 c2
      refine z_aload_n dX8_text_159 0 rfl ?_
      refine z_getr shC_0 rfl flX8_10 dX8_text_160 ?_
      refine z_getr shC_1 rfl flX8_161 dX8_text_163 ?_
      refine z_aload_n dX8_text_166 0 rfl ?_
      refine z_getr shC_0 rfl flX8_62 dX8_text_167 ?_
      refine z_callV (m2 := mX3_copy) (st := []) [.ref 112] okX3_copy (Or.inl lkX8_164) shC_22 rfl rfl rfl (Nat.le_of_ble_eq_true rfl) dX8_text_170 (zgo_v h fun  M2 h => ?_)
      refine z_aload_n dX8_text_173 0 rfl ?_
      refine z_getr shC_0 rfl flX8_10 dX8_text_174 ?_
      refine z_getr shC_1 rfl flX8_161 dX8_text_177 ?_
      refine z_geti shC_22 rfl flX8_174 dX8_text_180 ?_
      refine z_istore_n [(2, .int (M2 22 4)), (0, .ref 0), (1, .int l1)] dX8_text_183 (by decide) rfl ?_
      refine z_aload_n dX8_text_184 1 rfl ?_
      refine z_getr shC_0 rfl flX8_41 dX8_text_185 ?_
      refine z_iconst (v := 0) dX8_text_188 (by decide) ?_
      refine z_puti shC_98 rfl fpX8_127 rfl rfl dX8_text_189 ?_
      refine z_iload_n dX8_text_192 0 rfl ?_
      exact z_iret (st := []) rfl rfl dX8_text_193 ⟨_, rfl, h⟩
theorem dX8_takeWays_0 : decode cX8_takeWays 0 = .ok (.aload_n 0, 1) := by decide +kernel
theorem dX8_takeWays_1 : decode cX8_takeWays 1 = .ok (.getfield 10, 3) := by decide +kernel
theorem dX8_takeWays_4 : decode cX8_takeWays 4 = .ok (.getfield 177, 3) := by decide +kernel
theorem dX8_takeWays_7 : decode cX8_takeWays 7 = .ok (.aload_n 0, 1) := by decide +kernel
theorem dX8_takeWays_8 : decode cX8_takeWays 8 = .ok (.getfield 48, 3) := by decide +kernel
theorem dX8_takeWays_11 : decode cX8_takeWays 11 = .ok (.invokevirtual 180, 3) := by decide +kernel
theorem dX8_takeWays_14 : decode cX8_takeWays 14 = .ok (.aload_n 0, 1) := by decide +kernel
theorem dX8_takeWays_15 : decode cX8_takeWays 15 = .ok (.getfield 10, 3) := by decide +kernel
theorem dX8_takeWays_18 : decode cX8_takeWays 18 = .ok (.invokevirtual 183, 3) := by decide +kernel
theorem dX8_takeWays_21 : decode cX8_takeWays 21 = .ok (.aload_n 0, 1) := by decide +kernel
theorem dX8_takeWays_22 : decode cX8_takeWays 22 = .ok (.invokevirtual 94, 3) := by decide +kernel
theorem dX8_takeWays_25 : decode cX8_takeWays 25 = .ok (.aload_n 0, 1) := by decide +kernel
theorem dX8_takeWays_26 : decode cX8_takeWays 26 = .ok (.getfield 10, 3) := by decide +kernel
theorem dX8_takeWays_29 : decode cX8_takeWays 29 = .ok (.getfield 177, 3) := by decide +kernel
theorem dX8_takeWays_32 : decode cX8_takeWays 32 = .ok (.getfield 186, 3) := by decide +kernel
theorem dX8_takeWays_35 : decode cX8_takeWays 35 = .ok (.ireturn, 1) := by decide +kernel
set_option maxRecDepth 20000 in
theorem vX8_takeWays {g : zG} {d : Nat} {Q : Int32 → zM → Prop} {M : zM} (h : zCv shC g d mX6_copy [.ref 10, .ref 100] M (fun  M1 => zCv shC g d mX7_beginWays [.ref 1] M1 (fun  M2 => zCv shC g d mX8_forgetPast [.ref 0] M2 (fun  M3 => Q (M3 10 4) M3)))) : zCi shC g (d + 1) mX8_takeWays [.ref 0] M Q := by
  refine zW.enter (by decide +kernel) (Nat.le_of_ble_eq_true rfl) ?_
  change zW shC g (d + 1) mX8_takeWays (zi Q) 0 [(0, .ref 0)] [] M
  refine z_aload_n dX8_takeWays_0 0 rfl ?_
  refine z_getr shC_0 rfl flX8_10 dX8_takeWays_1 ?_
  refine z_getr shC_1 rfl flX8_177 dX8_takeWays_4 ?_
  refine z_aload_n dX8_takeWays_7 0 rfl ?_
  refine z_getr shC_0 rfl flX8_48 dX8_takeWays_8 ?_
  refine z_callV (m2 := mX6_copy) (st := []) [.ref 100] okX6_copy (Or.inl lkX8_180) shC_10 rfl rfl rfl (Nat.le_of_ble_eq_true rfl) dX8_takeWays_11 (zgo_v h fun  M1 h => ?_)
  refine z_aload_n dX8_takeWays_14 0 rfl ?_
  refine z_getr shC_0 rfl flX8_10 dX8_takeWays_15 ?_
  refine z_callV (m2 := mX7_beginWays) (st := []) [] okX7_beginWays (Or.inl lkX8_183) shC_1 rfl rfl rfl (Nat.le_of_ble_eq_true rfl) dX8_takeWays_18 (zgo_v h fun  M2 h => ?_)
  refine z_aload_n dX8_takeWays_21 0 rfl ?_
  refine z_callV (m2 := mX8_forgetPast) (st := []) [] okX8_forgetPast (Or.inl lkX8_94) shC_0 rfl rfl rfl (Nat.le_of_ble_eq_true rfl) dX8_takeWays_22 (zgo_v h fun  M3 h => ?_)
  refine z_aload_n dX8_takeWays_25 0 rfl ?_
  refine z_getr shC_0 rfl flX8_10 dX8_takeWays_26 ?_
  refine z_getr shC_1 rfl flX8_177 dX8_takeWays_29 ?_
  refine z_geti shC_10 rfl flX8_186 dX8_takeWays_32 ?_
  exact z_iret (st := []) rfl rfl dX8_takeWays_35 ⟨_, rfl, h⟩
theorem dX8_fault_0 : decode cX8_fault 0 = .ok (.iload_n 1, 1) := by decide +kernel
theorem dX8_fault_1 : decode cX8_fault 1 = .ok (.ifCond .ne 11, 3) := by decide +kernel
theorem dX8_fault_4 : decode cX8_fault 4 = .ok (.aload_n 0, 1) := by decide +kernel
theorem dX8_fault_5 : decode cX8_fault 5 = .ok (.getfield 41, 3) := by decide +kernel
theorem dX8_fault_8 : decode cX8_fault 8 = .ok (.getfield 189, 3) := by decide +kernel
theorem dX8_fault_11 : decode cX8_fault 11 = .ok (.ireturn, 1) := by decide +kernel
theorem dX8_fault_12 : decode cX8_fault 12 = .ok (.iload_n 1, 1) := by decide +kernel
theorem dX8_fault_13 : decode cX8_fault 13 = .ok (.iconst 1, 1) := by decide +kernel
theorem dX8_fault_14 : decode cX8_fault 14 = .ok (.if_icmp .ne 13, 3) := by decide +kernel
theorem dX8_fault_17 : decode cX8_fault 17 = .ok (.aload_n 0, 1) := by decide +kernel
theorem dX8_fault_18 : decode cX8_fault 18 = .ok (.getfield 41, 3) := by decide +kernel
theorem dX8_fault_21 : decode cX8_fault 21 = .ok (.getfield 192, 3) := by decide +kernel
theorem dX8_fault_24 : decode cX8_fault 24 = .ok (.goto 4, 3) := by decide +kernel
theorem dX8_fault_27 : decode cX8_fault 27 = .ok (.iconst (-1), 1) := by decide +kernel
theorem dX8_fault_28 : decode cX8_fault 28 = .ok (.ireturn, 1) := by decide +kernel
set_option maxRecDepth 20000 in
theorem vX8_fault {g : zG} {d : Nat} {Q : Int32 → zM → Prop} {M : zM} {l1 : Int32} (h : (¬ l1 = 0 → (¬ l1 = 1 → Q (-1) M) ∧ (l1 = 1 → Q (M 98 7) M)) ∧ (l1 = 0 → Q (M 98 6) M)) : zCi shC g d mX8_fault [.ref 0, .int l1] M Q := by
  refine zW.enter (by decide +kernel) (Nat.le_of_ble_eq_true rfl) ?_
  change zW shC g d mX8_fault (zi Q) 0 [(0, .ref 0), (1, .int l1)] [] M
  refine z_iload_n dX8_fault_0 1 rfl ?_
  refine z_if_ne 12 dX8_fault_1 (by decide) (fun c1 => ?_) (fun c1 => ?_)
  · have h := h.1 c1
    refine z_iload_n dX8_fault_12 1 rfl ?_
    refine z_iconst (v := 1) dX8_fault_13 (by decide) ?_
    refine z_icmp_ne 27 dX8_fault_14 (by decide) (fun c2 => ?_) (fun c2 => ?_)
    · have h := h.1 c2
      refine z_iconst (v := (-1)) dX8_fault_27 (by decide) ?_
      exact z_iret (st := []) rfl rfl dX8_fault_28 ⟨_, rfl, h⟩
    · have h := h.2 c2
      refine z_aload_n dX8_fault_17 0 rfl ?_
      refine z_getr shC_0 rfl flX8_41 dX8_fault_18 ?_
      refine z_geti shC_98 rfl flX8_192 dX8_fault_21 ?_
      refine z_goto 28 dX8_fault_24 (by decide) ?_
      exact z_iret (st := []) rfl rfl dX8_fault_28 ⟨_, rfl, h⟩
  · have h := h.2 c1
    refine z_aload_n dX8_fault_4 0 rfl ?_
    refine z_getr shC_0 rfl flX8_41 dX8_fault_5 ?_
    refine z_geti shC_98 rfl flX8_189 dX8_fault_8 ?_
    exact z_iret (st := []) rfl rfl dX8_fault_11 ⟨_, rfl, h⟩
theorem dX8_minutes_0 : decode cX8_minutes 0 = .ok (.iload_n 1, 1) := by decide +kernel
theorem dX8_minutes_1 : decode cX8_minutes 1 = .ok (.iconst 1, 1) := by decide +kernel
theorem dX8_minutes_2 : decode cX8_minutes 2 = .ok (.if_icmp .lt 27, 3) := by decide +kernel
theorem dX8_minutes_5 : decode cX8_minutes 5 = .ok (.iload_n 1, 1) := by decide +kernel
theorem dX8_minutes_6 : decode cX8_minutes 6 = .ok (.bipush 60, 2) := by decide +kernel
theorem dX8_minutes_8 : decode cX8_minutes 8 = .ok (.if_icmp .gt 21, 3) := by decide +kernel
theorem dX8_minutes_11 : decode cX8_minutes 11 = .ok (.aload_n 0, 1) := by decide +kernel
theorem dX8_minutes_12 : decode cX8_minutes 12 = .ok (.getfield 10, 3) := by decide +kernel
theorem dX8_minutes_15 : decode cX8_minutes 15 = .ok (.getfield 88, 3) := by decide +kernel
theorem dX8_minutes_18 : decode cX8_minutes 18 = .ok (.getfield 195, 3) := by decide +kernel
theorem dX8_minutes_21 : decode cX8_minutes 21 = .ok (.iload_n 1, 1) := by decide +kernel
theorem dX8_minutes_22 : decode cX8_minutes 22 = .ok (.iadd, 1) := by decide +kernel
theorem dX8_minutes_23 : decode cX8_minutes 23 = .ok (.sipush 9999, 3) := by decide +kernel
theorem dX8_minutes_26 : decode cX8_minutes 26 = .ok (.if_icmp .le 5, 3) := by decide +kernel
theorem dX8_minutes_29 : decode cX8_minutes 29 = .ok (.iconst (-1), 1) := by decide +kernel
theorem dX8_minutes_30 : decode cX8_minutes 30 = .ok (.ireturn, 1) := by decide +kernel
theorem dX8_minutes_31 : decode cX8_minutes 31 = .ok (.iconst 0, 1) := by decide +kernel
theorem dX8_minutes_32 : decode cX8_minutes 32 = .ok (.istore_n 2, 1) := by decide +kernel
theorem dX8_minutes_33 : decode cX8_minutes 33 = .ok (.iconst 0, 1) := by decide +kernel
theorem dX8_minutes_34 : decode cX8_minutes 34 = .ok (.istore_n 3, 1) := by decide +kernel
theorem dX8_minutes_35 : decode cX8_minutes 35 = .ok (.iload_n 3, 1) := by decide +kernel
theorem dX8_minutes_36 : decode cX8_minutes 36 = .ok (.iload_n 1, 1) := by decide +kernel
theorem dX8_minutes_37 : decode cX8_minutes 37 = .ok (.if_icmp .ge 31, 3) := by decide +kernel
theorem dX8_minutes_40 : decode cX8_minutes 40 = .ok (.aload_n 0, 1) := by decide +kernel
theorem dX8_minutes_41 : decode cX8_minutes 41 = .ok (.invokevirtual 198, 3) := by decide +kernel
theorem dX8_minutes_44 : decode cX8_minutes 44 = .ok (.iload_n 2, 1) := by decide +kernel
theorem dX8_minutes_45 : decode cX8_minutes 45 = .ok (.aload_n 0, 1) := by decide +kernel
theorem dX8_minutes_46 : decode cX8_minutes 46 = .ok (.getfield 10, 3) := by decide +kernel
theorem dX8_minutes_49 : decode cX8_minutes 49 = .ok (.aload_n 0, 1) := by decide +kernel
theorem dX8_minutes_50 : decode cX8_minutes 50 = .ok (.getfield 10, 3) := by decide +kernel
theorem dX8_minutes_53 : decode cX8_minutes 53 = .ok (.getfield 88, 3) := by decide +kernel
theorem dX8_minutes_56 : decode cX8_minutes 56 = .ok (.iconst 1, 1) := by decide +kernel
theorem dX8_minutes_57 : decode cX8_minutes 57 = .ok (.invokevirtual 201, 3) := by decide +kernel
theorem dX8_minutes_60 : decode cX8_minutes 60 = .ok (.iadd, 1) := by decide +kernel
theorem dX8_minutes_61 : decode cX8_minutes 61 = .ok (.istore_n 2, 1) := by decide +kernel
theorem dX8_minutes_62 : decode cX8_minutes 62 = .ok (.iinc 3 1, 3) := by decide +kernel
theorem dX8_minutes_65 : decode cX8_minutes 65 = .ok (.goto (-30), 3) := by decide +kernel
theorem dX8_minutes_68 : decode cX8_minutes 68 = .ok (.iload_n 2, 1) := by decide +kernel
theorem dX8_minutes_69 : decode cX8_minutes 69 = .ok (.ireturn, 1) := by decide +kernel
set_option maxRecDepth 20000 in
theorem vX8_minutes {g : zG} {d : Nat} {Q : Int32 → zM → Prop} {M : zM} {l1 : Int32} (h : (l1 < 1 → Q (-1) M) ∧ (¬ l1 < 1 → (60 < l1 → Q (-1) M) ∧ (¬ 60 < l1 → (((M 3 5) + l1) ≤ 9999 → zW shC g (d + 1) mX8_minutes (zi Q) 35 [(0, .ref 0), (1, .int l1), (2, .int 0), (3, .int 0)] [] M) ∧ (¬ ((M 3 5) + l1) ≤ 9999 → Q (-1) M)))) : zCi shC g (d + 1) mX8_minutes [.ref 0, .int l1] M Q := by
  refine zW.enter (by decide +kernel) (Nat.le_of_ble_eq_true rfl) ?_
  change zW shC g (d + 1) mX8_minutes (zi Q) 0 [(0, .ref 0), (1, .int l1)] [] M
  refine z_iload_n dX8_minutes_0 1 rfl ?_
  refine z_iconst (v := 1) dX8_minutes_1 (by decide) ?_
  refine z_icmp_lt 29 dX8_minutes_2 (by decide) (fun c1 => ?_) (fun c1 => ?_)
  · have h := h.1 c1
    refine z_iconst (v := (-1)) dX8_minutes_29 (by decide) ?_
    exact z_iret (st := []) rfl rfl dX8_minutes_30 ⟨_, rfl, h⟩
  · have h := h.2 c1
    refine z_iload_n dX8_minutes_5 1 rfl ?_
    refine z_bipush (v := 60) dX8_minutes_6 (by decide) ?_
    refine z_icmp_gt 29 dX8_minutes_8 (by decide) (fun c2 => ?_) (fun c2 => ?_)
    · have h := h.1 c2
      refine z_iconst (v := (-1)) dX8_minutes_29 (by decide) ?_
      exact z_iret (st := []) rfl rfl dX8_minutes_30 ⟨_, rfl, h⟩
    · have h := h.2 c2
      refine z_aload_n dX8_minutes_11 0 rfl ?_
      refine z_getr shC_0 rfl flX8_10 dX8_minutes_12 ?_
      refine z_getr shC_1 rfl flX8_88 dX8_minutes_15 ?_
      refine z_geti shC_3 rfl flX8_195 dX8_minutes_18 ?_
      refine z_iload_n dX8_minutes_21 1 rfl ?_
      refine z_iadd dX8_minutes_22 ?_
      refine z_sipush (v := 9999) dX8_minutes_23 (by decide) ?_
      refine z_icmp_le 31 dX8_minutes_26 (by decide) (fun c3 => ?_) (fun c3 => ?_)
      · have h := h.1 c3
        refine z_iconst (v := 0) dX8_minutes_31 (by decide) ?_
        refine z_istore_n [(2, .int 0), (0, .ref 0), (1, .int l1)] dX8_minutes_32 (by decide) rfl ?_
        refine z_iconst (v := 0) dX8_minutes_33 (by decide) ?_
        refine z_istore_n [(3, .int 0), (2, .int 0), (0, .ref 0), (1, .int l1)] dX8_minutes_34 (by decide) rfl ?_
        exact zW.sub [2, 3, 1, 0] rfl h
      · have h := h.2 c3
        refine z_iconst (v := (-1)) dX8_minutes_29 (by decide) ?_
        exact z_iret (st := []) rfl rfl dX8_minutes_30 ⟨_, rfl, h⟩
set_option maxRecDepth 20000 in
theorem vX8_minutes_35 {g : zG} {d : Nat} {Q : Int32 → zM → Prop} {M : zM} {l1 : Int32} {l2 : Int32} {l3 : Int32} (h : (l1 ≤ l3 → Q l2 M) ∧ (¬ l1 ≤ l3 → zCv shC g d mX8_keepPast [.ref 0] M (fun  M1 => zCi shC g d mX7_pass [.ref 1, .ref 3, .int (zbI true)] M1 (fun x2 M2 => zW shC g (d + 1) mX8_minutes (zi Q) 35 [(0, .ref 0), (1, .int l1), (2, .int (l2 + x2)), (3, .int (l3 + 1))] [] M2)))) : zW shC g (d + 1) mX8_minutes (zi Q) 35 [(0, .ref 0), (1, .int l1), (2, .int l2), (3, .int l3)] [] M := by
  refine z_iload_n dX8_minutes_35 3 rfl ?_
  refine z_iload_n dX8_minutes_36 1 rfl ?_
  refine z_icmp_ge 68 dX8_minutes_37 (by decide) (fun c1 => ?_) (fun c1 => ?_)
  · have h := h.1 c1
    refine z_iload_n dX8_minutes_68 2 rfl ?_
    exact z_iret (st := []) rfl rfl dX8_minutes_69 ⟨_, rfl, h⟩
  · have h := h.2 c1
    refine z_aload_n dX8_minutes_40 0 rfl ?_
    refine z_callV (m2 := mX8_keepPast) (st := []) [] okX8_keepPast (Or.inl lkX8_198) shC_0 rfl rfl rfl (Nat.le_of_ble_eq_true rfl) dX8_minutes_41 (zgo_v h fun  M1 h => ?_)
    refine z_iload_n dX8_minutes_44 2 rfl ?_
    refine z_aload_n dX8_minutes_45 0 rfl ?_
    refine z_getr shC_0 rfl flX8_10 dX8_minutes_46 ?_
    refine z_aload_n dX8_minutes_49 0 rfl ?_
    refine z_getr shC_0 rfl flX8_10 dX8_minutes_50 ?_
    refine z_getr shC_1 rfl flX8_88 dX8_minutes_53 ?_
    refine z_iconst (v := 1) dX8_minutes_56 (by decide) ?_
    refine z_callV (m2 := mX7_pass) (st := [.int l2]) [.ref 3, .int (zbI true)] okX7_pass (Or.inl lkX8_201) shC_1 rfl rfl rfl (Nat.le_of_ble_eq_true rfl) dX8_minutes_57 (zgo_i h fun x2 M2 h => ?_)
    refine z_iadd dX8_minutes_60 ?_
    refine z_istore_n [(2, .int (l2 + x2)), (0, .ref 0), (1, .int l1), (3, .int l3)] dX8_minutes_61 (by decide) rfl ?_
    refine z_iinc (x := l3) (v := (l3 + 1)) [(3, .int (l3 + 1)), (2, .int (l2 + x2)), (0, .ref 0), (1, .int l1)] dX8_minutes_62 3 rfl rfl (by decide) rfl ?_
    refine z_goto 35 dX8_minutes_65 (by decide) ?_
    exact zW.sub [2, 3, 1, 0] rfl h
theorem dX8_forgetPast_0 : decode cX8_forgetPast 0 = .ok (.aload_n 0, 1) := by decide +kernel
theorem dX8_forgetPast_1 : decode cX8_forgetPast 1 = .ok (.iconst 0, 1) := by decide +kernel
theorem dX8_forgetPast_2 : decode cX8_forgetPast 2 = .ok (.putfield 34, 3) := by decide +kernel
theorem dX8_forgetPast_5 : decode cX8_forgetPast 5 = .ok (.return_, 1) := by decide +kernel
set_option maxRecDepth 20000 in
theorem vX8_forgetPast {g : zG} {d : Nat} {Q : zM → Prop} {M : zM} (h : Q (zup M 0 5 0)) : zCv shC g d mX8_forgetPast [.ref 0] M Q := by
  refine zW.enter (by decide +kernel) (Nat.le_of_ble_eq_true rfl) ?_
  change zW shC g d mX8_forgetPast (zv Q) 0 [(0, .ref 0)] [] M
  refine z_aload_n dX8_forgetPast_0 0 rfl ?_
  refine z_iconst (v := 0) dX8_forgetPast_1 (by decide) ?_
  refine z_puti shC_0 rfl fpX8_34 rfl rfl dX8_forgetPast_2 ?_
  exact z_vret (st := []) rfl dX8_forgetPast_5 ⟨rfl, h⟩
theorem dX8_keepPast_0 : decode cX8_keepPast 0 = .ok (.aload_n 0, 1) := by decide +kernel
theorem dX8_keepPast_1 : decode cX8_keepPast 1 = .ok (.getfield 34, 3) := by decide +kernel
theorem dX8_keepPast_4 : decode cX8_keepPast 4 = .ok (.bipush 6, 2) := by decide +kernel
theorem dX8_keepPast_6 : decode cX8_keepPast 6 = .ok (.if_icmp .lt 50, 3) := by decide +kernel
theorem dX8_keepPast_9 : decode cX8_keepPast 9 = .ok (.aload_n 0, 1) := by decide +kernel
theorem dX8_keepPast_10 : decode cX8_keepPast 10 = .ok (.getfield 30, 3) := by decide +kernel
theorem dX8_keepPast_13 : decode cX8_keepPast 13 = .ok (.iconst 0, 1) := by decide +kernel
theorem dX8_keepPast_14 : decode cX8_keepPast 14 = .ok (.aaload, 1) := by decide +kernel
theorem dX8_keepPast_15 : decode cX8_keepPast 15 = .ok (.astore_n 1, 1) := by decide +kernel
theorem dX8_keepPast_16 : decode cX8_keepPast 16 = .ok (.iconst 1, 1) := by decide +kernel
theorem dX8_keepPast_17 : decode cX8_keepPast 17 = .ok (.istore_n 2, 1) := by decide +kernel
theorem dX8_keepPast_18 : decode cX8_keepPast 18 = .ok (.iload_n 2, 1) := by decide +kernel
theorem dX8_keepPast_19 : decode cX8_keepPast 19 = .ok (.bipush 6, 2) := by decide +kernel
theorem dX8_keepPast_21 : decode cX8_keepPast 21 = .ok (.if_icmp .ge 23, 3) := by decide +kernel
theorem dX8_keepPast_24 : decode cX8_keepPast 24 = .ok (.aload_n 0, 1) := by decide +kernel
theorem dX8_keepPast_25 : decode cX8_keepPast 25 = .ok (.getfield 30, 3) := by decide +kernel
theorem dX8_keepPast_28 : decode cX8_keepPast 28 = .ok (.iload_n 2, 1) := by decide +kernel
theorem dX8_keepPast_29 : decode cX8_keepPast 29 = .ok (.iconst 1, 1) := by decide +kernel
theorem dX8_keepPast_30 : decode cX8_keepPast 30 = .ok (.isub, 1) := by decide +kernel
theorem dX8_keepPast_31 : decode cX8_keepPast 31 = .ok (.aload_n 0, 1) := by decide +kernel
theorem dX8_keepPast_32 : decode cX8_keepPast 32 = .ok (.getfield 30, 3) := by decide +kernel
theorem dX8_keepPast_35 : decode cX8_keepPast 35 = .ok (.iload_n 2, 1) := by decide +kernel
theorem dX8_keepPast_36 : decode cX8_keepPast 36 = .ok (.aaload, 1) := by decide +kernel
theorem dX8_keepPast_37 : decode cX8_keepPast 37 = .ok (.aastore, 1) := by decide +kernel
theorem dX8_keepPast_38 : decode cX8_keepPast 38 = .ok (.iinc 2 1, 3) := by decide +kernel
theorem dX8_keepPast_41 : decode cX8_keepPast 41 = .ok (.goto (-23), 3) := by decide +kernel
theorem dX8_keepPast_44 : decode cX8_keepPast 44 = .ok (.aload_n 0, 1) := by decide +kernel
theorem dX8_keepPast_45 : decode cX8_keepPast 45 = .ok (.getfield 30, 3) := by decide +kernel
theorem dX8_keepPast_48 : decode cX8_keepPast 48 = .ok (.iconst 5, 1) := by decide +kernel
theorem dX8_keepPast_49 : decode cX8_keepPast 49 = .ok (.aload_n 1, 1) := by decide +kernel
theorem dX8_keepPast_50 : decode cX8_keepPast 50 = .ok (.aastore, 1) := by decide +kernel
theorem dX8_keepPast_51 : decode cX8_keepPast 51 = .ok (.aload_n 0, 1) := by decide +kernel
theorem dX8_keepPast_52 : decode cX8_keepPast 52 = .ok (.iconst 5, 1) := by decide +kernel
theorem dX8_keepPast_53 : decode cX8_keepPast 53 = .ok (.putfield 34, 3) := by decide +kernel
theorem dX8_keepPast_56 : decode cX8_keepPast 56 = .ok (.aload_n 0, 1) := by decide +kernel
theorem dX8_keepPast_57 : decode cX8_keepPast 57 = .ok (.getfield 30, 3) := by decide +kernel
theorem dX8_keepPast_60 : decode cX8_keepPast 60 = .ok (.aload_n 0, 1) := by decide +kernel
theorem dX8_keepPast_61 : decode cX8_keepPast 61 = .ok (.getfield 34, 3) := by decide +kernel
theorem dX8_keepPast_64 : decode cX8_keepPast 64 = .ok (.aaload, 1) := by decide +kernel
theorem dX8_keepPast_65 : decode cX8_keepPast 65 = .ok (.aload_n 0, 1) := by decide +kernel
theorem dX8_keepPast_66 : decode cX8_keepPast 66 = .ok (.getfield 10, 3) := by decide +kernel
theorem dX8_keepPast_69 : decode cX8_keepPast 69 = .ok (.getfield 88, 3) := by decide +kernel
theorem dX8_keepPast_72 : decode cX8_keepPast 72 = .ok (.invokevirtual 205, 3) := by decide +kernel
theorem dX8_keepPast_75 : decode cX8_keepPast 75 = .ok (.aload_n 0, 1) := by decide +kernel
theorem dX8_keepPast_76 : decode cX8_keepPast 76 = .ok (.dup, 1) := by decide +kernel
theorem dX8_keepPast_77 : decode cX8_keepPast 77 = .ok (.getfield 34, 3) := by decide +kernel
theorem dX8_keepPast_80 : decode cX8_keepPast 80 = .ok (.iconst 1, 1) := by decide +kernel
theorem dX8_keepPast_81 : decode cX8_keepPast 81 = .ok (.iadd, 1) := by decide +kernel
theorem dX8_keepPast_82 : decode cX8_keepPast 82 = .ok (.putfield 34, 3) := by decide +kernel
theorem dX8_keepPast_85 : decode cX8_keepPast 85 = .ok (.return_, 1) := by decide +kernel
set_option maxRecDepth 20000 in
theorem vX8_keepPast {g : zG} {d : Nat} {Q : zM → Prop} {M : zM} (h : ((M 0 5) < 6 → zW shC g (d + 1) mX8_keepPast (zv Q) 56 [(0, .ref 0)] [] M) ∧ (¬ (M 0 5) < 6 → ∃ p1 : Nat, (M 61 0).toNatClampNeg = p1 ∧ zMo shC p1 ∧ zW shC g (d + 1) mX8_keepPast (zv Q) 18 [(0, .ref 0), (1, .ref p1), (2, .int 1)] [] M)) : zCv shC g (d + 1) mX8_keepPast [.ref 0] M Q := by
  refine zW.enter (by decide +kernel) (Nat.le_of_ble_eq_true rfl) ?_
  change zW shC g (d + 1) mX8_keepPast (zv Q) 0 [(0, .ref 0)] [] M
  refine z_aload_n dX8_keepPast_0 0 rfl ?_
  refine z_geti shC_0 rfl flX8_34 dX8_keepPast_1 ?_
  refine z_bipush (v := 6) dX8_keepPast_4 (by decide) ?_
  refine z_icmp_lt 56 dX8_keepPast_6 (by decide) (fun c1 => ?_) (fun c1 => ?_)
  · have h := h.1 c1
    exact h
  · have h := h.2 c1
    refine z_aload_n dX8_keepPast_9 0 rfl ?_
    refine z_getr shC_0 rfl flX8_30 dX8_keepPast_10 ?_
    refine z_iconst (v := 0) dX8_keepPast_13 (by decide) ?_
    refine z_aald2 (k0 := 0) shC_61 (by decide) (by decide) (by decide) dX8_keepPast_14 ?_
    obtain ⟨p1, ep1, hp1, h⟩ := h
    rw [ep1]
    refine z_astore_n [(1, .ref p1), (0, .ref 0)] dX8_keepPast_15 (by decide) rfl ?_
    refine z_iconst (v := 1) dX8_keepPast_16 (by decide) ?_
    refine z_istore_n [(2, .int 1), (1, .ref p1), (0, .ref 0)] dX8_keepPast_17 (by decide) rfl ?_
    exact zW.sub [2, 1, 0] rfl h
set_option maxRecDepth 20000 in
theorem vX8_keepPast_18 {g : zG} {d : Nat} {Q : zM → Prop} {M : zM} {r1 : Nat} (hr1 : zMo shC r1) {l2 : Int32} (h : (6 ≤ l2 → zW shC g (d + 1) mX8_keepPast (zv Q) 56 [(0, .ref 0)] [] (zup (zup M 61 5 (iv r1)) 0 5 5)) ∧ (¬ 6 ≤ l2 → ∃ k1 : Nat, l2 = iv k1 ∧ k1 < 6 ∧ ∃ p1 : Nat, (M 61 k1).toNatClampNeg = p1 ∧ zMo shC p1 ∧ ∃ k2 : Nat, (l2 - 1) = iv k2 ∧ k2 < 6 ∧ zW shC g (d + 1) mX8_keepPast (zv Q) 18 [(0, .ref 0), (1, .ref r1), (2, .int (l2 + 1))] [] (zup M 61 k2 (iv p1)))) : zW shC g (d + 1) mX8_keepPast (zv Q) 18 [(0, .ref 0), (1, .ref r1), (2, .int l2)] [] M := by
  refine z_iload_n dX8_keepPast_18 2 rfl ?_
  refine z_bipush (v := 6) dX8_keepPast_19 (by decide) ?_
  refine z_icmp_ge 44 dX8_keepPast_21 (by decide) (fun c1 => ?_) (fun c1 => ?_)
  · have h := h.1 c1
    refine z_aload_n dX8_keepPast_44 0 rfl ?_
    refine z_getr shC_0 rfl flX8_30 dX8_keepPast_45 ?_
    refine z_iconst (v := 5) dX8_keepPast_48 (by decide) ?_
    refine z_aload_n dX8_keepPast_49 1 rfl ?_
    refine z_aast2 (k0 := 5) shC_61 hr1.1 (zMoC_lt hr1) (by decide) (by decide) (by decide) dX8_keepPast_50 ?_
    refine z_aload_n dX8_keepPast_51 0 rfl ?_
    refine z_iconst (v := 5) dX8_keepPast_52 (by decide) ?_
    refine z_puti shC_0 rfl fpX8_34 rfl rfl dX8_keepPast_53 ?_
    exact zW.sub [0] rfl h
  · have h := h.2 c1
    refine z_aload_n dX8_keepPast_24 0 rfl ?_
    refine z_getr shC_0 rfl flX8_30 dX8_keepPast_25 ?_
    refine z_iload_n dX8_keepPast_28 2 rfl ?_
    refine z_iconst (v := 1) dX8_keepPast_29 (by decide) ?_
    refine z_isub dX8_keepPast_30 ?_
    refine z_aload_n dX8_keepPast_31 0 rfl ?_
    refine z_getr shC_0 rfl flX8_30 dX8_keepPast_32 ?_
    refine z_iload_n dX8_keepPast_35 2 rfl ?_
    obtain ⟨k1, ek1, uk1, h⟩ := h
    refine z_aald2 (k0 := k1) shC_61 (by decide) ek1 uk1 dX8_keepPast_36 ?_
    obtain ⟨p1, ep1, hp1, h⟩ := h
    rw [ep1]
    obtain ⟨k2, ek2, uk2, h⟩ := h
    refine z_aast2 (k0 := k2) shC_61 hp1.1 (zMoC_lt hp1) (by decide) ek2 uk2 dX8_keepPast_37 ?_
    refine z_iinc (x := l2) (v := (l2 + 1)) [(2, .int (l2 + 1)), (0, .ref 0), (1, .ref r1)] dX8_keepPast_38 2 rfl rfl (by decide) rfl ?_
    refine z_goto 18 dX8_keepPast_41 (by decide) ?_
    exact zW.sub [1, 2, 0] rfl h
set_option maxRecDepth 20000 in
theorem vX8_keepPast_56 {g : zG} {d : Nat} {Q : zM → Prop} {M : zM} (h : ∃ k1 : Nat, (M 0 5) = iv k1 ∧ k1 < 6 ∧ ∃ p1 : Nat, (M 61 k1).toNatClampNeg = p1 ∧ zMo shC p1 ∧ zCv shC g d mX2_copy [.ref p1, .ref 3] M (fun  M1 => Q (zup M1 0 5 ((M1 0 5) + 1)))) : zW shC g (d + 1) mX8_keepPast (zv Q) 56 [(0, .ref 0)] [] M := by
  refine z_aload_n dX8_keepPast_56 0 rfl ?_
  refine z_getr shC_0 rfl flX8_30 dX8_keepPast_57 ?_
  refine z_aload_n dX8_keepPast_60 0 rfl ?_
  refine z_geti shC_0 rfl flX8_34 dX8_keepPast_61 ?_
  obtain ⟨k1, ek1, uk1, h⟩ := h
  refine z_aald2 (k0 := k1) shC_61 (by decide) ek1 uk1 dX8_keepPast_64 ?_
  obtain ⟨p1, ep1, hp1, h⟩ := h
  rw [ep1]
  refine z_aload_n dX8_keepPast_65 0 rfl ?_
  refine z_getr shC_0 rfl flX8_10 dX8_keepPast_66 ?_
  refine z_getr shC_1 rfl flX8_88 dX8_keepPast_69 ?_
  refine z_callV (m2 := mX2_copy) (st := []) [.ref 3] okX2_copy (Or.inl lkX8_205) hp1.1 rfl rfl rfl (Nat.le_of_ble_eq_true rfl) dX8_keepPast_72 (zgo_v h fun  M1 h => ?_)
  refine z_aload_n dX8_keepPast_75 0 rfl ?_
  refine z_dupr dX8_keepPast_76 ?_
  refine z_geti shC_0 rfl flX8_34 dX8_keepPast_77 ?_
  refine z_iconst (v := 1) dX8_keepPast_80 (by decide) ?_
  refine z_iadd dX8_keepPast_81 ?_
  refine z_puti shC_0 rfl fpX8_34 rfl rfl dX8_keepPast_82 ?_
  exact z_vret (st := []) rfl dX8_keepPast_85 ⟨rfl, h⟩
theorem dX8_of_0 : decode cX8_of 0 = .ok (.aload_n 0, 1) := by decide +kernel
theorem dX8_of_1 : decode cX8_of 1 = .ok (.getfield 10, 3) := by decide +kernel
theorem dX8_of_4 : decode cX8_of 4 = .ok (.iload_n 1, 1) := by decide +kernel
theorem dX8_of_5 : decode cX8_of 5 = .ok (.invokevirtual 121, 3) := by decide +kernel
theorem dX8_of_8 : decode cX8_of 8 = .ok (.ifCond .ne 6, 3) := by decide +kernel
theorem dX8_of_11 : decode cX8_of 11 = .ok (.bipush (-2), 2) := by decide +kernel
theorem dX8_of_13 : decode cX8_of 13 = .ok (.ireturn, 1) := by decide +kernel
theorem dX8_of_14 : decode cX8_of 14 = .ok (.aload_n 0, 1) := by decide +kernel
theorem dX8_of_15 : decode cX8_of 15 = .ok (.getfield 10, 3) := by decide +kernel
theorem dX8_of_18 : decode cX8_of 18 = .ok (.getfield 88, 3) := by decide +kernel
theorem dX8_of_21 : decode cX8_of 21 = .ok (.astore_n 3, 1) := by decide +kernel
theorem dX8_of_22 : decode cX8_of 22 = .ok (.iload_n 2, 1) := by decide +kernel
theorem dX8_of_23 : decode cX8_of 23 = .ok (.tableswitch 97 0 5 #[37, 47, 54, 74, 81, 88], 37) := by decide +kernel
theorem dX8_of_60 : decode cX8_of 60 = .ok (.aload_n 0, 1) := by decide +kernel
theorem dX8_of_61 : decode cX8_of 61 = .ok (.getfield 10, 3) := by decide +kernel
theorem dX8_of_64 : decode cX8_of 64 = .ok (.getfield 208, 3) := by decide +kernel
theorem dX8_of_67 : decode cX8_of 67 = .ok (.iload_n 1, 1) := by decide +kernel
theorem dX8_of_68 : decode cX8_of 68 = .ok (.iaload, 1) := by decide +kernel
theorem dX8_of_69 : decode cX8_of 69 = .ok (.ireturn, 1) := by decide +kernel
theorem dX8_of_70 : decode cX8_of 70 = .ok (.aload_n 3, 1) := by decide +kernel
theorem dX8_of_71 : decode cX8_of 71 = .ok (.getfield 124, 3) := by decide +kernel
theorem dX8_of_74 : decode cX8_of 74 = .ok (.iload_n 1, 1) := by decide +kernel
theorem dX8_of_75 : decode cX8_of 75 = .ok (.iaload, 1) := by decide +kernel
theorem dX8_of_76 : decode cX8_of 76 = .ok (.ireturn, 1) := by decide +kernel
theorem dX8_of_77 : decode cX8_of 77 = .ok (.aload_n 0, 1) := by decide +kernel
theorem dX8_of_78 : decode cX8_of 78 = .ok (.getfield 10, 3) := by decide +kernel
theorem dX8_of_81 : decode cX8_of 81 = .ok (.getfield 177, 3) := by decide +kernel
theorem dX8_of_84 : decode cX8_of 84 = .ok (.getfield 211, 3) := by decide +kernel
theorem dX8_of_87 : decode cX8_of 87 = .ok (.iload_n 1, 1) := by decide +kernel
theorem dX8_of_88 : decode cX8_of 88 = .ok (.iaload, 1) := by decide +kernel
theorem dX8_of_89 : decode cX8_of 89 = .ok (.aload_n 3, 1) := by decide +kernel
theorem dX8_of_90 : decode cX8_of 90 = .ok (.getfield 214, 3) := by decide +kernel
theorem dX8_of_93 : decode cX8_of 93 = .ok (.iload_n 1, 1) := by decide +kernel
theorem dX8_of_94 : decode cX8_of 94 = .ok (.iaload, 1) := by decide +kernel
theorem dX8_of_95 : decode cX8_of 95 = .ok (.isub, 1) := by decide +kernel
theorem dX8_of_96 : decode cX8_of 96 = .ok (.ireturn, 1) := by decide +kernel
theorem dX8_of_97 : decode cX8_of 97 = .ok (.aload_n 3, 1) := by decide +kernel
theorem dX8_of_98 : decode cX8_of 98 = .ok (.getfield 214, 3) := by decide +kernel
theorem dX8_of_101 : decode cX8_of 101 = .ok (.iload_n 1, 1) := by decide +kernel
theorem dX8_of_102 : decode cX8_of 102 = .ok (.iaload, 1) := by decide +kernel
theorem dX8_of_103 : decode cX8_of 103 = .ok (.ireturn, 1) := by decide +kernel
theorem dX8_of_104 : decode cX8_of 104 = .ok (.aload_n 3, 1) := by decide +kernel
theorem dX8_of_105 : decode cX8_of 105 = .ok (.getfield 217, 3) := by decide +kernel
theorem dX8_of_108 : decode cX8_of 108 = .ok (.iload_n 1, 1) := by decide +kernel
theorem dX8_of_109 : decode cX8_of 109 = .ok (.iaload, 1) := by decide +kernel
theorem dX8_of_110 : decode cX8_of 110 = .ok (.ireturn, 1) := by decide +kernel
theorem dX8_of_111 : decode cX8_of 111 = .ok (.aload_n 0, 1) := by decide +kernel
theorem dX8_of_112 : decode cX8_of 112 = .ok (.getfield 10, 3) := by decide +kernel
theorem dX8_of_115 : decode cX8_of 115 = .ok (.iload_n 1, 1) := by decide +kernel
theorem dX8_of_116 : decode cX8_of 116 = .ok (.invokevirtual 220, 3) := by decide +kernel
theorem dX8_of_119 : decode cX8_of 119 = .ok (.ireturn, 1) := by decide +kernel
theorem dX8_of_120 : decode cX8_of 120 = .ok (.bipush (-2), 2) := by decide +kernel
theorem dX8_of_122 : decode cX8_of 122 = .ok (.ireturn, 1) := by decide +kernel
set_option maxRecDepth 20000 in
theorem vX8_of {g : zG} {d : Nat} {Q : Int32 → zM → Prop} {M : zM} {l1 : Int32} {l2 : Int32} (h : zCz shC g d mX7_isSkater [.ref 1, .int l1] M (fun b1 M1 => (b1 = true → (l2.toInt < 0 ∨ 5 < l2.toInt → Q (-2) M1) ∧ (l2.toInt = 0 → ∃ k1 : Nat, l1 = iv k1 ∧ k1 < 6 ∧ Q (M1 2 k1) M1) ∧ (l2.toInt = 1 → ∃ k1 : Nat, l1 = iv k1 ∧ k1 < 6 ∧ Q (M1 6 k1) M1) ∧ (l2.toInt = 2 → ∃ k1 : Nat, l1 = iv k1 ∧ k1 < 6 ∧ Q ((M1 12 k1) - (M1 7 k1)) M1) ∧ (l2.toInt = 3 → ∃ k1 : Nat, l1 = iv k1 ∧ k1 < 6 ∧ Q (M1 7 k1) M1) ∧ (l2.toInt = 4 → ∃ k1 : Nat, l1 = iv k1 ∧ k1 < 6 ∧ Q (M1 8 k1) M1) ∧ (l2.toInt = 5 → zCi shC g d mX7_crossings [.ref 1, .int l1] M1 (fun x1 M2 => Q x1 M2))) ∧ (b1 = false → Q (-2) M1))) : zCi shC g (d + 1) mX8_of [.ref 0, .int l1, .int l2] M Q := by
  refine zW.enter (by decide +kernel) (Nat.le_of_ble_eq_true rfl) ?_
  change zW shC g (d + 1) mX8_of (zi Q) 0 [(0, .ref 0), (1, .int l1), (2, .int l2)] [] M
  refine z_aload_n dX8_of_0 0 rfl ?_
  refine z_getr shC_0 rfl flX8_10 dX8_of_1 ?_
  refine z_iload_n dX8_of_4 1 rfl ?_
  refine z_callV (m2 := mX7_isSkater) (st := []) [.int l1] okX7_isSkater (Or.inl lkX8_121) shC_1 rfl rfl rfl (Nat.le_of_ble_eq_true rfl) dX8_of_5 (zgo_z h fun b1 M1 h => ?_)
  refine z_ifb_ne 14 dX8_of_8 (by decide) (fun c1 => ?_) (fun c1 => ?_)
  · have h := h.1 c1
    refine z_aload_n dX8_of_14 0 rfl ?_
    refine z_getr shC_0 rfl flX8_10 dX8_of_15 ?_
    refine z_getr shC_1 rfl flX8_88 dX8_of_18 ?_
    refine z_astore_n [(3, .ref 3), (0, .ref 0), (1, .int l1), (2, .int l2)] dX8_of_21 (by decide) rfl ?_
    refine z_iload_n dX8_of_22 3 rfl ?_
    refine z_table [60, 70, 77, 97, 104, 111] 120 dX8_of_23 (by decide) (by decide) (by decide) (fun c2 => ?_) ⟨fun c2 => ?_, fun c2 => ?_, fun c2 => ?_, fun c2 => ?_, fun c2 => ?_, fun c2 => ?_, trivial⟩
    · have h := h.1 c2
      refine z_bipush (v := (-2)) dX8_of_120 (by decide) ?_
      exact z_iret (st := []) rfl rfl dX8_of_122 ⟨_, rfl, h⟩
    · have h := h.2.1 c2
      refine z_aload_n dX8_of_60 1 rfl ?_
      refine z_getr shC_0 rfl flX8_10 dX8_of_61 ?_
      refine z_getr shC_1 rfl flX8_208 dX8_of_64 ?_
      refine z_iload_n dX8_of_67 2 rfl ?_
      obtain ⟨k1, ek1, uk1, h⟩ := h
      refine z_iald2 (k0 := k1) shC_2 (by decide) ek1 uk1 dX8_of_68 ?_
      exact z_iret (st := []) rfl rfl dX8_of_69 ⟨_, rfl, h⟩
    · have h := h.2.2.1 c2
      refine z_aload_n dX8_of_70 0 rfl ?_
      refine z_getr shC_3 rfl flX8_124 dX8_of_71 ?_
      refine z_iload_n dX8_of_74 2 rfl ?_
      obtain ⟨k1, ek1, uk1, h⟩ := h
      refine z_iald2 (k0 := k1) shC_6 (by decide) ek1 uk1 dX8_of_75 ?_
      exact z_iret (st := []) rfl rfl dX8_of_76 ⟨_, rfl, h⟩
    · have h := h.2.2.2.1 c2
      refine z_aload_n dX8_of_77 1 rfl ?_
      refine z_getr shC_0 rfl flX8_10 dX8_of_78 ?_
      refine z_getr shC_1 rfl flX8_177 dX8_of_81 ?_
      refine z_getr shC_10 rfl flX8_211 dX8_of_84 ?_
      refine z_iload_n dX8_of_87 2 rfl ?_
      obtain ⟨k1, ek1, uk1, h⟩ := h
      refine z_iald2 (k0 := k1) shC_12 (by decide) ek1 uk1 dX8_of_88 ?_
      refine z_aload_n dX8_of_89 0 rfl ?_
      refine z_getr shC_3 rfl flX8_214 dX8_of_90 ?_
      refine z_iload_n dX8_of_93 2 rfl ?_
      refine z_iald2 (k0 := k1) shC_7 (by decide) ek1 uk1 dX8_of_94 ?_
      refine z_isub dX8_of_95 ?_
      exact z_iret (st := []) rfl rfl dX8_of_96 ⟨_, rfl, h⟩
    · have h := h.2.2.2.2.1 c2
      refine z_aload_n dX8_of_97 0 rfl ?_
      refine z_getr shC_3 rfl flX8_214 dX8_of_98 ?_
      refine z_iload_n dX8_of_101 2 rfl ?_
      obtain ⟨k1, ek1, uk1, h⟩ := h
      refine z_iald2 (k0 := k1) shC_7 (by decide) ek1 uk1 dX8_of_102 ?_
      exact z_iret (st := []) rfl rfl dX8_of_103 ⟨_, rfl, h⟩
    · have h := h.2.2.2.2.2.1 c2
      refine z_aload_n dX8_of_104 0 rfl ?_
      refine z_getr shC_3 rfl flX8_217 dX8_of_105 ?_
      refine z_iload_n dX8_of_108 2 rfl ?_
      obtain ⟨k1, ek1, uk1, h⟩ := h
      refine z_iald2 (k0 := k1) shC_8 (by decide) ek1 uk1 dX8_of_109 ?_
      exact z_iret (st := []) rfl rfl dX8_of_110 ⟨_, rfl, h⟩
    · have h := h.2.2.2.2.2.2 c2
      refine z_aload_n dX8_of_111 1 rfl ?_
      refine z_getr shC_0 rfl flX8_10 dX8_of_112 ?_
      refine z_iload_n dX8_of_115 2 rfl ?_
      refine z_callV (m2 := mX7_crossings) (st := []) [.int l1] okX7_crossings (Or.inl lkX8_220) shC_1 rfl rfl rfl (Nat.le_of_ble_eq_true rfl) dX8_of_116 (zgo_i h fun x1 M2 h => ?_)
      exact z_iret (st := []) rfl rfl dX8_of_119 ⟨_, rfl, h⟩
  · have h := h.2 c1
    refine z_bipush (v := (-2)) dX8_of_11 (by decide) ?_
    exact z_iret (st := []) rfl rfl dX8_of_13 ⟨_, rfl, h⟩
theorem dX8_at_0 : decode cX8_at 0 = .ok (.aload_n 0, 1) := by decide +kernel
theorem dX8_at_1 : decode cX8_at 1 = .ok (.getfield 10, 3) := by decide +kernel
theorem dX8_at_4 : decode cX8_at 4 = .ok (.iload_n 1, 1) := by decide +kernel
theorem dX8_at_5 : decode cX8_at 5 = .ok (.invokevirtual 97, 3) := by decide +kernel
theorem dX8_at_8 : decode cX8_at 8 = .ok (.ifCond .ne 6, 3) := by decide +kernel
theorem dX8_at_11 : decode cX8_at 11 = .ok (.bipush (-2), 2) := by decide +kernel
theorem dX8_at_13 : decode cX8_at 13 = .ok (.ireturn, 1) := by decide +kernel
theorem dX8_at_14 : decode cX8_at 14 = .ok (.aload_n 0, 1) := by decide +kernel
theorem dX8_at_15 : decode cX8_at 15 = .ok (.getfield 10, 3) := by decide +kernel
theorem dX8_at_18 : decode cX8_at 18 = .ok (.getfield 88, 3) := by decide +kernel
theorem dX8_at_21 : decode cX8_at 21 = .ok (.astore_n 3, 1) := by decide +kernel
theorem dX8_at_22 : decode cX8_at 22 = .ok (.iload_n 2, 1) := by decide +kernel
theorem dX8_at_23 : decode cX8_at 23 = .ok (.tableswitch 85 0 4 #[33, 40, 47, 65, 75], 33) := by decide +kernel
theorem dX8_at_56 : decode cX8_at 56 = .ok (.aload_n 3, 1) := by decide +kernel
theorem dX8_at_57 : decode cX8_at 57 = .ok (.getfield 118, 3) := by decide +kernel
theorem dX8_at_60 : decode cX8_at 60 = .ok (.iload_n 1, 1) := by decide +kernel
theorem dX8_at_61 : decode cX8_at 61 = .ok (.iaload, 1) := by decide +kernel
theorem dX8_at_62 : decode cX8_at 62 = .ok (.ireturn, 1) := by decide +kernel
theorem dX8_at_63 : decode cX8_at 63 = .ok (.aload_n 3, 1) := by decide +kernel
theorem dX8_at_64 : decode cX8_at 64 = .ok (.getfield 224, 3) := by decide +kernel
theorem dX8_at_67 : decode cX8_at 67 = .ok (.iload_n 1, 1) := by decide +kernel
theorem dX8_at_68 : decode cX8_at 68 = .ok (.iaload, 1) := by decide +kernel
theorem dX8_at_69 : decode cX8_at 69 = .ok (.ireturn, 1) := by decide +kernel
theorem dX8_at_70 : decode cX8_at 70 = .ok (.aload_n 0, 1) := by decide +kernel
theorem dX8_at_71 : decode cX8_at 71 = .ok (.getfield 10, 3) := by decide +kernel
theorem dX8_at_74 : decode cX8_at 74 = .ok (.aload_n 3, 1) := by decide +kernel
theorem dX8_at_75 : decode cX8_at 75 = .ok (.iload_n 1, 1) := by decide +kernel
theorem dX8_at_76 : decode cX8_at 76 = .ok (.invokevirtual 227, 3) := by decide +kernel
theorem dX8_at_79 : decode cX8_at 79 = .ok (.ifCond .eq 7, 3) := by decide +kernel
theorem dX8_at_82 : decode cX8_at 82 = .ok (.iconst 1, 1) := by decide +kernel
theorem dX8_at_83 : decode cX8_at 83 = .ok (.goto 4, 3) := by decide +kernel
theorem dX8_at_86 : decode cX8_at 86 = .ok (.iconst 0, 1) := by decide +kernel
theorem dX8_at_87 : decode cX8_at 87 = .ok (.ireturn, 1) := by decide +kernel
theorem dX8_at_88 : decode cX8_at 88 = .ok (.aload_n 0, 1) := by decide +kernel
theorem dX8_at_89 : decode cX8_at 89 = .ok (.getfield 10, 3) := by decide +kernel
theorem dX8_at_92 : decode cX8_at 92 = .ok (.aload_n 3, 1) := by decide +kernel
theorem dX8_at_93 : decode cX8_at 93 = .ok (.iload_n 1, 1) := by decide +kernel
theorem dX8_at_94 : decode cX8_at 94 = .ok (.invokevirtual 231, 3) := by decide +kernel
theorem dX8_at_97 : decode cX8_at 97 = .ok (.ireturn, 1) := by decide +kernel
theorem dX8_at_98 : decode cX8_at 98 = .ok (.aload_n 0, 1) := by decide +kernel
theorem dX8_at_99 : decode cX8_at 99 = .ok (.getfield 10, 3) := by decide +kernel
theorem dX8_at_102 : decode cX8_at 102 = .ok (.aload_n 3, 1) := by decide +kernel
theorem dX8_at_103 : decode cX8_at 103 = .ok (.iload_n 1, 1) := by decide +kernel
theorem dX8_at_104 : decode cX8_at 104 = .ok (.invokevirtual 235, 3) := by decide +kernel
theorem dX8_at_107 : decode cX8_at 107 = .ok (.ireturn, 1) := by decide +kernel
theorem dX8_at_108 : decode cX8_at 108 = .ok (.bipush (-2), 2) := by decide +kernel
theorem dX8_at_110 : decode cX8_at 110 = .ok (.ireturn, 1) := by decide +kernel
set_option maxRecDepth 20000 in
theorem vX8_at {g : zG} {d : Nat} {Q : Int32 → zM → Prop} {M : zM} {l1 : Int32} {l2 : Int32} (h : zCz shC g d mX7_isCell [.ref 1, .int l1] M (fun b1 M1 => (b1 = true → (l2.toInt < 0 ∨ 4 < l2.toInt → Q (-2) M1) ∧ (l2.toInt = 0 → ∃ k1 : Nat, l1 = iv k1 ∧ k1 < 64 ∧ Q (M1 4 k1) M1) ∧ (l2.toInt = 1 → ∃ k1 : Nat, l1 = iv k1 ∧ k1 < 64 ∧ Q (M1 5 k1) M1) ∧ (l2.toInt = 2 → zCz shC g d mX7_isSeen [.ref 1, .ref 3, .int l1] M1 (fun b2 M2 => (b2 = false → Q 0 M2) ∧ (b2 = true → Q 1 M2))) ∧ (l2.toInt = 3 → zCi shC g d mX7_thawOf [.ref 1, .ref 3, .int l1] M1 (fun x1 M2 => Q x1 M2)) ∧ (l2.toInt = 4 → zCi shC g d mX7_seenAround [.ref 1, .ref 3, .int l1] M1 (fun x1 M2 => Q x1 M2))) ∧ (b1 = false → Q (-2) M1))) : zCi shC g (d + 1) mX8_at [.ref 0, .int l1, .int l2] M Q := by
  refine zW.enter (by decide +kernel) (Nat.le_of_ble_eq_true rfl) ?_
  change zW shC g (d + 1) mX8_at (zi Q) 0 [(0, .ref 0), (1, .int l1), (2, .int l2)] [] M
  refine z_aload_n dX8_at_0 0 rfl ?_
  refine z_getr shC_0 rfl flX8_10 dX8_at_1 ?_
  refine z_iload_n dX8_at_4 1 rfl ?_
  refine z_callV (m2 := mX7_isCell) (st := []) [.int l1] okX7_isCell (Or.inl lkX8_97) shC_1 rfl rfl rfl (Nat.le_of_ble_eq_true rfl) dX8_at_5 (zgo_z h fun b1 M1 h => ?_)
  refine z_ifb_ne 14 dX8_at_8 (by decide) (fun c1 => ?_) (fun c1 => ?_)
  · have h := h.1 c1
    refine z_aload_n dX8_at_14 0 rfl ?_
    refine z_getr shC_0 rfl flX8_10 dX8_at_15 ?_
    refine z_getr shC_1 rfl flX8_88 dX8_at_18 ?_
    refine z_astore_n [(3, .ref 3), (0, .ref 0), (1, .int l1), (2, .int l2)] dX8_at_21 (by decide) rfl ?_
    refine z_iload_n dX8_at_22 3 rfl ?_
    refine z_table [56, 63, 70, 88, 98] 108 dX8_at_23 (by decide) (by decide) (by decide) (fun c2 => ?_) ⟨fun c2 => ?_, fun c2 => ?_, fun c2 => ?_, fun c2 => ?_, fun c2 => ?_, trivial⟩
    · have h := h.1 c2
      refine z_bipush (v := (-2)) dX8_at_108 (by decide) ?_
      exact z_iret (st := []) rfl rfl dX8_at_110 ⟨_, rfl, h⟩
    · have h := h.2.1 c2
      refine z_aload_n dX8_at_56 0 rfl ?_
      refine z_getr shC_3 rfl flX8_118 dX8_at_57 ?_
      refine z_iload_n dX8_at_60 2 rfl ?_
      obtain ⟨k1, ek1, uk1, h⟩ := h
      refine z_iald2 (k0 := k1) shC_4 (by decide) ek1 uk1 dX8_at_61 ?_
      exact z_iret (st := []) rfl rfl dX8_at_62 ⟨_, rfl, h⟩
    · have h := h.2.2.1 c2
      refine z_aload_n dX8_at_63 0 rfl ?_
      refine z_getr shC_3 rfl flX8_224 dX8_at_64 ?_
      refine z_iload_n dX8_at_67 2 rfl ?_
      obtain ⟨k1, ek1, uk1, h⟩ := h
      refine z_iald2 (k0 := k1) shC_5 (by decide) ek1 uk1 dX8_at_68 ?_
      exact z_iret (st := []) rfl rfl dX8_at_69 ⟨_, rfl, h⟩
    · have h := h.2.2.2.1 c2
      refine z_aload_n dX8_at_70 1 rfl ?_
      refine z_getr shC_0 rfl flX8_10 dX8_at_71 ?_
      refine z_aload_n dX8_at_74 0 rfl ?_
      refine z_iload_n dX8_at_75 2 rfl ?_
      refine z_callV (m2 := mX7_isSeen) (st := []) [.ref 3, .int l1] okX7_isSeen (Or.inl lkX8_227) shC_1 rfl rfl rfl (Nat.le_of_ble_eq_true rfl) dX8_at_76 (zgo_z h fun b2 M2 h => ?_)
      refine z_ifb_eq 86 dX8_at_79 (by decide) (fun c3 => ?_) (fun c3 => ?_)
      · have h := h.1 c3
        refine z_iconst (v := 0) dX8_at_86 (by decide) ?_
        exact z_iret (st := []) rfl rfl dX8_at_87 ⟨_, rfl, h⟩
      · have h := h.2 c3
        refine z_iconst (v := 1) dX8_at_82 (by decide) ?_
        refine z_goto 87 dX8_at_83 (by decide) ?_
        exact z_iret (st := []) rfl rfl dX8_at_87 ⟨_, rfl, h⟩
    · have h := h.2.2.2.2.1 c2
      refine z_aload_n dX8_at_88 1 rfl ?_
      refine z_getr shC_0 rfl flX8_10 dX8_at_89 ?_
      refine z_aload_n dX8_at_92 0 rfl ?_
      refine z_iload_n dX8_at_93 2 rfl ?_
      refine z_callV (m2 := mX7_thawOf) (st := []) [.ref 3, .int l1] okX7_thawOf (Or.inl lkX8_231) shC_1 rfl rfl rfl (Nat.le_of_ble_eq_true rfl) dX8_at_94 (zgo_i h fun x1 M2 h => ?_)
      exact z_iret (st := []) rfl rfl dX8_at_97 ⟨_, rfl, h⟩
    · have h := h.2.2.2.2.2 c2
      refine z_aload_n dX8_at_98 1 rfl ?_
      refine z_getr shC_0 rfl flX8_10 dX8_at_99 ?_
      refine z_aload_n dX8_at_102 0 rfl ?_
      refine z_iload_n dX8_at_103 2 rfl ?_
      refine z_callV (m2 := mX7_seenAround) (st := []) [.ref 3, .int l1] okX7_seenAround (Or.inl lkX8_235) shC_1 rfl rfl rfl (Nat.le_of_ble_eq_true rfl) dX8_at_104 (zgo_i h fun x1 M2 h => ?_)
      exact z_iret (st := []) rfl rfl dX8_at_107 ⟨_, rfl, h⟩
  · have h := h.2 c1
    refine z_bipush (v := (-2)) dX8_at_11 (by decide) ?_
    exact z_iret (st := []) rfl rfl dX8_at_13 ⟨_, rfl, h⟩
theorem dX8_cut_0 : decode cX8_cut 0 = .ok (.aload_n 0, 1) := by decide +kernel
theorem dX8_cut_1 : decode cX8_cut 1 = .ok (.getfield 10, 3) := by decide +kernel
theorem dX8_cut_4 : decode cX8_cut 4 = .ok (.iload_n 1, 1) := by decide +kernel
theorem dX8_cut_5 : decode cX8_cut 5 = .ok (.invokevirtual 121, 3) := by decide +kernel
theorem dX8_cut_8 : decode cX8_cut 8 = .ok (.ifCond .eq 14, 3) := by decide +kernel
theorem dX8_cut_11 : decode cX8_cut 11 = .ok (.aload_n 0, 1) := by decide +kernel
theorem dX8_cut_12 : decode cX8_cut 12 = .ok (.getfield 10, 3) := by decide +kernel
theorem dX8_cut_15 : decode cX8_cut 15 = .ok (.iload_n 2, 1) := by decide +kernel
theorem dX8_cut_16 : decode cX8_cut 16 = .ok (.invokevirtual 97, 3) := by decide +kernel
theorem dX8_cut_19 : decode cX8_cut 19 = .ok (.ifCond .ne 5, 3) := by decide +kernel
theorem dX8_cut_22 : decode cX8_cut 22 = .ok (.iconst (-1), 1) := by decide +kernel
theorem dX8_cut_23 : decode cX8_cut 23 = .ok (.ireturn, 1) := by decide +kernel
theorem dX8_cut_24 : decode cX8_cut 24 = .ok (.aload_n 0, 1) := by decide +kernel
theorem dX8_cut_25 : decode cX8_cut 25 = .ok (.getfield 10, 3) := by decide +kernel
theorem dX8_cut_28 : decode cX8_cut 28 = .ok (.aload_n 0, 1) := by decide +kernel
theorem dX8_cut_29 : decode cX8_cut 29 = .ok (.getfield 10, 3) := by decide +kernel
theorem dX8_cut_32 : decode cX8_cut 32 = .ok (.getfield 88, 3) := by decide +kernel
theorem dX8_cut_35 : decode cX8_cut 35 = .ok (.iload_n 1, 1) := by decide +kernel
theorem dX8_cut_36 : decode cX8_cut 36 = .ok (.iload_n 2, 1) := by decide +kernel
theorem dX8_cut_37 : decode cX8_cut 37 = .ok (.invokevirtual 238, 3) := by decide +kernel
theorem dX8_cut_40 : decode cX8_cut 40 = .ok (.ireturn, 1) := by decide +kernel
set_option maxRecDepth 20000 in
theorem vX8_cut {g : zG} {d : Nat} {Q : Int32 → zM → Prop} {M : zM} {l1 : Int32} {l2 : Int32} (h : zCz shC g d mX7_isSkater [.ref 1, .int l1] M (fun b1 M1 => (b1 = false → Q (-1) M1) ∧ (b1 = true → zCz shC g d mX7_isCell [.ref 1, .int l2] M1 (fun b2 M2 => (b2 = true → zCi shC g d mX7_cutOf [.ref 1, .ref 3, .int l1, .int l2] M2 (fun x1 M3 => Q x1 M3)) ∧ (b2 = false → Q (-1) M2))))) : zCi shC g (d + 1) mX8_cut [.ref 0, .int l1, .int l2] M Q := by
  refine zW.enter (by decide +kernel) (Nat.le_of_ble_eq_true rfl) ?_
  change zW shC g (d + 1) mX8_cut (zi Q) 0 [(0, .ref 0), (1, .int l1), (2, .int l2)] [] M
  refine z_aload_n dX8_cut_0 0 rfl ?_
  refine z_getr shC_0 rfl flX8_10 dX8_cut_1 ?_
  refine z_iload_n dX8_cut_4 1 rfl ?_
  refine z_callV (m2 := mX7_isSkater) (st := []) [.int l1] okX7_isSkater (Or.inl lkX8_121) shC_1 rfl rfl rfl (Nat.le_of_ble_eq_true rfl) dX8_cut_5 (zgo_z h fun b1 M1 h => ?_)
  refine z_ifb_eq 22 dX8_cut_8 (by decide) (fun c1 => ?_) (fun c1 => ?_)
  · have h := h.1 c1
    refine z_iconst (v := (-1)) dX8_cut_22 (by decide) ?_
    exact z_iret (st := []) rfl rfl dX8_cut_23 ⟨_, rfl, h⟩
  · have h := h.2 c1
    refine z_aload_n dX8_cut_11 0 rfl ?_
    refine z_getr shC_0 rfl flX8_10 dX8_cut_12 ?_
    refine z_iload_n dX8_cut_15 2 rfl ?_
    refine z_callV (m2 := mX7_isCell) (st := []) [.int l2] okX7_isCell (Or.inl lkX8_97) shC_1 rfl rfl rfl (Nat.le_of_ble_eq_true rfl) dX8_cut_16 (zgo_z h fun b2 M2 h => ?_)
    refine z_ifb_ne 24 dX8_cut_19 (by decide) (fun c2 => ?_) (fun c2 => ?_)
    · have h := h.1 c2
      refine z_aload_n dX8_cut_24 0 rfl ?_
      refine z_getr shC_0 rfl flX8_10 dX8_cut_25 ?_
      refine z_aload_n dX8_cut_28 0 rfl ?_
      refine z_getr shC_0 rfl flX8_10 dX8_cut_29 ?_
      refine z_getr shC_1 rfl flX8_88 dX8_cut_32 ?_
      refine z_iload_n dX8_cut_35 1 rfl ?_
      refine z_iload_n dX8_cut_36 2 rfl ?_
      refine z_callV (m2 := mX7_cutOf) (st := []) [.ref 3, .int l1, .int l2] okX7_cutOf (Or.inl lkX8_238) shC_1 rfl rfl rfl (Nat.le_of_ble_eq_true rfl) dX8_cut_37 (zgo_i h fun x1 M3 h => ?_)
      exact z_iret (st := []) rfl rfl dX8_cut_40 ⟨_, rfl, h⟩
    · have h := h.2 c2
      refine z_iconst (v := (-1)) dX8_cut_22 (by decide) ?_
      exact z_iret (st := []) rfl rfl dX8_cut_23 ⟨_, rfl, h⟩
theorem dX8_letter_0 : decode cX8_letter 0 = .ok (.aload_n 0, 1) := by decide +kernel
theorem dX8_letter_1 : decode cX8_letter 1 = .ok (.getfield 10, 3) := by decide +kernel
theorem dX8_letter_4 : decode cX8_letter 4 = .ok (.getfield 161, 3) := by decide +kernel
theorem dX8_letter_7 : decode cX8_letter 7 = .ok (.iload_n 1, 1) := by decide +kernel
theorem dX8_letter_8 : decode cX8_letter 8 = .ok (.invokevirtual 242, 3) := by decide +kernel
theorem dX8_letter_11 : decode cX8_letter 11 = .ok (.ifCond .eq 18, 3) := by decide +kernel
theorem dX8_letter_14 : decode cX8_letter 14 = .ok (.aload_n 0, 1) := by decide +kernel
theorem dX8_letter_15 : decode cX8_letter 15 = .ok (.getfield 10, 3) := by decide +kernel
theorem dX8_letter_18 : decode cX8_letter 18 = .ok (.getfield 161, 3) := by decide +kernel
theorem dX8_letter_21 : decode cX8_letter 21 = .ok (.getfield 245, 3) := by decide +kernel
theorem dX8_letter_24 : decode cX8_letter 24 = .ok (.iload_n 1, 1) := by decide +kernel
theorem dX8_letter_25 : decode cX8_letter 25 = .ok (.iaload, 1) := by decide +kernel
theorem dX8_letter_26 : decode cX8_letter 26 = .ok (.goto 4, 3) := by decide +kernel
theorem dX8_letter_29 : decode cX8_letter 29 = .ok (.iconst (-1), 1) := by decide +kernel
theorem dX8_letter_30 : decode cX8_letter 30 = .ok (.ireturn, 1) := by decide +kernel
set_option maxRecDepth 20000 in
theorem vX8_letter {g : zG} {d : Nat} {Q : Int32 → zM → Prop} {M : zM} {l1 : Int32} (h : zCz shC g d mX3_isLetter [.ref 22, .int l1] M (fun b1 M1 => (b1 = false → Q (-1) M1) ∧ (b1 = true → ∃ k1 : Nat, l1 = iv k1 ∧ k1 < 8 ∧ Q (M1 23 k1) M1))) : zCi shC g (d + 1) mX8_letter [.ref 0, .int l1] M Q := by
  refine zW.enter (by decide +kernel) (Nat.le_of_ble_eq_true rfl) ?_
  change zW shC g (d + 1) mX8_letter (zi Q) 0 [(0, .ref 0), (1, .int l1)] [] M
  refine z_aload_n dX8_letter_0 0 rfl ?_
  refine z_getr shC_0 rfl flX8_10 dX8_letter_1 ?_
  refine z_getr shC_1 rfl flX8_161 dX8_letter_4 ?_
  refine z_iload_n dX8_letter_7 1 rfl ?_
  refine z_callV (m2 := mX3_isLetter) (st := []) [.int l1] okX3_isLetter (Or.inl lkX8_242) shC_22 rfl rfl rfl (Nat.le_of_ble_eq_true rfl) dX8_letter_8 (zgo_z h fun b1 M1 h => ?_)
  refine z_ifb_eq 29 dX8_letter_11 (by decide) (fun c1 => ?_) (fun c1 => ?_)
  · have h := h.1 c1
    refine z_iconst (v := (-1)) dX8_letter_29 (by decide) ?_
    exact z_iret (st := []) rfl rfl dX8_letter_30 ⟨_, rfl, h⟩
  · have h := h.2 c1
    refine z_aload_n dX8_letter_14 0 rfl ?_
    refine z_getr shC_0 rfl flX8_10 dX8_letter_15 ?_
    refine z_getr shC_1 rfl flX8_161 dX8_letter_18 ?_
    refine z_getr shC_22 rfl flX8_245 dX8_letter_21 ?_
    refine z_iload_n dX8_letter_24 1 rfl ?_
    obtain ⟨k1, ek1, uk1, h⟩ := h
    refine z_iald2 (k0 := k1) shC_23 (by decide) ek1 uk1 dX8_letter_25 ?_
    refine z_goto 30 dX8_letter_26 (by decide) ?_
    exact z_iret (st := []) rfl rfl dX8_letter_30 ⟨_, rfl, h⟩
theorem dX8_want_0 : decode cX8_want 0 = .ok (.aload_n 0, 1) := by decide +kernel
theorem dX8_want_1 : decode cX8_want 1 = .ok (.getfield 10, 3) := by decide +kernel
theorem dX8_want_4 : decode cX8_want 4 = .ok (.getfield 161, 3) := by decide +kernel
theorem dX8_want_7 : decode cX8_want 7 = .ok (.iload_n 1, 1) := by decide +kernel
theorem dX8_want_8 : decode cX8_want 8 = .ok (.invokevirtual 248, 3) := by decide +kernel
theorem dX8_want_11 : decode cX8_want 11 = .ok (.ifCond .ne 5, 3) := by decide +kernel
theorem dX8_want_14 : decode cX8_want 14 = .ok (.iconst (-1), 1) := by decide +kernel
theorem dX8_want_15 : decode cX8_want 15 = .ok (.ireturn, 1) := by decide +kernel
theorem dX8_want_16 : decode cX8_want 16 = .ok (.iload_n 2, 1) := by decide +kernel
theorem dX8_want_17 : decode cX8_want 17 = .ok (.tableswitch 77 0 2 #[27, 40, 53], 27) := by decide +kernel
theorem dX8_want_44 : decode cX8_want 44 = .ok (.aload_n 0, 1) := by decide +kernel
theorem dX8_want_45 : decode cX8_want 45 = .ok (.getfield 10, 3) := by decide +kernel
theorem dX8_want_48 : decode cX8_want 48 = .ok (.getfield 161, 3) := by decide +kernel
theorem dX8_want_51 : decode cX8_want 51 = .ok (.getfield 251, 3) := by decide +kernel
theorem dX8_want_54 : decode cX8_want 54 = .ok (.iload_n 1, 1) := by decide +kernel
theorem dX8_want_55 : decode cX8_want 55 = .ok (.iaload, 1) := by decide +kernel
theorem dX8_want_56 : decode cX8_want 56 = .ok (.ireturn, 1) := by decide +kernel
theorem dX8_want_57 : decode cX8_want 57 = .ok (.aload_n 0, 1) := by decide +kernel
theorem dX8_want_58 : decode cX8_want 58 = .ok (.getfield 10, 3) := by decide +kernel
theorem dX8_want_61 : decode cX8_want 61 = .ok (.getfield 161, 3) := by decide +kernel
theorem dX8_want_64 : decode cX8_want 64 = .ok (.getfield 254, 3) := by decide +kernel
theorem dX8_want_67 : decode cX8_want 67 = .ok (.iload_n 1, 1) := by decide +kernel
theorem dX8_want_68 : decode cX8_want 68 = .ok (.iaload, 1) := by decide +kernel
theorem dX8_want_69 : decode cX8_want 69 = .ok (.ireturn, 1) := by decide +kernel
theorem dX8_want_70 : decode cX8_want 70 = .ok (.aload_n 0, 1) := by decide +kernel
theorem dX8_want_71 : decode cX8_want 71 = .ok (.getfield 10, 3) := by decide +kernel
theorem dX8_want_74 : decode cX8_want 74 = .ok (.aload_n 0, 1) := by decide +kernel
theorem dX8_want_75 : decode cX8_want 75 = .ok (.getfield 10, 3) := by decide +kernel
theorem dX8_want_78 : decode cX8_want 78 = .ok (.getfield 88, 3) := by decide +kernel
theorem dX8_want_81 : decode cX8_want 81 = .ok (.iload_n 1, 1) := by decide +kernel
theorem dX8_want_82 : decode cX8_want 82 = .ok (.invokevirtual 257, 3) := by decide +kernel
theorem dX8_want_85 : decode cX8_want 85 = .ok (.ifCond .eq 7, 3) := by decide +kernel
theorem dX8_want_88 : decode cX8_want 88 = .ok (.iconst 1, 1) := by decide +kernel
theorem dX8_want_89 : decode cX8_want 89 = .ok (.goto 4, 3) := by decide +kernel
theorem dX8_want_92 : decode cX8_want 92 = .ok (.iconst 0, 1) := by decide +kernel
theorem dX8_want_93 : decode cX8_want 93 = .ok (.ireturn, 1) := by decide +kernel
theorem dX8_want_94 : decode cX8_want 94 = .ok (.iconst (-1), 1) := by decide +kernel
theorem dX8_want_95 : decode cX8_want 95 = .ok (.ireturn, 1) := by decide +kernel
set_option maxRecDepth 20000 in
theorem vX8_want {g : zG} {d : Nat} {Q : Int32 → zM → Prop} {M : zM} {l1 : Int32} {l2 : Int32} (h : zCz shC g d mX3_isWant [.ref 22, .int l1] M (fun b1 M1 => (b1 = true → (l2.toInt < 0 ∨ 2 < l2.toInt → Q (-1) M1) ∧ (l2.toInt = 0 → ∃ k1 : Nat, l1 = iv k1 ∧ k1 < 10 ∧ Q (M1 24 k1) M1) ∧ (l2.toInt = 1 → ∃ k1 : Nat, l1 = iv k1 ∧ k1 < 10 ∧ Q (M1 25 k1) M1) ∧ (l2.toInt = 2 → zCz shC g d mX7_isReadSo [.ref 1, .ref 3, .int l1] M1 (fun b2 M2 => (b2 = false → Q 0 M2) ∧ (b2 = true → Q 1 M2)))) ∧ (b1 = false → Q (-1) M1))) : zCi shC g (d + 1) mX8_want [.ref 0, .int l1, .int l2] M Q := by
  refine zW.enter (by decide +kernel) (Nat.le_of_ble_eq_true rfl) ?_
  change zW shC g (d + 1) mX8_want (zi Q) 0 [(0, .ref 0), (1, .int l1), (2, .int l2)] [] M
  refine z_aload_n dX8_want_0 0 rfl ?_
  refine z_getr shC_0 rfl flX8_10 dX8_want_1 ?_
  refine z_getr shC_1 rfl flX8_161 dX8_want_4 ?_
  refine z_iload_n dX8_want_7 1 rfl ?_
  refine z_callV (m2 := mX3_isWant) (st := []) [.int l1] okX3_isWant (Or.inl lkX8_248) shC_22 rfl rfl rfl (Nat.le_of_ble_eq_true rfl) dX8_want_8 (zgo_z h fun b1 M1 h => ?_)
  refine z_ifb_ne 16 dX8_want_11 (by decide) (fun c1 => ?_) (fun c1 => ?_)
  · have h := h.1 c1
    refine z_iload_n dX8_want_16 2 rfl ?_
    refine z_table [44, 57, 70] 94 dX8_want_17 (by decide) (by decide) (by decide) (fun c2 => ?_) ⟨fun c2 => ?_, fun c2 => ?_, fun c2 => ?_, trivial⟩
    · have h := h.1 c2
      refine z_iconst (v := (-1)) dX8_want_94 (by decide) ?_
      exact z_iret (st := []) rfl rfl dX8_want_95 ⟨_, rfl, h⟩
    · have h := h.2.1 c2
      refine z_aload_n dX8_want_44 0 rfl ?_
      refine z_getr shC_0 rfl flX8_10 dX8_want_45 ?_
      refine z_getr shC_1 rfl flX8_161 dX8_want_48 ?_
      refine z_getr shC_22 rfl flX8_251 dX8_want_51 ?_
      refine z_iload_n dX8_want_54 1 rfl ?_
      obtain ⟨k1, ek1, uk1, h⟩ := h
      refine z_iald2 (k0 := k1) shC_24 (by decide) ek1 uk1 dX8_want_55 ?_
      exact z_iret (st := []) rfl rfl dX8_want_56 ⟨_, rfl, h⟩
    · have h := h.2.2.1 c2
      refine z_aload_n dX8_want_57 0 rfl ?_
      refine z_getr shC_0 rfl flX8_10 dX8_want_58 ?_
      refine z_getr shC_1 rfl flX8_161 dX8_want_61 ?_
      refine z_getr shC_22 rfl flX8_254 dX8_want_64 ?_
      refine z_iload_n dX8_want_67 1 rfl ?_
      obtain ⟨k1, ek1, uk1, h⟩ := h
      refine z_iald2 (k0 := k1) shC_25 (by decide) ek1 uk1 dX8_want_68 ?_
      exact z_iret (st := []) rfl rfl dX8_want_69 ⟨_, rfl, h⟩
    · have h := h.2.2.2 c2
      refine z_aload_n dX8_want_70 0 rfl ?_
      refine z_getr shC_0 rfl flX8_10 dX8_want_71 ?_
      refine z_aload_n dX8_want_74 0 rfl ?_
      refine z_getr shC_0 rfl flX8_10 dX8_want_75 ?_
      refine z_getr shC_1 rfl flX8_88 dX8_want_78 ?_
      refine z_iload_n dX8_want_81 1 rfl ?_
      refine z_callV (m2 := mX7_isReadSo) (st := []) [.ref 3, .int l1] okX7_isReadSo (Or.inl lkX8_257) shC_1 rfl rfl rfl (Nat.le_of_ble_eq_true rfl) dX8_want_82 (zgo_z h fun b2 M2 h => ?_)
      refine z_ifb_eq 92 dX8_want_85 (by decide) (fun c3 => ?_) (fun c3 => ?_)
      · have h := h.1 c3
        refine z_iconst (v := 0) dX8_want_92 (by decide) ?_
        exact z_iret (st := []) rfl rfl dX8_want_93 ⟨_, rfl, h⟩
      · have h := h.2 c3
        refine z_iconst (v := 1) dX8_want_88 (by decide) ?_
        refine z_goto 93 dX8_want_89 (by decide) ?_
        exact z_iret (st := []) rfl rfl dX8_want_93 ⟨_, rfl, h⟩
  · have h := h.2 c1
    refine z_iconst (v := (-1)) dX8_want_14 (by decide) ?_
    exact z_iret (st := []) rfl rfl dX8_want_15 ⟨_, rfl, h⟩
theorem dX8_book_0 : decode cX8_book 0 = .ok (.iload_n 1, 1) := by decide +kernel
theorem dX8_book_1 : decode cX8_book 1 = .ok (.ifCond .lt 24, 3) := by decide +kernel
theorem dX8_book_4 : decode cX8_book 4 = .ok (.iload_n 1, 1) := by decide +kernel
theorem dX8_book_5 : decode cX8_book 5 = .ok (.aload_n 0, 1) := by decide +kernel
theorem dX8_book_6 : decode cX8_book 6 = .ok (.getfield 10, 3) := by decide +kernel
theorem dX8_book_9 : decode cX8_book 9 = .ok (.getfield 88, 3) := by decide +kernel
theorem dX8_book_12 : decode cX8_book 12 = .ok (.getfield 260, 3) := by decide +kernel
theorem dX8_book_15 : decode cX8_book 15 = .ok (.if_icmp .ge 10, 3) := by decide +kernel
theorem dX8_book_18 : decode cX8_book 18 = .ok (.iload_n 1, 1) := by decide +kernel
theorem dX8_book_19 : decode cX8_book 19 = .ok (.sipush 150, 3) := by decide +kernel
theorem dX8_book_22 : decode cX8_book 22 = .ok (.if_icmp .lt 5, 3) := by decide +kernel
theorem dX8_book_25 : decode cX8_book 25 = .ok (.iconst (-1), 1) := by decide +kernel
theorem dX8_book_26 : decode cX8_book 26 = .ok (.ireturn, 1) := by decide +kernel
theorem dX8_book_27 : decode cX8_book 27 = .ok (.aload_n 0, 1) := by decide +kernel
theorem dX8_book_28 : decode cX8_book 28 = .ok (.getfield 10, 3) := by decide +kernel
theorem dX8_book_31 : decode cX8_book 31 = .ok (.getfield 261, 3) := by decide +kernel
theorem dX8_book_34 : decode cX8_book 34 = .ok (.iload_n 1, 1) := by decide +kernel
theorem dX8_book_35 : decode cX8_book 35 = .ok (.iaload, 1) := by decide +kernel
theorem dX8_book_36 : decode cX8_book 36 = .ok (.istore_n 3, 1) := by decide +kernel
theorem dX8_book_37 : decode cX8_book 37 = .ok (.iload_n 2, 1) := by decide +kernel
theorem dX8_book_38 : decode cX8_book 38 = .ok (.tableswitch 65 0 4 #[34, 39, 47, 54, 61], 34) := by decide +kernel
theorem dX8_book_72 : decode cX8_book 72 = .ok (.iload_n 3, 1) := by decide +kernel
theorem dX8_book_73 : decode cX8_book 73 = .ok (.bipush 14, 2) := by decide +kernel
theorem dX8_book_75 : decode cX8_book 75 = .ok (.ishr, 1) := by decide +kernel
theorem dX8_book_76 : decode cX8_book 76 = .ok (.ireturn, 1) := by decide +kernel
theorem dX8_book_77 : decode cX8_book 77 = .ok (.iload_n 3, 1) := by decide +kernel
theorem dX8_book_78 : decode cX8_book 78 = .ok (.bipush 11, 2) := by decide +kernel
theorem dX8_book_80 : decode cX8_book 80 = .ok (.ishr, 1) := by decide +kernel
theorem dX8_book_81 : decode cX8_book 81 = .ok (.bipush 7, 2) := by decide +kernel
theorem dX8_book_83 : decode cX8_book 83 = .ok (.iand, 1) := by decide +kernel
theorem dX8_book_84 : decode cX8_book 84 = .ok (.ireturn, 1) := by decide +kernel
theorem dX8_book_85 : decode cX8_book 85 = .ok (.iload_n 3, 1) := by decide +kernel
theorem dX8_book_86 : decode cX8_book 86 = .ok (.iconst 5, 1) := by decide +kernel
theorem dX8_book_87 : decode cX8_book 87 = .ok (.ishr, 1) := by decide +kernel
theorem dX8_book_88 : decode cX8_book 88 = .ok (.bipush 63, 2) := by decide +kernel
theorem dX8_book_90 : decode cX8_book 90 = .ok (.iand, 1) := by decide +kernel
theorem dX8_book_91 : decode cX8_book 91 = .ok (.ireturn, 1) := by decide +kernel
theorem dX8_book_92 : decode cX8_book 92 = .ok (.iload_n 3, 1) := by decide +kernel
theorem dX8_book_93 : decode cX8_book 93 = .ok (.iconst 1, 1) := by decide +kernel
theorem dX8_book_94 : decode cX8_book 94 = .ok (.ishr, 1) := by decide +kernel
theorem dX8_book_95 : decode cX8_book 95 = .ok (.bipush 15, 2) := by decide +kernel
theorem dX8_book_97 : decode cX8_book 97 = .ok (.iand, 1) := by decide +kernel
theorem dX8_book_98 : decode cX8_book 98 = .ok (.ireturn, 1) := by decide +kernel
theorem dX8_book_99 : decode cX8_book 99 = .ok (.iload_n 3, 1) := by decide +kernel
theorem dX8_book_100 : decode cX8_book 100 = .ok (.iconst 1, 1) := by decide +kernel
theorem dX8_book_101 : decode cX8_book 101 = .ok (.iand, 1) := by decide +kernel
theorem dX8_book_102 : decode cX8_book 102 = .ok (.ireturn, 1) := by decide +kernel
theorem dX8_book_103 : decode cX8_book 103 = .ok (.iconst (-1), 1) := by decide +kernel
theorem dX8_book_104 : decode cX8_book 104 = .ok (.ireturn, 1) := by decide +kernel
set_option maxRecDepth 20000 in
theorem vX8_book {g : zG} {d : Nat} {Q : Int32 → zM → Prop} {M : zM} {l1 : Int32} {l2 : Int32} (h : (l1 < 0 → Q (-1) M) ∧ (¬ l1 < 0 → ((M 3 7) ≤ l1 → Q (-1) M) ∧ (¬ (M 3 7) ≤ l1 → (l1 < 150 → ∃ k1 : Nat, l1 = iv k1 ∧ k1 < 150 ∧ (l2.toInt < 0 ∨ 4 < l2.toInt → Q (-1) M) ∧ (l2.toInt = 0 → Q ((M 9 k1) >>> (14 &&& 31)) M) ∧ (l2.toInt = 1 → Q (((M 9 k1) >>> (11 &&& 31)) &&& 7) M) ∧ (l2.toInt = 2 → Q (((M 9 k1) >>> (5 &&& 31)) &&& 63) M) ∧ (l2.toInt = 3 → Q (((M 9 k1) >>> (1 &&& 31)) &&& 15) M) ∧ (l2.toInt = 4 → Q ((M 9 k1) &&& 1) M)) ∧ (¬ l1 < 150 → Q (-1) M)))) : zCi shC g d mX8_book [.ref 0, .int l1, .int l2] M Q := by
  refine zW.enter (by decide +kernel) (Nat.le_of_ble_eq_true rfl) ?_
  change zW shC g d mX8_book (zi Q) 0 [(0, .ref 0), (1, .int l1), (2, .int l2)] [] M
  refine z_iload_n dX8_book_0 1 rfl ?_
  refine z_if_lt 25 dX8_book_1 (by decide) (fun c1 => ?_) (fun c1 => ?_)
  · have h := h.1 c1
    refine z_iconst (v := (-1)) dX8_book_25 (by decide) ?_
    exact z_iret (st := []) rfl rfl dX8_book_26 ⟨_, rfl, h⟩
  · have h := h.2 c1
    refine z_iload_n dX8_book_4 1 rfl ?_
    refine z_aload_n dX8_book_5 0 rfl ?_
    refine z_getr shC_0 rfl flX8_10 dX8_book_6 ?_
    refine z_getr shC_1 rfl flX8_88 dX8_book_9 ?_
    refine z_geti shC_3 rfl flX8_260 dX8_book_12 ?_
    refine z_icmp_ge 25 dX8_book_15 (by decide) (fun c2 => ?_) (fun c2 => ?_)
    · have h := h.1 c2
      refine z_iconst (v := (-1)) dX8_book_25 (by decide) ?_
      exact z_iret (st := []) rfl rfl dX8_book_26 ⟨_, rfl, h⟩
    · have h := h.2 c2
      refine z_iload_n dX8_book_18 1 rfl ?_
      refine z_sipush (v := 150) dX8_book_19 (by decide) ?_
      refine z_icmp_lt 27 dX8_book_22 (by decide) (fun c3 => ?_) (fun c3 => ?_)
      · have h := h.1 c3
        refine z_aload_n dX8_book_27 0 rfl ?_
        refine z_getr shC_0 rfl flX8_10 dX8_book_28 ?_
        refine z_getr shC_1 rfl flX8_261 dX8_book_31 ?_
        refine z_iload_n dX8_book_34 1 rfl ?_
        obtain ⟨k1, ek1, uk1, h⟩ := h
        refine z_iald2 (k0 := k1) shC_9 (by decide) ek1 uk1 dX8_book_35 ?_
        refine z_istore_n [(3, .int (M 9 k1)), (0, .ref 0), (1, .int l1), (2, .int l2)] dX8_book_36 (by decide) rfl ?_
        refine z_iload_n dX8_book_37 3 rfl ?_
        refine z_table [72, 77, 85, 92, 99] 103 dX8_book_38 (by decide) (by decide) (by decide) (fun c4 => ?_) ⟨fun c4 => ?_, fun c4 => ?_, fun c4 => ?_, fun c4 => ?_, fun c4 => ?_, trivial⟩
        · have h := h.1 c4
          refine z_iconst (v := (-1)) dX8_book_103 (by decide) ?_
          exact z_iret (st := []) rfl rfl dX8_book_104 ⟨_, rfl, h⟩
        · have h := h.2.1 c4
          refine z_iload_n dX8_book_72 0 rfl ?_
          refine z_bipush (v := 14) dX8_book_73 (by decide) ?_
          refine z_ishr dX8_book_75 ?_
          exact z_iret (st := []) rfl rfl dX8_book_76 ⟨_, rfl, h⟩
        · have h := h.2.2.1 c4
          refine z_iload_n dX8_book_77 0 rfl ?_
          refine z_bipush (v := 11) dX8_book_78 (by decide) ?_
          refine z_ishr dX8_book_80 ?_
          refine z_bipush (v := 7) dX8_book_81 (by decide) ?_
          refine z_iand dX8_book_83 ?_
          exact z_iret (st := []) rfl rfl dX8_book_84 ⟨_, rfl, h⟩
        · have h := h.2.2.2.1 c4
          refine z_iload_n dX8_book_85 0 rfl ?_
          refine z_iconst (v := 5) dX8_book_86 (by decide) ?_
          refine z_ishr dX8_book_87 ?_
          refine z_bipush (v := 63) dX8_book_88 (by decide) ?_
          refine z_iand dX8_book_90 ?_
          exact z_iret (st := []) rfl rfl dX8_book_91 ⟨_, rfl, h⟩
        · have h := h.2.2.2.2.1 c4
          refine z_iload_n dX8_book_92 0 rfl ?_
          refine z_iconst (v := 1) dX8_book_93 (by decide) ?_
          refine z_ishr dX8_book_94 ?_
          refine z_bipush (v := 15) dX8_book_95 (by decide) ?_
          refine z_iand dX8_book_97 ?_
          exact z_iret (st := []) rfl rfl dX8_book_98 ⟨_, rfl, h⟩
        · have h := h.2.2.2.2.2 c4
          refine z_iload_n dX8_book_99 0 rfl ?_
          refine z_iconst (v := 1) dX8_book_100 (by decide) ?_
          refine z_iand dX8_book_101 ?_
          exact z_iret (st := []) rfl rfl dX8_book_102 ⟨_, rfl, h⟩
      · have h := h.2 c3
        refine z_iconst (v := (-1)) dX8_book_25 (by decide) ?_
        exact z_iret (st := []) rfl rfl dX8_book_26 ⟨_, rfl, h⟩
theorem dX8_read_0 : decode cX8_read 0 = .ok (.aload_n 0, 1) := by decide +kernel
theorem dX8_read_1 : decode cX8_read 1 = .ok (.getfield 10, 3) := by decide +kernel
theorem dX8_read_4 : decode cX8_read 4 = .ok (.iload_n 1, 1) := by decide +kernel
theorem dX8_read_5 : decode cX8_read 5 = .ok (.invokevirtual 264, 3) := by decide +kernel
theorem dX8_read_8 : decode cX8_read 8 = .ok (.ifCond .eq 21, 3) := by decide +kernel
theorem dX8_read_11 : decode cX8_read 11 = .ok (.aload_n 0, 1) := by decide +kernel
theorem dX8_read_12 : decode cX8_read 12 = .ok (.getfield 10, 3) := by decide +kernel
theorem dX8_read_15 : decode cX8_read 15 = .ok (.aload_n 0, 1) := by decide +kernel
theorem dX8_read_16 : decode cX8_read 16 = .ok (.getfield 10, 3) := by decide +kernel
theorem dX8_read_19 : decode cX8_read 19 = .ok (.getfield 88, 3) := by decide +kernel
theorem dX8_read_22 : decode cX8_read 22 = .ok (.iload_n 1, 1) := by decide +kernel
theorem dX8_read_23 : decode cX8_read 23 = .ok (.invokevirtual 267, 3) := by decide +kernel
theorem dX8_read_26 : decode cX8_read 26 = .ok (.goto 5, 3) := by decide +kernel
theorem dX8_read_29 : decode cX8_read 29 = .ok (.bipush (-2), 2) := by decide +kernel
theorem dX8_read_31 : decode cX8_read 31 = .ok (.ireturn, 1) := by decide +kernel
set_option maxRecDepth 20000 in
theorem vX8_read {g : zG} {d : Nat} {Q : Int32 → zM → Prop} {M : zM} {l1 : Int32} (h : zCz shC g d mX7_isBox [.ref 1, .int l1] M (fun b1 M1 => (b1 = false → Q (-2) M1) ∧ (b1 = true → zCi shC g d mX7_readBox [.ref 1, .ref 3, .int l1] M1 (fun x1 M2 => Q x1 M2)))) : zCi shC g (d + 1) mX8_read [.ref 0, .int l1] M Q := by
  refine zW.enter (by decide +kernel) (Nat.le_of_ble_eq_true rfl) ?_
  change zW shC g (d + 1) mX8_read (zi Q) 0 [(0, .ref 0), (1, .int l1)] [] M
  refine z_aload_n dX8_read_0 0 rfl ?_
  refine z_getr shC_0 rfl flX8_10 dX8_read_1 ?_
  refine z_iload_n dX8_read_4 1 rfl ?_
  refine z_callV (m2 := mX7_isBox) (st := []) [.int l1] okX7_isBox (Or.inl lkX8_264) shC_1 rfl rfl rfl (Nat.le_of_ble_eq_true rfl) dX8_read_5 (zgo_z h fun b1 M1 h => ?_)
  refine z_ifb_eq 29 dX8_read_8 (by decide) (fun c1 => ?_) (fun c1 => ?_)
  · have h := h.1 c1
    refine z_bipush (v := (-2)) dX8_read_29 (by decide) ?_
    exact z_iret (st := []) rfl rfl dX8_read_31 ⟨_, rfl, h⟩
  · have h := h.2 c1
    refine z_aload_n dX8_read_11 0 rfl ?_
    refine z_getr shC_0 rfl flX8_10 dX8_read_12 ?_
    refine z_aload_n dX8_read_15 0 rfl ?_
    refine z_getr shC_0 rfl flX8_10 dX8_read_16 ?_
    refine z_getr shC_1 rfl flX8_88 dX8_read_19 ?_
    refine z_iload_n dX8_read_22 1 rfl ?_
    refine z_callV (m2 := mX7_readBox) (st := []) [.ref 3, .int l1] okX7_readBox (Or.inl lkX8_267) shC_1 rfl rfl rfl (Nat.le_of_ble_eq_true rfl) dX8_read_23 (zgo_i h fun x1 M2 h => ?_)
    refine z_goto 31 dX8_read_26 (by decide) ?_
    exact z_iret (st := []) rfl rfl dX8_read_31 ⟨_, rfl, h⟩
theorem dX8_goes_0 : decode cX8_goes 0 = .ok (.iload_n 1, 1) := by decide +kernel
theorem dX8_goes_1 : decode cX8_goes 1 = .ok (.ifCond .lt 9, 3) := by decide +kernel
theorem dX8_goes_4 : decode cX8_goes 4 = .ok (.iload_n 1, 1) := by decide +kernel
theorem dX8_goes_5 : decode cX8_goes 5 = .ok (.bipush 99, 2) := by decide +kernel
theorem dX8_goes_7 : decode cX8_goes 7 = .ok (.if_icmp .le 7, 3) := by decide +kernel
theorem dX8_goes_10 : decode cX8_goes 10 = .ok (.ldc2_w 270, 3) := by decide +kernel
theorem dX8_goes_13 : decode cX8_goes 13 = .ok (.lreturn, 1) := by decide +kernel
theorem dX8_goes_14 : decode cX8_goes 14 = .ok (.aload_n 0, 1) := by decide +kernel
theorem dX8_goes_15 : decode cX8_goes 15 = .ok (.iload_n 1, 1) := by decide +kernel
theorem dX8_goes_16 : decode cX8_goes 16 = .ok (.invokevirtual 272, 3) := by decide +kernel
theorem dX8_goes_19 : decode cX8_goes 19 = .ok (.aload_n 0, 1) := by decide +kernel
theorem dX8_goes_20 : decode cX8_goes 20 = .ok (.getfield 10, 3) := by decide +kernel
theorem dX8_goes_23 : decode cX8_goes 23 = .ok (.aload_n 0, 1) := by decide +kernel
theorem dX8_goes_24 : decode cX8_goes 24 = .ok (.getfield 26, 3) := by decide +kernel
theorem dX8_goes_27 : decode cX8_goes 27 = .ok (.invokevirtual 275, 3) := by decide +kernel
theorem dX8_goes_30 : decode cX8_goes 30 = .ok (.lreturn, 1) := by decide +kernel
set_option maxRecDepth 20000 in
theorem vX8_goes {g : zG} {d : Nat} {Q : Int64 → zM → Prop} {M : zM} {l1 : Int32} (h : (l1 < 0 → Q (-1) M) ∧ (¬ l1 < 0 → (l1 ≤ 99 → zCv shC g d mX8_think [.ref 0, .int l1] M (fun  M1 => zCl shC g d mX7_seenCells [.ref 1, .ref 55] M1 (fun y1 M2 => Q y1 M2))) ∧ (¬ l1 ≤ 99 → Q (-1) M))) : zCl shC g (d + 1) mX8_goes [.ref 0, .int l1] M Q := by
  refine zW.enter (by decide +kernel) (Nat.le_of_ble_eq_true rfl) ?_
  change zW shC g (d + 1) mX8_goes (zl Q) 0 [(0, .ref 0), (1, .int l1)] [] M
  refine z_iload_n dX8_goes_0 1 rfl ?_
  refine z_if_lt 10 dX8_goes_1 (by decide) (fun c1 => ?_) (fun c1 => ?_)
  · have h := h.1 c1
    refine z_ldc2 dX8_goes_10 kcX8_270 ?_
    exact z_lret (st := []) rfl dX8_goes_13 ⟨_, rfl, h⟩
  · have h := h.2 c1
    refine z_iload_n dX8_goes_4 1 rfl ?_
    refine z_bipush (v := 99) dX8_goes_5 (by decide) ?_
    refine z_icmp_le 14 dX8_goes_7 (by decide) (fun c2 => ?_) (fun c2 => ?_)
    · have h := h.1 c2
      refine z_aload_n dX8_goes_14 0 rfl ?_
      refine z_iload_n dX8_goes_15 1 rfl ?_
      refine z_callV (m2 := mX8_think) (st := []) [.int l1] okX8_think (Or.inl lkX8_272) shC_0 rfl rfl rfl (Nat.le_of_ble_eq_true rfl) dX8_goes_16 (zgo_v h fun  M1 h => ?_)
      refine z_aload_n dX8_goes_19 0 rfl ?_
      refine z_getr shC_0 rfl flX8_10 dX8_goes_20 ?_
      refine z_aload_n dX8_goes_23 0 rfl ?_
      refine z_getr shC_0 rfl flX8_26 dX8_goes_24 ?_
      refine z_callV (m2 := mX7_seenCells) (st := []) [.ref 55] okX7_seenCells (Or.inl lkX8_275) shC_1 rfl rfl rfl (Nat.le_of_ble_eq_true rfl) dX8_goes_27 (zgo_l h fun y1 M2 h => ?_)
      exact z_lret (st := []) rfl dX8_goes_30 ⟨_, rfl, h⟩
    · have h := h.2 c2
      refine z_ldc2 dX8_goes_10 kcX8_270 ?_
      exact z_lret (st := []) rfl dX8_goes_13 ⟨_, rfl, h⟩
theorem dX8_wants_0 : decode cX8_wants 0 = .ok (.iload_n 1, 1) := by decide +kernel
theorem dX8_wants_1 : decode cX8_wants 1 = .ok (.ifCond .lt 9, 3) := by decide +kernel
theorem dX8_wants_4 : decode cX8_wants 4 = .ok (.iload_n 1, 1) := by decide +kernel
theorem dX8_wants_5 : decode cX8_wants 5 = .ok (.bipush 99, 2) := by decide +kernel
theorem dX8_wants_7 : decode cX8_wants 7 = .ok (.if_icmp .le 5, 3) := by decide +kernel
theorem dX8_wants_10 : decode cX8_wants 10 = .ok (.iconst (-1), 1) := by decide +kernel
theorem dX8_wants_11 : decode cX8_wants 11 = .ok (.ireturn, 1) := by decide +kernel
theorem dX8_wants_12 : decode cX8_wants 12 = .ok (.aload_n 0, 1) := by decide +kernel
theorem dX8_wants_13 : decode cX8_wants 13 = .ok (.iload_n 1, 1) := by decide +kernel
theorem dX8_wants_14 : decode cX8_wants 14 = .ok (.invokevirtual 272, 3) := by decide +kernel
theorem dX8_wants_17 : decode cX8_wants 17 = .ok (.aload_n 0, 1) := by decide +kernel
theorem dX8_wants_18 : decode cX8_wants 18 = .ok (.getfield 10, 3) := by decide +kernel
theorem dX8_wants_21 : decode cX8_wants 21 = .ok (.aload_n 0, 1) := by decide +kernel
theorem dX8_wants_22 : decode cX8_wants 22 = .ok (.getfield 26, 3) := by decide +kernel
theorem dX8_wants_25 : decode cX8_wants 25 = .ok (.invokevirtual 279, 3) := by decide +kernel
theorem dX8_wants_28 : decode cX8_wants 28 = .ok (.invokestatic 283, 3) := by decide +kernel
theorem dX8_wants_31 : decode cX8_wants 31 = .ok (.ireturn, 1) := by decide +kernel
set_option maxRecDepth 20000 in
theorem vX8_wants {g : zG} {d : Nat} {Q : Int32 → zM → Prop} {M : zM} {l1 : Int32} (h : (l1 < 0 → Q (-1) M) ∧ (¬ l1 < 0 → (l1 ≤ 99 → zCv shC g d mX8_think [.ref 0, .int l1] M (fun  M1 => zCi shC g d mX7_wantsRead [.ref 1, .ref 55] M1 (fun x2 M2 => zCi shC g d mJ6_bitCount_0f7a4 [.int x2] M2 (fun x3 M3 => Q x3 M3)))) ∧ (¬ l1 ≤ 99 → Q (-1) M))) : zCi shC g (d + 1) mX8_wants [.ref 0, .int l1] M Q := by
  refine zW.enter (by decide +kernel) (Nat.le_of_ble_eq_true rfl) ?_
  change zW shC g (d + 1) mX8_wants (zi Q) 0 [(0, .ref 0), (1, .int l1)] [] M
  refine z_iload_n dX8_wants_0 1 rfl ?_
  refine z_if_lt 10 dX8_wants_1 (by decide) (fun c1 => ?_) (fun c1 => ?_)
  · have h := h.1 c1
    refine z_iconst (v := (-1)) dX8_wants_10 (by decide) ?_
    exact z_iret (st := []) rfl rfl dX8_wants_11 ⟨_, rfl, h⟩
  · have h := h.2 c1
    refine z_iload_n dX8_wants_4 1 rfl ?_
    refine z_bipush (v := 99) dX8_wants_5 (by decide) ?_
    refine z_icmp_le 12 dX8_wants_7 (by decide) (fun c2 => ?_) (fun c2 => ?_)
    · have h := h.1 c2
      refine z_aload_n dX8_wants_12 0 rfl ?_
      refine z_iload_n dX8_wants_13 1 rfl ?_
      refine z_callV (m2 := mX8_think) (st := []) [.int l1] okX8_think (Or.inl lkX8_272) shC_0 rfl rfl rfl (Nat.le_of_ble_eq_true rfl) dX8_wants_14 (zgo_v h fun  M1 h => ?_)
      refine z_aload_n dX8_wants_17 0 rfl ?_
      refine z_getr shC_0 rfl flX8_10 dX8_wants_18 ?_
      refine z_aload_n dX8_wants_21 0 rfl ?_
      refine z_getr shC_0 rfl flX8_26 dX8_wants_22 ?_
      refine z_callV (m2 := mX7_wantsRead) (st := []) [.ref 55] okX7_wantsRead (Or.inl lkX8_279) shC_1 rfl rfl rfl (Nat.le_of_ble_eq_true rfl) dX8_wants_25 (zgo_i h fun x2 M2 h => ?_)
      refine z_callS (m2 := mJ6_bitCount_0f7a4) (st := []) [.int x2] okJ6_bitCount_0f7a4 (Or.inl lkX8_283) rfl rfl (Nat.le_of_ble_eq_true rfl) dX8_wants_28 (zgo_i h fun x3 M3 h => ?_)
      exact z_iret (st := []) rfl rfl dX8_wants_31 ⟨_, rfl, h⟩
    · have h := h.2 c2
      refine z_iconst (v := (-1)) dX8_wants_10 (by decide) ?_
      exact z_iret (st := []) rfl rfl dX8_wants_11 ⟨_, rfl, h⟩
theorem dX8_think_0 : decode cX8_think 0 = .ok (.aload_n 0, 1) := by decide +kernel
theorem dX8_think_1 : decode cX8_think 1 = .ok (.getfield 26, 3) := by decide +kernel
theorem dX8_think_4 : decode cX8_think 4 = .ok (.aload_n 0, 1) := by decide +kernel
theorem dX8_think_5 : decode cX8_think 5 = .ok (.getfield 10, 3) := by decide +kernel
theorem dX8_think_8 : decode cX8_think 8 = .ok (.getfield 88, 3) := by decide +kernel
theorem dX8_think_11 : decode cX8_think 11 = .ok (.invokevirtual 205, 3) := by decide +kernel
theorem dX8_think_14 : decode cX8_think 14 = .ok (.iconst 0, 1) := by decide +kernel
theorem dX8_think_15 : decode cX8_think 15 = .ok (.istore_n 2, 1) := by decide +kernel
theorem dX8_think_16 : decode cX8_think 16 = .ok (.iload_n 2, 1) := by decide +kernel
theorem dX8_think_17 : decode cX8_think 17 = .ok (.iload_n 1, 1) := by decide +kernel
theorem dX8_think_18 : decode cX8_think 18 = .ok (.if_icmp .ge 22, 3) := by decide +kernel
theorem dX8_think_21 : decode cX8_think 21 = .ok (.aload_n 0, 1) := by decide +kernel
theorem dX8_think_22 : decode cX8_think 22 = .ok (.getfield 10, 3) := by decide +kernel
theorem dX8_think_25 : decode cX8_think 25 = .ok (.aload_n 0, 1) := by decide +kernel
theorem dX8_think_26 : decode cX8_think 26 = .ok (.getfield 26, 3) := by decide +kernel
theorem dX8_think_29 : decode cX8_think 29 = .ok (.iconst 0, 1) := by decide +kernel
theorem dX8_think_30 : decode cX8_think 30 = .ok (.invokevirtual 201, 3) := by decide +kernel
theorem dX8_think_33 : decode cX8_think 33 = .ok (.pop, 1) := by decide +kernel
theorem dX8_think_34 : decode cX8_think 34 = .ok (.iinc 2 1, 3) := by decide +kernel
theorem dX8_think_37 : decode cX8_think 37 = .ok (.goto (-21), 3) := by decide +kernel
theorem dX8_think_40 : decode cX8_think 40 = .ok (.return_, 1) := by decide +kernel
set_option maxRecDepth 20000 in
theorem vX8_think {g : zG} {d : Nat} {Q : zM → Prop} {M : zM} {l1 : Int32} (h : zCv shC g d mX2_copy [.ref 55, .ref 3] M (fun  M1 => zW shC g (d + 1) mX8_think (zv Q) 16 [(0, .ref 0), (1, .int l1), (2, .int 0)] [] M1)) : zCv shC g (d + 1) mX8_think [.ref 0, .int l1] M Q := by
  refine zW.enter (by decide +kernel) (Nat.le_of_ble_eq_true rfl) ?_
  change zW shC g (d + 1) mX8_think (zv Q) 0 [(0, .ref 0), (1, .int l1)] [] M
  refine z_aload_n dX8_think_0 0 rfl ?_
  refine z_getr shC_0 rfl flX8_26 dX8_think_1 ?_
  refine z_aload_n dX8_think_4 0 rfl ?_
  refine z_getr shC_0 rfl flX8_10 dX8_think_5 ?_
  refine z_getr shC_1 rfl flX8_88 dX8_think_8 ?_
  refine z_callV (m2 := mX2_copy) (st := []) [.ref 3] okX2_copy (Or.inl lkX8_205) shC_55 rfl rfl rfl (Nat.le_of_ble_eq_true rfl) dX8_think_11 (zgo_v h fun  M1 h => ?_)
  refine z_iconst (v := 0) dX8_think_14 (by decide) ?_
  refine z_istore_n [(2, .int 0), (0, .ref 0), (1, .int l1)] dX8_think_15 (by decide) rfl ?_
  exact zW.sub [1, 2, 0] rfl h
set_option maxRecDepth 20000 in
theorem vX8_think_16 {g : zG} {d : Nat} {Q : zM → Prop} {M : zM} {l1 : Int32} {l2 : Int32} (h : (l1 ≤ l2 → Q M) ∧ (¬ l1 ≤ l2 → zCi shC g d mX7_pass [.ref 1, .ref 55, .int (zbI false)] M (fun x1 M1 => zW shC g (d + 1) mX8_think (zv Q) 16 [(0, .ref 0), (1, .int l1), (2, .int (l2 + 1))] [] M1))) : zW shC g (d + 1) mX8_think (zv Q) 16 [(0, .ref 0), (1, .int l1), (2, .int l2)] [] M := by
  refine z_iload_n dX8_think_16 2 rfl ?_
  refine z_iload_n dX8_think_17 1 rfl ?_
  refine z_icmp_ge 40 dX8_think_18 (by decide) (fun c1 => ?_) (fun c1 => ?_)
  · have h := h.1 c1
    exact z_vret (st := []) rfl dX8_think_40 ⟨rfl, h⟩
  · have h := h.2 c1
    refine z_aload_n dX8_think_21 0 rfl ?_
    refine z_getr shC_0 rfl flX8_10 dX8_think_22 ?_
    refine z_aload_n dX8_think_25 0 rfl ?_
    refine z_getr shC_0 rfl flX8_26 dX8_think_26 ?_
    refine z_iconst (v := 0) dX8_think_29 (by decide) ?_
    refine z_callV (m2 := mX7_pass) (st := []) [.ref 55, .int (zbI false)] okX7_pass (Or.inl lkX8_201) shC_1 rfl rfl rfl (Nat.le_of_ble_eq_true rfl) dX8_think_30 (zgo_i h fun x1 M1 h => ?_)
    refine z_popi dX8_think_33 ?_
    refine z_iinc (x := l2) (v := (l2 + 1)) [(2, .int (l2 + 1)), (0, .ref 0), (1, .int l1)] dX8_think_34 2 rfl rfl (by decide) rfl ?_
    refine z_goto 16 dX8_think_37 (by decide) ?_
    exact zW.sub [1, 2, 0] rfl h
theorem dX8_spoilt_0 : decode cX8_spoilt 0 = .ok (.iload_n 1, 1) := by decide +kernel
theorem dX8_spoilt_1 : decode cX8_spoilt 1 = .ok (.ifCond .eq 10, 3) := by decide +kernel
theorem dX8_spoilt_4 : decode cX8_spoilt 4 = .ok (.iload_n 1, 1) := by decide +kernel
theorem dX8_spoilt_5 : decode cX8_spoilt 5 = .ok (.iconst 1, 1) := by decide +kernel
theorem dX8_spoilt_6 : decode cX8_spoilt 6 = .ok (.if_icmp .eq 5, 3) := by decide +kernel
theorem dX8_spoilt_9 : decode cX8_spoilt 9 = .ok (.iconst (-1), 1) := by decide +kernel
theorem dX8_spoilt_10 : decode cX8_spoilt 10 = .ok (.ireturn, 1) := by decide +kernel
theorem dX8_spoilt_11 : decode cX8_spoilt 11 = .ok (.aload_n 0, 1) := by decide +kernel
theorem dX8_spoilt_12 : decode cX8_spoilt 12 = .ok (.getfield 10, 3) := by decide +kernel
theorem dX8_spoilt_15 : decode cX8_spoilt 15 = .ok (.aload_n 0, 1) := by decide +kernel
theorem dX8_spoilt_16 : decode cX8_spoilt 16 = .ok (.getfield 10, 3) := by decide +kernel
theorem dX8_spoilt_19 : decode cX8_spoilt 19 = .ok (.getfield 88, 3) := by decide +kernel
theorem dX8_spoilt_22 : decode cX8_spoilt 22 = .ok (.invokevirtual 279, 3) := by decide +kernel
theorem dX8_spoilt_25 : decode cX8_spoilt 25 = .ok (.istore_n 2, 1) := by decide +kernel
theorem dX8_spoilt_26 : decode cX8_spoilt 26 = .ok (.iload_n 2, 1) := by decide +kernel
theorem dX8_spoilt_27 : decode cX8_spoilt 27 = .ok (.ifCond .ne 5, 3) := by decide +kernel
theorem dX8_spoilt_30 : decode cX8_spoilt 30 = .ok (.iconst (-1), 1) := by decide +kernel
theorem dX8_spoilt_31 : decode cX8_spoilt 31 = .ok (.ireturn, 1) := by decide +kernel
theorem dX8_spoilt_32 : decode cX8_spoilt 32 = .ok (.aload_n 0, 1) := by decide +kernel
theorem dX8_spoilt_33 : decode cX8_spoilt 33 = .ok (.getfield 26, 3) := by decide +kernel
theorem dX8_spoilt_36 : decode cX8_spoilt 36 = .ok (.aload_n 0, 1) := by decide +kernel
theorem dX8_spoilt_37 : decode cX8_spoilt 37 = .ok (.getfield 10, 3) := by decide +kernel
theorem dX8_spoilt_40 : decode cX8_spoilt 40 = .ok (.getfield 88, 3) := by decide +kernel
theorem dX8_spoilt_43 : decode cX8_spoilt 43 = .ok (.invokevirtual 205, 3) := by decide +kernel
theorem dX8_spoilt_46 : decode cX8_spoilt 46 = .ok (.iconst 1, 1) := by decide +kernel
theorem dX8_spoilt_47 : decode cX8_spoilt 47 = .ok (.istore_n 3, 1) := by decide +kernel
theorem dX8_spoilt_48 : decode cX8_spoilt 48 = .ok (.iload_n 3, 1) := by decide +kernel
theorem dX8_spoilt_49 : decode cX8_spoilt 49 = .ok (.bipush 99, 2) := by decide +kernel
theorem dX8_spoilt_51 : decode cX8_spoilt 51 = .ok (.if_icmp .gt 58, 3) := by decide +kernel
theorem dX8_spoilt_54 : decode cX8_spoilt 54 = .ok (.aload_n 0, 1) := by decide +kernel
theorem dX8_spoilt_55 : decode cX8_spoilt 55 = .ok (.getfield 10, 3) := by decide +kernel
theorem dX8_spoilt_58 : decode cX8_spoilt 58 = .ok (.aload_n 0, 1) := by decide +kernel
theorem dX8_spoilt_59 : decode cX8_spoilt 59 = .ok (.getfield 26, 3) := by decide +kernel
theorem dX8_spoilt_62 : decode cX8_spoilt 62 = .ok (.iconst 0, 1) := by decide +kernel
theorem dX8_spoilt_63 : decode cX8_spoilt 63 = .ok (.invokevirtual 201, 3) := by decide +kernel
theorem dX8_spoilt_66 : decode cX8_spoilt 66 = .ok (.pop, 1) := by decide +kernel
theorem dX8_spoilt_67 : decode cX8_spoilt 67 = .ok (.iload_n 2, 1) := by decide +kernel
theorem dX8_spoilt_68 : decode cX8_spoilt 68 = .ok (.aload_n 0, 1) := by decide +kernel
theorem dX8_spoilt_69 : decode cX8_spoilt 69 = .ok (.getfield 10, 3) := by decide +kernel
theorem dX8_spoilt_72 : decode cX8_spoilt 72 = .ok (.aload_n 0, 1) := by decide +kernel
theorem dX8_spoilt_73 : decode cX8_spoilt 73 = .ok (.getfield 26, 3) := by decide +kernel
theorem dX8_spoilt_76 : decode cX8_spoilt 76 = .ok (.invokevirtual 279, 3) := by decide +kernel
theorem dX8_spoilt_79 : decode cX8_spoilt 79 = .ok (.iconst (-1), 1) := by decide +kernel
theorem dX8_spoilt_80 : decode cX8_spoilt 80 = .ok (.ixor, 1) := by decide +kernel
theorem dX8_spoilt_81 : decode cX8_spoilt 81 = .ok (.iand, 1) := by decide +kernel
theorem dX8_spoilt_82 : decode cX8_spoilt 82 = .ok (.istore 4, 2) := by decide +kernel
theorem dX8_spoilt_84 : decode cX8_spoilt 84 = .ok (.iload 4, 2) := by decide +kernel
theorem dX8_spoilt_86 : decode cX8_spoilt 86 = .ok (.ifCond .eq 17, 3) := by decide +kernel
theorem dX8_spoilt_89 : decode cX8_spoilt 89 = .ok (.iload_n 1, 1) := by decide +kernel
theorem dX8_spoilt_90 : decode cX8_spoilt 90 = .ok (.ifCond .ne 7, 3) := by decide +kernel
theorem dX8_spoilt_93 : decode cX8_spoilt 93 = .ok (.iload_n 3, 1) := by decide +kernel
theorem dX8_spoilt_94 : decode cX8_spoilt 94 = .ok (.goto 8, 3) := by decide +kernel
theorem dX8_spoilt_97 : decode cX8_spoilt 97 = .ok (.iload 4, 2) := by decide +kernel
theorem dX8_spoilt_99 : decode cX8_spoilt 99 = .ok (.invokestatic 288, 3) := by decide +kernel
theorem dX8_spoilt_102 : decode cX8_spoilt 102 = .ok (.ireturn, 1) := by decide +kernel
theorem dX8_spoilt_103 : decode cX8_spoilt 103 = .ok (.iinc 3 1, 3) := by decide +kernel
theorem dX8_spoilt_106 : decode cX8_spoilt 106 = .ok (.goto (-58), 3) := by decide +kernel
theorem dX8_spoilt_109 : decode cX8_spoilt 109 = .ok (.iconst (-1), 1) := by decide +kernel
theorem dX8_spoilt_110 : decode cX8_spoilt 110 = .ok (.ireturn, 1) := by decide +kernel
set_option maxRecDepth 20000 in
theorem vX8_spoilt {g : zG} {d : Nat} {Q : Int32 → zM → Prop} {M : zM} {l1 : Int32} (h : (l1 = 0 → zW shC g (d + 1) mX8_spoilt (zi Q) 11 [(0, .ref 0), (1, .int l1)] [] M) ∧ (¬ l1 = 0 → (l1 = 1 → zW shC g (d + 1) mX8_spoilt (zi Q) 11 [(0, .ref 0), (1, .int l1)] [] M) ∧ (¬ l1 = 1 → Q (-1) M))) : zCi shC g (d + 1) mX8_spoilt [.ref 0, .int l1] M Q := by
  refine zW.enter (by decide +kernel) (Nat.le_of_ble_eq_true rfl) ?_
  change zW shC g (d + 1) mX8_spoilt (zi Q) 0 [(0, .ref 0), (1, .int l1)] [] M
  refine z_iload_n dX8_spoilt_0 1 rfl ?_
  refine z_if_eq 11 dX8_spoilt_1 (by decide) (fun c1 => ?_) (fun c1 => ?_)
  · have h := h.1 c1
    exact h
  · have h := h.2 c1
    refine z_iload_n dX8_spoilt_4 1 rfl ?_
    refine z_iconst (v := 1) dX8_spoilt_5 (by decide) ?_
    refine z_icmp_eq 11 dX8_spoilt_6 (by decide) (fun c2 => ?_) (fun c2 => ?_)
    · have h := h.1 c2
      exact h
    · have h := h.2 c2
      refine z_iconst (v := (-1)) dX8_spoilt_9 (by decide) ?_
      exact z_iret (st := []) rfl rfl dX8_spoilt_10 ⟨_, rfl, h⟩
set_option maxRecDepth 20000 in
theorem vX8_spoilt_11 {g : zG} {d : Nat} {Q : Int32 → zM → Prop} {M : zM} {l1 : Int32} (h : zCi shC g d mX7_wantsRead [.ref 1, .ref 3] M (fun x1 M1 => (¬ x1 = 0 → zCv shC g d mX2_copy [.ref 55, .ref 3] M1 (fun  M2 => zW shC g (d + 1) mX8_spoilt (zi Q) 48 [(0, .ref 0), (1, .int l1), (2, .int x1), (3, .int 1)] [] M2)) ∧ (x1 = 0 → Q (-1) M1))) : zW shC g (d + 1) mX8_spoilt (zi Q) 11 [(0, .ref 0), (1, .int l1)] [] M := by
  refine z_aload_n dX8_spoilt_11 0 rfl ?_
  refine z_getr shC_0 rfl flX8_10 dX8_spoilt_12 ?_
  refine z_aload_n dX8_spoilt_15 0 rfl ?_
  refine z_getr shC_0 rfl flX8_10 dX8_spoilt_16 ?_
  refine z_getr shC_1 rfl flX8_88 dX8_spoilt_19 ?_
  refine z_callV (m2 := mX7_wantsRead) (st := []) [.ref 3] okX7_wantsRead (Or.inl lkX8_279) shC_1 rfl rfl rfl (Nat.le_of_ble_eq_true rfl) dX8_spoilt_22 (zgo_i h fun x1 M1 h => ?_)
  refine z_istore_n [(2, .int x1), (0, .ref 0), (1, .int l1)] dX8_spoilt_25 (by decide) rfl ?_
  refine z_iload_n dX8_spoilt_26 0 rfl ?_
  refine z_if_ne 32 dX8_spoilt_27 (by decide) (fun c1 => ?_) (fun c1 => ?_)
  · have h := h.1 c1
    refine z_aload_n dX8_spoilt_32 1 rfl ?_
    refine z_getr shC_0 rfl flX8_26 dX8_spoilt_33 ?_
    refine z_aload_n dX8_spoilt_36 1 rfl ?_
    refine z_getr shC_0 rfl flX8_10 dX8_spoilt_37 ?_
    refine z_getr shC_1 rfl flX8_88 dX8_spoilt_40 ?_
    refine z_callV (m2 := mX2_copy) (st := []) [.ref 3] okX2_copy (Or.inl lkX8_205) shC_55 rfl rfl rfl (Nat.le_of_ble_eq_true rfl) dX8_spoilt_43 (zgo_v h fun  M2 h => ?_)
    refine z_iconst (v := 1) dX8_spoilt_46 (by decide) ?_
    refine z_istore_n [(3, .int 1), (2, .int x1), (0, .ref 0), (1, .int l1)] dX8_spoilt_47 (by decide) rfl ?_
    exact zW.sub [2, 3, 1, 0] rfl h
  · have h := h.2 c1
    refine z_iconst (v := (-1)) dX8_spoilt_30 (by decide) ?_
    exact z_iret (st := []) rfl rfl dX8_spoilt_31 ⟨_, rfl, h⟩
set_option maxRecDepth 20000 in
theorem vX8_spoilt_48 {g : zG} {d : Nat} {Q : Int32 → zM → Prop} {M : zM} {l1 : Int32} {l2 : Int32} {l3 : Int32} (h : (99 < l3 → Q (-1) M) ∧ (¬ 99 < l3 → zCi shC g d mX7_pass [.ref 1, .ref 55, .int (zbI false)] M (fun x1 M1 => zCi shC g d mX7_wantsRead [.ref 1, .ref 55] M1 (fun x2 M2 => ((l2 &&& (x2 ^^^ (-1))) = 0 → zW shC g (d + 1) mX8_spoilt (zi Q) 48 [(0, .ref 0), (1, .int l1), (2, .int l2), (3, .int (l3 + 1))] [] M2) ∧ (¬ (l2 &&& (x2 ^^^ (-1))) = 0 → (¬ l1 = 0 → zCi shC g d mX8_leastOf [.int (l2 &&& (x2 ^^^ (-1)))] M2 (fun x3 M3 => Q x3 M3)) ∧ (l1 = 0 → Q l3 M2)))))) : zW shC g (d + 1) mX8_spoilt (zi Q) 48 [(0, .ref 0), (1, .int l1), (2, .int l2), (3, .int l3)] [] M := by
  refine z_iload_n dX8_spoilt_48 3 rfl ?_
  refine z_bipush (v := 99) dX8_spoilt_49 (by decide) ?_
  refine z_icmp_gt 109 dX8_spoilt_51 (by decide) (fun c1 => ?_) (fun c1 => ?_)
  · have h := h.1 c1
    refine z_iconst (v := (-1)) dX8_spoilt_109 (by decide) ?_
    exact z_iret (st := []) rfl rfl dX8_spoilt_110 ⟨_, rfl, h⟩
  · have h := h.2 c1
    refine z_aload_n dX8_spoilt_54 0 rfl ?_
    refine z_getr shC_0 rfl flX8_10 dX8_spoilt_55 ?_
    refine z_aload_n dX8_spoilt_58 0 rfl ?_
    refine z_getr shC_0 rfl flX8_26 dX8_spoilt_59 ?_
    refine z_iconst (v := 0) dX8_spoilt_62 (by decide) ?_
    refine z_callV (m2 := mX7_pass) (st := []) [.ref 55, .int (zbI false)] okX7_pass (Or.inl lkX8_201) shC_1 rfl rfl rfl (Nat.le_of_ble_eq_true rfl) dX8_spoilt_63 (zgo_i h fun x1 M1 h => ?_)
    refine z_popi dX8_spoilt_66 ?_
    refine z_iload_n dX8_spoilt_67 2 rfl ?_
    refine z_aload_n dX8_spoilt_68 0 rfl ?_
    refine z_getr shC_0 rfl flX8_10 dX8_spoilt_69 ?_
    refine z_aload_n dX8_spoilt_72 0 rfl ?_
    refine z_getr shC_0 rfl flX8_26 dX8_spoilt_73 ?_
    refine z_callV (m2 := mX7_wantsRead) (st := [.int l2]) [.ref 55] okX7_wantsRead (Or.inl lkX8_279) shC_1 rfl rfl rfl (Nat.le_of_ble_eq_true rfl) dX8_spoilt_76 (zgo_i h fun x2 M2 h => ?_)
    refine z_iconst (v := (-1)) dX8_spoilt_79 (by decide) ?_
    refine z_ixor dX8_spoilt_80 ?_
    refine z_iand dX8_spoilt_81 ?_
    refine z_istore [(4, .int (l2 &&& (x2 ^^^ (-1)))), (0, .ref 0), (1, .int l1), (2, .int l2), (3, .int l3)] dX8_spoilt_82 (by decide) rfl ?_
    refine z_iload dX8_spoilt_84 0 rfl ?_
    refine z_if_eq 103 dX8_spoilt_86 (by decide) (fun c2 => ?_) (fun c2 => ?_)
    · have h := h.1 c2
      refine z_iinc (x := l3) (v := (l3 + 1)) [(3, .int (l3 + 1)), (4, .int (l2 &&& (x2 ^^^ (-1)))), (0, .ref 0), (1, .int l1), (2, .int l2)] dX8_spoilt_103 4 rfl rfl (by decide) rfl ?_
      refine z_goto 48 dX8_spoilt_106 (by decide) ?_
      exact zW.sub [2, 3, 4, 0] rfl h
    · have h := h.2 c2
      refine z_iload_n dX8_spoilt_89 2 rfl ?_
      refine z_if_ne 97 dX8_spoilt_90 (by decide) (fun c3 => ?_) (fun c3 => ?_)
      · have h := h.1 c3
        refine z_iload dX8_spoilt_97 0 rfl ?_
        refine z_callS (m2 := mX8_leastOf) (st := []) [.int (l2 &&& (x2 ^^^ (-1)))] okX8_leastOf (Or.inl lkX8_288) rfl rfl (Nat.le_of_ble_eq_true rfl) dX8_spoilt_99 (zgo_i h fun x3 M3 h => ?_)
        exact z_iret (st := []) rfl rfl dX8_spoilt_102 ⟨_, rfl, h⟩
      · have h := h.2 c3
        refine z_iload_n dX8_spoilt_93 4 rfl ?_
        refine z_goto 102 dX8_spoilt_94 (by decide) ?_
        exact z_iret (st := []) rfl rfl dX8_spoilt_102 ⟨_, rfl, h⟩
theorem dX8_leastOf_0 : decode cX8_leastOf 0 = .ok (.iconst 0, 1) := by decide +kernel
theorem dX8_leastOf_1 : decode cX8_leastOf 1 = .ok (.istore_n 1, 1) := by decide +kernel
theorem dX8_leastOf_2 : decode cX8_leastOf 2 = .ok (.iload_n 1, 1) := by decide +kernel
theorem dX8_leastOf_3 : decode cX8_leastOf 3 = .ok (.bipush 32, 2) := by decide +kernel
theorem dX8_leastOf_5 : decode cX8_leastOf 5 = .ok (.if_icmp .ge 20, 3) := by decide +kernel
theorem dX8_leastOf_8 : decode cX8_leastOf 8 = .ok (.iload_n 0, 1) := by decide +kernel
theorem dX8_leastOf_9 : decode cX8_leastOf 9 = .ok (.iload_n 1, 1) := by decide +kernel
theorem dX8_leastOf_10 : decode cX8_leastOf 10 = .ok (.ishr, 1) := by decide +kernel
theorem dX8_leastOf_11 : decode cX8_leastOf 11 = .ok (.iconst 1, 1) := by decide +kernel
theorem dX8_leastOf_12 : decode cX8_leastOf 12 = .ok (.iand, 1) := by decide +kernel
theorem dX8_leastOf_13 : decode cX8_leastOf 13 = .ok (.iconst 1, 1) := by decide +kernel
theorem dX8_leastOf_14 : decode cX8_leastOf 14 = .ok (.if_icmp .ne 5, 3) := by decide +kernel
theorem dX8_leastOf_17 : decode cX8_leastOf 17 = .ok (.iload_n 1, 1) := by decide +kernel
theorem dX8_leastOf_18 : decode cX8_leastOf 18 = .ok (.ireturn, 1) := by decide +kernel
theorem dX8_leastOf_19 : decode cX8_leastOf 19 = .ok (.iinc 1 1, 3) := by decide +kernel
theorem dX8_leastOf_22 : decode cX8_leastOf 22 = .ok (.goto (-20), 3) := by decide +kernel
theorem dX8_leastOf_25 : decode cX8_leastOf 25 = .ok (.iconst (-1), 1) := by decide +kernel
theorem dX8_leastOf_26 : decode cX8_leastOf 26 = .ok (.ireturn, 1) := by decide +kernel
set_option maxRecDepth 20000 in
theorem vX8_leastOf {g : zG} {d : Nat} {Q : Int32 → zM → Prop} {M : zM} {l0 : Int32} (h : zW shC g d mX8_leastOf (zi Q) 2 [(0, .int l0), (1, .int 0)] [] M) : zCi shC g d mX8_leastOf [.int l0] M Q := by
  refine zW.enter (by decide +kernel) (Nat.le_of_ble_eq_true rfl) ?_
  change zW shC g d mX8_leastOf (zi Q) 0 [(0, .int l0)] [] M
  refine z_iconst (v := 0) dX8_leastOf_0 (by decide) ?_
  refine z_istore_n [(1, .int 0), (0, .int l0)] dX8_leastOf_1 (by decide) rfl ?_
  exact zW.sub [1, 0] rfl h
set_option maxRecDepth 20000 in
theorem vX8_leastOf_2 {g : zG} {d : Nat} {Q : Int32 → zM → Prop} {M : zM} {l0 : Int32} {l1 : Int32} (h : (32 ≤ l1 → Q (-1) M) ∧ (¬ 32 ≤ l1 → (¬ ((l0 >>> (l1 &&& 31)) &&& 1) = 1 → zW shC g d mX8_leastOf (zi Q) 2 [(0, .int l0), (1, .int (l1 + 1))] [] M) ∧ (((l0 >>> (l1 &&& 31)) &&& 1) = 1 → Q l1 M))) : zW shC g d mX8_leastOf (zi Q) 2 [(0, .int l0), (1, .int l1)] [] M := by
  refine z_iload_n dX8_leastOf_2 1 rfl ?_
  refine z_bipush (v := 32) dX8_leastOf_3 (by decide) ?_
  refine z_icmp_ge 25 dX8_leastOf_5 (by decide) (fun c1 => ?_) (fun c1 => ?_)
  · have h := h.1 c1
    refine z_iconst (v := (-1)) dX8_leastOf_25 (by decide) ?_
    exact z_iret (st := []) rfl rfl dX8_leastOf_26 ⟨_, rfl, h⟩
  · have h := h.2 c1
    refine z_iload_n dX8_leastOf_8 0 rfl ?_
    refine z_iload_n dX8_leastOf_9 1 rfl ?_
    refine z_ishr dX8_leastOf_10 ?_
    refine z_iconst (v := 1) dX8_leastOf_11 (by decide) ?_
    refine z_iand dX8_leastOf_12 ?_
    refine z_iconst (v := 1) dX8_leastOf_13 (by decide) ?_
    refine z_icmp_ne 19 dX8_leastOf_14 (by decide) (fun c2 => ?_) (fun c2 => ?_)
    · have h := h.1 c2
      refine z_iinc (x := l1) (v := (l1 + 1)) [(1, .int (l1 + 1)), (0, .int l0)] dX8_leastOf_19 1 rfl rfl (by decide) rfl ?_
      refine z_goto 2 dX8_leastOf_22 (by decide) ?_
      exact zW.sub [1, 0] rfl h
    · have h := h.2 c2
      refine z_iload_n dX8_leastOf_17 1 rfl ?_
      exact z_iret (st := []) rfl rfl dX8_leastOf_18 ⟨_, rfl, h⟩
theorem dX8_route_0 : decode cX8_route 0 = .ok (.aload_n 0, 1) := by decide +kernel
theorem dX8_route_1 : decode cX8_route 1 = .ok (.getfield 10, 3) := by decide +kernel
theorem dX8_route_4 : decode cX8_route 4 = .ok (.iload_n 1, 1) := by decide +kernel
theorem dX8_route_5 : decode cX8_route 5 = .ok (.invokevirtual 121, 3) := by decide +kernel
theorem dX8_route_8 : decode cX8_route 8 = .ok (.ifCond .eq 25, 3) := by decide +kernel
theorem dX8_route_11 : decode cX8_route 11 = .ok (.aload_n 0, 1) := by decide +kernel
theorem dX8_route_12 : decode cX8_route 12 = .ok (.getfield 10, 3) := by decide +kernel
theorem dX8_route_15 : decode cX8_route 15 = .ok (.lload_n 2, 1) := by decide +kernel
theorem dX8_route_16 : decode cX8_route 16 = .ok (.invokevirtual 291, 3) := by decide +kernel
theorem dX8_route_19 : decode cX8_route 19 = .ok (.ifCond .eq 14, 3) := by decide +kernel
theorem dX8_route_22 : decode cX8_route 22 = .ok (.aload_n 0, 1) := by decide +kernel
theorem dX8_route_23 : decode cX8_route 23 = .ok (.getfield 69, 3) := by decide +kernel
theorem dX8_route_26 : decode cX8_route 26 = .ok (.lload_n 2, 1) := by decide +kernel
theorem dX8_route_27 : decode cX8_route 27 = .ok (.invokevirtual 295, 3) := by decide +kernel
theorem dX8_route_30 : decode cX8_route 30 = .ok (.ifCond .ne 5, 3) := by decide +kernel
theorem dX8_route_33 : decode cX8_route 33 = .ok (.iconst (-1), 1) := by decide +kernel
theorem dX8_route_34 : decode cX8_route 34 = .ok (.ireturn, 1) := by decide +kernel
theorem dX8_route_35 : decode cX8_route 35 = .ok (.aload_n 0, 1) := by decide +kernel
theorem dX8_route_36 : decode cX8_route 36 = .ok (.getfield 10, 3) := by decide +kernel
theorem dX8_route_39 : decode cX8_route 39 = .ok (.getfield 88, 3) := by decide +kernel
theorem dX8_route_42 : decode cX8_route 42 = .ok (.getfield 124, 3) := by decide +kernel
theorem dX8_route_45 : decode cX8_route 45 = .ok (.iload_n 1, 1) := by decide +kernel
theorem dX8_route_46 : decode cX8_route 46 = .ok (.iaload, 1) := by decide +kernel
theorem dX8_route_47 : decode cX8_route 47 = .ok (.istore 5, 2) := by decide +kernel
theorem dX8_route_49 : decode cX8_route 49 = .ok (.iload 4, 2) := by decide +kernel
theorem dX8_route_51 : decode cX8_route 51 = .ok (.ifCond .ne 20, 3) := by decide +kernel
theorem dX8_route_54 : decode cX8_route 54 = .ok (.aload_n 0, 1) := by decide +kernel
theorem dX8_route_55 : decode cX8_route 55 = .ok (.getfield 69, 3) := by decide +kernel
theorem dX8_route_58 : decode cX8_route 58 = .ok (.iload 5, 2) := by decide +kernel
theorem dX8_route_60 : decode cX8_route 60 = .ok (.aload_n 0, 1) := by decide +kernel
theorem dX8_route_61 : decode cX8_route 61 = .ok (.getfield 69, 3) := by decide +kernel
theorem dX8_route_64 : decode cX8_route 64 = .ok (.invokevirtual 298, 3) := by decide +kernel
theorem dX8_route_67 : decode cX8_route 67 = .ok (.invokevirtual 301, 3) := by decide +kernel
theorem dX8_route_70 : decode cX8_route 70 = .ok (.ireturn, 1) := by decide +kernel
theorem dX8_route_71 : decode cX8_route 71 = .ok (.iload 4, 2) := by decide +kernel
theorem dX8_route_73 : decode cX8_route 73 = .ok (.bipush 10, 2) := by decide +kernel
theorem dX8_route_75 : decode cX8_route 75 = .ok (.isub, 1) := by decide +kernel
theorem dX8_route_76 : decode cX8_route 76 = .ok (.istore 6, 2) := by decide +kernel
theorem dX8_route_78 : decode cX8_route 78 = .ok (.iload 6, 2) := by decide +kernel
theorem dX8_route_80 : decode cX8_route 80 = .ok (.ifCond .lt 29, 3) := by decide +kernel
theorem dX8_route_83 : decode cX8_route 83 = .ok (.iload 6, 2) := by decide +kernel
theorem dX8_route_85 : decode cX8_route 85 = .ok (.aload_n 0, 1) := by decide +kernel
theorem dX8_route_86 : decode cX8_route 86 = .ok (.getfield 69, 3) := by decide +kernel
theorem dX8_route_89 : decode cX8_route 89 = .ok (.getfield 304, 3) := by decide +kernel
theorem dX8_route_92 : decode cX8_route 92 = .ok (.if_icmp .ge 17, 3) := by decide +kernel
theorem dX8_route_95 : decode cX8_route 95 = .ok (.aload_n 0, 1) := by decide +kernel
theorem dX8_route_96 : decode cX8_route 96 = .ok (.getfield 69, 3) := by decide +kernel
theorem dX8_route_99 : decode cX8_route 99 = .ok (.iload 5, 2) := by decide +kernel
theorem dX8_route_101 : decode cX8_route 101 = .ok (.iload 6, 2) := by decide +kernel
theorem dX8_route_103 : decode cX8_route 103 = .ok (.invokevirtual 306, 3) := by decide +kernel
theorem dX8_route_106 : decode cX8_route 106 = .ok (.goto 4, 3) := by decide +kernel
theorem dX8_route_109 : decode cX8_route 109 = .ok (.iconst (-1), 1) := by decide +kernel
theorem dX8_route_110 : decode cX8_route 110 = .ok (.ireturn, 1) := by decide +kernel
set_option maxRecDepth 20000 in
theorem vX8_route {g : zG} {d : Nat} {Q : Int32 → zM → Prop} {M : zM} {l1 : Int32} {l2 : Int64} {l4 : Int32} (h : zCz shC g d mX7_isSkater [.ref 1, .int l1] M (fun b1 M1 => (b1 = false → Q (-1) M1) ∧ (b1 = true → zCz shC g d mX7_areCells [.ref 1, .long l2] M1 (fun b2 M2 => (b2 = false → Q (-1) M2) ∧ (b2 = true → zCz shC g d mX4_take [.ref 116, .long l2] M2 (fun b3 M3 => (b3 = true → ∃ k1 : Nat, l1 = iv k1 ∧ k1 < 6 ∧ (¬ l4 = 0 → ((l4 - 10) < 0 → Q (-1) M3) ∧ (¬ (l4 - 10) < 0 → ((M3 116 1) ≤ (l4 - 10) → Q (-1) M3) ∧ (¬ (M3 116 1) ≤ (l4 - 10) → zCi shC g d mX4_stop [.ref 116, .int (M3 6 k1), .int (l4 - 10)] M3 (fun x1 M4 => Q x1 M4)))) ∧ (l4 = 0 → zCi shC g d mX4_all [.ref 116] M3 (fun x1 M4 => zCi shC g d mX4_lead [.ref 116, .int (M3 6 k1), .int x1] M4 (fun x2 M5 => Q x2 M5)))) ∧ (b3 = false → Q (-1) M3))))))) : zCi shC g (d + 1) mX8_route [.ref 0, .int l1, .long l2, .int l4] M Q := by
  refine zW.enter (by decide +kernel) (Nat.le_of_ble_eq_true rfl) ?_
  change zW shC g (d + 1) mX8_route (zi Q) 0 [(0, .ref 0), (1, .int l1), (2, .long l2), (4, .int l4)] [] M
  refine z_aload_n dX8_route_0 0 rfl ?_
  refine z_getr shC_0 rfl flX8_10 dX8_route_1 ?_
  refine z_iload_n dX8_route_4 1 rfl ?_
  refine z_callV (m2 := mX7_isSkater) (st := []) [.int l1] okX7_isSkater (Or.inl lkX8_121) shC_1 rfl rfl rfl (Nat.le_of_ble_eq_true rfl) dX8_route_5 (zgo_z h fun b1 M1 h => ?_)
  refine z_ifb_eq 33 dX8_route_8 (by decide) (fun c1 => ?_) (fun c1 => ?_)
  · have h := h.1 c1
    refine z_iconst (v := (-1)) dX8_route_33 (by decide) ?_
    exact z_iret (st := []) rfl rfl dX8_route_34 ⟨_, rfl, h⟩
  · have h := h.2 c1
    refine z_aload_n dX8_route_11 0 rfl ?_
    refine z_getr shC_0 rfl flX8_10 dX8_route_12 ?_
    refine z_lload_n dX8_route_15 2 rfl ?_
    refine z_callV (m2 := mX7_areCells) (st := []) [.long l2] okX7_areCells (Or.inl lkX8_291) shC_1 rfl rfl rfl (Nat.le_of_ble_eq_true rfl) dX8_route_16 (zgo_z h fun b2 M2 h => ?_)
    refine z_ifb_eq 33 dX8_route_19 (by decide) (fun c2 => ?_) (fun c2 => ?_)
    · have h := h.1 c2
      refine z_iconst (v := (-1)) dX8_route_33 (by decide) ?_
      exact z_iret (st := []) rfl rfl dX8_route_34 ⟨_, rfl, h⟩
    · have h := h.2 c2
      refine z_aload_n dX8_route_22 0 rfl ?_
      refine z_getr shC_0 rfl flX8_69 dX8_route_23 ?_
      refine z_lload_n dX8_route_26 2 rfl ?_
      refine z_callV (m2 := mX4_take) (st := []) [.long l2] okX4_take (Or.inl lkX8_295) shC_116 rfl rfl rfl (Nat.le_of_ble_eq_true rfl) dX8_route_27 (zgo_z h fun b3 M3 h => ?_)
      refine z_ifb_ne 35 dX8_route_30 (by decide) (fun c3 => ?_) (fun c3 => ?_)
      · have h := h.1 c3
        refine z_aload_n dX8_route_35 0 rfl ?_
        refine z_getr shC_0 rfl flX8_10 dX8_route_36 ?_
        refine z_getr shC_1 rfl flX8_88 dX8_route_39 ?_
        refine z_getr shC_3 rfl flX8_124 dX8_route_42 ?_
        refine z_iload_n dX8_route_45 1 rfl ?_
        obtain ⟨k1, ek1, uk1, h⟩ := h
        refine z_iald2 (k0 := k1) shC_6 (by decide) ek1 uk1 dX8_route_46 ?_
        refine z_istore [(5, .int (M3 6 k1)), (0, .ref 0), (1, .int l1), (2, .long l2), (4, .int l4)] dX8_route_47 (by decide) rfl ?_
        refine z_iload dX8_route_49 4 rfl ?_
        refine z_if_ne 71 dX8_route_51 (by decide) (fun c4 => ?_) (fun c4 => ?_)
        · have h := h.1 c4
          refine z_iload dX8_route_71 4 rfl ?_
          refine z_bipush (v := 10) dX8_route_73 (by decide) ?_
          refine z_isub dX8_route_75 ?_
          refine z_istore [(6, .int (l4 - 10)), (5, .int (M3 6 k1)), (0, .ref 0), (1, .int l1), (2, .long l2), (4, .int l4)] dX8_route_76 (by decide) rfl ?_
          refine z_iload dX8_route_78 0 rfl ?_
          refine z_if_lt 109 dX8_route_80 (by decide) (fun c5 => ?_) (fun c5 => ?_)
          · have h := h.1 c5
            refine z_iconst (v := (-1)) dX8_route_109 (by decide) ?_
            exact z_iret (st := []) rfl rfl dX8_route_110 ⟨_, rfl, h⟩
          · have h := h.2 c5
            refine z_iload dX8_route_83 0 rfl ?_
            refine z_aload_n dX8_route_85 2 rfl ?_
            refine z_getr shC_0 rfl flX8_69 dX8_route_86 ?_
            refine z_geti shC_116 rfl flX8_304 dX8_route_89 ?_
            refine z_icmp_ge 109 dX8_route_92 (by decide) (fun c6 => ?_) (fun c6 => ?_)
            · have h := h.1 c6
              refine z_iconst (v := (-1)) dX8_route_109 (by decide) ?_
              exact z_iret (st := []) rfl rfl dX8_route_110 ⟨_, rfl, h⟩
            · have h := h.2 c6
              refine z_aload_n dX8_route_95 2 rfl ?_
              refine z_getr shC_0 rfl flX8_69 dX8_route_96 ?_
              refine z_iload dX8_route_99 1 rfl ?_
              refine z_iload dX8_route_101 0 rfl ?_
              refine z_callV (m2 := mX4_stop) (st := []) [.int (M3 6 k1), .int (l4 - 10)] okX4_stop (Or.inl lkX8_306) shC_116 rfl rfl rfl (Nat.le_of_ble_eq_true rfl) dX8_route_103 (zgo_i h fun x1 M4 h => ?_)
              refine z_goto 110 dX8_route_106 (by decide) ?_
              exact z_iret (st := []) rfl rfl dX8_route_110 ⟨_, rfl, h⟩
        · have h := h.2 c4
          refine z_aload_n dX8_route_54 1 rfl ?_
          refine z_getr shC_0 rfl flX8_69 dX8_route_55 ?_
          refine z_iload dX8_route_58 0 rfl ?_
          refine z_aload_n dX8_route_60 1 rfl ?_
          refine z_getr shC_0 rfl flX8_69 dX8_route_61 ?_
          refine z_callV (m2 := mX4_all) (st := [.int (M3 6 k1), .ref 116]) [] okX4_all (Or.inl lkX8_298) shC_116 rfl rfl rfl (Nat.le_of_ble_eq_true rfl) dX8_route_64 (zgo_i h fun x1 M4 h => ?_)
          refine z_callV (m2 := mX4_lead) (st := []) [.int (M3 6 k1), .int x1] okX4_lead (Or.inl lkX8_301) shC_116 rfl rfl rfl (Nat.le_of_ble_eq_true rfl) dX8_route_67 (zgo_i h fun x2 M5 h => ?_)
          exact z_iret (st := []) rfl rfl dX8_route_70 ⟨_, rfl, h⟩
      · have h := h.2 c3
        refine z_iconst (v := (-1)) dX8_route_33 (by decide) ?_
        exact z_iret (st := []) rfl rfl dX8_route_34 ⟨_, rfl, h⟩
theorem dX8_soonest_0 : decode cX8_soonest 0 = .ok (.aload_n 0, 1) := by decide +kernel
theorem dX8_soonest_1 : decode cX8_soonest 1 = .ok (.getfield 10, 3) := by decide +kernel
theorem dX8_soonest_4 : decode cX8_soonest 4 = .ok (.getfield 101, 3) := by decide +kernel
theorem dX8_soonest_7 : decode cX8_soonest 7 = .ok (.ifCond .eq 25, 3) := by decide +kernel
theorem dX8_soonest_10 : decode cX8_soonest 10 = .ok (.aload_n 0, 1) := by decide +kernel
theorem dX8_soonest_11 : decode cX8_soonest 11 = .ok (.getfield 10, 3) := by decide +kernel
theorem dX8_soonest_14 : decode cX8_soonest 14 = .ok (.lload_n 1, 1) := by decide +kernel
theorem dX8_soonest_15 : decode cX8_soonest 15 = .ok (.invokevirtual 291, 3) := by decide +kernel
theorem dX8_soonest_18 : decode cX8_soonest 18 = .ok (.ifCond .eq 14, 3) := by decide +kernel
theorem dX8_soonest_21 : decode cX8_soonest 21 = .ok (.aload_n 0, 1) := by decide +kernel
theorem dX8_soonest_22 : decode cX8_soonest 22 = .ok (.getfield 69, 3) := by decide +kernel
theorem dX8_soonest_25 : decode cX8_soonest 25 = .ok (.lload_n 1, 1) := by decide +kernel
theorem dX8_soonest_26 : decode cX8_soonest 26 = .ok (.invokevirtual 295, 3) := by decide +kernel
theorem dX8_soonest_29 : decode cX8_soonest 29 = .ok (.ifCond .ne 5, 3) := by decide +kernel
theorem dX8_soonest_32 : decode cX8_soonest 32 = .ok (.iconst (-1), 1) := by decide +kernel
theorem dX8_soonest_33 : decode cX8_soonest 33 = .ok (.ireturn, 1) := by decide +kernel
theorem dX8_soonest_34 : decode cX8_soonest 34 = .ok (.iload_n 3, 1) := by decide +kernel
theorem dX8_soonest_35 : decode cX8_soonest 35 = .ok (.bipush 10, 2) := by decide +kernel
theorem dX8_soonest_37 : decode cX8_soonest 37 = .ok (.isub, 1) := by decide +kernel
theorem dX8_soonest_38 : decode cX8_soonest 38 = .ok (.istore 4, 2) := by decide +kernel
theorem dX8_soonest_40 : decode cX8_soonest 40 = .ok (.iload_n 3, 1) := by decide +kernel
theorem dX8_soonest_41 : decode cX8_soonest 41 = .ok (.ifCond .eq 22, 3) := by decide +kernel
theorem dX8_soonest_44 : decode cX8_soonest 44 = .ok (.iload 4, 2) := by decide +kernel
theorem dX8_soonest_46 : decode cX8_soonest 46 = .ok (.ifCond .lt 15, 3) := by decide +kernel
theorem dX8_soonest_49 : decode cX8_soonest 49 = .ok (.iload 4, 2) := by decide +kernel
theorem dX8_soonest_51 : decode cX8_soonest 51 = .ok (.aload_n 0, 1) := by decide +kernel
theorem dX8_soonest_52 : decode cX8_soonest 52 = .ok (.getfield 69, 3) := by decide +kernel
theorem dX8_soonest_55 : decode cX8_soonest 55 = .ok (.getfield 304, 3) := by decide +kernel
theorem dX8_soonest_58 : decode cX8_soonest 58 = .ok (.if_icmp .lt 5, 3) := by decide +kernel
theorem dX8_soonest_61 : decode cX8_soonest 61 = .ok (.iconst (-1), 1) := by decide +kernel
theorem dX8_soonest_62 : decode cX8_soonest 62 = .ok (.ireturn, 1) := by decide +kernel
theorem dX8_soonest_63 : decode cX8_soonest 63 = .ok (.aload_n 0, 1) := by decide +kernel
theorem dX8_soonest_64 : decode cX8_soonest 64 = .ok (.getfield 69, 3) := by decide +kernel
theorem dX8_soonest_67 : decode cX8_soonest 67 = .ok (.aload_n 0, 1) := by decide +kernel
theorem dX8_soonest_68 : decode cX8_soonest 68 = .ok (.getfield 10, 3) := by decide +kernel
theorem dX8_soonest_71 : decode cX8_soonest 71 = .ok (.getfield 88, 3) := by decide +kernel
theorem dX8_soonest_74 : decode cX8_soonest 74 = .ok (.getfield 124, 3) := by decide +kernel
theorem dX8_soonest_77 : decode cX8_soonest 77 = .ok (.aload_n 0, 1) := by decide +kernel
theorem dX8_soonest_78 : decode cX8_soonest 78 = .ok (.getfield 10, 3) := by decide +kernel
theorem dX8_soonest_81 : decode cX8_soonest 81 = .ok (.getfield 101, 3) := by decide +kernel
theorem dX8_soonest_84 : decode cX8_soonest 84 = .ok (.invokevirtual 309, 3) := by decide +kernel
theorem dX8_soonest_87 : decode cX8_soonest 87 = .ok (.iload_n 3, 1) := by decide +kernel
theorem dX8_soonest_88 : decode cX8_soonest 88 = .ok (.ifCond .ne 13, 3) := by decide +kernel
theorem dX8_soonest_91 : decode cX8_soonest 91 = .ok (.aload_n 0, 1) := by decide +kernel
theorem dX8_soonest_92 : decode cX8_soonest 92 = .ok (.getfield 69, 3) := by decide +kernel
theorem dX8_soonest_95 : decode cX8_soonest 95 = .ok (.invokevirtual 312, 3) := by decide +kernel
theorem dX8_soonest_98 : decode cX8_soonest 98 = .ok (.goto 12, 3) := by decide +kernel
theorem dX8_soonest_101 : decode cX8_soonest 101 = .ok (.aload_n 0, 1) := by decide +kernel
theorem dX8_soonest_102 : decode cX8_soonest 102 = .ok (.getfield 69, 3) := by decide +kernel
theorem dX8_soonest_105 : decode cX8_soonest 105 = .ok (.iload 4, 2) := by decide +kernel
theorem dX8_soonest_107 : decode cX8_soonest 107 = .ok (.invokevirtual 315, 3) := by decide +kernel
theorem dX8_soonest_110 : decode cX8_soonest 110 = .ok (.ireturn, 1) := by decide +kernel
set_option maxRecDepth 20000 in
theorem vX8_soonest {g : zG} {d : Nat} {Q : Int32 → zM → Prop} {M : zM} {l1 : Int64} {l3 : Int32} (h : ((M 1 4) = 0 → Q (-1) M) ∧ (¬ (M 1 4) = 0 → zCz shC g d mX7_areCells [.ref 1, .long l1] M (fun b1 M1 => (b1 = false → Q (-1) M1) ∧ (b1 = true → zCz shC g d mX4_take [.ref 116, .long l1] M1 (fun b2 M2 => (b2 = true → (l3 = 0 → zW shC g (d + 1) mX8_soonest (zi Q) 63 [(0, .ref 0), (3, .int l3), (4, .int (l3 - 10))] [] M2) ∧ (¬ l3 = 0 → ((l3 - 10) < 0 → Q (-1) M2) ∧ (¬ (l3 - 10) < 0 → ((l3 - 10) < (M2 116 1) → zW shC g (d + 1) mX8_soonest (zi Q) 63 [(0, .ref 0), (3, .int l3), (4, .int (l3 - 10))] [] M2) ∧ (¬ (l3 - 10) < (M2 116 1) → Q (-1) M2)))) ∧ (b2 = false → Q (-1) M2)))))) : zCi shC g (d + 1) mX8_soonest [.ref 0, .long l1, .int l3] M Q := by
  refine zW.enter (by decide +kernel) (Nat.le_of_ble_eq_true rfl) ?_
  change zW shC g (d + 1) mX8_soonest (zi Q) 0 [(0, .ref 0), (1, .long l1), (3, .int l3)] [] M
  refine z_aload_n dX8_soonest_0 0 rfl ?_
  refine z_getr shC_0 rfl flX8_10 dX8_soonest_1 ?_
  refine z_geti shC_1 rfl flX8_101 dX8_soonest_4 ?_
  refine z_if_eq 32 dX8_soonest_7 (by decide) (fun c1 => ?_) (fun c1 => ?_)
  · have h := h.1 c1
    refine z_iconst (v := (-1)) dX8_soonest_32 (by decide) ?_
    exact z_iret (st := []) rfl rfl dX8_soonest_33 ⟨_, rfl, h⟩
  · have h := h.2 c1
    refine z_aload_n dX8_soonest_10 0 rfl ?_
    refine z_getr shC_0 rfl flX8_10 dX8_soonest_11 ?_
    refine z_lload_n dX8_soonest_14 1 rfl ?_
    refine z_callV (m2 := mX7_areCells) (st := []) [.long l1] okX7_areCells (Or.inl lkX8_291) shC_1 rfl rfl rfl (Nat.le_of_ble_eq_true rfl) dX8_soonest_15 (zgo_z h fun b1 M1 h => ?_)
    refine z_ifb_eq 32 dX8_soonest_18 (by decide) (fun c2 => ?_) (fun c2 => ?_)
    · have h := h.1 c2
      refine z_iconst (v := (-1)) dX8_soonest_32 (by decide) ?_
      exact z_iret (st := []) rfl rfl dX8_soonest_33 ⟨_, rfl, h⟩
    · have h := h.2 c2
      refine z_aload_n dX8_soonest_21 0 rfl ?_
      refine z_getr shC_0 rfl flX8_69 dX8_soonest_22 ?_
      refine z_lload_n dX8_soonest_25 1 rfl ?_
      refine z_callV (m2 := mX4_take) (st := []) [.long l1] okX4_take (Or.inl lkX8_295) shC_116 rfl rfl rfl (Nat.le_of_ble_eq_true rfl) dX8_soonest_26 (zgo_z h fun b2 M2 h => ?_)
      refine z_ifb_ne 34 dX8_soonest_29 (by decide) (fun c3 => ?_) (fun c3 => ?_)
      · have h := h.1 c3
        refine z_iload_n dX8_soonest_34 2 rfl ?_
        refine z_bipush (v := 10) dX8_soonest_35 (by decide) ?_
        refine z_isub dX8_soonest_37 ?_
        refine z_istore [(4, .int (l3 - 10)), (0, .ref 0), (1, .long l1), (3, .int l3)] dX8_soonest_38 (by decide) rfl ?_
        refine z_iload_n dX8_soonest_40 3 rfl ?_
        refine z_if_eq 63 dX8_soonest_41 (by decide) (fun c4 => ?_) (fun c4 => ?_)
        · have h := h.1 c4
          exact zW.sub [1, 3, 0] rfl h
        · have h := h.2 c4
          refine z_iload dX8_soonest_44 0 rfl ?_
          refine z_if_lt 61 dX8_soonest_46 (by decide) (fun c5 => ?_) (fun c5 => ?_)
          · have h := h.1 c5
            refine z_iconst (v := (-1)) dX8_soonest_61 (by decide) ?_
            exact z_iret (st := []) rfl rfl dX8_soonest_62 ⟨_, rfl, h⟩
          · have h := h.2 c5
            refine z_iload dX8_soonest_49 0 rfl ?_
            refine z_aload_n dX8_soonest_51 1 rfl ?_
            refine z_getr shC_0 rfl flX8_69 dX8_soonest_52 ?_
            refine z_geti shC_116 rfl flX8_304 dX8_soonest_55 ?_
            refine z_icmp_lt 63 dX8_soonest_58 (by decide) (fun c6 => ?_) (fun c6 => ?_)
            · have h := h.1 c6
              exact zW.sub [1, 3, 0] rfl h
            · have h := h.2 c6
              refine z_iconst (v := (-1)) dX8_soonest_61 (by decide) ?_
              exact z_iret (st := []) rfl rfl dX8_soonest_62 ⟨_, rfl, h⟩
      · have h := h.2 c3
        refine z_iconst (v := (-1)) dX8_soonest_32 (by decide) ?_
        exact z_iret (st := []) rfl rfl dX8_soonest_33 ⟨_, rfl, h⟩
set_option maxRecDepth 20000 in
theorem vX8_soonest_63 {g : zG} {d : Nat} {Q : Int32 → zM → Prop} {M : zM} {l3 : Int32} {l4 : Int32} (h : zCv shC g d mX4_begin [.ref 116, .ref 6, .int (M 1 4)] M (fun  M1 => (¬ l3 = 0 → zCi shC g d mX4_taker [.ref 116, .int l4] M1 (fun x2 M2 => Q x2 M2)) ∧ (l3 = 0 → zCi shC g d mX4_longest [.ref 116] M1 (fun x2 M2 => Q x2 M2)))) : zW shC g (d + 1) mX8_soonest (zi Q) 63 [(0, .ref 0), (3, .int l3), (4, .int l4)] [] M := by
  refine z_aload_n dX8_soonest_63 0 rfl ?_
  refine z_getr shC_0 rfl flX8_69 dX8_soonest_64 ?_
  refine z_aload_n dX8_soonest_67 0 rfl ?_
  refine z_getr shC_0 rfl flX8_10 dX8_soonest_68 ?_
  refine z_getr shC_1 rfl flX8_88 dX8_soonest_71 ?_
  refine z_getr shC_3 rfl flX8_124 dX8_soonest_74 ?_
  refine z_aload_n dX8_soonest_77 0 rfl ?_
  refine z_getr shC_0 rfl flX8_10 dX8_soonest_78 ?_
  refine z_geti shC_1 rfl flX8_101 dX8_soonest_81 ?_
  refine z_callV (m2 := mX4_begin) (st := []) [.ref 6, .int (M 1 4)] okX4_begin (Or.inl lkX8_309) shC_116 rfl rfl rfl (Nat.le_of_ble_eq_true rfl) dX8_soonest_84 (zgo_v h fun  M1 h => ?_)
  refine z_iload_n dX8_soonest_87 1 rfl ?_
  refine z_if_ne 101 dX8_soonest_88 (by decide) (fun c1 => ?_) (fun c1 => ?_)
  · have h := h.1 c1
    refine z_aload_n dX8_soonest_101 0 rfl ?_
    refine z_getr shC_0 rfl flX8_69 dX8_soonest_102 ?_
    refine z_iload dX8_soonest_105 2 rfl ?_
    refine z_callV (m2 := mX4_taker) (st := []) [.int l4] okX4_taker (Or.inl lkX8_315) shC_116 rfl rfl rfl (Nat.le_of_ble_eq_true rfl) dX8_soonest_107 (zgo_i h fun x2 M2 h => ?_)
    exact z_iret (st := []) rfl rfl dX8_soonest_110 ⟨_, rfl, h⟩
  · have h := h.2 c1
    refine z_aload_n dX8_soonest_91 0 rfl ?_
    refine z_getr shC_0 rfl flX8_69 dX8_soonest_92 ?_
    refine z_callV (m2 := mX4_longest) (st := []) [] okX4_longest (Or.inl lkX8_312) shC_116 rfl rfl rfl (Nat.le_of_ble_eq_true rfl) dX8_soonest_95 (zgo_i h fun x2 M2 h => ?_)
    refine z_goto 110 dX8_soonest_98 (by decide) ?_
    exact z_iret (st := []) rfl rfl dX8_soonest_110 ⟨_, rfl, h⟩
theorem dX8_beneath_0 : decode cX8_beneath 0 = .ok (.aload_n 0, 1) := by decide +kernel
theorem dX8_beneath_1 : decode cX8_beneath 1 = .ok (.getfield 10, 3) := by decide +kernel
theorem dX8_beneath_4 : decode cX8_beneath 4 = .ok (.getfield 161, 3) := by decide +kernel
theorem dX8_beneath_7 : decode cX8_beneath 7 = .ok (.iload_n 1, 1) := by decide +kernel
theorem dX8_beneath_8 : decode cX8_beneath 8 = .ok (.invokevirtual 242, 3) := by decide +kernel
theorem dX8_beneath_11 : decode cX8_beneath 11 = .ok (.ifCond .eq 14, 3) := by decide +kernel
theorem dX8_beneath_14 : decode cX8_beneath 14 = .ok (.aload_n 0, 1) := by decide +kernel
theorem dX8_beneath_15 : decode cX8_beneath 15 = .ok (.getfield 10, 3) := by decide +kernel
theorem dX8_beneath_18 : decode cX8_beneath 18 = .ok (.iload_n 2, 1) := by decide +kernel
theorem dX8_beneath_19 : decode cX8_beneath 19 = .ok (.invokevirtual 264, 3) := by decide +kernel
theorem dX8_beneath_22 : decode cX8_beneath 22 = .ok (.ifCond .ne 5, 3) := by decide +kernel
theorem dX8_beneath_25 : decode cX8_beneath 25 = .ok (.iconst (-1), 1) := by decide +kernel
theorem dX8_beneath_26 : decode cX8_beneath 26 = .ok (.ireturn, 1) := by decide +kernel
theorem dX8_beneath_27 : decode cX8_beneath 27 = .ok (.aload_n 0, 1) := by decide +kernel
theorem dX8_beneath_28 : decode cX8_beneath 28 = .ok (.getfield 10, 3) := by decide +kernel
theorem dX8_beneath_31 : decode cX8_beneath 31 = .ok (.getfield 161, 3) := by decide +kernel
theorem dX8_beneath_34 : decode cX8_beneath 34 = .ok (.getfield 245, 3) := by decide +kernel
theorem dX8_beneath_37 : decode cX8_beneath 37 = .ok (.iload_n 1, 1) := by decide +kernel
theorem dX8_beneath_38 : decode cX8_beneath 38 = .ok (.iaload, 1) := by decide +kernel
theorem dX8_beneath_39 : decode cX8_beneath 39 = .ok (.istore_n 3, 1) := by decide +kernel
theorem dX8_beneath_40 : decode cX8_beneath 40 = .ok (.aload_n 0, 1) := by decide +kernel
theorem dX8_beneath_41 : decode cX8_beneath 41 = .ok (.getfield 10, 3) := by decide +kernel
theorem dX8_beneath_44 : decode cX8_beneath 44 = .ok (.aload_n 0, 1) := by decide +kernel
theorem dX8_beneath_45 : decode cX8_beneath 45 = .ok (.getfield 10, 3) := by decide +kernel
theorem dX8_beneath_48 : decode cX8_beneath 48 = .ok (.getfield 88, 3) := by decide +kernel
theorem dX8_beneath_51 : decode cX8_beneath 51 = .ok (.iload_n 2, 1) := by decide +kernel
theorem dX8_beneath_52 : decode cX8_beneath 52 = .ok (.invokevirtual 318, 3) := by decide +kernel
theorem dX8_beneath_55 : decode cX8_beneath 55 = .ok (.istore 4, 2) := by decide +kernel
theorem dX8_beneath_57 : decode cX8_beneath 57 = .ok (.iconst 0, 1) := by decide +kernel
theorem dX8_beneath_58 : decode cX8_beneath 58 = .ok (.istore 5, 2) := by decide +kernel
theorem dX8_beneath_60 : decode cX8_beneath 60 = .ok (.iconst 0, 1) := by decide +kernel
theorem dX8_beneath_61 : decode cX8_beneath 61 = .ok (.istore 6, 2) := by decide +kernel
theorem dX8_beneath_63 : decode cX8_beneath 63 = .ok (.iload 6, 2) := by decide +kernel
theorem dX8_beneath_65 : decode cX8_beneath 65 = .ok (.aload_n 0, 1) := by decide +kernel
theorem dX8_beneath_66 : decode cX8_beneath 66 = .ok (.getfield 10, 3) := by decide +kernel
theorem dX8_beneath_69 : decode cX8_beneath 69 = .ok (.getfield 161, 3) := by decide +kernel
theorem dX8_beneath_72 : decode cX8_beneath 72 = .ok (.getfield 167, 3) := by decide +kernel
theorem dX8_beneath_75 : decode cX8_beneath 75 = .ok (.if_icmp .ge 38, 3) := by decide +kernel
theorem dX8_beneath_78 : decode cX8_beneath 78 = .ok (.aload_n 0, 1) := by decide +kernel
theorem dX8_beneath_79 : decode cX8_beneath 79 = .ok (.getfield 10, 3) := by decide +kernel
theorem dX8_beneath_82 : decode cX8_beneath 82 = .ok (.getfield 161, 3) := by decide +kernel
theorem dX8_beneath_85 : decode cX8_beneath 85 = .ok (.getfield 245, 3) := by decide +kernel
theorem dX8_beneath_88 : decode cX8_beneath 88 = .ok (.iload 6, 2) := by decide +kernel
theorem dX8_beneath_90 : decode cX8_beneath 90 = .ok (.iaload, 1) := by decide +kernel
theorem dX8_beneath_91 : decode cX8_beneath 91 = .ok (.iload_n 3, 1) := by decide +kernel
theorem dX8_beneath_92 : decode cX8_beneath 92 = .ok (.ior, 1) := by decide +kernel
theorem dX8_beneath_93 : decode cX8_beneath 93 = .ok (.iload 4, 2) := by decide +kernel
theorem dX8_beneath_95 : decode cX8_beneath 95 = .ok (.if_icmp .ne 12, 3) := by decide +kernel
theorem dX8_beneath_98 : decode cX8_beneath 98 = .ok (.iload 5, 2) := by decide +kernel
theorem dX8_beneath_100 : decode cX8_beneath 100 = .ok (.iconst 1, 1) := by decide +kernel
theorem dX8_beneath_101 : decode cX8_beneath 101 = .ok (.iload 6, 2) := by decide +kernel
theorem dX8_beneath_103 : decode cX8_beneath 103 = .ok (.ishl, 1) := by decide +kernel
theorem dX8_beneath_104 : decode cX8_beneath 104 = .ok (.ior, 1) := by decide +kernel
theorem dX8_beneath_105 : decode cX8_beneath 105 = .ok (.istore 5, 2) := by decide +kernel
theorem dX8_beneath_107 : decode cX8_beneath 107 = .ok (.iinc 6 1, 3) := by decide +kernel
theorem dX8_beneath_110 : decode cX8_beneath 110 = .ok (.goto (-47), 3) := by decide +kernel
theorem dX8_beneath_113 : decode cX8_beneath 113 = .ok (.iload 5, 2) := by decide +kernel
theorem dX8_beneath_115 : decode cX8_beneath 115 = .ok (.ireturn, 1) := by decide +kernel
set_option maxRecDepth 20000 in
theorem vX8_beneath {g : zG} {d : Nat} {Q : Int32 → zM → Prop} {M : zM} {l1 : Int32} {l2 : Int32} (h : zCz shC g d mX3_isLetter [.ref 22, .int l1] M (fun b1 M1 => (b1 = false → Q (-1) M1) ∧ (b1 = true → zCz shC g d mX7_isBox [.ref 1, .int l2] M1 (fun b2 M2 => (b2 = true → ∃ k1 : Nat, l1 = iv k1 ∧ k1 < 8 ∧ zCi shC g d mX7_seenBox [.ref 1, .ref 3, .int l2] M2 (fun x1 M3 => zW shC g (d + 1) mX8_beneath (zi Q) 63 [(0, .ref 0), (3, .int (M2 23 k1)), (4, .int x1), (5, .int 0), (6, .int 0)] [] M3)) ∧ (b2 = false → Q (-1) M2))))) : zCi shC g (d + 1) mX8_beneath [.ref 0, .int l1, .int l2] M Q := by
  refine zW.enter (by decide +kernel) (Nat.le_of_ble_eq_true rfl) ?_
  change zW shC g (d + 1) mX8_beneath (zi Q) 0 [(0, .ref 0), (1, .int l1), (2, .int l2)] [] M
  refine z_aload_n dX8_beneath_0 0 rfl ?_
  refine z_getr shC_0 rfl flX8_10 dX8_beneath_1 ?_
  refine z_getr shC_1 rfl flX8_161 dX8_beneath_4 ?_
  refine z_iload_n dX8_beneath_7 1 rfl ?_
  refine z_callV (m2 := mX3_isLetter) (st := []) [.int l1] okX3_isLetter (Or.inl lkX8_242) shC_22 rfl rfl rfl (Nat.le_of_ble_eq_true rfl) dX8_beneath_8 (zgo_z h fun b1 M1 h => ?_)
  refine z_ifb_eq 25 dX8_beneath_11 (by decide) (fun c1 => ?_) (fun c1 => ?_)
  · have h := h.1 c1
    refine z_iconst (v := (-1)) dX8_beneath_25 (by decide) ?_
    exact z_iret (st := []) rfl rfl dX8_beneath_26 ⟨_, rfl, h⟩
  · have h := h.2 c1
    refine z_aload_n dX8_beneath_14 0 rfl ?_
    refine z_getr shC_0 rfl flX8_10 dX8_beneath_15 ?_
    refine z_iload_n dX8_beneath_18 2 rfl ?_
    refine z_callV (m2 := mX7_isBox) (st := []) [.int l2] okX7_isBox (Or.inl lkX8_264) shC_1 rfl rfl rfl (Nat.le_of_ble_eq_true rfl) dX8_beneath_19 (zgo_z h fun b2 M2 h => ?_)
    refine z_ifb_ne 27 dX8_beneath_22 (by decide) (fun c2 => ?_) (fun c2 => ?_)
    · have h := h.1 c2
      refine z_aload_n dX8_beneath_27 0 rfl ?_
      refine z_getr shC_0 rfl flX8_10 dX8_beneath_28 ?_
      refine z_getr shC_1 rfl flX8_161 dX8_beneath_31 ?_
      refine z_getr shC_22 rfl flX8_245 dX8_beneath_34 ?_
      refine z_iload_n dX8_beneath_37 1 rfl ?_
      obtain ⟨k1, ek1, uk1, h⟩ := h
      refine z_iald2 (k0 := k1) shC_23 (by decide) ek1 uk1 dX8_beneath_38 ?_
      refine z_istore_n [(3, .int (M2 23 k1)), (0, .ref 0), (1, .int l1), (2, .int l2)] dX8_beneath_39 (by decide) rfl ?_
      refine z_aload_n dX8_beneath_40 1 rfl ?_
      refine z_getr shC_0 rfl flX8_10 dX8_beneath_41 ?_
      refine z_aload_n dX8_beneath_44 1 rfl ?_
      refine z_getr shC_0 rfl flX8_10 dX8_beneath_45 ?_
      refine z_getr shC_1 rfl flX8_88 dX8_beneath_48 ?_
      refine z_iload_n dX8_beneath_51 3 rfl ?_
      refine z_callV (m2 := mX7_seenBox) (st := []) [.ref 3, .int l2] okX7_seenBox (Or.inl lkX8_318) shC_1 rfl rfl rfl (Nat.le_of_ble_eq_true rfl) dX8_beneath_52 (zgo_i h fun x1 M3 h => ?_)
      refine z_istore [(4, .int x1), (3, .int (M2 23 k1)), (0, .ref 0), (1, .int l1), (2, .int l2)] dX8_beneath_55 (by decide) rfl ?_
      refine z_iconst (v := 0) dX8_beneath_57 (by decide) ?_
      refine z_istore [(5, .int 0), (4, .int x1), (3, .int (M2 23 k1)), (0, .ref 0), (1, .int l1), (2, .int l2)] dX8_beneath_58 (by decide) rfl ?_
      refine z_iconst (v := 0) dX8_beneath_60 (by decide) ?_
      refine z_istore [(6, .int 0), (5, .int 0), (4, .int x1), (3, .int (M2 23 k1)), (0, .ref 0), (1, .int l1), (2, .int l2)] dX8_beneath_61 (by decide) rfl ?_
      exact zW.sub [4, 3, 2, 1, 0] rfl h
    · have h := h.2 c2
      refine z_iconst (v := (-1)) dX8_beneath_25 (by decide) ?_
      exact z_iret (st := []) rfl rfl dX8_beneath_26 ⟨_, rfl, h⟩
set_option maxRecDepth 20000 in
theorem vX8_beneath_63 {g : zG} {d : Nat} {Q : Int32 → zM → Prop} {M : zM} {l3 : Int32} {l4 : Int32} {l5 : Int32} {l6 : Int32} (h : ((M 22 1) ≤ l6 → Q l5 M) ∧ (¬ (M 22 1) ≤ l6 → ∃ k1 : Nat, l6 = iv k1 ∧ k1 < 8 ∧ (¬ ((M 23 k1) ||| l3) = l4 → zW shC g (d + 1) mX8_beneath (zi Q) 63 [(0, .ref 0), (3, .int l3), (4, .int l4), (5, .int l5), (6, .int (l6 + 1))] [] M) ∧ (((M 23 k1) ||| l3) = l4 → zW shC g (d + 1) mX8_beneath (zi Q) 63 [(0, .ref 0), (3, .int l3), (4, .int l4), (5, .int (l5 ||| (1 <<< (l6 &&& 31)))), (6, .int (l6 + 1))] [] M))) : zW shC g (d + 1) mX8_beneath (zi Q) 63 [(0, .ref 0), (3, .int l3), (4, .int l4), (5, .int l5), (6, .int l6)] [] M := by
  refine z_iload dX8_beneath_63 4 rfl ?_
  refine z_aload_n dX8_beneath_65 0 rfl ?_
  refine z_getr shC_0 rfl flX8_10 dX8_beneath_66 ?_
  refine z_getr shC_1 rfl flX8_161 dX8_beneath_69 ?_
  refine z_geti shC_22 rfl flX8_167 dX8_beneath_72 ?_
  refine z_icmp_ge 113 dX8_beneath_75 (by decide) (fun c1 => ?_) (fun c1 => ?_)
  · have h := h.1 c1
    refine z_iload dX8_beneath_113 3 rfl ?_
    exact z_iret (st := []) rfl rfl dX8_beneath_115 ⟨_, rfl, h⟩
  · have h := h.2 c1
    refine z_aload_n dX8_beneath_78 0 rfl ?_
    refine z_getr shC_0 rfl flX8_10 dX8_beneath_79 ?_
    refine z_getr shC_1 rfl flX8_161 dX8_beneath_82 ?_
    refine z_getr shC_22 rfl flX8_245 dX8_beneath_85 ?_
    refine z_iload dX8_beneath_88 4 rfl ?_
    obtain ⟨k1, ek1, uk1, h⟩ := h
    refine z_iald2 (k0 := k1) shC_23 (by decide) ek1 uk1 dX8_beneath_90 ?_
    refine z_iload_n dX8_beneath_91 1 rfl ?_
    refine z_ior dX8_beneath_92 ?_
    refine z_iload dX8_beneath_93 2 rfl ?_
    refine z_icmp_ne 107 dX8_beneath_95 (by decide) (fun c2 => ?_) (fun c2 => ?_)
    · have h := h.1 c2
      refine z_iinc (x := l6) (v := (l6 + 1)) [(6, .int (l6 + 1)), (0, .ref 0), (3, .int l3), (4, .int l4), (5, .int l5)] dX8_beneath_107 4 rfl rfl (by decide) rfl ?_
      refine z_goto 63 dX8_beneath_110 (by decide) ?_
      exact zW.sub [1, 2, 3, 4, 0] rfl h
    · have h := h.2 c2
      refine z_iload dX8_beneath_98 3 rfl ?_
      refine z_iconst (v := 1) dX8_beneath_100 (by decide) ?_
      refine z_iload dX8_beneath_101 4 rfl ?_
      refine z_ishl dX8_beneath_103 ?_
      refine z_ior dX8_beneath_104 ?_
      refine z_istore [(5, .int (l5 ||| (1 <<< (l6 &&& 31)))), (0, .ref 0), (3, .int l3), (4, .int l4), (6, .int l6)] dX8_beneath_105 (by decide) rfl ?_
      refine z_iinc (x := l6) (v := (l6 + 1)) [(6, .int (l6 + 1)), (5, .int (l5 ||| (1 <<< (l6 &&& 31)))), (0, .ref 0), (3, .int l3), (4, .int l4)] dX8_beneath_107 4 rfl rfl (by decide) rfl ?_
      refine z_goto 63 dX8_beneath_110 (by decide) ?_
      exact zW.sub [2, 3, 4, 1, 0] rfl h
theorem dX8_lookAt_0 : decode cX8_lookAt 0 = .ok (.iload_n 1, 1) := by decide +kernel
theorem dX8_lookAt_1 : decode cX8_lookAt 1 = .ok (.invokestatic 283, 3) := by decide +kernel
theorem dX8_lookAt_4 : decode cX8_lookAt 4 = .ok (.istore_n 2, 1) := by decide +kernel
theorem dX8_lookAt_5 : decode cX8_lookAt 5 = .ok (.iload_n 1, 1) := by decide +kernel
theorem dX8_lookAt_6 : decode cX8_lookAt 6 = .ok (.aload_n 0, 1) := by decide +kernel
theorem dX8_lookAt_7 : decode cX8_lookAt 7 = .ok (.getfield 10, 3) := by decide +kernel
theorem dX8_lookAt_10 : decode cX8_lookAt 10 = .ok (.getfield 161, 3) := by decide +kernel
theorem dX8_lookAt_13 : decode cX8_lookAt 13 = .ok (.invokevirtual 321, 3) := by decide +kernel
theorem dX8_lookAt_16 : decode cX8_lookAt 16 = .ok (.iconst (-1), 1) := by decide +kernel
theorem dX8_lookAt_17 : decode cX8_lookAt 17 = .ok (.ixor, 1) := by decide +kernel
theorem dX8_lookAt_18 : decode cX8_lookAt 18 = .ok (.iand, 1) := by decide +kernel
theorem dX8_lookAt_19 : decode cX8_lookAt 19 = .ok (.ifCond .ne 8, 3) := by decide +kernel
theorem dX8_lookAt_22 : decode cX8_lookAt 22 = .ok (.iload_n 2, 1) := by decide +kernel
theorem dX8_lookAt_23 : decode cX8_lookAt 23 = .ok (.iconst 2, 1) := by decide +kernel
theorem dX8_lookAt_24 : decode cX8_lookAt 24 = .ok (.if_icmp .ge 5, 3) := by decide +kernel
theorem dX8_lookAt_27 : decode cX8_lookAt 27 = .ok (.iconst (-1), 1) := by decide +kernel
theorem dX8_lookAt_28 : decode cX8_lookAt 28 = .ok (.ireturn, 1) := by decide +kernel
theorem dX8_lookAt_29 : decode cX8_lookAt 29 = .ok (.iconst (-1), 1) := by decide +kernel
theorem dX8_lookAt_30 : decode cX8_lookAt 30 = .ok (.istore_n 3, 1) := by decide +kernel
theorem dX8_lookAt_31 : decode cX8_lookAt 31 = .ok (.iload_n 2, 1) := by decide +kernel
theorem dX8_lookAt_32 : decode cX8_lookAt 32 = .ok (.iconst 1, 1) := by decide +kernel
theorem dX8_lookAt_33 : decode cX8_lookAt 33 = .ok (.iadd, 1) := by decide +kernel
theorem dX8_lookAt_34 : decode cX8_lookAt 34 = .ok (.istore 4, 2) := by decide +kernel
theorem dX8_lookAt_36 : decode cX8_lookAt 36 = .ok (.iconst 0, 1) := by decide +kernel
theorem dX8_lookAt_37 : decode cX8_lookAt 37 = .ok (.istore 5, 2) := by decide +kernel
theorem dX8_lookAt_39 : decode cX8_lookAt 39 = .ok (.iload 5, 2) := by decide +kernel
theorem dX8_lookAt_41 : decode cX8_lookAt 41 = .ok (.bipush 9, 2) := by decide +kernel
theorem dX8_lookAt_43 : decode cX8_lookAt 43 = .ok (.if_icmp .ge 49, 3) := by decide +kernel
theorem dX8_lookAt_46 : decode cX8_lookAt 46 = .ok (.aload_n 0, 1) := by decide +kernel
theorem dX8_lookAt_47 : decode cX8_lookAt 47 = .ok (.getfield 10, 3) := by decide +kernel
theorem dX8_lookAt_50 : decode cX8_lookAt 50 = .ok (.getfield 161, 3) := by decide +kernel
theorem dX8_lookAt_53 : decode cX8_lookAt 53 = .ok (.iload_n 1, 1) := by decide +kernel
theorem dX8_lookAt_54 : decode cX8_lookAt 54 = .ok (.iload 5, 2) := by decide +kernel
theorem dX8_lookAt_56 : decode cX8_lookAt 56 = .ok (.invokevirtual 324, 3) := by decide +kernel
theorem dX8_lookAt_59 : decode cX8_lookAt 59 = .ok (.istore 6, 2) := by decide +kernel
theorem dX8_lookAt_61 : decode cX8_lookAt 61 = .ok (.iload 6, 2) := by decide +kernel
theorem dX8_lookAt_63 : decode cX8_lookAt 63 = .ok (.iload_n 2, 1) := by decide +kernel
theorem dX8_lookAt_64 : decode cX8_lookAt 64 = .ok (.iload 6, 2) := by decide +kernel
theorem dX8_lookAt_66 : decode cX8_lookAt 66 = .ok (.isub, 1) := by decide +kernel
theorem dX8_lookAt_67 : decode cX8_lookAt 67 = .ok (.invokestatic 327, 3) := by decide +kernel
theorem dX8_lookAt_70 : decode cX8_lookAt 70 = .ok (.istore 7, 2) := by decide +kernel
theorem dX8_lookAt_72 : decode cX8_lookAt 72 = .ok (.iload 7, 2) := by decide +kernel
theorem dX8_lookAt_74 : decode cX8_lookAt 74 = .ok (.iload 4, 2) := by decide +kernel
theorem dX8_lookAt_76 : decode cX8_lookAt 76 = .ok (.if_icmp .ge 10, 3) := by decide +kernel
theorem dX8_lookAt_79 : decode cX8_lookAt 79 = .ok (.iload 7, 2) := by decide +kernel
theorem dX8_lookAt_81 : decode cX8_lookAt 81 = .ok (.istore 4, 2) := by decide +kernel
theorem dX8_lookAt_83 : decode cX8_lookAt 83 = .ok (.iload 5, 2) := by decide +kernel
theorem dX8_lookAt_85 : decode cX8_lookAt 85 = .ok (.istore_n 3, 1) := by decide +kernel
theorem dX8_lookAt_86 : decode cX8_lookAt 86 = .ok (.iinc 5 1, 3) := by decide +kernel
theorem dX8_lookAt_89 : decode cX8_lookAt 89 = .ok (.goto (-50), 3) := by decide +kernel
theorem dX8_lookAt_92 : decode cX8_lookAt 92 = .ok (.iload_n 3, 1) := by decide +kernel
theorem dX8_lookAt_93 : decode cX8_lookAt 93 = .ok (.ireturn, 1) := by decide +kernel
set_option maxRecDepth 20000 in
theorem vX8_lookAt {g : zG} {d : Nat} {Q : Int32 → zM → Prop} {M : zM} {l1 : Int32} (h : zCi shC g d mJ6_bitCount_0f7a4 [.int l1] M (fun x1 M1 => zCi shC g d mX3_allLetters [.ref 22] M1 (fun x2 M2 => (¬ (l1 &&& (x2 ^^^ (-1))) = 0 → Q (-1) M2) ∧ ((l1 &&& (x2 ^^^ (-1))) = 0 → (2 ≤ x1 → zW shC g (d + 1) mX8_lookAt (zi Q) 39 [(0, .ref 0), (1, .int l1), (2, .int x1), (3, .int (-1)), (4, .int (x1 + 1)), (5, .int 0)] [] M2) ∧ (¬ 2 ≤ x1 → Q (-1) M2))))) : zCi shC g (d + 1) mX8_lookAt [.ref 0, .int l1] M Q := by
  refine zW.enter (by decide +kernel) (Nat.le_of_ble_eq_true rfl) ?_
  change zW shC g (d + 1) mX8_lookAt (zi Q) 0 [(0, .ref 0), (1, .int l1)] [] M
  refine z_iload_n dX8_lookAt_0 1 rfl ?_
  refine z_callS (m2 := mJ6_bitCount_0f7a4) (st := []) [.int l1] okJ6_bitCount_0f7a4 (Or.inl lkX8_283) rfl rfl (Nat.le_of_ble_eq_true rfl) dX8_lookAt_1 (zgo_i h fun x1 M1 h => ?_)
  refine z_istore_n [(2, .int x1), (0, .ref 0), (1, .int l1)] dX8_lookAt_4 (by decide) rfl ?_
  refine z_iload_n dX8_lookAt_5 2 rfl ?_
  refine z_aload_n dX8_lookAt_6 1 rfl ?_
  refine z_getr shC_0 rfl flX8_10 dX8_lookAt_7 ?_
  refine z_getr shC_1 rfl flX8_161 dX8_lookAt_10 ?_
  refine z_callV (m2 := mX3_allLetters) (st := [.int l1]) [] okX3_allLetters (Or.inl lkX8_321) shC_22 rfl rfl rfl (Nat.le_of_ble_eq_true rfl) dX8_lookAt_13 (zgo_i h fun x2 M2 h => ?_)
  refine z_iconst (v := (-1)) dX8_lookAt_16 (by decide) ?_
  refine z_ixor dX8_lookAt_17 ?_
  refine z_iand dX8_lookAt_18 ?_
  refine z_if_ne 27 dX8_lookAt_19 (by decide) (fun c1 => ?_) (fun c1 => ?_)
  · have h := h.1 c1
    refine z_iconst (v := (-1)) dX8_lookAt_27 (by decide) ?_
    exact z_iret (st := []) rfl rfl dX8_lookAt_28 ⟨_, rfl, h⟩
  · have h := h.2 c1
    refine z_iload_n dX8_lookAt_22 0 rfl ?_
    refine z_iconst (v := 2) dX8_lookAt_23 (by decide) ?_
    refine z_icmp_ge 29 dX8_lookAt_24 (by decide) (fun c2 => ?_) (fun c2 => ?_)
    · have h := h.1 c2
      refine z_iconst (v := (-1)) dX8_lookAt_29 (by decide) ?_
      refine z_istore_n [(3, .int (-1)), (2, .int x1), (0, .ref 0), (1, .int l1)] dX8_lookAt_30 (by decide) rfl ?_
      refine z_iload_n dX8_lookAt_31 1 rfl ?_
      refine z_iconst (v := 1) dX8_lookAt_32 (by decide) ?_
      refine z_iadd dX8_lookAt_33 ?_
      refine z_istore [(4, .int (x1 + 1)), (3, .int (-1)), (2, .int x1), (0, .ref 0), (1, .int l1)] dX8_lookAt_34 (by decide) rfl ?_
      refine z_iconst (v := 0) dX8_lookAt_36 (by decide) ?_
      refine z_istore [(5, .int 0), (4, .int (x1 + 1)), (3, .int (-1)), (2, .int x1), (0, .ref 0), (1, .int l1)] dX8_lookAt_37 (by decide) rfl ?_
      exact zW.sub [4, 5, 3, 2, 1, 0] rfl h
    · have h := h.2 c2
      refine z_iconst (v := (-1)) dX8_lookAt_27 (by decide) ?_
      exact z_iret (st := []) rfl rfl dX8_lookAt_28 ⟨_, rfl, h⟩
set_option maxRecDepth 20000 in
theorem vX8_lookAt_39 {g : zG} {d : Nat} {Q : Int32 → zM → Prop} {M : zM} {l1 : Int32} {l2 : Int32} {l3 : Int32} {l4 : Int32} {l5 : Int32} (h : (9 ≤ l5 → Q l3 M) ∧ (¬ 9 ≤ l5 → zCi shC g d mX3_having [.ref 22, .int l1, .int l5] M (fun x1 M1 => (l4 ≤ (imax x1 (l2 - x1)) → zW shC g (d + 1) mX8_lookAt (zi Q) 39 [(0, .ref 0), (1, .int l1), (2, .int l2), (3, .int l3), (4, .int l4), (5, .int (l5 + 1))] [] M1) ∧ (¬ l4 ≤ (imax x1 (l2 - x1)) → zW shC g (d + 1) mX8_lookAt (zi Q) 39 [(0, .ref 0), (1, .int l1), (2, .int l2), (3, .int l5), (4, .int (imax x1 (l2 - x1))), (5, .int (l5 + 1))] [] M1)))) : zW shC g (d + 1) mX8_lookAt (zi Q) 39 [(0, .ref 0), (1, .int l1), (2, .int l2), (3, .int l3), (4, .int l4), (5, .int l5)] [] M := by
  refine z_iload dX8_lookAt_39 5 rfl ?_
  refine z_bipush (v := 9) dX8_lookAt_41 (by decide) ?_
  refine z_icmp_ge 92 dX8_lookAt_43 (by decide) (fun c1 => ?_) (fun c1 => ?_)
  · have h := h.1 c1
    refine z_iload_n dX8_lookAt_92 3 rfl ?_
    exact z_iret (st := []) rfl rfl dX8_lookAt_93 ⟨_, rfl, h⟩
  · have h := h.2 c1
    refine z_aload_n dX8_lookAt_46 0 rfl ?_
    refine z_getr shC_0 rfl flX8_10 dX8_lookAt_47 ?_
    refine z_getr shC_1 rfl flX8_161 dX8_lookAt_50 ?_
    refine z_iload_n dX8_lookAt_53 1 rfl ?_
    refine z_iload dX8_lookAt_54 5 rfl ?_
    refine z_callV (m2 := mX3_having) (st := []) [.int l1, .int l5] okX3_having (Or.inl lkX8_324) shC_22 rfl rfl rfl (Nat.le_of_ble_eq_true rfl) dX8_lookAt_56 (zgo_i h fun x1 M1 h => ?_)
    refine z_istore [(6, .int x1), (0, .ref 0), (1, .int l1), (2, .int l2), (3, .int l3), (4, .int l4), (5, .int l5)] dX8_lookAt_59 (by decide) rfl ?_
    refine z_iload dX8_lookAt_61 0 rfl ?_
    refine z_iload_n dX8_lookAt_63 3 rfl ?_
    refine z_iload dX8_lookAt_64 0 rfl ?_
    refine z_isub dX8_lookAt_66 ?_
    refine z_max (st := []) lkX8_327 (Nat.le_of_ble_eq_true rfl) dX8_lookAt_67 ?_
    refine z_istore [(7, .int (imax x1 (l2 - x1))), (6, .int x1), (0, .ref 0), (1, .int l1), (2, .int l2), (3, .int l3), (4, .int l4), (5, .int l5)] dX8_lookAt_70 (by decide) rfl ?_
    refine z_iload dX8_lookAt_72 0 rfl ?_
    refine z_iload dX8_lookAt_74 6 rfl ?_
    refine z_icmp_ge 86 dX8_lookAt_76 (by decide) (fun c2 => ?_) (fun c2 => ?_)
    · have h := h.1 c2
      refine z_iinc (x := l5) (v := (l5 + 1)) [(5, .int (l5 + 1)), (7, .int (imax x1 (l2 - x1))), (6, .int x1), (0, .ref 0), (1, .int l1), (2, .int l2), (3, .int l3), (4, .int l4)] dX8_lookAt_86 7 rfl rfl (by decide) rfl ?_
      refine z_goto 39 dX8_lookAt_89 (by decide) ?_
      exact zW.sub [3, 4, 5, 6, 7, 0] rfl h
    · have h := h.2 c2
      refine z_iload dX8_lookAt_79 0 rfl ?_
      refine z_istore [(4, .int (imax x1 (l2 - x1))), (7, .int (imax x1 (l2 - x1))), (6, .int x1), (0, .ref 0), (1, .int l1), (2, .int l2), (3, .int l3), (5, .int l5)] dX8_lookAt_81 (by decide) rfl ?_
      refine z_iload dX8_lookAt_83 7 rfl ?_
      refine z_istore_n [(3, .int l5), (4, .int (imax x1 (l2 - x1))), (7, .int (imax x1 (l2 - x1))), (6, .int x1), (0, .ref 0), (1, .int l1), (2, .int l2), (5, .int l5)] dX8_lookAt_85 (by decide) rfl ?_
      refine z_iinc (x := l5) (v := (l5 + 1)) [(5, .int (l5 + 1)), (3, .int l5), (4, .int (imax x1 (l2 - x1))), (7, .int (imax x1 (l2 - x1))), (6, .int x1), (0, .ref 0), (1, .int l1), (2, .int l2)] dX8_lookAt_86 7 rfl rfl (by decide) rfl ?_
      refine z_goto 39 dX8_lookAt_89 (by decide) ?_
      exact zW.sub [5, 6, 7, 1, 2, 0] rfl h
theorem dX8_who_0 : decode cX8_who 0 = .ok (.aload_n 0, 1) := by decide +kernel
theorem dX8_who_1 : decode cX8_who 1 = .ok (.getfield 10, 3) := by decide +kernel
theorem dX8_who_4 : decode cX8_who 4 = .ok (.iload_n 1, 1) := by decide +kernel
theorem dX8_who_5 : decode cX8_who 5 = .ok (.invokevirtual 264, 3) := by decide +kernel
theorem dX8_who_8 : decode cX8_who 8 = .ok (.ifCond .eq 12, 3) := by decide +kernel
theorem dX8_who_11 : decode cX8_who 11 = .ok (.iload_n 2, 1) := by decide +kernel
theorem dX8_who_12 : decode cX8_who 12 = .ok (.ifCond .eq 11, 3) := by decide +kernel
theorem dX8_who_15 : decode cX8_who 15 = .ok (.iload_n 2, 1) := by decide +kernel
theorem dX8_who_16 : decode cX8_who 16 = .ok (.iconst 1, 1) := by decide +kernel
theorem dX8_who_17 : decode cX8_who 17 = .ok (.if_icmp .eq 6, 3) := by decide +kernel
theorem dX8_who_20 : decode cX8_who 20 = .ok (.bipush (-2), 2) := by decide +kernel
theorem dX8_who_22 : decode cX8_who 22 = .ok (.ireturn, 1) := by decide +kernel
theorem dX8_who_23 : decode cX8_who 23 = .ok (.iconst 0, 1) := by decide +kernel
theorem dX8_who_24 : decode cX8_who 24 = .ok (.istore_n 3, 1) := by decide +kernel
theorem dX8_who_25 : decode cX8_who 25 = .ok (.iconst (-1), 1) := by decide +kernel
theorem dX8_who_26 : decode cX8_who 26 = .ok (.istore 4, 2) := by decide +kernel
theorem dX8_who_28 : decode cX8_who 28 = .ok (.iconst 0, 1) := by decide +kernel
theorem dX8_who_29 : decode cX8_who 29 = .ok (.istore 5, 2) := by decide +kernel
theorem dX8_who_31 : decode cX8_who 31 = .ok (.iconst 0, 1) := by decide +kernel
theorem dX8_who_32 : decode cX8_who 32 = .ok (.istore 6, 2) := by decide +kernel
theorem dX8_who_34 : decode cX8_who 34 = .ok (.iload 6, 2) := by decide +kernel
theorem dX8_who_36 : decode cX8_who 36 = .ok (.aload_n 0, 1) := by decide +kernel
theorem dX8_who_37 : decode cX8_who 37 = .ok (.getfield 10, 3) := by decide +kernel
theorem dX8_who_40 : decode cX8_who 40 = .ok (.getfield 101, 3) := by decide +kernel
theorem dX8_who_43 : decode cX8_who 43 = .ok (.if_icmp .ge 48, 3) := by decide +kernel
theorem dX8_who_46 : decode cX8_who 46 = .ok (.aload_n 0, 1) := by decide +kernel
theorem dX8_who_47 : decode cX8_who 47 = .ok (.getfield 10, 3) := by decide +kernel
theorem dX8_who_50 : decode cX8_who 50 = .ok (.iload 6, 2) := by decide +kernel
theorem dX8_who_52 : decode cX8_who 52 = .ok (.iload_n 1, 1) := by decide +kernel
theorem dX8_who_53 : decode cX8_who 53 = .ok (.invokevirtual 332, 3) := by decide +kernel
theorem dX8_who_56 : decode cX8_who 56 = .ok (.istore 7, 2) := by decide +kernel
theorem dX8_who_58 : decode cX8_who 58 = .ok (.iload 7, 2) := by decide +kernel
theorem dX8_who_60 : decode cX8_who 60 = .ok (.ifCond .le 12, 3) := by decide +kernel
theorem dX8_who_63 : decode cX8_who 63 = .ok (.iload 5, 2) := by decide +kernel
theorem dX8_who_65 : decode cX8_who 65 = .ok (.iconst 1, 1) := by decide +kernel
theorem dX8_who_66 : decode cX8_who 66 = .ok (.iload 6, 2) := by decide +kernel
theorem dX8_who_68 : decode cX8_who 68 = .ok (.ishl, 1) := by decide +kernel
theorem dX8_who_69 : decode cX8_who 69 = .ok (.ior, 1) := by decide +kernel
theorem dX8_who_70 : decode cX8_who 70 = .ok (.istore 5, 2) := by decide +kernel
theorem dX8_who_72 : decode cX8_who 72 = .ok (.iload 7, 2) := by decide +kernel
theorem dX8_who_74 : decode cX8_who 74 = .ok (.iload_n 3, 1) := by decide +kernel
theorem dX8_who_75 : decode cX8_who 75 = .ok (.if_icmp .le 10, 3) := by decide +kernel
theorem dX8_who_78 : decode cX8_who 78 = .ok (.iload 7, 2) := by decide +kernel
theorem dX8_who_80 : decode cX8_who 80 = .ok (.istore_n 3, 1) := by decide +kernel
theorem dX8_who_81 : decode cX8_who 81 = .ok (.iload 6, 2) := by decide +kernel
theorem dX8_who_83 : decode cX8_who 83 = .ok (.istore 4, 2) := by decide +kernel
theorem dX8_who_85 : decode cX8_who 85 = .ok (.iinc 6 1, 3) := by decide +kernel
theorem dX8_who_88 : decode cX8_who 88 = .ok (.goto (-54), 3) := by decide +kernel
theorem dX8_who_91 : decode cX8_who 91 = .ok (.iload_n 2, 1) := by decide +kernel
theorem dX8_who_92 : decode cX8_who 92 = .ok (.ifCond .ne 8, 3) := by decide +kernel
theorem dX8_who_95 : decode cX8_who 95 = .ok (.iload 4, 2) := by decide +kernel
theorem dX8_who_97 : decode cX8_who 97 = .ok (.goto 5, 3) := by decide +kernel
theorem dX8_who_100 : decode cX8_who 100 = .ok (.iload 5, 2) := by decide +kernel
theorem dX8_who_102 : decode cX8_who 102 = .ok (.ireturn, 1) := by decide +kernel
set_option maxRecDepth 20000 in
theorem vX8_who {g : zG} {d : Nat} {Q : Int32 → zM → Prop} {M : zM} {l1 : Int32} {l2 : Int32} (h : zCz shC g d mX7_isBox [.ref 1, .int l1] M (fun b1 M1 => (b1 = false → Q (-2) M1) ∧ (b1 = true → (l2 = 0 → zW shC g (d + 1) mX8_who (zi Q) 34 [(0, .ref 0), (1, .int l1), (2, .int l2), (3, .int 0), (4, .int (-1)), (5, .int 0), (6, .int 0)] [] M1) ∧ (¬ l2 = 0 → (l2 = 1 → zW shC g (d + 1) mX8_who (zi Q) 34 [(0, .ref 0), (1, .int l1), (2, .int l2), (3, .int 0), (4, .int (-1)), (5, .int 0), (6, .int 0)] [] M1) ∧ (¬ l2 = 1 → Q (-2) M1))))) : zCi shC g (d + 1) mX8_who [.ref 0, .int l1, .int l2] M Q := by
  refine zW.enter (by decide +kernel) (Nat.le_of_ble_eq_true rfl) ?_
  change zW shC g (d + 1) mX8_who (zi Q) 0 [(0, .ref 0), (1, .int l1), (2, .int l2)] [] M
  refine z_aload_n dX8_who_0 0 rfl ?_
  refine z_getr shC_0 rfl flX8_10 dX8_who_1 ?_
  refine z_iload_n dX8_who_4 1 rfl ?_
  refine z_callV (m2 := mX7_isBox) (st := []) [.int l1] okX7_isBox (Or.inl lkX8_264) shC_1 rfl rfl rfl (Nat.le_of_ble_eq_true rfl) dX8_who_5 (zgo_z h fun b1 M1 h => ?_)
  refine z_ifb_eq 20 dX8_who_8 (by decide) (fun c1 => ?_) (fun c1 => ?_)
  · have h := h.1 c1
    refine z_bipush (v := (-2)) dX8_who_20 (by decide) ?_
    exact z_iret (st := []) rfl rfl dX8_who_22 ⟨_, rfl, h⟩
  · have h := h.2 c1
    refine z_iload_n dX8_who_11 2 rfl ?_
    refine z_if_eq 23 dX8_who_12 (by decide) (fun c2 => ?_) (fun c2 => ?_)
    · have h := h.1 c2
      refine z_iconst (v := 0) dX8_who_23 (by decide) ?_
      refine z_istore_n [(3, .int 0), (0, .ref 0), (1, .int l1), (2, .int l2)] dX8_who_24 (by decide) rfl ?_
      refine z_iconst (v := (-1)) dX8_who_25 (by decide) ?_
      refine z_istore [(4, .int (-1)), (3, .int 0), (0, .ref 0), (1, .int l1), (2, .int l2)] dX8_who_26 (by decide) rfl ?_
      refine z_iconst (v := 0) dX8_who_28 (by decide) ?_
      refine z_istore [(5, .int 0), (4, .int (-1)), (3, .int 0), (0, .ref 0), (1, .int l1), (2, .int l2)] dX8_who_29 (by decide) rfl ?_
      refine z_iconst (v := 0) dX8_who_31 (by decide) ?_
      refine z_istore [(6, .int 0), (5, .int 0), (4, .int (-1)), (3, .int 0), (0, .ref 0), (1, .int l1), (2, .int l2)] dX8_who_32 (by decide) rfl ?_
      exact zW.sub [4, 5, 6, 3, 2, 1, 0] rfl h
    · have h := h.2 c2
      refine z_iload_n dX8_who_15 2 rfl ?_
      refine z_iconst (v := 1) dX8_who_16 (by decide) ?_
      refine z_icmp_eq 23 dX8_who_17 (by decide) (fun c3 => ?_) (fun c3 => ?_)
      · have h := h.1 c3
        refine z_iconst (v := 0) dX8_who_23 (by decide) ?_
        refine z_istore_n [(3, .int 0), (0, .ref 0), (1, .int l1), (2, .int l2)] dX8_who_24 (by decide) rfl ?_
        refine z_iconst (v := (-1)) dX8_who_25 (by decide) ?_
        refine z_istore [(4, .int (-1)), (3, .int 0), (0, .ref 0), (1, .int l1), (2, .int l2)] dX8_who_26 (by decide) rfl ?_
        refine z_iconst (v := 0) dX8_who_28 (by decide) ?_
        refine z_istore [(5, .int 0), (4, .int (-1)), (3, .int 0), (0, .ref 0), (1, .int l1), (2, .int l2)] dX8_who_29 (by decide) rfl ?_
        refine z_iconst (v := 0) dX8_who_31 (by decide) ?_
        refine z_istore [(6, .int 0), (5, .int 0), (4, .int (-1)), (3, .int 0), (0, .ref 0), (1, .int l1), (2, .int l2)] dX8_who_32 (by decide) rfl ?_
        exact zW.sub [4, 5, 6, 3, 2, 1, 0] rfl h
      · have h := h.2 c3
        refine z_bipush (v := (-2)) dX8_who_20 (by decide) ?_
        exact z_iret (st := []) rfl rfl dX8_who_22 ⟨_, rfl, h⟩
set_option maxRecDepth 20000 in
theorem vX8_who_34 {g : zG} {d : Nat} {Q : Int32 → zM → Prop} {M : zM} {l1 : Int32} {l2 : Int32} {l3 : Int32} {l4 : Int32} {l5 : Int32} {l6 : Int32} (h : ((M 1 4) ≤ l6 → (¬ l2 = 0 → Q l5 M) ∧ (l2 = 0 → Q l4 M)) ∧ (¬ (M 1 4) ≤ l6 → zCi shC g d mX7_writtenBy [.ref 1, .int l6, .int l1] M (fun x1 M1 => (x1 ≤ 0 → (x1 ≤ l3 → zW shC g (d + 1) mX8_who (zi Q) 34 [(0, .ref 0), (1, .int l1), (2, .int l2), (3, .int l3), (4, .int l4), (5, .int l5), (6, .int (l6 + 1))] [] M1) ∧ (¬ x1 ≤ l3 → zW shC g (d + 1) mX8_who (zi Q) 34 [(0, .ref 0), (1, .int l1), (2, .int l2), (3, .int x1), (4, .int l6), (5, .int l5), (6, .int (l6 + 1))] [] M1)) ∧ (¬ x1 ≤ 0 → (x1 ≤ l3 → zW shC g (d + 1) mX8_who (zi Q) 34 [(0, .ref 0), (1, .int l1), (2, .int l2), (3, .int l3), (4, .int l4), (5, .int (l5 ||| (1 <<< (l6 &&& 31)))), (6, .int (l6 + 1))] [] M1) ∧ (¬ x1 ≤ l3 → zW shC g (d + 1) mX8_who (zi Q) 34 [(0, .ref 0), (1, .int l1), (2, .int l2), (3, .int x1), (4, .int l6), (5, .int (l5 ||| (1 <<< (l6 &&& 31)))), (6, .int (l6 + 1))] [] M1))))) : zW shC g (d + 1) mX8_who (zi Q) 34 [(0, .ref 0), (1, .int l1), (2, .int l2), (3, .int l3), (4, .int l4), (5, .int l5), (6, .int l6)] [] M := by
  refine z_iload dX8_who_34 6 rfl ?_
  refine z_aload_n dX8_who_36 0 rfl ?_
  refine z_getr shC_0 rfl flX8_10 dX8_who_37 ?_
  refine z_geti shC_1 rfl flX8_101 dX8_who_40 ?_
  refine z_icmp_ge 91 dX8_who_43 (by decide) (fun c1 => ?_) (fun c1 => ?_)
  · have h := h.1 c1
    refine z_iload_n dX8_who_91 2 rfl ?_
    refine z_if_ne 100 dX8_who_92 (by decide) (fun c2 => ?_) (fun c2 => ?_)
    · have h := h.1 c2
      refine z_iload dX8_who_100 5 rfl ?_
      exact z_iret (st := []) rfl rfl dX8_who_102 ⟨_, rfl, h⟩
    · have h := h.2 c2
      refine z_iload dX8_who_95 4 rfl ?_
      refine z_goto 102 dX8_who_97 (by decide) ?_
      exact z_iret (st := []) rfl rfl dX8_who_102 ⟨_, rfl, h⟩
  · have h := h.2 c1
    refine z_aload_n dX8_who_46 0 rfl ?_
    refine z_getr shC_0 rfl flX8_10 dX8_who_47 ?_
    refine z_iload dX8_who_50 6 rfl ?_
    refine z_iload_n dX8_who_52 1 rfl ?_
    refine z_callV (m2 := mX7_writtenBy) (st := []) [.int l6, .int l1] okX7_writtenBy (Or.inl lkX8_332) shC_1 rfl rfl rfl (Nat.le_of_ble_eq_true rfl) dX8_who_53 (zgo_i h fun x1 M1 h => ?_)
    refine z_istore [(7, .int x1), (0, .ref 0), (1, .int l1), (2, .int l2), (3, .int l3), (4, .int l4), (5, .int l5), (6, .int l6)] dX8_who_56 (by decide) rfl ?_
    refine z_iload dX8_who_58 0 rfl ?_
    refine z_if_le 72 dX8_who_60 (by decide) (fun c2 => ?_) (fun c2 => ?_)
    · have h := h.1 c2
      refine z_iload dX8_who_72 0 rfl ?_
      refine z_iload_n dX8_who_74 4 rfl ?_
      refine z_icmp_le 85 dX8_who_75 (by decide) (fun c3 => ?_) (fun c3 => ?_)
      · have h := h.1 c3
        refine z_iinc (x := l6) (v := (l6 + 1)) [(6, .int (l6 + 1)), (7, .int x1), (0, .ref 0), (1, .int l1), (2, .int l2), (3, .int l3), (4, .int l4), (5, .int l5)] dX8_who_85 7 rfl rfl (by decide) rfl ?_
        refine z_goto 34 dX8_who_88 (by decide) ?_
        exact zW.sub [2, 3, 4, 5, 6, 7, 0] rfl h
      · have h := h.2 c3
        refine z_iload dX8_who_78 0 rfl ?_
        refine z_istore_n [(3, .int x1), (7, .int x1), (0, .ref 0), (1, .int l1), (2, .int l2), (4, .int l4), (5, .int l5), (6, .int l6)] dX8_who_80 (by decide) rfl ?_
        refine z_iload dX8_who_81 7 rfl ?_
        refine z_istore [(4, .int l6), (3, .int x1), (7, .int x1), (0, .ref 0), (1, .int l1), (2, .int l2), (5, .int l5), (6, .int l6)] dX8_who_83 (by decide) rfl ?_
        refine z_iinc (x := l6) (v := (l6 + 1)) [(6, .int (l6 + 1)), (4, .int l6), (3, .int x1), (7, .int x1), (0, .ref 0), (1, .int l1), (2, .int l2), (5, .int l5)] dX8_who_85 7 rfl rfl (by decide) rfl ?_
        refine z_goto 34 dX8_who_88 (by decide) ?_
        exact zW.sub [4, 5, 6, 2, 1, 7, 0] rfl h
    · have h := h.2 c2
      refine z_iload dX8_who_63 6 rfl ?_
      refine z_iconst (v := 1) dX8_who_65 (by decide) ?_
      refine z_iload dX8_who_66 7 rfl ?_
      refine z_ishl dX8_who_68 ?_
      refine z_ior dX8_who_69 ?_
      refine z_istore [(5, .int (l5 ||| (1 <<< (l6 &&& 31)))), (7, .int x1), (0, .ref 0), (1, .int l1), (2, .int l2), (3, .int l3), (4, .int l4), (6, .int l6)] dX8_who_70 (by decide) rfl ?_
      refine z_iload dX8_who_72 1 rfl ?_
      refine z_iload_n dX8_who_74 5 rfl ?_
      refine z_icmp_le 85 dX8_who_75 (by decide) (fun c3 => ?_) (fun c3 => ?_)
      · have h := h.1 c3
        refine z_iinc (x := l6) (v := (l6 + 1)) [(6, .int (l6 + 1)), (5, .int (l5 ||| (1 <<< (l6 &&& 31)))), (7, .int x1), (0, .ref 0), (1, .int l1), (2, .int l2), (3, .int l3), (4, .int l4)] dX8_who_85 7 rfl rfl (by decide) rfl ?_
        refine z_goto 34 dX8_who_88 (by decide) ?_
        exact zW.sub [3, 4, 5, 6, 7, 1, 0] rfl h
      · have h := h.2 c3
        refine z_iload dX8_who_78 1 rfl ?_
        refine z_istore_n [(3, .int x1), (5, .int (l5 ||| (1 <<< (l6 &&& 31)))), (7, .int x1), (0, .ref 0), (1, .int l1), (2, .int l2), (4, .int l4), (6, .int l6)] dX8_who_80 (by decide) rfl ?_
        refine z_iload dX8_who_81 7 rfl ?_
        refine z_istore [(4, .int l6), (3, .int x1), (5, .int (l5 ||| (1 <<< (l6 &&& 31)))), (7, .int x1), (0, .ref 0), (1, .int l1), (2, .int l2), (6, .int l6)] dX8_who_83 (by decide) rfl ?_
        refine z_iinc (x := l6) (v := (l6 + 1)) [(6, .int (l6 + 1)), (4, .int l6), (3, .int x1), (5, .int (l5 ||| (1 <<< (l6 &&& 31)))), (7, .int x1), (0, .ref 0), (1, .int l1), (2, .int l2)] dX8_who_85 7 rfl rfl (by decide) rfl ?_
        refine z_goto 34 dX8_who_88 (by decide) ?_
        exact zW.sub [5, 6, 7, 2, 1, 3, 0] rfl h
theorem dX8_holds_0 : decode cX8_holds 0 = .ok (.iload_n 1, 1) := by decide +kernel
theorem dX8_holds_1 : decode cX8_holds 1 = .ok (.iconst 1, 1) := by decide +kernel
theorem dX8_holds_2 : decode cX8_holds 2 = .ok (.if_icmp .lt 18, 3) := by decide +kernel
theorem dX8_holds_5 : decode cX8_holds 5 = .ok (.iload_n 1, 1) := by decide +kernel
theorem dX8_holds_6 : decode cX8_holds 6 = .ok (.bipush 9, 2) := by decide +kernel
theorem dX8_holds_8 : decode cX8_holds 8 = .ok (.if_icmp .gt 12, 3) := by decide +kernel
theorem dX8_holds_11 : decode cX8_holds 11 = .ok (.iload_n 2, 1) := by decide +kernel
theorem dX8_holds_12 : decode cX8_holds 12 = .ok (.ifCond .eq 10, 3) := by decide +kernel
theorem dX8_holds_15 : decode cX8_holds 15 = .ok (.iload_n 2, 1) := by decide +kernel
theorem dX8_holds_16 : decode cX8_holds 16 = .ok (.iconst 1, 1) := by decide +kernel
theorem dX8_holds_17 : decode cX8_holds 17 = .ok (.if_icmp .eq 5, 3) := by decide +kernel
theorem dX8_holds_20 : decode cX8_holds 20 = .ok (.iconst (-1), 1) := by decide +kernel
theorem dX8_holds_21 : decode cX8_holds 21 = .ok (.ireturn, 1) := by decide +kernel
theorem dX8_holds_22 : decode cX8_holds 22 = .ok (.iconst 0, 1) := by decide +kernel
theorem dX8_holds_23 : decode cX8_holds 23 = .ok (.istore_n 3, 1) := by decide +kernel
theorem dX8_holds_24 : decode cX8_holds 24 = .ok (.iconst 1, 1) := by decide +kernel
theorem dX8_holds_25 : decode cX8_holds 25 = .ok (.istore 4, 2) := by decide +kernel
theorem dX8_holds_27 : decode cX8_holds 27 = .ok (.iload 4, 2) := by decide +kernel
theorem dX8_holds_29 : decode cX8_holds 29 = .ok (.aload_n 0, 1) := by decide +kernel
theorem dX8_holds_30 : decode cX8_holds 30 = .ok (.getfield 10, 3) := by decide +kernel
theorem dX8_holds_33 : decode cX8_holds 33 = .ok (.getfield 161, 3) := by decide +kernel
theorem dX8_holds_36 : decode cX8_holds 36 = .ok (.invokevirtual 321, 3) := by decide +kernel
theorem dX8_holds_39 : decode cX8_holds 39 = .ok (.if_icmp .gt 40, 3) := by decide +kernel
theorem dX8_holds_42 : decode cX8_holds 42 = .ok (.iload 4, 2) := by decide +kernel
theorem dX8_holds_44 : decode cX8_holds 44 = .ok (.invokestatic 283, 3) := by decide +kernel
theorem dX8_holds_47 : decode cX8_holds 47 = .ok (.iload_n 3, 1) := by decide +kernel
theorem dX8_holds_48 : decode cX8_holds 48 = .ok (.invokestatic 283, 3) := by decide +kernel
theorem dX8_holds_51 : decode cX8_holds 51 = .ok (.if_icmp .le 22, 3) := by decide +kernel
theorem dX8_holds_54 : decode cX8_holds 54 = .ok (.aload_n 0, 1) := by decide +kernel
theorem dX8_holds_55 : decode cX8_holds 55 = .ok (.getfield 10, 3) := by decide +kernel
theorem dX8_holds_58 : decode cX8_holds 58 = .ok (.getfield 161, 3) := by decide +kernel
theorem dX8_holds_61 : decode cX8_holds 61 = .ok (.iload 4, 2) := by decide +kernel
theorem dX8_holds_63 : decode cX8_holds 63 = .ok (.iload_n 1, 1) := by decide +kernel
theorem dX8_holds_64 : decode cX8_holds 64 = .ok (.invokevirtual 335, 3) := by decide +kernel
theorem dX8_holds_67 : decode cX8_holds 67 = .ok (.ifCond .eq 6, 3) := by decide +kernel
theorem dX8_holds_70 : decode cX8_holds 70 = .ok (.iload 4, 2) := by decide +kernel
theorem dX8_holds_72 : decode cX8_holds 72 = .ok (.istore_n 3, 1) := by decide +kernel
theorem dX8_holds_73 : decode cX8_holds 73 = .ok (.iinc 4 1, 3) := by decide +kernel
theorem dX8_holds_76 : decode cX8_holds 76 = .ok (.goto (-49), 3) := by decide +kernel
theorem dX8_holds_79 : decode cX8_holds 79 = .ok (.iload_n 2, 1) := by decide +kernel
theorem dX8_holds_80 : decode cX8_holds 80 = .ok (.ifCond .ne 10, 3) := by decide +kernel
theorem dX8_holds_83 : decode cX8_holds 83 = .ok (.iload_n 3, 1) := by decide +kernel
theorem dX8_holds_84 : decode cX8_holds 84 = .ok (.invokestatic 283, 3) := by decide +kernel
theorem dX8_holds_87 : decode cX8_holds 87 = .ok (.goto 4, 3) := by decide +kernel
theorem dX8_holds_90 : decode cX8_holds 90 = .ok (.iload_n 3, 1) := by decide +kernel
theorem dX8_holds_91 : decode cX8_holds 91 = .ok (.ireturn, 1) := by decide +kernel
set_option maxRecDepth 20000 in
theorem vX8_holds {g : zG} {d : Nat} {Q : Int32 → zM → Prop} {M : zM} {l1 : Int32} {l2 : Int32} (h : (l1 < 1 → Q (-1) M) ∧ (¬ l1 < 1 → (9 < l1 → Q (-1) M) ∧ (¬ 9 < l1 → (l2 = 0 → zW shC g (d + 1) mX8_holds (zi Q) 27 [(0, .ref 0), (1, .int l1), (2, .int l2), (3, .int 0), (4, .int 1)] [] M) ∧ (¬ l2 = 0 → (l2 = 1 → zW shC g (d + 1) mX8_holds (zi Q) 27 [(0, .ref 0), (1, .int l1), (2, .int l2), (3, .int 0), (4, .int 1)] [] M) ∧ (¬ l2 = 1 → Q (-1) M))))) : zCi shC g (d + 1) mX8_holds [.ref 0, .int l1, .int l2] M Q := by
  refine zW.enter (by decide +kernel) (Nat.le_of_ble_eq_true rfl) ?_
  change zW shC g (d + 1) mX8_holds (zi Q) 0 [(0, .ref 0), (1, .int l1), (2, .int l2)] [] M
  refine z_iload_n dX8_holds_0 1 rfl ?_
  refine z_iconst (v := 1) dX8_holds_1 (by decide) ?_
  refine z_icmp_lt 20 dX8_holds_2 (by decide) (fun c1 => ?_) (fun c1 => ?_)
  · have h := h.1 c1
    refine z_iconst (v := (-1)) dX8_holds_20 (by decide) ?_
    exact z_iret (st := []) rfl rfl dX8_holds_21 ⟨_, rfl, h⟩
  · have h := h.2 c1
    refine z_iload_n dX8_holds_5 1 rfl ?_
    refine z_bipush (v := 9) dX8_holds_6 (by decide) ?_
    refine z_icmp_gt 20 dX8_holds_8 (by decide) (fun c2 => ?_) (fun c2 => ?_)
    · have h := h.1 c2
      refine z_iconst (v := (-1)) dX8_holds_20 (by decide) ?_
      exact z_iret (st := []) rfl rfl dX8_holds_21 ⟨_, rfl, h⟩
    · have h := h.2 c2
      refine z_iload_n dX8_holds_11 2 rfl ?_
      refine z_if_eq 22 dX8_holds_12 (by decide) (fun c3 => ?_) (fun c3 => ?_)
      · have h := h.1 c3
        refine z_iconst (v := 0) dX8_holds_22 (by decide) ?_
        refine z_istore_n [(3, .int 0), (0, .ref 0), (1, .int l1), (2, .int l2)] dX8_holds_23 (by decide) rfl ?_
        refine z_iconst (v := 1) dX8_holds_24 (by decide) ?_
        refine z_istore [(4, .int 1), (3, .int 0), (0, .ref 0), (1, .int l1), (2, .int l2)] dX8_holds_25 (by decide) rfl ?_
        exact zW.sub [2, 3, 4, 1, 0] rfl h
      · have h := h.2 c3
        refine z_iload_n dX8_holds_15 2 rfl ?_
        refine z_iconst (v := 1) dX8_holds_16 (by decide) ?_
        refine z_icmp_eq 22 dX8_holds_17 (by decide) (fun c4 => ?_) (fun c4 => ?_)
        · have h := h.1 c4
          refine z_iconst (v := 0) dX8_holds_22 (by decide) ?_
          refine z_istore_n [(3, .int 0), (0, .ref 0), (1, .int l1), (2, .int l2)] dX8_holds_23 (by decide) rfl ?_
          refine z_iconst (v := 1) dX8_holds_24 (by decide) ?_
          refine z_istore [(4, .int 1), (3, .int 0), (0, .ref 0), (1, .int l1), (2, .int l2)] dX8_holds_25 (by decide) rfl ?_
          exact zW.sub [2, 3, 4, 1, 0] rfl h
        · have h := h.2 c4
          refine z_iconst (v := (-1)) dX8_holds_20 (by decide) ?_
          exact z_iret (st := []) rfl rfl dX8_holds_21 ⟨_, rfl, h⟩
set_option maxRecDepth 20000 in
theorem vX8_holds_27 {g : zG} {d : Nat} {Q : Int32 → zM → Prop} {M : zM} {l1 : Int32} {l2 : Int32} {l3 : Int32} {l4 : Int32} (h : zCi shC g d mX3_allLetters [.ref 22] M (fun x1 M1 => (x1 < l4 → (¬ l2 = 0 → Q l3 M1) ∧ (l2 = 0 → zCi shC g d mJ6_bitCount_0f7a4 [.int l3] M1 (fun x2 M2 => Q x2 M2))) ∧ (¬ x1 < l4 → zCi shC g d mJ6_bitCount_0f7a4 [.int l4] M1 (fun x2 M2 => zCi shC g d mJ6_bitCount_0f7a4 [.int l3] M2 (fun x3 M3 => (x2 ≤ x3 → zW shC g (d + 1) mX8_holds (zi Q) 27 [(0, .ref 0), (1, .int l1), (2, .int l2), (3, .int l3), (4, .int (l4 + 1))] [] M3) ∧ (¬ x2 ≤ x3 → zCz shC g d mX3_differ [.ref 22, .int l4, .int l1] M3 (fun b1 M4 => (b1 = false → zW shC g (d + 1) mX8_holds (zi Q) 27 [(0, .ref 0), (1, .int l1), (2, .int l2), (3, .int l3), (4, .int (l4 + 1))] [] M4) ∧ (b1 = true → zW shC g (d + 1) mX8_holds (zi Q) 27 [(0, .ref 0), (1, .int l1), (2, .int l2), (3, .int l4), (4, .int (l4 + 1))] [] M4)))))))) : zW shC g (d + 1) mX8_holds (zi Q) 27 [(0, .ref 0), (1, .int l1), (2, .int l2), (3, .int l3), (4, .int l4)] [] M := by
  refine z_iload dX8_holds_27 4 rfl ?_
  refine z_aload_n dX8_holds_29 0 rfl ?_
  refine z_getr shC_0 rfl flX8_10 dX8_holds_30 ?_
  refine z_getr shC_1 rfl flX8_161 dX8_holds_33 ?_
  refine z_callV (m2 := mX3_allLetters) (st := [.int l4]) [] okX3_allLetters (Or.inl lkX8_321) shC_22 rfl rfl rfl (Nat.le_of_ble_eq_true rfl) dX8_holds_36 (zgo_i h fun x1 M1 h => ?_)
  refine z_icmp_gt 79 dX8_holds_39 (by decide) (fun c1 => ?_) (fun c1 => ?_)
  · have h := h.1 c1
    refine z_iload_n dX8_holds_79 2 rfl ?_
    refine z_if_ne 90 dX8_holds_80 (by decide) (fun c2 => ?_) (fun c2 => ?_)
    · have h := h.1 c2
      refine z_iload_n dX8_holds_90 3 rfl ?_
      exact z_iret (st := []) rfl rfl dX8_holds_91 ⟨_, rfl, h⟩
    · have h := h.2 c2
      refine z_iload_n dX8_holds_83 3 rfl ?_
      refine z_callS (m2 := mJ6_bitCount_0f7a4) (st := []) [.int l3] okJ6_bitCount_0f7a4 (Or.inl lkX8_283) rfl rfl (Nat.le_of_ble_eq_true rfl) dX8_holds_84 (zgo_i h fun x2 M2 h => ?_)
      refine z_goto 91 dX8_holds_87 (by decide) ?_
      exact z_iret (st := []) rfl rfl dX8_holds_91 ⟨_, rfl, h⟩
  · have h := h.2 c1
    refine z_iload dX8_holds_42 4 rfl ?_
    refine z_callS (m2 := mJ6_bitCount_0f7a4) (st := []) [.int l4] okJ6_bitCount_0f7a4 (Or.inl lkX8_283) rfl rfl (Nat.le_of_ble_eq_true rfl) dX8_holds_44 (zgo_i h fun x2 M2 h => ?_)
    refine z_iload_n dX8_holds_47 3 rfl ?_
    refine z_callS (m2 := mJ6_bitCount_0f7a4) (st := [.int x2]) [.int l3] okJ6_bitCount_0f7a4 (Or.inl lkX8_283) rfl rfl (Nat.le_of_ble_eq_true rfl) dX8_holds_48 (zgo_i h fun x3 M3 h => ?_)
    refine z_icmp_le 73 dX8_holds_51 (by decide) (fun c2 => ?_) (fun c2 => ?_)
    · have h := h.1 c2
      refine z_iinc (x := l4) (v := (l4 + 1)) [(4, .int (l4 + 1)), (0, .ref 0), (1, .int l1), (2, .int l2), (3, .int l3)] dX8_holds_73 4 rfl rfl (by decide) rfl ?_
      refine z_goto 27 dX8_holds_76 (by decide) ?_
      exact zW.sub [1, 2, 3, 4, 0] rfl h
    · have h := h.2 c2
      refine z_aload_n dX8_holds_54 0 rfl ?_
      refine z_getr shC_0 rfl flX8_10 dX8_holds_55 ?_
      refine z_getr shC_1 rfl flX8_161 dX8_holds_58 ?_
      refine z_iload dX8_holds_61 4 rfl ?_
      refine z_iload_n dX8_holds_63 1 rfl ?_
      refine z_callV (m2 := mX3_differ) (st := []) [.int l4, .int l1] okX3_differ (Or.inl lkX8_335) shC_22 rfl rfl rfl (Nat.le_of_ble_eq_true rfl) dX8_holds_64 (zgo_z h fun b1 M4 h => ?_)
      refine z_ifb_eq 73 dX8_holds_67 (by decide) (fun c3 => ?_) (fun c3 => ?_)
      · have h := h.1 c3
        refine z_iinc (x := l4) (v := (l4 + 1)) [(4, .int (l4 + 1)), (0, .ref 0), (1, .int l1), (2, .int l2), (3, .int l3)] dX8_holds_73 4 rfl rfl (by decide) rfl ?_
        refine z_goto 27 dX8_holds_76 (by decide) ?_
        exact zW.sub [1, 2, 3, 4, 0] rfl h
      · have h := h.2 c3
        refine z_iload dX8_holds_70 4 rfl ?_
        refine z_istore_n [(3, .int l4), (0, .ref 0), (1, .int l1), (2, .int l2), (4, .int l4)] dX8_holds_72 (by decide) rfl ?_
        refine z_iinc (x := l4) (v := (l4 + 1)) [(4, .int (l4 + 1)), (3, .int l4), (0, .ref 0), (1, .int l1), (2, .int l2)] dX8_holds_73 4 rfl rfl (by decide) rfl ?_
        refine z_goto 27 dX8_holds_76 (by decide) ?_
        exact zW.sub [2, 3, 4, 1, 0] rfl h
theorem dX8_parts_0 : decode cX8_parts 0 = .ok (.aload_n 0, 1) := by decide +kernel
theorem dX8_parts_1 : decode cX8_parts 1 = .ok (.getfield 10, 3) := by decide +kernel
theorem dX8_parts_4 : decode cX8_parts 4 = .ok (.iload_n 1, 1) := by decide +kernel
theorem dX8_parts_5 : decode cX8_parts 5 = .ok (.invokevirtual 97, 3) := by decide +kernel
theorem dX8_parts_8 : decode cX8_parts 8 = .ok (.ifCond .eq 23, 3) := by decide +kernel
theorem dX8_parts_11 : decode cX8_parts 11 = .ok (.aload_n 0, 1) := by decide +kernel
theorem dX8_parts_12 : decode cX8_parts 12 = .ok (.getfield 10, 3) := by decide +kernel
theorem dX8_parts_15 : decode cX8_parts 15 = .ok (.iload_n 2, 1) := by decide +kernel
theorem dX8_parts_16 : decode cX8_parts 16 = .ok (.invokevirtual 97, 3) := by decide +kernel
theorem dX8_parts_19 : decode cX8_parts 19 = .ok (.ifCond .eq 12, 3) := by decide +kernel
theorem dX8_parts_22 : decode cX8_parts 22 = .ok (.iload_n 1, 1) := by decide +kernel
theorem dX8_parts_23 : decode cX8_parts 23 = .ok (.iload_n 2, 1) := by decide +kernel
theorem dX8_parts_24 : decode cX8_parts 24 = .ok (.invokestatic 339, 3) := by decide +kernel
theorem dX8_parts_27 : decode cX8_parts 27 = .ok (.iconst 2, 1) := by decide +kernel
theorem dX8_parts_28 : decode cX8_parts 28 = .ok (.if_icmp .ge 5, 3) := by decide +kernel
theorem dX8_parts_31 : decode cX8_parts 31 = .ok (.iconst (-1), 1) := by decide +kernel
theorem dX8_parts_32 : decode cX8_parts 32 = .ok (.ireturn, 1) := by decide +kernel
theorem dX8_parts_33 : decode cX8_parts 33 = .ok (.aload_n 0, 1) := by decide +kernel
theorem dX8_parts_34 : decode cX8_parts 34 = .ok (.getfield 76, 3) := by decide +kernel
theorem dX8_parts_37 : decode cX8_parts 37 = .ok (.aload_n 0, 1) := by decide +kernel
theorem dX8_parts_38 : decode cX8_parts 38 = .ok (.getfield 10, 3) := by decide +kernel
theorem dX8_parts_41 : decode cX8_parts 41 = .ok (.iload_n 1, 1) := by decide +kernel
theorem dX8_parts_42 : decode cX8_parts 42 = .ok (.iload_n 2, 1) := by decide +kernel
theorem dX8_parts_43 : decode cX8_parts 43 = .ok (.invokevirtual 342, 3) := by decide +kernel
theorem dX8_parts_46 : decode cX8_parts 46 = .ok (.ireturn, 1) := by decide +kernel
set_option maxRecDepth 20000 in
theorem vX8_parts {g : zG} {d : Nat} {Q : Int32 → zM → Prop} {M : zM} {l1 : Int32} {l2 : Int32} (h : zCz shC g d mX7_isCell [.ref 1, .int l1] M (fun b1 M1 => (b1 = false → Q (-1) M1) ∧ (b1 = true → zCz shC g d mX7_isCell [.ref 1, .int l2] M1 (fun b2 M2 => (b2 = false → Q (-1) M2) ∧ (b2 = true → zCi shC g d mX8_distance [.int l1, .int l2] M2 (fun x1 M3 => (2 ≤ x1 → zCi shC g d mX0_between [.ref 123, .ref 1, .int l1, .int l2] M3 (fun x2 M4 => Q x2 M4)) ∧ (¬ 2 ≤ x1 → Q (-1) M3))))))) : zCi shC g (d + 1) mX8_parts [.ref 0, .int l1, .int l2] M Q := by
  refine zW.enter (by decide +kernel) (Nat.le_of_ble_eq_true rfl) ?_
  change zW shC g (d + 1) mX8_parts (zi Q) 0 [(0, .ref 0), (1, .int l1), (2, .int l2)] [] M
  refine z_aload_n dX8_parts_0 0 rfl ?_
  refine z_getr shC_0 rfl flX8_10 dX8_parts_1 ?_
  refine z_iload_n dX8_parts_4 1 rfl ?_
  refine z_callV (m2 := mX7_isCell) (st := []) [.int l1] okX7_isCell (Or.inl lkX8_97) shC_1 rfl rfl rfl (Nat.le_of_ble_eq_true rfl) dX8_parts_5 (zgo_z h fun b1 M1 h => ?_)
  refine z_ifb_eq 31 dX8_parts_8 (by decide) (fun c1 => ?_) (fun c1 => ?_)
  · have h := h.1 c1
    refine z_iconst (v := (-1)) dX8_parts_31 (by decide) ?_
    exact z_iret (st := []) rfl rfl dX8_parts_32 ⟨_, rfl, h⟩
  · have h := h.2 c1
    refine z_aload_n dX8_parts_11 0 rfl ?_
    refine z_getr shC_0 rfl flX8_10 dX8_parts_12 ?_
    refine z_iload_n dX8_parts_15 2 rfl ?_
    refine z_callV (m2 := mX7_isCell) (st := []) [.int l2] okX7_isCell (Or.inl lkX8_97) shC_1 rfl rfl rfl (Nat.le_of_ble_eq_true rfl) dX8_parts_16 (zgo_z h fun b2 M2 h => ?_)
    refine z_ifb_eq 31 dX8_parts_19 (by decide) (fun c2 => ?_) (fun c2 => ?_)
    · have h := h.1 c2
      refine z_iconst (v := (-1)) dX8_parts_31 (by decide) ?_
      exact z_iret (st := []) rfl rfl dX8_parts_32 ⟨_, rfl, h⟩
    · have h := h.2 c2
      refine z_iload_n dX8_parts_22 1 rfl ?_
      refine z_iload_n dX8_parts_23 2 rfl ?_
      refine z_callS (m2 := mX8_distance) (st := []) [.int l1, .int l2] okX8_distance (Or.inl lkX8_339) rfl rfl (Nat.le_of_ble_eq_true rfl) dX8_parts_24 (zgo_i h fun x1 M3 h => ?_)
      refine z_iconst (v := 2) dX8_parts_27 (by decide) ?_
      refine z_icmp_ge 33 dX8_parts_28 (by decide) (fun c3 => ?_) (fun c3 => ?_)
      · have h := h.1 c3
        refine z_aload_n dX8_parts_33 0 rfl ?_
        refine z_getr shC_0 rfl flX8_76 dX8_parts_34 ?_
        refine z_aload_n dX8_parts_37 0 rfl ?_
        refine z_getr shC_0 rfl flX8_10 dX8_parts_38 ?_
        refine z_iload_n dX8_parts_41 1 rfl ?_
        refine z_iload_n dX8_parts_42 2 rfl ?_
        refine z_callV (m2 := mX0_between) (st := []) [.ref 1, .int l1, .int l2] okX0_between (Or.inl lkX8_342) shC_123 rfl rfl rfl (Nat.le_of_ble_eq_true rfl) dX8_parts_43 (zgo_i h fun x2 M4 h => ?_)
        exact z_iret (st := []) rfl rfl dX8_parts_46 ⟨_, rfl, h⟩
      · have h := h.2 c3
        refine z_iconst (v := (-1)) dX8_parts_31 (by decide) ?_
        exact z_iret (st := []) rfl rfl dX8_parts_32 ⟨_, rfl, h⟩
theorem dX8_yet_0 : decode cX8_yet 0 = .ok (.aload_n 0, 1) := by decide +kernel
theorem dX8_yet_1 : decode cX8_yet 1 = .ok (.getfield 10, 3) := by decide +kernel
theorem dX8_yet_4 : decode cX8_yet 4 = .ok (.iload_n 1, 1) := by decide +kernel
theorem dX8_yet_5 : decode cX8_yet 5 = .ok (.invokevirtual 97, 3) := by decide +kernel
theorem dX8_yet_8 : decode cX8_yet 8 = .ok (.ifCond .eq 25, 3) := by decide +kernel
theorem dX8_yet_11 : decode cX8_yet 11 = .ok (.iload_n 2, 1) := by decide +kernel
theorem dX8_yet_12 : decode cX8_yet 12 = .ok (.iconst 1, 1) := by decide +kernel
theorem dX8_yet_13 : decode cX8_yet 13 = .ok (.if_icmp .lt 20, 3) := by decide +kernel
theorem dX8_yet_16 : decode cX8_yet 16 = .ok (.iload_n 2, 1) := by decide +kernel
theorem dX8_yet_17 : decode cX8_yet 17 = .ok (.bipush 99, 2) := by decide +kernel
theorem dX8_yet_19 : decode cX8_yet 19 = .ok (.if_icmp .gt 14, 3) := by decide +kernel
theorem dX8_yet_22 : decode cX8_yet 22 = .ok (.iload_n 3, 1) := by decide +kernel
theorem dX8_yet_23 : decode cX8_yet 23 = .ok (.ifCond .lt 10, 3) := by decide +kernel
theorem dX8_yet_26 : decode cX8_yet 26 = .ok (.iload_n 3, 1) := by decide +kernel
theorem dX8_yet_27 : decode cX8_yet 27 = .ok (.sipush 1000, 3) := by decide +kernel
theorem dX8_yet_30 : decode cX8_yet 30 = .ok (.if_icmp .le 5, 3) := by decide +kernel
theorem dX8_yet_33 : decode cX8_yet 33 = .ok (.iconst (-1), 1) := by decide +kernel
theorem dX8_yet_34 : decode cX8_yet 34 = .ok (.ireturn, 1) := by decide +kernel
theorem dX8_yet_35 : decode cX8_yet 35 = .ok (.aload_n 0, 1) := by decide +kernel
theorem dX8_yet_36 : decode cX8_yet 36 = .ok (.getfield 80, 3) := by decide +kernel
theorem dX8_yet_39 : decode cX8_yet 39 = .ok (.iconst 0, 1) := by decide +kernel
theorem dX8_yet_40 : decode cX8_yet 40 = .ok (.invokestatic 346, 3) := by decide +kernel
theorem dX8_yet_43 : decode cX8_yet 43 = .ok (.aload_n 0, 1) := by decide +kernel
theorem dX8_yet_44 : decode cX8_yet 44 = .ok (.getfield 80, 3) := by decide +kernel
theorem dX8_yet_47 : decode cX8_yet 47 = .ok (.aload_n 0, 1) := by decide +kernel
theorem dX8_yet_48 : decode cX8_yet 48 = .ok (.getfield 10, 3) := by decide +kernel
theorem dX8_yet_51 : decode cX8_yet 51 = .ok (.getfield 88, 3) := by decide +kernel
theorem dX8_yet_54 : decode cX8_yet 54 = .ok (.getfield 118, 3) := by decide +kernel
theorem dX8_yet_57 : decode cX8_yet 57 = .ok (.iload_n 1, 1) := by decide +kernel
theorem dX8_yet_58 : decode cX8_yet 58 = .ok (.iaload, 1) := by decide +kernel
theorem dX8_yet_59 : decode cX8_yet 59 = .ok (.ldc_w 351, 3) := by decide +kernel
theorem dX8_yet_62 : decode cX8_yet 62 = .ok (.iastore, 1) := by decide +kernel
theorem dX8_yet_63 : decode cX8_yet 63 = .ok (.iconst 0, 1) := by decide +kernel
theorem dX8_yet_64 : decode cX8_yet 64 = .ok (.istore 4, 2) := by decide +kernel
theorem dX8_yet_66 : decode cX8_yet 66 = .ok (.iload 4, 2) := by decide +kernel
theorem dX8_yet_68 : decode cX8_yet 68 = .ok (.iload_n 2, 1) := by decide +kernel
theorem dX8_yet_69 : decode cX8_yet 69 = .ok (.if_icmp .ge 14, 3) := by decide +kernel
theorem dX8_yet_72 : decode cX8_yet 72 = .ok (.aload_n 0, 1) := by decide +kernel
theorem dX8_yet_73 : decode cX8_yet 73 = .ok (.iload_n 3, 1) := by decide +kernel
theorem dX8_yet_74 : decode cX8_yet 74 = .ok (.invokevirtual 352, 3) := by decide +kernel
theorem dX8_yet_77 : decode cX8_yet 77 = .ok (.iinc 4 1, 3) := by decide +kernel
theorem dX8_yet_80 : decode cX8_yet 80 = .ok (.goto (-14), 3) := by decide +kernel
theorem dX8_yet_83 : decode cX8_yet 83 = .ok (.iconst 0, 1) := by decide +kernel
theorem dX8_yet_84 : decode cX8_yet 84 = .ok (.istore 4, 2) := by decide +kernel
theorem dX8_yet_86 : decode cX8_yet 86 = .ok (.aload_n 0, 1) := by decide +kernel
theorem dX8_yet_87 : decode cX8_yet 87 = .ok (.getfield 10, 3) := by decide +kernel
theorem dX8_yet_90 : decode cX8_yet 90 = .ok (.getfield 112, 3) := by decide +kernel
theorem dX8_yet_93 : decode cX8_yet 93 = .ok (.istore 5, 2) := by decide +kernel
theorem dX8_yet_95 : decode cX8_yet 95 = .ok (.iload 5, 2) := by decide +kernel
theorem dX8_yet_97 : decode cX8_yet 97 = .ok (.bipush 9, 2) := by decide +kernel
theorem dX8_yet_99 : decode cX8_yet 99 = .ok (.if_icmp .gt 21, 3) := by decide +kernel
theorem dX8_yet_102 : decode cX8_yet 102 = .ok (.iload 4, 2) := by decide +kernel
theorem dX8_yet_104 : decode cX8_yet 104 = .ok (.aload_n 0, 1) := by decide +kernel
theorem dX8_yet_105 : decode cX8_yet 105 = .ok (.getfield 80, 3) := by decide +kernel
theorem dX8_yet_108 : decode cX8_yet 108 = .ok (.iload 5, 2) := by decide +kernel
theorem dX8_yet_110 : decode cX8_yet 110 = .ok (.iaload, 1) := by decide +kernel
theorem dX8_yet_111 : decode cX8_yet 111 = .ok (.iadd, 1) := by decide +kernel
theorem dX8_yet_112 : decode cX8_yet 112 = .ok (.istore 4, 2) := by decide +kernel
theorem dX8_yet_114 : decode cX8_yet 114 = .ok (.iinc 5 1, 3) := by decide +kernel
theorem dX8_yet_117 : decode cX8_yet 117 = .ok (.goto (-22), 3) := by decide +kernel
theorem dX8_yet_120 : decode cX8_yet 120 = .ok (.iload 4, 2) := by decide +kernel
theorem dX8_yet_122 : decode cX8_yet 122 = .ok (.ireturn, 1) := by decide +kernel
set_option maxRecDepth 20000 in
theorem vX8_yet {g : zG} {d : Nat} {Q : Int32 → zM → Prop} {M : zM} {l1 : Int32} {l2 : Int32} {l3 : Int32} (h : zCz shC g d mX7_isCell [.ref 1, .int l1] M (fun b1 M1 => (b1 = false → Q (-1) M1) ∧ (b1 = true → (l2 < 1 → Q (-1) M1) ∧ (¬ l2 < 1 → (99 < l2 → Q (-1) M1) ∧ (¬ 99 < l2 → (l3 < 0 → Q (-1) M1) ∧ (¬ l3 < 0 → (l3 ≤ 1000 → zCv shC g d mJ7_fill_53178 [.ref 128, .int 0] M1 (fun  M2 => ∃ k1 : Nat, l1 = iv k1 ∧ k1 < 64 ∧ ∃ k2 : Nat, (M2 4 k1) = iv k2 ∧ k2 < 10 ∧ zW shC g (d + 1) mX8_yet (zi Q) 66 [(0, .ref 0), (2, .int l2), (3, .int l3), (4, .int 0)] [] (zup M2 128 k2 1000000))) ∧ (¬ l3 ≤ 1000 → Q (-1) M1))))))) : zCi shC g (d + 1) mX8_yet [.ref 0, .int l1, .int l2, .int l3] M Q := by
  refine zW.enter (by decide +kernel) (Nat.le_of_ble_eq_true rfl) ?_
  change zW shC g (d + 1) mX8_yet (zi Q) 0 [(0, .ref 0), (1, .int l1), (2, .int l2), (3, .int l3)] [] M
  refine z_aload_n dX8_yet_0 0 rfl ?_
  refine z_getr shC_0 rfl flX8_10 dX8_yet_1 ?_
  refine z_iload_n dX8_yet_4 1 rfl ?_
  refine z_callV (m2 := mX7_isCell) (st := []) [.int l1] okX7_isCell (Or.inl lkX8_97) shC_1 rfl rfl rfl (Nat.le_of_ble_eq_true rfl) dX8_yet_5 (zgo_z h fun b1 M1 h => ?_)
  refine z_ifb_eq 33 dX8_yet_8 (by decide) (fun c1 => ?_) (fun c1 => ?_)
  · have h := h.1 c1
    refine z_iconst (v := (-1)) dX8_yet_33 (by decide) ?_
    exact z_iret (st := []) rfl rfl dX8_yet_34 ⟨_, rfl, h⟩
  · have h := h.2 c1
    refine z_iload_n dX8_yet_11 2 rfl ?_
    refine z_iconst (v := 1) dX8_yet_12 (by decide) ?_
    refine z_icmp_lt 33 dX8_yet_13 (by decide) (fun c2 => ?_) (fun c2 => ?_)
    · have h := h.1 c2
      refine z_iconst (v := (-1)) dX8_yet_33 (by decide) ?_
      exact z_iret (st := []) rfl rfl dX8_yet_34 ⟨_, rfl, h⟩
    · have h := h.2 c2
      refine z_iload_n dX8_yet_16 2 rfl ?_
      refine z_bipush (v := 99) dX8_yet_17 (by decide) ?_
      refine z_icmp_gt 33 dX8_yet_19 (by decide) (fun c3 => ?_) (fun c3 => ?_)
      · have h := h.1 c3
        refine z_iconst (v := (-1)) dX8_yet_33 (by decide) ?_
        exact z_iret (st := []) rfl rfl dX8_yet_34 ⟨_, rfl, h⟩
      · have h := h.2 c3
        refine z_iload_n dX8_yet_22 3 rfl ?_
        refine z_if_lt 33 dX8_yet_23 (by decide) (fun c4 => ?_) (fun c4 => ?_)
        · have h := h.1 c4
          refine z_iconst (v := (-1)) dX8_yet_33 (by decide) ?_
          exact z_iret (st := []) rfl rfl dX8_yet_34 ⟨_, rfl, h⟩
        · have h := h.2 c4
          refine z_iload_n dX8_yet_26 3 rfl ?_
          refine z_sipush (v := 1000) dX8_yet_27 (by decide) ?_
          refine z_icmp_le 35 dX8_yet_30 (by decide) (fun c5 => ?_) (fun c5 => ?_)
          · have h := h.1 c5
            refine z_aload_n dX8_yet_35 0 rfl ?_
            refine z_getr shC_0 rfl flX8_80 dX8_yet_36 ?_
            refine z_iconst (v := 0) dX8_yet_39 (by decide) ?_
            refine z_callS (m2 := mJ7_fill_53178) (st := []) [.ref 128, .int 0] okJ7_fill_53178 (Or.inl lkX8_346) rfl rfl (Nat.le_of_ble_eq_true rfl) dX8_yet_40 (zgo_v h fun  M2 h => ?_)
            refine z_aload_n dX8_yet_43 0 rfl ?_
            refine z_getr shC_0 rfl flX8_80 dX8_yet_44 ?_
            refine z_aload_n dX8_yet_47 0 rfl ?_
            refine z_getr shC_0 rfl flX8_10 dX8_yet_48 ?_
            refine z_getr shC_1 rfl flX8_88 dX8_yet_51 ?_
            refine z_getr shC_3 rfl flX8_118 dX8_yet_54 ?_
            refine z_iload_n dX8_yet_57 1 rfl ?_
            obtain ⟨k1, ek1, uk1, h⟩ := h
            refine z_iald2 (k0 := k1) shC_4 (by decide) ek1 uk1 dX8_yet_58 ?_
            refine z_ldcw dX8_yet_59 kcX8_351 ?_
            obtain ⟨k2, ek2, uk2, h⟩ := h
            refine z_iast2 (k0 := k2) shC_128 (by decide) ek2 uk2 dX8_yet_62 ?_
            refine z_iconst (v := 0) dX8_yet_63 (by decide) ?_
            refine z_istore [(4, .int 0), (0, .ref 0), (1, .int l1), (2, .int l2), (3, .int l3)] dX8_yet_64 (by decide) rfl ?_
            exact zW.sub [1, 3, 4, 0] rfl h
          · have h := h.2 c5
            refine z_iconst (v := (-1)) dX8_yet_33 (by decide) ?_
            exact z_iret (st := []) rfl rfl dX8_yet_34 ⟨_, rfl, h⟩
set_option maxRecDepth 20000 in
theorem vX8_yet_66 {g : zG} {d : Nat} {Q : Int32 → zM → Prop} {M : zM} {l2 : Int32} {l3 : Int32} {l4 : Int32} (h : (l2 ≤ l4 → zW shC g (d + 1) mX8_yet (zi Q) 95 [(0, .ref 0), (4, .int 0), (5, .int (M 1 2))] [] M) ∧ (¬ l2 ≤ l4 → zCv shC g d mX8_loseOne [.ref 0, .int l3] M (fun  M1 => zW shC g (d + 1) mX8_yet (zi Q) 66 [(0, .ref 0), (2, .int l2), (3, .int l3), (4, .int (l4 + 1))] [] M1))) : zW shC g (d + 1) mX8_yet (zi Q) 66 [(0, .ref 0), (2, .int l2), (3, .int l3), (4, .int l4)] [] M := by
  refine z_iload dX8_yet_66 3 rfl ?_
  refine z_iload_n dX8_yet_68 1 rfl ?_
  refine z_icmp_ge 83 dX8_yet_69 (by decide) (fun c1 => ?_) (fun c1 => ?_)
  · have h := h.1 c1
    refine z_iconst (v := 0) dX8_yet_83 (by decide) ?_
    refine z_istore [(4, .int 0), (0, .ref 0), (2, .int l2), (3, .int l3)] dX8_yet_84 (by decide) rfl ?_
    refine z_aload_n dX8_yet_86 1 rfl ?_
    refine z_getr shC_0 rfl flX8_10 dX8_yet_87 ?_
    refine z_geti shC_1 rfl flX8_112 dX8_yet_90 ?_
    refine z_istore [(5, .int (M 1 2)), (4, .int 0), (0, .ref 0), (2, .int l2), (3, .int l3)] dX8_yet_93 (by decide) rfl ?_
    exact zW.sub [2, 1, 0] rfl h
  · have h := h.2 c1
    refine z_aload_n dX8_yet_72 0 rfl ?_
    refine z_iload_n dX8_yet_73 2 rfl ?_
    refine z_callV (m2 := mX8_loseOne) (st := []) [.int l3] okX8_loseOne (Or.inl lkX8_352) shC_0 rfl rfl rfl (Nat.le_of_ble_eq_true rfl) dX8_yet_74 (zgo_v h fun  M1 h => ?_)
    refine z_iinc (x := l4) (v := (l4 + 1)) [(4, .int (l4 + 1)), (0, .ref 0), (2, .int l2), (3, .int l3)] dX8_yet_77 3 rfl rfl (by decide) rfl ?_
    refine z_goto 66 dX8_yet_80 (by decide) ?_
    exact zW.sub [1, 2, 3, 0] rfl h
set_option maxRecDepth 20000 in
theorem vX8_yet_95 {g : zG} {d : Nat} {Q : Int32 → zM → Prop} {M : zM} {l4 : Int32} {l5 : Int32} (h : (9 < l5 → Q l4 M) ∧ (¬ 9 < l5 → ∃ k1 : Nat, l5 = iv k1 ∧ k1 < 10 ∧ zW shC g (d + 1) mX8_yet (zi Q) 95 [(0, .ref 0), (4, .int (l4 + (M 128 k1))), (5, .int (l5 + 1))] [] M)) : zW shC g (d + 1) mX8_yet (zi Q) 95 [(0, .ref 0), (4, .int l4), (5, .int l5)] [] M := by
  refine z_iload dX8_yet_95 2 rfl ?_
  refine z_bipush (v := 9) dX8_yet_97 (by decide) ?_
  refine z_icmp_gt 120 dX8_yet_99 (by decide) (fun c1 => ?_) (fun c1 => ?_)
  · have h := h.1 c1
    refine z_iload dX8_yet_120 1 rfl ?_
    exact z_iret (st := []) rfl rfl dX8_yet_122 ⟨_, rfl, h⟩
  · have h := h.2 c1
    refine z_iload dX8_yet_102 1 rfl ?_
    refine z_aload_n dX8_yet_104 0 rfl ?_
    refine z_getr shC_0 rfl flX8_80 dX8_yet_105 ?_
    refine z_iload dX8_yet_108 2 rfl ?_
    obtain ⟨k1, ek1, uk1, h⟩ := h
    refine z_iald2 (k0 := k1) shC_128 (by decide) ek1 uk1 dX8_yet_110 ?_
    refine z_iadd dX8_yet_111 ?_
    refine z_istore [(4, .int (l4 + (M 128 k1))), (0, .ref 0), (5, .int l5)] dX8_yet_112 (by decide) rfl ?_
    refine z_iinc (x := l5) (v := (l5 + 1)) [(5, .int (l5 + 1)), (4, .int (l4 + (M 128 k1))), (0, .ref 0)] dX8_yet_114 2 rfl rfl (by decide) rfl ?_
    refine z_goto 95 dX8_yet_117 (by decide) ?_
    exact zW.sub [2, 1, 0] rfl h
theorem dX8_loseOne_0 : decode cX8_loseOne 0 = .ok (.iconst 1, 1) := by decide +kernel
theorem dX8_loseOne_1 : decode cX8_loseOne 1 = .ok (.istore_n 2, 1) := by decide +kernel
theorem dX8_loseOne_2 : decode cX8_loseOne 2 = .ok (.iload_n 2, 1) := by decide +kernel
theorem dX8_loseOne_3 : decode cX8_loseOne 3 = .ok (.bipush 9, 2) := by decide +kernel
theorem dX8_loseOne_5 : decode cX8_loseOne 5 = .ok (.if_icmp .gt 44, 3) := by decide +kernel
theorem dX8_loseOne_8 : decode cX8_loseOne 8 = .ok (.aload_n 0, 1) := by decide +kernel
theorem dX8_loseOne_9 : decode cX8_loseOne 9 = .ok (.getfield 80, 3) := by decide +kernel
theorem dX8_loseOne_12 : decode cX8_loseOne 12 = .ok (.iload_n 2, 1) := by decide +kernel
theorem dX8_loseOne_13 : decode cX8_loseOne 13 = .ok (.iaload, 1) := by decide +kernel
theorem dX8_loseOne_14 : decode cX8_loseOne 14 = .ok (.iload_n 1, 1) := by decide +kernel
theorem dX8_loseOne_15 : decode cX8_loseOne 15 = .ok (.imul, 1) := by decide +kernel
theorem dX8_loseOne_16 : decode cX8_loseOne 16 = .ok (.sipush 1000, 3) := by decide +kernel
theorem dX8_loseOne_19 : decode cX8_loseOne 19 = .ok (.idiv, 1) := by decide +kernel
theorem dX8_loseOne_20 : decode cX8_loseOne 20 = .ok (.istore_n 3, 1) := by decide +kernel
theorem dX8_loseOne_21 : decode cX8_loseOne 21 = .ok (.aload_n 0, 1) := by decide +kernel
theorem dX8_loseOne_22 : decode cX8_loseOne 22 = .ok (.getfield 80, 3) := by decide +kernel
theorem dX8_loseOne_25 : decode cX8_loseOne 25 = .ok (.iload_n 2, 1) := by decide +kernel
theorem dX8_loseOne_26 : decode cX8_loseOne 26 = .ok (.dup2, 1) := by decide +kernel
theorem dX8_loseOne_27 : decode cX8_loseOne 27 = .ok (.iaload, 1) := by decide +kernel
theorem dX8_loseOne_28 : decode cX8_loseOne 28 = .ok (.iload_n 3, 1) := by decide +kernel
theorem dX8_loseOne_29 : decode cX8_loseOne 29 = .ok (.isub, 1) := by decide +kernel
theorem dX8_loseOne_30 : decode cX8_loseOne 30 = .ok (.iastore, 1) := by decide +kernel
theorem dX8_loseOne_31 : decode cX8_loseOne 31 = .ok (.aload_n 0, 1) := by decide +kernel
theorem dX8_loseOne_32 : decode cX8_loseOne 32 = .ok (.getfield 80, 3) := by decide +kernel
theorem dX8_loseOne_35 : decode cX8_loseOne 35 = .ok (.iload_n 2, 1) := by decide +kernel
theorem dX8_loseOne_36 : decode cX8_loseOne 36 = .ok (.iconst 1, 1) := by decide +kernel
theorem dX8_loseOne_37 : decode cX8_loseOne 37 = .ok (.isub, 1) := by decide +kernel
theorem dX8_loseOne_38 : decode cX8_loseOne 38 = .ok (.dup2, 1) := by decide +kernel
theorem dX8_loseOne_39 : decode cX8_loseOne 39 = .ok (.iaload, 1) := by decide +kernel
theorem dX8_loseOne_40 : decode cX8_loseOne 40 = .ok (.iload_n 3, 1) := by decide +kernel
theorem dX8_loseOne_41 : decode cX8_loseOne 41 = .ok (.iadd, 1) := by decide +kernel
theorem dX8_loseOne_42 : decode cX8_loseOne 42 = .ok (.iastore, 1) := by decide +kernel
theorem dX8_loseOne_43 : decode cX8_loseOne 43 = .ok (.iinc 2 1, 3) := by decide +kernel
theorem dX8_loseOne_46 : decode cX8_loseOne 46 = .ok (.goto (-44), 3) := by decide +kernel
theorem dX8_loseOne_49 : decode cX8_loseOne 49 = .ok (.return_, 1) := by decide +kernel
set_option maxRecDepth 20000 in
theorem vX8_loseOne {g : zG} {d : Nat} {Q : zM → Prop} {M : zM} {l1 : Int32} (h : zW shC g d mX8_loseOne (zv Q) 2 [(0, .ref 0), (1, .int l1), (2, .int 1)] [] M) : zCv shC g d mX8_loseOne [.ref 0, .int l1] M Q := by
  refine zW.enter (by decide +kernel) (Nat.le_of_ble_eq_true rfl) ?_
  change zW shC g d mX8_loseOne (zv Q) 0 [(0, .ref 0), (1, .int l1)] [] M
  refine z_iconst (v := 1) dX8_loseOne_0 (by decide) ?_
  refine z_istore_n [(2, .int 1), (0, .ref 0), (1, .int l1)] dX8_loseOne_1 (by decide) rfl ?_
  exact zW.sub [1, 2, 0] rfl h
set_option maxRecDepth 20000 in
theorem vX8_loseOne_2 {g : zG} {d : Nat} {Q : zM → Prop} {M : zM} {l1 : Int32} {l2 : Int32} (h : (9 < l2 → Q M) ∧ (¬ 9 < l2 → ∃ k1 : Nat, l2 = iv k1 ∧ k1 < 10 ∧ ∃ k2 : Nat, (l2 - 1) = iv k2 ∧ k2 < 10 ∧ ∀ v1 : Int32, v1 = (((zup M 128 k1 ((M 128 k1) - (((M 128 k1) * l1) / 1000))) 128 k2) + (((M 128 k1) * l1) / 1000)) → zW shC g d mX8_loseOne (zv Q) 2 [(0, .ref 0), (1, .int l1), (2, .int (l2 + 1))] [] (zup (zup M 128 k1 ((M 128 k1) - (((M 128 k1) * l1) / 1000))) 128 k2 v1))) : zW shC g d mX8_loseOne (zv Q) 2 [(0, .ref 0), (1, .int l1), (2, .int l2)] [] M := by
  refine z_iload_n dX8_loseOne_2 2 rfl ?_
  refine z_bipush (v := 9) dX8_loseOne_3 (by decide) ?_
  refine z_icmp_gt 49 dX8_loseOne_5 (by decide) (fun c1 => ?_) (fun c1 => ?_)
  · have h := h.1 c1
    exact z_vret (st := []) rfl dX8_loseOne_49 ⟨rfl, h⟩
  · have h := h.2 c1
    refine z_aload_n dX8_loseOne_8 0 rfl ?_
    refine z_getr shC_0 rfl flX8_80 dX8_loseOne_9 ?_
    refine z_iload_n dX8_loseOne_12 2 rfl ?_
    obtain ⟨k1, ek1, uk1, h⟩ := h
    refine z_iald2 (k0 := k1) shC_128 (by decide) ek1 uk1 dX8_loseOne_13 ?_
    refine z_iload_n dX8_loseOne_14 1 rfl ?_
    refine z_imul dX8_loseOne_15 ?_
    refine z_sipush (v := 1000) dX8_loseOne_16 (by decide) ?_
    refine z_idiv dX8_loseOne_19 (by decide) ?_
    refine z_istore_n [(3, .int (((M 128 k1) * l1) / 1000)), (0, .ref 0), (1, .int l1), (2, .int l2)] dX8_loseOne_20 (by decide) rfl ?_
    refine z_aload_n dX8_loseOne_21 1 rfl ?_
    refine z_getr shC_0 rfl flX8_80 dX8_loseOne_22 ?_
    refine z_iload_n dX8_loseOne_25 3 rfl ?_
    refine z_dup2 dX8_loseOne_26 ?_
    refine z_iald2 (k0 := k1) shC_128 (by decide) ek1 uk1 dX8_loseOne_27 ?_
    refine z_iload_n dX8_loseOne_28 0 rfl ?_
    refine z_isub dX8_loseOne_29 ?_
    refine z_iast2 (k0 := k1) shC_128 (by decide) ek1 uk1 dX8_loseOne_30 ?_
    refine z_aload_n dX8_loseOne_31 1 rfl ?_
    refine z_getr shC_0 rfl flX8_80 dX8_loseOne_32 ?_
    refine z_iload_n dX8_loseOne_35 3 rfl ?_
    refine z_iconst (v := 1) dX8_loseOne_36 (by decide) ?_
    refine z_isub dX8_loseOne_37 ?_
    refine z_dup2 dX8_loseOne_38 ?_
    obtain ⟨k2, ek2, uk2, h⟩ := h
    refine z_iald2 (k0 := k2) shC_128 (by decide) ek2 uk2 dX8_loseOne_39 ?_
    refine z_iload_n dX8_loseOne_40 0 rfl ?_
    refine z_iadd dX8_loseOne_41 ?_
    obtain ⟨v1, ev1⟩ : ∃ y : Int32, y = (((zup M 128 k1 ((M 128 k1) - (((M 128 k1) * l1) / 1000))) 128 k2) + (((M 128 k1) * l1) / 1000)) := ⟨_, rfl⟩
    refine z_topi v1 ev1 ?_
    have h := h v1 ev1
    refine z_iast2 (k0 := k2) shC_128 (by decide) ek2 uk2 dX8_loseOne_42 ?_
    refine z_iinc (x := l2) (v := (l2 + 1)) [(2, .int (l2 + 1)), (3, .int (((M 128 k1) * l1) / 1000)), (0, .ref 0), (1, .int l1)] dX8_loseOne_43 3 rfl rfl (by decide) rfl ?_
    refine z_goto 2 dX8_loseOne_46 (by decide) ?_
    exact zW.sub [2, 3, 0] rfl h
theorem dX8_heard_0 : decode cX8_heard 0 = .ok (.aload_n 0, 1) := by decide +kernel
theorem dX8_heard_1 : decode cX8_heard 1 = .ok (.getfield 10, 3) := by decide +kernel
theorem dX8_heard_4 : decode cX8_heard 4 = .ok (.iload_n 1, 1) := by decide +kernel
theorem dX8_heard_5 : decode cX8_heard 5 = .ok (.invokevirtual 121, 3) := by decide +kernel
theorem dX8_heard_8 : decode cX8_heard 8 = .ok (.ifCond .eq 13, 3) := by decide +kernel
theorem dX8_heard_11 : decode cX8_heard 11 = .ok (.iload_n 2, 1) := by decide +kernel
theorem dX8_heard_12 : decode cX8_heard 12 = .ok (.ifCond .lt 9, 3) := by decide +kernel
theorem dX8_heard_15 : decode cX8_heard 15 = .ok (.iload_n 2, 1) := by decide +kernel
theorem dX8_heard_16 : decode cX8_heard 16 = .ok (.bipush 9, 2) := by decide +kernel
theorem dX8_heard_18 : decode cX8_heard 18 = .ok (.if_icmp .le 7, 3) := by decide +kernel
theorem dX8_heard_21 : decode cX8_heard 21 = .ok (.ldc2_w 270, 3) := by decide +kernel
theorem dX8_heard_24 : decode cX8_heard 24 = .ok (.lreturn, 1) := by decide +kernel
theorem dX8_heard_25 : decode cX8_heard 25 = .ok (.aload_n 0, 1) := by decide +kernel
theorem dX8_heard_26 : decode cX8_heard 26 = .ok (.getfield 10, 3) := by decide +kernel
theorem dX8_heard_29 : decode cX8_heard 29 = .ok (.getfield 88, 3) := by decide +kernel
theorem dX8_heard_32 : decode cX8_heard 32 = .ok (.getfield 124, 3) := by decide +kernel
theorem dX8_heard_35 : decode cX8_heard 35 = .ok (.iload_n 1, 1) := by decide +kernel
theorem dX8_heard_36 : decode cX8_heard 36 = .ok (.iaload, 1) := by decide +kernel
theorem dX8_heard_37 : decode cX8_heard 37 = .ok (.istore_n 3, 1) := by decide +kernel
theorem dX8_heard_38 : decode cX8_heard 38 = .ok (.lconst 0, 1) := by decide +kernel
theorem dX8_heard_39 : decode cX8_heard 39 = .ok (.lstore 4, 2) := by decide +kernel
theorem dX8_heard_41 : decode cX8_heard 41 = .ok (.iconst 0, 1) := by decide +kernel
theorem dX8_heard_42 : decode cX8_heard 42 = .ok (.istore 6, 2) := by decide +kernel
theorem dX8_heard_44 : decode cX8_heard 44 = .ok (.iload 6, 2) := by decide +kernel
theorem dX8_heard_46 : decode cX8_heard 46 = .ok (.bipush 64, 2) := by decide +kernel
theorem dX8_heard_48 : decode cX8_heard 48 = .ok (.if_icmp .ge 40, 3) := by decide +kernel
theorem dX8_heard_51 : decode cX8_heard 51 = .ok (.aload_n 0, 1) := by decide +kernel
theorem dX8_heard_52 : decode cX8_heard 52 = .ok (.getfield 10, 3) := by decide +kernel
theorem dX8_heard_55 : decode cX8_heard 55 = .ok (.iload 6, 2) := by decide +kernel
theorem dX8_heard_57 : decode cX8_heard 57 = .ok (.invokevirtual 97, 3) := by decide +kernel
theorem dX8_heard_60 : decode cX8_heard 60 = .ok (.ifCond .eq 22, 3) := by decide +kernel
theorem dX8_heard_63 : decode cX8_heard 63 = .ok (.iload_n 3, 1) := by decide +kernel
theorem dX8_heard_64 : decode cX8_heard 64 = .ok (.iload 6, 2) := by decide +kernel
theorem dX8_heard_66 : decode cX8_heard 66 = .ok (.invokestatic 339, 3) := by decide +kernel
theorem dX8_heard_69 : decode cX8_heard 69 = .ok (.iload_n 2, 1) := by decide +kernel
theorem dX8_heard_70 : decode cX8_heard 70 = .ok (.if_icmp .gt 12, 3) := by decide +kernel
theorem dX8_heard_73 : decode cX8_heard 73 = .ok (.lload 4, 2) := by decide +kernel
theorem dX8_heard_75 : decode cX8_heard 75 = .ok (.lconst 1, 1) := by decide +kernel
theorem dX8_heard_76 : decode cX8_heard 76 = .ok (.iload 6, 2) := by decide +kernel
theorem dX8_heard_78 : decode cX8_heard 78 = .ok (.lshl, 1) := by decide +kernel
theorem dX8_heard_79 : decode cX8_heard 79 = .ok (.lor, 1) := by decide +kernel
theorem dX8_heard_80 : decode cX8_heard 80 = .ok (.lstore 4, 2) := by decide +kernel
theorem dX8_heard_82 : decode cX8_heard 82 = .ok (.iinc 6 1, 3) := by decide +kernel
theorem dX8_heard_85 : decode cX8_heard 85 = .ok (.goto (-41), 3) := by decide +kernel
theorem dX8_heard_88 : decode cX8_heard 88 = .ok (.lload 4, 2) := by decide +kernel
theorem dX8_heard_90 : decode cX8_heard 90 = .ok (.lreturn, 1) := by decide +kernel
set_option maxRecDepth 20000 in
theorem vX8_heard {g : zG} {d : Nat} {Q : Int64 → zM → Prop} {M : zM} {l1 : Int32} {l2 : Int32} (h : zCz shC g d mX7_isSkater [.ref 1, .int l1] M (fun b1 M1 => (b1 = false → Q (-1) M1) ∧ (b1 = true → (l2 < 0 → Q (-1) M1) ∧ (¬ l2 < 0 → (l2 ≤ 9 → ∃ k1 : Nat, l1 = iv k1 ∧ k1 < 6 ∧ zW shC g (d + 1) mX8_heard (zl Q) 44 [(0, .ref 0), (2, .int l2), (3, .int (M1 6 k1)), (4, .long 0), (6, .int 0)] [] M1) ∧ (¬ l2 ≤ 9 → Q (-1) M1))))) : zCl shC g (d + 1) mX8_heard [.ref 0, .int l1, .int l2] M Q := by
  refine zW.enter (by decide +kernel) (Nat.le_of_ble_eq_true rfl) ?_
  change zW shC g (d + 1) mX8_heard (zl Q) 0 [(0, .ref 0), (1, .int l1), (2, .int l2)] [] M
  refine z_aload_n dX8_heard_0 0 rfl ?_
  refine z_getr shC_0 rfl flX8_10 dX8_heard_1 ?_
  refine z_iload_n dX8_heard_4 1 rfl ?_
  refine z_callV (m2 := mX7_isSkater) (st := []) [.int l1] okX7_isSkater (Or.inl lkX8_121) shC_1 rfl rfl rfl (Nat.le_of_ble_eq_true rfl) dX8_heard_5 (zgo_z h fun b1 M1 h => ?_)
  refine z_ifb_eq 21 dX8_heard_8 (by decide) (fun c1 => ?_) (fun c1 => ?_)
  · have h := h.1 c1
    refine z_ldc2 dX8_heard_21 kcX8_270 ?_
    exact z_lret (st := []) rfl dX8_heard_24 ⟨_, rfl, h⟩
  · have h := h.2 c1
    refine z_iload_n dX8_heard_11 2 rfl ?_
    refine z_if_lt 21 dX8_heard_12 (by decide) (fun c2 => ?_) (fun c2 => ?_)
    · have h := h.1 c2
      refine z_ldc2 dX8_heard_21 kcX8_270 ?_
      exact z_lret (st := []) rfl dX8_heard_24 ⟨_, rfl, h⟩
    · have h := h.2 c2
      refine z_iload_n dX8_heard_15 2 rfl ?_
      refine z_bipush (v := 9) dX8_heard_16 (by decide) ?_
      refine z_icmp_le 25 dX8_heard_18 (by decide) (fun c3 => ?_) (fun c3 => ?_)
      · have h := h.1 c3
        refine z_aload_n dX8_heard_25 0 rfl ?_
        refine z_getr shC_0 rfl flX8_10 dX8_heard_26 ?_
        refine z_getr shC_1 rfl flX8_88 dX8_heard_29 ?_
        refine z_getr shC_3 rfl flX8_124 dX8_heard_32 ?_
        refine z_iload_n dX8_heard_35 1 rfl ?_
        obtain ⟨k1, ek1, uk1, h⟩ := h
        refine z_iald2 (k0 := k1) shC_6 (by decide) ek1 uk1 dX8_heard_36 ?_
        refine z_istore_n [(3, .int (M1 6 k1)), (0, .ref 0), (1, .int l1), (2, .int l2)] dX8_heard_37 (by decide) rfl ?_
        refine z_lconst (v := 0) dX8_heard_38 (by decide) ?_
        refine z_lstore [(4, .long 0), (3, .int (M1 6 k1)), (0, .ref 0), (1, .int l1), (2, .int l2)] dX8_heard_39 (by decide) rfl ?_
        refine z_iconst (v := 0) dX8_heard_41 (by decide) ?_
        refine z_istore [(6, .int 0), (4, .long 0), (3, .int (M1 6 k1)), (0, .ref 0), (1, .int l1), (2, .int l2)] dX8_heard_42 (by decide) rfl ?_
        exact zW.sub [3, 5, 2, 1, 0] rfl h
      · have h := h.2 c3
        refine z_ldc2 dX8_heard_21 kcX8_270 ?_
        exact z_lret (st := []) rfl dX8_heard_24 ⟨_, rfl, h⟩
set_option maxRecDepth 20000 in
theorem vX8_heard_44 {g : zG} {d : Nat} {Q : Int64 → zM → Prop} {M : zM} {l2 : Int32} {l3 : Int32} {l4 : Int64} {l6 : Int32} (h : (64 ≤ l6 → Q l4 M) ∧ (¬ 64 ≤ l6 → zCz shC g d mX7_isCell [.ref 1, .int l6] M (fun b1 M1 => (b1 = false → zW shC g (d + 1) mX8_heard (zl Q) 44 [(0, .ref 0), (2, .int l2), (3, .int l3), (4, .long l4), (6, .int (l6 + 1))] [] M1) ∧ (b1 = true → zCi shC g d mX8_distance [.int l3, .int l6] M1 (fun x1 M2 => (l2 < x1 → zW shC g (d + 1) mX8_heard (zl Q) 44 [(0, .ref 0), (2, .int l2), (3, .int l3), (4, .long l4), (6, .int (l6 + 1))] [] M2) ∧ (¬ l2 < x1 → zW shC g (d + 1) mX8_heard (zl Q) 44 [(0, .ref 0), (2, .int l2), (3, .int l3), (4, .long (l4 ||| (1 <<< ((l6 : Int32).toInt64 &&& 63)))), (6, .int (l6 + 1))] [] M2)))))) : zW shC g (d + 1) mX8_heard (zl Q) 44 [(0, .ref 0), (2, .int l2), (3, .int l3), (4, .long l4), (6, .int l6)] [] M := by
  refine z_iload dX8_heard_44 4 rfl ?_
  refine z_bipush (v := 64) dX8_heard_46 (by decide) ?_
  refine z_icmp_ge 88 dX8_heard_48 (by decide) (fun c1 => ?_) (fun c1 => ?_)
  · have h := h.1 c1
    refine z_lload dX8_heard_88 3 rfl ?_
    exact z_lret (st := []) rfl dX8_heard_90 ⟨_, rfl, h⟩
  · have h := h.2 c1
    refine z_aload_n dX8_heard_51 0 rfl ?_
    refine z_getr shC_0 rfl flX8_10 dX8_heard_52 ?_
    refine z_iload dX8_heard_55 4 rfl ?_
    refine z_callV (m2 := mX7_isCell) (st := []) [.int l6] okX7_isCell (Or.inl lkX8_97) shC_1 rfl rfl rfl (Nat.le_of_ble_eq_true rfl) dX8_heard_57 (zgo_z h fun b1 M1 h => ?_)
    refine z_ifb_eq 82 dX8_heard_60 (by decide) (fun c2 => ?_) (fun c2 => ?_)
    · have h := h.1 c2
      refine z_iinc (x := l6) (v := (l6 + 1)) [(6, .int (l6 + 1)), (0, .ref 0), (2, .int l2), (3, .int l3), (4, .long l4)] dX8_heard_82 4 rfl rfl (by decide) rfl ?_
      refine z_goto 44 dX8_heard_85 (by decide) ?_
      exact zW.sub [1, 2, 3, 4, 0] rfl h
    · have h := h.2 c2
      refine z_iload_n dX8_heard_63 2 rfl ?_
      refine z_iload dX8_heard_64 4 rfl ?_
      refine z_callS (m2 := mX8_distance) (st := []) [.int l3, .int l6] okX8_distance (Or.inl lkX8_339) rfl rfl (Nat.le_of_ble_eq_true rfl) dX8_heard_66 (zgo_i h fun x1 M2 h => ?_)
      refine z_iload_n dX8_heard_69 1 rfl ?_
      refine z_icmp_gt 82 dX8_heard_70 (by decide) (fun c3 => ?_) (fun c3 => ?_)
      · have h := h.1 c3
        refine z_iinc (x := l6) (v := (l6 + 1)) [(6, .int (l6 + 1)), (0, .ref 0), (2, .int l2), (3, .int l3), (4, .long l4)] dX8_heard_82 4 rfl rfl (by decide) rfl ?_
        refine z_goto 44 dX8_heard_85 (by decide) ?_
        exact zW.sub [1, 2, 3, 4, 0] rfl h
      · have h := h.2 c3
        refine z_lload dX8_heard_73 3 rfl ?_
        refine z_lconst (v := 1) dX8_heard_75 (by decide) ?_
        refine z_iload dX8_heard_76 4 rfl ?_
        refine z_lshl dX8_heard_78 ?_
        refine z_lor dX8_heard_79 ?_
        refine z_lstore [(4, .long (l4 ||| (1 <<< ((l6 : Int32).toInt64 &&& 63)))), (0, .ref 0), (2, .int l2), (3, .int l3), (6, .int l6)] dX8_heard_80 (by decide) rfl ?_
        refine z_iinc (x := l6) (v := (l6 + 1)) [(6, .int (l6 + 1)), (4, .long (l4 ||| (1 <<< ((l6 : Int32).toInt64 &&& 63)))), (0, .ref 0), (2, .int l2), (3, .int l3)] dX8_heard_82 4 rfl rfl (by decide) rfl ?_
        refine z_goto 44 dX8_heard_85 (by decide) ?_
        exact zW.sub [2, 3, 4, 1, 0] rfl h
theorem dX8_undo_0 : decode cX8_undo 0 = .ok (.aload_n 0, 1) := by decide +kernel
theorem dX8_undo_1 : decode cX8_undo 1 = .ok (.getfield 34, 3) := by decide +kernel
theorem dX8_undo_4 : decode cX8_undo 4 = .ok (.ifCond .gt 5, 3) := by decide +kernel
theorem dX8_undo_7 : decode cX8_undo 7 = .ok (.iconst 0, 1) := by decide +kernel
theorem dX8_undo_8 : decode cX8_undo 8 = .ok (.ireturn, 1) := by decide +kernel
theorem dX8_undo_9 : decode cX8_undo 9 = .ok (.aload_n 0, 1) := by decide +kernel
theorem dX8_undo_10 : decode cX8_undo 10 = .ok (.dup, 1) := by decide +kernel
theorem dX8_undo_11 : decode cX8_undo 11 = .ok (.getfield 34, 3) := by decide +kernel
theorem dX8_undo_14 : decode cX8_undo 14 = .ok (.iconst 1, 1) := by decide +kernel
theorem dX8_undo_15 : decode cX8_undo 15 = .ok (.isub, 1) := by decide +kernel
theorem dX8_undo_16 : decode cX8_undo 16 = .ok (.putfield 34, 3) := by decide +kernel
theorem dX8_undo_19 : decode cX8_undo 19 = .ok (.aload_n 0, 1) := by decide +kernel
theorem dX8_undo_20 : decode cX8_undo 20 = .ok (.getfield 10, 3) := by decide +kernel
theorem dX8_undo_23 : decode cX8_undo 23 = .ok (.getfield 88, 3) := by decide +kernel
theorem dX8_undo_26 : decode cX8_undo 26 = .ok (.aload_n 0, 1) := by decide +kernel
theorem dX8_undo_27 : decode cX8_undo 27 = .ok (.getfield 30, 3) := by decide +kernel
theorem dX8_undo_30 : decode cX8_undo 30 = .ok (.aload_n 0, 1) := by decide +kernel
theorem dX8_undo_31 : decode cX8_undo 31 = .ok (.getfield 34, 3) := by decide +kernel
theorem dX8_undo_34 : decode cX8_undo 34 = .ok (.aaload, 1) := by decide +kernel
theorem dX8_undo_35 : decode cX8_undo 35 = .ok (.invokevirtual 205, 3) := by decide +kernel
theorem dX8_undo_38 : decode cX8_undo 38 = .ok (.iconst 1, 1) := by decide +kernel
theorem dX8_undo_39 : decode cX8_undo 39 = .ok (.ireturn, 1) := by decide +kernel
set_option maxRecDepth 20000 in
theorem vX8_undo {g : zG} {d : Nat} {Q : Bool → zM → Prop} {M : zM} (h : (0 < (M 0 5) → ∃ k1 : Nat, ((zup M 0 5 ((M 0 5) - 1)) 0 5) = iv k1 ∧ k1 < 6 ∧ ∃ p1 : Nat, ((zup M 0 5 ((M 0 5) - 1)) 61 k1).toNatClampNeg = p1 ∧ zMo shC p1 ∧ zCv shC g d mX2_copy [.ref 3, .ref p1] (zup M 0 5 ((M 0 5) - 1)) (fun  M1 => Q true M1)) ∧ (¬ 0 < (M 0 5) → Q false M)) : zCz shC g (d + 1) mX8_undo [.ref 0] M Q := by
  refine zW.enter (by decide +kernel) (Nat.le_of_ble_eq_true rfl) ?_
  change zW shC g (d + 1) mX8_undo (zz Q) 0 [(0, .ref 0)] [] M
  refine z_aload_n dX8_undo_0 0 rfl ?_
  refine z_geti shC_0 rfl flX8_34 dX8_undo_1 ?_
  refine z_if_gt 9 dX8_undo_4 (by decide) (fun c1 => ?_) (fun c1 => ?_)
  · have h := h.1 c1
    refine z_aload_n dX8_undo_9 0 rfl ?_
    refine z_dupr dX8_undo_10 ?_
    refine z_geti shC_0 rfl flX8_34 dX8_undo_11 ?_
    refine z_iconst (v := 1) dX8_undo_14 (by decide) ?_
    refine z_isub dX8_undo_15 ?_
    refine z_puti shC_0 rfl fpX8_34 rfl rfl dX8_undo_16 ?_
    refine z_aload_n dX8_undo_19 0 rfl ?_
    refine z_getr shC_0 rfl flX8_10 dX8_undo_20 ?_
    refine z_getr shC_1 rfl flX8_88 dX8_undo_23 ?_
    refine z_aload_n dX8_undo_26 0 rfl ?_
    refine z_getr shC_0 rfl flX8_30 dX8_undo_27 ?_
    refine z_aload_n dX8_undo_30 0 rfl ?_
    refine z_geti shC_0 rfl flX8_34 dX8_undo_31 ?_
    obtain ⟨k1, ek1, uk1, h⟩ := h
    refine z_aald2 (k0 := k1) shC_61 (by decide) ek1 uk1 dX8_undo_34 ?_
    obtain ⟨p1, ep1, hp1, h⟩ := h
    rw [ep1]
    refine z_callV (m2 := mX2_copy) (st := []) [.ref p1] okX2_copy (Or.inl lkX8_205) shC_3 rfl rfl rfl (Nat.le_of_ble_eq_true rfl) dX8_undo_35 (zgo_v h fun  M1 h => ?_)
    refine z_iconst (v := 1) dX8_undo_38 (by decide) ?_
    exact z_zret (b := true) rfl rfl dX8_undo_39 h
  · have h := h.2 c1
    refine z_iconst (v := 0) dX8_undo_7 (by decide) ?_
    exact z_zret (b := false) rfl rfl dX8_undo_8 h
theorem dX8_image_0 : decode cX8_image 0 = .ok (.iload_n 1, 1) := by decide +kernel
theorem dX8_image_1 : decode cX8_image 1 = .ok (.ifCond .eq 21, 3) := by decide +kernel
theorem dX8_image_4 : decode cX8_image 4 = .ok (.aload_n 0, 1) := by decide +kernel
theorem dX8_image_5 : decode cX8_image 5 = .ok (.getfield 16, 3) := by decide +kernel
theorem dX8_image_8 : decode cX8_image 8 = .ok (.aload_n 0, 1) := by decide +kernel
theorem dX8_image_9 : decode cX8_image 9 = .ok (.getfield 10, 3) := by decide +kernel
theorem dX8_image_12 : decode cX8_image 12 = .ok (.invokevirtual 355, 3) := by decide +kernel
theorem dX8_image_15 : decode cX8_image 15 = .ok (.aload_n 0, 1) := by decide +kernel
theorem dX8_image_16 : decode cX8_image 16 = .ok (.iconst 1, 1) := by decide +kernel
theorem dX8_image_17 : decode cX8_image 17 = .ok (.putfield 19, 3) := by decide +kernel
theorem dX8_image_20 : decode cX8_image 20 = .ok (.iconst 1, 1) := by decide +kernel
theorem dX8_image_21 : decode cX8_image 21 = .ok (.ireturn, 1) := by decide +kernel
theorem dX8_image_22 : decode cX8_image 22 = .ok (.aload_n 0, 1) := by decide +kernel
theorem dX8_image_23 : decode cX8_image 23 = .ok (.getfield 19, 3) := by decide +kernel
theorem dX8_image_26 : decode cX8_image 26 = .ok (.ifCond .ne 5, 3) := by decide +kernel
theorem dX8_image_29 : decode cX8_image 29 = .ok (.iconst 0, 1) := by decide +kernel
theorem dX8_image_30 : decode cX8_image 30 = .ok (.ireturn, 1) := by decide +kernel
theorem dX8_image_31 : decode cX8_image 31 = .ok (.aload_n 0, 1) := by decide +kernel
theorem dX8_image_32 : decode cX8_image 32 = .ok (.getfield 10, 3) := by decide +kernel
theorem dX8_image_35 : decode cX8_image 35 = .ok (.aload_n 0, 1) := by decide +kernel
theorem dX8_image_36 : decode cX8_image 36 = .ok (.getfield 16, 3) := by decide +kernel
theorem dX8_image_39 : decode cX8_image 39 = .ok (.invokevirtual 355, 3) := by decide +kernel
theorem dX8_image_42 : decode cX8_image 42 = .ok (.aload_n 0, 1) := by decide +kernel
theorem dX8_image_43 : decode cX8_image 43 = .ok (.invokevirtual 94, 3) := by decide +kernel
theorem dX8_image_46 : decode cX8_image 46 = .ok (.iconst 1, 1) := by decide +kernel
theorem dX8_image_47 : decode cX8_image 47 = .ok (.ireturn, 1) := by decide +kernel
set_option maxRecDepth 20000 in
theorem vX8_image {g : zG} {d : Nat} {Q : Bool → zM → Prop} {M : zM} {l1 : Bool} (h : (l1 = false → (¬ (M 0 2) = 0 → zCv shC g d mX7_copy [.ref 1, .ref 28] M (fun  M1 => zCv shC g d mX8_forgetPast [.ref 0] M1 (fun  M2 => Q true M2))) ∧ ((M 0 2) = 0 → Q false M)) ∧ (l1 = true → zCv shC g d mX7_copy [.ref 28, .ref 1] M (fun  M1 => Q true (zup M1 0 2 (zbI true))))) : zCz shC g (d + 1) mX8_image [.ref 0, .int (zbI l1)] M Q := by
  refine zW.enter (by decide +kernel) (Nat.le_of_ble_eq_true rfl) ?_
  change zW shC g (d + 1) mX8_image (zz Q) 0 [(0, .ref 0), (1, .int (zbI l1))] [] M
  refine z_iload_n dX8_image_0 1 rfl ?_
  refine z_ifb_eq 22 dX8_image_1 (by decide) (fun c1 => ?_) (fun c1 => ?_)
  · have h := h.1 c1
    refine z_aload_n dX8_image_22 0 rfl ?_
    refine z_geti shC_0 rfl flX8_19 dX8_image_23 ?_
    refine z_if_ne 31 dX8_image_26 (by decide) (fun c2 => ?_) (fun c2 => ?_)
    · have h := h.1 c2
      refine z_aload_n dX8_image_31 0 rfl ?_
      refine z_getr shC_0 rfl flX8_10 dX8_image_32 ?_
      refine z_aload_n dX8_image_35 0 rfl ?_
      refine z_getr shC_0 rfl flX8_16 dX8_image_36 ?_
      refine z_callV (m2 := mX7_copy) (st := []) [.ref 28] okX7_copy (Or.inl lkX8_355) shC_1 rfl rfl rfl (Nat.le_of_ble_eq_true rfl) dX8_image_39 (zgo_v h fun  M1 h => ?_)
      refine z_aload_n dX8_image_42 0 rfl ?_
      refine z_callV (m2 := mX8_forgetPast) (st := []) [] okX8_forgetPast (Or.inl lkX8_94) shC_0 rfl rfl rfl (Nat.le_of_ble_eq_true rfl) dX8_image_43 (zgo_v h fun  M2 h => ?_)
      refine z_iconst (v := 1) dX8_image_46 (by decide) ?_
      exact z_zret (b := true) rfl rfl dX8_image_47 h
    · have h := h.2 c2
      refine z_iconst (v := 0) dX8_image_29 (by decide) ?_
      exact z_zret (b := false) rfl rfl dX8_image_30 h
  · have h := h.2 c1
    refine z_aload_n dX8_image_4 0 rfl ?_
    refine z_getr shC_0 rfl flX8_16 dX8_image_5 ?_
    refine z_aload_n dX8_image_8 0 rfl ?_
    refine z_getr shC_0 rfl flX8_10 dX8_image_9 ?_
    refine z_callV (m2 := mX7_copy) (st := []) [.ref 1] okX7_copy (Or.inl lkX8_355) shC_28 rfl rfl rfl (Nat.le_of_ble_eq_true rfl) dX8_image_12 (zgo_v h fun  M1 h => ?_)
    refine z_aload_n dX8_image_15 0 rfl ?_
    refine z_iconst (v := 1) dX8_image_16 (by decide) ?_
    refine z_puti (x := zbI true) shC_0 rfl fpX8_19 (zb_narrow _) (zb_fits _) dX8_image_17 ?_
    refine z_iconst (v := 1) dX8_image_20 (by decide) ?_
    exact z_zret (b := true) rfl rfl dX8_image_21 h
theorem dX8_look_0 : decode cX8_look 0 = .ok (.iload_n 1, 1) := by decide +kernel
theorem dX8_look_1 : decode cX8_look 1 = .ok (.tableswitch 211 0 13 #[71, 79, 87, 98, 106, 114, 122, 133, 144, 155, 166, 177, 188, 193], 71) := by decide +kernel
theorem dX8_look_72 : decode cX8_look 72 = .ok (.aload_n 0, 1) := by decide +kernel
theorem dX8_look_73 : decode cX8_look 73 = .ok (.getfield 10, 3) := by decide +kernel
theorem dX8_look_76 : decode cX8_look 76 = .ok (.getfield 358, 3) := by decide +kernel
theorem dX8_look_79 : decode cX8_look 79 = .ok (.ireturn, 1) := by decide +kernel
theorem dX8_look_80 : decode cX8_look 80 = .ok (.aload_n 0, 1) := by decide +kernel
theorem dX8_look_81 : decode cX8_look 81 = .ok (.getfield 10, 3) := by decide +kernel
theorem dX8_look_84 : decode cX8_look 84 = .ok (.getfield 361, 3) := by decide +kernel
theorem dX8_look_87 : decode cX8_look 87 = .ok (.ireturn, 1) := by decide +kernel
theorem dX8_look_88 : decode cX8_look 88 = .ok (.aload_n 0, 1) := by decide +kernel
theorem dX8_look_89 : decode cX8_look 89 = .ok (.getfield 10, 3) := by decide +kernel
theorem dX8_look_92 : decode cX8_look 92 = .ok (.getfield 88, 3) := by decide +kernel
theorem dX8_look_95 : decode cX8_look 95 = .ok (.getfield 195, 3) := by decide +kernel
theorem dX8_look_98 : decode cX8_look 98 = .ok (.ireturn, 1) := by decide +kernel
theorem dX8_look_99 : decode cX8_look 99 = .ok (.aload_n 0, 1) := by decide +kernel
theorem dX8_look_100 : decode cX8_look 100 = .ok (.getfield 10, 3) := by decide +kernel
theorem dX8_look_103 : decode cX8_look 103 = .ok (.getfield 101, 3) := by decide +kernel
theorem dX8_look_106 : decode cX8_look 106 = .ok (.ireturn, 1) := by decide +kernel
theorem dX8_look_107 : decode cX8_look 107 = .ok (.aload_n 0, 1) := by decide +kernel
theorem dX8_look_108 : decode cX8_look 108 = .ok (.getfield 10, 3) := by decide +kernel
theorem dX8_look_111 : decode cX8_look 111 = .ok (.getfield 112, 3) := by decide +kernel
theorem dX8_look_114 : decode cX8_look 114 = .ok (.ireturn, 1) := by decide +kernel
theorem dX8_look_115 : decode cX8_look 115 = .ok (.aload_n 0, 1) := by decide +kernel
theorem dX8_look_116 : decode cX8_look 116 = .ok (.getfield 10, 3) := by decide +kernel
theorem dX8_look_119 : decode cX8_look 119 = .ok (.getfield 115, 3) := by decide +kernel
theorem dX8_look_122 : decode cX8_look 122 = .ok (.ireturn, 1) := by decide +kernel
theorem dX8_look_123 : decode cX8_look 123 = .ok (.aload_n 0, 1) := by decide +kernel
theorem dX8_look_124 : decode cX8_look 124 = .ok (.getfield 10, 3) := by decide +kernel
theorem dX8_look_127 : decode cX8_look 127 = .ok (.getfield 88, 3) := by decide +kernel
theorem dX8_look_130 : decode cX8_look 130 = .ok (.getfield 260, 3) := by decide +kernel
theorem dX8_look_133 : decode cX8_look 133 = .ok (.ireturn, 1) := by decide +kernel
theorem dX8_look_134 : decode cX8_look 134 = .ok (.aload_n 0, 1) := by decide +kernel
theorem dX8_look_135 : decode cX8_look 135 = .ok (.getfield 10, 3) := by decide +kernel
theorem dX8_look_138 : decode cX8_look 138 = .ok (.getfield 88, 3) := by decide +kernel
theorem dX8_look_141 : decode cX8_look 141 = .ok (.getfield 91, 3) := by decide +kernel
theorem dX8_look_144 : decode cX8_look 144 = .ok (.ireturn, 1) := by decide +kernel
theorem dX8_look_145 : decode cX8_look 145 = .ok (.aload_n 0, 1) := by decide +kernel
theorem dX8_look_146 : decode cX8_look 146 = .ok (.getfield 10, 3) := by decide +kernel
theorem dX8_look_149 : decode cX8_look 149 = .ok (.getfield 177, 3) := by decide +kernel
theorem dX8_look_152 : decode cX8_look 152 = .ok (.getfield 186, 3) := by decide +kernel
theorem dX8_look_155 : decode cX8_look 155 = .ok (.ireturn, 1) := by decide +kernel
theorem dX8_look_156 : decode cX8_look 156 = .ok (.aload_n 0, 1) := by decide +kernel
theorem dX8_look_157 : decode cX8_look 157 = .ok (.getfield 10, 3) := by decide +kernel
theorem dX8_look_160 : decode cX8_look 160 = .ok (.getfield 148, 3) := by decide +kernel
theorem dX8_look_163 : decode cX8_look 163 = .ok (.getfield 155, 3) := by decide +kernel
theorem dX8_look_166 : decode cX8_look 166 = .ok (.ireturn, 1) := by decide +kernel
theorem dX8_look_167 : decode cX8_look 167 = .ok (.aload_n 0, 1) := by decide +kernel
theorem dX8_look_168 : decode cX8_look 168 = .ok (.getfield 10, 3) := by decide +kernel
theorem dX8_look_171 : decode cX8_look 171 = .ok (.getfield 161, 3) := by decide +kernel
theorem dX8_look_174 : decode cX8_look 174 = .ok (.getfield 167, 3) := by decide +kernel
theorem dX8_look_177 : decode cX8_look 177 = .ok (.ireturn, 1) := by decide +kernel
theorem dX8_look_178 : decode cX8_look 178 = .ok (.aload_n 0, 1) := by decide +kernel
theorem dX8_look_179 : decode cX8_look 179 = .ok (.getfield 10, 3) := by decide +kernel
theorem dX8_look_182 : decode cX8_look 182 = .ok (.getfield 161, 3) := by decide +kernel
theorem dX8_look_185 : decode cX8_look 185 = .ok (.getfield 174, 3) := by decide +kernel
theorem dX8_look_188 : decode cX8_look 188 = .ok (.ireturn, 1) := by decide +kernel
theorem dX8_look_189 : decode cX8_look 189 = .ok (.aload_n 0, 1) := by decide +kernel
theorem dX8_look_190 : decode cX8_look 190 = .ok (.getfield 34, 3) := by decide +kernel
theorem dX8_look_193 : decode cX8_look 193 = .ok (.ireturn, 1) := by decide +kernel
theorem dX8_look_194 : decode cX8_look 194 = .ok (.aload_n 0, 1) := by decide +kernel
theorem dX8_look_195 : decode cX8_look 195 = .ok (.getfield 10, 3) := by decide +kernel
theorem dX8_look_198 : decode cX8_look 198 = .ok (.aload_n 0, 1) := by decide +kernel
theorem dX8_look_199 : decode cX8_look 199 = .ok (.getfield 10, 3) := by decide +kernel
theorem dX8_look_202 : decode cX8_look 202 = .ok (.getfield 88, 3) := by decide +kernel
theorem dX8_look_205 : decode cX8_look 205 = .ok (.invokevirtual 275, 3) := by decide +kernel
theorem dX8_look_208 : decode cX8_look 208 = .ok (.invokestatic 364, 3) := by decide +kernel
theorem dX8_look_211 : decode cX8_look 211 = .ok (.ireturn, 1) := by decide +kernel
theorem dX8_look_212 : decode cX8_look 212 = .ok (.iconst (-1), 1) := by decide +kernel
theorem dX8_look_213 : decode cX8_look 213 = .ok (.ireturn, 1) := by decide +kernel
set_option maxRecDepth 20000 in
theorem vX8_look {g : zG} {d : Nat} {Q : Int32 → zM → Prop} {M : zM} {l1 : Int32} (h : (l1.toInt < 0 ∨ 13 < l1.toInt → Q (-1) M) ∧ (l1.toInt = 0 → Q (M 1 0) M) ∧ (l1.toInt = 1 → Q (M 1 1) M) ∧ (l1.toInt = 2 → Q (M 3 5) M) ∧ (l1.toInt = 3 → Q (M 1 4) M) ∧ (l1.toInt = 4 → Q (M 1 2) M) ∧ (l1.toInt = 5 → Q (M 1 3) M) ∧ (l1.toInt = 6 → Q (M 3 7) M) ∧ (l1.toInt = 7 → Q (M 3 6) M) ∧ (l1.toInt = 8 → Q (M 10 4) M) ∧ (l1.toInt = 9 → Q (M 15 6) M) ∧ (l1.toInt = 10 → Q (M 22 1) M) ∧ (l1.toInt = 11 → Q (M 22 4) M) ∧ (l1.toInt = 12 → Q (M 0 5) M) ∧ (l1.toInt = 13 → zCl shC g d mX7_seenCells [.ref 1, .ref 3] M (fun y1 M1 => zCi shC g d mJ13_bitCount_95d88 [.long y1] M1 (fun x1 M2 => Q x1 M2)))) : zCi shC g (d + 1) mX8_look [.ref 0, .int l1] M Q := by
  refine zW.enter (by decide +kernel) (Nat.le_of_ble_eq_true rfl) ?_
  change zW shC g (d + 1) mX8_look (zi Q) 0 [(0, .ref 0), (1, .int l1)] [] M
  refine z_iload_n dX8_look_0 1 rfl ?_
  refine z_table [72, 80, 88, 99, 107, 115, 123, 134, 145, 156, 167, 178, 189, 194] 212 dX8_look_1 (by decide) (by decide) (by decide) (fun c1 => ?_) ⟨fun c1 => ?_, fun c1 => ?_, fun c1 => ?_, fun c1 => ?_, fun c1 => ?_, fun c1 => ?_, fun c1 => ?_, fun c1 => ?_, fun c1 => ?_, fun c1 => ?_, fun c1 => ?_, fun c1 => ?_, fun c1 => ?_, fun c1 => ?_, trivial⟩
  · have h := h.1 c1
    refine z_iconst (v := (-1)) dX8_look_212 (by decide) ?_
    exact z_iret (st := []) rfl rfl dX8_look_213 ⟨_, rfl, h⟩
  · have h := h.2.1 c1
    refine z_aload_n dX8_look_72 0 rfl ?_
    refine z_getr shC_0 rfl flX8_10 dX8_look_73 ?_
    refine z_geti shC_1 rfl flX8_358 dX8_look_76 ?_
    exact z_iret (st := []) rfl rfl dX8_look_79 ⟨_, rfl, h⟩
  · have h := h.2.2.1 c1
    refine z_aload_n dX8_look_80 0 rfl ?_
    refine z_getr shC_0 rfl flX8_10 dX8_look_81 ?_
    refine z_geti shC_1 rfl flX8_361 dX8_look_84 ?_
    exact z_iret (st := []) rfl rfl dX8_look_87 ⟨_, rfl, h⟩
  · have h := h.2.2.2.1 c1
    refine z_aload_n dX8_look_88 0 rfl ?_
    refine z_getr shC_0 rfl flX8_10 dX8_look_89 ?_
    refine z_getr shC_1 rfl flX8_88 dX8_look_92 ?_
    refine z_geti shC_3 rfl flX8_195 dX8_look_95 ?_
    exact z_iret (st := []) rfl rfl dX8_look_98 ⟨_, rfl, h⟩
  · have h := h.2.2.2.2.1 c1
    refine z_aload_n dX8_look_99 0 rfl ?_
    refine z_getr shC_0 rfl flX8_10 dX8_look_100 ?_
    refine z_geti shC_1 rfl flX8_101 dX8_look_103 ?_
    exact z_iret (st := []) rfl rfl dX8_look_106 ⟨_, rfl, h⟩
  · have h := h.2.2.2.2.2.1 c1
    refine z_aload_n dX8_look_107 0 rfl ?_
    refine z_getr shC_0 rfl flX8_10 dX8_look_108 ?_
    refine z_geti shC_1 rfl flX8_112 dX8_look_111 ?_
    exact z_iret (st := []) rfl rfl dX8_look_114 ⟨_, rfl, h⟩
  · have h := h.2.2.2.2.2.2.1 c1
    refine z_aload_n dX8_look_115 0 rfl ?_
    refine z_getr shC_0 rfl flX8_10 dX8_look_116 ?_
    refine z_geti shC_1 rfl flX8_115 dX8_look_119 ?_
    exact z_iret (st := []) rfl rfl dX8_look_122 ⟨_, rfl, h⟩
  · have h := h.2.2.2.2.2.2.2.1 c1
    refine z_aload_n dX8_look_123 0 rfl ?_
    refine z_getr shC_0 rfl flX8_10 dX8_look_124 ?_
    refine z_getr shC_1 rfl flX8_88 dX8_look_127 ?_
    refine z_geti shC_3 rfl flX8_260 dX8_look_130 ?_
    exact z_iret (st := []) rfl rfl dX8_look_133 ⟨_, rfl, h⟩
  · have h := h.2.2.2.2.2.2.2.2.1 c1
    refine z_aload_n dX8_look_134 0 rfl ?_
    refine z_getr shC_0 rfl flX8_10 dX8_look_135 ?_
    refine z_getr shC_1 rfl flX8_88 dX8_look_138 ?_
    refine z_geti shC_3 rfl flX8_91 dX8_look_141 ?_
    exact z_iret (st := []) rfl rfl dX8_look_144 ⟨_, rfl, h⟩
  · have h := h.2.2.2.2.2.2.2.2.2.1 c1
    refine z_aload_n dX8_look_145 0 rfl ?_
    refine z_getr shC_0 rfl flX8_10 dX8_look_146 ?_
    refine z_getr shC_1 rfl flX8_177 dX8_look_149 ?_
    refine z_geti shC_10 rfl flX8_186 dX8_look_152 ?_
    exact z_iret (st := []) rfl rfl dX8_look_155 ⟨_, rfl, h⟩
  · have h := h.2.2.2.2.2.2.2.2.2.2.1 c1
    refine z_aload_n dX8_look_156 0 rfl ?_
    refine z_getr shC_0 rfl flX8_10 dX8_look_157 ?_
    refine z_getr shC_1 rfl flX8_148 dX8_look_160 ?_
    refine z_geti shC_15 rfl flX8_155 dX8_look_163 ?_
    exact z_iret (st := []) rfl rfl dX8_look_166 ⟨_, rfl, h⟩
  · have h := h.2.2.2.2.2.2.2.2.2.2.2.1 c1
    refine z_aload_n dX8_look_167 0 rfl ?_
    refine z_getr shC_0 rfl flX8_10 dX8_look_168 ?_
    refine z_getr shC_1 rfl flX8_161 dX8_look_171 ?_
    refine z_geti shC_22 rfl flX8_167 dX8_look_174 ?_
    exact z_iret (st := []) rfl rfl dX8_look_177 ⟨_, rfl, h⟩
  · have h := h.2.2.2.2.2.2.2.2.2.2.2.2.1 c1
    refine z_aload_n dX8_look_178 0 rfl ?_
    refine z_getr shC_0 rfl flX8_10 dX8_look_179 ?_
    refine z_getr shC_1 rfl flX8_161 dX8_look_182 ?_
    refine z_geti shC_22 rfl flX8_174 dX8_look_185 ?_
    exact z_iret (st := []) rfl rfl dX8_look_188 ⟨_, rfl, h⟩
  · have h := h.2.2.2.2.2.2.2.2.2.2.2.2.2.1 c1
    refine z_aload_n dX8_look_189 0 rfl ?_
    refine z_geti shC_0 rfl flX8_34 dX8_look_190 ?_
    exact z_iret (st := []) rfl rfl dX8_look_193 ⟨_, rfl, h⟩
  · have h := h.2.2.2.2.2.2.2.2.2.2.2.2.2.2 c1
    refine z_aload_n dX8_look_194 0 rfl ?_
    refine z_getr shC_0 rfl flX8_10 dX8_look_195 ?_
    refine z_aload_n dX8_look_198 0 rfl ?_
    refine z_getr shC_0 rfl flX8_10 dX8_look_199 ?_
    refine z_getr shC_1 rfl flX8_88 dX8_look_202 ?_
    refine z_callV (m2 := mX7_seenCells) (st := []) [.ref 3] okX7_seenCells (Or.inl lkX8_275) shC_1 rfl rfl rfl (Nat.le_of_ble_eq_true rfl) dX8_look_205 (zgo_l h fun y1 M1 h => ?_)
    refine z_callS (m2 := mJ13_bitCount_95d88) (st := []) [.long y1] okJ13_bitCount_95d88 (Or.inl lkX8_364) rfl rfl (Nat.le_of_ble_eq_true rfl) dX8_look_208 (zgo_i h fun x1 M2 h => ?_)
    exact z_iret (st := []) rfl rfl dX8_look_211 ⟨_, rfl, h⟩
theorem dX8_distance_0 : decode cX8_distance 0 = .ok (.iload_n 0, 1) := by decide +kernel
theorem dX8_distance_1 : decode cX8_distance 1 = .ok (.bipush 8, 2) := by decide +kernel
theorem dX8_distance_3 : decode cX8_distance 3 = .ok (.irem, 1) := by decide +kernel
theorem dX8_distance_4 : decode cX8_distance 4 = .ok (.iload_n 1, 1) := by decide +kernel
theorem dX8_distance_5 : decode cX8_distance 5 = .ok (.bipush 8, 2) := by decide +kernel
theorem dX8_distance_7 : decode cX8_distance 7 = .ok (.irem, 1) := by decide +kernel
theorem dX8_distance_8 : decode cX8_distance 8 = .ok (.isub, 1) := by decide +kernel
theorem dX8_distance_9 : decode cX8_distance 9 = .ok (.invokestatic 369, 3) := by decide +kernel
theorem dX8_distance_12 : decode cX8_distance 12 = .ok (.iload_n 0, 1) := by decide +kernel
theorem dX8_distance_13 : decode cX8_distance 13 = .ok (.bipush 8, 2) := by decide +kernel
theorem dX8_distance_15 : decode cX8_distance 15 = .ok (.idiv, 1) := by decide +kernel
theorem dX8_distance_16 : decode cX8_distance 16 = .ok (.iload_n 1, 1) := by decide +kernel
theorem dX8_distance_17 : decode cX8_distance 17 = .ok (.bipush 8, 2) := by decide +kernel
theorem dX8_distance_19 : decode cX8_distance 19 = .ok (.idiv, 1) := by decide +kernel
theorem dX8_distance_20 : decode cX8_distance 20 = .ok (.isub, 1) := by decide +kernel
theorem dX8_distance_21 : decode cX8_distance 21 = .ok (.invokestatic 369, 3) := by decide +kernel
theorem dX8_distance_24 : decode cX8_distance 24 = .ok (.iadd, 1) := by decide +kernel
theorem dX8_distance_25 : decode cX8_distance 25 = .ok (.ireturn, 1) := by decide +kernel
set_option maxRecDepth 20000 in
theorem vX8_distance {g : zG} {d : Nat} {Q : Int32 → zM → Prop} {M : zM} {l0 : Int32} {l1 : Int32} (h : ∀ v1 : Int32, v1 = ((iabs ((l0 - l0 / 8 * 8) - (l1 - l1 / 8 * 8))) + (iabs ((l0 / 8) - (l1 / 8)))) → Q v1 M) : zCi shC g (d + 1) mX8_distance [.int l0, .int l1] M Q := by
  refine zW.enter (by decide +kernel) (Nat.le_of_ble_eq_true rfl) ?_
  change zW shC g (d + 1) mX8_distance (zi Q) 0 [(0, .int l0), (1, .int l1)] [] M
  refine z_iload_n dX8_distance_0 0 rfl ?_
  refine z_bipush (v := 8) dX8_distance_1 (by decide) ?_
  refine z_irem dX8_distance_3 (by decide) ?_
  refine z_iload_n dX8_distance_4 1 rfl ?_
  refine z_bipush (v := 8) dX8_distance_5 (by decide) ?_
  refine z_irem dX8_distance_7 (by decide) ?_
  refine z_isub dX8_distance_8 ?_
  refine z_abs (st := []) lkX8_369 (Nat.le_of_ble_eq_true rfl) dX8_distance_9 ?_
  refine z_iload_n dX8_distance_12 0 rfl ?_
  refine z_bipush (v := 8) dX8_distance_13 (by decide) ?_
  refine z_idiv dX8_distance_15 (by decide) ?_
  refine z_iload_n dX8_distance_16 1 rfl ?_
  refine z_bipush (v := 8) dX8_distance_17 (by decide) ?_
  refine z_idiv dX8_distance_19 (by decide) ?_
  refine z_isub dX8_distance_20 ?_
  refine z_abs (st := [.int (iabs ((l0 - l0 / 8 * 8) - (l1 - l1 / 8 * 8)))]) lkX8_369 (Nat.le_of_ble_eq_true rfl) dX8_distance_21 ?_
  refine z_iadd dX8_distance_24 ?_
  obtain ⟨v1, ev1⟩ : ∃ y : Int32, y = ((iabs ((l0 - l0 / 8 * 8) - (l1 - l1 / 8 * 8))) + (iabs ((l0 / 8) - (l1 / 8)))) := ⟨_, rfl⟩
  refine z_topi v1 ev1 ?_
  have h := h v1 ev1
  exact z_iret (st := []) rfl rfl dX8_distance_25 ⟨_, rfl, h⟩
