/-! THE WALKS, by program: 14.router -/
theorem dX4_take_0 : decode cX4_take 0 = .ok (.lload_n 1, 1) := by decide +kernel
theorem dX4_take_1 : decode cX4_take 1 = .ok (.invokestatic 37, 3) := by decide +kernel
theorem dX4_take_4 : decode cX4_take 4 = .ok (.bipush 9, 2) := by decide +kernel
theorem dX4_take_6 : decode cX4_take 6 = .ok (.if_icmp .le 5, 3) := by decide +kernel
theorem dX4_take_9 : decode cX4_take 9 = .ok (.iconst 0, 1) := by decide +kernel
theorem dX4_take_10 : decode cX4_take 10 = .ok (.ireturn, 1) := by decide +kernel
theorem dX4_take_11 : decode cX4_take 11 = .ok (.aload_n 0, 1) := by decide +kernel
theorem dX4_take_12 : decode cX4_take 12 = .ok (.iconst 0, 1) := by decide +kernel
theorem dX4_take_13 : decode cX4_take 13 = .ok (.putfield 15, 3) := by decide +kernel
theorem dX4_take_16 : decode cX4_take 16 = .ok (.iconst 0, 1) := by decide +kernel
theorem dX4_take_17 : decode cX4_take 17 = .ok (.istore_n 3, 1) := by decide +kernel
theorem dX4_take_18 : decode cX4_take 18 = .ok (.iload_n 3, 1) := by decide +kernel
theorem dX4_take_19 : decode cX4_take 19 = .ok (.bipush 64, 2) := by decide +kernel
theorem dX4_take_21 : decode cX4_take 21 = .ok (.if_icmp .ge 48, 3) := by decide +kernel
theorem dX4_take_24 : decode cX4_take 24 = .ok (.aload_n 0, 1) := by decide +kernel
theorem dX4_take_25 : decode cX4_take 25 = .ok (.getfield 15, 3) := by decide +kernel
theorem dX4_take_28 : decode cX4_take 28 = .ok (.bipush 9, 2) := by decide +kernel
theorem dX4_take_30 : decode cX4_take 30 = .ok (.if_icmp .ge 39, 3) := by decide +kernel
theorem dX4_take_33 : decode cX4_take 33 = .ok (.lload_n 1, 1) := by decide +kernel
theorem dX4_take_34 : decode cX4_take 34 = .ok (.iload_n 3, 1) := by decide +kernel
theorem dX4_take_35 : decode cX4_take 35 = .ok (.lshr, 1) := by decide +kernel
theorem dX4_take_36 : decode cX4_take 36 = .ok (.lconst 1, 1) := by decide +kernel
theorem dX4_take_37 : decode cX4_take 37 = .ok (.land, 1) := by decide +kernel
theorem dX4_take_38 : decode cX4_take 38 = .ok (.lconst 1, 1) := by decide +kernel
theorem dX4_take_39 : decode cX4_take 39 = .ok (.lcmp, 1) := by decide +kernel
theorem dX4_take_40 : decode cX4_take 40 = .ok (.ifCond .ne 23, 3) := by decide +kernel
theorem dX4_take_43 : decode cX4_take 43 = .ok (.aload_n 0, 1) := by decide +kernel
theorem dX4_take_44 : decode cX4_take 44 = .ok (.getfield 9, 3) := by decide +kernel
theorem dX4_take_47 : decode cX4_take 47 = .ok (.aload_n 0, 1) := by decide +kernel
theorem dX4_take_48 : decode cX4_take 48 = .ok (.getfield 15, 3) := by decide +kernel
theorem dX4_take_51 : decode cX4_take 51 = .ok (.iload_n 3, 1) := by decide +kernel
theorem dX4_take_52 : decode cX4_take 52 = .ok (.iastore, 1) := by decide +kernel
theorem dX4_take_53 : decode cX4_take 53 = .ok (.aload_n 0, 1) := by decide +kernel
theorem dX4_take_54 : decode cX4_take 54 = .ok (.dup, 1) := by decide +kernel
theorem dX4_take_55 : decode cX4_take 55 = .ok (.getfield 15, 3) := by decide +kernel
theorem dX4_take_58 : decode cX4_take 58 = .ok (.iconst 1, 1) := by decide +kernel
theorem dX4_take_59 : decode cX4_take 59 = .ok (.iadd, 1) := by decide +kernel
theorem dX4_take_60 : decode cX4_take 60 = .ok (.putfield 15, 3) := by decide +kernel
theorem dX4_take_63 : decode cX4_take 63 = .ok (.iinc 3 1, 3) := by decide +kernel
theorem dX4_take_66 : decode cX4_take 66 = .ok (.goto (-48), 3) := by decide +kernel
theorem dX4_take_69 : decode cX4_take 69 = .ok (.aload_n 0, 1) := by decide +kernel
theorem dX4_take_70 : decode cX4_take 70 = .ok (.invokevirtual 43, 3) := by decide +kernel
theorem dX4_take_73 : decode cX4_take 73 = .ok (.iconst 1, 1) := by decide +kernel
theorem dX4_take_74 : decode cX4_take 74 = .ok (.ireturn, 1) := by decide +kernel
set_option maxRecDepth 20000 in
theorem vX4_take {g : zG} {d : Nat} {Q : Bool → zM → Prop} {M : zM} {l1 : Int64} (h : zCi shC g d mJ13_bitCount_95d88 [.long l1] M (fun x1 M1 => (x1 ≤ 9 → zW shC g (d + 1) mX4_take (zz Q) 18 [(0, .ref 116), (1, .long l1), (3, .int 0)] [] (zup M1 116 1 0)) ∧ (¬ x1 ≤ 9 → Q false M1))) : zCz shC g (d + 1) mX4_take [.ref 116, .long l1] M Q := by
  refine zW.enter (by decide +kernel) (Nat.le_of_ble_eq_true rfl) ?_
  change zW shC g (d + 1) mX4_take (zz Q) 0 [(0, .ref 116), (1, .long l1)] [] M
  refine z_lload_n dX4_take_0 1 rfl ?_
  refine z_callS (m2 := mJ13_bitCount_95d88) (st := []) [.long l1] okJ13_bitCount_95d88 (Or.inl lkX4_37) rfl rfl (Nat.le_of_ble_eq_true rfl) dX4_take_1 (zgo_i h fun x1 M1 h => ?_)
  refine z_bipush (v := 9) dX4_take_4 (by decide) ?_
  refine z_icmp_le 11 dX4_take_6 (by decide) (fun c1 => ?_) (fun c1 => ?_)
  · have h := h.1 c1
    refine z_aload_n dX4_take_11 0 rfl ?_
    refine z_iconst (v := 0) dX4_take_12 (by decide) ?_
    refine z_puti shC_116 rfl fpX4_15 rfl rfl dX4_take_13 ?_
    refine z_iconst (v := 0) dX4_take_16 (by decide) ?_
    refine z_istore_n [(3, .int 0), (0, .ref 116), (1, .long l1)] dX4_take_17 (by decide) rfl ?_
    exact zW.sub [1, 2, 0] rfl h
  · have h := h.2 c1
    refine z_iconst (v := 0) dX4_take_9 (by decide) ?_
    exact z_zret (b := false) rfl rfl dX4_take_10 h
set_option maxRecDepth 20000 in
theorem vX4_take_18 {g : zG} {d : Nat} {Q : Bool → zM → Prop} {M : zM} {l1 : Int64} {l3 : Int32} (h : (64 ≤ l3 → zCv shC g d mX4_fillTours [.ref 116] M (fun  M1 => Q true M1)) ∧ (¬ 64 ≤ l3 → (9 ≤ (M 116 1) → zCv shC g d mX4_fillTours [.ref 116] M (fun  M1 => Q true M1)) ∧ (¬ 9 ≤ (M 116 1) → (¬ (lg_cmp ((l1 >>> ((l3 : Int32).toInt64 &&& 63)) &&& 1) 1) = 0 → zW shC g (d + 1) mX4_take (zz Q) 18 [(0, .ref 116), (1, .long l1), (3, .int (l3 + 1))] [] M) ∧ ((lg_cmp ((l1 >>> ((l3 : Int32).toInt64 &&& 63)) &&& 1) 1) = 0 → ∃ k1 : Nat, (M 116 1) = iv k1 ∧ k1 < 9 ∧ zW shC g (d + 1) mX4_take (zz Q) 18 [(0, .ref 116), (1, .long l1), (3, .int (l3 + 1))] [] (zup (zup M 117 k1 l3) 116 1 (((zup M 117 k1 l3) 116 1) + 1)))))) : zW shC g (d + 1) mX4_take (zz Q) 18 [(0, .ref 116), (1, .long l1), (3, .int l3)] [] M := by
  refine z_iload_n dX4_take_18 2 rfl ?_
  refine z_bipush (v := 64) dX4_take_19 (by decide) ?_
  refine z_icmp_ge 69 dX4_take_21 (by decide) (fun c1 => ?_) (fun c1 => ?_)
  · have h := h.1 c1
    refine z_aload_n dX4_take_69 0 rfl ?_
    refine z_callV (m2 := mX4_fillTours) (st := []) [] okX4_fillTours (Or.inl lkX4_43) shC_116 rfl rfl rfl (Nat.le_of_ble_eq_true rfl) dX4_take_70 (zgo_v h fun  M1 h => ?_)
    refine z_iconst (v := 1) dX4_take_73 (by decide) ?_
    exact z_zret (b := true) rfl rfl dX4_take_74 h
  · have h := h.2 c1
    refine z_aload_n dX4_take_24 0 rfl ?_
    refine z_geti shC_116 rfl flX4_15 dX4_take_25 ?_
    refine z_bipush (v := 9) dX4_take_28 (by decide) ?_
    refine z_icmp_ge 69 dX4_take_30 (by decide) (fun c2 => ?_) (fun c2 => ?_)
    · have h := h.1 c2
      refine z_aload_n dX4_take_69 0 rfl ?_
      refine z_callV (m2 := mX4_fillTours) (st := []) [] okX4_fillTours (Or.inl lkX4_43) shC_116 rfl rfl rfl (Nat.le_of_ble_eq_true rfl) dX4_take_70 (zgo_v h fun  M1 h => ?_)
      refine z_iconst (v := 1) dX4_take_73 (by decide) ?_
      exact z_zret (b := true) rfl rfl dX4_take_74 h
    · have h := h.2 c2
      refine z_lload_n dX4_take_33 1 rfl ?_
      refine z_iload_n dX4_take_34 2 rfl ?_
      refine z_lshr dX4_take_35 ?_
      refine z_lconst (v := 1) dX4_take_36 (by decide) ?_
      refine z_land dX4_take_37 ?_
      refine z_lconst (v := 1) dX4_take_38 (by decide) ?_
      refine z_lcmp dX4_take_39 ?_
      refine z_if_ne 63 dX4_take_40 (by decide) (fun c3 => ?_) (fun c3 => ?_)
      · have h := h.1 c3
        refine z_iinc (x := l3) (v := (l3 + 1)) [(3, .int (l3 + 1)), (0, .ref 116), (1, .long l1)] dX4_take_63 2 rfl rfl (by decide) rfl ?_
        refine z_goto 18 dX4_take_66 (by decide) ?_
        exact zW.sub [1, 2, 0] rfl h
      · have h := h.2 c3
        refine z_aload_n dX4_take_43 0 rfl ?_
        refine z_getr shC_116 rfl flX4_9 dX4_take_44 ?_
        refine z_aload_n dX4_take_47 0 rfl ?_
        refine z_geti shC_116 rfl flX4_15 dX4_take_48 ?_
        refine z_iload_n dX4_take_51 2 rfl ?_
        obtain ⟨k1, ek1, uk1, h⟩ := h
        refine z_iast2 (k0 := k1) shC_117 (by decide) ek1 uk1 dX4_take_52 ?_
        refine z_aload_n dX4_take_53 0 rfl ?_
        refine z_dupr dX4_take_54 ?_
        refine z_geti shC_116 rfl flX4_15 dX4_take_55 ?_
        refine z_iconst (v := 1) dX4_take_58 (by decide) ?_
        refine z_iadd dX4_take_59 ?_
        refine z_puti shC_116 rfl fpX4_15 rfl rfl dX4_take_60 ?_
        refine z_iinc (x := l3) (v := (l3 + 1)) [(3, .int (l3 + 1)), (0, .ref 116), (1, .long l1)] dX4_take_63 2 rfl rfl (by decide) rfl ?_
        refine z_goto 18 dX4_take_66 (by decide) ?_
        exact zW.sub [1, 2, 0] rfl h
theorem dX4_all_0 : decode cX4_all 0 = .ok (.iconst 1, 1) := by decide +kernel
theorem dX4_all_1 : decode cX4_all 1 = .ok (.aload_n 0, 1) := by decide +kernel
theorem dX4_all_2 : decode cX4_all 2 = .ok (.getfield 15, 3) := by decide +kernel
theorem dX4_all_5 : decode cX4_all 5 = .ok (.ishl, 1) := by decide +kernel
theorem dX4_all_6 : decode cX4_all 6 = .ok (.iconst 1, 1) := by decide +kernel
theorem dX4_all_7 : decode cX4_all 7 = .ok (.isub, 1) := by decide +kernel
theorem dX4_all_8 : decode cX4_all 8 = .ok (.ireturn, 1) := by decide +kernel
set_option maxRecDepth 20000 in
theorem vX4_all {g : zG} {d : Nat} {Q : Int32 → zM → Prop} {M : zM} (h : Q ((1 <<< ((M 116 1) &&& 31)) - 1) M) : zCi shC g d mX4_all [.ref 116] M Q := by
  refine zW.enter (by decide +kernel) (Nat.le_of_ble_eq_true rfl) ?_
  change zW shC g d mX4_all (zi Q) 0 [(0, .ref 116)] [] M
  refine z_iconst (v := 1) dX4_all_0 (by decide) ?_
  refine z_aload_n dX4_all_1 0 rfl ?_
  refine z_geti shC_116 rfl flX4_15 dX4_all_2 ?_
  refine z_ishl dX4_all_5 ?_
  refine z_iconst (v := 1) dX4_all_6 (by decide) ?_
  refine z_isub dX4_all_7 ?_
  exact z_iret (st := []) rfl rfl dX4_all_8 ⟨_, rfl, h⟩
theorem dX4_fillTours_0 : decode cX4_fillTours 0 = .ok (.iconst 1, 1) := by decide +kernel
theorem dX4_fillTours_1 : decode cX4_fillTours 1 = .ok (.istore_n 1, 1) := by decide +kernel
theorem dX4_fillTours_2 : decode cX4_fillTours 2 = .ok (.iload_n 1, 1) := by decide +kernel
theorem dX4_fillTours_3 : decode cX4_fillTours 3 = .ok (.aload_n 0, 1) := by decide +kernel
theorem dX4_fillTours_4 : decode cX4_fillTours 4 = .ok (.invokevirtual 46, 3) := by decide +kernel
theorem dX4_fillTours_7 : decode cX4_fillTours 7 = .ok (.if_icmp .gt 62, 3) := by decide +kernel
theorem dX4_fillTours_10 : decode cX4_fillTours 10 = .ok (.iconst 0, 1) := by decide +kernel
theorem dX4_fillTours_11 : decode cX4_fillTours 11 = .ok (.istore_n 2, 1) := by decide +kernel
theorem dX4_fillTours_12 : decode cX4_fillTours 12 = .ok (.iload_n 2, 1) := by decide +kernel
theorem dX4_fillTours_13 : decode cX4_fillTours 13 = .ok (.aload_n 0, 1) := by decide +kernel
theorem dX4_fillTours_14 : decode cX4_fillTours 14 = .ok (.getfield 15, 3) := by decide +kernel
theorem dX4_fillTours_17 : decode cX4_fillTours 17 = .ok (.if_icmp .ge 46, 3) := by decide +kernel
theorem dX4_fillTours_20 : decode cX4_fillTours 20 = .ok (.iload_n 1, 1) := by decide +kernel
theorem dX4_fillTours_21 : decode cX4_fillTours 21 = .ok (.iload_n 2, 1) := by decide +kernel
theorem dX4_fillTours_22 : decode cX4_fillTours 22 = .ok (.ishr, 1) := by decide +kernel
theorem dX4_fillTours_23 : decode cX4_fillTours 23 = .ok (.iconst 1, 1) := by decide +kernel
theorem dX4_fillTours_24 : decode cX4_fillTours 24 = .ok (.iand, 1) := by decide +kernel
theorem dX4_fillTours_25 : decode cX4_fillTours 25 = .ok (.iconst 1, 1) := by decide +kernel
theorem dX4_fillTours_26 : decode cX4_fillTours 26 = .ok (.if_icmp .ne 31, 3) := by decide +kernel
theorem dX4_fillTours_29 : decode cX4_fillTours 29 = .ok (.aload_n 0, 1) := by decide +kernel
theorem dX4_fillTours_30 : decode cX4_fillTours 30 = .ok (.getfield 19, 3) := by decide +kernel
theorem dX4_fillTours_33 : decode cX4_fillTours 33 = .ok (.iload_n 1, 1) := by decide +kernel
theorem dX4_fillTours_34 : decode cX4_fillTours 34 = .ok (.bipush 9, 2) := by decide +kernel
theorem dX4_fillTours_36 : decode cX4_fillTours 36 = .ok (.imul, 1) := by decide +kernel
theorem dX4_fillTours_37 : decode cX4_fillTours 37 = .ok (.iload_n 2, 1) := by decide +kernel
theorem dX4_fillTours_38 : decode cX4_fillTours 38 = .ok (.iadd, 1) := by decide +kernel
theorem dX4_fillTours_39 : decode cX4_fillTours 39 = .ok (.aload_n 0, 1) := by decide +kernel
theorem dX4_fillTours_40 : decode cX4_fillTours 40 = .ok (.aload_n 0, 1) := by decide +kernel
theorem dX4_fillTours_41 : decode cX4_fillTours 41 = .ok (.getfield 9, 3) := by decide +kernel
theorem dX4_fillTours_44 : decode cX4_fillTours 44 = .ok (.iload_n 2, 1) := by decide +kernel
theorem dX4_fillTours_45 : decode cX4_fillTours 45 = .ok (.iaload, 1) := by decide +kernel
theorem dX4_fillTours_46 : decode cX4_fillTours 46 = .ok (.iload_n 1, 1) := by decide +kernel
theorem dX4_fillTours_47 : decode cX4_fillTours 47 = .ok (.iconst 1, 1) := by decide +kernel
theorem dX4_fillTours_48 : decode cX4_fillTours 48 = .ok (.iload_n 2, 1) := by decide +kernel
theorem dX4_fillTours_49 : decode cX4_fillTours 49 = .ok (.ishl, 1) := by decide +kernel
theorem dX4_fillTours_50 : decode cX4_fillTours 50 = .ok (.iconst (-1), 1) := by decide +kernel
theorem dX4_fillTours_51 : decode cX4_fillTours 51 = .ok (.ixor, 1) := by decide +kernel
theorem dX4_fillTours_52 : decode cX4_fillTours 52 = .ok (.iand, 1) := by decide +kernel
theorem dX4_fillTours_53 : decode cX4_fillTours 53 = .ok (.invokevirtual 50, 3) := by decide +kernel
theorem dX4_fillTours_56 : decode cX4_fillTours 56 = .ok (.iastore, 1) := by decide +kernel
theorem dX4_fillTours_57 : decode cX4_fillTours 57 = .ok (.iinc 2 1, 3) := by decide +kernel
theorem dX4_fillTours_60 : decode cX4_fillTours 60 = .ok (.goto (-48), 3) := by decide +kernel
theorem dX4_fillTours_63 : decode cX4_fillTours 63 = .ok (.iinc 1 1, 3) := by decide +kernel
theorem dX4_fillTours_66 : decode cX4_fillTours 66 = .ok (.goto (-64), 3) := by decide +kernel
theorem dX4_fillTours_69 : decode cX4_fillTours 69 = .ok (.return_, 1) := by decide +kernel
set_option maxRecDepth 20000 in
theorem vX4_fillTours {g : zG} {d : Nat} {Q : zM → Prop} {M : zM} (h : zW shC g (d + 1) mX4_fillTours (zv Q) 2 [(0, .ref 116), (1, .int 1)] [] M) : zCv shC g (d + 1) mX4_fillTours [.ref 116] M Q := by
  refine zW.enter (by decide +kernel) (Nat.le_of_ble_eq_true rfl) ?_
  change zW shC g (d + 1) mX4_fillTours (zv Q) 0 [(0, .ref 116)] [] M
  refine z_iconst (v := 1) dX4_fillTours_0 (by decide) ?_
  refine z_istore_n [(1, .int 1), (0, .ref 116)] dX4_fillTours_1 (by decide) rfl ?_
  exact zW.sub [1, 0] rfl h
set_option maxRecDepth 20000 in
theorem vX4_fillTours_2 {g : zG} {d : Nat} {Q : zM → Prop} {M : zM} {l1 : Int32} (h : zCi shC g d mX4_all [.ref 116] M (fun x1 M1 => (x1 < l1 → Q M1) ∧ (¬ x1 < l1 → zW shC g (d + 1) mX4_fillTours (zv Q) 12 [(0, .ref 116), (1, .int l1), (2, .int 0)] [] M1))) : zW shC g (d + 1) mX4_fillTours (zv Q) 2 [(0, .ref 116), (1, .int l1)] [] M := by
  refine z_iload_n dX4_fillTours_2 1 rfl ?_
  refine z_aload_n dX4_fillTours_3 0 rfl ?_
  refine z_callV (m2 := mX4_all) (st := [.int l1]) [] okX4_all (Or.inl lkX4_46) shC_116 rfl rfl rfl (Nat.le_of_ble_eq_true rfl) dX4_fillTours_4 (zgo_i h fun x1 M1 h => ?_)
  refine z_icmp_gt 69 dX4_fillTours_7 (by decide) (fun c1 => ?_) (fun c1 => ?_)
  · have h := h.1 c1
    exact z_vret (st := []) rfl dX4_fillTours_69 ⟨rfl, h⟩
  · have h := h.2 c1
    refine z_iconst (v := 0) dX4_fillTours_10 (by decide) ?_
    refine z_istore_n [(2, .int 0), (0, .ref 116), (1, .int l1)] dX4_fillTours_11 (by decide) rfl ?_
    exact zW.sub [1, 2, 0] rfl h
set_option maxRecDepth 20000 in
theorem vX4_fillTours_12 {g : zG} {d : Nat} {Q : zM → Prop} {M : zM} {l1 : Int32} {l2 : Int32} (h : ((M 116 1) ≤ l2 → zW shC g (d + 1) mX4_fillTours (zv Q) 2 [(0, .ref 116), (1, .int (l1 + 1))] [] M) ∧ (¬ (M 116 1) ≤ l2 → (¬ ((l1 >>> (l2 &&& 31)) &&& 1) = 1 → zW shC g (d + 1) mX4_fillTours (zv Q) 12 [(0, .ref 116), (1, .int l1), (2, .int (l2 + 1))] [] M) ∧ (((l1 >>> (l2 &&& 31)) &&& 1) = 1 → ∃ k1 : Nat, l2 = iv k1 ∧ k1 < 9 ∧ zCi shC g d mX4_lead [.ref 116, .int (M 117 k1), .int (l1 &&& ((1 <<< (l2 &&& 31)) ^^^ (-1)))] M (fun x1 M1 => ∃ k2 : Nat, ((l1 * 9) + l2) = iv k2 ∧ k2 < 4608 ∧ zW shC g (d + 1) mX4_fillTours (zv Q) 12 [(0, .ref 116), (1, .int l1), (2, .int (l2 + 1))] [] (zup M1 118 k2 x1))))) : zW shC g (d + 1) mX4_fillTours (zv Q) 12 [(0, .ref 116), (1, .int l1), (2, .int l2)] [] M := by
  refine z_iload_n dX4_fillTours_12 2 rfl ?_
  refine z_aload_n dX4_fillTours_13 0 rfl ?_
  refine z_geti shC_116 rfl flX4_15 dX4_fillTours_14 ?_
  refine z_icmp_ge 63 dX4_fillTours_17 (by decide) (fun c1 => ?_) (fun c1 => ?_)
  · have h := h.1 c1
    refine z_iinc (x := l1) (v := (l1 + 1)) [(1, .int (l1 + 1)), (0, .ref 116), (2, .int l2)] dX4_fillTours_63 1 rfl rfl (by decide) rfl ?_
    refine z_goto 2 dX4_fillTours_66 (by decide) ?_
    exact zW.sub [1, 0] rfl h
  · have h := h.2 c1
    refine z_iload_n dX4_fillTours_20 1 rfl ?_
    refine z_iload_n dX4_fillTours_21 2 rfl ?_
    refine z_ishr dX4_fillTours_22 ?_
    refine z_iconst (v := 1) dX4_fillTours_23 (by decide) ?_
    refine z_iand dX4_fillTours_24 ?_
    refine z_iconst (v := 1) dX4_fillTours_25 (by decide) ?_
    refine z_icmp_ne 57 dX4_fillTours_26 (by decide) (fun c2 => ?_) (fun c2 => ?_)
    · have h := h.1 c2
      refine z_iinc (x := l2) (v := (l2 + 1)) [(2, .int (l2 + 1)), (0, .ref 116), (1, .int l1)] dX4_fillTours_57 2 rfl rfl (by decide) rfl ?_
      refine z_goto 12 dX4_fillTours_60 (by decide) ?_
      exact zW.sub [1, 2, 0] rfl h
    · have h := h.2 c2
      refine z_aload_n dX4_fillTours_29 0 rfl ?_
      refine z_getr shC_116 rfl flX4_19 dX4_fillTours_30 ?_
      refine z_iload_n dX4_fillTours_33 1 rfl ?_
      refine z_bipush (v := 9) dX4_fillTours_34 (by decide) ?_
      refine z_imul dX4_fillTours_36 ?_
      refine z_iload_n dX4_fillTours_37 2 rfl ?_
      refine z_iadd dX4_fillTours_38 ?_
      refine z_aload_n dX4_fillTours_39 0 rfl ?_
      refine z_aload_n dX4_fillTours_40 0 rfl ?_
      refine z_getr shC_116 rfl flX4_9 dX4_fillTours_41 ?_
      refine z_iload_n dX4_fillTours_44 2 rfl ?_
      obtain ⟨k1, ek1, uk1, h⟩ := h
      refine z_iald2 (k0 := k1) shC_117 (by decide) ek1 uk1 dX4_fillTours_45 ?_
      refine z_iload_n dX4_fillTours_46 1 rfl ?_
      refine z_iconst (v := 1) dX4_fillTours_47 (by decide) ?_
      refine z_iload_n dX4_fillTours_48 2 rfl ?_
      refine z_ishl dX4_fillTours_49 ?_
      refine z_iconst (v := (-1)) dX4_fillTours_50 (by decide) ?_
      refine z_ixor dX4_fillTours_51 ?_
      refine z_iand dX4_fillTours_52 ?_
      refine z_callV (m2 := mX4_lead) (st := [.int ((l1 * 9) + l2), .ref 118]) [.int (M 117 k1), .int (l1 &&& ((1 <<< (l2 &&& 31)) ^^^ (-1)))] okX4_lead (Or.inl lkX4_50) shC_116 rfl rfl rfl (Nat.le_of_ble_eq_true rfl) dX4_fillTours_53 (zgo_i h fun x1 M1 h => ?_)
      obtain ⟨k2, ek2, uk2, h⟩ := h
      refine z_iast2 (k0 := k2) shC_118 (by decide) ek2 uk2 dX4_fillTours_56 ?_
      refine z_iinc (x := l2) (v := (l2 + 1)) [(2, .int (l2 + 1)), (0, .ref 116), (1, .int l1)] dX4_fillTours_57 2 rfl rfl (by decide) rfl ?_
      refine z_goto 12 dX4_fillTours_60 (by decide) ?_
      exact zW.sub [1, 2, 0] rfl h
theorem dX4_lead_0 : decode cX4_lead 0 = .ok (.aload_n 0, 1) := by decide +kernel
theorem dX4_lead_1 : decode cX4_lead 1 = .ok (.iload_n 1, 1) := by decide +kernel
theorem dX4_lead_2 : decode cX4_lead 2 = .ok (.iload_n 2, 1) := by decide +kernel
theorem dX4_lead_3 : decode cX4_lead 3 = .ok (.invokevirtual 54, 3) := by decide +kernel
theorem dX4_lead_6 : decode cX4_lead 6 = .ok (.istore_n 3, 1) := by decide +kernel
theorem dX4_lead_7 : decode cX4_lead 7 = .ok (.iload_n 3, 1) := by decide +kernel
theorem dX4_lead_8 : decode cX4_lead 8 = .ok (.iconst (-1), 1) := by decide +kernel
theorem dX4_lead_9 : decode cX4_lead 9 = .ok (.if_icmp .ne 7, 3) := by decide +kernel
theorem dX4_lead_12 : decode cX4_lead 12 = .ok (.iconst 0, 1) := by decide +kernel
theorem dX4_lead_13 : decode cX4_lead 13 = .ok (.goto 25, 3) := by decide +kernel
theorem dX4_lead_16 : decode cX4_lead 16 = .ok (.iload_n 1, 1) := by decide +kernel
theorem dX4_lead_17 : decode cX4_lead 17 = .ok (.aload_n 0, 1) := by decide +kernel
theorem dX4_lead_18 : decode cX4_lead 18 = .ok (.getfield 9, 3) := by decide +kernel
theorem dX4_lead_21 : decode cX4_lead 21 = .ok (.iload_n 3, 1) := by decide +kernel
theorem dX4_lead_22 : decode cX4_lead 22 = .ok (.iaload, 1) := by decide +kernel
theorem dX4_lead_23 : decode cX4_lead 23 = .ok (.invokestatic 57, 3) := by decide +kernel
theorem dX4_lead_26 : decode cX4_lead 26 = .ok (.aload_n 0, 1) := by decide +kernel
theorem dX4_lead_27 : decode cX4_lead 27 = .ok (.getfield 19, 3) := by decide +kernel
theorem dX4_lead_30 : decode cX4_lead 30 = .ok (.iload_n 2, 1) := by decide +kernel
theorem dX4_lead_31 : decode cX4_lead 31 = .ok (.bipush 9, 2) := by decide +kernel
theorem dX4_lead_33 : decode cX4_lead 33 = .ok (.imul, 1) := by decide +kernel
theorem dX4_lead_34 : decode cX4_lead 34 = .ok (.iload_n 3, 1) := by decide +kernel
theorem dX4_lead_35 : decode cX4_lead 35 = .ok (.iadd, 1) := by decide +kernel
theorem dX4_lead_36 : decode cX4_lead 36 = .ok (.iaload, 1) := by decide +kernel
theorem dX4_lead_37 : decode cX4_lead 37 = .ok (.iadd, 1) := by decide +kernel
theorem dX4_lead_38 : decode cX4_lead 38 = .ok (.ireturn, 1) := by decide +kernel
set_option maxRecDepth 20000 in
theorem vX4_lead {g : zG} {d : Nat} {Q : Int32 → zM → Prop} {M : zM} {l1 : Int32} {l2 : Int32} (h : zCi shC g d mX4_firstStop [.ref 116, .int l1, .int l2] M (fun x1 M1 => (¬ x1 = (-1) → ∃ k1 : Nat, x1 = iv k1 ∧ k1 < 9 ∧ zCi shC g d mX8_distance [.int l1, .int (M1 117 k1)] M1 (fun x2 M2 => ∃ k2 : Nat, ((l2 * 9) + x1) = iv k2 ∧ k2 < 4608 ∧ Q (x2 + (M2 118 k2)) M2)) ∧ (x1 = (-1) → Q 0 M1))) : zCi shC g (d + 1) mX4_lead [.ref 116, .int l1, .int l2] M Q := by
  refine zW.enter (by decide +kernel) (Nat.le_of_ble_eq_true rfl) ?_
  change zW shC g (d + 1) mX4_lead (zi Q) 0 [(0, .ref 116), (1, .int l1), (2, .int l2)] [] M
  refine z_aload_n dX4_lead_0 0 rfl ?_
  refine z_iload_n dX4_lead_1 1 rfl ?_
  refine z_iload_n dX4_lead_2 2 rfl ?_
  refine z_callV (m2 := mX4_firstStop) (st := []) [.int l1, .int l2] okX4_firstStop (Or.inl lkX4_54) shC_116 rfl rfl rfl (Nat.le_of_ble_eq_true rfl) dX4_lead_3 (zgo_i h fun x1 M1 h => ?_)
  refine z_istore_n [(3, .int x1), (0, .ref 116), (1, .int l1), (2, .int l2)] dX4_lead_6 (by decide) rfl ?_
  refine z_iload_n dX4_lead_7 0 rfl ?_
  refine z_iconst (v := (-1)) dX4_lead_8 (by decide) ?_
  refine z_icmp_ne 16 dX4_lead_9 (by decide) (fun c1 => ?_) (fun c1 => ?_)
  · have h := h.1 c1
    refine z_iload_n dX4_lead_16 2 rfl ?_
    refine z_aload_n dX4_lead_17 1 rfl ?_
    refine z_getr shC_116 rfl flX4_9 dX4_lead_18 ?_
    refine z_iload_n dX4_lead_21 0 rfl ?_
    obtain ⟨k1, ek1, uk1, h⟩ := h
    refine z_iald2 (k0 := k1) shC_117 (by decide) ek1 uk1 dX4_lead_22 ?_
    refine z_callS (m2 := mX8_distance) (st := []) [.int l1, .int (M1 117 k1)] okX8_distance (Or.inr ⟨"LeftSkate", by decide +kernel⟩) rfl rfl (Nat.le_of_ble_eq_true rfl) dX4_lead_23 (zgo_i h fun x2 M2 h => ?_)
    refine z_aload_n dX4_lead_26 1 rfl ?_
    refine z_getr shC_116 rfl flX4_19 dX4_lead_27 ?_
    refine z_iload_n dX4_lead_30 3 rfl ?_
    refine z_bipush (v := 9) dX4_lead_31 (by decide) ?_
    refine z_imul dX4_lead_33 ?_
    refine z_iload_n dX4_lead_34 0 rfl ?_
    refine z_iadd dX4_lead_35 ?_
    obtain ⟨k2, ek2, uk2, h⟩ := h
    refine z_iald2 (k0 := k2) shC_118 (by decide) ek2 uk2 dX4_lead_36 ?_
    refine z_iadd dX4_lead_37 ?_
    exact z_iret (st := []) rfl rfl dX4_lead_38 ⟨_, rfl, h⟩
  · have h := h.2 c1
    refine z_iconst (v := 0) dX4_lead_12 (by decide) ?_
    refine z_goto 38 dX4_lead_13 (by decide) ?_
    exact z_iret (st := []) rfl rfl dX4_lead_38 ⟨_, rfl, h⟩
theorem dX4_firstStop_0 : decode cX4_firstStop 0 = .ok (.iconst (-1), 1) := by decide +kernel
theorem dX4_firstStop_1 : decode cX4_firstStop 1 = .ok (.istore_n 3, 1) := by decide +kernel
theorem dX4_firstStop_2 : decode cX4_firstStop 2 = .ok (.ldc 60, 2) := by decide +kernel
theorem dX4_firstStop_4 : decode cX4_firstStop 4 = .ok (.istore 4, 2) := by decide +kernel
theorem dX4_firstStop_6 : decode cX4_firstStop 6 = .ok (.iconst 0, 1) := by decide +kernel
theorem dX4_firstStop_7 : decode cX4_firstStop 7 = .ok (.istore 5, 2) := by decide +kernel
theorem dX4_firstStop_9 : decode cX4_firstStop 9 = .ok (.iload 5, 2) := by decide +kernel
theorem dX4_firstStop_11 : decode cX4_firstStop 11 = .ok (.aload_n 0, 1) := by decide +kernel
theorem dX4_firstStop_12 : decode cX4_firstStop 12 = .ok (.getfield 15, 3) := by decide +kernel
theorem dX4_firstStop_15 : decode cX4_firstStop 15 = .ok (.if_icmp .ge 59, 3) := by decide +kernel
theorem dX4_firstStop_18 : decode cX4_firstStop 18 = .ok (.iload_n 2, 1) := by decide +kernel
theorem dX4_firstStop_19 : decode cX4_firstStop 19 = .ok (.iload 5, 2) := by decide +kernel
theorem dX4_firstStop_21 : decode cX4_firstStop 21 = .ok (.ishr, 1) := by decide +kernel
theorem dX4_firstStop_22 : decode cX4_firstStop 22 = .ok (.iconst 1, 1) := by decide +kernel
theorem dX4_firstStop_23 : decode cX4_firstStop 23 = .ok (.iand, 1) := by decide +kernel
theorem dX4_firstStop_24 : decode cX4_firstStop 24 = .ok (.iconst 1, 1) := by decide +kernel
theorem dX4_firstStop_25 : decode cX4_firstStop 25 = .ok (.if_icmp .ne 43, 3) := by decide +kernel
theorem dX4_firstStop_28 : decode cX4_firstStop 28 = .ok (.iload_n 1, 1) := by decide +kernel
theorem dX4_firstStop_29 : decode cX4_firstStop 29 = .ok (.aload_n 0, 1) := by decide +kernel
theorem dX4_firstStop_30 : decode cX4_firstStop 30 = .ok (.getfield 9, 3) := by decide +kernel
theorem dX4_firstStop_33 : decode cX4_firstStop 33 = .ok (.iload 5, 2) := by decide +kernel
theorem dX4_firstStop_35 : decode cX4_firstStop 35 = .ok (.iaload, 1) := by decide +kernel
theorem dX4_firstStop_36 : decode cX4_firstStop 36 = .ok (.invokestatic 57, 3) := by decide +kernel
theorem dX4_firstStop_39 : decode cX4_firstStop 39 = .ok (.aload_n 0, 1) := by decide +kernel
theorem dX4_firstStop_40 : decode cX4_firstStop 40 = .ok (.getfield 19, 3) := by decide +kernel
theorem dX4_firstStop_43 : decode cX4_firstStop 43 = .ok (.iload_n 2, 1) := by decide +kernel
theorem dX4_firstStop_44 : decode cX4_firstStop 44 = .ok (.bipush 9, 2) := by decide +kernel
theorem dX4_firstStop_46 : decode cX4_firstStop 46 = .ok (.imul, 1) := by decide +kernel
theorem dX4_firstStop_47 : decode cX4_firstStop 47 = .ok (.iload 5, 2) := by decide +kernel
theorem dX4_firstStop_49 : decode cX4_firstStop 49 = .ok (.iadd, 1) := by decide +kernel
theorem dX4_firstStop_50 : decode cX4_firstStop 50 = .ok (.iaload, 1) := by decide +kernel
theorem dX4_firstStop_51 : decode cX4_firstStop 51 = .ok (.iadd, 1) := by decide +kernel
theorem dX4_firstStop_52 : decode cX4_firstStop 52 = .ok (.istore 6, 2) := by decide +kernel
theorem dX4_firstStop_54 : decode cX4_firstStop 54 = .ok (.iload 6, 2) := by decide +kernel
theorem dX4_firstStop_56 : decode cX4_firstStop 56 = .ok (.iload 4, 2) := by decide +kernel
theorem dX4_firstStop_58 : decode cX4_firstStop 58 = .ok (.if_icmp .ge 10, 3) := by decide +kernel
theorem dX4_firstStop_61 : decode cX4_firstStop 61 = .ok (.iload 6, 2) := by decide +kernel
theorem dX4_firstStop_63 : decode cX4_firstStop 63 = .ok (.istore 4, 2) := by decide +kernel
theorem dX4_firstStop_65 : decode cX4_firstStop 65 = .ok (.iload 5, 2) := by decide +kernel
theorem dX4_firstStop_67 : decode cX4_firstStop 67 = .ok (.istore_n 3, 1) := by decide +kernel
theorem dX4_firstStop_68 : decode cX4_firstStop 68 = .ok (.iinc 5 1, 3) := by decide +kernel
theorem dX4_firstStop_71 : decode cX4_firstStop 71 = .ok (.goto (-62), 3) := by decide +kernel
theorem dX4_firstStop_74 : decode cX4_firstStop 74 = .ok (.iload_n 3, 1) := by decide +kernel
theorem dX4_firstStop_75 : decode cX4_firstStop 75 = .ok (.ireturn, 1) := by decide +kernel
set_option maxRecDepth 20000 in
theorem vX4_firstStop {g : zG} {d : Nat} {Q : Int32 → zM → Prop} {M : zM} {l1 : Int32} {l2 : Int32} (h : zW shC g (d + 1) mX4_firstStop (zi Q) 9 [(0, .ref 116), (1, .int l1), (2, .int l2), (3, .int (-1)), (4, .int 100000000), (5, .int 0)] [] M) : zCi shC g (d + 1) mX4_firstStop [.ref 116, .int l1, .int l2] M Q := by
  refine zW.enter (by decide +kernel) (Nat.le_of_ble_eq_true rfl) ?_
  change zW shC g (d + 1) mX4_firstStop (zi Q) 0 [(0, .ref 116), (1, .int l1), (2, .int l2)] [] M
  refine z_iconst (v := (-1)) dX4_firstStop_0 (by decide) ?_
  refine z_istore_n [(3, .int (-1)), (0, .ref 116), (1, .int l1), (2, .int l2)] dX4_firstStop_1 (by decide) rfl ?_
  refine z_ldc dX4_firstStop_2 kcX4_60 ?_
  refine z_istore [(4, .int 100000000), (3, .int (-1)), (0, .ref 116), (1, .int l1), (2, .int l2)] dX4_firstStop_4 (by decide) rfl ?_
  refine z_iconst (v := 0) dX4_firstStop_6 (by decide) ?_
  refine z_istore [(5, .int 0), (4, .int 100000000), (3, .int (-1)), (0, .ref 116), (1, .int l1), (2, .int l2)] dX4_firstStop_7 (by decide) rfl ?_
  exact zW.sub [3, 4, 5, 2, 1, 0] rfl h
set_option maxRecDepth 20000 in
theorem vX4_firstStop_9 {g : zG} {d : Nat} {Q : Int32 → zM → Prop} {M : zM} {l1 : Int32} {l2 : Int32} {l3 : Int32} {l4 : Int32} {l5 : Int32} (h : ((M 116 1) ≤ l5 → Q l3 M) ∧ (¬ (M 116 1) ≤ l5 → (¬ ((l2 >>> (l5 &&& 31)) &&& 1) = 1 → zW shC g (d + 1) mX4_firstStop (zi Q) 9 [(0, .ref 116), (1, .int l1), (2, .int l2), (3, .int l3), (4, .int l4), (5, .int (l5 + 1))] [] M) ∧ (((l2 >>> (l5 &&& 31)) &&& 1) = 1 → ∃ k1 : Nat, l5 = iv k1 ∧ k1 < 9 ∧ zCi shC g d mX8_distance [.int l1, .int (M 117 k1)] M (fun x1 M1 => ∃ k2 : Nat, ((l2 * 9) + l5) = iv k2 ∧ k2 < 4608 ∧ (l4 ≤ (x1 + (M1 118 k2)) → zW shC g (d + 1) mX4_firstStop (zi Q) 9 [(0, .ref 116), (1, .int l1), (2, .int l2), (3, .int l3), (4, .int l4), (5, .int (l5 + 1))] [] M1) ∧ (¬ l4 ≤ (x1 + (M1 118 k2)) → zW shC g (d + 1) mX4_firstStop (zi Q) 9 [(0, .ref 116), (1, .int l1), (2, .int l2), (3, .int l5), (4, .int (x1 + (M1 118 k2))), (5, .int (l5 + 1))] [] M1))))) : zW shC g (d + 1) mX4_firstStop (zi Q) 9 [(0, .ref 116), (1, .int l1), (2, .int l2), (3, .int l3), (4, .int l4), (5, .int l5)] [] M := by
  refine z_iload dX4_firstStop_9 5 rfl ?_
  refine z_aload_n dX4_firstStop_11 0 rfl ?_
  refine z_geti shC_116 rfl flX4_15 dX4_firstStop_12 ?_
  refine z_icmp_ge 74 dX4_firstStop_15 (by decide) (fun c1 => ?_) (fun c1 => ?_)
  · have h := h.1 c1
    refine z_iload_n dX4_firstStop_74 3 rfl ?_
    exact z_iret (st := []) rfl rfl dX4_firstStop_75 ⟨_, rfl, h⟩
  · have h := h.2 c1
    refine z_iload_n dX4_firstStop_18 2 rfl ?_
    refine z_iload dX4_firstStop_19 5 rfl ?_
    refine z_ishr dX4_firstStop_21 ?_
    refine z_iconst (v := 1) dX4_firstStop_22 (by decide) ?_
    refine z_iand dX4_firstStop_23 ?_
    refine z_iconst (v := 1) dX4_firstStop_24 (by decide) ?_
    refine z_icmp_ne 68 dX4_firstStop_25 (by decide) (fun c2 => ?_) (fun c2 => ?_)
    · have h := h.1 c2
      refine z_iinc (x := l5) (v := (l5 + 1)) [(5, .int (l5 + 1)), (0, .ref 116), (1, .int l1), (2, .int l2), (3, .int l3), (4, .int l4)] dX4_firstStop_68 5 rfl rfl (by decide) rfl ?_
      refine z_goto 9 dX4_firstStop_71 (by decide) ?_
      exact zW.sub [1, 2, 3, 4, 5, 0] rfl h
    · have h := h.2 c2
      refine z_iload_n dX4_firstStop_28 1 rfl ?_
      refine z_aload_n dX4_firstStop_29 0 rfl ?_
      refine z_getr shC_116 rfl flX4_9 dX4_firstStop_30 ?_
      refine z_iload dX4_firstStop_33 5 rfl ?_
      obtain ⟨k1, ek1, uk1, h⟩ := h
      refine z_iald2 (k0 := k1) shC_117 (by decide) ek1 uk1 dX4_firstStop_35 ?_
      refine z_callS (m2 := mX8_distance) (st := []) [.int l1, .int (M 117 k1)] okX8_distance (Or.inr ⟨"LeftSkate", by decide +kernel⟩) rfl rfl (Nat.le_of_ble_eq_true rfl) dX4_firstStop_36 (zgo_i h fun x1 M1 h => ?_)
      refine z_aload_n dX4_firstStop_39 0 rfl ?_
      refine z_getr shC_116 rfl flX4_19 dX4_firstStop_40 ?_
      refine z_iload_n dX4_firstStop_43 2 rfl ?_
      refine z_bipush (v := 9) dX4_firstStop_44 (by decide) ?_
      refine z_imul dX4_firstStop_46 ?_
      refine z_iload dX4_firstStop_47 5 rfl ?_
      refine z_iadd dX4_firstStop_49 ?_
      obtain ⟨k2, ek2, uk2, h⟩ := h
      refine z_iald2 (k0 := k2) shC_118 (by decide) ek2 uk2 dX4_firstStop_50 ?_
      refine z_iadd dX4_firstStop_51 ?_
      refine z_istore [(6, .int (x1 + (M1 118 k2))), (0, .ref 116), (1, .int l1), (2, .int l2), (3, .int l3), (4, .int l4), (5, .int l5)] dX4_firstStop_52 (by decide) rfl ?_
      refine z_iload dX4_firstStop_54 0 rfl ?_
      refine z_iload dX4_firstStop_56 5 rfl ?_
      refine z_icmp_ge 68 dX4_firstStop_58 (by decide) (fun c3 => ?_) (fun c3 => ?_)
      · have h := h.1 c3
        refine z_iinc (x := l5) (v := (l5 + 1)) [(5, .int (l5 + 1)), (6, .int (x1 + (M1 118 k2))), (0, .ref 116), (1, .int l1), (2, .int l2), (3, .int l3), (4, .int l4)] dX4_firstStop_68 6 rfl rfl (by decide) rfl ?_
        refine z_goto 9 dX4_firstStop_71 (by decide) ?_
        exact zW.sub [2, 3, 4, 5, 6, 0] rfl h
      · have h := h.2 c3
        refine z_iload dX4_firstStop_61 0 rfl ?_
        refine z_istore [(4, .int (x1 + (M1 118 k2))), (6, .int (x1 + (M1 118 k2))), (0, .ref 116), (1, .int l1), (2, .int l2), (3, .int l3), (5, .int l5)] dX4_firstStop_63 (by decide) rfl ?_
        refine z_iload dX4_firstStop_65 6 rfl ?_
        refine z_istore_n [(3, .int l5), (4, .int (x1 + (M1 118 k2))), (6, .int (x1 + (M1 118 k2))), (0, .ref 116), (1, .int l1), (2, .int l2), (5, .int l5)] dX4_firstStop_67 (by decide) rfl ?_
        refine z_iinc (x := l5) (v := (l5 + 1)) [(5, .int (l5 + 1)), (3, .int l5), (4, .int (x1 + (M1 118 k2))), (6, .int (x1 + (M1 118 k2))), (0, .ref 116), (1, .int l1), (2, .int l2)] dX4_firstStop_68 6 rfl rfl (by decide) rfl ?_
        refine z_goto 9 dX4_firstStop_71 (by decide) ?_
        exact zW.sub [4, 5, 6, 1, 2, 0] rfl h
theorem dX4_stop_0 : decode cX4_stop 0 = .ok (.iload_n 1, 1) := by decide +kernel
theorem dX4_stop_1 : decode cX4_stop 1 = .ok (.istore_n 3, 1) := by decide +kernel
theorem dX4_stop_2 : decode cX4_stop 2 = .ok (.aload_n 0, 1) := by decide +kernel
theorem dX4_stop_3 : decode cX4_stop 3 = .ok (.invokevirtual 46, 3) := by decide +kernel
theorem dX4_stop_6 : decode cX4_stop 6 = .ok (.istore 4, 2) := by decide +kernel
theorem dX4_stop_8 : decode cX4_stop 8 = .ok (.iconst 0, 1) := by decide +kernel
theorem dX4_stop_9 : decode cX4_stop 9 = .ok (.istore 5, 2) := by decide +kernel
theorem dX4_stop_11 : decode cX4_stop 11 = .ok (.iload 5, 2) := by decide +kernel
theorem dX4_stop_13 : decode cX4_stop 13 = .ok (.iload_n 2, 1) := by decide +kernel
theorem dX4_stop_14 : decode cX4_stop 14 = .ok (.if_icmp .gt 45, 3) := by decide +kernel
theorem dX4_stop_17 : decode cX4_stop 17 = .ok (.aload_n 0, 1) := by decide +kernel
theorem dX4_stop_18 : decode cX4_stop 18 = .ok (.iload_n 3, 1) := by decide +kernel
theorem dX4_stop_19 : decode cX4_stop 19 = .ok (.iload 4, 2) := by decide +kernel
theorem dX4_stop_21 : decode cX4_stop 21 = .ok (.invokevirtual 54, 3) := by decide +kernel
theorem dX4_stop_24 : decode cX4_stop 24 = .ok (.istore 6, 2) := by decide +kernel
theorem dX4_stop_26 : decode cX4_stop 26 = .ok (.iload 6, 2) := by decide +kernel
theorem dX4_stop_28 : decode cX4_stop 28 = .ok (.iconst (-1), 1) := by decide +kernel
theorem dX4_stop_29 : decode cX4_stop 29 = .ok (.if_icmp .ne 5, 3) := by decide +kernel
theorem dX4_stop_32 : decode cX4_stop 32 = .ok (.iconst (-1), 1) := by decide +kernel
theorem dX4_stop_33 : decode cX4_stop 33 = .ok (.ireturn, 1) := by decide +kernel
theorem dX4_stop_34 : decode cX4_stop 34 = .ok (.aload_n 0, 1) := by decide +kernel
theorem dX4_stop_35 : decode cX4_stop 35 = .ok (.getfield 9, 3) := by decide +kernel
theorem dX4_stop_38 : decode cX4_stop 38 = .ok (.iload 6, 2) := by decide +kernel
theorem dX4_stop_40 : decode cX4_stop 40 = .ok (.iaload, 1) := by decide +kernel
theorem dX4_stop_41 : decode cX4_stop 41 = .ok (.istore_n 3, 1) := by decide +kernel
theorem dX4_stop_42 : decode cX4_stop 42 = .ok (.iload 4, 2) := by decide +kernel
theorem dX4_stop_44 : decode cX4_stop 44 = .ok (.iconst 1, 1) := by decide +kernel
theorem dX4_stop_45 : decode cX4_stop 45 = .ok (.iload 6, 2) := by decide +kernel
theorem dX4_stop_47 : decode cX4_stop 47 = .ok (.ishl, 1) := by decide +kernel
theorem dX4_stop_48 : decode cX4_stop 48 = .ok (.iconst (-1), 1) := by decide +kernel
theorem dX4_stop_49 : decode cX4_stop 49 = .ok (.ixor, 1) := by decide +kernel
theorem dX4_stop_50 : decode cX4_stop 50 = .ok (.iand, 1) := by decide +kernel
theorem dX4_stop_51 : decode cX4_stop 51 = .ok (.istore 4, 2) := by decide +kernel
theorem dX4_stop_53 : decode cX4_stop 53 = .ok (.iinc 5 1, 3) := by decide +kernel
theorem dX4_stop_56 : decode cX4_stop 56 = .ok (.goto (-45), 3) := by decide +kernel
theorem dX4_stop_59 : decode cX4_stop 59 = .ok (.iload_n 3, 1) := by decide +kernel
theorem dX4_stop_60 : decode cX4_stop 60 = .ok (.ireturn, 1) := by decide +kernel
set_option maxRecDepth 20000 in
theorem vX4_stop {g : zG} {d : Nat} {Q : Int32 → zM → Prop} {M : zM} {l1 : Int32} {l2 : Int32} (h : zCi shC g d mX4_all [.ref 116] M (fun x1 M1 => zW shC g (d + 1) mX4_stop (zi Q) 11 [(0, .ref 116), (2, .int l2), (3, .int l1), (4, .int x1), (5, .int 0)] [] M1)) : zCi shC g (d + 1) mX4_stop [.ref 116, .int l1, .int l2] M Q := by
  refine zW.enter (by decide +kernel) (Nat.le_of_ble_eq_true rfl) ?_
  change zW shC g (d + 1) mX4_stop (zi Q) 0 [(0, .ref 116), (1, .int l1), (2, .int l2)] [] M
  refine z_iload_n dX4_stop_0 1 rfl ?_
  refine z_istore_n [(3, .int l1), (0, .ref 116), (1, .int l1), (2, .int l2)] dX4_stop_1 (by decide) rfl ?_
  refine z_aload_n dX4_stop_2 1 rfl ?_
  refine z_callV (m2 := mX4_all) (st := []) [] okX4_all (Or.inl lkX4_46) shC_116 rfl rfl rfl (Nat.le_of_ble_eq_true rfl) dX4_stop_3 (zgo_i h fun x1 M1 h => ?_)
  refine z_istore [(4, .int x1), (3, .int l1), (0, .ref 116), (1, .int l1), (2, .int l2)] dX4_stop_6 (by decide) rfl ?_
  refine z_iconst (v := 0) dX4_stop_8 (by decide) ?_
  refine z_istore [(5, .int 0), (4, .int x1), (3, .int l1), (0, .ref 116), (1, .int l1), (2, .int l2)] dX4_stop_9 (by decide) rfl ?_
  exact zW.sub [3, 5, 2, 1, 0] rfl h
set_option maxRecDepth 20000 in
theorem vX4_stop_11 {g : zG} {d : Nat} {Q : Int32 → zM → Prop} {M : zM} {l2 : Int32} {l3 : Int32} {l4 : Int32} {l5 : Int32} (h : (l2 < l5 → Q l3 M) ∧ (¬ l2 < l5 → zCi shC g d mX4_firstStop [.ref 116, .int l3, .int l4] M (fun x1 M1 => (¬ x1 = (-1) → ∃ k1 : Nat, x1 = iv k1 ∧ k1 < 9 ∧ zW shC g (d + 1) mX4_stop (zi Q) 11 [(0, .ref 116), (2, .int l2), (3, .int (M1 117 k1)), (4, .int (l4 &&& ((1 <<< (x1 &&& 31)) ^^^ (-1)))), (5, .int (l5 + 1))] [] M1) ∧ (x1 = (-1) → Q (-1) M1)))) : zW shC g (d + 1) mX4_stop (zi Q) 11 [(0, .ref 116), (2, .int l2), (3, .int l3), (4, .int l4), (5, .int l5)] [] M := by
  refine z_iload dX4_stop_11 4 rfl ?_
  refine z_iload_n dX4_stop_13 1 rfl ?_
  refine z_icmp_gt 59 dX4_stop_14 (by decide) (fun c1 => ?_) (fun c1 => ?_)
  · have h := h.1 c1
    refine z_iload_n dX4_stop_59 2 rfl ?_
    exact z_iret (st := []) rfl rfl dX4_stop_60 ⟨_, rfl, h⟩
  · have h := h.2 c1
    refine z_aload_n dX4_stop_17 0 rfl ?_
    refine z_iload_n dX4_stop_18 2 rfl ?_
    refine z_iload dX4_stop_19 3 rfl ?_
    refine z_callV (m2 := mX4_firstStop) (st := []) [.int l3, .int l4] okX4_firstStop (Or.inl lkX4_54) shC_116 rfl rfl rfl (Nat.le_of_ble_eq_true rfl) dX4_stop_21 (zgo_i h fun x1 M1 h => ?_)
    refine z_istore [(6, .int x1), (0, .ref 116), (2, .int l2), (3, .int l3), (4, .int l4), (5, .int l5)] dX4_stop_24 (by decide) rfl ?_
    refine z_iload dX4_stop_26 0 rfl ?_
    refine z_iconst (v := (-1)) dX4_stop_28 (by decide) ?_
    refine z_icmp_ne 34 dX4_stop_29 (by decide) (fun c2 => ?_) (fun c2 => ?_)
    · have h := h.1 c2
      refine z_aload_n dX4_stop_34 1 rfl ?_
      refine z_getr shC_116 rfl flX4_9 dX4_stop_35 ?_
      refine z_iload dX4_stop_38 0 rfl ?_
      obtain ⟨k1, ek1, uk1, h⟩ := h
      refine z_iald2 (k0 := k1) shC_117 (by decide) ek1 uk1 dX4_stop_40 ?_
      refine z_istore_n [(3, .int (M1 117 k1)), (6, .int x1), (0, .ref 116), (2, .int l2), (4, .int l4), (5, .int l5)] dX4_stop_41 (by decide) rfl ?_
      refine z_iload dX4_stop_42 4 rfl ?_
      refine z_iconst (v := 1) dX4_stop_44 (by decide) ?_
      refine z_iload dX4_stop_45 1 rfl ?_
      refine z_ishl dX4_stop_47 ?_
      refine z_iconst (v := (-1)) dX4_stop_48 (by decide) ?_
      refine z_ixor dX4_stop_49 ?_
      refine z_iand dX4_stop_50 ?_
      refine z_istore [(4, .int (l4 &&& ((1 <<< (x1 &&& 31)) ^^^ (-1)))), (3, .int (M1 117 k1)), (6, .int x1), (0, .ref 116), (2, .int l2), (5, .int l5)] dX4_stop_51 (by decide) rfl ?_
      refine z_iinc (x := l5) (v := (l5 + 1)) [(5, .int (l5 + 1)), (4, .int (l4 &&& ((1 <<< (x1 &&& 31)) ^^^ (-1)))), (3, .int (M1 117 k1)), (6, .int x1), (0, .ref 116), (2, .int l2)] dX4_stop_53 5 rfl rfl (by decide) rfl ?_
      refine z_goto 11 dX4_stop_56 (by decide) ?_
      exact zW.sub [4, 5, 2, 1, 0] rfl h
    · have h := h.2 c2
      refine z_iconst (v := (-1)) dX4_stop_32 (by decide) ?_
      exact z_iret (st := []) rfl rfl dX4_stop_33 ⟨_, rfl, h⟩
theorem dX4_begin_0 : decode cX4_begin 0 = .ok (.aload_n 0, 1) := by decide +kernel
theorem dX4_begin_1 : decode cX4_begin 1 = .ok (.iload_n 2, 1) := by decide +kernel
theorem dX4_begin_2 : decode cX4_begin 2 = .ok (.bipush 6, 2) := by decide +kernel
theorem dX4_begin_4 : decode cX4_begin 4 = .ok (.invokestatic 61, 3) := by decide +kernel
theorem dX4_begin_7 : decode cX4_begin 7 = .ok (.putfield 22, 3) := by decide +kernel
theorem dX4_begin_10 : decode cX4_begin 10 = .ok (.aload_n 1, 1) := by decide +kernel
theorem dX4_begin_11 : decode cX4_begin 11 = .ok (.iconst 0, 1) := by decide +kernel
theorem dX4_begin_12 : decode cX4_begin 12 = .ok (.aload_n 0, 1) := by decide +kernel
theorem dX4_begin_13 : decode cX4_begin 13 = .ok (.getfield 25, 3) := by decide +kernel
theorem dX4_begin_16 : decode cX4_begin 16 = .ok (.iconst 0, 1) := by decide +kernel
theorem dX4_begin_17 : decode cX4_begin 17 = .ok (.aload_n 0, 1) := by decide +kernel
theorem dX4_begin_18 : decode cX4_begin 18 = .ok (.getfield 22, 3) := by decide +kernel
theorem dX4_begin_21 : decode cX4_begin 21 = .ok (.invokestatic 66, 3) := by decide +kernel
theorem dX4_begin_24 : decode cX4_begin 24 = .ok (.return_, 1) := by decide +kernel
set_option maxRecDepth 20000 in
theorem vX4_begin {g : zG} {d : Nat} {Q : zM → Prop} {M : zM} {l2 : Int32} (h : ∃ k1 : Nat, ((zup M 116 3 (imin l2 6)) 116 3) = iv k1 ∧ k1 ≤ 6 ∧ Q (zcpy (zup M 116 3 (imin l2 6)) 6 119 k1)) : zCv shC g (d + 1) mX4_begin [.ref 116, .ref 6, .int l2] M Q := by
  refine zW.enter (by decide +kernel) (Nat.le_of_ble_eq_true rfl) ?_
  change zW shC g (d + 1) mX4_begin (zv Q) 0 [(0, .ref 116), (1, .ref 6), (2, .int l2)] [] M
  refine z_aload_n dX4_begin_0 0 rfl ?_
  refine z_iload_n dX4_begin_1 2 rfl ?_
  refine z_bipush (v := 6) dX4_begin_2 (by decide) ?_
  refine z_min (st := [.ref 116]) lkX4_61 (Nat.le_of_ble_eq_true rfl) dX4_begin_4 ?_
  refine z_puti shC_116 rfl fpX4_22 rfl rfl dX4_begin_7 ?_
  refine z_aload_n dX4_begin_10 1 rfl ?_
  refine z_iconst (v := 0) dX4_begin_11 (by decide) ?_
  refine z_aload_n dX4_begin_12 0 rfl ?_
  refine z_getr shC_116 rfl flX4_25 dX4_begin_13 ?_
  refine z_iconst (v := 0) dX4_begin_16 (by decide) ?_
  refine z_aload_n dX4_begin_17 0 rfl ?_
  refine z_geti shC_116 rfl flX4_22 dX4_begin_18 ?_
  obtain ⟨k1, ek1, uk1, h⟩ := h
  refine z_cpy (k0 := k1) shC_6 shC_119 (zat 1048 (by decide +kernel) rfl) ek1 (Nat.le_trans uk1 (by decide)) (Nat.le_trans uk1 (by decide)) (by decide) (by decide) (Nat.le_of_ble_eq_true rfl) dX4_begin_21 ?_
  exact z_vret (st := []) rfl dX4_begin_24 ⟨rfl, h⟩
theorem dX4_longest_0 : decode cX4_longest 0 = .ok (.aload_n 0, 1) := by decide +kernel
theorem dX4_longest_1 : decode cX4_longest 1 = .ok (.getfield 31, 3) := by decide +kernel
theorem dX4_longest_4 : decode cX4_longest 4 = .ok (.ldc 60, 2) := by decide +kernel
theorem dX4_longest_6 : decode cX4_longest 6 = .ok (.invokestatic 72, 3) := by decide +kernel
theorem dX4_longest_9 : decode cX4_longest 9 = .ok (.aload_n 0, 1) := by decide +kernel
theorem dX4_longest_10 : decode cX4_longest 10 = .ok (.getfield 31, 3) := by decide +kernel
theorem dX4_longest_13 : decode cX4_longest 13 = .ok (.iconst 0, 1) := by decide +kernel
theorem dX4_longest_14 : decode cX4_longest 14 = .ok (.iconst 0, 1) := by decide +kernel
theorem dX4_longest_15 : decode cX4_longest 15 = .ok (.iastore, 1) := by decide +kernel
theorem dX4_longest_16 : decode cX4_longest 16 = .ok (.iconst 0, 1) := by decide +kernel
theorem dX4_longest_17 : decode cX4_longest 17 = .ok (.istore_n 1, 1) := by decide +kernel
theorem dX4_longest_18 : decode cX4_longest 18 = .ok (.iload_n 1, 1) := by decide +kernel
theorem dX4_longest_19 : decode cX4_longest 19 = .ok (.aload_n 0, 1) := by decide +kernel
theorem dX4_longest_20 : decode cX4_longest 20 = .ok (.getfield 22, 3) := by decide +kernel
theorem dX4_longest_23 : decode cX4_longest 23 = .ok (.if_icmp .ge 45, 3) := by decide +kernel
theorem dX4_longest_26 : decode cX4_longest 26 = .ok (.aload_n 0, 1) := by decide +kernel
theorem dX4_longest_27 : decode cX4_longest 27 = .ok (.iload_n 1, 1) := by decide +kernel
theorem dX4_longest_28 : decode cX4_longest 28 = .ok (.invokevirtual 78, 3) := by decide +kernel
theorem dX4_longest_31 : decode cX4_longest 31 = .ok (.aload_n 0, 1) := by decide +kernel
theorem dX4_longest_32 : decode cX4_longest 32 = .ok (.invokevirtual 46, 3) := by decide +kernel
theorem dX4_longest_35 : decode cX4_longest 35 = .ok (.istore_n 2, 1) := by decide +kernel
theorem dX4_longest_36 : decode cX4_longest 36 = .ok (.iload_n 2, 1) := by decide +kernel
theorem dX4_longest_37 : decode cX4_longest 37 = .ok (.aload_n 0, 1) := by decide +kernel
theorem dX4_longest_38 : decode cX4_longest 38 = .ok (.iload_n 1, 1) := by decide +kernel
theorem dX4_longest_39 : decode cX4_longest 39 = .ok (.invokevirtual 82, 3) := by decide +kernel
theorem dX4_longest_42 : decode cX4_longest 42 = .ok (.if_icmp .lt 20, 3) := by decide +kernel
theorem dX4_longest_45 : decode cX4_longest 45 = .ok (.aload_n 0, 1) := by decide +kernel
theorem dX4_longest_46 : decode cX4_longest 46 = .ok (.getfield 31, 3) := by decide +kernel
theorem dX4_longest_49 : decode cX4_longest 49 = .ok (.iload_n 2, 1) := by decide +kernel
theorem dX4_longest_50 : decode cX4_longest 50 = .ok (.aload_n 0, 1) := by decide +kernel
theorem dX4_longest_51 : decode cX4_longest 51 = .ok (.iload_n 2, 1) := by decide +kernel
theorem dX4_longest_52 : decode cX4_longest 52 = .ok (.invokevirtual 86, 3) := by decide +kernel
theorem dX4_longest_55 : decode cX4_longest 55 = .ok (.iastore, 1) := by decide +kernel
theorem dX4_longest_56 : decode cX4_longest 56 = .ok (.iinc 2 (-1), 3) := by decide +kernel
theorem dX4_longest_59 : decode cX4_longest 59 = .ok (.goto (-23), 3) := by decide +kernel
theorem dX4_longest_62 : decode cX4_longest 62 = .ok (.iinc 1 1, 3) := by decide +kernel
theorem dX4_longest_65 : decode cX4_longest 65 = .ok (.goto (-47), 3) := by decide +kernel
theorem dX4_longest_68 : decode cX4_longest 68 = .ok (.aload_n 0, 1) := by decide +kernel
theorem dX4_longest_69 : decode cX4_longest 69 = .ok (.getfield 31, 3) := by decide +kernel
theorem dX4_longest_72 : decode cX4_longest 72 = .ok (.aload_n 0, 1) := by decide +kernel
theorem dX4_longest_73 : decode cX4_longest 73 = .ok (.invokevirtual 46, 3) := by decide +kernel
theorem dX4_longest_76 : decode cX4_longest 76 = .ok (.iaload, 1) := by decide +kernel
theorem dX4_longest_77 : decode cX4_longest 77 = .ok (.ireturn, 1) := by decide +kernel
set_option maxRecDepth 20000 in
theorem vX4_longest {g : zG} {d : Nat} {Q : Int32 → zM → Prop} {M : zM} (h : zCv shC g d mJ7_fill_53178 [.ref 121, .int 100000000] M (fun  M1 => zW shC g (d + 1) mX4_longest (zi Q) 18 [(0, .ref 116), (1, .int 0)] [] (zup M1 121 0 0))) : zCi shC g (d + 1) mX4_longest [.ref 116] M Q := by
  refine zW.enter (by decide +kernel) (Nat.le_of_ble_eq_true rfl) ?_
  change zW shC g (d + 1) mX4_longest (zi Q) 0 [(0, .ref 116)] [] M
  refine z_aload_n dX4_longest_0 0 rfl ?_
  refine z_getr shC_116 rfl flX4_31 dX4_longest_1 ?_
  refine z_ldc dX4_longest_4 kcX4_60 ?_
  refine z_callS (m2 := mJ7_fill_53178) (st := []) [.ref 121, .int 100000000] okJ7_fill_53178 (Or.inl lkX4_72) rfl rfl (Nat.le_of_ble_eq_true rfl) dX4_longest_6 (zgo_v h fun  M1 h => ?_)
  refine z_aload_n dX4_longest_9 0 rfl ?_
  refine z_getr shC_116 rfl flX4_31 dX4_longest_10 ?_
  refine z_iconst (v := 0) dX4_longest_13 (by decide) ?_
  refine z_iconst (v := 0) dX4_longest_14 (by decide) ?_
  refine z_iast2 (k0 := 0) shC_121 (by decide) (by decide) (by decide) dX4_longest_15 ?_
  refine z_iconst (v := 0) dX4_longest_16 (by decide) ?_
  refine z_istore_n [(1, .int 0), (0, .ref 116)] dX4_longest_17 (by decide) rfl ?_
  exact zW.sub [1, 0] rfl h
set_option maxRecDepth 20000 in
theorem vX4_longest_18 {g : zG} {d : Nat} {Q : Int32 → zM → Prop} {M : zM} {l1 : Int32} (h : ((M 116 3) ≤ l1 → zCi shC g d mX4_all [.ref 116] M (fun x1 M1 => ∃ k1 : Nat, x1 = iv k1 ∧ k1 < 512 ∧ Q (M1 121 k1) M1)) ∧ (¬ (M 116 3) ≤ l1 → zCv shC g d mX4_fillCosts [.ref 116, .int l1] M (fun  M1 => zCi shC g d mX4_all [.ref 116] M1 (fun x2 M2 => zW shC g (d + 1) mX4_longest (zi Q) 36 [(0, .ref 116), (1, .int l1), (2, .int x2)] [] M2)))) : zW shC g (d + 1) mX4_longest (zi Q) 18 [(0, .ref 116), (1, .int l1)] [] M := by
  refine z_iload_n dX4_longest_18 1 rfl ?_
  refine z_aload_n dX4_longest_19 0 rfl ?_
  refine z_geti shC_116 rfl flX4_22 dX4_longest_20 ?_
  refine z_icmp_ge 68 dX4_longest_23 (by decide) (fun c1 => ?_) (fun c1 => ?_)
  · have h := h.1 c1
    refine z_aload_n dX4_longest_68 0 rfl ?_
    refine z_getr shC_116 rfl flX4_31 dX4_longest_69 ?_
    refine z_aload_n dX4_longest_72 0 rfl ?_
    refine z_callV (m2 := mX4_all) (st := [.ref 121]) [] okX4_all (Or.inl lkX4_46) shC_116 rfl rfl rfl (Nat.le_of_ble_eq_true rfl) dX4_longest_73 (zgo_i h fun x1 M1 h => ?_)
    obtain ⟨k1, ek1, uk1, h⟩ := h
    refine z_iald2 (k0 := k1) shC_121 (by decide) ek1 uk1 dX4_longest_76 ?_
    exact z_iret (st := []) rfl rfl dX4_longest_77 ⟨_, rfl, h⟩
  · have h := h.2 c1
    refine z_aload_n dX4_longest_26 0 rfl ?_
    refine z_iload_n dX4_longest_27 1 rfl ?_
    refine z_callV (m2 := mX4_fillCosts) (st := []) [.int l1] okX4_fillCosts (Or.inl lkX4_78) shC_116 rfl rfl rfl (Nat.le_of_ble_eq_true rfl) dX4_longest_28 (zgo_v h fun  M1 h => ?_)
    refine z_aload_n dX4_longest_31 0 rfl ?_
    refine z_callV (m2 := mX4_all) (st := []) [] okX4_all (Or.inl lkX4_46) shC_116 rfl rfl rfl (Nat.le_of_ble_eq_true rfl) dX4_longest_32 (zgo_i h fun x2 M2 h => ?_)
    refine z_istore_n [(2, .int x2), (0, .ref 116), (1, .int l1)] dX4_longest_35 (by decide) rfl ?_
    exact zW.sub [1, 2, 0] rfl h
set_option maxRecDepth 20000 in
theorem vX4_longest_36 {g : zG} {d : Nat} {Q : Int32 → zM → Prop} {M : zM} {l1 : Int32} {l2 : Int32} (h : zCi shC g d mX4_lastNeeded [.ref 116, .int l1] M (fun x1 M1 => (l2 < x1 → zW shC g (d + 1) mX4_longest (zi Q) 18 [(0, .ref 116), (1, .int (l1 + 1))] [] M1) ∧ (¬ l2 < x1 → zCi shC g d mX4_leastLongest [.ref 116, .int l2] M1 (fun x2 M2 => ∃ k1 : Nat, l2 = iv k1 ∧ k1 < 512 ∧ zW shC g (d + 1) mX4_longest (zi Q) 36 [(0, .ref 116), (1, .int l1), (2, .int (l2 + (-1)))] [] (zup M2 121 k1 x2))))) : zW shC g (d + 1) mX4_longest (zi Q) 36 [(0, .ref 116), (1, .int l1), (2, .int l2)] [] M := by
  refine z_iload_n dX4_longest_36 2 rfl ?_
  refine z_aload_n dX4_longest_37 0 rfl ?_
  refine z_iload_n dX4_longest_38 1 rfl ?_
  refine z_callV (m2 := mX4_lastNeeded) (st := [.int l2]) [.int l1] okX4_lastNeeded (Or.inl lkX4_82) shC_116 rfl rfl rfl (Nat.le_of_ble_eq_true rfl) dX4_longest_39 (zgo_i h fun x1 M1 h => ?_)
  refine z_icmp_lt 62 dX4_longest_42 (by decide) (fun c1 => ?_) (fun c1 => ?_)
  · have h := h.1 c1
    refine z_iinc (x := l1) (v := (l1 + 1)) [(1, .int (l1 + 1)), (0, .ref 116), (2, .int l2)] dX4_longest_62 1 rfl rfl (by decide) rfl ?_
    refine z_goto 18 dX4_longest_65 (by decide) ?_
    exact zW.sub [1, 0] rfl h
  · have h := h.2 c1
    refine z_aload_n dX4_longest_45 0 rfl ?_
    refine z_getr shC_116 rfl flX4_31 dX4_longest_46 ?_
    refine z_iload_n dX4_longest_49 2 rfl ?_
    refine z_aload_n dX4_longest_50 0 rfl ?_
    refine z_iload_n dX4_longest_51 2 rfl ?_
    refine z_callV (m2 := mX4_leastLongest) (st := [.int l2, .ref 121]) [.int l2] okX4_leastLongest (Or.inl lkX4_86) shC_116 rfl rfl rfl (Nat.le_of_ble_eq_true rfl) dX4_longest_52 (zgo_i h fun x2 M2 h => ?_)
    obtain ⟨k1, ek1, uk1, h⟩ := h
    refine z_iast2 (k0 := k1) shC_121 (by decide) ek1 uk1 dX4_longest_55 ?_
    refine z_iinc (x := l2) (v := (l2 + (-1))) [(2, .int (l2 + (-1))), (0, .ref 116), (1, .int l1)] dX4_longest_56 2 rfl rfl (by decide) rfl ?_
    refine z_goto 36 dX4_longest_59 (by decide) ?_
    exact zW.sub [1, 2, 0] rfl h
theorem dX4_taker_0 : decode cX4_taker 0 = .ok (.aload_n 0, 1) := by decide +kernel
theorem dX4_taker_1 : decode cX4_taker 1 = .ok (.invokevirtual 89, 3) := by decide +kernel
theorem dX4_taker_4 : decode cX4_taker 4 = .ok (.istore_n 2, 1) := by decide +kernel
theorem dX4_taker_5 : decode cX4_taker 5 = .ok (.aload_n 0, 1) := by decide +kernel
theorem dX4_taker_6 : decode cX4_taker 6 = .ok (.invokevirtual 92, 3) := by decide +kernel
theorem dX4_taker_9 : decode cX4_taker 9 = .ok (.aload_n 0, 1) := by decide +kernel
theorem dX4_taker_10 : decode cX4_taker 10 = .ok (.getfield 31, 3) := by decide +kernel
theorem dX4_taker_13 : decode cX4_taker 13 = .ok (.ldc 60, 2) := by decide +kernel
theorem dX4_taker_15 : decode cX4_taker 15 = .ok (.invokestatic 72, 3) := by decide +kernel
theorem dX4_taker_18 : decode cX4_taker 18 = .ok (.aload_n 0, 1) := by decide +kernel
theorem dX4_taker_19 : decode cX4_taker 19 = .ok (.getfield 31, 3) := by decide +kernel
theorem dX4_taker_22 : decode cX4_taker 22 = .ok (.iconst 0, 1) := by decide +kernel
theorem dX4_taker_23 : decode cX4_taker 23 = .ok (.iconst 0, 1) := by decide +kernel
theorem dX4_taker_24 : decode cX4_taker 24 = .ok (.iastore, 1) := by decide +kernel
theorem dX4_taker_25 : decode cX4_taker 25 = .ok (.iconst 0, 1) := by decide +kernel
theorem dX4_taker_26 : decode cX4_taker 26 = .ok (.istore_n 3, 1) := by decide +kernel
theorem dX4_taker_27 : decode cX4_taker 27 = .ok (.iload_n 3, 1) := by decide +kernel
theorem dX4_taker_28 : decode cX4_taker 28 = .ok (.aload_n 0, 1) := by decide +kernel
theorem dX4_taker_29 : decode cX4_taker 29 = .ok (.getfield 22, 3) := by decide +kernel
theorem dX4_taker_32 : decode cX4_taker 32 = .ok (.if_icmp .ge 51, 3) := by decide +kernel
theorem dX4_taker_35 : decode cX4_taker 35 = .ok (.aload_n 0, 1) := by decide +kernel
theorem dX4_taker_36 : decode cX4_taker 36 = .ok (.iload_n 3, 1) := by decide +kernel
theorem dX4_taker_37 : decode cX4_taker 37 = .ok (.invokevirtual 78, 3) := by decide +kernel
theorem dX4_taker_40 : decode cX4_taker 40 = .ok (.aload_n 0, 1) := by decide +kernel
theorem dX4_taker_41 : decode cX4_taker 41 = .ok (.invokevirtual 46, 3) := by decide +kernel
theorem dX4_taker_44 : decode cX4_taker 44 = .ok (.istore 4, 2) := by decide +kernel
theorem dX4_taker_46 : decode cX4_taker 46 = .ok (.iload 4, 2) := by decide +kernel
theorem dX4_taker_48 : decode cX4_taker 48 = .ok (.aload_n 0, 1) := by decide +kernel
theorem dX4_taker_49 : decode cX4_taker 49 = .ok (.iload_n 3, 1) := by decide +kernel
theorem dX4_taker_50 : decode cX4_taker 50 = .ok (.invokevirtual 82, 3) := by decide +kernel
theorem dX4_taker_53 : decode cX4_taker 53 = .ok (.if_icmp .lt 24, 3) := by decide +kernel
theorem dX4_taker_56 : decode cX4_taker 56 = .ok (.aload_n 0, 1) := by decide +kernel
theorem dX4_taker_57 : decode cX4_taker 57 = .ok (.getfield 31, 3) := by decide +kernel
theorem dX4_taker_60 : decode cX4_taker 60 = .ok (.iload 4, 2) := by decide +kernel
theorem dX4_taker_62 : decode cX4_taker 62 = .ok (.aload_n 0, 1) := by decide +kernel
theorem dX4_taker_63 : decode cX4_taker 63 = .ok (.iload_n 3, 1) := by decide +kernel
theorem dX4_taker_64 : decode cX4_taker 64 = .ok (.iload 4, 2) := by decide +kernel
theorem dX4_taker_66 : decode cX4_taker 66 = .ok (.iload_n 2, 1) := by decide +kernel
theorem dX4_taker_67 : decode cX4_taker 67 = .ok (.invokevirtual 95, 3) := by decide +kernel
theorem dX4_taker_70 : decode cX4_taker 70 = .ok (.iastore, 1) := by decide +kernel
theorem dX4_taker_71 : decode cX4_taker 71 = .ok (.iinc 4 (-1), 3) := by decide +kernel
theorem dX4_taker_74 : decode cX4_taker 74 = .ok (.goto (-28), 3) := by decide +kernel
theorem dX4_taker_77 : decode cX4_taker 77 = .ok (.iinc 3 1, 3) := by decide +kernel
theorem dX4_taker_80 : decode cX4_taker 80 = .ok (.goto (-53), 3) := by decide +kernel
theorem dX4_taker_83 : decode cX4_taker 83 = .ok (.aload_n 0, 1) := by decide +kernel
theorem dX4_taker_84 : decode cX4_taker 84 = .ok (.getfield 34, 3) := by decide +kernel
theorem dX4_taker_87 : decode cX4_taker 87 = .ok (.iconst 1, 1) := by decide +kernel
theorem dX4_taker_88 : decode cX4_taker 88 = .ok (.iload_n 1, 1) := by decide +kernel
theorem dX4_taker_89 : decode cX4_taker 89 = .ok (.ishl, 1) := by decide +kernel
theorem dX4_taker_90 : decode cX4_taker 90 = .ok (.iaload, 1) := by decide +kernel
theorem dX4_taker_91 : decode cX4_taker 91 = .ok (.istore_n 3, 1) := by decide +kernel
theorem dX4_taker_92 : decode cX4_taker 92 = .ok (.iload_n 3, 1) := by decide +kernel
theorem dX4_taker_93 : decode cX4_taker 93 = .ok (.ifCond .le 20, 3) := by decide +kernel
theorem dX4_taker_96 : decode cX4_taker 96 = .ok (.aload_n 0, 1) := by decide +kernel
theorem dX4_taker_97 : decode cX4_taker 97 = .ok (.getfield 31, 3) := by decide +kernel
theorem dX4_taker_100 : decode cX4_taker 100 = .ok (.aload_n 0, 1) := by decide +kernel
theorem dX4_taker_101 : decode cX4_taker 101 = .ok (.invokevirtual 46, 3) := by decide +kernel
theorem dX4_taker_104 : decode cX4_taker 104 = .ok (.iaload, 1) := by decide +kernel
theorem dX4_taker_105 : decode cX4_taker 105 = .ok (.iload_n 3, 1) := by decide +kernel
theorem dX4_taker_106 : decode cX4_taker 106 = .ok (.idiv, 1) := by decide +kernel
theorem dX4_taker_107 : decode cX4_taker 107 = .ok (.bipush 6, 2) := by decide +kernel
theorem dX4_taker_109 : decode cX4_taker 109 = .ok (.irem, 1) := by decide +kernel
theorem dX4_taker_110 : decode cX4_taker 110 = .ok (.goto 4, 3) := by decide +kernel
theorem dX4_taker_113 : decode cX4_taker 113 = .ok (.iconst (-1), 1) := by decide +kernel
theorem dX4_taker_114 : decode cX4_taker 114 = .ok (.ireturn, 1) := by decide +kernel
set_option maxRecDepth 20000 in
theorem vX4_taker {g : zG} {d : Nat} {Q : Int32 → zM → Prop} {M : zM} {l1 : Int32} (h : zCi shC g d mX4_longest [.ref 116] M (fun x1 M1 => zCv shC g d mX4_fillDigits [.ref 116] M1 (fun  M2 => zCv shC g d mJ7_fill_53178 [.ref 121, .int 100000000] M2 (fun  M3 => zW shC g (d + 1) mX4_taker (zi Q) 27 [(0, .ref 116), (1, .int l1), (2, .int x1), (3, .int 0)] [] (zup M3 121 0 0))))) : zCi shC g (d + 1) mX4_taker [.ref 116, .int l1] M Q := by
  refine zW.enter (by decide +kernel) (Nat.le_of_ble_eq_true rfl) ?_
  change zW shC g (d + 1) mX4_taker (zi Q) 0 [(0, .ref 116), (1, .int l1)] [] M
  refine z_aload_n dX4_taker_0 0 rfl ?_
  refine z_callV (m2 := mX4_longest) (st := []) [] okX4_longest (Or.inl lkX4_89) shC_116 rfl rfl rfl (Nat.le_of_ble_eq_true rfl) dX4_taker_1 (zgo_i h fun x1 M1 h => ?_)
  refine z_istore_n [(2, .int x1), (0, .ref 116), (1, .int l1)] dX4_taker_4 (by decide) rfl ?_
  refine z_aload_n dX4_taker_5 1 rfl ?_
  refine z_callV (m2 := mX4_fillDigits) (st := []) [] okX4_fillDigits (Or.inl lkX4_92) shC_116 rfl rfl rfl (Nat.le_of_ble_eq_true rfl) dX4_taker_6 (zgo_v h fun  M2 h => ?_)
  refine z_aload_n dX4_taker_9 1 rfl ?_
  refine z_getr shC_116 rfl flX4_31 dX4_taker_10 ?_
  refine z_ldc dX4_taker_13 kcX4_60 ?_
  refine z_callS (m2 := mJ7_fill_53178) (st := []) [.ref 121, .int 100000000] okJ7_fill_53178 (Or.inl lkX4_72) rfl rfl (Nat.le_of_ble_eq_true rfl) dX4_taker_15 (zgo_v h fun  M3 h => ?_)
  refine z_aload_n dX4_taker_18 1 rfl ?_
  refine z_getr shC_116 rfl flX4_31 dX4_taker_19 ?_
  refine z_iconst (v := 0) dX4_taker_22 (by decide) ?_
  refine z_iconst (v := 0) dX4_taker_23 (by decide) ?_
  refine z_iast2 (k0 := 0) shC_121 (by decide) (by decide) (by decide) dX4_taker_24 ?_
  refine z_iconst (v := 0) dX4_taker_25 (by decide) ?_
  refine z_istore_n [(3, .int 0), (2, .int x1), (0, .ref 116), (1, .int l1)] dX4_taker_26 (by decide) rfl ?_
  exact zW.sub [2, 3, 1, 0] rfl h
set_option maxRecDepth 20000 in
theorem vX4_taker_27 {g : zG} {d : Nat} {Q : Int32 → zM → Prop} {M : zM} {l1 : Int32} {l2 : Int32} {l3 : Int32} (h : ((M 116 3) ≤ l3 → ∃ k1 : Nat, (1 <<< (l1 &&& 31)) = iv k1 ∧ k1 < 512 ∧ ((M 122 k1) ≤ 0 → Q (-1) M) ∧ (¬ (M 122 k1) ≤ 0 → zCi shC g d mX4_all [.ref 116] M (fun x1 M1 => ∃ k2 : Nat, x1 = iv k2 ∧ k2 < 512 ∧ ¬ (M 122 k1) = 0 ∧ ∀ v1 : Int32, v1 = (((M1 121 k2) / (M 122 k1)) - ((M1 121 k2) / (M 122 k1)) / 6 * 6) → Q v1 M1))) ∧ (¬ (M 116 3) ≤ l3 → zCv shC g d mX4_fillCosts [.ref 116, .int l3] M (fun  M1 => zCi shC g d mX4_all [.ref 116] M1 (fun x2 M2 => zW shC g (d + 1) mX4_taker (zi Q) 46 [(0, .ref 116), (1, .int l1), (2, .int l2), (3, .int l3), (4, .int x2)] [] M2)))) : zW shC g (d + 1) mX4_taker (zi Q) 27 [(0, .ref 116), (1, .int l1), (2, .int l2), (3, .int l3)] [] M := by
  refine z_iload_n dX4_taker_27 3 rfl ?_
  refine z_aload_n dX4_taker_28 0 rfl ?_
  refine z_geti shC_116 rfl flX4_22 dX4_taker_29 ?_
  refine z_icmp_ge 83 dX4_taker_32 (by decide) (fun c1 => ?_) (fun c1 => ?_)
  · have h := h.1 c1
    refine z_aload_n dX4_taker_83 0 rfl ?_
    refine z_getr shC_116 rfl flX4_34 dX4_taker_84 ?_
    refine z_iconst (v := 1) dX4_taker_87 (by decide) ?_
    refine z_iload_n dX4_taker_88 1 rfl ?_
    refine z_ishl dX4_taker_89 ?_
    obtain ⟨k1, ek1, uk1, h⟩ := h
    refine z_iald2 (k0 := k1) shC_122 (by decide) ek1 uk1 dX4_taker_90 ?_
    refine z_istore_n [(3, .int (M 122 k1)), (0, .ref 116), (1, .int l1), (2, .int l2)] dX4_taker_91 (by decide) rfl ?_
    refine z_iload_n dX4_taker_92 0 rfl ?_
    refine z_if_le 113 dX4_taker_93 (by decide) (fun c2 => ?_) (fun c2 => ?_)
    · have h := h.1 c2
      refine z_iconst (v := (-1)) dX4_taker_113 (by decide) ?_
      exact z_iret (st := []) rfl rfl dX4_taker_114 ⟨_, rfl, h⟩
    · have h := h.2 c2
      refine z_aload_n dX4_taker_96 1 rfl ?_
      refine z_getr shC_116 rfl flX4_31 dX4_taker_97 ?_
      refine z_aload_n dX4_taker_100 1 rfl ?_
      refine z_callV (m2 := mX4_all) (st := [.ref 121]) [] okX4_all (Or.inl lkX4_46) shC_116 rfl rfl rfl (Nat.le_of_ble_eq_true rfl) dX4_taker_101 (zgo_i h fun x1 M1 h => ?_)
      obtain ⟨k2, ek2, uk2, h⟩ := h
      refine z_iald2 (k0 := k2) shC_121 (by decide) ek2 uk2 dX4_taker_104 ?_
      refine z_iload_n dX4_taker_105 0 rfl ?_
      refine z_idiv dX4_taker_106 h.1 ?_
      have h := h.2
      refine z_bipush (v := 6) dX4_taker_107 (by decide) ?_
      refine z_irem dX4_taker_109 (by decide) ?_
      obtain ⟨v1, ev1⟩ : ∃ y : Int32, y = (((M1 121 k2) / (M 122 k1)) - ((M1 121 k2) / (M 122 k1)) / 6 * 6) := ⟨_, rfl⟩
      refine z_topi v1 ev1 ?_
      have h := h v1 ev1
      refine z_goto 114 dX4_taker_110 (by decide) ?_
      exact z_iret (st := []) rfl rfl dX4_taker_114 ⟨_, rfl, h⟩
  · have h := h.2 c1
    refine z_aload_n dX4_taker_35 0 rfl ?_
    refine z_iload_n dX4_taker_36 3 rfl ?_
    refine z_callV (m2 := mX4_fillCosts) (st := []) [.int l3] okX4_fillCosts (Or.inl lkX4_78) shC_116 rfl rfl rfl (Nat.le_of_ble_eq_true rfl) dX4_taker_37 (zgo_v h fun  M1 h => ?_)
    refine z_aload_n dX4_taker_40 0 rfl ?_
    refine z_callV (m2 := mX4_all) (st := []) [] okX4_all (Or.inl lkX4_46) shC_116 rfl rfl rfl (Nat.le_of_ble_eq_true rfl) dX4_taker_41 (zgo_i h fun x2 M2 h => ?_)
    refine z_istore [(4, .int x2), (0, .ref 116), (1, .int l1), (2, .int l2), (3, .int l3)] dX4_taker_44 (by decide) rfl ?_
    exact zW.sub [1, 2, 3, 4, 0] rfl h
set_option maxRecDepth 20000 in
theorem vX4_taker_46 {g : zG} {d : Nat} {Q : Int32 → zM → Prop} {M : zM} {l1 : Int32} {l2 : Int32} {l3 : Int32} {l4 : Int32} (h : zCi shC g d mX4_lastNeeded [.ref 116, .int l3] M (fun x1 M1 => (l4 < x1 → zW shC g (d + 1) mX4_taker (zi Q) 27 [(0, .ref 116), (1, .int l1), (2, .int l2), (3, .int (l3 + 1))] [] M1) ∧ (¬ l4 < x1 → zCi shC g d mX4_leastTakers [.ref 116, .int l3, .int l4, .int l2] M1 (fun x2 M2 => ∃ k1 : Nat, l4 = iv k1 ∧ k1 < 512 ∧ zW shC g (d + 1) mX4_taker (zi Q) 46 [(0, .ref 116), (1, .int l1), (2, .int l2), (3, .int l3), (4, .int (l4 + (-1)))] [] (zup M2 121 k1 x2))))) : zW shC g (d + 1) mX4_taker (zi Q) 46 [(0, .ref 116), (1, .int l1), (2, .int l2), (3, .int l3), (4, .int l4)] [] M := by
  refine z_iload dX4_taker_46 4 rfl ?_
  refine z_aload_n dX4_taker_48 0 rfl ?_
  refine z_iload_n dX4_taker_49 3 rfl ?_
  refine z_callV (m2 := mX4_lastNeeded) (st := [.int l4]) [.int l3] okX4_lastNeeded (Or.inl lkX4_82) shC_116 rfl rfl rfl (Nat.le_of_ble_eq_true rfl) dX4_taker_50 (zgo_i h fun x1 M1 h => ?_)
  refine z_icmp_lt 77 dX4_taker_53 (by decide) (fun c1 => ?_) (fun c1 => ?_)
  · have h := h.1 c1
    refine z_iinc (x := l3) (v := (l3 + 1)) [(3, .int (l3 + 1)), (0, .ref 116), (1, .int l1), (2, .int l2), (4, .int l4)] dX4_taker_77 3 rfl rfl (by decide) rfl ?_
    refine z_goto 27 dX4_taker_80 (by decide) ?_
    exact zW.sub [1, 2, 3, 0] rfl h
  · have h := h.2 c1
    refine z_aload_n dX4_taker_56 0 rfl ?_
    refine z_getr shC_116 rfl flX4_31 dX4_taker_57 ?_
    refine z_iload dX4_taker_60 4 rfl ?_
    refine z_aload_n dX4_taker_62 0 rfl ?_
    refine z_iload_n dX4_taker_63 3 rfl ?_
    refine z_iload dX4_taker_64 4 rfl ?_
    refine z_iload_n dX4_taker_66 2 rfl ?_
    refine z_callV (m2 := mX4_leastTakers) (st := [.int l4, .ref 121]) [.int l3, .int l4, .int l2] okX4_leastTakers (Or.inl lkX4_95) shC_116 rfl rfl rfl (Nat.le_of_ble_eq_true rfl) dX4_taker_67 (zgo_i h fun x2 M2 h => ?_)
    obtain ⟨k1, ek1, uk1, h⟩ := h
    refine z_iast2 (k0 := k1) shC_121 (by decide) ek1 uk1 dX4_taker_70 ?_
    refine z_iinc (x := l4) (v := (l4 + (-1))) [(4, .int (l4 + (-1))), (0, .ref 116), (1, .int l1), (2, .int l2), (3, .int l3)] dX4_taker_71 4 rfl rfl (by decide) rfl ?_
    refine z_goto 46 dX4_taker_74 (by decide) ?_
    exact zW.sub [1, 2, 3, 4, 0] rfl h
theorem dX4_lastNeeded_0 : decode cX4_lastNeeded 0 = .ok (.iload_n 1, 1) := by decide +kernel
theorem dX4_lastNeeded_1 : decode cX4_lastNeeded 1 = .ok (.aload_n 0, 1) := by decide +kernel
theorem dX4_lastNeeded_2 : decode cX4_lastNeeded 2 = .ok (.getfield 22, 3) := by decide +kernel
theorem dX4_lastNeeded_5 : decode cX4_lastNeeded 5 = .ok (.iconst 1, 1) := by decide +kernel
theorem dX4_lastNeeded_6 : decode cX4_lastNeeded 6 = .ok (.isub, 1) := by decide +kernel
theorem dX4_lastNeeded_7 : decode cX4_lastNeeded 7 = .ok (.if_icmp .ne 10, 3) := by decide +kernel
theorem dX4_lastNeeded_10 : decode cX4_lastNeeded 10 = .ok (.aload_n 0, 1) := by decide +kernel
theorem dX4_lastNeeded_11 : decode cX4_lastNeeded 11 = .ok (.invokevirtual 46, 3) := by decide +kernel
theorem dX4_lastNeeded_14 : decode cX4_lastNeeded 14 = .ok (.goto 4, 3) := by decide +kernel
theorem dX4_lastNeeded_17 : decode cX4_lastNeeded 17 = .ok (.iconst 0, 1) := by decide +kernel
theorem dX4_lastNeeded_18 : decode cX4_lastNeeded 18 = .ok (.ireturn, 1) := by decide +kernel
set_option maxRecDepth 20000 in
theorem vX4_lastNeeded {g : zG} {d : Nat} {Q : Int32 → zM → Prop} {M : zM} {l1 : Int32} (h : (¬ l1 = ((M 116 3) - 1) → Q 0 M) ∧ (l1 = ((M 116 3) - 1) → zCi shC g d mX4_all [.ref 116] M (fun x1 M1 => Q x1 M1))) : zCi shC g (d + 1) mX4_lastNeeded [.ref 116, .int l1] M Q := by
  refine zW.enter (by decide +kernel) (Nat.le_of_ble_eq_true rfl) ?_
  change zW shC g (d + 1) mX4_lastNeeded (zi Q) 0 [(0, .ref 116), (1, .int l1)] [] M
  refine z_iload_n dX4_lastNeeded_0 1 rfl ?_
  refine z_aload_n dX4_lastNeeded_1 0 rfl ?_
  refine z_geti shC_116 rfl flX4_22 dX4_lastNeeded_2 ?_
  refine z_iconst (v := 1) dX4_lastNeeded_5 (by decide) ?_
  refine z_isub dX4_lastNeeded_6 ?_
  refine z_icmp_ne 17 dX4_lastNeeded_7 (by decide) (fun c1 => ?_) (fun c1 => ?_)
  · have h := h.1 c1
    refine z_iconst (v := 0) dX4_lastNeeded_17 (by decide) ?_
    exact z_iret (st := []) rfl rfl dX4_lastNeeded_18 ⟨_, rfl, h⟩
  · have h := h.2 c1
    refine z_aload_n dX4_lastNeeded_10 0 rfl ?_
    refine z_callV (m2 := mX4_all) (st := []) [] okX4_all (Or.inl lkX4_46) shC_116 rfl rfl rfl (Nat.le_of_ble_eq_true rfl) dX4_lastNeeded_11 (zgo_i h fun x1 M1 h => ?_)
    refine z_goto 18 dX4_lastNeeded_14 (by decide) ?_
    exact z_iret (st := []) rfl rfl dX4_lastNeeded_18 ⟨_, rfl, h⟩
theorem dX4_fillCosts_0 : decode cX4_fillCosts 0 = .ok (.iconst 0, 1) := by decide +kernel
theorem dX4_fillCosts_1 : decode cX4_fillCosts 1 = .ok (.istore_n 2, 1) := by decide +kernel
theorem dX4_fillCosts_2 : decode cX4_fillCosts 2 = .ok (.iload_n 2, 1) := by decide +kernel
theorem dX4_fillCosts_3 : decode cX4_fillCosts 3 = .ok (.aload_n 0, 1) := by decide +kernel
theorem dX4_fillCosts_4 : decode cX4_fillCosts 4 = .ok (.invokevirtual 46, 3) := by decide +kernel
theorem dX4_fillCosts_7 : decode cX4_fillCosts 7 = .ok (.if_icmp .gt 26, 3) := by decide +kernel
theorem dX4_fillCosts_10 : decode cX4_fillCosts 10 = .ok (.aload_n 0, 1) := by decide +kernel
theorem dX4_fillCosts_11 : decode cX4_fillCosts 11 = .ok (.getfield 28, 3) := by decide +kernel
theorem dX4_fillCosts_14 : decode cX4_fillCosts 14 = .ok (.iload_n 2, 1) := by decide +kernel
theorem dX4_fillCosts_15 : decode cX4_fillCosts 15 = .ok (.aload_n 0, 1) := by decide +kernel
theorem dX4_fillCosts_16 : decode cX4_fillCosts 16 = .ok (.aload_n 0, 1) := by decide +kernel
theorem dX4_fillCosts_17 : decode cX4_fillCosts 17 = .ok (.getfield 25, 3) := by decide +kernel
theorem dX4_fillCosts_20 : decode cX4_fillCosts 20 = .ok (.iload_n 1, 1) := by decide +kernel
theorem dX4_fillCosts_21 : decode cX4_fillCosts 21 = .ok (.iaload, 1) := by decide +kernel
theorem dX4_fillCosts_22 : decode cX4_fillCosts 22 = .ok (.iload_n 2, 1) := by decide +kernel
theorem dX4_fillCosts_23 : decode cX4_fillCosts 23 = .ok (.invokevirtual 50, 3) := by decide +kernel
theorem dX4_fillCosts_26 : decode cX4_fillCosts 26 = .ok (.iastore, 1) := by decide +kernel
theorem dX4_fillCosts_27 : decode cX4_fillCosts 27 = .ok (.iinc 2 1, 3) := by decide +kernel
theorem dX4_fillCosts_30 : decode cX4_fillCosts 30 = .ok (.goto (-28), 3) := by decide +kernel
theorem dX4_fillCosts_33 : decode cX4_fillCosts 33 = .ok (.return_, 1) := by decide +kernel
set_option maxRecDepth 20000 in
theorem vX4_fillCosts {g : zG} {d : Nat} {Q : zM → Prop} {M : zM} {l1 : Int32} (h : zW shC g (d + 1) mX4_fillCosts (zv Q) 2 [(0, .ref 116), (1, .int l1), (2, .int 0)] [] M) : zCv shC g (d + 1) mX4_fillCosts [.ref 116, .int l1] M Q := by
  refine zW.enter (by decide +kernel) (Nat.le_of_ble_eq_true rfl) ?_
  change zW shC g (d + 1) mX4_fillCosts (zv Q) 0 [(0, .ref 116), (1, .int l1)] [] M
  refine z_iconst (v := 0) dX4_fillCosts_0 (by decide) ?_
  refine z_istore_n [(2, .int 0), (0, .ref 116), (1, .int l1)] dX4_fillCosts_1 (by decide) rfl ?_
  exact zW.sub [1, 2, 0] rfl h
set_option maxRecDepth 20000 in
theorem vX4_fillCosts_2 {g : zG} {d : Nat} {Q : zM → Prop} {M : zM} {l1 : Int32} {l2 : Int32} (h : zCi shC g d mX4_all [.ref 116] M (fun x1 M1 => (x1 < l2 → Q M1) ∧ (¬ x1 < l2 → ∃ k1 : Nat, l1 = iv k1 ∧ k1 < 6 ∧ zCi shC g d mX4_lead [.ref 116, .int (M1 119 k1), .int l2] M1 (fun x2 M2 => ∃ k2 : Nat, l2 = iv k2 ∧ k2 < 512 ∧ zW shC g (d + 1) mX4_fillCosts (zv Q) 2 [(0, .ref 116), (1, .int l1), (2, .int (l2 + 1))] [] (zup M2 120 k2 x2))))) : zW shC g (d + 1) mX4_fillCosts (zv Q) 2 [(0, .ref 116), (1, .int l1), (2, .int l2)] [] M := by
  refine z_iload_n dX4_fillCosts_2 2 rfl ?_
  refine z_aload_n dX4_fillCosts_3 0 rfl ?_
  refine z_callV (m2 := mX4_all) (st := [.int l2]) [] okX4_all (Or.inl lkX4_46) shC_116 rfl rfl rfl (Nat.le_of_ble_eq_true rfl) dX4_fillCosts_4 (zgo_i h fun x1 M1 h => ?_)
  refine z_icmp_gt 33 dX4_fillCosts_7 (by decide) (fun c1 => ?_) (fun c1 => ?_)
  · have h := h.1 c1
    exact z_vret (st := []) rfl dX4_fillCosts_33 ⟨rfl, h⟩
  · have h := h.2 c1
    refine z_aload_n dX4_fillCosts_10 0 rfl ?_
    refine z_getr shC_116 rfl flX4_28 dX4_fillCosts_11 ?_
    refine z_iload_n dX4_fillCosts_14 2 rfl ?_
    refine z_aload_n dX4_fillCosts_15 0 rfl ?_
    refine z_aload_n dX4_fillCosts_16 0 rfl ?_
    refine z_getr shC_116 rfl flX4_25 dX4_fillCosts_17 ?_
    refine z_iload_n dX4_fillCosts_20 1 rfl ?_
    obtain ⟨k1, ek1, uk1, h⟩ := h
    refine z_iald2 (k0 := k1) shC_119 (by decide) ek1 uk1 dX4_fillCosts_21 ?_
    refine z_iload_n dX4_fillCosts_22 2 rfl ?_
    refine z_callV (m2 := mX4_lead) (st := [.int l2, .ref 120]) [.int (M1 119 k1), .int l2] okX4_lead (Or.inl lkX4_50) shC_116 rfl rfl rfl (Nat.le_of_ble_eq_true rfl) dX4_fillCosts_23 (zgo_i h fun x2 M2 h => ?_)
    obtain ⟨k2, ek2, uk2, h⟩ := h
    refine z_iast2 (k0 := k2) shC_120 (by decide) ek2 uk2 dX4_fillCosts_26 ?_
    refine z_iinc (x := l2) (v := (l2 + 1)) [(2, .int (l2 + 1)), (0, .ref 116), (1, .int l1)] dX4_fillCosts_27 2 rfl rfl (by decide) rfl ?_
    refine z_goto 2 dX4_fillCosts_30 (by decide) ?_
    exact zW.sub [1, 2, 0] rfl h
theorem dX4_fillDigits_0 : decode cX4_fillDigits 0 = .ok (.aload_n 0, 1) := by decide +kernel
theorem dX4_fillDigits_1 : decode cX4_fillDigits 1 = .ok (.getfield 34, 3) := by decide +kernel
theorem dX4_fillDigits_4 : decode cX4_fillDigits 4 = .ok (.iconst 0, 1) := by decide +kernel
theorem dX4_fillDigits_5 : decode cX4_fillDigits 5 = .ok (.iconst 0, 1) := by decide +kernel
theorem dX4_fillDigits_6 : decode cX4_fillDigits 6 = .ok (.iastore, 1) := by decide +kernel
theorem dX4_fillDigits_7 : decode cX4_fillDigits 7 = .ok (.iconst 1, 1) := by decide +kernel
theorem dX4_fillDigits_8 : decode cX4_fillDigits 8 = .ok (.istore_n 1, 1) := by decide +kernel
theorem dX4_fillDigits_9 : decode cX4_fillDigits 9 = .ok (.aload_n 0, 1) := by decide +kernel
theorem dX4_fillDigits_10 : decode cX4_fillDigits 10 = .ok (.getfield 15, 3) := by decide +kernel
theorem dX4_fillDigits_13 : decode cX4_fillDigits 13 = .ok (.iconst 1, 1) := by decide +kernel
theorem dX4_fillDigits_14 : decode cX4_fillDigits 14 = .ok (.isub, 1) := by decide +kernel
theorem dX4_fillDigits_15 : decode cX4_fillDigits 15 = .ok (.istore_n 2, 1) := by decide +kernel
theorem dX4_fillDigits_16 : decode cX4_fillDigits 16 = .ok (.iload_n 2, 1) := by decide +kernel
theorem dX4_fillDigits_17 : decode cX4_fillDigits 17 = .ok (.ifCond .lt 23, 3) := by decide +kernel
theorem dX4_fillDigits_20 : decode cX4_fillDigits 20 = .ok (.aload_n 0, 1) := by decide +kernel
theorem dX4_fillDigits_21 : decode cX4_fillDigits 21 = .ok (.getfield 34, 3) := by decide +kernel
theorem dX4_fillDigits_24 : decode cX4_fillDigits 24 = .ok (.iconst 1, 1) := by decide +kernel
theorem dX4_fillDigits_25 : decode cX4_fillDigits 25 = .ok (.iload_n 2, 1) := by decide +kernel
theorem dX4_fillDigits_26 : decode cX4_fillDigits 26 = .ok (.ishl, 1) := by decide +kernel
theorem dX4_fillDigits_27 : decode cX4_fillDigits 27 = .ok (.iload_n 1, 1) := by decide +kernel
theorem dX4_fillDigits_28 : decode cX4_fillDigits 28 = .ok (.iastore, 1) := by decide +kernel
theorem dX4_fillDigits_29 : decode cX4_fillDigits 29 = .ok (.iload_n 1, 1) := by decide +kernel
theorem dX4_fillDigits_30 : decode cX4_fillDigits 30 = .ok (.bipush 6, 2) := by decide +kernel
theorem dX4_fillDigits_32 : decode cX4_fillDigits 32 = .ok (.imul, 1) := by decide +kernel
theorem dX4_fillDigits_33 : decode cX4_fillDigits 33 = .ok (.istore_n 1, 1) := by decide +kernel
theorem dX4_fillDigits_34 : decode cX4_fillDigits 34 = .ok (.iinc 2 (-1), 3) := by decide +kernel
theorem dX4_fillDigits_37 : decode cX4_fillDigits 37 = .ok (.goto (-21), 3) := by decide +kernel
theorem dX4_fillDigits_40 : decode cX4_fillDigits 40 = .ok (.iconst 1, 1) := by decide +kernel
theorem dX4_fillDigits_41 : decode cX4_fillDigits 41 = .ok (.istore_n 2, 1) := by decide +kernel
theorem dX4_fillDigits_42 : decode cX4_fillDigits 42 = .ok (.iload_n 2, 1) := by decide +kernel
theorem dX4_fillDigits_43 : decode cX4_fillDigits 43 = .ok (.aload_n 0, 1) := by decide +kernel
theorem dX4_fillDigits_44 : decode cX4_fillDigits 44 = .ok (.invokevirtual 46, 3) := by decide +kernel
theorem dX4_fillDigits_47 : decode cX4_fillDigits 47 = .ok (.if_icmp .gt 38, 3) := by decide +kernel
theorem dX4_fillDigits_50 : decode cX4_fillDigits 50 = .ok (.iload_n 2, 1) := by decide +kernel
theorem dX4_fillDigits_51 : decode cX4_fillDigits 51 = .ok (.iload_n 2, 1) := by decide +kernel
theorem dX4_fillDigits_52 : decode cX4_fillDigits 52 = .ok (.iconst 1, 1) := by decide +kernel
theorem dX4_fillDigits_53 : decode cX4_fillDigits 53 = .ok (.isub, 1) := by decide +kernel
theorem dX4_fillDigits_54 : decode cX4_fillDigits 54 = .ok (.iand, 1) := by decide +kernel
theorem dX4_fillDigits_55 : decode cX4_fillDigits 55 = .ok (.istore_n 3, 1) := by decide +kernel
theorem dX4_fillDigits_56 : decode cX4_fillDigits 56 = .ok (.aload_n 0, 1) := by decide +kernel
theorem dX4_fillDigits_57 : decode cX4_fillDigits 57 = .ok (.getfield 34, 3) := by decide +kernel
theorem dX4_fillDigits_60 : decode cX4_fillDigits 60 = .ok (.iload_n 2, 1) := by decide +kernel
theorem dX4_fillDigits_61 : decode cX4_fillDigits 61 = .ok (.aload_n 0, 1) := by decide +kernel
theorem dX4_fillDigits_62 : decode cX4_fillDigits 62 = .ok (.getfield 34, 3) := by decide +kernel
theorem dX4_fillDigits_65 : decode cX4_fillDigits 65 = .ok (.iload_n 3, 1) := by decide +kernel
theorem dX4_fillDigits_66 : decode cX4_fillDigits 66 = .ok (.iaload, 1) := by decide +kernel
theorem dX4_fillDigits_67 : decode cX4_fillDigits 67 = .ok (.aload_n 0, 1) := by decide +kernel
theorem dX4_fillDigits_68 : decode cX4_fillDigits 68 = .ok (.getfield 34, 3) := by decide +kernel
theorem dX4_fillDigits_71 : decode cX4_fillDigits 71 = .ok (.iload_n 2, 1) := by decide +kernel
theorem dX4_fillDigits_72 : decode cX4_fillDigits 72 = .ok (.iload_n 3, 1) := by decide +kernel
theorem dX4_fillDigits_73 : decode cX4_fillDigits 73 = .ok (.iconst (-1), 1) := by decide +kernel
theorem dX4_fillDigits_74 : decode cX4_fillDigits 74 = .ok (.ixor, 1) := by decide +kernel
theorem dX4_fillDigits_75 : decode cX4_fillDigits 75 = .ok (.iand, 1) := by decide +kernel
theorem dX4_fillDigits_76 : decode cX4_fillDigits 76 = .ok (.iaload, 1) := by decide +kernel
theorem dX4_fillDigits_77 : decode cX4_fillDigits 77 = .ok (.iadd, 1) := by decide +kernel
theorem dX4_fillDigits_78 : decode cX4_fillDigits 78 = .ok (.iastore, 1) := by decide +kernel
theorem dX4_fillDigits_79 : decode cX4_fillDigits 79 = .ok (.iinc 2 1, 3) := by decide +kernel
theorem dX4_fillDigits_82 : decode cX4_fillDigits 82 = .ok (.goto (-40), 3) := by decide +kernel
theorem dX4_fillDigits_85 : decode cX4_fillDigits 85 = .ok (.return_, 1) := by decide +kernel
set_option maxRecDepth 20000 in
theorem vX4_fillDigits {g : zG} {d : Nat} {Q : zM → Prop} {M : zM} (h : zW shC g (d + 1) mX4_fillDigits (zv Q) 16 [(0, .ref 116), (1, .int 1), (2, .int (((zup M 122 0 0) 116 1) - 1))] [] (zup M 122 0 0)) : zCv shC g (d + 1) mX4_fillDigits [.ref 116] M Q := by
  refine zW.enter (by decide +kernel) (Nat.le_of_ble_eq_true rfl) ?_
  change zW shC g (d + 1) mX4_fillDigits (zv Q) 0 [(0, .ref 116)] [] M
  refine z_aload_n dX4_fillDigits_0 0 rfl ?_
  refine z_getr shC_116 rfl flX4_34 dX4_fillDigits_1 ?_
  refine z_iconst (v := 0) dX4_fillDigits_4 (by decide) ?_
  refine z_iconst (v := 0) dX4_fillDigits_5 (by decide) ?_
  refine z_iast2 (k0 := 0) shC_122 (by decide) (by decide) (by decide) dX4_fillDigits_6 ?_
  refine z_iconst (v := 1) dX4_fillDigits_7 (by decide) ?_
  refine z_istore_n [(1, .int 1), (0, .ref 116)] dX4_fillDigits_8 (by decide) rfl ?_
  refine z_aload_n dX4_fillDigits_9 1 rfl ?_
  refine z_geti shC_116 rfl flX4_15 dX4_fillDigits_10 ?_
  refine z_iconst (v := 1) dX4_fillDigits_13 (by decide) ?_
  refine z_isub dX4_fillDigits_14 ?_
  refine z_istore_n [(2, .int (((zup M 122 0 0) 116 1) - 1)), (1, .int 1), (0, .ref 116)] dX4_fillDigits_15 (by decide) rfl ?_
  exact zW.sub [2, 1, 0] rfl h
set_option maxRecDepth 20000 in
theorem vX4_fillDigits_16 {g : zG} {d : Nat} {Q : zM → Prop} {M : zM} {l1 : Int32} {l2 : Int32} (h : (l2 < 0 → zW shC g (d + 1) mX4_fillDigits (zv Q) 42 [(0, .ref 116), (2, .int 1)] [] M) ∧ (¬ l2 < 0 → ∃ k1 : Nat, (1 <<< (l2 &&& 31)) = iv k1 ∧ k1 < 512 ∧ zW shC g (d + 1) mX4_fillDigits (zv Q) 16 [(0, .ref 116), (1, .int (l1 * 6)), (2, .int (l2 + (-1)))] [] (zup M 122 k1 l1))) : zW shC g (d + 1) mX4_fillDigits (zv Q) 16 [(0, .ref 116), (1, .int l1), (2, .int l2)] [] M := by
  refine z_iload_n dX4_fillDigits_16 2 rfl ?_
  refine z_if_lt 40 dX4_fillDigits_17 (by decide) (fun c1 => ?_) (fun c1 => ?_)
  · have h := h.1 c1
    refine z_iconst (v := 1) dX4_fillDigits_40 (by decide) ?_
    refine z_istore_n [(2, .int 1), (0, .ref 116), (1, .int l1)] dX4_fillDigits_41 (by decide) rfl ?_
    exact zW.sub [1, 0] rfl h
  · have h := h.2 c1
    refine z_aload_n dX4_fillDigits_20 0 rfl ?_
    refine z_getr shC_116 rfl flX4_34 dX4_fillDigits_21 ?_
    refine z_iconst (v := 1) dX4_fillDigits_24 (by decide) ?_
    refine z_iload_n dX4_fillDigits_25 2 rfl ?_
    refine z_ishl dX4_fillDigits_26 ?_
    refine z_iload_n dX4_fillDigits_27 1 rfl ?_
    obtain ⟨k1, ek1, uk1, h⟩ := h
    refine z_iast2 (k0 := k1) shC_122 (by decide) ek1 uk1 dX4_fillDigits_28 ?_
    refine z_iload_n dX4_fillDigits_29 1 rfl ?_
    refine z_bipush (v := 6) dX4_fillDigits_30 (by decide) ?_
    refine z_imul dX4_fillDigits_32 ?_
    refine z_istore_n [(1, .int (l1 * 6)), (0, .ref 116), (2, .int l2)] dX4_fillDigits_33 (by decide) rfl ?_
    refine z_iinc (x := l2) (v := (l2 + (-1))) [(2, .int (l2 + (-1))), (1, .int (l1 * 6)), (0, .ref 116)] dX4_fillDigits_34 2 rfl rfl (by decide) rfl ?_
    refine z_goto 16 dX4_fillDigits_37 (by decide) ?_
    exact zW.sub [2, 1, 0] rfl h
set_option maxRecDepth 20000 in
theorem vX4_fillDigits_42 {g : zG} {d : Nat} {Q : zM → Prop} {M : zM} {l2 : Int32} (h : zCi shC g d mX4_all [.ref 116] M (fun x1 M1 => (x1 < l2 → Q M1) ∧ (¬ x1 < l2 → ∃ k1 : Nat, (l2 &&& (l2 - 1)) = iv k1 ∧ k1 < 512 ∧ ∃ k2 : Nat, (l2 &&& ((l2 &&& (l2 - 1)) ^^^ (-1))) = iv k2 ∧ k2 < 512 ∧ ∃ k3 : Nat, l2 = iv k3 ∧ k3 < 512 ∧ zW shC g (d + 1) mX4_fillDigits (zv Q) 42 [(0, .ref 116), (2, .int (l2 + 1))] [] (zup M1 122 k3 ((M1 122 k1) + (M1 122 k2)))))) : zW shC g (d + 1) mX4_fillDigits (zv Q) 42 [(0, .ref 116), (2, .int l2)] [] M := by
  refine z_iload_n dX4_fillDigits_42 1 rfl ?_
  refine z_aload_n dX4_fillDigits_43 0 rfl ?_
  refine z_callV (m2 := mX4_all) (st := [.int l2]) [] okX4_all (Or.inl lkX4_46) shC_116 rfl rfl rfl (Nat.le_of_ble_eq_true rfl) dX4_fillDigits_44 (zgo_i h fun x1 M1 h => ?_)
  refine z_icmp_gt 85 dX4_fillDigits_47 (by decide) (fun c1 => ?_) (fun c1 => ?_)
  · have h := h.1 c1
    exact z_vret (st := []) rfl dX4_fillDigits_85 ⟨rfl, h⟩
  · have h := h.2 c1
    refine z_iload_n dX4_fillDigits_50 1 rfl ?_
    refine z_iload_n dX4_fillDigits_51 1 rfl ?_
    refine z_iconst (v := 1) dX4_fillDigits_52 (by decide) ?_
    refine z_isub dX4_fillDigits_53 ?_
    refine z_iand dX4_fillDigits_54 ?_
    refine z_istore_n [(3, .int (l2 &&& (l2 - 1))), (0, .ref 116), (2, .int l2)] dX4_fillDigits_55 (by decide) rfl ?_
    refine z_aload_n dX4_fillDigits_56 1 rfl ?_
    refine z_getr shC_116 rfl flX4_34 dX4_fillDigits_57 ?_
    refine z_iload_n dX4_fillDigits_60 2 rfl ?_
    refine z_aload_n dX4_fillDigits_61 1 rfl ?_
    refine z_getr shC_116 rfl flX4_34 dX4_fillDigits_62 ?_
    refine z_iload_n dX4_fillDigits_65 0 rfl ?_
    obtain ⟨k1, ek1, uk1, h⟩ := h
    refine z_iald2 (k0 := k1) shC_122 (by decide) ek1 uk1 dX4_fillDigits_66 ?_
    refine z_aload_n dX4_fillDigits_67 1 rfl ?_
    refine z_getr shC_116 rfl flX4_34 dX4_fillDigits_68 ?_
    refine z_iload_n dX4_fillDigits_71 2 rfl ?_
    refine z_iload_n dX4_fillDigits_72 0 rfl ?_
    refine z_iconst (v := (-1)) dX4_fillDigits_73 (by decide) ?_
    refine z_ixor dX4_fillDigits_74 ?_
    refine z_iand dX4_fillDigits_75 ?_
    obtain ⟨k2, ek2, uk2, h⟩ := h
    refine z_iald2 (k0 := k2) shC_122 (by decide) ek2 uk2 dX4_fillDigits_76 ?_
    refine z_iadd dX4_fillDigits_77 ?_
    obtain ⟨k3, ek3, uk3, h⟩ := h
    refine z_iast2 (k0 := k3) shC_122 (by decide) ek3 uk3 dX4_fillDigits_78 ?_
    refine z_iinc (x := l2) (v := (l2 + 1)) [(2, .int (l2 + 1)), (3, .int (l2 &&& (l2 - 1))), (0, .ref 116)] dX4_fillDigits_79 2 rfl rfl (by decide) rfl ?_
    refine z_goto 42 dX4_fillDigits_82 (by decide) ?_
    exact zW.sub [2, 0] rfl h
theorem dX4_leastLongest_0 : decode cX4_leastLongest 0 = .ok (.aload_n 0, 1) := by decide +kernel
theorem dX4_leastLongest_1 : decode cX4_leastLongest 1 = .ok (.getfield 28, 3) := by decide +kernel
theorem dX4_leastLongest_4 : decode cX4_leastLongest 4 = .ok (.iconst 0, 1) := by decide +kernel
theorem dX4_leastLongest_5 : decode cX4_leastLongest 5 = .ok (.iaload, 1) := by decide +kernel
theorem dX4_leastLongest_6 : decode cX4_leastLongest 6 = .ok (.aload_n 0, 1) := by decide +kernel
theorem dX4_leastLongest_7 : decode cX4_leastLongest 7 = .ok (.getfield 31, 3) := by decide +kernel
theorem dX4_leastLongest_10 : decode cX4_leastLongest 10 = .ok (.iload_n 1, 1) := by decide +kernel
theorem dX4_leastLongest_11 : decode cX4_leastLongest 11 = .ok (.iaload, 1) := by decide +kernel
theorem dX4_leastLongest_12 : decode cX4_leastLongest 12 = .ok (.invokestatic 99, 3) := by decide +kernel
theorem dX4_leastLongest_15 : decode cX4_leastLongest 15 = .ok (.istore_n 2, 1) := by decide +kernel
theorem dX4_leastLongest_16 : decode cX4_leastLongest 16 = .ok (.iload_n 1, 1) := by decide +kernel
theorem dX4_leastLongest_17 : decode cX4_leastLongest 17 = .ok (.istore_n 3, 1) := by decide +kernel
theorem dX4_leastLongest_18 : decode cX4_leastLongest 18 = .ok (.iload_n 3, 1) := by decide +kernel
theorem dX4_leastLongest_19 : decode cX4_leastLongest 19 = .ok (.ifCond .le 36, 3) := by decide +kernel
theorem dX4_leastLongest_22 : decode cX4_leastLongest 22 = .ok (.iload_n 2, 1) := by decide +kernel
theorem dX4_leastLongest_23 : decode cX4_leastLongest 23 = .ok (.aload_n 0, 1) := by decide +kernel
theorem dX4_leastLongest_24 : decode cX4_leastLongest 24 = .ok (.getfield 28, 3) := by decide +kernel
theorem dX4_leastLongest_27 : decode cX4_leastLongest 27 = .ok (.iload_n 3, 1) := by decide +kernel
theorem dX4_leastLongest_28 : decode cX4_leastLongest 28 = .ok (.iaload, 1) := by decide +kernel
theorem dX4_leastLongest_29 : decode cX4_leastLongest 29 = .ok (.aload_n 0, 1) := by decide +kernel
theorem dX4_leastLongest_30 : decode cX4_leastLongest 30 = .ok (.getfield 31, 3) := by decide +kernel
theorem dX4_leastLongest_33 : decode cX4_leastLongest 33 = .ok (.iload_n 1, 1) := by decide +kernel
theorem dX4_leastLongest_34 : decode cX4_leastLongest 34 = .ok (.iload_n 3, 1) := by decide +kernel
theorem dX4_leastLongest_35 : decode cX4_leastLongest 35 = .ok (.iconst (-1), 1) := by decide +kernel
theorem dX4_leastLongest_36 : decode cX4_leastLongest 36 = .ok (.ixor, 1) := by decide +kernel
theorem dX4_leastLongest_37 : decode cX4_leastLongest 37 = .ok (.iand, 1) := by decide +kernel
theorem dX4_leastLongest_38 : decode cX4_leastLongest 38 = .ok (.iaload, 1) := by decide +kernel
theorem dX4_leastLongest_39 : decode cX4_leastLongest 39 = .ok (.invokestatic 99, 3) := by decide +kernel
theorem dX4_leastLongest_42 : decode cX4_leastLongest 42 = .ok (.invokestatic 61, 3) := by decide +kernel
theorem dX4_leastLongest_45 : decode cX4_leastLongest 45 = .ok (.istore_n 2, 1) := by decide +kernel
theorem dX4_leastLongest_46 : decode cX4_leastLongest 46 = .ok (.iload_n 3, 1) := by decide +kernel
theorem dX4_leastLongest_47 : decode cX4_leastLongest 47 = .ok (.iconst 1, 1) := by decide +kernel
theorem dX4_leastLongest_48 : decode cX4_leastLongest 48 = .ok (.isub, 1) := by decide +kernel
theorem dX4_leastLongest_49 : decode cX4_leastLongest 49 = .ok (.iload_n 1, 1) := by decide +kernel
theorem dX4_leastLongest_50 : decode cX4_leastLongest 50 = .ok (.iand, 1) := by decide +kernel
theorem dX4_leastLongest_51 : decode cX4_leastLongest 51 = .ok (.istore_n 3, 1) := by decide +kernel
theorem dX4_leastLongest_52 : decode cX4_leastLongest 52 = .ok (.goto (-34), 3) := by decide +kernel
theorem dX4_leastLongest_55 : decode cX4_leastLongest 55 = .ok (.iload_n 2, 1) := by decide +kernel
theorem dX4_leastLongest_56 : decode cX4_leastLongest 56 = .ok (.ireturn, 1) := by decide +kernel
set_option maxRecDepth 20000 in
theorem vX4_leastLongest {g : zG} {d : Nat} {Q : Int32 → zM → Prop} {M : zM} {l1 : Int32} (h : ∃ k1 : Nat, l1 = iv k1 ∧ k1 < 512 ∧ zW shC g (d + 1) mX4_leastLongest (zi Q) 18 [(0, .ref 116), (1, .int l1), (2, .int (imax (M 120 0) (M 121 k1))), (3, .int l1)] [] M) : zCi shC g (d + 1) mX4_leastLongest [.ref 116, .int l1] M Q := by
  refine zW.enter (by decide +kernel) (Nat.le_of_ble_eq_true rfl) ?_
  change zW shC g (d + 1) mX4_leastLongest (zi Q) 0 [(0, .ref 116), (1, .int l1)] [] M
  refine z_aload_n dX4_leastLongest_0 0 rfl ?_
  refine z_getr shC_116 rfl flX4_28 dX4_leastLongest_1 ?_
  refine z_iconst (v := 0) dX4_leastLongest_4 (by decide) ?_
  refine z_iald2 (k0 := 0) shC_120 (by decide) (by decide) (by decide) dX4_leastLongest_5 ?_
  refine z_aload_n dX4_leastLongest_6 0 rfl ?_
  refine z_getr shC_116 rfl flX4_31 dX4_leastLongest_7 ?_
  refine z_iload_n dX4_leastLongest_10 1 rfl ?_
  obtain ⟨k1, ek1, uk1, h⟩ := h
  refine z_iald2 (k0 := k1) shC_121 (by decide) ek1 uk1 dX4_leastLongest_11 ?_
  refine z_max (st := []) lkX4_99 (Nat.le_of_ble_eq_true rfl) dX4_leastLongest_12 ?_
  refine z_istore_n [(2, .int (imax (M 120 0) (M 121 k1))), (0, .ref 116), (1, .int l1)] dX4_leastLongest_15 (by decide) rfl ?_
  refine z_iload_n dX4_leastLongest_16 2 rfl ?_
  refine z_istore_n [(3, .int l1), (2, .int (imax (M 120 0) (M 121 k1))), (0, .ref 116), (1, .int l1)] dX4_leastLongest_17 (by decide) rfl ?_
  exact zW.sub [2, 3, 1, 0] rfl h
set_option maxRecDepth 20000 in
theorem vX4_leastLongest_18 {g : zG} {d : Nat} {Q : Int32 → zM → Prop} {M : zM} {l1 : Int32} {l2 : Int32} {l3 : Int32} (h : (l3 ≤ 0 → Q l2 M) ∧ (¬ l3 ≤ 0 → ∃ k1 : Nat, l3 = iv k1 ∧ k1 < 512 ∧ ∃ k2 : Nat, (l1 &&& (l3 ^^^ (-1))) = iv k2 ∧ k2 < 512 ∧ zW shC g (d + 1) mX4_leastLongest (zi Q) 18 [(0, .ref 116), (1, .int l1), (2, .int (imin l2 (imax (M 120 k1) (M 121 k2)))), (3, .int ((l3 - 1) &&& l1))] [] M)) : zW shC g (d + 1) mX4_leastLongest (zi Q) 18 [(0, .ref 116), (1, .int l1), (2, .int l2), (3, .int l3)] [] M := by
  refine z_iload_n dX4_leastLongest_18 3 rfl ?_
  refine z_if_le 55 dX4_leastLongest_19 (by decide) (fun c1 => ?_) (fun c1 => ?_)
  · have h := h.1 c1
    refine z_iload_n dX4_leastLongest_55 2 rfl ?_
    exact z_iret (st := []) rfl rfl dX4_leastLongest_56 ⟨_, rfl, h⟩
  · have h := h.2 c1
    refine z_iload_n dX4_leastLongest_22 2 rfl ?_
    refine z_aload_n dX4_leastLongest_23 0 rfl ?_
    refine z_getr shC_116 rfl flX4_28 dX4_leastLongest_24 ?_
    refine z_iload_n dX4_leastLongest_27 3 rfl ?_
    obtain ⟨k1, ek1, uk1, h⟩ := h
    refine z_iald2 (k0 := k1) shC_120 (by decide) ek1 uk1 dX4_leastLongest_28 ?_
    refine z_aload_n dX4_leastLongest_29 0 rfl ?_
    refine z_getr shC_116 rfl flX4_31 dX4_leastLongest_30 ?_
    refine z_iload_n dX4_leastLongest_33 1 rfl ?_
    refine z_iload_n dX4_leastLongest_34 3 rfl ?_
    refine z_iconst (v := (-1)) dX4_leastLongest_35 (by decide) ?_
    refine z_ixor dX4_leastLongest_36 ?_
    refine z_iand dX4_leastLongest_37 ?_
    obtain ⟨k2, ek2, uk2, h⟩ := h
    refine z_iald2 (k0 := k2) shC_121 (by decide) ek2 uk2 dX4_leastLongest_38 ?_
    refine z_max (st := [.int l2]) lkX4_99 (Nat.le_of_ble_eq_true rfl) dX4_leastLongest_39 ?_
    refine z_min (st := []) lkX4_61 (Nat.le_of_ble_eq_true rfl) dX4_leastLongest_42 ?_
    refine z_istore_n [(2, .int (imin l2 (imax (M 120 k1) (M 121 k2)))), (0, .ref 116), (1, .int l1), (3, .int l3)] dX4_leastLongest_45 (by decide) rfl ?_
    refine z_iload_n dX4_leastLongest_46 3 rfl ?_
    refine z_iconst (v := 1) dX4_leastLongest_47 (by decide) ?_
    refine z_isub dX4_leastLongest_48 ?_
    refine z_iload_n dX4_leastLongest_49 2 rfl ?_
    refine z_iand dX4_leastLongest_50 ?_
    refine z_istore_n [(3, .int ((l3 - 1) &&& l1)), (2, .int (imin l2 (imax (M 120 k1) (M 121 k2)))), (0, .ref 116), (1, .int l1)] dX4_leastLongest_51 (by decide) rfl ?_
    refine z_goto 18 dX4_leastLongest_52 (by decide) ?_
    exact zW.sub [2, 3, 1, 0] rfl h
theorem dX4_leastTakers_0 : decode cX4_leastTakers 0 = .ok (.aload_n 0, 1) := by decide +kernel
theorem dX4_leastTakers_1 : decode cX4_leastTakers 1 = .ok (.getfield 31, 3) := by decide +kernel
theorem dX4_leastTakers_4 : decode cX4_leastTakers 4 = .ok (.iload_n 2, 1) := by decide +kernel
theorem dX4_leastTakers_5 : decode cX4_leastTakers 5 = .ok (.iaload, 1) := by decide +kernel
theorem dX4_leastTakers_6 : decode cX4_leastTakers 6 = .ok (.istore 4, 2) := by decide +kernel
theorem dX4_leastTakers_8 : decode cX4_leastTakers 8 = .ok (.iload_n 2, 1) := by decide +kernel
theorem dX4_leastTakers_9 : decode cX4_leastTakers 9 = .ok (.istore 5, 2) := by decide +kernel
theorem dX4_leastTakers_11 : decode cX4_leastTakers 11 = .ok (.iload 5, 2) := by decide +kernel
theorem dX4_leastTakers_13 : decode cX4_leastTakers 13 = .ok (.ifCond .le 53, 3) := by decide +kernel
theorem dX4_leastTakers_16 : decode cX4_leastTakers 16 = .ok (.aload_n 0, 1) := by decide +kernel
theorem dX4_leastTakers_17 : decode cX4_leastTakers 17 = .ok (.getfield 28, 3) := by decide +kernel
theorem dX4_leastTakers_20 : decode cX4_leastTakers 20 = .ok (.iload 5, 2) := by decide +kernel
theorem dX4_leastTakers_22 : decode cX4_leastTakers 22 = .ok (.iaload, 1) := by decide +kernel
theorem dX4_leastTakers_23 : decode cX4_leastTakers 23 = .ok (.iload_n 3, 1) := by decide +kernel
theorem dX4_leastTakers_24 : decode cX4_leastTakers 24 = .ok (.if_icmp .gt 31, 3) := by decide +kernel
theorem dX4_leastTakers_27 : decode cX4_leastTakers 27 = .ok (.iload 4, 2) := by decide +kernel
theorem dX4_leastTakers_29 : decode cX4_leastTakers 29 = .ok (.aload_n 0, 1) := by decide +kernel
theorem dX4_leastTakers_30 : decode cX4_leastTakers 30 = .ok (.getfield 31, 3) := by decide +kernel
theorem dX4_leastTakers_33 : decode cX4_leastTakers 33 = .ok (.iload_n 2, 1) := by decide +kernel
theorem dX4_leastTakers_34 : decode cX4_leastTakers 34 = .ok (.iload 5, 2) := by decide +kernel
theorem dX4_leastTakers_36 : decode cX4_leastTakers 36 = .ok (.iconst (-1), 1) := by decide +kernel
theorem dX4_leastTakers_37 : decode cX4_leastTakers 37 = .ok (.ixor, 1) := by decide +kernel
theorem dX4_leastTakers_38 : decode cX4_leastTakers 38 = .ok (.iand, 1) := by decide +kernel
theorem dX4_leastTakers_39 : decode cX4_leastTakers 39 = .ok (.iaload, 1) := by decide +kernel
theorem dX4_leastTakers_40 : decode cX4_leastTakers 40 = .ok (.iload_n 1, 1) := by decide +kernel
theorem dX4_leastTakers_41 : decode cX4_leastTakers 41 = .ok (.aload_n 0, 1) := by decide +kernel
theorem dX4_leastTakers_42 : decode cX4_leastTakers 42 = .ok (.getfield 34, 3) := by decide +kernel
theorem dX4_leastTakers_45 : decode cX4_leastTakers 45 = .ok (.iload 5, 2) := by decide +kernel
theorem dX4_leastTakers_47 : decode cX4_leastTakers 47 = .ok (.iaload, 1) := by decide +kernel
theorem dX4_leastTakers_48 : decode cX4_leastTakers 48 = .ok (.imul, 1) := by decide +kernel
theorem dX4_leastTakers_49 : decode cX4_leastTakers 49 = .ok (.iadd, 1) := by decide +kernel
theorem dX4_leastTakers_50 : decode cX4_leastTakers 50 = .ok (.invokestatic 61, 3) := by decide +kernel
theorem dX4_leastTakers_53 : decode cX4_leastTakers 53 = .ok (.istore 4, 2) := by decide +kernel
theorem dX4_leastTakers_55 : decode cX4_leastTakers 55 = .ok (.iload 5, 2) := by decide +kernel
theorem dX4_leastTakers_57 : decode cX4_leastTakers 57 = .ok (.iconst 1, 1) := by decide +kernel
theorem dX4_leastTakers_58 : decode cX4_leastTakers 58 = .ok (.isub, 1) := by decide +kernel
theorem dX4_leastTakers_59 : decode cX4_leastTakers 59 = .ok (.iload_n 2, 1) := by decide +kernel
theorem dX4_leastTakers_60 : decode cX4_leastTakers 60 = .ok (.iand, 1) := by decide +kernel
theorem dX4_leastTakers_61 : decode cX4_leastTakers 61 = .ok (.istore 5, 2) := by decide +kernel
theorem dX4_leastTakers_63 : decode cX4_leastTakers 63 = .ok (.goto (-52), 3) := by decide +kernel
theorem dX4_leastTakers_66 : decode cX4_leastTakers 66 = .ok (.iload 4, 2) := by decide +kernel
theorem dX4_leastTakers_68 : decode cX4_leastTakers 68 = .ok (.ireturn, 1) := by decide +kernel
set_option maxRecDepth 20000 in
theorem vX4_leastTakers {g : zG} {d : Nat} {Q : Int32 → zM → Prop} {M : zM} {l1 : Int32} {l2 : Int32} {l3 : Int32} (h : ∃ k1 : Nat, l2 = iv k1 ∧ k1 < 512 ∧ zW shC g (d + 1) mX4_leastTakers (zi Q) 11 [(0, .ref 116), (1, .int l1), (2, .int l2), (3, .int l3), (4, .int (M 121 k1)), (5, .int l2)] [] M) : zCi shC g (d + 1) mX4_leastTakers [.ref 116, .int l1, .int l2, .int l3] M Q := by
  refine zW.enter (by decide +kernel) (Nat.le_of_ble_eq_true rfl) ?_
  change zW shC g (d + 1) mX4_leastTakers (zi Q) 0 [(0, .ref 116), (1, .int l1), (2, .int l2), (3, .int l3)] [] M
  refine z_aload_n dX4_leastTakers_0 0 rfl ?_
  refine z_getr shC_116 rfl flX4_31 dX4_leastTakers_1 ?_
  refine z_iload_n dX4_leastTakers_4 2 rfl ?_
  obtain ⟨k1, ek1, uk1, h⟩ := h
  refine z_iald2 (k0 := k1) shC_121 (by decide) ek1 uk1 dX4_leastTakers_5 ?_
  refine z_istore [(4, .int (M 121 k1)), (0, .ref 116), (1, .int l1), (2, .int l2), (3, .int l3)] dX4_leastTakers_6 (by decide) rfl ?_
  refine z_iload_n dX4_leastTakers_8 3 rfl ?_
  refine z_istore [(5, .int l2), (4, .int (M 121 k1)), (0, .ref 116), (1, .int l1), (2, .int l2), (3, .int l3)] dX4_leastTakers_9 (by decide) rfl ?_
  exact zW.sub [2, 3, 4, 5, 1, 0] rfl h
set_option maxRecDepth 20000 in
theorem vX4_leastTakers_11 {g : zG} {d : Nat} {Q : Int32 → zM → Prop} {M : zM} {l1 : Int32} {l2 : Int32} {l3 : Int32} {l4 : Int32} {l5 : Int32} (h : (l5 ≤ 0 → Q l4 M) ∧ (¬ l5 ≤ 0 → ∃ k1 : Nat, l5 = iv k1 ∧ k1 < 512 ∧ (l3 < (M 120 k1) → zW shC g (d + 1) mX4_leastTakers (zi Q) 11 [(0, .ref 116), (1, .int l1), (2, .int l2), (3, .int l3), (4, .int l4), (5, .int ((l5 - 1) &&& l2))] [] M) ∧ (¬ l3 < (M 120 k1) → ∃ k2 : Nat, (l2 &&& (l5 ^^^ (-1))) = iv k2 ∧ k2 < 512 ∧ zW shC g (d + 1) mX4_leastTakers (zi Q) 11 [(0, .ref 116), (1, .int l1), (2, .int l2), (3, .int l3), (4, .int (imin l4 ((M 121 k2) + (l1 * (M 122 k1))))), (5, .int ((l5 - 1) &&& l2))] [] M))) : zW shC g (d + 1) mX4_leastTakers (zi Q) 11 [(0, .ref 116), (1, .int l1), (2, .int l2), (3, .int l3), (4, .int l4), (5, .int l5)] [] M := by
  refine z_iload dX4_leastTakers_11 5 rfl ?_
  refine z_if_le 66 dX4_leastTakers_13 (by decide) (fun c1 => ?_) (fun c1 => ?_)
  · have h := h.1 c1
    refine z_iload dX4_leastTakers_66 4 rfl ?_
    exact z_iret (st := []) rfl rfl dX4_leastTakers_68 ⟨_, rfl, h⟩
  · have h := h.2 c1
    refine z_aload_n dX4_leastTakers_16 0 rfl ?_
    refine z_getr shC_116 rfl flX4_28 dX4_leastTakers_17 ?_
    refine z_iload dX4_leastTakers_20 5 rfl ?_
    obtain ⟨k1, ek1, uk1, h⟩ := h
    refine z_iald2 (k0 := k1) shC_120 (by decide) ek1 uk1 dX4_leastTakers_22 ?_
    refine z_iload_n dX4_leastTakers_23 3 rfl ?_
    refine z_icmp_gt 55 dX4_leastTakers_24 (by decide) (fun c2 => ?_) (fun c2 => ?_)
    · have h := h.1 c2
      refine z_iload dX4_leastTakers_55 5 rfl ?_
      refine z_iconst (v := 1) dX4_leastTakers_57 (by decide) ?_
      refine z_isub dX4_leastTakers_58 ?_
      refine z_iload_n dX4_leastTakers_59 2 rfl ?_
      refine z_iand dX4_leastTakers_60 ?_
      refine z_istore [(5, .int ((l5 - 1) &&& l2)), (0, .ref 116), (1, .int l1), (2, .int l2), (3, .int l3), (4, .int l4)] dX4_leastTakers_61 (by decide) rfl ?_
      refine z_goto 11 dX4_leastTakers_63 (by decide) ?_
      exact zW.sub [1, 2, 3, 4, 5, 0] rfl h
    · have h := h.2 c2
      refine z_iload dX4_leastTakers_27 4 rfl ?_
      refine z_aload_n dX4_leastTakers_29 0 rfl ?_
      refine z_getr shC_116 rfl flX4_31 dX4_leastTakers_30 ?_
      refine z_iload_n dX4_leastTakers_33 2 rfl ?_
      refine z_iload dX4_leastTakers_34 5 rfl ?_
      refine z_iconst (v := (-1)) dX4_leastTakers_36 (by decide) ?_
      refine z_ixor dX4_leastTakers_37 ?_
      refine z_iand dX4_leastTakers_38 ?_
      obtain ⟨k2, ek2, uk2, h⟩ := h
      refine z_iald2 (k0 := k2) shC_121 (by decide) ek2 uk2 dX4_leastTakers_39 ?_
      refine z_iload_n dX4_leastTakers_40 1 rfl ?_
      refine z_aload_n dX4_leastTakers_41 0 rfl ?_
      refine z_getr shC_116 rfl flX4_34 dX4_leastTakers_42 ?_
      refine z_iload dX4_leastTakers_45 5 rfl ?_
      refine z_iald2 (k0 := k1) shC_122 (by decide) ek1 uk1 dX4_leastTakers_47 ?_
      refine z_imul dX4_leastTakers_48 ?_
      refine z_iadd dX4_leastTakers_49 ?_
      refine z_min (st := []) lkX4_61 (Nat.le_of_ble_eq_true rfl) dX4_leastTakers_50 ?_
      refine z_istore [(4, .int (imin l4 ((M 121 k2) + (l1 * (M 122 k1))))), (0, .ref 116), (1, .int l1), (2, .int l2), (3, .int l3), (5, .int l5)] dX4_leastTakers_53 (by decide) rfl ?_
      refine z_iload dX4_leastTakers_55 5 rfl ?_
      refine z_iconst (v := 1) dX4_leastTakers_57 (by decide) ?_
      refine z_isub dX4_leastTakers_58 ?_
      refine z_iload_n dX4_leastTakers_59 3 rfl ?_
      refine z_iand dX4_leastTakers_60 ?_
      refine z_istore [(5, .int ((l5 - 1) &&& l2)), (4, .int (imin l4 ((M 121 k2) + (l1 * (M 122 k1))))), (0, .ref 116), (1, .int l1), (2, .int l2), (3, .int l3)] dX4_leastTakers_61 (by decide) rfl ?_
      refine z_goto 11 dX4_leastTakers_63 (by decide) ?_
      exact zW.sub [2, 3, 4, 5, 1, 0] rfl h
theorem dX0_between_0 : decode cX0_between 0 = .ok (.aload_n 0, 1) := by decide +kernel
theorem dX0_between_1 : decode cX0_between 1 = .ok (.getfield 9, 3) := by decide +kernel
theorem dX0_between_4 : decode cX0_between 4 = .ok (.iconst 0, 1) := by decide +kernel
theorem dX0_between_5 : decode cX0_between 5 = .ok (.invokestatic 28, 3) := by decide +kernel
theorem dX0_between_8 : decode cX0_between 8 = .ok (.aload_n 0, 1) := by decide +kernel
theorem dX0_between_9 : decode cX0_between 9 = .ok (.getfield 15, 3) := by decide +kernel
theorem dX0_between_12 : decode cX0_between 12 = .ok (.iconst 0, 1) := by decide +kernel
theorem dX0_between_13 : decode cX0_between 13 = .ok (.invokestatic 28, 3) := by decide +kernel
theorem dX0_between_16 : decode cX0_between 16 = .ok (.iconst 0, 1) := by decide +kernel
theorem dX0_between_17 : decode cX0_between 17 = .ok (.istore 4, 2) := by decide +kernel
theorem dX0_between_19 : decode cX0_between 19 = .ok (.iconst 0, 1) := by decide +kernel
theorem dX0_between_20 : decode cX0_between 20 = .ok (.istore 5, 2) := by decide +kernel
theorem dX0_between_22 : decode cX0_between 22 = .ok (.iload 5, 2) := by decide +kernel
theorem dX0_between_24 : decode cX0_between 24 = .ok (.iconst 4, 1) := by decide +kernel
theorem dX0_between_25 : decode cX0_between 25 = .ok (.if_icmp .ge 28, 3) := by decide +kernel
theorem dX0_between_28 : decode cX0_between 28 = .ok (.aload_n 0, 1) := by decide +kernel
theorem dX0_between_29 : decode cX0_between 29 = .ok (.aload_n 1, 1) := by decide +kernel
theorem dX0_between_30 : decode cX0_between 30 = .ok (.iload_n 2, 1) := by decide +kernel
theorem dX0_between_31 : decode cX0_between 31 = .ok (.iload_n 3, 1) := by decide +kernel
theorem dX0_between_32 : decode cX0_between 32 = .ok (.invokevirtual 34, 3) := by decide +kernel
theorem dX0_between_35 : decode cX0_between 35 = .ok (.ifCond .eq 18, 3) := by decide +kernel
theorem dX0_between_38 : decode cX0_between 38 = .ok (.aload_n 0, 1) := by decide +kernel
theorem dX0_between_39 : decode cX0_between 39 = .ok (.iload_n 2, 1) := by decide +kernel
theorem dX0_between_40 : decode cX0_between 40 = .ok (.iload_n 3, 1) := by decide +kernel
theorem dX0_between_41 : decode cX0_between 41 = .ok (.invokevirtual 38, 3) := by decide +kernel
theorem dX0_between_44 : decode cX0_between 44 = .ok (.iinc 4 1, 3) := by decide +kernel
theorem dX0_between_47 : decode cX0_between 47 = .ok (.iinc 5 1, 3) := by decide +kernel
theorem dX0_between_50 : decode cX0_between 50 = .ok (.goto (-28), 3) := by decide +kernel
theorem dX0_between_53 : decode cX0_between 53 = .ok (.iload 4, 2) := by decide +kernel
theorem dX0_between_55 : decode cX0_between 55 = .ok (.ireturn, 1) := by decide +kernel
set_option maxRecDepth 20000 in
theorem vX0_between {g : zG} {d : Nat} {Q : Int32 → zM → Prop} {M : zM} {l2 : Int32} {l3 : Int32} (h : zCv shC g d mJ7_fill_53178 [.ref 124, .int 0] M (fun  M1 => zCv shC g d mJ7_fill_53178 [.ref 125, .int 0] M1 (fun  M2 => zW shC g (d + 1) mX0_between (zi Q) 22 [(0, .ref 123), (1, .ref 1), (2, .int l2), (3, .int l3), (4, .int 0), (5, .int 0)] [] M2))) : zCi shC g (d + 1) mX0_between [.ref 123, .ref 1, .int l2, .int l3] M Q := by
  refine zW.enter (by decide +kernel) (Nat.le_of_ble_eq_true rfl) ?_
  change zW shC g (d + 1) mX0_between (zi Q) 0 [(0, .ref 123), (1, .ref 1), (2, .int l2), (3, .int l3)] [] M
  refine z_aload_n dX0_between_0 0 rfl ?_
  refine z_getr shC_123 rfl flX0_9 dX0_between_1 ?_
  refine z_iconst (v := 0) dX0_between_4 (by decide) ?_
  refine z_callS (m2 := mJ7_fill_53178) (st := []) [.ref 124, .int 0] okJ7_fill_53178 (Or.inl lkX0_28) rfl rfl (Nat.le_of_ble_eq_true rfl) dX0_between_5 (zgo_v h fun  M1 h => ?_)
  refine z_aload_n dX0_between_8 0 rfl ?_
  refine z_getr shC_123 rfl flX0_15 dX0_between_9 ?_
  refine z_iconst (v := 0) dX0_between_12 (by decide) ?_
  refine z_callS (m2 := mJ7_fill_53178) (st := []) [.ref 125, .int 0] okJ7_fill_53178 (Or.inl lkX0_28) rfl rfl (Nat.le_of_ble_eq_true rfl) dX0_between_13 (zgo_v h fun  M2 h => ?_)
  refine z_iconst (v := 0) dX0_between_16 (by decide) ?_
  refine z_istore [(4, .int 0), (0, .ref 123), (1, .ref 1), (2, .int l2), (3, .int l3)] dX0_between_17 (by decide) rfl ?_
  refine z_iconst (v := 0) dX0_between_19 (by decide) ?_
  refine z_istore [(5, .int 0), (4, .int 0), (0, .ref 123), (1, .ref 1), (2, .int l2), (3, .int l3)] dX0_between_20 (by decide) rfl ?_
  exact zW.sub [2, 3, 4, 5, 1, 0] rfl h
set_option maxRecDepth 20000 in
theorem vX0_between_22 {g : zG} {d : Nat} {Q : Int32 → zM → Prop} {M : zM} {l2 : Int32} {l3 : Int32} {l4 : Int32} {l5 : Int32} (h : (4 ≤ l5 → Q l4 M) ∧ (¬ 4 ≤ l5 → zCz shC g d mX0_findsWay [.ref 123, .ref 1, .int l2, .int l3] M (fun b1 M1 => (b1 = false → Q l4 M1) ∧ (b1 = true → zCv shC g d mX0_addWay [.ref 123, .int l2, .int l3] M1 (fun  M2 => zW shC g (d + 1) mX0_between (zi Q) 22 [(0, .ref 123), (1, .ref 1), (2, .int l2), (3, .int l3), (4, .int (l4 + 1)), (5, .int (l5 + 1))] [] M2))))) : zW shC g (d + 1) mX0_between (zi Q) 22 [(0, .ref 123), (1, .ref 1), (2, .int l2), (3, .int l3), (4, .int l4), (5, .int l5)] [] M := by
  refine z_iload dX0_between_22 5 rfl ?_
  refine z_iconst (v := 4) dX0_between_24 (by decide) ?_
  refine z_icmp_ge 53 dX0_between_25 (by decide) (fun c1 => ?_) (fun c1 => ?_)
  · have h := h.1 c1
    refine z_iload dX0_between_53 4 rfl ?_
    exact z_iret (st := []) rfl rfl dX0_between_55 ⟨_, rfl, h⟩
  · have h := h.2 c1
    refine z_aload_n dX0_between_28 0 rfl ?_
    refine z_aload_n dX0_between_29 1 rfl ?_
    refine z_iload_n dX0_between_30 2 rfl ?_
    refine z_iload_n dX0_between_31 3 rfl ?_
    refine z_callV (m2 := mX0_findsWay) (st := []) [.ref 1, .int l2, .int l3] okX0_findsWay (Or.inl lkX0_34) shC_123 rfl rfl rfl (Nat.le_of_ble_eq_true rfl) dX0_between_32 (zgo_z h fun b1 M1 h => ?_)
    refine z_ifb_eq 53 dX0_between_35 (by decide) (fun c2 => ?_) (fun c2 => ?_)
    · have h := h.1 c2
      refine z_iload dX0_between_53 4 rfl ?_
      exact z_iret (st := []) rfl rfl dX0_between_55 ⟨_, rfl, h⟩
    · have h := h.2 c2
      refine z_aload_n dX0_between_38 0 rfl ?_
      refine z_iload_n dX0_between_39 2 rfl ?_
      refine z_iload_n dX0_between_40 3 rfl ?_
      refine z_callV (m2 := mX0_addWay) (st := []) [.int l2, .int l3] okX0_addWay (Or.inl lkX0_38) shC_123 rfl rfl rfl (Nat.le_of_ble_eq_true rfl) dX0_between_41 (zgo_v h fun  M2 h => ?_)
      refine z_iinc (x := l4) (v := (l4 + 1)) [(4, .int (l4 + 1)), (0, .ref 123), (1, .ref 1), (2, .int l2), (3, .int l3), (5, .int l5)] dX0_between_44 4 rfl rfl (by decide) rfl ?_
      refine z_iinc (x := l5) (v := (l5 + 1)) [(5, .int (l5 + 1)), (4, .int (l4 + 1)), (0, .ref 123), (1, .ref 1), (2, .int l2), (3, .int l3)] dX0_between_47 5 rfl rfl (by decide) rfl ?_
      refine z_goto 22 dX0_between_50 (by decide) ?_
      exact zW.sub [2, 3, 4, 5, 1, 0] rfl h
theorem dX0_findsWay_0 : decode cX0_findsWay 0 = .ok (.aload_n 0, 1) := by decide +kernel
theorem dX0_findsWay_1 : decode cX0_findsWay 1 = .ok (.getfield 18, 3) := by decide +kernel
theorem dX0_findsWay_4 : decode cX0_findsWay 4 = .ok (.iconst (-1), 1) := by decide +kernel
theorem dX0_findsWay_5 : decode cX0_findsWay 5 = .ok (.invokestatic 28, 3) := by decide +kernel
theorem dX0_findsWay_8 : decode cX0_findsWay 8 = .ok (.aload_n 0, 1) := by decide +kernel
theorem dX0_findsWay_9 : decode cX0_findsWay 9 = .ok (.iconst 0, 1) := by decide +kernel
theorem dX0_findsWay_10 : decode cX0_findsWay 10 = .ok (.putfield 24, 3) := by decide +kernel
theorem dX0_findsWay_13 : decode cX0_findsWay 13 = .ok (.aload_n 0, 1) := by decide +kernel
theorem dX0_findsWay_14 : decode cX0_findsWay 14 = .ok (.iconst 2, 1) := by decide +kernel
theorem dX0_findsWay_15 : decode cX0_findsWay 15 = .ok (.iload_n 2, 1) := by decide +kernel
theorem dX0_findsWay_16 : decode cX0_findsWay 16 = .ok (.imul, 1) := by decide +kernel
theorem dX0_findsWay_17 : decode cX0_findsWay 17 = .ok (.iconst 1, 1) := by decide +kernel
theorem dX0_findsWay_18 : decode cX0_findsWay 18 = .ok (.iadd, 1) := by decide +kernel
theorem dX0_findsWay_19 : decode cX0_findsWay 19 = .ok (.iconst 2, 1) := by decide +kernel
theorem dX0_findsWay_20 : decode cX0_findsWay 20 = .ok (.iload_n 2, 1) := by decide +kernel
theorem dX0_findsWay_21 : decode cX0_findsWay 21 = .ok (.imul, 1) := by decide +kernel
theorem dX0_findsWay_22 : decode cX0_findsWay 22 = .ok (.iconst 1, 1) := by decide +kernel
theorem dX0_findsWay_23 : decode cX0_findsWay 23 = .ok (.iadd, 1) := by decide +kernel
theorem dX0_findsWay_24 : decode cX0_findsWay 24 = .ok (.invokevirtual 42, 3) := by decide +kernel
theorem dX0_findsWay_27 : decode cX0_findsWay 27 = .ok (.iconst 0, 1) := by decide +kernel
theorem dX0_findsWay_28 : decode cX0_findsWay 28 = .ok (.istore 4, 2) := by decide +kernel
theorem dX0_findsWay_30 : decode cX0_findsWay 30 = .ok (.iload 4, 2) := by decide +kernel
theorem dX0_findsWay_32 : decode cX0_findsWay 32 = .ok (.aload_n 0, 1) := by decide +kernel
theorem dX0_findsWay_33 : decode cX0_findsWay 33 = .ok (.getfield 24, 3) := by decide +kernel
theorem dX0_findsWay_36 : decode cX0_findsWay 36 = .ok (.if_icmp .ge 65, 3) := by decide +kernel
theorem dX0_findsWay_39 : decode cX0_findsWay 39 = .ok (.aload_n 0, 1) := by decide +kernel
theorem dX0_findsWay_40 : decode cX0_findsWay 40 = .ok (.getfield 18, 3) := by decide +kernel
theorem dX0_findsWay_43 : decode cX0_findsWay 43 = .ok (.iconst 2, 1) := by decide +kernel
theorem dX0_findsWay_44 : decode cX0_findsWay 44 = .ok (.iload_n 3, 1) := by decide +kernel
theorem dX0_findsWay_45 : decode cX0_findsWay 45 = .ok (.imul, 1) := by decide +kernel
theorem dX0_findsWay_46 : decode cX0_findsWay 46 = .ok (.iaload, 1) := by decide +kernel
theorem dX0_findsWay_47 : decode cX0_findsWay 47 = .ok (.iconst (-1), 1) := by decide +kernel
theorem dX0_findsWay_48 : decode cX0_findsWay 48 = .ok (.if_icmp .ne 53, 3) := by decide +kernel
theorem dX0_findsWay_51 : decode cX0_findsWay 51 = .ok (.aload_n 0, 1) := by decide +kernel
theorem dX0_findsWay_52 : decode cX0_findsWay 52 = .ok (.getfield 21, 3) := by decide +kernel
theorem dX0_findsWay_55 : decode cX0_findsWay 55 = .ok (.iload 4, 2) := by decide +kernel
theorem dX0_findsWay_57 : decode cX0_findsWay 57 = .ok (.iaload, 1) := by decide +kernel
theorem dX0_findsWay_58 : decode cX0_findsWay 58 = .ok (.iconst 2, 1) := by decide +kernel
theorem dX0_findsWay_59 : decode cX0_findsWay 59 = .ok (.irem, 1) := by decide +kernel
theorem dX0_findsWay_60 : decode cX0_findsWay 60 = .ok (.iconst 1, 1) := by decide +kernel
theorem dX0_findsWay_61 : decode cX0_findsWay 61 = .ok (.if_icmp .ne 20, 3) := by decide +kernel
theorem dX0_findsWay_64 : decode cX0_findsWay 64 = .ok (.aload_n 0, 1) := by decide +kernel
theorem dX0_findsWay_65 : decode cX0_findsWay 65 = .ok (.aload_n 1, 1) := by decide +kernel
theorem dX0_findsWay_66 : decode cX0_findsWay 66 = .ok (.aload_n 0, 1) := by decide +kernel
theorem dX0_findsWay_67 : decode cX0_findsWay 67 = .ok (.getfield 21, 3) := by decide +kernel
theorem dX0_findsWay_70 : decode cX0_findsWay 70 = .ok (.iload 4, 2) := by decide +kernel
theorem dX0_findsWay_72 : decode cX0_findsWay 72 = .ok (.iaload, 1) := by decide +kernel
theorem dX0_findsWay_73 : decode cX0_findsWay 73 = .ok (.iconst 2, 1) := by decide +kernel
theorem dX0_findsWay_74 : decode cX0_findsWay 74 = .ok (.idiv, 1) := by decide +kernel
theorem dX0_findsWay_75 : decode cX0_findsWay 75 = .ok (.invokevirtual 45, 3) := by decide +kernel
theorem dX0_findsWay_78 : decode cX0_findsWay 78 = .ok (.goto 17, 3) := by decide +kernel
theorem dX0_findsWay_81 : decode cX0_findsWay 81 = .ok (.aload_n 0, 1) := by decide +kernel
theorem dX0_findsWay_82 : decode cX0_findsWay 82 = .ok (.aload_n 1, 1) := by decide +kernel
theorem dX0_findsWay_83 : decode cX0_findsWay 83 = .ok (.aload_n 0, 1) := by decide +kernel
theorem dX0_findsWay_84 : decode cX0_findsWay 84 = .ok (.getfield 21, 3) := by decide +kernel
theorem dX0_findsWay_87 : decode cX0_findsWay 87 = .ok (.iload 4, 2) := by decide +kernel
theorem dX0_findsWay_89 : decode cX0_findsWay 89 = .ok (.iaload, 1) := by decide +kernel
theorem dX0_findsWay_90 : decode cX0_findsWay 90 = .ok (.iconst 2, 1) := by decide +kernel
theorem dX0_findsWay_91 : decode cX0_findsWay 91 = .ok (.idiv, 1) := by decide +kernel
theorem dX0_findsWay_92 : decode cX0_findsWay 92 = .ok (.invokevirtual 49, 3) := by decide +kernel
theorem dX0_findsWay_95 : decode cX0_findsWay 95 = .ok (.iinc 4 1, 3) := by decide +kernel
theorem dX0_findsWay_98 : decode cX0_findsWay 98 = .ok (.goto (-68), 3) := by decide +kernel
theorem dX0_findsWay_101 : decode cX0_findsWay 101 = .ok (.aload_n 0, 1) := by decide +kernel
theorem dX0_findsWay_102 : decode cX0_findsWay 102 = .ok (.getfield 18, 3) := by decide +kernel
theorem dX0_findsWay_105 : decode cX0_findsWay 105 = .ok (.iconst 2, 1) := by decide +kernel
theorem dX0_findsWay_106 : decode cX0_findsWay 106 = .ok (.iload_n 3, 1) := by decide +kernel
theorem dX0_findsWay_107 : decode cX0_findsWay 107 = .ok (.imul, 1) := by decide +kernel
theorem dX0_findsWay_108 : decode cX0_findsWay 108 = .ok (.iaload, 1) := by decide +kernel
theorem dX0_findsWay_109 : decode cX0_findsWay 109 = .ok (.iconst (-1), 1) := by decide +kernel
theorem dX0_findsWay_110 : decode cX0_findsWay 110 = .ok (.if_icmp .eq 7, 3) := by decide +kernel
theorem dX0_findsWay_113 : decode cX0_findsWay 113 = .ok (.iconst 1, 1) := by decide +kernel
theorem dX0_findsWay_114 : decode cX0_findsWay 114 = .ok (.goto 4, 3) := by decide +kernel
theorem dX0_findsWay_117 : decode cX0_findsWay 117 = .ok (.iconst 0, 1) := by decide +kernel
theorem dX0_findsWay_118 : decode cX0_findsWay 118 = .ok (.ireturn, 1) := by decide +kernel
set_option maxRecDepth 20000 in
theorem vX0_findsWay {g : zG} {d : Nat} {Q : Bool → zM → Prop} {M : zM} {l2 : Int32} {l3 : Int32} (h : zCv shC g d mJ7_fill_53178 [.ref 126, .int (-1)] M (fun  M1 => zCv shC g d mX0_find [.ref 123, .int ((2 * l2) + 1), .int ((2 * l2) + 1)] (zup M1 123 4 0) (fun  M2 => zW shC g (d + 1) mX0_findsWay (zz Q) 30 [(0, .ref 123), (1, .ref 1), (3, .int l3), (4, .int 0)] [] M2))) : zCz shC g (d + 1) mX0_findsWay [.ref 123, .ref 1, .int l2, .int l3] M Q := by
  refine zW.enter (by decide +kernel) (Nat.le_of_ble_eq_true rfl) ?_
  change zW shC g (d + 1) mX0_findsWay (zz Q) 0 [(0, .ref 123), (1, .ref 1), (2, .int l2), (3, .int l3)] [] M
  refine z_aload_n dX0_findsWay_0 0 rfl ?_
  refine z_getr shC_123 rfl flX0_18 dX0_findsWay_1 ?_
  refine z_iconst (v := (-1)) dX0_findsWay_4 (by decide) ?_
  refine z_callS (m2 := mJ7_fill_53178) (st := []) [.ref 126, .int (-1)] okJ7_fill_53178 (Or.inl lkX0_28) rfl rfl (Nat.le_of_ble_eq_true rfl) dX0_findsWay_5 (zgo_v h fun  M1 h => ?_)
  refine z_aload_n dX0_findsWay_8 0 rfl ?_
  refine z_iconst (v := 0) dX0_findsWay_9 (by decide) ?_
  refine z_puti shC_123 rfl fpX0_24 rfl rfl dX0_findsWay_10 ?_
  refine z_aload_n dX0_findsWay_13 0 rfl ?_
  refine z_iconst (v := 2) dX0_findsWay_14 (by decide) ?_
  refine z_iload_n dX0_findsWay_15 2 rfl ?_
  refine z_imul dX0_findsWay_16 ?_
  refine z_iconst (v := 1) dX0_findsWay_17 (by decide) ?_
  refine z_iadd dX0_findsWay_18 ?_
  refine z_iconst (v := 2) dX0_findsWay_19 (by decide) ?_
  refine z_iload_n dX0_findsWay_20 2 rfl ?_
  refine z_imul dX0_findsWay_21 ?_
  refine z_iconst (v := 1) dX0_findsWay_22 (by decide) ?_
  refine z_iadd dX0_findsWay_23 ?_
  refine z_callV (m2 := mX0_find) (st := []) [.int ((2 * l2) + 1), .int ((2 * l2) + 1)] okX0_find (Or.inl lkX0_42) shC_123 rfl rfl rfl (Nat.le_of_ble_eq_true rfl) dX0_findsWay_24 (zgo_v h fun  M2 h => ?_)
  refine z_iconst (v := 0) dX0_findsWay_27 (by decide) ?_
  refine z_istore [(4, .int 0), (0, .ref 123), (1, .ref 1), (2, .int l2), (3, .int l3)] dX0_findsWay_28 (by decide) rfl ?_
  exact zW.sub [1, 2, 4, 0] rfl h
set_option maxRecDepth 20000 in
theorem vX0_findsWay_30 {g : zG} {d : Nat} {Q : Bool → zM → Prop} {M : zM} {l3 : Int32} {l4 : Int32} (h : ((M 123 4) ≤ l4 → zW shC g (d + 1) mX0_findsWay (zz Q) 101 [(0, .ref 123), (3, .int l3)] [] M) ∧ (¬ (M 123 4) ≤ l4 → ∃ k1 : Nat, (2 * l3) = iv k1 ∧ k1 < 128 ∧ (¬ (M 126 k1) = (-1) → zW shC g (d + 1) mX0_findsWay (zz Q) 101 [(0, .ref 123), (3, .int l3)] [] M) ∧ ((M 126 k1) = (-1) → ∃ k2 : Nat, l4 = iv k2 ∧ k2 < 128 ∧ (¬ ((M 127 k2) - (M 127 k2) / 2 * 2) = 1 → zCv shC g d mX0_enter [.ref 123, .ref 1, .int ((M 127 k2) / 2)] M (fun  M1 => zW shC g (d + 1) mX0_findsWay (zz Q) 30 [(0, .ref 123), (1, .ref 1), (3, .int l3), (4, .int (l4 + 1))] [] M1)) ∧ (((M 127 k2) - (M 127 k2) / 2 * 2) = 1 → zCv shC g d mX0_leave [.ref 123, .ref 1, .int ((M 127 k2) / 2)] M (fun  M1 => zW shC g (d + 1) mX0_findsWay (zz Q) 30 [(0, .ref 123), (1, .ref 1), (3, .int l3), (4, .int (l4 + 1))] [] M1))))) : zW shC g (d + 1) mX0_findsWay (zz Q) 30 [(0, .ref 123), (1, .ref 1), (3, .int l3), (4, .int l4)] [] M := by
  refine z_iload dX0_findsWay_30 3 rfl ?_
  refine z_aload_n dX0_findsWay_32 0 rfl ?_
  refine z_geti shC_123 rfl flX0_24 dX0_findsWay_33 ?_
  refine z_icmp_ge 101 dX0_findsWay_36 (by decide) (fun c1 => ?_) (fun c1 => ?_)
  · have h := h.1 c1
    exact zW.sub [0, 2] rfl h
  · have h := h.2 c1
    refine z_aload_n dX0_findsWay_39 0 rfl ?_
    refine z_getr shC_123 rfl flX0_18 dX0_findsWay_40 ?_
    refine z_iconst (v := 2) dX0_findsWay_43 (by decide) ?_
    refine z_iload_n dX0_findsWay_44 2 rfl ?_
    refine z_imul dX0_findsWay_45 ?_
    obtain ⟨k1, ek1, uk1, h⟩ := h
    refine z_iald2 (k0 := k1) shC_126 (by decide) ek1 uk1 dX0_findsWay_46 ?_
    refine z_iconst (v := (-1)) dX0_findsWay_47 (by decide) ?_
    refine z_icmp_ne 101 dX0_findsWay_48 (by decide) (fun c2 => ?_) (fun c2 => ?_)
    · have h := h.1 c2
      exact zW.sub [0, 2] rfl h
    · have h := h.2 c2
      refine z_aload_n dX0_findsWay_51 0 rfl ?_
      refine z_getr shC_123 rfl flX0_21 dX0_findsWay_52 ?_
      refine z_iload dX0_findsWay_55 3 rfl ?_
      obtain ⟨k2, ek2, uk2, h⟩ := h
      refine z_iald2 (k0 := k2) shC_127 (by decide) ek2 uk2 dX0_findsWay_57 ?_
      refine z_iconst (v := 2) dX0_findsWay_58 (by decide) ?_
      refine z_irem dX0_findsWay_59 (by decide) ?_
      refine z_iconst (v := 1) dX0_findsWay_60 (by decide) ?_
      refine z_icmp_ne 81 dX0_findsWay_61 (by decide) (fun c3 => ?_) (fun c3 => ?_)
      · have h := h.1 c3
        refine z_aload_n dX0_findsWay_81 0 rfl ?_
        refine z_aload_n dX0_findsWay_82 1 rfl ?_
        refine z_aload_n dX0_findsWay_83 0 rfl ?_
        refine z_getr shC_123 rfl flX0_21 dX0_findsWay_84 ?_
        refine z_iload dX0_findsWay_87 3 rfl ?_
        refine z_iald2 (k0 := k2) shC_127 (by decide) ek2 uk2 dX0_findsWay_89 ?_
        refine z_iconst (v := 2) dX0_findsWay_90 (by decide) ?_
        refine z_idiv dX0_findsWay_91 (by decide) ?_
        refine z_callV (m2 := mX0_enter) (st := []) [.ref 1, .int ((M 127 k2) / 2)] okX0_enter (Or.inl lkX0_49) shC_123 rfl rfl rfl (Nat.le_of_ble_eq_true rfl) dX0_findsWay_92 (zgo_v h fun  M1 h => ?_)
        refine z_iinc (x := l4) (v := (l4 + 1)) [(4, .int (l4 + 1)), (0, .ref 123), (1, .ref 1), (3, .int l3)] dX0_findsWay_95 3 rfl rfl (by decide) rfl ?_
        refine z_goto 30 dX0_findsWay_98 (by decide) ?_
        exact zW.sub [1, 2, 3, 0] rfl h
      · have h := h.2 c3
        refine z_aload_n dX0_findsWay_64 0 rfl ?_
        refine z_aload_n dX0_findsWay_65 1 rfl ?_
        refine z_aload_n dX0_findsWay_66 0 rfl ?_
        refine z_getr shC_123 rfl flX0_21 dX0_findsWay_67 ?_
        refine z_iload dX0_findsWay_70 3 rfl ?_
        refine z_iald2 (k0 := k2) shC_127 (by decide) ek2 uk2 dX0_findsWay_72 ?_
        refine z_iconst (v := 2) dX0_findsWay_73 (by decide) ?_
        refine z_idiv dX0_findsWay_74 (by decide) ?_
        refine z_callV (m2 := mX0_leave) (st := []) [.ref 1, .int ((M 127 k2) / 2)] okX0_leave (Or.inl lkX0_45) shC_123 rfl rfl rfl (Nat.le_of_ble_eq_true rfl) dX0_findsWay_75 (zgo_v h fun  M1 h => ?_)
        refine z_goto 95 dX0_findsWay_78 (by decide) ?_
        refine z_iinc (x := l4) (v := (l4 + 1)) [(4, .int (l4 + 1)), (0, .ref 123), (1, .ref 1), (3, .int l3)] dX0_findsWay_95 3 rfl rfl (by decide) rfl ?_
        refine z_goto 30 dX0_findsWay_98 (by decide) ?_
        exact zW.sub [1, 2, 3, 0] rfl h
set_option maxRecDepth 20000 in
theorem vX0_findsWay_101 {g : zG} {d : Nat} {Q : Bool → zM → Prop} {M : zM} {l3 : Int32} (h : ∃ k1 : Nat, (2 * l3) = iv k1 ∧ k1 < 128 ∧ ((M 126 k1) = (-1) → Q false M) ∧ (¬ (M 126 k1) = (-1) → Q true M)) : zW shC g (d + 1) mX0_findsWay (zz Q) 101 [(0, .ref 123), (3, .int l3)] [] M := by
  refine z_aload_n dX0_findsWay_101 0 rfl ?_
  refine z_getr shC_123 rfl flX0_18 dX0_findsWay_102 ?_
  refine z_iconst (v := 2) dX0_findsWay_105 (by decide) ?_
  refine z_iload_n dX0_findsWay_106 1 rfl ?_
  refine z_imul dX0_findsWay_107 ?_
  obtain ⟨k1, ek1, uk1, h⟩ := h
  refine z_iald2 (k0 := k1) shC_126 (by decide) ek1 uk1 dX0_findsWay_108 ?_
  refine z_iconst (v := (-1)) dX0_findsWay_109 (by decide) ?_
  refine z_icmp_eq 117 dX0_findsWay_110 (by decide) (fun c1 => ?_) (fun c1 => ?_)
  · have h := h.1 c1
    refine z_iconst (v := 0) dX0_findsWay_117 (by decide) ?_
    exact z_zret (b := false) rfl rfl dX0_findsWay_118 h
  · have h := h.2 c1
    refine z_iconst (v := 1) dX0_findsWay_113 (by decide) ?_
    refine z_goto 118 dX0_findsWay_114 (by decide) ?_
    exact z_zret (b := true) rfl rfl dX0_findsWay_118 h
theorem dX0_find_0 : decode cX0_find 0 = .ok (.aload_n 0, 1) := by decide +kernel
theorem dX0_find_1 : decode cX0_find 1 = .ok (.getfield 18, 3) := by decide +kernel
theorem dX0_find_4 : decode cX0_find 4 = .ok (.iload_n 1, 1) := by decide +kernel
theorem dX0_find_5 : decode cX0_find 5 = .ok (.iaload, 1) := by decide +kernel
theorem dX0_find_6 : decode cX0_find 6 = .ok (.iconst (-1), 1) := by decide +kernel
theorem dX0_find_7 : decode cX0_find 7 = .ok (.if_icmp .ne 40, 3) := by decide +kernel
theorem dX0_find_10 : decode cX0_find 10 = .ok (.aload_n 0, 1) := by decide +kernel
theorem dX0_find_11 : decode cX0_find 11 = .ok (.getfield 24, 3) := by decide +kernel
theorem dX0_find_14 : decode cX0_find 14 = .ok (.sipush 128, 3) := by decide +kernel
theorem dX0_find_17 : decode cX0_find 17 = .ok (.if_icmp .ge 30, 3) := by decide +kernel
theorem dX0_find_20 : decode cX0_find 20 = .ok (.aload_n 0, 1) := by decide +kernel
theorem dX0_find_21 : decode cX0_find 21 = .ok (.getfield 18, 3) := by decide +kernel
theorem dX0_find_24 : decode cX0_find 24 = .ok (.iload_n 1, 1) := by decide +kernel
theorem dX0_find_25 : decode cX0_find 25 = .ok (.iload_n 2, 1) := by decide +kernel
theorem dX0_find_26 : decode cX0_find 26 = .ok (.iastore, 1) := by decide +kernel
theorem dX0_find_27 : decode cX0_find 27 = .ok (.aload_n 0, 1) := by decide +kernel
theorem dX0_find_28 : decode cX0_find 28 = .ok (.getfield 21, 3) := by decide +kernel
theorem dX0_find_31 : decode cX0_find 31 = .ok (.aload_n 0, 1) := by decide +kernel
theorem dX0_find_32 : decode cX0_find 32 = .ok (.getfield 24, 3) := by decide +kernel
theorem dX0_find_35 : decode cX0_find 35 = .ok (.iload_n 1, 1) := by decide +kernel
theorem dX0_find_36 : decode cX0_find 36 = .ok (.iastore, 1) := by decide +kernel
theorem dX0_find_37 : decode cX0_find 37 = .ok (.aload_n 0, 1) := by decide +kernel
theorem dX0_find_38 : decode cX0_find 38 = .ok (.dup, 1) := by decide +kernel
theorem dX0_find_39 : decode cX0_find 39 = .ok (.getfield 24, 3) := by decide +kernel
theorem dX0_find_42 : decode cX0_find 42 = .ok (.iconst 1, 1) := by decide +kernel
theorem dX0_find_43 : decode cX0_find 43 = .ok (.iadd, 1) := by decide +kernel
theorem dX0_find_44 : decode cX0_find 44 = .ok (.putfield 24, 3) := by decide +kernel
theorem dX0_find_47 : decode cX0_find 47 = .ok (.return_, 1) := by decide +kernel
set_option maxRecDepth 20000 in
theorem vX0_find {g : zG} {d : Nat} {Q : zM → Prop} {M : zM} {l1 : Int32} {l2 : Int32} (h : ∃ k1 : Nat, l1 = iv k1 ∧ k1 < 128 ∧ (¬ (M 126 k1) = (-1) → Q M) ∧ ((M 126 k1) = (-1) → (128 ≤ (M 123 4) → Q M) ∧ (¬ 128 ≤ (M 123 4) → ∃ k2 : Nat, ((zup M 126 k1 l2) 123 4) = iv k2 ∧ k2 < 128 ∧ Q (zup (zup (zup M 126 k1 l2) 127 k2 l1) 123 4 (((zup (zup M 126 k1 l2) 127 k2 l1) 123 4) + 1))))) : zCv shC g d mX0_find [.ref 123, .int l1, .int l2] M Q := by
  refine zW.enter (by decide +kernel) (Nat.le_of_ble_eq_true rfl) ?_
  change zW shC g d mX0_find (zv Q) 0 [(0, .ref 123), (1, .int l1), (2, .int l2)] [] M
  refine z_aload_n dX0_find_0 0 rfl ?_
  refine z_getr shC_123 rfl flX0_18 dX0_find_1 ?_
  refine z_iload_n dX0_find_4 1 rfl ?_
  obtain ⟨k1, ek1, uk1, h⟩ := h
  refine z_iald2 (k0 := k1) shC_126 (by decide) ek1 uk1 dX0_find_5 ?_
  refine z_iconst (v := (-1)) dX0_find_6 (by decide) ?_
  refine z_icmp_ne 47 dX0_find_7 (by decide) (fun c1 => ?_) (fun c1 => ?_)
  · have h := h.1 c1
    exact z_vret (st := []) rfl dX0_find_47 ⟨rfl, h⟩
  · have h := h.2 c1
    refine z_aload_n dX0_find_10 0 rfl ?_
    refine z_geti shC_123 rfl flX0_24 dX0_find_11 ?_
    refine z_sipush (v := 128) dX0_find_14 (by decide) ?_
    refine z_icmp_ge 47 dX0_find_17 (by decide) (fun c2 => ?_) (fun c2 => ?_)
    · have h := h.1 c2
      exact z_vret (st := []) rfl dX0_find_47 ⟨rfl, h⟩
    · have h := h.2 c2
      refine z_aload_n dX0_find_20 0 rfl ?_
      refine z_getr shC_123 rfl flX0_18 dX0_find_21 ?_
      refine z_iload_n dX0_find_24 1 rfl ?_
      refine z_iload_n dX0_find_25 2 rfl ?_
      refine z_iast2 (k0 := k1) shC_126 (by decide) ek1 uk1 dX0_find_26 ?_
      refine z_aload_n dX0_find_27 0 rfl ?_
      refine z_getr shC_123 rfl flX0_21 dX0_find_28 ?_
      refine z_aload_n dX0_find_31 0 rfl ?_
      refine z_geti shC_123 rfl flX0_24 dX0_find_32 ?_
      refine z_iload_n dX0_find_35 1 rfl ?_
      obtain ⟨k2, ek2, uk2, h⟩ := h
      refine z_iast2 (k0 := k2) shC_127 (by decide) ek2 uk2 dX0_find_36 ?_
      refine z_aload_n dX0_find_37 0 rfl ?_
      refine z_dupr dX0_find_38 ?_
      refine z_geti shC_123 rfl flX0_24 dX0_find_39 ?_
      refine z_iconst (v := 1) dX0_find_42 (by decide) ?_
      refine z_iadd dX0_find_43 ?_
      refine z_puti shC_123 rfl fpX0_24 rfl rfl dX0_find_44 ?_
      exact z_vret (st := []) rfl dX0_find_47 ⟨rfl, h⟩
theorem dX0_leave_0 : decode cX0_leave 0 = .ok (.aload_n 0, 1) := by decide +kernel
theorem dX0_leave_1 : decode cX0_leave 1 = .ok (.getfield 15, 3) := by decide +kernel
theorem dX0_leave_4 : decode cX0_leave 4 = .ok (.iload_n 2, 1) := by decide +kernel
theorem dX0_leave_5 : decode cX0_leave 5 = .ok (.iaload, 1) := by decide +kernel
theorem dX0_leave_6 : decode cX0_leave 6 = .ok (.iconst 1, 1) := by decide +kernel
theorem dX0_leave_7 : decode cX0_leave 7 = .ok (.if_icmp .ne 15, 3) := by decide +kernel
theorem dX0_leave_10 : decode cX0_leave 10 = .ok (.aload_n 0, 1) := by decide +kernel
theorem dX0_leave_11 : decode cX0_leave 11 = .ok (.iconst 2, 1) := by decide +kernel
theorem dX0_leave_12 : decode cX0_leave 12 = .ok (.iload_n 2, 1) := by decide +kernel
theorem dX0_leave_13 : decode cX0_leave 13 = .ok (.imul, 1) := by decide +kernel
theorem dX0_leave_14 : decode cX0_leave 14 = .ok (.iconst 2, 1) := by decide +kernel
theorem dX0_leave_15 : decode cX0_leave 15 = .ok (.iload_n 2, 1) := by decide +kernel
theorem dX0_leave_16 : decode cX0_leave 16 = .ok (.imul, 1) := by decide +kernel
theorem dX0_leave_17 : decode cX0_leave 17 = .ok (.iconst 1, 1) := by decide +kernel
theorem dX0_leave_18 : decode cX0_leave 18 = .ok (.iadd, 1) := by decide +kernel
theorem dX0_leave_19 : decode cX0_leave 19 = .ok (.invokevirtual 42, 3) := by decide +kernel
theorem dX0_leave_22 : decode cX0_leave 22 = .ok (.iconst 0, 1) := by decide +kernel
theorem dX0_leave_23 : decode cX0_leave 23 = .ok (.istore_n 3, 1) := by decide +kernel
theorem dX0_leave_24 : decode cX0_leave 24 = .ok (.iload_n 3, 1) := by decide +kernel
theorem dX0_leave_25 : decode cX0_leave 25 = .ok (.iconst 4, 1) := by decide +kernel
theorem dX0_leave_26 : decode cX0_leave 26 = .ok (.if_icmp .ge 49, 3) := by decide +kernel
theorem dX0_leave_29 : decode cX0_leave 29 = .ok (.aload_n 1, 1) := by decide +kernel
theorem dX0_leave_30 : decode cX0_leave 30 = .ok (.iload_n 2, 1) := by decide +kernel
theorem dX0_leave_31 : decode cX0_leave 31 = .ok (.iload_n 3, 1) := by decide +kernel
theorem dX0_leave_32 : decode cX0_leave 32 = .ok (.invokevirtual 52, 3) := by decide +kernel
theorem dX0_leave_35 : decode cX0_leave 35 = .ok (.istore 4, 2) := by decide +kernel
theorem dX0_leave_37 : decode cX0_leave 37 = .ok (.iload 4, 2) := by decide +kernel
theorem dX0_leave_39 : decode cX0_leave 39 = .ok (.iconst (-1), 1) := by decide +kernel
theorem dX0_leave_40 : decode cX0_leave 40 = .ok (.if_icmp .eq 29, 3) := by decide +kernel
theorem dX0_leave_43 : decode cX0_leave 43 = .ok (.aload_n 0, 1) := by decide +kernel
theorem dX0_leave_44 : decode cX0_leave 44 = .ok (.getfield 9, 3) := by decide +kernel
theorem dX0_leave_47 : decode cX0_leave 47 = .ok (.iload_n 2, 1) := by decide +kernel
theorem dX0_leave_48 : decode cX0_leave 48 = .ok (.iconst 4, 1) := by decide +kernel
theorem dX0_leave_49 : decode cX0_leave 49 = .ok (.imul, 1) := by decide +kernel
theorem dX0_leave_50 : decode cX0_leave 50 = .ok (.iload_n 3, 1) := by decide +kernel
theorem dX0_leave_51 : decode cX0_leave 51 = .ok (.iadd, 1) := by decide +kernel
theorem dX0_leave_52 : decode cX0_leave 52 = .ok (.iaload, 1) := by decide +kernel
theorem dX0_leave_53 : decode cX0_leave 53 = .ok (.ifCond .ne 16, 3) := by decide +kernel
theorem dX0_leave_56 : decode cX0_leave 56 = .ok (.aload_n 0, 1) := by decide +kernel
theorem dX0_leave_57 : decode cX0_leave 57 = .ok (.iconst 2, 1) := by decide +kernel
theorem dX0_leave_58 : decode cX0_leave 58 = .ok (.iload 4, 2) := by decide +kernel
theorem dX0_leave_60 : decode cX0_leave 60 = .ok (.imul, 1) := by decide +kernel
theorem dX0_leave_61 : decode cX0_leave 61 = .ok (.iconst 2, 1) := by decide +kernel
theorem dX0_leave_62 : decode cX0_leave 62 = .ok (.iload_n 2, 1) := by decide +kernel
theorem dX0_leave_63 : decode cX0_leave 63 = .ok (.imul, 1) := by decide +kernel
theorem dX0_leave_64 : decode cX0_leave 64 = .ok (.iconst 1, 1) := by decide +kernel
theorem dX0_leave_65 : decode cX0_leave 65 = .ok (.iadd, 1) := by decide +kernel
theorem dX0_leave_66 : decode cX0_leave 66 = .ok (.invokevirtual 42, 3) := by decide +kernel
theorem dX0_leave_69 : decode cX0_leave 69 = .ok (.iinc 3 1, 3) := by decide +kernel
theorem dX0_leave_72 : decode cX0_leave 72 = .ok (.goto (-48), 3) := by decide +kernel
theorem dX0_leave_75 : decode cX0_leave 75 = .ok (.return_, 1) := by decide +kernel
set_option maxRecDepth 20000 in
theorem vX0_leave {g : zG} {d : Nat} {Q : zM → Prop} {M : zM} {l2 : Int32} (h : ∃ k1 : Nat, l2 = iv k1 ∧ k1 < 64 ∧ (¬ (M 125 k1) = 1 → zW shC g (d + 1) mX0_leave (zv Q) 24 [(0, .ref 123), (1, .ref 1), (2, .int l2), (3, .int 0)] [] M) ∧ ((M 125 k1) = 1 → zCv shC g d mX0_find [.ref 123, .int (2 * l2), .int ((2 * l2) + 1)] M (fun  M1 => zW shC g (d + 1) mX0_leave (zv Q) 24 [(0, .ref 123), (1, .ref 1), (2, .int l2), (3, .int 0)] [] M1))) : zCv shC g (d + 1) mX0_leave [.ref 123, .ref 1, .int l2] M Q := by
  refine zW.enter (by decide +kernel) (Nat.le_of_ble_eq_true rfl) ?_
  change zW shC g (d + 1) mX0_leave (zv Q) 0 [(0, .ref 123), (1, .ref 1), (2, .int l2)] [] M
  refine z_aload_n dX0_leave_0 0 rfl ?_
  refine z_getr shC_123 rfl flX0_15 dX0_leave_1 ?_
  refine z_iload_n dX0_leave_4 2 rfl ?_
  obtain ⟨k1, ek1, uk1, h⟩ := h
  refine z_iald2 (k0 := k1) shC_125 (by decide) ek1 uk1 dX0_leave_5 ?_
  refine z_iconst (v := 1) dX0_leave_6 (by decide) ?_
  refine z_icmp_ne 22 dX0_leave_7 (by decide) (fun c1 => ?_) (fun c1 => ?_)
  · have h := h.1 c1
    refine z_iconst (v := 0) dX0_leave_22 (by decide) ?_
    refine z_istore_n [(3, .int 0), (0, .ref 123), (1, .ref 1), (2, .int l2)] dX0_leave_23 (by decide) rfl ?_
    exact zW.sub [1, 2, 3, 0] rfl h
  · have h := h.2 c1
    refine z_aload_n dX0_leave_10 0 rfl ?_
    refine z_iconst (v := 2) dX0_leave_11 (by decide) ?_
    refine z_iload_n dX0_leave_12 2 rfl ?_
    refine z_imul dX0_leave_13 ?_
    refine z_iconst (v := 2) dX0_leave_14 (by decide) ?_
    refine z_iload_n dX0_leave_15 2 rfl ?_
    refine z_imul dX0_leave_16 ?_
    refine z_iconst (v := 1) dX0_leave_17 (by decide) ?_
    refine z_iadd dX0_leave_18 ?_
    refine z_callV (m2 := mX0_find) (st := []) [.int (2 * l2), .int ((2 * l2) + 1)] okX0_find (Or.inl lkX0_42) shC_123 rfl rfl rfl (Nat.le_of_ble_eq_true rfl) dX0_leave_19 (zgo_v h fun  M1 h => ?_)
    refine z_iconst (v := 0) dX0_leave_22 (by decide) ?_
    refine z_istore_n [(3, .int 0), (0, .ref 123), (1, .ref 1), (2, .int l2)] dX0_leave_23 (by decide) rfl ?_
    exact zW.sub [1, 2, 3, 0] rfl h
set_option maxRecDepth 20000 in
theorem vX0_leave_24 {g : zG} {d : Nat} {Q : zM → Prop} {M : zM} {l2 : Int32} {l3 : Int32} (h : (4 ≤ l3 → Q M) ∧ (¬ 4 ≤ l3 → zCi shC g d mX7_beside [.ref 1, .int l2, .int l3] M (fun x1 M1 => (x1 = (-1) → zW shC g (d + 1) mX0_leave (zv Q) 24 [(0, .ref 123), (1, .ref 1), (2, .int l2), (3, .int (l3 + 1))] [] M1) ∧ (¬ x1 = (-1) → ∃ k1 : Nat, ((l2 * 4) + l3) = iv k1 ∧ k1 < 256 ∧ (¬ (M1 124 k1) = 0 → zW shC g (d + 1) mX0_leave (zv Q) 24 [(0, .ref 123), (1, .ref 1), (2, .int l2), (3, .int (l3 + 1))] [] M1) ∧ ((M1 124 k1) = 0 → zCv shC g d mX0_find [.ref 123, .int (2 * x1), .int ((2 * l2) + 1)] M1 (fun  M2 => zW shC g (d + 1) mX0_leave (zv Q) 24 [(0, .ref 123), (1, .ref 1), (2, .int l2), (3, .int (l3 + 1))] [] M2)))))) : zW shC g (d + 1) mX0_leave (zv Q) 24 [(0, .ref 123), (1, .ref 1), (2, .int l2), (3, .int l3)] [] M := by
  refine z_iload_n dX0_leave_24 3 rfl ?_
  refine z_iconst (v := 4) dX0_leave_25 (by decide) ?_
  refine z_icmp_ge 75 dX0_leave_26 (by decide) (fun c1 => ?_) (fun c1 => ?_)
  · have h := h.1 c1
    exact z_vret (st := []) rfl dX0_leave_75 ⟨rfl, h⟩
  · have h := h.2 c1
    refine z_aload_n dX0_leave_29 1 rfl ?_
    refine z_iload_n dX0_leave_30 2 rfl ?_
    refine z_iload_n dX0_leave_31 3 rfl ?_
    refine z_callV (m2 := mX7_beside) (st := []) [.int l2, .int l3] okX7_beside (Or.inl lkX0_52) shC_1 rfl rfl rfl (Nat.le_of_ble_eq_true rfl) dX0_leave_32 (zgo_i h fun x1 M1 h => ?_)
    refine z_istore [(4, .int x1), (0, .ref 123), (1, .ref 1), (2, .int l2), (3, .int l3)] dX0_leave_35 (by decide) rfl ?_
    refine z_iload dX0_leave_37 0 rfl ?_
    refine z_iconst (v := (-1)) dX0_leave_39 (by decide) ?_
    refine z_icmp_eq 69 dX0_leave_40 (by decide) (fun c2 => ?_) (fun c2 => ?_)
    · have h := h.1 c2
      refine z_iinc (x := l3) (v := (l3 + 1)) [(3, .int (l3 + 1)), (4, .int x1), (0, .ref 123), (1, .ref 1), (2, .int l2)] dX0_leave_69 4 rfl rfl (by decide) rfl ?_
      refine z_goto 24 dX0_leave_72 (by decide) ?_
      exact zW.sub [2, 3, 4, 0] rfl h
    · have h := h.2 c2
      refine z_aload_n dX0_leave_43 1 rfl ?_
      refine z_getr shC_123 rfl flX0_9 dX0_leave_44 ?_
      refine z_iload_n dX0_leave_47 3 rfl ?_
      refine z_iconst (v := 4) dX0_leave_48 (by decide) ?_
      refine z_imul dX0_leave_49 ?_
      refine z_iload_n dX0_leave_50 4 rfl ?_
      refine z_iadd dX0_leave_51 ?_
      obtain ⟨k1, ek1, uk1, h⟩ := h
      refine z_iald2 (k0 := k1) shC_124 (by decide) ek1 uk1 dX0_leave_52 ?_
      refine z_if_ne 69 dX0_leave_53 (by decide) (fun c3 => ?_) (fun c3 => ?_)
      · have h := h.1 c3
        refine z_iinc (x := l3) (v := (l3 + 1)) [(3, .int (l3 + 1)), (4, .int x1), (0, .ref 123), (1, .ref 1), (2, .int l2)] dX0_leave_69 4 rfl rfl (by decide) rfl ?_
        refine z_goto 24 dX0_leave_72 (by decide) ?_
        exact zW.sub [2, 3, 4, 0] rfl h
      · have h := h.2 c3
        refine z_aload_n dX0_leave_56 1 rfl ?_
        refine z_iconst (v := 2) dX0_leave_57 (by decide) ?_
        refine z_iload dX0_leave_58 0 rfl ?_
        refine z_imul dX0_leave_60 ?_
        refine z_iconst (v := 2) dX0_leave_61 (by decide) ?_
        refine z_iload_n dX0_leave_62 3 rfl ?_
        refine z_imul dX0_leave_63 ?_
        refine z_iconst (v := 1) dX0_leave_64 (by decide) ?_
        refine z_iadd dX0_leave_65 ?_
        refine z_callV (m2 := mX0_find) (st := []) [.int (2 * x1), .int ((2 * l2) + 1)] okX0_find (Or.inl lkX0_42) shC_123 rfl rfl rfl (Nat.le_of_ble_eq_true rfl) dX0_leave_66 (zgo_v h fun  M2 h => ?_)
        refine z_iinc (x := l3) (v := (l3 + 1)) [(3, .int (l3 + 1)), (4, .int x1), (0, .ref 123), (1, .ref 1), (2, .int l2)] dX0_leave_69 4 rfl rfl (by decide) rfl ?_
        refine z_goto 24 dX0_leave_72 (by decide) ?_
        exact zW.sub [2, 3, 4, 0] rfl h
theorem dX0_enter_0 : decode cX0_enter 0 = .ok (.aload_n 0, 1) := by decide +kernel
theorem dX0_enter_1 : decode cX0_enter 1 = .ok (.getfield 15, 3) := by decide +kernel
theorem dX0_enter_4 : decode cX0_enter 4 = .ok (.iload_n 2, 1) := by decide +kernel
theorem dX0_enter_5 : decode cX0_enter 5 = .ok (.iaload, 1) := by decide +kernel
theorem dX0_enter_6 : decode cX0_enter 6 = .ok (.ifCond .ne 15, 3) := by decide +kernel
theorem dX0_enter_9 : decode cX0_enter 9 = .ok (.aload_n 0, 1) := by decide +kernel
theorem dX0_enter_10 : decode cX0_enter 10 = .ok (.iconst 2, 1) := by decide +kernel
theorem dX0_enter_11 : decode cX0_enter 11 = .ok (.iload_n 2, 1) := by decide +kernel
theorem dX0_enter_12 : decode cX0_enter 12 = .ok (.imul, 1) := by decide +kernel
theorem dX0_enter_13 : decode cX0_enter 13 = .ok (.iconst 1, 1) := by decide +kernel
theorem dX0_enter_14 : decode cX0_enter 14 = .ok (.iadd, 1) := by decide +kernel
theorem dX0_enter_15 : decode cX0_enter 15 = .ok (.iconst 2, 1) := by decide +kernel
theorem dX0_enter_16 : decode cX0_enter 16 = .ok (.iload_n 2, 1) := by decide +kernel
theorem dX0_enter_17 : decode cX0_enter 17 = .ok (.imul, 1) := by decide +kernel
theorem dX0_enter_18 : decode cX0_enter 18 = .ok (.invokevirtual 42, 3) := by decide +kernel
theorem dX0_enter_21 : decode cX0_enter 21 = .ok (.iconst 0, 1) := by decide +kernel
theorem dX0_enter_22 : decode cX0_enter 22 = .ok (.istore_n 3, 1) := by decide +kernel
theorem dX0_enter_23 : decode cX0_enter 23 = .ok (.iload_n 3, 1) := by decide +kernel
theorem dX0_enter_24 : decode cX0_enter 24 = .ok (.iconst 4, 1) := by decide +kernel
theorem dX0_enter_25 : decode cX0_enter 25 = .ok (.if_icmp .ge 54, 3) := by decide +kernel
theorem dX0_enter_28 : decode cX0_enter 28 = .ok (.aload_n 1, 1) := by decide +kernel
theorem dX0_enter_29 : decode cX0_enter 29 = .ok (.iload_n 2, 1) := by decide +kernel
theorem dX0_enter_30 : decode cX0_enter 30 = .ok (.iload_n 3, 1) := by decide +kernel
theorem dX0_enter_31 : decode cX0_enter 31 = .ok (.invokevirtual 52, 3) := by decide +kernel
theorem dX0_enter_34 : decode cX0_enter 34 = .ok (.istore 4, 2) := by decide +kernel
theorem dX0_enter_36 : decode cX0_enter 36 = .ok (.iload 4, 2) := by decide +kernel
theorem dX0_enter_38 : decode cX0_enter 38 = .ok (.iconst (-1), 1) := by decide +kernel
theorem dX0_enter_39 : decode cX0_enter 39 = .ok (.if_icmp .eq 34, 3) := by decide +kernel
theorem dX0_enter_42 : decode cX0_enter 42 = .ok (.aload_n 0, 1) := by decide +kernel
theorem dX0_enter_43 : decode cX0_enter 43 = .ok (.getfield 9, 3) := by decide +kernel
theorem dX0_enter_46 : decode cX0_enter 46 = .ok (.iload 4, 2) := by decide +kernel
theorem dX0_enter_48 : decode cX0_enter 48 = .ok (.iconst 4, 1) := by decide +kernel
theorem dX0_enter_49 : decode cX0_enter 49 = .ok (.imul, 1) := by decide +kernel
theorem dX0_enter_50 : decode cX0_enter 50 = .ok (.iload_n 3, 1) := by decide +kernel
theorem dX0_enter_51 : decode cX0_enter 51 = .ok (.invokestatic 58, 3) := by decide +kernel
theorem dX0_enter_54 : decode cX0_enter 54 = .ok (.iadd, 1) := by decide +kernel
theorem dX0_enter_55 : decode cX0_enter 55 = .ok (.iaload, 1) := by decide +kernel
theorem dX0_enter_56 : decode cX0_enter 56 = .ok (.iconst 1, 1) := by decide +kernel
theorem dX0_enter_57 : decode cX0_enter 57 = .ok (.if_icmp .ne 16, 3) := by decide +kernel
theorem dX0_enter_60 : decode cX0_enter 60 = .ok (.aload_n 0, 1) := by decide +kernel
theorem dX0_enter_61 : decode cX0_enter 61 = .ok (.iconst 2, 1) := by decide +kernel
theorem dX0_enter_62 : decode cX0_enter 62 = .ok (.iload 4, 2) := by decide +kernel
theorem dX0_enter_64 : decode cX0_enter 64 = .ok (.imul, 1) := by decide +kernel
theorem dX0_enter_65 : decode cX0_enter 65 = .ok (.iconst 1, 1) := by decide +kernel
theorem dX0_enter_66 : decode cX0_enter 66 = .ok (.iadd, 1) := by decide +kernel
theorem dX0_enter_67 : decode cX0_enter 67 = .ok (.iconst 2, 1) := by decide +kernel
theorem dX0_enter_68 : decode cX0_enter 68 = .ok (.iload_n 2, 1) := by decide +kernel
theorem dX0_enter_69 : decode cX0_enter 69 = .ok (.imul, 1) := by decide +kernel
theorem dX0_enter_70 : decode cX0_enter 70 = .ok (.invokevirtual 42, 3) := by decide +kernel
theorem dX0_enter_73 : decode cX0_enter 73 = .ok (.iinc 3 1, 3) := by decide +kernel
theorem dX0_enter_76 : decode cX0_enter 76 = .ok (.goto (-53), 3) := by decide +kernel
theorem dX0_enter_79 : decode cX0_enter 79 = .ok (.return_, 1) := by decide +kernel
set_option maxRecDepth 20000 in
theorem vX0_enter {g : zG} {d : Nat} {Q : zM → Prop} {M : zM} {l2 : Int32} (h : ∃ k1 : Nat, l2 = iv k1 ∧ k1 < 64 ∧ (¬ (M 125 k1) = 0 → zW shC g (d + 1) mX0_enter (zv Q) 23 [(0, .ref 123), (1, .ref 1), (2, .int l2), (3, .int 0)] [] M) ∧ ((M 125 k1) = 0 → zCv shC g d mX0_find [.ref 123, .int ((2 * l2) + 1), .int (2 * l2)] M (fun  M1 => zW shC g (d + 1) mX0_enter (zv Q) 23 [(0, .ref 123), (1, .ref 1), (2, .int l2), (3, .int 0)] [] M1))) : zCv shC g (d + 1) mX0_enter [.ref 123, .ref 1, .int l2] M Q := by
  refine zW.enter (by decide +kernel) (Nat.le_of_ble_eq_true rfl) ?_
  change zW shC g (d + 1) mX0_enter (zv Q) 0 [(0, .ref 123), (1, .ref 1), (2, .int l2)] [] M
  refine z_aload_n dX0_enter_0 0 rfl ?_
  refine z_getr shC_123 rfl flX0_15 dX0_enter_1 ?_
  refine z_iload_n dX0_enter_4 2 rfl ?_
  obtain ⟨k1, ek1, uk1, h⟩ := h
  refine z_iald2 (k0 := k1) shC_125 (by decide) ek1 uk1 dX0_enter_5 ?_
  refine z_if_ne 21 dX0_enter_6 (by decide) (fun c1 => ?_) (fun c1 => ?_)
  · have h := h.1 c1
    refine z_iconst (v := 0) dX0_enter_21 (by decide) ?_
    refine z_istore_n [(3, .int 0), (0, .ref 123), (1, .ref 1), (2, .int l2)] dX0_enter_22 (by decide) rfl ?_
    exact zW.sub [1, 2, 3, 0] rfl h
  · have h := h.2 c1
    refine z_aload_n dX0_enter_9 0 rfl ?_
    refine z_iconst (v := 2) dX0_enter_10 (by decide) ?_
    refine z_iload_n dX0_enter_11 2 rfl ?_
    refine z_imul dX0_enter_12 ?_
    refine z_iconst (v := 1) dX0_enter_13 (by decide) ?_
    refine z_iadd dX0_enter_14 ?_
    refine z_iconst (v := 2) dX0_enter_15 (by decide) ?_
    refine z_iload_n dX0_enter_16 2 rfl ?_
    refine z_imul dX0_enter_17 ?_
    refine z_callV (m2 := mX0_find) (st := []) [.int ((2 * l2) + 1), .int (2 * l2)] okX0_find (Or.inl lkX0_42) shC_123 rfl rfl rfl (Nat.le_of_ble_eq_true rfl) dX0_enter_18 (zgo_v h fun  M1 h => ?_)
    refine z_iconst (v := 0) dX0_enter_21 (by decide) ?_
    refine z_istore_n [(3, .int 0), (0, .ref 123), (1, .ref 1), (2, .int l2)] dX0_enter_22 (by decide) rfl ?_
    exact zW.sub [1, 2, 3, 0] rfl h
set_option maxRecDepth 20000 in
theorem vX0_enter_23 {g : zG} {d : Nat} {Q : zM → Prop} {M : zM} {l2 : Int32} {l3 : Int32} (h : (4 ≤ l3 → Q M) ∧ (¬ 4 ≤ l3 → zCi shC g d mX7_beside [.ref 1, .int l2, .int l3] M (fun x1 M1 => (x1 = (-1) → zW shC g (d + 1) mX0_enter (zv Q) 23 [(0, .ref 123), (1, .ref 1), (2, .int l2), (3, .int (l3 + 1))] [] M1) ∧ (¬ x1 = (-1) → zCi shC g d mX0_back [.int l3] M1 (fun x2 M2 => ∃ k1 : Nat, ((x1 * 4) + x2) = iv k1 ∧ k1 < 256 ∧ (¬ (M2 124 k1) = 1 → zW shC g (d + 1) mX0_enter (zv Q) 23 [(0, .ref 123), (1, .ref 1), (2, .int l2), (3, .int (l3 + 1))] [] M2) ∧ ((M2 124 k1) = 1 → zCv shC g d mX0_find [.ref 123, .int ((2 * x1) + 1), .int (2 * l2)] M2 (fun  M3 => zW shC g (d + 1) mX0_enter (zv Q) 23 [(0, .ref 123), (1, .ref 1), (2, .int l2), (3, .int (l3 + 1))] [] M3))))))) : zW shC g (d + 1) mX0_enter (zv Q) 23 [(0, .ref 123), (1, .ref 1), (2, .int l2), (3, .int l3)] [] M := by
  refine z_iload_n dX0_enter_23 3 rfl ?_
  refine z_iconst (v := 4) dX0_enter_24 (by decide) ?_
  refine z_icmp_ge 79 dX0_enter_25 (by decide) (fun c1 => ?_) (fun c1 => ?_)
  · have h := h.1 c1
    exact z_vret (st := []) rfl dX0_enter_79 ⟨rfl, h⟩
  · have h := h.2 c1
    refine z_aload_n dX0_enter_28 1 rfl ?_
    refine z_iload_n dX0_enter_29 2 rfl ?_
    refine z_iload_n dX0_enter_30 3 rfl ?_
    refine z_callV (m2 := mX7_beside) (st := []) [.int l2, .int l3] okX7_beside (Or.inl lkX0_52) shC_1 rfl rfl rfl (Nat.le_of_ble_eq_true rfl) dX0_enter_31 (zgo_i h fun x1 M1 h => ?_)
    refine z_istore [(4, .int x1), (0, .ref 123), (1, .ref 1), (2, .int l2), (3, .int l3)] dX0_enter_34 (by decide) rfl ?_
    refine z_iload dX0_enter_36 0 rfl ?_
    refine z_iconst (v := (-1)) dX0_enter_38 (by decide) ?_
    refine z_icmp_eq 73 dX0_enter_39 (by decide) (fun c2 => ?_) (fun c2 => ?_)
    · have h := h.1 c2
      refine z_iinc (x := l3) (v := (l3 + 1)) [(3, .int (l3 + 1)), (4, .int x1), (0, .ref 123), (1, .ref 1), (2, .int l2)] dX0_enter_73 4 rfl rfl (by decide) rfl ?_
      refine z_goto 23 dX0_enter_76 (by decide) ?_
      exact zW.sub [2, 3, 4, 0] rfl h
    · have h := h.2 c2
      refine z_aload_n dX0_enter_42 1 rfl ?_
      refine z_getr shC_123 rfl flX0_9 dX0_enter_43 ?_
      refine z_iload dX0_enter_46 0 rfl ?_
      refine z_iconst (v := 4) dX0_enter_48 (by decide) ?_
      refine z_imul dX0_enter_49 ?_
      refine z_iload_n dX0_enter_50 4 rfl ?_
      refine z_callS (m2 := mX0_back) (st := [.int (x1 * 4), .ref 124]) [.int l3] okX0_back (Or.inl lkX0_58) rfl rfl (Nat.le_of_ble_eq_true rfl) dX0_enter_51 (zgo_i h fun x2 M2 h => ?_)
      refine z_iadd dX0_enter_54 ?_
      obtain ⟨k1, ek1, uk1, h⟩ := h
      refine z_iald2 (k0 := k1) shC_124 (by decide) ek1 uk1 dX0_enter_55 ?_
      refine z_iconst (v := 1) dX0_enter_56 (by decide) ?_
      refine z_icmp_ne 73 dX0_enter_57 (by decide) (fun c3 => ?_) (fun c3 => ?_)
      · have h := h.1 c3
        refine z_iinc (x := l3) (v := (l3 + 1)) [(3, .int (l3 + 1)), (4, .int x1), (0, .ref 123), (1, .ref 1), (2, .int l2)] dX0_enter_73 4 rfl rfl (by decide) rfl ?_
        refine z_goto 23 dX0_enter_76 (by decide) ?_
        exact zW.sub [2, 3, 4, 0] rfl h
      · have h := h.2 c3
        refine z_aload_n dX0_enter_60 1 rfl ?_
        refine z_iconst (v := 2) dX0_enter_61 (by decide) ?_
        refine z_iload dX0_enter_62 0 rfl ?_
        refine z_imul dX0_enter_64 ?_
        refine z_iconst (v := 1) dX0_enter_65 (by decide) ?_
        refine z_iadd dX0_enter_66 ?_
        refine z_iconst (v := 2) dX0_enter_67 (by decide) ?_
        refine z_iload_n dX0_enter_68 3 rfl ?_
        refine z_imul dX0_enter_69 ?_
        refine z_callV (m2 := mX0_find) (st := []) [.int ((2 * x1) + 1), .int (2 * l2)] okX0_find (Or.inl lkX0_42) shC_123 rfl rfl rfl (Nat.le_of_ble_eq_true rfl) dX0_enter_70 (zgo_v h fun  M3 h => ?_)
        refine z_iinc (x := l3) (v := (l3 + 1)) [(3, .int (l3 + 1)), (4, .int x1), (0, .ref 123), (1, .ref 1), (2, .int l2)] dX0_enter_73 4 rfl rfl (by decide) rfl ?_
        refine z_goto 23 dX0_enter_76 (by decide) ?_
        exact zW.sub [2, 3, 4, 0] rfl h
theorem dX0_back_0 : decode cX0_back 0 = .ok (.iload_n 0, 1) := by decide +kernel
theorem dX0_back_1 : decode cX0_back 1 = .ok (.iconst 2, 1) := by decide +kernel
theorem dX0_back_2 : decode cX0_back 2 = .ok (.iadd, 1) := by decide +kernel
theorem dX0_back_3 : decode cX0_back 3 = .ok (.iconst 4, 1) := by decide +kernel
theorem dX0_back_4 : decode cX0_back 4 = .ok (.irem, 1) := by decide +kernel
theorem dX0_back_5 : decode cX0_back 5 = .ok (.ireturn, 1) := by decide +kernel
set_option maxRecDepth 20000 in
theorem vX0_back {g : zG} {d : Nat} {Q : Int32 → zM → Prop} {M : zM} {l0 : Int32} (h : Q ((l0 + 2) - (l0 + 2) / 4 * 4) M) : zCi shC g d mX0_back [.int l0] M Q := by
  refine zW.enter (by decide +kernel) (Nat.le_of_ble_eq_true rfl) ?_
  change zW shC g d mX0_back (zi Q) 0 [(0, .int l0)] [] M
  refine z_iload_n dX0_back_0 0 rfl ?_
  refine z_iconst (v := 2) dX0_back_1 (by decide) ?_
  refine z_iadd dX0_back_2 ?_
  refine z_iconst (v := 4) dX0_back_3 (by decide) ?_
  refine z_irem dX0_back_4 (by decide) ?_
  exact z_iret (st := []) rfl rfl dX0_back_5 ⟨_, rfl, h⟩
theorem dX0_addWay_0 : decode cX0_addWay 0 = .ok (.iconst 2, 1) := by decide +kernel
theorem dX0_addWay_1 : decode cX0_addWay 1 = .ok (.iload_n 2, 1) := by decide +kernel
theorem dX0_addWay_2 : decode cX0_addWay 2 = .ok (.imul, 1) := by decide +kernel
theorem dX0_addWay_3 : decode cX0_addWay 3 = .ok (.istore_n 3, 1) := by decide +kernel
theorem dX0_addWay_4 : decode cX0_addWay 4 = .ok (.iconst 0, 1) := by decide +kernel
theorem dX0_addWay_5 : decode cX0_addWay 5 = .ok (.istore 4, 2) := by decide +kernel
theorem dX0_addWay_7 : decode cX0_addWay 7 = .ok (.iload 4, 2) := by decide +kernel
theorem dX0_addWay_9 : decode cX0_addWay 9 = .ok (.sipush 128, 3) := by decide +kernel
theorem dX0_addWay_12 : decode cX0_addWay 12 = .ok (.if_icmp .ge 36, 3) := by decide +kernel
theorem dX0_addWay_15 : decode cX0_addWay 15 = .ok (.iload_n 3, 1) := by decide +kernel
theorem dX0_addWay_16 : decode cX0_addWay 16 = .ok (.iconst 2, 1) := by decide +kernel
theorem dX0_addWay_17 : decode cX0_addWay 17 = .ok (.iload_n 1, 1) := by decide +kernel
theorem dX0_addWay_18 : decode cX0_addWay 18 = .ok (.imul, 1) := by decide +kernel
theorem dX0_addWay_19 : decode cX0_addWay 19 = .ok (.iconst 1, 1) := by decide +kernel
theorem dX0_addWay_20 : decode cX0_addWay 20 = .ok (.iadd, 1) := by decide +kernel
theorem dX0_addWay_21 : decode cX0_addWay 21 = .ok (.if_icmp .eq 27, 3) := by decide +kernel
theorem dX0_addWay_24 : decode cX0_addWay 24 = .ok (.aload_n 0, 1) := by decide +kernel
theorem dX0_addWay_25 : decode cX0_addWay 25 = .ok (.getfield 18, 3) := by decide +kernel
theorem dX0_addWay_28 : decode cX0_addWay 28 = .ok (.iload_n 3, 1) := by decide +kernel
theorem dX0_addWay_29 : decode cX0_addWay 29 = .ok (.iaload, 1) := by decide +kernel
theorem dX0_addWay_30 : decode cX0_addWay 30 = .ok (.istore 5, 2) := by decide +kernel
theorem dX0_addWay_32 : decode cX0_addWay 32 = .ok (.aload_n 0, 1) := by decide +kernel
theorem dX0_addWay_33 : decode cX0_addWay 33 = .ok (.iload 5, 2) := by decide +kernel
theorem dX0_addWay_35 : decode cX0_addWay 35 = .ok (.iload_n 3, 1) := by decide +kernel
theorem dX0_addWay_36 : decode cX0_addWay 36 = .ok (.invokevirtual 62, 3) := by decide +kernel
theorem dX0_addWay_39 : decode cX0_addWay 39 = .ok (.iload 5, 2) := by decide +kernel
theorem dX0_addWay_41 : decode cX0_addWay 41 = .ok (.istore_n 3, 1) := by decide +kernel
theorem dX0_addWay_42 : decode cX0_addWay 42 = .ok (.iinc 4 1, 3) := by decide +kernel
theorem dX0_addWay_45 : decode cX0_addWay 45 = .ok (.goto (-38), 3) := by decide +kernel
theorem dX0_addWay_48 : decode cX0_addWay 48 = .ok (.return_, 1) := by decide +kernel
set_option maxRecDepth 20000 in
theorem vX0_addWay {g : zG} {d : Nat} {Q : zM → Prop} {M : zM} {l1 : Int32} {l2 : Int32} (h : zW shC g (d + 1) mX0_addWay (zv Q) 7 [(0, .ref 123), (1, .int l1), (3, .int (2 * l2)), (4, .int 0)] [] M) : zCv shC g (d + 1) mX0_addWay [.ref 123, .int l1, .int l2] M Q := by
  refine zW.enter (by decide +kernel) (Nat.le_of_ble_eq_true rfl) ?_
  change zW shC g (d + 1) mX0_addWay (zv Q) 0 [(0, .ref 123), (1, .int l1), (2, .int l2)] [] M
  refine z_iconst (v := 2) dX0_addWay_0 (by decide) ?_
  refine z_iload_n dX0_addWay_1 2 rfl ?_
  refine z_imul dX0_addWay_2 ?_
  refine z_istore_n [(3, .int (2 * l2)), (0, .ref 123), (1, .int l1), (2, .int l2)] dX0_addWay_3 (by decide) rfl ?_
  refine z_iconst (v := 0) dX0_addWay_4 (by decide) ?_
  refine z_istore [(4, .int 0), (3, .int (2 * l2)), (0, .ref 123), (1, .int l1), (2, .int l2)] dX0_addWay_5 (by decide) rfl ?_
  exact zW.sub [2, 3, 1, 0] rfl h
set_option maxRecDepth 20000 in
theorem vX0_addWay_7 {g : zG} {d : Nat} {Q : zM → Prop} {M : zM} {l1 : Int32} {l3 : Int32} {l4 : Int32} (h : (128 ≤ l4 → Q M) ∧ (¬ 128 ≤ l4 → (l3 = ((2 * l1) + 1) → Q M) ∧ (¬ l3 = ((2 * l1) + 1) → ∃ k1 : Nat, l3 = iv k1 ∧ k1 < 128 ∧ zCv shC g d mX0_turn [.ref 123, .int (M 126 k1), .int l3] M (fun  M1 => zW shC g (d + 1) mX0_addWay (zv Q) 7 [(0, .ref 123), (1, .int l1), (3, .int (M 126 k1)), (4, .int (l4 + 1))] [] M1)))) : zW shC g (d + 1) mX0_addWay (zv Q) 7 [(0, .ref 123), (1, .int l1), (3, .int l3), (4, .int l4)] [] M := by
  refine z_iload dX0_addWay_7 3 rfl ?_
  refine z_sipush (v := 128) dX0_addWay_9 (by decide) ?_
  refine z_icmp_ge 48 dX0_addWay_12 (by decide) (fun c1 => ?_) (fun c1 => ?_)
  · have h := h.1 c1
    exact z_vret (st := []) rfl dX0_addWay_48 ⟨rfl, h⟩
  · have h := h.2 c1
    refine z_iload_n dX0_addWay_15 2 rfl ?_
    refine z_iconst (v := 2) dX0_addWay_16 (by decide) ?_
    refine z_iload_n dX0_addWay_17 1 rfl ?_
    refine z_imul dX0_addWay_18 ?_
    refine z_iconst (v := 1) dX0_addWay_19 (by decide) ?_
    refine z_iadd dX0_addWay_20 ?_
    refine z_icmp_eq 48 dX0_addWay_21 (by decide) (fun c2 => ?_) (fun c2 => ?_)
    · have h := h.1 c2
      exact z_vret (st := []) rfl dX0_addWay_48 ⟨rfl, h⟩
    · have h := h.2 c2
      refine z_aload_n dX0_addWay_24 0 rfl ?_
      refine z_getr shC_123 rfl flX0_18 dX0_addWay_25 ?_
      refine z_iload_n dX0_addWay_28 2 rfl ?_
      obtain ⟨k1, ek1, uk1, h⟩ := h
      refine z_iald2 (k0 := k1) shC_126 (by decide) ek1 uk1 dX0_addWay_29 ?_
      refine z_istore [(5, .int (M 126 k1)), (0, .ref 123), (1, .int l1), (3, .int l3), (4, .int l4)] dX0_addWay_30 (by decide) rfl ?_
      refine z_aload_n dX0_addWay_32 1 rfl ?_
      refine z_iload dX0_addWay_33 0 rfl ?_
      refine z_iload_n dX0_addWay_35 3 rfl ?_
      refine z_callV (m2 := mX0_turn) (st := []) [.int (M 126 k1), .int l3] okX0_turn (Or.inl lkX0_62) shC_123 rfl rfl rfl (Nat.le_of_ble_eq_true rfl) dX0_addWay_36 (zgo_v h fun  M1 h => ?_)
      refine z_iload dX0_addWay_39 0 rfl ?_
      refine z_istore_n [(3, .int (M 126 k1)), (5, .int (M 126 k1)), (0, .ref 123), (1, .int l1), (4, .int l4)] dX0_addWay_41 (by decide) rfl ?_
      refine z_iinc (x := l4) (v := (l4 + 1)) [(4, .int (l4 + 1)), (3, .int (M 126 k1)), (5, .int (M 126 k1)), (0, .ref 123), (1, .int l1)] dX0_addWay_42 4 rfl rfl (by decide) rfl ?_
      refine z_goto 7 dX0_addWay_45 (by decide) ?_
      exact zW.sub [3, 4, 1, 0] rfl h
theorem dX0_turn_0 : decode cX0_turn 0 = .ok (.iload_n 1, 1) := by decide +kernel
theorem dX0_turn_1 : decode cX0_turn 1 = .ok (.iconst 2, 1) := by decide +kernel
theorem dX0_turn_2 : decode cX0_turn 2 = .ok (.idiv, 1) := by decide +kernel
theorem dX0_turn_3 : decode cX0_turn 3 = .ok (.istore_n 3, 1) := by decide +kernel
theorem dX0_turn_4 : decode cX0_turn 4 = .ok (.iload_n 2, 1) := by decide +kernel
theorem dX0_turn_5 : decode cX0_turn 5 = .ok (.iconst 2, 1) := by decide +kernel
theorem dX0_turn_6 : decode cX0_turn 6 = .ok (.idiv, 1) := by decide +kernel
theorem dX0_turn_7 : decode cX0_turn 7 = .ok (.istore 4, 2) := by decide +kernel
theorem dX0_turn_9 : decode cX0_turn 9 = .ok (.iload_n 3, 1) := by decide +kernel
theorem dX0_turn_10 : decode cX0_turn 10 = .ok (.iload 4, 2) := by decide +kernel
theorem dX0_turn_12 : decode cX0_turn 12 = .ok (.if_icmp .ne 16, 3) := by decide +kernel
theorem dX0_turn_15 : decode cX0_turn 15 = .ok (.aload_n 0, 1) := by decide +kernel
theorem dX0_turn_16 : decode cX0_turn 16 = .ok (.getfield 15, 3) := by decide +kernel
theorem dX0_turn_19 : decode cX0_turn 19 = .ok (.iload 4, 2) := by decide +kernel
theorem dX0_turn_21 : decode cX0_turn 21 = .ok (.iload_n 2, 1) := by decide +kernel
theorem dX0_turn_22 : decode cX0_turn 22 = .ok (.iconst 2, 1) := by decide +kernel
theorem dX0_turn_23 : decode cX0_turn 23 = .ok (.irem, 1) := by decide +kernel
theorem dX0_turn_24 : decode cX0_turn 24 = .ok (.iastore, 1) := by decide +kernel
theorem dX0_turn_25 : decode cX0_turn 25 = .ok (.goto 46, 3) := by decide +kernel
theorem dX0_turn_28 : decode cX0_turn 28 = .ok (.iload_n 1, 1) := by decide +kernel
theorem dX0_turn_29 : decode cX0_turn 29 = .ok (.iconst 2, 1) := by decide +kernel
theorem dX0_turn_30 : decode cX0_turn 30 = .ok (.irem, 1) := by decide +kernel
theorem dX0_turn_31 : decode cX0_turn 31 = .ok (.iconst 1, 1) := by decide +kernel
theorem dX0_turn_32 : decode cX0_turn 32 = .ok (.if_icmp .ne 22, 3) := by decide +kernel
theorem dX0_turn_35 : decode cX0_turn 35 = .ok (.aload_n 0, 1) := by decide +kernel
theorem dX0_turn_36 : decode cX0_turn 36 = .ok (.getfield 9, 3) := by decide +kernel
theorem dX0_turn_39 : decode cX0_turn 39 = .ok (.iload_n 3, 1) := by decide +kernel
theorem dX0_turn_40 : decode cX0_turn 40 = .ok (.iconst 4, 1) := by decide +kernel
theorem dX0_turn_41 : decode cX0_turn 41 = .ok (.imul, 1) := by decide +kernel
theorem dX0_turn_42 : decode cX0_turn 42 = .ok (.iload_n 3, 1) := by decide +kernel
theorem dX0_turn_43 : decode cX0_turn 43 = .ok (.iload 4, 2) := by decide +kernel
theorem dX0_turn_45 : decode cX0_turn 45 = .ok (.invokestatic 65, 3) := by decide +kernel
theorem dX0_turn_48 : decode cX0_turn 48 = .ok (.iadd, 1) := by decide +kernel
theorem dX0_turn_49 : decode cX0_turn 49 = .ok (.iconst 1, 1) := by decide +kernel
theorem dX0_turn_50 : decode cX0_turn 50 = .ok (.iastore, 1) := by decide +kernel
theorem dX0_turn_51 : decode cX0_turn 51 = .ok (.goto 20, 3) := by decide +kernel
theorem dX0_turn_54 : decode cX0_turn 54 = .ok (.aload_n 0, 1) := by decide +kernel
theorem dX0_turn_55 : decode cX0_turn 55 = .ok (.getfield 9, 3) := by decide +kernel
theorem dX0_turn_58 : decode cX0_turn 58 = .ok (.iload 4, 2) := by decide +kernel
theorem dX0_turn_60 : decode cX0_turn 60 = .ok (.iconst 4, 1) := by decide +kernel
theorem dX0_turn_61 : decode cX0_turn 61 = .ok (.imul, 1) := by decide +kernel
theorem dX0_turn_62 : decode cX0_turn 62 = .ok (.iload 4, 2) := by decide +kernel
theorem dX0_turn_64 : decode cX0_turn 64 = .ok (.iload_n 3, 1) := by decide +kernel
theorem dX0_turn_65 : decode cX0_turn 65 = .ok (.invokestatic 65, 3) := by decide +kernel
theorem dX0_turn_68 : decode cX0_turn 68 = .ok (.iadd, 1) := by decide +kernel
theorem dX0_turn_69 : decode cX0_turn 69 = .ok (.iconst 0, 1) := by decide +kernel
theorem dX0_turn_70 : decode cX0_turn 70 = .ok (.iastore, 1) := by decide +kernel
theorem dX0_turn_71 : decode cX0_turn 71 = .ok (.return_, 1) := by decide +kernel
set_option maxRecDepth 20000 in
theorem vX0_turn {g : zG} {d : Nat} {Q : zM → Prop} {M : zM} {l1 : Int32} {l2 : Int32} (h : (¬ (l1 / 2) = (l2 / 2) → (¬ (l1 - l1 / 2 * 2) = 1 → zCi shC g d mX0_direction [.int (l2 / 2), .int (l1 / 2)] M (fun x1 M1 => ∃ k1 : Nat, (((l2 / 2) * 4) + x1) = iv k1 ∧ k1 < 256 ∧ Q (zup M1 124 k1 0))) ∧ ((l1 - l1 / 2 * 2) = 1 → zCi shC g d mX0_direction [.int (l1 / 2), .int (l2 / 2)] M (fun x1 M1 => ∃ k1 : Nat, (((l1 / 2) * 4) + x1) = iv k1 ∧ k1 < 256 ∧ Q (zup M1 124 k1 1)))) ∧ ((l1 / 2) = (l2 / 2) → ∃ k1 : Nat, (l2 / 2) = iv k1 ∧ k1 < 64 ∧ Q (zup M 125 k1 (l2 - l2 / 2 * 2)))) : zCv shC g (d + 1) mX0_turn [.ref 123, .int l1, .int l2] M Q := by
  refine zW.enter (by decide +kernel) (Nat.le_of_ble_eq_true rfl) ?_
  change zW shC g (d + 1) mX0_turn (zv Q) 0 [(0, .ref 123), (1, .int l1), (2, .int l2)] [] M
  refine z_iload_n dX0_turn_0 1 rfl ?_
  refine z_iconst (v := 2) dX0_turn_1 (by decide) ?_
  refine z_idiv dX0_turn_2 (by decide) ?_
  refine z_istore_n [(3, .int (l1 / 2)), (0, .ref 123), (1, .int l1), (2, .int l2)] dX0_turn_3 (by decide) rfl ?_
  refine z_iload_n dX0_turn_4 3 rfl ?_
  refine z_iconst (v := 2) dX0_turn_5 (by decide) ?_
  refine z_idiv dX0_turn_6 (by decide) ?_
  refine z_istore [(4, .int (l2 / 2)), (3, .int (l1 / 2)), (0, .ref 123), (1, .int l1), (2, .int l2)] dX0_turn_7 (by decide) rfl ?_
  refine z_iload_n dX0_turn_9 1 rfl ?_
  refine z_iload dX0_turn_10 0 rfl ?_
  refine z_icmp_ne 28 dX0_turn_12 (by decide) (fun c1 => ?_) (fun c1 => ?_)
  · have h := h.1 c1
    refine z_iload_n dX0_turn_28 3 rfl ?_
    refine z_iconst (v := 2) dX0_turn_29 (by decide) ?_
    refine z_irem dX0_turn_30 (by decide) ?_
    refine z_iconst (v := 1) dX0_turn_31 (by decide) ?_
    refine z_icmp_ne 54 dX0_turn_32 (by decide) (fun c2 => ?_) (fun c2 => ?_)
    · have h := h.1 c2
      refine z_aload_n dX0_turn_54 2 rfl ?_
      refine z_getr shC_123 rfl flX0_9 dX0_turn_55 ?_
      refine z_iload dX0_turn_58 0 rfl ?_
      refine z_iconst (v := 4) dX0_turn_60 (by decide) ?_
      refine z_imul dX0_turn_61 ?_
      refine z_iload dX0_turn_62 0 rfl ?_
      refine z_iload_n dX0_turn_64 1 rfl ?_
      refine z_callS (m2 := mX0_direction) (st := [.int ((l2 / 2) * 4), .ref 124]) [.int (l2 / 2), .int (l1 / 2)] okX0_direction (Or.inl lkX0_65) rfl rfl (Nat.le_of_ble_eq_true rfl) dX0_turn_65 (zgo_i h fun x1 M1 h => ?_)
      refine z_iadd dX0_turn_68 ?_
      refine z_iconst (v := 0) dX0_turn_69 (by decide) ?_
      obtain ⟨k1, ek1, uk1, h⟩ := h
      refine z_iast2 (k0 := k1) shC_124 (by decide) ek1 uk1 dX0_turn_70 ?_
      exact z_vret (st := []) rfl dX0_turn_71 ⟨rfl, h⟩
    · have h := h.2 c2
      refine z_aload_n dX0_turn_35 2 rfl ?_
      refine z_getr shC_123 rfl flX0_9 dX0_turn_36 ?_
      refine z_iload_n dX0_turn_39 1 rfl ?_
      refine z_iconst (v := 4) dX0_turn_40 (by decide) ?_
      refine z_imul dX0_turn_41 ?_
      refine z_iload_n dX0_turn_42 1 rfl ?_
      refine z_iload dX0_turn_43 0 rfl ?_
      refine z_callS (m2 := mX0_direction) (st := [.int ((l1 / 2) * 4), .ref 124]) [.int (l1 / 2), .int (l2 / 2)] okX0_direction (Or.inl lkX0_65) rfl rfl (Nat.le_of_ble_eq_true rfl) dX0_turn_45 (zgo_i h fun x1 M1 h => ?_)
      refine z_iadd dX0_turn_48 ?_
      refine z_iconst (v := 1) dX0_turn_49 (by decide) ?_
      obtain ⟨k1, ek1, uk1, h⟩ := h
      refine z_iast2 (k0 := k1) shC_124 (by decide) ek1 uk1 dX0_turn_50 ?_
      refine z_goto 71 dX0_turn_51 (by decide) ?_
      exact z_vret (st := []) rfl dX0_turn_71 ⟨rfl, h⟩
  · have h := h.2 c1
    refine z_aload_n dX0_turn_15 2 rfl ?_
    refine z_getr shC_123 rfl flX0_15 dX0_turn_16 ?_
    refine z_iload dX0_turn_19 0 rfl ?_
    refine z_iload_n dX0_turn_21 4 rfl ?_
    refine z_iconst (v := 2) dX0_turn_22 (by decide) ?_
    refine z_irem dX0_turn_23 (by decide) ?_
    obtain ⟨k1, ek1, uk1, h⟩ := h
    refine z_iast2 (k0 := k1) shC_125 (by decide) ek1 uk1 dX0_turn_24 ?_
    refine z_goto 71 dX0_turn_25 (by decide) ?_
    exact z_vret (st := []) rfl dX0_turn_71 ⟨rfl, h⟩
theorem dX0_direction_0 : decode cX0_direction 0 = .ok (.iload_n 1, 1) := by decide +kernel
theorem dX0_direction_1 : decode cX0_direction 1 = .ok (.bipush 8, 2) := by decide +kernel
theorem dX0_direction_3 : decode cX0_direction 3 = .ok (.idiv, 1) := by decide +kernel
theorem dX0_direction_4 : decode cX0_direction 4 = .ok (.iload_n 0, 1) := by decide +kernel
theorem dX0_direction_5 : decode cX0_direction 5 = .ok (.bipush 8, 2) := by decide +kernel
theorem dX0_direction_7 : decode cX0_direction 7 = .ok (.idiv, 1) := by decide +kernel
theorem dX0_direction_8 : decode cX0_direction 8 = .ok (.if_icmp .eq 14, 3) := by decide +kernel
theorem dX0_direction_11 : decode cX0_direction 11 = .ok (.iload_n 1, 1) := by decide +kernel
theorem dX0_direction_12 : decode cX0_direction 12 = .ok (.iload_n 0, 1) := by decide +kernel
theorem dX0_direction_13 : decode cX0_direction 13 = .ok (.if_icmp .ge 7, 3) := by decide +kernel
theorem dX0_direction_16 : decode cX0_direction 16 = .ok (.iconst 0, 1) := by decide +kernel
theorem dX0_direction_17 : decode cX0_direction 17 = .ok (.goto 4, 3) := by decide +kernel
theorem dX0_direction_20 : decode cX0_direction 20 = .ok (.iconst 2, 1) := by decide +kernel
theorem dX0_direction_21 : decode cX0_direction 21 = .ok (.ireturn, 1) := by decide +kernel
theorem dX0_direction_22 : decode cX0_direction 22 = .ok (.iload_n 1, 1) := by decide +kernel
theorem dX0_direction_23 : decode cX0_direction 23 = .ok (.iload_n 0, 1) := by decide +kernel
theorem dX0_direction_24 : decode cX0_direction 24 = .ok (.if_icmp .ge 7, 3) := by decide +kernel
theorem dX0_direction_27 : decode cX0_direction 27 = .ok (.iconst 3, 1) := by decide +kernel
theorem dX0_direction_28 : decode cX0_direction 28 = .ok (.goto 4, 3) := by decide +kernel
theorem dX0_direction_31 : decode cX0_direction 31 = .ok (.iconst 1, 1) := by decide +kernel
theorem dX0_direction_32 : decode cX0_direction 32 = .ok (.ireturn, 1) := by decide +kernel
set_option maxRecDepth 20000 in
theorem vX0_direction {g : zG} {d : Nat} {Q : Int32 → zM → Prop} {M : zM} {l0 : Int32} {l1 : Int32} (h : ((l1 / 8) = (l0 / 8) → (l0 ≤ l1 → Q 1 M) ∧ (¬ l0 ≤ l1 → Q 3 M)) ∧ (¬ (l1 / 8) = (l0 / 8) → (l0 ≤ l1 → Q 2 M) ∧ (¬ l0 ≤ l1 → Q 0 M))) : zCi shC g d mX0_direction [.int l0, .int l1] M Q := by
  refine zW.enter (by decide +kernel) (Nat.le_of_ble_eq_true rfl) ?_
  change zW shC g d mX0_direction (zi Q) 0 [(0, .int l0), (1, .int l1)] [] M
  refine z_iload_n dX0_direction_0 1 rfl ?_
  refine z_bipush (v := 8) dX0_direction_1 (by decide) ?_
  refine z_idiv dX0_direction_3 (by decide) ?_
  refine z_iload_n dX0_direction_4 0 rfl ?_
  refine z_bipush (v := 8) dX0_direction_5 (by decide) ?_
  refine z_idiv dX0_direction_7 (by decide) ?_
  refine z_icmp_eq 22 dX0_direction_8 (by decide) (fun c1 => ?_) (fun c1 => ?_)
  · have h := h.1 c1
    refine z_iload_n dX0_direction_22 1 rfl ?_
    refine z_iload_n dX0_direction_23 0 rfl ?_
    refine z_icmp_ge 31 dX0_direction_24 (by decide) (fun c2 => ?_) (fun c2 => ?_)
    · have h := h.1 c2
      refine z_iconst (v := 1) dX0_direction_31 (by decide) ?_
      exact z_iret (st := []) rfl rfl dX0_direction_32 ⟨_, rfl, h⟩
    · have h := h.2 c2
      refine z_iconst (v := 3) dX0_direction_27 (by decide) ?_
      refine z_goto 32 dX0_direction_28 (by decide) ?_
      exact z_iret (st := []) rfl rfl dX0_direction_32 ⟨_, rfl, h⟩
  · have h := h.2 c1
    refine z_iload_n dX0_direction_11 1 rfl ?_
    refine z_iload_n dX0_direction_12 0 rfl ?_
    refine z_icmp_ge 20 dX0_direction_13 (by decide) (fun c2 => ?_) (fun c2 => ?_)
    · have h := h.1 c2
      refine z_iconst (v := 2) dX0_direction_20 (by decide) ?_
      exact z_iret (st := []) rfl rfl dX0_direction_21 ⟨_, rfl, h⟩
    · have h := h.2 c2
      refine z_iconst (v := 0) dX0_direction_16 (by decide) ?_
      refine z_goto 21 dX0_direction_17 (by decide) ?_
      exact z_iret (st := []) rfl rfl dX0_direction_21 ⟨_, rfl, h⟩
