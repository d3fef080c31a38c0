/-! THE WALKS, by program: 23.model -/
theorem dX9_lookAt_0 : decode cX9_lookAt 0 = .ok (.iload_n 1, 1) := by decide +kernel
theorem dX9_lookAt_1 : decode cX9_lookAt 1 = .ok (.iconst 0, 1) := by decide +kernel
theorem dX9_lookAt_2 : decode cX9_lookAt 2 = .ok (.iconst 1, 1) := by decide +kernel
theorem dX9_lookAt_3 : decode cX9_lookAt 3 = .ok (.aload_n 0, 1) := by decide +kernel
theorem dX9_lookAt_4 : decode cX9_lookAt 4 = .ok (.getfield 7, 3) := by decide +kernel
theorem dX9_lookAt_7 : decode cX9_lookAt 7 = .ok (.sipush 157, 3) := by decide +kernel
theorem dX9_lookAt_10 : decode cX9_lookAt 10 = .ok (.iaload, 1) := by decide +kernel
theorem dX9_lookAt_11 : decode cX9_lookAt 11 = .ok (.ishl, 1) := by decide +kernel
theorem dX9_lookAt_12 : decode cX9_lookAt 12 = .ok (.iconst 1, 1) := by decide +kernel
theorem dX9_lookAt_13 : decode cX9_lookAt 13 = .ok (.isub, 1) := by decide +kernel
theorem dX9_lookAt_14 : decode cX9_lookAt 14 = .ok (.invokestatic 97, 3) := by decide +kernel
theorem dX9_lookAt_17 : decode cX9_lookAt 17 = .ok (.ifCond .eq 11, 3) := by decide +kernel
theorem dX9_lookAt_20 : decode cX9_lookAt 20 = .ok (.iload_n 1, 1) := by decide +kernel
theorem dX9_lookAt_21 : decode cX9_lookAt 21 = .ok (.invokestatic 465, 3) := by decide +kernel
theorem dX9_lookAt_24 : decode cX9_lookAt 24 = .ok (.iconst 2, 1) := by decide +kernel
theorem dX9_lookAt_25 : decode cX9_lookAt 25 = .ok (.if_icmp .ge 5, 3) := by decide +kernel
theorem dX9_lookAt_28 : decode cX9_lookAt 28 = .ok (.iconst (-1), 1) := by decide +kernel
theorem dX9_lookAt_29 : decode cX9_lookAt 29 = .ok (.ireturn, 1) := by decide +kernel
theorem dX9_lookAt_30 : decode cX9_lookAt 30 = .ok (.iconst 0, 1) := by decide +kernel
theorem dX9_lookAt_31 : decode cX9_lookAt 31 = .ok (.istore_n 2, 1) := by decide +kernel
theorem dX9_lookAt_32 : decode cX9_lookAt 32 = .ok (.iconst 1, 1) := by decide +kernel
theorem dX9_lookAt_33 : decode cX9_lookAt 33 = .ok (.istore_n 3, 1) := by decide +kernel
theorem dX9_lookAt_34 : decode cX9_lookAt 34 = .ok (.iload_n 3, 1) := by decide +kernel
theorem dX9_lookAt_35 : decode cX9_lookAt 35 = .ok (.bipush 9, 2) := by decide +kernel
theorem dX9_lookAt_37 : decode cX9_lookAt 37 = .ok (.if_icmp .ge 26, 3) := by decide +kernel
theorem dX9_lookAt_40 : decode cX9_lookAt 40 = .ok (.aload_n 0, 1) := by decide +kernel
theorem dX9_lookAt_41 : decode cX9_lookAt 41 = .ok (.iload_n 1, 1) := by decide +kernel
theorem dX9_lookAt_42 : decode cX9_lookAt 42 = .ok (.iload_n 3, 1) := by decide +kernel
theorem dX9_lookAt_43 : decode cX9_lookAt 43 = .ok (.invokevirtual 468, 3) := by decide +kernel
theorem dX9_lookAt_46 : decode cX9_lookAt 46 = .ok (.aload_n 0, 1) := by decide +kernel
theorem dX9_lookAt_47 : decode cX9_lookAt 47 = .ok (.iload_n 1, 1) := by decide +kernel
theorem dX9_lookAt_48 : decode cX9_lookAt 48 = .ok (.iload_n 2, 1) := by decide +kernel
theorem dX9_lookAt_49 : decode cX9_lookAt 49 = .ok (.invokevirtual 468, 3) := by decide +kernel
theorem dX9_lookAt_52 : decode cX9_lookAt 52 = .ok (.if_icmp .ge 5, 3) := by decide +kernel
theorem dX9_lookAt_55 : decode cX9_lookAt 55 = .ok (.iload_n 3, 1) := by decide +kernel
theorem dX9_lookAt_56 : decode cX9_lookAt 56 = .ok (.istore_n 2, 1) := by decide +kernel
theorem dX9_lookAt_57 : decode cX9_lookAt 57 = .ok (.iinc 3 1, 3) := by decide +kernel
theorem dX9_lookAt_60 : decode cX9_lookAt 60 = .ok (.goto (-26), 3) := by decide +kernel
theorem dX9_lookAt_63 : decode cX9_lookAt 63 = .ok (.iload_n 2, 1) := by decide +kernel
theorem dX9_lookAt_64 : decode cX9_lookAt 64 = .ok (.ireturn, 1) := by decide +kernel
set_option maxRecDepth 20000 in
theorem vX9_lookAt {g : zG} {d : Nat} {Q : Int32 → zM → Prop} {M : zM} {l1 : Int32} (h : zCz shM g d mX9_isIn [.int l1, .int 0, .int ((1 <<< ((M 1 157) &&& 31)) - 1)] M (fun b1 M1 => (b1 = false → Q (-1) M1) ∧ (b1 = true → zCi shM g d mX9_count [.int l1] M1 (fun x1 M2 => (2 ≤ x1 → zW shM g (d + 1) mX9_lookAt (zi Q) 34 [(0, .ref 0), (1, .int l1), (2, .int 0), (3, .int 1)] [] M2) ∧ (¬ 2 ≤ x1 → Q (-1) M2))))) : zCi shM g (d + 1) mX9_lookAt [.ref 0, .int l1] M Q := by
  refine zW.enter (by decide +kernel) (Nat.le_of_ble_eq_true rfl) ?_
  change zW shM g (d + 1) mX9_lookAt (zi Q) 0 [(0, .ref 0), (1, .int l1)] [] M
  refine z_iload_n dX9_lookAt_0 1 rfl ?_
  refine z_iconst (v := 0) dX9_lookAt_1 (by decide) ?_
  refine z_iconst (v := 1) dX9_lookAt_2 (by decide) ?_
  refine z_aload_n dX9_lookAt_3 0 rfl ?_
  refine z_getr shM_0 rfl flX9_7 dX9_lookAt_4 ?_
  refine z_sipush (v := 157) dX9_lookAt_7 (by decide) ?_
  refine z_iald2 (k0 := 157) shM_1 (by decide) (by decide) (by decide) dX9_lookAt_10 ?_
  refine z_ishl dX9_lookAt_11 ?_
  refine z_iconst (v := 1) dX9_lookAt_12 (by decide) ?_
  refine z_isub dX9_lookAt_13 ?_
  refine z_callS (m2 := mX9_isIn) (st := []) [.int l1, .int 0, .int ((1 <<< ((M 1 157) &&& 31)) - 1)] okX9_isIn (Or.inl lkX9_97) rfl rfl (Nat.le_of_ble_eq_true rfl) dX9_lookAt_14 (zgo_z h fun b1 M1 h => ?_)
  refine z_ifb_eq 28 dX9_lookAt_17 (by decide) (fun c1 => ?_) (fun c1 => ?_)
  · have h := h.1 c1
    refine z_iconst (v := (-1)) dX9_lookAt_28 (by decide) ?_
    exact z_iret (st := []) rfl rfl dX9_lookAt_29 ⟨_, rfl, h⟩
  · have h := h.2 c1
    refine z_iload_n dX9_lookAt_20 1 rfl ?_
    refine z_callS (m2 := mX9_count) (st := []) [.int l1] okX9_count (Or.inl lkX9_465) rfl rfl (Nat.le_of_ble_eq_true rfl) dX9_lookAt_21 (zgo_i h fun x1 M2 h => ?_)
    refine z_iconst (v := 2) dX9_lookAt_24 (by decide) ?_
    refine z_icmp_ge 30 dX9_lookAt_25 (by decide) (fun c2 => ?_) (fun c2 => ?_)
    · have h := h.1 c2
      refine z_iconst (v := 0) dX9_lookAt_30 (by decide) ?_
      refine z_istore_n [(2, .int 0), (0, .ref 0), (1, .int l1)] dX9_lookAt_31 (by decide) rfl ?_
      refine z_iconst (v := 1) dX9_lookAt_32 (by decide) ?_
      refine z_istore_n [(3, .int 1), (2, .int 0), (0, .ref 0), (1, .int l1)] dX9_lookAt_33 (by decide) rfl ?_
      exact zW.sub [2, 3, 1, 0] rfl h
    · have h := h.2 c2
      refine z_iconst (v := (-1)) dX9_lookAt_28 (by decide) ?_
      exact z_iret (st := []) rfl rfl dX9_lookAt_29 ⟨_, rfl, h⟩
set_option maxRecDepth 20000 in
theorem vX9_lookAt_34 {g : zG} {d : Nat} {Q : Int32 → zM → Prop} {M : zM} {l1 : Int32} {l2 : Int32} {l3 : Int32} (h : (9 ≤ l3 → Q l2 M) ∧ (¬ 9 ≤ l3 → zCi shM g d mX9_greaterPart [.ref 0, .int l1, .int l3] M (fun x1 M1 => zCi shM g d mX9_greaterPart [.ref 0, .int l1, .int l2] M1 (fun x2 M2 => (x2 ≤ x1 → zW shM g (d + 1) mX9_lookAt (zi Q) 34 [(0, .ref 0), (1, .int l1), (2, .int l2), (3, .int (l3 + 1))] [] M2) ∧ (¬ x2 ≤ x1 → zW shM g (d + 1) mX9_lookAt (zi Q) 34 [(0, .ref 0), (1, .int l1), (2, .int l3), (3, .int (l3 + 1))] [] M2))))) : zW shM g (d + 1) mX9_lookAt (zi Q) 34 [(0, .ref 0), (1, .int l1), (2, .int l2), (3, .int l3)] [] M := by
  refine z_iload_n dX9_lookAt_34 3 rfl ?_
  refine z_bipush (v := 9) dX9_lookAt_35 (by decide) ?_
  refine z_icmp_ge 63 dX9_lookAt_37 (by decide) (fun c1 => ?_) (fun c1 => ?_)
  · have h := h.1 c1
    refine z_iload_n dX9_lookAt_63 2 rfl ?_
    exact z_iret (st := []) rfl rfl dX9_lookAt_64 ⟨_, rfl, h⟩
  · have h := h.2 c1
    refine z_aload_n dX9_lookAt_40 0 rfl ?_
    refine z_iload_n dX9_lookAt_41 1 rfl ?_
    refine z_iload_n dX9_lookAt_42 3 rfl ?_
    refine z_callV (m2 := mX9_greaterPart) (st := []) [.int l1, .int l3] okX9_greaterPart (Or.inl lkX9_468) shM_0 rfl rfl rfl (Nat.le_of_ble_eq_true rfl) dX9_lookAt_43 (zgo_i h fun x1 M1 h => ?_)
    refine z_aload_n dX9_lookAt_46 0 rfl ?_
    refine z_iload_n dX9_lookAt_47 1 rfl ?_
    refine z_iload_n dX9_lookAt_48 2 rfl ?_
    refine z_callV (m2 := mX9_greaterPart) (st := [.int x1]) [.int l1, .int l2] okX9_greaterPart (Or.inl lkX9_468) shM_0 rfl rfl rfl (Nat.le_of_ble_eq_true rfl) dX9_lookAt_49 (zgo_i h fun x2 M2 h => ?_)
    refine z_icmp_ge 57 dX9_lookAt_52 (by decide) (fun c2 => ?_) (fun c2 => ?_)
    · have h := h.1 c2
      refine z_iinc (x := l3) (v := (l3 + 1)) [(3, .int (l3 + 1)), (0, .ref 0), (1, .int l1), (2, .int l2)] dX9_lookAt_57 3 rfl rfl (by decide) rfl ?_
      refine z_goto 34 dX9_lookAt_60 (by decide) ?_
      exact zW.sub [1, 2, 3, 0] rfl h
    · have h := h.2 c2
      refine z_iload_n dX9_lookAt_55 3 rfl ?_
      refine z_istore_n [(2, .int l3), (0, .ref 0), (1, .int l1), (3, .int l3)] dX9_lookAt_56 (by decide) rfl ?_
      refine z_iinc (x := l3) (v := (l3 + 1)) [(3, .int (l3 + 1)), (2, .int l3), (0, .ref 0), (1, .int l1)] dX9_lookAt_57 3 rfl rfl (by decide) rfl ?_
      refine z_goto 34 dX9_lookAt_60 (by decide) ?_
      exact zW.sub [2, 3, 1, 0] rfl h
theorem dX9_cutsOf_0 : decode cX9_cutsOf 0 = .ok (.iconst 0, 1) := by decide +kernel
theorem dX9_cutsOf_1 : decode cX9_cutsOf 1 = .ok (.istore_n 3, 1) := by decide +kernel
theorem dX9_cutsOf_2 : decode cX9_cutsOf 2 = .ok (.iconst 0, 1) := by decide +kernel
theorem dX9_cutsOf_3 : decode cX9_cutsOf 3 = .ok (.istore 4, 2) := by decide +kernel
theorem dX9_cutsOf_5 : decode cX9_cutsOf 5 = .ok (.iload 4, 2) := by decide +kernel
theorem dX9_cutsOf_7 : decode cX9_cutsOf 7 = .ok (.bipush 9, 2) := by decide +kernel
theorem dX9_cutsOf_9 : decode cX9_cutsOf 9 = .ok (.if_icmp .ge 56, 3) := by decide +kernel
theorem dX9_cutsOf_12 : decode cX9_cutsOf 12 = .ok (.iload_n 2, 1) := by decide +kernel
theorem dX9_cutsOf_13 : decode cX9_cutsOf 13 = .ok (.bipush 8, 2) := by decide +kernel
theorem dX9_cutsOf_15 : decode cX9_cutsOf 15 = .ok (.iload 4, 2) := by decide +kernel
theorem dX9_cutsOf_17 : decode cX9_cutsOf 17 = .ok (.iconst 3, 1) := by decide +kernel
theorem dX9_cutsOf_18 : decode cX9_cutsOf 18 = .ok (.idiv, 1) := by decide +kernel
theorem dX9_cutsOf_19 : decode cX9_cutsOf 19 = .ok (.imul, 1) := by decide +kernel
theorem dX9_cutsOf_20 : decode cX9_cutsOf 20 = .ok (.iadd, 1) := by decide +kernel
theorem dX9_cutsOf_21 : decode cX9_cutsOf 21 = .ok (.iload 4, 2) := by decide +kernel
theorem dX9_cutsOf_23 : decode cX9_cutsOf 23 = .ok (.iconst 3, 1) := by decide +kernel
theorem dX9_cutsOf_24 : decode cX9_cutsOf 24 = .ok (.irem, 1) := by decide +kernel
theorem dX9_cutsOf_25 : decode cX9_cutsOf 25 = .ok (.iadd, 1) := by decide +kernel
theorem dX9_cutsOf_26 : decode cX9_cutsOf 26 = .ok (.istore 5, 2) := by decide +kernel
theorem dX9_cutsOf_28 : decode cX9_cutsOf 28 = .ok (.iload_n 3, 1) := by decide +kernel
theorem dX9_cutsOf_29 : decode cX9_cutsOf 29 = .ok (.aload_n 0, 1) := by decide +kernel
theorem dX9_cutsOf_30 : decode cX9_cutsOf 30 = .ok (.iload 5, 2) := by decide +kernel
theorem dX9_cutsOf_32 : decode cX9_cutsOf 32 = .ok (.invokevirtual 347, 3) := by decide +kernel
theorem dX9_cutsOf_35 : decode cX9_cutsOf 35 = .ok (.ifCond .eq 21, 3) := by decide +kernel
theorem dX9_cutsOf_38 : decode cX9_cutsOf 38 = .ok (.aload_n 0, 1) := by decide +kernel
theorem dX9_cutsOf_39 : decode cX9_cutsOf 39 = .ok (.getfield 7, 3) := by decide +kernel
theorem dX9_cutsOf_42 : decode cX9_cutsOf 42 = .ok (.bipush 85, 2) := by decide +kernel
theorem dX9_cutsOf_44 : decode cX9_cutsOf 44 = .ok (.iload 5, 2) := by decide +kernel
theorem dX9_cutsOf_46 : decode cX9_cutsOf 46 = .ok (.iadd, 1) := by decide +kernel
theorem dX9_cutsOf_47 : decode cX9_cutsOf 47 = .ok (.iaload, 1) := by decide +kernel
theorem dX9_cutsOf_48 : decode cX9_cutsOf 48 = .ok (.iload_n 1, 1) := by decide +kernel
theorem dX9_cutsOf_49 : decode cX9_cutsOf 49 = .ok (.if_icmp .ne 7, 3) := by decide +kernel
theorem dX9_cutsOf_52 : decode cX9_cutsOf 52 = .ok (.iconst 1, 1) := by decide +kernel
theorem dX9_cutsOf_53 : decode cX9_cutsOf 53 = .ok (.goto 4, 3) := by decide +kernel
theorem dX9_cutsOf_56 : decode cX9_cutsOf 56 = .ok (.iconst 0, 1) := by decide +kernel
theorem dX9_cutsOf_57 : decode cX9_cutsOf 57 = .ok (.iadd, 1) := by decide +kernel
theorem dX9_cutsOf_58 : decode cX9_cutsOf 58 = .ok (.istore_n 3, 1) := by decide +kernel
theorem dX9_cutsOf_59 : decode cX9_cutsOf 59 = .ok (.iinc 4 1, 3) := by decide +kernel
theorem dX9_cutsOf_62 : decode cX9_cutsOf 62 = .ok (.goto (-57), 3) := by decide +kernel
theorem dX9_cutsOf_65 : decode cX9_cutsOf 65 = .ok (.iload_n 3, 1) := by decide +kernel
theorem dX9_cutsOf_66 : decode cX9_cutsOf 66 = .ok (.ireturn, 1) := by decide +kernel
set_option maxRecDepth 20000 in
theorem vX9_cutsOf {g : zG} {d : Nat} {Q : Int32 → zM → Prop} {M : zM} {l1 : Int32} {l2 : Int32} (h : zW shM g (d + 1) mX9_cutsOf (zi Q) 5 [(0, .ref 0), (1, .int l1), (2, .int l2), (3, .int 0), (4, .int 0)] [] M) : zCi shM g (d + 1) mX9_cutsOf [.ref 0, .int l1, .int l2] M Q := by
  refine zW.enter (by decide +kernel) (Nat.le_of_ble_eq_true rfl) ?_
  change zW shM g (d + 1) mX9_cutsOf (zi Q) 0 [(0, .ref 0), (1, .int l1), (2, .int l2)] [] M
  refine z_iconst (v := 0) dX9_cutsOf_0 (by decide) ?_
  refine z_istore_n [(3, .int 0), (0, .ref 0), (1, .int l1), (2, .int l2)] dX9_cutsOf_1 (by decide) rfl ?_
  refine z_iconst (v := 0) dX9_cutsOf_2 (by decide) ?_
  refine z_istore [(4, .int 0), (3, .int 0), (0, .ref 0), (1, .int l1), (2, .int l2)] dX9_cutsOf_3 (by decide) rfl ?_
  exact zW.sub [2, 3, 4, 1, 0] rfl h
set_option maxRecDepth 20000 in
theorem vX9_cutsOf_5 {g : zG} {d : Nat} {Q : Int32 → zM → Prop} {M : zM} {l1 : Int32} {l2 : Int32} {l3 : Int32} {l4 : Int32} (h : (9 ≤ l4 → Q l3 M) ∧ (¬ 9 ≤ l4 → zCz shM g d mX9_isSeen [.ref 0, .int ((l2 + (8 * (l4 / 3))) + (l4 - l4 / 3 * 3))] M (fun b1 M1 => (b1 = false → zW shM g (d + 1) mX9_cutsOf (zi Q) 5 [(0, .ref 0), (1, .int l1), (2, .int l2), (3, .int (l3 + 0)), (4, .int (l4 + 1))] [] M1) ∧ (b1 = true → ∃ k1 : Nat, (85 + ((l2 + (8 * (l4 / 3))) + (l4 - l4 / 3 * 3))) = iv k1 ∧ k1 < 2200 ∧ (¬ (M1 1 k1) = l1 → zW shM g (d + 1) mX9_cutsOf (zi Q) 5 [(0, .ref 0), (1, .int l1), (2, .int l2), (3, .int (l3 + 0)), (4, .int (l4 + 1))] [] M1) ∧ ((M1 1 k1) = l1 → zW shM g (d + 1) mX9_cutsOf (zi Q) 5 [(0, .ref 0), (1, .int l1), (2, .int l2), (3, .int (l3 + 1)), (4, .int (l4 + 1))] [] M1))))) : zW shM g (d + 1) mX9_cutsOf (zi Q) 5 [(0, .ref 0), (1, .int l1), (2, .int l2), (3, .int l3), (4, .int l4)] [] M := by
  refine z_iload dX9_cutsOf_5 4 rfl ?_
  refine z_bipush (v := 9) dX9_cutsOf_7 (by decide) ?_
  refine z_icmp_ge 65 dX9_cutsOf_9 (by decide) (fun c1 => ?_) (fun c1 => ?_)
  · have h := h.1 c1
    refine z_iload_n dX9_cutsOf_65 3 rfl ?_
    exact z_iret (st := []) rfl rfl dX9_cutsOf_66 ⟨_, rfl, h⟩
  · have h := h.2 c1
    refine z_iload_n dX9_cutsOf_12 2 rfl ?_
    refine z_bipush (v := 8) dX9_cutsOf_13 (by decide) ?_
    refine z_iload dX9_cutsOf_15 4 rfl ?_
    refine z_iconst (v := 3) dX9_cutsOf_17 (by decide) ?_
    refine z_idiv dX9_cutsOf_18 (by decide) ?_
    refine z_imul dX9_cutsOf_19 ?_
    refine z_iadd dX9_cutsOf_20 ?_
    refine z_iload dX9_cutsOf_21 4 rfl ?_
    refine z_iconst (v := 3) dX9_cutsOf_23 (by decide) ?_
    refine z_irem dX9_cutsOf_24 (by decide) ?_
    refine z_iadd dX9_cutsOf_25 ?_
    refine z_istore [(5, .int ((l2 + (8 * (l4 / 3))) + (l4 - l4 / 3 * 3))), (0, .ref 0), (1, .int l1), (2, .int l2), (3, .int l3), (4, .int l4)] dX9_cutsOf_26 (by decide) rfl ?_
    refine z_iload_n dX9_cutsOf_28 4 rfl ?_
    refine z_aload_n dX9_cutsOf_29 1 rfl ?_
    refine z_iload dX9_cutsOf_30 0 rfl ?_
    refine z_callV (m2 := mX9_isSeen) (st := [.int l3]) [.int ((l2 + (8 * (l4 / 3))) + (l4 - l4 / 3 * 3))] okX9_isSeen (Or.inl lkX9_347) shM_0 rfl rfl rfl (Nat.le_of_ble_eq_true rfl) dX9_cutsOf_32 (zgo_z h fun b1 M1 h => ?_)
    refine z_ifb_eq 56 dX9_cutsOf_35 (by decide) (fun c2 => ?_) (fun c2 => ?_)
    · have h := h.1 c2
      refine z_iconst (v := 0) dX9_cutsOf_56 (by decide) ?_
      refine z_iadd dX9_cutsOf_57 ?_
      refine z_istore_n [(3, .int (l3 + 0)), (5, .int ((l2 + (8 * (l4 / 3))) + (l4 - l4 / 3 * 3))), (0, .ref 0), (1, .int l1), (2, .int l2), (4, .int l4)] dX9_cutsOf_58 (by decide) rfl ?_
      refine z_iinc (x := l4) (v := (l4 + 1)) [(4, .int (l4 + 1)), (3, .int (l3 + 0)), (5, .int ((l2 + (8 * (l4 / 3))) + (l4 - l4 / 3 * 3))), (0, .ref 0), (1, .int l1), (2, .int l2)] dX9_cutsOf_59 5 rfl rfl (by decide) rfl ?_
      refine z_goto 5 dX9_cutsOf_62 (by decide) ?_
      exact zW.sub [3, 4, 5, 1, 0] rfl h
    · have h := h.2 c2
      refine z_aload_n dX9_cutsOf_38 1 rfl ?_
      refine z_getr shM_0 rfl flX9_7 dX9_cutsOf_39 ?_
      refine z_bipush (v := 85) dX9_cutsOf_42 (by decide) ?_
      refine z_iload dX9_cutsOf_44 0 rfl ?_
      refine z_iadd dX9_cutsOf_46 ?_
      obtain ⟨k1, ek1, uk1, h⟩ := h
      refine z_iald2 (k0 := k1) shM_1 (by decide) ek1 uk1 dX9_cutsOf_47 ?_
      refine z_iload_n dX9_cutsOf_48 2 rfl ?_
      refine z_icmp_ne 56 dX9_cutsOf_49 (by decide) (fun c3 => ?_) (fun c3 => ?_)
      · have h := h.1 c3
        refine z_iconst (v := 0) dX9_cutsOf_56 (by decide) ?_
        refine z_iadd dX9_cutsOf_57 ?_
        refine z_istore_n [(3, .int (l3 + 0)), (5, .int ((l2 + (8 * (l4 / 3))) + (l4 - l4 / 3 * 3))), (0, .ref 0), (1, .int l1), (2, .int l2), (4, .int l4)] dX9_cutsOf_58 (by decide) rfl ?_
        refine z_iinc (x := l4) (v := (l4 + 1)) [(4, .int (l4 + 1)), (3, .int (l3 + 0)), (5, .int ((l2 + (8 * (l4 / 3))) + (l4 - l4 / 3 * 3))), (0, .ref 0), (1, .int l1), (2, .int l2)] dX9_cutsOf_59 5 rfl rfl (by decide) rfl ?_
        refine z_goto 5 dX9_cutsOf_62 (by decide) ?_
        exact zW.sub [3, 4, 5, 1, 0] rfl h
      · have h := h.2 c3
        refine z_iconst (v := 1) dX9_cutsOf_52 (by decide) ?_
        refine z_goto 57 dX9_cutsOf_53 (by decide) ?_
        refine z_iadd dX9_cutsOf_57 ?_
        refine z_istore_n [(3, .int (l3 + 1)), (5, .int ((l2 + (8 * (l4 / 3))) + (l4 - l4 / 3 * 3))), (0, .ref 0), (1, .int l1), (2, .int l2), (4, .int l4)] dX9_cutsOf_58 (by decide) rfl ?_
        refine z_iinc (x := l4) (v := (l4 + 1)) [(4, .int (l4 + 1)), (3, .int (l3 + 1)), (5, .int ((l2 + (8 * (l4 / 3))) + (l4 - l4 / 3 * 3))), (0, .ref 0), (1, .int l1), (2, .int l2)] dX9_cutsOf_59 5 rfl rfl (by decide) rfl ?_
        refine z_goto 5 dX9_cutsOf_62 (by decide) ?_
        exact zW.sub [3, 4, 5, 1, 0] rfl h
theorem dX9_who_0 : decode cX9_who 0 = .ok (.aload_n 0, 1) := by decide +kernel
theorem dX9_who_1 : decode cX9_who 1 = .ok (.iload_n 1, 1) := by decide +kernel
theorem dX9_who_2 : decode cX9_who 2 = .ok (.invokevirtual 297, 3) := by decide +kernel
theorem dX9_who_5 : decode cX9_who 5 = .ok (.ifCond .eq 12, 3) := by decide +kernel
theorem dX9_who_8 : decode cX9_who 8 = .ok (.iload_n 2, 1) := by decide +kernel
theorem dX9_who_9 : decode cX9_who 9 = .ok (.iconst 0, 1) := by decide +kernel
theorem dX9_who_10 : decode cX9_who 10 = .ok (.iconst 1, 1) := by decide +kernel
theorem dX9_who_11 : decode cX9_who 11 = .ok (.invokestatic 97, 3) := by decide +kernel
theorem dX9_who_14 : decode cX9_who 14 = .ok (.ifCond .ne 6, 3) := by decide +kernel
theorem dX9_who_17 : decode cX9_who 17 = .ok (.bipush (-2), 2) := by decide +kernel
theorem dX9_who_19 : decode cX9_who 19 = .ok (.ireturn, 1) := by decide +kernel
theorem dX9_who_20 : decode cX9_who 20 = .ok (.iconst (-1), 1) := by decide +kernel
theorem dX9_who_21 : decode cX9_who 21 = .ok (.istore_n 3, 1) := by decide +kernel
theorem dX9_who_22 : decode cX9_who 22 = .ok (.iconst 0, 1) := by decide +kernel
theorem dX9_who_23 : decode cX9_who 23 = .ok (.istore 4, 2) := by decide +kernel
theorem dX9_who_25 : decode cX9_who 25 = .ok (.iconst 0, 1) := by decide +kernel
theorem dX9_who_26 : decode cX9_who 26 = .ok (.istore 5, 2) := by decide +kernel
theorem dX9_who_28 : decode cX9_who 28 = .ok (.iconst 0, 1) := by decide +kernel
theorem dX9_who_29 : decode cX9_who 29 = .ok (.istore 6, 2) := by decide +kernel
theorem dX9_who_31 : decode cX9_who 31 = .ok (.iload 6, 2) := by decide +kernel
theorem dX9_who_33 : decode cX9_who 33 = .ok (.aload_n 0, 1) := by decide +kernel
theorem dX9_who_34 : decode cX9_who 34 = .ok (.getfield 7, 3) := by decide +kernel
theorem dX9_who_37 : decode cX9_who 37 = .ok (.sipush 154, 3) := by decide +kernel
theorem dX9_who_40 : decode cX9_who 40 = .ok (.iaload, 1) := by decide +kernel
theorem dX9_who_41 : decode cX9_who 41 = .ok (.if_icmp .ge 53, 3) := by decide +kernel
theorem dX9_who_44 : decode cX9_who 44 = .ok (.aload_n 0, 1) := by decide +kernel
theorem dX9_who_45 : decode cX9_who 45 = .ok (.iload 6, 2) := by decide +kernel
theorem dX9_who_47 : decode cX9_who 47 = .ok (.iload_n 1, 1) := by decide +kernel
theorem dX9_who_48 : decode cX9_who 48 = .ok (.invokevirtual 471, 3) := by decide +kernel
theorem dX9_who_51 : decode cX9_who 51 = .ok (.istore 7, 2) := by decide +kernel
theorem dX9_who_53 : decode cX9_who 53 = .ok (.iload 5, 2) := by decide +kernel
theorem dX9_who_55 : decode cX9_who 55 = .ok (.iload 7, 2) := by decide +kernel
theorem dX9_who_57 : decode cX9_who 57 = .ok (.ifCond .le 10, 3) := by decide +kernel
theorem dX9_who_60 : decode cX9_who 60 = .ok (.iconst 1, 1) := by decide +kernel
theorem dX9_who_61 : decode cX9_who 61 = .ok (.iload 6, 2) := by decide +kernel
theorem dX9_who_63 : decode cX9_who 63 = .ok (.ishl, 1) := by decide +kernel
theorem dX9_who_64 : decode cX9_who 64 = .ok (.goto 4, 3) := by decide +kernel
theorem dX9_who_67 : decode cX9_who 67 = .ok (.iconst 0, 1) := by decide +kernel
theorem dX9_who_68 : decode cX9_who 68 = .ok (.ior, 1) := by decide +kernel
theorem dX9_who_69 : decode cX9_who 69 = .ok (.istore 5, 2) := by decide +kernel
theorem dX9_who_71 : decode cX9_who 71 = .ok (.iload 7, 2) := by decide +kernel
theorem dX9_who_73 : decode cX9_who 73 = .ok (.iload 4, 2) := by decide +kernel
theorem dX9_who_75 : decode cX9_who 75 = .ok (.if_icmp .gt 6, 3) := by decide +kernel
theorem dX9_who_78 : decode cX9_who 78 = .ok (.goto 10, 3) := by decide +kernel
theorem dX9_who_81 : decode cX9_who 81 = .ok (.iload 7, 2) := by decide +kernel
theorem dX9_who_83 : decode cX9_who 83 = .ok (.istore 4, 2) := by decide +kernel
theorem dX9_who_85 : decode cX9_who 85 = .ok (.iload 6, 2) := by decide +kernel
theorem dX9_who_87 : decode cX9_who 87 = .ok (.istore_n 3, 1) := by decide +kernel
theorem dX9_who_88 : decode cX9_who 88 = .ok (.iinc 6 1, 3) := by decide +kernel
theorem dX9_who_91 : decode cX9_who 91 = .ok (.goto (-60), 3) := by decide +kernel
theorem dX9_who_94 : decode cX9_who 94 = .ok (.iload_n 2, 1) := by decide +kernel
theorem dX9_who_95 : decode cX9_who 95 = .ok (.ifCond .ne 7, 3) := by decide +kernel
theorem dX9_who_98 : decode cX9_who 98 = .ok (.iload_n 3, 1) := by decide +kernel
theorem dX9_who_99 : decode cX9_who 99 = .ok (.goto 5, 3) := by decide +kernel
theorem dX9_who_102 : decode cX9_who 102 = .ok (.iload 5, 2) := by decide +kernel
theorem dX9_who_104 : decode cX9_who 104 = .ok (.ireturn, 1) := by decide +kernel
set_option maxRecDepth 20000 in
theorem vX9_who {g : zG} {d : Nat} {Q : Int32 → zM → Prop} {M : zM} {l1 : Int32} {l2 : Int32} (h : zCz shM g d mX9_isBox [.ref 0, .int l1] M (fun b1 M1 => (b1 = false → Q (-2) M1) ∧ (b1 = true → zCz shM g d mX9_isIn [.int l2, .int 0, .int 1] M1 (fun b2 M2 => (b2 = true → zW shM g (d + 1) mX9_who (zi Q) 31 [(0, .ref 0), (1, .int l1), (2, .int l2), (3, .int (-1)), (4, .int 0), (5, .int 0), (6, .int 0)] [] M2) ∧ (b2 = false → Q (-2) M2))))) : zCi shM g (d + 1) mX9_who [.ref 0, .int l1, .int l2] M Q := by
  refine zW.enter (by decide +kernel) (Nat.le_of_ble_eq_true rfl) ?_
  change zW shM g (d + 1) mX9_who (zi Q) 0 [(0, .ref 0), (1, .int l1), (2, .int l2)] [] M
  refine z_aload_n dX9_who_0 0 rfl ?_
  refine z_iload_n dX9_who_1 1 rfl ?_
  refine z_callV (m2 := mX9_isBox) (st := []) [.int l1] okX9_isBox (Or.inl lkX9_297) shM_0 rfl rfl rfl (Nat.le_of_ble_eq_true rfl) dX9_who_2 (zgo_z h fun b1 M1 h => ?_)
  refine z_ifb_eq 17 dX9_who_5 (by decide) (fun c1 => ?_) (fun c1 => ?_)
  · have h := h.1 c1
    refine z_bipush (v := (-2)) dX9_who_17 (by decide) ?_
    exact z_iret (st := []) rfl rfl dX9_who_19 ⟨_, rfl, h⟩
  · have h := h.2 c1
    refine z_iload_n dX9_who_8 2 rfl ?_
    refine z_iconst (v := 0) dX9_who_9 (by decide) ?_
    refine z_iconst (v := 1) dX9_who_10 (by decide) ?_
    refine z_callS (m2 := mX9_isIn) (st := []) [.int l2, .int 0, .int 1] okX9_isIn (Or.inl lkX9_97) rfl rfl (Nat.le_of_ble_eq_true rfl) dX9_who_11 (zgo_z h fun b2 M2 h => ?_)
    refine z_ifb_ne 20 dX9_who_14 (by decide) (fun c2 => ?_) (fun c2 => ?_)
    · have h := h.1 c2
      refine z_iconst (v := (-1)) dX9_who_20 (by decide) ?_
      refine z_istore_n [(3, .int (-1)), (0, .ref 0), (1, .int l1), (2, .int l2)] dX9_who_21 (by decide) rfl ?_
      refine z_iconst (v := 0) dX9_who_22 (by decide) ?_
      refine z_istore [(4, .int 0), (3, .int (-1)), (0, .ref 0), (1, .int l1), (2, .int l2)] dX9_who_23 (by decide) rfl ?_
      refine z_iconst (v := 0) dX9_who_25 (by decide) ?_
      refine z_istore [(5, .int 0), (4, .int 0), (3, .int (-1)), (0, .ref 0), (1, .int l1), (2, .int l2)] dX9_who_26 (by decide) rfl ?_
      refine z_iconst (v := 0) dX9_who_28 (by decide) ?_
      refine z_istore [(6, .int 0), (5, .int 0), (4, .int 0), (3, .int (-1)), (0, .ref 0), (1, .int l1), (2, .int l2)] dX9_who_29 (by decide) rfl ?_
      exact zW.sub [4, 5, 6, 3, 2, 1, 0] rfl h
    · have h := h.2 c2
      refine z_bipush (v := (-2)) dX9_who_17 (by decide) ?_
      exact z_iret (st := []) rfl rfl dX9_who_19 ⟨_, rfl, h⟩
set_option maxRecDepth 20000 in
theorem vX9_who_31 {g : zG} {d : Nat} {Q : Int32 → zM → Prop} {M : zM} {l1 : Int32} {l2 : Int32} {l3 : Int32} {l4 : Int32} {l5 : Int32} {l6 : Int32} (h : ((M 1 154) ≤ l6 → (¬ l2 = 0 → Q l5 M) ∧ (l2 = 0 → Q l3 M)) ∧ (¬ (M 1 154) ≤ l6 → zCi shM g d mX9_cutsOf [.ref 0, .int l6, .int l1] M (fun x1 M1 => (x1 ≤ 0 → zW shM g (d + 1) mX9_who (zi Q) 68 [(0, .ref 0), (1, .int l1), (2, .int l2), (3, .int l3), (4, .int l4), (6, .int l6), (7, .int x1)] [.int 0, .int l5] M1) ∧ (¬ x1 ≤ 0 → zW shM g (d + 1) mX9_who (zi Q) 68 [(0, .ref 0), (1, .int l1), (2, .int l2), (3, .int l3), (4, .int l4), (6, .int l6), (7, .int x1)] [.int (1 <<< (l6 &&& 31)), .int l5] M1)))) : zW shM g (d + 1) mX9_who (zi Q) 31 [(0, .ref 0), (1, .int l1), (2, .int l2), (3, .int l3), (4, .int l4), (5, .int l5), (6, .int l6)] [] M := by
  refine z_iload dX9_who_31 6 rfl ?_
  refine z_aload_n dX9_who_33 0 rfl ?_
  refine z_getr shM_0 rfl flX9_7 dX9_who_34 ?_
  refine z_sipush (v := 154) dX9_who_37 (by decide) ?_
  refine z_iald2 (k0 := 154) shM_1 (by decide) (by decide) (by decide) dX9_who_40 ?_
  refine z_icmp_ge 94 dX9_who_41 (by decide) (fun c1 => ?_) (fun c1 => ?_)
  · have h := h.1 c1
    refine z_iload_n dX9_who_94 2 rfl ?_
    refine z_if_ne 102 dX9_who_95 (by decide) (fun c2 => ?_) (fun c2 => ?_)
    · have h := h.1 c2
      refine z_iload dX9_who_102 5 rfl ?_
      exact z_iret (st := []) rfl rfl dX9_who_104 ⟨_, rfl, h⟩
    · have h := h.2 c2
      refine z_iload_n dX9_who_98 3 rfl ?_
      refine z_goto 104 dX9_who_99 (by decide) ?_
      exact z_iret (st := []) rfl rfl dX9_who_104 ⟨_, rfl, h⟩
  · have h := h.2 c1
    refine z_aload_n dX9_who_44 0 rfl ?_
    refine z_iload dX9_who_45 6 rfl ?_
    refine z_iload_n dX9_who_47 1 rfl ?_
    refine z_callV (m2 := mX9_cutsOf) (st := []) [.int l6, .int l1] okX9_cutsOf (Or.inl lkX9_471) shM_0 rfl rfl rfl (Nat.le_of_ble_eq_true rfl) dX9_who_48 (zgo_i h fun x1 M1 h => ?_)
    refine z_istore [(7, .int x1), (0, .ref 0), (1, .int l1), (2, .int l2), (3, .int l3), (4, .int l4), (5, .int l5), (6, .int l6)] dX9_who_51 (by decide) rfl ?_
    refine z_iload dX9_who_53 6 rfl ?_
    refine z_iload dX9_who_55 0 rfl ?_
    refine z_if_le 67 dX9_who_57 (by decide) (fun c2 => ?_) (fun c2 => ?_)
    · have h := h.1 c2
      refine z_iconst (v := 0) dX9_who_67 (by decide) ?_
      exact zW.sub [1, 2, 3, 4, 5, 7, 0] rfl h
    · have h := h.2 c2
      refine z_iconst (v := 1) dX9_who_60 (by decide) ?_
      refine z_iload dX9_who_61 7 rfl ?_
      refine z_ishl dX9_who_63 ?_
      refine z_goto 68 dX9_who_64 (by decide) ?_
      exact zW.sub [1, 2, 3, 4, 5, 7, 0] rfl h
set_option maxRecDepth 20000 in
theorem vX9_who_68 {g : zG} {d : Nat} {Q : Int32 → zM → Prop} {M : zM} {l1 : Int32} {l2 : Int32} {l3 : Int32} {l4 : Int32} {l6 : Int32} {l7 : Int32} {s0 : Int32} {s1 : Int32} (h : (l4 < l7 → zW shM g (d + 1) mX9_who (zi Q) 31 [(0, .ref 0), (1, .int l1), (2, .int l2), (3, .int l6), (4, .int l7), (5, .int (s1 ||| s0)), (6, .int (l6 + 1))] [] M) ∧ (¬ l4 < l7 → zW shM g (d + 1) mX9_who (zi Q) 31 [(0, .ref 0), (1, .int l1), (2, .int l2), (3, .int l3), (4, .int l4), (5, .int (s1 ||| s0)), (6, .int (l6 + 1))] [] M)) : zW shM g (d + 1) mX9_who (zi Q) 68 [(0, .ref 0), (1, .int l1), (2, .int l2), (3, .int l3), (4, .int l4), (6, .int l6), (7, .int l7)] [.int s0, .int s1] M := by
  refine z_ior dX9_who_68 ?_
  refine z_istore [(5, .int (s1 ||| s0)), (0, .ref 0), (1, .int l1), (2, .int l2), (3, .int l3), (4, .int l4), (6, .int l6), (7, .int l7)] dX9_who_69 (by decide) rfl ?_
  refine z_iload dX9_who_71 7 rfl ?_
  refine z_iload dX9_who_73 5 rfl ?_
  refine z_icmp_gt 81 dX9_who_75 (by decide) (fun c1 => ?_) (fun c1 => ?_)
  · have h := h.1 c1
    refine z_iload dX9_who_81 7 rfl ?_
    refine z_istore [(4, .int l7), (5, .int (s1 ||| s0)), (0, .ref 0), (1, .int l1), (2, .int l2), (3, .int l3), (6, .int l6), (7, .int l7)] dX9_who_83 (by decide) rfl ?_
    refine z_iload dX9_who_85 6 rfl ?_
    refine z_istore_n [(3, .int l6), (4, .int l7), (5, .int (s1 ||| s0)), (0, .ref 0), (1, .int l1), (2, .int l2), (6, .int l6), (7, .int l7)] dX9_who_87 (by decide) rfl ?_
    refine z_iinc (x := l6) (v := (l6 + 1)) [(6, .int (l6 + 1)), (3, .int l6), (4, .int l7), (5, .int (s1 ||| s0)), (0, .ref 0), (1, .int l1), (2, .int l2), (7, .int l7)] dX9_who_88 6 rfl rfl (by decide) rfl ?_
    refine z_goto 31 dX9_who_91 (by decide) ?_
    exact zW.sub [4, 5, 6, 1, 2, 3, 0] rfl h
  · have h := h.2 c1
    refine z_goto 88 dX9_who_78 (by decide) ?_
    refine z_iinc (x := l6) (v := (l6 + 1)) [(6, .int (l6 + 1)), (5, .int (s1 ||| s0)), (0, .ref 0), (1, .int l1), (2, .int l2), (3, .int l3), (4, .int l4), (7, .int l7)] dX9_who_88 6 rfl rfl (by decide) rfl ?_
    refine z_goto 31 dX9_who_91 (by decide) ?_
    exact zW.sub [2, 3, 4, 5, 6, 1, 0] rfl h
theorem dX9_areApart_0 : decode cX9_areApart 0 = .ok (.iconst 0, 1) := by decide +kernel
theorem dX9_areApart_1 : decode cX9_areApart 1 = .ok (.istore_n 3, 1) := by decide +kernel
theorem dX9_areApart_2 : decode cX9_areApart 2 = .ok (.iload_n 3, 1) := by decide +kernel
theorem dX9_areApart_3 : decode cX9_areApart 3 = .ok (.aload_n 0, 1) := by decide +kernel
theorem dX9_areApart_4 : decode cX9_areApart 4 = .ok (.getfield 7, 3) := by decide +kernel
theorem dX9_areApart_7 : decode cX9_areApart 7 = .ok (.sipush 157, 3) := by decide +kernel
theorem dX9_areApart_10 : decode cX9_areApart 10 = .ok (.iaload, 1) := by decide +kernel
theorem dX9_areApart_11 : decode cX9_areApart 11 = .ok (.if_icmp .ge 74, 3) := by decide +kernel
theorem dX9_areApart_14 : decode cX9_areApart 14 = .ok (.iconst 0, 1) := by decide +kernel
theorem dX9_areApart_15 : decode cX9_areApart 15 = .ok (.istore 4, 2) := by decide +kernel
theorem dX9_areApart_17 : decode cX9_areApart 17 = .ok (.iload 4, 2) := by decide +kernel
theorem dX9_areApart_19 : decode cX9_areApart 19 = .ok (.iload_n 3, 1) := by decide +kernel
theorem dX9_areApart_20 : decode cX9_areApart 20 = .ok (.if_icmp .ge 59, 3) := by decide +kernel
theorem dX9_areApart_23 : decode cX9_areApart 23 = .ok (.iload_n 1, 1) := by decide +kernel
theorem dX9_areApart_24 : decode cX9_areApart 24 = .ok (.iload_n 3, 1) := by decide +kernel
theorem dX9_areApart_25 : decode cX9_areApart 25 = .ok (.ishr, 1) := by decide +kernel
theorem dX9_areApart_26 : decode cX9_areApart 26 = .ok (.iconst 1, 1) := by decide +kernel
theorem dX9_areApart_27 : decode cX9_areApart 27 = .ok (.iand, 1) := by decide +kernel
theorem dX9_areApart_28 : decode cX9_areApart 28 = .ok (.iconst 1, 1) := by decide +kernel
theorem dX9_areApart_29 : decode cX9_areApart 29 = .ok (.if_icmp .ne 44, 3) := by decide +kernel
theorem dX9_areApart_32 : decode cX9_areApart 32 = .ok (.iload_n 1, 1) := by decide +kernel
theorem dX9_areApart_33 : decode cX9_areApart 33 = .ok (.iload 4, 2) := by decide +kernel
theorem dX9_areApart_35 : decode cX9_areApart 35 = .ok (.ishr, 1) := by decide +kernel
theorem dX9_areApart_36 : decode cX9_areApart 36 = .ok (.iconst 1, 1) := by decide +kernel
theorem dX9_areApart_37 : decode cX9_areApart 37 = .ok (.iand, 1) := by decide +kernel
theorem dX9_areApart_38 : decode cX9_areApart 38 = .ok (.iconst 1, 1) := by decide +kernel
theorem dX9_areApart_39 : decode cX9_areApart 39 = .ok (.if_icmp .ne 34, 3) := by decide +kernel
theorem dX9_areApart_42 : decode cX9_areApart 42 = .ok (.aload_n 0, 1) := by decide +kernel
theorem dX9_areApart_43 : decode cX9_areApart 43 = .ok (.getfield 7, 3) := by decide +kernel
theorem dX9_areApart_46 : decode cX9_areApart 46 = .ok (.sipush 538, 3) := by decide +kernel
theorem dX9_areApart_49 : decode cX9_areApart 49 = .ok (.iload_n 3, 1) := by decide +kernel
theorem dX9_areApart_50 : decode cX9_areApart 50 = .ok (.iadd, 1) := by decide +kernel
theorem dX9_areApart_51 : decode cX9_areApart 51 = .ok (.iaload, 1) := by decide +kernel
theorem dX9_areApart_52 : decode cX9_areApart 52 = .ok (.aload_n 0, 1) := by decide +kernel
theorem dX9_areApart_53 : decode cX9_areApart 53 = .ok (.getfield 7, 3) := by decide +kernel
theorem dX9_areApart_56 : decode cX9_areApart 56 = .ok (.sipush 538, 3) := by decide +kernel
theorem dX9_areApart_59 : decode cX9_areApart 59 = .ok (.iload 4, 2) := by decide +kernel
theorem dX9_areApart_61 : decode cX9_areApart 61 = .ok (.iadd, 1) := by decide +kernel
theorem dX9_areApart_62 : decode cX9_areApart 62 = .ok (.iaload, 1) := by decide +kernel
theorem dX9_areApart_63 : decode cX9_areApart 63 = .ok (.ixor, 1) := by decide +kernel
theorem dX9_areApart_64 : decode cX9_areApart 64 = .ok (.invokestatic 465, 3) := by decide +kernel
theorem dX9_areApart_67 : decode cX9_areApart 67 = .ok (.iload_n 2, 1) := by decide +kernel
theorem dX9_areApart_68 : decode cX9_areApart 68 = .ok (.if_icmp .ge 5, 3) := by decide +kernel
theorem dX9_areApart_71 : decode cX9_areApart 71 = .ok (.iconst 0, 1) := by decide +kernel
theorem dX9_areApart_72 : decode cX9_areApart 72 = .ok (.ireturn, 1) := by decide +kernel
theorem dX9_areApart_73 : decode cX9_areApart 73 = .ok (.iinc 4 1, 3) := by decide +kernel
theorem dX9_areApart_76 : decode cX9_areApart 76 = .ok (.goto (-59), 3) := by decide +kernel
theorem dX9_areApart_79 : decode cX9_areApart 79 = .ok (.iinc 3 1, 3) := by decide +kernel
theorem dX9_areApart_82 : decode cX9_areApart 82 = .ok (.goto (-80), 3) := by decide +kernel
theorem dX9_areApart_85 : decode cX9_areApart 85 = .ok (.iconst 1, 1) := by decide +kernel
theorem dX9_areApart_86 : decode cX9_areApart 86 = .ok (.ireturn, 1) := by decide +kernel
set_option maxRecDepth 20000 in
theorem vX9_areApart {g : zG} {d : Nat} {Q : Bool → zM → Prop} {M : zM} {l1 : Int32} {l2 : Int32} (h : zW shM g (d + 1) mX9_areApart (zz Q) 2 [(0, .ref 0), (1, .int l1), (2, .int l2), (3, .int 0)] [] M) : zCz shM g (d + 1) mX9_areApart [.ref 0, .int l1, .int l2] M Q := by
  refine zW.enter (by decide +kernel) (Nat.le_of_ble_eq_true rfl) ?_
  change zW shM g (d + 1) mX9_areApart (zz Q) 0 [(0, .ref 0), (1, .int l1), (2, .int l2)] [] M
  refine z_iconst (v := 0) dX9_areApart_0 (by decide) ?_
  refine z_istore_n [(3, .int 0), (0, .ref 0), (1, .int l1), (2, .int l2)] dX9_areApart_1 (by decide) rfl ?_
  exact zW.sub [1, 2, 3, 0] rfl h
set_option maxRecDepth 20000 in
theorem vX9_areApart_2 {g : zG} {d : Nat} {Q : Bool → zM → Prop} {M : zM} {l1 : Int32} {l2 : Int32} {l3 : Int32} (h : ((M 1 157) ≤ l3 → Q true M) ∧ (¬ (M 1 157) ≤ l3 → zW shM g (d + 1) mX9_areApart (zz Q) 17 [(0, .ref 0), (1, .int l1), (2, .int l2), (3, .int l3), (4, .int 0)] [] M)) : zW shM g (d + 1) mX9_areApart (zz Q) 2 [(0, .ref 0), (1, .int l1), (2, .int l2), (3, .int l3)] [] M := by
  refine z_iload_n dX9_areApart_2 3 rfl ?_
  refine z_aload_n dX9_areApart_3 0 rfl ?_
  refine z_getr shM_0 rfl flX9_7 dX9_areApart_4 ?_
  refine z_sipush (v := 157) dX9_areApart_7 (by decide) ?_
  refine z_iald2 (k0 := 157) shM_1 (by decide) (by decide) (by decide) dX9_areApart_10 ?_
  refine z_icmp_ge 85 dX9_areApart_11 (by decide) (fun c1 => ?_) (fun c1 => ?_)
  · have h := h.1 c1
    refine z_iconst (v := 1) dX9_areApart_85 (by decide) ?_
    exact z_zret (b := true) rfl rfl dX9_areApart_86 h
  · have h := h.2 c1
    refine z_iconst (v := 0) dX9_areApart_14 (by decide) ?_
    refine z_istore [(4, .int 0), (0, .ref 0), (1, .int l1), (2, .int l2), (3, .int l3)] dX9_areApart_15 (by decide) rfl ?_
    exact zW.sub [1, 2, 3, 4, 0] rfl h
set_option maxRecDepth 20000 in
theorem vX9_areApart_17 {g : zG} {d : Nat} {Q : Bool → zM → Prop} {M : zM} {l1 : Int32} {l2 : Int32} {l3 : Int32} {l4 : Int32} (h : (l3 ≤ l4 → zW shM g (d + 1) mX9_areApart (zz Q) 2 [(0, .ref 0), (1, .int l1), (2, .int l2), (3, .int (l3 + 1))] [] M) ∧ (¬ l3 ≤ l4 → (¬ ((l1 >>> (l3 &&& 31)) &&& 1) = 1 → zW shM g (d + 1) mX9_areApart (zz Q) 17 [(0, .ref 0), (1, .int l1), (2, .int l2), (3, .int l3), (4, .int (l4 + 1))] [] M) ∧ (((l1 >>> (l3 &&& 31)) &&& 1) = 1 → (¬ ((l1 >>> (l4 &&& 31)) &&& 1) = 1 → zW shM g (d + 1) mX9_areApart (zz Q) 17 [(0, .ref 0), (1, .int l1), (2, .int l2), (3, .int l3), (4, .int (l4 + 1))] [] M) ∧ (((l1 >>> (l4 &&& 31)) &&& 1) = 1 → ∃ k1 : Nat, (538 + l3) = iv k1 ∧ k1 < 2200 ∧ ∃ k2 : Nat, (538 + l4) = iv k2 ∧ k2 < 2200 ∧ zCi shM g d mX9_count [.int ((M 1 k1) ^^^ (M 1 k2))] M (fun x1 M1 => (l2 ≤ x1 → zW shM g (d + 1) mX9_areApart (zz Q) 17 [(0, .ref 0), (1, .int l1), (2, .int l2), (3, .int l3), (4, .int (l4 + 1))] [] M1) ∧ (¬ l2 ≤ x1 → Q false M1)))))) : zW shM g (d + 1) mX9_areApart (zz Q) 17 [(0, .ref 0), (1, .int l1), (2, .int l2), (3, .int l3), (4, .int l4)] [] M := by
  refine z_iload dX9_areApart_17 4 rfl ?_
  refine z_iload_n dX9_areApart_19 3 rfl ?_
  refine z_icmp_ge 79 dX9_areApart_20 (by decide) (fun c1 => ?_) (fun c1 => ?_)
  · have h := h.1 c1
    refine z_iinc (x := l3) (v := (l3 + 1)) [(3, .int (l3 + 1)), (0, .ref 0), (1, .int l1), (2, .int l2), (4, .int l4)] dX9_areApart_79 3 rfl rfl (by decide) rfl ?_
    refine z_goto 2 dX9_areApart_82 (by decide) ?_
    exact zW.sub [1, 2, 3, 0] rfl h
  · have h := h.2 c1
    refine z_iload_n dX9_areApart_23 1 rfl ?_
    refine z_iload_n dX9_areApart_24 3 rfl ?_
    refine z_ishr dX9_areApart_25 ?_
    refine z_iconst (v := 1) dX9_areApart_26 (by decide) ?_
    refine z_iand dX9_areApart_27 ?_
    refine z_iconst (v := 1) dX9_areApart_28 (by decide) ?_
    refine z_icmp_ne 73 dX9_areApart_29 (by decide) (fun c2 => ?_) (fun c2 => ?_)
    · have h := h.1 c2
      refine z_iinc (x := l4) (v := (l4 + 1)) [(4, .int (l4 + 1)), (0, .ref 0), (1, .int l1), (2, .int l2), (3, .int l3)] dX9_areApart_73 4 rfl rfl (by decide) rfl ?_
      refine z_goto 17 dX9_areApart_76 (by decide) ?_
      exact zW.sub [1, 2, 3, 4, 0] rfl h
    · have h := h.2 c2
      refine z_iload_n dX9_areApart_32 1 rfl ?_
      refine z_iload dX9_areApart_33 4 rfl ?_
      refine z_ishr dX9_areApart_35 ?_
      refine z_iconst (v := 1) dX9_areApart_36 (by decide) ?_
      refine z_iand dX9_areApart_37 ?_
      refine z_iconst (v := 1) dX9_areApart_38 (by decide) ?_
      refine z_icmp_ne 73 dX9_areApart_39 (by decide) (fun c3 => ?_) (fun c3 => ?_)
      · have h := h.1 c3
        refine z_iinc (x := l4) (v := (l4 + 1)) [(4, .int (l4 + 1)), (0, .ref 0), (1, .int l1), (2, .int l2), (3, .int l3)] dX9_areApart_73 4 rfl rfl (by decide) rfl ?_
        refine z_goto 17 dX9_areApart_76 (by decide) ?_
        exact zW.sub [1, 2, 3, 4, 0] rfl h
      · have h := h.2 c3
        refine z_aload_n dX9_areApart_42 0 rfl ?_
        refine z_getr shM_0 rfl flX9_7 dX9_areApart_43 ?_
        refine z_sipush (v := 538) dX9_areApart_46 (by decide) ?_
        refine z_iload_n dX9_areApart_49 3 rfl ?_
        refine z_iadd dX9_areApart_50 ?_
        obtain ⟨k1, ek1, uk1, h⟩ := h
        refine z_iald2 (k0 := k1) shM_1 (by decide) ek1 uk1 dX9_areApart_51 ?_
        refine z_aload_n dX9_areApart_52 0 rfl ?_
        refine z_getr shM_0 rfl flX9_7 dX9_areApart_53 ?_
        refine z_sipush (v := 538) dX9_areApart_56 (by decide) ?_
        refine z_iload dX9_areApart_59 4 rfl ?_
        refine z_iadd dX9_areApart_61 ?_
        obtain ⟨k2, ek2, uk2, h⟩ := h
        refine z_iald2 (k0 := k2) shM_1 (by decide) ek2 uk2 dX9_areApart_62 ?_
        refine z_ixor dX9_areApart_63 ?_
        refine z_callS (m2 := mX9_count) (st := []) [.int ((M 1 k1) ^^^ (M 1 k2))] okX9_count (Or.inl lkX9_465) rfl rfl (Nat.le_of_ble_eq_true rfl) dX9_areApart_64 (zgo_i h fun x1 M1 h => ?_)
        refine z_iload_n dX9_areApart_67 2 rfl ?_
        refine z_icmp_ge 73 dX9_areApart_68 (by decide) (fun c4 => ?_) (fun c4 => ?_)
        · have h := h.1 c4
          refine z_iinc (x := l4) (v := (l4 + 1)) [(4, .int (l4 + 1)), (0, .ref 0), (1, .int l1), (2, .int l2), (3, .int l3)] dX9_areApart_73 4 rfl rfl (by decide) rfl ?_
          refine z_goto 17 dX9_areApart_76 (by decide) ?_
          exact zW.sub [1, 2, 3, 4, 0] rfl h
        · have h := h.2 c4
          refine z_iconst (v := 0) dX9_areApart_71 (by decide) ?_
          exact z_zret (b := false) rfl rfl dX9_areApart_72 h
theorem dX9_holds_0 : decode cX9_holds 0 = .ok (.iload_n 1, 1) := by decide +kernel
theorem dX9_holds_1 : decode cX9_holds 1 = .ok (.iconst 1, 1) := by decide +kernel
theorem dX9_holds_2 : decode cX9_holds 2 = .ok (.bipush 9, 2) := by decide +kernel
theorem dX9_holds_4 : decode cX9_holds 4 = .ok (.invokestatic 97, 3) := by decide +kernel
theorem dX9_holds_7 : decode cX9_holds 7 = .ok (.ifCond .eq 12, 3) := by decide +kernel
theorem dX9_holds_10 : decode cX9_holds 10 = .ok (.iload_n 2, 1) := by decide +kernel
theorem dX9_holds_11 : decode cX9_holds 11 = .ok (.iconst 0, 1) := by decide +kernel
theorem dX9_holds_12 : decode cX9_holds 12 = .ok (.iconst 1, 1) := by decide +kernel
theorem dX9_holds_13 : decode cX9_holds 13 = .ok (.invokestatic 97, 3) := by decide +kernel
theorem dX9_holds_16 : decode cX9_holds 16 = .ok (.ifCond .ne 5, 3) := by decide +kernel
theorem dX9_holds_19 : decode cX9_holds 19 = .ok (.iconst (-1), 1) := by decide +kernel
theorem dX9_holds_20 : decode cX9_holds 20 = .ok (.ireturn, 1) := by decide +kernel
theorem dX9_holds_21 : decode cX9_holds 21 = .ok (.iconst 0, 1) := by decide +kernel
theorem dX9_holds_22 : decode cX9_holds 22 = .ok (.istore_n 3, 1) := by decide +kernel
theorem dX9_holds_23 : decode cX9_holds 23 = .ok (.iconst 1, 1) := by decide +kernel
theorem dX9_holds_24 : decode cX9_holds 24 = .ok (.istore 4, 2) := by decide +kernel
theorem dX9_holds_26 : decode cX9_holds 26 = .ok (.iload 4, 2) := by decide +kernel
theorem dX9_holds_28 : decode cX9_holds 28 = .ok (.iconst 1, 1) := by decide +kernel
theorem dX9_holds_29 : decode cX9_holds 29 = .ok (.aload_n 0, 1) := by decide +kernel
theorem dX9_holds_30 : decode cX9_holds 30 = .ok (.getfield 7, 3) := by decide +kernel
theorem dX9_holds_33 : decode cX9_holds 33 = .ok (.sipush 157, 3) := by decide +kernel
theorem dX9_holds_36 : decode cX9_holds 36 = .ok (.iaload, 1) := by decide +kernel
theorem dX9_holds_37 : decode cX9_holds 37 = .ok (.ishl, 1) := by decide +kernel
theorem dX9_holds_38 : decode cX9_holds 38 = .ok (.if_icmp .ge 34, 3) := by decide +kernel
theorem dX9_holds_41 : decode cX9_holds 41 = .ok (.iload 4, 2) := by decide +kernel
theorem dX9_holds_43 : decode cX9_holds 43 = .ok (.invokestatic 465, 3) := by decide +kernel
theorem dX9_holds_46 : decode cX9_holds 46 = .ok (.iload_n 3, 1) := by decide +kernel
theorem dX9_holds_47 : decode cX9_holds 47 = .ok (.invokestatic 465, 3) := by decide +kernel
theorem dX9_holds_50 : decode cX9_holds 50 = .ok (.if_icmp .le 16, 3) := by decide +kernel
theorem dX9_holds_53 : decode cX9_holds 53 = .ok (.aload_n 0, 1) := by decide +kernel
theorem dX9_holds_54 : decode cX9_holds 54 = .ok (.iload 4, 2) := by decide +kernel
theorem dX9_holds_56 : decode cX9_holds 56 = .ok (.iload_n 1, 1) := by decide +kernel
theorem dX9_holds_57 : decode cX9_holds 57 = .ok (.invokevirtual 474, 3) := by decide +kernel
theorem dX9_holds_60 : decode cX9_holds 60 = .ok (.ifCond .eq 6, 3) := by decide +kernel
theorem dX9_holds_63 : decode cX9_holds 63 = .ok (.iload 4, 2) := by decide +kernel
theorem dX9_holds_65 : decode cX9_holds 65 = .ok (.istore_n 3, 1) := by decide +kernel
theorem dX9_holds_66 : decode cX9_holds 66 = .ok (.iinc 4 1, 3) := by decide +kernel
theorem dX9_holds_69 : decode cX9_holds 69 = .ok (.goto (-43), 3) := by decide +kernel
theorem dX9_holds_72 : decode cX9_holds 72 = .ok (.iload_n 2, 1) := by decide +kernel
theorem dX9_holds_73 : decode cX9_holds 73 = .ok (.ifCond .ne 10, 3) := by decide +kernel
theorem dX9_holds_76 : decode cX9_holds 76 = .ok (.iload_n 3, 1) := by decide +kernel
theorem dX9_holds_77 : decode cX9_holds 77 = .ok (.invokestatic 465, 3) := by decide +kernel
theorem dX9_holds_80 : decode cX9_holds 80 = .ok (.goto 4, 3) := by decide +kernel
theorem dX9_holds_83 : decode cX9_holds 83 = .ok (.iload_n 3, 1) := by decide +kernel
theorem dX9_holds_84 : decode cX9_holds 84 = .ok (.ireturn, 1) := by decide +kernel
set_option maxRecDepth 20000 in
theorem vX9_holds {g : zG} {d : Nat} {Q : Int32 → zM → Prop} {M : zM} {l1 : Int32} {l2 : Int32} (h : zCz shM g d mX9_isIn [.int l1, .int 1, .int 9] M (fun b1 M1 => (b1 = false → Q (-1) M1) ∧ (b1 = true → zCz shM g d mX9_isIn [.int l2, .int 0, .int 1] M1 (fun b2 M2 => (b2 = true → zW shM g (d + 1) mX9_holds (zi Q) 26 [(0, .ref 0), (1, .int l1), (2, .int l2), (3, .int 0), (4, .int 1)] [] M2) ∧ (b2 = false → Q (-1) M2))))) : zCi shM g (d + 1) mX9_holds [.ref 0, .int l1, .int l2] M Q := by
  refine zW.enter (by decide +kernel) (Nat.le_of_ble_eq_true rfl) ?_
  change zW shM g (d + 1) mX9_holds (zi Q) 0 [(0, .ref 0), (1, .int l1), (2, .int l2)] [] M
  refine z_iload_n dX9_holds_0 1 rfl ?_
  refine z_iconst (v := 1) dX9_holds_1 (by decide) ?_
  refine z_bipush (v := 9) dX9_holds_2 (by decide) ?_
  refine z_callS (m2 := mX9_isIn) (st := []) [.int l1, .int 1, .int 9] okX9_isIn (Or.inl lkX9_97) rfl rfl (Nat.le_of_ble_eq_true rfl) dX9_holds_4 (zgo_z h fun b1 M1 h => ?_)
  refine z_ifb_eq 19 dX9_holds_7 (by decide) (fun c1 => ?_) (fun c1 => ?_)
  · have h := h.1 c1
    refine z_iconst (v := (-1)) dX9_holds_19 (by decide) ?_
    exact z_iret (st := []) rfl rfl dX9_holds_20 ⟨_, rfl, h⟩
  · have h := h.2 c1
    refine z_iload_n dX9_holds_10 2 rfl ?_
    refine z_iconst (v := 0) dX9_holds_11 (by decide) ?_
    refine z_iconst (v := 1) dX9_holds_12 (by decide) ?_
    refine z_callS (m2 := mX9_isIn) (st := []) [.int l2, .int 0, .int 1] okX9_isIn (Or.inl lkX9_97) rfl rfl (Nat.le_of_ble_eq_true rfl) dX9_holds_13 (zgo_z h fun b2 M2 h => ?_)
    refine z_ifb_ne 21 dX9_holds_16 (by decide) (fun c2 => ?_) (fun c2 => ?_)
    · have h := h.1 c2
      refine z_iconst (v := 0) dX9_holds_21 (by decide) ?_
      refine z_istore_n [(3, .int 0), (0, .ref 0), (1, .int l1), (2, .int l2)] dX9_holds_22 (by decide) rfl ?_
      refine z_iconst (v := 1) dX9_holds_23 (by decide) ?_
      refine z_istore [(4, .int 1), (3, .int 0), (0, .ref 0), (1, .int l1), (2, .int l2)] dX9_holds_24 (by decide) rfl ?_
      exact zW.sub [2, 3, 4, 1, 0] rfl h
    · have h := h.2 c2
      refine z_iconst (v := (-1)) dX9_holds_19 (by decide) ?_
      exact z_iret (st := []) rfl rfl dX9_holds_20 ⟨_, rfl, h⟩
set_option maxRecDepth 20000 in
theorem vX9_holds_26 {g : zG} {d : Nat} {Q : Int32 → zM → Prop} {M : zM} {l1 : Int32} {l2 : Int32} {l3 : Int32} {l4 : Int32} (h : ((1 <<< ((M 1 157) &&& 31)) ≤ l4 → (¬ l2 = 0 → Q l3 M) ∧ (l2 = 0 → zCi shM g d mX9_count [.int l3] M (fun x1 M1 => Q x1 M1))) ∧ (¬ (1 <<< ((M 1 157) &&& 31)) ≤ l4 → zCi shM g d mX9_count [.int l4] M (fun x1 M1 => zCi shM g d mX9_count [.int l3] M1 (fun x2 M2 => (x1 ≤ x2 → zW shM g (d + 1) mX9_holds (zi Q) 26 [(0, .ref 0), (1, .int l1), (2, .int l2), (3, .int l3), (4, .int (l4 + 1))] [] M2) ∧ (¬ x1 ≤ x2 → zCz shM g d mX9_areApart [.ref 0, .int l4, .int l1] M2 (fun b1 M3 => (b1 = false → zW shM g (d + 1) mX9_holds (zi Q) 26 [(0, .ref 0), (1, .int l1), (2, .int l2), (3, .int l3), (4, .int (l4 + 1))] [] M3) ∧ (b1 = true → zW shM g (d + 1) mX9_holds (zi Q) 26 [(0, .ref 0), (1, .int l1), (2, .int l2), (3, .int l4), (4, .int (l4 + 1))] [] M3))))))) : zW shM g (d + 1) mX9_holds (zi Q) 26 [(0, .ref 0), (1, .int l1), (2, .int l2), (3, .int l3), (4, .int l4)] [] M := by
  refine z_iload dX9_holds_26 4 rfl ?_
  refine z_iconst (v := 1) dX9_holds_28 (by decide) ?_
  refine z_aload_n dX9_holds_29 0 rfl ?_
  refine z_getr shM_0 rfl flX9_7 dX9_holds_30 ?_
  refine z_sipush (v := 157) dX9_holds_33 (by decide) ?_
  refine z_iald2 (k0 := 157) shM_1 (by decide) (by decide) (by decide) dX9_holds_36 ?_
  refine z_ishl dX9_holds_37 ?_
  refine z_icmp_ge 72 dX9_holds_38 (by decide) (fun c1 => ?_) (fun c1 => ?_)
  · have h := h.1 c1
    refine z_iload_n dX9_holds_72 2 rfl ?_
    refine z_if_ne 83 dX9_holds_73 (by decide) (fun c2 => ?_) (fun c2 => ?_)
    · have h := h.1 c2
      refine z_iload_n dX9_holds_83 3 rfl ?_
      exact z_iret (st := []) rfl rfl dX9_holds_84 ⟨_, rfl, h⟩
    · have h := h.2 c2
      refine z_iload_n dX9_holds_76 3 rfl ?_
      refine z_callS (m2 := mX9_count) (st := []) [.int l3] okX9_count (Or.inl lkX9_465) rfl rfl (Nat.le_of_ble_eq_true rfl) dX9_holds_77 (zgo_i h fun x1 M1 h => ?_)
      refine z_goto 84 dX9_holds_80 (by decide) ?_
      exact z_iret (st := []) rfl rfl dX9_holds_84 ⟨_, rfl, h⟩
  · have h := h.2 c1
    refine z_iload dX9_holds_41 4 rfl ?_
    refine z_callS (m2 := mX9_count) (st := []) [.int l4] okX9_count (Or.inl lkX9_465) rfl rfl (Nat.le_of_ble_eq_true rfl) dX9_holds_43 (zgo_i h fun x1 M1 h => ?_)
    refine z_iload_n dX9_holds_46 3 rfl ?_
    refine z_callS (m2 := mX9_count) (st := [.int x1]) [.int l3] okX9_count (Or.inl lkX9_465) rfl rfl (Nat.le_of_ble_eq_true rfl) dX9_holds_47 (zgo_i h fun x2 M2 h => ?_)
    refine z_icmp_le 66 dX9_holds_50 (by decide) (fun c2 => ?_) (fun c2 => ?_)
    · have h := h.1 c2
      refine z_iinc (x := l4) (v := (l4 + 1)) [(4, .int (l4 + 1)), (0, .ref 0), (1, .int l1), (2, .int l2), (3, .int l3)] dX9_holds_66 4 rfl rfl (by decide) rfl ?_
      refine z_goto 26 dX9_holds_69 (by decide) ?_
      exact zW.sub [1, 2, 3, 4, 0] rfl h
    · have h := h.2 c2
      refine z_aload_n dX9_holds_53 0 rfl ?_
      refine z_iload dX9_holds_54 4 rfl ?_
      refine z_iload_n dX9_holds_56 1 rfl ?_
      refine z_callV (m2 := mX9_areApart) (st := []) [.int l4, .int l1] okX9_areApart (Or.inl lkX9_474) shM_0 rfl rfl rfl (Nat.le_of_ble_eq_true rfl) dX9_holds_57 (zgo_z h fun b1 M3 h => ?_)
      refine z_ifb_eq 66 dX9_holds_60 (by decide) (fun c3 => ?_) (fun c3 => ?_)
      · have h := h.1 c3
        refine z_iinc (x := l4) (v := (l4 + 1)) [(4, .int (l4 + 1)), (0, .ref 0), (1, .int l1), (2, .int l2), (3, .int l3)] dX9_holds_66 4 rfl rfl (by decide) rfl ?_
        refine z_goto 26 dX9_holds_69 (by decide) ?_
        exact zW.sub [1, 2, 3, 4, 0] rfl h
      · have h := h.2 c3
        refine z_iload dX9_holds_63 4 rfl ?_
        refine z_istore_n [(3, .int l4), (0, .ref 0), (1, .int l1), (2, .int l2), (4, .int l4)] dX9_holds_65 (by decide) rfl ?_
        refine z_iinc (x := l4) (v := (l4 + 1)) [(4, .int (l4 + 1)), (3, .int l4), (0, .ref 0), (1, .int l1), (2, .int l2)] dX9_holds_66 4 rfl rfl (by decide) rfl ?_
        refine z_goto 26 dX9_holds_69 (by decide) ?_
        exact zW.sub [2, 3, 4, 1, 0] rfl h
theorem dX9_comesBy_0 : decode cX9_comesBy 0 = .ok (.aload_n 0, 1) := by decide +kernel
theorem dX9_comesBy_1 : decode cX9_comesBy 1 = .ok (.getfield 75, 3) := by decide +kernel
theorem dX9_comesBy_4 : decode cX9_comesBy 4 = .ok (.iload_n 2, 1) := by decide +kernel
theorem dX9_comesBy_5 : decode cX9_comesBy 5 = .ok (.iaload, 1) := by decide +kernel
theorem dX9_comesBy_6 : decode cX9_comesBy 6 = .ok (.iconst (-1), 1) := by decide +kernel
theorem dX9_comesBy_7 : decode cX9_comesBy 7 = .ok (.if_icmp .eq 4, 3) := by decide +kernel
theorem dX9_comesBy_10 : decode cX9_comesBy 10 = .ok (.return_, 1) := by decide +kernel
theorem dX9_comesBy_11 : decode cX9_comesBy 11 = .ok (.aload_n 0, 1) := by decide +kernel
theorem dX9_comesBy_12 : decode cX9_comesBy 12 = .ok (.getfield 75, 3) := by decide +kernel
theorem dX9_comesBy_15 : decode cX9_comesBy 15 = .ok (.iload_n 2, 1) := by decide +kernel
theorem dX9_comesBy_16 : decode cX9_comesBy 16 = .ok (.iload_n 1, 1) := by decide +kernel
theorem dX9_comesBy_17 : decode cX9_comesBy 17 = .ok (.iastore, 1) := by decide +kernel
theorem dX9_comesBy_18 : decode cX9_comesBy 18 = .ok (.aload_n 0, 1) := by decide +kernel
theorem dX9_comesBy_19 : decode cX9_comesBy 19 = .ok (.getfield 78, 3) := by decide +kernel
theorem dX9_comesBy_22 : decode cX9_comesBy 22 = .ok (.aload_n 0, 1) := by decide +kernel
theorem dX9_comesBy_23 : decode cX9_comesBy 23 = .ok (.getfield 477, 3) := by decide +kernel
theorem dX9_comesBy_26 : decode cX9_comesBy 26 = .ok (.iload_n 2, 1) := by decide +kernel
theorem dX9_comesBy_27 : decode cX9_comesBy 27 = .ok (.iastore, 1) := by decide +kernel
theorem dX9_comesBy_28 : decode cX9_comesBy 28 = .ok (.aload_n 0, 1) := by decide +kernel
theorem dX9_comesBy_29 : decode cX9_comesBy 29 = .ok (.dup, 1) := by decide +kernel
theorem dX9_comesBy_30 : decode cX9_comesBy 30 = .ok (.getfield 477, 3) := by decide +kernel
theorem dX9_comesBy_33 : decode cX9_comesBy 33 = .ok (.iconst 1, 1) := by decide +kernel
theorem dX9_comesBy_34 : decode cX9_comesBy 34 = .ok (.iadd, 1) := by decide +kernel
theorem dX9_comesBy_35 : decode cX9_comesBy 35 = .ok (.putfield 477, 3) := by decide +kernel
theorem dX9_comesBy_38 : decode cX9_comesBy 38 = .ok (.return_, 1) := by decide +kernel
set_option maxRecDepth 20000 in
theorem vX9_comesBy {g : zG} {d : Nat} {Q : zM → Prop} {M : zM} {l1 : Int32} {l2 : Int32} (h : ∃ k1 : Nat, l2 = iv k1 ∧ k1 < 128 ∧ ((M 21 k1) = (-1) → ∃ k2 : Nat, ((zup M 21 k1 l1) 0 45) = iv k2 ∧ k2 < 128 ∧ Q (zup (zup (zup M 21 k1 l1) 22 k2 l2) 0 45 (((zup (zup M 21 k1 l1) 22 k2 l2) 0 45) + 1))) ∧ (¬ (M 21 k1) = (-1) → Q M)) : zCv shM g d mX9_comesBy [.ref 0, .int l1, .int l2] M Q := by
  refine zW.enter (by decide +kernel) (Nat.le_of_ble_eq_true rfl) ?_
  change zW shM g d mX9_comesBy (zv Q) 0 [(0, .ref 0), (1, .int l1), (2, .int l2)] [] M
  refine z_aload_n dX9_comesBy_0 0 rfl ?_
  refine z_getr shM_0 rfl flX9_75 dX9_comesBy_1 ?_
  refine z_iload_n dX9_comesBy_4 2 rfl ?_
  obtain ⟨k1, ek1, uk1, h⟩ := h
  refine z_iald2 (k0 := k1) shM_21 (by decide) ek1 uk1 dX9_comesBy_5 ?_
  refine z_iconst (v := (-1)) dX9_comesBy_6 (by decide) ?_
  refine z_icmp_eq 11 dX9_comesBy_7 (by decide) (fun c1 => ?_) (fun c1 => ?_)
  · have h := h.1 c1
    refine z_aload_n dX9_comesBy_11 0 rfl ?_
    refine z_getr shM_0 rfl flX9_75 dX9_comesBy_12 ?_
    refine z_iload_n dX9_comesBy_15 2 rfl ?_
    refine z_iload_n dX9_comesBy_16 1 rfl ?_
    refine z_iast2 (k0 := k1) shM_21 (by decide) ek1 uk1 dX9_comesBy_17 ?_
    refine z_aload_n dX9_comesBy_18 0 rfl ?_
    refine z_getr shM_0 rfl flX9_78 dX9_comesBy_19 ?_
    refine z_aload_n dX9_comesBy_22 0 rfl ?_
    refine z_geti shM_0 rfl flX9_477 dX9_comesBy_23 ?_
    refine z_iload_n dX9_comesBy_26 2 rfl ?_
    obtain ⟨k2, ek2, uk2, h⟩ := h
    refine z_iast2 (k0 := k2) shM_22 (by decide) ek2 uk2 dX9_comesBy_27 ?_
    refine z_aload_n dX9_comesBy_28 0 rfl ?_
    refine z_dupr dX9_comesBy_29 ?_
    refine z_geti shM_0 rfl flX9_477 dX9_comesBy_30 ?_
    refine z_iconst (v := 1) dX9_comesBy_33 (by decide) ?_
    refine z_iadd dX9_comesBy_34 ?_
    refine z_puti shM_0 rfl fpX9_477 rfl rfl dX9_comesBy_35 ?_
    exact z_vret (st := []) rfl dX9_comesBy_38 ⟨rfl, h⟩
  · have h := h.2 c1
    exact z_vret (st := []) rfl dX9_comesBy_10 ⟨rfl, h⟩
theorem dX9_spreads_0 : decode cX9_spreads 0 = .ok (.iload_n 1, 1) := by decide +kernel
theorem dX9_spreads_1 : decode cX9_spreads 1 = .ok (.bipush 64, 2) := by decide +kernel
theorem dX9_spreads_3 : decode cX9_spreads 3 = .ok (.irem, 1) := by decide +kernel
theorem dX9_spreads_4 : decode cX9_spreads 4 = .ok (.istore_n 3, 1) := by decide +kernel
theorem dX9_spreads_5 : decode cX9_spreads 5 = .ok (.iload_n 1, 1) := by decide +kernel
theorem dX9_spreads_6 : decode cX9_spreads 6 = .ok (.bipush 64, 2) := by decide +kernel
theorem dX9_spreads_8 : decode cX9_spreads 8 = .ok (.if_icmp .ge 81, 3) := by decide +kernel
theorem dX9_spreads_11 : decode cX9_spreads 11 = .ok (.aload_n 0, 1) := by decide +kernel
theorem dX9_spreads_12 : decode cX9_spreads 12 = .ok (.getfield 81, 3) := by decide +kernel
theorem dX9_spreads_15 : decode cX9_spreads 15 = .ok (.iload_n 3, 1) := by decide +kernel
theorem dX9_spreads_16 : decode cX9_spreads 16 = .ok (.baload, 1) := by decide +kernel
theorem dX9_spreads_17 : decode cX9_spreads 17 = .ok (.ifCond .ne 12, 3) := by decide +kernel
theorem dX9_spreads_20 : decode cX9_spreads 20 = .ok (.aload_n 0, 1) := by decide +kernel
theorem dX9_spreads_21 : decode cX9_spreads 21 = .ok (.iload_n 1, 1) := by decide +kernel
theorem dX9_spreads_22 : decode cX9_spreads 22 = .ok (.iload_n 3, 1) := by decide +kernel
theorem dX9_spreads_23 : decode cX9_spreads 23 = .ok (.bipush 64, 2) := by decide +kernel
theorem dX9_spreads_25 : decode cX9_spreads 25 = .ok (.iadd, 1) := by decide +kernel
theorem dX9_spreads_26 : decode cX9_spreads 26 = .ok (.invokevirtual 480, 3) := by decide +kernel
theorem dX9_spreads_29 : decode cX9_spreads 29 = .ok (.iconst 0, 1) := by decide +kernel
theorem dX9_spreads_30 : decode cX9_spreads 30 = .ok (.istore 4, 2) := by decide +kernel
theorem dX9_spreads_32 : decode cX9_spreads 32 = .ok (.iload 4, 2) := by decide +kernel
theorem dX9_spreads_34 : decode cX9_spreads 34 = .ok (.iconst 4, 1) := by decide +kernel
theorem dX9_spreads_35 : decode cX9_spreads 35 = .ok (.if_icmp .ge 53, 3) := by decide +kernel
theorem dX9_spreads_38 : decode cX9_spreads 38 = .ok (.aload_n 0, 1) := by decide +kernel
theorem dX9_spreads_39 : decode cX9_spreads 39 = .ok (.iload_n 3, 1) := by decide +kernel
theorem dX9_spreads_40 : decode cX9_spreads 40 = .ok (.iload 4, 2) := by decide +kernel
theorem dX9_spreads_42 : decode cX9_spreads 42 = .ok (.invokevirtual 369, 3) := by decide +kernel
theorem dX9_spreads_45 : decode cX9_spreads 45 = .ok (.istore 5, 2) := by decide +kernel
theorem dX9_spreads_47 : decode cX9_spreads 47 = .ok (.iload 5, 2) := by decide +kernel
theorem dX9_spreads_49 : decode cX9_spreads 49 = .ok (.iload_n 3, 1) := by decide +kernel
theorem dX9_spreads_50 : decode cX9_spreads 50 = .ok (.if_icmp .eq 32, 3) := by decide +kernel
theorem dX9_spreads_53 : decode cX9_spreads 53 = .ok (.aload_n 0, 1) := by decide +kernel
theorem dX9_spreads_54 : decode cX9_spreads 54 = .ok (.getfield 84, 3) := by decide +kernel
theorem dX9_spreads_57 : decode cX9_spreads 57 = .ok (.iconst 4, 1) := by decide +kernel
theorem dX9_spreads_58 : decode cX9_spreads 58 = .ok (.iload 5, 2) := by decide +kernel
theorem dX9_spreads_60 : decode cX9_spreads 60 = .ok (.imul, 1) := by decide +kernel
theorem dX9_spreads_61 : decode cX9_spreads 61 = .ok (.iload 4, 2) := by decide +kernel
theorem dX9_spreads_63 : decode cX9_spreads 63 = .ok (.iconst 2, 1) := by decide +kernel
theorem dX9_spreads_64 : decode cX9_spreads 64 = .ok (.iadd, 1) := by decide +kernel
theorem dX9_spreads_65 : decode cX9_spreads 65 = .ok (.iconst 4, 1) := by decide +kernel
theorem dX9_spreads_66 : decode cX9_spreads 66 = .ok (.irem, 1) := by decide +kernel
theorem dX9_spreads_67 : decode cX9_spreads 67 = .ok (.iadd, 1) := by decide +kernel
theorem dX9_spreads_68 : decode cX9_spreads 68 = .ok (.baload, 1) := by decide +kernel
theorem dX9_spreads_69 : decode cX9_spreads 69 = .ok (.ifCond .eq 13, 3) := by decide +kernel
theorem dX9_spreads_72 : decode cX9_spreads 72 = .ok (.aload_n 0, 1) := by decide +kernel
theorem dX9_spreads_73 : decode cX9_spreads 73 = .ok (.iload_n 1, 1) := by decide +kernel
theorem dX9_spreads_74 : decode cX9_spreads 74 = .ok (.iload 5, 2) := by decide +kernel
theorem dX9_spreads_76 : decode cX9_spreads 76 = .ok (.bipush 64, 2) := by decide +kernel
theorem dX9_spreads_78 : decode cX9_spreads 78 = .ok (.iadd, 1) := by decide +kernel
theorem dX9_spreads_79 : decode cX9_spreads 79 = .ok (.invokevirtual 480, 3) := by decide +kernel
theorem dX9_spreads_82 : decode cX9_spreads 82 = .ok (.iinc 4 1, 3) := by decide +kernel
theorem dX9_spreads_85 : decode cX9_spreads 85 = .ok (.goto (-53), 3) := by decide +kernel
theorem dX9_spreads_88 : decode cX9_spreads 88 = .ok (.return_, 1) := by decide +kernel
theorem dX9_spreads_89 : decode cX9_spreads 89 = .ok (.aload_n 0, 1) := by decide +kernel
theorem dX9_spreads_90 : decode cX9_spreads 90 = .ok (.getfield 81, 3) := by decide +kernel
theorem dX9_spreads_93 : decode cX9_spreads 93 = .ok (.iload_n 3, 1) := by decide +kernel
theorem dX9_spreads_94 : decode cX9_spreads 94 = .ok (.baload, 1) := by decide +kernel
theorem dX9_spreads_95 : decode cX9_spreads 95 = .ok (.ifCond .eq 14, 3) := by decide +kernel
theorem dX9_spreads_98 : decode cX9_spreads 98 = .ok (.iload_n 3, 1) := by decide +kernel
theorem dX9_spreads_99 : decode cX9_spreads 99 = .ok (.iload_n 2, 1) := by decide +kernel
theorem dX9_spreads_100 : decode cX9_spreads 100 = .ok (.if_icmp .eq 9, 3) := by decide +kernel
theorem dX9_spreads_103 : decode cX9_spreads 103 = .ok (.aload_n 0, 1) := by decide +kernel
theorem dX9_spreads_104 : decode cX9_spreads 104 = .ok (.iload_n 1, 1) := by decide +kernel
theorem dX9_spreads_105 : decode cX9_spreads 105 = .ok (.iload_n 3, 1) := by decide +kernel
theorem dX9_spreads_106 : decode cX9_spreads 106 = .ok (.invokevirtual 480, 3) := by decide +kernel
theorem dX9_spreads_109 : decode cX9_spreads 109 = .ok (.iconst 0, 1) := by decide +kernel
theorem dX9_spreads_110 : decode cX9_spreads 110 = .ok (.istore 4, 2) := by decide +kernel
theorem dX9_spreads_112 : decode cX9_spreads 112 = .ok (.iload 4, 2) := by decide +kernel
theorem dX9_spreads_114 : decode cX9_spreads 114 = .ok (.iconst 4, 1) := by decide +kernel
theorem dX9_spreads_115 : decode cX9_spreads 115 = .ok (.if_icmp .ge 45, 3) := by decide +kernel
theorem dX9_spreads_118 : decode cX9_spreads 118 = .ok (.aload_n 0, 1) := by decide +kernel
theorem dX9_spreads_119 : decode cX9_spreads 119 = .ok (.iload_n 3, 1) := by decide +kernel
theorem dX9_spreads_120 : decode cX9_spreads 120 = .ok (.iload 4, 2) := by decide +kernel
theorem dX9_spreads_122 : decode cX9_spreads 122 = .ok (.invokevirtual 369, 3) := by decide +kernel
theorem dX9_spreads_125 : decode cX9_spreads 125 = .ok (.istore 5, 2) := by decide +kernel
theorem dX9_spreads_127 : decode cX9_spreads 127 = .ok (.iload 5, 2) := by decide +kernel
theorem dX9_spreads_129 : decode cX9_spreads 129 = .ok (.iload_n 3, 1) := by decide +kernel
theorem dX9_spreads_130 : decode cX9_spreads 130 = .ok (.if_icmp .eq 24, 3) := by decide +kernel
theorem dX9_spreads_133 : decode cX9_spreads 133 = .ok (.aload_n 0, 1) := by decide +kernel
theorem dX9_spreads_134 : decode cX9_spreads 134 = .ok (.getfield 84, 3) := by decide +kernel
theorem dX9_spreads_137 : decode cX9_spreads 137 = .ok (.iconst 4, 1) := by decide +kernel
theorem dX9_spreads_138 : decode cX9_spreads 138 = .ok (.iload_n 3, 1) := by decide +kernel
theorem dX9_spreads_139 : decode cX9_spreads 139 = .ok (.imul, 1) := by decide +kernel
theorem dX9_spreads_140 : decode cX9_spreads 140 = .ok (.iload 4, 2) := by decide +kernel
theorem dX9_spreads_142 : decode cX9_spreads 142 = .ok (.iadd, 1) := by decide +kernel
theorem dX9_spreads_143 : decode cX9_spreads 143 = .ok (.baload, 1) := by decide +kernel
theorem dX9_spreads_144 : decode cX9_spreads 144 = .ok (.ifCond .ne 10, 3) := by decide +kernel
theorem dX9_spreads_147 : decode cX9_spreads 147 = .ok (.aload_n 0, 1) := by decide +kernel
theorem dX9_spreads_148 : decode cX9_spreads 148 = .ok (.iload_n 1, 1) := by decide +kernel
theorem dX9_spreads_149 : decode cX9_spreads 149 = .ok (.iload 5, 2) := by decide +kernel
theorem dX9_spreads_151 : decode cX9_spreads 151 = .ok (.invokevirtual 480, 3) := by decide +kernel
theorem dX9_spreads_154 : decode cX9_spreads 154 = .ok (.iinc 4 1, 3) := by decide +kernel
theorem dX9_spreads_157 : decode cX9_spreads 157 = .ok (.goto (-45), 3) := by decide +kernel
theorem dX9_spreads_160 : decode cX9_spreads 160 = .ok (.return_, 1) := by decide +kernel
set_option maxRecDepth 20000 in
theorem vX9_spreads {g : zG} {d : Nat} {Q : zM → Prop} {M : zM} {l1 : Int32} {l2 : Int32} (h : (64 ≤ l1 → ∃ k1 : Nat, (l1 - l1 / 64 * 64) = iv k1 ∧ k1 < 64 ∧ ((M 23 k1) = 0 → zW shM g (d + 1) mX9_spreads (zv Q) 112 [(0, .ref 0), (1, .int l1), (3, .int (l1 - l1 / 64 * 64)), (4, .int 0)] [] M) ∧ (¬ (M 23 k1) = 0 → ((l1 - l1 / 64 * 64) = l2 → zW shM g (d + 1) mX9_spreads (zv Q) 112 [(0, .ref 0), (1, .int l1), (3, .int (l1 - l1 / 64 * 64)), (4, .int 0)] [] M) ∧ (¬ (l1 - l1 / 64 * 64) = l2 → zCv shM g d mX9_comesBy [.ref 0, .int l1, .int (l1 - l1 / 64 * 64)] M (fun  M1 => zW shM g (d + 1) mX9_spreads (zv Q) 112 [(0, .ref 0), (1, .int l1), (3, .int (l1 - l1 / 64 * 64)), (4, .int 0)] [] M1)))) ∧ (¬ 64 ≤ l1 → ∃ k1 : Nat, (l1 - l1 / 64 * 64) = iv k1 ∧ k1 < 64 ∧ (¬ (M 23 k1) = 0 → zW shM g (d + 1) mX9_spreads (zv Q) 32 [(0, .ref 0), (1, .int l1), (3, .int (l1 - l1 / 64 * 64)), (4, .int 0)] [] M) ∧ ((M 23 k1) = 0 → zCv shM g d mX9_comesBy [.ref 0, .int l1, .int ((l1 - l1 / 64 * 64) + 64)] M (fun  M1 => zW shM g (d + 1) mX9_spreads (zv Q) 32 [(0, .ref 0), (1, .int l1), (3, .int (l1 - l1 / 64 * 64)), (4, .int 0)] [] M1)))) : zCv shM g (d + 1) mX9_spreads [.ref 0, .int l1, .int l2] M Q := by
  refine zW.enter (by decide +kernel) (Nat.le_of_ble_eq_true rfl) ?_
  change zW shM g (d + 1) mX9_spreads (zv Q) 0 [(0, .ref 0), (1, .int l1), (2, .int l2)] [] M
  refine z_iload_n dX9_spreads_0 1 rfl ?_
  refine z_bipush (v := 64) dX9_spreads_1 (by decide) ?_
  refine z_irem dX9_spreads_3 (by decide) ?_
  refine z_istore_n [(3, .int (l1 - l1 / 64 * 64)), (0, .ref 0), (1, .int l1), (2, .int l2)] dX9_spreads_4 (by decide) rfl ?_
  refine z_iload_n dX9_spreads_5 2 rfl ?_
  refine z_bipush (v := 64) dX9_spreads_6 (by decide) ?_
  refine z_icmp_ge 89 dX9_spreads_8 (by decide) (fun c1 => ?_) (fun c1 => ?_)
  · have h := h.1 c1
    refine z_aload_n dX9_spreads_89 1 rfl ?_
    refine z_getr shM_0 rfl flX9_81 dX9_spreads_90 ?_
    refine z_iload_n dX9_spreads_93 0 rfl ?_
    obtain ⟨k1, ek1, uk1, h⟩ := h
    refine z_zald2 (k0 := k1) shM_23 (by decide) ek1 uk1 dX9_spreads_94 ?_
    refine z_if_eq 109 dX9_spreads_95 (by decide) (fun c2 => ?_) (fun c2 => ?_)
    · have h := h.1 c2
      refine z_iconst (v := 0) dX9_spreads_109 (by decide) ?_
      refine z_istore [(4, .int 0), (3, .int (l1 - l1 / 64 * 64)), (0, .ref 0), (1, .int l1), (2, .int l2)] dX9_spreads_110 (by decide) rfl ?_
      exact zW.sub [2, 3, 1, 0] rfl h
    · have h := h.2 c2
      refine z_iload_n dX9_spreads_98 0 rfl ?_
      refine z_iload_n dX9_spreads_99 3 rfl ?_
      refine z_icmp_eq 109 dX9_spreads_100 (by decide) (fun c3 => ?_) (fun c3 => ?_)
      · have h := h.1 c3
        refine z_iconst (v := 0) dX9_spreads_109 (by decide) ?_
        refine z_istore [(4, .int 0), (3, .int (l1 - l1 / 64 * 64)), (0, .ref 0), (1, .int l1), (2, .int l2)] dX9_spreads_110 (by decide) rfl ?_
        exact zW.sub [2, 3, 1, 0] rfl h
      · have h := h.2 c3
        refine z_aload_n dX9_spreads_103 1 rfl ?_
        refine z_iload_n dX9_spreads_104 2 rfl ?_
        refine z_iload_n dX9_spreads_105 0 rfl ?_
        refine z_callV (m2 := mX9_comesBy) (st := []) [.int l1, .int (l1 - l1 / 64 * 64)] okX9_comesBy (Or.inl lkX9_480) shM_0 rfl rfl rfl (Nat.le_of_ble_eq_true rfl) dX9_spreads_106 (zgo_v h fun  M1 h => ?_)
        refine z_iconst (v := 0) dX9_spreads_109 (by decide) ?_
        refine z_istore [(4, .int 0), (3, .int (l1 - l1 / 64 * 64)), (0, .ref 0), (1, .int l1), (2, .int l2)] dX9_spreads_110 (by decide) rfl ?_
        exact zW.sub [2, 3, 1, 0] rfl h
  · have h := h.2 c1
    refine z_aload_n dX9_spreads_11 1 rfl ?_
    refine z_getr shM_0 rfl flX9_81 dX9_spreads_12 ?_
    refine z_iload_n dX9_spreads_15 0 rfl ?_
    obtain ⟨k1, ek1, uk1, h⟩ := h
    refine z_zald2 (k0 := k1) shM_23 (by decide) ek1 uk1 dX9_spreads_16 ?_
    refine z_if_ne 29 dX9_spreads_17 (by decide) (fun c2 => ?_) (fun c2 => ?_)
    · have h := h.1 c2
      refine z_iconst (v := 0) dX9_spreads_29 (by decide) ?_
      refine z_istore [(4, .int 0), (3, .int (l1 - l1 / 64 * 64)), (0, .ref 0), (1, .int l1), (2, .int l2)] dX9_spreads_30 (by decide) rfl ?_
      exact zW.sub [2, 3, 1, 0] rfl h
    · have h := h.2 c2
      refine z_aload_n dX9_spreads_20 1 rfl ?_
      refine z_iload_n dX9_spreads_21 2 rfl ?_
      refine z_iload_n dX9_spreads_22 0 rfl ?_
      refine z_bipush (v := 64) dX9_spreads_23 (by decide) ?_
      refine z_iadd dX9_spreads_25 ?_
      refine z_callV (m2 := mX9_comesBy) (st := []) [.int l1, .int ((l1 - l1 / 64 * 64) + 64)] okX9_comesBy (Or.inl lkX9_480) shM_0 rfl rfl rfl (Nat.le_of_ble_eq_true rfl) dX9_spreads_26 (zgo_v h fun  M1 h => ?_)
      refine z_iconst (v := 0) dX9_spreads_29 (by decide) ?_
      refine z_istore [(4, .int 0), (3, .int (l1 - l1 / 64 * 64)), (0, .ref 0), (1, .int l1), (2, .int l2)] dX9_spreads_30 (by decide) rfl ?_
      exact zW.sub [2, 3, 1, 0] rfl h
set_option maxRecDepth 20000 in
theorem vX9_spreads_32 {g : zG} {d : Nat} {Q : zM → Prop} {M : zM} {l1 : Int32} {l3 : Int32} {l4 : Int32} (h : (4 ≤ l4 → Q M) ∧ (¬ 4 ≤ l4 → zCi shM g d mX9_wentTo [.ref 0, .int l3, .int l4] M (fun x1 M1 => (x1 = l3 → zW shM g (d + 1) mX9_spreads (zv Q) 32 [(0, .ref 0), (1, .int l1), (3, .int l3), (4, .int (l4 + 1))] [] M1) ∧ (¬ x1 = l3 → ∃ k1 : Nat, ((4 * x1) + ((l4 + 2) - (l4 + 2) / 4 * 4)) = iv k1 ∧ k1 < 256 ∧ ((M1 24 k1) = 0 → zW shM g (d + 1) mX9_spreads (zv Q) 32 [(0, .ref 0), (1, .int l1), (3, .int l3), (4, .int (l4 + 1))] [] M1) ∧ (¬ (M1 24 k1) = 0 → zCv shM g d mX9_comesBy [.ref 0, .int l1, .int (x1 + 64)] M1 (fun  M2 => zW shM g (d + 1) mX9_spreads (zv Q) 32 [(0, .ref 0), (1, .int l1), (3, .int l3), (4, .int (l4 + 1))] [] M2)))))) : zW shM g (d + 1) mX9_spreads (zv Q) 32 [(0, .ref 0), (1, .int l1), (3, .int l3), (4, .int l4)] [] M := by
  refine z_iload dX9_spreads_32 3 rfl ?_
  refine z_iconst (v := 4) dX9_spreads_34 (by decide) ?_
  refine z_icmp_ge 88 dX9_spreads_35 (by decide) (fun c1 => ?_) (fun c1 => ?_)
  · have h := h.1 c1
    exact z_vret (st := []) rfl dX9_spreads_88 ⟨rfl, h⟩
  · have h := h.2 c1
    refine z_aload_n dX9_spreads_38 0 rfl ?_
    refine z_iload_n dX9_spreads_39 2 rfl ?_
    refine z_iload dX9_spreads_40 3 rfl ?_
    refine z_callV (m2 := mX9_wentTo) (st := []) [.int l3, .int l4] okX9_wentTo (Or.inl lkX9_369) shM_0 rfl rfl rfl (Nat.le_of_ble_eq_true rfl) dX9_spreads_42 (zgo_i h fun x1 M1 h => ?_)
    refine z_istore [(5, .int x1), (0, .ref 0), (1, .int l1), (3, .int l3), (4, .int l4)] dX9_spreads_45 (by decide) rfl ?_
    refine z_iload dX9_spreads_47 0 rfl ?_
    refine z_iload_n dX9_spreads_49 3 rfl ?_
    refine z_icmp_eq 82 dX9_spreads_50 (by decide) (fun c2 => ?_) (fun c2 => ?_)
    · have h := h.1 c2
      refine z_iinc (x := l4) (v := (l4 + 1)) [(4, .int (l4 + 1)), (5, .int x1), (0, .ref 0), (1, .int l1), (3, .int l3)] dX9_spreads_82 4 rfl rfl (by decide) rfl ?_
      refine z_goto 32 dX9_spreads_85 (by decide) ?_
      exact zW.sub [2, 3, 4, 0] rfl h
    · have h := h.2 c2
      refine z_aload_n dX9_spreads_53 1 rfl ?_
      refine z_getr shM_0 rfl flX9_84 dX9_spreads_54 ?_
      refine z_iconst (v := 4) dX9_spreads_57 (by decide) ?_
      refine z_iload dX9_spreads_58 0 rfl ?_
      refine z_imul dX9_spreads_60 ?_
      refine z_iload dX9_spreads_61 4 rfl ?_
      refine z_iconst (v := 2) dX9_spreads_63 (by decide) ?_
      refine z_iadd dX9_spreads_64 ?_
      refine z_iconst (v := 4) dX9_spreads_65 (by decide) ?_
      refine z_irem dX9_spreads_66 (by decide) ?_
      refine z_iadd dX9_spreads_67 ?_
      obtain ⟨k1, ek1, uk1, h⟩ := h
      refine z_zald2 (k0 := k1) shM_24 (by decide) ek1 uk1 dX9_spreads_68 ?_
      refine z_if_eq 82 dX9_spreads_69 (by decide) (fun c3 => ?_) (fun c3 => ?_)
      · have h := h.1 c3
        refine z_iinc (x := l4) (v := (l4 + 1)) [(4, .int (l4 + 1)), (5, .int x1), (0, .ref 0), (1, .int l1), (3, .int l3)] dX9_spreads_82 4 rfl rfl (by decide) rfl ?_
        refine z_goto 32 dX9_spreads_85 (by decide) ?_
        exact zW.sub [2, 3, 4, 0] rfl h
      · have h := h.2 c3
        refine z_aload_n dX9_spreads_72 1 rfl ?_
        refine z_iload_n dX9_spreads_73 2 rfl ?_
        refine z_iload dX9_spreads_74 0 rfl ?_
        refine z_bipush (v := 64) dX9_spreads_76 (by decide) ?_
        refine z_iadd dX9_spreads_78 ?_
        refine z_callV (m2 := mX9_comesBy) (st := []) [.int l1, .int (x1 + 64)] okX9_comesBy (Or.inl lkX9_480) shM_0 rfl rfl rfl (Nat.le_of_ble_eq_true rfl) dX9_spreads_79 (zgo_v h fun  M2 h => ?_)
        refine z_iinc (x := l4) (v := (l4 + 1)) [(4, .int (l4 + 1)), (5, .int x1), (0, .ref 0), (1, .int l1), (3, .int l3)] dX9_spreads_82 4 rfl rfl (by decide) rfl ?_
        refine z_goto 32 dX9_spreads_85 (by decide) ?_
        exact zW.sub [2, 3, 4, 0] rfl h
set_option maxRecDepth 20000 in
theorem vX9_spreads_112 {g : zG} {d : Nat} {Q : zM → Prop} {M : zM} {l1 : Int32} {l3 : Int32} {l4 : Int32} (h : (4 ≤ l4 → Q M) ∧ (¬ 4 ≤ l4 → zCi shM g d mX9_wentTo [.ref 0, .int l3, .int l4] M (fun x1 M1 => (x1 = l3 → zW shM g (d + 1) mX9_spreads (zv Q) 112 [(0, .ref 0), (1, .int l1), (3, .int l3), (4, .int (l4 + 1))] [] M1) ∧ (¬ x1 = l3 → ∃ k1 : Nat, ((4 * l3) + l4) = iv k1 ∧ k1 < 256 ∧ (¬ (M1 24 k1) = 0 → zW shM g (d + 1) mX9_spreads (zv Q) 112 [(0, .ref 0), (1, .int l1), (3, .int l3), (4, .int (l4 + 1))] [] M1) ∧ ((M1 24 k1) = 0 → zCv shM g d mX9_comesBy [.ref 0, .int l1, .int x1] M1 (fun  M2 => zW shM g (d + 1) mX9_spreads (zv Q) 112 [(0, .ref 0), (1, .int l1), (3, .int l3), (4, .int (l4 + 1))] [] M2)))))) : zW shM g (d + 1) mX9_spreads (zv Q) 112 [(0, .ref 0), (1, .int l1), (3, .int l3), (4, .int l4)] [] M := by
  refine z_iload dX9_spreads_112 3 rfl ?_
  refine z_iconst (v := 4) dX9_spreads_114 (by decide) ?_
  refine z_icmp_ge 160 dX9_spreads_115 (by decide) (fun c1 => ?_) (fun c1 => ?_)
  · have h := h.1 c1
    exact z_vret (st := []) rfl dX9_spreads_160 ⟨rfl, h⟩
  · have h := h.2 c1
    refine z_aload_n dX9_spreads_118 0 rfl ?_
    refine z_iload_n dX9_spreads_119 2 rfl ?_
    refine z_iload dX9_spreads_120 3 rfl ?_
    refine z_callV (m2 := mX9_wentTo) (st := []) [.int l3, .int l4] okX9_wentTo (Or.inl lkX9_369) shM_0 rfl rfl rfl (Nat.le_of_ble_eq_true rfl) dX9_spreads_122 (zgo_i h fun x1 M1 h => ?_)
    refine z_istore [(5, .int x1), (0, .ref 0), (1, .int l1), (3, .int l3), (4, .int l4)] dX9_spreads_125 (by decide) rfl ?_
    refine z_iload dX9_spreads_127 0 rfl ?_
    refine z_iload_n dX9_spreads_129 3 rfl ?_
    refine z_icmp_eq 154 dX9_spreads_130 (by decide) (fun c2 => ?_) (fun c2 => ?_)
    · have h := h.1 c2
      refine z_iinc (x := l4) (v := (l4 + 1)) [(4, .int (l4 + 1)), (5, .int x1), (0, .ref 0), (1, .int l1), (3, .int l3)] dX9_spreads_154 4 rfl rfl (by decide) rfl ?_
      refine z_goto 112 dX9_spreads_157 (by decide) ?_
      exact zW.sub [2, 3, 4, 0] rfl h
    · have h := h.2 c2
      refine z_aload_n dX9_spreads_133 1 rfl ?_
      refine z_getr shM_0 rfl flX9_84 dX9_spreads_134 ?_
      refine z_iconst (v := 4) dX9_spreads_137 (by decide) ?_
      refine z_iload_n dX9_spreads_138 3 rfl ?_
      refine z_imul dX9_spreads_139 ?_
      refine z_iload dX9_spreads_140 4 rfl ?_
      refine z_iadd dX9_spreads_142 ?_
      obtain ⟨k1, ek1, uk1, h⟩ := h
      refine z_zald2 (k0 := k1) shM_24 (by decide) ek1 uk1 dX9_spreads_143 ?_
      refine z_if_ne 154 dX9_spreads_144 (by decide) (fun c3 => ?_) (fun c3 => ?_)
      · have h := h.1 c3
        refine z_iinc (x := l4) (v := (l4 + 1)) [(4, .int (l4 + 1)), (5, .int x1), (0, .ref 0), (1, .int l1), (3, .int l3)] dX9_spreads_154 4 rfl rfl (by decide) rfl ?_
        refine z_goto 112 dX9_spreads_157 (by decide) ?_
        exact zW.sub [2, 3, 4, 0] rfl h
      · have h := h.2 c3
        refine z_aload_n dX9_spreads_147 1 rfl ?_
        refine z_iload_n dX9_spreads_148 2 rfl ?_
        refine z_iload dX9_spreads_149 0 rfl ?_
        refine z_callV (m2 := mX9_comesBy) (st := []) [.int l1, .int x1] okX9_comesBy (Or.inl lkX9_480) shM_0 rfl rfl rfl (Nat.le_of_ble_eq_true rfl) dX9_spreads_151 (zgo_v h fun  M2 h => ?_)
        refine z_iinc (x := l4) (v := (l4 + 1)) [(4, .int (l4 + 1)), (5, .int x1), (0, .ref 0), (1, .int l1), (3, .int l3)] dX9_spreads_154 4 rfl rfl (by decide) rfl ?_
        refine z_goto 112 dX9_spreads_157 (by decide) ?_
        exact zW.sub [2, 3, 4, 0] rfl h
theorem dX9_oneMore_0 : decode cX9_oneMore 0 = .ok (.iconst 0, 1) := by decide +kernel
theorem dX9_oneMore_1 : decode cX9_oneMore 1 = .ok (.istore_n 3, 1) := by decide +kernel
theorem dX9_oneMore_2 : decode cX9_oneMore 2 = .ok (.iload_n 3, 1) := by decide +kernel
theorem dX9_oneMore_3 : decode cX9_oneMore 3 = .ok (.sipush 128, 3) := by decide +kernel
theorem dX9_oneMore_6 : decode cX9_oneMore 6 = .ok (.if_icmp .ge 16, 3) := by decide +kernel
theorem dX9_oneMore_9 : decode cX9_oneMore 9 = .ok (.aload_n 0, 1) := by decide +kernel
theorem dX9_oneMore_10 : decode cX9_oneMore 10 = .ok (.getfield 75, 3) := by decide +kernel
theorem dX9_oneMore_13 : decode cX9_oneMore 13 = .ok (.iload_n 3, 1) := by decide +kernel
theorem dX9_oneMore_14 : decode cX9_oneMore 14 = .ok (.iconst (-1), 1) := by decide +kernel
theorem dX9_oneMore_15 : decode cX9_oneMore 15 = .ok (.iastore, 1) := by decide +kernel
theorem dX9_oneMore_16 : decode cX9_oneMore 16 = .ok (.iinc 3 1, 3) := by decide +kernel
theorem dX9_oneMore_19 : decode cX9_oneMore 19 = .ok (.goto (-17), 3) := by decide +kernel
theorem dX9_oneMore_22 : decode cX9_oneMore 22 = .ok (.aload_n 0, 1) := by decide +kernel
theorem dX9_oneMore_23 : decode cX9_oneMore 23 = .ok (.iconst 0, 1) := by decide +kernel
theorem dX9_oneMore_24 : decode cX9_oneMore 24 = .ok (.putfield 477, 3) := by decide +kernel
theorem dX9_oneMore_27 : decode cX9_oneMore 27 = .ok (.aload_n 0, 1) := by decide +kernel
theorem dX9_oneMore_28 : decode cX9_oneMore 28 = .ok (.getfield 75, 3) := by decide +kernel
theorem dX9_oneMore_31 : decode cX9_oneMore 31 = .ok (.iload_n 1, 1) := by decide +kernel
theorem dX9_oneMore_32 : decode cX9_oneMore 32 = .ok (.iload_n 1, 1) := by decide +kernel
theorem dX9_oneMore_33 : decode cX9_oneMore 33 = .ok (.iastore, 1) := by decide +kernel
theorem dX9_oneMore_34 : decode cX9_oneMore 34 = .ok (.aload_n 0, 1) := by decide +kernel
theorem dX9_oneMore_35 : decode cX9_oneMore 35 = .ok (.iload_n 1, 1) := by decide +kernel
theorem dX9_oneMore_36 : decode cX9_oneMore 36 = .ok (.bipush 64, 2) := by decide +kernel
theorem dX9_oneMore_38 : decode cX9_oneMore 38 = .ok (.iadd, 1) := by decide +kernel
theorem dX9_oneMore_39 : decode cX9_oneMore 39 = .ok (.iload_n 1, 1) := by decide +kernel
theorem dX9_oneMore_40 : decode cX9_oneMore 40 = .ok (.bipush 64, 2) := by decide +kernel
theorem dX9_oneMore_42 : decode cX9_oneMore 42 = .ok (.iadd, 1) := by decide +kernel
theorem dX9_oneMore_43 : decode cX9_oneMore 43 = .ok (.invokevirtual 480, 3) := by decide +kernel
theorem dX9_oneMore_46 : decode cX9_oneMore 46 = .ok (.iconst 0, 1) := by decide +kernel
theorem dX9_oneMore_47 : decode cX9_oneMore 47 = .ok (.istore_n 3, 1) := by decide +kernel
theorem dX9_oneMore_48 : decode cX9_oneMore 48 = .ok (.iload_n 3, 1) := by decide +kernel
theorem dX9_oneMore_49 : decode cX9_oneMore 49 = .ok (.aload_n 0, 1) := by decide +kernel
theorem dX9_oneMore_50 : decode cX9_oneMore 50 = .ok (.getfield 477, 3) := by decide +kernel
theorem dX9_oneMore_53 : decode cX9_oneMore 53 = .ok (.if_icmp .ge 30, 3) := by decide +kernel
theorem dX9_oneMore_56 : decode cX9_oneMore 56 = .ok (.aload_n 0, 1) := by decide +kernel
theorem dX9_oneMore_57 : decode cX9_oneMore 57 = .ok (.getfield 75, 3) := by decide +kernel
theorem dX9_oneMore_60 : decode cX9_oneMore 60 = .ok (.iload_n 2, 1) := by decide +kernel
theorem dX9_oneMore_61 : decode cX9_oneMore 61 = .ok (.iaload, 1) := by decide +kernel
theorem dX9_oneMore_62 : decode cX9_oneMore 62 = .ok (.iconst (-1), 1) := by decide +kernel
theorem dX9_oneMore_63 : decode cX9_oneMore 63 = .ok (.if_icmp .ne 20, 3) := by decide +kernel
theorem dX9_oneMore_66 : decode cX9_oneMore 66 = .ok (.aload_n 0, 1) := by decide +kernel
theorem dX9_oneMore_67 : decode cX9_oneMore 67 = .ok (.aload_n 0, 1) := by decide +kernel
theorem dX9_oneMore_68 : decode cX9_oneMore 68 = .ok (.getfield 78, 3) := by decide +kernel
theorem dX9_oneMore_71 : decode cX9_oneMore 71 = .ok (.iload_n 3, 1) := by decide +kernel
theorem dX9_oneMore_72 : decode cX9_oneMore 72 = .ok (.iaload, 1) := by decide +kernel
theorem dX9_oneMore_73 : decode cX9_oneMore 73 = .ok (.iload_n 1, 1) := by decide +kernel
theorem dX9_oneMore_74 : decode cX9_oneMore 74 = .ok (.invokevirtual 483, 3) := by decide +kernel
theorem dX9_oneMore_77 : decode cX9_oneMore 77 = .ok (.iinc 3 1, 3) := by decide +kernel
theorem dX9_oneMore_80 : decode cX9_oneMore 80 = .ok (.goto (-32), 3) := by decide +kernel
theorem dX9_oneMore_83 : decode cX9_oneMore 83 = .ok (.aload_n 0, 1) := by decide +kernel
theorem dX9_oneMore_84 : decode cX9_oneMore 84 = .ok (.getfield 75, 3) := by decide +kernel
theorem dX9_oneMore_87 : decode cX9_oneMore 87 = .ok (.iload_n 2, 1) := by decide +kernel
theorem dX9_oneMore_88 : decode cX9_oneMore 88 = .ok (.iaload, 1) := by decide +kernel
theorem dX9_oneMore_89 : decode cX9_oneMore 89 = .ok (.iconst (-1), 1) := by decide +kernel
theorem dX9_oneMore_90 : decode cX9_oneMore 90 = .ok (.if_icmp .ne 5, 3) := by decide +kernel
theorem dX9_oneMore_93 : decode cX9_oneMore 93 = .ok (.iconst 0, 1) := by decide +kernel
theorem dX9_oneMore_94 : decode cX9_oneMore 94 = .ok (.ireturn, 1) := by decide +kernel
theorem dX9_oneMore_95 : decode cX9_oneMore 95 = .ok (.aload_n 0, 1) := by decide +kernel
theorem dX9_oneMore_96 : decode cX9_oneMore 96 = .ok (.iload_n 1, 1) := by decide +kernel
theorem dX9_oneMore_97 : decode cX9_oneMore 97 = .ok (.iload_n 2, 1) := by decide +kernel
theorem dX9_oneMore_98 : decode cX9_oneMore 98 = .ok (.invokevirtual 486, 3) := by decide +kernel
theorem dX9_oneMore_101 : decode cX9_oneMore 101 = .ok (.iconst 1, 1) := by decide +kernel
theorem dX9_oneMore_102 : decode cX9_oneMore 102 = .ok (.ireturn, 1) := by decide +kernel
set_option maxRecDepth 20000 in
theorem vX9_oneMore {g : zG} {d : Nat} {Q : Bool → zM → Prop} {M : zM} {l1 : Int32} {l2 : Int32} (h : zW shM g (d + 1) mX9_oneMore (zz Q) 2 [(0, .ref 0), (1, .int l1), (2, .int l2), (3, .int 0)] [] M) : zCz shM g (d + 1) mX9_oneMore [.ref 0, .int l1, .int l2] M Q := by
  refine zW.enter (by decide +kernel) (Nat.le_of_ble_eq_true rfl) ?_
  change zW shM g (d + 1) mX9_oneMore (zz Q) 0 [(0, .ref 0), (1, .int l1), (2, .int l2)] [] M
  refine z_iconst (v := 0) dX9_oneMore_0 (by decide) ?_
  refine z_istore_n [(3, .int 0), (0, .ref 0), (1, .int l1), (2, .int l2)] dX9_oneMore_1 (by decide) rfl ?_
  exact zW.sub [1, 2, 3, 0] rfl h
set_option maxRecDepth 20000 in
theorem vX9_oneMore_2 {g : zG} {d : Nat} {Q : Bool → zM → Prop} {M : zM} {l1 : Int32} {l2 : Int32} {l3 : Int32} (h : (128 ≤ l3 → ∃ k1 : Nat, l1 = iv k1 ∧ k1 < 128 ∧ zCv shM g d mX9_comesBy [.ref 0, .int (l1 + 64), .int (l1 + 64)] (zup (zup M 0 45 0) 21 k1 l1) (fun  M1 => zW shM g (d + 1) mX9_oneMore (zz Q) 48 [(0, .ref 0), (1, .int l1), (2, .int l2), (3, .int 0)] [] M1)) ∧ (¬ 128 ≤ l3 → ∃ k1 : Nat, l3 = iv k1 ∧ k1 < 128 ∧ zW shM g (d + 1) mX9_oneMore (zz Q) 2 [(0, .ref 0), (1, .int l1), (2, .int l2), (3, .int (l3 + 1))] [] (zup M 21 k1 (-1)))) : zW shM g (d + 1) mX9_oneMore (zz Q) 2 [(0, .ref 0), (1, .int l1), (2, .int l2), (3, .int l3)] [] M := by
  refine z_iload_n dX9_oneMore_2 3 rfl ?_
  refine z_sipush (v := 128) dX9_oneMore_3 (by decide) ?_
  refine z_icmp_ge 22 dX9_oneMore_6 (by decide) (fun c1 => ?_) (fun c1 => ?_)
  · have h := h.1 c1
    refine z_aload_n dX9_oneMore_22 0 rfl ?_
    refine z_iconst (v := 0) dX9_oneMore_23 (by decide) ?_
    refine z_puti shM_0 rfl fpX9_477 rfl rfl dX9_oneMore_24 ?_
    refine z_aload_n dX9_oneMore_27 0 rfl ?_
    refine z_getr shM_0 rfl flX9_75 dX9_oneMore_28 ?_
    refine z_iload_n dX9_oneMore_31 1 rfl ?_
    refine z_iload_n dX9_oneMore_32 1 rfl ?_
    obtain ⟨k1, ek1, uk1, h⟩ := h
    refine z_iast2 (k0 := k1) shM_21 (by decide) ek1 uk1 dX9_oneMore_33 ?_
    refine z_aload_n dX9_oneMore_34 0 rfl ?_
    refine z_iload_n dX9_oneMore_35 1 rfl ?_
    refine z_bipush (v := 64) dX9_oneMore_36 (by decide) ?_
    refine z_iadd dX9_oneMore_38 ?_
    refine z_iload_n dX9_oneMore_39 1 rfl ?_
    refine z_bipush (v := 64) dX9_oneMore_40 (by decide) ?_
    refine z_iadd dX9_oneMore_42 ?_
    refine z_callV (m2 := mX9_comesBy) (st := []) [.int (l1 + 64), .int (l1 + 64)] okX9_comesBy (Or.inl lkX9_480) shM_0 rfl rfl rfl (Nat.le_of_ble_eq_true rfl) dX9_oneMore_43 (zgo_v h fun  M1 h => ?_)
    refine z_iconst (v := 0) dX9_oneMore_46 (by decide) ?_
    refine z_istore_n [(3, .int 0), (0, .ref 0), (1, .int l1), (2, .int l2)] dX9_oneMore_47 (by decide) rfl ?_
    exact zW.sub [1, 2, 3, 0] rfl h
  · have h := h.2 c1
    refine z_aload_n dX9_oneMore_9 0 rfl ?_
    refine z_getr shM_0 rfl flX9_75 dX9_oneMore_10 ?_
    refine z_iload_n dX9_oneMore_13 3 rfl ?_
    refine z_iconst (v := (-1)) dX9_oneMore_14 (by decide) ?_
    obtain ⟨k1, ek1, uk1, h⟩ := h
    refine z_iast2 (k0 := k1) shM_21 (by decide) ek1 uk1 dX9_oneMore_15 ?_
    refine z_iinc (x := l3) (v := (l3 + 1)) [(3, .int (l3 + 1)), (0, .ref 0), (1, .int l1), (2, .int l2)] dX9_oneMore_16 3 rfl rfl (by decide) rfl ?_
    refine z_goto 2 dX9_oneMore_19 (by decide) ?_
    exact zW.sub [1, 2, 3, 0] rfl h
set_option maxRecDepth 20000 in
theorem vX9_oneMore_48 {g : zG} {d : Nat} {Q : Bool → zM → Prop} {M : zM} {l1 : Int32} {l2 : Int32} {l3 : Int32} (h : ((M 0 45) ≤ l3 → zW shM g (d + 1) mX9_oneMore (zz Q) 83 [(0, .ref 0), (1, .int l1), (2, .int l2)] [] M) ∧ (¬ (M 0 45) ≤ l3 → ∃ k1 : Nat, l2 = iv k1 ∧ k1 < 128 ∧ (¬ (M 21 k1) = (-1) → zW shM g (d + 1) mX9_oneMore (zz Q) 83 [(0, .ref 0), (1, .int l1), (2, .int l2)] [] M) ∧ ((M 21 k1) = (-1) → ∃ k2 : Nat, l3 = iv k2 ∧ k2 < 128 ∧ zCv shM g d mX9_spreads [.ref 0, .int (M 22 k2), .int l1] M (fun  M1 => zW shM g (d + 1) mX9_oneMore (zz Q) 48 [(0, .ref 0), (1, .int l1), (2, .int l2), (3, .int (l3 + 1))] [] M1)))) : zW shM g (d + 1) mX9_oneMore (zz Q) 48 [(0, .ref 0), (1, .int l1), (2, .int l2), (3, .int l3)] [] M := by
  refine z_iload_n dX9_oneMore_48 3 rfl ?_
  refine z_aload_n dX9_oneMore_49 0 rfl ?_
  refine z_geti shM_0 rfl flX9_477 dX9_oneMore_50 ?_
  refine z_icmp_ge 83 dX9_oneMore_53 (by decide) (fun c1 => ?_) (fun c1 => ?_)
  · have h := h.1 c1
    exact zW.sub [0, 1, 2] rfl h
  · have h := h.2 c1
    refine z_aload_n dX9_oneMore_56 0 rfl ?_
    refine z_getr shM_0 rfl flX9_75 dX9_oneMore_57 ?_
    refine z_iload_n dX9_oneMore_60 2 rfl ?_
    obtain ⟨k1, ek1, uk1, h⟩ := h
    refine z_iald2 (k0 := k1) shM_21 (by decide) ek1 uk1 dX9_oneMore_61 ?_
    refine z_iconst (v := (-1)) dX9_oneMore_62 (by decide) ?_
    refine z_icmp_ne 83 dX9_oneMore_63 (by decide) (fun c2 => ?_) (fun c2 => ?_)
    · have h := h.1 c2
      exact zW.sub [0, 1, 2] rfl h
    · have h := h.2 c2
      refine z_aload_n dX9_oneMore_66 0 rfl ?_
      refine z_aload_n dX9_oneMore_67 0 rfl ?_
      refine z_getr shM_0 rfl flX9_78 dX9_oneMore_68 ?_
      refine z_iload_n dX9_oneMore_71 3 rfl ?_
      obtain ⟨k2, ek2, uk2, h⟩ := h
      refine z_iald2 (k0 := k2) shM_22 (by decide) ek2 uk2 dX9_oneMore_72 ?_
      refine z_iload_n dX9_oneMore_73 1 rfl ?_
      refine z_callV (m2 := mX9_spreads) (st := []) [.int (M 22 k2), .int l1] okX9_spreads (Or.inl lkX9_483) shM_0 rfl rfl rfl (Nat.le_of_ble_eq_true rfl) dX9_oneMore_74 (zgo_v h fun  M1 h => ?_)
      refine z_iinc (x := l3) (v := (l3 + 1)) [(3, .int (l3 + 1)), (0, .ref 0), (1, .int l1), (2, .int l2)] dX9_oneMore_77 3 rfl rfl (by decide) rfl ?_
      refine z_goto 48 dX9_oneMore_80 (by decide) ?_
      exact zW.sub [1, 2, 3, 0] rfl h
set_option maxRecDepth 20000 in
theorem vX9_oneMore_83 {g : zG} {d : Nat} {Q : Bool → zM → Prop} {M : zM} {l1 : Int32} {l2 : Int32} (h : ∃ k1 : Nat, l2 = iv k1 ∧ k1 < 128 ∧ (¬ (M 21 k1) = (-1) → zCv shM g d mX9_turnsBack [.ref 0, .int l1, .int l2] M (fun  M1 => Q true M1)) ∧ ((M 21 k1) = (-1) → Q false M)) : zW shM g (d + 1) mX9_oneMore (zz Q) 83 [(0, .ref 0), (1, .int l1), (2, .int l2)] [] M := by
  refine z_aload_n dX9_oneMore_83 0 rfl ?_
  refine z_getr shM_0 rfl flX9_75 dX9_oneMore_84 ?_
  refine z_iload_n dX9_oneMore_87 2 rfl ?_
  obtain ⟨k1, ek1, uk1, h⟩ := h
  refine z_iald2 (k0 := k1) shM_21 (by decide) ek1 uk1 dX9_oneMore_88 ?_
  refine z_iconst (v := (-1)) dX9_oneMore_89 (by decide) ?_
  refine z_icmp_ne 95 dX9_oneMore_90 (by decide) (fun c1 => ?_) (fun c1 => ?_)
  · have h := h.1 c1
    refine z_aload_n dX9_oneMore_95 0 rfl ?_
    refine z_iload_n dX9_oneMore_96 1 rfl ?_
    refine z_iload_n dX9_oneMore_97 2 rfl ?_
    refine z_callV (m2 := mX9_turnsBack) (st := []) [.int l1, .int l2] okX9_turnsBack (Or.inl lkX9_486) shM_0 rfl rfl rfl (Nat.le_of_ble_eq_true rfl) dX9_oneMore_98 (zgo_v h fun  M1 h => ?_)
    refine z_iconst (v := 1) dX9_oneMore_101 (by decide) ?_
    exact z_zret (b := true) rfl rfl dX9_oneMore_102 h
  · have h := h.2 c1
    refine z_iconst (v := 0) dX9_oneMore_93 (by decide) ?_
    exact z_zret (b := false) rfl rfl dX9_oneMore_94 h
theorem dX9_wayBetween_0 : decode cX9_wayBetween 0 = .ok (.iconst 0, 1) := by decide +kernel
theorem dX9_wayBetween_1 : decode cX9_wayBetween 1 = .ok (.istore_n 3, 1) := by decide +kernel
theorem dX9_wayBetween_2 : decode cX9_wayBetween 2 = .ok (.iload_n 3, 1) := by decide +kernel
theorem dX9_wayBetween_3 : decode cX9_wayBetween 3 = .ok (.iconst 4, 1) := by decide +kernel
theorem dX9_wayBetween_4 : decode cX9_wayBetween 4 = .ok (.if_icmp .ge 26, 3) := by decide +kernel
theorem dX9_wayBetween_7 : decode cX9_wayBetween 7 = .ok (.aload_n 0, 1) := by decide +kernel
theorem dX9_wayBetween_8 : decode cX9_wayBetween 8 = .ok (.iload_n 1, 1) := by decide +kernel
theorem dX9_wayBetween_9 : decode cX9_wayBetween 9 = .ok (.iload_n 3, 1) := by decide +kernel
theorem dX9_wayBetween_10 : decode cX9_wayBetween 10 = .ok (.invokevirtual 369, 3) := by decide +kernel
theorem dX9_wayBetween_13 : decode cX9_wayBetween 13 = .ok (.iload_n 2, 1) := by decide +kernel
theorem dX9_wayBetween_14 : decode cX9_wayBetween 14 = .ok (.if_icmp .ne 10, 3) := by decide +kernel
theorem dX9_wayBetween_17 : decode cX9_wayBetween 17 = .ok (.iload_n 1, 1) := by decide +kernel
theorem dX9_wayBetween_18 : decode cX9_wayBetween 18 = .ok (.iload_n 2, 1) := by decide +kernel
theorem dX9_wayBetween_19 : decode cX9_wayBetween 19 = .ok (.if_icmp .eq 5, 3) := by decide +kernel
theorem dX9_wayBetween_22 : decode cX9_wayBetween 22 = .ok (.iload_n 3, 1) := by decide +kernel
theorem dX9_wayBetween_23 : decode cX9_wayBetween 23 = .ok (.ireturn, 1) := by decide +kernel
theorem dX9_wayBetween_24 : decode cX9_wayBetween 24 = .ok (.iinc 3 1, 3) := by decide +kernel
theorem dX9_wayBetween_27 : decode cX9_wayBetween 27 = .ok (.goto (-25), 3) := by decide +kernel
theorem dX9_wayBetween_30 : decode cX9_wayBetween 30 = .ok (.iconst (-1), 1) := by decide +kernel
theorem dX9_wayBetween_31 : decode cX9_wayBetween 31 = .ok (.ireturn, 1) := by decide +kernel
set_option maxRecDepth 20000 in
theorem vX9_wayBetween {g : zG} {d : Nat} {Q : Int32 → zM → Prop} {M : zM} {l1 : Int32} {l2 : Int32} (h : zW shM g (d + 1) mX9_wayBetween (zi Q) 2 [(0, .ref 0), (1, .int l1), (2, .int l2), (3, .int 0)] [] M) : zCi shM g (d + 1) mX9_wayBetween [.ref 0, .int l1, .int l2] M Q := by
  refine zW.enter (by decide +kernel) (Nat.le_of_ble_eq_true rfl) ?_
  change zW shM g (d + 1) mX9_wayBetween (zi Q) 0 [(0, .ref 0), (1, .int l1), (2, .int l2)] [] M
  refine z_iconst (v := 0) dX9_wayBetween_0 (by decide) ?_
  refine z_istore_n [(3, .int 0), (0, .ref 0), (1, .int l1), (2, .int l2)] dX9_wayBetween_1 (by decide) rfl ?_
  exact zW.sub [1, 2, 3, 0] rfl h
set_option maxRecDepth 20000 in
theorem vX9_wayBetween_2 {g : zG} {d : Nat} {Q : Int32 → zM → Prop} {M : zM} {l1 : Int32} {l2 : Int32} {l3 : Int32} (h : (4 ≤ l3 → Q (-1) M) ∧ (¬ 4 ≤ l3 → zCi shM g d mX9_wentTo [.ref 0, .int l1, .int l3] M (fun x1 M1 => (¬ x1 = l2 → zW shM g (d + 1) mX9_wayBetween (zi Q) 2 [(0, .ref 0), (1, .int l1), (2, .int l2), (3, .int (l3 + 1))] [] M1) ∧ (x1 = l2 → (l1 = l2 → zW shM g (d + 1) mX9_wayBetween (zi Q) 2 [(0, .ref 0), (1, .int l1), (2, .int l2), (3, .int (l3 + 1))] [] M1) ∧ (¬ l1 = l2 → Q l3 M1))))) : zW shM g (d + 1) mX9_wayBetween (zi Q) 2 [(0, .ref 0), (1, .int l1), (2, .int l2), (3, .int l3)] [] M := by
  refine z_iload_n dX9_wayBetween_2 3 rfl ?_
  refine z_iconst (v := 4) dX9_wayBetween_3 (by decide) ?_
  refine z_icmp_ge 30 dX9_wayBetween_4 (by decide) (fun c1 => ?_) (fun c1 => ?_)
  · have h := h.1 c1
    refine z_iconst (v := (-1)) dX9_wayBetween_30 (by decide) ?_
    exact z_iret (st := []) rfl rfl dX9_wayBetween_31 ⟨_, rfl, h⟩
  · have h := h.2 c1
    refine z_aload_n dX9_wayBetween_7 0 rfl ?_
    refine z_iload_n dX9_wayBetween_8 1 rfl ?_
    refine z_iload_n dX9_wayBetween_9 3 rfl ?_
    refine z_callV (m2 := mX9_wentTo) (st := []) [.int l1, .int l3] okX9_wentTo (Or.inl lkX9_369) shM_0 rfl rfl rfl (Nat.le_of_ble_eq_true rfl) dX9_wayBetween_10 (zgo_i h fun x1 M1 h => ?_)
    refine z_iload_n dX9_wayBetween_13 2 rfl ?_
    refine z_icmp_ne 24 dX9_wayBetween_14 (by decide) (fun c2 => ?_) (fun c2 => ?_)
    · have h := h.1 c2
      refine z_iinc (x := l3) (v := (l3 + 1)) [(3, .int (l3 + 1)), (0, .ref 0), (1, .int l1), (2, .int l2)] dX9_wayBetween_24 3 rfl rfl (by decide) rfl ?_
      refine z_goto 2 dX9_wayBetween_27 (by decide) ?_
      exact zW.sub [1, 2, 3, 0] rfl h
    · have h := h.2 c2
      refine z_iload_n dX9_wayBetween_17 1 rfl ?_
      refine z_iload_n dX9_wayBetween_18 2 rfl ?_
      refine z_icmp_eq 24 dX9_wayBetween_19 (by decide) (fun c3 => ?_) (fun c3 => ?_)
      · have h := h.1 c3
        refine z_iinc (x := l3) (v := (l3 + 1)) [(3, .int (l3 + 1)), (0, .ref 0), (1, .int l1), (2, .int l2)] dX9_wayBetween_24 3 rfl rfl (by decide) rfl ?_
        refine z_goto 2 dX9_wayBetween_27 (by decide) ?_
        exact zW.sub [1, 2, 3, 0] rfl h
      · have h := h.2 c3
        refine z_iload_n dX9_wayBetween_22 3 rfl ?_
        exact z_iret (st := []) rfl rfl dX9_wayBetween_23 ⟨_, rfl, h⟩
theorem dX9_turnsBack_0 : decode cX9_turnsBack 0 = .ok (.iload_n 2, 1) := by decide +kernel
theorem dX9_turnsBack_1 : decode cX9_turnsBack 1 = .ok (.istore_n 3, 1) := by decide +kernel
theorem dX9_turnsBack_2 : decode cX9_turnsBack 2 = .ok (.iload_n 3, 1) := by decide +kernel
theorem dX9_turnsBack_3 : decode cX9_turnsBack 3 = .ok (.iload_n 1, 1) := by decide +kernel
theorem dX9_turnsBack_4 : decode cX9_turnsBack 4 = .ok (.bipush 64, 2) := by decide +kernel
theorem dX9_turnsBack_6 : decode cX9_turnsBack 6 = .ok (.iadd, 1) := by decide +kernel
theorem dX9_turnsBack_7 : decode cX9_turnsBack 7 = .ok (.if_icmp .eq 107, 3) := by decide +kernel
theorem dX9_turnsBack_10 : decode cX9_turnsBack 10 = .ok (.aload_n 0, 1) := by decide +kernel
theorem dX9_turnsBack_11 : decode cX9_turnsBack 11 = .ok (.getfield 75, 3) := by decide +kernel
theorem dX9_turnsBack_14 : decode cX9_turnsBack 14 = .ok (.iload_n 3, 1) := by decide +kernel
theorem dX9_turnsBack_15 : decode cX9_turnsBack 15 = .ok (.iaload, 1) := by decide +kernel
theorem dX9_turnsBack_16 : decode cX9_turnsBack 16 = .ok (.istore 4, 2) := by decide +kernel
theorem dX9_turnsBack_18 : decode cX9_turnsBack 18 = .ok (.iload 4, 2) := by decide +kernel
theorem dX9_turnsBack_20 : decode cX9_turnsBack 20 = .ok (.bipush 64, 2) := by decide +kernel
theorem dX9_turnsBack_22 : decode cX9_turnsBack 22 = .ok (.irem, 1) := by decide +kernel
theorem dX9_turnsBack_23 : decode cX9_turnsBack 23 = .ok (.istore 5, 2) := by decide +kernel
theorem dX9_turnsBack_25 : decode cX9_turnsBack 25 = .ok (.iload_n 3, 1) := by decide +kernel
theorem dX9_turnsBack_26 : decode cX9_turnsBack 26 = .ok (.bipush 64, 2) := by decide +kernel
theorem dX9_turnsBack_28 : decode cX9_turnsBack 28 = .ok (.irem, 1) := by decide +kernel
theorem dX9_turnsBack_29 : decode cX9_turnsBack 29 = .ok (.istore 6, 2) := by decide +kernel
theorem dX9_turnsBack_31 : decode cX9_turnsBack 31 = .ok (.iload 5, 2) := by decide +kernel
theorem dX9_turnsBack_33 : decode cX9_turnsBack 33 = .ok (.iload 6, 2) := by decide +kernel
theorem dX9_turnsBack_35 : decode cX9_turnsBack 35 = .ok (.if_icmp .ne 25, 3) := by decide +kernel
theorem dX9_turnsBack_38 : decode cX9_turnsBack 38 = .ok (.aload_n 0, 1) := by decide +kernel
theorem dX9_turnsBack_39 : decode cX9_turnsBack 39 = .ok (.getfield 81, 3) := by decide +kernel
theorem dX9_turnsBack_42 : decode cX9_turnsBack 42 = .ok (.iload 5, 2) := by decide +kernel
theorem dX9_turnsBack_44 : decode cX9_turnsBack 44 = .ok (.iload 4, 2) := by decide +kernel
theorem dX9_turnsBack_46 : decode cX9_turnsBack 46 = .ok (.bipush 64, 2) := by decide +kernel
theorem dX9_turnsBack_48 : decode cX9_turnsBack 48 = .ok (.if_icmp .ge 7, 3) := by decide +kernel
theorem dX9_turnsBack_51 : decode cX9_turnsBack 51 = .ok (.iconst 1, 1) := by decide +kernel
theorem dX9_turnsBack_52 : decode cX9_turnsBack 52 = .ok (.goto 4, 3) := by decide +kernel
theorem dX9_turnsBack_55 : decode cX9_turnsBack 55 = .ok (.iconst 0, 1) := by decide +kernel
theorem dX9_turnsBack_56 : decode cX9_turnsBack 56 = .ok (.bastore, 1) := by decide +kernel
theorem dX9_turnsBack_57 : decode cX9_turnsBack 57 = .ok (.goto 51, 3) := by decide +kernel
theorem dX9_turnsBack_60 : decode cX9_turnsBack 60 = .ok (.iload 4, 2) := by decide +kernel
theorem dX9_turnsBack_62 : decode cX9_turnsBack 62 = .ok (.bipush 64, 2) := by decide +kernel
theorem dX9_turnsBack_64 : decode cX9_turnsBack 64 = .ok (.if_icmp .lt 25, 3) := by decide +kernel
theorem dX9_turnsBack_67 : decode cX9_turnsBack 67 = .ok (.aload_n 0, 1) := by decide +kernel
theorem dX9_turnsBack_68 : decode cX9_turnsBack 68 = .ok (.getfield 84, 3) := by decide +kernel
theorem dX9_turnsBack_71 : decode cX9_turnsBack 71 = .ok (.iconst 4, 1) := by decide +kernel
theorem dX9_turnsBack_72 : decode cX9_turnsBack 72 = .ok (.iload 5, 2) := by decide +kernel
theorem dX9_turnsBack_74 : decode cX9_turnsBack 74 = .ok (.imul, 1) := by decide +kernel
theorem dX9_turnsBack_75 : decode cX9_turnsBack 75 = .ok (.aload_n 0, 1) := by decide +kernel
theorem dX9_turnsBack_76 : decode cX9_turnsBack 76 = .ok (.iload 5, 2) := by decide +kernel
theorem dX9_turnsBack_78 : decode cX9_turnsBack 78 = .ok (.iload 6, 2) := by decide +kernel
theorem dX9_turnsBack_80 : decode cX9_turnsBack 80 = .ok (.invokevirtual 489, 3) := by decide +kernel
theorem dX9_turnsBack_83 : decode cX9_turnsBack 83 = .ok (.iadd, 1) := by decide +kernel
theorem dX9_turnsBack_84 : decode cX9_turnsBack 84 = .ok (.iconst 1, 1) := by decide +kernel
theorem dX9_turnsBack_85 : decode cX9_turnsBack 85 = .ok (.bastore, 1) := by decide +kernel
theorem dX9_turnsBack_86 : decode cX9_turnsBack 86 = .ok (.goto 22, 3) := by decide +kernel
theorem dX9_turnsBack_89 : decode cX9_turnsBack 89 = .ok (.aload_n 0, 1) := by decide +kernel
theorem dX9_turnsBack_90 : decode cX9_turnsBack 90 = .ok (.getfield 84, 3) := by decide +kernel
theorem dX9_turnsBack_93 : decode cX9_turnsBack 93 = .ok (.iconst 4, 1) := by decide +kernel
theorem dX9_turnsBack_94 : decode cX9_turnsBack 94 = .ok (.iload 6, 2) := by decide +kernel
theorem dX9_turnsBack_96 : decode cX9_turnsBack 96 = .ok (.imul, 1) := by decide +kernel
theorem dX9_turnsBack_97 : decode cX9_turnsBack 97 = .ok (.aload_n 0, 1) := by decide +kernel
theorem dX9_turnsBack_98 : decode cX9_turnsBack 98 = .ok (.iload 6, 2) := by decide +kernel
theorem dX9_turnsBack_100 : decode cX9_turnsBack 100 = .ok (.iload 5, 2) := by decide +kernel
theorem dX9_turnsBack_102 : decode cX9_turnsBack 102 = .ok (.invokevirtual 489, 3) := by decide +kernel
theorem dX9_turnsBack_105 : decode cX9_turnsBack 105 = .ok (.iadd, 1) := by decide +kernel
theorem dX9_turnsBack_106 : decode cX9_turnsBack 106 = .ok (.iconst 0, 1) := by decide +kernel
theorem dX9_turnsBack_107 : decode cX9_turnsBack 107 = .ok (.bastore, 1) := by decide +kernel
theorem dX9_turnsBack_108 : decode cX9_turnsBack 108 = .ok (.iload 4, 2) := by decide +kernel
theorem dX9_turnsBack_110 : decode cX9_turnsBack 110 = .ok (.istore_n 3, 1) := by decide +kernel
theorem dX9_turnsBack_111 : decode cX9_turnsBack 111 = .ok (.goto (-109), 3) := by decide +kernel
theorem dX9_turnsBack_114 : decode cX9_turnsBack 114 = .ok (.return_, 1) := by decide +kernel
set_option maxRecDepth 20000 in
theorem vX9_turnsBack {g : zG} {d : Nat} {Q : zM → Prop} {M : zM} {l1 : Int32} {l2 : Int32} (h : zW shM g (d + 1) mX9_turnsBack (zv Q) 2 [(0, .ref 0), (1, .int l1), (3, .int l2)] [] M) : zCv shM g (d + 1) mX9_turnsBack [.ref 0, .int l1, .int l2] M Q := by
  refine zW.enter (by decide +kernel) (Nat.le_of_ble_eq_true rfl) ?_
  change zW shM g (d + 1) mX9_turnsBack (zv Q) 0 [(0, .ref 0), (1, .int l1), (2, .int l2)] [] M
  refine z_iload_n dX9_turnsBack_0 2 rfl ?_
  refine z_istore_n [(3, .int l2), (0, .ref 0), (1, .int l1), (2, .int l2)] dX9_turnsBack_1 (by decide) rfl ?_
  exact zW.sub [1, 2, 0] rfl h
set_option maxRecDepth 20000 in
theorem vX9_turnsBack_2 {g : zG} {d : Nat} {Q : zM → Prop} {M : zM} {l1 : Int32} {l3 : Int32} (h : (l3 = (l1 + 64) → Q M) ∧ (¬ l3 = (l1 + 64) → ∃ k1 : Nat, l3 = iv k1 ∧ k1 < 128 ∧ (¬ ((M 21 k1) - (M 21 k1) / 64 * 64) = (l3 - l3 / 64 * 64) → ((M 21 k1) < 64 → zCi shM g d mX9_wayBetween [.ref 0, .int (l3 - l3 / 64 * 64), .int ((M 21 k1) - (M 21 k1) / 64 * 64)] M (fun x1 M1 => ∃ k2 : Nat, ((4 * (l3 - l3 / 64 * 64)) + x1) = iv k2 ∧ k2 < 256 ∧ zW shM g (d + 1) mX9_turnsBack (zv Q) 2 [(0, .ref 0), (1, .int l1), (3, .int (M 21 k1))] [] (zup M1 24 k2 (zbI false)))) ∧ (¬ (M 21 k1) < 64 → zCi shM g d mX9_wayBetween [.ref 0, .int ((M 21 k1) - (M 21 k1) / 64 * 64), .int (l3 - l3 / 64 * 64)] M (fun x1 M1 => ∃ k2 : Nat, ((4 * ((M 21 k1) - (M 21 k1) / 64 * 64)) + x1) = iv k2 ∧ k2 < 256 ∧ zW shM g (d + 1) mX9_turnsBack (zv Q) 2 [(0, .ref 0), (1, .int l1), (3, .int (M 21 k1))] [] (zup M1 24 k2 (zbI true))))) ∧ (((M 21 k1) - (M 21 k1) / 64 * 64) = (l3 - l3 / 64 * 64) → (64 ≤ (M 21 k1) → ∃ k2 : Nat, ((M 21 k1) - (M 21 k1) / 64 * 64) = iv k2 ∧ k2 < 64 ∧ zW shM g (d + 1) mX9_turnsBack (zv Q) 2 [(0, .ref 0), (1, .int l1), (3, .int (M 21 k1))] [] (zup M 23 k2 (zbI false))) ∧ (¬ 64 ≤ (M 21 k1) → ∃ k2 : Nat, ((M 21 k1) - (M 21 k1) / 64 * 64) = iv k2 ∧ k2 < 64 ∧ zW shM g (d + 1) mX9_turnsBack (zv Q) 2 [(0, .ref 0), (1, .int l1), (3, .int (M 21 k1))] [] (zup M 23 k2 (zbI true)))))) : zW shM g (d + 1) mX9_turnsBack (zv Q) 2 [(0, .ref 0), (1, .int l1), (3, .int l3)] [] M := by
  refine z_iload_n dX9_turnsBack_2 2 rfl ?_
  refine z_iload_n dX9_turnsBack_3 1 rfl ?_
  refine z_bipush (v := 64) dX9_turnsBack_4 (by decide) ?_
  refine z_iadd dX9_turnsBack_6 ?_
  refine z_icmp_eq 114 dX9_turnsBack_7 (by decide) (fun c1 => ?_) (fun c1 => ?_)
  · have h := h.1 c1
    exact z_vret (st := []) rfl dX9_turnsBack_114 ⟨rfl, h⟩
  · have h := h.2 c1
    refine z_aload_n dX9_turnsBack_10 0 rfl ?_
    refine z_getr shM_0 rfl flX9_75 dX9_turnsBack_11 ?_
    refine z_iload_n dX9_turnsBack_14 2 rfl ?_
    obtain ⟨k1, ek1, uk1, h⟩ := h
    refine z_iald2 (k0 := k1) shM_21 (by decide) ek1 uk1 dX9_turnsBack_15 ?_
    refine z_istore [(4, .int (M 21 k1)), (0, .ref 0), (1, .int l1), (3, .int l3)] dX9_turnsBack_16 (by decide) rfl ?_
    refine z_iload dX9_turnsBack_18 0 rfl ?_
    refine z_bipush (v := 64) dX9_turnsBack_20 (by decide) ?_
    refine z_irem dX9_turnsBack_22 (by decide) ?_
    refine z_istore [(5, .int ((M 21 k1) - (M 21 k1) / 64 * 64)), (4, .int (M 21 k1)), (0, .ref 0), (1, .int l1), (3, .int l3)] dX9_turnsBack_23 (by decide) rfl ?_
    refine z_iload_n dX9_turnsBack_25 4 rfl ?_
    refine z_bipush (v := 64) dX9_turnsBack_26 (by decide) ?_
    refine z_irem dX9_turnsBack_28 (by decide) ?_
    refine z_istore [(6, .int (l3 - l3 / 64 * 64)), (5, .int ((M 21 k1) - (M 21 k1) / 64 * 64)), (4, .int (M 21 k1)), (0, .ref 0), (1, .int l1), (3, .int l3)] dX9_turnsBack_29 (by decide) rfl ?_
    refine z_iload dX9_turnsBack_31 1 rfl ?_
    refine z_iload dX9_turnsBack_33 0 rfl ?_
    refine z_icmp_ne 60 dX9_turnsBack_35 (by decide) (fun c2 => ?_) (fun c2 => ?_)
    · have h := h.1 c2
      refine z_iload dX9_turnsBack_60 2 rfl ?_
      refine z_bipush (v := 64) dX9_turnsBack_62 (by decide) ?_
      refine z_icmp_lt 89 dX9_turnsBack_64 (by decide) (fun c3 => ?_) (fun c3 => ?_)
      · have h := h.1 c3
        refine z_aload_n dX9_turnsBack_89 3 rfl ?_
        refine z_getr shM_0 rfl flX9_84 dX9_turnsBack_90 ?_
        refine z_iconst (v := 4) dX9_turnsBack_93 (by decide) ?_
        refine z_iload dX9_turnsBack_94 0 rfl ?_
        refine z_imul dX9_turnsBack_96 ?_
        refine z_aload_n dX9_turnsBack_97 3 rfl ?_
        refine z_iload dX9_turnsBack_98 0 rfl ?_
        refine z_iload dX9_turnsBack_100 1 rfl ?_
        refine z_callV (m2 := mX9_wayBetween) (st := [.int (4 * (l3 - l3 / 64 * 64)), .ref 24]) [.int (l3 - l3 / 64 * 64), .int ((M 21 k1) - (M 21 k1) / 64 * 64)] okX9_wayBetween (Or.inl lkX9_489) shM_0 rfl rfl rfl (Nat.le_of_ble_eq_true rfl) dX9_turnsBack_102 (zgo_i h fun x1 M1 h => ?_)
        refine z_iadd dX9_turnsBack_105 ?_
        refine z_iconst (v := 0) dX9_turnsBack_106 (by decide) ?_
        obtain ⟨k2, ek2, uk2, h⟩ := h
        refine z_zast2 (b := false) (k0 := k2) shM_24 (by decide) ek2 uk2 dX9_turnsBack_107 ?_
        refine z_iload dX9_turnsBack_108 2 rfl ?_
        refine z_istore_n [(3, .int (M 21 k1)), (6, .int (l3 - l3 / 64 * 64)), (5, .int ((M 21 k1) - (M 21 k1) / 64 * 64)), (4, .int (M 21 k1)), (0, .ref 0), (1, .int l1)] dX9_turnsBack_110 (by decide) rfl ?_
        refine z_goto 2 dX9_turnsBack_111 (by decide) ?_
        exact zW.sub [4, 5, 0] rfl h
      · have h := h.2 c3
        refine z_aload_n dX9_turnsBack_67 3 rfl ?_
        refine z_getr shM_0 rfl flX9_84 dX9_turnsBack_68 ?_
        refine z_iconst (v := 4) dX9_turnsBack_71 (by decide) ?_
        refine z_iload dX9_turnsBack_72 1 rfl ?_
        refine z_imul dX9_turnsBack_74 ?_
        refine z_aload_n dX9_turnsBack_75 3 rfl ?_
        refine z_iload dX9_turnsBack_76 1 rfl ?_
        refine z_iload dX9_turnsBack_78 0 rfl ?_
        refine z_callV (m2 := mX9_wayBetween) (st := [.int (4 * ((M 21 k1) - (M 21 k1) / 64 * 64)), .ref 24]) [.int ((M 21 k1) - (M 21 k1) / 64 * 64), .int (l3 - l3 / 64 * 64)] okX9_wayBetween (Or.inl lkX9_489) shM_0 rfl rfl rfl (Nat.le_of_ble_eq_true rfl) dX9_turnsBack_80 (zgo_i h fun x1 M1 h => ?_)
        refine z_iadd dX9_turnsBack_83 ?_
        refine z_iconst (v := 1) dX9_turnsBack_84 (by decide) ?_
        obtain ⟨k2, ek2, uk2, h⟩ := h
        refine z_zast2 (b := true) (k0 := k2) shM_24 (by decide) ek2 uk2 dX9_turnsBack_85 ?_
        refine z_goto 108 dX9_turnsBack_86 (by decide) ?_
        refine z_iload dX9_turnsBack_108 2 rfl ?_
        refine z_istore_n [(3, .int (M 21 k1)), (6, .int (l3 - l3 / 64 * 64)), (5, .int ((M 21 k1) - (M 21 k1) / 64 * 64)), (4, .int (M 21 k1)), (0, .ref 0), (1, .int l1)] dX9_turnsBack_110 (by decide) rfl ?_
        refine z_goto 2 dX9_turnsBack_111 (by decide) ?_
        exact zW.sub [4, 5, 0] rfl h
    · have h := h.2 c2
      refine z_aload_n dX9_turnsBack_38 3 rfl ?_
      refine z_getr shM_0 rfl flX9_81 dX9_turnsBack_39 ?_
      refine z_iload dX9_turnsBack_42 1 rfl ?_
      refine z_iload dX9_turnsBack_44 2 rfl ?_
      refine z_bipush (v := 64) dX9_turnsBack_46 (by decide) ?_
      refine z_icmp_ge 55 dX9_turnsBack_48 (by decide) (fun c3 => ?_) (fun c3 => ?_)
      · have h := h.1 c3
        refine z_iconst (v := 0) dX9_turnsBack_55 (by decide) ?_
        obtain ⟨k2, ek2, uk2, h⟩ := h
        refine z_zast2 (b := false) (k0 := k2) shM_23 (by decide) ek2 uk2 dX9_turnsBack_56 ?_
        refine z_goto 108 dX9_turnsBack_57 (by decide) ?_
        refine z_iload dX9_turnsBack_108 2 rfl ?_
        refine z_istore_n [(3, .int (M 21 k1)), (6, .int (l3 - l3 / 64 * 64)), (5, .int ((M 21 k1) - (M 21 k1) / 64 * 64)), (4, .int (M 21 k1)), (0, .ref 0), (1, .int l1)] dX9_turnsBack_110 (by decide) rfl ?_
        refine z_goto 2 dX9_turnsBack_111 (by decide) ?_
        exact zW.sub [4, 5, 0] rfl h
      · have h := h.2 c3
        refine z_iconst (v := 1) dX9_turnsBack_51 (by decide) ?_
        refine z_goto 56 dX9_turnsBack_52 (by decide) ?_
        obtain ⟨k2, ek2, uk2, h⟩ := h
        refine z_zast2 (b := true) (k0 := k2) shM_23 (by decide) ek2 uk2 dX9_turnsBack_56 ?_
        refine z_goto 108 dX9_turnsBack_57 (by decide) ?_
        refine z_iload dX9_turnsBack_108 2 rfl ?_
        refine z_istore_n [(3, .int (M 21 k1)), (6, .int (l3 - l3 / 64 * 64)), (5, .int ((M 21 k1) - (M 21 k1) / 64 * 64)), (4, .int (M 21 k1)), (0, .ref 0), (1, .int l1)] dX9_turnsBack_110 (by decide) rfl ?_
        refine z_goto 2 dX9_turnsBack_111 (by decide) ?_
        exact zW.sub [4, 5, 0] rfl h
theorem dX9_parts_0 : decode cX9_parts 0 = .ok (.aload_n 0, 1) := by decide +kernel
theorem dX9_parts_1 : decode cX9_parts 1 = .ok (.iload_n 1, 1) := by decide +kernel
theorem dX9_parts_2 : decode cX9_parts 2 = .ok (.invokevirtual 105, 3) := by decide +kernel
theorem dX9_parts_5 : decode cX9_parts 5 = .ok (.ifCond .eq 20, 3) := by decide +kernel
theorem dX9_parts_8 : decode cX9_parts 8 = .ok (.aload_n 0, 1) := by decide +kernel
theorem dX9_parts_9 : decode cX9_parts 9 = .ok (.iload_n 2, 1) := by decide +kernel
theorem dX9_parts_10 : decode cX9_parts 10 = .ok (.invokevirtual 105, 3) := by decide +kernel
theorem dX9_parts_13 : decode cX9_parts 13 = .ok (.ifCond .eq 12, 3) := by decide +kernel
theorem dX9_parts_16 : decode cX9_parts 16 = .ok (.iload_n 1, 1) := by decide +kernel
theorem dX9_parts_17 : decode cX9_parts 17 = .ok (.iload_n 2, 1) := by decide +kernel
theorem dX9_parts_18 : decode cX9_parts 18 = .ok (.invokestatic 440, 3) := by decide +kernel
theorem dX9_parts_21 : decode cX9_parts 21 = .ok (.iconst 2, 1) := by decide +kernel
theorem dX9_parts_22 : decode cX9_parts 22 = .ok (.if_icmp .ge 5, 3) := by decide +kernel
theorem dX9_parts_25 : decode cX9_parts 25 = .ok (.iconst (-1), 1) := by decide +kernel
theorem dX9_parts_26 : decode cX9_parts 26 = .ok (.ireturn, 1) := by decide +kernel
theorem dX9_parts_27 : decode cX9_parts 27 = .ok (.iconst 0, 1) := by decide +kernel
theorem dX9_parts_28 : decode cX9_parts 28 = .ok (.istore_n 3, 1) := by decide +kernel
theorem dX9_parts_29 : decode cX9_parts 29 = .ok (.iload_n 3, 1) := by decide +kernel
theorem dX9_parts_30 : decode cX9_parts 30 = .ok (.bipush 64, 2) := by decide +kernel
theorem dX9_parts_32 : decode cX9_parts 32 = .ok (.if_icmp .ge 16, 3) := by decide +kernel
theorem dX9_parts_35 : decode cX9_parts 35 = .ok (.aload_n 0, 1) := by decide +kernel
theorem dX9_parts_36 : decode cX9_parts 36 = .ok (.getfield 81, 3) := by decide +kernel
theorem dX9_parts_39 : decode cX9_parts 39 = .ok (.iload_n 3, 1) := by decide +kernel
theorem dX9_parts_40 : decode cX9_parts 40 = .ok (.iconst 0, 1) := by decide +kernel
theorem dX9_parts_41 : decode cX9_parts 41 = .ok (.bastore, 1) := by decide +kernel
theorem dX9_parts_42 : decode cX9_parts 42 = .ok (.iinc 3 1, 3) := by decide +kernel
theorem dX9_parts_45 : decode cX9_parts 45 = .ok (.goto (-16), 3) := by decide +kernel
theorem dX9_parts_48 : decode cX9_parts 48 = .ok (.iconst 0, 1) := by decide +kernel
theorem dX9_parts_49 : decode cX9_parts 49 = .ok (.istore_n 3, 1) := by decide +kernel
theorem dX9_parts_50 : decode cX9_parts 50 = .ok (.iload_n 3, 1) := by decide +kernel
theorem dX9_parts_51 : decode cX9_parts 51 = .ok (.sipush 256, 3) := by decide +kernel
theorem dX9_parts_54 : decode cX9_parts 54 = .ok (.if_icmp .ge 16, 3) := by decide +kernel
theorem dX9_parts_57 : decode cX9_parts 57 = .ok (.aload_n 0, 1) := by decide +kernel
theorem dX9_parts_58 : decode cX9_parts 58 = .ok (.getfield 84, 3) := by decide +kernel
theorem dX9_parts_61 : decode cX9_parts 61 = .ok (.iload_n 3, 1) := by decide +kernel
theorem dX9_parts_62 : decode cX9_parts 62 = .ok (.iconst 0, 1) := by decide +kernel
theorem dX9_parts_63 : decode cX9_parts 63 = .ok (.bastore, 1) := by decide +kernel
theorem dX9_parts_64 : decode cX9_parts 64 = .ok (.iinc 3 1, 3) := by decide +kernel
theorem dX9_parts_67 : decode cX9_parts 67 = .ok (.goto (-17), 3) := by decide +kernel
theorem dX9_parts_70 : decode cX9_parts 70 = .ok (.iconst 0, 1) := by decide +kernel
theorem dX9_parts_71 : decode cX9_parts 71 = .ok (.istore_n 3, 1) := by decide +kernel
theorem dX9_parts_72 : decode cX9_parts 72 = .ok (.aload_n 0, 1) := by decide +kernel
theorem dX9_parts_73 : decode cX9_parts 73 = .ok (.iload_n 1, 1) := by decide +kernel
theorem dX9_parts_74 : decode cX9_parts 74 = .ok (.iload_n 2, 1) := by decide +kernel
theorem dX9_parts_75 : decode cX9_parts 75 = .ok (.invokevirtual 492, 3) := by decide +kernel
theorem dX9_parts_78 : decode cX9_parts 78 = .ok (.ifCond .eq 9, 3) := by decide +kernel
theorem dX9_parts_81 : decode cX9_parts 81 = .ok (.iinc 3 1, 3) := by decide +kernel
theorem dX9_parts_84 : decode cX9_parts 84 = .ok (.goto (-12), 3) := by decide +kernel
theorem dX9_parts_87 : decode cX9_parts 87 = .ok (.iload_n 3, 1) := by decide +kernel
theorem dX9_parts_88 : decode cX9_parts 88 = .ok (.ireturn, 1) := by decide +kernel
set_option maxRecDepth 20000 in
theorem vX9_parts {g : zG} {d : Nat} {Q : Int32 → zM → Prop} {M : zM} {l1 : Int32} {l2 : Int32} (h : zCz shM g d mX9_isCell [.ref 0, .int l1] M (fun b1 M1 => (b1 = false → Q (-1) M1) ∧ (b1 = true → zCz shM g d mX9_isCell [.ref 0, .int l2] M1 (fun b2 M2 => (b2 = false → Q (-1) M2) ∧ (b2 = true → zCi shM g d mX9_apart [.int l1, .int l2] M2 (fun x1 M3 => (2 ≤ x1 → zW shM g (d + 1) mX9_parts (zi Q) 29 [(0, .ref 0), (1, .int l1), (2, .int l2), (3, .int 0)] [] M3) ∧ (¬ 2 ≤ x1 → Q (-1) M3))))))) : zCi shM g (d + 1) mX9_parts [.ref 0, .int l1, .int l2] M Q := by
  refine zW.enter (by decide +kernel) (Nat.le_of_ble_eq_true rfl) ?_
  change zW shM g (d + 1) mX9_parts (zi Q) 0 [(0, .ref 0), (1, .int l1), (2, .int l2)] [] M
  refine z_aload_n dX9_parts_0 0 rfl ?_
  refine z_iload_n dX9_parts_1 1 rfl ?_
  refine z_callV (m2 := mX9_isCell) (st := []) [.int l1] okX9_isCell (Or.inl lkX9_105) shM_0 rfl rfl rfl (Nat.le_of_ble_eq_true rfl) dX9_parts_2 (zgo_z h fun b1 M1 h => ?_)
  refine z_ifb_eq 25 dX9_parts_5 (by decide) (fun c1 => ?_) (fun c1 => ?_)
  · have h := h.1 c1
    refine z_iconst (v := (-1)) dX9_parts_25 (by decide) ?_
    exact z_iret (st := []) rfl rfl dX9_parts_26 ⟨_, rfl, h⟩
  · have h := h.2 c1
    refine z_aload_n dX9_parts_8 0 rfl ?_
    refine z_iload_n dX9_parts_9 2 rfl ?_
    refine z_callV (m2 := mX9_isCell) (st := []) [.int l2] okX9_isCell (Or.inl lkX9_105) shM_0 rfl rfl rfl (Nat.le_of_ble_eq_true rfl) dX9_parts_10 (zgo_z h fun b2 M2 h => ?_)
    refine z_ifb_eq 25 dX9_parts_13 (by decide) (fun c2 => ?_) (fun c2 => ?_)
    · have h := h.1 c2
      refine z_iconst (v := (-1)) dX9_parts_25 (by decide) ?_
      exact z_iret (st := []) rfl rfl dX9_parts_26 ⟨_, rfl, h⟩
    · have h := h.2 c2
      refine z_iload_n dX9_parts_16 1 rfl ?_
      refine z_iload_n dX9_parts_17 2 rfl ?_
      refine z_callS (m2 := mX9_apart) (st := []) [.int l1, .int l2] okX9_apart (Or.inl lkX9_440) rfl rfl (Nat.le_of_ble_eq_true rfl) dX9_parts_18 (zgo_i h fun x1 M3 h => ?_)
      refine z_iconst (v := 2) dX9_parts_21 (by decide) ?_
      refine z_icmp_ge 27 dX9_parts_22 (by decide) (fun c3 => ?_) (fun c3 => ?_)
      · have h := h.1 c3
        refine z_iconst (v := 0) dX9_parts_27 (by decide) ?_
        refine z_istore_n [(3, .int 0), (0, .ref 0), (1, .int l1), (2, .int l2)] dX9_parts_28 (by decide) rfl ?_
        exact zW.sub [1, 2, 3, 0] rfl h
      · have h := h.2 c3
        refine z_iconst (v := (-1)) dX9_parts_25 (by decide) ?_
        exact z_iret (st := []) rfl rfl dX9_parts_26 ⟨_, rfl, h⟩
set_option maxRecDepth 20000 in
theorem vX9_parts_29 {g : zG} {d : Nat} {Q : Int32 → zM → Prop} {M : zM} {l1 : Int32} {l2 : Int32} {l3 : Int32} (h : (64 ≤ l3 → zW shM g (d + 1) mX9_parts (zi Q) 50 [(0, .ref 0), (1, .int l1), (2, .int l2), (3, .int 0)] [] M) ∧ (¬ 64 ≤ l3 → ∃ k1 : Nat, l3 = iv k1 ∧ k1 < 64 ∧ zW shM g (d + 1) mX9_parts (zi Q) 29 [(0, .ref 0), (1, .int l1), (2, .int l2), (3, .int (l3 + 1))] [] (zup M 23 k1 (zbI false)))) : zW shM g (d + 1) mX9_parts (zi Q) 29 [(0, .ref 0), (1, .int l1), (2, .int l2), (3, .int l3)] [] M := by
  refine z_iload_n dX9_parts_29 3 rfl ?_
  refine z_bipush (v := 64) dX9_parts_30 (by decide) ?_
  refine z_icmp_ge 48 dX9_parts_32 (by decide) (fun c1 => ?_) (fun c1 => ?_)
  · have h := h.1 c1
    refine z_iconst (v := 0) dX9_parts_48 (by decide) ?_
    refine z_istore_n [(3, .int 0), (0, .ref 0), (1, .int l1), (2, .int l2)] dX9_parts_49 (by decide) rfl ?_
    exact zW.sub [1, 2, 3, 0] rfl h
  · have h := h.2 c1
    refine z_aload_n dX9_parts_35 0 rfl ?_
    refine z_getr shM_0 rfl flX9_81 dX9_parts_36 ?_
    refine z_iload_n dX9_parts_39 3 rfl ?_
    refine z_iconst (v := 0) dX9_parts_40 (by decide) ?_
    obtain ⟨k1, ek1, uk1, h⟩ := h
    refine z_zast2 (b := false) (k0 := k1) shM_23 (by decide) ek1 uk1 dX9_parts_41 ?_
    refine z_iinc (x := l3) (v := (l3 + 1)) [(3, .int (l3 + 1)), (0, .ref 0), (1, .int l1), (2, .int l2)] dX9_parts_42 3 rfl rfl (by decide) rfl ?_
    refine z_goto 29 dX9_parts_45 (by decide) ?_
    exact zW.sub [1, 2, 3, 0] rfl h
set_option maxRecDepth 20000 in
theorem vX9_parts_50 {g : zG} {d : Nat} {Q : Int32 → zM → Prop} {M : zM} {l1 : Int32} {l2 : Int32} {l3 : Int32} (h : (256 ≤ l3 → zW shM g (d + 1) mX9_parts (zi Q) 72 [(0, .ref 0), (1, .int l1), (2, .int l2), (3, .int 0)] [] M) ∧ (¬ 256 ≤ l3 → ∃ k1 : Nat, l3 = iv k1 ∧ k1 < 256 ∧ zW shM g (d + 1) mX9_parts (zi Q) 50 [(0, .ref 0), (1, .int l1), (2, .int l2), (3, .int (l3 + 1))] [] (zup M 24 k1 (zbI false)))) : zW shM g (d + 1) mX9_parts (zi Q) 50 [(0, .ref 0), (1, .int l1), (2, .int l2), (3, .int l3)] [] M := by
  refine z_iload_n dX9_parts_50 3 rfl ?_
  refine z_sipush (v := 256) dX9_parts_51 (by decide) ?_
  refine z_icmp_ge 70 dX9_parts_54 (by decide) (fun c1 => ?_) (fun c1 => ?_)
  · have h := h.1 c1
    refine z_iconst (v := 0) dX9_parts_70 (by decide) ?_
    refine z_istore_n [(3, .int 0), (0, .ref 0), (1, .int l1), (2, .int l2)] dX9_parts_71 (by decide) rfl ?_
    exact zW.sub [1, 2, 3, 0] rfl h
  · have h := h.2 c1
    refine z_aload_n dX9_parts_57 0 rfl ?_
    refine z_getr shM_0 rfl flX9_84 dX9_parts_58 ?_
    refine z_iload_n dX9_parts_61 3 rfl ?_
    refine z_iconst (v := 0) dX9_parts_62 (by decide) ?_
    obtain ⟨k1, ek1, uk1, h⟩ := h
    refine z_zast2 (b := false) (k0 := k1) shM_24 (by decide) ek1 uk1 dX9_parts_63 ?_
    refine z_iinc (x := l3) (v := (l3 + 1)) [(3, .int (l3 + 1)), (0, .ref 0), (1, .int l1), (2, .int l2)] dX9_parts_64 3 rfl rfl (by decide) rfl ?_
    refine z_goto 50 dX9_parts_67 (by decide) ?_
    exact zW.sub [1, 2, 3, 0] rfl h
set_option maxRecDepth 20000 in
theorem vX9_parts_72 {g : zG} {d : Nat} {Q : Int32 → zM → Prop} {M : zM} {l1 : Int32} {l2 : Int32} {l3 : Int32} (h : zCz shM g d mX9_oneMore [.ref 0, .int l1, .int l2] M (fun b1 M1 => (b1 = false → Q l3 M1) ∧ (b1 = true → zW shM g (d + 1) mX9_parts (zi Q) 72 [(0, .ref 0), (1, .int l1), (2, .int l2), (3, .int (l3 + 1))] [] M1))) : zW shM g (d + 1) mX9_parts (zi Q) 72 [(0, .ref 0), (1, .int l1), (2, .int l2), (3, .int l3)] [] M := by
  refine z_aload_n dX9_parts_72 0 rfl ?_
  refine z_iload_n dX9_parts_73 1 rfl ?_
  refine z_iload_n dX9_parts_74 2 rfl ?_
  refine z_callV (m2 := mX9_oneMore) (st := []) [.int l1, .int l2] okX9_oneMore (Or.inl lkX9_492) shM_0 rfl rfl rfl (Nat.le_of_ble_eq_true rfl) dX9_parts_75 (zgo_z h fun b1 M1 h => ?_)
  refine z_ifb_eq 87 dX9_parts_78 (by decide) (fun c1 => ?_) (fun c1 => ?_)
  · have h := h.1 c1
    refine z_iload_n dX9_parts_87 3 rfl ?_
    exact z_iret (st := []) rfl rfl dX9_parts_88 ⟨_, rfl, h⟩
  · have h := h.2 c1
    refine z_iinc (x := l3) (v := (l3 + 1)) [(3, .int (l3 + 1)), (0, .ref 0), (1, .int l1), (2, .int l2)] dX9_parts_81 3 rfl rfl (by decide) rfl ?_
    refine z_goto 72 dX9_parts_84 (by decide) ?_
    exact zW.sub [1, 2, 3, 0] rfl h
theorem dX9_yet_0 : decode cX9_yet 0 = .ok (.aload_n 0, 1) := by decide +kernel
theorem dX9_yet_1 : decode cX9_yet 1 = .ok (.iload_n 1, 1) := by decide +kernel
theorem dX9_yet_2 : decode cX9_yet 2 = .ok (.invokevirtual 105, 3) := by decide +kernel
theorem dX9_yet_5 : decode cX9_yet 5 = .ok (.ifCond .eq 24, 3) := by decide +kernel
theorem dX9_yet_8 : decode cX9_yet 8 = .ok (.iload_n 2, 1) := by decide +kernel
theorem dX9_yet_9 : decode cX9_yet 9 = .ok (.iconst 1, 1) := by decide +kernel
theorem dX9_yet_10 : decode cX9_yet 10 = .ok (.bipush 99, 2) := by decide +kernel
theorem dX9_yet_12 : decode cX9_yet 12 = .ok (.invokestatic 97, 3) := by decide +kernel
theorem dX9_yet_15 : decode cX9_yet 15 = .ok (.ifCond .eq 14, 3) := by decide +kernel
theorem dX9_yet_18 : decode cX9_yet 18 = .ok (.iload_n 3, 1) := by decide +kernel
theorem dX9_yet_19 : decode cX9_yet 19 = .ok (.iconst 0, 1) := by decide +kernel
theorem dX9_yet_20 : decode cX9_yet 20 = .ok (.sipush 1000, 3) := by decide +kernel
theorem dX9_yet_23 : decode cX9_yet 23 = .ok (.invokestatic 97, 3) := by decide +kernel
theorem dX9_yet_26 : decode cX9_yet 26 = .ok (.ifCond .ne 5, 3) := by decide +kernel
theorem dX9_yet_29 : decode cX9_yet 29 = .ok (.iconst (-1), 1) := by decide +kernel
theorem dX9_yet_30 : decode cX9_yet 30 = .ok (.ireturn, 1) := by decide +kernel
theorem dX9_yet_31 : decode cX9_yet 31 = .ok (.iconst 0, 1) := by decide +kernel
theorem dX9_yet_32 : decode cX9_yet 32 = .ok (.istore 4, 2) := by decide +kernel
theorem dX9_yet_34 : decode cX9_yet 34 = .ok (.iload 4, 2) := by decide +kernel
theorem dX9_yet_36 : decode cX9_yet 36 = .ok (.bipush 9, 2) := by decide +kernel
theorem dX9_yet_38 : decode cX9_yet 38 = .ok (.if_icmp .gt 37, 3) := by decide +kernel
theorem dX9_yet_41 : decode cX9_yet 41 = .ok (.aload_n 0, 1) := by decide +kernel
theorem dX9_yet_42 : decode cX9_yet 42 = .ok (.getfield 87, 3) := by decide +kernel
theorem dX9_yet_45 : decode cX9_yet 45 = .ok (.iload 4, 2) := by decide +kernel
theorem dX9_yet_47 : decode cX9_yet 47 = .ok (.iload 4, 2) := by decide +kernel
theorem dX9_yet_49 : decode cX9_yet 49 = .ok (.aload_n 0, 1) := by decide +kernel
theorem dX9_yet_50 : decode cX9_yet 50 = .ok (.getfield 7, 3) := by decide +kernel
theorem dX9_yet_53 : decode cX9_yet 53 = .ok (.bipush 21, 2) := by decide +kernel
theorem dX9_yet_55 : decode cX9_yet 55 = .ok (.iload_n 1, 1) := by decide +kernel
theorem dX9_yet_56 : decode cX9_yet 56 = .ok (.iadd, 1) := by decide +kernel
theorem dX9_yet_57 : decode cX9_yet 57 = .ok (.iaload, 1) := by decide +kernel
theorem dX9_yet_58 : decode cX9_yet 58 = .ok (.if_icmp .ne 9, 3) := by decide +kernel
theorem dX9_yet_61 : decode cX9_yet 61 = .ok (.ldc_w 495, 3) := by decide +kernel
theorem dX9_yet_64 : decode cX9_yet 64 = .ok (.goto 4, 3) := by decide +kernel
theorem dX9_yet_67 : decode cX9_yet 67 = .ok (.iconst 0, 1) := by decide +kernel
theorem dX9_yet_68 : decode cX9_yet 68 = .ok (.iastore, 1) := by decide +kernel
theorem dX9_yet_69 : decode cX9_yet 69 = .ok (.iinc 4 1, 3) := by decide +kernel
theorem dX9_yet_72 : decode cX9_yet 72 = .ok (.goto (-38), 3) := by decide +kernel
theorem dX9_yet_75 : decode cX9_yet 75 = .ok (.iconst 0, 1) := by decide +kernel
theorem dX9_yet_76 : decode cX9_yet 76 = .ok (.istore 4, 2) := by decide +kernel
theorem dX9_yet_78 : decode cX9_yet 78 = .ok (.iload 4, 2) := by decide +kernel
theorem dX9_yet_80 : decode cX9_yet 80 = .ok (.iload_n 2, 1) := by decide +kernel
theorem dX9_yet_81 : decode cX9_yet 81 = .ok (.if_icmp .ge 69, 3) := by decide +kernel
theorem dX9_yet_84 : decode cX9_yet 84 = .ok (.iconst 1, 1) := by decide +kernel
theorem dX9_yet_85 : decode cX9_yet 85 = .ok (.istore 5, 2) := by decide +kernel
theorem dX9_yet_87 : decode cX9_yet 87 = .ok (.iload 5, 2) := by decide +kernel
theorem dX9_yet_89 : decode cX9_yet 89 = .ok (.bipush 9, 2) := by decide +kernel
theorem dX9_yet_91 : decode cX9_yet 91 = .ok (.if_icmp .gt 53, 3) := by decide +kernel
theorem dX9_yet_94 : decode cX9_yet 94 = .ok (.aload_n 0, 1) := by decide +kernel
theorem dX9_yet_95 : decode cX9_yet 95 = .ok (.getfield 87, 3) := by decide +kernel
theorem dX9_yet_98 : decode cX9_yet 98 = .ok (.iload 5, 2) := by decide +kernel
theorem dX9_yet_100 : decode cX9_yet 100 = .ok (.iaload, 1) := by decide +kernel
theorem dX9_yet_101 : decode cX9_yet 101 = .ok (.i2l, 1) := by decide +kernel
theorem dX9_yet_102 : decode cX9_yet 102 = .ok (.iload_n 3, 1) := by decide +kernel
theorem dX9_yet_103 : decode cX9_yet 103 = .ok (.i2l, 1) := by decide +kernel
theorem dX9_yet_104 : decode cX9_yet 104 = .ok (.lmul, 1) := by decide +kernel
theorem dX9_yet_105 : decode cX9_yet 105 = .ok (.ldc2_w 496, 3) := by decide +kernel
theorem dX9_yet_108 : decode cX9_yet 108 = .ok (.ldiv, 1) := by decide +kernel
theorem dX9_yet_109 : decode cX9_yet 109 = .ok (.l2i, 1) := by decide +kernel
theorem dX9_yet_110 : decode cX9_yet 110 = .ok (.istore 6, 2) := by decide +kernel
theorem dX9_yet_112 : decode cX9_yet 112 = .ok (.aload_n 0, 1) := by decide +kernel
theorem dX9_yet_113 : decode cX9_yet 113 = .ok (.getfield 87, 3) := by decide +kernel
theorem dX9_yet_116 : decode cX9_yet 116 = .ok (.iload 5, 2) := by decide +kernel
theorem dX9_yet_118 : decode cX9_yet 118 = .ok (.dup2, 1) := by decide +kernel
theorem dX9_yet_119 : decode cX9_yet 119 = .ok (.iaload, 1) := by decide +kernel
theorem dX9_yet_120 : decode cX9_yet 120 = .ok (.iload 6, 2) := by decide +kernel
theorem dX9_yet_122 : decode cX9_yet 122 = .ok (.isub, 1) := by decide +kernel
theorem dX9_yet_123 : decode cX9_yet 123 = .ok (.iastore, 1) := by decide +kernel
theorem dX9_yet_124 : decode cX9_yet 124 = .ok (.aload_n 0, 1) := by decide +kernel
theorem dX9_yet_125 : decode cX9_yet 125 = .ok (.getfield 87, 3) := by decide +kernel
theorem dX9_yet_128 : decode cX9_yet 128 = .ok (.iload 5, 2) := by decide +kernel
theorem dX9_yet_130 : decode cX9_yet 130 = .ok (.iconst 1, 1) := by decide +kernel
theorem dX9_yet_131 : decode cX9_yet 131 = .ok (.isub, 1) := by decide +kernel
theorem dX9_yet_132 : decode cX9_yet 132 = .ok (.dup2, 1) := by decide +kernel
theorem dX9_yet_133 : decode cX9_yet 133 = .ok (.iaload, 1) := by decide +kernel
theorem dX9_yet_134 : decode cX9_yet 134 = .ok (.iload 6, 2) := by decide +kernel
theorem dX9_yet_136 : decode cX9_yet 136 = .ok (.iadd, 1) := by decide +kernel
theorem dX9_yet_137 : decode cX9_yet 137 = .ok (.iastore, 1) := by decide +kernel
theorem dX9_yet_138 : decode cX9_yet 138 = .ok (.iinc 5 1, 3) := by decide +kernel
theorem dX9_yet_141 : decode cX9_yet 141 = .ok (.goto (-54), 3) := by decide +kernel
theorem dX9_yet_144 : decode cX9_yet 144 = .ok (.iinc 4 1, 3) := by decide +kernel
theorem dX9_yet_147 : decode cX9_yet 147 = .ok (.goto (-69), 3) := by decide +kernel
theorem dX9_yet_150 : decode cX9_yet 150 = .ok (.iconst 0, 1) := by decide +kernel
theorem dX9_yet_151 : decode cX9_yet 151 = .ok (.istore 4, 2) := by decide +kernel
theorem dX9_yet_153 : decode cX9_yet 153 = .ok (.aload_n 0, 1) := by decide +kernel
theorem dX9_yet_154 : decode cX9_yet 154 = .ok (.getfield 7, 3) := by decide +kernel
theorem dX9_yet_157 : decode cX9_yet 157 = .ok (.sipush 152, 3) := by decide +kernel
theorem dX9_yet_160 : decode cX9_yet 160 = .ok (.iaload, 1) := by decide +kernel
theorem dX9_yet_161 : decode cX9_yet 161 = .ok (.istore 5, 2) := by decide +kernel
theorem dX9_yet_163 : decode cX9_yet 163 = .ok (.iload 5, 2) := by decide +kernel
theorem dX9_yet_165 : decode cX9_yet 165 = .ok (.bipush 9, 2) := by decide +kernel
theorem dX9_yet_167 : decode cX9_yet 167 = .ok (.if_icmp .gt 21, 3) := by decide +kernel
theorem dX9_yet_170 : decode cX9_yet 170 = .ok (.iload 4, 2) := by decide +kernel
theorem dX9_yet_172 : decode cX9_yet 172 = .ok (.aload_n 0, 1) := by decide +kernel
theorem dX9_yet_173 : decode cX9_yet 173 = .ok (.getfield 87, 3) := by decide +kernel
theorem dX9_yet_176 : decode cX9_yet 176 = .ok (.iload 5, 2) := by decide +kernel
theorem dX9_yet_178 : decode cX9_yet 178 = .ok (.iaload, 1) := by decide +kernel
theorem dX9_yet_179 : decode cX9_yet 179 = .ok (.iadd, 1) := by decide +kernel
theorem dX9_yet_180 : decode cX9_yet 180 = .ok (.istore 4, 2) := by decide +kernel
theorem dX9_yet_182 : decode cX9_yet 182 = .ok (.iinc 5 1, 3) := by decide +kernel
theorem dX9_yet_185 : decode cX9_yet 185 = .ok (.goto (-22), 3) := by decide +kernel
theorem dX9_yet_188 : decode cX9_yet 188 = .ok (.iload 4, 2) := by decide +kernel
theorem dX9_yet_190 : decode cX9_yet 190 = .ok (.ireturn, 1) := by decide +kernel
set_option maxRecDepth 20000 in
theorem vX9_yet {g : zG} {d : Nat} {Q : Int32 → zM → Prop} {M : zM} {l1 : Int32} {l2 : Int32} {l3 : Int32} (h : zCz shM g d mX9_isCell [.ref 0, .int l1] M (fun b1 M1 => (b1 = false → Q (-1) M1) ∧ (b1 = true → zCz shM g d mX9_isIn [.int l2, .int 1, .int 99] M1 (fun b2 M2 => (b2 = false → Q (-1) M2) ∧ (b2 = true → zCz shM g d mX9_isIn [.int l3, .int 0, .int 1000] M2 (fun b3 M3 => (b3 = true → zW shM g (d + 1) mX9_yet (zi Q) 34 [(0, .ref 0), (1, .int l1), (2, .int l2), (3, .int l3), (4, .int 0)] [] M3) ∧ (b3 = false → Q (-1) M3))))))) : zCi shM g (d + 1) mX9_yet [.ref 0, .int l1, .int l2, .int l3] M Q := by
  refine zW.enter (by decide +kernel) (Nat.le_of_ble_eq_true rfl) ?_
  change zW shM g (d + 1) mX9_yet (zi Q) 0 [(0, .ref 0), (1, .int l1), (2, .int l2), (3, .int l3)] [] M
  refine z_aload_n dX9_yet_0 0 rfl ?_
  refine z_iload_n dX9_yet_1 1 rfl ?_
  refine z_callV (m2 := mX9_isCell) (st := []) [.int l1] okX9_isCell (Or.inl lkX9_105) shM_0 rfl rfl rfl (Nat.le_of_ble_eq_true rfl) dX9_yet_2 (zgo_z h fun b1 M1 h => ?_)
  refine z_ifb_eq 29 dX9_yet_5 (by decide) (fun c1 => ?_) (fun c1 => ?_)
  · have h := h.1 c1
    refine z_iconst (v := (-1)) dX9_yet_29 (by decide) ?_
    exact z_iret (st := []) rfl rfl dX9_yet_30 ⟨_, rfl, h⟩
  · have h := h.2 c1
    refine z_iload_n dX9_yet_8 2 rfl ?_
    refine z_iconst (v := 1) dX9_yet_9 (by decide) ?_
    refine z_bipush (v := 99) dX9_yet_10 (by decide) ?_
    refine z_callS (m2 := mX9_isIn) (st := []) [.int l2, .int 1, .int 99] okX9_isIn (Or.inl lkX9_97) rfl rfl (Nat.le_of_ble_eq_true rfl) dX9_yet_12 (zgo_z h fun b2 M2 h => ?_)
    refine z_ifb_eq 29 dX9_yet_15 (by decide) (fun c2 => ?_) (fun c2 => ?_)
    · have h := h.1 c2
      refine z_iconst (v := (-1)) dX9_yet_29 (by decide) ?_
      exact z_iret (st := []) rfl rfl dX9_yet_30 ⟨_, rfl, h⟩
    · have h := h.2 c2
      refine z_iload_n dX9_yet_18 3 rfl ?_
      refine z_iconst (v := 0) dX9_yet_19 (by decide) ?_
      refine z_sipush (v := 1000) dX9_yet_20 (by decide) ?_
      refine z_callS (m2 := mX9_isIn) (st := []) [.int l3, .int 0, .int 1000] okX9_isIn (Or.inl lkX9_97) rfl rfl (Nat.le_of_ble_eq_true rfl) dX9_yet_23 (zgo_z h fun b3 M3 h => ?_)
      refine z_ifb_ne 31 dX9_yet_26 (by decide) (fun c3 => ?_) (fun c3 => ?_)
      · have h := h.1 c3
        refine z_iconst (v := 0) dX9_yet_31 (by decide) ?_
        refine z_istore [(4, .int 0), (0, .ref 0), (1, .int l1), (2, .int l2), (3, .int l3)] dX9_yet_32 (by decide) rfl ?_
        exact zW.sub [1, 2, 3, 4, 0] rfl h
      · have h := h.2 c3
        refine z_iconst (v := (-1)) dX9_yet_29 (by decide) ?_
        exact z_iret (st := []) rfl rfl dX9_yet_30 ⟨_, rfl, h⟩
set_option maxRecDepth 20000 in
theorem vX9_yet_34 {g : zG} {d : Nat} {Q : Int32 → zM → Prop} {M : zM} {l1 : Int32} {l2 : Int32} {l3 : Int32} {l4 : Int32} (h : (9 < l4 → zW shM g (d + 1) mX9_yet (zi Q) 78 [(0, .ref 0), (2, .int l2), (3, .int l3), (4, .int 0)] [] M) ∧ (¬ 9 < l4 → ∃ k1 : Nat, (21 + l1) = iv k1 ∧ k1 < 2200 ∧ (¬ l4 = (M 1 k1) → ∃ k2 : Nat, l4 = iv k2 ∧ k2 < 10 ∧ zW shM g (d + 1) mX9_yet (zi Q) 34 [(0, .ref 0), (1, .int l1), (2, .int l2), (3, .int l3), (4, .int (l4 + 1))] [] (zup M 25 k2 0)) ∧ (l4 = (M 1 k1) → ∃ k2 : Nat, l4 = iv k2 ∧ k2 < 10 ∧ zW shM g (d + 1) mX9_yet (zi Q) 34 [(0, .ref 0), (1, .int l1), (2, .int l2), (3, .int l3), (4, .int (l4 + 1))] [] (zup M 25 k2 1000000)))) : zW shM g (d + 1) mX9_yet (zi Q) 34 [(0, .ref 0), (1, .int l1), (2, .int l2), (3, .int l3), (4, .int l4)] [] M := by
  refine z_iload dX9_yet_34 4 rfl ?_
  refine z_bipush (v := 9) dX9_yet_36 (by decide) ?_
  refine z_icmp_gt 75 dX9_yet_38 (by decide) (fun c1 => ?_) (fun c1 => ?_)
  · have h := h.1 c1
    refine z_iconst (v := 0) dX9_yet_75 (by decide) ?_
    refine z_istore [(4, .int 0), (0, .ref 0), (1, .int l1), (2, .int l2), (3, .int l3)] dX9_yet_76 (by decide) rfl ?_
    exact zW.sub [1, 3, 4, 0] rfl h
  · have h := h.2 c1
    refine z_aload_n dX9_yet_41 0 rfl ?_
    refine z_getr shM_0 rfl flX9_87 dX9_yet_42 ?_
    refine z_iload dX9_yet_45 4 rfl ?_
    refine z_iload dX9_yet_47 4 rfl ?_
    refine z_aload_n dX9_yet_49 0 rfl ?_
    refine z_getr shM_0 rfl flX9_7 dX9_yet_50 ?_
    refine z_bipush (v := 21) dX9_yet_53 (by decide) ?_
    refine z_iload_n dX9_yet_55 1 rfl ?_
    refine z_iadd dX9_yet_56 ?_
    obtain ⟨k1, ek1, uk1, h⟩ := h
    refine z_iald2 (k0 := k1) shM_1 (by decide) ek1 uk1 dX9_yet_57 ?_
    refine z_icmp_ne 67 dX9_yet_58 (by decide) (fun c2 => ?_) (fun c2 => ?_)
    · have h := h.1 c2
      refine z_iconst (v := 0) dX9_yet_67 (by decide) ?_
      obtain ⟨k2, ek2, uk2, h⟩ := h
      refine z_iast2 (k0 := k2) shM_25 (by decide) ek2 uk2 dX9_yet_68 ?_
      refine z_iinc (x := l4) (v := (l4 + 1)) [(4, .int (l4 + 1)), (0, .ref 0), (1, .int l1), (2, .int l2), (3, .int l3)] dX9_yet_69 4 rfl rfl (by decide) rfl ?_
      refine z_goto 34 dX9_yet_72 (by decide) ?_
      exact zW.sub [1, 2, 3, 4, 0] rfl h
    · have h := h.2 c2
      refine z_ldcw dX9_yet_61 kcX9_495 ?_
      refine z_goto 68 dX9_yet_64 (by decide) ?_
      obtain ⟨k2, ek2, uk2, h⟩ := h
      refine z_iast2 (k0 := k2) shM_25 (by decide) ek2 uk2 dX9_yet_68 ?_
      refine z_iinc (x := l4) (v := (l4 + 1)) [(4, .int (l4 + 1)), (0, .ref 0), (1, .int l1), (2, .int l2), (3, .int l3)] dX9_yet_69 4 rfl rfl (by decide) rfl ?_
      refine z_goto 34 dX9_yet_72 (by decide) ?_
      exact zW.sub [1, 2, 3, 4, 0] rfl h
set_option maxRecDepth 20000 in
theorem vX9_yet_78 {g : zG} {d : Nat} {Q : Int32 → zM → Prop} {M : zM} {l2 : Int32} {l3 : Int32} {l4 : Int32} (h : (l2 ≤ l4 → zW shM g (d + 1) mX9_yet (zi Q) 163 [(0, .ref 0), (4, .int 0), (5, .int (M 1 152))] [] M) ∧ (¬ l2 ≤ l4 → zW shM g (d + 1) mX9_yet (zi Q) 87 [(0, .ref 0), (2, .int l2), (3, .int l3), (4, .int l4), (5, .int 1)] [] M)) : zW shM g (d + 1) mX9_yet (zi Q) 78 [(0, .ref 0), (2, .int l2), (3, .int l3), (4, .int l4)] [] M := by
  refine z_iload dX9_yet_78 3 rfl ?_
  refine z_iload_n dX9_yet_80 1 rfl ?_
  refine z_icmp_ge 150 dX9_yet_81 (by decide) (fun c1 => ?_) (fun c1 => ?_)
  · have h := h.1 c1
    refine z_iconst (v := 0) dX9_yet_150 (by decide) ?_
    refine z_istore [(4, .int 0), (0, .ref 0), (2, .int l2), (3, .int l3)] dX9_yet_151 (by decide) rfl ?_
    refine z_aload_n dX9_yet_153 1 rfl ?_
    refine z_getr shM_0 rfl flX9_7 dX9_yet_154 ?_
    refine z_sipush (v := 152) dX9_yet_157 (by decide) ?_
    refine z_iald2 (k0 := 152) shM_1 (by decide) (by decide) (by decide) dX9_yet_160 ?_
    refine z_istore [(5, .int (M 1 152)), (4, .int 0), (0, .ref 0), (2, .int l2), (3, .int l3)] dX9_yet_161 (by decide) rfl ?_
    exact zW.sub [2, 1, 0] rfl h
  · have h := h.2 c1
    refine z_iconst (v := 1) dX9_yet_84 (by decide) ?_
    refine z_istore [(5, .int 1), (0, .ref 0), (2, .int l2), (3, .int l3), (4, .int l4)] dX9_yet_85 (by decide) rfl ?_
    exact zW.sub [1, 2, 3, 4, 0] rfl h
set_option maxRecDepth 20000 in
theorem vX9_yet_87 {g : zG} {d : Nat} {Q : Int32 → zM → Prop} {M : zM} {l2 : Int32} {l3 : Int32} {l4 : Int32} {l5 : Int32} (h : (9 < l5 → zW shM g (d + 1) mX9_yet (zi Q) 78 [(0, .ref 0), (2, .int l2), (3, .int l3), (4, .int (l4 + 1))] [] M) ∧ (¬ 9 < l5 → ∃ k1 : Nat, l5 = iv k1 ∧ k1 < 10 ∧ ∀ v1 : Int32, v1 = ((M 25 k1) - (((M 25 k1).toInt64 * l3.toInt64) / 1000).toInt32) → ∃ k2 : Nat, (l5 - 1) = iv k2 ∧ k2 < 10 ∧ ∀ v2 : Int32, v2 = (((zup M 25 k1 v1) 25 k2) + (((M 25 k1).toInt64 * l3.toInt64) / 1000).toInt32) → zW shM g (d + 1) mX9_yet (zi Q) 87 [(0, .ref 0), (2, .int l2), (3, .int l3), (4, .int l4), (5, .int (l5 + 1))] [] (zup (zup M 25 k1 v1) 25 k2 v2))) : zW shM g (d + 1) mX9_yet (zi Q) 87 [(0, .ref 0), (2, .int l2), (3, .int l3), (4, .int l4), (5, .int l5)] [] M := by
  refine z_iload dX9_yet_87 4 rfl ?_
  refine z_bipush (v := 9) dX9_yet_89 (by decide) ?_
  refine z_icmp_gt 144 dX9_yet_91 (by decide) (fun c1 => ?_) (fun c1 => ?_)
  · have h := h.1 c1
    refine z_iinc (x := l4) (v := (l4 + 1)) [(4, .int (l4 + 1)), (0, .ref 0), (2, .int l2), (3, .int l3), (5, .int l5)] dX9_yet_144 3 rfl rfl (by decide) rfl ?_
    refine z_goto 78 dX9_yet_147 (by decide) ?_
    exact zW.sub [1, 2, 3, 0] rfl h
  · have h := h.2 c1
    refine z_aload_n dX9_yet_94 0 rfl ?_
    refine z_getr shM_0 rfl flX9_87 dX9_yet_95 ?_
    refine z_iload dX9_yet_98 4 rfl ?_
    obtain ⟨k1, ek1, uk1, h⟩ := h
    refine z_iald2 (k0 := k1) shM_25 (by decide) ek1 uk1 dX9_yet_100 ?_
    refine z_i2l dX9_yet_101 ?_
    refine z_iload_n dX9_yet_102 2 rfl ?_
    refine z_i2l dX9_yet_103 ?_
    refine z_lmul dX9_yet_104 ?_
    refine z_ldc2 dX9_yet_105 kcX9_496 ?_
    refine z_ldiv dX9_yet_108 (by decide) ?_
    refine z_l2i dX9_yet_109 ?_
    refine z_istore [(6, .int ((((M 25 k1).toInt64 * l3.toInt64) / 1000).toInt32)), (0, .ref 0), (2, .int l2), (3, .int l3), (4, .int l4), (5, .int l5)] dX9_yet_110 (by decide) rfl ?_
    refine z_aload_n dX9_yet_112 1 rfl ?_
    refine z_getr shM_0 rfl flX9_87 dX9_yet_113 ?_
    refine z_iload dX9_yet_116 5 rfl ?_
    refine z_dup2 dX9_yet_118 ?_
    refine z_iald2 (k0 := k1) shM_25 (by decide) ek1 uk1 dX9_yet_119 ?_
    refine z_iload dX9_yet_120 0 rfl ?_
    refine z_isub dX9_yet_122 ?_
    obtain ⟨v1, ev1⟩ : ∃ y : Int32, y = ((M 25 k1) - (((M 25 k1).toInt64 * l3.toInt64) / 1000).toInt32) := ⟨_, rfl⟩
    refine z_topi v1 ev1 ?_
    have h := h v1 ev1
    refine z_iast2 (k0 := k1) shM_25 (by decide) ek1 uk1 dX9_yet_123 ?_
    refine z_aload_n dX9_yet_124 1 rfl ?_
    refine z_getr shM_0 rfl flX9_87 dX9_yet_125 ?_
    refine z_iload dX9_yet_128 5 rfl ?_
    refine z_iconst (v := 1) dX9_yet_130 (by decide) ?_
    refine z_isub dX9_yet_131 ?_
    refine z_dup2 dX9_yet_132 ?_
    obtain ⟨k2, ek2, uk2, h⟩ := h
    refine z_iald2 (k0 := k2) shM_25 (by decide) ek2 uk2 dX9_yet_133 ?_
    refine z_iload dX9_yet_134 0 rfl ?_
    refine z_iadd dX9_yet_136 ?_
    obtain ⟨v2, ev2⟩ : ∃ y : Int32, y = (((zup M 25 k1 v1) 25 k2) + (((M 25 k1).toInt64 * l3.toInt64) / 1000).toInt32) := ⟨_, rfl⟩
    refine z_topi v2 ev2 ?_
    have h := h v2 ev2
    refine z_iast2 (k0 := k2) shM_25 (by decide) ek2 uk2 dX9_yet_137 ?_
    refine z_iinc (x := l5) (v := (l5 + 1)) [(5, .int (l5 + 1)), (6, .int ((((M 25 k1).toInt64 * l3.toInt64) / 1000).toInt32)), (0, .ref 0), (2, .int l2), (3, .int l3), (4, .int l4)] dX9_yet_138 5 rfl rfl (by decide) rfl ?_
    refine z_goto 87 dX9_yet_141 (by decide) ?_
    exact zW.sub [2, 3, 4, 5, 0] rfl h
set_option maxRecDepth 20000 in
theorem vX9_yet_163 {g : zG} {d : Nat} {Q : Int32 → zM → Prop} {M : zM} {l4 : Int32} {l5 : Int32} (h : (9 < l5 → Q l4 M) ∧ (¬ 9 < l5 → ∃ k1 : Nat, l5 = iv k1 ∧ k1 < 10 ∧ zW shM g (d + 1) mX9_yet (zi Q) 163 [(0, .ref 0), (4, .int (l4 + (M 25 k1))), (5, .int (l5 + 1))] [] M)) : zW shM g (d + 1) mX9_yet (zi Q) 163 [(0, .ref 0), (4, .int l4), (5, .int l5)] [] M := by
  refine z_iload dX9_yet_163 2 rfl ?_
  refine z_bipush (v := 9) dX9_yet_165 (by decide) ?_
  refine z_icmp_gt 188 dX9_yet_167 (by decide) (fun c1 => ?_) (fun c1 => ?_)
  · have h := h.1 c1
    refine z_iload dX9_yet_188 1 rfl ?_
    exact z_iret (st := []) rfl rfl dX9_yet_190 ⟨_, rfl, h⟩
  · have h := h.2 c1
    refine z_iload dX9_yet_170 1 rfl ?_
    refine z_aload_n dX9_yet_172 0 rfl ?_
    refine z_getr shM_0 rfl flX9_87 dX9_yet_173 ?_
    refine z_iload dX9_yet_176 2 rfl ?_
    obtain ⟨k1, ek1, uk1, h⟩ := h
    refine z_iald2 (k0 := k1) shM_25 (by decide) ek1 uk1 dX9_yet_178 ?_
    refine z_iadd dX9_yet_179 ?_
    refine z_istore [(4, .int (l4 + (M 25 k1))), (0, .ref 0), (5, .int l5)] dX9_yet_180 (by decide) rfl ?_
    refine z_iinc (x := l5) (v := (l5 + 1)) [(5, .int (l5 + 1)), (4, .int (l4 + (M 25 k1))), (0, .ref 0)] dX9_yet_182 2 rfl rfl (by decide) rfl ?_
    refine z_goto 163 dX9_yet_185 (by decide) ?_
    exact zW.sub [2, 1, 0] rfl h
theorem dX9_crossedBy_0 : decode cX9_crossedBy 0 = .ok (.iconst 0, 1) := by decide +kernel
theorem dX9_crossedBy_1 : decode cX9_crossedBy 1 = .ok (.istore_n 2, 1) := by decide +kernel
theorem dX9_crossedBy_2 : decode cX9_crossedBy 2 = .ok (.aload_n 0, 1) := by decide +kernel
theorem dX9_crossedBy_3 : decode cX9_crossedBy 3 = .ok (.getfield 7, 3) := by decide +kernel
theorem dX9_crossedBy_6 : decode cX9_crossedBy 6 = .ok (.iconst 3, 1) := by decide +kernel
theorem dX9_crossedBy_7 : decode cX9_crossedBy 7 = .ok (.iload_n 1, 1) := by decide +kernel
theorem dX9_crossedBy_8 : decode cX9_crossedBy 8 = .ok (.iadd, 1) := by decide +kernel
theorem dX9_crossedBy_9 : decode cX9_crossedBy 9 = .ok (.iaload, 1) := by decide +kernel
theorem dX9_crossedBy_10 : decode cX9_crossedBy 10 = .ok (.istore_n 3, 1) := by decide +kernel
theorem dX9_crossedBy_11 : decode cX9_crossedBy 11 = .ok (.aload_n 0, 1) := by decide +kernel
theorem dX9_crossedBy_12 : decode cX9_crossedBy 12 = .ok (.getfield 7, 3) := by decide +kernel
theorem dX9_crossedBy_15 : decode cX9_crossedBy 15 = .ok (.bipush 9, 2) := by decide +kernel
theorem dX9_crossedBy_17 : decode cX9_crossedBy 17 = .ok (.iload_n 1, 1) := by decide +kernel
theorem dX9_crossedBy_18 : decode cX9_crossedBy 18 = .ok (.iadd, 1) := by decide +kernel
theorem dX9_crossedBy_19 : decode cX9_crossedBy 19 = .ok (.iaload, 1) := by decide +kernel
theorem dX9_crossedBy_20 : decode cX9_crossedBy 20 = .ok (.istore 4, 2) := by decide +kernel
theorem dX9_crossedBy_22 : decode cX9_crossedBy 22 = .ok (.iload 4, 2) := by decide +kernel
theorem dX9_crossedBy_24 : decode cX9_crossedBy 24 = .ok (.aload_n 0, 1) := by decide +kernel
theorem dX9_crossedBy_25 : decode cX9_crossedBy 25 = .ok (.getfield 7, 3) := by decide +kernel
theorem dX9_crossedBy_28 : decode cX9_crossedBy 28 = .ok (.sipush 166, 3) := by decide +kernel
theorem dX9_crossedBy_31 : decode cX9_crossedBy 31 = .ok (.iload_n 1, 1) := by decide +kernel
theorem dX9_crossedBy_32 : decode cX9_crossedBy 32 = .ok (.iadd, 1) := by decide +kernel
theorem dX9_crossedBy_33 : decode cX9_crossedBy 33 = .ok (.iaload, 1) := by decide +kernel
theorem dX9_crossedBy_34 : decode cX9_crossedBy 34 = .ok (.if_icmp .ge 64, 3) := by decide +kernel
theorem dX9_crossedBy_37 : decode cX9_crossedBy 37 = .ok (.aload_n 0, 1) := by decide +kernel
theorem dX9_crossedBy_38 : decode cX9_crossedBy 38 = .ok (.iload_n 1, 1) := by decide +kernel
theorem dX9_crossedBy_39 : decode cX9_crossedBy 39 = .ok (.iload 4, 2) := by decide +kernel
theorem dX9_crossedBy_41 : decode cX9_crossedBy 41 = .ok (.invokevirtual 366, 3) := by decide +kernel
theorem dX9_crossedBy_44 : decode cX9_crossedBy 44 = .ok (.istore 5, 2) := by decide +kernel
theorem dX9_crossedBy_46 : decode cX9_crossedBy 46 = .ok (.iload 5, 2) := by decide +kernel
theorem dX9_crossedBy_48 : decode cX9_crossedBy 48 = .ok (.iconst 2, 1) := by decide +kernel
theorem dX9_crossedBy_49 : decode cX9_crossedBy 49 = .ok (.idiv, 1) := by decide +kernel
theorem dX9_crossedBy_50 : decode cX9_crossedBy 50 = .ok (.iconst 4, 1) := by decide +kernel
theorem dX9_crossedBy_51 : decode cX9_crossedBy 51 = .ok (.if_icmp .ne 6, 3) := by decide +kernel
theorem dX9_crossedBy_54 : decode cX9_crossedBy 54 = .ok (.goto 38, 3) := by decide +kernel
theorem dX9_crossedBy_57 : decode cX9_crossedBy 57 = .ok (.aload_n 0, 1) := by decide +kernel
theorem dX9_crossedBy_58 : decode cX9_crossedBy 58 = .ok (.iload_n 3, 1) := by decide +kernel
theorem dX9_crossedBy_59 : decode cX9_crossedBy 59 = .ok (.iload 5, 2) := by decide +kernel
theorem dX9_crossedBy_61 : decode cX9_crossedBy 61 = .ok (.iconst 2, 1) := by decide +kernel
theorem dX9_crossedBy_62 : decode cX9_crossedBy 62 = .ok (.idiv, 1) := by decide +kernel
theorem dX9_crossedBy_63 : decode cX9_crossedBy 63 = .ok (.invokevirtual 369, 3) := by decide +kernel
theorem dX9_crossedBy_66 : decode cX9_crossedBy 66 = .ok (.istore_n 3, 1) := by decide +kernel
theorem dX9_crossedBy_67 : decode cX9_crossedBy 67 = .ok (.iload_n 2, 1) := by decide +kernel
theorem dX9_crossedBy_68 : decode cX9_crossedBy 68 = .ok (.iload 5, 2) := by decide +kernel
theorem dX9_crossedBy_70 : decode cX9_crossedBy 70 = .ok (.iconst 2, 1) := by decide +kernel
theorem dX9_crossedBy_71 : decode cX9_crossedBy 71 = .ok (.irem, 1) := by decide +kernel
theorem dX9_crossedBy_72 : decode cX9_crossedBy 72 = .ok (.iconst 1, 1) := by decide +kernel
theorem dX9_crossedBy_73 : decode cX9_crossedBy 73 = .ok (.if_icmp .ne 16, 3) := by decide +kernel
theorem dX9_crossedBy_76 : decode cX9_crossedBy 76 = .ok (.aload_n 0, 1) := by decide +kernel
theorem dX9_crossedBy_77 : decode cX9_crossedBy 77 = .ok (.iload_n 3, 1) := by decide +kernel
theorem dX9_crossedBy_78 : decode cX9_crossedBy 78 = .ok (.iload_n 1, 1) := by decide +kernel
theorem dX9_crossedBy_79 : decode cX9_crossedBy 79 = .ok (.invokevirtual 360, 3) := by decide +kernel
theorem dX9_crossedBy_82 : decode cX9_crossedBy 82 = .ok (.ifCond .eq 7, 3) := by decide +kernel
theorem dX9_crossedBy_85 : decode cX9_crossedBy 85 = .ok (.iconst 1, 1) := by decide +kernel
theorem dX9_crossedBy_86 : decode cX9_crossedBy 86 = .ok (.goto 4, 3) := by decide +kernel
theorem dX9_crossedBy_89 : decode cX9_crossedBy 89 = .ok (.iconst 0, 1) := by decide +kernel
theorem dX9_crossedBy_90 : decode cX9_crossedBy 90 = .ok (.iadd, 1) := by decide +kernel
theorem dX9_crossedBy_91 : decode cX9_crossedBy 91 = .ok (.istore_n 2, 1) := by decide +kernel
theorem dX9_crossedBy_92 : decode cX9_crossedBy 92 = .ok (.iinc 4 1, 3) := by decide +kernel
theorem dX9_crossedBy_95 : decode cX9_crossedBy 95 = .ok (.goto (-73), 3) := by decide +kernel
theorem dX9_crossedBy_98 : decode cX9_crossedBy 98 = .ok (.iload_n 2, 1) := by decide +kernel
theorem dX9_crossedBy_99 : decode cX9_crossedBy 99 = .ok (.ireturn, 1) := by decide +kernel
set_option maxRecDepth 20000 in
theorem vX9_crossedBy {g : zG} {d : Nat} {Q : Int32 → zM → Prop} {M : zM} {l1 : Int32} (h : ∃ k1 : Nat, (3 + l1) = iv k1 ∧ k1 < 2200 ∧ ∃ k2 : Nat, (9 + l1) = iv k2 ∧ k2 < 2200 ∧ zW shM g (d + 1) mX9_crossedBy (zi Q) 22 [(0, .ref 0), (1, .int l1), (2, .int 0), (3, .int (M 1 k1)), (4, .int (M 1 k2))] [] M) : zCi shM g (d + 1) mX9_crossedBy [.ref 0, .int l1] M Q := by
  refine zW.enter (by decide +kernel) (Nat.le_of_ble_eq_true rfl) ?_
  change zW shM g (d + 1) mX9_crossedBy (zi Q) 0 [(0, .ref 0), (1, .int l1)] [] M
  refine z_iconst (v := 0) dX9_crossedBy_0 (by decide) ?_
  refine z_istore_n [(2, .int 0), (0, .ref 0), (1, .int l1)] dX9_crossedBy_1 (by decide) rfl ?_
  refine z_aload_n dX9_crossedBy_2 1 rfl ?_
  refine z_getr shM_0 rfl flX9_7 dX9_crossedBy_3 ?_
  refine z_iconst (v := 3) dX9_crossedBy_6 (by decide) ?_
  refine z_iload_n dX9_crossedBy_7 2 rfl ?_
  refine z_iadd dX9_crossedBy_8 ?_
  obtain ⟨k1, ek1, uk1, h⟩ := h
  refine z_iald2 (k0 := k1) shM_1 (by decide) ek1 uk1 dX9_crossedBy_9 ?_
  refine z_istore_n [(3, .int (M 1 k1)), (2, .int 0), (0, .ref 0), (1, .int l1)] dX9_crossedBy_10 (by decide) rfl ?_
  refine z_aload_n dX9_crossedBy_11 2 rfl ?_
  refine z_getr shM_0 rfl flX9_7 dX9_crossedBy_12 ?_
  refine z_bipush (v := 9) dX9_crossedBy_15 (by decide) ?_
  refine z_iload_n dX9_crossedBy_17 3 rfl ?_
  refine z_iadd dX9_crossedBy_18 ?_
  obtain ⟨k2, ek2, uk2, h⟩ := h
  refine z_iald2 (k0 := k2) shM_1 (by decide) ek2 uk2 dX9_crossedBy_19 ?_
  refine z_istore [(4, .int (M 1 k2)), (3, .int (M 1 k1)), (2, .int 0), (0, .ref 0), (1, .int l1)] dX9_crossedBy_20 (by decide) rfl ?_
  exact zW.sub [3, 4, 2, 1, 0] rfl h
set_option maxRecDepth 20000 in
theorem vX9_crossedBy_22 {g : zG} {d : Nat} {Q : Int32 → zM → Prop} {M : zM} {l1 : Int32} {l2 : Int32} {l3 : Int32} {l4 : Int32} (h : ∃ k1 : Nat, (166 + l1) = iv k1 ∧ k1 < 2200 ∧ ((M 1 k1) ≤ l4 → Q l2 M) ∧ (¬ (M 1 k1) ≤ l4 → zCi shM g d mX9_stepOf [.ref 0, .int l1, .int l4] M (fun x1 M1 => (¬ (x1 / 2) = 4 → zCi shM g d mX9_wentTo [.ref 0, .int l3, .int (x1 / 2)] M1 (fun x2 M2 => (¬ (x1 - x1 / 2 * 2) = 1 → zW shM g (d + 1) mX9_crossedBy (zi Q) 22 [(0, .ref 0), (1, .int l1), (2, .int (l2 + 0)), (3, .int x2), (4, .int (l4 + 1))] [] M2) ∧ ((x1 - x1 / 2 * 2) = 1 → zCz shM g d mX9_isAnothers [.ref 0, .int x2, .int l1] M2 (fun b1 M3 => (b1 = false → zW shM g (d + 1) mX9_crossedBy (zi Q) 22 [(0, .ref 0), (1, .int l1), (2, .int (l2 + 0)), (3, .int x2), (4, .int (l4 + 1))] [] M3) ∧ (b1 = true → zW shM g (d + 1) mX9_crossedBy (zi Q) 22 [(0, .ref 0), (1, .int l1), (2, .int (l2 + 1)), (3, .int x2), (4, .int (l4 + 1))] [] M3))))) ∧ ((x1 / 2) = 4 → zW shM g (d + 1) mX9_crossedBy (zi Q) 22 [(0, .ref 0), (1, .int l1), (2, .int l2), (3, .int l3), (4, .int (l4 + 1))] [] M1)))) : zW shM g (d + 1) mX9_crossedBy (zi Q) 22 [(0, .ref 0), (1, .int l1), (2, .int l2), (3, .int l3), (4, .int l4)] [] M := by
  refine z_iload dX9_crossedBy_22 4 rfl ?_
  refine z_aload_n dX9_crossedBy_24 0 rfl ?_
  refine z_getr shM_0 rfl flX9_7 dX9_crossedBy_25 ?_
  refine z_sipush (v := 166) dX9_crossedBy_28 (by decide) ?_
  refine z_iload_n dX9_crossedBy_31 1 rfl ?_
  refine z_iadd dX9_crossedBy_32 ?_
  obtain ⟨k1, ek1, uk1, h⟩ := h
  refine z_iald2 (k0 := k1) shM_1 (by decide) ek1 uk1 dX9_crossedBy_33 ?_
  refine z_icmp_ge 98 dX9_crossedBy_34 (by decide) (fun c1 => ?_) (fun c1 => ?_)
  · have h := h.1 c1
    refine z_iload_n dX9_crossedBy_98 2 rfl ?_
    exact z_iret (st := []) rfl rfl dX9_crossedBy_99 ⟨_, rfl, h⟩
  · have h := h.2 c1
    refine z_aload_n dX9_crossedBy_37 0 rfl ?_
    refine z_iload_n dX9_crossedBy_38 1 rfl ?_
    refine z_iload dX9_crossedBy_39 4 rfl ?_
    refine z_callV (m2 := mX9_stepOf) (st := []) [.int l1, .int l4] okX9_stepOf (Or.inl lkX9_366) shM_0 rfl rfl rfl (Nat.le_of_ble_eq_true rfl) dX9_crossedBy_41 (zgo_i h fun x1 M1 h => ?_)
    refine z_istore [(5, .int x1), (0, .ref 0), (1, .int l1), (2, .int l2), (3, .int l3), (4, .int l4)] dX9_crossedBy_44 (by decide) rfl ?_
    refine z_iload dX9_crossedBy_46 0 rfl ?_
    refine z_iconst (v := 2) dX9_crossedBy_48 (by decide) ?_
    refine z_idiv dX9_crossedBy_49 (by decide) ?_
    refine z_iconst (v := 4) dX9_crossedBy_50 (by decide) ?_
    refine z_icmp_ne 57 dX9_crossedBy_51 (by decide) (fun c2 => ?_) (fun c2 => ?_)
    · have h := h.1 c2
      refine z_aload_n dX9_crossedBy_57 1 rfl ?_
      refine z_iload_n dX9_crossedBy_58 4 rfl ?_
      refine z_iload dX9_crossedBy_59 0 rfl ?_
      refine z_iconst (v := 2) dX9_crossedBy_61 (by decide) ?_
      refine z_idiv dX9_crossedBy_62 (by decide) ?_
      refine z_callV (m2 := mX9_wentTo) (st := []) [.int l3, .int (x1 / 2)] okX9_wentTo (Or.inl lkX9_369) shM_0 rfl rfl rfl (Nat.le_of_ble_eq_true rfl) dX9_crossedBy_63 (zgo_i h fun x2 M2 h => ?_)
      refine z_istore_n [(3, .int x2), (5, .int x1), (0, .ref 0), (1, .int l1), (2, .int l2), (4, .int l4)] dX9_crossedBy_66 (by decide) rfl ?_
      refine z_iload_n dX9_crossedBy_67 4 rfl ?_
      refine z_iload dX9_crossedBy_68 1 rfl ?_
      refine z_iconst (v := 2) dX9_crossedBy_70 (by decide) ?_
      refine z_irem dX9_crossedBy_71 (by decide) ?_
      refine z_iconst (v := 1) dX9_crossedBy_72 (by decide) ?_
      refine z_icmp_ne 89 dX9_crossedBy_73 (by decide) (fun c3 => ?_) (fun c3 => ?_)
      · have h := h.1 c3
        refine z_iconst (v := 0) dX9_crossedBy_89 (by decide) ?_
        refine z_iadd dX9_crossedBy_90 ?_
        refine z_istore_n [(2, .int (l2 + 0)), (3, .int x2), (5, .int x1), (0, .ref 0), (1, .int l1), (4, .int l4)] dX9_crossedBy_91 (by decide) rfl ?_
        refine z_iinc (x := l4) (v := (l4 + 1)) [(4, .int (l4 + 1)), (2, .int (l2 + 0)), (3, .int x2), (5, .int x1), (0, .ref 0), (1, .int l1)] dX9_crossedBy_92 5 rfl rfl (by decide) rfl ?_
        refine z_goto 22 dX9_crossedBy_95 (by decide) ?_
        exact zW.sub [4, 5, 1, 2, 0] rfl h
      · have h := h.2 c3
        refine z_aload_n dX9_crossedBy_76 2 rfl ?_
        refine z_iload_n dX9_crossedBy_77 0 rfl ?_
        refine z_iload_n dX9_crossedBy_78 3 rfl ?_
        refine z_callV (m2 := mX9_isAnothers) (st := [.int l2]) [.int x2, .int l1] okX9_isAnothers (Or.inl lkX9_360) shM_0 rfl rfl rfl (Nat.le_of_ble_eq_true rfl) dX9_crossedBy_79 (zgo_z h fun b1 M3 h => ?_)
        refine z_ifb_eq 89 dX9_crossedBy_82 (by decide) (fun c4 => ?_) (fun c4 => ?_)
        · have h := h.1 c4
          refine z_iconst (v := 0) dX9_crossedBy_89 (by decide) ?_
          refine z_iadd dX9_crossedBy_90 ?_
          refine z_istore_n [(2, .int (l2 + 0)), (3, .int x2), (5, .int x1), (0, .ref 0), (1, .int l1), (4, .int l4)] dX9_crossedBy_91 (by decide) rfl ?_
          refine z_iinc (x := l4) (v := (l4 + 1)) [(4, .int (l4 + 1)), (2, .int (l2 + 0)), (3, .int x2), (5, .int x1), (0, .ref 0), (1, .int l1)] dX9_crossedBy_92 5 rfl rfl (by decide) rfl ?_
          refine z_goto 22 dX9_crossedBy_95 (by decide) ?_
          exact zW.sub [4, 5, 1, 2, 0] rfl h
        · have h := h.2 c4
          refine z_iconst (v := 1) dX9_crossedBy_85 (by decide) ?_
          refine z_goto 90 dX9_crossedBy_86 (by decide) ?_
          refine z_iadd dX9_crossedBy_90 ?_
          refine z_istore_n [(2, .int (l2 + 1)), (3, .int x2), (5, .int x1), (0, .ref 0), (1, .int l1), (4, .int l4)] dX9_crossedBy_91 (by decide) rfl ?_
          refine z_iinc (x := l4) (v := (l4 + 1)) [(4, .int (l4 + 1)), (2, .int (l2 + 1)), (3, .int x2), (5, .int x1), (0, .ref 0), (1, .int l1)] dX9_crossedBy_92 5 rfl rfl (by decide) rfl ?_
          refine z_goto 22 dX9_crossedBy_95 (by decide) ?_
          exact zW.sub [4, 5, 1, 2, 0] rfl h
    · have h := h.2 c2
      refine z_goto 92 dX9_crossedBy_54 (by decide) ?_
      refine z_iinc (x := l4) (v := (l4 + 1)) [(4, .int (l4 + 1)), (5, .int x1), (0, .ref 0), (1, .int l1), (2, .int l2), (3, .int l3)] dX9_crossedBy_92 5 rfl rfl (by decide) rfl ?_
      refine z_goto 22 dX9_crossedBy_95 (by decide) ?_
      exact zW.sub [2, 3, 4, 5, 0] rfl h
theorem dX9_heard_0 : decode cX9_heard 0 = .ok (.aload_n 0, 1) := by decide +kernel
theorem dX9_heard_1 : decode cX9_heard 1 = .ok (.iload_n 1, 1) := by decide +kernel
theorem dX9_heard_2 : decode cX9_heard 2 = .ok (.invokevirtual 114, 3) := by decide +kernel
theorem dX9_heard_5 : decode cX9_heard 5 = .ok (.ifCond .eq 13, 3) := by decide +kernel
theorem dX9_heard_8 : decode cX9_heard 8 = .ok (.iload_n 2, 1) := by decide +kernel
theorem dX9_heard_9 : decode cX9_heard 9 = .ok (.iconst 0, 1) := by decide +kernel
theorem dX9_heard_10 : decode cX9_heard 10 = .ok (.bipush 9, 2) := by decide +kernel
theorem dX9_heard_12 : decode cX9_heard 12 = .ok (.invokestatic 97, 3) := by decide +kernel
theorem dX9_heard_15 : decode cX9_heard 15 = .ok (.ifCond .ne 7, 3) := by decide +kernel
theorem dX9_heard_18 : decode cX9_heard 18 = .ok (.ldc2_w 409, 3) := by decide +kernel
theorem dX9_heard_21 : decode cX9_heard 21 = .ok (.lreturn, 1) := by decide +kernel
theorem dX9_heard_22 : decode cX9_heard 22 = .ok (.lconst 0, 1) := by decide +kernel
theorem dX9_heard_23 : decode cX9_heard 23 = .ok (.lstore_n 3, 1) := by decide +kernel
theorem dX9_heard_24 : decode cX9_heard 24 = .ok (.iconst 0, 1) := by decide +kernel
theorem dX9_heard_25 : decode cX9_heard 25 = .ok (.istore 5, 2) := by decide +kernel
theorem dX9_heard_27 : decode cX9_heard 27 = .ok (.iload 5, 2) := by decide +kernel
theorem dX9_heard_29 : decode cX9_heard 29 = .ok (.bipush 64, 2) := by decide +kernel
theorem dX9_heard_31 : decode cX9_heard 31 = .ok (.if_icmp .ge 42, 3) := by decide +kernel
theorem dX9_heard_34 : decode cX9_heard 34 = .ok (.aload_n 0, 1) := by decide +kernel
theorem dX9_heard_35 : decode cX9_heard 35 = .ok (.iload 5, 2) := by decide +kernel
theorem dX9_heard_37 : decode cX9_heard 37 = .ok (.invokevirtual 105, 3) := by decide +kernel
theorem dX9_heard_40 : decode cX9_heard 40 = .ok (.ifCond .eq 27, 3) := by decide +kernel
theorem dX9_heard_43 : decode cX9_heard 43 = .ok (.iload 5, 2) := by decide +kernel
theorem dX9_heard_45 : decode cX9_heard 45 = .ok (.aload_n 0, 1) := by decide +kernel
theorem dX9_heard_46 : decode cX9_heard 46 = .ok (.getfield 7, 3) := by decide +kernel
theorem dX9_heard_49 : decode cX9_heard 49 = .ok (.iconst 3, 1) := by decide +kernel
theorem dX9_heard_50 : decode cX9_heard 50 = .ok (.iload_n 1, 1) := by decide +kernel
theorem dX9_heard_51 : decode cX9_heard 51 = .ok (.iadd, 1) := by decide +kernel
theorem dX9_heard_52 : decode cX9_heard 52 = .ok (.iaload, 1) := by decide +kernel
theorem dX9_heard_53 : decode cX9_heard 53 = .ok (.invokestatic 440, 3) := by decide +kernel
theorem dX9_heard_56 : decode cX9_heard 56 = .ok (.iload_n 2, 1) := by decide +kernel
theorem dX9_heard_57 : decode cX9_heard 57 = .ok (.if_icmp .gt 10, 3) := by decide +kernel
theorem dX9_heard_60 : decode cX9_heard 60 = .ok (.lload_n 3, 1) := by decide +kernel
theorem dX9_heard_61 : decode cX9_heard 61 = .ok (.lconst 1, 1) := by decide +kernel
theorem dX9_heard_62 : decode cX9_heard 62 = .ok (.iload 5, 2) := by decide +kernel
theorem dX9_heard_64 : decode cX9_heard 64 = .ok (.lshl, 1) := by decide +kernel
theorem dX9_heard_65 : decode cX9_heard 65 = .ok (.lor, 1) := by decide +kernel
theorem dX9_heard_66 : decode cX9_heard 66 = .ok (.lstore_n 3, 1) := by decide +kernel
theorem dX9_heard_67 : decode cX9_heard 67 = .ok (.iinc 5 1, 3) := by decide +kernel
theorem dX9_heard_70 : decode cX9_heard 70 = .ok (.goto (-43), 3) := by decide +kernel
theorem dX9_heard_73 : decode cX9_heard 73 = .ok (.lload_n 3, 1) := by decide +kernel
theorem dX9_heard_74 : decode cX9_heard 74 = .ok (.lreturn, 1) := by decide +kernel
set_option maxRecDepth 20000 in
theorem vX9_heard {g : zG} {d : Nat} {Q : Int64 → zM → Prop} {M : zM} {l1 : Int32} {l2 : Int32} (h : zCz shM g d mX9_isSkater [.ref 0, .int l1] M (fun b1 M1 => (b1 = false → Q (-1) M1) ∧ (b1 = true → zCz shM g d mX9_isIn [.int l2, .int 0, .int 9] M1 (fun b2 M2 => (b2 = true → zW shM g (d + 1) mX9_heard (zl Q) 27 [(0, .ref 0), (1, .int l1), (2, .int l2), (3, .long 0), (5, .int 0)] [] M2) ∧ (b2 = false → Q (-1) M2))))) : zCl shM g (d + 1) mX9_heard [.ref 0, .int l1, .int l2] M Q := by
  refine zW.enter (by decide +kernel) (Nat.le_of_ble_eq_true rfl) ?_
  change zW shM g (d + 1) mX9_heard (zl Q) 0 [(0, .ref 0), (1, .int l1), (2, .int l2)] [] M
  refine z_aload_n dX9_heard_0 0 rfl ?_
  refine z_iload_n dX9_heard_1 1 rfl ?_
  refine z_callV (m2 := mX9_isSkater) (st := []) [.int l1] okX9_isSkater (Or.inl lkX9_114) shM_0 rfl rfl rfl (Nat.le_of_ble_eq_true rfl) dX9_heard_2 (zgo_z h fun b1 M1 h => ?_)
  refine z_ifb_eq 18 dX9_heard_5 (by decide) (fun c1 => ?_) (fun c1 => ?_)
  · have h := h.1 c1
    refine z_ldc2 dX9_heard_18 kcX9_409 ?_
    exact z_lret (st := []) rfl dX9_heard_21 ⟨_, rfl, h⟩
  · have h := h.2 c1
    refine z_iload_n dX9_heard_8 2 rfl ?_
    refine z_iconst (v := 0) dX9_heard_9 (by decide) ?_
    refine z_bipush (v := 9) dX9_heard_10 (by decide) ?_
    refine z_callS (m2 := mX9_isIn) (st := []) [.int l2, .int 0, .int 9] okX9_isIn (Or.inl lkX9_97) rfl rfl (Nat.le_of_ble_eq_true rfl) dX9_heard_12 (zgo_z h fun b2 M2 h => ?_)
    refine z_ifb_ne 22 dX9_heard_15 (by decide) (fun c2 => ?_) (fun c2 => ?_)
    · have h := h.1 c2
      refine z_lconst (v := 0) dX9_heard_22 (by decide) ?_
      refine z_lstore_n [(3, .long 0), (0, .ref 0), (1, .int l1), (2, .int l2)] dX9_heard_23 (by decide) rfl ?_
      refine z_iconst (v := 0) dX9_heard_24 (by decide) ?_
      refine z_istore [(5, .int 0), (3, .long 0), (0, .ref 0), (1, .int l1), (2, .int l2)] dX9_heard_25 (by decide) rfl ?_
      exact zW.sub [2, 3, 4, 1, 0] rfl h
    · have h := h.2 c2
      refine z_ldc2 dX9_heard_18 kcX9_409 ?_
      exact z_lret (st := []) rfl dX9_heard_21 ⟨_, rfl, h⟩
set_option maxRecDepth 20000 in
theorem vX9_heard_27 {g : zG} {d : Nat} {Q : Int64 → zM → Prop} {M : zM} {l1 : Int32} {l2 : Int32} {l3 : Int64} {l5 : Int32} (h : (64 ≤ l5 → Q l3 M) ∧ (¬ 64 ≤ l5 → zCz shM g d mX9_isCell [.ref 0, .int l5] M (fun b1 M1 => (b1 = false → zW shM g (d + 1) mX9_heard (zl Q) 27 [(0, .ref 0), (1, .int l1), (2, .int l2), (3, .long l3), (5, .int (l5 + 1))] [] M1) ∧ (b1 = true → ∃ k1 : Nat, (3 + l1) = iv k1 ∧ k1 < 2200 ∧ zCi shM g d mX9_apart [.int l5, .int (M1 1 k1)] M1 (fun x1 M2 => (l2 < x1 → zW shM g (d + 1) mX9_heard (zl Q) 27 [(0, .ref 0), (1, .int l1), (2, .int l2), (3, .long l3), (5, .int (l5 + 1))] [] M2) ∧ (¬ l2 < x1 → zW shM g (d + 1) mX9_heard (zl Q) 27 [(0, .ref 0), (1, .int l1), (2, .int l2), (3, .long (l3 ||| (1 <<< ((l5 : Int32).toInt64 &&& 63)))), (5, .int (l5 + 1))] [] M2)))))) : zW shM g (d + 1) mX9_heard (zl Q) 27 [(0, .ref 0), (1, .int l1), (2, .int l2), (3, .long l3), (5, .int l5)] [] M := by
  refine z_iload dX9_heard_27 4 rfl ?_
  refine z_bipush (v := 64) dX9_heard_29 (by decide) ?_
  refine z_icmp_ge 73 dX9_heard_31 (by decide) (fun c1 => ?_) (fun c1 => ?_)
  · have h := h.1 c1
    refine z_lload_n dX9_heard_73 3 rfl ?_
    exact z_lret (st := []) rfl dX9_heard_74 ⟨_, rfl, h⟩
  · have h := h.2 c1
    refine z_aload_n dX9_heard_34 0 rfl ?_
    refine z_iload dX9_heard_35 4 rfl ?_
    refine z_callV (m2 := mX9_isCell) (st := []) [.int l5] okX9_isCell (Or.inl lkX9_105) shM_0 rfl rfl rfl (Nat.le_of_ble_eq_true rfl) dX9_heard_37 (zgo_z h fun b1 M1 h => ?_)
    refine z_ifb_eq 67 dX9_heard_40 (by decide) (fun c2 => ?_) (fun c2 => ?_)
    · have h := h.1 c2
      refine z_iinc (x := l5) (v := (l5 + 1)) [(5, .int (l5 + 1)), (0, .ref 0), (1, .int l1), (2, .int l2), (3, .long l3)] dX9_heard_67 4 rfl rfl (by decide) rfl ?_
      refine z_goto 27 dX9_heard_70 (by decide) ?_
      exact zW.sub [1, 2, 3, 4, 0] rfl h
    · have h := h.2 c2
      refine z_iload dX9_heard_43 4 rfl ?_
      refine z_aload_n dX9_heard_45 0 rfl ?_
      refine z_getr shM_0 rfl flX9_7 dX9_heard_46 ?_
      refine z_iconst (v := 3) dX9_heard_49 (by decide) ?_
      refine z_iload_n dX9_heard_50 1 rfl ?_
      refine z_iadd dX9_heard_51 ?_
      obtain ⟨k1, ek1, uk1, h⟩ := h
      refine z_iald2 (k0 := k1) shM_1 (by decide) ek1 uk1 dX9_heard_52 ?_
      refine z_callS (m2 := mX9_apart) (st := []) [.int l5, .int (M1 1 k1)] okX9_apart (Or.inl lkX9_440) rfl rfl (Nat.le_of_ble_eq_true rfl) dX9_heard_53 (zgo_i h fun x1 M2 h => ?_)
      refine z_iload_n dX9_heard_56 2 rfl ?_
      refine z_icmp_gt 67 dX9_heard_57 (by decide) (fun c3 => ?_) (fun c3 => ?_)
      · have h := h.1 c3
        refine z_iinc (x := l5) (v := (l5 + 1)) [(5, .int (l5 + 1)), (0, .ref 0), (1, .int l1), (2, .int l2), (3, .long l3)] dX9_heard_67 4 rfl rfl (by decide) rfl ?_
        refine z_goto 27 dX9_heard_70 (by decide) ?_
        exact zW.sub [1, 2, 3, 4, 0] rfl h
      · have h := h.2 c3
        refine z_lload_n dX9_heard_60 3 rfl ?_
        refine z_lconst (v := 1) dX9_heard_61 (by decide) ?_
        refine z_iload dX9_heard_62 4 rfl ?_
        refine z_lshl dX9_heard_64 ?_
        refine z_lor dX9_heard_65 ?_
        refine z_lstore_n [(3, .long (l3 ||| (1 <<< ((l5 : Int32).toInt64 &&& 63)))), (0, .ref 0), (1, .int l1), (2, .int l2), (5, .int l5)] dX9_heard_66 (by decide) rfl ?_
        refine z_iinc (x := l5) (v := (l5 + 1)) [(5, .int (l5 + 1)), (3, .long (l3 ||| (1 <<< ((l5 : Int32).toInt64 &&& 63)))), (0, .ref 0), (1, .int l1), (2, .int l2)] dX9_heard_67 4 rfl rfl (by decide) rfl ?_
        refine z_goto 27 dX9_heard_70 (by decide) ?_
        exact zW.sub [2, 3, 4, 1, 0] rfl h
theorem dX9_of_0 : decode cX9_of 0 = .ok (.aload_n 0, 1) := by decide +kernel
theorem dX9_of_1 : decode cX9_of 1 = .ok (.iload_n 1, 1) := by decide +kernel
theorem dX9_of_2 : decode cX9_of 2 = .ok (.invokevirtual 114, 3) := by decide +kernel
theorem dX9_of_5 : decode cX9_of 5 = .ok (.ifCond .ne 6, 3) := by decide +kernel
theorem dX9_of_8 : decode cX9_of 8 = .ok (.bipush (-2), 2) := by decide +kernel
theorem dX9_of_10 : decode cX9_of 10 = .ok (.ireturn, 1) := by decide +kernel
theorem dX9_of_11 : decode cX9_of 11 = .ok (.iload_n 2, 1) := by decide +kernel
theorem dX9_of_12 : decode cX9_of 12 = .ok (.tableswitch 107 0 5 #[40, 51, 60, 81, 91, 101], 40) := by decide +kernel
theorem dX9_of_52 : decode cX9_of 52 = .ok (.aload_n 0, 1) := by decide +kernel
theorem dX9_of_53 : decode cX9_of 53 = .ok (.getfield 7, 3) := by decide +kernel
theorem dX9_of_56 : decode cX9_of 56 = .ok (.sipush 160, 3) := by decide +kernel
theorem dX9_of_59 : decode cX9_of 59 = .ok (.iload_n 1, 1) := by decide +kernel
theorem dX9_of_60 : decode cX9_of 60 = .ok (.iadd, 1) := by decide +kernel
theorem dX9_of_61 : decode cX9_of 61 = .ok (.iaload, 1) := by decide +kernel
theorem dX9_of_62 : decode cX9_of 62 = .ok (.ireturn, 1) := by decide +kernel
theorem dX9_of_63 : decode cX9_of 63 = .ok (.aload_n 0, 1) := by decide +kernel
theorem dX9_of_64 : decode cX9_of 64 = .ok (.getfield 7, 3) := by decide +kernel
theorem dX9_of_67 : decode cX9_of 67 = .ok (.iconst 3, 1) := by decide +kernel
theorem dX9_of_68 : decode cX9_of 68 = .ok (.iload_n 1, 1) := by decide +kernel
theorem dX9_of_69 : decode cX9_of 69 = .ok (.iadd, 1) := by decide +kernel
theorem dX9_of_70 : decode cX9_of 70 = .ok (.iaload, 1) := by decide +kernel
theorem dX9_of_71 : decode cX9_of 71 = .ok (.ireturn, 1) := by decide +kernel
theorem dX9_of_72 : decode cX9_of 72 = .ok (.aload_n 0, 1) := by decide +kernel
theorem dX9_of_73 : decode cX9_of 73 = .ok (.getfield 7, 3) := by decide +kernel
theorem dX9_of_76 : decode cX9_of 76 = .ok (.sipush 166, 3) := by decide +kernel
theorem dX9_of_79 : decode cX9_of 79 = .ok (.iload_n 1, 1) := by decide +kernel
theorem dX9_of_80 : decode cX9_of 80 = .ok (.iadd, 1) := by decide +kernel
theorem dX9_of_81 : decode cX9_of 81 = .ok (.iaload, 1) := by decide +kernel
theorem dX9_of_82 : decode cX9_of 82 = .ok (.aload_n 0, 1) := by decide +kernel
theorem dX9_of_83 : decode cX9_of 83 = .ok (.getfield 7, 3) := by decide +kernel
theorem dX9_of_86 : decode cX9_of 86 = .ok (.bipush 9, 2) := by decide +kernel
theorem dX9_of_88 : decode cX9_of 88 = .ok (.iload_n 1, 1) := by decide +kernel
theorem dX9_of_89 : decode cX9_of 89 = .ok (.iadd, 1) := by decide +kernel
theorem dX9_of_90 : decode cX9_of 90 = .ok (.iaload, 1) := by decide +kernel
theorem dX9_of_91 : decode cX9_of 91 = .ok (.isub, 1) := by decide +kernel
theorem dX9_of_92 : decode cX9_of 92 = .ok (.ireturn, 1) := by decide +kernel
theorem dX9_of_93 : decode cX9_of 93 = .ok (.aload_n 0, 1) := by decide +kernel
theorem dX9_of_94 : decode cX9_of 94 = .ok (.getfield 7, 3) := by decide +kernel
theorem dX9_of_97 : decode cX9_of 97 = .ok (.bipush 9, 2) := by decide +kernel
theorem dX9_of_99 : decode cX9_of 99 = .ok (.iload_n 1, 1) := by decide +kernel
theorem dX9_of_100 : decode cX9_of 100 = .ok (.iadd, 1) := by decide +kernel
theorem dX9_of_101 : decode cX9_of 101 = .ok (.iaload, 1) := by decide +kernel
theorem dX9_of_102 : decode cX9_of 102 = .ok (.ireturn, 1) := by decide +kernel
theorem dX9_of_103 : decode cX9_of 103 = .ok (.aload_n 0, 1) := by decide +kernel
theorem dX9_of_104 : decode cX9_of 104 = .ok (.getfield 7, 3) := by decide +kernel
theorem dX9_of_107 : decode cX9_of 107 = .ok (.bipush 15, 2) := by decide +kernel
theorem dX9_of_109 : decode cX9_of 109 = .ok (.iload_n 1, 1) := by decide +kernel
theorem dX9_of_110 : decode cX9_of 110 = .ok (.iadd, 1) := by decide +kernel
theorem dX9_of_111 : decode cX9_of 111 = .ok (.iaload, 1) := by decide +kernel
theorem dX9_of_112 : decode cX9_of 112 = .ok (.ireturn, 1) := by decide +kernel
theorem dX9_of_113 : decode cX9_of 113 = .ok (.aload_n 0, 1) := by decide +kernel
theorem dX9_of_114 : decode cX9_of 114 = .ok (.iload_n 1, 1) := by decide +kernel
theorem dX9_of_115 : decode cX9_of 115 = .ok (.invokevirtual 498, 3) := by decide +kernel
theorem dX9_of_118 : decode cX9_of 118 = .ok (.ireturn, 1) := by decide +kernel
theorem dX9_of_119 : decode cX9_of 119 = .ok (.bipush (-2), 2) := by decide +kernel
theorem dX9_of_121 : decode cX9_of 121 = .ok (.ireturn, 1) := by decide +kernel
set_option maxRecDepth 20000 in
theorem vX9_of {g : zG} {d : Nat} {Q : Int32 → zM → Prop} {M : zM} {l1 : Int32} {l2 : Int32} (h : zCz shM g d mX9_isSkater [.ref 0, .int l1] M (fun b1 M1 => (b1 = true → (l2.toInt < 0 ∨ 5 < l2.toInt → Q (-2) M1) ∧ (l2.toInt = 0 → ∃ k1 : Nat, (160 + l1) = iv k1 ∧ k1 < 2200 ∧ Q (M1 1 k1) M1) ∧ (l2.toInt = 1 → ∃ k1 : Nat, (3 + l1) = iv k1 ∧ k1 < 2200 ∧ Q (M1 1 k1) M1) ∧ (l2.toInt = 2 → ∃ k1 : Nat, (166 + l1) = iv k1 ∧ k1 < 2200 ∧ ∃ k2 : Nat, (9 + l1) = iv k2 ∧ k2 < 2200 ∧ Q ((M1 1 k1) - (M1 1 k2)) M1) ∧ (l2.toInt = 3 → ∃ k1 : Nat, (9 + l1) = iv k1 ∧ k1 < 2200 ∧ Q (M1 1 k1) M1) ∧ (l2.toInt = 4 → ∃ k1 : Nat, (15 + l1) = iv k1 ∧ k1 < 2200 ∧ Q (M1 1 k1) M1) ∧ (l2.toInt = 5 → zCi shM g d mX9_crossedBy [.ref 0, .int l1] M1 (fun x1 M2 => Q x1 M2))) ∧ (b1 = false → Q (-2) M1))) : zCi shM g (d + 1) mX9_of [.ref 0, .int l1, .int l2] M Q := by
  refine zW.enter (by decide +kernel) (Nat.le_of_ble_eq_true rfl) ?_
  change zW shM g (d + 1) mX9_of (zi Q) 0 [(0, .ref 0), (1, .int l1), (2, .int l2)] [] M
  refine z_aload_n dX9_of_0 0 rfl ?_
  refine z_iload_n dX9_of_1 1 rfl ?_
  refine z_callV (m2 := mX9_isSkater) (st := []) [.int l1] okX9_isSkater (Or.inl lkX9_114) shM_0 rfl rfl rfl (Nat.le_of_ble_eq_true rfl) dX9_of_2 (zgo_z h fun b1 M1 h => ?_)
  refine z_ifb_ne 11 dX9_of_5 (by decide) (fun c1 => ?_) (fun c1 => ?_)
  · have h := h.1 c1
    refine z_iload_n dX9_of_11 2 rfl ?_
    refine z_table [52, 63, 72, 93, 103, 113] 119 dX9_of_12 (by decide) (by decide) (by decide) (fun c2 => ?_) ⟨fun c2 => ?_, fun c2 => ?_, fun c2 => ?_, fun c2 => ?_, fun c2 => ?_, fun c2 => ?_, trivial⟩
    · have h := h.1 c2
      refine z_bipush (v := (-2)) dX9_of_119 (by decide) ?_
      exact z_iret (st := []) rfl rfl dX9_of_121 ⟨_, rfl, h⟩
    · have h := h.2.1 c2
      refine z_aload_n dX9_of_52 0 rfl ?_
      refine z_getr shM_0 rfl flX9_7 dX9_of_53 ?_
      refine z_sipush (v := 160) dX9_of_56 (by decide) ?_
      refine z_iload_n dX9_of_59 1 rfl ?_
      refine z_iadd dX9_of_60 ?_
      obtain ⟨k1, ek1, uk1, h⟩ := h
      refine z_iald2 (k0 := k1) shM_1 (by decide) ek1 uk1 dX9_of_61 ?_
      exact z_iret (st := []) rfl rfl dX9_of_62 ⟨_, rfl, h⟩
    · have h := h.2.2.1 c2
      refine z_aload_n dX9_of_63 0 rfl ?_
      refine z_getr shM_0 rfl flX9_7 dX9_of_64 ?_
      refine z_iconst (v := 3) dX9_of_67 (by decide) ?_
      refine z_iload_n dX9_of_68 1 rfl ?_
      refine z_iadd dX9_of_69 ?_
      obtain ⟨k1, ek1, uk1, h⟩ := h
      refine z_iald2 (k0 := k1) shM_1 (by decide) ek1 uk1 dX9_of_70 ?_
      exact z_iret (st := []) rfl rfl dX9_of_71 ⟨_, rfl, h⟩
    · have h := h.2.2.2.1 c2
      refine z_aload_n dX9_of_72 0 rfl ?_
      refine z_getr shM_0 rfl flX9_7 dX9_of_73 ?_
      refine z_sipush (v := 166) dX9_of_76 (by decide) ?_
      refine z_iload_n dX9_of_79 1 rfl ?_
      refine z_iadd dX9_of_80 ?_
      obtain ⟨k1, ek1, uk1, h⟩ := h
      refine z_iald2 (k0 := k1) shM_1 (by decide) ek1 uk1 dX9_of_81 ?_
      refine z_aload_n dX9_of_82 0 rfl ?_
      refine z_getr shM_0 rfl flX9_7 dX9_of_83 ?_
      refine z_bipush (v := 9) dX9_of_86 (by decide) ?_
      refine z_iload_n dX9_of_88 1 rfl ?_
      refine z_iadd dX9_of_89 ?_
      obtain ⟨k2, ek2, uk2, h⟩ := h
      refine z_iald2 (k0 := k2) shM_1 (by decide) ek2 uk2 dX9_of_90 ?_
      refine z_isub dX9_of_91 ?_
      exact z_iret (st := []) rfl rfl dX9_of_92 ⟨_, rfl, h⟩
    · have h := h.2.2.2.2.1 c2
      refine z_aload_n dX9_of_93 0 rfl ?_
      refine z_getr shM_0 rfl flX9_7 dX9_of_94 ?_
      refine z_bipush (v := 9) dX9_of_97 (by decide) ?_
      refine z_iload_n dX9_of_99 1 rfl ?_
      refine z_iadd dX9_of_100 ?_
      obtain ⟨k1, ek1, uk1, h⟩ := h
      refine z_iald2 (k0 := k1) shM_1 (by decide) ek1 uk1 dX9_of_101 ?_
      exact z_iret (st := []) rfl rfl dX9_of_102 ⟨_, rfl, h⟩
    · have h := h.2.2.2.2.2.1 c2
      refine z_aload_n dX9_of_103 0 rfl ?_
      refine z_getr shM_0 rfl flX9_7 dX9_of_104 ?_
      refine z_bipush (v := 15) dX9_of_107 (by decide) ?_
      refine z_iload_n dX9_of_109 1 rfl ?_
      refine z_iadd dX9_of_110 ?_
      obtain ⟨k1, ek1, uk1, h⟩ := h
      refine z_iald2 (k0 := k1) shM_1 (by decide) ek1 uk1 dX9_of_111 ?_
      exact z_iret (st := []) rfl rfl dX9_of_112 ⟨_, rfl, h⟩
    · have h := h.2.2.2.2.2.2 c2
      refine z_aload_n dX9_of_113 0 rfl ?_
      refine z_iload_n dX9_of_114 1 rfl ?_
      refine z_callV (m2 := mX9_crossedBy) (st := []) [.int l1] okX9_crossedBy (Or.inl lkX9_498) shM_0 rfl rfl rfl (Nat.le_of_ble_eq_true rfl) dX9_of_115 (zgo_i h fun x1 M2 h => ?_)
      exact z_iret (st := []) rfl rfl dX9_of_118 ⟨_, rfl, h⟩
  · have h := h.2 c1
    refine z_bipush (v := (-2)) dX9_of_8 (by decide) ?_
    exact z_iret (st := []) rfl rfl dX9_of_10 ⟨_, rfl, h⟩
theorem dX9_at_0 : decode cX9_at 0 = .ok (.aload_n 0, 1) := by decide +kernel
theorem dX9_at_1 : decode cX9_at 1 = .ok (.iload_n 1, 1) := by decide +kernel
theorem dX9_at_2 : decode cX9_at 2 = .ok (.invokevirtual 105, 3) := by decide +kernel
theorem dX9_at_5 : decode cX9_at 5 = .ok (.ifCond .ne 6, 3) := by decide +kernel
theorem dX9_at_8 : decode cX9_at 8 = .ok (.bipush (-2), 2) := by decide +kernel
theorem dX9_at_10 : decode cX9_at 10 = .ok (.ireturn, 1) := by decide +kernel
theorem dX9_at_11 : decode cX9_at 11 = .ok (.iload_n 2, 1) := by decide +kernel
theorem dX9_at_12 : decode cX9_at 12 = .ok (.tableswitch 82 0 4 #[36, 46, 56, 70, 76], 36) := by decide +kernel
theorem dX9_at_48 : decode cX9_at 48 = .ok (.aload_n 0, 1) := by decide +kernel
theorem dX9_at_49 : decode cX9_at 49 = .ok (.getfield 7, 3) := by decide +kernel
theorem dX9_at_52 : decode cX9_at 52 = .ok (.bipush 21, 2) := by decide +kernel
theorem dX9_at_54 : decode cX9_at 54 = .ok (.iload_n 1, 1) := by decide +kernel
theorem dX9_at_55 : decode cX9_at 55 = .ok (.iadd, 1) := by decide +kernel
theorem dX9_at_56 : decode cX9_at 56 = .ok (.iaload, 1) := by decide +kernel
theorem dX9_at_57 : decode cX9_at 57 = .ok (.ireturn, 1) := by decide +kernel
theorem dX9_at_58 : decode cX9_at 58 = .ok (.aload_n 0, 1) := by decide +kernel
theorem dX9_at_59 : decode cX9_at 59 = .ok (.getfield 7, 3) := by decide +kernel
theorem dX9_at_62 : decode cX9_at 62 = .ok (.bipush 85, 2) := by decide +kernel
theorem dX9_at_64 : decode cX9_at 64 = .ok (.iload_n 1, 1) := by decide +kernel
theorem dX9_at_65 : decode cX9_at 65 = .ok (.iadd, 1) := by decide +kernel
theorem dX9_at_66 : decode cX9_at 66 = .ok (.iaload, 1) := by decide +kernel
theorem dX9_at_67 : decode cX9_at 67 = .ok (.ireturn, 1) := by decide +kernel
theorem dX9_at_68 : decode cX9_at 68 = .ok (.aload_n 0, 1) := by decide +kernel
theorem dX9_at_69 : decode cX9_at 69 = .ok (.iload_n 1, 1) := by decide +kernel
theorem dX9_at_70 : decode cX9_at 70 = .ok (.invokevirtual 347, 3) := by decide +kernel
theorem dX9_at_73 : decode cX9_at 73 = .ok (.ifCond .eq 7, 3) := by decide +kernel
theorem dX9_at_76 : decode cX9_at 76 = .ok (.iconst 1, 1) := by decide +kernel
theorem dX9_at_77 : decode cX9_at 77 = .ok (.goto 4, 3) := by decide +kernel
theorem dX9_at_80 : decode cX9_at 80 = .ok (.iconst 0, 1) := by decide +kernel
theorem dX9_at_81 : decode cX9_at 81 = .ok (.ireturn, 1) := by decide +kernel
theorem dX9_at_82 : decode cX9_at 82 = .ok (.aload_n 0, 1) := by decide +kernel
theorem dX9_at_83 : decode cX9_at 83 = .ok (.iload_n 1, 1) := by decide +kernel
theorem dX9_at_84 : decode cX9_at 84 = .ok (.invokevirtual 390, 3) := by decide +kernel
theorem dX9_at_87 : decode cX9_at 87 = .ok (.ireturn, 1) := by decide +kernel
theorem dX9_at_88 : decode cX9_at 88 = .ok (.aload_n 0, 1) := by decide +kernel
theorem dX9_at_89 : decode cX9_at 89 = .ok (.iload_n 1, 1) := by decide +kernel
theorem dX9_at_90 : decode cX9_at 90 = .ok (.invokevirtual 353, 3) := by decide +kernel
theorem dX9_at_93 : decode cX9_at 93 = .ok (.ireturn, 1) := by decide +kernel
theorem dX9_at_94 : decode cX9_at 94 = .ok (.bipush (-2), 2) := by decide +kernel
theorem dX9_at_96 : decode cX9_at 96 = .ok (.ireturn, 1) := by decide +kernel
set_option maxRecDepth 20000 in
theorem vX9_at {g : zG} {d : Nat} {Q : Int32 → zM → Prop} {M : zM} {l1 : Int32} {l2 : Int32} (h : zCz shM g d mX9_isCell [.ref 0, .int l1] M (fun b1 M1 => (b1 = true → (l2.toInt < 0 ∨ 4 < l2.toInt → Q (-2) M1) ∧ (l2.toInt = 0 → ∃ k1 : Nat, (21 + l1) = iv k1 ∧ k1 < 2200 ∧ Q (M1 1 k1) M1) ∧ (l2.toInt = 1 → ∃ k1 : Nat, (85 + l1) = iv k1 ∧ k1 < 2200 ∧ Q (M1 1 k1) M1) ∧ (l2.toInt = 2 → zCz shM g d mX9_isSeen [.ref 0, .int l1] M1 (fun b2 M2 => (b2 = false → Q 0 M2) ∧ (b2 = true → Q 1 M2))) ∧ (l2.toInt = 3 → zCi shM g d mX9_thawOf [.ref 0, .int l1] M1 (fun x1 M2 => Q x1 M2)) ∧ (l2.toInt = 4 → zCi shM g d mX9_aroundOf [.ref 0, .int l1] M1 (fun x1 M2 => Q x1 M2))) ∧ (b1 = false → Q (-2) M1))) : zCi shM g (d + 1) mX9_at [.ref 0, .int l1, .int l2] M Q := by
  refine zW.enter (by decide +kernel) (Nat.le_of_ble_eq_true rfl) ?_
  change zW shM g (d + 1) mX9_at (zi Q) 0 [(0, .ref 0), (1, .int l1), (2, .int l2)] [] M
  refine z_aload_n dX9_at_0 0 rfl ?_
  refine z_iload_n dX9_at_1 1 rfl ?_
  refine z_callV (m2 := mX9_isCell) (st := []) [.int l1] okX9_isCell (Or.inl lkX9_105) shM_0 rfl rfl rfl (Nat.le_of_ble_eq_true rfl) dX9_at_2 (zgo_z h fun b1 M1 h => ?_)
  refine z_ifb_ne 11 dX9_at_5 (by decide) (fun c1 => ?_) (fun c1 => ?_)
  · have h := h.1 c1
    refine z_iload_n dX9_at_11 2 rfl ?_
    refine z_table [48, 58, 68, 82, 88] 94 dX9_at_12 (by decide) (by decide) (by decide) (fun c2 => ?_) ⟨fun c2 => ?_, fun c2 => ?_, fun c2 => ?_, fun c2 => ?_, fun c2 => ?_, trivial⟩
    · have h := h.1 c2
      refine z_bipush (v := (-2)) dX9_at_94 (by decide) ?_
      exact z_iret (st := []) rfl rfl dX9_at_96 ⟨_, rfl, h⟩
    · have h := h.2.1 c2
      refine z_aload_n dX9_at_48 0 rfl ?_
      refine z_getr shM_0 rfl flX9_7 dX9_at_49 ?_
      refine z_bipush (v := 21) dX9_at_52 (by decide) ?_
      refine z_iload_n dX9_at_54 1 rfl ?_
      refine z_iadd dX9_at_55 ?_
      obtain ⟨k1, ek1, uk1, h⟩ := h
      refine z_iald2 (k0 := k1) shM_1 (by decide) ek1 uk1 dX9_at_56 ?_
      exact z_iret (st := []) rfl rfl dX9_at_57 ⟨_, rfl, h⟩
    · have h := h.2.2.1 c2
      refine z_aload_n dX9_at_58 0 rfl ?_
      refine z_getr shM_0 rfl flX9_7 dX9_at_59 ?_
      refine z_bipush (v := 85) dX9_at_62 (by decide) ?_
      refine z_iload_n dX9_at_64 1 rfl ?_
      refine z_iadd dX9_at_65 ?_
      obtain ⟨k1, ek1, uk1, h⟩ := h
      refine z_iald2 (k0 := k1) shM_1 (by decide) ek1 uk1 dX9_at_66 ?_
      exact z_iret (st := []) rfl rfl dX9_at_67 ⟨_, rfl, h⟩
    · have h := h.2.2.2.1 c2
      refine z_aload_n dX9_at_68 0 rfl ?_
      refine z_iload_n dX9_at_69 1 rfl ?_
      refine z_callV (m2 := mX9_isSeen) (st := []) [.int l1] okX9_isSeen (Or.inl lkX9_347) shM_0 rfl rfl rfl (Nat.le_of_ble_eq_true rfl) dX9_at_70 (zgo_z h fun b2 M2 h => ?_)
      refine z_ifb_eq 80 dX9_at_73 (by decide) (fun c3 => ?_) (fun c3 => ?_)
      · have h := h.1 c3
        refine z_iconst (v := 0) dX9_at_80 (by decide) ?_
        exact z_iret (st := []) rfl rfl dX9_at_81 ⟨_, rfl, h⟩
      · have h := h.2 c3
        refine z_iconst (v := 1) dX9_at_76 (by decide) ?_
        refine z_goto 81 dX9_at_77 (by decide) ?_
        exact z_iret (st := []) rfl rfl dX9_at_81 ⟨_, rfl, h⟩
    · have h := h.2.2.2.2.1 c2
      refine z_aload_n dX9_at_82 0 rfl ?_
      refine z_iload_n dX9_at_83 1 rfl ?_
      refine z_callV (m2 := mX9_thawOf) (st := []) [.int l1] okX9_thawOf (Or.inl lkX9_390) shM_0 rfl rfl rfl (Nat.le_of_ble_eq_true rfl) dX9_at_84 (zgo_i h fun x1 M2 h => ?_)
      exact z_iret (st := []) rfl rfl dX9_at_87 ⟨_, rfl, h⟩
    · have h := h.2.2.2.2.2 c2
      refine z_aload_n dX9_at_88 0 rfl ?_
      refine z_iload_n dX9_at_89 1 rfl ?_
      refine z_callV (m2 := mX9_aroundOf) (st := []) [.int l1] okX9_aroundOf (Or.inl lkX9_353) shM_0 rfl rfl rfl (Nat.le_of_ble_eq_true rfl) dX9_at_90 (zgo_i h fun x1 M2 h => ?_)
      exact z_iret (st := []) rfl rfl dX9_at_93 ⟨_, rfl, h⟩
  · have h := h.2 c1
    refine z_bipush (v := (-2)) dX9_at_8 (by decide) ?_
    exact z_iret (st := []) rfl rfl dX9_at_10 ⟨_, rfl, h⟩
theorem dX9_cut_0 : decode cX9_cut 0 = .ok (.aload_n 0, 1) := by decide +kernel
theorem dX9_cut_1 : decode cX9_cut 1 = .ok (.iload_n 1, 1) := by decide +kernel
theorem dX9_cut_2 : decode cX9_cut 2 = .ok (.invokevirtual 114, 3) := by decide +kernel
theorem dX9_cut_5 : decode cX9_cut 5 = .ok (.ifCond .eq 20, 3) := by decide +kernel
theorem dX9_cut_8 : decode cX9_cut 8 = .ok (.aload_n 0, 1) := by decide +kernel
theorem dX9_cut_9 : decode cX9_cut 9 = .ok (.iload_n 2, 1) := by decide +kernel
theorem dX9_cut_10 : decode cX9_cut 10 = .ok (.invokevirtual 105, 3) := by decide +kernel
theorem dX9_cut_13 : decode cX9_cut 13 = .ok (.ifCond .eq 12, 3) := by decide +kernel
theorem dX9_cut_16 : decode cX9_cut 16 = .ok (.aload_n 0, 1) := by decide +kernel
theorem dX9_cut_17 : decode cX9_cut 17 = .ok (.iload_n 1, 1) := by decide +kernel
theorem dX9_cut_18 : decode cX9_cut 18 = .ok (.iload_n 2, 1) := by decide +kernel
theorem dX9_cut_19 : decode cX9_cut 19 = .ok (.invokevirtual 372, 3) := by decide +kernel
theorem dX9_cut_22 : decode cX9_cut 22 = .ok (.goto 4, 3) := by decide +kernel
theorem dX9_cut_25 : decode cX9_cut 25 = .ok (.iconst (-1), 1) := by decide +kernel
theorem dX9_cut_26 : decode cX9_cut 26 = .ok (.ireturn, 1) := by decide +kernel
set_option maxRecDepth 20000 in
theorem vX9_cut {g : zG} {d : Nat} {Q : Int32 → zM → Prop} {M : zM} {l1 : Int32} {l2 : Int32} (h : zCz shM g d mX9_isSkater [.ref 0, .int l1] M (fun b1 M1 => (b1 = false → Q (-1) M1) ∧ (b1 = true → zCz shM g d mX9_isCell [.ref 0, .int l2] M1 (fun b2 M2 => (b2 = false → Q (-1) M2) ∧ (b2 = true → zCi shM g d mX9_cutOf [.ref 0, .int l1, .int l2] M2 (fun x1 M3 => Q x1 M3)))))) : zCi shM g (d + 1) mX9_cut [.ref 0, .int l1, .int l2] M Q := by
  refine zW.enter (by decide +kernel) (Nat.le_of_ble_eq_true rfl) ?_
  change zW shM g (d + 1) mX9_cut (zi Q) 0 [(0, .ref 0), (1, .int l1), (2, .int l2)] [] M
  refine z_aload_n dX9_cut_0 0 rfl ?_
  refine z_iload_n dX9_cut_1 1 rfl ?_
  refine z_callV (m2 := mX9_isSkater) (st := []) [.int l1] okX9_isSkater (Or.inl lkX9_114) shM_0 rfl rfl rfl (Nat.le_of_ble_eq_true rfl) dX9_cut_2 (zgo_z h fun b1 M1 h => ?_)
  refine z_ifb_eq 25 dX9_cut_5 (by decide) (fun c1 => ?_) (fun c1 => ?_)
  · have h := h.1 c1
    refine z_iconst (v := (-1)) dX9_cut_25 (by decide) ?_
    exact z_iret (st := []) rfl rfl dX9_cut_26 ⟨_, rfl, h⟩
  · have h := h.2 c1
    refine z_aload_n dX9_cut_8 0 rfl ?_
    refine z_iload_n dX9_cut_9 2 rfl ?_
    refine z_callV (m2 := mX9_isCell) (st := []) [.int l2] okX9_isCell (Or.inl lkX9_105) shM_0 rfl rfl rfl (Nat.le_of_ble_eq_true rfl) dX9_cut_10 (zgo_z h fun b2 M2 h => ?_)
    refine z_ifb_eq 25 dX9_cut_13 (by decide) (fun c2 => ?_) (fun c2 => ?_)
    · have h := h.1 c2
      refine z_iconst (v := (-1)) dX9_cut_25 (by decide) ?_
      exact z_iret (st := []) rfl rfl dX9_cut_26 ⟨_, rfl, h⟩
    · have h := h.2 c2
      refine z_aload_n dX9_cut_16 0 rfl ?_
      refine z_iload_n dX9_cut_17 1 rfl ?_
      refine z_iload_n dX9_cut_18 2 rfl ?_
      refine z_callV (m2 := mX9_cutOf) (st := []) [.int l1, .int l2] okX9_cutOf (Or.inl lkX9_372) shM_0 rfl rfl rfl (Nat.le_of_ble_eq_true rfl) dX9_cut_19 (zgo_i h fun x1 M3 h => ?_)
      refine z_goto 26 dX9_cut_22 (by decide) ?_
      exact z_iret (st := []) rfl rfl dX9_cut_26 ⟨_, rfl, h⟩
theorem dX9_book_0 : decode cX9_book 0 = .ok (.iload_n 1, 1) := by decide +kernel
theorem dX9_book_1 : decode cX9_book 1 = .ok (.iconst 0, 1) := by decide +kernel
theorem dX9_book_2 : decode cX9_book 2 = .ok (.aload_n 0, 1) := by decide +kernel
theorem dX9_book_3 : decode cX9_book 3 = .ok (.getfield 7, 3) := by decide +kernel
theorem dX9_book_6 : decode cX9_book 6 = .ok (.iconst 2, 1) := by decide +kernel
theorem dX9_book_7 : decode cX9_book 7 = .ok (.iaload, 1) := by decide +kernel
theorem dX9_book_8 : decode cX9_book 8 = .ok (.iconst 1, 1) := by decide +kernel
theorem dX9_book_9 : decode cX9_book 9 = .ok (.isub, 1) := by decide +kernel
theorem dX9_book_10 : decode cX9_book 10 = .ok (.invokestatic 97, 3) := by decide +kernel
theorem dX9_book_13 : decode cX9_book 13 = .ok (.ifCond .eq 29, 3) := by decide +kernel
theorem dX9_book_16 : decode cX9_book 16 = .ok (.iload_n 2, 1) := by decide +kernel
theorem dX9_book_17 : decode cX9_book 17 = .ok (.iconst 0, 1) := by decide +kernel
theorem dX9_book_18 : decode cX9_book 18 = .ok (.iconst 4, 1) := by decide +kernel
theorem dX9_book_19 : decode cX9_book 19 = .ok (.invokestatic 97, 3) := by decide +kernel
theorem dX9_book_22 : decode cX9_book 22 = .ok (.ifCond .eq 20, 3) := by decide +kernel
theorem dX9_book_25 : decode cX9_book 25 = .ok (.aload_n 0, 1) := by decide +kernel
theorem dX9_book_26 : decode cX9_book 26 = .ok (.getfield 7, 3) := by decide +kernel
theorem dX9_book_29 : decode cX9_book 29 = .ok (.sipush 566, 3) := by decide +kernel
theorem dX9_book_32 : decode cX9_book 32 = .ok (.iconst 5, 1) := by decide +kernel
theorem dX9_book_33 : decode cX9_book 33 = .ok (.iload_n 1, 1) := by decide +kernel
theorem dX9_book_34 : decode cX9_book 34 = .ok (.imul, 1) := by decide +kernel
theorem dX9_book_35 : decode cX9_book 35 = .ok (.iadd, 1) := by decide +kernel
theorem dX9_book_36 : decode cX9_book 36 = .ok (.iload_n 2, 1) := by decide +kernel
theorem dX9_book_37 : decode cX9_book 37 = .ok (.iadd, 1) := by decide +kernel
theorem dX9_book_38 : decode cX9_book 38 = .ok (.iaload, 1) := by decide +kernel
theorem dX9_book_39 : decode cX9_book 39 = .ok (.goto 4, 3) := by decide +kernel
theorem dX9_book_42 : decode cX9_book 42 = .ok (.iconst (-1), 1) := by decide +kernel
theorem dX9_book_43 : decode cX9_book 43 = .ok (.ireturn, 1) := by decide +kernel
set_option maxRecDepth 20000 in
theorem vX9_book {g : zG} {d : Nat} {Q : Int32 → zM → Prop} {M : zM} {l1 : Int32} {l2 : Int32} (h : zCz shM g d mX9_isIn [.int l1, .int 0, .int ((M 1 2) - 1)] M (fun b1 M1 => (b1 = false → Q (-1) M1) ∧ (b1 = true → zCz shM g d mX9_isIn [.int l2, .int 0, .int 4] M1 (fun b2 M2 => (b2 = false → Q (-1) M2) ∧ (b2 = true → ∃ k1 : Nat, ((566 + (5 * l1)) + l2) = iv k1 ∧ k1 < 2200 ∧ Q (M2 1 k1) M2))))) : zCi shM g (d + 1) mX9_book [.ref 0, .int l1, .int l2] M Q := by
  refine zW.enter (by decide +kernel) (Nat.le_of_ble_eq_true rfl) ?_
  change zW shM g (d + 1) mX9_book (zi Q) 0 [(0, .ref 0), (1, .int l1), (2, .int l2)] [] M
  refine z_iload_n dX9_book_0 1 rfl ?_
  refine z_iconst (v := 0) dX9_book_1 (by decide) ?_
  refine z_aload_n dX9_book_2 0 rfl ?_
  refine z_getr shM_0 rfl flX9_7 dX9_book_3 ?_
  refine z_iconst (v := 2) dX9_book_6 (by decide) ?_
  refine z_iald2 (k0 := 2) shM_1 (by decide) (by decide) (by decide) dX9_book_7 ?_
  refine z_iconst (v := 1) dX9_book_8 (by decide) ?_
  refine z_isub dX9_book_9 ?_
  refine z_callS (m2 := mX9_isIn) (st := []) [.int l1, .int 0, .int ((M 1 2) - 1)] okX9_isIn (Or.inl lkX9_97) rfl rfl (Nat.le_of_ble_eq_true rfl) dX9_book_10 (zgo_z h fun b1 M1 h => ?_)
  refine z_ifb_eq 42 dX9_book_13 (by decide) (fun c1 => ?_) (fun c1 => ?_)
  · have h := h.1 c1
    refine z_iconst (v := (-1)) dX9_book_42 (by decide) ?_
    exact z_iret (st := []) rfl rfl dX9_book_43 ⟨_, rfl, h⟩
  · have h := h.2 c1
    refine z_iload_n dX9_book_16 2 rfl ?_
    refine z_iconst (v := 0) dX9_book_17 (by decide) ?_
    refine z_iconst (v := 4) dX9_book_18 (by decide) ?_
    refine z_callS (m2 := mX9_isIn) (st := []) [.int l2, .int 0, .int 4] okX9_isIn (Or.inl lkX9_97) rfl rfl (Nat.le_of_ble_eq_true rfl) dX9_book_19 (zgo_z h fun b2 M2 h => ?_)
    refine z_ifb_eq 42 dX9_book_22 (by decide) (fun c2 => ?_) (fun c2 => ?_)
    · have h := h.1 c2
      refine z_iconst (v := (-1)) dX9_book_42 (by decide) ?_
      exact z_iret (st := []) rfl rfl dX9_book_43 ⟨_, rfl, h⟩
    · have h := h.2 c2
      refine z_aload_n dX9_book_25 0 rfl ?_
      refine z_getr shM_0 rfl flX9_7 dX9_book_26 ?_
      refine z_sipush (v := 566) dX9_book_29 (by decide) ?_
      refine z_iconst (v := 5) dX9_book_32 (by decide) ?_
      refine z_iload_n dX9_book_33 1 rfl ?_
      refine z_imul dX9_book_34 ?_
      refine z_iadd dX9_book_35 ?_
      refine z_iload_n dX9_book_36 2 rfl ?_
      refine z_iadd dX9_book_37 ?_
      obtain ⟨k1, ek1, uk1, h⟩ := h
      refine z_iald2 (k0 := k1) shM_1 (by decide) ek1 uk1 dX9_book_38 ?_
      refine z_goto 43 dX9_book_39 (by decide) ?_
      exact z_iret (st := []) rfl rfl dX9_book_43 ⟨_, rfl, h⟩
theorem dX9_image_0 : decode cX9_image 0 = .ok (.iload_n 1, 1) := by decide +kernel
theorem dX9_image_1 : decode cX9_image 1 = .ok (.ifCond .ne 12, 3) := by decide +kernel
theorem dX9_image_4 : decode cX9_image 4 = .ok (.aload_n 0, 1) := by decide +kernel
theorem dX9_image_5 : decode cX9_image 5 = .ok (.getfield 501, 3) := by decide +kernel
theorem dX9_image_8 : decode cX9_image 8 = .ok (.ifCond .ne 5, 3) := by decide +kernel
theorem dX9_image_11 : decode cX9_image 11 = .ok (.iconst 0, 1) := by decide +kernel
theorem dX9_image_12 : decode cX9_image 12 = .ok (.ireturn, 1) := by decide +kernel
theorem dX9_image_13 : decode cX9_image 13 = .ok (.iconst 0, 1) := by decide +kernel
theorem dX9_image_14 : decode cX9_image 14 = .ok (.istore_n 2, 1) := by decide +kernel
theorem dX9_image_15 : decode cX9_image 15 = .ok (.iload_n 2, 1) := by decide +kernel
theorem dX9_image_16 : decode cX9_image 16 = .ok (.sipush 2200, 3) := by decide +kernel
theorem dX9_image_19 : decode cX9_image 19 = .ok (.if_icmp .ge 40, 3) := by decide +kernel
theorem dX9_image_22 : decode cX9_image 22 = .ok (.iload_n 1, 1) := by decide +kernel
theorem dX9_image_23 : decode cX9_image 23 = .ok (.ifCond .eq 18, 3) := by decide +kernel
theorem dX9_image_26 : decode cX9_image 26 = .ok (.aload_n 0, 1) := by decide +kernel
theorem dX9_image_27 : decode cX9_image 27 = .ok (.getfield 13, 3) := by decide +kernel
theorem dX9_image_30 : decode cX9_image 30 = .ok (.iload_n 2, 1) := by decide +kernel
theorem dX9_image_31 : decode cX9_image 31 = .ok (.aload_n 0, 1) := by decide +kernel
theorem dX9_image_32 : decode cX9_image 32 = .ok (.getfield 7, 3) := by decide +kernel
theorem dX9_image_35 : decode cX9_image 35 = .ok (.iload_n 2, 1) := by decide +kernel
theorem dX9_image_36 : decode cX9_image 36 = .ok (.iaload, 1) := by decide +kernel
theorem dX9_image_37 : decode cX9_image 37 = .ok (.iastore, 1) := by decide +kernel
theorem dX9_image_38 : decode cX9_image 38 = .ok (.goto 15, 3) := by decide +kernel
theorem dX9_image_41 : decode cX9_image 41 = .ok (.aload_n 0, 1) := by decide +kernel
theorem dX9_image_42 : decode cX9_image 42 = .ok (.getfield 7, 3) := by decide +kernel
theorem dX9_image_45 : decode cX9_image 45 = .ok (.iload_n 2, 1) := by decide +kernel
theorem dX9_image_46 : decode cX9_image 46 = .ok (.aload_n 0, 1) := by decide +kernel
theorem dX9_image_47 : decode cX9_image 47 = .ok (.getfield 13, 3) := by decide +kernel
theorem dX9_image_50 : decode cX9_image 50 = .ok (.iload_n 2, 1) := by decide +kernel
theorem dX9_image_51 : decode cX9_image 51 = .ok (.iaload, 1) := by decide +kernel
theorem dX9_image_52 : decode cX9_image 52 = .ok (.iastore, 1) := by decide +kernel
theorem dX9_image_53 : decode cX9_image 53 = .ok (.iinc 2 1, 3) := by decide +kernel
theorem dX9_image_56 : decode cX9_image 56 = .ok (.goto (-41), 3) := by decide +kernel
theorem dX9_image_59 : decode cX9_image 59 = .ok (.iload_n 1, 1) := by decide +kernel
theorem dX9_image_60 : decode cX9_image 60 = .ok (.ifCond .ne 7, 3) := by decide +kernel
theorem dX9_image_63 : decode cX9_image 63 = .ok (.aload_n 0, 1) := by decide +kernel
theorem dX9_image_64 : decode cX9_image 64 = .ok (.invokevirtual 109, 3) := by decide +kernel
theorem dX9_image_67 : decode cX9_image 67 = .ok (.aload_n 0, 1) := by decide +kernel
theorem dX9_image_68 : decode cX9_image 68 = .ok (.iconst 1, 1) := by decide +kernel
theorem dX9_image_69 : decode cX9_image 69 = .ok (.putfield 501, 3) := by decide +kernel
theorem dX9_image_72 : decode cX9_image 72 = .ok (.iconst 1, 1) := by decide +kernel
theorem dX9_image_73 : decode cX9_image 73 = .ok (.ireturn, 1) := by decide +kernel
set_option maxRecDepth 20000 in
theorem vX9_image {g : zG} {d : Nat} {Q : Bool → zM → Prop} {M : zM} {l1 : Bool} (h : (l1 = true → zW shM g (d + 1) mX9_image (zz Q) 15 [(0, .ref 0), (1, .int (zbI l1)), (2, .int 0)] [] M) ∧ (l1 = false → (¬ (M 0 5) = 0 → zW shM g (d + 1) mX9_image (zz Q) 15 [(0, .ref 0), (1, .int (zbI l1)), (2, .int 0)] [] M) ∧ ((M 0 5) = 0 → Q false M))) : zCz shM g (d + 1) mX9_image [.ref 0, .int (zbI l1)] M Q := by
  refine zW.enter (by decide +kernel) (Nat.le_of_ble_eq_true rfl) ?_
  change zW shM g (d + 1) mX9_image (zz Q) 0 [(0, .ref 0), (1, .int (zbI l1))] [] M
  refine z_iload_n dX9_image_0 1 rfl ?_
  refine z_ifb_ne 13 dX9_image_1 (by decide) (fun c1 => ?_) (fun c1 => ?_)
  · have h := h.1 c1
    refine z_iconst (v := 0) dX9_image_13 (by decide) ?_
    refine z_istore_n [(2, .int 0), (0, .ref 0), (1, .int (zbI l1))] dX9_image_14 (by decide) rfl ?_
    exact zW.sub [1, 2, 0] rfl h
  · have h := h.2 c1
    refine z_aload_n dX9_image_4 0 rfl ?_
    refine z_geti shM_0 rfl flX9_501 dX9_image_5 ?_
    refine z_if_ne 13 dX9_image_8 (by decide) (fun c2 => ?_) (fun c2 => ?_)
    · have h := h.1 c2
      refine z_iconst (v := 0) dX9_image_13 (by decide) ?_
      refine z_istore_n [(2, .int 0), (0, .ref 0), (1, .int (zbI l1))] dX9_image_14 (by decide) rfl ?_
      exact zW.sub [1, 2, 0] rfl h
    · have h := h.2 c2
      refine z_iconst (v := 0) dX9_image_11 (by decide) ?_
      exact z_zret (b := false) rfl rfl dX9_image_12 h
set_option maxRecDepth 20000 in
theorem vX9_image_15 {g : zG} {d : Nat} {Q : Bool → zM → Prop} {M : zM} {l1 : Bool} {l2 : Int32} (h : (2200 ≤ l2 → (l1 = true → Q true (zup M 0 5 (zbI true))) ∧ (l1 = false → zCv shM g d mX9_forgets [.ref 0] M (fun  M1 => Q true (zup M1 0 5 (zbI true))))) ∧ (¬ 2200 ≤ l2 → (l1 = false → ∃ k1 : Nat, l2 = iv k1 ∧ k1 < 2200 ∧ zW shM g (d + 1) mX9_image (zz Q) 15 [(0, .ref 0), (1, .int (zbI l1)), (2, .int (l2 + 1))] [] (zup M 1 k1 (M 2 k1))) ∧ (l1 = true → ∃ k1 : Nat, l2 = iv k1 ∧ k1 < 2200 ∧ zW shM g (d + 1) mX9_image (zz Q) 15 [(0, .ref 0), (1, .int (zbI l1)), (2, .int (l2 + 1))] [] (zup M 2 k1 (M 1 k1))))) : zW shM g (d + 1) mX9_image (zz Q) 15 [(0, .ref 0), (1, .int (zbI l1)), (2, .int l2)] [] M := by
  refine z_iload_n dX9_image_15 2 rfl ?_
  refine z_sipush (v := 2200) dX9_image_16 (by decide) ?_
  refine z_icmp_ge 59 dX9_image_19 (by decide) (fun c1 => ?_) (fun c1 => ?_)
  · have h := h.1 c1
    refine z_iload_n dX9_image_59 1 rfl ?_
    refine z_ifb_ne 67 dX9_image_60 (by decide) (fun c2 => ?_) (fun c2 => ?_)
    · have h := h.1 c2
      refine z_aload_n dX9_image_67 0 rfl ?_
      refine z_iconst (v := 1) dX9_image_68 (by decide) ?_
      refine z_puti (x := zbI true) shM_0 rfl fpX9_501 (zb_narrow _) (zb_fits _) dX9_image_69 ?_
      refine z_iconst (v := 1) dX9_image_72 (by decide) ?_
      exact z_zret (b := true) rfl rfl dX9_image_73 h
    · have h := h.2 c2
      refine z_aload_n dX9_image_63 0 rfl ?_
      refine z_callV (m2 := mX9_forgets) (st := []) [] okX9_forgets (Or.inl lkX9_109) shM_0 rfl rfl rfl (Nat.le_of_ble_eq_true rfl) dX9_image_64 (zgo_v h fun  M1 h => ?_)
      refine z_aload_n dX9_image_67 0 rfl ?_
      refine z_iconst (v := 1) dX9_image_68 (by decide) ?_
      refine z_puti (x := zbI true) shM_0 rfl fpX9_501 (zb_narrow _) (zb_fits _) dX9_image_69 ?_
      refine z_iconst (v := 1) dX9_image_72 (by decide) ?_
      exact z_zret (b := true) rfl rfl dX9_image_73 h
  · have h := h.2 c1
    refine z_iload_n dX9_image_22 1 rfl ?_
    refine z_ifb_eq 41 dX9_image_23 (by decide) (fun c2 => ?_) (fun c2 => ?_)
    · have h := h.1 c2
      refine z_aload_n dX9_image_41 0 rfl ?_
      refine z_getr shM_0 rfl flX9_7 dX9_image_42 ?_
      refine z_iload_n dX9_image_45 2 rfl ?_
      refine z_aload_n dX9_image_46 0 rfl ?_
      refine z_getr shM_0 rfl flX9_13 dX9_image_47 ?_
      refine z_iload_n dX9_image_50 2 rfl ?_
      obtain ⟨k1, ek1, uk1, h⟩ := h
      refine z_iald2 (k0 := k1) shM_2 (by decide) ek1 uk1 dX9_image_51 ?_
      refine z_iast2 (k0 := k1) shM_1 (by decide) ek1 uk1 dX9_image_52 ?_
      refine z_iinc (x := l2) (v := (l2 + 1)) [(2, .int (l2 + 1)), (0, .ref 0), (1, .int (zbI l1))] dX9_image_53 2 rfl rfl (by decide) rfl ?_
      refine z_goto 15 dX9_image_56 (by decide) ?_
      exact zW.sub [1, 2, 0] rfl h
    · have h := h.2 c2
      refine z_aload_n dX9_image_26 0 rfl ?_
      refine z_getr shM_0 rfl flX9_13 dX9_image_27 ?_
      refine z_iload_n dX9_image_30 2 rfl ?_
      refine z_aload_n dX9_image_31 0 rfl ?_
      refine z_getr shM_0 rfl flX9_7 dX9_image_32 ?_
      refine z_iload_n dX9_image_35 2 rfl ?_
      obtain ⟨k1, ek1, uk1, h⟩ := h
      refine z_iald2 (k0 := k1) shM_1 (by decide) ek1 uk1 dX9_image_36 ?_
      refine z_iast2 (k0 := k1) shM_2 (by decide) ek1 uk1 dX9_image_37 ?_
      refine z_goto 53 dX9_image_38 (by decide) ?_
      refine z_iinc (x := l2) (v := (l2 + 1)) [(2, .int (l2 + 1)), (0, .ref 0), (1, .int (zbI l1))] dX9_image_53 2 rfl rfl (by decide) rfl ?_
      refine z_goto 15 dX9_image_56 (by decide) ?_
      exact zW.sub [1, 2, 0] rfl h
theorem dX9_seenMany_0 : decode cX9_seenMany 0 = .ok (.iconst 0, 1) := by decide +kernel
theorem dX9_seenMany_1 : decode cX9_seenMany 1 = .ok (.istore_n 1, 1) := by decide +kernel
theorem dX9_seenMany_2 : decode cX9_seenMany 2 = .ok (.iconst 0, 1) := by decide +kernel
theorem dX9_seenMany_3 : decode cX9_seenMany 3 = .ok (.istore_n 2, 1) := by decide +kernel
theorem dX9_seenMany_4 : decode cX9_seenMany 4 = .ok (.iload_n 2, 1) := by decide +kernel
theorem dX9_seenMany_5 : decode cX9_seenMany 5 = .ok (.bipush 64, 2) := by decide +kernel
theorem dX9_seenMany_7 : decode cX9_seenMany 7 = .ok (.if_icmp .ge 33, 3) := by decide +kernel
theorem dX9_seenMany_10 : decode cX9_seenMany 10 = .ok (.iload_n 1, 1) := by decide +kernel
theorem dX9_seenMany_11 : decode cX9_seenMany 11 = .ok (.aload_n 0, 1) := by decide +kernel
theorem dX9_seenMany_12 : decode cX9_seenMany 12 = .ok (.iload_n 2, 1) := by decide +kernel
theorem dX9_seenMany_13 : decode cX9_seenMany 13 = .ok (.invokevirtual 105, 3) := by decide +kernel
theorem dX9_seenMany_16 : decode cX9_seenMany 16 = .ok (.ifCond .eq 15, 3) := by decide +kernel
theorem dX9_seenMany_19 : decode cX9_seenMany 19 = .ok (.aload_n 0, 1) := by decide +kernel
theorem dX9_seenMany_20 : decode cX9_seenMany 20 = .ok (.iload_n 2, 1) := by decide +kernel
theorem dX9_seenMany_21 : decode cX9_seenMany 21 = .ok (.invokevirtual 347, 3) := by decide +kernel
theorem dX9_seenMany_24 : decode cX9_seenMany 24 = .ok (.ifCond .eq 7, 3) := by decide +kernel
theorem dX9_seenMany_27 : decode cX9_seenMany 27 = .ok (.iconst 1, 1) := by decide +kernel
theorem dX9_seenMany_28 : decode cX9_seenMany 28 = .ok (.goto 4, 3) := by decide +kernel
theorem dX9_seenMany_31 : decode cX9_seenMany 31 = .ok (.iconst 0, 1) := by decide +kernel
theorem dX9_seenMany_32 : decode cX9_seenMany 32 = .ok (.iadd, 1) := by decide +kernel
theorem dX9_seenMany_33 : decode cX9_seenMany 33 = .ok (.istore_n 1, 1) := by decide +kernel
theorem dX9_seenMany_34 : decode cX9_seenMany 34 = .ok (.iinc 2 1, 3) := by decide +kernel
theorem dX9_seenMany_37 : decode cX9_seenMany 37 = .ok (.goto (-33), 3) := by decide +kernel
theorem dX9_seenMany_40 : decode cX9_seenMany 40 = .ok (.iload_n 1, 1) := by decide +kernel
theorem dX9_seenMany_41 : decode cX9_seenMany 41 = .ok (.ireturn, 1) := by decide +kernel
set_option maxRecDepth 20000 in
theorem vX9_seenMany {g : zG} {d : Nat} {Q : Int32 → zM → Prop} {M : zM} (h : zW shM g (d + 1) mX9_seenMany (zi Q) 4 [(0, .ref 0), (1, .int 0), (2, .int 0)] [] M) : zCi shM g (d + 1) mX9_seenMany [.ref 0] M Q := by
  refine zW.enter (by decide +kernel) (Nat.le_of_ble_eq_true rfl) ?_
  change zW shM g (d + 1) mX9_seenMany (zi Q) 0 [(0, .ref 0)] [] M
  refine z_iconst (v := 0) dX9_seenMany_0 (by decide) ?_
  refine z_istore_n [(1, .int 0), (0, .ref 0)] dX9_seenMany_1 (by decide) rfl ?_
  refine z_iconst (v := 0) dX9_seenMany_2 (by decide) ?_
  refine z_istore_n [(2, .int 0), (1, .int 0), (0, .ref 0)] dX9_seenMany_3 (by decide) rfl ?_
  exact zW.sub [2, 1, 0] rfl h
set_option maxRecDepth 20000 in
theorem vX9_seenMany_4 {g : zG} {d : Nat} {Q : Int32 → zM → Prop} {M : zM} {l1 : Int32} {l2 : Int32} (h : (64 ≤ l2 → Q l1 M) ∧ (¬ 64 ≤ l2 → zCz shM g d mX9_isCell [.ref 0, .int l2] M (fun b1 M1 => (b1 = false → zW shM g (d + 1) mX9_seenMany (zi Q) 4 [(0, .ref 0), (1, .int (l1 + 0)), (2, .int (l2 + 1))] [] M1) ∧ (b1 = true → zCz shM g d mX9_isSeen [.ref 0, .int l2] M1 (fun b2 M2 => (b2 = false → zW shM g (d + 1) mX9_seenMany (zi Q) 4 [(0, .ref 0), (1, .int (l1 + 0)), (2, .int (l2 + 1))] [] M2) ∧ (b2 = true → zW shM g (d + 1) mX9_seenMany (zi Q) 4 [(0, .ref 0), (1, .int (l1 + 1)), (2, .int (l2 + 1))] [] M2)))))) : zW shM g (d + 1) mX9_seenMany (zi Q) 4 [(0, .ref 0), (1, .int l1), (2, .int l2)] [] M := by
  refine z_iload_n dX9_seenMany_4 2 rfl ?_
  refine z_bipush (v := 64) dX9_seenMany_5 (by decide) ?_
  refine z_icmp_ge 40 dX9_seenMany_7 (by decide) (fun c1 => ?_) (fun c1 => ?_)
  · have h := h.1 c1
    refine z_iload_n dX9_seenMany_40 1 rfl ?_
    exact z_iret (st := []) rfl rfl dX9_seenMany_41 ⟨_, rfl, h⟩
  · have h := h.2 c1
    refine z_iload_n dX9_seenMany_10 1 rfl ?_
    refine z_aload_n dX9_seenMany_11 0 rfl ?_
    refine z_iload_n dX9_seenMany_12 2 rfl ?_
    refine z_callV (m2 := mX9_isCell) (st := [.int l1]) [.int l2] okX9_isCell (Or.inl lkX9_105) shM_0 rfl rfl rfl (Nat.le_of_ble_eq_true rfl) dX9_seenMany_13 (zgo_z h fun b1 M1 h => ?_)
    refine z_ifb_eq 31 dX9_seenMany_16 (by decide) (fun c2 => ?_) (fun c2 => ?_)
    · have h := h.1 c2
      refine z_iconst (v := 0) dX9_seenMany_31 (by decide) ?_
      refine z_iadd dX9_seenMany_32 ?_
      refine z_istore_n [(1, .int (l1 + 0)), (0, .ref 0), (2, .int l2)] dX9_seenMany_33 (by decide) rfl ?_
      refine z_iinc (x := l2) (v := (l2 + 1)) [(2, .int (l2 + 1)), (1, .int (l1 + 0)), (0, .ref 0)] dX9_seenMany_34 2 rfl rfl (by decide) rfl ?_
      refine z_goto 4 dX9_seenMany_37 (by decide) ?_
      exact zW.sub [2, 1, 0] rfl h
    · have h := h.2 c2
      refine z_aload_n dX9_seenMany_19 0 rfl ?_
      refine z_iload_n dX9_seenMany_20 2 rfl ?_
      refine z_callV (m2 := mX9_isSeen) (st := [.int l1]) [.int l2] okX9_isSeen (Or.inl lkX9_347) shM_0 rfl rfl rfl (Nat.le_of_ble_eq_true rfl) dX9_seenMany_21 (zgo_z h fun b2 M2 h => ?_)
      refine z_ifb_eq 31 dX9_seenMany_24 (by decide) (fun c3 => ?_) (fun c3 => ?_)
      · have h := h.1 c3
        refine z_iconst (v := 0) dX9_seenMany_31 (by decide) ?_
        refine z_iadd dX9_seenMany_32 ?_
        refine z_istore_n [(1, .int (l1 + 0)), (0, .ref 0), (2, .int l2)] dX9_seenMany_33 (by decide) rfl ?_
        refine z_iinc (x := l2) (v := (l2 + 1)) [(2, .int (l2 + 1)), (1, .int (l1 + 0)), (0, .ref 0)] dX9_seenMany_34 2 rfl rfl (by decide) rfl ?_
        refine z_goto 4 dX9_seenMany_37 (by decide) ?_
        exact zW.sub [2, 1, 0] rfl h
      · have h := h.2 c3
        refine z_iconst (v := 1) dX9_seenMany_27 (by decide) ?_
        refine z_goto 32 dX9_seenMany_28 (by decide) ?_
        refine z_iadd dX9_seenMany_32 ?_
        refine z_istore_n [(1, .int (l1 + 1)), (0, .ref 0), (2, .int l2)] dX9_seenMany_33 (by decide) rfl ?_
        refine z_iinc (x := l2) (v := (l2 + 1)) [(2, .int (l2 + 1)), (1, .int (l1 + 1)), (0, .ref 0)] dX9_seenMany_34 2 rfl rfl (by decide) rfl ?_
        refine z_goto 4 dX9_seenMany_37 (by decide) ?_
        exact zW.sub [2, 1, 0] rfl h
theorem dX9_look_0 : decode cX9_look 0 = .ok (.iload_n 1, 1) := by decide +kernel
theorem dX9_look_1 : decode cX9_look 1 = .ok (.tableswitch 183 0 13 #[71, 80, 89, 96, 105, 114, 123, 130, 137, 146, 155, 164, 173, 178], 71) := by decide +kernel
theorem dX9_look_72 : decode cX9_look 72 = .ok (.aload_n 0, 1) := by decide +kernel
theorem dX9_look_73 : decode cX9_look 73 = .ok (.getfield 7, 3) := by decide +kernel
theorem dX9_look_76 : decode cX9_look 76 = .ok (.sipush 150, 3) := by decide +kernel
theorem dX9_look_79 : decode cX9_look 79 = .ok (.iaload, 1) := by decide +kernel
theorem dX9_look_80 : decode cX9_look 80 = .ok (.ireturn, 1) := by decide +kernel
theorem dX9_look_81 : decode cX9_look 81 = .ok (.aload_n 0, 1) := by decide +kernel
theorem dX9_look_82 : decode cX9_look 82 = .ok (.getfield 7, 3) := by decide +kernel
theorem dX9_look_85 : decode cX9_look 85 = .ok (.sipush 151, 3) := by decide +kernel
theorem dX9_look_88 : decode cX9_look 88 = .ok (.iaload, 1) := by decide +kernel
theorem dX9_look_89 : decode cX9_look 89 = .ok (.ireturn, 1) := by decide +kernel
theorem dX9_look_90 : decode cX9_look 90 = .ok (.aload_n 0, 1) := by decide +kernel
theorem dX9_look_91 : decode cX9_look 91 = .ok (.getfield 7, 3) := by decide +kernel
theorem dX9_look_94 : decode cX9_look 94 = .ok (.iconst 0, 1) := by decide +kernel
theorem dX9_look_95 : decode cX9_look 95 = .ok (.iaload, 1) := by decide +kernel
theorem dX9_look_96 : decode cX9_look 96 = .ok (.ireturn, 1) := by decide +kernel
theorem dX9_look_97 : decode cX9_look 97 = .ok (.aload_n 0, 1) := by decide +kernel
theorem dX9_look_98 : decode cX9_look 98 = .ok (.getfield 7, 3) := by decide +kernel
theorem dX9_look_101 : decode cX9_look 101 = .ok (.sipush 154, 3) := by decide +kernel
theorem dX9_look_104 : decode cX9_look 104 = .ok (.iaload, 1) := by decide +kernel
theorem dX9_look_105 : decode cX9_look 105 = .ok (.ireturn, 1) := by decide +kernel
theorem dX9_look_106 : decode cX9_look 106 = .ok (.aload_n 0, 1) := by decide +kernel
theorem dX9_look_107 : decode cX9_look 107 = .ok (.getfield 7, 3) := by decide +kernel
theorem dX9_look_110 : decode cX9_look 110 = .ok (.sipush 152, 3) := by decide +kernel
theorem dX9_look_113 : decode cX9_look 113 = .ok (.iaload, 1) := by decide +kernel
theorem dX9_look_114 : decode cX9_look 114 = .ok (.ireturn, 1) := by decide +kernel
theorem dX9_look_115 : decode cX9_look 115 = .ok (.aload_n 0, 1) := by decide +kernel
theorem dX9_look_116 : decode cX9_look 116 = .ok (.getfield 7, 3) := by decide +kernel
theorem dX9_look_119 : decode cX9_look 119 = .ok (.sipush 153, 3) := by decide +kernel
theorem dX9_look_122 : decode cX9_look 122 = .ok (.iaload, 1) := by decide +kernel
theorem dX9_look_123 : decode cX9_look 123 = .ok (.ireturn, 1) := by decide +kernel
theorem dX9_look_124 : decode cX9_look 124 = .ok (.aload_n 0, 1) := by decide +kernel
theorem dX9_look_125 : decode cX9_look 125 = .ok (.getfield 7, 3) := by decide +kernel
theorem dX9_look_128 : decode cX9_look 128 = .ok (.iconst 2, 1) := by decide +kernel
theorem dX9_look_129 : decode cX9_look 129 = .ok (.iaload, 1) := by decide +kernel
theorem dX9_look_130 : decode cX9_look 130 = .ok (.ireturn, 1) := by decide +kernel
theorem dX9_look_131 : decode cX9_look 131 = .ok (.aload_n 0, 1) := by decide +kernel
theorem dX9_look_132 : decode cX9_look 132 = .ok (.getfield 7, 3) := by decide +kernel
theorem dX9_look_135 : decode cX9_look 135 = .ok (.iconst 1, 1) := by decide +kernel
theorem dX9_look_136 : decode cX9_look 136 = .ok (.iaload, 1) := by decide +kernel
theorem dX9_look_137 : decode cX9_look 137 = .ok (.ireturn, 1) := by decide +kernel
theorem dX9_look_138 : decode cX9_look 138 = .ok (.aload_n 0, 1) := by decide +kernel
theorem dX9_look_139 : decode cX9_look 139 = .ok (.getfield 7, 3) := by decide +kernel
theorem dX9_look_142 : decode cX9_look 142 = .ok (.sipush 155, 3) := by decide +kernel
theorem dX9_look_145 : decode cX9_look 145 = .ok (.iaload, 1) := by decide +kernel
theorem dX9_look_146 : decode cX9_look 146 = .ok (.ireturn, 1) := by decide +kernel
theorem dX9_look_147 : decode cX9_look 147 = .ok (.aload_n 0, 1) := by decide +kernel
theorem dX9_look_148 : decode cX9_look 148 = .ok (.getfield 7, 3) := by decide +kernel
theorem dX9_look_151 : decode cX9_look 151 = .ok (.sipush 156, 3) := by decide +kernel
theorem dX9_look_154 : decode cX9_look 154 = .ok (.iaload, 1) := by decide +kernel
theorem dX9_look_155 : decode cX9_look 155 = .ok (.ireturn, 1) := by decide +kernel
theorem dX9_look_156 : decode cX9_look 156 = .ok (.aload_n 0, 1) := by decide +kernel
theorem dX9_look_157 : decode cX9_look 157 = .ok (.getfield 7, 3) := by decide +kernel
theorem dX9_look_160 : decode cX9_look 160 = .ok (.sipush 157, 3) := by decide +kernel
theorem dX9_look_163 : decode cX9_look 163 = .ok (.iaload, 1) := by decide +kernel
theorem dX9_look_164 : decode cX9_look 164 = .ok (.ireturn, 1) := by decide +kernel
theorem dX9_look_165 : decode cX9_look 165 = .ok (.aload_n 0, 1) := by decide +kernel
theorem dX9_look_166 : decode cX9_look 166 = .ok (.getfield 7, 3) := by decide +kernel
theorem dX9_look_169 : decode cX9_look 169 = .ok (.sipush 158, 3) := by decide +kernel
theorem dX9_look_172 : decode cX9_look 172 = .ok (.iaload, 1) := by decide +kernel
theorem dX9_look_173 : decode cX9_look 173 = .ok (.ireturn, 1) := by decide +kernel
theorem dX9_look_174 : decode cX9_look 174 = .ok (.aload_n 0, 1) := by decide +kernel
theorem dX9_look_175 : decode cX9_look 175 = .ok (.getfield 94, 3) := by decide +kernel
theorem dX9_look_178 : decode cX9_look 178 = .ok (.ireturn, 1) := by decide +kernel
theorem dX9_look_179 : decode cX9_look 179 = .ok (.aload_n 0, 1) := by decide +kernel
theorem dX9_look_180 : decode cX9_look 180 = .ok (.invokevirtual 505, 3) := by decide +kernel
theorem dX9_look_183 : decode cX9_look 183 = .ok (.ireturn, 1) := by decide +kernel
theorem dX9_look_184 : decode cX9_look 184 = .ok (.iconst (-1), 1) := by decide +kernel
theorem dX9_look_185 : decode cX9_look 185 = .ok (.ireturn, 1) := by decide +kernel
set_option maxRecDepth 20000 in
theorem vX9_look {g : zG} {d : Nat} {Q : Int32 → zM → Prop} {M : zM} {l1 : Int32} (h : (l1.toInt < 0 ∨ 13 < l1.toInt → Q (-1) M) ∧ (l1.toInt = 0 → Q (M 1 150) M) ∧ (l1.toInt = 1 → Q (M 1 151) M) ∧ (l1.toInt = 2 → Q (M 1 0) M) ∧ (l1.toInt = 3 → Q (M 1 154) M) ∧ (l1.toInt = 4 → Q (M 1 152) M) ∧ (l1.toInt = 5 → Q (M 1 153) M) ∧ (l1.toInt = 6 → Q (M 1 2) M) ∧ (l1.toInt = 7 → Q (M 1 1) M) ∧ (l1.toInt = 8 → Q (M 1 155) M) ∧ (l1.toInt = 9 → Q (M 1 156) M) ∧ (l1.toInt = 10 → Q (M 1 157) M) ∧ (l1.toInt = 11 → Q (M 1 158) M) ∧ (l1.toInt = 12 → Q (M 0 4) M) ∧ (l1.toInt = 13 → zCi shM g d mX9_seenMany [.ref 0] M (fun x1 M1 => Q x1 M1))) : zCi shM g (d + 1) mX9_look [.ref 0, .int l1] M Q := by
  refine zW.enter (by decide +kernel) (Nat.le_of_ble_eq_true rfl) ?_
  change zW shM g (d + 1) mX9_look (zi Q) 0 [(0, .ref 0), (1, .int l1)] [] M
  refine z_iload_n dX9_look_0 1 rfl ?_
  refine z_table [72, 81, 90, 97, 106, 115, 124, 131, 138, 147, 156, 165, 174, 179] 184 dX9_look_1 (by decide) (by decide) (by decide) (fun c1 => ?_) ⟨fun c1 => ?_, fun c1 => ?_, fun c1 => ?_, fun c1 => ?_, fun c1 => ?_, fun c1 => ?_, fun c1 => ?_, fun c1 => ?_, fun c1 => ?_, fun c1 => ?_, fun c1 => ?_, fun c1 => ?_, fun c1 => ?_, fun c1 => ?_, trivial⟩
  · have h := h.1 c1
    refine z_iconst (v := (-1)) dX9_look_184 (by decide) ?_
    exact z_iret (st := []) rfl rfl dX9_look_185 ⟨_, rfl, h⟩
  · have h := h.2.1 c1
    refine z_aload_n dX9_look_72 0 rfl ?_
    refine z_getr shM_0 rfl flX9_7 dX9_look_73 ?_
    refine z_sipush (v := 150) dX9_look_76 (by decide) ?_
    refine z_iald2 (k0 := 150) shM_1 (by decide) (by decide) (by decide) dX9_look_79 ?_
    exact z_iret (st := []) rfl rfl dX9_look_80 ⟨_, rfl, h⟩
  · have h := h.2.2.1 c1
    refine z_aload_n dX9_look_81 0 rfl ?_
    refine z_getr shM_0 rfl flX9_7 dX9_look_82 ?_
    refine z_sipush (v := 151) dX9_look_85 (by decide) ?_
    refine z_iald2 (k0 := 151) shM_1 (by decide) (by decide) (by decide) dX9_look_88 ?_
    exact z_iret (st := []) rfl rfl dX9_look_89 ⟨_, rfl, h⟩
  · have h := h.2.2.2.1 c1
    refine z_aload_n dX9_look_90 0 rfl ?_
    refine z_getr shM_0 rfl flX9_7 dX9_look_91 ?_
    refine z_iconst (v := 0) dX9_look_94 (by decide) ?_
    refine z_iald2 (k0 := 0) shM_1 (by decide) (by decide) (by decide) dX9_look_95 ?_
    exact z_iret (st := []) rfl rfl dX9_look_96 ⟨_, rfl, h⟩
  · have h := h.2.2.2.2.1 c1
    refine z_aload_n dX9_look_97 0 rfl ?_
    refine z_getr shM_0 rfl flX9_7 dX9_look_98 ?_
    refine z_sipush (v := 154) dX9_look_101 (by decide) ?_
    refine z_iald2 (k0 := 154) shM_1 (by decide) (by decide) (by decide) dX9_look_104 ?_
    exact z_iret (st := []) rfl rfl dX9_look_105 ⟨_, rfl, h⟩
  · have h := h.2.2.2.2.2.1 c1
    refine z_aload_n dX9_look_106 0 rfl ?_
    refine z_getr shM_0 rfl flX9_7 dX9_look_107 ?_
    refine z_sipush (v := 152) dX9_look_110 (by decide) ?_
    refine z_iald2 (k0 := 152) shM_1 (by decide) (by decide) (by decide) dX9_look_113 ?_
    exact z_iret (st := []) rfl rfl dX9_look_114 ⟨_, rfl, h⟩
  · have h := h.2.2.2.2.2.2.1 c1
    refine z_aload_n dX9_look_115 0 rfl ?_
    refine z_getr shM_0 rfl flX9_7 dX9_look_116 ?_
    refine z_sipush (v := 153) dX9_look_119 (by decide) ?_
    refine z_iald2 (k0 := 153) shM_1 (by decide) (by decide) (by decide) dX9_look_122 ?_
    exact z_iret (st := []) rfl rfl dX9_look_123 ⟨_, rfl, h⟩
  · have h := h.2.2.2.2.2.2.2.1 c1
    refine z_aload_n dX9_look_124 0 rfl ?_
    refine z_getr shM_0 rfl flX9_7 dX9_look_125 ?_
    refine z_iconst (v := 2) dX9_look_128 (by decide) ?_
    refine z_iald2 (k0 := 2) shM_1 (by decide) (by decide) (by decide) dX9_look_129 ?_
    exact z_iret (st := []) rfl rfl dX9_look_130 ⟨_, rfl, h⟩
  · have h := h.2.2.2.2.2.2.2.2.1 c1
    refine z_aload_n dX9_look_131 0 rfl ?_
    refine z_getr shM_0 rfl flX9_7 dX9_look_132 ?_
    refine z_iconst (v := 1) dX9_look_135 (by decide) ?_
    refine z_iald2 (k0 := 1) shM_1 (by decide) (by decide) (by decide) dX9_look_136 ?_
    exact z_iret (st := []) rfl rfl dX9_look_137 ⟨_, rfl, h⟩
  · have h := h.2.2.2.2.2.2.2.2.2.1 c1
    refine z_aload_n dX9_look_138 0 rfl ?_
    refine z_getr shM_0 rfl flX9_7 dX9_look_139 ?_
    refine z_sipush (v := 155) dX9_look_142 (by decide) ?_
    refine z_iald2 (k0 := 155) shM_1 (by decide) (by decide) (by decide) dX9_look_145 ?_
    exact z_iret (st := []) rfl rfl dX9_look_146 ⟨_, rfl, h⟩
  · have h := h.2.2.2.2.2.2.2.2.2.2.1 c1
    refine z_aload_n dX9_look_147 0 rfl ?_
    refine z_getr shM_0 rfl flX9_7 dX9_look_148 ?_
    refine z_sipush (v := 156) dX9_look_151 (by decide) ?_
    refine z_iald2 (k0 := 156) shM_1 (by decide) (by decide) (by decide) dX9_look_154 ?_
    exact z_iret (st := []) rfl rfl dX9_look_155 ⟨_, rfl, h⟩
  · have h := h.2.2.2.2.2.2.2.2.2.2.2.1 c1
    refine z_aload_n dX9_look_156 0 rfl ?_
    refine z_getr shM_0 rfl flX9_7 dX9_look_157 ?_
    refine z_sipush (v := 157) dX9_look_160 (by decide) ?_
    refine z_iald2 (k0 := 157) shM_1 (by decide) (by decide) (by decide) dX9_look_163 ?_
    exact z_iret (st := []) rfl rfl dX9_look_164 ⟨_, rfl, h⟩
  · have h := h.2.2.2.2.2.2.2.2.2.2.2.2.1 c1
    refine z_aload_n dX9_look_165 0 rfl ?_
    refine z_getr shM_0 rfl flX9_7 dX9_look_166 ?_
    refine z_sipush (v := 158) dX9_look_169 (by decide) ?_
    refine z_iald2 (k0 := 158) shM_1 (by decide) (by decide) (by decide) dX9_look_172 ?_
    exact z_iret (st := []) rfl rfl dX9_look_173 ⟨_, rfl, h⟩
  · have h := h.2.2.2.2.2.2.2.2.2.2.2.2.2.1 c1
    refine z_aload_n dX9_look_174 0 rfl ?_
    refine z_geti shM_0 rfl flX9_94 dX9_look_175 ?_
    exact z_iret (st := []) rfl rfl dX9_look_178 ⟨_, rfl, h⟩
  · have h := h.2.2.2.2.2.2.2.2.2.2.2.2.2.2 c1
    refine z_aload_n dX9_look_179 0 rfl ?_
    refine z_callV (m2 := mX9_seenMany) (st := []) [] okX9_seenMany (Or.inl lkX9_505) shM_0 rfl rfl rfl (Nat.le_of_ble_eq_true rfl) dX9_look_180 (zgo_i h fun x1 M1 h => ?_)
    exact z_iret (st := []) rfl rfl dX9_look_183 ⟨_, rfl, h⟩
