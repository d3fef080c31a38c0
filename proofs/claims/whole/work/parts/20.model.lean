/-! THE WALKS, by program: 20.model -/
theorem dX9_begins_0 : decode cX9_begins 0 = .ok (.aload_n 0, 1) := by decide +kernel
theorem dX9_begins_1 : decode cX9_begins 1 = .ok (.getfield 7, 3) := by decide +kernel
theorem dX9_begins_4 : decode cX9_begins 4 = .ok (.iconst 1, 1) := by decide +kernel
theorem dX9_begins_5 : decode cX9_begins 5 = .ok (.iaload, 1) := by decide +kernel
theorem dX9_begins_6 : decode cX9_begins 6 = .ok (.istore_n 3, 1) := by decide +kernel
theorem dX9_begins_7 : decode cX9_begins 7 = .ok (.iconst 0, 1) := by decide +kernel
theorem dX9_begins_8 : decode cX9_begins 8 = .ok (.istore 4, 2) := by decide +kernel
theorem dX9_begins_10 : decode cX9_begins 10 = .ok (.iload 4, 2) := by decide +kernel
theorem dX9_begins_12 : decode cX9_begins 12 = .ok (.sipush 2200, 3) := by decide +kernel
theorem dX9_begins_15 : decode cX9_begins 15 = .ok (.if_icmp .ge 17, 3) := by decide +kernel
theorem dX9_begins_18 : decode cX9_begins 18 = .ok (.aload_n 0, 1) := by decide +kernel
theorem dX9_begins_19 : decode cX9_begins 19 = .ok (.getfield 7, 3) := by decide +kernel
theorem dX9_begins_22 : decode cX9_begins 22 = .ok (.iload 4, 2) := by decide +kernel
theorem dX9_begins_24 : decode cX9_begins 24 = .ok (.iconst 0, 1) := by decide +kernel
theorem dX9_begins_25 : decode cX9_begins 25 = .ok (.iastore, 1) := by decide +kernel
theorem dX9_begins_26 : decode cX9_begins 26 = .ok (.iinc 4 1, 3) := by decide +kernel
theorem dX9_begins_29 : decode cX9_begins 29 = .ok (.goto (-19), 3) := by decide +kernel
theorem dX9_begins_32 : decode cX9_begins 32 = .ok (.aload_n 0, 1) := by decide +kernel
theorem dX9_begins_33 : decode cX9_begins 33 = .ok (.getfield 7, 3) := by decide +kernel
theorem dX9_begins_36 : decode cX9_begins 36 = .ok (.iconst 1, 1) := by decide +kernel
theorem dX9_begins_37 : decode cX9_begins 37 = .ok (.iload_n 3, 1) := by decide +kernel
theorem dX9_begins_38 : decode cX9_begins 38 = .ok (.iastore, 1) := by decide +kernel
theorem dX9_begins_39 : decode cX9_begins 39 = .ok (.aload_n 0, 1) := by decide +kernel
theorem dX9_begins_40 : decode cX9_begins 40 = .ok (.getfield 7, 3) := by decide +kernel
theorem dX9_begins_43 : decode cX9_begins 43 = .ok (.sipush 150, 3) := by decide +kernel
theorem dX9_begins_46 : decode cX9_begins 46 = .ok (.iload_n 1, 1) := by decide +kernel
theorem dX9_begins_47 : decode cX9_begins 47 = .ok (.iastore, 1) := by decide +kernel
theorem dX9_begins_48 : decode cX9_begins 48 = .ok (.aload_n 0, 1) := by decide +kernel
theorem dX9_begins_49 : decode cX9_begins 49 = .ok (.getfield 7, 3) := by decide +kernel
theorem dX9_begins_52 : decode cX9_begins 52 = .ok (.sipush 151, 3) := by decide +kernel
theorem dX9_begins_55 : decode cX9_begins 55 = .ok (.iload_n 2, 1) := by decide +kernel
theorem dX9_begins_56 : decode cX9_begins 56 = .ok (.iastore, 1) := by decide +kernel
theorem dX9_begins_57 : decode cX9_begins 57 = .ok (.aload_n 0, 1) := by decide +kernel
theorem dX9_begins_58 : decode cX9_begins 58 = .ok (.getfield 7, 3) := by decide +kernel
theorem dX9_begins_61 : decode cX9_begins 61 = .ok (.sipush 152, 3) := by decide +kernel
theorem dX9_begins_64 : decode cX9_begins 64 = .ok (.iconst 1, 1) := by decide +kernel
theorem dX9_begins_65 : decode cX9_begins 65 = .ok (.iastore, 1) := by decide +kernel
theorem dX9_begins_66 : decode cX9_begins 66 = .ok (.iconst 0, 1) := by decide +kernel
theorem dX9_begins_67 : decode cX9_begins 67 = .ok (.istore 4, 2) := by decide +kernel
theorem dX9_begins_69 : decode cX9_begins 69 = .ok (.iload 4, 2) := by decide +kernel
theorem dX9_begins_71 : decode cX9_begins 71 = .ok (.bipush 64, 2) := by decide +kernel
theorem dX9_begins_73 : decode cX9_begins 73 = .ok (.if_icmp .ge 20, 3) := by decide +kernel
theorem dX9_begins_76 : decode cX9_begins 76 = .ok (.aload_n 0, 1) := by decide +kernel
theorem dX9_begins_77 : decode cX9_begins 77 = .ok (.getfield 7, 3) := by decide +kernel
theorem dX9_begins_80 : decode cX9_begins 80 = .ok (.bipush 85, 2) := by decide +kernel
theorem dX9_begins_82 : decode cX9_begins 82 = .ok (.iload 4, 2) := by decide +kernel
theorem dX9_begins_84 : decode cX9_begins 84 = .ok (.iadd, 1) := by decide +kernel
theorem dX9_begins_85 : decode cX9_begins 85 = .ok (.iconst (-1), 1) := by decide +kernel
theorem dX9_begins_86 : decode cX9_begins 86 = .ok (.iastore, 1) := by decide +kernel
theorem dX9_begins_87 : decode cX9_begins 87 = .ok (.iinc 4 1, 3) := by decide +kernel
theorem dX9_begins_90 : decode cX9_begins 90 = .ok (.goto (-21), 3) := by decide +kernel
theorem dX9_begins_93 : decode cX9_begins 93 = .ok (.aload_n 0, 1) := by decide +kernel
theorem dX9_begins_94 : decode cX9_begins 94 = .ok (.iconst 0, 1) := by decide +kernel
theorem dX9_begins_95 : decode cX9_begins 95 = .ok (.putfield 94, 3) := by decide +kernel
theorem dX9_begins_98 : decode cX9_begins 98 = .ok (.return_, 1) := by decide +kernel
set_option maxRecDepth 20000 in
theorem vX9_begins {g : zG} {d : Nat} {Q : zM → Prop} {M : zM} {l1 : Int32} {l2 : Int32} (h : zW shM g d mX9_begins (zv Q) 10 [(0, .ref 0), (1, .int l1), (2, .int l2), (3, .int (M 1 1)), (4, .int 0)] [] M) : zCv shM g d mX9_begins [.ref 0, .int l1, .int l2] M Q := by
  refine zW.enter (by decide +kernel) (Nat.le_of_ble_eq_true rfl) ?_
  change zW shM g d mX9_begins (zv Q) 0 [(0, .ref 0), (1, .int l1), (2, .int l2)] [] M
  refine z_aload_n dX9_begins_0 0 rfl ?_
  refine z_getr shM_0 rfl flX9_7 dX9_begins_1 ?_
  refine z_iconst (v := 1) dX9_begins_4 (by decide) ?_
  refine z_iald2 (k0 := 1) shM_1 (by decide) (by decide) (by decide) dX9_begins_5 ?_
  refine z_istore_n [(3, .int (M 1 1)), (0, .ref 0), (1, .int l1), (2, .int l2)] dX9_begins_6 (by decide) rfl ?_
  refine z_iconst (v := 0) dX9_begins_7 (by decide) ?_
  refine z_istore [(4, .int 0), (3, .int (M 1 1)), (0, .ref 0), (1, .int l1), (2, .int l2)] dX9_begins_8 (by decide) rfl ?_
  exact zW.sub [2, 3, 4, 1, 0] rfl h
set_option maxRecDepth 20000 in
theorem vX9_begins_10 {g : zG} {d : Nat} {Q : zM → Prop} {M : zM} {l1 : Int32} {l2 : Int32} {l3 : Int32} {l4 : Int32} (h : (2200 ≤ l4 → zW shM g d mX9_begins (zv Q) 69 [(0, .ref 0), (4, .int 0)] [] (zup (zup (zup (zup M 1 1 l3) 1 150 l1) 1 151 l2) 1 152 1)) ∧ (¬ 2200 ≤ l4 → ∃ k1 : Nat, l4 = iv k1 ∧ k1 < 2200 ∧ zW shM g d mX9_begins (zv Q) 10 [(0, .ref 0), (1, .int l1), (2, .int l2), (3, .int l3), (4, .int (l4 + 1))] [] (zup M 1 k1 0))) : zW shM g d mX9_begins (zv Q) 10 [(0, .ref 0), (1, .int l1), (2, .int l2), (3, .int l3), (4, .int l4)] [] M := by
  refine z_iload dX9_begins_10 4 rfl ?_
  refine z_sipush (v := 2200) dX9_begins_12 (by decide) ?_
  refine z_icmp_ge 32 dX9_begins_15 (by decide) (fun c1 => ?_) (fun c1 => ?_)
  · have h := h.1 c1
    refine z_aload_n dX9_begins_32 0 rfl ?_
    refine z_getr shM_0 rfl flX9_7 dX9_begins_33 ?_
    refine z_iconst (v := 1) dX9_begins_36 (by decide) ?_
    refine z_iload_n dX9_begins_37 3 rfl ?_
    refine z_iast2 (k0 := 1) shM_1 (by decide) (by decide) (by decide) dX9_begins_38 ?_
    refine z_aload_n dX9_begins_39 0 rfl ?_
    refine z_getr shM_0 rfl flX9_7 dX9_begins_40 ?_
    refine z_sipush (v := 150) dX9_begins_43 (by decide) ?_
    refine z_iload_n dX9_begins_46 1 rfl ?_
    refine z_iast2 (k0 := 150) shM_1 (by decide) (by decide) (by decide) dX9_begins_47 ?_
    refine z_aload_n dX9_begins_48 0 rfl ?_
    refine z_getr shM_0 rfl flX9_7 dX9_begins_49 ?_
    refine z_sipush (v := 151) dX9_begins_52 (by decide) ?_
    refine z_iload_n dX9_begins_55 2 rfl ?_
    refine z_iast2 (k0 := 151) shM_1 (by decide) (by decide) (by decide) dX9_begins_56 ?_
    refine z_aload_n dX9_begins_57 0 rfl ?_
    refine z_getr shM_0 rfl flX9_7 dX9_begins_58 ?_
    refine z_sipush (v := 152) dX9_begins_61 (by decide) ?_
    refine z_iconst (v := 1) dX9_begins_64 (by decide) ?_
    refine z_iast2 (k0 := 152) shM_1 (by decide) (by decide) (by decide) dX9_begins_65 ?_
    refine z_iconst (v := 0) dX9_begins_66 (by decide) ?_
    refine z_istore [(4, .int 0), (0, .ref 0), (1, .int l1), (2, .int l2), (3, .int l3)] dX9_begins_67 (by decide) rfl ?_
    exact zW.sub [1, 0] rfl h
  · have h := h.2 c1
    refine z_aload_n dX9_begins_18 0 rfl ?_
    refine z_getr shM_0 rfl flX9_7 dX9_begins_19 ?_
    refine z_iload dX9_begins_22 4 rfl ?_
    refine z_iconst (v := 0) dX9_begins_24 (by decide) ?_
    obtain ⟨k1, ek1, uk1, h⟩ := h
    refine z_iast2 (k0 := k1) shM_1 (by decide) ek1 uk1 dX9_begins_25 ?_
    refine z_iinc (x := l4) (v := (l4 + 1)) [(4, .int (l4 + 1)), (0, .ref 0), (1, .int l1), (2, .int l2), (3, .int l3)] dX9_begins_26 4 rfl rfl (by decide) rfl ?_
    refine z_goto 10 dX9_begins_29 (by decide) ?_
    exact zW.sub [1, 2, 3, 4, 0] rfl h
set_option maxRecDepth 20000 in
theorem vX9_begins_69 {g : zG} {d : Nat} {Q : zM → Prop} {M : zM} {l4 : Int32} (h : (64 ≤ l4 → Q (zup M 0 4 0)) ∧ (¬ 64 ≤ l4 → ∃ k1 : Nat, (85 + l4) = iv k1 ∧ k1 < 2200 ∧ zW shM g d mX9_begins (zv Q) 69 [(0, .ref 0), (4, .int (l4 + 1))] [] (zup M 1 k1 (-1)))) : zW shM g d mX9_begins (zv Q) 69 [(0, .ref 0), (4, .int l4)] [] M := by
  refine z_iload dX9_begins_69 1 rfl ?_
  refine z_bipush (v := 64) dX9_begins_71 (by decide) ?_
  refine z_icmp_ge 93 dX9_begins_73 (by decide) (fun c1 => ?_) (fun c1 => ?_)
  · have h := h.1 c1
    refine z_aload_n dX9_begins_93 0 rfl ?_
    refine z_iconst (v := 0) dX9_begins_94 (by decide) ?_
    refine z_puti shM_0 rfl fpX9_94 rfl rfl dX9_begins_95 ?_
    exact z_vret (st := []) rfl dX9_begins_98 ⟨rfl, h⟩
  · have h := h.2 c1
    refine z_aload_n dX9_begins_76 0 rfl ?_
    refine z_getr shM_0 rfl flX9_7 dX9_begins_77 ?_
    refine z_bipush (v := 85) dX9_begins_80 (by decide) ?_
    refine z_iload dX9_begins_82 1 rfl ?_
    refine z_iadd dX9_begins_84 ?_
    refine z_iconst (v := (-1)) dX9_begins_85 (by decide) ?_
    obtain ⟨k1, ek1, uk1, h⟩ := h
    refine z_iast2 (k0 := k1) shM_1 (by decide) ek1 uk1 dX9_begins_86 ?_
    refine z_iinc (x := l4) (v := (l4 + 1)) [(4, .int (l4 + 1)), (0, .ref 0)] dX9_begins_87 1 rfl rfl (by decide) rfl ?_
    refine z_goto 69 dX9_begins_90 (by decide) ?_
    exact zW.sub [1, 0] rfl h
theorem dX9_isIn_0 : decode cX9_isIn 0 = .ok (.iload_n 0, 1) := by decide +kernel
theorem dX9_isIn_1 : decode cX9_isIn 1 = .ok (.iload_n 1, 1) := by decide +kernel
theorem dX9_isIn_2 : decode cX9_isIn 2 = .ok (.if_icmp .lt 12, 3) := by decide +kernel
theorem dX9_isIn_5 : decode cX9_isIn 5 = .ok (.iload_n 0, 1) := by decide +kernel
theorem dX9_isIn_6 : decode cX9_isIn 6 = .ok (.iload_n 2, 1) := by decide +kernel
theorem dX9_isIn_7 : decode cX9_isIn 7 = .ok (.if_icmp .gt 7, 3) := by decide +kernel
theorem dX9_isIn_10 : decode cX9_isIn 10 = .ok (.iconst 1, 1) := by decide +kernel
theorem dX9_isIn_11 : decode cX9_isIn 11 = .ok (.goto 4, 3) := by decide +kernel
theorem dX9_isIn_14 : decode cX9_isIn 14 = .ok (.iconst 0, 1) := by decide +kernel
theorem dX9_isIn_15 : decode cX9_isIn 15 = .ok (.ireturn, 1) := by decide +kernel
set_option maxRecDepth 20000 in
theorem vX9_isIn {g : zG} {d : Nat} {Q : Bool → zM → Prop} {M : zM} {l0 : Int32} {l1 : Int32} {l2 : Int32} (h : (l0 < l1 → Q false M) ∧ (¬ l0 < l1 → (l2 < l0 → Q false M) ∧ (¬ l2 < l0 → Q true M))) : zCz shM g d mX9_isIn [.int l0, .int l1, .int l2] M Q := by
  refine zW.enter (by decide +kernel) (Nat.le_of_ble_eq_true rfl) ?_
  change zW shM g d mX9_isIn (zz Q) 0 [(0, .int l0), (1, .int l1), (2, .int l2)] [] M
  refine z_iload_n dX9_isIn_0 0 rfl ?_
  refine z_iload_n dX9_isIn_1 1 rfl ?_
  refine z_icmp_lt 14 dX9_isIn_2 (by decide) (fun c1 => ?_) (fun c1 => ?_)
  · have h := h.1 c1
    refine z_iconst (v := 0) dX9_isIn_14 (by decide) ?_
    exact z_zret (b := false) rfl rfl dX9_isIn_15 h
  · have h := h.2 c1
    refine z_iload_n dX9_isIn_5 0 rfl ?_
    refine z_iload_n dX9_isIn_6 2 rfl ?_
    refine z_icmp_gt 14 dX9_isIn_7 (by decide) (fun c2 => ?_) (fun c2 => ?_)
    · have h := h.1 c2
      refine z_iconst (v := 0) dX9_isIn_14 (by decide) ?_
      exact z_zret (b := false) rfl rfl dX9_isIn_15 h
    · have h := h.2 c2
      refine z_iconst (v := 1) dX9_isIn_10 (by decide) ?_
      refine z_goto 15 dX9_isIn_11 (by decide) ?_
      exact z_zret (b := true) rfl rfl dX9_isIn_15 h
theorem dX9_lesser_0 : decode cX9_lesser 0 = .ok (.iload_n 0, 1) := by decide +kernel
theorem dX9_lesser_1 : decode cX9_lesser 1 = .ok (.iload_n 1, 1) := by decide +kernel
theorem dX9_lesser_2 : decode cX9_lesser 2 = .ok (.if_icmp .ge 7, 3) := by decide +kernel
theorem dX9_lesser_5 : decode cX9_lesser 5 = .ok (.iload_n 0, 1) := by decide +kernel
theorem dX9_lesser_6 : decode cX9_lesser 6 = .ok (.goto 4, 3) := by decide +kernel
theorem dX9_lesser_9 : decode cX9_lesser 9 = .ok (.iload_n 1, 1) := by decide +kernel
theorem dX9_lesser_10 : decode cX9_lesser 10 = .ok (.ireturn, 1) := by decide +kernel
set_option maxRecDepth 20000 in
theorem vX9_lesser {g : zG} {d : Nat} {Q : Int32 → zM → Prop} {M : zM} {l0 : Int32} {l1 : Int32} (h : (l1 ≤ l0 → Q l1 M) ∧ (¬ l1 ≤ l0 → Q l0 M)) : zCi shM g d mX9_lesser [.int l0, .int l1] M Q := by
  refine zW.enter (by decide +kernel) (Nat.le_of_ble_eq_true rfl) ?_
  change zW shM g d mX9_lesser (zi Q) 0 [(0, .int l0), (1, .int l1)] [] M
  refine z_iload_n dX9_lesser_0 0 rfl ?_
  refine z_iload_n dX9_lesser_1 1 rfl ?_
  refine z_icmp_ge 9 dX9_lesser_2 (by decide) (fun c1 => ?_) (fun c1 => ?_)
  · have h := h.1 c1
    refine z_iload_n dX9_lesser_9 1 rfl ?_
    exact z_iret (st := []) rfl rfl dX9_lesser_10 ⟨_, rfl, h⟩
  · have h := h.2 c1
    refine z_iload_n dX9_lesser_5 0 rfl ?_
    refine z_goto 10 dX9_lesser_6 (by decide) ?_
    exact z_iret (st := []) rfl rfl dX9_lesser_10 ⟨_, rfl, h⟩
theorem dX9_greater_0 : decode cX9_greater 0 = .ok (.iload_n 0, 1) := by decide +kernel
theorem dX9_greater_1 : decode cX9_greater 1 = .ok (.iload_n 1, 1) := by decide +kernel
theorem dX9_greater_2 : decode cX9_greater 2 = .ok (.if_icmp .le 7, 3) := by decide +kernel
theorem dX9_greater_5 : decode cX9_greater 5 = .ok (.iload_n 0, 1) := by decide +kernel
theorem dX9_greater_6 : decode cX9_greater 6 = .ok (.goto 4, 3) := by decide +kernel
theorem dX9_greater_9 : decode cX9_greater 9 = .ok (.iload_n 1, 1) := by decide +kernel
theorem dX9_greater_10 : decode cX9_greater 10 = .ok (.ireturn, 1) := by decide +kernel
set_option maxRecDepth 20000 in
theorem vX9_greater {g : zG} {d : Nat} {Q : Int32 → zM → Prop} {M : zM} {l0 : Int32} {l1 : Int32} (h : (l0 ≤ l1 → Q l1 M) ∧ (¬ l0 ≤ l1 → Q l0 M)) : zCi shM g d mX9_greater [.int l0, .int l1] M Q := by
  refine zW.enter (by decide +kernel) (Nat.le_of_ble_eq_true rfl) ?_
  change zW shM g d mX9_greater (zi Q) 0 [(0, .int l0), (1, .int l1)] [] M
  refine z_iload_n dX9_greater_0 0 rfl ?_
  refine z_iload_n dX9_greater_1 1 rfl ?_
  refine z_icmp_le 9 dX9_greater_2 (by decide) (fun c1 => ?_) (fun c1 => ?_)
  · have h := h.1 c1
    refine z_iload_n dX9_greater_9 1 rfl ?_
    exact z_iret (st := []) rfl rfl dX9_greater_10 ⟨_, rfl, h⟩
  · have h := h.2 c1
    refine z_iload_n dX9_greater_5 0 rfl ?_
    refine z_goto 10 dX9_greater_6 (by decide) ?_
    exact z_iret (st := []) rfl rfl dX9_greater_10 ⟨_, rfl, h⟩
theorem dX9_isAt_0 : decode cX9_isAt 0 = .ok (.iload_n 1, 1) := by decide +kernel
theorem dX9_isAt_1 : decode cX9_isAt 1 = .ok (.iconst 0, 1) := by decide +kernel
theorem dX9_isAt_2 : decode cX9_isAt 2 = .ok (.aload_n 0, 1) := by decide +kernel
theorem dX9_isAt_3 : decode cX9_isAt 3 = .ok (.getfield 7, 3) := by decide +kernel
theorem dX9_isAt_6 : decode cX9_isAt 6 = .ok (.sipush 150, 3) := by decide +kernel
theorem dX9_isAt_9 : decode cX9_isAt 9 = .ok (.iaload, 1) := by decide +kernel
theorem dX9_isAt_10 : decode cX9_isAt 10 = .ok (.iconst 1, 1) := by decide +kernel
theorem dX9_isAt_11 : decode cX9_isAt 11 = .ok (.isub, 1) := by decide +kernel
theorem dX9_isAt_12 : decode cX9_isAt 12 = .ok (.invokestatic 97, 3) := by decide +kernel
theorem dX9_isAt_15 : decode cX9_isAt 15 = .ok (.ifCond .eq 25, 3) := by decide +kernel
theorem dX9_isAt_18 : decode cX9_isAt 18 = .ok (.iload_n 2, 1) := by decide +kernel
theorem dX9_isAt_19 : decode cX9_isAt 19 = .ok (.iconst 0, 1) := by decide +kernel
theorem dX9_isAt_20 : decode cX9_isAt 20 = .ok (.aload_n 0, 1) := by decide +kernel
theorem dX9_isAt_21 : decode cX9_isAt 21 = .ok (.getfield 7, 3) := by decide +kernel
theorem dX9_isAt_24 : decode cX9_isAt 24 = .ok (.sipush 151, 3) := by decide +kernel
theorem dX9_isAt_27 : decode cX9_isAt 27 = .ok (.iaload, 1) := by decide +kernel
theorem dX9_isAt_28 : decode cX9_isAt 28 = .ok (.iconst 1, 1) := by decide +kernel
theorem dX9_isAt_29 : decode cX9_isAt 29 = .ok (.isub, 1) := by decide +kernel
theorem dX9_isAt_30 : decode cX9_isAt 30 = .ok (.invokestatic 97, 3) := by decide +kernel
theorem dX9_isAt_33 : decode cX9_isAt 33 = .ok (.ifCond .eq 7, 3) := by decide +kernel
theorem dX9_isAt_36 : decode cX9_isAt 36 = .ok (.iconst 1, 1) := by decide +kernel
theorem dX9_isAt_37 : decode cX9_isAt 37 = .ok (.goto 4, 3) := by decide +kernel
theorem dX9_isAt_40 : decode cX9_isAt 40 = .ok (.iconst 0, 1) := by decide +kernel
theorem dX9_isAt_41 : decode cX9_isAt 41 = .ok (.ireturn, 1) := by decide +kernel
set_option maxRecDepth 20000 in
theorem vX9_isAt {g : zG} {d : Nat} {Q : Bool → zM → Prop} {M : zM} {l1 : Int32} {l2 : Int32} (h : zCz shM g d mX9_isIn [.int l1, .int 0, .int ((M 1 150) - 1)] M (fun b1 M1 => (b1 = false → Q false M1) ∧ (b1 = true → zCz shM g d mX9_isIn [.int l2, .int 0, .int ((M1 1 151) - 1)] M1 (fun b2 M2 => (b2 = false → Q false M2) ∧ (b2 = true → Q true M2))))) : zCz shM g (d + 1) mX9_isAt [.ref 0, .int l1, .int l2] M Q := by
  refine zW.enter (by decide +kernel) (Nat.le_of_ble_eq_true rfl) ?_
  change zW shM g (d + 1) mX9_isAt (zz Q) 0 [(0, .ref 0), (1, .int l1), (2, .int l2)] [] M
  refine z_iload_n dX9_isAt_0 1 rfl ?_
  refine z_iconst (v := 0) dX9_isAt_1 (by decide) ?_
  refine z_aload_n dX9_isAt_2 0 rfl ?_
  refine z_getr shM_0 rfl flX9_7 dX9_isAt_3 ?_
  refine z_sipush (v := 150) dX9_isAt_6 (by decide) ?_
  refine z_iald2 (k0 := 150) shM_1 (by decide) (by decide) (by decide) dX9_isAt_9 ?_
  refine z_iconst (v := 1) dX9_isAt_10 (by decide) ?_
  refine z_isub dX9_isAt_11 ?_
  refine z_callS (m2 := mX9_isIn) (st := []) [.int l1, .int 0, .int ((M 1 150) - 1)] okX9_isIn (Or.inl lkX9_97) rfl rfl (Nat.le_of_ble_eq_true rfl) dX9_isAt_12 (zgo_z h fun b1 M1 h => ?_)
  refine z_ifb_eq 40 dX9_isAt_15 (by decide) (fun c1 => ?_) (fun c1 => ?_)
  · have h := h.1 c1
    refine z_iconst (v := 0) dX9_isAt_40 (by decide) ?_
    exact z_zret (b := false) rfl rfl dX9_isAt_41 h
  · have h := h.2 c1
    refine z_iload_n dX9_isAt_18 2 rfl ?_
    refine z_iconst (v := 0) dX9_isAt_19 (by decide) ?_
    refine z_aload_n dX9_isAt_20 0 rfl ?_
    refine z_getr shM_0 rfl flX9_7 dX9_isAt_21 ?_
    refine z_sipush (v := 151) dX9_isAt_24 (by decide) ?_
    refine z_iald2 (k0 := 151) shM_1 (by decide) (by decide) (by decide) dX9_isAt_27 ?_
    refine z_iconst (v := 1) dX9_isAt_28 (by decide) ?_
    refine z_isub dX9_isAt_29 ?_
    refine z_callS (m2 := mX9_isIn) (st := []) [.int l2, .int 0, .int ((M1 1 151) - 1)] okX9_isIn (Or.inl lkX9_97) rfl rfl (Nat.le_of_ble_eq_true rfl) dX9_isAt_30 (zgo_z h fun b2 M2 h => ?_)
    refine z_ifb_eq 40 dX9_isAt_33 (by decide) (fun c2 => ?_) (fun c2 => ?_)
    · have h := h.1 c2
      refine z_iconst (v := 0) dX9_isAt_40 (by decide) ?_
      exact z_zret (b := false) rfl rfl dX9_isAt_41 h
    · have h := h.2 c2
      refine z_iconst (v := 1) dX9_isAt_36 (by decide) ?_
      refine z_goto 41 dX9_isAt_37 (by decide) ?_
      exact z_zret (b := true) rfl rfl dX9_isAt_41 h
theorem dX9_isCell_0 : decode cX9_isCell 0 = .ok (.iload_n 1, 1) := by decide +kernel
theorem dX9_isCell_1 : decode cX9_isCell 1 = .ok (.iconst 0, 1) := by decide +kernel
theorem dX9_isCell_2 : decode cX9_isCell 2 = .ok (.bipush 63, 2) := by decide +kernel
theorem dX9_isCell_4 : decode cX9_isCell 4 = .ok (.invokestatic 97, 3) := by decide +kernel
theorem dX9_isCell_7 : decode cX9_isCell 7 = .ok (.ifCond .eq 22, 3) := by decide +kernel
theorem dX9_isCell_10 : decode cX9_isCell 10 = .ok (.aload_n 0, 1) := by decide +kernel
theorem dX9_isCell_11 : decode cX9_isCell 11 = .ok (.iload_n 1, 1) := by decide +kernel
theorem dX9_isCell_12 : decode cX9_isCell 12 = .ok (.bipush 8, 2) := by decide +kernel
theorem dX9_isCell_14 : decode cX9_isCell 14 = .ok (.irem, 1) := by decide +kernel
theorem dX9_isCell_15 : decode cX9_isCell 15 = .ok (.iload_n 1, 1) := by decide +kernel
theorem dX9_isCell_16 : decode cX9_isCell 16 = .ok (.bipush 8, 2) := by decide +kernel
theorem dX9_isCell_18 : decode cX9_isCell 18 = .ok (.idiv, 1) := by decide +kernel
theorem dX9_isCell_19 : decode cX9_isCell 19 = .ok (.invokevirtual 101, 3) := by decide +kernel
theorem dX9_isCell_22 : decode cX9_isCell 22 = .ok (.ifCond .eq 7, 3) := by decide +kernel
theorem dX9_isCell_25 : decode cX9_isCell 25 = .ok (.iconst 1, 1) := by decide +kernel
theorem dX9_isCell_26 : decode cX9_isCell 26 = .ok (.goto 4, 3) := by decide +kernel
theorem dX9_isCell_29 : decode cX9_isCell 29 = .ok (.iconst 0, 1) := by decide +kernel
theorem dX9_isCell_30 : decode cX9_isCell 30 = .ok (.ireturn, 1) := by decide +kernel
set_option maxRecDepth 20000 in
theorem vX9_isCell {g : zG} {d : Nat} {Q : Bool → zM → Prop} {M : zM} {l1 : Int32} (h : zCz shM g d mX9_isIn [.int l1, .int 0, .int 63] M (fun b1 M1 => (b1 = false → Q false M1) ∧ (b1 = true → zCz shM g d mX9_isAt [.ref 0, .int (l1 - l1 / 8 * 8), .int (l1 / 8)] M1 (fun b2 M2 => (b2 = false → Q false M2) ∧ (b2 = true → Q true M2))))) : zCz shM g (d + 1) mX9_isCell [.ref 0, .int l1] M Q := by
  refine zW.enter (by decide +kernel) (Nat.le_of_ble_eq_true rfl) ?_
  change zW shM g (d + 1) mX9_isCell (zz Q) 0 [(0, .ref 0), (1, .int l1)] [] M
  refine z_iload_n dX9_isCell_0 1 rfl ?_
  refine z_iconst (v := 0) dX9_isCell_1 (by decide) ?_
  refine z_bipush (v := 63) dX9_isCell_2 (by decide) ?_
  refine z_callS (m2 := mX9_isIn) (st := []) [.int l1, .int 0, .int 63] okX9_isIn (Or.inl lkX9_97) rfl rfl (Nat.le_of_ble_eq_true rfl) dX9_isCell_4 (zgo_z h fun b1 M1 h => ?_)
  refine z_ifb_eq 29 dX9_isCell_7 (by decide) (fun c1 => ?_) (fun c1 => ?_)
  · have h := h.1 c1
    refine z_iconst (v := 0) dX9_isCell_29 (by decide) ?_
    exact z_zret (b := false) rfl rfl dX9_isCell_30 h
  · have h := h.2 c1
    refine z_aload_n dX9_isCell_10 0 rfl ?_
    refine z_iload_n dX9_isCell_11 1 rfl ?_
    refine z_bipush (v := 8) dX9_isCell_12 (by decide) ?_
    refine z_irem dX9_isCell_14 (by decide) ?_
    refine z_iload_n dX9_isCell_15 1 rfl ?_
    refine z_bipush (v := 8) dX9_isCell_16 (by decide) ?_
    refine z_idiv dX9_isCell_18 (by decide) ?_
    refine z_callV (m2 := mX9_isAt) (st := []) [.int (l1 - l1 / 8 * 8), .int (l1 / 8)] okX9_isAt (Or.inl lkX9_101) shM_0 rfl rfl rfl (Nat.le_of_ble_eq_true rfl) dX9_isCell_19 (zgo_z h fun b2 M2 h => ?_)
    refine z_ifb_eq 29 dX9_isCell_22 (by decide) (fun c2 => ?_) (fun c2 => ?_)
    · have h := h.1 c2
      refine z_iconst (v := 0) dX9_isCell_29 (by decide) ?_
      exact z_zret (b := false) rfl rfl dX9_isCell_30 h
    · have h := h.2 c2
      refine z_iconst (v := 1) dX9_isCell_25 (by decide) ?_
      refine z_goto 30 dX9_isCell_26 (by decide) ?_
      exact z_zret (b := true) rfl rfl dX9_isCell_30 h
theorem dX9_isBox_0 : decode cX9_isBox 0 = .ok (.aload_n 0, 1) := by decide +kernel
theorem dX9_isBox_1 : decode cX9_isBox 1 = .ok (.iload_n 1, 1) := by decide +kernel
theorem dX9_isBox_2 : decode cX9_isBox 2 = .ok (.invokevirtual 105, 3) := by decide +kernel
theorem dX9_isBox_5 : decode cX9_isBox 5 = .ok (.ifCond .eq 26, 3) := by decide +kernel
theorem dX9_isBox_8 : decode cX9_isBox 8 = .ok (.aload_n 0, 1) := by decide +kernel
theorem dX9_isBox_9 : decode cX9_isBox 9 = .ok (.iload_n 1, 1) := by decide +kernel
theorem dX9_isBox_10 : decode cX9_isBox 10 = .ok (.bipush 8, 2) := by decide +kernel
theorem dX9_isBox_12 : decode cX9_isBox 12 = .ok (.irem, 1) := by decide +kernel
theorem dX9_isBox_13 : decode cX9_isBox 13 = .ok (.iconst 2, 1) := by decide +kernel
theorem dX9_isBox_14 : decode cX9_isBox 14 = .ok (.iadd, 1) := by decide +kernel
theorem dX9_isBox_15 : decode cX9_isBox 15 = .ok (.iload_n 1, 1) := by decide +kernel
theorem dX9_isBox_16 : decode cX9_isBox 16 = .ok (.bipush 8, 2) := by decide +kernel
theorem dX9_isBox_18 : decode cX9_isBox 18 = .ok (.idiv, 1) := by decide +kernel
theorem dX9_isBox_19 : decode cX9_isBox 19 = .ok (.iconst 2, 1) := by decide +kernel
theorem dX9_isBox_20 : decode cX9_isBox 20 = .ok (.iadd, 1) := by decide +kernel
theorem dX9_isBox_21 : decode cX9_isBox 21 = .ok (.invokevirtual 101, 3) := by decide +kernel
theorem dX9_isBox_24 : decode cX9_isBox 24 = .ok (.ifCond .eq 7, 3) := by decide +kernel
theorem dX9_isBox_27 : decode cX9_isBox 27 = .ok (.iconst 1, 1) := by decide +kernel
theorem dX9_isBox_28 : decode cX9_isBox 28 = .ok (.goto 4, 3) := by decide +kernel
theorem dX9_isBox_31 : decode cX9_isBox 31 = .ok (.iconst 0, 1) := by decide +kernel
theorem dX9_isBox_32 : decode cX9_isBox 32 = .ok (.ireturn, 1) := by decide +kernel
set_option maxRecDepth 20000 in
theorem vX9_isBox {g : zG} {d : Nat} {Q : Bool → zM → Prop} {M : zM} {l1 : Int32} (h : zCz shM g d mX9_isCell [.ref 0, .int l1] M (fun b1 M1 => (b1 = false → Q false M1) ∧ (b1 = true → zCz shM g d mX9_isAt [.ref 0, .int ((l1 - l1 / 8 * 8) + 2), .int ((l1 / 8) + 2)] M1 (fun b2 M2 => (b2 = false → Q false M2) ∧ (b2 = true → Q true M2))))) : zCz shM g (d + 1) mX9_isBox [.ref 0, .int l1] M Q := by
  refine zW.enter (by decide +kernel) (Nat.le_of_ble_eq_true rfl) ?_
  change zW shM g (d + 1) mX9_isBox (zz Q) 0 [(0, .ref 0), (1, .int l1)] [] M
  refine z_aload_n dX9_isBox_0 0 rfl ?_
  refine z_iload_n dX9_isBox_1 1 rfl ?_
  refine z_callV (m2 := mX9_isCell) (st := []) [.int l1] okX9_isCell (Or.inl lkX9_105) shM_0 rfl rfl rfl (Nat.le_of_ble_eq_true rfl) dX9_isBox_2 (zgo_z h fun b1 M1 h => ?_)
  refine z_ifb_eq 31 dX9_isBox_5 (by decide) (fun c1 => ?_) (fun c1 => ?_)
  · have h := h.1 c1
    refine z_iconst (v := 0) dX9_isBox_31 (by decide) ?_
    exact z_zret (b := false) rfl rfl dX9_isBox_32 h
  · have h := h.2 c1
    refine z_aload_n dX9_isBox_8 0 rfl ?_
    refine z_iload_n dX9_isBox_9 1 rfl ?_
    refine z_bipush (v := 8) dX9_isBox_10 (by decide) ?_
    refine z_irem dX9_isBox_12 (by decide) ?_
    refine z_iconst (v := 2) dX9_isBox_13 (by decide) ?_
    refine z_iadd dX9_isBox_14 ?_
    refine z_iload_n dX9_isBox_15 1 rfl ?_
    refine z_bipush (v := 8) dX9_isBox_16 (by decide) ?_
    refine z_idiv dX9_isBox_18 (by decide) ?_
    refine z_iconst (v := 2) dX9_isBox_19 (by decide) ?_
    refine z_iadd dX9_isBox_20 ?_
    refine z_callV (m2 := mX9_isAt) (st := []) [.int ((l1 - l1 / 8 * 8) + 2), .int ((l1 / 8) + 2)] okX9_isAt (Or.inl lkX9_101) shM_0 rfl rfl rfl (Nat.le_of_ble_eq_true rfl) dX9_isBox_21 (zgo_z h fun b2 M2 h => ?_)
    refine z_ifb_eq 31 dX9_isBox_24 (by decide) (fun c2 => ?_) (fun c2 => ?_)
    · have h := h.1 c2
      refine z_iconst (v := 0) dX9_isBox_31 (by decide) ?_
      exact z_zret (b := false) rfl rfl dX9_isBox_32 h
    · have h := h.2 c2
      refine z_iconst (v := 1) dX9_isBox_27 (by decide) ?_
      refine z_goto 32 dX9_isBox_28 (by decide) ?_
      exact z_zret (b := true) rfl rfl dX9_isBox_32 h
theorem dX9_isSkater_0 : decode cX9_isSkater 0 = .ok (.iload_n 1, 1) := by decide +kernel
theorem dX9_isSkater_1 : decode cX9_isSkater 1 = .ok (.iconst 0, 1) := by decide +kernel
theorem dX9_isSkater_2 : decode cX9_isSkater 2 = .ok (.aload_n 0, 1) := by decide +kernel
theorem dX9_isSkater_3 : decode cX9_isSkater 3 = .ok (.getfield 7, 3) := by decide +kernel
theorem dX9_isSkater_6 : decode cX9_isSkater 6 = .ok (.sipush 154, 3) := by decide +kernel
theorem dX9_isSkater_9 : decode cX9_isSkater 9 = .ok (.iaload, 1) := by decide +kernel
theorem dX9_isSkater_10 : decode cX9_isSkater 10 = .ok (.iconst 1, 1) := by decide +kernel
theorem dX9_isSkater_11 : decode cX9_isSkater 11 = .ok (.isub, 1) := by decide +kernel
theorem dX9_isSkater_12 : decode cX9_isSkater 12 = .ok (.invokestatic 97, 3) := by decide +kernel
theorem dX9_isSkater_15 : decode cX9_isSkater 15 = .ok (.ireturn, 1) := by decide +kernel
set_option maxRecDepth 20000 in
theorem vX9_isSkater {g : zG} {d : Nat} {Q : Bool → zM → Prop} {M : zM} {l1 : Int32} (h : zCz shM g d mX9_isIn [.int l1, .int 0, .int ((M 1 154) - 1)] M (fun b1 M1 => Q b1 M1)) : zCz shM g (d + 1) mX9_isSkater [.ref 0, .int l1] M Q := by
  refine zW.enter (by decide +kernel) (Nat.le_of_ble_eq_true rfl) ?_
  change zW shM g (d + 1) mX9_isSkater (zz Q) 0 [(0, .ref 0), (1, .int l1)] [] M
  refine z_iload_n dX9_isSkater_0 1 rfl ?_
  refine z_iconst (v := 0) dX9_isSkater_1 (by decide) ?_
  refine z_aload_n dX9_isSkater_2 0 rfl ?_
  refine z_getr shM_0 rfl flX9_7 dX9_isSkater_3 ?_
  refine z_sipush (v := 154) dX9_isSkater_6 (by decide) ?_
  refine z_iald2 (k0 := 154) shM_1 (by decide) (by decide) (by decide) dX9_isSkater_9 ?_
  refine z_iconst (v := 1) dX9_isSkater_10 (by decide) ?_
  refine z_isub dX9_isSkater_11 ?_
  refine z_callS (m2 := mX9_isIn) (st := []) [.int l1, .int 0, .int ((M 1 154) - 1)] okX9_isIn (Or.inl lkX9_97) rfl rfl (Nat.le_of_ble_eq_true rfl) dX9_isSkater_12 (zgo_z h fun b1 M1 h => ?_)
  exact z_zret rfl rfl dX9_isSkater_15 h
theorem dX9_forgets_0 : decode cX9_forgets 0 = .ok (.aload_n 0, 1) := by decide +kernel
theorem dX9_forgets_1 : decode cX9_forgets 1 = .ok (.iconst 0, 1) := by decide +kernel
theorem dX9_forgets_2 : decode cX9_forgets 2 = .ok (.putfield 94, 3) := by decide +kernel
theorem dX9_forgets_5 : decode cX9_forgets 5 = .ok (.return_, 1) := by decide +kernel
set_option maxRecDepth 20000 in
theorem vX9_forgets {g : zG} {d : Nat} {Q : zM → Prop} {M : zM} (h : Q (zup M 0 4 0)) : zCv shM g d mX9_forgets [.ref 0] M Q := by
  refine zW.enter (by decide +kernel) (Nat.le_of_ble_eq_true rfl) ?_
  change zW shM g d mX9_forgets (zv Q) 0 [(0, .ref 0)] [] M
  refine z_aload_n dX9_forgets_0 0 rfl ?_
  refine z_iconst (v := 0) dX9_forgets_1 (by decide) ?_
  refine z_puti shM_0 rfl fpX9_94 rfl rfl dX9_forgets_2 ?_
  exact z_vret (st := []) rfl dX9_forgets_5 ⟨rfl, h⟩
theorem dX9_state_0 : decode cX9_state 0 = .ok (.aload_n 0, 1) := by decide +kernel
theorem dX9_state_1 : decode cX9_state 1 = .ok (.getfield 7, 3) := by decide +kernel
theorem dX9_state_4 : decode cX9_state 4 = .ok (.iconst 1, 1) := by decide +kernel
theorem dX9_state_5 : decode cX9_state 5 = .ok (.iaload, 1) := by decide +kernel
theorem dX9_state_6 : decode cX9_state 6 = .ok (.istore_n 2, 1) := by decide +kernel
theorem dX9_state_7 : decode cX9_state 7 = .ok (.aload_n 0, 1) := by decide +kernel
theorem dX9_state_8 : decode cX9_state 8 = .ok (.getfield 7, 3) := by decide +kernel
theorem dX9_state_11 : decode cX9_state 11 = .ok (.iconst 1, 1) := by decide +kernel
theorem dX9_state_12 : decode cX9_state 12 = .ok (.iload_n 1, 1) := by decide +kernel
theorem dX9_state_13 : decode cX9_state 13 = .ok (.iastore, 1) := by decide +kernel
theorem dX9_state_14 : decode cX9_state 14 = .ok (.aload_n 0, 1) := by decide +kernel
theorem dX9_state_15 : decode cX9_state 15 = .ok (.invokevirtual 109, 3) := by decide +kernel
theorem dX9_state_18 : decode cX9_state 18 = .ok (.iload_n 2, 1) := by decide +kernel
theorem dX9_state_19 : decode cX9_state 19 = .ok (.ireturn, 1) := by decide +kernel
set_option maxRecDepth 20000 in
theorem vX9_state {g : zG} {d : Nat} {Q : Int32 → zM → Prop} {M : zM} {l1 : Int32} (h : zCv shM g d mX9_forgets [.ref 0] (zup M 1 1 l1) (fun  M1 => Q (M 1 1) M1)) : zCi shM g (d + 1) mX9_state [.ref 0, .int l1] M Q := by
  refine zW.enter (by decide +kernel) (Nat.le_of_ble_eq_true rfl) ?_
  change zW shM g (d + 1) mX9_state (zi Q) 0 [(0, .ref 0), (1, .int l1)] [] M
  refine z_aload_n dX9_state_0 0 rfl ?_
  refine z_getr shM_0 rfl flX9_7 dX9_state_1 ?_
  refine z_iconst (v := 1) dX9_state_4 (by decide) ?_
  refine z_iald2 (k0 := 1) shM_1 (by decide) (by decide) (by decide) dX9_state_5 ?_
  refine z_istore_n [(2, .int (M 1 1)), (0, .ref 0), (1, .int l1)] dX9_state_6 (by decide) rfl ?_
  refine z_aload_n dX9_state_7 1 rfl ?_
  refine z_getr shM_0 rfl flX9_7 dX9_state_8 ?_
  refine z_iconst (v := 1) dX9_state_11 (by decide) ?_
  refine z_iload_n dX9_state_12 2 rfl ?_
  refine z_iast2 (k0 := 1) shM_1 (by decide) (by decide) (by decide) dX9_state_13 ?_
  refine z_aload_n dX9_state_14 1 rfl ?_
  refine z_callV (m2 := mX9_forgets) (st := []) [] okX9_forgets (Or.inl lkX9_109) shM_0 rfl rfl rfl (Nat.le_of_ble_eq_true rfl) dX9_state_15 (zgo_v h fun  M1 h => ?_)
  refine z_iload_n dX9_state_18 0 rfl ?_
  exact z_iret (st := []) rfl rfl dX9_state_19 ⟨_, rfl, h⟩
theorem dX9_draw_0 : decode cX9_draw 0 = .ok (.aload_n 0, 1) := by decide +kernel
theorem dX9_draw_1 : decode cX9_draw 1 = .ok (.getfield 7, 3) := by decide +kernel
theorem dX9_draw_4 : decode cX9_draw 4 = .ok (.iconst 1, 1) := by decide +kernel
theorem dX9_draw_5 : decode cX9_draw 5 = .ok (.ldc 112, 2) := by decide +kernel
theorem dX9_draw_7 : decode cX9_draw 7 = .ok (.aload_n 0, 1) := by decide +kernel
theorem dX9_draw_8 : decode cX9_draw 8 = .ok (.getfield 7, 3) := by decide +kernel
theorem dX9_draw_11 : decode cX9_draw 11 = .ok (.iconst 1, 1) := by decide +kernel
theorem dX9_draw_12 : decode cX9_draw 12 = .ok (.iaload, 1) := by decide +kernel
theorem dX9_draw_13 : decode cX9_draw 13 = .ok (.imul, 1) := by decide +kernel
theorem dX9_draw_14 : decode cX9_draw 14 = .ok (.ldc 113, 2) := by decide +kernel
theorem dX9_draw_16 : decode cX9_draw 16 = .ok (.iadd, 1) := by decide +kernel
theorem dX9_draw_17 : decode cX9_draw 17 = .ok (.iastore, 1) := by decide +kernel
theorem dX9_draw_18 : decode cX9_draw 18 = .ok (.aload_n 0, 1) := by decide +kernel
theorem dX9_draw_19 : decode cX9_draw 19 = .ok (.getfield 7, 3) := by decide +kernel
theorem dX9_draw_22 : decode cX9_draw 22 = .ok (.iconst 1, 1) := by decide +kernel
theorem dX9_draw_23 : decode cX9_draw 23 = .ok (.iaload, 1) := by decide +kernel
theorem dX9_draw_24 : decode cX9_draw 24 = .ok (.bipush 8, 2) := by decide +kernel
theorem dX9_draw_26 : decode cX9_draw 26 = .ok (.iushr, 1) := by decide +kernel
theorem dX9_draw_27 : decode cX9_draw 27 = .ok (.iload_n 1, 1) := by decide +kernel
theorem dX9_draw_28 : decode cX9_draw 28 = .ok (.irem, 1) := by decide +kernel
theorem dX9_draw_29 : decode cX9_draw 29 = .ok (.ireturn, 1) := by decide +kernel
set_option maxRecDepth 20000 in
theorem vX9_draw {g : zG} {d : Nat} {Q : Int32 → zM → Prop} {M : zM} {l1 : Int32} (h : ∀ v1 : Int32, v1 = (((((zup M 1 1 ((1664525 * (M 1 1)) + 1013904223)) 1 1)).toUInt32 >>> ((8 : Int32).toUInt32 &&& Int32.toUInt32 31)).toInt32) → ¬ l1 = 0 ∧ Q (v1 - v1 / l1 * l1) (zup M 1 1 ((1664525 * (M 1 1)) + 1013904223))) : zCi shM g d mX9_draw [.ref 0, .int l1] M Q := by
  refine zW.enter (by decide +kernel) (Nat.le_of_ble_eq_true rfl) ?_
  change zW shM g d mX9_draw (zi Q) 0 [(0, .ref 0), (1, .int l1)] [] M
  refine z_aload_n dX9_draw_0 0 rfl ?_
  refine z_getr shM_0 rfl flX9_7 dX9_draw_1 ?_
  refine z_iconst (v := 1) dX9_draw_4 (by decide) ?_
  refine z_ldc dX9_draw_5 kcX9_112 ?_
  refine z_aload_n dX9_draw_7 0 rfl ?_
  refine z_getr shM_0 rfl flX9_7 dX9_draw_8 ?_
  refine z_iconst (v := 1) dX9_draw_11 (by decide) ?_
  refine z_iald2 (k0 := 1) shM_1 (by decide) (by decide) (by decide) dX9_draw_12 ?_
  refine z_imul dX9_draw_13 ?_
  refine z_ldc dX9_draw_14 kcX9_113 ?_
  refine z_iadd dX9_draw_16 ?_
  refine z_iast2 (k0 := 1) shM_1 (by decide) (by decide) (by decide) dX9_draw_17 ?_
  refine z_aload_n dX9_draw_18 0 rfl ?_
  refine z_getr shM_0 rfl flX9_7 dX9_draw_19 ?_
  refine z_iconst (v := 1) dX9_draw_22 (by decide) ?_
  refine z_iald2 (k0 := 1) shM_1 (by decide) (by decide) (by decide) dX9_draw_23 ?_
  refine z_bipush (v := 8) dX9_draw_24 (by decide) ?_
  refine z_iushr dX9_draw_26 ?_
  obtain ⟨v1, ev1⟩ : ∃ y : Int32, y = (((((zup M 1 1 ((1664525 * (M 1 1)) + 1013904223)) 1 1)).toUInt32 >>> ((8 : Int32).toUInt32 &&& Int32.toUInt32 31)).toInt32) := ⟨_, rfl⟩
  refine z_topi v1 ev1 ?_
  have h := h v1 ev1
  refine z_iload_n dX9_draw_27 1 rfl ?_
  refine z_irem dX9_draw_28 h.1 ?_
  have h := h.2
  exact z_iret (st := []) rfl rfl dX9_draw_29 ⟨_, rfl, h⟩
theorem dX9_basin_0 : decode cX9_basin 0 = .ok (.iload_n 1, 1) := by decide +kernel
theorem dX9_basin_1 : decode cX9_basin 1 = .ok (.iconst 3, 1) := by decide +kernel
theorem dX9_basin_2 : decode cX9_basin 2 = .ok (.bipush 8, 2) := by decide +kernel
theorem dX9_basin_4 : decode cX9_basin 4 = .ok (.invokestatic 97, 3) := by decide +kernel
theorem dX9_basin_7 : decode cX9_basin 7 = .ok (.ifCond .eq 13, 3) := by decide +kernel
theorem dX9_basin_10 : decode cX9_basin 10 = .ok (.iload_n 2, 1) := by decide +kernel
theorem dX9_basin_11 : decode cX9_basin 11 = .ok (.iconst 3, 1) := by decide +kernel
theorem dX9_basin_12 : decode cX9_basin 12 = .ok (.bipush 7, 2) := by decide +kernel
theorem dX9_basin_14 : decode cX9_basin 14 = .ok (.invokestatic 97, 3) := by decide +kernel
theorem dX9_basin_17 : decode cX9_basin 17 = .ok (.ifCond .ne 5, 3) := by decide +kernel
theorem dX9_basin_20 : decode cX9_basin 20 = .ok (.iconst 0, 1) := by decide +kernel
theorem dX9_basin_21 : decode cX9_basin 21 = .ok (.ireturn, 1) := by decide +kernel
theorem dX9_basin_22 : decode cX9_basin 22 = .ok (.aload_n 0, 1) := by decide +kernel
theorem dX9_basin_23 : decode cX9_basin 23 = .ok (.iload_n 1, 1) := by decide +kernel
theorem dX9_basin_24 : decode cX9_basin 24 = .ok (.iload_n 2, 1) := by decide +kernel
theorem dX9_basin_25 : decode cX9_basin 25 = .ok (.invokevirtual 90, 3) := by decide +kernel
theorem dX9_basin_28 : decode cX9_basin 28 = .ok (.iconst 1, 1) := by decide +kernel
theorem dX9_basin_29 : decode cX9_basin 29 = .ok (.ireturn, 1) := by decide +kernel
set_option maxRecDepth 20000 in
theorem vX9_basin {g : zG} {d : Nat} {Q : Bool → zM → Prop} {M : zM} {l1 : Int32} {l2 : Int32} (h : zCz shM g d mX9_isIn [.int l1, .int 3, .int 8] M (fun b1 M1 => (b1 = false → Q false M1) ∧ (b1 = true → zCz shM g d mX9_isIn [.int l2, .int 3, .int 7] M1 (fun b2 M2 => (b2 = true → zCv shM g d mX9_begins [.ref 0, .int l1, .int l2] M2 (fun  M3 => Q true M3)) ∧ (b2 = false → Q false M2))))) : zCz shM g (d + 1) mX9_basin [.ref 0, .int l1, .int l2] M Q := by
  refine zW.enter (by decide +kernel) (Nat.le_of_ble_eq_true rfl) ?_
  change zW shM g (d + 1) mX9_basin (zz Q) 0 [(0, .ref 0), (1, .int l1), (2, .int l2)] [] M
  refine z_iload_n dX9_basin_0 1 rfl ?_
  refine z_iconst (v := 3) dX9_basin_1 (by decide) ?_
  refine z_bipush (v := 8) dX9_basin_2 (by decide) ?_
  refine z_callS (m2 := mX9_isIn) (st := []) [.int l1, .int 3, .int 8] okX9_isIn (Or.inl lkX9_97) rfl rfl (Nat.le_of_ble_eq_true rfl) dX9_basin_4 (zgo_z h fun b1 M1 h => ?_)
  refine z_ifb_eq 20 dX9_basin_7 (by decide) (fun c1 => ?_) (fun c1 => ?_)
  · have h := h.1 c1
    refine z_iconst (v := 0) dX9_basin_20 (by decide) ?_
    exact z_zret (b := false) rfl rfl dX9_basin_21 h
  · have h := h.2 c1
    refine z_iload_n dX9_basin_10 2 rfl ?_
    refine z_iconst (v := 3) dX9_basin_11 (by decide) ?_
    refine z_bipush (v := 7) dX9_basin_12 (by decide) ?_
    refine z_callS (m2 := mX9_isIn) (st := []) [.int l2, .int 3, .int 7] okX9_isIn (Or.inl lkX9_97) rfl rfl (Nat.le_of_ble_eq_true rfl) dX9_basin_14 (zgo_z h fun b2 M2 h => ?_)
    refine z_ifb_ne 22 dX9_basin_17 (by decide) (fun c2 => ?_) (fun c2 => ?_)
    · have h := h.1 c2
      refine z_aload_n dX9_basin_22 0 rfl ?_
      refine z_iload_n dX9_basin_23 1 rfl ?_
      refine z_iload_n dX9_basin_24 2 rfl ?_
      refine z_callV (m2 := mX9_begins) (st := []) [.int l1, .int l2] okX9_begins (Or.inl lkX9_90) shM_0 rfl rfl rfl (Nat.le_of_ble_eq_true rfl) dX9_basin_25 (zgo_v h fun  M3 h => ?_)
      refine z_iconst (v := 1) dX9_basin_28 (by decide) ?_
      exact z_zret (b := true) rfl rfl dX9_basin_29 h
    · have h := h.2 c2
      refine z_iconst (v := 0) dX9_basin_20 (by decide) ?_
      exact z_zret (b := false) rfl rfl dX9_basin_21 h
theorem dX9_skater_0 : decode cX9_skater 0 = .ok (.iload_n 1, 1) := by decide +kernel
theorem dX9_skater_1 : decode cX9_skater 1 = .ok (.iconst 0, 1) := by decide +kernel
theorem dX9_skater_2 : decode cX9_skater 2 = .ok (.bipush 9, 2) := by decide +kernel
theorem dX9_skater_4 : decode cX9_skater 4 = .ok (.invokestatic 97, 3) := by decide +kernel
theorem dX9_skater_7 : decode cX9_skater 7 = .ok (.ifCond .eq 24, 3) := by decide +kernel
theorem dX9_skater_10 : decode cX9_skater 10 = .ok (.aload_n 0, 1) := by decide +kernel
theorem dX9_skater_11 : decode cX9_skater 11 = .ok (.iload_n 2, 1) := by decide +kernel
theorem dX9_skater_12 : decode cX9_skater 12 = .ok (.invokevirtual 105, 3) := by decide +kernel
theorem dX9_skater_15 : decode cX9_skater 15 = .ok (.ifCond .eq 16, 3) := by decide +kernel
theorem dX9_skater_18 : decode cX9_skater 18 = .ok (.aload_n 0, 1) := by decide +kernel
theorem dX9_skater_19 : decode cX9_skater 19 = .ok (.getfield 7, 3) := by decide +kernel
theorem dX9_skater_22 : decode cX9_skater 22 = .ok (.sipush 154, 3) := by decide +kernel
theorem dX9_skater_25 : decode cX9_skater 25 = .ok (.iaload, 1) := by decide +kernel
theorem dX9_skater_26 : decode cX9_skater 26 = .ok (.bipush 6, 2) := by decide +kernel
theorem dX9_skater_28 : decode cX9_skater 28 = .ok (.if_icmp .ne 5, 3) := by decide +kernel
theorem dX9_skater_31 : decode cX9_skater 31 = .ok (.iconst (-1), 1) := by decide +kernel
theorem dX9_skater_32 : decode cX9_skater 32 = .ok (.ireturn, 1) := by decide +kernel
theorem dX9_skater_33 : decode cX9_skater 33 = .ok (.aload_n 0, 1) := by decide +kernel
theorem dX9_skater_34 : decode cX9_skater 34 = .ok (.getfield 7, 3) := by decide +kernel
theorem dX9_skater_37 : decode cX9_skater 37 = .ok (.sipush 154, 3) := by decide +kernel
theorem dX9_skater_40 : decode cX9_skater 40 = .ok (.iaload, 1) := by decide +kernel
theorem dX9_skater_41 : decode cX9_skater 41 = .ok (.istore_n 3, 1) := by decide +kernel
theorem dX9_skater_42 : decode cX9_skater 42 = .ok (.aload_n 0, 1) := by decide +kernel
theorem dX9_skater_43 : decode cX9_skater 43 = .ok (.getfield 7, 3) := by decide +kernel
theorem dX9_skater_46 : decode cX9_skater 46 = .ok (.sipush 160, 3) := by decide +kernel
theorem dX9_skater_49 : decode cX9_skater 49 = .ok (.iload_n 3, 1) := by decide +kernel
theorem dX9_skater_50 : decode cX9_skater 50 = .ok (.iadd, 1) := by decide +kernel
theorem dX9_skater_51 : decode cX9_skater 51 = .ok (.iload_n 1, 1) := by decide +kernel
theorem dX9_skater_52 : decode cX9_skater 52 = .ok (.iastore, 1) := by decide +kernel
theorem dX9_skater_53 : decode cX9_skater 53 = .ok (.aload_n 0, 1) := by decide +kernel
theorem dX9_skater_54 : decode cX9_skater 54 = .ok (.getfield 7, 3) := by decide +kernel
theorem dX9_skater_57 : decode cX9_skater 57 = .ok (.iconst 3, 1) := by decide +kernel
theorem dX9_skater_58 : decode cX9_skater 58 = .ok (.iload_n 3, 1) := by decide +kernel
theorem dX9_skater_59 : decode cX9_skater 59 = .ok (.iadd, 1) := by decide +kernel
theorem dX9_skater_60 : decode cX9_skater 60 = .ok (.iload_n 2, 1) := by decide +kernel
theorem dX9_skater_61 : decode cX9_skater 61 = .ok (.iastore, 1) := by decide +kernel
theorem dX9_skater_62 : decode cX9_skater 62 = .ok (.aload_n 0, 1) := by decide +kernel
theorem dX9_skater_63 : decode cX9_skater 63 = .ok (.getfield 7, 3) := by decide +kernel
theorem dX9_skater_66 : decode cX9_skater 66 = .ok (.sipush 166, 3) := by decide +kernel
theorem dX9_skater_69 : decode cX9_skater 69 = .ok (.iload_n 3, 1) := by decide +kernel
theorem dX9_skater_70 : decode cX9_skater 70 = .ok (.iadd, 1) := by decide +kernel
theorem dX9_skater_71 : decode cX9_skater 71 = .ok (.iconst 0, 1) := by decide +kernel
theorem dX9_skater_72 : decode cX9_skater 72 = .ok (.iastore, 1) := by decide +kernel
theorem dX9_skater_73 : decode cX9_skater 73 = .ok (.aload_n 0, 1) := by decide +kernel
theorem dX9_skater_74 : decode cX9_skater 74 = .ok (.getfield 7, 3) := by decide +kernel
theorem dX9_skater_77 : decode cX9_skater 77 = .ok (.bipush 9, 2) := by decide +kernel
theorem dX9_skater_79 : decode cX9_skater 79 = .ok (.iload_n 3, 1) := by decide +kernel
theorem dX9_skater_80 : decode cX9_skater 80 = .ok (.iadd, 1) := by decide +kernel
theorem dX9_skater_81 : decode cX9_skater 81 = .ok (.iconst 0, 1) := by decide +kernel
theorem dX9_skater_82 : decode cX9_skater 82 = .ok (.iastore, 1) := by decide +kernel
theorem dX9_skater_83 : decode cX9_skater 83 = .ok (.aload_n 0, 1) := by decide +kernel
theorem dX9_skater_84 : decode cX9_skater 84 = .ok (.getfield 7, 3) := by decide +kernel
theorem dX9_skater_87 : decode cX9_skater 87 = .ok (.bipush 15, 2) := by decide +kernel
theorem dX9_skater_89 : decode cX9_skater 89 = .ok (.iload_n 3, 1) := by decide +kernel
theorem dX9_skater_90 : decode cX9_skater 90 = .ok (.iadd, 1) := by decide +kernel
theorem dX9_skater_91 : decode cX9_skater 91 = .ok (.iconst 1, 1) := by decide +kernel
theorem dX9_skater_92 : decode cX9_skater 92 = .ok (.iastore, 1) := by decide +kernel
theorem dX9_skater_93 : decode cX9_skater 93 = .ok (.aload_n 0, 1) := by decide +kernel
theorem dX9_skater_94 : decode cX9_skater 94 = .ok (.getfield 7, 3) := by decide +kernel
theorem dX9_skater_97 : decode cX9_skater 97 = .ok (.sipush 154, 3) := by decide +kernel
theorem dX9_skater_100 : decode cX9_skater 100 = .ok (.dup2, 1) := by decide +kernel
theorem dX9_skater_101 : decode cX9_skater 101 = .ok (.iaload, 1) := by decide +kernel
theorem dX9_skater_102 : decode cX9_skater 102 = .ok (.iconst 1, 1) := by decide +kernel
theorem dX9_skater_103 : decode cX9_skater 103 = .ok (.iadd, 1) := by decide +kernel
theorem dX9_skater_104 : decode cX9_skater 104 = .ok (.iastore, 1) := by decide +kernel
theorem dX9_skater_105 : decode cX9_skater 105 = .ok (.aload_n 0, 1) := by decide +kernel
theorem dX9_skater_106 : decode cX9_skater 106 = .ok (.invokevirtual 109, 3) := by decide +kernel
theorem dX9_skater_109 : decode cX9_skater 109 = .ok (.iload_n 3, 1) := by decide +kernel
theorem dX9_skater_110 : decode cX9_skater 110 = .ok (.ireturn, 1) := by decide +kernel
set_option maxRecDepth 20000 in
theorem vX9_skater {g : zG} {d : Nat} {Q : Int32 → zM → Prop} {M : zM} {l1 : Int32} {l2 : Int32} (h : zCz shM g d mX9_isIn [.int l1, .int 0, .int 9] M (fun b1 M1 => (b1 = false → Q (-1) M1) ∧ (b1 = true → zCz shM g d mX9_isCell [.ref 0, .int l2] M1 (fun b2 M2 => (b2 = false → Q (-1) M2) ∧ (b2 = true → (¬ (M2 1 154) = 6 → ∃ k1 : Nat, (160 + (M2 1 154)) = iv k1 ∧ k1 < 2200 ∧ ∃ k2 : Nat, (3 + (M2 1 154)) = iv k2 ∧ k2 < 2200 ∧ ∃ k3 : Nat, (166 + (M2 1 154)) = iv k3 ∧ k3 < 2200 ∧ ∃ k4 : Nat, (9 + (M2 1 154)) = iv k4 ∧ k4 < 2200 ∧ ∃ k5 : Nat, (15 + (M2 1 154)) = iv k5 ∧ k5 < 2200 ∧ ∀ v1 : Int32, v1 = (((zup (zup (zup (zup (zup M2 1 k1 l1) 1 k2 l2) 1 k3 0) 1 k4 0) 1 k5 1) 1 154) + 1) → zCv shM g d mX9_forgets [.ref 0] (zup (zup (zup (zup (zup (zup M2 1 k1 l1) 1 k2 l2) 1 k3 0) 1 k4 0) 1 k5 1) 1 154 v1) (fun  M3 => Q (M2 1 154) M3)) ∧ ((M2 1 154) = 6 → Q (-1) M2)))))) : zCi shM g (d + 1) mX9_skater [.ref 0, .int l1, .int l2] M Q := by
  refine zW.enter (by decide +kernel) (Nat.le_of_ble_eq_true rfl) ?_
  change zW shM g (d + 1) mX9_skater (zi Q) 0 [(0, .ref 0), (1, .int l1), (2, .int l2)] [] M
  refine z_iload_n dX9_skater_0 1 rfl ?_
  refine z_iconst (v := 0) dX9_skater_1 (by decide) ?_
  refine z_bipush (v := 9) dX9_skater_2 (by decide) ?_
  refine z_callS (m2 := mX9_isIn) (st := []) [.int l1, .int 0, .int 9] okX9_isIn (Or.inl lkX9_97) rfl rfl (Nat.le_of_ble_eq_true rfl) dX9_skater_4 (zgo_z h fun b1 M1 h => ?_)
  refine z_ifb_eq 31 dX9_skater_7 (by decide) (fun c1 => ?_) (fun c1 => ?_)
  · have h := h.1 c1
    refine z_iconst (v := (-1)) dX9_skater_31 (by decide) ?_
    exact z_iret (st := []) rfl rfl dX9_skater_32 ⟨_, rfl, h⟩
  · have h := h.2 c1
    refine z_aload_n dX9_skater_10 0 rfl ?_
    refine z_iload_n dX9_skater_11 2 rfl ?_
    refine z_callV (m2 := mX9_isCell) (st := []) [.int l2] okX9_isCell (Or.inl lkX9_105) shM_0 rfl rfl rfl (Nat.le_of_ble_eq_true rfl) dX9_skater_12 (zgo_z h fun b2 M2 h => ?_)
    refine z_ifb_eq 31 dX9_skater_15 (by decide) (fun c2 => ?_) (fun c2 => ?_)
    · have h := h.1 c2
      refine z_iconst (v := (-1)) dX9_skater_31 (by decide) ?_
      exact z_iret (st := []) rfl rfl dX9_skater_32 ⟨_, rfl, h⟩
    · have h := h.2 c2
      refine z_aload_n dX9_skater_18 0 rfl ?_
      refine z_getr shM_0 rfl flX9_7 dX9_skater_19 ?_
      refine z_sipush (v := 154) dX9_skater_22 (by decide) ?_
      refine z_iald2 (k0 := 154) shM_1 (by decide) (by decide) (by decide) dX9_skater_25 ?_
      refine z_bipush (v := 6) dX9_skater_26 (by decide) ?_
      refine z_icmp_ne 33 dX9_skater_28 (by decide) (fun c3 => ?_) (fun c3 => ?_)
      · have h := h.1 c3
        refine z_aload_n dX9_skater_33 0 rfl ?_
        refine z_getr shM_0 rfl flX9_7 dX9_skater_34 ?_
        refine z_sipush (v := 154) dX9_skater_37 (by decide) ?_
        refine z_iald2 (k0 := 154) shM_1 (by decide) (by decide) (by decide) dX9_skater_40 ?_
        refine z_istore_n [(3, .int (M2 1 154)), (0, .ref 0), (1, .int l1), (2, .int l2)] dX9_skater_41 (by decide) rfl ?_
        refine z_aload_n dX9_skater_42 1 rfl ?_
        refine z_getr shM_0 rfl flX9_7 dX9_skater_43 ?_
        refine z_sipush (v := 160) dX9_skater_46 (by decide) ?_
        refine z_iload_n dX9_skater_49 0 rfl ?_
        refine z_iadd dX9_skater_50 ?_
        refine z_iload_n dX9_skater_51 2 rfl ?_
        obtain ⟨k1, ek1, uk1, h⟩ := h
        refine z_iast2 (k0 := k1) shM_1 (by decide) ek1 uk1 dX9_skater_52 ?_
        refine z_aload_n dX9_skater_53 1 rfl ?_
        refine z_getr shM_0 rfl flX9_7 dX9_skater_54 ?_
        refine z_iconst (v := 3) dX9_skater_57 (by decide) ?_
        refine z_iload_n dX9_skater_58 0 rfl ?_
        refine z_iadd dX9_skater_59 ?_
        refine z_iload_n dX9_skater_60 3 rfl ?_
        obtain ⟨k2, ek2, uk2, h⟩ := h
        refine z_iast2 (k0 := k2) shM_1 (by decide) ek2 uk2 dX9_skater_61 ?_
        refine z_aload_n dX9_skater_62 1 rfl ?_
        refine z_getr shM_0 rfl flX9_7 dX9_skater_63 ?_
        refine z_sipush (v := 166) dX9_skater_66 (by decide) ?_
        refine z_iload_n dX9_skater_69 0 rfl ?_
        refine z_iadd dX9_skater_70 ?_
        refine z_iconst (v := 0) dX9_skater_71 (by decide) ?_
        obtain ⟨k3, ek3, uk3, h⟩ := h
        refine z_iast2 (k0 := k3) shM_1 (by decide) ek3 uk3 dX9_skater_72 ?_
        refine z_aload_n dX9_skater_73 1 rfl ?_
        refine z_getr shM_0 rfl flX9_7 dX9_skater_74 ?_
        refine z_bipush (v := 9) dX9_skater_77 (by decide) ?_
        refine z_iload_n dX9_skater_79 0 rfl ?_
        refine z_iadd dX9_skater_80 ?_
        refine z_iconst (v := 0) dX9_skater_81 (by decide) ?_
        obtain ⟨k4, ek4, uk4, h⟩ := h
        refine z_iast2 (k0 := k4) shM_1 (by decide) ek4 uk4 dX9_skater_82 ?_
        refine z_aload_n dX9_skater_83 1 rfl ?_
        refine z_getr shM_0 rfl flX9_7 dX9_skater_84 ?_
        refine z_bipush (v := 15) dX9_skater_87 (by decide) ?_
        refine z_iload_n dX9_skater_89 0 rfl ?_
        refine z_iadd dX9_skater_90 ?_
        refine z_iconst (v := 1) dX9_skater_91 (by decide) ?_
        obtain ⟨k5, ek5, uk5, h⟩ := h
        refine z_iast2 (k0 := k5) shM_1 (by decide) ek5 uk5 dX9_skater_92 ?_
        refine z_aload_n dX9_skater_93 1 rfl ?_
        refine z_getr shM_0 rfl flX9_7 dX9_skater_94 ?_
        refine z_sipush (v := 154) dX9_skater_97 (by decide) ?_
        refine z_dup2 dX9_skater_100 ?_
        refine z_iald2 (k0 := 154) shM_1 (by decide) (by decide) (by decide) dX9_skater_101 ?_
        refine z_iconst (v := 1) dX9_skater_102 (by decide) ?_
        refine z_iadd dX9_skater_103 ?_
        obtain ⟨v1, ev1⟩ : ∃ y : Int32, y = (((zup (zup (zup (zup (zup M2 1 k1 l1) 1 k2 l2) 1 k3 0) 1 k4 0) 1 k5 1) 1 154) + 1) := ⟨_, rfl⟩
        refine z_topi v1 ev1 ?_
        have h := h v1 ev1
        refine z_iast2 (k0 := 154) shM_1 (by decide) (by decide) (by decide) dX9_skater_104 ?_
        refine z_aload_n dX9_skater_105 1 rfl ?_
        refine z_callV (m2 := mX9_forgets) (st := []) [] okX9_forgets (Or.inl lkX9_109) shM_0 rfl rfl rfl (Nat.le_of_ble_eq_true rfl) dX9_skater_106 (zgo_v h fun  M3 h => ?_)
        refine z_iload_n dX9_skater_109 0 rfl ?_
        exact z_iret (st := []) rfl rfl dX9_skater_110 ⟨_, rfl, h⟩
      · have h := h.2 c3
        refine z_iconst (v := (-1)) dX9_skater_31 (by decide) ?_
        exact z_iret (st := []) rfl rfl dX9_skater_32 ⟨_, rfl, h⟩
theorem dX9_canSet_0 : decode cX9_canSet 0 = .ok (.iload_n 1, 1) := by decide +kernel
theorem dX9_canSet_1 : decode cX9_canSet 1 = .ok (.tableswitch 94 0 3 #[31, 39, 48, 72], 31) := by decide +kernel
theorem dX9_canSet_32 : decode cX9_canSet 32 = .ok (.iload_n 3, 1) := by decide +kernel
theorem dX9_canSet_33 : decode cX9_canSet 33 = .ok (.iconst 1, 1) := by decide +kernel
theorem dX9_canSet_34 : decode cX9_canSet 34 = .ok (.bipush 9, 2) := by decide +kernel
theorem dX9_canSet_36 : decode cX9_canSet 36 = .ok (.invokestatic 97, 3) := by decide +kernel
theorem dX9_canSet_39 : decode cX9_canSet 39 = .ok (.ireturn, 1) := by decide +kernel
theorem dX9_canSet_40 : decode cX9_canSet 40 = .ok (.iload_n 3, 1) := by decide +kernel
theorem dX9_canSet_41 : decode cX9_canSet 41 = .ok (.iconst 0, 1) := by decide +kernel
theorem dX9_canSet_42 : decode cX9_canSet 42 = .ok (.sipush 1000, 3) := by decide +kernel
theorem dX9_canSet_45 : decode cX9_canSet 45 = .ok (.invokestatic 97, 3) := by decide +kernel
theorem dX9_canSet_48 : decode cX9_canSet 48 = .ok (.ireturn, 1) := by decide +kernel
theorem dX9_canSet_49 : decode cX9_canSet 49 = .ok (.aload_n 0, 1) := by decide +kernel
theorem dX9_canSet_50 : decode cX9_canSet 50 = .ok (.iload_n 2, 1) := by decide +kernel
theorem dX9_canSet_51 : decode cX9_canSet 51 = .ok (.invokevirtual 105, 3) := by decide +kernel
theorem dX9_canSet_54 : decode cX9_canSet 54 = .ok (.ifCond .eq 17, 3) := by decide +kernel
theorem dX9_canSet_57 : decode cX9_canSet 57 = .ok (.iload_n 3, 1) := by decide +kernel
theorem dX9_canSet_58 : decode cX9_canSet 58 = .ok (.iconst 0, 1) := by decide +kernel
theorem dX9_canSet_59 : decode cX9_canSet 59 = .ok (.bipush 9, 2) := by decide +kernel
theorem dX9_canSet_61 : decode cX9_canSet 61 = .ok (.invokestatic 97, 3) := by decide +kernel
theorem dX9_canSet_64 : decode cX9_canSet 64 = .ok (.ifCond .eq 7, 3) := by decide +kernel
theorem dX9_canSet_67 : decode cX9_canSet 67 = .ok (.iconst 1, 1) := by decide +kernel
theorem dX9_canSet_68 : decode cX9_canSet 68 = .ok (.goto 4, 3) := by decide +kernel
theorem dX9_canSet_71 : decode cX9_canSet 71 = .ok (.iconst 0, 1) := by decide +kernel
theorem dX9_canSet_72 : decode cX9_canSet 72 = .ok (.ireturn, 1) := by decide +kernel
theorem dX9_canSet_73 : decode cX9_canSet 73 = .ok (.aload_n 0, 1) := by decide +kernel
theorem dX9_canSet_74 : decode cX9_canSet 74 = .ok (.iload_n 2, 1) := by decide +kernel
theorem dX9_canSet_75 : decode cX9_canSet 75 = .ok (.invokevirtual 114, 3) := by decide +kernel
theorem dX9_canSet_78 : decode cX9_canSet 78 = .ok (.ifCond .eq 15, 3) := by decide +kernel
theorem dX9_canSet_81 : decode cX9_canSet 81 = .ok (.aload_n 0, 1) := by decide +kernel
theorem dX9_canSet_82 : decode cX9_canSet 82 = .ok (.iload_n 3, 1) := by decide +kernel
theorem dX9_canSet_83 : decode cX9_canSet 83 = .ok (.invokevirtual 105, 3) := by decide +kernel
theorem dX9_canSet_86 : decode cX9_canSet 86 = .ok (.ifCond .eq 7, 3) := by decide +kernel
theorem dX9_canSet_89 : decode cX9_canSet 89 = .ok (.iconst 1, 1) := by decide +kernel
theorem dX9_canSet_90 : decode cX9_canSet 90 = .ok (.goto 4, 3) := by decide +kernel
theorem dX9_canSet_93 : decode cX9_canSet 93 = .ok (.iconst 0, 1) := by decide +kernel
theorem dX9_canSet_94 : decode cX9_canSet 94 = .ok (.ireturn, 1) := by decide +kernel
theorem dX9_canSet_95 : decode cX9_canSet 95 = .ok (.iconst 0, 1) := by decide +kernel
theorem dX9_canSet_96 : decode cX9_canSet 96 = .ok (.ireturn, 1) := by decide +kernel
set_option maxRecDepth 20000 in
theorem vX9_canSet {g : zG} {d : Nat} {Q : Bool → zM → Prop} {M : zM} {l1 : Int32} {l2 : Int32} {l3 : Int32} (h : (l1.toInt < 0 ∨ 3 < l1.toInt → Q false M) ∧ (l1.toInt = 0 → zCz shM g d mX9_isIn [.int l3, .int 1, .int 9] M (fun b1 M1 => Q b1 M1)) ∧ (l1.toInt = 1 → zCz shM g d mX9_isIn [.int l3, .int 0, .int 1000] M (fun b1 M1 => Q b1 M1)) ∧ (l1.toInt = 2 → zCz shM g d mX9_isCell [.ref 0, .int l2] M (fun b1 M1 => (b1 = false → Q false M1) ∧ (b1 = true → zCz shM g d mX9_isIn [.int l3, .int 0, .int 9] M1 (fun b2 M2 => (b2 = false → Q false M2) ∧ (b2 = true → Q true M2))))) ∧ (l1.toInt = 3 → zCz shM g d mX9_isSkater [.ref 0, .int l2] M (fun b1 M1 => (b1 = false → Q false M1) ∧ (b1 = true → zCz shM g d mX9_isCell [.ref 0, .int l3] M1 (fun b2 M2 => (b2 = false → Q false M2) ∧ (b2 = true → Q true M2)))))) : zCz shM g (d + 1) mX9_canSet [.ref 0, .int l1, .int l2, .int l3] M Q := by
  refine zW.enter (by decide +kernel) (Nat.le_of_ble_eq_true rfl) ?_
  change zW shM g (d + 1) mX9_canSet (zz Q) 0 [(0, .ref 0), (1, .int l1), (2, .int l2), (3, .int l3)] [] M
  refine z_iload_n dX9_canSet_0 1 rfl ?_
  refine z_table [32, 40, 49, 73] 95 dX9_canSet_1 (by decide) (by decide) (by decide) (fun c1 => ?_) ⟨fun c1 => ?_, fun c1 => ?_, fun c1 => ?_, fun c1 => ?_, trivial⟩
  · have h := h.1 c1
    refine z_iconst (v := 0) dX9_canSet_95 (by decide) ?_
    exact z_zret (b := false) rfl rfl dX9_canSet_96 h
  · have h := h.2.1 c1
    refine z_iload_n dX9_canSet_32 3 rfl ?_
    refine z_iconst (v := 1) dX9_canSet_33 (by decide) ?_
    refine z_bipush (v := 9) dX9_canSet_34 (by decide) ?_
    refine z_callS (m2 := mX9_isIn) (st := []) [.int l3, .int 1, .int 9] okX9_isIn (Or.inl lkX9_97) rfl rfl (Nat.le_of_ble_eq_true rfl) dX9_canSet_36 (zgo_z h fun b1 M1 h => ?_)
    exact z_zret rfl rfl dX9_canSet_39 h
  · have h := h.2.2.1 c1
    refine z_iload_n dX9_canSet_40 3 rfl ?_
    refine z_iconst (v := 0) dX9_canSet_41 (by decide) ?_
    refine z_sipush (v := 1000) dX9_canSet_42 (by decide) ?_
    refine z_callS (m2 := mX9_isIn) (st := []) [.int l3, .int 0, .int 1000] okX9_isIn (Or.inl lkX9_97) rfl rfl (Nat.le_of_ble_eq_true rfl) dX9_canSet_45 (zgo_z h fun b1 M1 h => ?_)
    exact z_zret rfl rfl dX9_canSet_48 h
  · have h := h.2.2.2.1 c1
    refine z_aload_n dX9_canSet_49 0 rfl ?_
    refine z_iload_n dX9_canSet_50 2 rfl ?_
    refine z_callV (m2 := mX9_isCell) (st := []) [.int l2] okX9_isCell (Or.inl lkX9_105) shM_0 rfl rfl rfl (Nat.le_of_ble_eq_true rfl) dX9_canSet_51 (zgo_z h fun b1 M1 h => ?_)
    refine z_ifb_eq 71 dX9_canSet_54 (by decide) (fun c2 => ?_) (fun c2 => ?_)
    · have h := h.1 c2
      refine z_iconst (v := 0) dX9_canSet_71 (by decide) ?_
      exact z_zret (b := false) rfl rfl dX9_canSet_72 h
    · have h := h.2 c2
      refine z_iload_n dX9_canSet_57 3 rfl ?_
      refine z_iconst (v := 0) dX9_canSet_58 (by decide) ?_
      refine z_bipush (v := 9) dX9_canSet_59 (by decide) ?_
      refine z_callS (m2 := mX9_isIn) (st := []) [.int l3, .int 0, .int 9] okX9_isIn (Or.inl lkX9_97) rfl rfl (Nat.le_of_ble_eq_true rfl) dX9_canSet_61 (zgo_z h fun b2 M2 h => ?_)
      refine z_ifb_eq 71 dX9_canSet_64 (by decide) (fun c3 => ?_) (fun c3 => ?_)
      · have h := h.1 c3
        refine z_iconst (v := 0) dX9_canSet_71 (by decide) ?_
        exact z_zret (b := false) rfl rfl dX9_canSet_72 h
      · have h := h.2 c3
        refine z_iconst (v := 1) dX9_canSet_67 (by decide) ?_
        refine z_goto 72 dX9_canSet_68 (by decide) ?_
        exact z_zret (b := true) rfl rfl dX9_canSet_72 h
  · have h := h.2.2.2.2 c1
    refine z_aload_n dX9_canSet_73 0 rfl ?_
    refine z_iload_n dX9_canSet_74 2 rfl ?_
    refine z_callV (m2 := mX9_isSkater) (st := []) [.int l2] okX9_isSkater (Or.inl lkX9_114) shM_0 rfl rfl rfl (Nat.le_of_ble_eq_true rfl) dX9_canSet_75 (zgo_z h fun b1 M1 h => ?_)
    refine z_ifb_eq 93 dX9_canSet_78 (by decide) (fun c2 => ?_) (fun c2 => ?_)
    · have h := h.1 c2
      refine z_iconst (v := 0) dX9_canSet_93 (by decide) ?_
      exact z_zret (b := false) rfl rfl dX9_canSet_94 h
    · have h := h.2 c2
      refine z_aload_n dX9_canSet_81 0 rfl ?_
      refine z_iload_n dX9_canSet_82 3 rfl ?_
      refine z_callV (m2 := mX9_isCell) (st := []) [.int l3] okX9_isCell (Or.inl lkX9_105) shM_0 rfl rfl rfl (Nat.le_of_ble_eq_true rfl) dX9_canSet_83 (zgo_z h fun b2 M2 h => ?_)
      refine z_ifb_eq 93 dX9_canSet_86 (by decide) (fun c3 => ?_) (fun c3 => ?_)
      · have h := h.1 c3
        refine z_iconst (v := 0) dX9_canSet_93 (by decide) ?_
        exact z_zret (b := false) rfl rfl dX9_canSet_94 h
      · have h := h.2 c3
        refine z_iconst (v := 1) dX9_canSet_89 (by decide) ?_
        refine z_goto 94 dX9_canSet_90 (by decide) ?_
        exact z_zret (b := true) rfl rfl dX9_canSet_94 h
theorem dX9_set_0 : decode cX9_set 0 = .ok (.aload_n 0, 1) := by decide +kernel
theorem dX9_set_1 : decode cX9_set 1 = .ok (.iload_n 1, 1) := by decide +kernel
theorem dX9_set_2 : decode cX9_set 2 = .ok (.iload_n 2, 1) := by decide +kernel
theorem dX9_set_3 : decode cX9_set 3 = .ok (.iload_n 3, 1) := by decide +kernel
theorem dX9_set_4 : decode cX9_set 4 = .ok (.invokevirtual 117, 3) := by decide +kernel
theorem dX9_set_7 : decode cX9_set 7 = .ok (.ifCond .ne 5, 3) := by decide +kernel
theorem dX9_set_10 : decode cX9_set 10 = .ok (.iconst 0, 1) := by decide +kernel
theorem dX9_set_11 : decode cX9_set 11 = .ok (.ireturn, 1) := by decide +kernel
theorem dX9_set_12 : decode cX9_set 12 = .ok (.aload_n 0, 1) := by decide +kernel
theorem dX9_set_13 : decode cX9_set 13 = .ok (.getfield 7, 3) := by decide +kernel
theorem dX9_set_16 : decode cX9_set 16 = .ok (.iload_n 1, 1) := by decide +kernel
theorem dX9_set_17 : decode cX9_set 17 = .ok (.iconst 2, 1) := by decide +kernel
theorem dX9_set_18 : decode cX9_set 18 = .ok (.if_icmp .ge 11, 3) := by decide +kernel
theorem dX9_set_21 : decode cX9_set 21 = .ok (.sipush 152, 3) := by decide +kernel
theorem dX9_set_24 : decode cX9_set 24 = .ok (.iload_n 1, 1) := by decide +kernel
theorem dX9_set_25 : decode cX9_set 25 = .ok (.iadd, 1) := by decide +kernel
theorem dX9_set_26 : decode cX9_set 26 = .ok (.goto 18, 3) := by decide +kernel
theorem dX9_set_29 : decode cX9_set 29 = .ok (.iload_n 1, 1) := by decide +kernel
theorem dX9_set_30 : decode cX9_set 30 = .ok (.iconst 2, 1) := by decide +kernel
theorem dX9_set_31 : decode cX9_set 31 = .ok (.if_icmp .ne 10, 3) := by decide +kernel
theorem dX9_set_34 : decode cX9_set 34 = .ok (.bipush 21, 2) := by decide +kernel
theorem dX9_set_36 : decode cX9_set 36 = .ok (.iload_n 2, 1) := by decide +kernel
theorem dX9_set_37 : decode cX9_set 37 = .ok (.iadd, 1) := by decide +kernel
theorem dX9_set_38 : decode cX9_set 38 = .ok (.goto 6, 3) := by decide +kernel
theorem dX9_set_41 : decode cX9_set 41 = .ok (.iconst 3, 1) := by decide +kernel
theorem dX9_set_42 : decode cX9_set 42 = .ok (.iload_n 2, 1) := by decide +kernel
theorem dX9_set_43 : decode cX9_set 43 = .ok (.iadd, 1) := by decide +kernel
theorem dX9_set_44 : decode cX9_set 44 = .ok (.iload_n 3, 1) := by decide +kernel
theorem dX9_set_45 : decode cX9_set 45 = .ok (.iastore, 1) := by decide +kernel
theorem dX9_set_46 : decode cX9_set 46 = .ok (.aload_n 0, 1) := by decide +kernel
theorem dX9_set_47 : decode cX9_set 47 = .ok (.invokevirtual 109, 3) := by decide +kernel
theorem dX9_set_50 : decode cX9_set 50 = .ok (.iconst 1, 1) := by decide +kernel
theorem dX9_set_51 : decode cX9_set 51 = .ok (.ireturn, 1) := by decide +kernel
set_option maxRecDepth 20000 in
theorem vX9_set {g : zG} {d : Nat} {Q : Bool → zM → Prop} {M : zM} {l1 : Int32} {l2 : Int32} {l3 : Int32} (h : zCz shM g d mX9_canSet [.ref 0, .int l1, .int l2, .int l3] M (fun b1 M1 => (b1 = true → (2 ≤ l1 → (¬ l1 = 2 → ∃ k1 : Nat, (3 + l2) = iv k1 ∧ k1 < 2200 ∧ zCv shM g d mX9_forgets [.ref 0] (zup M1 1 k1 l3) (fun  M2 => Q true M2)) ∧ (l1 = 2 → ∃ k1 : Nat, (21 + l2) = iv k1 ∧ k1 < 2200 ∧ zCv shM g d mX9_forgets [.ref 0] (zup M1 1 k1 l3) (fun  M2 => Q true M2))) ∧ (¬ 2 ≤ l1 → ∃ k1 : Nat, (152 + l1) = iv k1 ∧ k1 < 2200 ∧ zCv shM g d mX9_forgets [.ref 0] (zup M1 1 k1 l3) (fun  M2 => Q true M2))) ∧ (b1 = false → Q false M1))) : zCz shM g (d + 1) mX9_set [.ref 0, .int l1, .int l2, .int l3] M Q := by
  refine zW.enter (by decide +kernel) (Nat.le_of_ble_eq_true rfl) ?_
  change zW shM g (d + 1) mX9_set (zz Q) 0 [(0, .ref 0), (1, .int l1), (2, .int l2), (3, .int l3)] [] M
  refine z_aload_n dX9_set_0 0 rfl ?_
  refine z_iload_n dX9_set_1 1 rfl ?_
  refine z_iload_n dX9_set_2 2 rfl ?_
  refine z_iload_n dX9_set_3 3 rfl ?_
  refine z_callV (m2 := mX9_canSet) (st := []) [.int l1, .int l2, .int l3] okX9_canSet (Or.inl lkX9_117) shM_0 rfl rfl rfl (Nat.le_of_ble_eq_true rfl) dX9_set_4 (zgo_z h fun b1 M1 h => ?_)
  refine z_ifb_ne 12 dX9_set_7 (by decide) (fun c1 => ?_) (fun c1 => ?_)
  · have h := h.1 c1
    refine z_aload_n dX9_set_12 0 rfl ?_
    refine z_getr shM_0 rfl flX9_7 dX9_set_13 ?_
    refine z_iload_n dX9_set_16 1 rfl ?_
    refine z_iconst (v := 2) dX9_set_17 (by decide) ?_
    refine z_icmp_ge 29 dX9_set_18 (by decide) (fun c2 => ?_) (fun c2 => ?_)
    · have h := h.1 c2
      refine z_iload_n dX9_set_29 1 rfl ?_
      refine z_iconst (v := 2) dX9_set_30 (by decide) ?_
      refine z_icmp_ne 41 dX9_set_31 (by decide) (fun c3 => ?_) (fun c3 => ?_)
      · have h := h.1 c3
        refine z_iconst (v := 3) dX9_set_41 (by decide) ?_
        refine z_iload_n dX9_set_42 2 rfl ?_
        refine z_iadd dX9_set_43 ?_
        refine z_iload_n dX9_set_44 3 rfl ?_
        obtain ⟨k1, ek1, uk1, h⟩ := h
        refine z_iast2 (k0 := k1) shM_1 (by decide) ek1 uk1 dX9_set_45 ?_
        refine z_aload_n dX9_set_46 0 rfl ?_
        refine z_callV (m2 := mX9_forgets) (st := []) [] okX9_forgets (Or.inl lkX9_109) shM_0 rfl rfl rfl (Nat.le_of_ble_eq_true rfl) dX9_set_47 (zgo_v h fun  M2 h => ?_)
        refine z_iconst (v := 1) dX9_set_50 (by decide) ?_
        exact z_zret (b := true) rfl rfl dX9_set_51 h
      · have h := h.2 c3
        refine z_bipush (v := 21) dX9_set_34 (by decide) ?_
        refine z_iload_n dX9_set_36 2 rfl ?_
        refine z_iadd dX9_set_37 ?_
        refine z_goto 44 dX9_set_38 (by decide) ?_
        refine z_iload_n dX9_set_44 3 rfl ?_
        obtain ⟨k1, ek1, uk1, h⟩ := h
        refine z_iast2 (k0 := k1) shM_1 (by decide) ek1 uk1 dX9_set_45 ?_
        refine z_aload_n dX9_set_46 0 rfl ?_
        refine z_callV (m2 := mX9_forgets) (st := []) [] okX9_forgets (Or.inl lkX9_109) shM_0 rfl rfl rfl (Nat.le_of_ble_eq_true rfl) dX9_set_47 (zgo_v h fun  M2 h => ?_)
        refine z_iconst (v := 1) dX9_set_50 (by decide) ?_
        exact z_zret (b := true) rfl rfl dX9_set_51 h
    · have h := h.2 c2
      refine z_sipush (v := 152) dX9_set_21 (by decide) ?_
      refine z_iload_n dX9_set_24 1 rfl ?_
      refine z_iadd dX9_set_25 ?_
      refine z_goto 44 dX9_set_26 (by decide) ?_
      refine z_iload_n dX9_set_44 3 rfl ?_
      obtain ⟨k1, ek1, uk1, h⟩ := h
      refine z_iast2 (k0 := k1) shM_1 (by decide) ek1 uk1 dX9_set_45 ?_
      refine z_aload_n dX9_set_46 0 rfl ?_
      refine z_callV (m2 := mX9_forgets) (st := []) [] okX9_forgets (Or.inl lkX9_109) shM_0 rfl rfl rfl (Nat.le_of_ble_eq_true rfl) dX9_set_47 (zgo_v h fun  M2 h => ?_)
      refine z_iconst (v := 1) dX9_set_50 (by decide) ?_
      exact z_zret (b := true) rfl rfl dX9_set_51 h
  · have h := h.2 c1
    refine z_iconst (v := 0) dX9_set_10 (by decide) ?_
    exact z_zret (b := false) rfl rfl dX9_set_11 h
theorem dX9_feed_0 : decode cX9_feed 0 = .ok (.aload_n 0, 1) := by decide +kernel
theorem dX9_feed_1 : decode cX9_feed 1 = .ok (.getfield 120, 3) := by decide +kernel
theorem dX9_feed_4 : decode cX9_feed 4 = .ok (.bipush 20, 2) := by decide +kernel
theorem dX9_feed_6 : decode cX9_feed 6 = .ok (.iadd, 1) := by decide +kernel
theorem dX9_feed_7 : decode cX9_feed 7 = .ok (.sipush 400, 3) := by decide +kernel
theorem dX9_feed_10 : decode cX9_feed 10 = .ok (.if_icmp .le 5, 3) := by decide +kernel
theorem dX9_feed_13 : decode cX9_feed 13 = .ok (.iconst (-1), 1) := by decide +kernel
theorem dX9_feed_14 : decode cX9_feed 14 = .ok (.ireturn, 1) := by decide +kernel
theorem dX9_feed_15 : decode cX9_feed 15 = .ok (.iconst 0, 1) := by decide +kernel
theorem dX9_feed_16 : decode cX9_feed 16 = .ok (.istore 6, 2) := by decide +kernel
theorem dX9_feed_18 : decode cX9_feed 18 = .ok (.iload 6, 2) := by decide +kernel
theorem dX9_feed_20 : decode cX9_feed 20 = .ok (.bipush 20, 2) := by decide +kernel
theorem dX9_feed_22 : decode cX9_feed 22 = .ok (.if_icmp .ge 93, 3) := by decide +kernel
theorem dX9_feed_25 : decode cX9_feed 25 = .ok (.iload 6, 2) := by decide +kernel
theorem dX9_feed_27 : decode cX9_feed 27 = .ok (.iconst 4, 1) := by decide +kernel
theorem dX9_feed_28 : decode cX9_feed 28 = .ok (.if_icmp .ge 7, 3) := by decide +kernel
theorem dX9_feed_31 : decode cX9_feed 31 = .ok (.iload_n 1, 1) := by decide +kernel
theorem dX9_feed_32 : decode cX9_feed 32 = .ok (.goto 39, 3) := by decide +kernel
theorem dX9_feed_35 : decode cX9_feed 35 = .ok (.iload 6, 2) := by decide +kernel
theorem dX9_feed_37 : decode cX9_feed 37 = .ok (.bipush 8, 2) := by decide +kernel
theorem dX9_feed_39 : decode cX9_feed 39 = .ok (.if_icmp .ge 7, 3) := by decide +kernel
theorem dX9_feed_42 : decode cX9_feed 42 = .ok (.iload_n 2, 1) := by decide +kernel
theorem dX9_feed_43 : decode cX9_feed 43 = .ok (.goto 28, 3) := by decide +kernel
theorem dX9_feed_46 : decode cX9_feed 46 = .ok (.iload 6, 2) := by decide +kernel
theorem dX9_feed_48 : decode cX9_feed 48 = .ok (.bipush 12, 2) := by decide +kernel
theorem dX9_feed_50 : decode cX9_feed 50 = .ok (.if_icmp .ge 7, 3) := by decide +kernel
theorem dX9_feed_53 : decode cX9_feed 53 = .ok (.iload_n 3, 1) := by decide +kernel
theorem dX9_feed_54 : decode cX9_feed 54 = .ok (.goto 17, 3) := by decide +kernel
theorem dX9_feed_57 : decode cX9_feed 57 = .ok (.iload 6, 2) := by decide +kernel
theorem dX9_feed_59 : decode cX9_feed 59 = .ok (.bipush 16, 2) := by decide +kernel
theorem dX9_feed_61 : decode cX9_feed 61 = .ok (.if_icmp .ge 8, 3) := by decide +kernel
theorem dX9_feed_64 : decode cX9_feed 64 = .ok (.iload 4, 2) := by decide +kernel
theorem dX9_feed_66 : decode cX9_feed 66 = .ok (.goto 5, 3) := by decide +kernel
theorem dX9_feed_69 : decode cX9_feed 69 = .ok (.iload 5, 2) := by decide +kernel
theorem dX9_feed_71 : decode cX9_feed 71 = .ok (.istore 7, 2) := by decide +kernel
theorem dX9_feed_73 : decode cX9_feed 73 = .ok (.aload_n 0, 1) := by decide +kernel
theorem dX9_feed_74 : decode cX9_feed 74 = .ok (.getfield 43, 3) := by decide +kernel
theorem dX9_feed_77 : decode cX9_feed 77 = .ok (.aload_n 0, 1) := by decide +kernel
theorem dX9_feed_78 : decode cX9_feed 78 = .ok (.getfield 120, 3) := by decide +kernel
theorem dX9_feed_81 : decode cX9_feed 81 = .ok (.iload 7, 2) := by decide +kernel
theorem dX9_feed_83 : decode cX9_feed 83 = .ok (.bipush 24, 2) := by decide +kernel
theorem dX9_feed_85 : decode cX9_feed 85 = .ok (.bipush 8, 2) := by decide +kernel
theorem dX9_feed_87 : decode cX9_feed 87 = .ok (.iload 6, 2) := by decide +kernel
theorem dX9_feed_89 : decode cX9_feed 89 = .ok (.iconst 4, 1) := by decide +kernel
theorem dX9_feed_90 : decode cX9_feed 90 = .ok (.irem, 1) := by decide +kernel
theorem dX9_feed_91 : decode cX9_feed 91 = .ok (.imul, 1) := by decide +kernel
theorem dX9_feed_92 : decode cX9_feed 92 = .ok (.isub, 1) := by decide +kernel
theorem dX9_feed_93 : decode cX9_feed 93 = .ok (.ishr, 1) := by decide +kernel
theorem dX9_feed_94 : decode cX9_feed 94 = .ok (.sipush 255, 3) := by decide +kernel
theorem dX9_feed_97 : decode cX9_feed 97 = .ok (.iand, 1) := by decide +kernel
theorem dX9_feed_98 : decode cX9_feed 98 = .ok (.iastore, 1) := by decide +kernel
theorem dX9_feed_99 : decode cX9_feed 99 = .ok (.aload_n 0, 1) := by decide +kernel
theorem dX9_feed_100 : decode cX9_feed 100 = .ok (.dup, 1) := by decide +kernel
theorem dX9_feed_101 : decode cX9_feed 101 = .ok (.getfield 120, 3) := by decide +kernel
theorem dX9_feed_104 : decode cX9_feed 104 = .ok (.iconst 1, 1) := by decide +kernel
theorem dX9_feed_105 : decode cX9_feed 105 = .ok (.iadd, 1) := by decide +kernel
theorem dX9_feed_106 : decode cX9_feed 106 = .ok (.putfield 120, 3) := by decide +kernel
theorem dX9_feed_109 : decode cX9_feed 109 = .ok (.iinc 6 1, 3) := by decide +kernel
theorem dX9_feed_112 : decode cX9_feed 112 = .ok (.goto (-94), 3) := by decide +kernel
theorem dX9_feed_115 : decode cX9_feed 115 = .ok (.aload_n 0, 1) := by decide +kernel
theorem dX9_feed_116 : decode cX9_feed 116 = .ok (.getfield 120, 3) := by decide +kernel
theorem dX9_feed_119 : decode cX9_feed 119 = .ok (.ireturn, 1) := by decide +kernel
set_option maxRecDepth 20000 in
theorem vX9_feed {g : zG} {d : Nat} {Q : Int32 → zM → Prop} {M : zM} {l1 : Int32} {l2 : Int32} {l3 : Int32} {l4 : Int32} {l5 : Int32} (h : (((M 0 23) + 20) ≤ 400 → zW shM g d mX9_feed (zi Q) 18 [(0, .ref 0), (1, .int l1), (2, .int l2), (3, .int l3), (4, .int l4), (5, .int l5), (6, .int 0)] [] M) ∧ (¬ ((M 0 23) + 20) ≤ 400 → Q (-1) M)) : zCi shM g d mX9_feed [.ref 0, .int l1, .int l2, .int l3, .int l4, .int l5] M Q := by
  refine zW.enter (by decide +kernel) (Nat.le_of_ble_eq_true rfl) ?_
  change zW shM g d mX9_feed (zi Q) 0 [(0, .ref 0), (1, .int l1), (2, .int l2), (3, .int l3), (4, .int l4), (5, .int l5)] [] M
  refine z_aload_n dX9_feed_0 0 rfl ?_
  refine z_geti shM_0 rfl flX9_120 dX9_feed_1 ?_
  refine z_bipush (v := 20) dX9_feed_4 (by decide) ?_
  refine z_iadd dX9_feed_6 ?_
  refine z_sipush (v := 400) dX9_feed_7 (by decide) ?_
  refine z_icmp_le 15 dX9_feed_10 (by decide) (fun c1 => ?_) (fun c1 => ?_)
  · have h := h.1 c1
    refine z_iconst (v := 0) dX9_feed_15 (by decide) ?_
    refine z_istore [(6, .int 0), (0, .ref 0), (1, .int l1), (2, .int l2), (3, .int l3), (4, .int l4), (5, .int l5)] dX9_feed_16 (by decide) rfl ?_
    exact zW.sub [1, 2, 3, 4, 5, 6, 0] rfl h
  · have h := h.2 c1
    refine z_iconst (v := (-1)) dX9_feed_13 (by decide) ?_
    exact z_iret (st := []) rfl rfl dX9_feed_14 ⟨_, rfl, h⟩
set_option maxRecDepth 20000 in
theorem vX9_feed_18 {g : zG} {d : Nat} {Q : Int32 → zM → Prop} {M : zM} {l1 : Int32} {l2 : Int32} {l3 : Int32} {l4 : Int32} {l5 : Int32} {l6 : Int32} (h : (20 ≤ l6 → Q (M 0 23) M) ∧ (¬ 20 ≤ l6 → (4 ≤ l6 → (8 ≤ l6 → (12 ≤ l6 → (16 ≤ l6 → zW shM g d mX9_feed (zi Q) 71 [(0, .ref 0), (1, .int l1), (2, .int l2), (3, .int l3), (4, .int l4), (5, .int l5), (6, .int l6)] [.int l5] M) ∧ (¬ 16 ≤ l6 → zW shM g d mX9_feed (zi Q) 71 [(0, .ref 0), (1, .int l1), (2, .int l2), (3, .int l3), (4, .int l4), (5, .int l5), (6, .int l6)] [.int l4] M)) ∧ (¬ 12 ≤ l6 → zW shM g d mX9_feed (zi Q) 71 [(0, .ref 0), (1, .int l1), (2, .int l2), (3, .int l3), (4, .int l4), (5, .int l5), (6, .int l6)] [.int l3] M)) ∧ (¬ 8 ≤ l6 → zW shM g d mX9_feed (zi Q) 71 [(0, .ref 0), (1, .int l1), (2, .int l2), (3, .int l3), (4, .int l4), (5, .int l5), (6, .int l6)] [.int l2] M)) ∧ (¬ 4 ≤ l6 → zW shM g d mX9_feed (zi Q) 71 [(0, .ref 0), (1, .int l1), (2, .int l2), (3, .int l3), (4, .int l4), (5, .int l5), (6, .int l6)] [.int l1] M))) : zW shM g d mX9_feed (zi Q) 18 [(0, .ref 0), (1, .int l1), (2, .int l2), (3, .int l3), (4, .int l4), (5, .int l5), (6, .int l6)] [] M := by
  refine z_iload dX9_feed_18 6 rfl ?_
  refine z_bipush (v := 20) dX9_feed_20 (by decide) ?_
  refine z_icmp_ge 115 dX9_feed_22 (by decide) (fun c1 => ?_) (fun c1 => ?_)
  · have h := h.1 c1
    refine z_aload_n dX9_feed_115 0 rfl ?_
    refine z_geti shM_0 rfl flX9_120 dX9_feed_116 ?_
    exact z_iret (st := []) rfl rfl dX9_feed_119 ⟨_, rfl, h⟩
  · have h := h.2 c1
    refine z_iload dX9_feed_25 6 rfl ?_
    refine z_iconst (v := 4) dX9_feed_27 (by decide) ?_
    refine z_icmp_ge 35 dX9_feed_28 (by decide) (fun c2 => ?_) (fun c2 => ?_)
    · have h := h.1 c2
      refine z_iload dX9_feed_35 6 rfl ?_
      refine z_bipush (v := 8) dX9_feed_37 (by decide) ?_
      refine z_icmp_ge 46 dX9_feed_39 (by decide) (fun c3 => ?_) (fun c3 => ?_)
      · have h := h.1 c3
        refine z_iload dX9_feed_46 6 rfl ?_
        refine z_bipush (v := 12) dX9_feed_48 (by decide) ?_
        refine z_icmp_ge 57 dX9_feed_50 (by decide) (fun c4 => ?_) (fun c4 => ?_)
        · have h := h.1 c4
          refine z_iload dX9_feed_57 6 rfl ?_
          refine z_bipush (v := 16) dX9_feed_59 (by decide) ?_
          refine z_icmp_ge 69 dX9_feed_61 (by decide) (fun c5 => ?_) (fun c5 => ?_)
          · have h := h.1 c5
            refine z_iload dX9_feed_69 5 rfl ?_
            exact h
          · have h := h.2 c5
            refine z_iload dX9_feed_64 4 rfl ?_
            refine z_goto 71 dX9_feed_66 (by decide) ?_
            exact h
        · have h := h.2 c4
          refine z_iload_n dX9_feed_53 3 rfl ?_
          refine z_goto 71 dX9_feed_54 (by decide) ?_
          exact h
      · have h := h.2 c3
        refine z_iload_n dX9_feed_42 2 rfl ?_
        refine z_goto 71 dX9_feed_43 (by decide) ?_
        exact h
    · have h := h.2 c2
      refine z_iload_n dX9_feed_31 1 rfl ?_
      refine z_goto 71 dX9_feed_32 (by decide) ?_
      exact h
set_option maxRecDepth 20000 in
theorem vX9_feed_71 {g : zG} {d : Nat} {Q : Int32 → zM → Prop} {M : zM} {l1 : Int32} {l2 : Int32} {l3 : Int32} {l4 : Int32} {l5 : Int32} {l6 : Int32} {s0 : Int32} (h : ∀ v1 : Int32, v1 = ((s0 >>> ((24 - (8 * (l6 - l6 / 4 * 4))) &&& 31)) &&& 255) → ∃ k1 : Nat, (M 0 23) = iv k1 ∧ k1 < 400 ∧ zW shM g d mX9_feed (zi Q) 18 [(0, .ref 0), (1, .int l1), (2, .int l2), (3, .int l3), (4, .int l4), (5, .int l5), (6, .int (l6 + 1))] [] (zup (zup M 12 k1 v1) 0 23 (((zup M 12 k1 v1) 0 23) + 1))) : zW shM g d mX9_feed (zi Q) 71 [(0, .ref 0), (1, .int l1), (2, .int l2), (3, .int l3), (4, .int l4), (5, .int l5), (6, .int l6)] [.int s0] M := by
  refine z_istore [(7, .int s0), (0, .ref 0), (1, .int l1), (2, .int l2), (3, .int l3), (4, .int l4), (5, .int l5), (6, .int l6)] dX9_feed_71 (by decide) rfl ?_
  refine z_aload_n dX9_feed_73 1 rfl ?_
  refine z_getr shM_0 rfl flX9_43 dX9_feed_74 ?_
  refine z_aload_n dX9_feed_77 1 rfl ?_
  refine z_geti shM_0 rfl flX9_120 dX9_feed_78 ?_
  refine z_iload dX9_feed_81 0 rfl ?_
  refine z_bipush (v := 24) dX9_feed_83 (by decide) ?_
  refine z_bipush (v := 8) dX9_feed_85 (by decide) ?_
  refine z_iload dX9_feed_87 7 rfl ?_
  refine z_iconst (v := 4) dX9_feed_89 (by decide) ?_
  refine z_irem dX9_feed_90 (by decide) ?_
  refine z_imul dX9_feed_91 ?_
  refine z_isub dX9_feed_92 ?_
  refine z_ishr dX9_feed_93 ?_
  refine z_sipush (v := 255) dX9_feed_94 (by decide) ?_
  refine z_iand dX9_feed_97 ?_
  obtain ⟨v1, ev1⟩ : ∃ y : Int32, y = ((s0 >>> ((24 - (8 * (l6 - l6 / 4 * 4))) &&& 31)) &&& 255) := ⟨_, rfl⟩
  refine z_topi v1 ev1 ?_
  have h := h v1 ev1
  obtain ⟨k1, ek1, uk1, h⟩ := h
  refine z_iast2 (k0 := k1) shM_12 (by decide) ek1 uk1 dX9_feed_98 ?_
  refine z_aload_n dX9_feed_99 1 rfl ?_
  refine z_dupr dX9_feed_100 ?_
  refine z_geti shM_0 rfl flX9_120 dX9_feed_101 ?_
  refine z_iconst (v := 1) dX9_feed_104 (by decide) ?_
  refine z_iadd dX9_feed_105 ?_
  refine z_puti shM_0 rfl fpX9_120 rfl rfl dX9_feed_106 ?_
  refine z_iinc (x := l6) (v := (l6 + 1)) [(6, .int (l6 + 1)), (7, .int s0), (0, .ref 0), (1, .int l1), (2, .int l2), (3, .int l3), (4, .int l4), (5, .int l5)] dX9_feed_109 7 rfl rfl (by decide) rfl ?_
  refine z_goto 18 dX9_feed_112 (by decide) ?_
  exact zW.sub [2, 3, 4, 5, 6, 7, 0] rfl h
theorem dX9_end_0 : decode cX9_end 0 = .ok (.iload_n 1, 1) := by decide +kernel
theorem dX9_end_1 : decode cX9_end 1 = .ok (.iconst 0, 1) := by decide +kernel
theorem dX9_end_2 : decode cX9_end 2 = .ok (.aload_n 0, 1) := by decide +kernel
theorem dX9_end_3 : decode cX9_end 3 = .ok (.getfield 120, 3) := by decide +kernel
theorem dX9_end_6 : decode cX9_end 6 = .ok (.invokestatic 97, 3) := by decide +kernel
theorem dX9_end_9 : decode cX9_end 9 = .ok (.ifCond .ne 5, 3) := by decide +kernel
theorem dX9_end_12 : decode cX9_end 12 = .ok (.iconst 0, 1) := by decide +kernel
theorem dX9_end_13 : decode cX9_end 13 = .ok (.ireturn, 1) := by decide +kernel
theorem dX9_end_14 : decode cX9_end 14 = .ok (.aload_n 0, 1) := by decide +kernel
theorem dX9_end_15 : decode cX9_end 15 = .ok (.iload_n 1, 1) := by decide +kernel
theorem dX9_end_16 : decode cX9_end 16 = .ok (.putfield 120, 3) := by decide +kernel
theorem dX9_end_19 : decode cX9_end 19 = .ok (.iconst 1, 1) := by decide +kernel
theorem dX9_end_20 : decode cX9_end 20 = .ok (.ireturn, 1) := by decide +kernel
set_option maxRecDepth 20000 in
theorem vX9_end {g : zG} {d : Nat} {Q : Bool → zM → Prop} {M : zM} {l1 : Int32} (h : zCz shM g d mX9_isIn [.int l1, .int 0, .int (M 0 23)] M (fun b1 M1 => (b1 = true → Q true (zup M1 0 23 l1)) ∧ (b1 = false → Q false M1))) : zCz shM g (d + 1) mX9_end [.ref 0, .int l1] M Q := by
  refine zW.enter (by decide +kernel) (Nat.le_of_ble_eq_true rfl) ?_
  change zW shM g (d + 1) mX9_end (zz Q) 0 [(0, .ref 0), (1, .int l1)] [] M
  refine z_iload_n dX9_end_0 1 rfl ?_
  refine z_iconst (v := 0) dX9_end_1 (by decide) ?_
  refine z_aload_n dX9_end_2 0 rfl ?_
  refine z_geti shM_0 rfl flX9_120 dX9_end_3 ?_
  refine z_callS (m2 := mX9_isIn) (st := []) [.int l1, .int 0, .int (M 0 23)] okX9_isIn (Or.inl lkX9_97) rfl rfl (Nat.le_of_ble_eq_true rfl) dX9_end_6 (zgo_z h fun b1 M1 h => ?_)
  refine z_ifb_ne 14 dX9_end_9 (by decide) (fun c1 => ?_) (fun c1 => ?_)
  · have h := h.1 c1
    refine z_aload_n dX9_end_14 0 rfl ?_
    refine z_iload_n dX9_end_15 1 rfl ?_
    refine z_puti shM_0 rfl fpX9_120 rfl rfl dX9_end_16 ?_
    refine z_iconst (v := 1) dX9_end_19 (by decide) ?_
    exact z_zret (b := true) rfl rfl dX9_end_20 h
  · have h := h.2 c1
    refine z_iconst (v := 0) dX9_end_12 (by decide) ?_
    exact z_zret (b := false) rfl rfl dX9_end_13 h
theorem dX9_see_0 : decode cX9_see 0 = .ok (.iload_n 1, 1) := by decide +kernel
theorem dX9_see_1 : decode cX9_see 1 = .ok (.aload_n 0, 1) := by decide +kernel
theorem dX9_see_2 : decode cX9_see 2 = .ok (.getfield 120, 3) := by decide +kernel
theorem dX9_see_5 : decode cX9_see 5 = .ok (.if_icmp .ge 12, 3) := by decide +kernel
theorem dX9_see_8 : decode cX9_see 8 = .ok (.aload_n 0, 1) := by decide +kernel
theorem dX9_see_9 : decode cX9_see 9 = .ok (.getfield 43, 3) := by decide +kernel
theorem dX9_see_12 : decode cX9_see 12 = .ok (.iload_n 1, 1) := by decide +kernel
theorem dX9_see_13 : decode cX9_see 13 = .ok (.iaload, 1) := by decide +kernel
theorem dX9_see_14 : decode cX9_see 14 = .ok (.goto 4, 3) := by decide +kernel
theorem dX9_see_17 : decode cX9_see 17 = .ok (.iconst (-1), 1) := by decide +kernel
theorem dX9_see_18 : decode cX9_see 18 = .ok (.ireturn, 1) := by decide +kernel
set_option maxRecDepth 20000 in
theorem vX9_see {g : zG} {d : Nat} {Q : Int32 → zM → Prop} {M : zM} {l1 : Int32} (h : ((M 0 23) ≤ l1 → Q (-1) M) ∧ (¬ (M 0 23) ≤ l1 → ∃ k1 : Nat, l1 = iv k1 ∧ k1 < 400 ∧ Q (M 12 k1) M)) : zCi shM g d mX9_see [.ref 0, .int l1] M Q := by
  refine zW.enter (by decide +kernel) (Nat.le_of_ble_eq_true rfl) ?_
  change zW shM g d mX9_see (zi Q) 0 [(0, .ref 0), (1, .int l1)] [] M
  refine z_iload_n dX9_see_0 1 rfl ?_
  refine z_aload_n dX9_see_1 0 rfl ?_
  refine z_geti shM_0 rfl flX9_120 dX9_see_2 ?_
  refine z_icmp_ge 17 dX9_see_5 (by decide) (fun c1 => ?_) (fun c1 => ?_)
  · have h := h.1 c1
    refine z_iconst (v := (-1)) dX9_see_17 (by decide) ?_
    exact z_iret (st := []) rfl rfl dX9_see_18 ⟨_, rfl, h⟩
  · have h := h.2 c1
    refine z_aload_n dX9_see_8 0 rfl ?_
    refine z_getr shM_0 rfl flX9_43 dX9_see_9 ?_
    refine z_iload_n dX9_see_12 1 rfl ?_
    obtain ⟨k1, ek1, uk1, h⟩ := h
    refine z_iald2 (k0 := k1) shM_12 (by decide) ek1 uk1 dX9_see_13 ?_
    refine z_goto 18 dX9_see_14 (by decide) ?_
    exact z_iret (st := []) rfl rfl dX9_see_18 ⟨_, rfl, h⟩
theorem dX9_isLetter_0 : decode cX9_isLetter 0 = .ok (.iload_n 0, 1) := by decide +kernel
theorem dX9_isLetter_1 : decode cX9_isLetter 1 = .ok (.bipush 97, 2) := by decide +kernel
theorem dX9_isLetter_3 : decode cX9_isLetter 3 = .ok (.bipush 122, 2) := by decide +kernel
theorem dX9_isLetter_5 : decode cX9_isLetter 5 = .ok (.invokestatic 97, 3) := by decide +kernel
theorem dX9_isLetter_8 : decode cX9_isLetter 8 = .ok (.ifCond .ne 14, 3) := by decide +kernel
theorem dX9_isLetter_11 : decode cX9_isLetter 11 = .ok (.iload_n 0, 1) := by decide +kernel
theorem dX9_isLetter_12 : decode cX9_isLetter 12 = .ok (.bipush 65, 2) := by decide +kernel
theorem dX9_isLetter_14 : decode cX9_isLetter 14 = .ok (.bipush 90, 2) := by decide +kernel
theorem dX9_isLetter_16 : decode cX9_isLetter 16 = .ok (.invokestatic 97, 3) := by decide +kernel
theorem dX9_isLetter_19 : decode cX9_isLetter 19 = .ok (.ifCond .eq 7, 3) := by decide +kernel
theorem dX9_isLetter_22 : decode cX9_isLetter 22 = .ok (.iconst 1, 1) := by decide +kernel
theorem dX9_isLetter_23 : decode cX9_isLetter 23 = .ok (.goto 4, 3) := by decide +kernel
theorem dX9_isLetter_26 : decode cX9_isLetter 26 = .ok (.iconst 0, 1) := by decide +kernel
theorem dX9_isLetter_27 : decode cX9_isLetter 27 = .ok (.ireturn, 1) := by decide +kernel
set_option maxRecDepth 20000 in
theorem vX9_isLetter {g : zG} {d : Nat} {Q : Bool → zM → Prop} {M : zM} {l0 : Int32} (h : zCz shM g d mX9_isIn [.int l0, .int 97, .int 122] M (fun b1 M1 => (b1 = true → Q true M1) ∧ (b1 = false → zCz shM g d mX9_isIn [.int l0, .int 65, .int 90] M1 (fun b2 M2 => (b2 = false → Q false M2) ∧ (b2 = true → Q true M2))))) : zCz shM g (d + 1) mX9_isLetter [.int l0] M Q := by
  refine zW.enter (by decide +kernel) (Nat.le_of_ble_eq_true rfl) ?_
  change zW shM g (d + 1) mX9_isLetter (zz Q) 0 [(0, .int l0)] [] M
  refine z_iload_n dX9_isLetter_0 0 rfl ?_
  refine z_bipush (v := 97) dX9_isLetter_1 (by decide) ?_
  refine z_bipush (v := 122) dX9_isLetter_3 (by decide) ?_
  refine z_callS (m2 := mX9_isIn) (st := []) [.int l0, .int 97, .int 122] okX9_isIn (Or.inl lkX9_97) rfl rfl (Nat.le_of_ble_eq_true rfl) dX9_isLetter_5 (zgo_z h fun b1 M1 h => ?_)
  refine z_ifb_ne 22 dX9_isLetter_8 (by decide) (fun c1 => ?_) (fun c1 => ?_)
  · have h := h.1 c1
    refine z_iconst (v := 1) dX9_isLetter_22 (by decide) ?_
    refine z_goto 27 dX9_isLetter_23 (by decide) ?_
    exact z_zret (b := true) rfl rfl dX9_isLetter_27 h
  · have h := h.2 c1
    refine z_iload_n dX9_isLetter_11 0 rfl ?_
    refine z_bipush (v := 65) dX9_isLetter_12 (by decide) ?_
    refine z_bipush (v := 90) dX9_isLetter_14 (by decide) ?_
    refine z_callS (m2 := mX9_isIn) (st := []) [.int l0, .int 65, .int 90] okX9_isIn (Or.inl lkX9_97) rfl rfl (Nat.le_of_ble_eq_true rfl) dX9_isLetter_16 (zgo_z h fun b2 M2 h => ?_)
    refine z_ifb_eq 26 dX9_isLetter_19 (by decide) (fun c2 => ?_) (fun c2 => ?_)
    · have h := h.1 c2
      refine z_iconst (v := 0) dX9_isLetter_26 (by decide) ?_
      exact z_zret (b := false) rfl rfl dX9_isLetter_27 h
    · have h := h.2 c2
      refine z_iconst (v := 1) dX9_isLetter_22 (by decide) ?_
      refine z_goto 27 dX9_isLetter_23 (by decide) ?_
      exact z_zret (b := true) rfl rfl dX9_isLetter_27 h
theorem dX9_isDigit_0 : decode cX9_isDigit 0 = .ok (.iload_n 0, 1) := by decide +kernel
theorem dX9_isDigit_1 : decode cX9_isDigit 1 = .ok (.bipush 48, 2) := by decide +kernel
theorem dX9_isDigit_3 : decode cX9_isDigit 3 = .ok (.bipush 57, 2) := by decide +kernel
theorem dX9_isDigit_5 : decode cX9_isDigit 5 = .ok (.invokestatic 97, 3) := by decide +kernel
theorem dX9_isDigit_8 : decode cX9_isDigit 8 = .ok (.ireturn, 1) := by decide +kernel
set_option maxRecDepth 20000 in
theorem vX9_isDigit {g : zG} {d : Nat} {Q : Bool → zM → Prop} {M : zM} {l0 : Int32} (h : zCz shM g d mX9_isIn [.int l0, .int 48, .int 57] M (fun b1 M1 => Q b1 M1)) : zCz shM g (d + 1) mX9_isDigit [.int l0] M Q := by
  refine zW.enter (by decide +kernel) (Nat.le_of_ble_eq_true rfl) ?_
  change zW shM g (d + 1) mX9_isDigit (zz Q) 0 [(0, .int l0)] [] M
  refine z_iload_n dX9_isDigit_0 0 rfl ?_
  refine z_bipush (v := 48) dX9_isDigit_1 (by decide) ?_
  refine z_bipush (v := 57) dX9_isDigit_3 (by decide) ?_
  refine z_callS (m2 := mX9_isIn) (st := []) [.int l0, .int 48, .int 57] okX9_isIn (Or.inl lkX9_97) rfl rfl (Nat.le_of_ble_eq_true rfl) dX9_isDigit_5 (zgo_z h fun b1 M1 h => ?_)
  exact z_zret rfl rfl dX9_isDigit_8 h
theorem dX9_is_0 : decode cX9_is 0 = .ok (.aload_n 0, 1) := by decide +kernel
theorem dX9_is_1 : decode cX9_is 1 = .ok (.getfield 123, 3) := by decide +kernel
theorem dX9_is_4 : decode cX9_is 4 = .ok (.aload_n 0, 1) := by decide +kernel
theorem dX9_is_5 : decode cX9_is 5 = .ok (.getfield 126, 3) := by decide +kernel
theorem dX9_is_8 : decode cX9_is 8 = .ok (.isub, 1) := by decide +kernel
theorem dX9_is_9 : decode cX9_is 9 = .ok (.aload_n 1, 1) := by decide +kernel
theorem dX9_is_10 : decode cX9_is 10 = .ok (.invokevirtual 129, 3) := by decide +kernel
theorem dX9_is_13 : decode cX9_is 13 = .ok (.if_icmp .ne 7, 3) := by decide +kernel
theorem dX9_is_16 : decode cX9_is 16 = .ok (.iconst 1, 1) := by decide +kernel
theorem dX9_is_17 : decode cX9_is 17 = .ok (.goto 4, 3) := by decide +kernel
theorem dX9_is_20 : decode cX9_is 20 = .ok (.iconst 0, 1) := by decide +kernel
theorem dX9_is_21 : decode cX9_is 21 = .ok (.istore_n 2, 1) := by decide +kernel
theorem dX9_is_22 : decode cX9_is 22 = .ok (.iconst 0, 1) := by decide +kernel
theorem dX9_is_23 : decode cX9_is 23 = .ok (.istore_n 3, 1) := by decide +kernel
theorem dX9_is_24 : decode cX9_is 24 = .ok (.iload_n 3, 1) := by decide +kernel
theorem dX9_is_25 : decode cX9_is 25 = .ok (.aload_n 1, 1) := by decide +kernel
theorem dX9_is_26 : decode cX9_is 26 = .ok (.invokevirtual 129, 3) := by decide +kernel
theorem dX9_is_29 : decode cX9_is 29 = .ok (.if_icmp .ge 38, 3) := by decide +kernel
theorem dX9_is_32 : decode cX9_is 32 = .ok (.iload_n 2, 1) := by decide +kernel
theorem dX9_is_33 : decode cX9_is 33 = .ok (.ifCond .eq 34, 3) := by decide +kernel
theorem dX9_is_36 : decode cX9_is 36 = .ok (.aload_n 0, 1) := by decide +kernel
theorem dX9_is_37 : decode cX9_is 37 = .ok (.getfield 43, 3) := by decide +kernel
theorem dX9_is_40 : decode cX9_is 40 = .ok (.aload_n 0, 1) := by decide +kernel
theorem dX9_is_41 : decode cX9_is 41 = .ok (.getfield 126, 3) := by decide +kernel
theorem dX9_is_44 : decode cX9_is 44 = .ok (.iload_n 3, 1) := by decide +kernel
theorem dX9_is_45 : decode cX9_is 45 = .ok (.iadd, 1) := by decide +kernel
theorem dX9_is_46 : decode cX9_is 46 = .ok (.iaload, 1) := by decide +kernel
theorem dX9_is_47 : decode cX9_is 47 = .ok (.aload_n 1, 1) := by decide +kernel
theorem dX9_is_48 : decode cX9_is 48 = .ok (.iload_n 3, 1) := by decide +kernel
theorem dX9_is_49 : decode cX9_is 49 = .ok (.invokevirtual 135, 3) := by decide +kernel
theorem dX9_is_52 : decode cX9_is 52 = .ok (.if_icmp .ne 7, 3) := by decide +kernel
theorem dX9_is_55 : decode cX9_is 55 = .ok (.iconst 1, 1) := by decide +kernel
theorem dX9_is_56 : decode cX9_is 56 = .ok (.goto 4, 3) := by decide +kernel
theorem dX9_is_59 : decode cX9_is 59 = .ok (.iconst 0, 1) := by decide +kernel
theorem dX9_is_60 : decode cX9_is 60 = .ok (.istore_n 2, 1) := by decide +kernel
theorem dX9_is_61 : decode cX9_is 61 = .ok (.iinc 3 1, 3) := by decide +kernel
theorem dX9_is_64 : decode cX9_is 64 = .ok (.goto (-40), 3) := by decide +kernel
theorem dX9_is_67 : decode cX9_is 67 = .ok (.iload_n 2, 1) := by decide +kernel
theorem dX9_is_68 : decode cX9_is 68 = .ok (.ireturn, 1) := by decide +kernel
set_option maxRecDepth 20000 in
theorem vX9_is {g : zG} {d : Nat} {Q : Bool → zM → Prop} {M : zM} {q : Nat} (hq : q < 23) (h : zCi shM g d mJ0_length_8abf5 [.ref (4096 + q)] M (fun x1 M1 => (¬ ((M 0 24) - (M 0 26)) = x1 → zW shM g (d + 1) mX9_is (zz Q) 24 [(0, .ref 0), (1, .ref (4096 + q)), (2, .int 0), (3, .int 0)] [] M1) ∧ (((M 0 24) - (M 0 26)) = x1 → zW shM g (d + 1) mX9_is (zz Q) 24 [(0, .ref 0), (1, .ref (4096 + q)), (2, .int 1), (3, .int 0)] [] M1))) : zCz shM g (d + 1) mX9_is [.ref 0, .ref (4096 + q)] M Q := by
  refine zW.enter (by decide +kernel) (Nat.le_of_ble_eq_true rfl) ?_
  change zW shM g (d + 1) mX9_is (zz Q) 0 [(0, .ref 0), (1, .ref (4096 + q))] [] M
  refine z_aload_n dX9_is_0 0 rfl ?_
  refine z_geti shM_0 rfl flX9_123 dX9_is_1 ?_
  refine z_aload_n dX9_is_4 0 rfl ?_
  refine z_geti shM_0 rfl flX9_126 dX9_is_5 ?_
  refine z_isub dX9_is_8 ?_
  refine z_aload_n dX9_is_9 1 rfl ?_
  refine z_callT (m2 := mJ0_length_8abf5) (i := q) (st := [.int ((M 0 24) - (M 0 26))]) [] okJ0_length_8abf5 lkX9_129 hq rfl rfl rfl (Nat.le_of_ble_eq_true rfl) dX9_is_10 (zgo_i h fun x1 M1 h => ?_)
  refine z_icmp_ne 20 dX9_is_13 (by decide) (fun c1 => ?_) (fun c1 => ?_)
  · have h := h.1 c1
    refine z_iconst (v := 0) dX9_is_20 (by decide) ?_
    refine z_istore_n [(2, .int 0), (0, .ref 0), (1, .ref (4096 + q))] dX9_is_21 (by decide) rfl ?_
    refine z_iconst (v := 0) dX9_is_22 (by decide) ?_
    refine z_istore_n [(3, .int 0), (2, .int 0), (0, .ref 0), (1, .ref (4096 + q))] dX9_is_23 (by decide) rfl ?_
    exact zW.sub [2, 3, 1, 0] rfl h
  · have h := h.2 c1
    refine z_iconst (v := 1) dX9_is_16 (by decide) ?_
    refine z_goto 21 dX9_is_17 (by decide) ?_
    refine z_istore_n [(2, .int 1), (0, .ref 0), (1, .ref (4096 + q))] dX9_is_21 (by decide) rfl ?_
    refine z_iconst (v := 0) dX9_is_22 (by decide) ?_
    refine z_istore_n [(3, .int 0), (2, .int 1), (0, .ref 0), (1, .ref (4096 + q))] dX9_is_23 (by decide) rfl ?_
    exact zW.sub [2, 3, 1, 0] rfl h
set_option maxRecDepth 20000 in
theorem vX9_is_24 {g : zG} {d : Nat} {Q : Bool → zM → Prop} {M : zM} {q : Nat} {l2 : Int32} {l3 : Int32} (hq : q < 23) (h : zCi shM g d mJ0_length_8abf5 [.ref (4096 + q)] M (fun x1 M1 => (x1 ≤ l3 → ∃ b1 : Bool, l2 = zbI b1 ∧ Q b1 M1) ∧ (¬ x1 ≤ l3 → (l2 = 0 → ∃ b1 : Bool, l2 = zbI b1 ∧ Q b1 M1) ∧ (¬ l2 = 0 → ∃ k1 : Nat, ((M1 0 26) + l3) = iv k1 ∧ k1 < 400 ∧ zCi shM g d mJ0_charAt_5068e [.ref (4096 + q), .int l3] M1 (fun x2 M2 => (¬ (M1 12 k1) = x2 → zW shM g (d + 1) mX9_is (zz Q) 24 [(0, .ref 0), (1, .ref (4096 + q)), (2, .int 0), (3, .int (l3 + 1))] [] M2) ∧ ((M1 12 k1) = x2 → zW shM g (d + 1) mX9_is (zz Q) 24 [(0, .ref 0), (1, .ref (4096 + q)), (2, .int 1), (3, .int (l3 + 1))] [] M2)))))) : zW shM g (d + 1) mX9_is (zz Q) 24 [(0, .ref 0), (1, .ref (4096 + q)), (2, .int l2), (3, .int l3)] [] M := by
  refine z_iload_n dX9_is_24 3 rfl ?_
  refine z_aload_n dX9_is_25 1 rfl ?_
  refine z_callT (m2 := mJ0_length_8abf5) (i := q) (st := [.int l3]) [] okJ0_length_8abf5 lkX9_129 hq rfl rfl rfl (Nat.le_of_ble_eq_true rfl) dX9_is_26 (zgo_i h fun x1 M1 h => ?_)
  refine z_icmp_ge 67 dX9_is_29 (by decide) (fun c1 => ?_) (fun c1 => ?_)
  · have h := h.1 c1
    refine z_iload_n dX9_is_67 2 rfl ?_
    obtain ⟨b1, eb1, h⟩ := h
    exact z_zret eb1 rfl dX9_is_68 h
  · have h := h.2 c1
    refine z_iload_n dX9_is_32 2 rfl ?_
    refine z_if_eq 67 dX9_is_33 (by decide) (fun c2 => ?_) (fun c2 => ?_)
    · have h := h.1 c2
      refine z_iload_n dX9_is_67 2 rfl ?_
      obtain ⟨b1, eb1, h⟩ := h
      exact z_zret eb1 rfl dX9_is_68 h
    · have h := h.2 c2
      refine z_aload_n dX9_is_36 0 rfl ?_
      refine z_getr shM_0 rfl flX9_43 dX9_is_37 ?_
      refine z_aload_n dX9_is_40 0 rfl ?_
      refine z_geti shM_0 rfl flX9_126 dX9_is_41 ?_
      refine z_iload_n dX9_is_44 3 rfl ?_
      refine z_iadd dX9_is_45 ?_
      obtain ⟨k1, ek1, uk1, h⟩ := h
      refine z_iald2 (k0 := k1) shM_12 (by decide) ek1 uk1 dX9_is_46 ?_
      refine z_aload_n dX9_is_47 1 rfl ?_
      refine z_iload_n dX9_is_48 3 rfl ?_
      refine z_callT (m2 := mJ0_charAt_5068e) (i := q) (st := [.int (M1 12 k1)]) [.int l3] okJ0_charAt_5068e lkX9_135 hq rfl rfl rfl (Nat.le_of_ble_eq_true rfl) dX9_is_49 (zgo_i h fun x2 M2 h => ?_)
      refine z_icmp_ne 59 dX9_is_52 (by decide) (fun c3 => ?_) (fun c3 => ?_)
      · have h := h.1 c3
        refine z_iconst (v := 0) dX9_is_59 (by decide) ?_
        refine z_istore_n [(2, .int 0), (0, .ref 0), (1, .ref (4096 + q)), (3, .int l3)] dX9_is_60 (by decide) rfl ?_
        refine z_iinc (x := l3) (v := (l3 + 1)) [(3, .int (l3 + 1)), (2, .int 0), (0, .ref 0), (1, .ref (4096 + q))] dX9_is_61 3 rfl rfl (by decide) rfl ?_
        refine z_goto 24 dX9_is_64 (by decide) ?_
        exact zW.sub [2, 3, 1, 0] rfl h
      · have h := h.2 c3
        refine z_iconst (v := 1) dX9_is_55 (by decide) ?_
        refine z_goto 60 dX9_is_56 (by decide) ?_
        refine z_istore_n [(2, .int 1), (0, .ref 0), (1, .ref (4096 + q)), (3, .int l3)] dX9_is_60 (by decide) rfl ?_
        refine z_iinc (x := l3) (v := (l3 + 1)) [(3, .int (l3 + 1)), (2, .int 1), (0, .ref 0), (1, .ref (4096 + q))] dX9_is_61 3 rfl rfl (by decide) rfl ?_
        refine z_goto 24 dX9_is_64 (by decide) ?_
        exact zW.sub [2, 3, 1, 0] rfl h
theorem dX9_wayWord_0 : decode cX9_wayWord 0 = .ok (.aload_n 0, 1) := by decide +kernel
theorem dX9_wayWord_1 : decode cX9_wayWord 1 = .ok (.ldc 139, 2) := by decide +kernel
theorem dX9_wayWord_3 : decode cX9_wayWord 3 = .ok (.invokevirtual 141, 3) := by decide +kernel
theorem dX9_wayWord_6 : decode cX9_wayWord 6 = .ok (.ifCond .eq 6, 3) := by decide +kernel
theorem dX9_wayWord_9 : decode cX9_wayWord 9 = .ok (.bipush 7, 2) := by decide +kernel
theorem dX9_wayWord_11 : decode cX9_wayWord 11 = .ok (.ireturn, 1) := by decide +kernel
theorem dX9_wayWord_12 : decode cX9_wayWord 12 = .ok (.aload_n 0, 1) := by decide +kernel
theorem dX9_wayWord_13 : decode cX9_wayWord 13 = .ok (.ldc 145, 2) := by decide +kernel
theorem dX9_wayWord_15 : decode cX9_wayWord 15 = .ok (.invokevirtual 141, 3) := by decide +kernel
theorem dX9_wayWord_18 : decode cX9_wayWord 18 = .ok (.ifCond .eq 6, 3) := by decide +kernel
theorem dX9_wayWord_21 : decode cX9_wayWord 21 = .ok (.bipush 11, 2) := by decide +kernel
theorem dX9_wayWord_23 : decode cX9_wayWord 23 = .ok (.ireturn, 1) := by decide +kernel
theorem dX9_wayWord_24 : decode cX9_wayWord 24 = .ok (.aload_n 0, 1) := by decide +kernel
theorem dX9_wayWord_25 : decode cX9_wayWord 25 = .ok (.ldc 147, 2) := by decide +kernel
theorem dX9_wayWord_27 : decode cX9_wayWord 27 = .ok (.invokevirtual 141, 3) := by decide +kernel
theorem dX9_wayWord_30 : decode cX9_wayWord 30 = .ok (.ifCond .eq 6, 3) := by decide +kernel
theorem dX9_wayWord_33 : decode cX9_wayWord 33 = .ok (.bipush 12, 2) := by decide +kernel
theorem dX9_wayWord_35 : decode cX9_wayWord 35 = .ok (.ireturn, 1) := by decide +kernel
theorem dX9_wayWord_36 : decode cX9_wayWord 36 = .ok (.aload_n 0, 1) := by decide +kernel
theorem dX9_wayWord_37 : decode cX9_wayWord 37 = .ok (.ldc 149, 2) := by decide +kernel
theorem dX9_wayWord_39 : decode cX9_wayWord 39 = .ok (.invokevirtual 141, 3) := by decide +kernel
theorem dX9_wayWord_42 : decode cX9_wayWord 42 = .ok (.ifCond .eq 6, 3) := by decide +kernel
theorem dX9_wayWord_45 : decode cX9_wayWord 45 = .ok (.bipush 13, 2) := by decide +kernel
theorem dX9_wayWord_47 : decode cX9_wayWord 47 = .ok (.ireturn, 1) := by decide +kernel
theorem dX9_wayWord_48 : decode cX9_wayWord 48 = .ok (.aload_n 0, 1) := by decide +kernel
theorem dX9_wayWord_49 : decode cX9_wayWord 49 = .ok (.ldc 151, 2) := by decide +kernel
theorem dX9_wayWord_51 : decode cX9_wayWord 51 = .ok (.invokevirtual 141, 3) := by decide +kernel
theorem dX9_wayWord_54 : decode cX9_wayWord 54 = .ok (.ifCond .eq 6, 3) := by decide +kernel
theorem dX9_wayWord_57 : decode cX9_wayWord 57 = .ok (.bipush 14, 2) := by decide +kernel
theorem dX9_wayWord_59 : decode cX9_wayWord 59 = .ok (.ireturn, 1) := by decide +kernel
theorem dX9_wayWord_60 : decode cX9_wayWord 60 = .ok (.aload_n 0, 1) := by decide +kernel
theorem dX9_wayWord_61 : decode cX9_wayWord 61 = .ok (.ldc 153, 2) := by decide +kernel
theorem dX9_wayWord_63 : decode cX9_wayWord 63 = .ok (.invokevirtual 141, 3) := by decide +kernel
theorem dX9_wayWord_66 : decode cX9_wayWord 66 = .ok (.ifCond .eq 6, 3) := by decide +kernel
theorem dX9_wayWord_69 : decode cX9_wayWord 69 = .ok (.bipush 15, 2) := by decide +kernel
theorem dX9_wayWord_71 : decode cX9_wayWord 71 = .ok (.ireturn, 1) := by decide +kernel
theorem dX9_wayWord_72 : decode cX9_wayWord 72 = .ok (.aload_n 0, 1) := by decide +kernel
theorem dX9_wayWord_73 : decode cX9_wayWord 73 = .ok (.ldc 155, 2) := by decide +kernel
theorem dX9_wayWord_75 : decode cX9_wayWord 75 = .ok (.invokevirtual 141, 3) := by decide +kernel
theorem dX9_wayWord_78 : decode cX9_wayWord 78 = .ok (.ifCond .eq 6, 3) := by decide +kernel
theorem dX9_wayWord_81 : decode cX9_wayWord 81 = .ok (.bipush 16, 2) := by decide +kernel
theorem dX9_wayWord_83 : decode cX9_wayWord 83 = .ok (.ireturn, 1) := by decide +kernel
theorem dX9_wayWord_84 : decode cX9_wayWord 84 = .ok (.aload_n 0, 1) := by decide +kernel
theorem dX9_wayWord_85 : decode cX9_wayWord 85 = .ok (.ldc 157, 2) := by decide +kernel
theorem dX9_wayWord_87 : decode cX9_wayWord 87 = .ok (.invokevirtual 141, 3) := by decide +kernel
theorem dX9_wayWord_90 : decode cX9_wayWord 90 = .ok (.ifCond .eq 8, 3) := by decide +kernel
theorem dX9_wayWord_93 : decode cX9_wayWord 93 = .ok (.bipush 17, 2) := by decide +kernel
theorem dX9_wayWord_95 : decode cX9_wayWord 95 = .ok (.goto 4, 3) := by decide +kernel
theorem dX9_wayWord_98 : decode cX9_wayWord 98 = .ok (.iconst 1, 1) := by decide +kernel
theorem dX9_wayWord_99 : decode cX9_wayWord 99 = .ok (.ireturn, 1) := by decide +kernel
set_option maxRecDepth 20000 in
theorem vX9_wayWord {g : zG} {d : Nat} {Q : Int32 → zM → Prop} {M : zM} (h : zCz shM g d mX9_is [.ref 0, .ref (4096 + 0)] M (fun b1 M1 => (b1 = false → zCz shM g d mX9_is [.ref 0, .ref (4096 + 3)] M1 (fun b2 M2 => (b2 = false → zCz shM g d mX9_is [.ref 0, .ref (4096 + 4)] M2 (fun b3 M3 => (b3 = false → zCz shM g d mX9_is [.ref 0, .ref (4096 + 5)] M3 (fun b4 M4 => (b4 = false → zCz shM g d mX9_is [.ref 0, .ref (4096 + 6)] M4 (fun b5 M5 => (b5 = false → zCz shM g d mX9_is [.ref 0, .ref (4096 + 7)] M5 (fun b6 M6 => (b6 = false → zCz shM g d mX9_is [.ref 0, .ref (4096 + 1)] M6 (fun b7 M7 => (b7 = false → zCz shM g d mX9_is [.ref 0, .ref (4096 + 2)] M7 (fun b8 M8 => (b8 = false → Q 1 M8) ∧ (b8 = true → Q 17 M8))) ∧ (b7 = true → Q 16 M7))) ∧ (b6 = true → Q 15 M6))) ∧ (b5 = true → Q 14 M5))) ∧ (b4 = true → Q 13 M4))) ∧ (b3 = true → Q 12 M3))) ∧ (b2 = true → Q 11 M2))) ∧ (b1 = true → Q 7 M1))) : zCi shM g (d + 1) mX9_wayWord [.ref 0] M Q := by
  refine zW.enter (by decide +kernel) (Nat.le_of_ble_eq_true rfl) ?_
  change zW shM g (d + 1) mX9_wayWord (zi Q) 0 [(0, .ref 0)] [] M
  refine z_aload_n dX9_wayWord_0 0 rfl ?_
  refine z_ldcS (i := 0) (tx := "skater") dX9_wayWord_1 (by decide +kernel) ?_
  refine z_callV (m2 := mX9_is) (st := []) [.ref (4096 + 0)] okX9_is (Or.inl lkX9_141) shM_0 rfl rfl rfl (Nat.le_of_ble_eq_true rfl) dX9_wayWord_3 (zgo_z h fun b1 M1 h => ?_)
  refine z_ifb_eq 12 dX9_wayWord_6 (by decide) (fun c1 => ?_) (fun c1 => ?_)
  · have h := h.1 c1
    refine z_aload_n dX9_wayWord_12 0 rfl ?_
    refine z_ldcS (i := 3) (tx := "north") dX9_wayWord_13 (by decide +kernel) ?_
    refine z_callV (m2 := mX9_is) (st := []) [.ref (4096 + 3)] okX9_is (Or.inl lkX9_141) shM_0 rfl rfl rfl (Nat.le_of_ble_eq_true rfl) dX9_wayWord_15 (zgo_z h fun b2 M2 h => ?_)
    refine z_ifb_eq 24 dX9_wayWord_18 (by decide) (fun c2 => ?_) (fun c2 => ?_)
    · have h := h.1 c2
      refine z_aload_n dX9_wayWord_24 0 rfl ?_
      refine z_ldcS (i := 4) (tx := "east") dX9_wayWord_25 (by decide +kernel) ?_
      refine z_callV (m2 := mX9_is) (st := []) [.ref (4096 + 4)] okX9_is (Or.inl lkX9_141) shM_0 rfl rfl rfl (Nat.le_of_ble_eq_true rfl) dX9_wayWord_27 (zgo_z h fun b3 M3 h => ?_)
      refine z_ifb_eq 36 dX9_wayWord_30 (by decide) (fun c3 => ?_) (fun c3 => ?_)
      · have h := h.1 c3
        refine z_aload_n dX9_wayWord_36 0 rfl ?_
        refine z_ldcS (i := 5) (tx := "south") dX9_wayWord_37 (by decide +kernel) ?_
        refine z_callV (m2 := mX9_is) (st := []) [.ref (4096 + 5)] okX9_is (Or.inl lkX9_141) shM_0 rfl rfl rfl (Nat.le_of_ble_eq_true rfl) dX9_wayWord_39 (zgo_z h fun b4 M4 h => ?_)
        refine z_ifb_eq 48 dX9_wayWord_42 (by decide) (fun c4 => ?_) (fun c4 => ?_)
        · have h := h.1 c4
          refine z_aload_n dX9_wayWord_48 0 rfl ?_
          refine z_ldcS (i := 6) (tx := "west") dX9_wayWord_49 (by decide +kernel) ?_
          refine z_callV (m2 := mX9_is) (st := []) [.ref (4096 + 6)] okX9_is (Or.inl lkX9_141) shM_0 rfl rfl rfl (Nat.le_of_ble_eq_true rfl) dX9_wayWord_51 (zgo_z h fun b5 M5 h => ?_)
          refine z_ifb_eq 60 dX9_wayWord_54 (by decide) (fun c5 => ?_) (fun c5 => ?_)
          · have h := h.1 c5
            refine z_aload_n dX9_wayWord_60 0 rfl ?_
            refine z_ldcS (i := 7) (tx := "rest") dX9_wayWord_61 (by decide +kernel) ?_
            refine z_callV (m2 := mX9_is) (st := []) [.ref (4096 + 7)] okX9_is (Or.inl lkX9_141) shM_0 rfl rfl rfl (Nat.le_of_ble_eq_true rfl) dX9_wayWord_63 (zgo_z h fun b6 M6 h => ?_)
            refine z_ifb_eq 72 dX9_wayWord_66 (by decide) (fun c6 => ?_) (fun c6 => ?_)
            · have h := h.1 c6
              refine z_aload_n dX9_wayWord_72 0 rfl ?_
              refine z_ldcS (i := 1) (tx := "lift") dX9_wayWord_73 (by decide +kernel) ?_
              refine z_callV (m2 := mX9_is) (st := []) [.ref (4096 + 1)] okX9_is (Or.inl lkX9_141) shM_0 rfl rfl rfl (Nat.le_of_ble_eq_true rfl) dX9_wayWord_75 (zgo_z h fun b7 M7 h => ?_)
              refine z_ifb_eq 84 dX9_wayWord_78 (by decide) (fun c7 => ?_) (fun c7 => ?_)
              · have h := h.1 c7
                refine z_aload_n dX9_wayWord_84 0 rfl ?_
                refine z_ldcS (i := 2) (tx := "down") dX9_wayWord_85 (by decide +kernel) ?_
                refine z_callV (m2 := mX9_is) (st := []) [.ref (4096 + 2)] okX9_is (Or.inl lkX9_141) shM_0 rfl rfl rfl (Nat.le_of_ble_eq_true rfl) dX9_wayWord_87 (zgo_z h fun b8 M8 h => ?_)
                refine z_ifb_eq 98 dX9_wayWord_90 (by decide) (fun c8 => ?_) (fun c8 => ?_)
                · have h := h.1 c8
                  refine z_iconst (v := 1) dX9_wayWord_98 (by decide) ?_
                  exact z_iret (st := []) rfl rfl dX9_wayWord_99 ⟨_, rfl, h⟩
                · have h := h.2 c8
                  refine z_bipush (v := 17) dX9_wayWord_93 (by decide) ?_
                  refine z_goto 99 dX9_wayWord_95 (by decide) ?_
                  exact z_iret (st := []) rfl rfl dX9_wayWord_99 ⟨_, rfl, h⟩
              · have h := h.2 c7
                refine z_bipush (v := 16) dX9_wayWord_81 (by decide) ?_
                exact z_iret (st := []) rfl rfl dX9_wayWord_83 ⟨_, rfl, h⟩
            · have h := h.2 c6
              refine z_bipush (v := 15) dX9_wayWord_69 (by decide) ?_
              exact z_iret (st := []) rfl rfl dX9_wayWord_71 ⟨_, rfl, h⟩
          · have h := h.2 c5
            refine z_bipush (v := 14) dX9_wayWord_57 (by decide) ?_
            exact z_iret (st := []) rfl rfl dX9_wayWord_59 ⟨_, rfl, h⟩
        · have h := h.2 c4
          refine z_bipush (v := 13) dX9_wayWord_45 (by decide) ?_
          exact z_iret (st := []) rfl rfl dX9_wayWord_47 ⟨_, rfl, h⟩
      · have h := h.2 c3
        refine z_bipush (v := 12) dX9_wayWord_33 (by decide) ?_
        exact z_iret (st := []) rfl rfl dX9_wayWord_35 ⟨_, rfl, h⟩
    · have h := h.2 c2
      refine z_bipush (v := 11) dX9_wayWord_21 (by decide) ?_
      exact z_iret (st := []) rfl rfl dX9_wayWord_23 ⟨_, rfl, h⟩
  · have h := h.2 c1
    refine z_bipush (v := 7) dX9_wayWord_9 (by decide) ?_
    exact z_iret (st := []) rfl rfl dX9_wayWord_11 ⟨_, rfl, h⟩
theorem dX9_iceWord_0 : decode cX9_iceWord 0 = .ok (.aload_n 0, 1) := by decide +kernel
theorem dX9_iceWord_1 : decode cX9_iceWord 1 = .ok (.ldc 159, 2) := by decide +kernel
theorem dX9_iceWord_3 : decode cX9_iceWord 3 = .ok (.invokevirtual 141, 3) := by decide +kernel
theorem dX9_iceWord_6 : decode cX9_iceWord 6 = .ok (.ifCond .eq 5, 3) := by decide +kernel
theorem dX9_iceWord_9 : decode cX9_iceWord 9 = .ok (.iconst 3, 1) := by decide +kernel
theorem dX9_iceWord_10 : decode cX9_iceWord 10 = .ok (.ireturn, 1) := by decide +kernel
theorem dX9_iceWord_11 : decode cX9_iceWord 11 = .ok (.aload_n 0, 1) := by decide +kernel
theorem dX9_iceWord_12 : decode cX9_iceWord 12 = .ok (.ldc 161, 2) := by decide +kernel
theorem dX9_iceWord_14 : decode cX9_iceWord 14 = .ok (.invokevirtual 141, 3) := by decide +kernel
theorem dX9_iceWord_17 : decode cX9_iceWord 17 = .ok (.ifCond .eq 5, 3) := by decide +kernel
theorem dX9_iceWord_20 : decode cX9_iceWord 20 = .ok (.iconst 4, 1) := by decide +kernel
theorem dX9_iceWord_21 : decode cX9_iceWord 21 = .ok (.ireturn, 1) := by decide +kernel
theorem dX9_iceWord_22 : decode cX9_iceWord 22 = .ok (.aload_n 0, 1) := by decide +kernel
theorem dX9_iceWord_23 : decode cX9_iceWord 23 = .ok (.ldc 163, 2) := by decide +kernel
theorem dX9_iceWord_25 : decode cX9_iceWord 25 = .ok (.invokevirtual 141, 3) := by decide +kernel
theorem dX9_iceWord_28 : decode cX9_iceWord 28 = .ok (.ifCond .eq 5, 3) := by decide +kernel
theorem dX9_iceWord_31 : decode cX9_iceWord 31 = .ok (.iconst 5, 1) := by decide +kernel
theorem dX9_iceWord_32 : decode cX9_iceWord 32 = .ok (.ireturn, 1) := by decide +kernel
theorem dX9_iceWord_33 : decode cX9_iceWord 33 = .ok (.aload_n 0, 1) := by decide +kernel
theorem dX9_iceWord_34 : decode cX9_iceWord 34 = .ok (.ldc 165, 2) := by decide +kernel
theorem dX9_iceWord_36 : decode cX9_iceWord 36 = .ok (.invokevirtual 141, 3) := by decide +kernel
theorem dX9_iceWord_39 : decode cX9_iceWord 39 = .ok (.ifCond .eq 6, 3) := by decide +kernel
theorem dX9_iceWord_42 : decode cX9_iceWord 42 = .ok (.bipush 6, 2) := by decide +kernel
theorem dX9_iceWord_44 : decode cX9_iceWord 44 = .ok (.ireturn, 1) := by decide +kernel
theorem dX9_iceWord_45 : decode cX9_iceWord 45 = .ok (.aload_n 0, 1) := by decide +kernel
theorem dX9_iceWord_46 : decode cX9_iceWord 46 = .ok (.ldc 167, 2) := by decide +kernel
theorem dX9_iceWord_48 : decode cX9_iceWord 48 = .ok (.invokevirtual 141, 3) := by decide +kernel
theorem dX9_iceWord_51 : decode cX9_iceWord 51 = .ok (.ifCond .eq 6, 3) := by decide +kernel
theorem dX9_iceWord_54 : decode cX9_iceWord 54 = .ok (.bipush 20, 2) := by decide +kernel
theorem dX9_iceWord_56 : decode cX9_iceWord 56 = .ok (.ireturn, 1) := by decide +kernel
theorem dX9_iceWord_57 : decode cX9_iceWord 57 = .ok (.aload_n 0, 1) := by decide +kernel
theorem dX9_iceWord_58 : decode cX9_iceWord 58 = .ok (.ldc 169, 2) := by decide +kernel
theorem dX9_iceWord_60 : decode cX9_iceWord 60 = .ok (.invokevirtual 141, 3) := by decide +kernel
theorem dX9_iceWord_63 : decode cX9_iceWord 63 = .ok (.ifCond .eq 6, 3) := by decide +kernel
theorem dX9_iceWord_66 : decode cX9_iceWord 66 = .ok (.bipush 21, 2) := by decide +kernel
theorem dX9_iceWord_68 : decode cX9_iceWord 68 = .ok (.ireturn, 1) := by decide +kernel
theorem dX9_iceWord_69 : decode cX9_iceWord 69 = .ok (.aload_n 0, 1) := by decide +kernel
theorem dX9_iceWord_70 : decode cX9_iceWord 70 = .ok (.ldc 171, 2) := by decide +kernel
theorem dX9_iceWord_72 : decode cX9_iceWord 72 = .ok (.invokevirtual 141, 3) := by decide +kernel
theorem dX9_iceWord_75 : decode cX9_iceWord 75 = .ok (.ifCond .eq 6, 3) := by decide +kernel
theorem dX9_iceWord_78 : decode cX9_iceWord 78 = .ok (.bipush 41, 2) := by decide +kernel
theorem dX9_iceWord_80 : decode cX9_iceWord 80 = .ok (.ireturn, 1) := by decide +kernel
theorem dX9_iceWord_81 : decode cX9_iceWord 81 = .ok (.aload_n 0, 1) := by decide +kernel
theorem dX9_iceWord_82 : decode cX9_iceWord 82 = .ok (.ldc 173, 2) := by decide +kernel
theorem dX9_iceWord_84 : decode cX9_iceWord 84 = .ok (.invokevirtual 141, 3) := by decide +kernel
theorem dX9_iceWord_87 : decode cX9_iceWord 87 = .ok (.ifCond .eq 6, 3) := by decide +kernel
theorem dX9_iceWord_90 : decode cX9_iceWord 90 = .ok (.bipush 42, 2) := by decide +kernel
theorem dX9_iceWord_92 : decode cX9_iceWord 92 = .ok (.ireturn, 1) := by decide +kernel
theorem dX9_iceWord_93 : decode cX9_iceWord 93 = .ok (.aload_n 0, 1) := by decide +kernel
theorem dX9_iceWord_94 : decode cX9_iceWord 94 = .ok (.ldc 175, 2) := by decide +kernel
theorem dX9_iceWord_96 : decode cX9_iceWord 96 = .ok (.invokevirtual 141, 3) := by decide +kernel
theorem dX9_iceWord_99 : decode cX9_iceWord 99 = .ok (.ifCond .eq 6, 3) := by decide +kernel
theorem dX9_iceWord_102 : decode cX9_iceWord 102 = .ok (.bipush 43, 2) := by decide +kernel
theorem dX9_iceWord_104 : decode cX9_iceWord 104 = .ok (.ireturn, 1) := by decide +kernel
theorem dX9_iceWord_105 : decode cX9_iceWord 105 = .ok (.aload_n 0, 1) := by decide +kernel
theorem dX9_iceWord_106 : decode cX9_iceWord 106 = .ok (.ldc 177, 2) := by decide +kernel
theorem dX9_iceWord_108 : decode cX9_iceWord 108 = .ok (.invokevirtual 141, 3) := by decide +kernel
theorem dX9_iceWord_111 : decode cX9_iceWord 111 = .ok (.ifCond .eq 6, 3) := by decide +kernel
theorem dX9_iceWord_114 : decode cX9_iceWord 114 = .ok (.bipush 44, 2) := by decide +kernel
theorem dX9_iceWord_116 : decode cX9_iceWord 116 = .ok (.ireturn, 1) := by decide +kernel
theorem dX9_iceWord_117 : decode cX9_iceWord 117 = .ok (.aload_n 0, 1) := by decide +kernel
theorem dX9_iceWord_118 : decode cX9_iceWord 118 = .ok (.ldc 179, 2) := by decide +kernel
theorem dX9_iceWord_120 : decode cX9_iceWord 120 = .ok (.invokevirtual 141, 3) := by decide +kernel
theorem dX9_iceWord_123 : decode cX9_iceWord 123 = .ok (.ifCond .eq 6, 3) := by decide +kernel
theorem dX9_iceWord_126 : decode cX9_iceWord 126 = .ok (.bipush 45, 2) := by decide +kernel
theorem dX9_iceWord_128 : decode cX9_iceWord 128 = .ok (.ireturn, 1) := by decide +kernel
theorem dX9_iceWord_129 : decode cX9_iceWord 129 = .ok (.aload_n 0, 1) := by decide +kernel
theorem dX9_iceWord_130 : decode cX9_iceWord 130 = .ok (.ldc 181, 2) := by decide +kernel
theorem dX9_iceWord_132 : decode cX9_iceWord 132 = .ok (.invokevirtual 141, 3) := by decide +kernel
theorem dX9_iceWord_135 : decode cX9_iceWord 135 = .ok (.ifCond .eq 8, 3) := by decide +kernel
theorem dX9_iceWord_138 : decode cX9_iceWord 138 = .ok (.bipush 46, 2) := by decide +kernel
theorem dX9_iceWord_140 : decode cX9_iceWord 140 = .ok (.goto 4, 3) := by decide +kernel
theorem dX9_iceWord_143 : decode cX9_iceWord 143 = .ok (.iconst 1, 1) := by decide +kernel
theorem dX9_iceWord_144 : decode cX9_iceWord 144 = .ok (.ireturn, 1) := by decide +kernel
set_option maxRecDepth 20000 in
theorem vX9_iceWord {g : zG} {d : Nat} {Q : Int32 → zM → Prop} {M : zM} (h : zCz shM g d mX9_is [.ref 0, .ref (4096 + 16)] M (fun b1 M1 => (b1 = false → zCz shM g d mX9_is [.ref 0, .ref (4096 + 19)] M1 (fun b2 M2 => (b2 = false → zCz shM g d mX9_is [.ref 0, .ref (4096 + 18)] M2 (fun b3 M3 => (b3 = false → zCz shM g d mX9_is [.ref 0, .ref (4096 + 17)] M3 (fun b4 M4 => (b4 = false → zCz shM g d mX9_is [.ref 0, .ref (4096 + 9)] M4 (fun b5 M5 => (b5 = false → zCz shM g d mX9_is [.ref 0, .ref (4096 + 8)] M5 (fun b6 M6 => (b6 = false → zCz shM g d mX9_is [.ref 0, .ref (4096 + 10)] M6 (fun b7 M7 => (b7 = false → zCz shM g d mX9_is [.ref 0, .ref (4096 + 11)] M7 (fun b8 M8 => (b8 = false → zCz shM g d mX9_is [.ref 0, .ref (4096 + 12)] M8 (fun b9 M9 => (b9 = false → zCz shM g d mX9_is [.ref 0, .ref (4096 + 13)] M9 (fun b10 M10 => (b10 = false → zCz shM g d mX9_is [.ref 0, .ref (4096 + 14)] M10 (fun b11 M11 => (b11 = false → zCz shM g d mX9_is [.ref 0, .ref (4096 + 15)] M11 (fun b12 M12 => (b12 = false → Q 1 M12) ∧ (b12 = true → Q 46 M12))) ∧ (b11 = true → Q 45 M11))) ∧ (b10 = true → Q 44 M10))) ∧ (b9 = true → Q 43 M9))) ∧ (b8 = true → Q 42 M8))) ∧ (b7 = true → Q 41 M7))) ∧ (b6 = true → Q 21 M6))) ∧ (b5 = true → Q 20 M5))) ∧ (b4 = true → Q 6 M4))) ∧ (b3 = true → Q 5 M3))) ∧ (b2 = true → Q 4 M2))) ∧ (b1 = true → Q 3 M1))) : zCi shM g (d + 1) mX9_iceWord [.ref 0] M Q := by
  refine zW.enter (by decide +kernel) (Nat.le_of_ble_eq_true rfl) ?_
  change zW shM g (d + 1) mX9_iceWord (zi Q) 0 [(0, .ref 0)] [] M
  refine z_aload_n dX9_iceWord_0 0 rfl ?_
  refine z_ldcS (i := 16) (tx := "when") dX9_iceWord_1 (by decide +kernel) ?_
  refine z_callV (m2 := mX9_is) (st := []) [.ref (4096 + 16)] okX9_is (Or.inl lkX9_141) shM_0 rfl rfl rfl (Nat.le_of_ble_eq_true rfl) dX9_iceWord_3 (zgo_z h fun b1 M1 h => ?_)
  refine z_ifb_eq 11 dX9_iceWord_6 (by decide) (fun c1 => ?_) (fun c1 => ?_)
  · have h := h.1 c1
    refine z_aload_n dX9_iceWord_11 0 rfl ?_
    refine z_ldcS (i := 19) (tx := "or") dX9_iceWord_12 (by decide +kernel) ?_
    refine z_callV (m2 := mX9_is) (st := []) [.ref (4096 + 19)] okX9_is (Or.inl lkX9_141) shM_0 rfl rfl rfl (Nat.le_of_ble_eq_true rfl) dX9_iceWord_14 (zgo_z h fun b2 M2 h => ?_)
    refine z_ifb_eq 22 dX9_iceWord_17 (by decide) (fun c2 => ?_) (fun c2 => ?_)
    · have h := h.1 c2
      refine z_aload_n dX9_iceWord_22 0 rfl ?_
      refine z_ldcS (i := 18) (tx := "and") dX9_iceWord_23 (by decide +kernel) ?_
      refine z_callV (m2 := mX9_is) (st := []) [.ref (4096 + 18)] okX9_is (Or.inl lkX9_141) shM_0 rfl rfl rfl (Nat.le_of_ble_eq_true rfl) dX9_iceWord_25 (zgo_z h fun b3 M3 h => ?_)
      refine z_ifb_eq 33 dX9_iceWord_28 (by decide) (fun c3 => ?_) (fun c3 => ?_)
      · have h := h.1 c3
        refine z_aload_n dX9_iceWord_33 0 rfl ?_
        refine z_ldcS (i := 17) (tx := "not") dX9_iceWord_34 (by decide +kernel) ?_
        refine z_callV (m2 := mX9_is) (st := []) [.ref (4096 + 17)] okX9_is (Or.inl lkX9_141) shM_0 rfl rfl rfl (Nat.le_of_ble_eq_true rfl) dX9_iceWord_36 (zgo_z h fun b4 M4 h => ?_)
        refine z_ifb_eq 45 dX9_iceWord_39 (by decide) (fun c4 => ?_) (fun c4 => ?_)
        · have h := h.1 c4
          refine z_aload_n dX9_iceWord_45 0 rfl ?_
          refine z_ldcS (i := 9) (tx := "cut") dX9_iceWord_46 (by decide +kernel) ?_
          refine z_callV (m2 := mX9_is) (st := []) [.ref (4096 + 9)] okX9_is (Or.inl lkX9_141) shM_0 rfl rfl rfl (Nat.le_of_ble_eq_true rfl) dX9_iceWord_48 (zgo_z h fun b5 M5 h => ?_)
          refine z_ifb_eq 57 dX9_iceWord_51 (by decide) (fun c5 => ?_) (fun c5 => ?_)
          · have h := h.1 c5
            refine z_aload_n dX9_iceWord_57 0 rfl ?_
            refine z_ldcS (i := 8) (tx := "thaw") dX9_iceWord_58 (by decide +kernel) ?_
            refine z_callV (m2 := mX9_is) (st := []) [.ref (4096 + 8)] okX9_is (Or.inl lkX9_141) shM_0 rfl rfl rfl (Nat.le_of_ble_eq_true rfl) dX9_iceWord_60 (zgo_z h fun b6 M6 h => ?_)
            refine z_ifb_eq 69 dX9_iceWord_63 (by decide) (fun c6 => ?_) (fun c6 => ?_)
            · have h := h.1 c6
              refine z_aload_n dX9_iceWord_69 0 rfl ?_
              refine z_ldcS (i := 10) (tx := "depth") dX9_iceWord_70 (by decide +kernel) ?_
              refine z_callV (m2 := mX9_is) (st := []) [.ref (4096 + 10)] okX9_is (Or.inl lkX9_141) shM_0 rfl rfl rfl (Nat.le_of_ble_eq_true rfl) dX9_iceWord_72 (zgo_z h fun b7 M7 h => ?_)
              refine z_ifb_eq 81 dX9_iceWord_75 (by decide) (fun c7 => ?_) (fun c7 => ?_)
              · have h := h.1 c7
                refine z_aload_n dX9_iceWord_81 0 rfl ?_
                refine z_ldcS (i := 11) (tx := "edge") dX9_iceWord_82 (by decide +kernel) ?_
                refine z_callV (m2 := mX9_is) (st := []) [.ref (4096 + 11)] okX9_is (Or.inl lkX9_141) shM_0 rfl rfl rfl (Nat.le_of_ble_eq_true rfl) dX9_iceWord_84 (zgo_z h fun b8 M8 h => ?_)
                refine z_ifb_eq 93 dX9_iceWord_87 (by decide) (fun c8 => ?_) (fun c8 => ?_)
                · have h := h.1 c8
                  refine z_aload_n dX9_iceWord_93 0 rfl ?_
                  refine z_ldcS (i := 12) (tx := "minute") dX9_iceWord_94 (by decide +kernel) ?_
                  refine z_callV (m2 := mX9_is) (st := []) [.ref (4096 + 12)] okX9_is (Or.inl lkX9_141) shM_0 rfl rfl rfl (Nat.le_of_ble_eq_true rfl) dX9_iceWord_96 (zgo_z h fun b9 M9 h => ?_)
                  refine z_ifb_eq 105 dX9_iceWord_99 (by decide) (fun c9 => ?_) (fun c9 => ?_)
                  · have h := h.1 c9
                    refine z_aload_n dX9_iceWord_105 0 rfl ?_
                    refine z_ldcS (i := 13) (tx := "hand") dX9_iceWord_106 (by decide +kernel) ?_
                    refine z_callV (m2 := mX9_is) (st := []) [.ref (4096 + 13)] okX9_is (Or.inl lkX9_141) shM_0 rfl rfl rfl (Nat.le_of_ble_eq_true rfl) dX9_iceWord_108 (zgo_z h fun b10 M10 h => ?_)
                    refine z_ifb_eq 117 dX9_iceWord_111 (by decide) (fun c10 => ?_) (fun c10 => ?_)
                    · have h := h.1 c10
                      refine z_aload_n dX9_iceWord_117 0 rfl ?_
                      refine z_ldcS (i := 14) (tx := "crossed") dX9_iceWord_118 (by decide +kernel) ?_
                      refine z_callV (m2 := mX9_is) (st := []) [.ref (4096 + 14)] okX9_is (Or.inl lkX9_141) shM_0 rfl rfl rfl (Nat.le_of_ble_eq_true rfl) dX9_iceWord_120 (zgo_z h fun b11 M11 h => ?_)
                      refine z_ifb_eq 129 dX9_iceWord_123 (by decide) (fun c11 => ?_) (fun c11 => ?_)
                      · have h := h.1 c11
                        refine z_aload_n dX9_iceWord_129 0 rfl ?_
                        refine z_ldcS (i := 15) (tx := "around") dX9_iceWord_130 (by decide +kernel) ?_
                        refine z_callV (m2 := mX9_is) (st := []) [.ref (4096 + 15)] okX9_is (Or.inl lkX9_141) shM_0 rfl rfl rfl (Nat.le_of_ble_eq_true rfl) dX9_iceWord_132 (zgo_z h fun b12 M12 h => ?_)
                        refine z_ifb_eq 143 dX9_iceWord_135 (by decide) (fun c12 => ?_) (fun c12 => ?_)
                        · have h := h.1 c12
                          refine z_iconst (v := 1) dX9_iceWord_143 (by decide) ?_
                          exact z_iret (st := []) rfl rfl dX9_iceWord_144 ⟨_, rfl, h⟩
                        · have h := h.2 c12
                          refine z_bipush (v := 46) dX9_iceWord_138 (by decide) ?_
                          refine z_goto 144 dX9_iceWord_140 (by decide) ?_
                          exact z_iret (st := []) rfl rfl dX9_iceWord_144 ⟨_, rfl, h⟩
                      · have h := h.2 c11
                        refine z_bipush (v := 45) dX9_iceWord_126 (by decide) ?_
                        exact z_iret (st := []) rfl rfl dX9_iceWord_128 ⟨_, rfl, h⟩
                    · have h := h.2 c10
                      refine z_bipush (v := 44) dX9_iceWord_114 (by decide) ?_
                      exact z_iret (st := []) rfl rfl dX9_iceWord_116 ⟨_, rfl, h⟩
                  · have h := h.2 c9
                    refine z_bipush (v := 43) dX9_iceWord_102 (by decide) ?_
                    exact z_iret (st := []) rfl rfl dX9_iceWord_104 ⟨_, rfl, h⟩
                · have h := h.2 c8
                  refine z_bipush (v := 42) dX9_iceWord_90 (by decide) ?_
                  exact z_iret (st := []) rfl rfl dX9_iceWord_92 ⟨_, rfl, h⟩
              · have h := h.2 c7
                refine z_bipush (v := 41) dX9_iceWord_78 (by decide) ?_
                exact z_iret (st := []) rfl rfl dX9_iceWord_80 ⟨_, rfl, h⟩
            · have h := h.2 c6
              refine z_bipush (v := 21) dX9_iceWord_66 (by decide) ?_
              exact z_iret (st := []) rfl rfl dX9_iceWord_68 ⟨_, rfl, h⟩
          · have h := h.2 c5
            refine z_bipush (v := 20) dX9_iceWord_54 (by decide) ?_
            exact z_iret (st := []) rfl rfl dX9_iceWord_56 ⟨_, rfl, h⟩
        · have h := h.2 c4
          refine z_bipush (v := 6) dX9_iceWord_42 (by decide) ?_
          exact z_iret (st := []) rfl rfl dX9_iceWord_44 ⟨_, rfl, h⟩
      · have h := h.2 c3
        refine z_iconst (v := 5) dX9_iceWord_31 (by decide) ?_
        exact z_iret (st := []) rfl rfl dX9_iceWord_32 ⟨_, rfl, h⟩
    · have h := h.2 c2
      refine z_iconst (v := 4) dX9_iceWord_20 (by decide) ?_
      exact z_iret (st := []) rfl rfl dX9_iceWord_21 ⟨_, rfl, h⟩
  · have h := h.2 c1
    refine z_iconst (v := 3) dX9_iceWord_9 (by decide) ?_
    exact z_iret (st := []) rfl rfl dX9_iceWord_10 ⟨_, rfl, h⟩
theorem dX9_wantWord_0 : decode cX9_wantWord 0 = .ok (.aload_n 0, 1) := by decide +kernel
theorem dX9_wantWord_1 : decode cX9_wantWord 1 = .ok (.ldc 183, 2) := by decide +kernel
theorem dX9_wantWord_3 : decode cX9_wantWord 3 = .ok (.invokevirtual 141, 3) := by decide +kernel
theorem dX9_wantWord_6 : decode cX9_wantWord 6 = .ok (.ifCond .eq 6, 3) := by decide +kernel
theorem dX9_wantWord_9 : decode cX9_wantWord 9 = .ok (.bipush 9, 2) := by decide +kernel
theorem dX9_wantWord_11 : decode cX9_wantWord 11 = .ok (.ireturn, 1) := by decide +kernel
theorem dX9_wantWord_12 : decode cX9_wantWord 12 = .ok (.aload_n 0, 1) := by decide +kernel
theorem dX9_wantWord_13 : decode cX9_wantWord 13 = .ok (.ldc 185, 2) := by decide +kernel
theorem dX9_wantWord_15 : decode cX9_wantWord 15 = .ok (.invokevirtual 141, 3) := by decide +kernel
theorem dX9_wantWord_18 : decode cX9_wantWord 18 = .ok (.ifCond .eq 8, 3) := by decide +kernel
theorem dX9_wantWord_21 : decode cX9_wantWord 21 = .ok (.bipush 10, 2) := by decide +kernel
theorem dX9_wantWord_23 : decode cX9_wantWord 23 = .ok (.goto 4, 3) := by decide +kernel
theorem dX9_wantWord_26 : decode cX9_wantWord 26 = .ok (.iconst 1, 1) := by decide +kernel
theorem dX9_wantWord_27 : decode cX9_wantWord 27 = .ok (.ireturn, 1) := by decide +kernel
set_option maxRecDepth 20000 in
theorem vX9_wantWord {g : zG} {d : Nat} {Q : Int32 → zM → Prop} {M : zM} (h : zCz shM g d mX9_is [.ref 0, .ref (4096 + 21)] M (fun b1 M1 => (b1 = false → zCz shM g d mX9_is [.ref 0, .ref (4096 + 22)] M1 (fun b2 M2 => (b2 = false → Q 1 M2) ∧ (b2 = true → Q 10 M2))) ∧ (b1 = true → Q 9 M1))) : zCi shM g (d + 1) mX9_wantWord [.ref 0] M Q := by
  refine zW.enter (by decide +kernel) (Nat.le_of_ble_eq_true rfl) ?_
  change zW shM g (d + 1) mX9_wantWord (zi Q) 0 [(0, .ref 0)] [] M
  refine z_aload_n dX9_wantWord_0 0 rfl ?_
  refine z_ldcS (i := 21) (tx := "want") dX9_wantWord_1 (by decide +kernel) ?_
  refine z_callV (m2 := mX9_is) (st := []) [.ref (4096 + 21)] okX9_is (Or.inl lkX9_141) shM_0 rfl rfl rfl (Nat.le_of_ble_eq_true rfl) dX9_wantWord_3 (zgo_z h fun b1 M1 h => ?_)
  refine z_ifb_eq 12 dX9_wantWord_6 (by decide) (fun c1 => ?_) (fun c1 => ?_)
  · have h := h.1 c1
    refine z_aload_n dX9_wantWord_12 0 rfl ?_
    refine z_ldcS (i := 22) (tx := "at") dX9_wantWord_13 (by decide +kernel) ?_
    refine z_callV (m2 := mX9_is) (st := []) [.ref (4096 + 22)] okX9_is (Or.inl lkX9_141) shM_0 rfl rfl rfl (Nat.le_of_ble_eq_true rfl) dX9_wantWord_15 (zgo_z h fun b2 M2 h => ?_)
    refine z_ifb_eq 26 dX9_wantWord_18 (by decide) (fun c2 => ?_) (fun c2 => ?_)
    · have h := h.1 c2
      refine z_iconst (v := 1) dX9_wantWord_26 (by decide) ?_
      exact z_iret (st := []) rfl rfl dX9_wantWord_27 ⟨_, rfl, h⟩
    · have h := h.2 c2
      refine z_bipush (v := 10) dX9_wantWord_21 (by decide) ?_
      refine z_goto 27 dX9_wantWord_23 (by decide) ?_
      exact z_iret (st := []) rfl rfl dX9_wantWord_27 ⟨_, rfl, h⟩
  · have h := h.2 c1
    refine z_bipush (v := 9) dX9_wantWord_9 (by decide) ?_
    exact z_iret (st := []) rfl rfl dX9_wantWord_11 ⟨_, rfl, h⟩
theorem dX9_word_0 : decode cX9_word 0 = .ok (.aload_n 0, 1) := by decide +kernel
theorem dX9_word_1 : decode cX9_word 1 = .ok (.getfield 186, 3) := by decide +kernel
theorem dX9_word_4 : decode cX9_word 4 = .ok (.tableswitch 54 0 2 #[28, 33, 38], 28) := by decide +kernel
theorem dX9_word_32 : decode cX9_word 32 = .ok (.aload_n 0, 1) := by decide +kernel
theorem dX9_word_33 : decode cX9_word 33 = .ok (.invokevirtual 189, 3) := by decide +kernel
theorem dX9_word_36 : decode cX9_word 36 = .ok (.ireturn, 1) := by decide +kernel
theorem dX9_word_37 : decode cX9_word 37 = .ok (.aload_n 0, 1) := by decide +kernel
theorem dX9_word_38 : decode cX9_word 38 = .ok (.invokevirtual 192, 3) := by decide +kernel
theorem dX9_word_41 : decode cX9_word 41 = .ok (.ireturn, 1) := by decide +kernel
theorem dX9_word_42 : decode cX9_word 42 = .ok (.aload_n 0, 1) := by decide +kernel
theorem dX9_word_43 : decode cX9_word 43 = .ok (.ldc 195, 2) := by decide +kernel
theorem dX9_word_45 : decode cX9_word 45 = .ok (.invokevirtual 141, 3) := by decide +kernel
theorem dX9_word_48 : decode cX9_word 48 = .ok (.ifCond .eq 8, 3) := by decide +kernel
theorem dX9_word_51 : decode cX9_word 51 = .ok (.bipush 8, 2) := by decide +kernel
theorem dX9_word_53 : decode cX9_word 53 = .ok (.goto 4, 3) := by decide +kernel
theorem dX9_word_56 : decode cX9_word 56 = .ok (.iconst 1, 1) := by decide +kernel
theorem dX9_word_57 : decode cX9_word 57 = .ok (.ireturn, 1) := by decide +kernel
theorem dX9_word_58 : decode cX9_word 58 = .ok (.aload_n 0, 1) := by decide +kernel
theorem dX9_word_59 : decode cX9_word 59 = .ok (.invokevirtual 197, 3) := by decide +kernel
theorem dX9_word_62 : decode cX9_word 62 = .ok (.ireturn, 1) := by decide +kernel
set_option maxRecDepth 20000 in
theorem vX9_word {g : zG} {d : Nat} {Q : Int32 → zM → Prop} {M : zM} (h : ((M 0 16).toInt < 0 ∨ 2 < (M 0 16).toInt → zCi shM g d mX9_wantWord [.ref 0] M (fun x1 M1 => Q x1 M1)) ∧ ((M 0 16).toInt = 0 → zCi shM g d mX9_wayWord [.ref 0] M (fun x1 M1 => Q x1 M1)) ∧ ((M 0 16).toInt = 1 → zCi shM g d mX9_iceWord [.ref 0] M (fun x1 M1 => Q x1 M1)) ∧ ((M 0 16).toInt = 2 → zCz shM g d mX9_is [.ref 0, .ref (4096 + 20)] M (fun b1 M1 => (b1 = false → Q 1 M1) ∧ (b1 = true → Q 8 M1)))) : zCi shM g (d + 1) mX9_word [.ref 0] M Q := by
  refine zW.enter (by decide +kernel) (Nat.le_of_ble_eq_true rfl) ?_
  change zW shM g (d + 1) mX9_word (zi Q) 0 [(0, .ref 0)] [] M
  refine z_aload_n dX9_word_0 0 rfl ?_
  refine z_geti shM_0 rfl flX9_186 dX9_word_1 ?_
  refine z_table [32, 37, 42] 58 dX9_word_4 (by decide) (by decide) (by decide) (fun c1 => ?_) ⟨fun c1 => ?_, fun c1 => ?_, fun c1 => ?_, trivial⟩
  · have h := h.1 c1
    refine z_aload_n dX9_word_58 0 rfl ?_
    refine z_callV (m2 := mX9_wantWord) (st := []) [] okX9_wantWord (Or.inl lkX9_197) shM_0 rfl rfl rfl (Nat.le_of_ble_eq_true rfl) dX9_word_59 (zgo_i h fun x1 M1 h => ?_)
    exact z_iret (st := []) rfl rfl dX9_word_62 ⟨_, rfl, h⟩
  · have h := h.2.1 c1
    refine z_aload_n dX9_word_32 0 rfl ?_
    refine z_callV (m2 := mX9_wayWord) (st := []) [] okX9_wayWord (Or.inl lkX9_189) shM_0 rfl rfl rfl (Nat.le_of_ble_eq_true rfl) dX9_word_33 (zgo_i h fun x1 M1 h => ?_)
    exact z_iret (st := []) rfl rfl dX9_word_36 ⟨_, rfl, h⟩
  · have h := h.2.2.1 c1
    refine z_aload_n dX9_word_37 0 rfl ?_
    refine z_callV (m2 := mX9_iceWord) (st := []) [] okX9_iceWord (Or.inl lkX9_192) shM_0 rfl rfl rfl (Nat.le_of_ble_eq_true rfl) dX9_word_38 (zgo_i h fun x1 M1 h => ?_)
    exact z_iret (st := []) rfl rfl dX9_word_41 ⟨_, rfl, h⟩
  · have h := h.2.2.2 c1
    refine z_aload_n dX9_word_42 0 rfl ?_
    refine z_ldcS (i := 20) (tx := "letter") dX9_word_43 (by decide +kernel) ?_
    refine z_callV (m2 := mX9_is) (st := []) [.ref (4096 + 20)] okX9_is (Or.inl lkX9_141) shM_0 rfl rfl rfl (Nat.le_of_ble_eq_true rfl) dX9_word_45 (zgo_z h fun b1 M1 h => ?_)
    refine z_ifb_eq 56 dX9_word_48 (by decide) (fun c2 => ?_) (fun c2 => ?_)
    · have h := h.1 c2
      refine z_iconst (v := 1) dX9_word_56 (by decide) ?_
      exact z_iret (st := []) rfl rfl dX9_word_57 ⟨_, rfl, h⟩
    · have h := h.2 c2
      refine z_bipush (v := 8) dX9_word_51 (by decide) ?_
      refine z_goto 57 dX9_word_53 (by decide) ?_
      exact z_iret (st := []) rfl rfl dX9_word_57 ⟨_, rfl, h⟩
theorem dX9_next0_0 : decode cX9_next0 0 = .ok (.aload_n 0, 1) := by decide +kernel
theorem dX9_next0_1 : decode cX9_next0 1 = .ok (.aload_n 0, 1) := by decide +kernel
theorem dX9_next0_2 : decode cX9_next0 2 = .ok (.getfield 123, 3) := by decide +kernel
theorem dX9_next0_5 : decode cX9_next0 5 = .ok (.invokevirtual 200, 3) := by decide +kernel
theorem dX9_next0_8 : decode cX9_next0 8 = .ok (.bipush 32, 2) := by decide +kernel
theorem dX9_next0_10 : decode cX9_next0 10 = .ok (.if_icmp .eq 16, 3) := by decide +kernel
theorem dX9_next0_13 : decode cX9_next0 13 = .ok (.aload_n 0, 1) := by decide +kernel
theorem dX9_next0_14 : decode cX9_next0 14 = .ok (.aload_n 0, 1) := by decide +kernel
theorem dX9_next0_15 : decode cX9_next0 15 = .ok (.getfield 123, 3) := by decide +kernel
theorem dX9_next0_18 : decode cX9_next0 18 = .ok (.invokevirtual 200, 3) := by decide +kernel
theorem dX9_next0_21 : decode cX9_next0 21 = .ok (.bipush 10, 2) := by decide +kernel
theorem dX9_next0_23 : decode cX9_next0 23 = .ok (.if_icmp .ne 16, 3) := by decide +kernel
theorem dX9_next0_26 : decode cX9_next0 26 = .ok (.aload_n 0, 1) := by decide +kernel
theorem dX9_next0_27 : decode cX9_next0 27 = .ok (.dup, 1) := by decide +kernel
theorem dX9_next0_28 : decode cX9_next0 28 = .ok (.getfield 123, 3) := by decide +kernel
theorem dX9_next0_31 : decode cX9_next0 31 = .ok (.iconst 1, 1) := by decide +kernel
theorem dX9_next0_32 : decode cX9_next0 32 = .ok (.iadd, 1) := by decide +kernel
theorem dX9_next0_33 : decode cX9_next0 33 = .ok (.putfield 123, 3) := by decide +kernel
theorem dX9_next0_36 : decode cX9_next0 36 = .ok (.goto (-36), 3) := by decide +kernel
theorem dX9_next0_39 : decode cX9_next0 39 = .ok (.aload_n 0, 1) := by decide +kernel
theorem dX9_next0_40 : decode cX9_next0 40 = .ok (.aload_n 0, 1) := by decide +kernel
theorem dX9_next0_41 : decode cX9_next0 41 = .ok (.getfield 123, 3) := by decide +kernel
theorem dX9_next0_44 : decode cX9_next0 44 = .ok (.putfield 126, 3) := by decide +kernel
theorem dX9_next0_47 : decode cX9_next0 47 = .ok (.aload_n 0, 1) := by decide +kernel
theorem dX9_next0_48 : decode cX9_next0 48 = .ok (.aload_n 0, 1) := by decide +kernel
theorem dX9_next0_49 : decode cX9_next0 49 = .ok (.getfield 123, 3) := by decide +kernel
theorem dX9_next0_52 : decode cX9_next0 52 = .ok (.invokevirtual 200, 3) := by decide +kernel
theorem dX9_next0_55 : decode cX9_next0 55 = .ok (.istore_n 1, 1) := by decide +kernel
theorem dX9_next0_56 : decode cX9_next0 56 = .ok (.iload_n 1, 1) := by decide +kernel
theorem dX9_next0_57 : decode cX9_next0 57 = .ok (.iconst (-1), 1) := by decide +kernel
theorem dX9_next0_58 : decode cX9_next0 58 = .ok (.if_icmp .ne 11, 3) := by decide +kernel
theorem dX9_next0_61 : decode cX9_next0 61 = .ok (.aload_n 0, 1) := by decide +kernel
theorem dX9_next0_62 : decode cX9_next0 62 = .ok (.iconst 0, 1) := by decide +kernel
theorem dX9_next0_63 : decode cX9_next0 63 = .ok (.putfield 204, 3) := by decide +kernel
theorem dX9_next0_66 : decode cX9_next0 66 = .ok (.goto 240, 3) := by decide +kernel
theorem dX9_next0_69 : decode cX9_next0 69 = .ok (.iload_n 1, 1) := by decide +kernel
theorem dX9_next0_70 : decode cX9_next0 70 = .ok (.invokestatic 207, 3) := by decide +kernel
theorem dX9_next0_73 : decode cX9_next0 73 = .ok (.ifCond .eq 41, 3) := by decide +kernel
theorem dX9_next0_76 : decode cX9_next0 76 = .ok (.aload_n 0, 1) := by decide +kernel
theorem dX9_next0_77 : decode cX9_next0 77 = .ok (.aload_n 0, 1) := by decide +kernel
theorem dX9_next0_78 : decode cX9_next0 78 = .ok (.getfield 123, 3) := by decide +kernel
theorem dX9_next0_81 : decode cX9_next0 81 = .ok (.invokevirtual 200, 3) := by decide +kernel
theorem dX9_next0_84 : decode cX9_next0 84 = .ok (.invokestatic 207, 3) := by decide +kernel
theorem dX9_next0_87 : decode cX9_next0 87 = .ok (.ifCond .eq 16, 3) := by decide +kernel
theorem dX9_next0_90 : decode cX9_next0 90 = .ok (.aload_n 0, 1) := by decide +kernel
theorem dX9_next0_91 : decode cX9_next0 91 = .ok (.dup, 1) := by decide +kernel
theorem dX9_next0_92 : decode cX9_next0 92 = .ok (.getfield 123, 3) := by decide +kernel
theorem dX9_next0_95 : decode cX9_next0 95 = .ok (.iconst 1, 1) := by decide +kernel
theorem dX9_next0_96 : decode cX9_next0 96 = .ok (.iadd, 1) := by decide +kernel
theorem dX9_next0_97 : decode cX9_next0 97 = .ok (.putfield 123, 3) := by decide +kernel
theorem dX9_next0_100 : decode cX9_next0 100 = .ok (.goto (-24), 3) := by decide +kernel
theorem dX9_next0_103 : decode cX9_next0 103 = .ok (.aload_n 0, 1) := by decide +kernel
theorem dX9_next0_104 : decode cX9_next0 104 = .ok (.aload_n 0, 1) := by decide +kernel
theorem dX9_next0_105 : decode cX9_next0 105 = .ok (.invokevirtual 210, 3) := by decide +kernel
theorem dX9_next0_108 : decode cX9_next0 108 = .ok (.putfield 204, 3) := by decide +kernel
theorem dX9_next0_111 : decode cX9_next0 111 = .ok (.goto 195, 3) := by decide +kernel
theorem dX9_next0_114 : decode cX9_next0 114 = .ok (.iload_n 1, 1) := by decide +kernel
theorem dX9_next0_115 : decode cX9_next0 115 = .ok (.invokestatic 213, 3) := by decide +kernel
theorem dX9_next0_118 : decode cX9_next0 118 = .ok (.ifCond .eq 96, 3) := by decide +kernel
theorem dX9_next0_121 : decode cX9_next0 121 = .ok (.aload_n 0, 1) := by decide +kernel
theorem dX9_next0_122 : decode cX9_next0 122 = .ok (.iconst 0, 1) := by decide +kernel
theorem dX9_next0_123 : decode cX9_next0 123 = .ok (.putfield 216, 3) := by decide +kernel
theorem dX9_next0_126 : decode cX9_next0 126 = .ok (.aload_n 0, 1) := by decide +kernel
theorem dX9_next0_127 : decode cX9_next0 127 = .ok (.aload_n 0, 1) := by decide +kernel
theorem dX9_next0_128 : decode cX9_next0 128 = .ok (.getfield 123, 3) := by decide +kernel
theorem dX9_next0_131 : decode cX9_next0 131 = .ok (.invokevirtual 200, 3) := by decide +kernel
theorem dX9_next0_134 : decode cX9_next0 134 = .ok (.invokestatic 213, 3) := by decide +kernel
theorem dX9_next0_137 : decode cX9_next0 137 = .ok (.ifCond .eq 52, 3) := by decide +kernel
theorem dX9_next0_140 : decode cX9_next0 140 = .ok (.aload_n 0, 1) := by decide +kernel
theorem dX9_next0_141 : decode cX9_next0 141 = .ok (.getfield 123, 3) := by decide +kernel
theorem dX9_next0_144 : decode cX9_next0 144 = .ok (.aload_n 0, 1) := by decide +kernel
theorem dX9_next0_145 : decode cX9_next0 145 = .ok (.getfield 126, 3) := by decide +kernel
theorem dX9_next0_148 : decode cX9_next0 148 = .ok (.iconst 4, 1) := by decide +kernel
theorem dX9_next0_149 : decode cX9_next0 149 = .ok (.iadd, 1) := by decide +kernel
theorem dX9_next0_150 : decode cX9_next0 150 = .ok (.if_icmp .ge 26, 3) := by decide +kernel
theorem dX9_next0_153 : decode cX9_next0 153 = .ok (.aload_n 0, 1) := by decide +kernel
theorem dX9_next0_154 : decode cX9_next0 154 = .ok (.bipush 10, 2) := by decide +kernel
theorem dX9_next0_156 : decode cX9_next0 156 = .ok (.aload_n 0, 1) := by decide +kernel
theorem dX9_next0_157 : decode cX9_next0 157 = .ok (.getfield 216, 3) := by decide +kernel
theorem dX9_next0_160 : decode cX9_next0 160 = .ok (.imul, 1) := by decide +kernel
theorem dX9_next0_161 : decode cX9_next0 161 = .ok (.aload_n 0, 1) := by decide +kernel
theorem dX9_next0_162 : decode cX9_next0 162 = .ok (.aload_n 0, 1) := by decide +kernel
theorem dX9_next0_163 : decode cX9_next0 163 = .ok (.getfield 123, 3) := by decide +kernel
theorem dX9_next0_166 : decode cX9_next0 166 = .ok (.invokevirtual 200, 3) := by decide +kernel
theorem dX9_next0_169 : decode cX9_next0 169 = .ok (.iadd, 1) := by decide +kernel
theorem dX9_next0_170 : decode cX9_next0 170 = .ok (.bipush 48, 2) := by decide +kernel
theorem dX9_next0_172 : decode cX9_next0 172 = .ok (.isub, 1) := by decide +kernel
theorem dX9_next0_173 : decode cX9_next0 173 = .ok (.putfield 216, 3) := by decide +kernel
theorem dX9_next0_176 : decode cX9_next0 176 = .ok (.aload_n 0, 1) := by decide +kernel
theorem dX9_next0_177 : decode cX9_next0 177 = .ok (.dup, 1) := by decide +kernel
theorem dX9_next0_178 : decode cX9_next0 178 = .ok (.getfield 123, 3) := by decide +kernel
theorem dX9_next0_181 : decode cX9_next0 181 = .ok (.iconst 1, 1) := by decide +kernel
theorem dX9_next0_182 : decode cX9_next0 182 = .ok (.iadd, 1) := by decide +kernel
theorem dX9_next0_183 : decode cX9_next0 183 = .ok (.putfield 123, 3) := by decide +kernel
theorem dX9_next0_186 : decode cX9_next0 186 = .ok (.goto (-60), 3) := by decide +kernel
theorem dX9_next0_189 : decode cX9_next0 189 = .ok (.aload_n 0, 1) := by decide +kernel
theorem dX9_next0_190 : decode cX9_next0 190 = .ok (.aload_n 0, 1) := by decide +kernel
theorem dX9_next0_191 : decode cX9_next0 191 = .ok (.getfield 123, 3) := by decide +kernel
theorem dX9_next0_194 : decode cX9_next0 194 = .ok (.aload_n 0, 1) := by decide +kernel
theorem dX9_next0_195 : decode cX9_next0 195 = .ok (.getfield 126, 3) := by decide +kernel
theorem dX9_next0_198 : decode cX9_next0 198 = .ok (.isub, 1) := by decide +kernel
theorem dX9_next0_199 : decode cX9_next0 199 = .ok (.iconst 5, 1) := by decide +kernel
theorem dX9_next0_200 : decode cX9_next0 200 = .ok (.if_icmp .ge 7, 3) := by decide +kernel
theorem dX9_next0_203 : decode cX9_next0 203 = .ok (.iconst 2, 1) := by decide +kernel
theorem dX9_next0_204 : decode cX9_next0 204 = .ok (.goto 4, 3) := by decide +kernel
theorem dX9_next0_207 : decode cX9_next0 207 = .ok (.iconst 1, 1) := by decide +kernel
theorem dX9_next0_208 : decode cX9_next0 208 = .ok (.putfield 204, 3) := by decide +kernel
theorem dX9_next0_211 : decode cX9_next0 211 = .ok (.goto 95, 3) := by decide +kernel
theorem dX9_next0_214 : decode cX9_next0 214 = .ok (.aload_n 0, 1) := by decide +kernel
theorem dX9_next0_215 : decode cX9_next0 215 = .ok (.dup, 1) := by decide +kernel
theorem dX9_next0_216 : decode cX9_next0 216 = .ok (.getfield 123, 3) := by decide +kernel
theorem dX9_next0_219 : decode cX9_next0 219 = .ok (.iconst 1, 1) := by decide +kernel
theorem dX9_next0_220 : decode cX9_next0 220 = .ok (.iadd, 1) := by decide +kernel
theorem dX9_next0_221 : decode cX9_next0 221 = .ok (.putfield 123, 3) := by decide +kernel
theorem dX9_next0_224 : decode cX9_next0 224 = .ok (.iload_n 1, 1) := by decide +kernel
theorem dX9_next0_225 : decode cX9_next0 225 = .ok (.bipush 59, 2) := by decide +kernel
theorem dX9_next0_227 : decode cX9_next0 227 = .ok (.if_icmp .eq 57, 3) := by decide +kernel
theorem dX9_next0_230 : decode cX9_next0 230 = .ok (.iload_n 1, 1) := by decide +kernel
theorem dX9_next0_231 : decode cX9_next0 231 = .ok (.bipush 43, 2) := by decide +kernel
theorem dX9_next0_233 : decode cX9_next0 233 = .ok (.if_icmp .eq 51, 3) := by decide +kernel
theorem dX9_next0_236 : decode cX9_next0 236 = .ok (.iload_n 1, 1) := by decide +kernel
theorem dX9_next0_237 : decode cX9_next0 237 = .ok (.bipush 45, 2) := by decide +kernel
theorem dX9_next0_239 : decode cX9_next0 239 = .ok (.if_icmp .eq 45, 3) := by decide +kernel
theorem dX9_next0_242 : decode cX9_next0 242 = .ok (.iload_n 1, 1) := by decide +kernel
theorem dX9_next0_243 : decode cX9_next0 243 = .ok (.bipush 42, 2) := by decide +kernel
theorem dX9_next0_245 : decode cX9_next0 245 = .ok (.if_icmp .eq 39, 3) := by decide +kernel
theorem dX9_next0_248 : decode cX9_next0 248 = .ok (.iload_n 1, 1) := by decide +kernel
theorem dX9_next0_249 : decode cX9_next0 249 = .ok (.bipush 47, 2) := by decide +kernel
theorem dX9_next0_251 : decode cX9_next0 251 = .ok (.if_icmp .eq 33, 3) := by decide +kernel
theorem dX9_next0_254 : decode cX9_next0 254 = .ok (.iload_n 1, 1) := by decide +kernel
theorem dX9_next0_255 : decode cX9_next0 255 = .ok (.bipush 40, 2) := by decide +kernel
theorem dX9_next0_257 : decode cX9_next0 257 = .ok (.if_icmp .eq 27, 3) := by decide +kernel
theorem dX9_next0_260 : decode cX9_next0 260 = .ok (.iload_n 1, 1) := by decide +kernel
theorem dX9_next0_261 : decode cX9_next0 261 = .ok (.bipush 41, 2) := by decide +kernel
theorem dX9_next0_263 : decode cX9_next0 263 = .ok (.if_icmp .eq 21, 3) := by decide +kernel
theorem dX9_next0_266 : decode cX9_next0 266 = .ok (.iload_n 1, 1) := by decide +kernel
theorem dX9_next0_267 : decode cX9_next0 267 = .ok (.bipush 60, 2) := by decide +kernel
theorem dX9_next0_269 : decode cX9_next0 269 = .ok (.if_icmp .eq 15, 3) := by decide +kernel
theorem dX9_next0_272 : decode cX9_next0 272 = .ok (.iload_n 1, 1) := by decide +kernel
theorem dX9_next0_273 : decode cX9_next0 273 = .ok (.bipush 61, 2) := by decide +kernel
theorem dX9_next0_275 : decode cX9_next0 275 = .ok (.if_icmp .eq 9, 3) := by decide +kernel
theorem dX9_next0_278 : decode cX9_next0 278 = .ok (.iload_n 1, 1) := by decide +kernel
theorem dX9_next0_279 : decode cX9_next0 279 = .ok (.bipush 62, 2) := by decide +kernel
theorem dX9_next0_281 : decode cX9_next0 281 = .ok (.if_icmp .ne 7, 3) := by decide +kernel
theorem dX9_next0_284 : decode cX9_next0 284 = .ok (.iconst 1, 1) := by decide +kernel
theorem dX9_next0_285 : decode cX9_next0 285 = .ok (.goto 4, 3) := by decide +kernel
theorem dX9_next0_288 : decode cX9_next0 288 = .ok (.iconst 0, 1) := by decide +kernel
theorem dX9_next0_289 : decode cX9_next0 289 = .ok (.istore_n 2, 1) := by decide +kernel
theorem dX9_next0_290 : decode cX9_next0 290 = .ok (.aload_n 0, 1) := by decide +kernel
theorem dX9_next0_291 : decode cX9_next0 291 = .ok (.iload_n 2, 1) := by decide +kernel
theorem dX9_next0_292 : decode cX9_next0 292 = .ok (.ifCond .eq 10, 3) := by decide +kernel
theorem dX9_next0_295 : decode cX9_next0 295 = .ok (.bipush 100, 2) := by decide +kernel
theorem dX9_next0_297 : decode cX9_next0 297 = .ok (.iload_n 1, 1) := by decide +kernel
theorem dX9_next0_298 : decode cX9_next0 298 = .ok (.iadd, 1) := by decide +kernel
theorem dX9_next0_299 : decode cX9_next0 299 = .ok (.goto 4, 3) := by decide +kernel
theorem dX9_next0_302 : decode cX9_next0 302 = .ok (.iconst 1, 1) := by decide +kernel
theorem dX9_next0_303 : decode cX9_next0 303 = .ok (.putfield 204, 3) := by decide +kernel
theorem dX9_next0_306 : decode cX9_next0 306 = .ok (.return_, 1) := by decide +kernel
set_option maxRecDepth 20000 in
theorem vX9_next0 {g : zG} {d : Nat} {Q : zM → Prop} {M : zM} (h : zCi shM g d mX9_see [.ref 0, .int (M 0 24)] M (fun x1 M1 => (x1 = 32 → zW shM g (d + 1) mX9_next0 (zv Q) 0 [(0, .ref 0)] [] (zup M1 0 24 ((M1 0 24) + 1))) ∧ (¬ x1 = 32 → zCi shM g d mX9_see [.ref 0, .int (M1 0 24)] M1 (fun x2 M2 => (¬ x2 = 10 → zCi shM g d mX9_see [.ref 0, .int ((zup M2 0 26 (M2 0 24)) 0 24)] (zup M2 0 26 (M2 0 24)) (fun x3 M3 => (¬ x3 = (-1) → zCz shM g d mX9_isLetter [.int x3] M3 (fun b1 M4 => (b1 = false → zCz shM g d mX9_isDigit [.int x3] M4 (fun b2 M5 => (b2 = false → (x3 = 59 → zW shM g (d + 1) mX9_next0 (zv Q) 284 [(0, .ref 0), (1, .int x3)] [] (zup M5 0 24 ((M5 0 24) + 1))) ∧ (¬ x3 = 59 → (x3 = 43 → zW shM g (d + 1) mX9_next0 (zv Q) 284 [(0, .ref 0), (1, .int x3)] [] (zup M5 0 24 ((M5 0 24) + 1))) ∧ (¬ x3 = 43 → (x3 = 45 → zW shM g (d + 1) mX9_next0 (zv Q) 284 [(0, .ref 0), (1, .int x3)] [] (zup M5 0 24 ((M5 0 24) + 1))) ∧ (¬ x3 = 45 → (x3 = 42 → zW shM g (d + 1) mX9_next0 (zv Q) 284 [(0, .ref 0), (1, .int x3)] [] (zup M5 0 24 ((M5 0 24) + 1))) ∧ (¬ x3 = 42 → (x3 = 47 → zW shM g (d + 1) mX9_next0 (zv Q) 284 [(0, .ref 0), (1, .int x3)] [] (zup M5 0 24 ((M5 0 24) + 1))) ∧ (¬ x3 = 47 → (x3 = 40 → zW shM g (d + 1) mX9_next0 (zv Q) 284 [(0, .ref 0), (1, .int x3)] [] (zup M5 0 24 ((M5 0 24) + 1))) ∧ (¬ x3 = 40 → (x3 = 41 → zW shM g (d + 1) mX9_next0 (zv Q) 284 [(0, .ref 0), (1, .int x3)] [] (zup M5 0 24 ((M5 0 24) + 1))) ∧ (¬ x3 = 41 → (x3 = 60 → zW shM g (d + 1) mX9_next0 (zv Q) 284 [(0, .ref 0), (1, .int x3)] [] (zup M5 0 24 ((M5 0 24) + 1))) ∧ (¬ x3 = 60 → (x3 = 61 → zW shM g (d + 1) mX9_next0 (zv Q) 284 [(0, .ref 0), (1, .int x3)] [] (zup M5 0 24 ((M5 0 24) + 1))) ∧ (¬ x3 = 61 → (¬ x3 = 62 → zW shM g (d + 1) mX9_next0 (zv Q) 289 [(0, .ref 0), (1, .int x3)] [.int 0] (zup M5 0 24 ((M5 0 24) + 1))) ∧ (x3 = 62 → zW shM g (d + 1) mX9_next0 (zv Q) 284 [(0, .ref 0), (1, .int x3)] [] (zup M5 0 24 ((M5 0 24) + 1))))))))))))) ∧ (b2 = true → zW shM g (d + 1) mX9_next0 (zv Q) 126 [(0, .ref 0)] [] (zup M5 0 27 0)))) ∧ (b1 = true → zW shM g (d + 1) mX9_next0 (zv Q) 76 [(0, .ref 0)] [] M4))) ∧ (x3 = (-1) → Q (zup M3 0 25 0)))) ∧ (x2 = 10 → zW shM g (d + 1) mX9_next0 (zv Q) 0 [(0, .ref 0)] [] (zup M2 0 24 ((M2 0 24) + 1))))))) : zCv shM g (d + 1) mX9_next0 [.ref 0] M Q := by
  refine zW.enter (by decide +kernel) (Nat.le_of_ble_eq_true rfl) ?_
  change zW shM g (d + 1) mX9_next0 (zv Q) 0 [(0, .ref 0)] [] M
  refine z_aload_n dX9_next0_0 0 rfl ?_
  refine z_aload_n dX9_next0_1 0 rfl ?_
  refine z_geti shM_0 rfl flX9_123 dX9_next0_2 ?_
  refine z_callV (m2 := mX9_see) (st := []) [.int (M 0 24)] okX9_see (Or.inl lkX9_200) shM_0 rfl rfl rfl (Nat.le_of_ble_eq_true rfl) dX9_next0_5 (zgo_i h fun x1 M1 h => ?_)
  refine z_bipush (v := 32) dX9_next0_8 (by decide) ?_
  refine z_icmp_eq 26 dX9_next0_10 (by decide) (fun c1 => ?_) (fun c1 => ?_)
  · have h := h.1 c1
    refine z_aload_n dX9_next0_26 0 rfl ?_
    refine z_dupr dX9_next0_27 ?_
    refine z_geti shM_0 rfl flX9_123 dX9_next0_28 ?_
    refine z_iconst (v := 1) dX9_next0_31 (by decide) ?_
    refine z_iadd dX9_next0_32 ?_
    refine z_puti shM_0 rfl fpX9_123 rfl rfl dX9_next0_33 ?_
    refine z_goto 0 dX9_next0_36 (by decide) ?_
    exact h
  · have h := h.2 c1
    refine z_aload_n dX9_next0_13 0 rfl ?_
    refine z_aload_n dX9_next0_14 0 rfl ?_
    refine z_geti shM_0 rfl flX9_123 dX9_next0_15 ?_
    refine z_callV (m2 := mX9_see) (st := []) [.int (M1 0 24)] okX9_see (Or.inl lkX9_200) shM_0 rfl rfl rfl (Nat.le_of_ble_eq_true rfl) dX9_next0_18 (zgo_i h fun x2 M2 h => ?_)
    refine z_bipush (v := 10) dX9_next0_21 (by decide) ?_
    refine z_icmp_ne 39 dX9_next0_23 (by decide) (fun c2 => ?_) (fun c2 => ?_)
    · have h := h.1 c2
      refine z_aload_n dX9_next0_39 0 rfl ?_
      refine z_aload_n dX9_next0_40 0 rfl ?_
      refine z_geti shM_0 rfl flX9_123 dX9_next0_41 ?_
      refine z_puti shM_0 rfl fpX9_126 rfl rfl dX9_next0_44 ?_
      refine z_aload_n dX9_next0_47 0 rfl ?_
      refine z_aload_n dX9_next0_48 0 rfl ?_
      refine z_geti shM_0 rfl flX9_123 dX9_next0_49 ?_
      refine z_callV (m2 := mX9_see) (st := []) [.int ((zup M2 0 26 (M2 0 24)) 0 24)] okX9_see (Or.inl lkX9_200) shM_0 rfl rfl rfl (Nat.le_of_ble_eq_true rfl) dX9_next0_52 (zgo_i h fun x3 M3 h => ?_)
      refine z_istore_n [(1, .int x3), (0, .ref 0)] dX9_next0_55 (by decide) rfl ?_
      refine z_iload_n dX9_next0_56 0 rfl ?_
      refine z_iconst (v := (-1)) dX9_next0_57 (by decide) ?_
      refine z_icmp_ne 69 dX9_next0_58 (by decide) (fun c3 => ?_) (fun c3 => ?_)
      · have h := h.1 c3
        refine z_iload_n dX9_next0_69 0 rfl ?_
        refine z_callS (m2 := mX9_isLetter) (st := []) [.int x3] okX9_isLetter (Or.inl lkX9_207) rfl rfl (Nat.le_of_ble_eq_true rfl) dX9_next0_70 (zgo_z h fun b1 M4 h => ?_)
        refine z_ifb_eq 114 dX9_next0_73 (by decide) (fun c4 => ?_) (fun c4 => ?_)
        · have h := h.1 c4
          refine z_iload_n dX9_next0_114 0 rfl ?_
          refine z_callS (m2 := mX9_isDigit) (st := []) [.int x3] okX9_isDigit (Or.inl lkX9_213) rfl rfl (Nat.le_of_ble_eq_true rfl) dX9_next0_115 (zgo_z h fun b2 M5 h => ?_)
          refine z_ifb_eq 214 dX9_next0_118 (by decide) (fun c5 => ?_) (fun c5 => ?_)
          · have h := h.1 c5
            refine z_aload_n dX9_next0_214 1 rfl ?_
            refine z_dupr dX9_next0_215 ?_
            refine z_geti shM_0 rfl flX9_123 dX9_next0_216 ?_
            refine z_iconst (v := 1) dX9_next0_219 (by decide) ?_
            refine z_iadd dX9_next0_220 ?_
            refine z_puti shM_0 rfl fpX9_123 rfl rfl dX9_next0_221 ?_
            refine z_iload_n dX9_next0_224 0 rfl ?_
            refine z_bipush (v := 59) dX9_next0_225 (by decide) ?_
            refine z_icmp_eq 284 dX9_next0_227 (by decide) (fun c6 => ?_) (fun c6 => ?_)
            · have h := h.1 c6
              exact zW.sub [1, 0] rfl h
            · have h := h.2 c6
              refine z_iload_n dX9_next0_230 0 rfl ?_
              refine z_bipush (v := 43) dX9_next0_231 (by decide) ?_
              refine z_icmp_eq 284 dX9_next0_233 (by decide) (fun c7 => ?_) (fun c7 => ?_)
              · have h := h.1 c7
                exact zW.sub [1, 0] rfl h
              · have h := h.2 c7
                refine z_iload_n dX9_next0_236 0 rfl ?_
                refine z_bipush (v := 45) dX9_next0_237 (by decide) ?_
                refine z_icmp_eq 284 dX9_next0_239 (by decide) (fun c8 => ?_) (fun c8 => ?_)
                · have h := h.1 c8
                  exact zW.sub [1, 0] rfl h
                · have h := h.2 c8
                  refine z_iload_n dX9_next0_242 0 rfl ?_
                  refine z_bipush (v := 42) dX9_next0_243 (by decide) ?_
                  refine z_icmp_eq 284 dX9_next0_245 (by decide) (fun c9 => ?_) (fun c9 => ?_)
                  · have h := h.1 c9
                    exact zW.sub [1, 0] rfl h
                  · have h := h.2 c9
                    refine z_iload_n dX9_next0_248 0 rfl ?_
                    refine z_bipush (v := 47) dX9_next0_249 (by decide) ?_
                    refine z_icmp_eq 284 dX9_next0_251 (by decide) (fun c10 => ?_) (fun c10 => ?_)
                    · have h := h.1 c10
                      exact zW.sub [1, 0] rfl h
                    · have h := h.2 c10
                      refine z_iload_n dX9_next0_254 0 rfl ?_
                      refine z_bipush (v := 40) dX9_next0_255 (by decide) ?_
                      refine z_icmp_eq 284 dX9_next0_257 (by decide) (fun c11 => ?_) (fun c11 => ?_)
                      · have h := h.1 c11
                        exact zW.sub [1, 0] rfl h
                      · have h := h.2 c11
                        refine z_iload_n dX9_next0_260 0 rfl ?_
                        refine z_bipush (v := 41) dX9_next0_261 (by decide) ?_
                        refine z_icmp_eq 284 dX9_next0_263 (by decide) (fun c12 => ?_) (fun c12 => ?_)
                        · have h := h.1 c12
                          exact zW.sub [1, 0] rfl h
                        · have h := h.2 c12
                          refine z_iload_n dX9_next0_266 0 rfl ?_
                          refine z_bipush (v := 60) dX9_next0_267 (by decide) ?_
                          refine z_icmp_eq 284 dX9_next0_269 (by decide) (fun c13 => ?_) (fun c13 => ?_)
                          · have h := h.1 c13
                            exact zW.sub [1, 0] rfl h
                          · have h := h.2 c13
                            refine z_iload_n dX9_next0_272 0 rfl ?_
                            refine z_bipush (v := 61) dX9_next0_273 (by decide) ?_
                            refine z_icmp_eq 284 dX9_next0_275 (by decide) (fun c14 => ?_) (fun c14 => ?_)
                            · have h := h.1 c14
                              exact zW.sub [1, 0] rfl h
                            · have h := h.2 c14
                              refine z_iload_n dX9_next0_278 0 rfl ?_
                              refine z_bipush (v := 62) dX9_next0_279 (by decide) ?_
                              refine z_icmp_ne 288 dX9_next0_281 (by decide) (fun c15 => ?_) (fun c15 => ?_)
                              · have h := h.1 c15
                                refine z_iconst (v := 0) dX9_next0_288 (by decide) ?_
                                exact zW.sub [1, 0] rfl h
                              · have h := h.2 c15
                                exact zW.sub [1, 0] rfl h
          · have h := h.2 c5
            refine z_aload_n dX9_next0_121 1 rfl ?_
            refine z_iconst (v := 0) dX9_next0_122 (by decide) ?_
            refine z_puti shM_0 rfl fpX9_216 rfl rfl dX9_next0_123 ?_
            exact zW.sub [1] rfl h
        · have h := h.2 c4
          exact zW.sub [1] rfl h
      · have h := h.2 c3
        refine z_aload_n dX9_next0_61 1 rfl ?_
        refine z_iconst (v := 0) dX9_next0_62 (by decide) ?_
        refine z_puti shM_0 rfl fpX9_204 rfl rfl dX9_next0_63 ?_
        refine z_goto 306 dX9_next0_66 (by decide) ?_
        exact z_vret (st := []) rfl dX9_next0_306 ⟨rfl, h⟩
    · have h := h.2 c2
      refine z_aload_n dX9_next0_26 0 rfl ?_
      refine z_dupr dX9_next0_27 ?_
      refine z_geti shM_0 rfl flX9_123 dX9_next0_28 ?_
      refine z_iconst (v := 1) dX9_next0_31 (by decide) ?_
      refine z_iadd dX9_next0_32 ?_
      refine z_puti shM_0 rfl fpX9_123 rfl rfl dX9_next0_33 ?_
      refine z_goto 0 dX9_next0_36 (by decide) ?_
      exact h
set_option maxRecDepth 20000 in
theorem vX9_next0_0 {g : zG} {d : Nat} {Q : zM → Prop} {M : zM} (h : zCi shM g d mX9_see [.ref 0, .int (M 0 24)] M (fun x1 M1 => (x1 = 32 → zW shM g (d + 1) mX9_next0 (zv Q) 0 [(0, .ref 0)] [] (zup M1 0 24 ((M1 0 24) + 1))) ∧ (¬ x1 = 32 → zCi shM g d mX9_see [.ref 0, .int (M1 0 24)] M1 (fun x2 M2 => (¬ x2 = 10 → zCi shM g d mX9_see [.ref 0, .int ((zup M2 0 26 (M2 0 24)) 0 24)] (zup M2 0 26 (M2 0 24)) (fun x3 M3 => (¬ x3 = (-1) → zCz shM g d mX9_isLetter [.int x3] M3 (fun b1 M4 => (b1 = false → zCz shM g d mX9_isDigit [.int x3] M4 (fun b2 M5 => (b2 = false → (x3 = 59 → zW shM g (d + 1) mX9_next0 (zv Q) 284 [(0, .ref 0), (1, .int x3)] [] (zup M5 0 24 ((M5 0 24) + 1))) ∧ (¬ x3 = 59 → (x3 = 43 → zW shM g (d + 1) mX9_next0 (zv Q) 284 [(0, .ref 0), (1, .int x3)] [] (zup M5 0 24 ((M5 0 24) + 1))) ∧ (¬ x3 = 43 → (x3 = 45 → zW shM g (d + 1) mX9_next0 (zv Q) 284 [(0, .ref 0), (1, .int x3)] [] (zup M5 0 24 ((M5 0 24) + 1))) ∧ (¬ x3 = 45 → (x3 = 42 → zW shM g (d + 1) mX9_next0 (zv Q) 284 [(0, .ref 0), (1, .int x3)] [] (zup M5 0 24 ((M5 0 24) + 1))) ∧ (¬ x3 = 42 → (x3 = 47 → zW shM g (d + 1) mX9_next0 (zv Q) 284 [(0, .ref 0), (1, .int x3)] [] (zup M5 0 24 ((M5 0 24) + 1))) ∧ (¬ x3 = 47 → (x3 = 40 → zW shM g (d + 1) mX9_next0 (zv Q) 284 [(0, .ref 0), (1, .int x3)] [] (zup M5 0 24 ((M5 0 24) + 1))) ∧ (¬ x3 = 40 → (x3 = 41 → zW shM g (d + 1) mX9_next0 (zv Q) 284 [(0, .ref 0), (1, .int x3)] [] (zup M5 0 24 ((M5 0 24) + 1))) ∧ (¬ x3 = 41 → (x3 = 60 → zW shM g (d + 1) mX9_next0 (zv Q) 284 [(0, .ref 0), (1, .int x3)] [] (zup M5 0 24 ((M5 0 24) + 1))) ∧ (¬ x3 = 60 → (x3 = 61 → zW shM g (d + 1) mX9_next0 (zv Q) 284 [(0, .ref 0), (1, .int x3)] [] (zup M5 0 24 ((M5 0 24) + 1))) ∧ (¬ x3 = 61 → (¬ x3 = 62 → zW shM g (d + 1) mX9_next0 (zv Q) 289 [(0, .ref 0), (1, .int x3)] [.int 0] (zup M5 0 24 ((M5 0 24) + 1))) ∧ (x3 = 62 → zW shM g (d + 1) mX9_next0 (zv Q) 284 [(0, .ref 0), (1, .int x3)] [] (zup M5 0 24 ((M5 0 24) + 1))))))))))))) ∧ (b2 = true → zW shM g (d + 1) mX9_next0 (zv Q) 126 [(0, .ref 0)] [] (zup M5 0 27 0)))) ∧ (b1 = true → zW shM g (d + 1) mX9_next0 (zv Q) 76 [(0, .ref 0)] [] M4))) ∧ (x3 = (-1) → Q (zup M3 0 25 0)))) ∧ (x2 = 10 → zW shM g (d + 1) mX9_next0 (zv Q) 0 [(0, .ref 0)] [] (zup M2 0 24 ((M2 0 24) + 1))))))) : zW shM g (d + 1) mX9_next0 (zv Q) 0 [(0, .ref 0)] [] M := by
  refine z_aload_n dX9_next0_0 0 rfl ?_
  refine z_aload_n dX9_next0_1 0 rfl ?_
  refine z_geti shM_0 rfl flX9_123 dX9_next0_2 ?_
  refine z_callV (m2 := mX9_see) (st := []) [.int (M 0 24)] okX9_see (Or.inl lkX9_200) shM_0 rfl rfl rfl (Nat.le_of_ble_eq_true rfl) dX9_next0_5 (zgo_i h fun x1 M1 h => ?_)
  refine z_bipush (v := 32) dX9_next0_8 (by decide) ?_
  refine z_icmp_eq 26 dX9_next0_10 (by decide) (fun c1 => ?_) (fun c1 => ?_)
  · have h := h.1 c1
    refine z_aload_n dX9_next0_26 0 rfl ?_
    refine z_dupr dX9_next0_27 ?_
    refine z_geti shM_0 rfl flX9_123 dX9_next0_28 ?_
    refine z_iconst (v := 1) dX9_next0_31 (by decide) ?_
    refine z_iadd dX9_next0_32 ?_
    refine z_puti shM_0 rfl fpX9_123 rfl rfl dX9_next0_33 ?_
    refine z_goto 0 dX9_next0_36 (by decide) ?_
    exact h
  · have h := h.2 c1
    refine z_aload_n dX9_next0_13 0 rfl ?_
    refine z_aload_n dX9_next0_14 0 rfl ?_
    refine z_geti shM_0 rfl flX9_123 dX9_next0_15 ?_
    refine z_callV (m2 := mX9_see) (st := []) [.int (M1 0 24)] okX9_see (Or.inl lkX9_200) shM_0 rfl rfl rfl (Nat.le_of_ble_eq_true rfl) dX9_next0_18 (zgo_i h fun x2 M2 h => ?_)
    refine z_bipush (v := 10) dX9_next0_21 (by decide) ?_
    refine z_icmp_ne 39 dX9_next0_23 (by decide) (fun c2 => ?_) (fun c2 => ?_)
    · have h := h.1 c2
      refine z_aload_n dX9_next0_39 0 rfl ?_
      refine z_aload_n dX9_next0_40 0 rfl ?_
      refine z_geti shM_0 rfl flX9_123 dX9_next0_41 ?_
      refine z_puti shM_0 rfl fpX9_126 rfl rfl dX9_next0_44 ?_
      refine z_aload_n dX9_next0_47 0 rfl ?_
      refine z_aload_n dX9_next0_48 0 rfl ?_
      refine z_geti shM_0 rfl flX9_123 dX9_next0_49 ?_
      refine z_callV (m2 := mX9_see) (st := []) [.int ((zup M2 0 26 (M2 0 24)) 0 24)] okX9_see (Or.inl lkX9_200) shM_0 rfl rfl rfl (Nat.le_of_ble_eq_true rfl) dX9_next0_52 (zgo_i h fun x3 M3 h => ?_)
      refine z_istore_n [(1, .int x3), (0, .ref 0)] dX9_next0_55 (by decide) rfl ?_
      refine z_iload_n dX9_next0_56 0 rfl ?_
      refine z_iconst (v := (-1)) dX9_next0_57 (by decide) ?_
      refine z_icmp_ne 69 dX9_next0_58 (by decide) (fun c3 => ?_) (fun c3 => ?_)
      · have h := h.1 c3
        refine z_iload_n dX9_next0_69 0 rfl ?_
        refine z_callS (m2 := mX9_isLetter) (st := []) [.int x3] okX9_isLetter (Or.inl lkX9_207) rfl rfl (Nat.le_of_ble_eq_true rfl) dX9_next0_70 (zgo_z h fun b1 M4 h => ?_)
        refine z_ifb_eq 114 dX9_next0_73 (by decide) (fun c4 => ?_) (fun c4 => ?_)
        · have h := h.1 c4
          refine z_iload_n dX9_next0_114 0 rfl ?_
          refine z_callS (m2 := mX9_isDigit) (st := []) [.int x3] okX9_isDigit (Or.inl lkX9_213) rfl rfl (Nat.le_of_ble_eq_true rfl) dX9_next0_115 (zgo_z h fun b2 M5 h => ?_)
          refine z_ifb_eq 214 dX9_next0_118 (by decide) (fun c5 => ?_) (fun c5 => ?_)
          · have h := h.1 c5
            refine z_aload_n dX9_next0_214 1 rfl ?_
            refine z_dupr dX9_next0_215 ?_
            refine z_geti shM_0 rfl flX9_123 dX9_next0_216 ?_
            refine z_iconst (v := 1) dX9_next0_219 (by decide) ?_
            refine z_iadd dX9_next0_220 ?_
            refine z_puti shM_0 rfl fpX9_123 rfl rfl dX9_next0_221 ?_
            refine z_iload_n dX9_next0_224 0 rfl ?_
            refine z_bipush (v := 59) dX9_next0_225 (by decide) ?_
            refine z_icmp_eq 284 dX9_next0_227 (by decide) (fun c6 => ?_) (fun c6 => ?_)
            · have h := h.1 c6
              exact zW.sub [1, 0] rfl h
            · have h := h.2 c6
              refine z_iload_n dX9_next0_230 0 rfl ?_
              refine z_bipush (v := 43) dX9_next0_231 (by decide) ?_
              refine z_icmp_eq 284 dX9_next0_233 (by decide) (fun c7 => ?_) (fun c7 => ?_)
              · have h := h.1 c7
                exact zW.sub [1, 0] rfl h
              · have h := h.2 c7
                refine z_iload_n dX9_next0_236 0 rfl ?_
                refine z_bipush (v := 45) dX9_next0_237 (by decide) ?_
                refine z_icmp_eq 284 dX9_next0_239 (by decide) (fun c8 => ?_) (fun c8 => ?_)
                · have h := h.1 c8
                  exact zW.sub [1, 0] rfl h
                · have h := h.2 c8
                  refine z_iload_n dX9_next0_242 0 rfl ?_
                  refine z_bipush (v := 42) dX9_next0_243 (by decide) ?_
                  refine z_icmp_eq 284 dX9_next0_245 (by decide) (fun c9 => ?_) (fun c9 => ?_)
                  · have h := h.1 c9
                    exact zW.sub [1, 0] rfl h
                  · have h := h.2 c9
                    refine z_iload_n dX9_next0_248 0 rfl ?_
                    refine z_bipush (v := 47) dX9_next0_249 (by decide) ?_
                    refine z_icmp_eq 284 dX9_next0_251 (by decide) (fun c10 => ?_) (fun c10 => ?_)
                    · have h := h.1 c10
                      exact zW.sub [1, 0] rfl h
                    · have h := h.2 c10
                      refine z_iload_n dX9_next0_254 0 rfl ?_
                      refine z_bipush (v := 40) dX9_next0_255 (by decide) ?_
                      refine z_icmp_eq 284 dX9_next0_257 (by decide) (fun c11 => ?_) (fun c11 => ?_)
                      · have h := h.1 c11
                        exact zW.sub [1, 0] rfl h
                      · have h := h.2 c11
                        refine z_iload_n dX9_next0_260 0 rfl ?_
                        refine z_bipush (v := 41) dX9_next0_261 (by decide) ?_
                        refine z_icmp_eq 284 dX9_next0_263 (by decide) (fun c12 => ?_) (fun c12 => ?_)
                        · have h := h.1 c12
                          exact zW.sub [1, 0] rfl h
                        · have h := h.2 c12
                          refine z_iload_n dX9_next0_266 0 rfl ?_
                          refine z_bipush (v := 60) dX9_next0_267 (by decide) ?_
                          refine z_icmp_eq 284 dX9_next0_269 (by decide) (fun c13 => ?_) (fun c13 => ?_)
                          · have h := h.1 c13
                            exact zW.sub [1, 0] rfl h
                          · have h := h.2 c13
                            refine z_iload_n dX9_next0_272 0 rfl ?_
                            refine z_bipush (v := 61) dX9_next0_273 (by decide) ?_
                            refine z_icmp_eq 284 dX9_next0_275 (by decide) (fun c14 => ?_) (fun c14 => ?_)
                            · have h := h.1 c14
                              exact zW.sub [1, 0] rfl h
                            · have h := h.2 c14
                              refine z_iload_n dX9_next0_278 0 rfl ?_
                              refine z_bipush (v := 62) dX9_next0_279 (by decide) ?_
                              refine z_icmp_ne 288 dX9_next0_281 (by decide) (fun c15 => ?_) (fun c15 => ?_)
                              · have h := h.1 c15
                                refine z_iconst (v := 0) dX9_next0_288 (by decide) ?_
                                exact zW.sub [1, 0] rfl h
                              · have h := h.2 c15
                                exact zW.sub [1, 0] rfl h
          · have h := h.2 c5
            refine z_aload_n dX9_next0_121 1 rfl ?_
            refine z_iconst (v := 0) dX9_next0_122 (by decide) ?_
            refine z_puti shM_0 rfl fpX9_216 rfl rfl dX9_next0_123 ?_
            exact zW.sub [1] rfl h
        · have h := h.2 c4
          exact zW.sub [1] rfl h
      · have h := h.2 c3
        refine z_aload_n dX9_next0_61 1 rfl ?_
        refine z_iconst (v := 0) dX9_next0_62 (by decide) ?_
        refine z_puti shM_0 rfl fpX9_204 rfl rfl dX9_next0_63 ?_
        refine z_goto 306 dX9_next0_66 (by decide) ?_
        exact z_vret (st := []) rfl dX9_next0_306 ⟨rfl, h⟩
    · have h := h.2 c2
      refine z_aload_n dX9_next0_26 0 rfl ?_
      refine z_dupr dX9_next0_27 ?_
      refine z_geti shM_0 rfl flX9_123 dX9_next0_28 ?_
      refine z_iconst (v := 1) dX9_next0_31 (by decide) ?_
      refine z_iadd dX9_next0_32 ?_
      refine z_puti shM_0 rfl fpX9_123 rfl rfl dX9_next0_33 ?_
      refine z_goto 0 dX9_next0_36 (by decide) ?_
      exact h
set_option maxRecDepth 20000 in
theorem vX9_next0_76 {g : zG} {d : Nat} {Q : zM → Prop} {M : zM} (h : zCi shM g d mX9_see [.ref 0, .int (M 0 24)] M (fun x1 M1 => zCz shM g d mX9_isLetter [.int x1] M1 (fun b1 M2 => (b1 = false → zCi shM g d mX9_word [.ref 0] M2 (fun x2 M3 => Q (zup M3 0 25 x2))) ∧ (b1 = true → zW shM g (d + 1) mX9_next0 (zv Q) 76 [(0, .ref 0)] [] (zup M2 0 24 ((M2 0 24) + 1)))))) : zW shM g (d + 1) mX9_next0 (zv Q) 76 [(0, .ref 0)] [] M := by
  refine z_aload_n dX9_next0_76 0 rfl ?_
  refine z_aload_n dX9_next0_77 0 rfl ?_
  refine z_geti shM_0 rfl flX9_123 dX9_next0_78 ?_
  refine z_callV (m2 := mX9_see) (st := []) [.int (M 0 24)] okX9_see (Or.inl lkX9_200) shM_0 rfl rfl rfl (Nat.le_of_ble_eq_true rfl) dX9_next0_81 (zgo_i h fun x1 M1 h => ?_)
  refine z_callS (m2 := mX9_isLetter) (st := []) [.int x1] okX9_isLetter (Or.inl lkX9_207) rfl rfl (Nat.le_of_ble_eq_true rfl) dX9_next0_84 (zgo_z h fun b1 M2 h => ?_)
  refine z_ifb_eq 103 dX9_next0_87 (by decide) (fun c1 => ?_) (fun c1 => ?_)
  · have h := h.1 c1
    refine z_aload_n dX9_next0_103 0 rfl ?_
    refine z_aload_n dX9_next0_104 0 rfl ?_
    refine z_callV (m2 := mX9_word) (st := [.ref 0]) [] okX9_word (Or.inl lkX9_210) shM_0 rfl rfl rfl (Nat.le_of_ble_eq_true rfl) dX9_next0_105 (zgo_i h fun x2 M3 h => ?_)
    refine z_puti shM_0 rfl fpX9_204 rfl rfl dX9_next0_108 ?_
    refine z_goto 306 dX9_next0_111 (by decide) ?_
    exact z_vret (st := []) rfl dX9_next0_306 ⟨rfl, h⟩
  · have h := h.2 c1
    refine z_aload_n dX9_next0_90 0 rfl ?_
    refine z_dupr dX9_next0_91 ?_
    refine z_geti shM_0 rfl flX9_123 dX9_next0_92 ?_
    refine z_iconst (v := 1) dX9_next0_95 (by decide) ?_
    refine z_iadd dX9_next0_96 ?_
    refine z_puti shM_0 rfl fpX9_123 rfl rfl dX9_next0_97 ?_
    refine z_goto 76 dX9_next0_100 (by decide) ?_
    exact h
set_option maxRecDepth 20000 in
theorem vX9_next0_126 {g : zG} {d : Nat} {Q : zM → Prop} {M : zM} (h : zCi shM g d mX9_see [.ref 0, .int (M 0 24)] M (fun x1 M1 => zCz shM g d mX9_isDigit [.int x1] M1 (fun b1 M2 => (b1 = false → (5 ≤ ((M2 0 24) - (M2 0 26)) → Q (zup M2 0 25 1)) ∧ (¬ 5 ≤ ((M2 0 24) - (M2 0 26)) → Q (zup M2 0 25 2))) ∧ (b1 = true → (((M2 0 26) + 4) ≤ (M2 0 24) → zW shM g (d + 1) mX9_next0 (zv Q) 126 [(0, .ref 0)] [] (zup M2 0 24 ((M2 0 24) + 1))) ∧ (¬ ((M2 0 26) + 4) ≤ (M2 0 24) → zCi shM g d mX9_see [.ref 0, .int (M2 0 24)] M2 (fun x2 M3 => ∀ v1 : Int32, v1 = (((zup M3 0 27 (((10 * (M2 0 27)) + x2) - 48)) 0 24) + 1) → zW shM g (d + 1) mX9_next0 (zv Q) 126 [(0, .ref 0)] [] (zup (zup M3 0 27 (((10 * (M2 0 27)) + x2) - 48)) 0 24 v1))))))) : zW shM g (d + 1) mX9_next0 (zv Q) 126 [(0, .ref 0)] [] M := by
  refine z_aload_n dX9_next0_126 0 rfl ?_
  refine z_aload_n dX9_next0_127 0 rfl ?_
  refine z_geti shM_0 rfl flX9_123 dX9_next0_128 ?_
  refine z_callV (m2 := mX9_see) (st := []) [.int (M 0 24)] okX9_see (Or.inl lkX9_200) shM_0 rfl rfl rfl (Nat.le_of_ble_eq_true rfl) dX9_next0_131 (zgo_i h fun x1 M1 h => ?_)
  refine z_callS (m2 := mX9_isDigit) (st := []) [.int x1] okX9_isDigit (Or.inl lkX9_213) rfl rfl (Nat.le_of_ble_eq_true rfl) dX9_next0_134 (zgo_z h fun b1 M2 h => ?_)
  refine z_ifb_eq 189 dX9_next0_137 (by decide) (fun c1 => ?_) (fun c1 => ?_)
  · have h := h.1 c1
    refine z_aload_n dX9_next0_189 0 rfl ?_
    refine z_aload_n dX9_next0_190 0 rfl ?_
    refine z_geti shM_0 rfl flX9_123 dX9_next0_191 ?_
    refine z_aload_n dX9_next0_194 0 rfl ?_
    refine z_geti shM_0 rfl flX9_126 dX9_next0_195 ?_
    refine z_isub dX9_next0_198 ?_
    refine z_iconst (v := 5) dX9_next0_199 (by decide) ?_
    refine z_icmp_ge 207 dX9_next0_200 (by decide) (fun c2 => ?_) (fun c2 => ?_)
    · have h := h.1 c2
      refine z_iconst (v := 1) dX9_next0_207 (by decide) ?_
      refine z_puti shM_0 rfl fpX9_204 rfl rfl dX9_next0_208 ?_
      refine z_goto 306 dX9_next0_211 (by decide) ?_
      exact z_vret (st := []) rfl dX9_next0_306 ⟨rfl, h⟩
    · have h := h.2 c2
      refine z_iconst (v := 2) dX9_next0_203 (by decide) ?_
      refine z_goto 208 dX9_next0_204 (by decide) ?_
      refine z_puti shM_0 rfl fpX9_204 rfl rfl dX9_next0_208 ?_
      refine z_goto 306 dX9_next0_211 (by decide) ?_
      exact z_vret (st := []) rfl dX9_next0_306 ⟨rfl, h⟩
  · have h := h.2 c1
    refine z_aload_n dX9_next0_140 0 rfl ?_
    refine z_geti shM_0 rfl flX9_123 dX9_next0_141 ?_
    refine z_aload_n dX9_next0_144 0 rfl ?_
    refine z_geti shM_0 rfl flX9_126 dX9_next0_145 ?_
    refine z_iconst (v := 4) dX9_next0_148 (by decide) ?_
    refine z_iadd dX9_next0_149 ?_
    refine z_icmp_ge 176 dX9_next0_150 (by decide) (fun c2 => ?_) (fun c2 => ?_)
    · have h := h.1 c2
      refine z_aload_n dX9_next0_176 0 rfl ?_
      refine z_dupr dX9_next0_177 ?_
      refine z_geti shM_0 rfl flX9_123 dX9_next0_178 ?_
      refine z_iconst (v := 1) dX9_next0_181 (by decide) ?_
      refine z_iadd dX9_next0_182 ?_
      refine z_puti shM_0 rfl fpX9_123 rfl rfl dX9_next0_183 ?_
      refine z_goto 126 dX9_next0_186 (by decide) ?_
      exact h
    · have h := h.2 c2
      refine z_aload_n dX9_next0_153 0 rfl ?_
      refine z_bipush (v := 10) dX9_next0_154 (by decide) ?_
      refine z_aload_n dX9_next0_156 0 rfl ?_
      refine z_geti shM_0 rfl flX9_216 dX9_next0_157 ?_
      refine z_imul dX9_next0_160 ?_
      refine z_aload_n dX9_next0_161 0 rfl ?_
      refine z_aload_n dX9_next0_162 0 rfl ?_
      refine z_geti shM_0 rfl flX9_123 dX9_next0_163 ?_
      refine z_callV (m2 := mX9_see) (st := [.int (10 * (M2 0 27)), .ref 0]) [.int (M2 0 24)] okX9_see (Or.inl lkX9_200) shM_0 rfl rfl rfl (Nat.le_of_ble_eq_true rfl) dX9_next0_166 (zgo_i h fun x2 M3 h => ?_)
      refine z_iadd dX9_next0_169 ?_
      refine z_bipush (v := 48) dX9_next0_170 (by decide) ?_
      refine z_isub dX9_next0_172 ?_
      refine z_puti shM_0 rfl fpX9_216 rfl rfl dX9_next0_173 ?_
      refine z_aload_n dX9_next0_176 0 rfl ?_
      refine z_dupr dX9_next0_177 ?_
      refine z_geti shM_0 rfl flX9_123 dX9_next0_178 ?_
      refine z_iconst (v := 1) dX9_next0_181 (by decide) ?_
      refine z_iadd dX9_next0_182 ?_
      obtain ⟨v1, ev1⟩ : ∃ y : Int32, y = (((zup M3 0 27 (((10 * (M2 0 27)) + x2) - 48)) 0 24) + 1) := ⟨_, rfl⟩
      refine z_topi v1 ev1 ?_
      have h := h v1 ev1
      refine z_puti shM_0 rfl fpX9_123 rfl rfl dX9_next0_183 ?_
      refine z_goto 126 dX9_next0_186 (by decide) ?_
      exact h
set_option maxRecDepth 20000 in
theorem vX9_next0_284 {g : zG} {d : Nat} {Q : zM → Prop} {M : zM} {l1 : Int32} (h : zW shM g (d + 1) mX9_next0 (zv Q) 289 [(0, .ref 0), (1, .int l1)] [.int 1] M) : zW shM g (d + 1) mX9_next0 (zv Q) 284 [(0, .ref 0), (1, .int l1)] [] M := by
  refine z_iconst (v := 1) dX9_next0_284 (by decide) ?_
  refine z_goto 289 dX9_next0_285 (by decide) ?_
  exact h
set_option maxRecDepth 20000 in
theorem vX9_next0_289 {g : zG} {d : Nat} {Q : zM → Prop} {M : zM} {l1 : Int32} {s0 : Int32} (h : (s0 = 0 → Q (zup M 0 25 1)) ∧ (¬ s0 = 0 → Q (zup M 0 25 (100 + l1)))) : zW shM g (d + 1) mX9_next0 (zv Q) 289 [(0, .ref 0), (1, .int l1)] [.int s0] M := by
  refine z_istore_n [(2, .int s0), (0, .ref 0), (1, .int l1)] dX9_next0_289 (by decide) rfl ?_
  refine z_aload_n dX9_next0_290 1 rfl ?_
  refine z_iload_n dX9_next0_291 0 rfl ?_
  refine z_if_eq 302 dX9_next0_292 (by decide) (fun c1 => ?_) (fun c1 => ?_)
  · have h := h.1 c1
    refine z_iconst (v := 1) dX9_next0_302 (by decide) ?_
    refine z_puti shM_0 rfl fpX9_204 rfl rfl dX9_next0_303 ?_
    exact z_vret (st := []) rfl dX9_next0_306 ⟨rfl, h⟩
  · have h := h.2 c1
    refine z_bipush (v := 100) dX9_next0_295 (by decide) ?_
    refine z_iload_n dX9_next0_297 2 rfl ?_
    refine z_iadd dX9_next0_298 ?_
    refine z_goto 303 dX9_next0_299 (by decide) ?_
    refine z_puti shM_0 rfl fpX9_204 rfl rfl dX9_next0_303 ?_
    exact z_vret (st := []) rfl dX9_next0_306 ⟨rfl, h⟩
theorem dX9_bad_0 : decode cX9_bad 0 = .ok (.aload_n 0, 1) := by decide +kernel
theorem dX9_bad_1 : decode cX9_bad 1 = .ok (.iload_n 1, 1) := by decide +kernel
theorem dX9_bad_2 : decode cX9_bad 2 = .ok (.putfield 219, 3) := by decide +kernel
theorem dX9_bad_5 : decode cX9_bad 5 = .ok (.aload_n 0, 1) := by decide +kernel
theorem dX9_bad_6 : decode cX9_bad 6 = .ok (.aload_n 0, 1) := by decide +kernel
theorem dX9_bad_7 : decode cX9_bad 7 = .ok (.getfield 126, 3) := by decide +kernel
theorem dX9_bad_10 : decode cX9_bad 10 = .ok (.putfield 222, 3) := by decide +kernel
theorem dX9_bad_13 : decode cX9_bad 13 = .ok (.iconst 0, 1) := by decide +kernel
theorem dX9_bad_14 : decode cX9_bad 14 = .ok (.ireturn, 1) := by decide +kernel
set_option maxRecDepth 20000 in
theorem vX9_bad {g : zG} {d : Nat} {Q : Bool → zM → Prop} {M : zM} {l1 : Int32} (h : Q false (zup (zup M 0 28 l1) 0 29 ((zup M 0 28 l1) 0 26))) : zCz shM g d mX9_bad [.ref 0, .int l1] M Q := by
  refine zW.enter (by decide +kernel) (Nat.le_of_ble_eq_true rfl) ?_
  change zW shM g d mX9_bad (zz Q) 0 [(0, .ref 0), (1, .int l1)] [] M
  refine z_aload_n dX9_bad_0 0 rfl ?_
  refine z_iload_n dX9_bad_1 1 rfl ?_
  refine z_puti shM_0 rfl fpX9_219 rfl rfl dX9_bad_2 ?_
  refine z_aload_n dX9_bad_5 0 rfl ?_
  refine z_aload_n dX9_bad_6 0 rfl ?_
  refine z_geti shM_0 rfl flX9_126 dX9_bad_7 ?_
  refine z_puti shM_0 rfl fpX9_222 rfl rfl dX9_bad_10 ?_
  refine z_iconst (v := 0) dX9_bad_13 (by decide) ?_
  exact z_zret (b := false) rfl rfl dX9_bad_14 h
theorem dX9_need_0 : decode cX9_need 0 = .ok (.aload_n 0, 1) := by decide +kernel
theorem dX9_need_1 : decode cX9_need 1 = .ok (.getfield 204, 3) := by decide +kernel
theorem dX9_need_4 : decode cX9_need 4 = .ok (.iload_n 1, 1) := by decide +kernel
theorem dX9_need_5 : decode cX9_need 5 = .ok (.if_icmp .eq 9, 3) := by decide +kernel
theorem dX9_need_8 : decode cX9_need 8 = .ok (.aload_n 0, 1) := by decide +kernel
theorem dX9_need_9 : decode cX9_need 9 = .ok (.iconst 1, 1) := by decide +kernel
theorem dX9_need_10 : decode cX9_need 10 = .ok (.invokevirtual 225, 3) := by decide +kernel
theorem dX9_need_13 : decode cX9_need 13 = .ok (.ireturn, 1) := by decide +kernel
theorem dX9_need_14 : decode cX9_need 14 = .ok (.aload_n 0, 1) := by decide +kernel
theorem dX9_need_15 : decode cX9_need 15 = .ok (.invokevirtual 228, 3) := by decide +kernel
theorem dX9_need_18 : decode cX9_need 18 = .ok (.iconst 1, 1) := by decide +kernel
theorem dX9_need_19 : decode cX9_need 19 = .ok (.ireturn, 1) := by decide +kernel
set_option maxRecDepth 20000 in
theorem vX9_need {g : zG} {d : Nat} {Q : Bool → zM → Prop} {M : zM} {l1 : Int32} (h : ((M 0 25) = l1 → zCv shM g d mX9_next0 [.ref 0] M (fun  M1 => Q true M1)) ∧ (¬ (M 0 25) = l1 → zCz shM g d mX9_bad [.ref 0, .int 1] M (fun b1 M1 => Q b1 M1))) : zCz shM g (d + 1) mX9_need [.ref 0, .int l1] M Q := by
  refine zW.enter (by decide +kernel) (Nat.le_of_ble_eq_true rfl) ?_
  change zW shM g (d + 1) mX9_need (zz Q) 0 [(0, .ref 0), (1, .int l1)] [] M
  refine z_aload_n dX9_need_0 0 rfl ?_
  refine z_geti shM_0 rfl flX9_204 dX9_need_1 ?_
  refine z_iload_n dX9_need_4 1 rfl ?_
  refine z_icmp_eq 14 dX9_need_5 (by decide) (fun c1 => ?_) (fun c1 => ?_)
  · have h := h.1 c1
    refine z_aload_n dX9_need_14 0 rfl ?_
    refine z_callV (m2 := mX9_next0) (st := []) [] okX9_next0 (Or.inl lkX9_228) shM_0 rfl rfl rfl (Nat.le_of_ble_eq_true rfl) dX9_need_15 (zgo_v h fun  M1 h => ?_)
    refine z_iconst (v := 1) dX9_need_18 (by decide) ?_
    exact z_zret (b := true) rfl rfl dX9_need_19 h
  · have h := h.2 c1
    refine z_aload_n dX9_need_8 0 rfl ?_
    refine z_iconst (v := 1) dX9_need_9 (by decide) ?_
    refine z_callV (m2 := mX9_bad) (st := []) [.int 1] okX9_bad (Or.inl lkX9_225) shM_0 rfl rfl rfl (Nat.le_of_ble_eq_true rfl) dX9_need_10 (zgo_z h fun b1 M1 h => ?_)
    exact z_zret rfl rfl dX9_need_13 h
theorem dX9_lay_0 : decode cX9_lay 0 = .ok (.aload_n 0, 1) := by decide +kernel
theorem dX9_lay_1 : decode cX9_lay 1 = .ok (.getfield 25, 3) := by decide +kernel
theorem dX9_lay_4 : decode cX9_lay 4 = .ok (.iconst 2, 1) := by decide +kernel
theorem dX9_lay_5 : decode cX9_lay 5 = .ok (.aload_n 0, 1) := by decide +kernel
theorem dX9_lay_6 : decode cX9_lay 6 = .ok (.getfield 231, 3) := by decide +kernel
theorem dX9_lay_9 : decode cX9_lay 9 = .ok (.imul, 1) := by decide +kernel
theorem dX9_lay_10 : decode cX9_lay 10 = .ok (.iload_n 1, 1) := by decide +kernel
theorem dX9_lay_11 : decode cX9_lay 11 = .ok (.iastore, 1) := by decide +kernel
theorem dX9_lay_12 : decode cX9_lay 12 = .ok (.aload_n 0, 1) := by decide +kernel
theorem dX9_lay_13 : decode cX9_lay 13 = .ok (.getfield 25, 3) := by decide +kernel
theorem dX9_lay_16 : decode cX9_lay 16 = .ok (.iconst 2, 1) := by decide +kernel
theorem dX9_lay_17 : decode cX9_lay 17 = .ok (.aload_n 0, 1) := by decide +kernel
theorem dX9_lay_18 : decode cX9_lay 18 = .ok (.getfield 231, 3) := by decide +kernel
theorem dX9_lay_21 : decode cX9_lay 21 = .ok (.imul, 1) := by decide +kernel
theorem dX9_lay_22 : decode cX9_lay 22 = .ok (.iconst 1, 1) := by decide +kernel
theorem dX9_lay_23 : decode cX9_lay 23 = .ok (.iadd, 1) := by decide +kernel
theorem dX9_lay_24 : decode cX9_lay 24 = .ok (.iload_n 2, 1) := by decide +kernel
theorem dX9_lay_25 : decode cX9_lay 25 = .ok (.iastore, 1) := by decide +kernel
theorem dX9_lay_26 : decode cX9_lay 26 = .ok (.aload_n 0, 1) := by decide +kernel
theorem dX9_lay_27 : decode cX9_lay 27 = .ok (.dup, 1) := by decide +kernel
theorem dX9_lay_28 : decode cX9_lay 28 = .ok (.getfield 231, 3) := by decide +kernel
theorem dX9_lay_31 : decode cX9_lay 31 = .ok (.iconst 1, 1) := by decide +kernel
theorem dX9_lay_32 : decode cX9_lay 32 = .ok (.iadd, 1) := by decide +kernel
theorem dX9_lay_33 : decode cX9_lay 33 = .ok (.putfield 231, 3) := by decide +kernel
theorem dX9_lay_36 : decode cX9_lay 36 = .ok (.return_, 1) := by decide +kernel
set_option maxRecDepth 20000 in
theorem vX9_lay {g : zG} {d : Nat} {Q : zM → Prop} {M : zM} {l1 : Int32} {l2 : Int32} (h : ∃ k1 : Nat, (2 * (M 0 18)) = iv k1 ∧ k1 < 820 ∧ ∃ k2 : Nat, ((2 * ((zup M 6 k1 l1) 0 18)) + 1) = iv k2 ∧ k2 < 820 ∧ Q (zup (zup (zup M 6 k1 l1) 6 k2 l2) 0 18 (((zup (zup M 6 k1 l1) 6 k2 l2) 0 18) + 1))) : zCv shM g d mX9_lay [.ref 0, .int l1, .int l2] M Q := by
  refine zW.enter (by decide +kernel) (Nat.le_of_ble_eq_true rfl) ?_
  change zW shM g d mX9_lay (zv Q) 0 [(0, .ref 0), (1, .int l1), (2, .int l2)] [] M
  refine z_aload_n dX9_lay_0 0 rfl ?_
  refine z_getr shM_0 rfl flX9_25 dX9_lay_1 ?_
  refine z_iconst (v := 2) dX9_lay_4 (by decide) ?_
  refine z_aload_n dX9_lay_5 0 rfl ?_
  refine z_geti shM_0 rfl flX9_231 dX9_lay_6 ?_
  refine z_imul dX9_lay_9 ?_
  refine z_iload_n dX9_lay_10 1 rfl ?_
  obtain ⟨k1, ek1, uk1, h⟩ := h
  refine z_iast2 (k0 := k1) shM_6 (by decide) ek1 uk1 dX9_lay_11 ?_
  refine z_aload_n dX9_lay_12 0 rfl ?_
  refine z_getr shM_0 rfl flX9_25 dX9_lay_13 ?_
  refine z_iconst (v := 2) dX9_lay_16 (by decide) ?_
  refine z_aload_n dX9_lay_17 0 rfl ?_
  refine z_geti shM_0 rfl flX9_231 dX9_lay_18 ?_
  refine z_imul dX9_lay_21 ?_
  refine z_iconst (v := 1) dX9_lay_22 (by decide) ?_
  refine z_iadd dX9_lay_23 ?_
  refine z_iload_n dX9_lay_24 2 rfl ?_
  obtain ⟨k2, ek2, uk2, h⟩ := h
  refine z_iast2 (k0 := k2) shM_6 (by decide) ek2 uk2 dX9_lay_25 ?_
  refine z_aload_n dX9_lay_26 0 rfl ?_
  refine z_dupr dX9_lay_27 ?_
  refine z_geti shM_0 rfl flX9_231 dX9_lay_28 ?_
  refine z_iconst (v := 1) dX9_lay_31 (by decide) ?_
  refine z_iadd dX9_lay_32 ?_
  refine z_puti shM_0 rfl fpX9_231 rfl rfl dX9_lay_33 ?_
  exact z_vret (st := []) rfl dX9_lay_36 ⟨rfl, h⟩
theorem dX9_opens_0 : decode cX9_opens 0 = .ok (.aload_n 0, 1) := by decide +kernel
theorem dX9_opens_1 : decode cX9_opens 1 = .ok (.getfield 234, 3) := by decide +kernel
theorem dX9_opens_4 : decode cX9_opens 4 = .ok (.bipush 8, 2) := by decide +kernel
theorem dX9_opens_6 : decode cX9_opens 6 = .ok (.if_icmp .ne 9, 3) := by decide +kernel
theorem dX9_opens_9 : decode cX9_opens 9 = .ok (.aload_n 0, 1) := by decide +kernel
theorem dX9_opens_10 : decode cX9_opens 10 = .ok (.iconst 3, 1) := by decide +kernel
theorem dX9_opens_11 : decode cX9_opens 11 = .ok (.invokevirtual 225, 3) := by decide +kernel
theorem dX9_opens_14 : decode cX9_opens 14 = .ok (.ireturn, 1) := by decide +kernel
theorem dX9_opens_15 : decode cX9_opens 15 = .ok (.aload_n 0, 1) := by decide +kernel
theorem dX9_opens_16 : decode cX9_opens 16 = .ok (.dup, 1) := by decide +kernel
theorem dX9_opens_17 : decode cX9_opens 17 = .ok (.getfield 234, 3) := by decide +kernel
theorem dX9_opens_20 : decode cX9_opens 20 = .ok (.iconst 1, 1) := by decide +kernel
theorem dX9_opens_21 : decode cX9_opens 21 = .ok (.iadd, 1) := by decide +kernel
theorem dX9_opens_22 : decode cX9_opens 22 = .ok (.putfield 234, 3) := by decide +kernel
theorem dX9_opens_25 : decode cX9_opens 25 = .ok (.aload_n 0, 1) := by decide +kernel
theorem dX9_opens_26 : decode cX9_opens 26 = .ok (.invokevirtual 228, 3) := by decide +kernel
theorem dX9_opens_29 : decode cX9_opens 29 = .ok (.iconst 1, 1) := by decide +kernel
theorem dX9_opens_30 : decode cX9_opens 30 = .ok (.ireturn, 1) := by decide +kernel
set_option maxRecDepth 20000 in
theorem vX9_opens {g : zG} {d : Nat} {Q : Bool → zM → Prop} {M : zM} (h : (¬ (M 0 31) = 8 → zCv shM g d mX9_next0 [.ref 0] (zup M 0 31 ((M 0 31) + 1)) (fun  M1 => Q true M1)) ∧ ((M 0 31) = 8 → zCz shM g d mX9_bad [.ref 0, .int 3] M (fun b1 M1 => Q b1 M1))) : zCz shM g (d + 1) mX9_opens [.ref 0] M Q := by
  refine zW.enter (by decide +kernel) (Nat.le_of_ble_eq_true rfl) ?_
  change zW shM g (d + 1) mX9_opens (zz Q) 0 [(0, .ref 0)] [] M
  refine z_aload_n dX9_opens_0 0 rfl ?_
  refine z_geti shM_0 rfl flX9_234 dX9_opens_1 ?_
  refine z_bipush (v := 8) dX9_opens_4 (by decide) ?_
  refine z_icmp_ne 15 dX9_opens_6 (by decide) (fun c1 => ?_) (fun c1 => ?_)
  · have h := h.1 c1
    refine z_aload_n dX9_opens_15 0 rfl ?_
    refine z_dupr dX9_opens_16 ?_
    refine z_geti shM_0 rfl flX9_234 dX9_opens_17 ?_
    refine z_iconst (v := 1) dX9_opens_20 (by decide) ?_
    refine z_iadd dX9_opens_21 ?_
    refine z_puti shM_0 rfl fpX9_234 rfl rfl dX9_opens_22 ?_
    refine z_aload_n dX9_opens_25 0 rfl ?_
    refine z_callV (m2 := mX9_next0) (st := []) [] okX9_next0 (Or.inl lkX9_228) shM_0 rfl rfl rfl (Nat.le_of_ble_eq_true rfl) dX9_opens_26 (zgo_v h fun  M1 h => ?_)
    refine z_iconst (v := 1) dX9_opens_29 (by decide) ?_
    exact z_zret (b := true) rfl rfl dX9_opens_30 h
  · have h := h.2 c1
    refine z_aload_n dX9_opens_9 0 rfl ?_
    refine z_iconst (v := 3) dX9_opens_10 (by decide) ?_
    refine z_callV (m2 := mX9_bad) (st := []) [.int 3] okX9_bad (Or.inl lkX9_225) shM_0 rfl rfl rfl (Nat.le_of_ble_eq_true rfl) dX9_opens_11 (zgo_z h fun b1 M1 h => ?_)
    exact z_zret rfl rfl dX9_opens_14 h
theorem dX9_sumUp_0 : decode cX9_sumUp 0 = .ok (.aload_n 0, 1) := by decide +kernel
theorem dX9_sumUp_1 : decode cX9_sumUp 1 = .ok (.invokevirtual 236, 3) := by decide +kernel
theorem dX9_sumUp_4 : decode cX9_sumUp 4 = .ok (.ifCond .ne 5, 3) := by decide +kernel
theorem dX9_sumUp_7 : decode cX9_sumUp 7 = .ok (.iconst 0, 1) := by decide +kernel
theorem dX9_sumUp_8 : decode cX9_sumUp 8 = .ok (.ireturn, 1) := by decide +kernel
theorem dX9_sumUp_9 : decode cX9_sumUp 9 = .ok (.aload_n 0, 1) := by decide +kernel
theorem dX9_sumUp_10 : decode cX9_sumUp 10 = .ok (.getfield 204, 3) := by decide +kernel
theorem dX9_sumUp_13 : decode cX9_sumUp 13 = .ok (.sipush 143, 3) := by decide +kernel
theorem dX9_sumUp_16 : decode cX9_sumUp 16 = .ok (.if_icmp .eq 13, 3) := by decide +kernel
theorem dX9_sumUp_19 : decode cX9_sumUp 19 = .ok (.aload_n 0, 1) := by decide +kernel
theorem dX9_sumUp_20 : decode cX9_sumUp 20 = .ok (.getfield 204, 3) := by decide +kernel
theorem dX9_sumUp_23 : decode cX9_sumUp 23 = .ok (.sipush 145, 3) := by decide +kernel
theorem dX9_sumUp_26 : decode cX9_sumUp 26 = .ok (.if_icmp .ne 43, 3) := by decide +kernel
theorem dX9_sumUp_29 : decode cX9_sumUp 29 = .ok (.aload_n 0, 1) := by decide +kernel
theorem dX9_sumUp_30 : decode cX9_sumUp 30 = .ok (.getfield 204, 3) := by decide +kernel
theorem dX9_sumUp_33 : decode cX9_sumUp 33 = .ok (.sipush 143, 3) := by decide +kernel
theorem dX9_sumUp_36 : decode cX9_sumUp 36 = .ok (.if_icmp .ne 8, 3) := by decide +kernel
theorem dX9_sumUp_39 : decode cX9_sumUp 39 = .ok (.bipush 23, 2) := by decide +kernel
theorem dX9_sumUp_41 : decode cX9_sumUp 41 = .ok (.goto 5, 3) := by decide +kernel
theorem dX9_sumUp_44 : decode cX9_sumUp 44 = .ok (.bipush 24, 2) := by decide +kernel
theorem dX9_sumUp_46 : decode cX9_sumUp 46 = .ok (.istore_n 1, 1) := by decide +kernel
theorem dX9_sumUp_47 : decode cX9_sumUp 47 = .ok (.aload_n 0, 1) := by decide +kernel
theorem dX9_sumUp_48 : decode cX9_sumUp 48 = .ok (.invokevirtual 228, 3) := by decide +kernel
theorem dX9_sumUp_51 : decode cX9_sumUp 51 = .ok (.aload_n 0, 1) := by decide +kernel
theorem dX9_sumUp_52 : decode cX9_sumUp 52 = .ok (.invokevirtual 236, 3) := by decide +kernel
theorem dX9_sumUp_55 : decode cX9_sumUp 55 = .ok (.ifCond .ne 5, 3) := by decide +kernel
theorem dX9_sumUp_58 : decode cX9_sumUp 58 = .ok (.iconst 0, 1) := by decide +kernel
theorem dX9_sumUp_59 : decode cX9_sumUp 59 = .ok (.ireturn, 1) := by decide +kernel
theorem dX9_sumUp_60 : decode cX9_sumUp 60 = .ok (.aload_n 0, 1) := by decide +kernel
theorem dX9_sumUp_61 : decode cX9_sumUp 61 = .ok (.iload_n 1, 1) := by decide +kernel
theorem dX9_sumUp_62 : decode cX9_sumUp 62 = .ok (.iconst 0, 1) := by decide +kernel
theorem dX9_sumUp_63 : decode cX9_sumUp 63 = .ok (.invokevirtual 240, 3) := by decide +kernel
theorem dX9_sumUp_66 : decode cX9_sumUp 66 = .ok (.goto (-57), 3) := by decide +kernel
theorem dX9_sumUp_69 : decode cX9_sumUp 69 = .ok (.iconst 1, 1) := by decide +kernel
theorem dX9_sumUp_70 : decode cX9_sumUp 70 = .ok (.ireturn, 1) := by decide +kernel
set_option maxRecDepth 20000 in
theorem vX9_sumUp {g : zG} {d : Nat} {Q : Bool → zM → Prop} {M : zM} (h : zCz shM g d mX9_product [.ref 0] M (fun b1 M1 => (b1 = true → zW shM g (d + 1) mX9_sumUp (zz Q) 9 [(0, .ref 0)] [] M1) ∧ (b1 = false → Q false M1))) : zCz shM g (d + 1) mX9_sumUp [.ref 0] M Q := by
  refine zW.enter (by decide +kernel) (Nat.le_of_ble_eq_true rfl) ?_
  change zW shM g (d + 1) mX9_sumUp (zz Q) 0 [(0, .ref 0)] [] M
  refine z_aload_n dX9_sumUp_0 0 rfl ?_
  refine z_callV (m2 := mX9_product) (st := []) [] okX9_product (Or.inl lkX9_236) shM_0 rfl rfl rfl (Nat.le_of_ble_eq_true rfl) dX9_sumUp_1 (zgo_z h fun b1 M1 h => ?_)
  refine z_ifb_ne 9 dX9_sumUp_4 (by decide) (fun c1 => ?_) (fun c1 => ?_)
  · have h := h.1 c1
    exact h
  · have h := h.2 c1
    refine z_iconst (v := 0) dX9_sumUp_7 (by decide) ?_
    exact z_zret (b := false) rfl rfl dX9_sumUp_8 h
set_option maxRecDepth 20000 in
theorem vX9_sumUp_9 {g : zG} {d : Nat} {Q : Bool → zM → Prop} {M : zM} (h : ((M 0 25) = 143 → zW shM g (d + 1) mX9_sumUp (zz Q) 29 [(0, .ref 0)] [] M) ∧ (¬ (M 0 25) = 143 → (¬ (M 0 25) = 145 → Q true M) ∧ ((M 0 25) = 145 → zW shM g (d + 1) mX9_sumUp (zz Q) 29 [(0, .ref 0)] [] M))) : zW shM g (d + 1) mX9_sumUp (zz Q) 9 [(0, .ref 0)] [] M := by
  refine z_aload_n dX9_sumUp_9 0 rfl ?_
  refine z_geti shM_0 rfl flX9_204 dX9_sumUp_10 ?_
  refine z_sipush (v := 143) dX9_sumUp_13 (by decide) ?_
  refine z_icmp_eq 29 dX9_sumUp_16 (by decide) (fun c1 => ?_) (fun c1 => ?_)
  · have h := h.1 c1
    exact h
  · have h := h.2 c1
    refine z_aload_n dX9_sumUp_19 0 rfl ?_
    refine z_geti shM_0 rfl flX9_204 dX9_sumUp_20 ?_
    refine z_sipush (v := 145) dX9_sumUp_23 (by decide) ?_
    refine z_icmp_ne 69 dX9_sumUp_26 (by decide) (fun c2 => ?_) (fun c2 => ?_)
    · have h := h.1 c2
      refine z_iconst (v := 1) dX9_sumUp_69 (by decide) ?_
      exact z_zret (b := true) rfl rfl dX9_sumUp_70 h
    · have h := h.2 c2
      exact h
set_option maxRecDepth 20000 in
theorem vX9_sumUp_29 {g : zG} {d : Nat} {Q : Bool → zM → Prop} {M : zM} (h : (¬ (M 0 25) = 143 → zW shM g (d + 1) mX9_sumUp (zz Q) 46 [(0, .ref 0)] [.int 24] M) ∧ ((M 0 25) = 143 → zW shM g (d + 1) mX9_sumUp (zz Q) 46 [(0, .ref 0)] [.int 23] M)) : zW shM g (d + 1) mX9_sumUp (zz Q) 29 [(0, .ref 0)] [] M := by
  refine z_aload_n dX9_sumUp_29 0 rfl ?_
  refine z_geti shM_0 rfl flX9_204 dX9_sumUp_30 ?_
  refine z_sipush (v := 143) dX9_sumUp_33 (by decide) ?_
  refine z_icmp_ne 44 dX9_sumUp_36 (by decide) (fun c1 => ?_) (fun c1 => ?_)
  · have h := h.1 c1
    refine z_bipush (v := 24) dX9_sumUp_44 (by decide) ?_
    exact h
  · have h := h.2 c1
    refine z_bipush (v := 23) dX9_sumUp_39 (by decide) ?_
    refine z_goto 46 dX9_sumUp_41 (by decide) ?_
    exact h
set_option maxRecDepth 20000 in
theorem vX9_sumUp_46 {g : zG} {d : Nat} {Q : Bool → zM → Prop} {M : zM} {s0 : Int32} (h : zCv shM g d mX9_next0 [.ref 0] M (fun  M1 => zCz shM g d mX9_product [.ref 0] M1 (fun b1 M2 => (b1 = true → zCv shM g d mX9_lay [.ref 0, .int s0, .int 0] M2 (fun  M3 => zW shM g (d + 1) mX9_sumUp (zz Q) 9 [(0, .ref 0)] [] M3)) ∧ (b1 = false → Q false M2)))) : zW shM g (d + 1) mX9_sumUp (zz Q) 46 [(0, .ref 0)] [.int s0] M := by
  refine z_istore_n [(1, .int s0), (0, .ref 0)] dX9_sumUp_46 (by decide) rfl ?_
  refine z_aload_n dX9_sumUp_47 1 rfl ?_
  refine z_callV (m2 := mX9_next0) (st := []) [] okX9_next0 (Or.inl lkX9_228) shM_0 rfl rfl rfl (Nat.le_of_ble_eq_true rfl) dX9_sumUp_48 (zgo_v h fun  M1 h => ?_)
  refine z_aload_n dX9_sumUp_51 1 rfl ?_
  refine z_callV (m2 := mX9_product) (st := []) [] okX9_product (Or.inl lkX9_236) shM_0 rfl rfl rfl (Nat.le_of_ble_eq_true rfl) dX9_sumUp_52 (zgo_z h fun b1 M2 h => ?_)
  refine z_ifb_ne 60 dX9_sumUp_55 (by decide) (fun c1 => ?_) (fun c1 => ?_)
  · have h := h.1 c1
    refine z_aload_n dX9_sumUp_60 1 rfl ?_
    refine z_iload_n dX9_sumUp_61 0 rfl ?_
    refine z_iconst (v := 0) dX9_sumUp_62 (by decide) ?_
    refine z_callV (m2 := mX9_lay) (st := []) [.int s0, .int 0] okX9_lay (Or.inl lkX9_240) shM_0 rfl rfl rfl (Nat.le_of_ble_eq_true rfl) dX9_sumUp_63 (zgo_v h fun  M3 h => ?_)
    refine z_goto 9 dX9_sumUp_66 (by decide) ?_
    exact zW.sub [1] rfl h
  · have h := h.2 c1
    refine z_iconst (v := 0) dX9_sumUp_58 (by decide) ?_
    exact z_zret (b := false) rfl rfl dX9_sumUp_59 h
theorem dX9_product_0 : decode cX9_product 0 = .ok (.aload_n 0, 1) := by decide +kernel
theorem dX9_product_1 : decode cX9_product 1 = .ok (.invokevirtual 243, 3) := by decide +kernel
theorem dX9_product_4 : decode cX9_product 4 = .ok (.ifCond .ne 5, 3) := by decide +kernel
theorem dX9_product_7 : decode cX9_product 7 = .ok (.iconst 0, 1) := by decide +kernel
theorem dX9_product_8 : decode cX9_product 8 = .ok (.ireturn, 1) := by decide +kernel
theorem dX9_product_9 : decode cX9_product 9 = .ok (.aload_n 0, 1) := by decide +kernel
theorem dX9_product_10 : decode cX9_product 10 = .ok (.getfield 204, 3) := by decide +kernel
theorem dX9_product_13 : decode cX9_product 13 = .ok (.sipush 142, 3) := by decide +kernel
theorem dX9_product_16 : decode cX9_product 16 = .ok (.if_icmp .eq 13, 3) := by decide +kernel
theorem dX9_product_19 : decode cX9_product 19 = .ok (.aload_n 0, 1) := by decide +kernel
theorem dX9_product_20 : decode cX9_product 20 = .ok (.getfield 204, 3) := by decide +kernel
theorem dX9_product_23 : decode cX9_product 23 = .ok (.sipush 147, 3) := by decide +kernel
theorem dX9_product_26 : decode cX9_product 26 = .ok (.if_icmp .ne 89, 3) := by decide +kernel
theorem dX9_product_29 : decode cX9_product 29 = .ok (.aload_n 0, 1) := by decide +kernel
theorem dX9_product_30 : decode cX9_product 30 = .ok (.getfield 204, 3) := by decide +kernel
theorem dX9_product_33 : decode cX9_product 33 = .ok (.sipush 147, 3) := by decide +kernel
theorem dX9_product_36 : decode cX9_product 36 = .ok (.if_icmp .ne 7, 3) := by decide +kernel
theorem dX9_product_39 : decode cX9_product 39 = .ok (.iconst 1, 1) := by decide +kernel
theorem dX9_product_40 : decode cX9_product 40 = .ok (.goto 4, 3) := by decide +kernel
theorem dX9_product_43 : decode cX9_product 43 = .ok (.iconst 0, 1) := by decide +kernel
theorem dX9_product_44 : decode cX9_product 44 = .ok (.istore_n 1, 1) := by decide +kernel
theorem dX9_product_45 : decode cX9_product 45 = .ok (.aload_n 0, 1) := by decide +kernel
theorem dX9_product_46 : decode cX9_product 46 = .ok (.invokevirtual 228, 3) := by decide +kernel
theorem dX9_product_49 : decode cX9_product 49 = .ok (.iload_n 1, 1) := by decide +kernel
theorem dX9_product_50 : decode cX9_product 50 = .ok (.ifCond .eq 46, 3) := by decide +kernel
theorem dX9_product_53 : decode cX9_product 53 = .ok (.aload_n 0, 1) := by decide +kernel
theorem dX9_product_54 : decode cX9_product 54 = .ok (.getfield 216, 3) := by decide +kernel
theorem dX9_product_57 : decode cX9_product 57 = .ok (.istore_n 2, 1) := by decide +kernel
theorem dX9_product_58 : decode cX9_product 58 = .ok (.aload_n 0, 1) := by decide +kernel
theorem dX9_product_59 : decode cX9_product 59 = .ok (.getfield 204, 3) := by decide +kernel
theorem dX9_product_62 : decode cX9_product 62 = .ok (.iconst 2, 1) := by decide +kernel
theorem dX9_product_63 : decode cX9_product 63 = .ok (.if_icmp .eq 9, 3) := by decide +kernel
theorem dX9_product_66 : decode cX9_product 66 = .ok (.aload_n 0, 1) := by decide +kernel
theorem dX9_product_67 : decode cX9_product 67 = .ok (.iconst 1, 1) := by decide +kernel
theorem dX9_product_68 : decode cX9_product 68 = .ok (.invokevirtual 225, 3) := by decide +kernel
theorem dX9_product_71 : decode cX9_product 71 = .ok (.ireturn, 1) := by decide +kernel
theorem dX9_product_72 : decode cX9_product 72 = .ok (.iload_n 2, 1) := by decide +kernel
theorem dX9_product_73 : decode cX9_product 73 = .ok (.ifCond .ne 9, 3) := by decide +kernel
theorem dX9_product_76 : decode cX9_product 76 = .ok (.aload_n 0, 1) := by decide +kernel
theorem dX9_product_77 : decode cX9_product 77 = .ok (.iconst 2, 1) := by decide +kernel
theorem dX9_product_78 : decode cX9_product 78 = .ok (.invokevirtual 225, 3) := by decide +kernel
theorem dX9_product_81 : decode cX9_product 81 = .ok (.ireturn, 1) := by decide +kernel
theorem dX9_product_82 : decode cX9_product 82 = .ok (.aload_n 0, 1) := by decide +kernel
theorem dX9_product_83 : decode cX9_product 83 = .ok (.invokevirtual 228, 3) := by decide +kernel
theorem dX9_product_86 : decode cX9_product 86 = .ok (.aload_n 0, 1) := by decide +kernel
theorem dX9_product_87 : decode cX9_product 87 = .ok (.bipush 26, 2) := by decide +kernel
theorem dX9_product_89 : decode cX9_product 89 = .ok (.iload_n 2, 1) := by decide +kernel
theorem dX9_product_90 : decode cX9_product 90 = .ok (.invokevirtual 240, 3) := by decide +kernel
theorem dX9_product_93 : decode cX9_product 93 = .ok (.goto 19, 3) := by decide +kernel
theorem dX9_product_96 : decode cX9_product 96 = .ok (.aload_n 0, 1) := by decide +kernel
theorem dX9_product_97 : decode cX9_product 97 = .ok (.invokevirtual 243, 3) := by decide +kernel
theorem dX9_product_100 : decode cX9_product 100 = .ok (.ifCond .ne 5, 3) := by decide +kernel
theorem dX9_product_103 : decode cX9_product 103 = .ok (.iconst 0, 1) := by decide +kernel
theorem dX9_product_104 : decode cX9_product 104 = .ok (.ireturn, 1) := by decide +kernel
theorem dX9_product_105 : decode cX9_product 105 = .ok (.aload_n 0, 1) := by decide +kernel
theorem dX9_product_106 : decode cX9_product 106 = .ok (.bipush 25, 2) := by decide +kernel
theorem dX9_product_108 : decode cX9_product 108 = .ok (.iconst 0, 1) := by decide +kernel
theorem dX9_product_109 : decode cX9_product 109 = .ok (.invokevirtual 240, 3) := by decide +kernel
theorem dX9_product_112 : decode cX9_product 112 = .ok (.goto (-103), 3) := by decide +kernel
theorem dX9_product_115 : decode cX9_product 115 = .ok (.iconst 1, 1) := by decide +kernel
theorem dX9_product_116 : decode cX9_product 116 = .ok (.ireturn, 1) := by decide +kernel
set_option maxRecDepth 20000 in
theorem vX9_product {g : zG} {d : Nat} {Q : Bool → zM → Prop} {M : zM} (h : zCz shM g d mX9_unit [.ref 0] M (fun b1 M1 => (b1 = true → zW shM g (d + 1) mX9_product (zz Q) 9 [(0, .ref 0)] [] M1) ∧ (b1 = false → Q false M1))) : zCz shM g (d + 1) mX9_product [.ref 0] M Q := by
  refine zW.enter (by decide +kernel) (Nat.le_of_ble_eq_true rfl) ?_
  change zW shM g (d + 1) mX9_product (zz Q) 0 [(0, .ref 0)] [] M
  refine z_aload_n dX9_product_0 0 rfl ?_
  refine z_callV (m2 := mX9_unit) (st := []) [] okX9_unit (Or.inl lkX9_243) shM_0 rfl rfl rfl (Nat.le_of_ble_eq_true rfl) dX9_product_1 (zgo_z h fun b1 M1 h => ?_)
  refine z_ifb_ne 9 dX9_product_4 (by decide) (fun c1 => ?_) (fun c1 => ?_)
  · have h := h.1 c1
    exact h
  · have h := h.2 c1
    refine z_iconst (v := 0) dX9_product_7 (by decide) ?_
    exact z_zret (b := false) rfl rfl dX9_product_8 h
set_option maxRecDepth 20000 in
theorem vX9_product_9 {g : zG} {d : Nat} {Q : Bool → zM → Prop} {M : zM} (h : ((M 0 25) = 142 → zW shM g (d + 1) mX9_product (zz Q) 29 [(0, .ref 0)] [] M) ∧ (¬ (M 0 25) = 142 → (¬ (M 0 25) = 147 → Q true M) ∧ ((M 0 25) = 147 → zW shM g (d + 1) mX9_product (zz Q) 29 [(0, .ref 0)] [] M))) : zW shM g (d + 1) mX9_product (zz Q) 9 [(0, .ref 0)] [] M := by
  refine z_aload_n dX9_product_9 0 rfl ?_
  refine z_geti shM_0 rfl flX9_204 dX9_product_10 ?_
  refine z_sipush (v := 142) dX9_product_13 (by decide) ?_
  refine z_icmp_eq 29 dX9_product_16 (by decide) (fun c1 => ?_) (fun c1 => ?_)
  · have h := h.1 c1
    exact h
  · have h := h.2 c1
    refine z_aload_n dX9_product_19 0 rfl ?_
    refine z_geti shM_0 rfl flX9_204 dX9_product_20 ?_
    refine z_sipush (v := 147) dX9_product_23 (by decide) ?_
    refine z_icmp_ne 115 dX9_product_26 (by decide) (fun c2 => ?_) (fun c2 => ?_)
    · have h := h.1 c2
      refine z_iconst (v := 1) dX9_product_115 (by decide) ?_
      exact z_zret (b := true) rfl rfl dX9_product_116 h
    · have h := h.2 c2
      exact h
set_option maxRecDepth 20000 in
theorem vX9_product_29 {g : zG} {d : Nat} {Q : Bool → zM → Prop} {M : zM} (h : (¬ (M 0 25) = 147 → zW shM g (d + 1) mX9_product (zz Q) 44 [(0, .ref 0)] [.int 0] M) ∧ ((M 0 25) = 147 → zW shM g (d + 1) mX9_product (zz Q) 44 [(0, .ref 0)] [.int 1] M)) : zW shM g (d + 1) mX9_product (zz Q) 29 [(0, .ref 0)] [] M := by
  refine z_aload_n dX9_product_29 0 rfl ?_
  refine z_geti shM_0 rfl flX9_204 dX9_product_30 ?_
  refine z_sipush (v := 147) dX9_product_33 (by decide) ?_
  refine z_icmp_ne 43 dX9_product_36 (by decide) (fun c1 => ?_) (fun c1 => ?_)
  · have h := h.1 c1
    refine z_iconst (v := 0) dX9_product_43 (by decide) ?_
    exact h
  · have h := h.2 c1
    refine z_iconst (v := 1) dX9_product_39 (by decide) ?_
    refine z_goto 44 dX9_product_40 (by decide) ?_
    exact h
set_option maxRecDepth 20000 in
theorem vX9_product_44 {g : zG} {d : Nat} {Q : Bool → zM → Prop} {M : zM} {s0 : Int32} (h : zCv shM g d mX9_next0 [.ref 0] M (fun  M1 => (s0 = 0 → zCz shM g d mX9_unit [.ref 0] M1 (fun b1 M2 => (b1 = true → zCv shM g d mX9_lay [.ref 0, .int 25, .int 0] M2 (fun  M3 => zW shM g (d + 1) mX9_product (zz Q) 9 [(0, .ref 0)] [] M3)) ∧ (b1 = false → Q false M2))) ∧ (¬ s0 = 0 → ((M1 0 25) = 2 → (¬ (M1 0 27) = 0 → zCv shM g d mX9_next0 [.ref 0] M1 (fun  M2 => zCv shM g d mX9_lay [.ref 0, .int 26, .int (M1 0 27)] M2 (fun  M3 => zW shM g (d + 1) mX9_product (zz Q) 9 [(0, .ref 0)] [] M3))) ∧ ((M1 0 27) = 0 → zCz shM g d mX9_bad [.ref 0, .int 2] M1 (fun b1 M2 => Q b1 M2))) ∧ (¬ (M1 0 25) = 2 → zCz shM g d mX9_bad [.ref 0, .int 1] M1 (fun b1 M2 => Q b1 M2))))) : zW shM g (d + 1) mX9_product (zz Q) 44 [(0, .ref 0)] [.int s0] M := by
  refine z_istore_n [(1, .int s0), (0, .ref 0)] dX9_product_44 (by decide) rfl ?_
  refine z_aload_n dX9_product_45 1 rfl ?_
  refine z_callV (m2 := mX9_next0) (st := []) [] okX9_next0 (Or.inl lkX9_228) shM_0 rfl rfl rfl (Nat.le_of_ble_eq_true rfl) dX9_product_46 (zgo_v h fun  M1 h => ?_)
  refine z_iload_n dX9_product_49 0 rfl ?_
  refine z_if_eq 96 dX9_product_50 (by decide) (fun c1 => ?_) (fun c1 => ?_)
  · have h := h.1 c1
    refine z_aload_n dX9_product_96 1 rfl ?_
    refine z_callV (m2 := mX9_unit) (st := []) [] okX9_unit (Or.inl lkX9_243) shM_0 rfl rfl rfl (Nat.le_of_ble_eq_true rfl) dX9_product_97 (zgo_z h fun b1 M2 h => ?_)
    refine z_ifb_ne 105 dX9_product_100 (by decide) (fun c2 => ?_) (fun c2 => ?_)
    · have h := h.1 c2
      refine z_aload_n dX9_product_105 1 rfl ?_
      refine z_bipush (v := 25) dX9_product_106 (by decide) ?_
      refine z_iconst (v := 0) dX9_product_108 (by decide) ?_
      refine z_callV (m2 := mX9_lay) (st := []) [.int 25, .int 0] okX9_lay (Or.inl lkX9_240) shM_0 rfl rfl rfl (Nat.le_of_ble_eq_true rfl) dX9_product_109 (zgo_v h fun  M3 h => ?_)
      refine z_goto 9 dX9_product_112 (by decide) ?_
      exact zW.sub [1] rfl h
    · have h := h.2 c2
      refine z_iconst (v := 0) dX9_product_103 (by decide) ?_
      exact z_zret (b := false) rfl rfl dX9_product_104 h
  · have h := h.2 c1
    refine z_aload_n dX9_product_53 1 rfl ?_
    refine z_geti shM_0 rfl flX9_216 dX9_product_54 ?_
    refine z_istore_n [(2, .int (M1 0 27)), (1, .int s0), (0, .ref 0)] dX9_product_57 (by decide) rfl ?_
    refine z_aload_n dX9_product_58 2 rfl ?_
    refine z_geti shM_0 rfl flX9_204 dX9_product_59 ?_
    refine z_iconst (v := 2) dX9_product_62 (by decide) ?_
    refine z_icmp_eq 72 dX9_product_63 (by decide) (fun c2 => ?_) (fun c2 => ?_)
    · have h := h.1 c2
      refine z_iload_n dX9_product_72 0 rfl ?_
      refine z_if_ne 82 dX9_product_73 (by decide) (fun c3 => ?_) (fun c3 => ?_)
      · have h := h.1 c3
        refine z_aload_n dX9_product_82 2 rfl ?_
        refine z_callV (m2 := mX9_next0) (st := []) [] okX9_next0 (Or.inl lkX9_228) shM_0 rfl rfl rfl (Nat.le_of_ble_eq_true rfl) dX9_product_83 (zgo_v h fun  M2 h => ?_)
        refine z_aload_n dX9_product_86 2 rfl ?_
        refine z_bipush (v := 26) dX9_product_87 (by decide) ?_
        refine z_iload_n dX9_product_89 0 rfl ?_
        refine z_callV (m2 := mX9_lay) (st := []) [.int 26, .int (M1 0 27)] okX9_lay (Or.inl lkX9_240) shM_0 rfl rfl rfl (Nat.le_of_ble_eq_true rfl) dX9_product_90 (zgo_v h fun  M3 h => ?_)
        refine z_goto 112 dX9_product_93 (by decide) ?_
        refine z_goto 9 dX9_product_112 (by decide) ?_
        exact zW.sub [2] rfl h
      · have h := h.2 c3
        refine z_aload_n dX9_product_76 2 rfl ?_
        refine z_iconst (v := 2) dX9_product_77 (by decide) ?_
        refine z_callV (m2 := mX9_bad) (st := []) [.int 2] okX9_bad (Or.inl lkX9_225) shM_0 rfl rfl rfl (Nat.le_of_ble_eq_true rfl) dX9_product_78 (zgo_z h fun b1 M2 h => ?_)
        exact z_zret rfl rfl dX9_product_81 h
    · have h := h.2 c2
      refine z_aload_n dX9_product_66 2 rfl ?_
      refine z_iconst (v := 1) dX9_product_67 (by decide) ?_
      refine z_callV (m2 := mX9_bad) (st := []) [.int 1] okX9_bad (Or.inl lkX9_225) shM_0 rfl rfl rfl (Nat.le_of_ble_eq_true rfl) dX9_product_68 (zgo_z h fun b1 M2 h => ?_)
      exact z_zret rfl rfl dX9_product_71 h
theorem dX9_unit_0 : decode cX9_unit 0 = .ok (.aload_n 0, 1) := by decide +kernel
theorem dX9_unit_1 : decode cX9_unit 1 = .ok (.getfield 204, 3) := by decide +kernel
theorem dX9_unit_4 : decode cX9_unit 4 = .ok (.bipush 41, 2) := by decide +kernel
theorem dX9_unit_6 : decode cX9_unit 6 = .ok (.bipush 46, 2) := by decide +kernel
theorem dX9_unit_8 : decode cX9_unit 8 = .ok (.invokestatic 97, 3) := by decide +kernel
theorem dX9_unit_11 : decode cX9_unit 11 = .ok (.istore_n 1, 1) := by decide +kernel
theorem dX9_unit_12 : decode cX9_unit 12 = .ok (.aload_n 0, 1) := by decide +kernel
theorem dX9_unit_13 : decode cX9_unit 13 = .ok (.getfield 204, 3) := by decide +kernel
theorem dX9_unit_16 : decode cX9_unit 16 = .ok (.iconst 2, 1) := by decide +kernel
theorem dX9_unit_17 : decode cX9_unit 17 = .ok (.if_icmp .eq 13, 3) := by decide +kernel
theorem dX9_unit_20 : decode cX9_unit 20 = .ok (.iload_n 1, 1) := by decide +kernel
theorem dX9_unit_21 : decode cX9_unit 21 = .ok (.ifCond .ne 9, 3) := by decide +kernel
theorem dX9_unit_24 : decode cX9_unit 24 = .ok (.aload_n 0, 1) := by decide +kernel
theorem dX9_unit_25 : decode cX9_unit 25 = .ok (.iconst 1, 1) := by decide +kernel
theorem dX9_unit_26 : decode cX9_unit 26 = .ok (.invokevirtual 225, 3) := by decide +kernel
theorem dX9_unit_29 : decode cX9_unit 29 = .ok (.ireturn, 1) := by decide +kernel
theorem dX9_unit_30 : decode cX9_unit 30 = .ok (.aload_n 0, 1) := by decide +kernel
theorem dX9_unit_31 : decode cX9_unit 31 = .ok (.iload_n 1, 1) := by decide +kernel
theorem dX9_unit_32 : decode cX9_unit 32 = .ok (.ifCond .eq 13, 3) := by decide +kernel
theorem dX9_unit_35 : decode cX9_unit 35 = .ok (.aload_n 0, 1) := by decide +kernel
theorem dX9_unit_36 : decode cX9_unit 36 = .ok (.getfield 204, 3) := by decide +kernel
theorem dX9_unit_39 : decode cX9_unit 39 = .ok (.bipush 40, 2) := by decide +kernel
theorem dX9_unit_41 : decode cX9_unit 41 = .ok (.isub, 1) := by decide +kernel
theorem dX9_unit_42 : decode cX9_unit 42 = .ok (.goto 4, 3) := by decide +kernel
theorem dX9_unit_45 : decode cX9_unit 45 = .ok (.iconst 0, 1) := by decide +kernel
theorem dX9_unit_46 : decode cX9_unit 46 = .ok (.aload_n 0, 1) := by decide +kernel
theorem dX9_unit_47 : decode cX9_unit 47 = .ok (.getfield 216, 3) := by decide +kernel
theorem dX9_unit_50 : decode cX9_unit 50 = .ok (.invokevirtual 240, 3) := by decide +kernel
theorem dX9_unit_53 : decode cX9_unit 53 = .ok (.aload_n 0, 1) := by decide +kernel
theorem dX9_unit_54 : decode cX9_unit 54 = .ok (.invokevirtual 228, 3) := by decide +kernel
theorem dX9_unit_57 : decode cX9_unit 57 = .ok (.iconst 1, 1) := by decide +kernel
theorem dX9_unit_58 : decode cX9_unit 58 = .ok (.ireturn, 1) := by decide +kernel
set_option maxRecDepth 20000 in
theorem vX9_unit {g : zG} {d : Nat} {Q : Bool → zM → Prop} {M : zM} (h : zCz shM g d mX9_isIn [.int (M 0 25), .int 41, .int 46] M (fun b1 M1 => ((M1 0 25) = 2 → zW shM g (d + 1) mX9_unit (zz Q) 30 [(0, .ref 0), (1, .int (zbI b1))] [] M1) ∧ (¬ (M1 0 25) = 2 → (b1 = true → zW shM g (d + 1) mX9_unit (zz Q) 30 [(0, .ref 0), (1, .int (zbI b1))] [] M1) ∧ (b1 = false → zCz shM g d mX9_bad [.ref 0, .int 1] M1 (fun b2 M2 => Q b2 M2))))) : zCz shM g (d + 1) mX9_unit [.ref 0] M Q := by
  refine zW.enter (by decide +kernel) (Nat.le_of_ble_eq_true rfl) ?_
  change zW shM g (d + 1) mX9_unit (zz Q) 0 [(0, .ref 0)] [] M
  refine z_aload_n dX9_unit_0 0 rfl ?_
  refine z_geti shM_0 rfl flX9_204 dX9_unit_1 ?_
  refine z_bipush (v := 41) dX9_unit_4 (by decide) ?_
  refine z_bipush (v := 46) dX9_unit_6 (by decide) ?_
  refine z_callS (m2 := mX9_isIn) (st := []) [.int (M 0 25), .int 41, .int 46] okX9_isIn (Or.inl lkX9_97) rfl rfl (Nat.le_of_ble_eq_true rfl) dX9_unit_8 (zgo_z h fun b1 M1 h => ?_)
  refine z_istore_n [(1, .int (zbI b1)), (0, .ref 0)] dX9_unit_11 (by decide) rfl ?_
  refine z_aload_n dX9_unit_12 1 rfl ?_
  refine z_geti shM_0 rfl flX9_204 dX9_unit_13 ?_
  refine z_iconst (v := 2) dX9_unit_16 (by decide) ?_
  refine z_icmp_eq 30 dX9_unit_17 (by decide) (fun c1 => ?_) (fun c1 => ?_)
  · have h := h.1 c1
    exact zW.sub [1, 0] rfl h
  · have h := h.2 c1
    refine z_iload_n dX9_unit_20 0 rfl ?_
    refine z_ifb_ne 30 dX9_unit_21 (by decide) (fun c2 => ?_) (fun c2 => ?_)
    · have h := h.1 c2
      exact zW.sub [1, 0] rfl h
    · have h := h.2 c2
      refine z_aload_n dX9_unit_24 1 rfl ?_
      refine z_iconst (v := 1) dX9_unit_25 (by decide) ?_
      refine z_callV (m2 := mX9_bad) (st := []) [.int 1] okX9_bad (Or.inl lkX9_225) shM_0 rfl rfl rfl (Nat.le_of_ble_eq_true rfl) dX9_unit_26 (zgo_z h fun b2 M2 h => ?_)
      exact z_zret rfl rfl dX9_unit_29 h
set_option maxRecDepth 20000 in
theorem vX9_unit_30 {g : zG} {d : Nat} {Q : Bool → zM → Prop} {M : zM} {l1 : Bool} (h : (l1 = false → zCv shM g d mX9_lay [.ref 0, .int 0, .int (M 0 27)] M (fun  M1 => zCv shM g d mX9_next0 [.ref 0] M1 (fun  M2 => Q true M2))) ∧ (l1 = true → zCv shM g d mX9_lay [.ref 0, .int ((M 0 25) - 40), .int (M 0 27)] M (fun  M1 => zCv shM g d mX9_next0 [.ref 0] M1 (fun  M2 => Q true M2)))) : zW shM g (d + 1) mX9_unit (zz Q) 30 [(0, .ref 0), (1, .int (zbI l1))] [] M := by
  refine z_aload_n dX9_unit_30 0 rfl ?_
  refine z_iload_n dX9_unit_31 1 rfl ?_
  refine z_ifb_eq 45 dX9_unit_32 (by decide) (fun c1 => ?_) (fun c1 => ?_)
  · have h := h.1 c1
    refine z_iconst (v := 0) dX9_unit_45 (by decide) ?_
    refine z_aload_n dX9_unit_46 0 rfl ?_
    refine z_geti shM_0 rfl flX9_216 dX9_unit_47 ?_
    refine z_callV (m2 := mX9_lay) (st := []) [.int 0, .int (M 0 27)] okX9_lay (Or.inl lkX9_240) shM_0 rfl rfl rfl (Nat.le_of_ble_eq_true rfl) dX9_unit_50 (zgo_v h fun  M1 h => ?_)
    refine z_aload_n dX9_unit_53 0 rfl ?_
    refine z_callV (m2 := mX9_next0) (st := []) [] okX9_next0 (Or.inl lkX9_228) shM_0 rfl rfl rfl (Nat.le_of_ble_eq_true rfl) dX9_unit_54 (zgo_v h fun  M2 h => ?_)
    refine z_iconst (v := 1) dX9_unit_57 (by decide) ?_
    exact z_zret (b := true) rfl rfl dX9_unit_58 h
  · have h := h.2 c1
    refine z_aload_n dX9_unit_35 0 rfl ?_
    refine z_geti shM_0 rfl flX9_204 dX9_unit_36 ?_
    refine z_bipush (v := 40) dX9_unit_39 (by decide) ?_
    refine z_isub dX9_unit_41 ?_
    refine z_goto 46 dX9_unit_42 (by decide) ?_
    refine z_aload_n dX9_unit_46 0 rfl ?_
    refine z_geti shM_0 rfl flX9_216 dX9_unit_47 ?_
    refine z_callV (m2 := mX9_lay) (st := []) [.int ((M 0 25) - 40), .int (M 0 27)] okX9_lay (Or.inl lkX9_240) shM_0 rfl rfl rfl (Nat.le_of_ble_eq_true rfl) dX9_unit_50 (zgo_v h fun  M1 h => ?_)
    refine z_aload_n dX9_unit_53 0 rfl ?_
    refine z_callV (m2 := mX9_next0) (st := []) [] okX9_next0 (Or.inl lkX9_228) shM_0 rfl rfl rfl (Nat.le_of_ble_eq_true rfl) dX9_unit_54 (zgo_v h fun  M2 h => ?_)
    refine z_iconst (v := 1) dX9_unit_57 (by decide) ?_
    exact z_zret (b := true) rfl rfl dX9_unit_58 h
theorem dX9_any_0 : decode cX9_any 0 = .ok (.aload_n 0, 1) := by decide +kernel
theorem dX9_any_1 : decode cX9_any 1 = .ok (.invokevirtual 246, 3) := by decide +kernel
theorem dX9_any_4 : decode cX9_any 4 = .ok (.ifCond .ne 5, 3) := by decide +kernel
theorem dX9_any_7 : decode cX9_any 7 = .ok (.iconst 0, 1) := by decide +kernel
theorem dX9_any_8 : decode cX9_any 8 = .ok (.ireturn, 1) := by decide +kernel
theorem dX9_any_9 : decode cX9_any 9 = .ok (.aload_n 0, 1) := by decide +kernel
theorem dX9_any_10 : decode cX9_any 10 = .ok (.getfield 204, 3) := by decide +kernel
theorem dX9_any_13 : decode cX9_any 13 = .ok (.iconst 4, 1) := by decide +kernel
theorem dX9_any_14 : decode cX9_any 14 = .ok (.if_icmp .ne 26, 3) := by decide +kernel
theorem dX9_any_17 : decode cX9_any 17 = .ok (.aload_n 0, 1) := by decide +kernel
theorem dX9_any_18 : decode cX9_any 18 = .ok (.invokevirtual 228, 3) := by decide +kernel
theorem dX9_any_21 : decode cX9_any 21 = .ok (.aload_n 0, 1) := by decide +kernel
theorem dX9_any_22 : decode cX9_any 22 = .ok (.invokevirtual 246, 3) := by decide +kernel
theorem dX9_any_25 : decode cX9_any 25 = .ok (.ifCond .ne 5, 3) := by decide +kernel
theorem dX9_any_28 : decode cX9_any 28 = .ok (.iconst 0, 1) := by decide +kernel
theorem dX9_any_29 : decode cX9_any 29 = .ok (.ireturn, 1) := by decide +kernel
theorem dX9_any_30 : decode cX9_any 30 = .ok (.aload_n 0, 1) := by decide +kernel
theorem dX9_any_31 : decode cX9_any 31 = .ok (.bipush 32, 2) := by decide +kernel
theorem dX9_any_33 : decode cX9_any 33 = .ok (.iconst 0, 1) := by decide +kernel
theorem dX9_any_34 : decode cX9_any 34 = .ok (.invokevirtual 240, 3) := by decide +kernel
theorem dX9_any_37 : decode cX9_any 37 = .ok (.goto (-28), 3) := by decide +kernel
theorem dX9_any_40 : decode cX9_any 40 = .ok (.iconst 1, 1) := by decide +kernel
theorem dX9_any_41 : decode cX9_any 41 = .ok (.ireturn, 1) := by decide +kernel
set_option maxRecDepth 20000 in
theorem vX9_any {g : zG} {d : Nat} {Q : Bool → zM → Prop} {M : zM} (h : zCz shM g d mX9_every [.ref 0] M (fun b1 M1 => (b1 = true → zW shM g (d + 1) mX9_any (zz Q) 9 [(0, .ref 0)] [] M1) ∧ (b1 = false → Q false M1))) : zCz shM g (d + 1) mX9_any [.ref 0] M Q := by
  refine zW.enter (by decide +kernel) (Nat.le_of_ble_eq_true rfl) ?_
  change zW shM g (d + 1) mX9_any (zz Q) 0 [(0, .ref 0)] [] M
  refine z_aload_n dX9_any_0 0 rfl ?_
  refine z_callV (m2 := mX9_every) (st := []) [] okX9_every (Or.inl lkX9_246) shM_0 rfl rfl rfl (Nat.le_of_ble_eq_true rfl) dX9_any_1 (zgo_z h fun b1 M1 h => ?_)
  refine z_ifb_ne 9 dX9_any_4 (by decide) (fun c1 => ?_) (fun c1 => ?_)
  · have h := h.1 c1
    exact h
  · have h := h.2 c1
    refine z_iconst (v := 0) dX9_any_7 (by decide) ?_
    exact z_zret (b := false) rfl rfl dX9_any_8 h
set_option maxRecDepth 20000 in
theorem vX9_any_9 {g : zG} {d : Nat} {Q : Bool → zM → Prop} {M : zM} (h : (¬ (M 0 25) = 4 → Q true M) ∧ ((M 0 25) = 4 → zCv shM g d mX9_next0 [.ref 0] M (fun  M1 => zCz shM g d mX9_every [.ref 0] M1 (fun b1 M2 => (b1 = true → zCv shM g d mX9_lay [.ref 0, .int 32, .int 0] M2 (fun  M3 => zW shM g (d + 1) mX9_any (zz Q) 9 [(0, .ref 0)] [] M3)) ∧ (b1 = false → Q false M2))))) : zW shM g (d + 1) mX9_any (zz Q) 9 [(0, .ref 0)] [] M := by
  refine z_aload_n dX9_any_9 0 rfl ?_
  refine z_geti shM_0 rfl flX9_204 dX9_any_10 ?_
  refine z_iconst (v := 4) dX9_any_13 (by decide) ?_
  refine z_icmp_ne 40 dX9_any_14 (by decide) (fun c1 => ?_) (fun c1 => ?_)
  · have h := h.1 c1
    refine z_iconst (v := 1) dX9_any_40 (by decide) ?_
    exact z_zret (b := true) rfl rfl dX9_any_41 h
  · have h := h.2 c1
    refine z_aload_n dX9_any_17 0 rfl ?_
    refine z_callV (m2 := mX9_next0) (st := []) [] okX9_next0 (Or.inl lkX9_228) shM_0 rfl rfl rfl (Nat.le_of_ble_eq_true rfl) dX9_any_18 (zgo_v h fun  M1 h => ?_)
    refine z_aload_n dX9_any_21 0 rfl ?_
    refine z_callV (m2 := mX9_every) (st := []) [] okX9_every (Or.inl lkX9_246) shM_0 rfl rfl rfl (Nat.le_of_ble_eq_true rfl) dX9_any_22 (zgo_z h fun b1 M2 h => ?_)
    refine z_ifb_ne 30 dX9_any_25 (by decide) (fun c2 => ?_) (fun c2 => ?_)
    · have h := h.1 c2
      refine z_aload_n dX9_any_30 0 rfl ?_
      refine z_bipush (v := 32) dX9_any_31 (by decide) ?_
      refine z_iconst (v := 0) dX9_any_33 (by decide) ?_
      refine z_callV (m2 := mX9_lay) (st := []) [.int 32, .int 0] okX9_lay (Or.inl lkX9_240) shM_0 rfl rfl rfl (Nat.le_of_ble_eq_true rfl) dX9_any_34 (zgo_v h fun  M3 h => ?_)
      refine z_goto 9 dX9_any_37 (by decide) ?_
      exact h
    · have h := h.2 c2
      refine z_iconst (v := 0) dX9_any_28 (by decide) ?_
      exact z_zret (b := false) rfl rfl dX9_any_29 h
theorem dX9_every_0 : decode cX9_every 0 = .ok (.aload_n 0, 1) := by decide +kernel
theorem dX9_every_1 : decode cX9_every 1 = .ok (.invokevirtual 249, 3) := by decide +kernel
theorem dX9_every_4 : decode cX9_every 4 = .ok (.ifCond .ne 5, 3) := by decide +kernel
theorem dX9_every_7 : decode cX9_every 7 = .ok (.iconst 0, 1) := by decide +kernel
theorem dX9_every_8 : decode cX9_every 8 = .ok (.ireturn, 1) := by decide +kernel
theorem dX9_every_9 : decode cX9_every 9 = .ok (.aload_n 0, 1) := by decide +kernel
theorem dX9_every_10 : decode cX9_every 10 = .ok (.getfield 204, 3) := by decide +kernel
theorem dX9_every_13 : decode cX9_every 13 = .ok (.iconst 5, 1) := by decide +kernel
theorem dX9_every_14 : decode cX9_every 14 = .ok (.if_icmp .ne 26, 3) := by decide +kernel
theorem dX9_every_17 : decode cX9_every 17 = .ok (.aload_n 0, 1) := by decide +kernel
theorem dX9_every_18 : decode cX9_every 18 = .ok (.invokevirtual 228, 3) := by decide +kernel
theorem dX9_every_21 : decode cX9_every 21 = .ok (.aload_n 0, 1) := by decide +kernel
theorem dX9_every_22 : decode cX9_every 22 = .ok (.invokevirtual 249, 3) := by decide +kernel
theorem dX9_every_25 : decode cX9_every 25 = .ok (.ifCond .ne 5, 3) := by decide +kernel
theorem dX9_every_28 : decode cX9_every 28 = .ok (.iconst 0, 1) := by decide +kernel
theorem dX9_every_29 : decode cX9_every 29 = .ok (.ireturn, 1) := by decide +kernel
theorem dX9_every_30 : decode cX9_every 30 = .ok (.aload_n 0, 1) := by decide +kernel
theorem dX9_every_31 : decode cX9_every 31 = .ok (.bipush 31, 2) := by decide +kernel
theorem dX9_every_33 : decode cX9_every 33 = .ok (.iconst 0, 1) := by decide +kernel
theorem dX9_every_34 : decode cX9_every 34 = .ok (.invokevirtual 240, 3) := by decide +kernel
theorem dX9_every_37 : decode cX9_every 37 = .ok (.goto (-28), 3) := by decide +kernel
theorem dX9_every_40 : decode cX9_every 40 = .ok (.iconst 1, 1) := by decide +kernel
theorem dX9_every_41 : decode cX9_every 41 = .ok (.ireturn, 1) := by decide +kernel
set_option maxRecDepth 20000 in
theorem vX9_every {g : zG} {d : Nat} {Q : Bool → zM → Prop} {M : zM} (h : zCz shM g d mX9_oneTest [.ref 0] M (fun b1 M1 => (b1 = true → zW shM g (d + 1) mX9_every (zz Q) 9 [(0, .ref 0)] [] M1) ∧ (b1 = false → Q false M1))) : zCz shM g (d + 1) mX9_every [.ref 0] M Q := by
  refine zW.enter (by decide +kernel) (Nat.le_of_ble_eq_true rfl) ?_
  change zW shM g (d + 1) mX9_every (zz Q) 0 [(0, .ref 0)] [] M
  refine z_aload_n dX9_every_0 0 rfl ?_
  refine z_callV (m2 := mX9_oneTest) (st := []) [] okX9_oneTest (Or.inl lkX9_249) shM_0 rfl rfl rfl (Nat.le_of_ble_eq_true rfl) dX9_every_1 (zgo_z h fun b1 M1 h => ?_)
  refine z_ifb_ne 9 dX9_every_4 (by decide) (fun c1 => ?_) (fun c1 => ?_)
  · have h := h.1 c1
    exact h
  · have h := h.2 c1
    refine z_iconst (v := 0) dX9_every_7 (by decide) ?_
    exact z_zret (b := false) rfl rfl dX9_every_8 h
set_option maxRecDepth 20000 in
theorem vX9_every_9 {g : zG} {d : Nat} {Q : Bool → zM → Prop} {M : zM} (h : (¬ (M 0 25) = 5 → Q true M) ∧ ((M 0 25) = 5 → zCv shM g d mX9_next0 [.ref 0] M (fun  M1 => zCz shM g d mX9_oneTest [.ref 0] M1 (fun b1 M2 => (b1 = true → zCv shM g d mX9_lay [.ref 0, .int 31, .int 0] M2 (fun  M3 => zW shM g (d + 1) mX9_every (zz Q) 9 [(0, .ref 0)] [] M3)) ∧ (b1 = false → Q false M2))))) : zW shM g (d + 1) mX9_every (zz Q) 9 [(0, .ref 0)] [] M := by
  refine z_aload_n dX9_every_9 0 rfl ?_
  refine z_geti shM_0 rfl flX9_204 dX9_every_10 ?_
  refine z_iconst (v := 5) dX9_every_13 (by decide) ?_
  refine z_icmp_ne 40 dX9_every_14 (by decide) (fun c1 => ?_) (fun c1 => ?_)
  · have h := h.1 c1
    refine z_iconst (v := 1) dX9_every_40 (by decide) ?_
    exact z_zret (b := true) rfl rfl dX9_every_41 h
  · have h := h.2 c1
    refine z_aload_n dX9_every_17 0 rfl ?_
    refine z_callV (m2 := mX9_next0) (st := []) [] okX9_next0 (Or.inl lkX9_228) shM_0 rfl rfl rfl (Nat.le_of_ble_eq_true rfl) dX9_every_18 (zgo_v h fun  M1 h => ?_)
    refine z_aload_n dX9_every_21 0 rfl ?_
    refine z_callV (m2 := mX9_oneTest) (st := []) [] okX9_oneTest (Or.inl lkX9_249) shM_0 rfl rfl rfl (Nat.le_of_ble_eq_true rfl) dX9_every_22 (zgo_z h fun b1 M2 h => ?_)
    refine z_ifb_ne 30 dX9_every_25 (by decide) (fun c2 => ?_) (fun c2 => ?_)
    · have h := h.1 c2
      refine z_aload_n dX9_every_30 0 rfl ?_
      refine z_bipush (v := 31) dX9_every_31 (by decide) ?_
      refine z_iconst (v := 0) dX9_every_33 (by decide) ?_
      refine z_callV (m2 := mX9_lay) (st := []) [.int 31, .int 0] okX9_lay (Or.inl lkX9_240) shM_0 rfl rfl rfl (Nat.le_of_ble_eq_true rfl) dX9_every_34 (zgo_v h fun  M3 h => ?_)
      refine z_goto 9 dX9_every_37 (by decide) ?_
      exact h
    · have h := h.2 c2
      refine z_iconst (v := 0) dX9_every_28 (by decide) ?_
      exact z_zret (b := false) rfl rfl dX9_every_29 h
theorem dX9_oneTest_0 : decode cX9_oneTest 0 = .ok (.aload_n 0, 1) := by decide +kernel
theorem dX9_oneTest_1 : decode cX9_oneTest 1 = .ok (.getfield 204, 3) := by decide +kernel
theorem dX9_oneTest_4 : decode cX9_oneTest 4 = .ok (.bipush 6, 2) := by decide +kernel
theorem dX9_oneTest_6 : decode cX9_oneTest 6 = .ok (.if_icmp .ne 38, 3) := by decide +kernel
theorem dX9_oneTest_9 : decode cX9_oneTest 9 = .ok (.aload_n 0, 1) := by decide +kernel
theorem dX9_oneTest_10 : decode cX9_oneTest 10 = .ok (.invokevirtual 252, 3) := by decide +kernel
theorem dX9_oneTest_13 : decode cX9_oneTest 13 = .ok (.ifCond .eq 10, 3) := by decide +kernel
theorem dX9_oneTest_16 : decode cX9_oneTest 16 = .ok (.aload_n 0, 1) := by decide +kernel
theorem dX9_oneTest_17 : decode cX9_oneTest 17 = .ok (.invokevirtual 249, 3) := by decide +kernel
theorem dX9_oneTest_20 : decode cX9_oneTest 20 = .ok (.ifCond .ne 5, 3) := by decide +kernel
theorem dX9_oneTest_23 : decode cX9_oneTest 23 = .ok (.iconst 0, 1) := by decide +kernel
theorem dX9_oneTest_24 : decode cX9_oneTest 24 = .ok (.ireturn, 1) := by decide +kernel
theorem dX9_oneTest_25 : decode cX9_oneTest 25 = .ok (.aload_n 0, 1) := by decide +kernel
theorem dX9_oneTest_26 : decode cX9_oneTest 26 = .ok (.dup, 1) := by decide +kernel
theorem dX9_oneTest_27 : decode cX9_oneTest 27 = .ok (.getfield 234, 3) := by decide +kernel
theorem dX9_oneTest_30 : decode cX9_oneTest 30 = .ok (.iconst 1, 1) := by decide +kernel
theorem dX9_oneTest_31 : decode cX9_oneTest 31 = .ok (.isub, 1) := by decide +kernel
theorem dX9_oneTest_32 : decode cX9_oneTest 32 = .ok (.putfield 234, 3) := by decide +kernel
theorem dX9_oneTest_35 : decode cX9_oneTest 35 = .ok (.aload_n 0, 1) := by decide +kernel
theorem dX9_oneTest_36 : decode cX9_oneTest 36 = .ok (.bipush 30, 2) := by decide +kernel
theorem dX9_oneTest_38 : decode cX9_oneTest 38 = .ok (.iconst 0, 1) := by decide +kernel
theorem dX9_oneTest_39 : decode cX9_oneTest 39 = .ok (.invokevirtual 240, 3) := by decide +kernel
theorem dX9_oneTest_42 : decode cX9_oneTest 42 = .ok (.iconst 1, 1) := by decide +kernel
theorem dX9_oneTest_43 : decode cX9_oneTest 43 = .ok (.ireturn, 1) := by decide +kernel
theorem dX9_oneTest_44 : decode cX9_oneTest 44 = .ok (.aload_n 0, 1) := by decide +kernel
theorem dX9_oneTest_45 : decode cX9_oneTest 45 = .ok (.getfield 204, 3) := by decide +kernel
theorem dX9_oneTest_48 : decode cX9_oneTest 48 = .ok (.sipush 140, 3) := by decide +kernel
theorem dX9_oneTest_51 : decode cX9_oneTest 51 = .ok (.if_icmp .ne 41, 3) := by decide +kernel
theorem dX9_oneTest_54 : decode cX9_oneTest 54 = .ok (.aload_n 0, 1) := by decide +kernel
theorem dX9_oneTest_55 : decode cX9_oneTest 55 = .ok (.invokevirtual 252, 3) := by decide +kernel
theorem dX9_oneTest_58 : decode cX9_oneTest 58 = .ok (.ifCond .eq 20, 3) := by decide +kernel
theorem dX9_oneTest_61 : decode cX9_oneTest 61 = .ok (.aload_n 0, 1) := by decide +kernel
theorem dX9_oneTest_62 : decode cX9_oneTest 62 = .ok (.invokevirtual 255, 3) := by decide +kernel
theorem dX9_oneTest_65 : decode cX9_oneTest 65 = .ok (.ifCond .eq 13, 3) := by decide +kernel
theorem dX9_oneTest_68 : decode cX9_oneTest 68 = .ok (.aload_n 0, 1) := by decide +kernel
theorem dX9_oneTest_69 : decode cX9_oneTest 69 = .ok (.sipush 141, 3) := by decide +kernel
theorem dX9_oneTest_72 : decode cX9_oneTest 72 = .ok (.invokevirtual 258, 3) := by decide +kernel
theorem dX9_oneTest_75 : decode cX9_oneTest 75 = .ok (.ifCond .ne 5, 3) := by decide +kernel
theorem dX9_oneTest_78 : decode cX9_oneTest 78 = .ok (.iconst 0, 1) := by decide +kernel
theorem dX9_oneTest_79 : decode cX9_oneTest 79 = .ok (.ireturn, 1) := by decide +kernel
theorem dX9_oneTest_80 : decode cX9_oneTest 80 = .ok (.aload_n 0, 1) := by decide +kernel
theorem dX9_oneTest_81 : decode cX9_oneTest 81 = .ok (.dup, 1) := by decide +kernel
theorem dX9_oneTest_82 : decode cX9_oneTest 82 = .ok (.getfield 234, 3) := by decide +kernel
theorem dX9_oneTest_85 : decode cX9_oneTest 85 = .ok (.iconst 1, 1) := by decide +kernel
theorem dX9_oneTest_86 : decode cX9_oneTest 86 = .ok (.isub, 1) := by decide +kernel
theorem dX9_oneTest_87 : decode cX9_oneTest 87 = .ok (.putfield 234, 3) := by decide +kernel
theorem dX9_oneTest_90 : decode cX9_oneTest 90 = .ok (.iconst 1, 1) := by decide +kernel
theorem dX9_oneTest_91 : decode cX9_oneTest 91 = .ok (.ireturn, 1) := by decide +kernel
theorem dX9_oneTest_92 : decode cX9_oneTest 92 = .ok (.aload_n 0, 1) := by decide +kernel
theorem dX9_oneTest_93 : decode cX9_oneTest 93 = .ok (.invokevirtual 261, 3) := by decide +kernel
theorem dX9_oneTest_96 : decode cX9_oneTest 96 = .ok (.ifCond .ne 5, 3) := by decide +kernel
theorem dX9_oneTest_99 : decode cX9_oneTest 99 = .ok (.iconst 0, 1) := by decide +kernel
theorem dX9_oneTest_100 : decode cX9_oneTest 100 = .ok (.ireturn, 1) := by decide +kernel
theorem dX9_oneTest_101 : decode cX9_oneTest 101 = .ok (.aload_n 0, 1) := by decide +kernel
theorem dX9_oneTest_102 : decode cX9_oneTest 102 = .ok (.getfield 204, 3) := by decide +kernel
theorem dX9_oneTest_105 : decode cX9_oneTest 105 = .ok (.sipush 160, 3) := by decide +kernel
theorem dX9_oneTest_108 : decode cX9_oneTest 108 = .ok (.if_icmp .ne 8, 3) := by decide +kernel
theorem dX9_oneTest_111 : decode cX9_oneTest 111 = .ok (.bipush 27, 2) := by decide +kernel
theorem dX9_oneTest_113 : decode cX9_oneTest 113 = .ok (.goto 34, 3) := by decide +kernel
theorem dX9_oneTest_116 : decode cX9_oneTest 116 = .ok (.aload_n 0, 1) := by decide +kernel
theorem dX9_oneTest_117 : decode cX9_oneTest 117 = .ok (.getfield 204, 3) := by decide +kernel
theorem dX9_oneTest_120 : decode cX9_oneTest 120 = .ok (.sipush 161, 3) := by decide +kernel
theorem dX9_oneTest_123 : decode cX9_oneTest 123 = .ok (.if_icmp .ne 8, 3) := by decide +kernel
theorem dX9_oneTest_126 : decode cX9_oneTest 126 = .ok (.bipush 28, 2) := by decide +kernel
theorem dX9_oneTest_128 : decode cX9_oneTest 128 = .ok (.goto 19, 3) := by decide +kernel
theorem dX9_oneTest_131 : decode cX9_oneTest 131 = .ok (.aload_n 0, 1) := by decide +kernel
theorem dX9_oneTest_132 : decode cX9_oneTest 132 = .ok (.getfield 204, 3) := by decide +kernel
theorem dX9_oneTest_135 : decode cX9_oneTest 135 = .ok (.sipush 162, 3) := by decide +kernel
theorem dX9_oneTest_138 : decode cX9_oneTest 138 = .ok (.if_icmp .ne 8, 3) := by decide +kernel
theorem dX9_oneTest_141 : decode cX9_oneTest 141 = .ok (.bipush 29, 2) := by decide +kernel
theorem dX9_oneTest_143 : decode cX9_oneTest 143 = .ok (.goto 4, 3) := by decide +kernel
theorem dX9_oneTest_146 : decode cX9_oneTest 146 = .ok (.iconst (-1), 1) := by decide +kernel
theorem dX9_oneTest_147 : decode cX9_oneTest 147 = .ok (.istore_n 1, 1) := by decide +kernel
theorem dX9_oneTest_148 : decode cX9_oneTest 148 = .ok (.iload_n 1, 1) := by decide +kernel
theorem dX9_oneTest_149 : decode cX9_oneTest 149 = .ok (.iconst (-1), 1) := by decide +kernel
theorem dX9_oneTest_150 : decode cX9_oneTest 150 = .ok (.if_icmp .ne 9, 3) := by decide +kernel
theorem dX9_oneTest_153 : decode cX9_oneTest 153 = .ok (.aload_n 0, 1) := by decide +kernel
theorem dX9_oneTest_154 : decode cX9_oneTest 154 = .ok (.iconst 1, 1) := by decide +kernel
theorem dX9_oneTest_155 : decode cX9_oneTest 155 = .ok (.invokevirtual 225, 3) := by decide +kernel
theorem dX9_oneTest_158 : decode cX9_oneTest 158 = .ok (.ireturn, 1) := by decide +kernel
theorem dX9_oneTest_159 : decode cX9_oneTest 159 = .ok (.aload_n 0, 1) := by decide +kernel
theorem dX9_oneTest_160 : decode cX9_oneTest 160 = .ok (.invokevirtual 228, 3) := by decide +kernel
theorem dX9_oneTest_163 : decode cX9_oneTest 163 = .ok (.aload_n 0, 1) := by decide +kernel
theorem dX9_oneTest_164 : decode cX9_oneTest 164 = .ok (.invokevirtual 261, 3) := by decide +kernel
theorem dX9_oneTest_167 : decode cX9_oneTest 167 = .ok (.ifCond .ne 5, 3) := by decide +kernel
theorem dX9_oneTest_170 : decode cX9_oneTest 170 = .ok (.iconst 0, 1) := by decide +kernel
theorem dX9_oneTest_171 : decode cX9_oneTest 171 = .ok (.ireturn, 1) := by decide +kernel
theorem dX9_oneTest_172 : decode cX9_oneTest 172 = .ok (.aload_n 0, 1) := by decide +kernel
theorem dX9_oneTest_173 : decode cX9_oneTest 173 = .ok (.iload_n 1, 1) := by decide +kernel
theorem dX9_oneTest_174 : decode cX9_oneTest 174 = .ok (.iconst 0, 1) := by decide +kernel
theorem dX9_oneTest_175 : decode cX9_oneTest 175 = .ok (.invokevirtual 240, 3) := by decide +kernel
theorem dX9_oneTest_178 : decode cX9_oneTest 178 = .ok (.iconst 1, 1) := by decide +kernel
theorem dX9_oneTest_179 : decode cX9_oneTest 179 = .ok (.ireturn, 1) := by decide +kernel
set_option maxRecDepth 20000 in
theorem vX9_oneTest {g : zG} {d : Nat} {Q : Bool → zM → Prop} {M : zM} (h : (¬ (M 0 25) = 6 → (¬ (M 0 25) = 140 → zCz shM g d mX9_sumUp [.ref 0] M (fun b1 M1 => (b1 = true → (¬ (M1 0 25) = 160 → (¬ (M1 0 25) = 161 → (¬ (M1 0 25) = 162 → zW shM g (d + 1) mX9_oneTest (zz Q) 147 [(0, .ref 0)] [.int (-1)] M1) ∧ ((M1 0 25) = 162 → zW shM g (d + 1) mX9_oneTest (zz Q) 147 [(0, .ref 0)] [.int 29] M1)) ∧ ((M1 0 25) = 161 → zW shM g (d + 1) mX9_oneTest (zz Q) 147 [(0, .ref 0)] [.int 28] M1)) ∧ ((M1 0 25) = 160 → zW shM g (d + 1) mX9_oneTest (zz Q) 147 [(0, .ref 0)] [.int 27] M1)) ∧ (b1 = false → Q false M1))) ∧ ((M 0 25) = 140 → zCz shM g d mX9_opens [.ref 0] M (fun b1 M1 => (b1 = false → Q false M1) ∧ (b1 = true → zCz shM g d mX9_any [.ref 0] M1 (fun b2 M2 => (b2 = false → Q false M2) ∧ (b2 = true → zCz shM g d mX9_need [.ref 0, .int 141] M2 (fun b3 M3 => (b3 = true → Q true (zup M3 0 31 ((M3 0 31) - 1))) ∧ (b3 = false → Q false M3)))))))) ∧ ((M 0 25) = 6 → zCz shM g d mX9_opens [.ref 0] M (fun b1 M1 => (b1 = false → Q false M1) ∧ (b1 = true → zCz shM g d mX9_oneTest [.ref 0] M1 (fun b2 M2 => (b2 = true → zCv shM g d mX9_lay [.ref 0, .int 30, .int 0] (zup M2 0 31 ((M2 0 31) - 1)) (fun  M3 => Q true M3)) ∧ (b2 = false → Q false M2)))))) : zCz shM g (d + 1) mX9_oneTest [.ref 0] M Q := by
  refine zW.enter (by decide +kernel) (Nat.le_of_ble_eq_true rfl) ?_
  change zW shM g (d + 1) mX9_oneTest (zz Q) 0 [(0, .ref 0)] [] M
  refine z_aload_n dX9_oneTest_0 0 rfl ?_
  refine z_geti shM_0 rfl flX9_204 dX9_oneTest_1 ?_
  refine z_bipush (v := 6) dX9_oneTest_4 (by decide) ?_
  refine z_icmp_ne 44 dX9_oneTest_6 (by decide) (fun c1 => ?_) (fun c1 => ?_)
  · have h := h.1 c1
    refine z_aload_n dX9_oneTest_44 0 rfl ?_
    refine z_geti shM_0 rfl flX9_204 dX9_oneTest_45 ?_
    refine z_sipush (v := 140) dX9_oneTest_48 (by decide) ?_
    refine z_icmp_ne 92 dX9_oneTest_51 (by decide) (fun c2 => ?_) (fun c2 => ?_)
    · have h := h.1 c2
      refine z_aload_n dX9_oneTest_92 0 rfl ?_
      refine z_callV (m2 := mX9_sumUp) (st := []) [] okX9_sumUp (Or.inl lkX9_261) shM_0 rfl rfl rfl (Nat.le_of_ble_eq_true rfl) dX9_oneTest_93 (zgo_z h fun b1 M1 h => ?_)
      refine z_ifb_ne 101 dX9_oneTest_96 (by decide) (fun c3 => ?_) (fun c3 => ?_)
      · have h := h.1 c3
        refine z_aload_n dX9_oneTest_101 0 rfl ?_
        refine z_geti shM_0 rfl flX9_204 dX9_oneTest_102 ?_
        refine z_sipush (v := 160) dX9_oneTest_105 (by decide) ?_
        refine z_icmp_ne 116 dX9_oneTest_108 (by decide) (fun c4 => ?_) (fun c4 => ?_)
        · have h := h.1 c4
          refine z_aload_n dX9_oneTest_116 0 rfl ?_
          refine z_geti shM_0 rfl flX9_204 dX9_oneTest_117 ?_
          refine z_sipush (v := 161) dX9_oneTest_120 (by decide) ?_
          refine z_icmp_ne 131 dX9_oneTest_123 (by decide) (fun c5 => ?_) (fun c5 => ?_)
          · have h := h.1 c5
            refine z_aload_n dX9_oneTest_131 0 rfl ?_
            refine z_geti shM_0 rfl flX9_204 dX9_oneTest_132 ?_
            refine z_sipush (v := 162) dX9_oneTest_135 (by decide) ?_
            refine z_icmp_ne 146 dX9_oneTest_138 (by decide) (fun c6 => ?_) (fun c6 => ?_)
            · have h := h.1 c6
              refine z_iconst (v := (-1)) dX9_oneTest_146 (by decide) ?_
              exact h
            · have h := h.2 c6
              refine z_bipush (v := 29) dX9_oneTest_141 (by decide) ?_
              refine z_goto 147 dX9_oneTest_143 (by decide) ?_
              exact h
          · have h := h.2 c5
            refine z_bipush (v := 28) dX9_oneTest_126 (by decide) ?_
            refine z_goto 147 dX9_oneTest_128 (by decide) ?_
            exact h
        · have h := h.2 c4
          refine z_bipush (v := 27) dX9_oneTest_111 (by decide) ?_
          refine z_goto 147 dX9_oneTest_113 (by decide) ?_
          exact h
      · have h := h.2 c3
        refine z_iconst (v := 0) dX9_oneTest_99 (by decide) ?_
        exact z_zret (b := false) rfl rfl dX9_oneTest_100 h
    · have h := h.2 c2
      refine z_aload_n dX9_oneTest_54 0 rfl ?_
      refine z_callV (m2 := mX9_opens) (st := []) [] okX9_opens (Or.inl lkX9_252) shM_0 rfl rfl rfl (Nat.le_of_ble_eq_true rfl) dX9_oneTest_55 (zgo_z h fun b1 M1 h => ?_)
      refine z_ifb_eq 78 dX9_oneTest_58 (by decide) (fun c3 => ?_) (fun c3 => ?_)
      · have h := h.1 c3
        refine z_iconst (v := 0) dX9_oneTest_78 (by decide) ?_
        exact z_zret (b := false) rfl rfl dX9_oneTest_79 h
      · have h := h.2 c3
        refine z_aload_n dX9_oneTest_61 0 rfl ?_
        refine z_callV (m2 := mX9_any) (st := []) [] okX9_any (Or.inl lkX9_255) shM_0 rfl rfl rfl (Nat.le_of_ble_eq_true rfl) dX9_oneTest_62 (zgo_z h fun b2 M2 h => ?_)
        refine z_ifb_eq 78 dX9_oneTest_65 (by decide) (fun c4 => ?_) (fun c4 => ?_)
        · have h := h.1 c4
          refine z_iconst (v := 0) dX9_oneTest_78 (by decide) ?_
          exact z_zret (b := false) rfl rfl dX9_oneTest_79 h
        · have h := h.2 c4
          refine z_aload_n dX9_oneTest_68 0 rfl ?_
          refine z_sipush (v := 141) dX9_oneTest_69 (by decide) ?_
          refine z_callV (m2 := mX9_need) (st := []) [.int 141] okX9_need (Or.inl lkX9_258) shM_0 rfl rfl rfl (Nat.le_of_ble_eq_true rfl) dX9_oneTest_72 (zgo_z h fun b3 M3 h => ?_)
          refine z_ifb_ne 80 dX9_oneTest_75 (by decide) (fun c5 => ?_) (fun c5 => ?_)
          · have h := h.1 c5
            refine z_aload_n dX9_oneTest_80 0 rfl ?_
            refine z_dupr dX9_oneTest_81 ?_
            refine z_geti shM_0 rfl flX9_234 dX9_oneTest_82 ?_
            refine z_iconst (v := 1) dX9_oneTest_85 (by decide) ?_
            refine z_isub dX9_oneTest_86 ?_
            refine z_puti shM_0 rfl fpX9_234 rfl rfl dX9_oneTest_87 ?_
            refine z_iconst (v := 1) dX9_oneTest_90 (by decide) ?_
            exact z_zret (b := true) rfl rfl dX9_oneTest_91 h
          · have h := h.2 c5
            refine z_iconst (v := 0) dX9_oneTest_78 (by decide) ?_
            exact z_zret (b := false) rfl rfl dX9_oneTest_79 h
  · have h := h.2 c1
    refine z_aload_n dX9_oneTest_9 0 rfl ?_
    refine z_callV (m2 := mX9_opens) (st := []) [] okX9_opens (Or.inl lkX9_252) shM_0 rfl rfl rfl (Nat.le_of_ble_eq_true rfl) dX9_oneTest_10 (zgo_z h fun b1 M1 h => ?_)
    refine z_ifb_eq 23 dX9_oneTest_13 (by decide) (fun c2 => ?_) (fun c2 => ?_)
    · have h := h.1 c2
      refine z_iconst (v := 0) dX9_oneTest_23 (by decide) ?_
      exact z_zret (b := false) rfl rfl dX9_oneTest_24 h
    · have h := h.2 c2
      refine z_aload_n dX9_oneTest_16 0 rfl ?_
      refine z_callV (m2 := mX9_oneTest) (st := []) [] okX9_oneTest (Or.inl lkX9_249) shM_0 rfl rfl rfl (Nat.le_of_ble_eq_true rfl) dX9_oneTest_17 (zgo_z h fun b2 M2 h => ?_)
      refine z_ifb_ne 25 dX9_oneTest_20 (by decide) (fun c3 => ?_) (fun c3 => ?_)
      · have h := h.1 c3
        refine z_aload_n dX9_oneTest_25 0 rfl ?_
        refine z_dupr dX9_oneTest_26 ?_
        refine z_geti shM_0 rfl flX9_234 dX9_oneTest_27 ?_
        refine z_iconst (v := 1) dX9_oneTest_30 (by decide) ?_
        refine z_isub dX9_oneTest_31 ?_
        refine z_puti shM_0 rfl fpX9_234 rfl rfl dX9_oneTest_32 ?_
        refine z_aload_n dX9_oneTest_35 0 rfl ?_
        refine z_bipush (v := 30) dX9_oneTest_36 (by decide) ?_
        refine z_iconst (v := 0) dX9_oneTest_38 (by decide) ?_
        refine z_callV (m2 := mX9_lay) (st := []) [.int 30, .int 0] okX9_lay (Or.inl lkX9_240) shM_0 rfl rfl rfl (Nat.le_of_ble_eq_true rfl) dX9_oneTest_39 (zgo_v h fun  M3 h => ?_)
        refine z_iconst (v := 1) dX9_oneTest_42 (by decide) ?_
        exact z_zret (b := true) rfl rfl dX9_oneTest_43 h
      · have h := h.2 c3
        refine z_iconst (v := 0) dX9_oneTest_23 (by decide) ?_
        exact z_zret (b := false) rfl rfl dX9_oneTest_24 h
set_option maxRecDepth 20000 in
theorem vX9_oneTest_147 {g : zG} {d : Nat} {Q : Bool → zM → Prop} {M : zM} {s0 : Int32} (h : (¬ s0 = (-1) → zCv shM g d mX9_next0 [.ref 0] M (fun  M1 => zCz shM g d mX9_sumUp [.ref 0] M1 (fun b1 M2 => (b1 = true → zCv shM g d mX9_lay [.ref 0, .int s0, .int 0] M2 (fun  M3 => Q true M3)) ∧ (b1 = false → Q false M2)))) ∧ (s0 = (-1) → zCz shM g d mX9_bad [.ref 0, .int 1] M (fun b1 M1 => Q b1 M1))) : zW shM g (d + 1) mX9_oneTest (zz Q) 147 [(0, .ref 0)] [.int s0] M := by
  refine z_istore_n [(1, .int s0), (0, .ref 0)] dX9_oneTest_147 (by decide) rfl ?_
  refine z_iload_n dX9_oneTest_148 0 rfl ?_
  refine z_iconst (v := (-1)) dX9_oneTest_149 (by decide) ?_
  refine z_icmp_ne 159 dX9_oneTest_150 (by decide) (fun c1 => ?_) (fun c1 => ?_)
  · have h := h.1 c1
    refine z_aload_n dX9_oneTest_159 1 rfl ?_
    refine z_callV (m2 := mX9_next0) (st := []) [] okX9_next0 (Or.inl lkX9_228) shM_0 rfl rfl rfl (Nat.le_of_ble_eq_true rfl) dX9_oneTest_160 (zgo_v h fun  M1 h => ?_)
    refine z_aload_n dX9_oneTest_163 1 rfl ?_
    refine z_callV (m2 := mX9_sumUp) (st := []) [] okX9_sumUp (Or.inl lkX9_261) shM_0 rfl rfl rfl (Nat.le_of_ble_eq_true rfl) dX9_oneTest_164 (zgo_z h fun b1 M2 h => ?_)
    refine z_ifb_ne 172 dX9_oneTest_167 (by decide) (fun c2 => ?_) (fun c2 => ?_)
    · have h := h.1 c2
      refine z_aload_n dX9_oneTest_172 1 rfl ?_
      refine z_iload_n dX9_oneTest_173 0 rfl ?_
      refine z_iconst (v := 0) dX9_oneTest_174 (by decide) ?_
      refine z_callV (m2 := mX9_lay) (st := []) [.int s0, .int 0] okX9_lay (Or.inl lkX9_240) shM_0 rfl rfl rfl (Nat.le_of_ble_eq_true rfl) dX9_oneTest_175 (zgo_v h fun  M3 h => ?_)
      refine z_iconst (v := 1) dX9_oneTest_178 (by decide) ?_
      exact z_zret (b := true) rfl rfl dX9_oneTest_179 h
    · have h := h.2 c2
      refine z_iconst (v := 0) dX9_oneTest_170 (by decide) ?_
      exact z_zret (b := false) rfl rfl dX9_oneTest_171 h
  · have h := h.2 c1
    refine z_aload_n dX9_oneTest_153 1 rfl ?_
    refine z_iconst (v := 1) dX9_oneTest_154 (by decide) ?_
    refine z_callV (m2 := mX9_bad) (st := []) [.int 1] okX9_bad (Or.inl lkX9_225) shM_0 rfl rfl rfl (Nat.le_of_ble_eq_true rfl) dX9_oneTest_155 (zgo_z h fun b1 M1 h => ?_)
    exact z_zret rfl rfl dX9_oneTest_158 h
theorem dX9_aLine_0 : decode cX9_aLine 0 = .ok (.aload_n 0, 1) := by decide +kernel
theorem dX9_aLine_1 : decode cX9_aLine 1 = .ok (.getfield 204, 3) := by decide +kernel
theorem dX9_aLine_4 : decode cX9_aLine 4 = .ok (.bipush 20, 2) := by decide +kernel
theorem dX9_aLine_6 : decode cX9_aLine 6 = .ok (.if_icmp .eq 18, 3) := by decide +kernel
theorem dX9_aLine_9 : decode cX9_aLine 9 = .ok (.aload_n 0, 1) := by decide +kernel
theorem dX9_aLine_10 : decode cX9_aLine 10 = .ok (.getfield 204, 3) := by decide +kernel
theorem dX9_aLine_13 : decode cX9_aLine 13 = .ok (.bipush 21, 2) := by decide +kernel
theorem dX9_aLine_15 : decode cX9_aLine 15 = .ok (.if_icmp .eq 9, 3) := by decide +kernel
theorem dX9_aLine_18 : decode cX9_aLine 18 = .ok (.aload_n 0, 1) := by decide +kernel
theorem dX9_aLine_19 : decode cX9_aLine 19 = .ok (.iconst 1, 1) := by decide +kernel
theorem dX9_aLine_20 : decode cX9_aLine 20 = .ok (.invokevirtual 225, 3) := by decide +kernel
theorem dX9_aLine_23 : decode cX9_aLine 23 = .ok (.ireturn, 1) := by decide +kernel
theorem dX9_aLine_24 : decode cX9_aLine 24 = .ok (.aload_n 0, 1) := by decide +kernel
theorem dX9_aLine_25 : decode cX9_aLine 25 = .ok (.getfield 264, 3) := by decide +kernel
theorem dX9_aLine_28 : decode cX9_aLine 28 = .ok (.bipush 16, 2) := by decide +kernel
theorem dX9_aLine_30 : decode cX9_aLine 30 = .ok (.if_icmp .ne 9, 3) := by decide +kernel
theorem dX9_aLine_33 : decode cX9_aLine 33 = .ok (.aload_n 0, 1) := by decide +kernel
theorem dX9_aLine_34 : decode cX9_aLine 34 = .ok (.iconst 3, 1) := by decide +kernel
theorem dX9_aLine_35 : decode cX9_aLine 35 = .ok (.invokevirtual 225, 3) := by decide +kernel
theorem dX9_aLine_38 : decode cX9_aLine 38 = .ok (.ireturn, 1) := by decide +kernel
theorem dX9_aLine_39 : decode cX9_aLine 39 = .ok (.aload_n 0, 1) := by decide +kernel
theorem dX9_aLine_40 : decode cX9_aLine 40 = .ok (.iconst 0, 1) := by decide +kernel
theorem dX9_aLine_41 : decode cX9_aLine 41 = .ok (.putfield 234, 3) := by decide +kernel
theorem dX9_aLine_44 : decode cX9_aLine 44 = .ok (.aload_n 0, 1) := by decide +kernel
theorem dX9_aLine_45 : decode cX9_aLine 45 = .ok (.getfield 22, 3) := by decide +kernel
theorem dX9_aLine_48 : decode cX9_aLine 48 = .ok (.iconst 4, 1) := by decide +kernel
theorem dX9_aLine_49 : decode cX9_aLine 49 = .ok (.aload_n 0, 1) := by decide +kernel
theorem dX9_aLine_50 : decode cX9_aLine 50 = .ok (.getfield 264, 3) := by decide +kernel
theorem dX9_aLine_53 : decode cX9_aLine 53 = .ok (.imul, 1) := by decide +kernel
theorem dX9_aLine_54 : decode cX9_aLine 54 = .ok (.iconst 3, 1) := by decide +kernel
theorem dX9_aLine_55 : decode cX9_aLine 55 = .ok (.iadd, 1) := by decide +kernel
theorem dX9_aLine_56 : decode cX9_aLine 56 = .ok (.aload_n 0, 1) := by decide +kernel
theorem dX9_aLine_57 : decode cX9_aLine 57 = .ok (.getfield 204, 3) := by decide +kernel
theorem dX9_aLine_60 : decode cX9_aLine 60 = .ok (.iastore, 1) := by decide +kernel
theorem dX9_aLine_61 : decode cX9_aLine 61 = .ok (.aload_n 0, 1) := by decide +kernel
theorem dX9_aLine_62 : decode cX9_aLine 62 = .ok (.invokevirtual 228, 3) := by decide +kernel
theorem dX9_aLine_65 : decode cX9_aLine 65 = .ok (.aload_n 0, 1) := by decide +kernel
theorem dX9_aLine_66 : decode cX9_aLine 66 = .ok (.getfield 22, 3) := by decide +kernel
theorem dX9_aLine_69 : decode cX9_aLine 69 = .ok (.iconst 4, 1) := by decide +kernel
theorem dX9_aLine_70 : decode cX9_aLine 70 = .ok (.aload_n 0, 1) := by decide +kernel
theorem dX9_aLine_71 : decode cX9_aLine 71 = .ok (.getfield 264, 3) := by decide +kernel
theorem dX9_aLine_74 : decode cX9_aLine 74 = .ok (.imul, 1) := by decide +kernel
theorem dX9_aLine_75 : decode cX9_aLine 75 = .ok (.aload_n 0, 1) := by decide +kernel
theorem dX9_aLine_76 : decode cX9_aLine 76 = .ok (.getfield 231, 3) := by decide +kernel
theorem dX9_aLine_79 : decode cX9_aLine 79 = .ok (.iastore, 1) := by decide +kernel
theorem dX9_aLine_80 : decode cX9_aLine 80 = .ok (.aload_n 0, 1) := by decide +kernel
theorem dX9_aLine_81 : decode cX9_aLine 81 = .ok (.invokevirtual 261, 3) := by decide +kernel
theorem dX9_aLine_84 : decode cX9_aLine 84 = .ok (.ifCond .ne 5, 3) := by decide +kernel
theorem dX9_aLine_87 : decode cX9_aLine 87 = .ok (.iconst 0, 1) := by decide +kernel
theorem dX9_aLine_88 : decode cX9_aLine 88 = .ok (.ireturn, 1) := by decide +kernel
theorem dX9_aLine_89 : decode cX9_aLine 89 = .ok (.aload_n 0, 1) := by decide +kernel
theorem dX9_aLine_90 : decode cX9_aLine 90 = .ok (.getfield 22, 3) := by decide +kernel
theorem dX9_aLine_93 : decode cX9_aLine 93 = .ok (.iconst 4, 1) := by decide +kernel
theorem dX9_aLine_94 : decode cX9_aLine 94 = .ok (.aload_n 0, 1) := by decide +kernel
theorem dX9_aLine_95 : decode cX9_aLine 95 = .ok (.getfield 264, 3) := by decide +kernel
theorem dX9_aLine_98 : decode cX9_aLine 98 = .ok (.imul, 1) := by decide +kernel
theorem dX9_aLine_99 : decode cX9_aLine 99 = .ok (.iconst 1, 1) := by decide +kernel
theorem dX9_aLine_100 : decode cX9_aLine 100 = .ok (.iadd, 1) := by decide +kernel
theorem dX9_aLine_101 : decode cX9_aLine 101 = .ok (.aload_n 0, 1) := by decide +kernel
theorem dX9_aLine_102 : decode cX9_aLine 102 = .ok (.getfield 231, 3) := by decide +kernel
theorem dX9_aLine_105 : decode cX9_aLine 105 = .ok (.iastore, 1) := by decide +kernel
theorem dX9_aLine_106 : decode cX9_aLine 106 = .ok (.aload_n 0, 1) := by decide +kernel
theorem dX9_aLine_107 : decode cX9_aLine 107 = .ok (.getfield 204, 3) := by decide +kernel
theorem dX9_aLine_110 : decode cX9_aLine 110 = .ok (.iconst 3, 1) := by decide +kernel
theorem dX9_aLine_111 : decode cX9_aLine 111 = .ok (.if_icmp .ne 16, 3) := by decide +kernel
theorem dX9_aLine_114 : decode cX9_aLine 114 = .ok (.aload_n 0, 1) := by decide +kernel
theorem dX9_aLine_115 : decode cX9_aLine 115 = .ok (.invokevirtual 228, 3) := by decide +kernel
theorem dX9_aLine_118 : decode cX9_aLine 118 = .ok (.aload_n 0, 1) := by decide +kernel
theorem dX9_aLine_119 : decode cX9_aLine 119 = .ok (.invokevirtual 255, 3) := by decide +kernel
theorem dX9_aLine_122 : decode cX9_aLine 122 = .ok (.ifCond .ne 5, 3) := by decide +kernel
theorem dX9_aLine_125 : decode cX9_aLine 125 = .ok (.iconst 0, 1) := by decide +kernel
theorem dX9_aLine_126 : decode cX9_aLine 126 = .ok (.ireturn, 1) := by decide +kernel
theorem dX9_aLine_127 : decode cX9_aLine 127 = .ok (.aload_n 0, 1) := by decide +kernel
theorem dX9_aLine_128 : decode cX9_aLine 128 = .ok (.getfield 22, 3) := by decide +kernel
theorem dX9_aLine_131 : decode cX9_aLine 131 = .ok (.iconst 4, 1) := by decide +kernel
theorem dX9_aLine_132 : decode cX9_aLine 132 = .ok (.aload_n 0, 1) := by decide +kernel
theorem dX9_aLine_133 : decode cX9_aLine 133 = .ok (.getfield 264, 3) := by decide +kernel
theorem dX9_aLine_136 : decode cX9_aLine 136 = .ok (.imul, 1) := by decide +kernel
theorem dX9_aLine_137 : decode cX9_aLine 137 = .ok (.iconst 2, 1) := by decide +kernel
theorem dX9_aLine_138 : decode cX9_aLine 138 = .ok (.iadd, 1) := by decide +kernel
theorem dX9_aLine_139 : decode cX9_aLine 139 = .ok (.aload_n 0, 1) := by decide +kernel
theorem dX9_aLine_140 : decode cX9_aLine 140 = .ok (.getfield 231, 3) := by decide +kernel
theorem dX9_aLine_143 : decode cX9_aLine 143 = .ok (.iastore, 1) := by decide +kernel
theorem dX9_aLine_144 : decode cX9_aLine 144 = .ok (.aload_n 0, 1) := by decide +kernel
theorem dX9_aLine_145 : decode cX9_aLine 145 = .ok (.sipush 159, 3) := by decide +kernel
theorem dX9_aLine_148 : decode cX9_aLine 148 = .ok (.invokevirtual 258, 3) := by decide +kernel
theorem dX9_aLine_151 : decode cX9_aLine 151 = .ok (.ireturn, 1) := by decide +kernel
set_option maxRecDepth 20000 in
theorem vX9_aLine {g : zG} {d : Nat} {Q : Bool → zM → Prop} {M : zM} (h : ((M 0 25) = 20 → zW shM g (d + 1) mX9_aLine (zz Q) 24 [(0, .ref 0)] [] M) ∧ (¬ (M 0 25) = 20 → ((M 0 25) = 21 → zW shM g (d + 1) mX9_aLine (zz Q) 24 [(0, .ref 0)] [] M) ∧ (¬ (M 0 25) = 21 → zCz shM g d mX9_bad [.ref 0, .int 1] M (fun b1 M1 => Q b1 M1)))) : zCz shM g (d + 1) mX9_aLine [.ref 0] M Q := by
  refine zW.enter (by decide +kernel) (Nat.le_of_ble_eq_true rfl) ?_
  change zW shM g (d + 1) mX9_aLine (zz Q) 0 [(0, .ref 0)] [] M
  refine z_aload_n dX9_aLine_0 0 rfl ?_
  refine z_geti shM_0 rfl flX9_204 dX9_aLine_1 ?_
  refine z_bipush (v := 20) dX9_aLine_4 (by decide) ?_
  refine z_icmp_eq 24 dX9_aLine_6 (by decide) (fun c1 => ?_) (fun c1 => ?_)
  · have h := h.1 c1
    exact h
  · have h := h.2 c1
    refine z_aload_n dX9_aLine_9 0 rfl ?_
    refine z_geti shM_0 rfl flX9_204 dX9_aLine_10 ?_
    refine z_bipush (v := 21) dX9_aLine_13 (by decide) ?_
    refine z_icmp_eq 24 dX9_aLine_15 (by decide) (fun c2 => ?_) (fun c2 => ?_)
    · have h := h.1 c2
      exact h
    · have h := h.2 c2
      refine z_aload_n dX9_aLine_18 0 rfl ?_
      refine z_iconst (v := 1) dX9_aLine_19 (by decide) ?_
      refine z_callV (m2 := mX9_bad) (st := []) [.int 1] okX9_bad (Or.inl lkX9_225) shM_0 rfl rfl rfl (Nat.le_of_ble_eq_true rfl) dX9_aLine_20 (zgo_z h fun b1 M1 h => ?_)
      exact z_zret rfl rfl dX9_aLine_23 h
set_option maxRecDepth 20000 in
theorem vX9_aLine_24 {g : zG} {d : Nat} {Q : Bool → zM → Prop} {M : zM} (h : (¬ (M 0 17) = 16 → ∃ k1 : Nat, ((4 * ((zup M 0 31 0) 0 17)) + 3) = iv k1 ∧ k1 < 64 ∧ zCv shM g d mX9_next0 [.ref 0] (zup (zup M 0 31 0) 5 k1 ((zup M 0 31 0) 0 25)) (fun  M1 => ∃ k2 : Nat, (4 * (M1 0 17)) = iv k2 ∧ k2 < 64 ∧ zCz shM g d mX9_sumUp [.ref 0] (zup M1 5 k2 (M1 0 18)) (fun b1 M2 => (b1 = true → ∃ k3 : Nat, ((4 * (M2 0 17)) + 1) = iv k3 ∧ k3 < 64 ∧ (¬ ((zup M2 5 k3 (M2 0 18)) 0 25) = 3 → zW shM g (d + 1) mX9_aLine (zz Q) 127 [(0, .ref 0)] [] (zup M2 5 k3 (M2 0 18))) ∧ (((zup M2 5 k3 (M2 0 18)) 0 25) = 3 → zCv shM g d mX9_next0 [.ref 0] (zup M2 5 k3 (M2 0 18)) (fun  M3 => zCz shM g d mX9_any [.ref 0] M3 (fun b2 M4 => (b2 = true → zW shM g (d + 1) mX9_aLine (zz Q) 127 [(0, .ref 0)] [] M4) ∧ (b2 = false → Q false M4))))) ∧ (b1 = false → Q false M2)))) ∧ ((M 0 17) = 16 → zCz shM g d mX9_bad [.ref 0, .int 3] M (fun b1 M1 => Q b1 M1))) : zW shM g (d + 1) mX9_aLine (zz Q) 24 [(0, .ref 0)] [] M := by
  refine z_aload_n dX9_aLine_24 0 rfl ?_
  refine z_geti shM_0 rfl flX9_264 dX9_aLine_25 ?_
  refine z_bipush (v := 16) dX9_aLine_28 (by decide) ?_
  refine z_icmp_ne 39 dX9_aLine_30 (by decide) (fun c1 => ?_) (fun c1 => ?_)
  · have h := h.1 c1
    refine z_aload_n dX9_aLine_39 0 rfl ?_
    refine z_iconst (v := 0) dX9_aLine_40 (by decide) ?_
    refine z_puti shM_0 rfl fpX9_234 rfl rfl dX9_aLine_41 ?_
    refine z_aload_n dX9_aLine_44 0 rfl ?_
    refine z_getr shM_0 rfl flX9_22 dX9_aLine_45 ?_
    refine z_iconst (v := 4) dX9_aLine_48 (by decide) ?_
    refine z_aload_n dX9_aLine_49 0 rfl ?_
    refine z_geti shM_0 rfl flX9_264 dX9_aLine_50 ?_
    refine z_imul dX9_aLine_53 ?_
    refine z_iconst (v := 3) dX9_aLine_54 (by decide) ?_
    refine z_iadd dX9_aLine_55 ?_
    refine z_aload_n dX9_aLine_56 0 rfl ?_
    refine z_geti shM_0 rfl flX9_204 dX9_aLine_57 ?_
    obtain ⟨k1, ek1, uk1, h⟩ := h
    refine z_iast2 (k0 := k1) shM_5 (by decide) ek1 uk1 dX9_aLine_60 ?_
    refine z_aload_n dX9_aLine_61 0 rfl ?_
    refine z_callV (m2 := mX9_next0) (st := []) [] okX9_next0 (Or.inl lkX9_228) shM_0 rfl rfl rfl (Nat.le_of_ble_eq_true rfl) dX9_aLine_62 (zgo_v h fun  M1 h => ?_)
    refine z_aload_n dX9_aLine_65 0 rfl ?_
    refine z_getr shM_0 rfl flX9_22 dX9_aLine_66 ?_
    refine z_iconst (v := 4) dX9_aLine_69 (by decide) ?_
    refine z_aload_n dX9_aLine_70 0 rfl ?_
    refine z_geti shM_0 rfl flX9_264 dX9_aLine_71 ?_
    refine z_imul dX9_aLine_74 ?_
    refine z_aload_n dX9_aLine_75 0 rfl ?_
    refine z_geti shM_0 rfl flX9_231 dX9_aLine_76 ?_
    obtain ⟨k2, ek2, uk2, h⟩ := h
    refine z_iast2 (k0 := k2) shM_5 (by decide) ek2 uk2 dX9_aLine_79 ?_
    refine z_aload_n dX9_aLine_80 0 rfl ?_
    refine z_callV (m2 := mX9_sumUp) (st := []) [] okX9_sumUp (Or.inl lkX9_261) shM_0 rfl rfl rfl (Nat.le_of_ble_eq_true rfl) dX9_aLine_81 (zgo_z h fun b1 M2 h => ?_)
    refine z_ifb_ne 89 dX9_aLine_84 (by decide) (fun c2 => ?_) (fun c2 => ?_)
    · have h := h.1 c2
      refine z_aload_n dX9_aLine_89 0 rfl ?_
      refine z_getr shM_0 rfl flX9_22 dX9_aLine_90 ?_
      refine z_iconst (v := 4) dX9_aLine_93 (by decide) ?_
      refine z_aload_n dX9_aLine_94 0 rfl ?_
      refine z_geti shM_0 rfl flX9_264 dX9_aLine_95 ?_
      refine z_imul dX9_aLine_98 ?_
      refine z_iconst (v := 1) dX9_aLine_99 (by decide) ?_
      refine z_iadd dX9_aLine_100 ?_
      refine z_aload_n dX9_aLine_101 0 rfl ?_
      refine z_geti shM_0 rfl flX9_231 dX9_aLine_102 ?_
      obtain ⟨k3, ek3, uk3, h⟩ := h
      refine z_iast2 (k0 := k3) shM_5 (by decide) ek3 uk3 dX9_aLine_105 ?_
      refine z_aload_n dX9_aLine_106 0 rfl ?_
      refine z_geti shM_0 rfl flX9_204 dX9_aLine_107 ?_
      refine z_iconst (v := 3) dX9_aLine_110 (by decide) ?_
      refine z_icmp_ne 127 dX9_aLine_111 (by decide) (fun c3 => ?_) (fun c3 => ?_)
      · have h := h.1 c3
        exact h
      · have h := h.2 c3
        refine z_aload_n dX9_aLine_114 0 rfl ?_
        refine z_callV (m2 := mX9_next0) (st := []) [] okX9_next0 (Or.inl lkX9_228) shM_0 rfl rfl rfl (Nat.le_of_ble_eq_true rfl) dX9_aLine_115 (zgo_v h fun  M3 h => ?_)
        refine z_aload_n dX9_aLine_118 0 rfl ?_
        refine z_callV (m2 := mX9_any) (st := []) [] okX9_any (Or.inl lkX9_255) shM_0 rfl rfl rfl (Nat.le_of_ble_eq_true rfl) dX9_aLine_119 (zgo_z h fun b2 M4 h => ?_)
        refine z_ifb_ne 127 dX9_aLine_122 (by decide) (fun c4 => ?_) (fun c4 => ?_)
        · have h := h.1 c4
          exact h
        · have h := h.2 c4
          refine z_iconst (v := 0) dX9_aLine_125 (by decide) ?_
          exact z_zret (b := false) rfl rfl dX9_aLine_126 h
    · have h := h.2 c2
      refine z_iconst (v := 0) dX9_aLine_87 (by decide) ?_
      exact z_zret (b := false) rfl rfl dX9_aLine_88 h
  · have h := h.2 c1
    refine z_aload_n dX9_aLine_33 0 rfl ?_
    refine z_iconst (v := 3) dX9_aLine_34 (by decide) ?_
    refine z_callV (m2 := mX9_bad) (st := []) [.int 3] okX9_bad (Or.inl lkX9_225) shM_0 rfl rfl rfl (Nat.le_of_ble_eq_true rfl) dX9_aLine_35 (zgo_z h fun b1 M1 h => ?_)
    exact z_zret rfl rfl dX9_aLine_38 h
set_option maxRecDepth 20000 in
theorem vX9_aLine_127 {g : zG} {d : Nat} {Q : Bool → zM → Prop} {M : zM} (h : ∃ k1 : Nat, ((4 * (M 0 17)) + 2) = iv k1 ∧ k1 < 64 ∧ zCz shM g d mX9_need [.ref 0, .int 159] (zup M 5 k1 (M 0 18)) (fun b1 M1 => Q b1 M1)) : zW shM g (d + 1) mX9_aLine (zz Q) 127 [(0, .ref 0)] [] M := by
  refine z_aload_n dX9_aLine_127 0 rfl ?_
  refine z_getr shM_0 rfl flX9_22 dX9_aLine_128 ?_
  refine z_iconst (v := 4) dX9_aLine_131 (by decide) ?_
  refine z_aload_n dX9_aLine_132 0 rfl ?_
  refine z_geti shM_0 rfl flX9_264 dX9_aLine_133 ?_
  refine z_imul dX9_aLine_136 ?_
  refine z_iconst (v := 2) dX9_aLine_137 (by decide) ?_
  refine z_iadd dX9_aLine_138 ?_
  refine z_aload_n dX9_aLine_139 0 rfl ?_
  refine z_geti shM_0 rfl flX9_231 dX9_aLine_140 ?_
  obtain ⟨k1, ek1, uk1, h⟩ := h
  refine z_iast2 (k0 := k1) shM_5 (by decide) ek1 uk1 dX9_aLine_143 ?_
  refine z_aload_n dX9_aLine_144 0 rfl ?_
  refine z_sipush (v := 159) dX9_aLine_145 (by decide) ?_
  refine z_callV (m2 := mX9_need) (st := []) [.int 159] okX9_need (Or.inl lkX9_258) shM_0 rfl rfl rfl (Nat.le_of_ble_eq_true rfl) dX9_aLine_148 (zgo_z h fun b1 M1 h => ?_)
  exact z_zret rfl rfl dX9_aLine_151 h
theorem dX9_readsLaw_0 : decode cX9_readsLaw 0 = .ok (.aload_n 0, 1) := by decide +kernel
theorem dX9_readsLaw_1 : decode cX9_readsLaw 1 = .ok (.iconst 0, 1) := by decide +kernel
theorem dX9_readsLaw_2 : decode cX9_readsLaw 2 = .ok (.putfield 264, 3) := by decide +kernel
theorem dX9_readsLaw_5 : decode cX9_readsLaw 5 = .ok (.aload_n 0, 1) := by decide +kernel
theorem dX9_readsLaw_6 : decode cX9_readsLaw 6 = .ok (.iconst 0, 1) := by decide +kernel
theorem dX9_readsLaw_7 : decode cX9_readsLaw 7 = .ok (.putfield 231, 3) := by decide +kernel
theorem dX9_readsLaw_10 : decode cX9_readsLaw 10 = .ok (.iconst 1, 1) := by decide +kernel
theorem dX9_readsLaw_11 : decode cX9_readsLaw 11 = .ok (.istore_n 1, 1) := by decide +kernel
theorem dX9_readsLaw_12 : decode cX9_readsLaw 12 = .ok (.iload_n 1, 1) := by decide +kernel
theorem dX9_readsLaw_13 : decode cX9_readsLaw 13 = .ok (.ifCond .eq 36, 3) := by decide +kernel
theorem dX9_readsLaw_16 : decode cX9_readsLaw 16 = .ok (.aload_n 0, 1) := by decide +kernel
theorem dX9_readsLaw_17 : decode cX9_readsLaw 17 = .ok (.getfield 204, 3) := by decide +kernel
theorem dX9_readsLaw_20 : decode cX9_readsLaw 20 = .ok (.ifCond .eq 29, 3) := by decide +kernel
theorem dX9_readsLaw_23 : decode cX9_readsLaw 23 = .ok (.aload_n 0, 1) := by decide +kernel
theorem dX9_readsLaw_24 : decode cX9_readsLaw 24 = .ok (.invokevirtual 267, 3) := by decide +kernel
theorem dX9_readsLaw_27 : decode cX9_readsLaw 27 = .ok (.istore_n 1, 1) := by decide +kernel
theorem dX9_readsLaw_28 : decode cX9_readsLaw 28 = .ok (.aload_n 0, 1) := by decide +kernel
theorem dX9_readsLaw_29 : decode cX9_readsLaw 29 = .ok (.dup, 1) := by decide +kernel
theorem dX9_readsLaw_30 : decode cX9_readsLaw 30 = .ok (.getfield 264, 3) := by decide +kernel
theorem dX9_readsLaw_33 : decode cX9_readsLaw 33 = .ok (.iload_n 1, 1) := by decide +kernel
theorem dX9_readsLaw_34 : decode cX9_readsLaw 34 = .ok (.ifCond .eq 7, 3) := by decide +kernel
theorem dX9_readsLaw_37 : decode cX9_readsLaw 37 = .ok (.iconst 1, 1) := by decide +kernel
theorem dX9_readsLaw_38 : decode cX9_readsLaw 38 = .ok (.goto 4, 3) := by decide +kernel
theorem dX9_readsLaw_41 : decode cX9_readsLaw 41 = .ok (.iconst 0, 1) := by decide +kernel
theorem dX9_readsLaw_42 : decode cX9_readsLaw 42 = .ok (.iadd, 1) := by decide +kernel
theorem dX9_readsLaw_43 : decode cX9_readsLaw 43 = .ok (.putfield 264, 3) := by decide +kernel
theorem dX9_readsLaw_46 : decode cX9_readsLaw 46 = .ok (.goto (-34), 3) := by decide +kernel
theorem dX9_readsLaw_49 : decode cX9_readsLaw 49 = .ok (.iload_n 1, 1) := by decide +kernel
theorem dX9_readsLaw_50 : decode cX9_readsLaw 50 = .ok (.ireturn, 1) := by decide +kernel
set_option maxRecDepth 20000 in
theorem vX9_readsLaw {g : zG} {d : Nat} {Q : Bool → zM → Prop} {M : zM} (h : zW shM g (d + 1) mX9_readsLaw (zz Q) 12 [(0, .ref 0), (1, .int 1)] [] (zup (zup M 0 17 0) 0 18 0)) : zCz shM g (d + 1) mX9_readsLaw [.ref 0] M Q := by
  refine zW.enter (by decide +kernel) (Nat.le_of_ble_eq_true rfl) ?_
  change zW shM g (d + 1) mX9_readsLaw (zz Q) 0 [(0, .ref 0)] [] M
  refine z_aload_n dX9_readsLaw_0 0 rfl ?_
  refine z_iconst (v := 0) dX9_readsLaw_1 (by decide) ?_
  refine z_puti shM_0 rfl fpX9_264 rfl rfl dX9_readsLaw_2 ?_
  refine z_aload_n dX9_readsLaw_5 0 rfl ?_
  refine z_iconst (v := 0) dX9_readsLaw_6 (by decide) ?_
  refine z_puti shM_0 rfl fpX9_231 rfl rfl dX9_readsLaw_7 ?_
  refine z_iconst (v := 1) dX9_readsLaw_10 (by decide) ?_
  refine z_istore_n [(1, .int 1), (0, .ref 0)] dX9_readsLaw_11 (by decide) rfl ?_
  exact zW.sub [1, 0] rfl h
set_option maxRecDepth 20000 in
theorem vX9_readsLaw_12 {g : zG} {d : Nat} {Q : Bool → zM → Prop} {M : zM} {l1 : Int32} (h : (l1 = 0 → ∃ b1 : Bool, l1 = zbI b1 ∧ Q b1 M) ∧ (¬ l1 = 0 → ((M 0 25) = 0 → ∃ b1 : Bool, l1 = zbI b1 ∧ Q b1 M) ∧ (¬ (M 0 25) = 0 → zCz shM g d mX9_aLine [.ref 0] M (fun b1 M1 => (b1 = false → zW shM g (d + 1) mX9_readsLaw (zz Q) 12 [(0, .ref 0), (1, .int (zbI b1))] [] (zup M1 0 17 ((M1 0 17) + 0))) ∧ (b1 = true → zW shM g (d + 1) mX9_readsLaw (zz Q) 12 [(0, .ref 0), (1, .int (zbI b1))] [] (zup M1 0 17 ((M1 0 17) + 1))))))) : zW shM g (d + 1) mX9_readsLaw (zz Q) 12 [(0, .ref 0), (1, .int l1)] [] M := by
  refine z_iload_n dX9_readsLaw_12 1 rfl ?_
  refine z_if_eq 49 dX9_readsLaw_13 (by decide) (fun c1 => ?_) (fun c1 => ?_)
  · have h := h.1 c1
    refine z_iload_n dX9_readsLaw_49 1 rfl ?_
    obtain ⟨b1, eb1, h⟩ := h
    exact z_zret eb1 rfl dX9_readsLaw_50 h
  · have h := h.2 c1
    refine z_aload_n dX9_readsLaw_16 0 rfl ?_
    refine z_geti shM_0 rfl flX9_204 dX9_readsLaw_17 ?_
    refine z_if_eq 49 dX9_readsLaw_20 (by decide) (fun c2 => ?_) (fun c2 => ?_)
    · have h := h.1 c2
      refine z_iload_n dX9_readsLaw_49 1 rfl ?_
      obtain ⟨b1, eb1, h⟩ := h
      exact z_zret eb1 rfl dX9_readsLaw_50 h
    · have h := h.2 c2
      refine z_aload_n dX9_readsLaw_23 0 rfl ?_
      refine z_callV (m2 := mX9_aLine) (st := []) [] okX9_aLine (Or.inl lkX9_267) shM_0 rfl rfl rfl (Nat.le_of_ble_eq_true rfl) dX9_readsLaw_24 (zgo_z h fun b1 M1 h => ?_)
      refine z_istore_n [(1, .int (zbI b1)), (0, .ref 0)] dX9_readsLaw_27 (by decide) rfl ?_
      refine z_aload_n dX9_readsLaw_28 1 rfl ?_
      refine z_dupr dX9_readsLaw_29 ?_
      refine z_geti shM_0 rfl flX9_264 dX9_readsLaw_30 ?_
      refine z_iload_n dX9_readsLaw_33 0 rfl ?_
      refine z_ifb_eq 41 dX9_readsLaw_34 (by decide) (fun c3 => ?_) (fun c3 => ?_)
      · have h := h.1 c3
        refine z_iconst (v := 0) dX9_readsLaw_41 (by decide) ?_
        refine z_iadd dX9_readsLaw_42 ?_
        refine z_puti shM_0 rfl fpX9_264 rfl rfl dX9_readsLaw_43 ?_
        refine z_goto 12 dX9_readsLaw_46 (by decide) ?_
        exact zW.sub [1, 0] rfl h
      · have h := h.2 c3
        refine z_iconst (v := 1) dX9_readsLaw_37 (by decide) ?_
        refine z_goto 42 dX9_readsLaw_38 (by decide) ?_
        refine z_iadd dX9_readsLaw_42 ?_
        refine z_puti shM_0 rfl fpX9_264 rfl rfl dX9_readsLaw_43 ?_
        refine z_goto 12 dX9_readsLaw_46 (by decide) ?_
        exact zW.sub [1, 0] rfl h
theorem dX9_number_0 : decode cX9_number 0 = .ok (.aload_n 0, 1) := by decide +kernel
theorem dX9_number_1 : decode cX9_number 1 = .ok (.getfield 204, 3) := by decide +kernel
theorem dX9_number_4 : decode cX9_number 4 = .ok (.iconst 2, 1) := by decide +kernel
theorem dX9_number_5 : decode cX9_number 5 = .ok (.if_icmp .eq 9, 3) := by decide +kernel
theorem dX9_number_8 : decode cX9_number 8 = .ok (.aload_n 0, 1) := by decide +kernel
theorem dX9_number_9 : decode cX9_number 9 = .ok (.iconst 1, 1) := by decide +kernel
theorem dX9_number_10 : decode cX9_number 10 = .ok (.invokevirtual 225, 3) := by decide +kernel
theorem dX9_number_13 : decode cX9_number 13 = .ok (.ireturn, 1) := by decide +kernel
theorem dX9_number_14 : decode cX9_number 14 = .ok (.aload_n 0, 1) := by decide +kernel
theorem dX9_number_15 : decode cX9_number 15 = .ok (.getfield 216, 3) := by decide +kernel
theorem dX9_number_18 : decode cX9_number 18 = .ok (.iload_n 1, 1) := by decide +kernel
theorem dX9_number_19 : decode cX9_number 19 = .ok (.iload_n 2, 1) := by decide +kernel
theorem dX9_number_20 : decode cX9_number 20 = .ok (.invokestatic 97, 3) := by decide +kernel
theorem dX9_number_23 : decode cX9_number 23 = .ok (.ifCond .ne 9, 3) := by decide +kernel
theorem dX9_number_26 : decode cX9_number 26 = .ok (.aload_n 0, 1) := by decide +kernel
theorem dX9_number_27 : decode cX9_number 27 = .ok (.iconst 2, 1) := by decide +kernel
theorem dX9_number_28 : decode cX9_number 28 = .ok (.invokevirtual 225, 3) := by decide +kernel
theorem dX9_number_31 : decode cX9_number 31 = .ok (.ireturn, 1) := by decide +kernel
theorem dX9_number_32 : decode cX9_number 32 = .ok (.aload_n 0, 1) := by decide +kernel
theorem dX9_number_33 : decode cX9_number 33 = .ok (.aload_n 0, 1) := by decide +kernel
theorem dX9_number_34 : decode cX9_number 34 = .ok (.getfield 216, 3) := by decide +kernel
theorem dX9_number_37 : decode cX9_number 37 = .ok (.putfield 270, 3) := by decide +kernel
theorem dX9_number_40 : decode cX9_number 40 = .ok (.aload_n 0, 1) := by decide +kernel
theorem dX9_number_41 : decode cX9_number 41 = .ok (.invokevirtual 228, 3) := by decide +kernel
theorem dX9_number_44 : decode cX9_number 44 = .ok (.iconst 1, 1) := by decide +kernel
theorem dX9_number_45 : decode cX9_number 45 = .ok (.ireturn, 1) := by decide +kernel
set_option maxRecDepth 20000 in
theorem vX9_number {g : zG} {d : Nat} {Q : Bool → zM → Prop} {M : zM} {l1 : Int32} {l2 : Int32} (h : ((M 0 25) = 2 → zCz shM g d mX9_isIn [.int (M 0 27), .int l1, .int l2] M (fun b1 M1 => (b1 = true → zCv shM g d mX9_next0 [.ref 0] (zup M1 0 33 (M1 0 27)) (fun  M2 => Q true M2)) ∧ (b1 = false → zCz shM g d mX9_bad [.ref 0, .int 2] M1 (fun b2 M2 => Q b2 M2)))) ∧ (¬ (M 0 25) = 2 → zCz shM g d mX9_bad [.ref 0, .int 1] M (fun b1 M1 => Q b1 M1))) : zCz shM g (d + 1) mX9_number [.ref 0, .int l1, .int l2] M Q := by
  refine zW.enter (by decide +kernel) (Nat.le_of_ble_eq_true rfl) ?_
  change zW shM g (d + 1) mX9_number (zz Q) 0 [(0, .ref 0), (1, .int l1), (2, .int l2)] [] M
  refine z_aload_n dX9_number_0 0 rfl ?_
  refine z_geti shM_0 rfl flX9_204 dX9_number_1 ?_
  refine z_iconst (v := 2) dX9_number_4 (by decide) ?_
  refine z_icmp_eq 14 dX9_number_5 (by decide) (fun c1 => ?_) (fun c1 => ?_)
  · have h := h.1 c1
    refine z_aload_n dX9_number_14 0 rfl ?_
    refine z_geti shM_0 rfl flX9_216 dX9_number_15 ?_
    refine z_iload_n dX9_number_18 1 rfl ?_
    refine z_iload_n dX9_number_19 2 rfl ?_
    refine z_callS (m2 := mX9_isIn) (st := []) [.int (M 0 27), .int l1, .int l2] okX9_isIn (Or.inl lkX9_97) rfl rfl (Nat.le_of_ble_eq_true rfl) dX9_number_20 (zgo_z h fun b1 M1 h => ?_)
    refine z_ifb_ne 32 dX9_number_23 (by decide) (fun c2 => ?_) (fun c2 => ?_)
    · have h := h.1 c2
      refine z_aload_n dX9_number_32 0 rfl ?_
      refine z_aload_n dX9_number_33 0 rfl ?_
      refine z_geti shM_0 rfl flX9_216 dX9_number_34 ?_
      refine z_puti shM_0 rfl fpX9_270 rfl rfl dX9_number_37 ?_
      refine z_aload_n dX9_number_40 0 rfl ?_
      refine z_callV (m2 := mX9_next0) (st := []) [] okX9_next0 (Or.inl lkX9_228) shM_0 rfl rfl rfl (Nat.le_of_ble_eq_true rfl) dX9_number_41 (zgo_v h fun  M2 h => ?_)
      refine z_iconst (v := 1) dX9_number_44 (by decide) ?_
      exact z_zret (b := true) rfl rfl dX9_number_45 h
    · have h := h.2 c2
      refine z_aload_n dX9_number_26 0 rfl ?_
      refine z_iconst (v := 2) dX9_number_27 (by decide) ?_
      refine z_callV (m2 := mX9_bad) (st := []) [.int 2] okX9_bad (Or.inl lkX9_225) shM_0 rfl rfl rfl (Nat.le_of_ble_eq_true rfl) dX9_number_28 (zgo_z h fun b2 M2 h => ?_)
      exact z_zret rfl rfl dX9_number_31 h
  · have h := h.2 c1
    refine z_aload_n dX9_number_8 0 rfl ?_
    refine z_iconst (v := 1) dX9_number_9 (by decide) ?_
    refine z_callV (m2 := mX9_bad) (st := []) [.int 1] okX9_bad (Or.inl lkX9_225) shM_0 rfl rfl rfl (Nat.le_of_ble_eq_true rfl) dX9_number_10 (zgo_z h fun b1 M1 h => ?_)
    exact z_zret rfl rfl dX9_number_13 h
theorem dX9_someSteps_0 : decode cX9_someSteps 0 = .ok (.aload_n 0, 1) := by decide +kernel
theorem dX9_someSteps_1 : decode cX9_someSteps 1 = .ok (.getfield 204, 3) := by decide +kernel
theorem dX9_someSteps_4 : decode cX9_someSteps 4 = .ok (.bipush 11, 2) := by decide +kernel
theorem dX9_someSteps_6 : decode cX9_someSteps 6 = .ok (.isub, 1) := by decide +kernel
theorem dX9_someSteps_7 : decode cX9_someSteps 7 = .ok (.istore_n 3, 1) := by decide +kernel
theorem dX9_someSteps_8 : decode cX9_someSteps 8 = .ok (.aload_n 0, 1) := by decide +kernel
theorem dX9_someSteps_9 : decode cX9_someSteps 9 = .ok (.invokevirtual 228, 3) := by decide +kernel
theorem dX9_someSteps_12 : decode cX9_someSteps 12 = .ok (.aload_n 0, 1) := by decide +kernel
theorem dX9_someSteps_13 : decode cX9_someSteps 13 = .ok (.getfield 204, 3) := by decide +kernel
theorem dX9_someSteps_16 : decode cX9_someSteps 16 = .ok (.iconst 2, 1) := by decide +kernel
theorem dX9_someSteps_17 : decode cX9_someSteps 17 = .ok (.if_icmp .ne 38, 3) := by decide +kernel
theorem dX9_someSteps_20 : decode cX9_someSteps 20 = .ok (.aload_n 0, 1) := by decide +kernel
theorem dX9_someSteps_21 : decode cX9_someSteps 21 = .ok (.getfield 216, 3) := by decide +kernel
theorem dX9_someSteps_24 : decode cX9_someSteps 24 = .ok (.iconst 1, 1) := by decide +kernel
theorem dX9_someSteps_25 : decode cX9_someSteps 25 = .ok (.bipush 20, 2) := by decide +kernel
theorem dX9_someSteps_27 : decode cX9_someSteps 27 = .ok (.invokestatic 97, 3) := by decide +kernel
theorem dX9_someSteps_30 : decode cX9_someSteps 30 = .ok (.ifCond .eq 25, 3) := by decide +kernel
theorem dX9_someSteps_33 : decode cX9_someSteps 33 = .ok (.aload_n 0, 1) := by decide +kernel
theorem dX9_someSteps_34 : decode cX9_someSteps 34 = .ok (.getfield 31, 3) := by decide +kernel
theorem dX9_someSteps_37 : decode cX9_someSteps 37 = .ok (.iload_n 1, 1) := by decide +kernel
theorem dX9_someSteps_38 : decode cX9_someSteps 38 = .ok (.iaload, 1) := by decide +kernel
theorem dX9_someSteps_39 : decode cX9_someSteps 39 = .ok (.aload_n 0, 1) := by decide +kernel
theorem dX9_someSteps_40 : decode cX9_someSteps 40 = .ok (.getfield 216, 3) := by decide +kernel
theorem dX9_someSteps_43 : decode cX9_someSteps 43 = .ok (.iadd, 1) := by decide +kernel
theorem dX9_someSteps_44 : decode cX9_someSteps 44 = .ok (.bipush 60, 2) := by decide +kernel
theorem dX9_someSteps_46 : decode cX9_someSteps 46 = .ok (.if_icmp .le 9, 3) := by decide +kernel
theorem dX9_someSteps_49 : decode cX9_someSteps 49 = .ok (.aload_n 0, 1) := by decide +kernel
theorem dX9_someSteps_50 : decode cX9_someSteps 50 = .ok (.iconst 4, 1) := by decide +kernel
theorem dX9_someSteps_51 : decode cX9_someSteps 51 = .ok (.invokevirtual 225, 3) := by decide +kernel
theorem dX9_someSteps_54 : decode cX9_someSteps 54 = .ok (.ireturn, 1) := by decide +kernel
theorem dX9_someSteps_55 : decode cX9_someSteps 55 = .ok (.aload_n 0, 1) := by decide +kernel
theorem dX9_someSteps_56 : decode cX9_someSteps 56 = .ok (.iconst 1, 1) := by decide +kernel
theorem dX9_someSteps_57 : decode cX9_someSteps 57 = .ok (.bipush 20, 2) := by decide +kernel
theorem dX9_someSteps_59 : decode cX9_someSteps 59 = .ok (.invokevirtual 273, 3) := by decide +kernel
theorem dX9_someSteps_62 : decode cX9_someSteps 62 = .ok (.ifCond .ne 5, 3) := by decide +kernel
theorem dX9_someSteps_65 : decode cX9_someSteps 65 = .ok (.iconst 0, 1) := by decide +kernel
theorem dX9_someSteps_66 : decode cX9_someSteps 66 = .ok (.ireturn, 1) := by decide +kernel
theorem dX9_someSteps_67 : decode cX9_someSteps 67 = .ok (.iconst 0, 1) := by decide +kernel
theorem dX9_someSteps_68 : decode cX9_someSteps 68 = .ok (.istore 4, 2) := by decide +kernel
theorem dX9_someSteps_70 : decode cX9_someSteps 70 = .ok (.iload 4, 2) := by decide +kernel
theorem dX9_someSteps_72 : decode cX9_someSteps 72 = .ok (.aload_n 0, 1) := by decide +kernel
theorem dX9_someSteps_73 : decode cX9_someSteps 73 = .ok (.getfield 270, 3) := by decide +kernel
theorem dX9_someSteps_76 : decode cX9_someSteps 76 = .ok (.if_icmp .ge 40, 3) := by decide +kernel
theorem dX9_someSteps_79 : decode cX9_someSteps 79 = .ok (.aload_n 0, 1) := by decide +kernel
theorem dX9_someSteps_80 : decode cX9_someSteps 80 = .ok (.getfield 28, 3) := by decide +kernel
theorem dX9_someSteps_83 : decode cX9_someSteps 83 = .ok (.bipush 60, 2) := by decide +kernel
theorem dX9_someSteps_85 : decode cX9_someSteps 85 = .ok (.iload_n 1, 1) := by decide +kernel
theorem dX9_someSteps_86 : decode cX9_someSteps 86 = .ok (.imul, 1) := by decide +kernel
theorem dX9_someSteps_87 : decode cX9_someSteps 87 = .ok (.aload_n 0, 1) := by decide +kernel
theorem dX9_someSteps_88 : decode cX9_someSteps 88 = .ok (.getfield 31, 3) := by decide +kernel
theorem dX9_someSteps_91 : decode cX9_someSteps 91 = .ok (.iload_n 1, 1) := by decide +kernel
theorem dX9_someSteps_92 : decode cX9_someSteps 92 = .ok (.iaload, 1) := by decide +kernel
theorem dX9_someSteps_93 : decode cX9_someSteps 93 = .ok (.iadd, 1) := by decide +kernel
theorem dX9_someSteps_94 : decode cX9_someSteps 94 = .ok (.iconst 2, 1) := by decide +kernel
theorem dX9_someSteps_95 : decode cX9_someSteps 95 = .ok (.iload_n 3, 1) := by decide +kernel
theorem dX9_someSteps_96 : decode cX9_someSteps 96 = .ok (.imul, 1) := by decide +kernel
theorem dX9_someSteps_97 : decode cX9_someSteps 97 = .ok (.iload_n 2, 1) := by decide +kernel
theorem dX9_someSteps_98 : decode cX9_someSteps 98 = .ok (.iadd, 1) := by decide +kernel
theorem dX9_someSteps_99 : decode cX9_someSteps 99 = .ok (.iastore, 1) := by decide +kernel
theorem dX9_someSteps_100 : decode cX9_someSteps 100 = .ok (.aload_n 0, 1) := by decide +kernel
theorem dX9_someSteps_101 : decode cX9_someSteps 101 = .ok (.getfield 31, 3) := by decide +kernel
theorem dX9_someSteps_104 : decode cX9_someSteps 104 = .ok (.iload_n 1, 1) := by decide +kernel
theorem dX9_someSteps_105 : decode cX9_someSteps 105 = .ok (.dup2, 1) := by decide +kernel
theorem dX9_someSteps_106 : decode cX9_someSteps 106 = .ok (.iaload, 1) := by decide +kernel
theorem dX9_someSteps_107 : decode cX9_someSteps 107 = .ok (.iconst 1, 1) := by decide +kernel
theorem dX9_someSteps_108 : decode cX9_someSteps 108 = .ok (.iadd, 1) := by decide +kernel
theorem dX9_someSteps_109 : decode cX9_someSteps 109 = .ok (.iastore, 1) := by decide +kernel
theorem dX9_someSteps_110 : decode cX9_someSteps 110 = .ok (.iinc 4 1, 3) := by decide +kernel
theorem dX9_someSteps_113 : decode cX9_someSteps 113 = .ok (.goto (-43), 3) := by decide +kernel
theorem dX9_someSteps_116 : decode cX9_someSteps 116 = .ok (.iconst 1, 1) := by decide +kernel
theorem dX9_someSteps_117 : decode cX9_someSteps 117 = .ok (.ireturn, 1) := by decide +kernel
set_option maxRecDepth 20000 in
theorem vX9_someSteps {g : zG} {d : Nat} {Q : Bool → zM → Prop} {M : zM} {l1 : Int32} {l2 : Int32} (h : zCv shM g d mX9_next0 [.ref 0] M (fun  M1 => (¬ (M1 0 25) = 2 → zCz shM g d mX9_number [.ref 0, .int 1, .int 20] M1 (fun b1 M2 => (b1 = true → zW shM g (d + 1) mX9_someSteps (zz Q) 70 [(0, .ref 0), (1, .int l1), (2, .int l2), (3, .int ((M 0 25) - 11)), (4, .int 0)] [] M2) ∧ (b1 = false → Q false M2))) ∧ ((M1 0 25) = 2 → zCz shM g d mX9_isIn [.int (M1 0 27), .int 1, .int 20] M1 (fun b1 M2 => (b1 = false → zCz shM g d mX9_number [.ref 0, .int 1, .int 20] M2 (fun b2 M3 => (b2 = true → zW shM g (d + 1) mX9_someSteps (zz Q) 70 [(0, .ref 0), (1, .int l1), (2, .int l2), (3, .int ((M 0 25) - 11)), (4, .int 0)] [] M3) ∧ (b2 = false → Q false M3))) ∧ (b1 = true → ∃ k1 : Nat, l1 = iv k1 ∧ k1 < 6 ∧ (((M2 8 k1) + (M2 0 27)) ≤ 60 → zCz shM g d mX9_number [.ref 0, .int 1, .int 20] M2 (fun b2 M3 => (b2 = true → zW shM g (d + 1) mX9_someSteps (zz Q) 70 [(0, .ref 0), (1, .int l1), (2, .int l2), (3, .int ((M 0 25) - 11)), (4, .int 0)] [] M3) ∧ (b2 = false → Q false M3))) ∧ (¬ ((M2 8 k1) + (M2 0 27)) ≤ 60 → zCz shM g d mX9_bad [.ref 0, .int 4] M2 (fun b2 M3 => Q b2 M3))))))) : zCz shM g (d + 1) mX9_someSteps [.ref 0, .int l1, .int l2] M Q := by
  refine zW.enter (by decide +kernel) (Nat.le_of_ble_eq_true rfl) ?_
  change zW shM g (d + 1) mX9_someSteps (zz Q) 0 [(0, .ref 0), (1, .int l1), (2, .int l2)] [] M
  refine z_aload_n dX9_someSteps_0 0 rfl ?_
  refine z_geti shM_0 rfl flX9_204 dX9_someSteps_1 ?_
  refine z_bipush (v := 11) dX9_someSteps_4 (by decide) ?_
  refine z_isub dX9_someSteps_6 ?_
  refine z_istore_n [(3, .int ((M 0 25) - 11)), (0, .ref 0), (1, .int l1), (2, .int l2)] dX9_someSteps_7 (by decide) rfl ?_
  refine z_aload_n dX9_someSteps_8 1 rfl ?_
  refine z_callV (m2 := mX9_next0) (st := []) [] okX9_next0 (Or.inl lkX9_228) shM_0 rfl rfl rfl (Nat.le_of_ble_eq_true rfl) dX9_someSteps_9 (zgo_v h fun  M1 h => ?_)
  refine z_aload_n dX9_someSteps_12 1 rfl ?_
  refine z_geti shM_0 rfl flX9_204 dX9_someSteps_13 ?_
  refine z_iconst (v := 2) dX9_someSteps_16 (by decide) ?_
  refine z_icmp_ne 55 dX9_someSteps_17 (by decide) (fun c1 => ?_) (fun c1 => ?_)
  · have h := h.1 c1
    refine z_aload_n dX9_someSteps_55 1 rfl ?_
    refine z_iconst (v := 1) dX9_someSteps_56 (by decide) ?_
    refine z_bipush (v := 20) dX9_someSteps_57 (by decide) ?_
    refine z_callV (m2 := mX9_number) (st := []) [.int 1, .int 20] okX9_number (Or.inl lkX9_273) shM_0 rfl rfl rfl (Nat.le_of_ble_eq_true rfl) dX9_someSteps_59 (zgo_z h fun b1 M2 h => ?_)
    refine z_ifb_ne 67 dX9_someSteps_62 (by decide) (fun c2 => ?_) (fun c2 => ?_)
    · have h := h.1 c2
      refine z_iconst (v := 0) dX9_someSteps_67 (by decide) ?_
      refine z_istore [(4, .int 0), (3, .int ((M 0 25) - 11)), (0, .ref 0), (1, .int l1), (2, .int l2)] dX9_someSteps_68 (by decide) rfl ?_
      exact zW.sub [2, 3, 4, 1, 0] rfl h
    · have h := h.2 c2
      refine z_iconst (v := 0) dX9_someSteps_65 (by decide) ?_
      exact z_zret (b := false) rfl rfl dX9_someSteps_66 h
  · have h := h.2 c1
    refine z_aload_n dX9_someSteps_20 1 rfl ?_
    refine z_geti shM_0 rfl flX9_216 dX9_someSteps_21 ?_
    refine z_iconst (v := 1) dX9_someSteps_24 (by decide) ?_
    refine z_bipush (v := 20) dX9_someSteps_25 (by decide) ?_
    refine z_callS (m2 := mX9_isIn) (st := []) [.int (M1 0 27), .int 1, .int 20] okX9_isIn (Or.inl lkX9_97) rfl rfl (Nat.le_of_ble_eq_true rfl) dX9_someSteps_27 (zgo_z h fun b1 M2 h => ?_)
    refine z_ifb_eq 55 dX9_someSteps_30 (by decide) (fun c2 => ?_) (fun c2 => ?_)
    · have h := h.1 c2
      refine z_aload_n dX9_someSteps_55 1 rfl ?_
      refine z_iconst (v := 1) dX9_someSteps_56 (by decide) ?_
      refine z_bipush (v := 20) dX9_someSteps_57 (by decide) ?_
      refine z_callV (m2 := mX9_number) (st := []) [.int 1, .int 20] okX9_number (Or.inl lkX9_273) shM_0 rfl rfl rfl (Nat.le_of_ble_eq_true rfl) dX9_someSteps_59 (zgo_z h fun b2 M3 h => ?_)
      refine z_ifb_ne 67 dX9_someSteps_62 (by decide) (fun c3 => ?_) (fun c3 => ?_)
      · have h := h.1 c3
        refine z_iconst (v := 0) dX9_someSteps_67 (by decide) ?_
        refine z_istore [(4, .int 0), (3, .int ((M 0 25) - 11)), (0, .ref 0), (1, .int l1), (2, .int l2)] dX9_someSteps_68 (by decide) rfl ?_
        exact zW.sub [2, 3, 4, 1, 0] rfl h
      · have h := h.2 c3
        refine z_iconst (v := 0) dX9_someSteps_65 (by decide) ?_
        exact z_zret (b := false) rfl rfl dX9_someSteps_66 h
    · have h := h.2 c2
      refine z_aload_n dX9_someSteps_33 1 rfl ?_
      refine z_getr shM_0 rfl flX9_31 dX9_someSteps_34 ?_
      refine z_iload_n dX9_someSteps_37 2 rfl ?_
      obtain ⟨k1, ek1, uk1, h⟩ := h
      refine z_iald2 (k0 := k1) shM_8 (by decide) ek1 uk1 dX9_someSteps_38 ?_
      refine z_aload_n dX9_someSteps_39 1 rfl ?_
      refine z_geti shM_0 rfl flX9_216 dX9_someSteps_40 ?_
      refine z_iadd dX9_someSteps_43 ?_
      refine z_bipush (v := 60) dX9_someSteps_44 (by decide) ?_
      refine z_icmp_le 55 dX9_someSteps_46 (by decide) (fun c3 => ?_) (fun c3 => ?_)
      · have h := h.1 c3
        refine z_aload_n dX9_someSteps_55 1 rfl ?_
        refine z_iconst (v := 1) dX9_someSteps_56 (by decide) ?_
        refine z_bipush (v := 20) dX9_someSteps_57 (by decide) ?_
        refine z_callV (m2 := mX9_number) (st := []) [.int 1, .int 20] okX9_number (Or.inl lkX9_273) shM_0 rfl rfl rfl (Nat.le_of_ble_eq_true rfl) dX9_someSteps_59 (zgo_z h fun b2 M3 h => ?_)
        refine z_ifb_ne 67 dX9_someSteps_62 (by decide) (fun c4 => ?_) (fun c4 => ?_)
        · have h := h.1 c4
          refine z_iconst (v := 0) dX9_someSteps_67 (by decide) ?_
          refine z_istore [(4, .int 0), (3, .int ((M 0 25) - 11)), (0, .ref 0), (1, .int l1), (2, .int l2)] dX9_someSteps_68 (by decide) rfl ?_
          exact zW.sub [2, 3, 4, 1, 0] rfl h
        · have h := h.2 c4
          refine z_iconst (v := 0) dX9_someSteps_65 (by decide) ?_
          exact z_zret (b := false) rfl rfl dX9_someSteps_66 h
      · have h := h.2 c3
        refine z_aload_n dX9_someSteps_49 1 rfl ?_
        refine z_iconst (v := 4) dX9_someSteps_50 (by decide) ?_
        refine z_callV (m2 := mX9_bad) (st := []) [.int 4] okX9_bad (Or.inl lkX9_225) shM_0 rfl rfl rfl (Nat.le_of_ble_eq_true rfl) dX9_someSteps_51 (zgo_z h fun b2 M3 h => ?_)
        exact z_zret rfl rfl dX9_someSteps_54 h
set_option maxRecDepth 20000 in
theorem vX9_someSteps_70 {g : zG} {d : Nat} {Q : Bool → zM → Prop} {M : zM} {l1 : Int32} {l2 : Int32} {l3 : Int32} {l4 : Int32} (h : ((M 0 33) ≤ l4 → Q true M) ∧ (¬ (M 0 33) ≤ l4 → ∃ k1 : Nat, l1 = iv k1 ∧ k1 < 6 ∧ ∃ k2 : Nat, ((60 * l1) + (M 8 k1)) = iv k2 ∧ k2 < 360 ∧ zW shM g (d + 1) mX9_someSteps (zz Q) 70 [(0, .ref 0), (1, .int l1), (2, .int l2), (3, .int l3), (4, .int (l4 + 1))] [] (zup (zup M 7 k2 ((2 * l3) + l2)) 8 k1 (((zup M 7 k2 ((2 * l3) + l2)) 8 k1) + 1)))) : zW shM g (d + 1) mX9_someSteps (zz Q) 70 [(0, .ref 0), (1, .int l1), (2, .int l2), (3, .int l3), (4, .int l4)] [] M := by
  refine z_iload dX9_someSteps_70 4 rfl ?_
  refine z_aload_n dX9_someSteps_72 0 rfl ?_
  refine z_geti shM_0 rfl flX9_270 dX9_someSteps_73 ?_
  refine z_icmp_ge 116 dX9_someSteps_76 (by decide) (fun c1 => ?_) (fun c1 => ?_)
  · have h := h.1 c1
    refine z_iconst (v := 1) dX9_someSteps_116 (by decide) ?_
    exact z_zret (b := true) rfl rfl dX9_someSteps_117 h
  · have h := h.2 c1
    refine z_aload_n dX9_someSteps_79 0 rfl ?_
    refine z_getr shM_0 rfl flX9_28 dX9_someSteps_80 ?_
    refine z_bipush (v := 60) dX9_someSteps_83 (by decide) ?_
    refine z_iload_n dX9_someSteps_85 1 rfl ?_
    refine z_imul dX9_someSteps_86 ?_
    refine z_aload_n dX9_someSteps_87 0 rfl ?_
    refine z_getr shM_0 rfl flX9_31 dX9_someSteps_88 ?_
    refine z_iload_n dX9_someSteps_91 1 rfl ?_
    obtain ⟨k1, ek1, uk1, h⟩ := h
    refine z_iald2 (k0 := k1) shM_8 (by decide) ek1 uk1 dX9_someSteps_92 ?_
    refine z_iadd dX9_someSteps_93 ?_
    refine z_iconst (v := 2) dX9_someSteps_94 (by decide) ?_
    refine z_iload_n dX9_someSteps_95 3 rfl ?_
    refine z_imul dX9_someSteps_96 ?_
    refine z_iload_n dX9_someSteps_97 2 rfl ?_
    refine z_iadd dX9_someSteps_98 ?_
    obtain ⟨k2, ek2, uk2, h⟩ := h
    refine z_iast2 (k0 := k2) shM_7 (by decide) ek2 uk2 dX9_someSteps_99 ?_
    refine z_aload_n dX9_someSteps_100 0 rfl ?_
    refine z_getr shM_0 rfl flX9_31 dX9_someSteps_101 ?_
    refine z_iload_n dX9_someSteps_104 1 rfl ?_
    refine z_dup2 dX9_someSteps_105 ?_
    refine z_iald2 (k0 := k1) shM_8 (by decide) ek1 uk1 dX9_someSteps_106 ?_
    refine z_iconst (v := 1) dX9_someSteps_107 (by decide) ?_
    refine z_iadd dX9_someSteps_108 ?_
    refine z_iast2 (k0 := k1) shM_8 (by decide) ek1 uk1 dX9_someSteps_109 ?_
    refine z_iinc (x := l4) (v := (l4 + 1)) [(4, .int (l4 + 1)), (0, .ref 0), (1, .int l1), (2, .int l2), (3, .int l3)] dX9_someSteps_110 4 rfl rfl (by decide) rfl ?_
    refine z_goto 70 dX9_someSteps_113 (by decide) ?_
    exact zW.sub [1, 2, 3, 4, 0] rfl h
