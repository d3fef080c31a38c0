/-! THE WALKS, by program: 22.model -/
theorem dX9_goesOn_0 : decode cX9_goesOn 0 = .ok (.aload_n 0, 1) := by decide +kernel
theorem dX9_goesOn_1 : decode cX9_goesOn 1 = .ok (.iload_n 1, 1) := by decide +kernel
theorem dX9_goesOn_2 : decode cX9_goesOn 2 = .ok (.aload_n 0, 1) := by decide +kernel
theorem dX9_goesOn_3 : decode cX9_goesOn 3 = .ok (.getfield 7, 3) := by decide +kernel
theorem dX9_goesOn_6 : decode cX9_goesOn 6 = .ok (.bipush 9, 2) := by decide +kernel
theorem dX9_goesOn_8 : decode cX9_goesOn 8 = .ok (.iload_n 1, 1) := by decide +kernel
theorem dX9_goesOn_9 : decode cX9_goesOn 9 = .ok (.iadd, 1) := by decide +kernel
theorem dX9_goesOn_10 : decode cX9_goesOn 10 = .ok (.iaload, 1) := by decide +kernel
theorem dX9_goesOn_11 : decode cX9_goesOn 11 = .ok (.invokevirtual 366, 3) := by decide +kernel
theorem dX9_goesOn_14 : decode cX9_goesOn 14 = .ok (.istore_n 3, 1) := by decide +kernel
theorem dX9_goesOn_15 : decode cX9_goesOn 15 = .ok (.iload_n 3, 1) := by decide +kernel
theorem dX9_goesOn_16 : decode cX9_goesOn 16 = .ok (.iconst 2, 1) := by decide +kernel
theorem dX9_goesOn_17 : decode cX9_goesOn 17 = .ok (.idiv, 1) := by decide +kernel
theorem dX9_goesOn_18 : decode cX9_goesOn 18 = .ok (.istore 4, 2) := by decide +kernel
theorem dX9_goesOn_20 : decode cX9_goesOn 20 = .ok (.aload_n 0, 1) := by decide +kernel
theorem dX9_goesOn_21 : decode cX9_goesOn 21 = .ok (.getfield 7, 3) := by decide +kernel
theorem dX9_goesOn_24 : decode cX9_goesOn 24 = .ok (.bipush 15, 2) := by decide +kernel
theorem dX9_goesOn_26 : decode cX9_goesOn 26 = .ok (.iload_n 1, 1) := by decide +kernel
theorem dX9_goesOn_27 : decode cX9_goesOn 27 = .ok (.iadd, 1) := by decide +kernel
theorem dX9_goesOn_28 : decode cX9_goesOn 28 = .ok (.iload_n 3, 1) := by decide +kernel
theorem dX9_goesOn_29 : decode cX9_goesOn 29 = .ok (.iconst 2, 1) := by decide +kernel
theorem dX9_goesOn_30 : decode cX9_goesOn 30 = .ok (.irem, 1) := by decide +kernel
theorem dX9_goesOn_31 : decode cX9_goesOn 31 = .ok (.iastore, 1) := by decide +kernel
theorem dX9_goesOn_32 : decode cX9_goesOn 32 = .ok (.aload_n 0, 1) := by decide +kernel
theorem dX9_goesOn_33 : decode cX9_goesOn 33 = .ok (.getfield 7, 3) := by decide +kernel
theorem dX9_goesOn_36 : decode cX9_goesOn 36 = .ok (.bipush 9, 2) := by decide +kernel
theorem dX9_goesOn_38 : decode cX9_goesOn 38 = .ok (.iload_n 1, 1) := by decide +kernel
theorem dX9_goesOn_39 : decode cX9_goesOn 39 = .ok (.iadd, 1) := by decide +kernel
theorem dX9_goesOn_40 : decode cX9_goesOn 40 = .ok (.dup2, 1) := by decide +kernel
theorem dX9_goesOn_41 : decode cX9_goesOn 41 = .ok (.iaload, 1) := by decide +kernel
theorem dX9_goesOn_42 : decode cX9_goesOn 42 = .ok (.iconst 1, 1) := by decide +kernel
theorem dX9_goesOn_43 : decode cX9_goesOn 43 = .ok (.iadd, 1) := by decide +kernel
theorem dX9_goesOn_44 : decode cX9_goesOn 44 = .ok (.iastore, 1) := by decide +kernel
theorem dX9_goesOn_45 : decode cX9_goesOn 45 = .ok (.iload 4, 2) := by decide +kernel
theorem dX9_goesOn_47 : decode cX9_goesOn 47 = .ok (.iconst 4, 1) := by decide +kernel
theorem dX9_goesOn_48 : decode cX9_goesOn 48 = .ok (.if_icmp .eq 71, 3) := by decide +kernel
theorem dX9_goesOn_51 : decode cX9_goesOn 51 = .ok (.aload_n 0, 1) := by decide +kernel
theorem dX9_goesOn_52 : decode cX9_goesOn 52 = .ok (.aload_n 0, 1) := by decide +kernel
theorem dX9_goesOn_53 : decode cX9_goesOn 53 = .ok (.getfield 7, 3) := by decide +kernel
theorem dX9_goesOn_56 : decode cX9_goesOn 56 = .ok (.iconst 3, 1) := by decide +kernel
theorem dX9_goesOn_57 : decode cX9_goesOn 57 = .ok (.iload_n 1, 1) := by decide +kernel
theorem dX9_goesOn_58 : decode cX9_goesOn 58 = .ok (.iadd, 1) := by decide +kernel
theorem dX9_goesOn_59 : decode cX9_goesOn 59 = .ok (.iaload, 1) := by decide +kernel
theorem dX9_goesOn_60 : decode cX9_goesOn 60 = .ok (.iload 4, 2) := by decide +kernel
theorem dX9_goesOn_62 : decode cX9_goesOn 62 = .ok (.invokevirtual 369, 3) := by decide +kernel
theorem dX9_goesOn_65 : decode cX9_goesOn 65 = .ok (.istore 5, 2) := by decide +kernel
theorem dX9_goesOn_67 : decode cX9_goesOn 67 = .ok (.aload_n 0, 1) := by decide +kernel
theorem dX9_goesOn_68 : decode cX9_goesOn 68 = .ok (.getfield 7, 3) := by decide +kernel
theorem dX9_goesOn_71 : decode cX9_goesOn 71 = .ok (.iconst 3, 1) := by decide +kernel
theorem dX9_goesOn_72 : decode cX9_goesOn 72 = .ok (.iload_n 1, 1) := by decide +kernel
theorem dX9_goesOn_73 : decode cX9_goesOn 73 = .ok (.iadd, 1) := by decide +kernel
theorem dX9_goesOn_74 : decode cX9_goesOn 74 = .ok (.iload 5, 2) := by decide +kernel
theorem dX9_goesOn_76 : decode cX9_goesOn 76 = .ok (.iastore, 1) := by decide +kernel
theorem dX9_goesOn_77 : decode cX9_goesOn 77 = .ok (.aload_n 0, 1) := by decide +kernel
theorem dX9_goesOn_78 : decode cX9_goesOn 78 = .ok (.getfield 7, 3) := by decide +kernel
theorem dX9_goesOn_81 : decode cX9_goesOn 81 = .ok (.bipush 15, 2) := by decide +kernel
theorem dX9_goesOn_83 : decode cX9_goesOn 83 = .ok (.iload_n 1, 1) := by decide +kernel
theorem dX9_goesOn_84 : decode cX9_goesOn 84 = .ok (.iadd, 1) := by decide +kernel
theorem dX9_goesOn_85 : decode cX9_goesOn 85 = .ok (.iaload, 1) := by decide +kernel
theorem dX9_goesOn_86 : decode cX9_goesOn 86 = .ok (.iconst 1, 1) := by decide +kernel
theorem dX9_goesOn_87 : decode cX9_goesOn 87 = .ok (.if_icmp .ne 13, 3) := by decide +kernel
theorem dX9_goesOn_90 : decode cX9_goesOn 90 = .ok (.aload_n 0, 1) := by decide +kernel
theorem dX9_goesOn_91 : decode cX9_goesOn 91 = .ok (.iload_n 1, 1) := by decide +kernel
theorem dX9_goesOn_92 : decode cX9_goesOn 92 = .ok (.iload 5, 2) := by decide +kernel
theorem dX9_goesOn_94 : decode cX9_goesOn 94 = .ok (.invokevirtual 372, 3) := by decide +kernel
theorem dX9_goesOn_97 : decode cX9_goesOn 97 = .ok (.goto 4, 3) := by decide +kernel
theorem dX9_goesOn_100 : decode cX9_goesOn 100 = .ok (.iconst 0, 1) := by decide +kernel
theorem dX9_goesOn_101 : decode cX9_goesOn 101 = .ok (.istore 6, 2) := by decide +kernel
theorem dX9_goesOn_103 : decode cX9_goesOn 103 = .ok (.iload 6, 2) := by decide +kernel
theorem dX9_goesOn_105 : decode cX9_goesOn 105 = .ok (.ifCond .le 14, 3) := by decide +kernel
theorem dX9_goesOn_108 : decode cX9_goesOn 108 = .ok (.aload_n 0, 1) := by decide +kernel
theorem dX9_goesOn_109 : decode cX9_goesOn 109 = .ok (.iload_n 1, 1) := by decide +kernel
theorem dX9_goesOn_110 : decode cX9_goesOn 110 = .ok (.iload 5, 2) := by decide +kernel
theorem dX9_goesOn_112 : decode cX9_goesOn 112 = .ok (.iload 6, 2) := by decide +kernel
theorem dX9_goesOn_114 : decode cX9_goesOn 114 = .ok (.iconst 0, 1) := by decide +kernel
theorem dX9_goesOn_115 : decode cX9_goesOn 115 = .ok (.iload_n 2, 1) := by decide +kernel
theorem dX9_goesOn_116 : decode cX9_goesOn 116 = .ok (.invokevirtual 375, 3) := by decide +kernel
theorem dX9_goesOn_119 : decode cX9_goesOn 119 = .ok (.aload_n 0, 1) := by decide +kernel
theorem dX9_goesOn_120 : decode cX9_goesOn 120 = .ok (.getfield 7, 3) := by decide +kernel
theorem dX9_goesOn_123 : decode cX9_goesOn 123 = .ok (.bipush 9, 2) := by decide +kernel
theorem dX9_goesOn_125 : decode cX9_goesOn 125 = .ok (.iload_n 1, 1) := by decide +kernel
theorem dX9_goesOn_126 : decode cX9_goesOn 126 = .ok (.iadd, 1) := by decide +kernel
theorem dX9_goesOn_127 : decode cX9_goesOn 127 = .ok (.iaload, 1) := by decide +kernel
theorem dX9_goesOn_128 : decode cX9_goesOn 128 = .ok (.aload_n 0, 1) := by decide +kernel
theorem dX9_goesOn_129 : decode cX9_goesOn 129 = .ok (.getfield 7, 3) := by decide +kernel
theorem dX9_goesOn_132 : decode cX9_goesOn 132 = .ok (.sipush 166, 3) := by decide +kernel
theorem dX9_goesOn_135 : decode cX9_goesOn 135 = .ok (.iload_n 1, 1) := by decide +kernel
theorem dX9_goesOn_136 : decode cX9_goesOn 136 = .ok (.iadd, 1) := by decide +kernel
theorem dX9_goesOn_137 : decode cX9_goesOn 137 = .ok (.iaload, 1) := by decide +kernel
theorem dX9_goesOn_138 : decode cX9_goesOn 138 = .ok (.if_icmp .ne 22, 3) := by decide +kernel
theorem dX9_goesOn_141 : decode cX9_goesOn 141 = .ok (.aload_n 0, 1) := by decide +kernel
theorem dX9_goesOn_142 : decode cX9_goesOn 142 = .ok (.getfield 7, 3) := by decide +kernel
theorem dX9_goesOn_145 : decode cX9_goesOn 145 = .ok (.bipush 15, 2) := by decide +kernel
theorem dX9_goesOn_147 : decode cX9_goesOn 147 = .ok (.iload_n 1, 1) := by decide +kernel
theorem dX9_goesOn_148 : decode cX9_goesOn 148 = .ok (.iadd, 1) := by decide +kernel
theorem dX9_goesOn_149 : decode cX9_goesOn 149 = .ok (.aload_n 0, 1) := by decide +kernel
theorem dX9_goesOn_150 : decode cX9_goesOn 150 = .ok (.getfield 7, 3) := by decide +kernel
theorem dX9_goesOn_153 : decode cX9_goesOn 153 = .ok (.sipush 172, 3) := by decide +kernel
theorem dX9_goesOn_156 : decode cX9_goesOn 156 = .ok (.iload_n 1, 1) := by decide +kernel
theorem dX9_goesOn_157 : decode cX9_goesOn 157 = .ok (.iadd, 1) := by decide +kernel
theorem dX9_goesOn_158 : decode cX9_goesOn 158 = .ok (.iaload, 1) := by decide +kernel
theorem dX9_goesOn_159 : decode cX9_goesOn 159 = .ok (.iastore, 1) := by decide +kernel
theorem dX9_goesOn_160 : decode cX9_goesOn 160 = .ok (.return_, 1) := by decide +kernel
set_option maxRecDepth 20000 in
theorem vX9_goesOn {g : zG} {d : Nat} {Q : zM → Prop} {M : zM} {l1 : Int32} {l2 : Bool} (h : ∃ k1 : Nat, (9 + l1) = iv k1 ∧ k1 < 2200 ∧ zCi shM g d mX9_stepOf [.ref 0, .int l1, .int (M 1 k1)] M (fun x1 M1 => ∃ k2 : Nat, (15 + l1) = iv k2 ∧ k2 < 2200 ∧ ((x1 / 2) = 4 → zW shM g (d + 1) mX9_goesOn (zv Q) 119 [(0, .ref 0), (1, .int l1)] [] (zup (zup M1 1 k2 (x1 - x1 / 2 * 2)) 1 k1 (((zup M1 1 k2 (x1 - x1 / 2 * 2)) 1 k1) + 1))) ∧ (¬ (x1 / 2) = 4 → ∃ k3 : Nat, (3 + l1) = iv k3 ∧ k3 < 2200 ∧ zCi shM g d mX9_wentTo [.ref 0, .int ((zup (zup M1 1 k2 (x1 - x1 / 2 * 2)) 1 k1 (((zup M1 1 k2 (x1 - x1 / 2 * 2)) 1 k1) + 1)) 1 k3), .int (x1 / 2)] (zup (zup M1 1 k2 (x1 - x1 / 2 * 2)) 1 k1 (((zup M1 1 k2 (x1 - x1 / 2 * 2)) 1 k1) + 1)) (fun x2 M2 => (¬ ((zup M2 1 k3 x2) 1 k2) = 1 → zW shM g (d + 1) mX9_goesOn (zv Q) 101 [(0, .ref 0), (1, .int l1), (2, .int (zbI l2)), (5, .int x2)] [.int 0] (zup M2 1 k3 x2)) ∧ (((zup M2 1 k3 x2) 1 k2) = 1 → zCi shM g d mX9_cutOf [.ref 0, .int l1, .int x2] (zup M2 1 k3 x2) (fun x3 M3 => zW shM g (d + 1) mX9_goesOn (zv Q) 101 [(0, .ref 0), (1, .int l1), (2, .int (zbI l2)), (5, .int x2)] [.int x3] M3)))))) : zCv shM g (d + 1) mX9_goesOn [.ref 0, .int l1, .int (zbI l2)] M Q := by
  refine zW.enter (by decide +kernel) (Nat.le_of_ble_eq_true rfl) ?_
  change zW shM g (d + 1) mX9_goesOn (zv Q) 0 [(0, .ref 0), (1, .int l1), (2, .int (zbI l2))] [] M
  refine z_aload_n dX9_goesOn_0 0 rfl ?_
  refine z_iload_n dX9_goesOn_1 1 rfl ?_
  refine z_aload_n dX9_goesOn_2 0 rfl ?_
  refine z_getr shM_0 rfl flX9_7 dX9_goesOn_3 ?_
  refine z_bipush (v := 9) dX9_goesOn_6 (by decide) ?_
  refine z_iload_n dX9_goesOn_8 1 rfl ?_
  refine z_iadd dX9_goesOn_9 ?_
  obtain ⟨k1, ek1, uk1, h⟩ := h
  refine z_iald2 (k0 := k1) shM_1 (by decide) ek1 uk1 dX9_goesOn_10 ?_
  refine z_callV (m2 := mX9_stepOf) (st := []) [.int l1, .int (M 1 k1)] okX9_stepOf (Or.inl lkX9_366) shM_0 rfl rfl rfl (Nat.le_of_ble_eq_true rfl) dX9_goesOn_11 (zgo_i h fun x1 M1 h => ?_)
  refine z_istore_n [(3, .int x1), (0, .ref 0), (1, .int l1), (2, .int (zbI l2))] dX9_goesOn_14 (by decide) rfl ?_
  refine z_iload_n dX9_goesOn_15 0 rfl ?_
  refine z_iconst (v := 2) dX9_goesOn_16 (by decide) ?_
  refine z_idiv dX9_goesOn_17 (by decide) ?_
  refine z_istore [(4, .int (x1 / 2)), (3, .int x1), (0, .ref 0), (1, .int l1), (2, .int (zbI l2))] dX9_goesOn_18 (by decide) rfl ?_
  refine z_aload_n dX9_goesOn_20 2 rfl ?_
  refine z_getr shM_0 rfl flX9_7 dX9_goesOn_21 ?_
  refine z_bipush (v := 15) dX9_goesOn_24 (by decide) ?_
  refine z_iload_n dX9_goesOn_26 3 rfl ?_
  refine z_iadd dX9_goesOn_27 ?_
  refine z_iload_n dX9_goesOn_28 1 rfl ?_
  refine z_iconst (v := 2) dX9_goesOn_29 (by decide) ?_
  refine z_irem dX9_goesOn_30 (by decide) ?_
  obtain ⟨k2, ek2, uk2, h⟩ := h
  refine z_iast2 (k0 := k2) shM_1 (by decide) ek2 uk2 dX9_goesOn_31 ?_
  refine z_aload_n dX9_goesOn_32 2 rfl ?_
  refine z_getr shM_0 rfl flX9_7 dX9_goesOn_33 ?_
  refine z_bipush (v := 9) dX9_goesOn_36 (by decide) ?_
  refine z_iload_n dX9_goesOn_38 3 rfl ?_
  refine z_iadd dX9_goesOn_39 ?_
  refine z_dup2 dX9_goesOn_40 ?_
  refine z_iald2 (k0 := k1) shM_1 (by decide) ek1 uk1 dX9_goesOn_41 ?_
  refine z_iconst (v := 1) dX9_goesOn_42 (by decide) ?_
  refine z_iadd dX9_goesOn_43 ?_
  refine z_iast2 (k0 := k1) shM_1 (by decide) ek1 uk1 dX9_goesOn_44 ?_
  refine z_iload dX9_goesOn_45 0 rfl ?_
  refine z_iconst (v := 4) dX9_goesOn_47 (by decide) ?_
  refine z_icmp_eq 119 dX9_goesOn_48 (by decide) (fun c1 => ?_) (fun c1 => ?_)
  · have h := h.1 c1
    exact zW.sub [2, 3] rfl h
  · have h := h.2 c1
    refine z_aload_n dX9_goesOn_51 2 rfl ?_
    refine z_aload_n dX9_goesOn_52 2 rfl ?_
    refine z_getr shM_0 rfl flX9_7 dX9_goesOn_53 ?_
    refine z_iconst (v := 3) dX9_goesOn_56 (by decide) ?_
    refine z_iload_n dX9_goesOn_57 3 rfl ?_
    refine z_iadd dX9_goesOn_58 ?_
    obtain ⟨k3, ek3, uk3, h⟩ := h
    refine z_iald2 (k0 := k3) shM_1 (by decide) ek3 uk3 dX9_goesOn_59 ?_
    refine z_iload dX9_goesOn_60 0 rfl ?_
    refine z_callV (m2 := mX9_wentTo) (st := []) [.int ((zup (zup M1 1 k2 (x1 - x1 / 2 * 2)) 1 k1 (((zup M1 1 k2 (x1 - x1 / 2 * 2)) 1 k1) + 1)) 1 k3), .int (x1 / 2)] okX9_wentTo (Or.inl lkX9_369) shM_0 rfl rfl rfl (Nat.le_of_ble_eq_true rfl) dX9_goesOn_62 (zgo_i h fun x2 M2 h => ?_)
    refine z_istore [(5, .int x2), (4, .int (x1 / 2)), (3, .int x1), (0, .ref 0), (1, .int l1), (2, .int (zbI l2))] dX9_goesOn_65 (by decide) rfl ?_
    refine z_aload_n dX9_goesOn_67 3 rfl ?_
    refine z_getr shM_0 rfl flX9_7 dX9_goesOn_68 ?_
    refine z_iconst (v := 3) dX9_goesOn_71 (by decide) ?_
    refine z_iload_n dX9_goesOn_72 4 rfl ?_
    refine z_iadd dX9_goesOn_73 ?_
    refine z_iload dX9_goesOn_74 0 rfl ?_
    refine z_iast2 (k0 := k3) shM_1 (by decide) ek3 uk3 dX9_goesOn_76 ?_
    refine z_aload_n dX9_goesOn_77 3 rfl ?_
    refine z_getr shM_0 rfl flX9_7 dX9_goesOn_78 ?_
    refine z_bipush (v := 15) dX9_goesOn_81 (by decide) ?_
    refine z_iload_n dX9_goesOn_83 4 rfl ?_
    refine z_iadd dX9_goesOn_84 ?_
    refine z_iald2 (k0 := k2) shM_1 (by decide) ek2 uk2 dX9_goesOn_85 ?_
    refine z_iconst (v := 1) dX9_goesOn_86 (by decide) ?_
    refine z_icmp_ne 100 dX9_goesOn_87 (by decide) (fun c2 => ?_) (fun c2 => ?_)
    · have h := h.1 c2
      refine z_iconst (v := 0) dX9_goesOn_100 (by decide) ?_
      exact zW.sub [3, 4, 5, 0] rfl h
    · have h := h.2 c2
      refine z_aload_n dX9_goesOn_90 3 rfl ?_
      refine z_iload_n dX9_goesOn_91 4 rfl ?_
      refine z_iload dX9_goesOn_92 0 rfl ?_
      refine z_callV (m2 := mX9_cutOf) (st := []) [.int l1, .int x2] okX9_cutOf (Or.inl lkX9_372) shM_0 rfl rfl rfl (Nat.le_of_ble_eq_true rfl) dX9_goesOn_94 (zgo_i h fun x3 M3 h => ?_)
      refine z_goto 101 dX9_goesOn_97 (by decide) ?_
      exact zW.sub [3, 4, 5, 0] rfl h
set_option maxRecDepth 20000 in
theorem vX9_goesOn_101 {g : zG} {d : Nat} {Q : zM → Prop} {M : zM} {l1 : Int32} {l2 : Bool} {l5 : Int32} {s0 : Int32} (h : (s0 ≤ 0 → zW shM g (d + 1) mX9_goesOn (zv Q) 119 [(0, .ref 0), (1, .int l1)] [] M) ∧ (¬ s0 ≤ 0 → zCv shM g d mX9_deepens [.ref 0, .int l1, .int l5, .int s0, .int 0, .int (zbI l2)] M (fun  M1 => zW shM g (d + 1) mX9_goesOn (zv Q) 119 [(0, .ref 0), (1, .int l1)] [] M1))) : zW shM g (d + 1) mX9_goesOn (zv Q) 101 [(0, .ref 0), (1, .int l1), (2, .int (zbI l2)), (5, .int l5)] [.int s0] M := by
  refine z_istore [(6, .int s0), (0, .ref 0), (1, .int l1), (2, .int (zbI l2)), (5, .int l5)] dX9_goesOn_101 (by decide) rfl ?_
  refine z_iload dX9_goesOn_103 0 rfl ?_
  refine z_if_le 119 dX9_goesOn_105 (by decide) (fun c1 => ?_) (fun c1 => ?_)
  · have h := h.1 c1
    exact zW.sub [1, 2] rfl h
  · have h := h.2 c1
    refine z_aload_n dX9_goesOn_108 1 rfl ?_
    refine z_iload_n dX9_goesOn_109 2 rfl ?_
    refine z_iload dX9_goesOn_110 4 rfl ?_
    refine z_iload dX9_goesOn_112 0 rfl ?_
    refine z_iconst (v := 0) dX9_goesOn_114 (by decide) ?_
    refine z_iload_n dX9_goesOn_115 3 rfl ?_
    refine z_callV (m2 := mX9_deepens) (st := []) [.int l1, .int l5, .int s0, .int 0, .int (zbI l2)] okX9_deepens (Or.inl lkX9_375) shM_0 rfl rfl rfl (Nat.le_of_ble_eq_true rfl) dX9_goesOn_116 (zgo_v h fun  M1 h => ?_)
    exact zW.sub [1, 2] rfl h
set_option maxRecDepth 20000 in
theorem vX9_goesOn_119 {g : zG} {d : Nat} {Q : zM → Prop} {M : zM} {l1 : Int32} (h : ∃ k1 : Nat, (9 + l1) = iv k1 ∧ k1 < 2200 ∧ ∃ k2 : Nat, (166 + l1) = iv k2 ∧ k2 < 2200 ∧ (¬ (M 1 k1) = (M 1 k2) → Q M) ∧ ((M 1 k1) = (M 1 k2) → ∃ k3 : Nat, (172 + l1) = iv k3 ∧ k3 < 2200 ∧ ∃ k4 : Nat, (15 + l1) = iv k4 ∧ k4 < 2200 ∧ Q (zup M 1 k4 (M 1 k3)))) : zW shM g (d + 1) mX9_goesOn (zv Q) 119 [(0, .ref 0), (1, .int l1)] [] M := by
  refine z_aload_n dX9_goesOn_119 0 rfl ?_
  refine z_getr shM_0 rfl flX9_7 dX9_goesOn_120 ?_
  refine z_bipush (v := 9) dX9_goesOn_123 (by decide) ?_
  refine z_iload_n dX9_goesOn_125 1 rfl ?_
  refine z_iadd dX9_goesOn_126 ?_
  obtain ⟨k1, ek1, uk1, h⟩ := h
  refine z_iald2 (k0 := k1) shM_1 (by decide) ek1 uk1 dX9_goesOn_127 ?_
  refine z_aload_n dX9_goesOn_128 0 rfl ?_
  refine z_getr shM_0 rfl flX9_7 dX9_goesOn_129 ?_
  refine z_sipush (v := 166) dX9_goesOn_132 (by decide) ?_
  refine z_iload_n dX9_goesOn_135 1 rfl ?_
  refine z_iadd dX9_goesOn_136 ?_
  obtain ⟨k2, ek2, uk2, h⟩ := h
  refine z_iald2 (k0 := k2) shM_1 (by decide) ek2 uk2 dX9_goesOn_137 ?_
  refine z_icmp_ne 160 dX9_goesOn_138 (by decide) (fun c1 => ?_) (fun c1 => ?_)
  · have h := h.1 c1
    exact z_vret (st := []) rfl dX9_goesOn_160 ⟨rfl, h⟩
  · have h := h.2 c1
    refine z_aload_n dX9_goesOn_141 0 rfl ?_
    refine z_getr shM_0 rfl flX9_7 dX9_goesOn_142 ?_
    refine z_bipush (v := 15) dX9_goesOn_145 (by decide) ?_
    refine z_iload_n dX9_goesOn_147 1 rfl ?_
    refine z_iadd dX9_goesOn_148 ?_
    refine z_aload_n dX9_goesOn_149 0 rfl ?_
    refine z_getr shM_0 rfl flX9_7 dX9_goesOn_150 ?_
    refine z_sipush (v := 172) dX9_goesOn_153 (by decide) ?_
    refine z_iload_n dX9_goesOn_156 1 rfl ?_
    refine z_iadd dX9_goesOn_157 ?_
    obtain ⟨k3, ek3, uk3, h⟩ := h
    refine z_iald2 (k0 := k3) shM_1 (by decide) ek3 uk3 dX9_goesOn_158 ?_
    obtain ⟨k4, ek4, uk4, h⟩ := h
    refine z_iast2 (k0 := k4) shM_1 (by decide) ek4 uk4 dX9_goesOn_159 ?_
    exact z_vret (st := []) rfl dX9_goesOn_160 ⟨rfl, h⟩
theorem dX9_falls_0 : decode cX9_falls 0 = .ok (.iload_n 1, 1) := by decide +kernel
theorem dX9_falls_1 : decode cX9_falls 1 = .ok (.ifCond .eq 36, 3) := by decide +kernel
theorem dX9_falls_4 : decode cX9_falls 4 = .ok (.aload_n 0, 1) := by decide +kernel
theorem dX9_falls_5 : decode cX9_falls 5 = .ok (.getfield 7, 3) := by decide +kernel
theorem dX9_falls_8 : decode cX9_falls 8 = .ok (.sipush 153, 3) := by decide +kernel
theorem dX9_falls_11 : decode cX9_falls 11 = .ok (.iaload, 1) := by decide +kernel
theorem dX9_falls_12 : decode cX9_falls 12 = .ok (.ifCond .le 25, 3) := by decide +kernel
theorem dX9_falls_15 : decode cX9_falls 15 = .ok (.aload_n 0, 1) := by decide +kernel
theorem dX9_falls_16 : decode cX9_falls 16 = .ok (.sipush 1000, 3) := by decide +kernel
theorem dX9_falls_19 : decode cX9_falls 19 = .ok (.invokevirtual 379, 3) := by decide +kernel
theorem dX9_falls_22 : decode cX9_falls 22 = .ok (.aload_n 0, 1) := by decide +kernel
theorem dX9_falls_23 : decode cX9_falls 23 = .ok (.getfield 7, 3) := by decide +kernel
theorem dX9_falls_26 : decode cX9_falls 26 = .ok (.sipush 153, 3) := by decide +kernel
theorem dX9_falls_29 : decode cX9_falls 29 = .ok (.iaload, 1) := by decide +kernel
theorem dX9_falls_30 : decode cX9_falls 30 = .ok (.if_icmp .ge 7, 3) := by decide +kernel
theorem dX9_falls_33 : decode cX9_falls 33 = .ok (.iconst 1, 1) := by decide +kernel
theorem dX9_falls_34 : decode cX9_falls 34 = .ok (.goto 4, 3) := by decide +kernel
theorem dX9_falls_37 : decode cX9_falls 37 = .ok (.iconst 0, 1) := by decide +kernel
theorem dX9_falls_38 : decode cX9_falls 38 = .ok (.ireturn, 1) := by decide +kernel
set_option maxRecDepth 20000 in
theorem vX9_falls {g : zG} {d : Nat} {Q : Bool → zM → Prop} {M : zM} {l1 : Bool} (h : (l1 = false → Q false M) ∧ (l1 = true → ((M 1 153) ≤ 0 → Q false M) ∧ (¬ (M 1 153) ≤ 0 → zCi shM g d mX9_draw [.ref 0, .int 1000] M (fun x1 M1 => ((M1 1 153) ≤ x1 → Q false M1) ∧ (¬ (M1 1 153) ≤ x1 → Q true M1))))) : zCz shM g (d + 1) mX9_falls [.ref 0, .int (zbI l1)] M Q := by
  refine zW.enter (by decide +kernel) (Nat.le_of_ble_eq_true rfl) ?_
  change zW shM g (d + 1) mX9_falls (zz Q) 0 [(0, .ref 0), (1, .int (zbI l1))] [] M
  refine z_iload_n dX9_falls_0 1 rfl ?_
  refine z_ifb_eq 37 dX9_falls_1 (by decide) (fun c1 => ?_) (fun c1 => ?_)
  · have h := h.1 c1
    refine z_iconst (v := 0) dX9_falls_37 (by decide) ?_
    exact z_zret (b := false) rfl rfl dX9_falls_38 h
  · have h := h.2 c1
    refine z_aload_n dX9_falls_4 0 rfl ?_
    refine z_getr shM_0 rfl flX9_7 dX9_falls_5 ?_
    refine z_sipush (v := 153) dX9_falls_8 (by decide) ?_
    refine z_iald2 (k0 := 153) shM_1 (by decide) (by decide) (by decide) dX9_falls_11 ?_
    refine z_if_le 37 dX9_falls_12 (by decide) (fun c2 => ?_) (fun c2 => ?_)
    · have h := h.1 c2
      refine z_iconst (v := 0) dX9_falls_37 (by decide) ?_
      exact z_zret (b := false) rfl rfl dX9_falls_38 h
    · have h := h.2 c2
      refine z_aload_n dX9_falls_15 0 rfl ?_
      refine z_sipush (v := 1000) dX9_falls_16 (by decide) ?_
      refine z_callV (m2 := mX9_draw) (st := []) [.int 1000] okX9_draw (Or.inl lkX9_379) shM_0 rfl rfl rfl (Nat.le_of_ble_eq_true rfl) dX9_falls_19 (zgo_i h fun x1 M1 h => ?_)
      refine z_aload_n dX9_falls_22 0 rfl ?_
      refine z_getr shM_0 rfl flX9_7 dX9_falls_23 ?_
      refine z_sipush (v := 153) dX9_falls_26 (by decide) ?_
      refine z_iald2 (k0 := 153) shM_1 (by decide) (by decide) (by decide) dX9_falls_29 ?_
      refine z_icmp_ge 37 dX9_falls_30 (by decide) (fun c3 => ?_) (fun c3 => ?_)
      · have h := h.1 c3
        refine z_iconst (v := 0) dX9_falls_37 (by decide) ?_
        exact z_zret (b := false) rfl rfl dX9_falls_38 h
      · have h := h.2 c3
        refine z_iconst (v := 1) dX9_falls_33 (by decide) ?_
        refine z_goto 38 dX9_falls_34 (by decide) ?_
        exact z_zret (b := true) rfl rfl dX9_falls_38 h
theorem dX9_aMinute_0 : decode cX9_aMinute 0 = .ok (.iconst 0, 1) := by decide +kernel
theorem dX9_aMinute_1 : decode cX9_aMinute 1 = .ok (.istore_n 2, 1) := by decide +kernel
theorem dX9_aMinute_2 : decode cX9_aMinute 2 = .ok (.iconst 0, 1) := by decide +kernel
theorem dX9_aMinute_3 : decode cX9_aMinute 3 = .ok (.istore_n 3, 1) := by decide +kernel
theorem dX9_aMinute_4 : decode cX9_aMinute 4 = .ok (.iload_n 3, 1) := by decide +kernel
theorem dX9_aMinute_5 : decode cX9_aMinute 5 = .ok (.aload_n 0, 1) := by decide +kernel
theorem dX9_aMinute_6 : decode cX9_aMinute 6 = .ok (.getfield 7, 3) := by decide +kernel
theorem dX9_aMinute_9 : decode cX9_aMinute 9 = .ok (.sipush 154, 3) := by decide +kernel
theorem dX9_aMinute_12 : decode cX9_aMinute 12 = .ok (.iaload, 1) := by decide +kernel
theorem dX9_aMinute_13 : decode cX9_aMinute 13 = .ok (.if_icmp .ge 70, 3) := by decide +kernel
theorem dX9_aMinute_16 : decode cX9_aMinute 16 = .ok (.aload_n 0, 1) := by decide +kernel
theorem dX9_aMinute_17 : decode cX9_aMinute 17 = .ok (.getfield 7, 3) := by decide +kernel
theorem dX9_aMinute_20 : decode cX9_aMinute 20 = .ok (.bipush 9, 2) := by decide +kernel
theorem dX9_aMinute_22 : decode cX9_aMinute 22 = .ok (.iload_n 3, 1) := by decide +kernel
theorem dX9_aMinute_23 : decode cX9_aMinute 23 = .ok (.iadd, 1) := by decide +kernel
theorem dX9_aMinute_24 : decode cX9_aMinute 24 = .ok (.iaload, 1) := by decide +kernel
theorem dX9_aMinute_25 : decode cX9_aMinute 25 = .ok (.aload_n 0, 1) := by decide +kernel
theorem dX9_aMinute_26 : decode cX9_aMinute 26 = .ok (.getfield 7, 3) := by decide +kernel
theorem dX9_aMinute_29 : decode cX9_aMinute 29 = .ok (.sipush 166, 3) := by decide +kernel
theorem dX9_aMinute_32 : decode cX9_aMinute 32 = .ok (.iload_n 3, 1) := by decide +kernel
theorem dX9_aMinute_33 : decode cX9_aMinute 33 = .ok (.iadd, 1) := by decide +kernel
theorem dX9_aMinute_34 : decode cX9_aMinute 34 = .ok (.iaload, 1) := by decide +kernel
theorem dX9_aMinute_35 : decode cX9_aMinute 35 = .ok (.if_icmp .ne 6, 3) := by decide +kernel
theorem dX9_aMinute_38 : decode cX9_aMinute 38 = .ok (.goto 39, 3) := by decide +kernel
theorem dX9_aMinute_41 : decode cX9_aMinute 41 = .ok (.aload_n 0, 1) := by decide +kernel
theorem dX9_aMinute_42 : decode cX9_aMinute 42 = .ok (.iload_n 1, 1) := by decide +kernel
theorem dX9_aMinute_43 : decode cX9_aMinute 43 = .ok (.invokevirtual 382, 3) := by decide +kernel
theorem dX9_aMinute_46 : decode cX9_aMinute 46 = .ok (.ifCond .eq 25, 3) := by decide +kernel
theorem dX9_aMinute_49 : decode cX9_aMinute 49 = .ok (.aload_n 0, 1) := by decide +kernel
theorem dX9_aMinute_50 : decode cX9_aMinute 50 = .ok (.iload_n 3, 1) := by decide +kernel
theorem dX9_aMinute_51 : decode cX9_aMinute 51 = .ok (.aload_n 0, 1) := by decide +kernel
theorem dX9_aMinute_52 : decode cX9_aMinute 52 = .ok (.getfield 7, 3) := by decide +kernel
theorem dX9_aMinute_55 : decode cX9_aMinute 55 = .ok (.iconst 3, 1) := by decide +kernel
theorem dX9_aMinute_56 : decode cX9_aMinute 56 = .ok (.iload_n 3, 1) := by decide +kernel
theorem dX9_aMinute_57 : decode cX9_aMinute 57 = .ok (.iadd, 1) := by decide +kernel
theorem dX9_aMinute_58 : decode cX9_aMinute 58 = .ok (.iaload, 1) := by decide +kernel
theorem dX9_aMinute_59 : decode cX9_aMinute 59 = .ok (.iconst 3, 1) := by decide +kernel
theorem dX9_aMinute_60 : decode cX9_aMinute 60 = .ok (.iconst 1, 1) := by decide +kernel
theorem dX9_aMinute_61 : decode cX9_aMinute 61 = .ok (.iload_n 1, 1) := by decide +kernel
theorem dX9_aMinute_62 : decode cX9_aMinute 62 = .ok (.invokevirtual 375, 3) := by decide +kernel
theorem dX9_aMinute_65 : decode cX9_aMinute 65 = .ok (.iinc 2 1, 3) := by decide +kernel
theorem dX9_aMinute_68 : decode cX9_aMinute 68 = .ok (.goto 9, 3) := by decide +kernel
theorem dX9_aMinute_71 : decode cX9_aMinute 71 = .ok (.aload_n 0, 1) := by decide +kernel
theorem dX9_aMinute_72 : decode cX9_aMinute 72 = .ok (.iload_n 3, 1) := by decide +kernel
theorem dX9_aMinute_73 : decode cX9_aMinute 73 = .ok (.iload_n 1, 1) := by decide +kernel
theorem dX9_aMinute_74 : decode cX9_aMinute 74 = .ok (.invokevirtual 386, 3) := by decide +kernel
theorem dX9_aMinute_77 : decode cX9_aMinute 77 = .ok (.iinc 3 1, 3) := by decide +kernel
theorem dX9_aMinute_80 : decode cX9_aMinute 80 = .ok (.goto (-76), 3) := by decide +kernel
theorem dX9_aMinute_83 : decode cX9_aMinute 83 = .ok (.iconst 0, 1) := by decide +kernel
theorem dX9_aMinute_84 : decode cX9_aMinute 84 = .ok (.istore_n 3, 1) := by decide +kernel
theorem dX9_aMinute_85 : decode cX9_aMinute 85 = .ok (.iload_n 3, 1) := by decide +kernel
theorem dX9_aMinute_86 : decode cX9_aMinute 86 = .ok (.bipush 64, 2) := by decide +kernel
theorem dX9_aMinute_88 : decode cX9_aMinute 88 = .ok (.if_icmp .ge 32, 3) := by decide +kernel
theorem dX9_aMinute_91 : decode cX9_aMinute 91 = .ok (.aload_n 0, 1) := by decide +kernel
theorem dX9_aMinute_92 : decode cX9_aMinute 92 = .ok (.getfield 56, 3) := by decide +kernel
theorem dX9_aMinute_95 : decode cX9_aMinute 95 = .ok (.iload_n 3, 1) := by decide +kernel
theorem dX9_aMinute_96 : decode cX9_aMinute 96 = .ok (.aload_n 0, 1) := by decide +kernel
theorem dX9_aMinute_97 : decode cX9_aMinute 97 = .ok (.iload_n 3, 1) := by decide +kernel
theorem dX9_aMinute_98 : decode cX9_aMinute 98 = .ok (.invokevirtual 105, 3) := by decide +kernel
theorem dX9_aMinute_101 : decode cX9_aMinute 101 = .ok (.ifCond .eq 11, 3) := by decide +kernel
theorem dX9_aMinute_104 : decode cX9_aMinute 104 = .ok (.aload_n 0, 1) := by decide +kernel
theorem dX9_aMinute_105 : decode cX9_aMinute 105 = .ok (.iload_n 3, 1) := by decide +kernel
theorem dX9_aMinute_106 : decode cX9_aMinute 106 = .ok (.invokevirtual 390, 3) := by decide +kernel
theorem dX9_aMinute_109 : decode cX9_aMinute 109 = .ok (.goto 4, 3) := by decide +kernel
theorem dX9_aMinute_112 : decode cX9_aMinute 112 = .ok (.iconst 0, 1) := by decide +kernel
theorem dX9_aMinute_113 : decode cX9_aMinute 113 = .ok (.iastore, 1) := by decide +kernel
theorem dX9_aMinute_114 : decode cX9_aMinute 114 = .ok (.iinc 3 1, 3) := by decide +kernel
theorem dX9_aMinute_117 : decode cX9_aMinute 117 = .ok (.goto (-32), 3) := by decide +kernel
theorem dX9_aMinute_120 : decode cX9_aMinute 120 = .ok (.iconst 0, 1) := by decide +kernel
theorem dX9_aMinute_121 : decode cX9_aMinute 121 = .ok (.istore_n 3, 1) := by decide +kernel
theorem dX9_aMinute_122 : decode cX9_aMinute 122 = .ok (.iload_n 3, 1) := by decide +kernel
theorem dX9_aMinute_123 : decode cX9_aMinute 123 = .ok (.bipush 64, 2) := by decide +kernel
theorem dX9_aMinute_125 : decode cX9_aMinute 125 = .ok (.if_icmp .ge 38, 3) := by decide +kernel
theorem dX9_aMinute_128 : decode cX9_aMinute 128 = .ok (.aload_n 0, 1) := by decide +kernel
theorem dX9_aMinute_129 : decode cX9_aMinute 129 = .ok (.getfield 7, 3) := by decide +kernel
theorem dX9_aMinute_132 : decode cX9_aMinute 132 = .ok (.bipush 21, 2) := by decide +kernel
theorem dX9_aMinute_134 : decode cX9_aMinute 134 = .ok (.iload_n 3, 1) := by decide +kernel
theorem dX9_aMinute_135 : decode cX9_aMinute 135 = .ok (.iadd, 1) := by decide +kernel
theorem dX9_aMinute_136 : decode cX9_aMinute 136 = .ok (.iconst 0, 1) := by decide +kernel
theorem dX9_aMinute_137 : decode cX9_aMinute 137 = .ok (.aload_n 0, 1) := by decide +kernel
theorem dX9_aMinute_138 : decode cX9_aMinute 138 = .ok (.getfield 7, 3) := by decide +kernel
theorem dX9_aMinute_141 : decode cX9_aMinute 141 = .ok (.bipush 21, 2) := by decide +kernel
theorem dX9_aMinute_143 : decode cX9_aMinute 143 = .ok (.iload_n 3, 1) := by decide +kernel
theorem dX9_aMinute_144 : decode cX9_aMinute 144 = .ok (.iadd, 1) := by decide +kernel
theorem dX9_aMinute_145 : decode cX9_aMinute 145 = .ok (.iaload, 1) := by decide +kernel
theorem dX9_aMinute_146 : decode cX9_aMinute 146 = .ok (.aload_n 0, 1) := by decide +kernel
theorem dX9_aMinute_147 : decode cX9_aMinute 147 = .ok (.getfield 56, 3) := by decide +kernel
theorem dX9_aMinute_150 : decode cX9_aMinute 150 = .ok (.iload_n 3, 1) := by decide +kernel
theorem dX9_aMinute_151 : decode cX9_aMinute 151 = .ok (.iaload, 1) := by decide +kernel
theorem dX9_aMinute_152 : decode cX9_aMinute 152 = .ok (.isub, 1) := by decide +kernel
theorem dX9_aMinute_153 : decode cX9_aMinute 153 = .ok (.invokestatic 344, 3) := by decide +kernel
theorem dX9_aMinute_156 : decode cX9_aMinute 156 = .ok (.iastore, 1) := by decide +kernel
theorem dX9_aMinute_157 : decode cX9_aMinute 157 = .ok (.iinc 3 1, 3) := by decide +kernel
theorem dX9_aMinute_160 : decode cX9_aMinute 160 = .ok (.goto (-38), 3) := by decide +kernel
theorem dX9_aMinute_163 : decode cX9_aMinute 163 = .ok (.aload_n 0, 1) := by decide +kernel
theorem dX9_aMinute_164 : decode cX9_aMinute 164 = .ok (.getfield 7, 3) := by decide +kernel
theorem dX9_aMinute_167 : decode cX9_aMinute 167 = .ok (.iconst 0, 1) := by decide +kernel
theorem dX9_aMinute_168 : decode cX9_aMinute 168 = .ok (.dup2, 1) := by decide +kernel
theorem dX9_aMinute_169 : decode cX9_aMinute 169 = .ok (.iaload, 1) := by decide +kernel
theorem dX9_aMinute_170 : decode cX9_aMinute 170 = .ok (.iconst 1, 1) := by decide +kernel
theorem dX9_aMinute_171 : decode cX9_aMinute 171 = .ok (.iadd, 1) := by decide +kernel
theorem dX9_aMinute_172 : decode cX9_aMinute 172 = .ok (.iastore, 1) := by decide +kernel
theorem dX9_aMinute_173 : decode cX9_aMinute 173 = .ok (.iload_n 2, 1) := by decide +kernel
theorem dX9_aMinute_174 : decode cX9_aMinute 174 = .ok (.ireturn, 1) := by decide +kernel
set_option maxRecDepth 20000 in
theorem vX9_aMinute {g : zG} {d : Nat} {Q : Int32 → zM → Prop} {M : zM} {l1 : Bool} (h : zW shM g (d + 1) mX9_aMinute (zi Q) 4 [(0, .ref 0), (1, .int (zbI l1)), (2, .int 0), (3, .int 0)] [] M) : zCi shM g (d + 1) mX9_aMinute [.ref 0, .int (zbI l1)] M Q := by
  refine zW.enter (by decide +kernel) (Nat.le_of_ble_eq_true rfl) ?_
  change zW shM g (d + 1) mX9_aMinute (zi Q) 0 [(0, .ref 0), (1, .int (zbI l1))] [] M
  refine z_iconst (v := 0) dX9_aMinute_0 (by decide) ?_
  refine z_istore_n [(2, .int 0), (0, .ref 0), (1, .int (zbI l1))] dX9_aMinute_1 (by decide) rfl ?_
  refine z_iconst (v := 0) dX9_aMinute_2 (by decide) ?_
  refine z_istore_n [(3, .int 0), (2, .int 0), (0, .ref 0), (1, .int (zbI l1))] dX9_aMinute_3 (by decide) rfl ?_
  exact zW.sub [2, 3, 1, 0] rfl h
set_option maxRecDepth 20000 in
theorem vX9_aMinute_4 {g : zG} {d : Nat} {Q : Int32 → zM → Prop} {M : zM} {l1 : Bool} {l2 : Int32} {l3 : Int32} (h : ((M 1 154) ≤ l3 → zW shM g (d + 1) mX9_aMinute (zi Q) 85 [(0, .ref 0), (2, .int l2), (3, .int 0)] [] M) ∧ (¬ (M 1 154) ≤ l3 → ∃ k1 : Nat, (9 + l3) = iv k1 ∧ k1 < 2200 ∧ ∃ k2 : Nat, (166 + l3) = iv k2 ∧ k2 < 2200 ∧ (¬ (M 1 k1) = (M 1 k2) → zCz shM g d mX9_falls [.ref 0, .int (zbI l1)] M (fun b1 M1 => (b1 = false → zCv shM g d mX9_goesOn [.ref 0, .int l3, .int (zbI l1)] M1 (fun  M2 => zW shM g (d + 1) mX9_aMinute (zi Q) 4 [(0, .ref 0), (1, .int (zbI l1)), (2, .int l2), (3, .int (l3 + 1))] [] M2)) ∧ (b1 = true → ∃ k3 : Nat, (3 + l3) = iv k3 ∧ k3 < 2200 ∧ zCv shM g d mX9_deepens [.ref 0, .int l3, .int (M1 1 k3), .int 3, .int 1, .int (zbI l1)] M1 (fun  M2 => zW shM g (d + 1) mX9_aMinute (zi Q) 4 [(0, .ref 0), (1, .int (zbI l1)), (2, .int (l2 + 1)), (3, .int (l3 + 1))] [] M2)))) ∧ ((M 1 k1) = (M 1 k2) → zW shM g (d + 1) mX9_aMinute (zi Q) 4 [(0, .ref 0), (1, .int (zbI l1)), (2, .int l2), (3, .int (l3 + 1))] [] M))) : zW shM g (d + 1) mX9_aMinute (zi Q) 4 [(0, .ref 0), (1, .int (zbI l1)), (2, .int l2), (3, .int l3)] [] M := by
  refine z_iload_n dX9_aMinute_4 3 rfl ?_
  refine z_aload_n dX9_aMinute_5 0 rfl ?_
  refine z_getr shM_0 rfl flX9_7 dX9_aMinute_6 ?_
  refine z_sipush (v := 154) dX9_aMinute_9 (by decide) ?_
  refine z_iald2 (k0 := 154) shM_1 (by decide) (by decide) (by decide) dX9_aMinute_12 ?_
  refine z_icmp_ge 83 dX9_aMinute_13 (by decide) (fun c1 => ?_) (fun c1 => ?_)
  · have h := h.1 c1
    refine z_iconst (v := 0) dX9_aMinute_83 (by decide) ?_
    refine z_istore_n [(3, .int 0), (0, .ref 0), (1, .int (zbI l1)), (2, .int l2)] dX9_aMinute_84 (by decide) rfl ?_
    exact zW.sub [1, 3, 0] rfl h
  · have h := h.2 c1
    refine z_aload_n dX9_aMinute_16 0 rfl ?_
    refine z_getr shM_0 rfl flX9_7 dX9_aMinute_17 ?_
    refine z_bipush (v := 9) dX9_aMinute_20 (by decide) ?_
    refine z_iload_n dX9_aMinute_22 3 rfl ?_
    refine z_iadd dX9_aMinute_23 ?_
    obtain ⟨k1, ek1, uk1, h⟩ := h
    refine z_iald2 (k0 := k1) shM_1 (by decide) ek1 uk1 dX9_aMinute_24 ?_
    refine z_aload_n dX9_aMinute_25 0 rfl ?_
    refine z_getr shM_0 rfl flX9_7 dX9_aMinute_26 ?_
    refine z_sipush (v := 166) dX9_aMinute_29 (by decide) ?_
    refine z_iload_n dX9_aMinute_32 3 rfl ?_
    refine z_iadd dX9_aMinute_33 ?_
    obtain ⟨k2, ek2, uk2, h⟩ := h
    refine z_iald2 (k0 := k2) shM_1 (by decide) ek2 uk2 dX9_aMinute_34 ?_
    refine z_icmp_ne 41 dX9_aMinute_35 (by decide) (fun c2 => ?_) (fun c2 => ?_)
    · have h := h.1 c2
      refine z_aload_n dX9_aMinute_41 0 rfl ?_
      refine z_iload_n dX9_aMinute_42 1 rfl ?_
      refine z_callV (m2 := mX9_falls) (st := []) [.int (zbI l1)] okX9_falls (Or.inl lkX9_382) shM_0 rfl rfl rfl (Nat.le_of_ble_eq_true rfl) dX9_aMinute_43 (zgo_z h fun b1 M1 h => ?_)
      refine z_ifb_eq 71 dX9_aMinute_46 (by decide) (fun c3 => ?_) (fun c3 => ?_)
      · have h := h.1 c3
        refine z_aload_n dX9_aMinute_71 0 rfl ?_
        refine z_iload_n dX9_aMinute_72 3 rfl ?_
        refine z_iload_n dX9_aMinute_73 1 rfl ?_
        refine z_callV (m2 := mX9_goesOn) (st := []) [.int l3, .int (zbI l1)] okX9_goesOn (Or.inl lkX9_386) shM_0 rfl rfl rfl (Nat.le_of_ble_eq_true rfl) dX9_aMinute_74 (zgo_v h fun  M2 h => ?_)
        refine z_iinc (x := l3) (v := (l3 + 1)) [(3, .int (l3 + 1)), (0, .ref 0), (1, .int (zbI l1)), (2, .int l2)] dX9_aMinute_77 3 rfl rfl (by decide) rfl ?_
        refine z_goto 4 dX9_aMinute_80 (by decide) ?_
        exact zW.sub [1, 2, 3, 0] rfl h
      · have h := h.2 c3
        refine z_aload_n dX9_aMinute_49 0 rfl ?_
        refine z_iload_n dX9_aMinute_50 3 rfl ?_
        refine z_aload_n dX9_aMinute_51 0 rfl ?_
        refine z_getr shM_0 rfl flX9_7 dX9_aMinute_52 ?_
        refine z_iconst (v := 3) dX9_aMinute_55 (by decide) ?_
        refine z_iload_n dX9_aMinute_56 3 rfl ?_
        refine z_iadd dX9_aMinute_57 ?_
        obtain ⟨k3, ek3, uk3, h⟩ := h
        refine z_iald2 (k0 := k3) shM_1 (by decide) ek3 uk3 dX9_aMinute_58 ?_
        refine z_iconst (v := 3) dX9_aMinute_59 (by decide) ?_
        refine z_iconst (v := 1) dX9_aMinute_60 (by decide) ?_
        refine z_iload_n dX9_aMinute_61 1 rfl ?_
        refine z_callV (m2 := mX9_deepens) (st := []) [.int l3, .int (M1 1 k3), .int 3, .int 1, .int (zbI l1)] okX9_deepens (Or.inl lkX9_375) shM_0 rfl rfl rfl (Nat.le_of_ble_eq_true rfl) dX9_aMinute_62 (zgo_v h fun  M2 h => ?_)
        refine z_iinc (x := l2) (v := (l2 + 1)) [(2, .int (l2 + 1)), (0, .ref 0), (1, .int (zbI l1)), (3, .int l3)] dX9_aMinute_65 2 rfl rfl (by decide) rfl ?_
        refine z_goto 77 dX9_aMinute_68 (by decide) ?_
        refine z_iinc (x := l3) (v := (l3 + 1)) [(3, .int (l3 + 1)), (2, .int (l2 + 1)), (0, .ref 0), (1, .int (zbI l1))] dX9_aMinute_77 3 rfl rfl (by decide) rfl ?_
        refine z_goto 4 dX9_aMinute_80 (by decide) ?_
        exact zW.sub [2, 3, 1, 0] rfl h
    · have h := h.2 c2
      refine z_goto 77 dX9_aMinute_38 (by decide) ?_
      refine z_iinc (x := l3) (v := (l3 + 1)) [(3, .int (l3 + 1)), (0, .ref 0), (1, .int (zbI l1)), (2, .int l2)] dX9_aMinute_77 3 rfl rfl (by decide) rfl ?_
      refine z_goto 4 dX9_aMinute_80 (by decide) ?_
      exact zW.sub [1, 2, 3, 0] rfl h
set_option maxRecDepth 20000 in
theorem vX9_aMinute_85 {g : zG} {d : Nat} {Q : Int32 → zM → Prop} {M : zM} {l2 : Int32} {l3 : Int32} (h : (64 ≤ l3 → zW shM g (d + 1) mX9_aMinute (zi Q) 122 [(0, .ref 0), (2, .int l2), (3, .int 0)] [] M) ∧ (¬ 64 ≤ l3 → zCz shM g d mX9_isCell [.ref 0, .int l3] M (fun b1 M1 => (b1 = false → ∃ k1 : Nat, l3 = iv k1 ∧ k1 < 64 ∧ zW shM g (d + 1) mX9_aMinute (zi Q) 85 [(0, .ref 0), (2, .int l2), (3, .int (l3 + 1))] [] (zup M1 15 k1 0)) ∧ (b1 = true → zCi shM g d mX9_thawOf [.ref 0, .int l3] M1 (fun x1 M2 => ∃ k1 : Nat, l3 = iv k1 ∧ k1 < 64 ∧ zW shM g (d + 1) mX9_aMinute (zi Q) 85 [(0, .ref 0), (2, .int l2), (3, .int (l3 + 1))] [] (zup M2 15 k1 x1)))))) : zW shM g (d + 1) mX9_aMinute (zi Q) 85 [(0, .ref 0), (2, .int l2), (3, .int l3)] [] M := by
  refine z_iload_n dX9_aMinute_85 2 rfl ?_
  refine z_bipush (v := 64) dX9_aMinute_86 (by decide) ?_
  refine z_icmp_ge 120 dX9_aMinute_88 (by decide) (fun c1 => ?_) (fun c1 => ?_)
  · have h := h.1 c1
    refine z_iconst (v := 0) dX9_aMinute_120 (by decide) ?_
    refine z_istore_n [(3, .int 0), (0, .ref 0), (2, .int l2)] dX9_aMinute_121 (by decide) rfl ?_
    exact zW.sub [1, 2, 0] rfl h
  · have h := h.2 c1
    refine z_aload_n dX9_aMinute_91 0 rfl ?_
    refine z_getr shM_0 rfl flX9_56 dX9_aMinute_92 ?_
    refine z_iload_n dX9_aMinute_95 2 rfl ?_
    refine z_aload_n dX9_aMinute_96 0 rfl ?_
    refine z_iload_n dX9_aMinute_97 2 rfl ?_
    refine z_callV (m2 := mX9_isCell) (st := [.int l3, .ref 15]) [.int l3] okX9_isCell (Or.inl lkX9_105) shM_0 rfl rfl rfl (Nat.le_of_ble_eq_true rfl) dX9_aMinute_98 (zgo_z h fun b1 M1 h => ?_)
    refine z_ifb_eq 112 dX9_aMinute_101 (by decide) (fun c2 => ?_) (fun c2 => ?_)
    · have h := h.1 c2
      refine z_iconst (v := 0) dX9_aMinute_112 (by decide) ?_
      obtain ⟨k1, ek1, uk1, h⟩ := h
      refine z_iast2 (k0 := k1) shM_15 (by decide) ek1 uk1 dX9_aMinute_113 ?_
      refine z_iinc (x := l3) (v := (l3 + 1)) [(3, .int (l3 + 1)), (0, .ref 0), (2, .int l2)] dX9_aMinute_114 2 rfl rfl (by decide) rfl ?_
      refine z_goto 85 dX9_aMinute_117 (by decide) ?_
      exact zW.sub [1, 2, 0] rfl h
    · have h := h.2 c2
      refine z_aload_n dX9_aMinute_104 0 rfl ?_
      refine z_iload_n dX9_aMinute_105 2 rfl ?_
      refine z_callV (m2 := mX9_thawOf) (st := [.int l3, .ref 15]) [.int l3] okX9_thawOf (Or.inl lkX9_390) shM_0 rfl rfl rfl (Nat.le_of_ble_eq_true rfl) dX9_aMinute_106 (zgo_i h fun x1 M2 h => ?_)
      refine z_goto 113 dX9_aMinute_109 (by decide) ?_
      obtain ⟨k1, ek1, uk1, h⟩ := h
      refine z_iast2 (k0 := k1) shM_15 (by decide) ek1 uk1 dX9_aMinute_113 ?_
      refine z_iinc (x := l3) (v := (l3 + 1)) [(3, .int (l3 + 1)), (0, .ref 0), (2, .int l2)] dX9_aMinute_114 2 rfl rfl (by decide) rfl ?_
      refine z_goto 85 dX9_aMinute_117 (by decide) ?_
      exact zW.sub [1, 2, 0] rfl h
set_option maxRecDepth 20000 in
theorem vX9_aMinute_122 {g : zG} {d : Nat} {Q : Int32 → zM → Prop} {M : zM} {l2 : Int32} {l3 : Int32} (h : (64 ≤ l3 → Q l2 (zup M 1 0 ((M 1 0) + 1))) ∧ (¬ 64 ≤ l3 → ∃ k1 : Nat, (21 + l3) = iv k1 ∧ k1 < 2200 ∧ ∃ k2 : Nat, l3 = iv k2 ∧ k2 < 64 ∧ zCi shM g d mX9_greater [.int 0, .int ((M 1 k1) - (M 15 k2))] M (fun x1 M1 => zW shM g (d + 1) mX9_aMinute (zi Q) 122 [(0, .ref 0), (2, .int l2), (3, .int (l3 + 1))] [] (zup M1 1 k1 x1)))) : zW shM g (d + 1) mX9_aMinute (zi Q) 122 [(0, .ref 0), (2, .int l2), (3, .int l3)] [] M := by
  refine z_iload_n dX9_aMinute_122 2 rfl ?_
  refine z_bipush (v := 64) dX9_aMinute_123 (by decide) ?_
  refine z_icmp_ge 163 dX9_aMinute_125 (by decide) (fun c1 => ?_) (fun c1 => ?_)
  · have h := h.1 c1
    refine z_aload_n dX9_aMinute_163 0 rfl ?_
    refine z_getr shM_0 rfl flX9_7 dX9_aMinute_164 ?_
    refine z_iconst (v := 0) dX9_aMinute_167 (by decide) ?_
    refine z_dup2 dX9_aMinute_168 ?_
    refine z_iald2 (k0 := 0) shM_1 (by decide) (by decide) (by decide) dX9_aMinute_169 ?_
    refine z_iconst (v := 1) dX9_aMinute_170 (by decide) ?_
    refine z_iadd dX9_aMinute_171 ?_
    refine z_iast2 (k0 := 0) shM_1 (by decide) (by decide) (by decide) dX9_aMinute_172 ?_
    refine z_iload_n dX9_aMinute_173 1 rfl ?_
    exact z_iret (st := []) rfl rfl dX9_aMinute_174 ⟨_, rfl, h⟩
  · have h := h.2 c1
    refine z_aload_n dX9_aMinute_128 0 rfl ?_
    refine z_getr shM_0 rfl flX9_7 dX9_aMinute_129 ?_
    refine z_bipush (v := 21) dX9_aMinute_132 (by decide) ?_
    refine z_iload_n dX9_aMinute_134 2 rfl ?_
    refine z_iadd dX9_aMinute_135 ?_
    refine z_iconst (v := 0) dX9_aMinute_136 (by decide) ?_
    refine z_aload_n dX9_aMinute_137 0 rfl ?_
    refine z_getr shM_0 rfl flX9_7 dX9_aMinute_138 ?_
    refine z_bipush (v := 21) dX9_aMinute_141 (by decide) ?_
    refine z_iload_n dX9_aMinute_143 2 rfl ?_
    refine z_iadd dX9_aMinute_144 ?_
    obtain ⟨k1, ek1, uk1, h⟩ := h
    refine z_iald2 (k0 := k1) shM_1 (by decide) ek1 uk1 dX9_aMinute_145 ?_
    refine z_aload_n dX9_aMinute_146 0 rfl ?_
    refine z_getr shM_0 rfl flX9_56 dX9_aMinute_147 ?_
    refine z_iload_n dX9_aMinute_150 2 rfl ?_
    obtain ⟨k2, ek2, uk2, h⟩ := h
    refine z_iald2 (k0 := k2) shM_15 (by decide) ek2 uk2 dX9_aMinute_151 ?_
    refine z_isub dX9_aMinute_152 ?_
    refine z_callS (m2 := mX9_greater) (st := [.int (21 + l3), .ref 1]) [.int 0, .int ((M 1 k1) - (M 15 k2))] okX9_greater (Or.inl lkX9_344) rfl rfl (Nat.le_of_ble_eq_true rfl) dX9_aMinute_153 (zgo_i h fun x1 M1 h => ?_)
    refine z_iast2 (k0 := k1) shM_1 (by decide) ek1 uk1 dX9_aMinute_156 ?_
    refine z_iinc (x := l3) (v := (l3 + 1)) [(3, .int (l3 + 1)), (0, .ref 0), (2, .int l2)] dX9_aMinute_157 2 rfl rfl (by decide) rfl ?_
    refine z_goto 122 dX9_aMinute_160 (by decide) ?_
    exact zW.sub [1, 2, 0] rfl h
theorem dX9_minutes_0 : decode cX9_minutes 0 = .ok (.iload_n 1, 1) := by decide +kernel
theorem dX9_minutes_1 : decode cX9_minutes 1 = .ok (.iconst 1, 1) := by decide +kernel
theorem dX9_minutes_2 : decode cX9_minutes 2 = .ok (.bipush 60, 2) := by decide +kernel
theorem dX9_minutes_4 : decode cX9_minutes 4 = .ok (.invokestatic 97, 3) := by decide +kernel
theorem dX9_minutes_7 : decode cX9_minutes 7 = .ok (.ifCond .eq 17, 3) := by decide +kernel
theorem dX9_minutes_10 : decode cX9_minutes 10 = .ok (.aload_n 0, 1) := by decide +kernel
theorem dX9_minutes_11 : decode cX9_minutes 11 = .ok (.getfield 7, 3) := by decide +kernel
theorem dX9_minutes_14 : decode cX9_minutes 14 = .ok (.iconst 0, 1) := by decide +kernel
theorem dX9_minutes_15 : decode cX9_minutes 15 = .ok (.iaload, 1) := by decide +kernel
theorem dX9_minutes_16 : decode cX9_minutes 16 = .ok (.iload_n 1, 1) := by decide +kernel
theorem dX9_minutes_17 : decode cX9_minutes 17 = .ok (.iadd, 1) := by decide +kernel
theorem dX9_minutes_18 : decode cX9_minutes 18 = .ok (.sipush 9999, 3) := by decide +kernel
theorem dX9_minutes_21 : decode cX9_minutes 21 = .ok (.if_icmp .le 5, 3) := by decide +kernel
theorem dX9_minutes_24 : decode cX9_minutes 24 = .ok (.iconst (-1), 1) := by decide +kernel
theorem dX9_minutes_25 : decode cX9_minutes 25 = .ok (.ireturn, 1) := by decide +kernel
theorem dX9_minutes_26 : decode cX9_minutes 26 = .ok (.iconst 0, 1) := by decide +kernel
theorem dX9_minutes_27 : decode cX9_minutes 27 = .ok (.istore_n 2, 1) := by decide +kernel
theorem dX9_minutes_28 : decode cX9_minutes 28 = .ok (.iconst 0, 1) := by decide +kernel
theorem dX9_minutes_29 : decode cX9_minutes 29 = .ok (.istore_n 3, 1) := by decide +kernel
theorem dX9_minutes_30 : decode cX9_minutes 30 = .ok (.iload_n 3, 1) := by decide +kernel
theorem dX9_minutes_31 : decode cX9_minutes 31 = .ok (.iload_n 1, 1) := by decide +kernel
theorem dX9_minutes_32 : decode cX9_minutes 32 = .ok (.if_icmp .ge 21, 3) := by decide +kernel
theorem dX9_minutes_35 : decode cX9_minutes 35 = .ok (.aload_n 0, 1) := by decide +kernel
theorem dX9_minutes_36 : decode cX9_minutes 36 = .ok (.invokevirtual 393, 3) := by decide +kernel
theorem dX9_minutes_39 : decode cX9_minutes 39 = .ok (.iload_n 2, 1) := by decide +kernel
theorem dX9_minutes_40 : decode cX9_minutes 40 = .ok (.aload_n 0, 1) := by decide +kernel
theorem dX9_minutes_41 : decode cX9_minutes 41 = .ok (.iconst 1, 1) := by decide +kernel
theorem dX9_minutes_42 : decode cX9_minutes 42 = .ok (.invokevirtual 396, 3) := by decide +kernel
theorem dX9_minutes_45 : decode cX9_minutes 45 = .ok (.iadd, 1) := by decide +kernel
theorem dX9_minutes_46 : decode cX9_minutes 46 = .ok (.istore_n 2, 1) := by decide +kernel
theorem dX9_minutes_47 : decode cX9_minutes 47 = .ok (.iinc 3 1, 3) := by decide +kernel
theorem dX9_minutes_50 : decode cX9_minutes 50 = .ok (.goto (-20), 3) := by decide +kernel
theorem dX9_minutes_53 : decode cX9_minutes 53 = .ok (.iload_n 2, 1) := by decide +kernel
theorem dX9_minutes_54 : decode cX9_minutes 54 = .ok (.ireturn, 1) := by decide +kernel
set_option maxRecDepth 20000 in
theorem vX9_minutes {g : zG} {d : Nat} {Q : Int32 → zM → Prop} {M : zM} {l1 : Int32} (h : zCz shM g d mX9_isIn [.int l1, .int 1, .int 60] M (fun b1 M1 => (b1 = false → Q (-1) M1) ∧ (b1 = true → (((M1 1 0) + l1) ≤ 9999 → zW shM g (d + 1) mX9_minutes (zi Q) 30 [(0, .ref 0), (1, .int l1), (2, .int 0), (3, .int 0)] [] M1) ∧ (¬ ((M1 1 0) + l1) ≤ 9999 → Q (-1) M1)))) : zCi shM g (d + 1) mX9_minutes [.ref 0, .int l1] M Q := by
  refine zW.enter (by decide +kernel) (Nat.le_of_ble_eq_true rfl) ?_
  change zW shM g (d + 1) mX9_minutes (zi Q) 0 [(0, .ref 0), (1, .int l1)] [] M
  refine z_iload_n dX9_minutes_0 1 rfl ?_
  refine z_iconst (v := 1) dX9_minutes_1 (by decide) ?_
  refine z_bipush (v := 60) dX9_minutes_2 (by decide) ?_
  refine z_callS (m2 := mX9_isIn) (st := []) [.int l1, .int 1, .int 60] okX9_isIn (Or.inl lkX9_97) rfl rfl (Nat.le_of_ble_eq_true rfl) dX9_minutes_4 (zgo_z h fun b1 M1 h => ?_)
  refine z_ifb_eq 24 dX9_minutes_7 (by decide) (fun c1 => ?_) (fun c1 => ?_)
  · have h := h.1 c1
    refine z_iconst (v := (-1)) dX9_minutes_24 (by decide) ?_
    exact z_iret (st := []) rfl rfl dX9_minutes_25 ⟨_, rfl, h⟩
  · have h := h.2 c1
    refine z_aload_n dX9_minutes_10 0 rfl ?_
    refine z_getr shM_0 rfl flX9_7 dX9_minutes_11 ?_
    refine z_iconst (v := 0) dX9_minutes_14 (by decide) ?_
    refine z_iald2 (k0 := 0) shM_1 (by decide) (by decide) (by decide) dX9_minutes_15 ?_
    refine z_iload_n dX9_minutes_16 1 rfl ?_
    refine z_iadd dX9_minutes_17 ?_
    refine z_sipush (v := 9999) dX9_minutes_18 (by decide) ?_
    refine z_icmp_le 26 dX9_minutes_21 (by decide) (fun c2 => ?_) (fun c2 => ?_)
    · have h := h.1 c2
      refine z_iconst (v := 0) dX9_minutes_26 (by decide) ?_
      refine z_istore_n [(2, .int 0), (0, .ref 0), (1, .int l1)] dX9_minutes_27 (by decide) rfl ?_
      refine z_iconst (v := 0) dX9_minutes_28 (by decide) ?_
      refine z_istore_n [(3, .int 0), (2, .int 0), (0, .ref 0), (1, .int l1)] dX9_minutes_29 (by decide) rfl ?_
      exact zW.sub [2, 3, 1, 0] rfl h
    · have h := h.2 c2
      refine z_iconst (v := (-1)) dX9_minutes_24 (by decide) ?_
      exact z_iret (st := []) rfl rfl dX9_minutes_25 ⟨_, rfl, h⟩
set_option maxRecDepth 20000 in
theorem vX9_minutes_30 {g : zG} {d : Nat} {Q : Int32 → zM → Prop} {M : zM} {l1 : Int32} {l2 : Int32} {l3 : Int32} (h : (l1 ≤ l3 → Q l2 M) ∧ (¬ l1 ≤ l3 → zCv shM g d mX9_keeps [.ref 0] M (fun  M1 => zCi shM g d mX9_aMinute [.ref 0, .int (zbI true)] M1 (fun x2 M2 => zW shM g (d + 1) mX9_minutes (zi Q) 30 [(0, .ref 0), (1, .int l1), (2, .int (l2 + x2)), (3, .int (l3 + 1))] [] M2)))) : zW shM g (d + 1) mX9_minutes (zi Q) 30 [(0, .ref 0), (1, .int l1), (2, .int l2), (3, .int l3)] [] M := by
  refine z_iload_n dX9_minutes_30 3 rfl ?_
  refine z_iload_n dX9_minutes_31 1 rfl ?_
  refine z_icmp_ge 53 dX9_minutes_32 (by decide) (fun c1 => ?_) (fun c1 => ?_)
  · have h := h.1 c1
    refine z_iload_n dX9_minutes_53 2 rfl ?_
    exact z_iret (st := []) rfl rfl dX9_minutes_54 ⟨_, rfl, h⟩
  · have h := h.2 c1
    refine z_aload_n dX9_minutes_35 0 rfl ?_
    refine z_callV (m2 := mX9_keeps) (st := []) [] okX9_keeps (Or.inl lkX9_393) shM_0 rfl rfl rfl (Nat.le_of_ble_eq_true rfl) dX9_minutes_36 (zgo_v h fun  M1 h => ?_)
    refine z_iload_n dX9_minutes_39 2 rfl ?_
    refine z_aload_n dX9_minutes_40 0 rfl ?_
    refine z_iconst (v := 1) dX9_minutes_41 (by decide) ?_
    refine z_callV (m2 := mX9_aMinute) (st := [.int l2]) [.int (zbI true)] okX9_aMinute (Or.inl lkX9_396) shM_0 rfl rfl rfl (Nat.le_of_ble_eq_true rfl) dX9_minutes_42 (zgo_i h fun x2 M2 h => ?_)
    refine z_iadd dX9_minutes_45 ?_
    refine z_istore_n [(2, .int (l2 + x2)), (0, .ref 0), (1, .int l1), (3, .int l3)] dX9_minutes_46 (by decide) rfl ?_
    refine z_iinc (x := l3) (v := (l3 + 1)) [(3, .int (l3 + 1)), (2, .int (l2 + x2)), (0, .ref 0), (1, .int l1)] dX9_minutes_47 3 rfl rfl (by decide) rfl ?_
    refine z_goto 30 dX9_minutes_50 (by decide) ?_
    exact zW.sub [2, 3, 1, 0] rfl h
theorem dX9_laysAside_0 : decode cX9_laysAside 0 = .ok (.iconst 0, 1) := by decide +kernel
theorem dX9_laysAside_1 : decode cX9_laysAside 1 = .ok (.istore_n 1, 1) := by decide +kernel
theorem dX9_laysAside_2 : decode cX9_laysAside 2 = .ok (.iload_n 1, 1) := by decide +kernel
theorem dX9_laysAside_3 : decode cX9_laysAside 3 = .ok (.sipush 150, 3) := by decide +kernel
theorem dX9_laysAside_6 : decode cX9_laysAside 6 = .ok (.if_icmp .ge 21, 3) := by decide +kernel
theorem dX9_laysAside_9 : decode cX9_laysAside 9 = .ok (.aload_n 0, 1) := by decide +kernel
theorem dX9_laysAside_10 : decode cX9_laysAside 10 = .ok (.getfield 19, 3) := by decide +kernel
theorem dX9_laysAside_13 : decode cX9_laysAside 13 = .ok (.iload_n 1, 1) := by decide +kernel
theorem dX9_laysAside_14 : decode cX9_laysAside 14 = .ok (.aload_n 0, 1) := by decide +kernel
theorem dX9_laysAside_15 : decode cX9_laysAside 15 = .ok (.getfield 7, 3) := by decide +kernel
theorem dX9_laysAside_18 : decode cX9_laysAside 18 = .ok (.iload_n 1, 1) := by decide +kernel
theorem dX9_laysAside_19 : decode cX9_laysAside 19 = .ok (.iaload, 1) := by decide +kernel
theorem dX9_laysAside_20 : decode cX9_laysAside 20 = .ok (.iastore, 1) := by decide +kernel
theorem dX9_laysAside_21 : decode cX9_laysAside 21 = .ok (.iinc 1 1, 3) := by decide +kernel
theorem dX9_laysAside_24 : decode cX9_laysAside 24 = .ok (.goto (-22), 3) := by decide +kernel
theorem dX9_laysAside_27 : decode cX9_laysAside 27 = .ok (.return_, 1) := by decide +kernel
set_option maxRecDepth 20000 in
theorem vX9_laysAside {g : zG} {d : Nat} {Q : zM → Prop} {M : zM} (h : zW shM g d mX9_laysAside (zv Q) 2 [(0, .ref 0), (1, .int 0)] [] M) : zCv shM g d mX9_laysAside [.ref 0] M Q := by
  refine zW.enter (by decide +kernel) (Nat.le_of_ble_eq_true rfl) ?_
  change zW shM g d mX9_laysAside (zv Q) 0 [(0, .ref 0)] [] M
  refine z_iconst (v := 0) dX9_laysAside_0 (by decide) ?_
  refine z_istore_n [(1, .int 0), (0, .ref 0)] dX9_laysAside_1 (by decide) rfl ?_
  exact zW.sub [1, 0] rfl h
set_option maxRecDepth 20000 in
theorem vX9_laysAside_2 {g : zG} {d : Nat} {Q : zM → Prop} {M : zM} {l1 : Int32} (h : (150 ≤ l1 → Q M) ∧ (¬ 150 ≤ l1 → ∃ k1 : Nat, l1 = iv k1 ∧ k1 < 2200 ∧ k1 < 150 ∧ zW shM g d mX9_laysAside (zv Q) 2 [(0, .ref 0), (1, .int (l1 + 1))] [] (zup M 4 k1 (M 1 k1)))) : zW shM g d mX9_laysAside (zv Q) 2 [(0, .ref 0), (1, .int l1)] [] M := by
  refine z_iload_n dX9_laysAside_2 1 rfl ?_
  refine z_sipush (v := 150) dX9_laysAside_3 (by decide) ?_
  refine z_icmp_ge 27 dX9_laysAside_6 (by decide) (fun c1 => ?_) (fun c1 => ?_)
  · have h := h.1 c1
    exact z_vret (st := []) rfl dX9_laysAside_27 ⟨rfl, h⟩
  · have h := h.2 c1
    refine z_aload_n dX9_laysAside_9 0 rfl ?_
    refine z_getr shM_0 rfl flX9_19 dX9_laysAside_10 ?_
    refine z_iload_n dX9_laysAside_13 1 rfl ?_
    refine z_aload_n dX9_laysAside_14 0 rfl ?_
    refine z_getr shM_0 rfl flX9_7 dX9_laysAside_15 ?_
    refine z_iload_n dX9_laysAside_18 1 rfl ?_
    obtain ⟨k1, ek1, uk1, h⟩ := h
    refine z_iald2 (k0 := k1) shM_1 (by decide) ek1 uk1 dX9_laysAside_19 ?_
    obtain ⟨u1, h⟩ := h
    refine z_iast2 (k0 := k1) shM_4 (by decide) ek1 u1 dX9_laysAside_20 ?_
    refine z_iinc (x := l1) (v := (l1 + 1)) [(1, .int (l1 + 1)), (0, .ref 0)] dX9_laysAside_21 1 rfl rfl (by decide) rfl ?_
    refine z_goto 2 dX9_laysAside_24 (by decide) ?_
    exact zW.sub [1, 0] rfl h
theorem dX9_putsBack_0 : decode cX9_putsBack 0 = .ok (.iconst 0, 1) := by decide +kernel
theorem dX9_putsBack_1 : decode cX9_putsBack 1 = .ok (.istore_n 1, 1) := by decide +kernel
theorem dX9_putsBack_2 : decode cX9_putsBack 2 = .ok (.iload_n 1, 1) := by decide +kernel
theorem dX9_putsBack_3 : decode cX9_putsBack 3 = .ok (.sipush 150, 3) := by decide +kernel
theorem dX9_putsBack_6 : decode cX9_putsBack 6 = .ok (.if_icmp .ge 21, 3) := by decide +kernel
theorem dX9_putsBack_9 : decode cX9_putsBack 9 = .ok (.aload_n 0, 1) := by decide +kernel
theorem dX9_putsBack_10 : decode cX9_putsBack 10 = .ok (.getfield 7, 3) := by decide +kernel
theorem dX9_putsBack_13 : decode cX9_putsBack 13 = .ok (.iload_n 1, 1) := by decide +kernel
theorem dX9_putsBack_14 : decode cX9_putsBack 14 = .ok (.aload_n 0, 1) := by decide +kernel
theorem dX9_putsBack_15 : decode cX9_putsBack 15 = .ok (.getfield 19, 3) := by decide +kernel
theorem dX9_putsBack_18 : decode cX9_putsBack 18 = .ok (.iload_n 1, 1) := by decide +kernel
theorem dX9_putsBack_19 : decode cX9_putsBack 19 = .ok (.iaload, 1) := by decide +kernel
theorem dX9_putsBack_20 : decode cX9_putsBack 20 = .ok (.iastore, 1) := by decide +kernel
theorem dX9_putsBack_21 : decode cX9_putsBack 21 = .ok (.iinc 1 1, 3) := by decide +kernel
theorem dX9_putsBack_24 : decode cX9_putsBack 24 = .ok (.goto (-22), 3) := by decide +kernel
theorem dX9_putsBack_27 : decode cX9_putsBack 27 = .ok (.return_, 1) := by decide +kernel
set_option maxRecDepth 20000 in
theorem vX9_putsBack {g : zG} {d : Nat} {Q : zM → Prop} {M : zM} (h : zW shM g d mX9_putsBack (zv Q) 2 [(0, .ref 0), (1, .int 0)] [] M) : zCv shM g d mX9_putsBack [.ref 0] M Q := by
  refine zW.enter (by decide +kernel) (Nat.le_of_ble_eq_true rfl) ?_
  change zW shM g d mX9_putsBack (zv Q) 0 [(0, .ref 0)] [] M
  refine z_iconst (v := 0) dX9_putsBack_0 (by decide) ?_
  refine z_istore_n [(1, .int 0), (0, .ref 0)] dX9_putsBack_1 (by decide) rfl ?_
  exact zW.sub [1, 0] rfl h
set_option maxRecDepth 20000 in
theorem vX9_putsBack_2 {g : zG} {d : Nat} {Q : zM → Prop} {M : zM} {l1 : Int32} (h : (150 ≤ l1 → Q M) ∧ (¬ 150 ≤ l1 → ∃ k1 : Nat, l1 = iv k1 ∧ k1 < 150 ∧ k1 < 2200 ∧ zW shM g d mX9_putsBack (zv Q) 2 [(0, .ref 0), (1, .int (l1 + 1))] [] (zup M 1 k1 (M 4 k1)))) : zW shM g d mX9_putsBack (zv Q) 2 [(0, .ref 0), (1, .int l1)] [] M := by
  refine z_iload_n dX9_putsBack_2 1 rfl ?_
  refine z_sipush (v := 150) dX9_putsBack_3 (by decide) ?_
  refine z_icmp_ge 27 dX9_putsBack_6 (by decide) (fun c1 => ?_) (fun c1 => ?_)
  · have h := h.1 c1
    exact z_vret (st := []) rfl dX9_putsBack_27 ⟨rfl, h⟩
  · have h := h.2 c1
    refine z_aload_n dX9_putsBack_9 0 rfl ?_
    refine z_getr shM_0 rfl flX9_7 dX9_putsBack_10 ?_
    refine z_iload_n dX9_putsBack_13 1 rfl ?_
    refine z_aload_n dX9_putsBack_14 0 rfl ?_
    refine z_getr shM_0 rfl flX9_19 dX9_putsBack_15 ?_
    refine z_iload_n dX9_putsBack_18 1 rfl ?_
    obtain ⟨k1, ek1, uk1, h⟩ := h
    refine z_iald2 (k0 := k1) shM_4 (by decide) ek1 uk1 dX9_putsBack_19 ?_
    obtain ⟨u1, h⟩ := h
    refine z_iast2 (k0 := k1) shM_1 (by decide) ek1 u1 dX9_putsBack_20 ?_
    refine z_iinc (x := l1) (v := (l1 + 1)) [(1, .int (l1 + 1)), (0, .ref 0)] dX9_putsBack_21 1 rfl rfl (by decide) rfl ?_
    refine z_goto 2 dX9_putsBack_24 (by decide) ?_
    exact zW.sub [1, 0] rfl h
theorem dX9_shapeOf_0 : decode cX9_shapeOf 0 = .ok (.iconst 0, 1) := by decide +kernel
theorem dX9_shapeOf_1 : decode cX9_shapeOf 1 = .ok (.istore_n 2, 1) := by decide +kernel
theorem dX9_shapeOf_2 : decode cX9_shapeOf 2 = .ok (.iconst 0, 1) := by decide +kernel
theorem dX9_shapeOf_3 : decode cX9_shapeOf 3 = .ok (.istore_n 3, 1) := by decide +kernel
theorem dX9_shapeOf_4 : decode cX9_shapeOf 4 = .ok (.iload_n 3, 1) := by decide +kernel
theorem dX9_shapeOf_5 : decode cX9_shapeOf 5 = .ok (.bipush 9, 2) := by decide +kernel
theorem dX9_shapeOf_7 : decode cX9_shapeOf 7 = .ok (.if_icmp .ge 38, 3) := by decide +kernel
theorem dX9_shapeOf_10 : decode cX9_shapeOf 10 = .ok (.iload_n 2, 1) := by decide +kernel
theorem dX9_shapeOf_11 : decode cX9_shapeOf 11 = .ok (.aload_n 0, 1) := by decide +kernel
theorem dX9_shapeOf_12 : decode cX9_shapeOf 12 = .ok (.iload_n 1, 1) := by decide +kernel
theorem dX9_shapeOf_13 : decode cX9_shapeOf 13 = .ok (.bipush 8, 2) := by decide +kernel
theorem dX9_shapeOf_15 : decode cX9_shapeOf 15 = .ok (.iload_n 3, 1) := by decide +kernel
theorem dX9_shapeOf_16 : decode cX9_shapeOf 16 = .ok (.iconst 3, 1) := by decide +kernel
theorem dX9_shapeOf_17 : decode cX9_shapeOf 17 = .ok (.idiv, 1) := by decide +kernel
theorem dX9_shapeOf_18 : decode cX9_shapeOf 18 = .ok (.imul, 1) := by decide +kernel
theorem dX9_shapeOf_19 : decode cX9_shapeOf 19 = .ok (.iadd, 1) := by decide +kernel
theorem dX9_shapeOf_20 : decode cX9_shapeOf 20 = .ok (.iload_n 3, 1) := by decide +kernel
theorem dX9_shapeOf_21 : decode cX9_shapeOf 21 = .ok (.iconst 3, 1) := by decide +kernel
theorem dX9_shapeOf_22 : decode cX9_shapeOf 22 = .ok (.irem, 1) := by decide +kernel
theorem dX9_shapeOf_23 : decode cX9_shapeOf 23 = .ok (.iadd, 1) := by decide +kernel
theorem dX9_shapeOf_24 : decode cX9_shapeOf 24 = .ok (.invokevirtual 347, 3) := by decide +kernel
theorem dX9_shapeOf_27 : decode cX9_shapeOf 27 = .ok (.ifCond .eq 9, 3) := by decide +kernel
theorem dX9_shapeOf_30 : decode cX9_shapeOf 30 = .ok (.iconst 1, 1) := by decide +kernel
theorem dX9_shapeOf_31 : decode cX9_shapeOf 31 = .ok (.iload_n 3, 1) := by decide +kernel
theorem dX9_shapeOf_32 : decode cX9_shapeOf 32 = .ok (.ishl, 1) := by decide +kernel
theorem dX9_shapeOf_33 : decode cX9_shapeOf 33 = .ok (.goto 4, 3) := by decide +kernel
theorem dX9_shapeOf_36 : decode cX9_shapeOf 36 = .ok (.iconst 0, 1) := by decide +kernel
theorem dX9_shapeOf_37 : decode cX9_shapeOf 37 = .ok (.ior, 1) := by decide +kernel
theorem dX9_shapeOf_38 : decode cX9_shapeOf 38 = .ok (.istore_n 2, 1) := by decide +kernel
theorem dX9_shapeOf_39 : decode cX9_shapeOf 39 = .ok (.iinc 3 1, 3) := by decide +kernel
theorem dX9_shapeOf_42 : decode cX9_shapeOf 42 = .ok (.goto (-38), 3) := by decide +kernel
theorem dX9_shapeOf_45 : decode cX9_shapeOf 45 = .ok (.iload_n 2, 1) := by decide +kernel
theorem dX9_shapeOf_46 : decode cX9_shapeOf 46 = .ok (.ireturn, 1) := by decide +kernel
set_option maxRecDepth 20000 in
theorem vX9_shapeOf {g : zG} {d : Nat} {Q : Int32 → zM → Prop} {M : zM} {l1 : Int32} (h : zW shM g (d + 1) mX9_shapeOf (zi Q) 4 [(0, .ref 0), (1, .int l1), (2, .int 0), (3, .int 0)] [] M) : zCi shM g (d + 1) mX9_shapeOf [.ref 0, .int l1] M Q := by
  refine zW.enter (by decide +kernel) (Nat.le_of_ble_eq_true rfl) ?_
  change zW shM g (d + 1) mX9_shapeOf (zi Q) 0 [(0, .ref 0), (1, .int l1)] [] M
  refine z_iconst (v := 0) dX9_shapeOf_0 (by decide) ?_
  refine z_istore_n [(2, .int 0), (0, .ref 0), (1, .int l1)] dX9_shapeOf_1 (by decide) rfl ?_
  refine z_iconst (v := 0) dX9_shapeOf_2 (by decide) ?_
  refine z_istore_n [(3, .int 0), (2, .int 0), (0, .ref 0), (1, .int l1)] dX9_shapeOf_3 (by decide) rfl ?_
  exact zW.sub [2, 3, 1, 0] rfl h
set_option maxRecDepth 20000 in
theorem vX9_shapeOf_4 {g : zG} {d : Nat} {Q : Int32 → zM → Prop} {M : zM} {l1 : Int32} {l2 : Int32} {l3 : Int32} (h : (9 ≤ l3 → Q l2 M) ∧ (¬ 9 ≤ l3 → zCz shM g d mX9_isSeen [.ref 0, .int ((l1 + (8 * (l3 / 3))) + (l3 - l3 / 3 * 3))] M (fun b1 M1 => (b1 = false → zW shM g (d + 1) mX9_shapeOf (zi Q) 4 [(0, .ref 0), (1, .int l1), (2, .int (l2 ||| 0)), (3, .int (l3 + 1))] [] M1) ∧ (b1 = true → zW shM g (d + 1) mX9_shapeOf (zi Q) 4 [(0, .ref 0), (1, .int l1), (2, .int (l2 ||| (1 <<< (l3 &&& 31)))), (3, .int (l3 + 1))] [] M1)))) : zW shM g (d + 1) mX9_shapeOf (zi Q) 4 [(0, .ref 0), (1, .int l1), (2, .int l2), (3, .int l3)] [] M := by
  refine z_iload_n dX9_shapeOf_4 3 rfl ?_
  refine z_bipush (v := 9) dX9_shapeOf_5 (by decide) ?_
  refine z_icmp_ge 45 dX9_shapeOf_7 (by decide) (fun c1 => ?_) (fun c1 => ?_)
  · have h := h.1 c1
    refine z_iload_n dX9_shapeOf_45 2 rfl ?_
    exact z_iret (st := []) rfl rfl dX9_shapeOf_46 ⟨_, rfl, h⟩
  · have h := h.2 c1
    refine z_iload_n dX9_shapeOf_10 2 rfl ?_
    refine z_aload_n dX9_shapeOf_11 0 rfl ?_
    refine z_iload_n dX9_shapeOf_12 1 rfl ?_
    refine z_bipush (v := 8) dX9_shapeOf_13 (by decide) ?_
    refine z_iload_n dX9_shapeOf_15 3 rfl ?_
    refine z_iconst (v := 3) dX9_shapeOf_16 (by decide) ?_
    refine z_idiv dX9_shapeOf_17 (by decide) ?_
    refine z_imul dX9_shapeOf_18 ?_
    refine z_iadd dX9_shapeOf_19 ?_
    refine z_iload_n dX9_shapeOf_20 3 rfl ?_
    refine z_iconst (v := 3) dX9_shapeOf_21 (by decide) ?_
    refine z_irem dX9_shapeOf_22 (by decide) ?_
    refine z_iadd dX9_shapeOf_23 ?_
    refine z_callV (m2 := mX9_isSeen) (st := [.int l2]) [.int ((l1 + (8 * (l3 / 3))) + (l3 - l3 / 3 * 3))] okX9_isSeen (Or.inl lkX9_347) shM_0 rfl rfl rfl (Nat.le_of_ble_eq_true rfl) dX9_shapeOf_24 (zgo_z h fun b1 M1 h => ?_)
    refine z_ifb_eq 36 dX9_shapeOf_27 (by decide) (fun c2 => ?_) (fun c2 => ?_)
    · have h := h.1 c2
      refine z_iconst (v := 0) dX9_shapeOf_36 (by decide) ?_
      refine z_ior dX9_shapeOf_37 ?_
      refine z_istore_n [(2, .int (l2 ||| 0)), (0, .ref 0), (1, .int l1), (3, .int l3)] dX9_shapeOf_38 (by decide) rfl ?_
      refine z_iinc (x := l3) (v := (l3 + 1)) [(3, .int (l3 + 1)), (2, .int (l2 ||| 0)), (0, .ref 0), (1, .int l1)] dX9_shapeOf_39 3 rfl rfl (by decide) rfl ?_
      refine z_goto 4 dX9_shapeOf_42 (by decide) ?_
      exact zW.sub [2, 3, 1, 0] rfl h
    · have h := h.2 c2
      refine z_iconst (v := 1) dX9_shapeOf_30 (by decide) ?_
      refine z_iload_n dX9_shapeOf_31 3 rfl ?_
      refine z_ishl dX9_shapeOf_32 ?_
      refine z_goto 37 dX9_shapeOf_33 (by decide) ?_
      refine z_ior dX9_shapeOf_37 ?_
      refine z_istore_n [(2, .int (l2 ||| (1 <<< (l3 &&& 31)))), (0, .ref 0), (1, .int l1), (3, .int l3)] dX9_shapeOf_38 (by decide) rfl ?_
      refine z_iinc (x := l3) (v := (l3 + 1)) [(3, .int (l3 + 1)), (2, .int (l2 ||| (1 <<< (l3 &&& 31)))), (0, .ref 0), (1, .int l1)] dX9_shapeOf_39 3 rfl rfl (by decide) rfl ?_
      refine z_goto 4 dX9_shapeOf_42 (by decide) ?_
      exact zW.sub [2, 3, 1, 0] rfl h
theorem dX9_readIn_0 : decode cX9_readIn 0 = .ok (.aload_n 0, 1) := by decide +kernel
theorem dX9_readIn_1 : decode cX9_readIn 1 = .ok (.iload_n 1, 1) := by decide +kernel
theorem dX9_readIn_2 : decode cX9_readIn 2 = .ok (.invokevirtual 400, 3) := by decide +kernel
theorem dX9_readIn_5 : decode cX9_readIn 5 = .ok (.istore_n 2, 1) := by decide +kernel
theorem dX9_readIn_6 : decode cX9_readIn 6 = .ok (.iconst 0, 1) := by decide +kernel
theorem dX9_readIn_7 : decode cX9_readIn 7 = .ok (.istore_n 3, 1) := by decide +kernel
theorem dX9_readIn_8 : decode cX9_readIn 8 = .ok (.iload_n 3, 1) := by decide +kernel
theorem dX9_readIn_9 : decode cX9_readIn 9 = .ok (.aload_n 0, 1) := by decide +kernel
theorem dX9_readIn_10 : decode cX9_readIn 10 = .ok (.getfield 7, 3) := by decide +kernel
theorem dX9_readIn_13 : decode cX9_readIn 13 = .ok (.sipush 157, 3) := by decide +kernel
theorem dX9_readIn_16 : decode cX9_readIn 16 = .ok (.iaload, 1) := by decide +kernel
theorem dX9_readIn_17 : decode cX9_readIn 17 = .ok (.if_icmp .ge 25, 3) := by decide +kernel
theorem dX9_readIn_20 : decode cX9_readIn 20 = .ok (.aload_n 0, 1) := by decide +kernel
theorem dX9_readIn_21 : decode cX9_readIn 21 = .ok (.getfield 7, 3) := by decide +kernel
theorem dX9_readIn_24 : decode cX9_readIn 24 = .ok (.sipush 538, 3) := by decide +kernel
theorem dX9_readIn_27 : decode cX9_readIn 27 = .ok (.iload_n 3, 1) := by decide +kernel
theorem dX9_readIn_28 : decode cX9_readIn 28 = .ok (.iadd, 1) := by decide +kernel
theorem dX9_readIn_29 : decode cX9_readIn 29 = .ok (.iaload, 1) := by decide +kernel
theorem dX9_readIn_30 : decode cX9_readIn 30 = .ok (.iload_n 2, 1) := by decide +kernel
theorem dX9_readIn_31 : decode cX9_readIn 31 = .ok (.if_icmp .ne 5, 3) := by decide +kernel
theorem dX9_readIn_34 : decode cX9_readIn 34 = .ok (.iload_n 3, 1) := by decide +kernel
theorem dX9_readIn_35 : decode cX9_readIn 35 = .ok (.ireturn, 1) := by decide +kernel
theorem dX9_readIn_36 : decode cX9_readIn 36 = .ok (.iinc 3 1, 3) := by decide +kernel
theorem dX9_readIn_39 : decode cX9_readIn 39 = .ok (.goto (-31), 3) := by decide +kernel
theorem dX9_readIn_42 : decode cX9_readIn 42 = .ok (.iconst (-1), 1) := by decide +kernel
theorem dX9_readIn_43 : decode cX9_readIn 43 = .ok (.ireturn, 1) := by decide +kernel
set_option maxRecDepth 20000 in
theorem vX9_readIn {g : zG} {d : Nat} {Q : Int32 → zM → Prop} {M : zM} {l1 : Int32} (h : zCi shM g d mX9_shapeOf [.ref 0, .int l1] M (fun x1 M1 => zW shM g (d + 1) mX9_readIn (zi Q) 8 [(0, .ref 0), (2, .int x1), (3, .int 0)] [] M1)) : zCi shM g (d + 1) mX9_readIn [.ref 0, .int l1] M Q := by
  refine zW.enter (by decide +kernel) (Nat.le_of_ble_eq_true rfl) ?_
  change zW shM g (d + 1) mX9_readIn (zi Q) 0 [(0, .ref 0), (1, .int l1)] [] M
  refine z_aload_n dX9_readIn_0 0 rfl ?_
  refine z_iload_n dX9_readIn_1 1 rfl ?_
  refine z_callV (m2 := mX9_shapeOf) (st := []) [.int l1] okX9_shapeOf (Or.inl lkX9_400) shM_0 rfl rfl rfl (Nat.le_of_ble_eq_true rfl) dX9_readIn_2 (zgo_i h fun x1 M1 h => ?_)
  refine z_istore_n [(2, .int x1), (0, .ref 0), (1, .int l1)] dX9_readIn_5 (by decide) rfl ?_
  refine z_iconst (v := 0) dX9_readIn_6 (by decide) ?_
  refine z_istore_n [(3, .int 0), (2, .int x1), (0, .ref 0), (1, .int l1)] dX9_readIn_7 (by decide) rfl ?_
  exact zW.sub [2, 1, 0] rfl h
set_option maxRecDepth 20000 in
theorem vX9_readIn_8 {g : zG} {d : Nat} {Q : Int32 → zM → Prop} {M : zM} {l2 : Int32} {l3 : Int32} (h : ((M 1 157) ≤ l3 → Q (-1) M) ∧ (¬ (M 1 157) ≤ l3 → ∃ k1 : Nat, (538 + l3) = iv k1 ∧ k1 < 2200 ∧ (¬ (M 1 k1) = l2 → zW shM g (d + 1) mX9_readIn (zi Q) 8 [(0, .ref 0), (2, .int l2), (3, .int (l3 + 1))] [] M) ∧ ((M 1 k1) = l2 → Q l3 M))) : zW shM g (d + 1) mX9_readIn (zi Q) 8 [(0, .ref 0), (2, .int l2), (3, .int l3)] [] M := by
  refine z_iload_n dX9_readIn_8 2 rfl ?_
  refine z_aload_n dX9_readIn_9 0 rfl ?_
  refine z_getr shM_0 rfl flX9_7 dX9_readIn_10 ?_
  refine z_sipush (v := 157) dX9_readIn_13 (by decide) ?_
  refine z_iald2 (k0 := 157) shM_1 (by decide) (by decide) (by decide) dX9_readIn_16 ?_
  refine z_icmp_ge 42 dX9_readIn_17 (by decide) (fun c1 => ?_) (fun c1 => ?_)
  · have h := h.1 c1
    refine z_iconst (v := (-1)) dX9_readIn_42 (by decide) ?_
    exact z_iret (st := []) rfl rfl dX9_readIn_43 ⟨_, rfl, h⟩
  · have h := h.2 c1
    refine z_aload_n dX9_readIn_20 0 rfl ?_
    refine z_getr shM_0 rfl flX9_7 dX9_readIn_21 ?_
    refine z_sipush (v := 538) dX9_readIn_24 (by decide) ?_
    refine z_iload_n dX9_readIn_27 2 rfl ?_
    refine z_iadd dX9_readIn_28 ?_
    obtain ⟨k1, ek1, uk1, h⟩ := h
    refine z_iald2 (k0 := k1) shM_1 (by decide) ek1 uk1 dX9_readIn_29 ?_
    refine z_iload_n dX9_readIn_30 1 rfl ?_
    refine z_icmp_ne 36 dX9_readIn_31 (by decide) (fun c2 => ?_) (fun c2 => ?_)
    · have h := h.1 c2
      refine z_iinc (x := l3) (v := (l3 + 1)) [(3, .int (l3 + 1)), (0, .ref 0), (2, .int l2)] dX9_readIn_36 2 rfl rfl (by decide) rfl ?_
      refine z_goto 8 dX9_readIn_39 (by decide) ?_
      exact zW.sub [1, 2, 0] rfl h
    · have h := h.2 c2
      refine z_iload_n dX9_readIn_34 2 rfl ?_
      exact z_iret (st := []) rfl rfl dX9_readIn_35 ⟨_, rfl, h⟩
theorem dX9_isRead_0 : decode cX9_isRead 0 = .ok (.aload_n 0, 1) := by decide +kernel
theorem dX9_isRead_1 : decode cX9_isRead 1 = .ok (.aload_n 0, 1) := by decide +kernel
theorem dX9_isRead_2 : decode cX9_isRead 2 = .ok (.getfield 7, 3) := by decide +kernel
theorem dX9_isRead_5 : decode cX9_isRead 5 = .ok (.sipush 546, 3) := by decide +kernel
theorem dX9_isRead_8 : decode cX9_isRead 8 = .ok (.iconst 2, 1) := by decide +kernel
theorem dX9_isRead_9 : decode cX9_isRead 9 = .ok (.iload_n 1, 1) := by decide +kernel
theorem dX9_isRead_10 : decode cX9_isRead 10 = .ok (.imul, 1) := by decide +kernel
theorem dX9_isRead_11 : decode cX9_isRead 11 = .ok (.iadd, 1) := by decide +kernel
theorem dX9_isRead_12 : decode cX9_isRead 12 = .ok (.iconst 1, 1) := by decide +kernel
theorem dX9_isRead_13 : decode cX9_isRead 13 = .ok (.iadd, 1) := by decide +kernel
theorem dX9_isRead_14 : decode cX9_isRead 14 = .ok (.iaload, 1) := by decide +kernel
theorem dX9_isRead_15 : decode cX9_isRead 15 = .ok (.invokevirtual 403, 3) := by decide +kernel
theorem dX9_isRead_18 : decode cX9_isRead 18 = .ok (.aload_n 0, 1) := by decide +kernel
theorem dX9_isRead_19 : decode cX9_isRead 19 = .ok (.getfield 7, 3) := by decide +kernel
theorem dX9_isRead_22 : decode cX9_isRead 22 = .ok (.sipush 546, 3) := by decide +kernel
theorem dX9_isRead_25 : decode cX9_isRead 25 = .ok (.iconst 2, 1) := by decide +kernel
theorem dX9_isRead_26 : decode cX9_isRead 26 = .ok (.iload_n 1, 1) := by decide +kernel
theorem dX9_isRead_27 : decode cX9_isRead 27 = .ok (.imul, 1) := by decide +kernel
theorem dX9_isRead_28 : decode cX9_isRead 28 = .ok (.iadd, 1) := by decide +kernel
theorem dX9_isRead_29 : decode cX9_isRead 29 = .ok (.iaload, 1) := by decide +kernel
theorem dX9_isRead_30 : decode cX9_isRead 30 = .ok (.if_icmp .ne 7, 3) := by decide +kernel
theorem dX9_isRead_33 : decode cX9_isRead 33 = .ok (.iconst 1, 1) := by decide +kernel
theorem dX9_isRead_34 : decode cX9_isRead 34 = .ok (.goto 4, 3) := by decide +kernel
theorem dX9_isRead_37 : decode cX9_isRead 37 = .ok (.iconst 0, 1) := by decide +kernel
theorem dX9_isRead_38 : decode cX9_isRead 38 = .ok (.ireturn, 1) := by decide +kernel
set_option maxRecDepth 20000 in
theorem vX9_isRead {g : zG} {d : Nat} {Q : Bool → zM → Prop} {M : zM} {l1 : Int32} (h : ∃ k1 : Nat, ((546 + (2 * l1)) + 1) = iv k1 ∧ k1 < 2200 ∧ zCi shM g d mX9_readIn [.ref 0, .int (M 1 k1)] M (fun x1 M1 => ∃ k2 : Nat, (546 + (2 * l1)) = iv k2 ∧ k2 < 2200 ∧ (¬ x1 = (M1 1 k2) → Q false M1) ∧ (x1 = (M1 1 k2) → Q true M1))) : zCz shM g (d + 1) mX9_isRead [.ref 0, .int l1] M Q := by
  refine zW.enter (by decide +kernel) (Nat.le_of_ble_eq_true rfl) ?_
  change zW shM g (d + 1) mX9_isRead (zz Q) 0 [(0, .ref 0), (1, .int l1)] [] M
  refine z_aload_n dX9_isRead_0 0 rfl ?_
  refine z_aload_n dX9_isRead_1 0 rfl ?_
  refine z_getr shM_0 rfl flX9_7 dX9_isRead_2 ?_
  refine z_sipush (v := 546) dX9_isRead_5 (by decide) ?_
  refine z_iconst (v := 2) dX9_isRead_8 (by decide) ?_
  refine z_iload_n dX9_isRead_9 1 rfl ?_
  refine z_imul dX9_isRead_10 ?_
  refine z_iadd dX9_isRead_11 ?_
  refine z_iconst (v := 1) dX9_isRead_12 (by decide) ?_
  refine z_iadd dX9_isRead_13 ?_
  obtain ⟨k1, ek1, uk1, h⟩ := h
  refine z_iald2 (k0 := k1) shM_1 (by decide) ek1 uk1 dX9_isRead_14 ?_
  refine z_callV (m2 := mX9_readIn) (st := []) [.int (M 1 k1)] okX9_readIn (Or.inl lkX9_403) shM_0 rfl rfl rfl (Nat.le_of_ble_eq_true rfl) dX9_isRead_15 (zgo_i h fun x1 M1 h => ?_)
  refine z_aload_n dX9_isRead_18 0 rfl ?_
  refine z_getr shM_0 rfl flX9_7 dX9_isRead_19 ?_
  refine z_sipush (v := 546) dX9_isRead_22 (by decide) ?_
  refine z_iconst (v := 2) dX9_isRead_25 (by decide) ?_
  refine z_iload_n dX9_isRead_26 1 rfl ?_
  refine z_imul dX9_isRead_27 ?_
  refine z_iadd dX9_isRead_28 ?_
  obtain ⟨k2, ek2, uk2, h⟩ := h
  refine z_iald2 (k0 := k2) shM_1 (by decide) ek2 uk2 dX9_isRead_29 ?_
  refine z_icmp_ne 37 dX9_isRead_30 (by decide) (fun c1 => ?_) (fun c1 => ?_)
  · have h := h.1 c1
    refine z_iconst (v := 0) dX9_isRead_37 (by decide) ?_
    exact z_zret (b := false) rfl rfl dX9_isRead_38 h
  · have h := h.2 c1
    refine z_iconst (v := 1) dX9_isRead_33 (by decide) ?_
    refine z_goto 38 dX9_isRead_34 (by decide) ?_
    exact z_zret (b := true) rfl rfl dX9_isRead_38 h
theorem dX9_readMany_0 : decode cX9_readMany 0 = .ok (.iconst 0, 1) := by decide +kernel
theorem dX9_readMany_1 : decode cX9_readMany 1 = .ok (.istore_n 1, 1) := by decide +kernel
theorem dX9_readMany_2 : decode cX9_readMany 2 = .ok (.iconst 0, 1) := by decide +kernel
theorem dX9_readMany_3 : decode cX9_readMany 3 = .ok (.istore_n 2, 1) := by decide +kernel
theorem dX9_readMany_4 : decode cX9_readMany 4 = .ok (.iload_n 2, 1) := by decide +kernel
theorem dX9_readMany_5 : decode cX9_readMany 5 = .ok (.aload_n 0, 1) := by decide +kernel
theorem dX9_readMany_6 : decode cX9_readMany 6 = .ok (.getfield 7, 3) := by decide +kernel
theorem dX9_readMany_9 : decode cX9_readMany 9 = .ok (.sipush 158, 3) := by decide +kernel
theorem dX9_readMany_12 : decode cX9_readMany 12 = .ok (.iaload, 1) := by decide +kernel
theorem dX9_readMany_13 : decode cX9_readMany 13 = .ok (.if_icmp .ge 25, 3) := by decide +kernel
theorem dX9_readMany_16 : decode cX9_readMany 16 = .ok (.iload_n 1, 1) := by decide +kernel
theorem dX9_readMany_17 : decode cX9_readMany 17 = .ok (.aload_n 0, 1) := by decide +kernel
theorem dX9_readMany_18 : decode cX9_readMany 18 = .ok (.iload_n 2, 1) := by decide +kernel
theorem dX9_readMany_19 : decode cX9_readMany 19 = .ok (.invokevirtual 406, 3) := by decide +kernel
theorem dX9_readMany_22 : decode cX9_readMany 22 = .ok (.ifCond .eq 7, 3) := by decide +kernel
theorem dX9_readMany_25 : decode cX9_readMany 25 = .ok (.iconst 1, 1) := by decide +kernel
theorem dX9_readMany_26 : decode cX9_readMany 26 = .ok (.goto 4, 3) := by decide +kernel
theorem dX9_readMany_29 : decode cX9_readMany 29 = .ok (.iconst 0, 1) := by decide +kernel
theorem dX9_readMany_30 : decode cX9_readMany 30 = .ok (.iadd, 1) := by decide +kernel
theorem dX9_readMany_31 : decode cX9_readMany 31 = .ok (.istore_n 1, 1) := by decide +kernel
theorem dX9_readMany_32 : decode cX9_readMany 32 = .ok (.iinc 2 1, 3) := by decide +kernel
theorem dX9_readMany_35 : decode cX9_readMany 35 = .ok (.goto (-31), 3) := by decide +kernel
theorem dX9_readMany_38 : decode cX9_readMany 38 = .ok (.iload_n 1, 1) := by decide +kernel
theorem dX9_readMany_39 : decode cX9_readMany 39 = .ok (.ireturn, 1) := by decide +kernel
set_option maxRecDepth 20000 in
theorem vX9_readMany {g : zG} {d : Nat} {Q : Int32 → zM → Prop} {M : zM} (h : zW shM g (d + 1) mX9_readMany (zi Q) 4 [(0, .ref 0), (1, .int 0), (2, .int 0)] [] M) : zCi shM g (d + 1) mX9_readMany [.ref 0] M Q := by
  refine zW.enter (by decide +kernel) (Nat.le_of_ble_eq_true rfl) ?_
  change zW shM g (d + 1) mX9_readMany (zi Q) 0 [(0, .ref 0)] [] M
  refine z_iconst (v := 0) dX9_readMany_0 (by decide) ?_
  refine z_istore_n [(1, .int 0), (0, .ref 0)] dX9_readMany_1 (by decide) rfl ?_
  refine z_iconst (v := 0) dX9_readMany_2 (by decide) ?_
  refine z_istore_n [(2, .int 0), (1, .int 0), (0, .ref 0)] dX9_readMany_3 (by decide) rfl ?_
  exact zW.sub [2, 1, 0] rfl h
set_option maxRecDepth 20000 in
theorem vX9_readMany_4 {g : zG} {d : Nat} {Q : Int32 → zM → Prop} {M : zM} {l1 : Int32} {l2 : Int32} (h : ((M 1 158) ≤ l2 → Q l1 M) ∧ (¬ (M 1 158) ≤ l2 → zCz shM g d mX9_isRead [.ref 0, .int l2] M (fun b1 M1 => (b1 = false → zW shM g (d + 1) mX9_readMany (zi Q) 4 [(0, .ref 0), (1, .int (l1 + 0)), (2, .int (l2 + 1))] [] M1) ∧ (b1 = true → zW shM g (d + 1) mX9_readMany (zi Q) 4 [(0, .ref 0), (1, .int (l1 + 1)), (2, .int (l2 + 1))] [] M1)))) : zW shM g (d + 1) mX9_readMany (zi Q) 4 [(0, .ref 0), (1, .int l1), (2, .int l2)] [] M := by
  refine z_iload_n dX9_readMany_4 2 rfl ?_
  refine z_aload_n dX9_readMany_5 0 rfl ?_
  refine z_getr shM_0 rfl flX9_7 dX9_readMany_6 ?_
  refine z_sipush (v := 158) dX9_readMany_9 (by decide) ?_
  refine z_iald2 (k0 := 158) shM_1 (by decide) (by decide) (by decide) dX9_readMany_12 ?_
  refine z_icmp_ge 38 dX9_readMany_13 (by decide) (fun c1 => ?_) (fun c1 => ?_)
  · have h := h.1 c1
    refine z_iload_n dX9_readMany_38 1 rfl ?_
    exact z_iret (st := []) rfl rfl dX9_readMany_39 ⟨_, rfl, h⟩
  · have h := h.2 c1
    refine z_iload_n dX9_readMany_16 1 rfl ?_
    refine z_aload_n dX9_readMany_17 0 rfl ?_
    refine z_iload_n dX9_readMany_18 2 rfl ?_
    refine z_callV (m2 := mX9_isRead) (st := [.int l1]) [.int l2] okX9_isRead (Or.inl lkX9_406) shM_0 rfl rfl rfl (Nat.le_of_ble_eq_true rfl) dX9_readMany_19 (zgo_z h fun b1 M1 h => ?_)
    refine z_ifb_eq 29 dX9_readMany_22 (by decide) (fun c2 => ?_) (fun c2 => ?_)
    · have h := h.1 c2
      refine z_iconst (v := 0) dX9_readMany_29 (by decide) ?_
      refine z_iadd dX9_readMany_30 ?_
      refine z_istore_n [(1, .int (l1 + 0)), (0, .ref 0), (2, .int l2)] dX9_readMany_31 (by decide) rfl ?_
      refine z_iinc (x := l2) (v := (l2 + 1)) [(2, .int (l2 + 1)), (1, .int (l1 + 0)), (0, .ref 0)] dX9_readMany_32 2 rfl rfl (by decide) rfl ?_
      refine z_goto 4 dX9_readMany_35 (by decide) ?_
      exact zW.sub [2, 1, 0] rfl h
    · have h := h.2 c2
      refine z_iconst (v := 1) dX9_readMany_25 (by decide) ?_
      refine z_goto 30 dX9_readMany_26 (by decide) ?_
      refine z_iadd dX9_readMany_30 ?_
      refine z_istore_n [(1, .int (l1 + 1)), (0, .ref 0), (2, .int l2)] dX9_readMany_31 (by decide) rfl ?_
      refine z_iinc (x := l2) (v := (l2 + 1)) [(2, .int (l2 + 1)), (1, .int (l1 + 1)), (0, .ref 0)] dX9_readMany_32 2 rfl rfl (by decide) rfl ?_
      refine z_goto 4 dX9_readMany_35 (by decide) ?_
      exact zW.sub [2, 1, 0] rfl h
theorem dX9_seenAll_0 : decode cX9_seenAll 0 = .ok (.lconst 0, 1) := by decide +kernel
theorem dX9_seenAll_1 : decode cX9_seenAll 1 = .ok (.lstore_n 1, 1) := by decide +kernel
theorem dX9_seenAll_2 : decode cX9_seenAll 2 = .ok (.iconst 0, 1) := by decide +kernel
theorem dX9_seenAll_3 : decode cX9_seenAll 3 = .ok (.istore_n 3, 1) := by decide +kernel
theorem dX9_seenAll_4 : decode cX9_seenAll 4 = .ok (.iload_n 3, 1) := by decide +kernel
theorem dX9_seenAll_5 : decode cX9_seenAll 5 = .ok (.bipush 64, 2) := by decide +kernel
theorem dX9_seenAll_7 : decode cX9_seenAll 7 = .ok (.if_icmp .ge 31, 3) := by decide +kernel
theorem dX9_seenAll_10 : decode cX9_seenAll 10 = .ok (.aload_n 0, 1) := by decide +kernel
theorem dX9_seenAll_11 : decode cX9_seenAll 11 = .ok (.iload_n 3, 1) := by decide +kernel
theorem dX9_seenAll_12 : decode cX9_seenAll 12 = .ok (.invokevirtual 105, 3) := by decide +kernel
theorem dX9_seenAll_15 : decode cX9_seenAll 15 = .ok (.ifCond .eq 17, 3) := by decide +kernel
theorem dX9_seenAll_18 : decode cX9_seenAll 18 = .ok (.aload_n 0, 1) := by decide +kernel
theorem dX9_seenAll_19 : decode cX9_seenAll 19 = .ok (.iload_n 3, 1) := by decide +kernel
theorem dX9_seenAll_20 : decode cX9_seenAll 20 = .ok (.invokevirtual 347, 3) := by decide +kernel
theorem dX9_seenAll_23 : decode cX9_seenAll 23 = .ok (.ifCond .eq 9, 3) := by decide +kernel
theorem dX9_seenAll_26 : decode cX9_seenAll 26 = .ok (.lload_n 1, 1) := by decide +kernel
theorem dX9_seenAll_27 : decode cX9_seenAll 27 = .ok (.lconst 1, 1) := by decide +kernel
theorem dX9_seenAll_28 : decode cX9_seenAll 28 = .ok (.iload_n 3, 1) := by decide +kernel
theorem dX9_seenAll_29 : decode cX9_seenAll 29 = .ok (.lshl, 1) := by decide +kernel
theorem dX9_seenAll_30 : decode cX9_seenAll 30 = .ok (.lor, 1) := by decide +kernel
theorem dX9_seenAll_31 : decode cX9_seenAll 31 = .ok (.lstore_n 1, 1) := by decide +kernel
theorem dX9_seenAll_32 : decode cX9_seenAll 32 = .ok (.iinc 3 1, 3) := by decide +kernel
theorem dX9_seenAll_35 : decode cX9_seenAll 35 = .ok (.goto (-31), 3) := by decide +kernel
theorem dX9_seenAll_38 : decode cX9_seenAll 38 = .ok (.lload_n 1, 1) := by decide +kernel
theorem dX9_seenAll_39 : decode cX9_seenAll 39 = .ok (.lreturn, 1) := by decide +kernel
set_option maxRecDepth 20000 in
theorem vX9_seenAll {g : zG} {d : Nat} {Q : Int64 → zM → Prop} {M : zM} (h : zW shM g (d + 1) mX9_seenAll (zl Q) 4 [(0, .ref 0), (1, .long 0), (3, .int 0)] [] M) : zCl shM g (d + 1) mX9_seenAll [.ref 0] M Q := by
  refine zW.enter (by decide +kernel) (Nat.le_of_ble_eq_true rfl) ?_
  change zW shM g (d + 1) mX9_seenAll (zl Q) 0 [(0, .ref 0)] [] M
  refine z_lconst (v := 0) dX9_seenAll_0 (by decide) ?_
  refine z_lstore_n [(1, .long 0), (0, .ref 0)] dX9_seenAll_1 (by decide) rfl ?_
  refine z_iconst (v := 0) dX9_seenAll_2 (by decide) ?_
  refine z_istore_n [(3, .int 0), (1, .long 0), (0, .ref 0)] dX9_seenAll_3 (by decide) rfl ?_
  exact zW.sub [2, 1, 0] rfl h
set_option maxRecDepth 20000 in
theorem vX9_seenAll_4 {g : zG} {d : Nat} {Q : Int64 → zM → Prop} {M : zM} {l1 : Int64} {l3 : Int32} (h : (64 ≤ l3 → Q l1 M) ∧ (¬ 64 ≤ l3 → zCz shM g d mX9_isCell [.ref 0, .int l3] M (fun b1 M1 => (b1 = false → zW shM g (d + 1) mX9_seenAll (zl Q) 4 [(0, .ref 0), (1, .long l1), (3, .int (l3 + 1))] [] M1) ∧ (b1 = true → zCz shM g d mX9_isSeen [.ref 0, .int l3] M1 (fun b2 M2 => (b2 = false → zW shM g (d + 1) mX9_seenAll (zl Q) 4 [(0, .ref 0), (1, .long l1), (3, .int (l3 + 1))] [] M2) ∧ (b2 = true → zW shM g (d + 1) mX9_seenAll (zl Q) 4 [(0, .ref 0), (1, .long (l1 ||| (1 <<< ((l3 : Int32).toInt64 &&& 63)))), (3, .int (l3 + 1))] [] M2)))))) : zW shM g (d + 1) mX9_seenAll (zl Q) 4 [(0, .ref 0), (1, .long l1), (3, .int l3)] [] M := by
  refine z_iload_n dX9_seenAll_4 2 rfl ?_
  refine z_bipush (v := 64) dX9_seenAll_5 (by decide) ?_
  refine z_icmp_ge 38 dX9_seenAll_7 (by decide) (fun c1 => ?_) (fun c1 => ?_)
  · have h := h.1 c1
    refine z_lload_n dX9_seenAll_38 1 rfl ?_
    exact z_lret (st := []) rfl dX9_seenAll_39 ⟨_, rfl, h⟩
  · have h := h.2 c1
    refine z_aload_n dX9_seenAll_10 0 rfl ?_
    refine z_iload_n dX9_seenAll_11 2 rfl ?_
    refine z_callV (m2 := mX9_isCell) (st := []) [.int l3] okX9_isCell (Or.inl lkX9_105) shM_0 rfl rfl rfl (Nat.le_of_ble_eq_true rfl) dX9_seenAll_12 (zgo_z h fun b1 M1 h => ?_)
    refine z_ifb_eq 32 dX9_seenAll_15 (by decide) (fun c2 => ?_) (fun c2 => ?_)
    · have h := h.1 c2
      refine z_iinc (x := l3) (v := (l3 + 1)) [(3, .int (l3 + 1)), (0, .ref 0), (1, .long l1)] dX9_seenAll_32 2 rfl rfl (by decide) rfl ?_
      refine z_goto 4 dX9_seenAll_35 (by decide) ?_
      exact zW.sub [1, 2, 0] rfl h
    · have h := h.2 c2
      refine z_aload_n dX9_seenAll_18 0 rfl ?_
      refine z_iload_n dX9_seenAll_19 2 rfl ?_
      refine z_callV (m2 := mX9_isSeen) (st := []) [.int l3] okX9_isSeen (Or.inl lkX9_347) shM_0 rfl rfl rfl (Nat.le_of_ble_eq_true rfl) dX9_seenAll_20 (zgo_z h fun b2 M2 h => ?_)
      refine z_ifb_eq 32 dX9_seenAll_23 (by decide) (fun c3 => ?_) (fun c3 => ?_)
      · have h := h.1 c3
        refine z_iinc (x := l3) (v := (l3 + 1)) [(3, .int (l3 + 1)), (0, .ref 0), (1, .long l1)] dX9_seenAll_32 2 rfl rfl (by decide) rfl ?_
        refine z_goto 4 dX9_seenAll_35 (by decide) ?_
        exact zW.sub [1, 2, 0] rfl h
      · have h := h.2 c3
        refine z_lload_n dX9_seenAll_26 1 rfl ?_
        refine z_lconst (v := 1) dX9_seenAll_27 (by decide) ?_
        refine z_iload_n dX9_seenAll_28 2 rfl ?_
        refine z_lshl dX9_seenAll_29 ?_
        refine z_lor dX9_seenAll_30 ?_
        refine z_lstore_n [(1, .long (l1 ||| (1 <<< ((l3 : Int32).toInt64 &&& 63)))), (0, .ref 0), (3, .int l3)] dX9_seenAll_31 (by decide) rfl ?_
        refine z_iinc (x := l3) (v := (l3 + 1)) [(3, .int (l3 + 1)), (1, .long (l1 ||| (1 <<< ((l3 : Int32).toInt64 &&& 63)))), (0, .ref 0)] dX9_seenAll_32 2 rfl rfl (by decide) rfl ?_
        refine z_goto 4 dX9_seenAll_35 (by decide) ?_
        exact zW.sub [2, 1, 0] rfl h
theorem dX9_read_0 : decode cX9_read 0 = .ok (.aload_n 0, 1) := by decide +kernel
theorem dX9_read_1 : decode cX9_read 1 = .ok (.iload_n 1, 1) := by decide +kernel
theorem dX9_read_2 : decode cX9_read 2 = .ok (.invokevirtual 297, 3) := by decide +kernel
theorem dX9_read_5 : decode cX9_read 5 = .ok (.ifCond .eq 11, 3) := by decide +kernel
theorem dX9_read_8 : decode cX9_read 8 = .ok (.aload_n 0, 1) := by decide +kernel
theorem dX9_read_9 : decode cX9_read 9 = .ok (.iload_n 1, 1) := by decide +kernel
theorem dX9_read_10 : decode cX9_read 10 = .ok (.invokevirtual 403, 3) := by decide +kernel
theorem dX9_read_13 : decode cX9_read 13 = .ok (.goto 5, 3) := by decide +kernel
theorem dX9_read_16 : decode cX9_read 16 = .ok (.bipush (-2), 2) := by decide +kernel
theorem dX9_read_18 : decode cX9_read 18 = .ok (.ireturn, 1) := by decide +kernel
set_option maxRecDepth 20000 in
theorem vX9_read {g : zG} {d : Nat} {Q : Int32 → zM → Prop} {M : zM} {l1 : Int32} (h : zCz shM g d mX9_isBox [.ref 0, .int l1] M (fun b1 M1 => (b1 = false → Q (-2) M1) ∧ (b1 = true → zCi shM g d mX9_readIn [.ref 0, .int l1] M1 (fun x1 M2 => Q x1 M2)))) : zCi shM g (d + 1) mX9_read [.ref 0, .int l1] M Q := by
  refine zW.enter (by decide +kernel) (Nat.le_of_ble_eq_true rfl) ?_
  change zW shM g (d + 1) mX9_read (zi Q) 0 [(0, .ref 0), (1, .int l1)] [] M
  refine z_aload_n dX9_read_0 0 rfl ?_
  refine z_iload_n dX9_read_1 1 rfl ?_
  refine z_callV (m2 := mX9_isBox) (st := []) [.int l1] okX9_isBox (Or.inl lkX9_297) shM_0 rfl rfl rfl (Nat.le_of_ble_eq_true rfl) dX9_read_2 (zgo_z h fun b1 M1 h => ?_)
  refine z_ifb_eq 16 dX9_read_5 (by decide) (fun c1 => ?_) (fun c1 => ?_)
  · have h := h.1 c1
    refine z_bipush (v := (-2)) dX9_read_16 (by decide) ?_
    exact z_iret (st := []) rfl rfl dX9_read_18 ⟨_, rfl, h⟩
  · have h := h.2 c1
    refine z_aload_n dX9_read_8 0 rfl ?_
    refine z_iload_n dX9_read_9 1 rfl ?_
    refine z_callV (m2 := mX9_readIn) (st := []) [.int l1] okX9_readIn (Or.inl lkX9_403) shM_0 rfl rfl rfl (Nat.le_of_ble_eq_true rfl) dX9_read_10 (zgo_i h fun x1 M2 h => ?_)
    refine z_goto 18 dX9_read_13 (by decide) ?_
    exact z_iret (st := []) rfl rfl dX9_read_18 ⟨_, rfl, h⟩
theorem dX9_goes_0 : decode cX9_goes 0 = .ok (.iload_n 1, 1) := by decide +kernel
theorem dX9_goes_1 : decode cX9_goes 1 = .ok (.iconst 0, 1) := by decide +kernel
theorem dX9_goes_2 : decode cX9_goes 2 = .ok (.bipush 99, 2) := by decide +kernel
theorem dX9_goes_4 : decode cX9_goes 4 = .ok (.invokestatic 97, 3) := by decide +kernel
theorem dX9_goes_7 : decode cX9_goes 7 = .ok (.ifCond .ne 7, 3) := by decide +kernel
theorem dX9_goes_10 : decode cX9_goes 10 = .ok (.ldc2_w 409, 3) := by decide +kernel
theorem dX9_goes_13 : decode cX9_goes 13 = .ok (.lreturn, 1) := by decide +kernel
theorem dX9_goes_14 : decode cX9_goes 14 = .ok (.aload_n 0, 1) := by decide +kernel
theorem dX9_goes_15 : decode cX9_goes 15 = .ok (.invokevirtual 411, 3) := by decide +kernel
theorem dX9_goes_18 : decode cX9_goes 18 = .ok (.iconst 0, 1) := by decide +kernel
theorem dX9_goes_19 : decode cX9_goes 19 = .ok (.istore_n 2, 1) := by decide +kernel
theorem dX9_goes_20 : decode cX9_goes 20 = .ok (.iload_n 2, 1) := by decide +kernel
theorem dX9_goes_21 : decode cX9_goes 21 = .ok (.iload_n 1, 1) := by decide +kernel
theorem dX9_goes_22 : decode cX9_goes 22 = .ok (.if_icmp .ge 15, 3) := by decide +kernel
theorem dX9_goes_25 : decode cX9_goes 25 = .ok (.aload_n 0, 1) := by decide +kernel
theorem dX9_goes_26 : decode cX9_goes 26 = .ok (.iconst 0, 1) := by decide +kernel
theorem dX9_goes_27 : decode cX9_goes 27 = .ok (.invokevirtual 396, 3) := by decide +kernel
theorem dX9_goes_30 : decode cX9_goes 30 = .ok (.pop, 1) := by decide +kernel
theorem dX9_goes_31 : decode cX9_goes 31 = .ok (.iinc 2 1, 3) := by decide +kernel
theorem dX9_goes_34 : decode cX9_goes 34 = .ok (.goto (-14), 3) := by decide +kernel
theorem dX9_goes_37 : decode cX9_goes 37 = .ok (.aload_n 0, 1) := by decide +kernel
theorem dX9_goes_38 : decode cX9_goes 38 = .ok (.invokevirtual 414, 3) := by decide +kernel
theorem dX9_goes_41 : decode cX9_goes 41 = .ok (.lstore_n 2, 1) := by decide +kernel
theorem dX9_goes_42 : decode cX9_goes 42 = .ok (.aload_n 0, 1) := by decide +kernel
theorem dX9_goes_43 : decode cX9_goes 43 = .ok (.invokevirtual 418, 3) := by decide +kernel
theorem dX9_goes_46 : decode cX9_goes 46 = .ok (.lload_n 2, 1) := by decide +kernel
theorem dX9_goes_47 : decode cX9_goes 47 = .ok (.lreturn, 1) := by decide +kernel
set_option maxRecDepth 20000 in
theorem vX9_goes {g : zG} {d : Nat} {Q : Int64 → zM → Prop} {M : zM} {l1 : Int32} (h : zCz shM g d mX9_isIn [.int l1, .int 0, .int 99] M (fun b1 M1 => (b1 = true → zCv shM g d mX9_laysAside [.ref 0] M1 (fun  M2 => zW shM g (d + 1) mX9_goes (zl Q) 20 [(0, .ref 0), (1, .int l1), (2, .int 0)] [] M2)) ∧ (b1 = false → Q (-1) M1))) : zCl shM g (d + 1) mX9_goes [.ref 0, .int l1] M Q := by
  refine zW.enter (by decide +kernel) (Nat.le_of_ble_eq_true rfl) ?_
  change zW shM g (d + 1) mX9_goes (zl Q) 0 [(0, .ref 0), (1, .int l1)] [] M
  refine z_iload_n dX9_goes_0 1 rfl ?_
  refine z_iconst (v := 0) dX9_goes_1 (by decide) ?_
  refine z_bipush (v := 99) dX9_goes_2 (by decide) ?_
  refine z_callS (m2 := mX9_isIn) (st := []) [.int l1, .int 0, .int 99] okX9_isIn (Or.inl lkX9_97) rfl rfl (Nat.le_of_ble_eq_true rfl) dX9_goes_4 (zgo_z h fun b1 M1 h => ?_)
  refine z_ifb_ne 14 dX9_goes_7 (by decide) (fun c1 => ?_) (fun c1 => ?_)
  · have h := h.1 c1
    refine z_aload_n dX9_goes_14 0 rfl ?_
    refine z_callV (m2 := mX9_laysAside) (st := []) [] okX9_laysAside (Or.inl lkX9_411) shM_0 rfl rfl rfl (Nat.le_of_ble_eq_true rfl) dX9_goes_15 (zgo_v h fun  M2 h => ?_)
    refine z_iconst (v := 0) dX9_goes_18 (by decide) ?_
    refine z_istore_n [(2, .int 0), (0, .ref 0), (1, .int l1)] dX9_goes_19 (by decide) rfl ?_
    exact zW.sub [1, 2, 0] rfl h
  · have h := h.2 c1
    refine z_ldc2 dX9_goes_10 kcX9_409 ?_
    exact z_lret (st := []) rfl dX9_goes_13 ⟨_, rfl, h⟩
set_option maxRecDepth 20000 in
theorem vX9_goes_20 {g : zG} {d : Nat} {Q : Int64 → zM → Prop} {M : zM} {l1 : Int32} {l2 : Int32} (h : (l1 ≤ l2 → zCl shM g d mX9_seenAll [.ref 0] M (fun y1 M1 => zCv shM g d mX9_putsBack [.ref 0] M1 (fun  M2 => Q y1 M2))) ∧ (¬ l1 ≤ l2 → zCi shM g d mX9_aMinute [.ref 0, .int (zbI false)] M (fun x1 M1 => zW shM g (d + 1) mX9_goes (zl Q) 20 [(0, .ref 0), (1, .int l1), (2, .int (l2 + 1))] [] M1))) : zW shM g (d + 1) mX9_goes (zl Q) 20 [(0, .ref 0), (1, .int l1), (2, .int l2)] [] M := by
  refine z_iload_n dX9_goes_20 2 rfl ?_
  refine z_iload_n dX9_goes_21 1 rfl ?_
  refine z_icmp_ge 37 dX9_goes_22 (by decide) (fun c1 => ?_) (fun c1 => ?_)
  · have h := h.1 c1
    refine z_aload_n dX9_goes_37 0 rfl ?_
    refine z_callV (m2 := mX9_seenAll) (st := []) [] okX9_seenAll (Or.inl lkX9_414) shM_0 rfl rfl rfl (Nat.le_of_ble_eq_true rfl) dX9_goes_38 (zgo_l h fun y1 M1 h => ?_)
    refine z_lstore_n [(2, .long y1), (0, .ref 0), (1, .int l1)] dX9_goes_41 (by decide) rfl ?_
    refine z_aload_n dX9_goes_42 1 rfl ?_
    refine z_callV (m2 := mX9_putsBack) (st := []) [] okX9_putsBack (Or.inl lkX9_418) shM_0 rfl rfl rfl (Nat.le_of_ble_eq_true rfl) dX9_goes_43 (zgo_v h fun  M2 h => ?_)
    refine z_lload_n dX9_goes_46 0 rfl ?_
    exact z_lret (st := []) rfl dX9_goes_47 ⟨_, rfl, h⟩
  · have h := h.2 c1
    refine z_aload_n dX9_goes_25 0 rfl ?_
    refine z_iconst (v := 0) dX9_goes_26 (by decide) ?_
    refine z_callV (m2 := mX9_aMinute) (st := []) [.int (zbI false)] okX9_aMinute (Or.inl lkX9_396) shM_0 rfl rfl rfl (Nat.le_of_ble_eq_true rfl) dX9_goes_27 (zgo_i h fun x1 M1 h => ?_)
    refine z_popi dX9_goes_30 ?_
    refine z_iinc (x := l2) (v := (l2 + 1)) [(2, .int (l2 + 1)), (0, .ref 0), (1, .int l1)] dX9_goes_31 2 rfl rfl (by decide) rfl ?_
    refine z_goto 20 dX9_goes_34 (by decide) ?_
    exact zW.sub [1, 2, 0] rfl h
theorem dX9_wants_0 : decode cX9_wants 0 = .ok (.iload_n 1, 1) := by decide +kernel
theorem dX9_wants_1 : decode cX9_wants 1 = .ok (.iconst 0, 1) := by decide +kernel
theorem dX9_wants_2 : decode cX9_wants 2 = .ok (.bipush 99, 2) := by decide +kernel
theorem dX9_wants_4 : decode cX9_wants 4 = .ok (.invokestatic 97, 3) := by decide +kernel
theorem dX9_wants_7 : decode cX9_wants 7 = .ok (.ifCond .ne 5, 3) := by decide +kernel
theorem dX9_wants_10 : decode cX9_wants 10 = .ok (.iconst (-1), 1) := by decide +kernel
theorem dX9_wants_11 : decode cX9_wants 11 = .ok (.ireturn, 1) := by decide +kernel
theorem dX9_wants_12 : decode cX9_wants 12 = .ok (.aload_n 0, 1) := by decide +kernel
theorem dX9_wants_13 : decode cX9_wants 13 = .ok (.invokevirtual 411, 3) := by decide +kernel
theorem dX9_wants_16 : decode cX9_wants 16 = .ok (.iconst 0, 1) := by decide +kernel
theorem dX9_wants_17 : decode cX9_wants 17 = .ok (.istore_n 2, 1) := by decide +kernel
theorem dX9_wants_18 : decode cX9_wants 18 = .ok (.iload_n 2, 1) := by decide +kernel
theorem dX9_wants_19 : decode cX9_wants 19 = .ok (.iload_n 1, 1) := by decide +kernel
theorem dX9_wants_20 : decode cX9_wants 20 = .ok (.if_icmp .ge 15, 3) := by decide +kernel
theorem dX9_wants_23 : decode cX9_wants 23 = .ok (.aload_n 0, 1) := by decide +kernel
theorem dX9_wants_24 : decode cX9_wants 24 = .ok (.iconst 0, 1) := by decide +kernel
theorem dX9_wants_25 : decode cX9_wants 25 = .ok (.invokevirtual 396, 3) := by decide +kernel
theorem dX9_wants_28 : decode cX9_wants 28 = .ok (.pop, 1) := by decide +kernel
theorem dX9_wants_29 : decode cX9_wants 29 = .ok (.iinc 2 1, 3) := by decide +kernel
theorem dX9_wants_32 : decode cX9_wants 32 = .ok (.goto (-14), 3) := by decide +kernel
theorem dX9_wants_35 : decode cX9_wants 35 = .ok (.aload_n 0, 1) := by decide +kernel
theorem dX9_wants_36 : decode cX9_wants 36 = .ok (.invokevirtual 421, 3) := by decide +kernel
theorem dX9_wants_39 : decode cX9_wants 39 = .ok (.istore_n 2, 1) := by decide +kernel
theorem dX9_wants_40 : decode cX9_wants 40 = .ok (.aload_n 0, 1) := by decide +kernel
theorem dX9_wants_41 : decode cX9_wants 41 = .ok (.invokevirtual 418, 3) := by decide +kernel
theorem dX9_wants_44 : decode cX9_wants 44 = .ok (.iload_n 2, 1) := by decide +kernel
theorem dX9_wants_45 : decode cX9_wants 45 = .ok (.ireturn, 1) := by decide +kernel
set_option maxRecDepth 20000 in
theorem vX9_wants {g : zG} {d : Nat} {Q : Int32 → zM → Prop} {M : zM} {l1 : Int32} (h : zCz shM g d mX9_isIn [.int l1, .int 0, .int 99] M (fun b1 M1 => (b1 = true → zCv shM g d mX9_laysAside [.ref 0] M1 (fun  M2 => zW shM g (d + 1) mX9_wants (zi Q) 18 [(0, .ref 0), (1, .int l1), (2, .int 0)] [] M2)) ∧ (b1 = false → Q (-1) M1))) : zCi shM g (d + 1) mX9_wants [.ref 0, .int l1] M Q := by
  refine zW.enter (by decide +kernel) (Nat.le_of_ble_eq_true rfl) ?_
  change zW shM g (d + 1) mX9_wants (zi Q) 0 [(0, .ref 0), (1, .int l1)] [] M
  refine z_iload_n dX9_wants_0 1 rfl ?_
  refine z_iconst (v := 0) dX9_wants_1 (by decide) ?_
  refine z_bipush (v := 99) dX9_wants_2 (by decide) ?_
  refine z_callS (m2 := mX9_isIn) (st := []) [.int l1, .int 0, .int 99] okX9_isIn (Or.inl lkX9_97) rfl rfl (Nat.le_of_ble_eq_true rfl) dX9_wants_4 (zgo_z h fun b1 M1 h => ?_)
  refine z_ifb_ne 12 dX9_wants_7 (by decide) (fun c1 => ?_) (fun c1 => ?_)
  · have h := h.1 c1
    refine z_aload_n dX9_wants_12 0 rfl ?_
    refine z_callV (m2 := mX9_laysAside) (st := []) [] okX9_laysAside (Or.inl lkX9_411) shM_0 rfl rfl rfl (Nat.le_of_ble_eq_true rfl) dX9_wants_13 (zgo_v h fun  M2 h => ?_)
    refine z_iconst (v := 0) dX9_wants_16 (by decide) ?_
    refine z_istore_n [(2, .int 0), (0, .ref 0), (1, .int l1)] dX9_wants_17 (by decide) rfl ?_
    exact zW.sub [1, 2, 0] rfl h
  · have h := h.2 c1
    refine z_iconst (v := (-1)) dX9_wants_10 (by decide) ?_
    exact z_iret (st := []) rfl rfl dX9_wants_11 ⟨_, rfl, h⟩
set_option maxRecDepth 20000 in
theorem vX9_wants_18 {g : zG} {d : Nat} {Q : Int32 → zM → Prop} {M : zM} {l1 : Int32} {l2 : Int32} (h : (l1 ≤ l2 → zCi shM g d mX9_readMany [.ref 0] M (fun x1 M1 => zCv shM g d mX9_putsBack [.ref 0] M1 (fun  M2 => Q x1 M2))) ∧ (¬ l1 ≤ l2 → zCi shM g d mX9_aMinute [.ref 0, .int (zbI false)] M (fun x1 M1 => zW shM g (d + 1) mX9_wants (zi Q) 18 [(0, .ref 0), (1, .int l1), (2, .int (l2 + 1))] [] M1))) : zW shM g (d + 1) mX9_wants (zi Q) 18 [(0, .ref 0), (1, .int l1), (2, .int l2)] [] M := by
  refine z_iload_n dX9_wants_18 2 rfl ?_
  refine z_iload_n dX9_wants_19 1 rfl ?_
  refine z_icmp_ge 35 dX9_wants_20 (by decide) (fun c1 => ?_) (fun c1 => ?_)
  · have h := h.1 c1
    refine z_aload_n dX9_wants_35 0 rfl ?_
    refine z_callV (m2 := mX9_readMany) (st := []) [] okX9_readMany (Or.inl lkX9_421) shM_0 rfl rfl rfl (Nat.le_of_ble_eq_true rfl) dX9_wants_36 (zgo_i h fun x1 M1 h => ?_)
    refine z_istore_n [(2, .int x1), (0, .ref 0), (1, .int l1)] dX9_wants_39 (by decide) rfl ?_
    refine z_aload_n dX9_wants_40 1 rfl ?_
    refine z_callV (m2 := mX9_putsBack) (st := []) [] okX9_putsBack (Or.inl lkX9_418) shM_0 rfl rfl rfl (Nat.le_of_ble_eq_true rfl) dX9_wants_41 (zgo_v h fun  M2 h => ?_)
    refine z_iload_n dX9_wants_44 0 rfl ?_
    exact z_iret (st := []) rfl rfl dX9_wants_45 ⟨_, rfl, h⟩
  · have h := h.2 c1
    refine z_aload_n dX9_wants_23 0 rfl ?_
    refine z_iconst (v := 0) dX9_wants_24 (by decide) ?_
    refine z_callV (m2 := mX9_aMinute) (st := []) [.int (zbI false)] okX9_aMinute (Or.inl lkX9_396) shM_0 rfl rfl rfl (Nat.le_of_ble_eq_true rfl) dX9_wants_25 (zgo_i h fun x1 M1 h => ?_)
    refine z_popi dX9_wants_28 ?_
    refine z_iinc (x := l2) (v := (l2 + 1)) [(2, .int (l2 + 1)), (0, .ref 0), (1, .int l1)] dX9_wants_29 2 rfl rfl (by decide) rfl ?_
    refine z_goto 18 dX9_wants_32 (by decide) ?_
    exact zW.sub [1, 2, 0] rfl h
theorem dX9_readSet_0 : decode cX9_readSet 0 = .ok (.iconst 0, 1) := by decide +kernel
theorem dX9_readSet_1 : decode cX9_readSet 1 = .ok (.istore_n 1, 1) := by decide +kernel
theorem dX9_readSet_2 : decode cX9_readSet 2 = .ok (.iconst 0, 1) := by decide +kernel
theorem dX9_readSet_3 : decode cX9_readSet 3 = .ok (.istore_n 2, 1) := by decide +kernel
theorem dX9_readSet_4 : decode cX9_readSet 4 = .ok (.iload_n 2, 1) := by decide +kernel
theorem dX9_readSet_5 : decode cX9_readSet 5 = .ok (.aload_n 0, 1) := by decide +kernel
theorem dX9_readSet_6 : decode cX9_readSet 6 = .ok (.getfield 7, 3) := by decide +kernel
theorem dX9_readSet_9 : decode cX9_readSet 9 = .ok (.sipush 158, 3) := by decide +kernel
theorem dX9_readSet_12 : decode cX9_readSet 12 = .ok (.iaload, 1) := by decide +kernel
theorem dX9_readSet_13 : decode cX9_readSet 13 = .ok (.if_icmp .ge 27, 3) := by decide +kernel
theorem dX9_readSet_16 : decode cX9_readSet 16 = .ok (.iload_n 1, 1) := by decide +kernel
theorem dX9_readSet_17 : decode cX9_readSet 17 = .ok (.aload_n 0, 1) := by decide +kernel
theorem dX9_readSet_18 : decode cX9_readSet 18 = .ok (.iload_n 2, 1) := by decide +kernel
theorem dX9_readSet_19 : decode cX9_readSet 19 = .ok (.invokevirtual 406, 3) := by decide +kernel
theorem dX9_readSet_22 : decode cX9_readSet 22 = .ok (.ifCond .eq 9, 3) := by decide +kernel
theorem dX9_readSet_25 : decode cX9_readSet 25 = .ok (.iconst 1, 1) := by decide +kernel
theorem dX9_readSet_26 : decode cX9_readSet 26 = .ok (.iload_n 2, 1) := by decide +kernel
theorem dX9_readSet_27 : decode cX9_readSet 27 = .ok (.ishl, 1) := by decide +kernel
theorem dX9_readSet_28 : decode cX9_readSet 28 = .ok (.goto 4, 3) := by decide +kernel
theorem dX9_readSet_31 : decode cX9_readSet 31 = .ok (.iconst 0, 1) := by decide +kernel
theorem dX9_readSet_32 : decode cX9_readSet 32 = .ok (.ior, 1) := by decide +kernel
theorem dX9_readSet_33 : decode cX9_readSet 33 = .ok (.istore_n 1, 1) := by decide +kernel
theorem dX9_readSet_34 : decode cX9_readSet 34 = .ok (.iinc 2 1, 3) := by decide +kernel
theorem dX9_readSet_37 : decode cX9_readSet 37 = .ok (.goto (-33), 3) := by decide +kernel
theorem dX9_readSet_40 : decode cX9_readSet 40 = .ok (.iload_n 1, 1) := by decide +kernel
theorem dX9_readSet_41 : decode cX9_readSet 41 = .ok (.ireturn, 1) := by decide +kernel
set_option maxRecDepth 20000 in
theorem vX9_readSet {g : zG} {d : Nat} {Q : Int32 → zM → Prop} {M : zM} (h : zW shM g (d + 1) mX9_readSet (zi Q) 4 [(0, .ref 0), (1, .int 0), (2, .int 0)] [] M) : zCi shM g (d + 1) mX9_readSet [.ref 0] M Q := by
  refine zW.enter (by decide +kernel) (Nat.le_of_ble_eq_true rfl) ?_
  change zW shM g (d + 1) mX9_readSet (zi Q) 0 [(0, .ref 0)] [] M
  refine z_iconst (v := 0) dX9_readSet_0 (by decide) ?_
  refine z_istore_n [(1, .int 0), (0, .ref 0)] dX9_readSet_1 (by decide) rfl ?_
  refine z_iconst (v := 0) dX9_readSet_2 (by decide) ?_
  refine z_istore_n [(2, .int 0), (1, .int 0), (0, .ref 0)] dX9_readSet_3 (by decide) rfl ?_
  exact zW.sub [2, 1, 0] rfl h
set_option maxRecDepth 20000 in
theorem vX9_readSet_4 {g : zG} {d : Nat} {Q : Int32 → zM → Prop} {M : zM} {l1 : Int32} {l2 : Int32} (h : ((M 1 158) ≤ l2 → Q l1 M) ∧ (¬ (M 1 158) ≤ l2 → zCz shM g d mX9_isRead [.ref 0, .int l2] M (fun b1 M1 => (b1 = false → zW shM g (d + 1) mX9_readSet (zi Q) 4 [(0, .ref 0), (1, .int (l1 ||| 0)), (2, .int (l2 + 1))] [] M1) ∧ (b1 = true → zW shM g (d + 1) mX9_readSet (zi Q) 4 [(0, .ref 0), (1, .int (l1 ||| (1 <<< (l2 &&& 31)))), (2, .int (l2 + 1))] [] M1)))) : zW shM g (d + 1) mX9_readSet (zi Q) 4 [(0, .ref 0), (1, .int l1), (2, .int l2)] [] M := by
  refine z_iload_n dX9_readSet_4 2 rfl ?_
  refine z_aload_n dX9_readSet_5 0 rfl ?_
  refine z_getr shM_0 rfl flX9_7 dX9_readSet_6 ?_
  refine z_sipush (v := 158) dX9_readSet_9 (by decide) ?_
  refine z_iald2 (k0 := 158) shM_1 (by decide) (by decide) (by decide) dX9_readSet_12 ?_
  refine z_icmp_ge 40 dX9_readSet_13 (by decide) (fun c1 => ?_) (fun c1 => ?_)
  · have h := h.1 c1
    refine z_iload_n dX9_readSet_40 1 rfl ?_
    exact z_iret (st := []) rfl rfl dX9_readSet_41 ⟨_, rfl, h⟩
  · have h := h.2 c1
    refine z_iload_n dX9_readSet_16 1 rfl ?_
    refine z_aload_n dX9_readSet_17 0 rfl ?_
    refine z_iload_n dX9_readSet_18 2 rfl ?_
    refine z_callV (m2 := mX9_isRead) (st := [.int l1]) [.int l2] okX9_isRead (Or.inl lkX9_406) shM_0 rfl rfl rfl (Nat.le_of_ble_eq_true rfl) dX9_readSet_19 (zgo_z h fun b1 M1 h => ?_)
    refine z_ifb_eq 31 dX9_readSet_22 (by decide) (fun c2 => ?_) (fun c2 => ?_)
    · have h := h.1 c2
      refine z_iconst (v := 0) dX9_readSet_31 (by decide) ?_
      refine z_ior dX9_readSet_32 ?_
      refine z_istore_n [(1, .int (l1 ||| 0)), (0, .ref 0), (2, .int l2)] dX9_readSet_33 (by decide) rfl ?_
      refine z_iinc (x := l2) (v := (l2 + 1)) [(2, .int (l2 + 1)), (1, .int (l1 ||| 0)), (0, .ref 0)] dX9_readSet_34 2 rfl rfl (by decide) rfl ?_
      refine z_goto 4 dX9_readSet_37 (by decide) ?_
      exact zW.sub [2, 1, 0] rfl h
    · have h := h.2 c2
      refine z_iconst (v := 1) dX9_readSet_25 (by decide) ?_
      refine z_iload_n dX9_readSet_26 2 rfl ?_
      refine z_ishl dX9_readSet_27 ?_
      refine z_goto 32 dX9_readSet_28 (by decide) ?_
      refine z_ior dX9_readSet_32 ?_
      refine z_istore_n [(1, .int (l1 ||| (1 <<< (l2 &&& 31)))), (0, .ref 0), (2, .int l2)] dX9_readSet_33 (by decide) rfl ?_
      refine z_iinc (x := l2) (v := (l2 + 1)) [(2, .int (l2 + 1)), (1, .int (l1 ||| (1 <<< (l2 &&& 31)))), (0, .ref 0)] dX9_readSet_34 2 rfl rfl (by decide) rfl ?_
      refine z_goto 4 dX9_readSet_37 (by decide) ?_
      exact zW.sub [2, 1, 0] rfl h
theorem dX9_leastIn_0 : decode cX9_leastIn 0 = .ok (.iconst 0, 1) := by decide +kernel
theorem dX9_leastIn_1 : decode cX9_leastIn 1 = .ok (.istore_n 1, 1) := by decide +kernel
theorem dX9_leastIn_2 : decode cX9_leastIn 2 = .ok (.iload_n 0, 1) := by decide +kernel
theorem dX9_leastIn_3 : decode cX9_leastIn 3 = .ok (.iload_n 1, 1) := by decide +kernel
theorem dX9_leastIn_4 : decode cX9_leastIn 4 = .ok (.ishr, 1) := by decide +kernel
theorem dX9_leastIn_5 : decode cX9_leastIn 5 = .ok (.iconst 1, 1) := by decide +kernel
theorem dX9_leastIn_6 : decode cX9_leastIn 6 = .ok (.iand, 1) := by decide +kernel
theorem dX9_leastIn_7 : decode cX9_leastIn 7 = .ok (.ifCond .ne 9, 3) := by decide +kernel
theorem dX9_leastIn_10 : decode cX9_leastIn 10 = .ok (.iinc 1 1, 3) := by decide +kernel
theorem dX9_leastIn_13 : decode cX9_leastIn 13 = .ok (.goto (-11), 3) := by decide +kernel
theorem dX9_leastIn_16 : decode cX9_leastIn 16 = .ok (.iload_n 1, 1) := by decide +kernel
theorem dX9_leastIn_17 : decode cX9_leastIn 17 = .ok (.ireturn, 1) := by decide +kernel
set_option maxRecDepth 20000 in
theorem vX9_leastIn {g : zG} {d : Nat} {Q : Int32 → zM → Prop} {M : zM} {l0 : Int32} (h : zW shM g d mX9_leastIn (zi Q) 2 [(0, .int l0), (1, .int 0)] [] M) : zCi shM g d mX9_leastIn [.int l0] M Q := by
  refine zW.enter (by decide +kernel) (Nat.le_of_ble_eq_true rfl) ?_
  change zW shM g d mX9_leastIn (zi Q) 0 [(0, .int l0)] [] M
  refine z_iconst (v := 0) dX9_leastIn_0 (by decide) ?_
  refine z_istore_n [(1, .int 0), (0, .int l0)] dX9_leastIn_1 (by decide) rfl ?_
  exact zW.sub [1, 0] rfl h
set_option maxRecDepth 20000 in
theorem vX9_leastIn_2 {g : zG} {d : Nat} {Q : Int32 → zM → Prop} {M : zM} {l0 : Int32} {l1 : Int32} (h : (¬ ((l0 >>> (l1 &&& 31)) &&& 1) = 0 → Q l1 M) ∧ (((l0 >>> (l1 &&& 31)) &&& 1) = 0 → zW shM g d mX9_leastIn (zi Q) 2 [(0, .int l0), (1, .int (l1 + 1))] [] M)) : zW shM g d mX9_leastIn (zi Q) 2 [(0, .int l0), (1, .int l1)] [] M := by
  refine z_iload_n dX9_leastIn_2 0 rfl ?_
  refine z_iload_n dX9_leastIn_3 1 rfl ?_
  refine z_ishr dX9_leastIn_4 ?_
  refine z_iconst (v := 1) dX9_leastIn_5 (by decide) ?_
  refine z_iand dX9_leastIn_6 ?_
  refine z_if_ne 16 dX9_leastIn_7 (by decide) (fun c1 => ?_) (fun c1 => ?_)
  · have h := h.1 c1
    refine z_iload_n dX9_leastIn_16 1 rfl ?_
    exact z_iret (st := []) rfl rfl dX9_leastIn_17 ⟨_, rfl, h⟩
  · have h := h.2 c1
    refine z_iinc (x := l1) (v := (l1 + 1)) [(1, .int (l1 + 1)), (0, .int l0)] dX9_leastIn_10 1 rfl rfl (by decide) rfl ?_
    refine z_goto 2 dX9_leastIn_13 (by decide) ?_
    exact zW.sub [1, 0] rfl h
theorem dX9_spoilt_0 : decode cX9_spoilt 0 = .ok (.iload_n 1, 1) := by decide +kernel
theorem dX9_spoilt_1 : decode cX9_spoilt 1 = .ok (.iconst 0, 1) := by decide +kernel
theorem dX9_spoilt_2 : decode cX9_spoilt 2 = .ok (.iconst 1, 1) := by decide +kernel
theorem dX9_spoilt_3 : decode cX9_spoilt 3 = .ok (.invokestatic 97, 3) := by decide +kernel
theorem dX9_spoilt_6 : decode cX9_spoilt 6 = .ok (.ifCond .ne 5, 3) := by decide +kernel
theorem dX9_spoilt_9 : decode cX9_spoilt 9 = .ok (.iconst (-1), 1) := by decide +kernel
theorem dX9_spoilt_10 : decode cX9_spoilt 10 = .ok (.ireturn, 1) := by decide +kernel
theorem dX9_spoilt_11 : decode cX9_spoilt 11 = .ok (.aload_n 0, 1) := by decide +kernel
theorem dX9_spoilt_12 : decode cX9_spoilt 12 = .ok (.invokevirtual 424, 3) := by decide +kernel
theorem dX9_spoilt_15 : decode cX9_spoilt 15 = .ok (.istore_n 2, 1) := by decide +kernel
theorem dX9_spoilt_16 : decode cX9_spoilt 16 = .ok (.iconst 0, 1) := by decide +kernel
theorem dX9_spoilt_17 : decode cX9_spoilt 17 = .ok (.istore_n 3, 1) := by decide +kernel
theorem dX9_spoilt_18 : decode cX9_spoilt 18 = .ok (.iconst (-1), 1) := by decide +kernel
theorem dX9_spoilt_19 : decode cX9_spoilt 19 = .ok (.istore 4, 2) := by decide +kernel
theorem dX9_spoilt_21 : decode cX9_spoilt 21 = .ok (.aload_n 0, 1) := by decide +kernel
theorem dX9_spoilt_22 : decode cX9_spoilt 22 = .ok (.invokevirtual 411, 3) := by decide +kernel
theorem dX9_spoilt_25 : decode cX9_spoilt 25 = .ok (.iconst 1, 1) := by decide +kernel
theorem dX9_spoilt_26 : decode cX9_spoilt 26 = .ok (.istore 5, 2) := by decide +kernel
theorem dX9_spoilt_28 : decode cX9_spoilt 28 = .ok (.iload 5, 2) := by decide +kernel
theorem dX9_spoilt_30 : decode cX9_spoilt 30 = .ok (.bipush 99, 2) := by decide +kernel
theorem dX9_spoilt_32 : decode cX9_spoilt 32 = .ok (.if_icmp .gt 36, 3) := by decide +kernel
theorem dX9_spoilt_35 : decode cX9_spoilt 35 = .ok (.iload_n 2, 1) := by decide +kernel
theorem dX9_spoilt_36 : decode cX9_spoilt 36 = .ok (.ifCond .eq 32, 3) := by decide +kernel
theorem dX9_spoilt_39 : decode cX9_spoilt 39 = .ok (.iload_n 3, 1) := by decide +kernel
theorem dX9_spoilt_40 : decode cX9_spoilt 40 = .ok (.ifCond .ne 28, 3) := by decide +kernel
theorem dX9_spoilt_43 : decode cX9_spoilt 43 = .ok (.aload_n 0, 1) := by decide +kernel
theorem dX9_spoilt_44 : decode cX9_spoilt 44 = .ok (.iconst 0, 1) := by decide +kernel
theorem dX9_spoilt_45 : decode cX9_spoilt 45 = .ok (.invokevirtual 396, 3) := by decide +kernel
theorem dX9_spoilt_48 : decode cX9_spoilt 48 = .ok (.pop, 1) := by decide +kernel
theorem dX9_spoilt_49 : decode cX9_spoilt 49 = .ok (.iload_n 2, 1) := by decide +kernel
theorem dX9_spoilt_50 : decode cX9_spoilt 50 = .ok (.aload_n 0, 1) := by decide +kernel
theorem dX9_spoilt_51 : decode cX9_spoilt 51 = .ok (.invokevirtual 424, 3) := by decide +kernel
theorem dX9_spoilt_54 : decode cX9_spoilt 54 = .ok (.iconst (-1), 1) := by decide +kernel
theorem dX9_spoilt_55 : decode cX9_spoilt 55 = .ok (.ixor, 1) := by decide +kernel
theorem dX9_spoilt_56 : decode cX9_spoilt 56 = .ok (.iand, 1) := by decide +kernel
theorem dX9_spoilt_57 : decode cX9_spoilt 57 = .ok (.istore_n 3, 1) := by decide +kernel
theorem dX9_spoilt_58 : decode cX9_spoilt 58 = .ok (.iload 5, 2) := by decide +kernel
theorem dX9_spoilt_60 : decode cX9_spoilt 60 = .ok (.istore 4, 2) := by decide +kernel
theorem dX9_spoilt_62 : decode cX9_spoilt 62 = .ok (.iinc 5 1, 3) := by decide +kernel
theorem dX9_spoilt_65 : decode cX9_spoilt 65 = .ok (.goto (-37), 3) := by decide +kernel
theorem dX9_spoilt_68 : decode cX9_spoilt 68 = .ok (.aload_n 0, 1) := by decide +kernel
theorem dX9_spoilt_69 : decode cX9_spoilt 69 = .ok (.invokevirtual 418, 3) := by decide +kernel
theorem dX9_spoilt_72 : decode cX9_spoilt 72 = .ok (.iload_n 3, 1) := by decide +kernel
theorem dX9_spoilt_73 : decode cX9_spoilt 73 = .ok (.ifCond .ne 5, 3) := by decide +kernel
theorem dX9_spoilt_76 : decode cX9_spoilt 76 = .ok (.iconst (-1), 1) := by decide +kernel
theorem dX9_spoilt_77 : decode cX9_spoilt 77 = .ok (.ireturn, 1) := by decide +kernel
theorem dX9_spoilt_78 : decode cX9_spoilt 78 = .ok (.iload_n 1, 1) := by decide +kernel
theorem dX9_spoilt_79 : decode cX9_spoilt 79 = .ok (.ifCond .ne 8, 3) := by decide +kernel
theorem dX9_spoilt_82 : decode cX9_spoilt 82 = .ok (.iload 4, 2) := by decide +kernel
theorem dX9_spoilt_84 : decode cX9_spoilt 84 = .ok (.goto 7, 3) := by decide +kernel
theorem dX9_spoilt_87 : decode cX9_spoilt 87 = .ok (.iload_n 3, 1) := by decide +kernel
theorem dX9_spoilt_88 : decode cX9_spoilt 88 = .ok (.invokestatic 427, 3) := by decide +kernel
theorem dX9_spoilt_91 : decode cX9_spoilt 91 = .ok (.ireturn, 1) := by decide +kernel
set_option maxRecDepth 20000 in
theorem vX9_spoilt {g : zG} {d : Nat} {Q : Int32 → zM → Prop} {M : zM} {l1 : Int32} (h : zCz shM g d mX9_isIn [.int l1, .int 0, .int 1] M (fun b1 M1 => (b1 = true → zCi shM g d mX9_readSet [.ref 0] M1 (fun x1 M2 => zCv shM g d mX9_laysAside [.ref 0] M2 (fun  M3 => zW shM g (d + 1) mX9_spoilt (zi Q) 28 [(0, .ref 0), (1, .int l1), (2, .int x1), (3, .int 0), (4, .int (-1)), (5, .int 1)] [] M3))) ∧ (b1 = false → Q (-1) M1))) : zCi shM g (d + 1) mX9_spoilt [.ref 0, .int l1] M Q := by
  refine zW.enter (by decide +kernel) (Nat.le_of_ble_eq_true rfl) ?_
  change zW shM g (d + 1) mX9_spoilt (zi Q) 0 [(0, .ref 0), (1, .int l1)] [] M
  refine z_iload_n dX9_spoilt_0 1 rfl ?_
  refine z_iconst (v := 0) dX9_spoilt_1 (by decide) ?_
  refine z_iconst (v := 1) dX9_spoilt_2 (by decide) ?_
  refine z_callS (m2 := mX9_isIn) (st := []) [.int l1, .int 0, .int 1] okX9_isIn (Or.inl lkX9_97) rfl rfl (Nat.le_of_ble_eq_true rfl) dX9_spoilt_3 (zgo_z h fun b1 M1 h => ?_)
  refine z_ifb_ne 11 dX9_spoilt_6 (by decide) (fun c1 => ?_) (fun c1 => ?_)
  · have h := h.1 c1
    refine z_aload_n dX9_spoilt_11 0 rfl ?_
    refine z_callV (m2 := mX9_readSet) (st := []) [] okX9_readSet (Or.inl lkX9_424) shM_0 rfl rfl rfl (Nat.le_of_ble_eq_true rfl) dX9_spoilt_12 (zgo_i h fun x1 M2 h => ?_)
    refine z_istore_n [(2, .int x1), (0, .ref 0), (1, .int l1)] dX9_spoilt_15 (by decide) rfl ?_
    refine z_iconst (v := 0) dX9_spoilt_16 (by decide) ?_
    refine z_istore_n [(3, .int 0), (2, .int x1), (0, .ref 0), (1, .int l1)] dX9_spoilt_17 (by decide) rfl ?_
    refine z_iconst (v := (-1)) dX9_spoilt_18 (by decide) ?_
    refine z_istore [(4, .int (-1)), (3, .int 0), (2, .int x1), (0, .ref 0), (1, .int l1)] dX9_spoilt_19 (by decide) rfl ?_
    refine z_aload_n dX9_spoilt_21 3 rfl ?_
    refine z_callV (m2 := mX9_laysAside) (st := []) [] okX9_laysAside (Or.inl lkX9_411) shM_0 rfl rfl rfl (Nat.le_of_ble_eq_true rfl) dX9_spoilt_22 (zgo_v h fun  M3 h => ?_)
    refine z_iconst (v := 1) dX9_spoilt_25 (by decide) ?_
    refine z_istore [(5, .int 1), (4, .int (-1)), (3, .int 0), (2, .int x1), (0, .ref 0), (1, .int l1)] dX9_spoilt_26 (by decide) rfl ?_
    exact zW.sub [4, 5, 3, 2, 1, 0] rfl h
  · have h := h.2 c1
    refine z_iconst (v := (-1)) dX9_spoilt_9 (by decide) ?_
    exact z_iret (st := []) rfl rfl dX9_spoilt_10 ⟨_, rfl, h⟩
set_option maxRecDepth 20000 in
theorem vX9_spoilt_28 {g : zG} {d : Nat} {Q : Int32 → zM → Prop} {M : zM} {l1 : Int32} {l2 : Int32} {l3 : Int32} {l4 : Int32} {l5 : Int32} (h : (99 < l5 → zW shM g (d + 1) mX9_spoilt (zi Q) 68 [(0, .ref 0), (1, .int l1), (3, .int l3), (4, .int l4)] [] M) ∧ (¬ 99 < l5 → (l2 = 0 → zW shM g (d + 1) mX9_spoilt (zi Q) 68 [(0, .ref 0), (1, .int l1), (3, .int l3), (4, .int l4)] [] M) ∧ (¬ l2 = 0 → (¬ l3 = 0 → zW shM g (d + 1) mX9_spoilt (zi Q) 68 [(0, .ref 0), (1, .int l1), (3, .int l3), (4, .int l4)] [] M) ∧ (l3 = 0 → zCi shM g d mX9_aMinute [.ref 0, .int (zbI false)] M (fun x1 M1 => zCi shM g d mX9_readSet [.ref 0] M1 (fun x2 M2 => zW shM g (d + 1) mX9_spoilt (zi Q) 28 [(0, .ref 0), (1, .int l1), (2, .int l2), (3, .int (l2 &&& (x2 ^^^ (-1)))), (4, .int l5), (5, .int (l5 + 1))] [] M2)))))) : zW shM g (d + 1) mX9_spoilt (zi Q) 28 [(0, .ref 0), (1, .int l1), (2, .int l2), (3, .int l3), (4, .int l4), (5, .int l5)] [] M := by
  refine z_iload dX9_spoilt_28 5 rfl ?_
  refine z_bipush (v := 99) dX9_spoilt_30 (by decide) ?_
  refine z_icmp_gt 68 dX9_spoilt_32 (by decide) (fun c1 => ?_) (fun c1 => ?_)
  · have h := h.1 c1
    exact zW.sub [0, 1, 3, 4] rfl h
  · have h := h.2 c1
    refine z_iload_n dX9_spoilt_35 2 rfl ?_
    refine z_if_eq 68 dX9_spoilt_36 (by decide) (fun c2 => ?_) (fun c2 => ?_)
    · have h := h.1 c2
      exact zW.sub [0, 1, 3, 4] rfl h
    · have h := h.2 c2
      refine z_iload_n dX9_spoilt_39 3 rfl ?_
      refine z_if_ne 68 dX9_spoilt_40 (by decide) (fun c3 => ?_) (fun c3 => ?_)
      · have h := h.1 c3
        exact zW.sub [0, 1, 3, 4] rfl h
      · have h := h.2 c3
        refine z_aload_n dX9_spoilt_43 0 rfl ?_
        refine z_iconst (v := 0) dX9_spoilt_44 (by decide) ?_
        refine z_callV (m2 := mX9_aMinute) (st := []) [.int (zbI false)] okX9_aMinute (Or.inl lkX9_396) shM_0 rfl rfl rfl (Nat.le_of_ble_eq_true rfl) dX9_spoilt_45 (zgo_i h fun x1 M1 h => ?_)
        refine z_popi dX9_spoilt_48 ?_
        refine z_iload_n dX9_spoilt_49 2 rfl ?_
        refine z_aload_n dX9_spoilt_50 0 rfl ?_
        refine z_callV (m2 := mX9_readSet) (st := [.int l2]) [] okX9_readSet (Or.inl lkX9_424) shM_0 rfl rfl rfl (Nat.le_of_ble_eq_true rfl) dX9_spoilt_51 (zgo_i h fun x2 M2 h => ?_)
        refine z_iconst (v := (-1)) dX9_spoilt_54 (by decide) ?_
        refine z_ixor dX9_spoilt_55 ?_
        refine z_iand dX9_spoilt_56 ?_
        refine z_istore_n [(3, .int (l2 &&& (x2 ^^^ (-1)))), (0, .ref 0), (1, .int l1), (2, .int l2), (4, .int l4), (5, .int l5)] dX9_spoilt_57 (by decide) rfl ?_
        refine z_iload dX9_spoilt_58 5 rfl ?_
        refine z_istore [(4, .int l5), (3, .int (l2 &&& (x2 ^^^ (-1)))), (0, .ref 0), (1, .int l1), (2, .int l2), (5, .int l5)] dX9_spoilt_60 (by decide) rfl ?_
        refine z_iinc (x := l5) (v := (l5 + 1)) [(5, .int (l5 + 1)), (4, .int l5), (3, .int (l2 &&& (x2 ^^^ (-1)))), (0, .ref 0), (1, .int l1), (2, .int l2)] dX9_spoilt_62 5 rfl rfl (by decide) rfl ?_
        refine z_goto 28 dX9_spoilt_65 (by decide) ?_
        exact zW.sub [3, 4, 5, 2, 1, 0] rfl h
set_option maxRecDepth 20000 in
theorem vX9_spoilt_68 {g : zG} {d : Nat} {Q : Int32 → zM → Prop} {M : zM} {l1 : Int32} {l3 : Int32} {l4 : Int32} (h : zCv shM g d mX9_putsBack [.ref 0] M (fun  M1 => (¬ l3 = 0 → (¬ l1 = 0 → zCi shM g d mX9_leastIn [.int l3] M1 (fun x2 M2 => Q x2 M2)) ∧ (l1 = 0 → Q l4 M1)) ∧ (l3 = 0 → Q (-1) M1))) : zW shM g (d + 1) mX9_spoilt (zi Q) 68 [(0, .ref 0), (1, .int l1), (3, .int l3), (4, .int l4)] [] M := by
  refine z_aload_n dX9_spoilt_68 0 rfl ?_
  refine z_callV (m2 := mX9_putsBack) (st := []) [] okX9_putsBack (Or.inl lkX9_418) shM_0 rfl rfl rfl (Nat.le_of_ble_eq_true rfl) dX9_spoilt_69 (zgo_v h fun  M1 h => ?_)
  refine z_iload_n dX9_spoilt_72 2 rfl ?_
  refine z_if_ne 78 dX9_spoilt_73 (by decide) (fun c1 => ?_) (fun c1 => ?_)
  · have h := h.1 c1
    refine z_iload_n dX9_spoilt_78 1 rfl ?_
    refine z_if_ne 87 dX9_spoilt_79 (by decide) (fun c2 => ?_) (fun c2 => ?_)
    · have h := h.1 c2
      refine z_iload_n dX9_spoilt_87 2 rfl ?_
      refine z_callS (m2 := mX9_leastIn) (st := []) [.int l3] okX9_leastIn (Or.inl lkX9_427) rfl rfl (Nat.le_of_ble_eq_true rfl) dX9_spoilt_88 (zgo_i h fun x2 M2 h => ?_)
      exact z_iret (st := []) rfl rfl dX9_spoilt_91 ⟨_, rfl, h⟩
    · have h := h.2 c2
      refine z_iload dX9_spoilt_82 3 rfl ?_
      refine z_goto 91 dX9_spoilt_84 (by decide) ?_
      exact z_iret (st := []) rfl rfl dX9_spoilt_91 ⟨_, rfl, h⟩
  · have h := h.2 c1
    refine z_iconst (v := (-1)) dX9_spoilt_76 (by decide) ?_
    exact z_iret (st := []) rfl rfl dX9_spoilt_77 ⟨_, rfl, h⟩
theorem dX9_laysGoals_0 : decode cX9_laysGoals 0 = .ok (.aload_n 0, 1) := by decide +kernel
theorem dX9_laysGoals_1 : decode cX9_laysGoals 1 = .ok (.iconst 0, 1) := by decide +kernel
theorem dX9_laysGoals_2 : decode cX9_laysGoals 2 = .ok (.putfield 430, 3) := by decide +kernel
theorem dX9_laysGoals_5 : decode cX9_laysGoals 5 = .ok (.iconst 0, 1) := by decide +kernel
theorem dX9_laysGoals_6 : decode cX9_laysGoals 6 = .ok (.istore_n 3, 1) := by decide +kernel
theorem dX9_laysGoals_7 : decode cX9_laysGoals 7 = .ok (.iload_n 3, 1) := by decide +kernel
theorem dX9_laysGoals_8 : decode cX9_laysGoals 8 = .ok (.bipush 64, 2) := by decide +kernel
theorem dX9_laysGoals_10 : decode cX9_laysGoals 10 = .ok (.if_icmp .ge 61, 3) := by decide +kernel
theorem dX9_laysGoals_13 : decode cX9_laysGoals 13 = .ok (.lload_n 1, 1) := by decide +kernel
theorem dX9_laysGoals_14 : decode cX9_laysGoals 14 = .ok (.iload_n 3, 1) := by decide +kernel
theorem dX9_laysGoals_15 : decode cX9_laysGoals 15 = .ok (.lshr, 1) := by decide +kernel
theorem dX9_laysGoals_16 : decode cX9_laysGoals 16 = .ok (.lconst 1, 1) := by decide +kernel
theorem dX9_laysGoals_17 : decode cX9_laysGoals 17 = .ok (.land, 1) := by decide +kernel
theorem dX9_laysGoals_18 : decode cX9_laysGoals 18 = .ok (.lconst 0, 1) := by decide +kernel
theorem dX9_laysGoals_19 : decode cX9_laysGoals 19 = .ok (.lcmp, 1) := by decide +kernel
theorem dX9_laysGoals_20 : decode cX9_laysGoals 20 = .ok (.ifCond .ne 6, 3) := by decide +kernel
theorem dX9_laysGoals_23 : decode cX9_laysGoals 23 = .ok (.goto 42, 3) := by decide +kernel
theorem dX9_laysGoals_26 : decode cX9_laysGoals 26 = .ok (.aload_n 0, 1) := by decide +kernel
theorem dX9_laysGoals_27 : decode cX9_laysGoals 27 = .ok (.iload_n 3, 1) := by decide +kernel
theorem dX9_laysGoals_28 : decode cX9_laysGoals 28 = .ok (.invokevirtual 105, 3) := by decide +kernel
theorem dX9_laysGoals_31 : decode cX9_laysGoals 31 = .ok (.ifCond .eq 12, 3) := by decide +kernel
theorem dX9_laysGoals_34 : decode cX9_laysGoals 34 = .ok (.aload_n 0, 1) := by decide +kernel
theorem dX9_laysGoals_35 : decode cX9_laysGoals 35 = .ok (.getfield 430, 3) := by decide +kernel
theorem dX9_laysGoals_38 : decode cX9_laysGoals 38 = .ok (.bipush 9, 2) := by decide +kernel
theorem dX9_laysGoals_40 : decode cX9_laysGoals 40 = .ok (.if_icmp .ne 5, 3) := by decide +kernel
theorem dX9_laysGoals_43 : decode cX9_laysGoals 43 = .ok (.iconst 0, 1) := by decide +kernel
theorem dX9_laysGoals_44 : decode cX9_laysGoals 44 = .ok (.ireturn, 1) := by decide +kernel
theorem dX9_laysGoals_45 : decode cX9_laysGoals 45 = .ok (.aload_n 0, 1) := by decide +kernel
theorem dX9_laysGoals_46 : decode cX9_laysGoals 46 = .ok (.getfield 59, 3) := by decide +kernel
theorem dX9_laysGoals_49 : decode cX9_laysGoals 49 = .ok (.aload_n 0, 1) := by decide +kernel
theorem dX9_laysGoals_50 : decode cX9_laysGoals 50 = .ok (.getfield 430, 3) := by decide +kernel
theorem dX9_laysGoals_53 : decode cX9_laysGoals 53 = .ok (.iload_n 3, 1) := by decide +kernel
theorem dX9_laysGoals_54 : decode cX9_laysGoals 54 = .ok (.iastore, 1) := by decide +kernel
theorem dX9_laysGoals_55 : decode cX9_laysGoals 55 = .ok (.aload_n 0, 1) := by decide +kernel
theorem dX9_laysGoals_56 : decode cX9_laysGoals 56 = .ok (.dup, 1) := by decide +kernel
theorem dX9_laysGoals_57 : decode cX9_laysGoals 57 = .ok (.getfield 430, 3) := by decide +kernel
theorem dX9_laysGoals_60 : decode cX9_laysGoals 60 = .ok (.iconst 1, 1) := by decide +kernel
theorem dX9_laysGoals_61 : decode cX9_laysGoals 61 = .ok (.iadd, 1) := by decide +kernel
theorem dX9_laysGoals_62 : decode cX9_laysGoals 62 = .ok (.putfield 430, 3) := by decide +kernel
theorem dX9_laysGoals_65 : decode cX9_laysGoals 65 = .ok (.iinc 3 1, 3) := by decide +kernel
theorem dX9_laysGoals_68 : decode cX9_laysGoals 68 = .ok (.goto (-61), 3) := by decide +kernel
theorem dX9_laysGoals_71 : decode cX9_laysGoals 71 = .ok (.iconst 1, 1) := by decide +kernel
theorem dX9_laysGoals_72 : decode cX9_laysGoals 72 = .ok (.ireturn, 1) := by decide +kernel
set_option maxRecDepth 20000 in
theorem vX9_laysGoals {g : zG} {d : Nat} {Q : Bool → zM → Prop} {M : zM} {l1 : Int64} (h : zW shM g (d + 1) mX9_laysGoals (zz Q) 7 [(0, .ref 0), (1, .long l1), (3, .int 0)] [] (zup M 0 38 0)) : zCz shM g (d + 1) mX9_laysGoals [.ref 0, .long l1] M Q := by
  refine zW.enter (by decide +kernel) (Nat.le_of_ble_eq_true rfl) ?_
  change zW shM g (d + 1) mX9_laysGoals (zz Q) 0 [(0, .ref 0), (1, .long l1)] [] M
  refine z_aload_n dX9_laysGoals_0 0 rfl ?_
  refine z_iconst (v := 0) dX9_laysGoals_1 (by decide) ?_
  refine z_puti shM_0 rfl fpX9_430 rfl rfl dX9_laysGoals_2 ?_
  refine z_iconst (v := 0) dX9_laysGoals_5 (by decide) ?_
  refine z_istore_n [(3, .int 0), (0, .ref 0), (1, .long l1)] dX9_laysGoals_6 (by decide) rfl ?_
  exact zW.sub [1, 2, 0] rfl h
set_option maxRecDepth 20000 in
theorem vX9_laysGoals_7 {g : zG} {d : Nat} {Q : Bool → zM → Prop} {M : zM} {l1 : Int64} {l3 : Int32} (h : (64 ≤ l3 → Q true M) ∧ (¬ 64 ≤ l3 → (¬ (lg_cmp ((l1 >>> ((l3 : Int32).toInt64 &&& 63)) &&& 1) 0) = 0 → zCz shM g d mX9_isCell [.ref 0, .int l3] M (fun b1 M1 => (b1 = false → Q false M1) ∧ (b1 = true → (¬ (M1 0 38) = 9 → ∃ k1 : Nat, (M1 0 38) = iv k1 ∧ k1 < 9 ∧ zW shM g (d + 1) mX9_laysGoals (zz Q) 7 [(0, .ref 0), (1, .long l1), (3, .int (l3 + 1))] [] (zup (zup M1 16 k1 l3) 0 38 (((zup M1 16 k1 l3) 0 38) + 1))) ∧ ((M1 0 38) = 9 → Q false M1)))) ∧ ((lg_cmp ((l1 >>> ((l3 : Int32).toInt64 &&& 63)) &&& 1) 0) = 0 → zW shM g (d + 1) mX9_laysGoals (zz Q) 7 [(0, .ref 0), (1, .long l1), (3, .int (l3 + 1))] [] M))) : zW shM g (d + 1) mX9_laysGoals (zz Q) 7 [(0, .ref 0), (1, .long l1), (3, .int l3)] [] M := by
  refine z_iload_n dX9_laysGoals_7 2 rfl ?_
  refine z_bipush (v := 64) dX9_laysGoals_8 (by decide) ?_
  refine z_icmp_ge 71 dX9_laysGoals_10 (by decide) (fun c1 => ?_) (fun c1 => ?_)
  · have h := h.1 c1
    refine z_iconst (v := 1) dX9_laysGoals_71 (by decide) ?_
    exact z_zret (b := true) rfl rfl dX9_laysGoals_72 h
  · have h := h.2 c1
    refine z_lload_n dX9_laysGoals_13 1 rfl ?_
    refine z_iload_n dX9_laysGoals_14 2 rfl ?_
    refine z_lshr dX9_laysGoals_15 ?_
    refine z_lconst (v := 1) dX9_laysGoals_16 (by decide) ?_
    refine z_land dX9_laysGoals_17 ?_
    refine z_lconst (v := 0) dX9_laysGoals_18 (by decide) ?_
    refine z_lcmp dX9_laysGoals_19 ?_
    refine z_if_ne 26 dX9_laysGoals_20 (by decide) (fun c2 => ?_) (fun c2 => ?_)
    · have h := h.1 c2
      refine z_aload_n dX9_laysGoals_26 0 rfl ?_
      refine z_iload_n dX9_laysGoals_27 2 rfl ?_
      refine z_callV (m2 := mX9_isCell) (st := []) [.int l3] okX9_isCell (Or.inl lkX9_105) shM_0 rfl rfl rfl (Nat.le_of_ble_eq_true rfl) dX9_laysGoals_28 (zgo_z h fun b1 M1 h => ?_)
      refine z_ifb_eq 43 dX9_laysGoals_31 (by decide) (fun c3 => ?_) (fun c3 => ?_)
      · have h := h.1 c3
        refine z_iconst (v := 0) dX9_laysGoals_43 (by decide) ?_
        exact z_zret (b := false) rfl rfl dX9_laysGoals_44 h
      · have h := h.2 c3
        refine z_aload_n dX9_laysGoals_34 0 rfl ?_
        refine z_geti shM_0 rfl flX9_430 dX9_laysGoals_35 ?_
        refine z_bipush (v := 9) dX9_laysGoals_38 (by decide) ?_
        refine z_icmp_ne 45 dX9_laysGoals_40 (by decide) (fun c4 => ?_) (fun c4 => ?_)
        · have h := h.1 c4
          refine z_aload_n dX9_laysGoals_45 0 rfl ?_
          refine z_getr shM_0 rfl flX9_59 dX9_laysGoals_46 ?_
          refine z_aload_n dX9_laysGoals_49 0 rfl ?_
          refine z_geti shM_0 rfl flX9_430 dX9_laysGoals_50 ?_
          refine z_iload_n dX9_laysGoals_53 2 rfl ?_
          obtain ⟨k1, ek1, uk1, h⟩ := h
          refine z_iast2 (k0 := k1) shM_16 (by decide) ek1 uk1 dX9_laysGoals_54 ?_
          refine z_aload_n dX9_laysGoals_55 0 rfl ?_
          refine z_dupr dX9_laysGoals_56 ?_
          refine z_geti shM_0 rfl flX9_430 dX9_laysGoals_57 ?_
          refine z_iconst (v := 1) dX9_laysGoals_60 (by decide) ?_
          refine z_iadd dX9_laysGoals_61 ?_
          refine z_puti shM_0 rfl fpX9_430 rfl rfl dX9_laysGoals_62 ?_
          refine z_iinc (x := l3) (v := (l3 + 1)) [(3, .int (l3 + 1)), (0, .ref 0), (1, .long l1)] dX9_laysGoals_65 2 rfl rfl (by decide) rfl ?_
          refine z_goto 7 dX9_laysGoals_68 (by decide) ?_
          exact zW.sub [1, 2, 0] rfl h
        · have h := h.2 c4
          refine z_iconst (v := 0) dX9_laysGoals_43 (by decide) ?_
          exact z_zret (b := false) rfl rfl dX9_laysGoals_44 h
    · have h := h.2 c2
      refine z_goto 65 dX9_laysGoals_23 (by decide) ?_
      refine z_iinc (x := l3) (v := (l3 + 1)) [(3, .int (l3 + 1)), (0, .ref 0), (1, .long l1)] dX9_laysGoals_65 2 rfl rfl (by decide) rfl ?_
      refine z_goto 7 dX9_laysGoals_68 (by decide) ?_
      exact zW.sub [1, 2, 0] rfl h
theorem dX9_apart_0 : decode cX9_apart 0 = .ok (.iload_n 0, 1) := by decide +kernel
theorem dX9_apart_1 : decode cX9_apart 1 = .ok (.bipush 8, 2) := by decide +kernel
theorem dX9_apart_3 : decode cX9_apart 3 = .ok (.irem, 1) := by decide +kernel
theorem dX9_apart_4 : decode cX9_apart 4 = .ok (.iload_n 1, 1) := by decide +kernel
theorem dX9_apart_5 : decode cX9_apart 5 = .ok (.bipush 8, 2) := by decide +kernel
theorem dX9_apart_7 : decode cX9_apart 7 = .ok (.irem, 1) := by decide +kernel
theorem dX9_apart_8 : decode cX9_apart 8 = .ok (.isub, 1) := by decide +kernel
theorem dX9_apart_9 : decode cX9_apart 9 = .ok (.istore_n 2, 1) := by decide +kernel
theorem dX9_apart_10 : decode cX9_apart 10 = .ok (.iload_n 0, 1) := by decide +kernel
theorem dX9_apart_11 : decode cX9_apart 11 = .ok (.bipush 8, 2) := by decide +kernel
theorem dX9_apart_13 : decode cX9_apart 13 = .ok (.idiv, 1) := by decide +kernel
theorem dX9_apart_14 : decode cX9_apart 14 = .ok (.iload_n 1, 1) := by decide +kernel
theorem dX9_apart_15 : decode cX9_apart 15 = .ok (.bipush 8, 2) := by decide +kernel
theorem dX9_apart_17 : decode cX9_apart 17 = .ok (.idiv, 1) := by decide +kernel
theorem dX9_apart_18 : decode cX9_apart 18 = .ok (.isub, 1) := by decide +kernel
theorem dX9_apart_19 : decode cX9_apart 19 = .ok (.istore_n 3, 1) := by decide +kernel
theorem dX9_apart_20 : decode cX9_apart 20 = .ok (.iload_n 2, 1) := by decide +kernel
theorem dX9_apart_21 : decode cX9_apart 21 = .ok (.ifCond .ge 8, 3) := by decide +kernel
theorem dX9_apart_24 : decode cX9_apart 24 = .ok (.iload_n 2, 1) := by decide +kernel
theorem dX9_apart_25 : decode cX9_apart 25 = .ok (.ineg, 1) := by decide +kernel
theorem dX9_apart_26 : decode cX9_apart 26 = .ok (.goto 4, 3) := by decide +kernel
theorem dX9_apart_29 : decode cX9_apart 29 = .ok (.iload_n 2, 1) := by decide +kernel
theorem dX9_apart_30 : decode cX9_apart 30 = .ok (.iload_n 3, 1) := by decide +kernel
theorem dX9_apart_31 : decode cX9_apart 31 = .ok (.ifCond .ge 8, 3) := by decide +kernel
theorem dX9_apart_34 : decode cX9_apart 34 = .ok (.iload_n 3, 1) := by decide +kernel
theorem dX9_apart_35 : decode cX9_apart 35 = .ok (.ineg, 1) := by decide +kernel
theorem dX9_apart_36 : decode cX9_apart 36 = .ok (.goto 4, 3) := by decide +kernel
theorem dX9_apart_39 : decode cX9_apart 39 = .ok (.iload_n 3, 1) := by decide +kernel
theorem dX9_apart_40 : decode cX9_apart 40 = .ok (.iadd, 1) := by decide +kernel
theorem dX9_apart_41 : decode cX9_apart 41 = .ok (.ireturn, 1) := by decide +kernel
set_option maxRecDepth 20000 in
theorem vX9_apart {g : zG} {d : Nat} {Q : Int32 → zM → Prop} {M : zM} {l0 : Int32} {l1 : Int32} (h : (0 ≤ ((l0 - l0 / 8 * 8) - (l1 - l1 / 8 * 8)) → (0 ≤ ((l0 / 8) - (l1 / 8)) → ∀ v1 : Int32, v1 = (((l0 - l0 / 8 * 8) - (l1 - l1 / 8 * 8)) + ((l0 / 8) - (l1 / 8))) → Q v1 M) ∧ (¬ 0 ≤ ((l0 / 8) - (l1 / 8)) → ∀ v1 : Int32, v1 = (((l0 - l0 / 8 * 8) - (l1 - l1 / 8 * 8)) + (-((l0 / 8) - (l1 / 8)))) → Q v1 M)) ∧ (¬ 0 ≤ ((l0 - l0 / 8 * 8) - (l1 - l1 / 8 * 8)) → (0 ≤ ((l0 / 8) - (l1 / 8)) → ∀ v1 : Int32, v1 = ((-((l0 - l0 / 8 * 8) - (l1 - l1 / 8 * 8))) + ((l0 / 8) - (l1 / 8))) → Q v1 M) ∧ (¬ 0 ≤ ((l0 / 8) - (l1 / 8)) → ∀ v1 : Int32, v1 = ((-((l0 - l0 / 8 * 8) - (l1 - l1 / 8 * 8))) + (-((l0 / 8) - (l1 / 8)))) → Q v1 M))) : zCi shM g d mX9_apart [.int l0, .int l1] M Q := by
  refine zW.enter (by decide +kernel) (Nat.le_of_ble_eq_true rfl) ?_
  change zW shM g d mX9_apart (zi Q) 0 [(0, .int l0), (1, .int l1)] [] M
  refine z_iload_n dX9_apart_0 0 rfl ?_
  refine z_bipush (v := 8) dX9_apart_1 (by decide) ?_
  refine z_irem dX9_apart_3 (by decide) ?_
  refine z_iload_n dX9_apart_4 1 rfl ?_
  refine z_bipush (v := 8) dX9_apart_5 (by decide) ?_
  refine z_irem dX9_apart_7 (by decide) ?_
  refine z_isub dX9_apart_8 ?_
  refine z_istore_n [(2, .int ((l0 - l0 / 8 * 8) - (l1 - l1 / 8 * 8))), (0, .int l0), (1, .int l1)] dX9_apart_9 (by decide) rfl ?_
  refine z_iload_n dX9_apart_10 1 rfl ?_
  refine z_bipush (v := 8) dX9_apart_11 (by decide) ?_
  refine z_idiv dX9_apart_13 (by decide) ?_
  refine z_iload_n dX9_apart_14 2 rfl ?_
  refine z_bipush (v := 8) dX9_apart_15 (by decide) ?_
  refine z_idiv dX9_apart_17 (by decide) ?_
  refine z_isub dX9_apart_18 ?_
  refine z_istore_n [(3, .int ((l0 / 8) - (l1 / 8))), (2, .int ((l0 - l0 / 8 * 8) - (l1 - l1 / 8 * 8))), (0, .int l0), (1, .int l1)] dX9_apart_19 (by decide) rfl ?_
  refine z_iload_n dX9_apart_20 1 rfl ?_
  refine z_if_ge 29 dX9_apart_21 (by decide) (fun c1 => ?_) (fun c1 => ?_)
  · have h := h.1 c1
    refine z_iload_n dX9_apart_29 1 rfl ?_
    refine z_iload_n dX9_apart_30 0 rfl ?_
    refine z_if_ge 39 dX9_apart_31 (by decide) (fun c2 => ?_) (fun c2 => ?_)
    · have h := h.1 c2
      refine z_iload_n dX9_apart_39 0 rfl ?_
      refine z_iadd dX9_apart_40 ?_
      obtain ⟨v1, ev1⟩ : ∃ y : Int32, y = (((l0 - l0 / 8 * 8) - (l1 - l1 / 8 * 8)) + ((l0 / 8) - (l1 / 8))) := ⟨_, rfl⟩
      refine z_topi v1 ev1 ?_
      have h := h v1 ev1
      exact z_iret (st := []) rfl rfl dX9_apart_41 ⟨_, rfl, h⟩
    · have h := h.2 c2
      refine z_iload_n dX9_apart_34 0 rfl ?_
      refine z_ineg dX9_apart_35 ?_
      refine z_goto 40 dX9_apart_36 (by decide) ?_
      refine z_iadd dX9_apart_40 ?_
      obtain ⟨v1, ev1⟩ : ∃ y : Int32, y = (((l0 - l0 / 8 * 8) - (l1 - l1 / 8 * 8)) + (-((l0 / 8) - (l1 / 8)))) := ⟨_, rfl⟩
      refine z_topi v1 ev1 ?_
      have h := h v1 ev1
      exact z_iret (st := []) rfl rfl dX9_apart_41 ⟨_, rfl, h⟩
  · have h := h.2 c1
    refine z_iload_n dX9_apart_24 1 rfl ?_
    refine z_ineg dX9_apart_25 ?_
    refine z_goto 30 dX9_apart_26 (by decide) ?_
    refine z_iload_n dX9_apart_30 0 rfl ?_
    refine z_if_ge 39 dX9_apart_31 (by decide) (fun c2 => ?_) (fun c2 => ?_)
    · have h := h.1 c2
      refine z_iload_n dX9_apart_39 0 rfl ?_
      refine z_iadd dX9_apart_40 ?_
      obtain ⟨v1, ev1⟩ : ∃ y : Int32, y = ((-((l0 - l0 / 8 * 8) - (l1 - l1 / 8 * 8))) + ((l0 / 8) - (l1 / 8))) := ⟨_, rfl⟩
      refine z_topi v1 ev1 ?_
      have h := h v1 ev1
      exact z_iret (st := []) rfl rfl dX9_apart_41 ⟨_, rfl, h⟩
    · have h := h.2 c2
      refine z_iload_n dX9_apart_34 0 rfl ?_
      refine z_ineg dX9_apart_35 ?_
      refine z_goto 40 dX9_apart_36 (by decide) ?_
      refine z_iadd dX9_apart_40 ?_
      obtain ⟨v1, ev1⟩ : ∃ y : Int32, y = ((-((l0 - l0 / 8 * 8) - (l1 - l1 / 8 * 8))) + (-((l0 / 8) - (l1 / 8)))) := ⟨_, rfl⟩
      refine z_topi v1 ev1 ?_
      have h := h v1 ev1
      exact z_iret (st := []) rfl rfl dX9_apart_41 ⟨_, rfl, h⟩
theorem dX9_all_0 : decode cX9_all 0 = .ok (.iconst 1, 1) := by decide +kernel
theorem dX9_all_1 : decode cX9_all 1 = .ok (.aload_n 0, 1) := by decide +kernel
theorem dX9_all_2 : decode cX9_all 2 = .ok (.getfield 430, 3) := by decide +kernel
theorem dX9_all_5 : decode cX9_all 5 = .ok (.ishl, 1) := by decide +kernel
theorem dX9_all_6 : decode cX9_all 6 = .ok (.iconst 1, 1) := by decide +kernel
theorem dX9_all_7 : decode cX9_all 7 = .ok (.isub, 1) := by decide +kernel
theorem dX9_all_8 : decode cX9_all 8 = .ok (.ireturn, 1) := by decide +kernel
set_option maxRecDepth 20000 in
theorem vX9_all {g : zG} {d : Nat} {Q : Int32 → zM → Prop} {M : zM} (h : Q ((1 <<< ((M 0 38) &&& 31)) - 1) M) : zCi shM g d mX9_all [.ref 0] M Q := by
  refine zW.enter (by decide +kernel) (Nat.le_of_ble_eq_true rfl) ?_
  change zW shM g d mX9_all (zi Q) 0 [(0, .ref 0)] [] M
  refine z_iconst (v := 1) dX9_all_0 (by decide) ?_
  refine z_aload_n dX9_all_1 0 rfl ?_
  refine z_geti shM_0 rfl flX9_430 dX9_all_2 ?_
  refine z_ishl dX9_all_5 ?_
  refine z_iconst (v := 1) dX9_all_6 (by decide) ?_
  refine z_isub dX9_all_7 ?_
  exact z_iret (st := []) rfl rfl dX9_all_8 ⟨_, rfl, h⟩
theorem dX9_laysRoutes_0 : decode cX9_laysRoutes 0 = .ok (.iconst 0, 1) := by decide +kernel
theorem dX9_laysRoutes_1 : decode cX9_laysRoutes 1 = .ok (.istore_n 2, 1) := by decide +kernel
theorem dX9_laysRoutes_2 : decode cX9_laysRoutes 2 = .ok (.iload_n 2, 1) := by decide +kernel
theorem dX9_laysRoutes_3 : decode cX9_laysRoutes 3 = .ok (.aload_n 0, 1) := by decide +kernel
theorem dX9_laysRoutes_4 : decode cX9_laysRoutes 4 = .ok (.invokevirtual 433, 3) := by decide +kernel
theorem dX9_laysRoutes_7 : decode cX9_laysRoutes 7 = .ok (.if_icmp .gt 66, 3) := by decide +kernel
theorem dX9_laysRoutes_10 : decode cX9_laysRoutes 10 = .ok (.iload_n 2, 1) := by decide +kernel
theorem dX9_laysRoutes_11 : decode cX9_laysRoutes 11 = .ok (.iload_n 1, 1) := by decide +kernel
theorem dX9_laysRoutes_12 : decode cX9_laysRoutes 12 = .ok (.iconst (-1), 1) := by decide +kernel
theorem dX9_laysRoutes_13 : decode cX9_laysRoutes 13 = .ok (.ixor, 1) := by decide +kernel
theorem dX9_laysRoutes_14 : decode cX9_laysRoutes 14 = .ok (.iand, 1) := by decide +kernel
theorem dX9_laysRoutes_15 : decode cX9_laysRoutes 15 = .ok (.ifCond .eq 6, 3) := by decide +kernel
theorem dX9_laysRoutes_18 : decode cX9_laysRoutes 18 = .ok (.goto 49, 3) := by decide +kernel
theorem dX9_laysRoutes_21 : decode cX9_laysRoutes 21 = .ok (.iconst 0, 1) := by decide +kernel
theorem dX9_laysRoutes_22 : decode cX9_laysRoutes 22 = .ok (.istore_n 3, 1) := by decide +kernel
theorem dX9_laysRoutes_23 : decode cX9_laysRoutes 23 = .ok (.iload_n 3, 1) := by decide +kernel
theorem dX9_laysRoutes_24 : decode cX9_laysRoutes 24 = .ok (.aload_n 0, 1) := by decide +kernel
theorem dX9_laysRoutes_25 : decode cX9_laysRoutes 25 = .ok (.getfield 430, 3) := by decide +kernel
theorem dX9_laysRoutes_28 : decode cX9_laysRoutes 28 = .ok (.if_icmp .ge 39, 3) := by decide +kernel
theorem dX9_laysRoutes_31 : decode cX9_laysRoutes 31 = .ok (.iload_n 2, 1) := by decide +kernel
theorem dX9_laysRoutes_32 : decode cX9_laysRoutes 32 = .ok (.iload_n 3, 1) := by decide +kernel
theorem dX9_laysRoutes_33 : decode cX9_laysRoutes 33 = .ok (.ishr, 1) := by decide +kernel
theorem dX9_laysRoutes_34 : decode cX9_laysRoutes 34 = .ok (.iconst 1, 1) := by decide +kernel
theorem dX9_laysRoutes_35 : decode cX9_laysRoutes 35 = .ok (.iand, 1) := by decide +kernel
theorem dX9_laysRoutes_36 : decode cX9_laysRoutes 36 = .ok (.ifCond .ne 25, 3) := by decide +kernel
theorem dX9_laysRoutes_39 : decode cX9_laysRoutes 39 = .ok (.aload_n 0, 1) := by decide +kernel
theorem dX9_laysRoutes_40 : decode cX9_laysRoutes 40 = .ok (.getfield 62, 3) := by decide +kernel
theorem dX9_laysRoutes_43 : decode cX9_laysRoutes 43 = .ok (.bipush 9, 2) := by decide +kernel
theorem dX9_laysRoutes_45 : decode cX9_laysRoutes 45 = .ok (.iload_n 2, 1) := by decide +kernel
theorem dX9_laysRoutes_46 : decode cX9_laysRoutes 46 = .ok (.imul, 1) := by decide +kernel
theorem dX9_laysRoutes_47 : decode cX9_laysRoutes 47 = .ok (.iload_n 3, 1) := by decide +kernel
theorem dX9_laysRoutes_48 : decode cX9_laysRoutes 48 = .ok (.iadd, 1) := by decide +kernel
theorem dX9_laysRoutes_49 : decode cX9_laysRoutes 49 = .ok (.aload_n 0, 1) := by decide +kernel
theorem dX9_laysRoutes_50 : decode cX9_laysRoutes 50 = .ok (.iload_n 2, 1) := by decide +kernel
theorem dX9_laysRoutes_51 : decode cX9_laysRoutes 51 = .ok (.aload_n 0, 1) := by decide +kernel
theorem dX9_laysRoutes_52 : decode cX9_laysRoutes 52 = .ok (.getfield 59, 3) := by decide +kernel
theorem dX9_laysRoutes_55 : decode cX9_laysRoutes 55 = .ok (.iload_n 3, 1) := by decide +kernel
theorem dX9_laysRoutes_56 : decode cX9_laysRoutes 56 = .ok (.iaload, 1) := by decide +kernel
theorem dX9_laysRoutes_57 : decode cX9_laysRoutes 57 = .ok (.invokevirtual 436, 3) := by decide +kernel
theorem dX9_laysRoutes_60 : decode cX9_laysRoutes 60 = .ok (.iastore, 1) := by decide +kernel
theorem dX9_laysRoutes_61 : decode cX9_laysRoutes 61 = .ok (.iinc 3 1, 3) := by decide +kernel
theorem dX9_laysRoutes_64 : decode cX9_laysRoutes 64 = .ok (.goto (-41), 3) := by decide +kernel
theorem dX9_laysRoutes_67 : decode cX9_laysRoutes 67 = .ok (.iinc 2 1, 3) := by decide +kernel
theorem dX9_laysRoutes_70 : decode cX9_laysRoutes 70 = .ok (.goto (-68), 3) := by decide +kernel
theorem dX9_laysRoutes_73 : decode cX9_laysRoutes 73 = .ok (.return_, 1) := by decide +kernel
set_option maxRecDepth 20000 in
theorem vX9_laysRoutes {g : zG} {d : Nat} {Q : zM → Prop} {M : zM} {l1 : Int32} (h : zW shM g (d + 1) mX9_laysRoutes (zv Q) 2 [(0, .ref 0), (1, .int l1), (2, .int 0)] [] M) : zCv shM g (d + 1) mX9_laysRoutes [.ref 0, .int l1] M Q := by
  refine zW.enter (by decide +kernel) (Nat.le_of_ble_eq_true rfl) ?_
  change zW shM g (d + 1) mX9_laysRoutes (zv Q) 0 [(0, .ref 0), (1, .int l1)] [] M
  refine z_iconst (v := 0) dX9_laysRoutes_0 (by decide) ?_
  refine z_istore_n [(2, .int 0), (0, .ref 0), (1, .int l1)] dX9_laysRoutes_1 (by decide) rfl ?_
  exact zW.sub [1, 2, 0] rfl h
set_option maxRecDepth 20000 in
theorem vX9_laysRoutes_2 {g : zG} {d : Nat} {Q : zM → Prop} {M : zM} {l1 : Int32} {l2 : Int32} (h : zCi shM g d mX9_all [.ref 0] M (fun x1 M1 => (x1 < l2 → Q M1) ∧ (¬ x1 < l2 → ((l2 &&& (l1 ^^^ (-1))) = 0 → zW shM g (d + 1) mX9_laysRoutes (zv Q) 23 [(0, .ref 0), (1, .int l1), (2, .int l2), (3, .int 0)] [] M1) ∧ (¬ (l2 &&& (l1 ^^^ (-1))) = 0 → zW shM g (d + 1) mX9_laysRoutes (zv Q) 2 [(0, .ref 0), (1, .int l1), (2, .int (l2 + 1))] [] M1)))) : zW shM g (d + 1) mX9_laysRoutes (zv Q) 2 [(0, .ref 0), (1, .int l1), (2, .int l2)] [] M := by
  refine z_iload_n dX9_laysRoutes_2 2 rfl ?_
  refine z_aload_n dX9_laysRoutes_3 0 rfl ?_
  refine z_callV (m2 := mX9_all) (st := [.int l2]) [] okX9_all (Or.inl lkX9_433) shM_0 rfl rfl rfl (Nat.le_of_ble_eq_true rfl) dX9_laysRoutes_4 (zgo_i h fun x1 M1 h => ?_)
  refine z_icmp_gt 73 dX9_laysRoutes_7 (by decide) (fun c1 => ?_) (fun c1 => ?_)
  · have h := h.1 c1
    exact z_vret (st := []) rfl dX9_laysRoutes_73 ⟨rfl, h⟩
  · have h := h.2 c1
    refine z_iload_n dX9_laysRoutes_10 2 rfl ?_
    refine z_iload_n dX9_laysRoutes_11 1 rfl ?_
    refine z_iconst (v := (-1)) dX9_laysRoutes_12 (by decide) ?_
    refine z_ixor dX9_laysRoutes_13 ?_
    refine z_iand dX9_laysRoutes_14 ?_
    refine z_if_eq 21 dX9_laysRoutes_15 (by decide) (fun c2 => ?_) (fun c2 => ?_)
    · have h := h.1 c2
      refine z_iconst (v := 0) dX9_laysRoutes_21 (by decide) ?_
      refine z_istore_n [(3, .int 0), (0, .ref 0), (1, .int l1), (2, .int l2)] dX9_laysRoutes_22 (by decide) rfl ?_
      exact zW.sub [1, 2, 3, 0] rfl h
    · have h := h.2 c2
      refine z_goto 67 dX9_laysRoutes_18 (by decide) ?_
      refine z_iinc (x := l2) (v := (l2 + 1)) [(2, .int (l2 + 1)), (0, .ref 0), (1, .int l1)] dX9_laysRoutes_67 2 rfl rfl (by decide) rfl ?_
      refine z_goto 2 dX9_laysRoutes_70 (by decide) ?_
      exact zW.sub [1, 2, 0] rfl h
set_option maxRecDepth 20000 in
theorem vX9_laysRoutes_23 {g : zG} {d : Nat} {Q : zM → Prop} {M : zM} {l1 : Int32} {l2 : Int32} {l3 : Int32} (h : ((M 0 38) ≤ l3 → zW shM g (d + 1) mX9_laysRoutes (zv Q) 2 [(0, .ref 0), (1, .int l1), (2, .int (l2 + 1))] [] M) ∧ (¬ (M 0 38) ≤ l3 → (¬ ((l2 >>> (l3 &&& 31)) &&& 1) = 0 → zW shM g (d + 1) mX9_laysRoutes (zv Q) 23 [(0, .ref 0), (1, .int l1), (2, .int l2), (3, .int (l3 + 1))] [] M) ∧ (((l2 >>> (l3 &&& 31)) &&& 1) = 0 → ∃ k1 : Nat, l3 = iv k1 ∧ k1 < 9 ∧ zCi shM g d mX9_leastOver [.ref 0, .int l2, .int (M 16 k1)] M (fun x1 M1 => ∃ k2 : Nat, (((9 : Int32) * l2) + l3) = iv k2 ∧ k2 < 4608 ∧ zW shM g (d + 1) mX9_laysRoutes (zv Q) 23 [(0, .ref 0), (1, .int l1), (2, .int l2), (3, .int (l3 + 1))] [] (zup M1 17 k2 x1))))) : zW shM g (d + 1) mX9_laysRoutes (zv Q) 23 [(0, .ref 0), (1, .int l1), (2, .int l2), (3, .int l3)] [] M := by
  refine z_iload_n dX9_laysRoutes_23 3 rfl ?_
  refine z_aload_n dX9_laysRoutes_24 0 rfl ?_
  refine z_geti shM_0 rfl flX9_430 dX9_laysRoutes_25 ?_
  refine z_icmp_ge 67 dX9_laysRoutes_28 (by decide) (fun c1 => ?_) (fun c1 => ?_)
  · have h := h.1 c1
    refine z_iinc (x := l2) (v := (l2 + 1)) [(2, .int (l2 + 1)), (0, .ref 0), (1, .int l1), (3, .int l3)] dX9_laysRoutes_67 2 rfl rfl (by decide) rfl ?_
    refine z_goto 2 dX9_laysRoutes_70 (by decide) ?_
    exact zW.sub [1, 2, 0] rfl h
  · have h := h.2 c1
    refine z_iload_n dX9_laysRoutes_31 2 rfl ?_
    refine z_iload_n dX9_laysRoutes_32 3 rfl ?_
    refine z_ishr dX9_laysRoutes_33 ?_
    refine z_iconst (v := 1) dX9_laysRoutes_34 (by decide) ?_
    refine z_iand dX9_laysRoutes_35 ?_
    refine z_if_ne 61 dX9_laysRoutes_36 (by decide) (fun c2 => ?_) (fun c2 => ?_)
    · have h := h.1 c2
      refine z_iinc (x := l3) (v := (l3 + 1)) [(3, .int (l3 + 1)), (0, .ref 0), (1, .int l1), (2, .int l2)] dX9_laysRoutes_61 3 rfl rfl (by decide) rfl ?_
      refine z_goto 23 dX9_laysRoutes_64 (by decide) ?_
      exact zW.sub [1, 2, 3, 0] rfl h
    · have h := h.2 c2
      refine z_aload_n dX9_laysRoutes_39 0 rfl ?_
      refine z_getr shM_0 rfl flX9_62 dX9_laysRoutes_40 ?_
      refine z_bipush (v := 9) dX9_laysRoutes_43 (by decide) ?_
      refine z_iload_n dX9_laysRoutes_45 2 rfl ?_
      refine z_imul dX9_laysRoutes_46 ?_
      refine z_iload_n dX9_laysRoutes_47 3 rfl ?_
      refine z_iadd dX9_laysRoutes_48 ?_
      refine z_aload_n dX9_laysRoutes_49 0 rfl ?_
      refine z_iload_n dX9_laysRoutes_50 2 rfl ?_
      refine z_aload_n dX9_laysRoutes_51 0 rfl ?_
      refine z_getr shM_0 rfl flX9_59 dX9_laysRoutes_52 ?_
      refine z_iload_n dX9_laysRoutes_55 3 rfl ?_
      obtain ⟨k1, ek1, uk1, h⟩ := h
      refine z_iald2 (k0 := k1) shM_16 (by decide) ek1 uk1 dX9_laysRoutes_56 ?_
      refine z_callV (m2 := mX9_leastOver) (st := [.int (((9 : Int32) * l2) + l3), .ref 17]) [.int l2, .int (M 16 k1)] okX9_leastOver (Or.inl lkX9_436) shM_0 rfl rfl rfl (Nat.le_of_ble_eq_true rfl) dX9_laysRoutes_57 (zgo_i h fun x1 M1 h => ?_)
      obtain ⟨k2, ek2, uk2, h⟩ := h
      refine z_iast2 (k0 := k2) shM_17 (by decide) ek2 uk2 dX9_laysRoutes_60 ?_
      refine z_iinc (x := l3) (v := (l3 + 1)) [(3, .int (l3 + 1)), (0, .ref 0), (1, .int l1), (2, .int l2)] dX9_laysRoutes_61 3 rfl rfl (by decide) rfl ?_
      refine z_goto 23 dX9_laysRoutes_64 (by decide) ?_
      exact zW.sub [1, 2, 3, 0] rfl h
theorem dX9_leastOver_0 : decode cX9_leastOver 0 = .ok (.iload_n 1, 1) := by decide +kernel
theorem dX9_leastOver_1 : decode cX9_leastOver 1 = .ok (.ifCond .ne 7, 3) := by decide +kernel
theorem dX9_leastOver_4 : decode cX9_leastOver 4 = .ok (.iconst 0, 1) := by decide +kernel
theorem dX9_leastOver_5 : decode cX9_leastOver 5 = .ok (.goto 6, 3) := by decide +kernel
theorem dX9_leastOver_8 : decode cX9_leastOver 8 = .ok (.ldc_w 439, 3) := by decide +kernel
theorem dX9_leastOver_11 : decode cX9_leastOver 11 = .ok (.istore_n 3, 1) := by decide +kernel
theorem dX9_leastOver_12 : decode cX9_leastOver 12 = .ok (.iconst 0, 1) := by decide +kernel
theorem dX9_leastOver_13 : decode cX9_leastOver 13 = .ok (.istore 4, 2) := by decide +kernel
theorem dX9_leastOver_15 : decode cX9_leastOver 15 = .ok (.iload 4, 2) := by decide +kernel
theorem dX9_leastOver_17 : decode cX9_leastOver 17 = .ok (.aload_n 0, 1) := by decide +kernel
theorem dX9_leastOver_18 : decode cX9_leastOver 18 = .ok (.getfield 430, 3) := by decide +kernel
theorem dX9_leastOver_21 : decode cX9_leastOver 21 = .ok (.if_icmp .ge 55, 3) := by decide +kernel
theorem dX9_leastOver_24 : decode cX9_leastOver 24 = .ok (.iload_n 1, 1) := by decide +kernel
theorem dX9_leastOver_25 : decode cX9_leastOver 25 = .ok (.iload 4, 2) := by decide +kernel
theorem dX9_leastOver_27 : decode cX9_leastOver 27 = .ok (.ishr, 1) := by decide +kernel
theorem dX9_leastOver_28 : decode cX9_leastOver 28 = .ok (.iconst 1, 1) := by decide +kernel
theorem dX9_leastOver_29 : decode cX9_leastOver 29 = .ok (.iand, 1) := by decide +kernel
theorem dX9_leastOver_30 : decode cX9_leastOver 30 = .ok (.iconst 1, 1) := by decide +kernel
theorem dX9_leastOver_31 : decode cX9_leastOver 31 = .ok (.if_icmp .ne 39, 3) := by decide +kernel
theorem dX9_leastOver_34 : decode cX9_leastOver 34 = .ok (.iload_n 3, 1) := by decide +kernel
theorem dX9_leastOver_35 : decode cX9_leastOver 35 = .ok (.iload_n 2, 1) := by decide +kernel
theorem dX9_leastOver_36 : decode cX9_leastOver 36 = .ok (.aload_n 0, 1) := by decide +kernel
theorem dX9_leastOver_37 : decode cX9_leastOver 37 = .ok (.getfield 59, 3) := by decide +kernel
theorem dX9_leastOver_40 : decode cX9_leastOver 40 = .ok (.iload 4, 2) := by decide +kernel
theorem dX9_leastOver_42 : decode cX9_leastOver 42 = .ok (.iaload, 1) := by decide +kernel
theorem dX9_leastOver_43 : decode cX9_leastOver 43 = .ok (.invokestatic 440, 3) := by decide +kernel
theorem dX9_leastOver_46 : decode cX9_leastOver 46 = .ok (.aload_n 0, 1) := by decide +kernel
theorem dX9_leastOver_47 : decode cX9_leastOver 47 = .ok (.getfield 62, 3) := by decide +kernel
theorem dX9_leastOver_50 : decode cX9_leastOver 50 = .ok (.bipush 9, 2) := by decide +kernel
theorem dX9_leastOver_52 : decode cX9_leastOver 52 = .ok (.iload_n 1, 1) := by decide +kernel
theorem dX9_leastOver_53 : decode cX9_leastOver 53 = .ok (.iconst 1, 1) := by decide +kernel
theorem dX9_leastOver_54 : decode cX9_leastOver 54 = .ok (.iload 4, 2) := by decide +kernel
theorem dX9_leastOver_56 : decode cX9_leastOver 56 = .ok (.ishl, 1) := by decide +kernel
theorem dX9_leastOver_57 : decode cX9_leastOver 57 = .ok (.iconst (-1), 1) := by decide +kernel
theorem dX9_leastOver_58 : decode cX9_leastOver 58 = .ok (.ixor, 1) := by decide +kernel
theorem dX9_leastOver_59 : decode cX9_leastOver 59 = .ok (.iand, 1) := by decide +kernel
theorem dX9_leastOver_60 : decode cX9_leastOver 60 = .ok (.imul, 1) := by decide +kernel
theorem dX9_leastOver_61 : decode cX9_leastOver 61 = .ok (.iload 4, 2) := by decide +kernel
theorem dX9_leastOver_63 : decode cX9_leastOver 63 = .ok (.iadd, 1) := by decide +kernel
theorem dX9_leastOver_64 : decode cX9_leastOver 64 = .ok (.iaload, 1) := by decide +kernel
theorem dX9_leastOver_65 : decode cX9_leastOver 65 = .ok (.iadd, 1) := by decide +kernel
theorem dX9_leastOver_66 : decode cX9_leastOver 66 = .ok (.invokestatic 340, 3) := by decide +kernel
theorem dX9_leastOver_69 : decode cX9_leastOver 69 = .ok (.istore_n 3, 1) := by decide +kernel
theorem dX9_leastOver_70 : decode cX9_leastOver 70 = .ok (.iinc 4 1, 3) := by decide +kernel
theorem dX9_leastOver_73 : decode cX9_leastOver 73 = .ok (.goto (-58), 3) := by decide +kernel
theorem dX9_leastOver_76 : decode cX9_leastOver 76 = .ok (.iload_n 3, 1) := by decide +kernel
theorem dX9_leastOver_77 : decode cX9_leastOver 77 = .ok (.ireturn, 1) := by decide +kernel
set_option maxRecDepth 20000 in
theorem vX9_leastOver {g : zG} {d : Nat} {Q : Int32 → zM → Prop} {M : zM} {l1 : Int32} {l2 : Int32} (h : (¬ l1 = 0 → zW shM g (d + 1) mX9_leastOver (zi Q) 15 [(0, .ref 0), (1, .int l1), (2, .int l2), (3, .int 100000), (4, .int 0)] [] M) ∧ (l1 = 0 → zW shM g (d + 1) mX9_leastOver (zi Q) 15 [(0, .ref 0), (1, .int l1), (2, .int l2), (3, .int 0), (4, .int 0)] [] M)) : zCi shM g (d + 1) mX9_leastOver [.ref 0, .int l1, .int l2] M Q := by
  refine zW.enter (by decide +kernel) (Nat.le_of_ble_eq_true rfl) ?_
  change zW shM g (d + 1) mX9_leastOver (zi Q) 0 [(0, .ref 0), (1, .int l1), (2, .int l2)] [] M
  refine z_iload_n dX9_leastOver_0 1 rfl ?_
  refine z_if_ne 8 dX9_leastOver_1 (by decide) (fun c1 => ?_) (fun c1 => ?_)
  · have h := h.1 c1
    refine z_ldcw dX9_leastOver_8 kcX9_439 ?_
    refine z_istore_n [(3, .int 100000), (0, .ref 0), (1, .int l1), (2, .int l2)] dX9_leastOver_11 (by decide) rfl ?_
    refine z_iconst (v := 0) dX9_leastOver_12 (by decide) ?_
    refine z_istore [(4, .int 0), (3, .int 100000), (0, .ref 0), (1, .int l1), (2, .int l2)] dX9_leastOver_13 (by decide) rfl ?_
    exact zW.sub [2, 3, 4, 1, 0] rfl h
  · have h := h.2 c1
    refine z_iconst (v := 0) dX9_leastOver_4 (by decide) ?_
    refine z_goto 11 dX9_leastOver_5 (by decide) ?_
    refine z_istore_n [(3, .int 0), (0, .ref 0), (1, .int l1), (2, .int l2)] dX9_leastOver_11 (by decide) rfl ?_
    refine z_iconst (v := 0) dX9_leastOver_12 (by decide) ?_
    refine z_istore [(4, .int 0), (3, .int 0), (0, .ref 0), (1, .int l1), (2, .int l2)] dX9_leastOver_13 (by decide) rfl ?_
    exact zW.sub [2, 3, 4, 1, 0] rfl h
set_option maxRecDepth 20000 in
theorem vX9_leastOver_15 {g : zG} {d : Nat} {Q : Int32 → zM → Prop} {M : zM} {l1 : Int32} {l2 : Int32} {l3 : Int32} {l4 : Int32} (h : ((M 0 38) ≤ l4 → Q l3 M) ∧ (¬ (M 0 38) ≤ l4 → (¬ ((l1 >>> (l4 &&& 31)) &&& 1) = 1 → zW shM g (d + 1) mX9_leastOver (zi Q) 15 [(0, .ref 0), (1, .int l1), (2, .int l2), (3, .int l3), (4, .int (l4 + 1))] [] M) ∧ (((l1 >>> (l4 &&& 31)) &&& 1) = 1 → ∃ k1 : Nat, l4 = iv k1 ∧ k1 < 9 ∧ zCi shM g d mX9_apart [.int l2, .int (M 16 k1)] M (fun x1 M1 => ∀ v1 : Int32, v1 = (((9 : Int32) * (l1 &&& ((1 <<< (l4 &&& 31)) ^^^ (-1)))) + l4) → ∃ k2 : Nat, v1 = iv k2 ∧ k2 < 4608 ∧ zCi shM g d mX9_lesser [.int l3, .int (x1 + (M1 17 k2))] M1 (fun x2 M2 => zW shM g (d + 1) mX9_leastOver (zi Q) 15 [(0, .ref 0), (1, .int l1), (2, .int l2), (3, .int x2), (4, .int (l4 + 1))] [] M2))))) : zW shM g (d + 1) mX9_leastOver (zi Q) 15 [(0, .ref 0), (1, .int l1), (2, .int l2), (3, .int l3), (4, .int l4)] [] M := by
  refine z_iload dX9_leastOver_15 4 rfl ?_
  refine z_aload_n dX9_leastOver_17 0 rfl ?_
  refine z_geti shM_0 rfl flX9_430 dX9_leastOver_18 ?_
  refine z_icmp_ge 76 dX9_leastOver_21 (by decide) (fun c1 => ?_) (fun c1 => ?_)
  · have h := h.1 c1
    refine z_iload_n dX9_leastOver_76 3 rfl ?_
    exact z_iret (st := []) rfl rfl dX9_leastOver_77 ⟨_, rfl, h⟩
  · have h := h.2 c1
    refine z_iload_n dX9_leastOver_24 1 rfl ?_
    refine z_iload dX9_leastOver_25 4 rfl ?_
    refine z_ishr dX9_leastOver_27 ?_
    refine z_iconst (v := 1) dX9_leastOver_28 (by decide) ?_
    refine z_iand dX9_leastOver_29 ?_
    refine z_iconst (v := 1) dX9_leastOver_30 (by decide) ?_
    refine z_icmp_ne 70 dX9_leastOver_31 (by decide) (fun c2 => ?_) (fun c2 => ?_)
    · have h := h.1 c2
      refine z_iinc (x := l4) (v := (l4 + 1)) [(4, .int (l4 + 1)), (0, .ref 0), (1, .int l1), (2, .int l2), (3, .int l3)] dX9_leastOver_70 4 rfl rfl (by decide) rfl ?_
      refine z_goto 15 dX9_leastOver_73 (by decide) ?_
      exact zW.sub [1, 2, 3, 4, 0] rfl h
    · have h := h.2 c2
      refine z_iload_n dX9_leastOver_34 3 rfl ?_
      refine z_iload_n dX9_leastOver_35 2 rfl ?_
      refine z_aload_n dX9_leastOver_36 0 rfl ?_
      refine z_getr shM_0 rfl flX9_59 dX9_leastOver_37 ?_
      refine z_iload dX9_leastOver_40 4 rfl ?_
      obtain ⟨k1, ek1, uk1, h⟩ := h
      refine z_iald2 (k0 := k1) shM_16 (by decide) ek1 uk1 dX9_leastOver_42 ?_
      refine z_callS (m2 := mX9_apart) (st := [.int l3]) [.int l2, .int (M 16 k1)] okX9_apart (Or.inl lkX9_440) rfl rfl (Nat.le_of_ble_eq_true rfl) dX9_leastOver_43 (zgo_i h fun x1 M1 h => ?_)
      refine z_aload_n dX9_leastOver_46 0 rfl ?_
      refine z_getr shM_0 rfl flX9_62 dX9_leastOver_47 ?_
      refine z_bipush (v := 9) dX9_leastOver_50 (by decide) ?_
      refine z_iload_n dX9_leastOver_52 1 rfl ?_
      refine z_iconst (v := 1) dX9_leastOver_53 (by decide) ?_
      refine z_iload dX9_leastOver_54 4 rfl ?_
      refine z_ishl dX9_leastOver_56 ?_
      refine z_iconst (v := (-1)) dX9_leastOver_57 (by decide) ?_
      refine z_ixor dX9_leastOver_58 ?_
      refine z_iand dX9_leastOver_59 ?_
      refine z_imul dX9_leastOver_60 ?_
      refine z_iload dX9_leastOver_61 4 rfl ?_
      refine z_iadd dX9_leastOver_63 ?_
      obtain ⟨v1, ev1⟩ : ∃ y : Int32, y = (((9 : Int32) * (l1 &&& ((1 <<< (l4 &&& 31)) ^^^ (-1)))) + l4) := ⟨_, rfl⟩
      refine z_topi v1 ev1 ?_
      have h := h v1 ev1
      obtain ⟨k2, ek2, uk2, h⟩ := h
      refine z_iald2 (k0 := k2) shM_17 (by decide) ek2 uk2 dX9_leastOver_64 ?_
      refine z_iadd dX9_leastOver_65 ?_
      refine z_callS (m2 := mX9_lesser) (st := []) [.int l3, .int (x1 + (M1 17 k2))] okX9_lesser (Or.inl lkX9_340) rfl rfl (Nat.le_of_ble_eq_true rfl) dX9_leastOver_66 (zgo_i h fun x2 M2 h => ?_)
      refine z_istore_n [(3, .int x2), (0, .ref 0), (1, .int l1), (2, .int l2), (4, .int l4)] dX9_leastOver_69 (by decide) rfl ?_
      refine z_iinc (x := l4) (v := (l4 + 1)) [(4, .int (l4 + 1)), (3, .int x2), (0, .ref 0), (1, .int l1), (2, .int l2)] dX9_leastOver_70 4 rfl rfl (by decide) rfl ?_
      refine z_goto 15 dX9_leastOver_73 (by decide) ?_
      exact zW.sub [2, 3, 4, 1, 0] rfl h
theorem dX9_route_0 : decode cX9_route 0 = .ok (.aload_n 0, 1) := by decide +kernel
theorem dX9_route_1 : decode cX9_route 1 = .ok (.iload_n 1, 1) := by decide +kernel
theorem dX9_route_2 : decode cX9_route 2 = .ok (.invokevirtual 114, 3) := by decide +kernel
theorem dX9_route_5 : decode cX9_route 5 = .ok (.ifCond .eq 33, 3) := by decide +kernel
theorem dX9_route_8 : decode cX9_route 8 = .ok (.aload_n 0, 1) := by decide +kernel
theorem dX9_route_9 : decode cX9_route 9 = .ok (.lload_n 2, 1) := by decide +kernel
theorem dX9_route_10 : decode cX9_route 10 = .ok (.invokevirtual 443, 3) := by decide +kernel
theorem dX9_route_13 : decode cX9_route 13 = .ok (.ifCond .eq 25, 3) := by decide +kernel
theorem dX9_route_16 : decode cX9_route 16 = .ok (.iload 4, 2) := by decide +kernel
theorem dX9_route_18 : decode cX9_route 18 = .ok (.ifCond .eq 22, 3) := by decide +kernel
theorem dX9_route_21 : decode cX9_route 21 = .ok (.iload 4, 2) := by decide +kernel
theorem dX9_route_23 : decode cX9_route 23 = .ok (.bipush 10, 2) := by decide +kernel
theorem dX9_route_25 : decode cX9_route 25 = .ok (.bipush 9, 2) := by decide +kernel
theorem dX9_route_27 : decode cX9_route 27 = .ok (.aload_n 0, 1) := by decide +kernel
theorem dX9_route_28 : decode cX9_route 28 = .ok (.getfield 430, 3) := by decide +kernel
theorem dX9_route_31 : decode cX9_route 31 = .ok (.iadd, 1) := by decide +kernel
theorem dX9_route_32 : decode cX9_route 32 = .ok (.invokestatic 97, 3) := by decide +kernel
theorem dX9_route_35 : decode cX9_route 35 = .ok (.ifCond .ne 5, 3) := by decide +kernel
theorem dX9_route_38 : decode cX9_route 38 = .ok (.iconst (-1), 1) := by decide +kernel
theorem dX9_route_39 : decode cX9_route 39 = .ok (.ireturn, 1) := by decide +kernel
theorem dX9_route_40 : decode cX9_route 40 = .ok (.aload_n 0, 1) := by decide +kernel
theorem dX9_route_41 : decode cX9_route 41 = .ok (.aload_n 0, 1) := by decide +kernel
theorem dX9_route_42 : decode cX9_route 42 = .ok (.invokevirtual 433, 3) := by decide +kernel
theorem dX9_route_45 : decode cX9_route 45 = .ok (.invokevirtual 447, 3) := by decide +kernel
theorem dX9_route_48 : decode cX9_route 48 = .ok (.aload_n 0, 1) := by decide +kernel
theorem dX9_route_49 : decode cX9_route 49 = .ok (.invokevirtual 433, 3) := by decide +kernel
theorem dX9_route_52 : decode cX9_route 52 = .ok (.istore 5, 2) := by decide +kernel
theorem dX9_route_54 : decode cX9_route 54 = .ok (.aload_n 0, 1) := by decide +kernel
theorem dX9_route_55 : decode cX9_route 55 = .ok (.getfield 7, 3) := by decide +kernel
theorem dX9_route_58 : decode cX9_route 58 = .ok (.iconst 3, 1) := by decide +kernel
theorem dX9_route_59 : decode cX9_route 59 = .ok (.iload_n 1, 1) := by decide +kernel
theorem dX9_route_60 : decode cX9_route 60 = .ok (.iadd, 1) := by decide +kernel
theorem dX9_route_61 : decode cX9_route 61 = .ok (.iaload, 1) := by decide +kernel
theorem dX9_route_62 : decode cX9_route 62 = .ok (.istore 6, 2) := by decide +kernel
theorem dX9_route_64 : decode cX9_route 64 = .ok (.iload 4, 2) := by decide +kernel
theorem dX9_route_66 : decode cX9_route 66 = .ok (.ifCond .ne 12, 3) := by decide +kernel
theorem dX9_route_69 : decode cX9_route 69 = .ok (.aload_n 0, 1) := by decide +kernel
theorem dX9_route_70 : decode cX9_route 70 = .ok (.iload 5, 2) := by decide +kernel
theorem dX9_route_72 : decode cX9_route 72 = .ok (.iload 6, 2) := by decide +kernel
theorem dX9_route_74 : decode cX9_route 74 = .ok (.invokevirtual 436, 3) := by decide +kernel
theorem dX9_route_77 : decode cX9_route 77 = .ok (.ireturn, 1) := by decide +kernel
theorem dX9_route_78 : decode cX9_route 78 = .ok (.bipush 10, 2) := by decide +kernel
theorem dX9_route_80 : decode cX9_route 80 = .ok (.istore 7, 2) := by decide +kernel
theorem dX9_route_82 : decode cX9_route 82 = .ok (.iload 7, 2) := by decide +kernel
theorem dX9_route_84 : decode cX9_route 84 = .ok (.iload 4, 2) := by decide +kernel
theorem dX9_route_86 : decode cX9_route 86 = .ok (.if_icmp .gt 92, 3) := by decide +kernel
theorem dX9_route_89 : decode cX9_route 89 = .ok (.iconst 0, 1) := by decide +kernel
theorem dX9_route_90 : decode cX9_route 90 = .ok (.istore 8, 2) := by decide +kernel
theorem dX9_route_92 : decode cX9_route 92 = .ok (.iload 5, 2) := by decide +kernel
theorem dX9_route_94 : decode cX9_route 94 = .ok (.iload 8, 2) := by decide +kernel
theorem dX9_route_96 : decode cX9_route 96 = .ok (.ishr, 1) := by decide +kernel
theorem dX9_route_97 : decode cX9_route 97 = .ok (.iconst 1, 1) := by decide +kernel
theorem dX9_route_98 : decode cX9_route 98 = .ok (.iand, 1) := by decide +kernel
theorem dX9_route_99 : decode cX9_route 99 = .ok (.ifCond .eq 47, 3) := by decide +kernel
theorem dX9_route_102 : decode cX9_route 102 = .ok (.iload 6, 2) := by decide +kernel
theorem dX9_route_104 : decode cX9_route 104 = .ok (.aload_n 0, 1) := by decide +kernel
theorem dX9_route_105 : decode cX9_route 105 = .ok (.getfield 59, 3) := by decide +kernel
theorem dX9_route_108 : decode cX9_route 108 = .ok (.iload 8, 2) := by decide +kernel
theorem dX9_route_110 : decode cX9_route 110 = .ok (.iaload, 1) := by decide +kernel
theorem dX9_route_111 : decode cX9_route 111 = .ok (.invokestatic 440, 3) := by decide +kernel
theorem dX9_route_114 : decode cX9_route 114 = .ok (.aload_n 0, 1) := by decide +kernel
theorem dX9_route_115 : decode cX9_route 115 = .ok (.getfield 62, 3) := by decide +kernel
theorem dX9_route_118 : decode cX9_route 118 = .ok (.bipush 9, 2) := by decide +kernel
theorem dX9_route_120 : decode cX9_route 120 = .ok (.iload 5, 2) := by decide +kernel
theorem dX9_route_122 : decode cX9_route 122 = .ok (.iconst 1, 1) := by decide +kernel
theorem dX9_route_123 : decode cX9_route 123 = .ok (.iload 8, 2) := by decide +kernel
theorem dX9_route_125 : decode cX9_route 125 = .ok (.ishl, 1) := by decide +kernel
theorem dX9_route_126 : decode cX9_route 126 = .ok (.iconst (-1), 1) := by decide +kernel
theorem dX9_route_127 : decode cX9_route 127 = .ok (.ixor, 1) := by decide +kernel
theorem dX9_route_128 : decode cX9_route 128 = .ok (.iand, 1) := by decide +kernel
theorem dX9_route_129 : decode cX9_route 129 = .ok (.imul, 1) := by decide +kernel
theorem dX9_route_130 : decode cX9_route 130 = .ok (.iload 8, 2) := by decide +kernel
theorem dX9_route_132 : decode cX9_route 132 = .ok (.iadd, 1) := by decide +kernel
theorem dX9_route_133 : decode cX9_route 133 = .ok (.iaload, 1) := by decide +kernel
theorem dX9_route_134 : decode cX9_route 134 = .ok (.iadd, 1) := by decide +kernel
theorem dX9_route_135 : decode cX9_route 135 = .ok (.aload_n 0, 1) := by decide +kernel
theorem dX9_route_136 : decode cX9_route 136 = .ok (.iload 5, 2) := by decide +kernel
theorem dX9_route_138 : decode cX9_route 138 = .ok (.iload 6, 2) := by decide +kernel
theorem dX9_route_140 : decode cX9_route 140 = .ok (.invokevirtual 436, 3) := by decide +kernel
theorem dX9_route_143 : decode cX9_route 143 = .ok (.if_icmp .eq 9, 3) := by decide +kernel
theorem dX9_route_146 : decode cX9_route 146 = .ok (.iinc 8 1, 3) := by decide +kernel
theorem dX9_route_149 : decode cX9_route 149 = .ok (.goto (-57), 3) := by decide +kernel
theorem dX9_route_152 : decode cX9_route 152 = .ok (.iload 5, 2) := by decide +kernel
theorem dX9_route_154 : decode cX9_route 154 = .ok (.iconst 1, 1) := by decide +kernel
theorem dX9_route_155 : decode cX9_route 155 = .ok (.iload 8, 2) := by decide +kernel
theorem dX9_route_157 : decode cX9_route 157 = .ok (.ishl, 1) := by decide +kernel
theorem dX9_route_158 : decode cX9_route 158 = .ok (.iconst (-1), 1) := by decide +kernel
theorem dX9_route_159 : decode cX9_route 159 = .ok (.ixor, 1) := by decide +kernel
theorem dX9_route_160 : decode cX9_route 160 = .ok (.iand, 1) := by decide +kernel
theorem dX9_route_161 : decode cX9_route 161 = .ok (.istore 5, 2) := by decide +kernel
theorem dX9_route_163 : decode cX9_route 163 = .ok (.aload_n 0, 1) := by decide +kernel
theorem dX9_route_164 : decode cX9_route 164 = .ok (.getfield 59, 3) := by decide +kernel
theorem dX9_route_167 : decode cX9_route 167 = .ok (.iload 8, 2) := by decide +kernel
theorem dX9_route_169 : decode cX9_route 169 = .ok (.iaload, 1) := by decide +kernel
theorem dX9_route_170 : decode cX9_route 170 = .ok (.istore 6, 2) := by decide +kernel
theorem dX9_route_172 : decode cX9_route 172 = .ok (.iinc 7 1, 3) := by decide +kernel
theorem dX9_route_175 : decode cX9_route 175 = .ok (.goto (-93), 3) := by decide +kernel
theorem dX9_route_178 : decode cX9_route 178 = .ok (.iload 6, 2) := by decide +kernel
theorem dX9_route_180 : decode cX9_route 180 = .ok (.ireturn, 1) := by decide +kernel
set_option maxRecDepth 20000 in
theorem vX9_route {g : zG} {d : Nat} {Q : Int32 → zM → Prop} {M : zM} {l1 : Int32} {l2 : Int64} {l4 : Int32} (h : zCz shM g d mX9_isSkater [.ref 0, .int l1] M (fun b1 M1 => (b1 = false → Q (-1) M1) ∧ (b1 = true → zCz shM g d mX9_laysGoals [.ref 0, .long l2] M1 (fun b2 M2 => (b2 = false → Q (-1) M2) ∧ (b2 = true → (l4 = 0 → zW shM g (d + 1) mX9_route (zi Q) 40 [(0, .ref 0), (1, .int l1), (4, .int l4)] [] M2) ∧ (¬ l4 = 0 → zCz shM g d mX9_isIn [.int l4, .int 10, .int (9 + (M2 0 38))] M2 (fun b3 M3 => (b3 = true → zW shM g (d + 1) mX9_route (zi Q) 40 [(0, .ref 0), (1, .int l1), (4, .int l4)] [] M3) ∧ (b3 = false → Q (-1) M3)))))))) : zCi shM g (d + 1) mX9_route [.ref 0, .int l1, .long l2, .int l4] M Q := by
  refine zW.enter (by decide +kernel) (Nat.le_of_ble_eq_true rfl) ?_
  change zW shM g (d + 1) mX9_route (zi Q) 0 [(0, .ref 0), (1, .int l1), (2, .long l2), (4, .int l4)] [] M
  refine z_aload_n dX9_route_0 0 rfl ?_
  refine z_iload_n dX9_route_1 1 rfl ?_
  refine z_callV (m2 := mX9_isSkater) (st := []) [.int l1] okX9_isSkater (Or.inl lkX9_114) shM_0 rfl rfl rfl (Nat.le_of_ble_eq_true rfl) dX9_route_2 (zgo_z h fun b1 M1 h => ?_)
  refine z_ifb_eq 38 dX9_route_5 (by decide) (fun c1 => ?_) (fun c1 => ?_)
  · have h := h.1 c1
    refine z_iconst (v := (-1)) dX9_route_38 (by decide) ?_
    exact z_iret (st := []) rfl rfl dX9_route_39 ⟨_, rfl, h⟩
  · have h := h.2 c1
    refine z_aload_n dX9_route_8 0 rfl ?_
    refine z_lload_n dX9_route_9 2 rfl ?_
    refine z_callV (m2 := mX9_laysGoals) (st := []) [.long l2] okX9_laysGoals (Or.inl lkX9_443) shM_0 rfl rfl rfl (Nat.le_of_ble_eq_true rfl) dX9_route_10 (zgo_z h fun b2 M2 h => ?_)
    refine z_ifb_eq 38 dX9_route_13 (by decide) (fun c2 => ?_) (fun c2 => ?_)
    · have h := h.1 c2
      refine z_iconst (v := (-1)) dX9_route_38 (by decide) ?_
      exact z_iret (st := []) rfl rfl dX9_route_39 ⟨_, rfl, h⟩
    · have h := h.2 c2
      refine z_iload dX9_route_16 3 rfl ?_
      refine z_if_eq 40 dX9_route_18 (by decide) (fun c3 => ?_) (fun c3 => ?_)
      · have h := h.1 c3
        exact zW.sub [0, 1, 3] rfl h
      · have h := h.2 c3
        refine z_iload dX9_route_21 3 rfl ?_
        refine z_bipush (v := 10) dX9_route_23 (by decide) ?_
        refine z_bipush (v := 9) dX9_route_25 (by decide) ?_
        refine z_aload_n dX9_route_27 0 rfl ?_
        refine z_geti shM_0 rfl flX9_430 dX9_route_28 ?_
        refine z_iadd dX9_route_31 ?_
        refine z_callS (m2 := mX9_isIn) (st := []) [.int l4, .int 10, .int (9 + (M2 0 38))] okX9_isIn (Or.inl lkX9_97) rfl rfl (Nat.le_of_ble_eq_true rfl) dX9_route_32 (zgo_z h fun b3 M3 h => ?_)
        refine z_ifb_ne 40 dX9_route_35 (by decide) (fun c4 => ?_) (fun c4 => ?_)
        · have h := h.1 c4
          exact zW.sub [0, 1, 3] rfl h
        · have h := h.2 c4
          refine z_iconst (v := (-1)) dX9_route_38 (by decide) ?_
          exact z_iret (st := []) rfl rfl dX9_route_39 ⟨_, rfl, h⟩
set_option maxRecDepth 20000 in
theorem vX9_route_40 {g : zG} {d : Nat} {Q : Int32 → zM → Prop} {M : zM} {l1 : Int32} {l4 : Int32} (h : zCi shM g d mX9_all [.ref 0] M (fun x1 M1 => zCv shM g d mX9_laysRoutes [.ref 0, .int x1] M1 (fun  M2 => zCi shM g d mX9_all [.ref 0] M2 (fun x3 M3 => ∃ k1 : Nat, (3 + l1) = iv k1 ∧ k1 < 2200 ∧ (¬ l4 = 0 → zW shM g (d + 1) mX9_route (zi Q) 82 [(0, .ref 0), (4, .int l4), (5, .int x3), (6, .int (M3 1 k1)), (7, .int 10)] [] M3) ∧ (l4 = 0 → zCi shM g d mX9_leastOver [.ref 0, .int x3, .int (M3 1 k1)] M3 (fun x4 M4 => Q x4 M4)))))) : zW shM g (d + 1) mX9_route (zi Q) 40 [(0, .ref 0), (1, .int l1), (4, .int l4)] [] M := by
  refine z_aload_n dX9_route_40 0 rfl ?_
  refine z_aload_n dX9_route_41 0 rfl ?_
  refine z_callV (m2 := mX9_all) (st := [.ref 0]) [] okX9_all (Or.inl lkX9_433) shM_0 rfl rfl rfl (Nat.le_of_ble_eq_true rfl) dX9_route_42 (zgo_i h fun x1 M1 h => ?_)
  refine z_callV (m2 := mX9_laysRoutes) (st := []) [.int x1] okX9_laysRoutes (Or.inl lkX9_447) shM_0 rfl rfl rfl (Nat.le_of_ble_eq_true rfl) dX9_route_45 (zgo_v h fun  M2 h => ?_)
  refine z_aload_n dX9_route_48 0 rfl ?_
  refine z_callV (m2 := mX9_all) (st := []) [] okX9_all (Or.inl lkX9_433) shM_0 rfl rfl rfl (Nat.le_of_ble_eq_true rfl) dX9_route_49 (zgo_i h fun x3 M3 h => ?_)
  refine z_istore [(5, .int x3), (0, .ref 0), (1, .int l1), (4, .int l4)] dX9_route_52 (by decide) rfl ?_
  refine z_aload_n dX9_route_54 1 rfl ?_
  refine z_getr shM_0 rfl flX9_7 dX9_route_55 ?_
  refine z_iconst (v := 3) dX9_route_58 (by decide) ?_
  refine z_iload_n dX9_route_59 2 rfl ?_
  refine z_iadd dX9_route_60 ?_
  obtain ⟨k1, ek1, uk1, h⟩ := h
  refine z_iald2 (k0 := k1) shM_1 (by decide) ek1 uk1 dX9_route_61 ?_
  refine z_istore [(6, .int (M3 1 k1)), (5, .int x3), (0, .ref 0), (1, .int l1), (4, .int l4)] dX9_route_62 (by decide) rfl ?_
  refine z_iload dX9_route_64 4 rfl ?_
  refine z_if_ne 78 dX9_route_66 (by decide) (fun c1 => ?_) (fun c1 => ?_)
  · have h := h.1 c1
    refine z_bipush (v := 10) dX9_route_78 (by decide) ?_
    refine z_istore [(7, .int 10), (6, .int (M3 1 k1)), (5, .int x3), (0, .ref 0), (1, .int l1), (4, .int l4)] dX9_route_80 (by decide) rfl ?_
    exact zW.sub [3, 5, 2, 1, 0] rfl h
  · have h := h.2 c1
    refine z_aload_n dX9_route_69 2 rfl ?_
    refine z_iload dX9_route_70 1 rfl ?_
    refine z_iload dX9_route_72 0 rfl ?_
    refine z_callV (m2 := mX9_leastOver) (st := []) [.int x3, .int (M3 1 k1)] okX9_leastOver (Or.inl lkX9_436) shM_0 rfl rfl rfl (Nat.le_of_ble_eq_true rfl) dX9_route_74 (zgo_i h fun x4 M4 h => ?_)
    exact z_iret (st := []) rfl rfl dX9_route_77 ⟨_, rfl, h⟩
set_option maxRecDepth 20000 in
theorem vX9_route_82 {g : zG} {d : Nat} {Q : Int32 → zM → Prop} {M : zM} {l4 : Int32} {l5 : Int32} {l6 : Int32} {l7 : Int32} (h : (l4 < l7 → Q l6 M) ∧ (¬ l4 < l7 → zW shM g (d + 1) mX9_route (zi Q) 92 [(0, .ref 0), (4, .int l4), (5, .int l5), (6, .int l6), (7, .int l7), (8, .int 0)] [] M)) : zW shM g (d + 1) mX9_route (zi Q) 82 [(0, .ref 0), (4, .int l4), (5, .int l5), (6, .int l6), (7, .int l7)] [] M := by
  refine z_iload dX9_route_82 4 rfl ?_
  refine z_iload dX9_route_84 1 rfl ?_
  refine z_icmp_gt 178 dX9_route_86 (by decide) (fun c1 => ?_) (fun c1 => ?_)
  · have h := h.1 c1
    refine z_iload dX9_route_178 3 rfl ?_
    exact z_iret (st := []) rfl rfl dX9_route_180 ⟨_, rfl, h⟩
  · have h := h.2 c1
    refine z_iconst (v := 0) dX9_route_89 (by decide) ?_
    refine z_istore [(8, .int 0), (0, .ref 0), (4, .int l4), (5, .int l5), (6, .int l6), (7, .int l7)] dX9_route_90 (by decide) rfl ?_
    exact zW.sub [1, 2, 3, 4, 5, 0] rfl h
set_option maxRecDepth 20000 in
theorem vX9_route_92 {g : zG} {d : Nat} {Q : Int32 → zM → Prop} {M : zM} {l4 : Int32} {l5 : Int32} {l6 : Int32} {l7 : Int32} {l8 : Int32} (h : (((l5 >>> (l8 &&& 31)) &&& 1) = 0 → zW shM g (d + 1) mX9_route (zi Q) 92 [(0, .ref 0), (4, .int l4), (5, .int l5), (6, .int l6), (7, .int l7), (8, .int (l8 + 1))] [] M) ∧ (¬ ((l5 >>> (l8 &&& 31)) &&& 1) = 0 → ∃ k1 : Nat, l8 = iv k1 ∧ k1 < 9 ∧ zCi shM g d mX9_apart [.int l6, .int (M 16 k1)] M (fun x1 M1 => ∀ v1 : Int32, v1 = (((9 : Int32) * (l5 &&& ((1 <<< (l8 &&& 31)) ^^^ (-1)))) + l8) → ∃ k2 : Nat, v1 = iv k2 ∧ k2 < 4608 ∧ zCi shM g d mX9_leastOver [.ref 0, .int l5, .int l6] M1 (fun x2 M2 => ((x1 + (M1 17 k2)) = x2 → zW shM g (d + 1) mX9_route (zi Q) 82 [(0, .ref 0), (4, .int l4), (5, .int (l5 &&& ((1 <<< (l8 &&& 31)) ^^^ (-1)))), (6, .int (M2 16 k1)), (7, .int (l7 + 1))] [] M2) ∧ (¬ (x1 + (M1 17 k2)) = x2 → zW shM g (d + 1) mX9_route (zi Q) 92 [(0, .ref 0), (4, .int l4), (5, .int l5), (6, .int l6), (7, .int l7), (8, .int (l8 + 1))] [] M2))))) : zW shM g (d + 1) mX9_route (zi Q) 92 [(0, .ref 0), (4, .int l4), (5, .int l5), (6, .int l6), (7, .int l7), (8, .int l8)] [] M := by
  refine z_iload dX9_route_92 2 rfl ?_
  refine z_iload dX9_route_94 5 rfl ?_
  refine z_ishr dX9_route_96 ?_
  refine z_iconst (v := 1) dX9_route_97 (by decide) ?_
  refine z_iand dX9_route_98 ?_
  refine z_if_eq 146 dX9_route_99 (by decide) (fun c1 => ?_) (fun c1 => ?_)
  · have h := h.1 c1
    refine z_iinc (x := l8) (v := (l8 + 1)) [(8, .int (l8 + 1)), (0, .ref 0), (4, .int l4), (5, .int l5), (6, .int l6), (7, .int l7)] dX9_route_146 5 rfl rfl (by decide) rfl ?_
    refine z_goto 92 dX9_route_149 (by decide) ?_
    exact zW.sub [1, 2, 3, 4, 5, 0] rfl h
  · have h := h.2 c1
    refine z_iload dX9_route_102 3 rfl ?_
    refine z_aload_n dX9_route_104 0 rfl ?_
    refine z_getr shM_0 rfl flX9_59 dX9_route_105 ?_
    refine z_iload dX9_route_108 5 rfl ?_
    obtain ⟨k1, ek1, uk1, h⟩ := h
    refine z_iald2 (k0 := k1) shM_16 (by decide) ek1 uk1 dX9_route_110 ?_
    refine z_callS (m2 := mX9_apart) (st := []) [.int l6, .int (M 16 k1)] okX9_apart (Or.inl lkX9_440) rfl rfl (Nat.le_of_ble_eq_true rfl) dX9_route_111 (zgo_i h fun x1 M1 h => ?_)
    refine z_aload_n dX9_route_114 0 rfl ?_
    refine z_getr shM_0 rfl flX9_62 dX9_route_115 ?_
    refine z_bipush (v := 9) dX9_route_118 (by decide) ?_
    refine z_iload dX9_route_120 2 rfl ?_
    refine z_iconst (v := 1) dX9_route_122 (by decide) ?_
    refine z_iload dX9_route_123 5 rfl ?_
    refine z_ishl dX9_route_125 ?_
    refine z_iconst (v := (-1)) dX9_route_126 (by decide) ?_
    refine z_ixor dX9_route_127 ?_
    refine z_iand dX9_route_128 ?_
    refine z_imul dX9_route_129 ?_
    refine z_iload dX9_route_130 5 rfl ?_
    refine z_iadd dX9_route_132 ?_
    obtain ⟨v1, ev1⟩ : ∃ y : Int32, y = (((9 : Int32) * (l5 &&& ((1 <<< (l8 &&& 31)) ^^^ (-1)))) + l8) := ⟨_, rfl⟩
    refine z_topi v1 ev1 ?_
    have h := h v1 ev1
    obtain ⟨k2, ek2, uk2, h⟩ := h
    refine z_iald2 (k0 := k2) shM_17 (by decide) ek2 uk2 dX9_route_133 ?_
    refine z_iadd dX9_route_134 ?_
    refine z_aload_n dX9_route_135 0 rfl ?_
    refine z_iload dX9_route_136 2 rfl ?_
    refine z_iload dX9_route_138 3 rfl ?_
    refine z_callV (m2 := mX9_leastOver) (st := [.int (x1 + (M1 17 k2))]) [.int l5, .int l6] okX9_leastOver (Or.inl lkX9_436) shM_0 rfl rfl rfl (Nat.le_of_ble_eq_true rfl) dX9_route_140 (zgo_i h fun x2 M2 h => ?_)
    refine z_icmp_eq 152 dX9_route_143 (by decide) (fun c2 => ?_) (fun c2 => ?_)
    · have h := h.1 c2
      refine z_iload dX9_route_152 2 rfl ?_
      refine z_iconst (v := 1) dX9_route_154 (by decide) ?_
      refine z_iload dX9_route_155 5 rfl ?_
      refine z_ishl dX9_route_157 ?_
      refine z_iconst (v := (-1)) dX9_route_158 (by decide) ?_
      refine z_ixor dX9_route_159 ?_
      refine z_iand dX9_route_160 ?_
      refine z_istore [(5, .int (l5 &&& ((1 <<< (l8 &&& 31)) ^^^ (-1)))), (0, .ref 0), (4, .int l4), (6, .int l6), (7, .int l7), (8, .int l8)] dX9_route_161 (by decide) rfl ?_
      refine z_aload_n dX9_route_163 1 rfl ?_
      refine z_getr shM_0 rfl flX9_59 dX9_route_164 ?_
      refine z_iload dX9_route_167 5 rfl ?_
      refine z_iald2 (k0 := k1) shM_16 (by decide) ek1 uk1 dX9_route_169 ?_
      refine z_istore [(6, .int (M2 16 k1)), (5, .int (l5 &&& ((1 <<< (l8 &&& 31)) ^^^ (-1)))), (0, .ref 0), (4, .int l4), (7, .int l7), (8, .int l8)] dX9_route_170 (by decide) rfl ?_
      refine z_iinc (x := l7) (v := (l7 + 1)) [(7, .int (l7 + 1)), (6, .int (M2 16 k1)), (5, .int (l5 &&& ((1 <<< (l8 &&& 31)) ^^^ (-1)))), (0, .ref 0), (4, .int l4), (8, .int l8)] dX9_route_172 4 rfl rfl (by decide) rfl ?_
      refine z_goto 82 dX9_route_175 (by decide) ?_
      exact zW.sub [3, 4, 2, 1, 0] rfl h
    · have h := h.2 c2
      refine z_iinc (x := l8) (v := (l8 + 1)) [(8, .int (l8 + 1)), (0, .ref 0), (4, .int l4), (5, .int l5), (6, .int l6), (7, .int l7)] dX9_route_146 5 rfl rfl (by decide) rfl ?_
      refine z_goto 92 dX9_route_149 (by decide) ?_
      exact zW.sub [1, 2, 3, 4, 5, 0] rfl h
theorem dX9_laysCosts_0 : decode cX9_laysCosts 0 = .ok (.aload_n 0, 1) := by decide +kernel
theorem dX9_laysCosts_1 : decode cX9_laysCosts 1 = .ok (.aload_n 0, 1) := by decide +kernel
theorem dX9_laysCosts_2 : decode cX9_laysCosts 2 = .ok (.invokevirtual 433, 3) := by decide +kernel
theorem dX9_laysCosts_5 : decode cX9_laysCosts 5 = .ok (.invokevirtual 447, 3) := by decide +kernel
theorem dX9_laysCosts_8 : decode cX9_laysCosts 8 = .ok (.iconst 0, 1) := by decide +kernel
theorem dX9_laysCosts_9 : decode cX9_laysCosts 9 = .ok (.istore_n 1, 1) := by decide +kernel
theorem dX9_laysCosts_10 : decode cX9_laysCosts 10 = .ok (.iload_n 1, 1) := by decide +kernel
theorem dX9_laysCosts_11 : decode cX9_laysCosts 11 = .ok (.aload_n 0, 1) := by decide +kernel
theorem dX9_laysCosts_12 : decode cX9_laysCosts 12 = .ok (.getfield 7, 3) := by decide +kernel
theorem dX9_laysCosts_15 : decode cX9_laysCosts 15 = .ok (.sipush 154, 3) := by decide +kernel
theorem dX9_laysCosts_18 : decode cX9_laysCosts 18 = .ok (.iaload, 1) := by decide +kernel
theorem dX9_laysCosts_19 : decode cX9_laysCosts 19 = .ok (.if_icmp .ge 50, 3) := by decide +kernel
theorem dX9_laysCosts_22 : decode cX9_laysCosts 22 = .ok (.iconst 0, 1) := by decide +kernel
theorem dX9_laysCosts_23 : decode cX9_laysCosts 23 = .ok (.istore_n 2, 1) := by decide +kernel
theorem dX9_laysCosts_24 : decode cX9_laysCosts 24 = .ok (.iload_n 2, 1) := by decide +kernel
theorem dX9_laysCosts_25 : decode cX9_laysCosts 25 = .ok (.aload_n 0, 1) := by decide +kernel
theorem dX9_laysCosts_26 : decode cX9_laysCosts 26 = .ok (.invokevirtual 433, 3) := by decide +kernel
theorem dX9_laysCosts_29 : decode cX9_laysCosts 29 = .ok (.if_icmp .gt 34, 3) := by decide +kernel
theorem dX9_laysCosts_32 : decode cX9_laysCosts 32 = .ok (.aload_n 0, 1) := by decide +kernel
theorem dX9_laysCosts_33 : decode cX9_laysCosts 33 = .ok (.getfield 65, 3) := by decide +kernel
theorem dX9_laysCosts_36 : decode cX9_laysCosts 36 = .ok (.sipush 512, 3) := by decide +kernel
theorem dX9_laysCosts_39 : decode cX9_laysCosts 39 = .ok (.iload_n 1, 1) := by decide +kernel
theorem dX9_laysCosts_40 : decode cX9_laysCosts 40 = .ok (.imul, 1) := by decide +kernel
theorem dX9_laysCosts_41 : decode cX9_laysCosts 41 = .ok (.iload_n 2, 1) := by decide +kernel
theorem dX9_laysCosts_42 : decode cX9_laysCosts 42 = .ok (.iadd, 1) := by decide +kernel
theorem dX9_laysCosts_43 : decode cX9_laysCosts 43 = .ok (.aload_n 0, 1) := by decide +kernel
theorem dX9_laysCosts_44 : decode cX9_laysCosts 44 = .ok (.iload_n 2, 1) := by decide +kernel
theorem dX9_laysCosts_45 : decode cX9_laysCosts 45 = .ok (.aload_n 0, 1) := by decide +kernel
theorem dX9_laysCosts_46 : decode cX9_laysCosts 46 = .ok (.getfield 7, 3) := by decide +kernel
theorem dX9_laysCosts_49 : decode cX9_laysCosts 49 = .ok (.iconst 3, 1) := by decide +kernel
theorem dX9_laysCosts_50 : decode cX9_laysCosts 50 = .ok (.iload_n 1, 1) := by decide +kernel
theorem dX9_laysCosts_51 : decode cX9_laysCosts 51 = .ok (.iadd, 1) := by decide +kernel
theorem dX9_laysCosts_52 : decode cX9_laysCosts 52 = .ok (.iaload, 1) := by decide +kernel
theorem dX9_laysCosts_53 : decode cX9_laysCosts 53 = .ok (.invokevirtual 436, 3) := by decide +kernel
theorem dX9_laysCosts_56 : decode cX9_laysCosts 56 = .ok (.iastore, 1) := by decide +kernel
theorem dX9_laysCosts_57 : decode cX9_laysCosts 57 = .ok (.iinc 2 1, 3) := by decide +kernel
theorem dX9_laysCosts_60 : decode cX9_laysCosts 60 = .ok (.goto (-36), 3) := by decide +kernel
theorem dX9_laysCosts_63 : decode cX9_laysCosts 63 = .ok (.iinc 1 1, 3) := by decide +kernel
theorem dX9_laysCosts_66 : decode cX9_laysCosts 66 = .ok (.goto (-56), 3) := by decide +kernel
theorem dX9_laysCosts_69 : decode cX9_laysCosts 69 = .ok (.return_, 1) := by decide +kernel
set_option maxRecDepth 20000 in
theorem vX9_laysCosts {g : zG} {d : Nat} {Q : zM → Prop} {M : zM} (h : zCi shM g d mX9_all [.ref 0] M (fun x1 M1 => zCv shM g d mX9_laysRoutes [.ref 0, .int x1] M1 (fun  M2 => zW shM g (d + 1) mX9_laysCosts (zv Q) 10 [(0, .ref 0), (1, .int 0)] [] M2))) : zCv shM g (d + 1) mX9_laysCosts [.ref 0] M Q := by
  refine zW.enter (by decide +kernel) (Nat.le_of_ble_eq_true rfl) ?_
  change zW shM g (d + 1) mX9_laysCosts (zv Q) 0 [(0, .ref 0)] [] M
  refine z_aload_n dX9_laysCosts_0 0 rfl ?_
  refine z_aload_n dX9_laysCosts_1 0 rfl ?_
  refine z_callV (m2 := mX9_all) (st := [.ref 0]) [] okX9_all (Or.inl lkX9_433) shM_0 rfl rfl rfl (Nat.le_of_ble_eq_true rfl) dX9_laysCosts_2 (zgo_i h fun x1 M1 h => ?_)
  refine z_callV (m2 := mX9_laysRoutes) (st := []) [.int x1] okX9_laysRoutes (Or.inl lkX9_447) shM_0 rfl rfl rfl (Nat.le_of_ble_eq_true rfl) dX9_laysCosts_5 (zgo_v h fun  M2 h => ?_)
  refine z_iconst (v := 0) dX9_laysCosts_8 (by decide) ?_
  refine z_istore_n [(1, .int 0), (0, .ref 0)] dX9_laysCosts_9 (by decide) rfl ?_
  exact zW.sub [1, 0] rfl h
set_option maxRecDepth 20000 in
theorem vX9_laysCosts_10 {g : zG} {d : Nat} {Q : zM → Prop} {M : zM} {l1 : Int32} (h : ((M 1 154) ≤ l1 → Q M) ∧ (¬ (M 1 154) ≤ l1 → zW shM g (d + 1) mX9_laysCosts (zv Q) 24 [(0, .ref 0), (1, .int l1), (2, .int 0)] [] M)) : zW shM g (d + 1) mX9_laysCosts (zv Q) 10 [(0, .ref 0), (1, .int l1)] [] M := by
  refine z_iload_n dX9_laysCosts_10 1 rfl ?_
  refine z_aload_n dX9_laysCosts_11 0 rfl ?_
  refine z_getr shM_0 rfl flX9_7 dX9_laysCosts_12 ?_
  refine z_sipush (v := 154) dX9_laysCosts_15 (by decide) ?_
  refine z_iald2 (k0 := 154) shM_1 (by decide) (by decide) (by decide) dX9_laysCosts_18 ?_
  refine z_icmp_ge 69 dX9_laysCosts_19 (by decide) (fun c1 => ?_) (fun c1 => ?_)
  · have h := h.1 c1
    exact z_vret (st := []) rfl dX9_laysCosts_69 ⟨rfl, h⟩
  · have h := h.2 c1
    refine z_iconst (v := 0) dX9_laysCosts_22 (by decide) ?_
    refine z_istore_n [(2, .int 0), (0, .ref 0), (1, .int l1)] dX9_laysCosts_23 (by decide) rfl ?_
    exact zW.sub [1, 2, 0] rfl h
set_option maxRecDepth 20000 in
theorem vX9_laysCosts_24 {g : zG} {d : Nat} {Q : zM → Prop} {M : zM} {l1 : Int32} {l2 : Int32} (h : zCi shM g d mX9_all [.ref 0] M (fun x1 M1 => (x1 < l2 → zW shM g (d + 1) mX9_laysCosts (zv Q) 10 [(0, .ref 0), (1, .int (l1 + 1))] [] M1) ∧ (¬ x1 < l2 → ∃ k1 : Nat, (3 + l1) = iv k1 ∧ k1 < 2200 ∧ zCi shM g d mX9_leastOver [.ref 0, .int l2, .int (M1 1 k1)] M1 (fun x2 M2 => ∃ k2 : Nat, ((512 * l1) + l2) = iv k2 ∧ k2 < 3072 ∧ zW shM g (d + 1) mX9_laysCosts (zv Q) 24 [(0, .ref 0), (1, .int l1), (2, .int (l2 + 1))] [] (zup M2 18 k2 x2))))) : zW shM g (d + 1) mX9_laysCosts (zv Q) 24 [(0, .ref 0), (1, .int l1), (2, .int l2)] [] M := by
  refine z_iload_n dX9_laysCosts_24 2 rfl ?_
  refine z_aload_n dX9_laysCosts_25 0 rfl ?_
  refine z_callV (m2 := mX9_all) (st := [.int l2]) [] okX9_all (Or.inl lkX9_433) shM_0 rfl rfl rfl (Nat.le_of_ble_eq_true rfl) dX9_laysCosts_26 (zgo_i h fun x1 M1 h => ?_)
  refine z_icmp_gt 63 dX9_laysCosts_29 (by decide) (fun c1 => ?_) (fun c1 => ?_)
  · have h := h.1 c1
    refine z_iinc (x := l1) (v := (l1 + 1)) [(1, .int (l1 + 1)), (0, .ref 0), (2, .int l2)] dX9_laysCosts_63 1 rfl rfl (by decide) rfl ?_
    refine z_goto 10 dX9_laysCosts_66 (by decide) ?_
    exact zW.sub [1, 0] rfl h
  · have h := h.2 c1
    refine z_aload_n dX9_laysCosts_32 0 rfl ?_
    refine z_getr shM_0 rfl flX9_65 dX9_laysCosts_33 ?_
    refine z_sipush (v := 512) dX9_laysCosts_36 (by decide) ?_
    refine z_iload_n dX9_laysCosts_39 1 rfl ?_
    refine z_imul dX9_laysCosts_40 ?_
    refine z_iload_n dX9_laysCosts_41 2 rfl ?_
    refine z_iadd dX9_laysCosts_42 ?_
    refine z_aload_n dX9_laysCosts_43 0 rfl ?_
    refine z_iload_n dX9_laysCosts_44 2 rfl ?_
    refine z_aload_n dX9_laysCosts_45 0 rfl ?_
    refine z_getr shM_0 rfl flX9_7 dX9_laysCosts_46 ?_
    refine z_iconst (v := 3) dX9_laysCosts_49 (by decide) ?_
    refine z_iload_n dX9_laysCosts_50 1 rfl ?_
    refine z_iadd dX9_laysCosts_51 ?_
    obtain ⟨k1, ek1, uk1, h⟩ := h
    refine z_iald2 (k0 := k1) shM_1 (by decide) ek1 uk1 dX9_laysCosts_52 ?_
    refine z_callV (m2 := mX9_leastOver) (st := [.int ((512 * l1) + l2), .ref 18]) [.int l2, .int (M1 1 k1)] okX9_leastOver (Or.inl lkX9_436) shM_0 rfl rfl rfl (Nat.le_of_ble_eq_true rfl) dX9_laysCosts_53 (zgo_i h fun x2 M2 h => ?_)
    obtain ⟨k2, ek2, uk2, h⟩ := h
    refine z_iast2 (k0 := k2) shM_18 (by decide) ek2 uk2 dX9_laysCosts_56 ?_
    refine z_iinc (x := l2) (v := (l2 + 1)) [(2, .int (l2 + 1)), (0, .ref 0), (1, .int l1)] dX9_laysCosts_57 2 rfl rfl (by decide) rfl ?_
    refine z_goto 24 dX9_laysCosts_60 (by decide) ?_
    exact zW.sub [1, 2, 0] rfl h
theorem dX9_isDoneBy_0 : decode cX9_isDoneBy 0 = .ok (.iconst 0, 1) := by decide +kernel
theorem dX9_isDoneBy_1 : decode cX9_isDoneBy 1 = .ok (.istore_n 3, 1) := by decide +kernel
theorem dX9_isDoneBy_2 : decode cX9_isDoneBy 2 = .ok (.iload_n 3, 1) := by decide +kernel
theorem dX9_isDoneBy_3 : decode cX9_isDoneBy 3 = .ok (.aload_n 0, 1) := by decide +kernel
theorem dX9_isDoneBy_4 : decode cX9_isDoneBy 4 = .ok (.invokevirtual 433, 3) := by decide +kernel
theorem dX9_isDoneBy_7 : decode cX9_isDoneBy 7 = .ok (.if_icmp .gt 24, 3) := by decide +kernel
theorem dX9_isDoneBy_10 : decode cX9_isDoneBy 10 = .ok (.aload_n 0, 1) := by decide +kernel
theorem dX9_isDoneBy_11 : decode cX9_isDoneBy 11 = .ok (.getfield 68, 3) := by decide +kernel
theorem dX9_isDoneBy_14 : decode cX9_isDoneBy 14 = .ok (.iload_n 3, 1) := by decide +kernel
theorem dX9_isDoneBy_15 : decode cX9_isDoneBy 15 = .ok (.iload_n 3, 1) := by decide +kernel
theorem dX9_isDoneBy_16 : decode cX9_isDoneBy 16 = .ok (.ifCond .ne 7, 3) := by decide +kernel
theorem dX9_isDoneBy_19 : decode cX9_isDoneBy 19 = .ok (.iconst 1, 1) := by decide +kernel
theorem dX9_isDoneBy_20 : decode cX9_isDoneBy 20 = .ok (.goto 4, 3) := by decide +kernel
theorem dX9_isDoneBy_23 : decode cX9_isDoneBy 23 = .ok (.iconst 0, 1) := by decide +kernel
theorem dX9_isDoneBy_24 : decode cX9_isDoneBy 24 = .ok (.bastore, 1) := by decide +kernel
theorem dX9_isDoneBy_25 : decode cX9_isDoneBy 25 = .ok (.iinc 3 1, 3) := by decide +kernel
theorem dX9_isDoneBy_28 : decode cX9_isDoneBy 28 = .ok (.goto (-26), 3) := by decide +kernel
theorem dX9_isDoneBy_31 : decode cX9_isDoneBy 31 = .ok (.iconst 0, 1) := by decide +kernel
theorem dX9_isDoneBy_32 : decode cX9_isDoneBy 32 = .ok (.istore_n 3, 1) := by decide +kernel
theorem dX9_isDoneBy_33 : decode cX9_isDoneBy 33 = .ok (.iload_n 3, 1) := by decide +kernel
theorem dX9_isDoneBy_34 : decode cX9_isDoneBy 34 = .ok (.aload_n 0, 1) := by decide +kernel
theorem dX9_isDoneBy_35 : decode cX9_isDoneBy 35 = .ok (.getfield 7, 3) := by decide +kernel
theorem dX9_isDoneBy_38 : decode cX9_isDoneBy 38 = .ok (.sipush 154, 3) := by decide +kernel
theorem dX9_isDoneBy_41 : decode cX9_isDoneBy 41 = .ok (.iaload, 1) := by decide +kernel
theorem dX9_isDoneBy_42 : decode cX9_isDoneBy 42 = .ok (.if_icmp .ge 67, 3) := by decide +kernel
theorem dX9_isDoneBy_45 : decode cX9_isDoneBy 45 = .ok (.iconst 0, 1) := by decide +kernel
theorem dX9_isDoneBy_46 : decode cX9_isDoneBy 46 = .ok (.istore 4, 2) := by decide +kernel
theorem dX9_isDoneBy_48 : decode cX9_isDoneBy 48 = .ok (.iload 4, 2) := by decide +kernel
theorem dX9_isDoneBy_50 : decode cX9_isDoneBy 50 = .ok (.aload_n 0, 1) := by decide +kernel
theorem dX9_isDoneBy_51 : decode cX9_isDoneBy 51 = .ok (.invokevirtual 433, 3) := by decide +kernel
theorem dX9_isDoneBy_54 : decode cX9_isDoneBy 54 = .ok (.if_icmp .gt 49, 3) := by decide +kernel
theorem dX9_isDoneBy_57 : decode cX9_isDoneBy 57 = .ok (.aload_n 0, 1) := by decide +kernel
theorem dX9_isDoneBy_58 : decode cX9_isDoneBy 58 = .ok (.getfield 68, 3) := by decide +kernel
theorem dX9_isDoneBy_61 : decode cX9_isDoneBy 61 = .ok (.sipush 512, 3) := by decide +kernel
theorem dX9_isDoneBy_64 : decode cX9_isDoneBy 64 = .ok (.iload_n 3, 1) := by decide +kernel
theorem dX9_isDoneBy_65 : decode cX9_isDoneBy 65 = .ok (.iconst 1, 1) := by decide +kernel
theorem dX9_isDoneBy_66 : decode cX9_isDoneBy 66 = .ok (.iadd, 1) := by decide +kernel
theorem dX9_isDoneBy_67 : decode cX9_isDoneBy 67 = .ok (.imul, 1) := by decide +kernel
theorem dX9_isDoneBy_68 : decode cX9_isDoneBy 68 = .ok (.iload 4, 2) := by decide +kernel
theorem dX9_isDoneBy_70 : decode cX9_isDoneBy 70 = .ok (.iadd, 1) := by decide +kernel
theorem dX9_isDoneBy_71 : decode cX9_isDoneBy 71 = .ok (.iload 4, 2) := by decide +kernel
theorem dX9_isDoneBy_73 : decode cX9_isDoneBy 73 = .ok (.iload_n 2, 1) := by decide +kernel
theorem dX9_isDoneBy_74 : decode cX9_isDoneBy 74 = .ok (.iconst (-1), 1) := by decide +kernel
theorem dX9_isDoneBy_75 : decode cX9_isDoneBy 75 = .ok (.ixor, 1) := by decide +kernel
theorem dX9_isDoneBy_76 : decode cX9_isDoneBy 76 = .ok (.iand, 1) := by decide +kernel
theorem dX9_isDoneBy_77 : decode cX9_isDoneBy 77 = .ok (.ifCond .ne 18, 3) := by decide +kernel
theorem dX9_isDoneBy_80 : decode cX9_isDoneBy 80 = .ok (.aload_n 0, 1) := by decide +kernel
theorem dX9_isDoneBy_81 : decode cX9_isDoneBy 81 = .ok (.iload_n 3, 1) := by decide +kernel
theorem dX9_isDoneBy_82 : decode cX9_isDoneBy 82 = .ok (.iload 4, 2) := by decide +kernel
theorem dX9_isDoneBy_84 : decode cX9_isDoneBy 84 = .ok (.iload_n 1, 1) := by decide +kernel
theorem dX9_isDoneBy_85 : decode cX9_isDoneBy 85 = .ok (.invokevirtual 450, 3) := by decide +kernel
theorem dX9_isDoneBy_88 : decode cX9_isDoneBy 88 = .ok (.ifCond .eq 7, 3) := by decide +kernel
theorem dX9_isDoneBy_91 : decode cX9_isDoneBy 91 = .ok (.iconst 1, 1) := by decide +kernel
theorem dX9_isDoneBy_92 : decode cX9_isDoneBy 92 = .ok (.goto 4, 3) := by decide +kernel
theorem dX9_isDoneBy_95 : decode cX9_isDoneBy 95 = .ok (.iconst 0, 1) := by decide +kernel
theorem dX9_isDoneBy_96 : decode cX9_isDoneBy 96 = .ok (.bastore, 1) := by decide +kernel
theorem dX9_isDoneBy_97 : decode cX9_isDoneBy 97 = .ok (.iinc 4 1, 3) := by decide +kernel
theorem dX9_isDoneBy_100 : decode cX9_isDoneBy 100 = .ok (.goto (-52), 3) := by decide +kernel
theorem dX9_isDoneBy_103 : decode cX9_isDoneBy 103 = .ok (.iinc 3 1, 3) := by decide +kernel
theorem dX9_isDoneBy_106 : decode cX9_isDoneBy 106 = .ok (.goto (-73), 3) := by decide +kernel
theorem dX9_isDoneBy_109 : decode cX9_isDoneBy 109 = .ok (.aload_n 0, 1) := by decide +kernel
theorem dX9_isDoneBy_110 : decode cX9_isDoneBy 110 = .ok (.getfield 68, 3) := by decide +kernel
theorem dX9_isDoneBy_113 : decode cX9_isDoneBy 113 = .ok (.sipush 512, 3) := by decide +kernel
theorem dX9_isDoneBy_116 : decode cX9_isDoneBy 116 = .ok (.aload_n 0, 1) := by decide +kernel
theorem dX9_isDoneBy_117 : decode cX9_isDoneBy 117 = .ok (.getfield 7, 3) := by decide +kernel
theorem dX9_isDoneBy_120 : decode cX9_isDoneBy 120 = .ok (.sipush 154, 3) := by decide +kernel
theorem dX9_isDoneBy_123 : decode cX9_isDoneBy 123 = .ok (.iaload, 1) := by decide +kernel
theorem dX9_isDoneBy_124 : decode cX9_isDoneBy 124 = .ok (.imul, 1) := by decide +kernel
theorem dX9_isDoneBy_125 : decode cX9_isDoneBy 125 = .ok (.iload_n 2, 1) := by decide +kernel
theorem dX9_isDoneBy_126 : decode cX9_isDoneBy 126 = .ok (.iadd, 1) := by decide +kernel
theorem dX9_isDoneBy_127 : decode cX9_isDoneBy 127 = .ok (.baload, 1) := by decide +kernel
theorem dX9_isDoneBy_128 : decode cX9_isDoneBy 128 = .ok (.ireturn, 1) := by decide +kernel
set_option maxRecDepth 20000 in
theorem vX9_isDoneBy {g : zG} {d : Nat} {Q : Bool → zM → Prop} {M : zM} {l1 : Int32} {l2 : Int32} (h : zW shM g (d + 1) mX9_isDoneBy (zz Q) 2 [(0, .ref 0), (1, .int l1), (2, .int l2), (3, .int 0)] [] M) : zCz shM g (d + 1) mX9_isDoneBy [.ref 0, .int l1, .int l2] M Q := by
  refine zW.enter (by decide +kernel) (Nat.le_of_ble_eq_true rfl) ?_
  change zW shM g (d + 1) mX9_isDoneBy (zz Q) 0 [(0, .ref 0), (1, .int l1), (2, .int l2)] [] M
  refine z_iconst (v := 0) dX9_isDoneBy_0 (by decide) ?_
  refine z_istore_n [(3, .int 0), (0, .ref 0), (1, .int l1), (2, .int l2)] dX9_isDoneBy_1 (by decide) rfl ?_
  exact zW.sub [1, 2, 3, 0] rfl h
set_option maxRecDepth 20000 in
theorem vX9_isDoneBy_2 {g : zG} {d : Nat} {Q : Bool → zM → Prop} {M : zM} {l1 : Int32} {l2 : Int32} {l3 : Int32} (h : zCi shM g d mX9_all [.ref 0] M (fun x1 M1 => (x1 < l3 → zW shM g (d + 1) mX9_isDoneBy (zz Q) 33 [(0, .ref 0), (1, .int l1), (2, .int l2), (3, .int 0)] [] M1) ∧ (¬ x1 < l3 → (¬ l3 = 0 → ∃ k1 : Nat, l3 = iv k1 ∧ k1 < 3584 ∧ zW shM g (d + 1) mX9_isDoneBy (zz Q) 2 [(0, .ref 0), (1, .int l1), (2, .int l2), (3, .int (l3 + 1))] [] (zup M1 19 k1 (zbI false))) ∧ (l3 = 0 → ∃ k1 : Nat, l3 = iv k1 ∧ k1 < 3584 ∧ zW shM g (d + 1) mX9_isDoneBy (zz Q) 2 [(0, .ref 0), (1, .int l1), (2, .int l2), (3, .int (l3 + 1))] [] (zup M1 19 k1 (zbI true)))))) : zW shM g (d + 1) mX9_isDoneBy (zz Q) 2 [(0, .ref 0), (1, .int l1), (2, .int l2), (3, .int l3)] [] M := by
  refine z_iload_n dX9_isDoneBy_2 3 rfl ?_
  refine z_aload_n dX9_isDoneBy_3 0 rfl ?_
  refine z_callV (m2 := mX9_all) (st := [.int l3]) [] okX9_all (Or.inl lkX9_433) shM_0 rfl rfl rfl (Nat.le_of_ble_eq_true rfl) dX9_isDoneBy_4 (zgo_i h fun x1 M1 h => ?_)
  refine z_icmp_gt 31 dX9_isDoneBy_7 (by decide) (fun c1 => ?_) (fun c1 => ?_)
  · have h := h.1 c1
    refine z_iconst (v := 0) dX9_isDoneBy_31 (by decide) ?_
    refine z_istore_n [(3, .int 0), (0, .ref 0), (1, .int l1), (2, .int l2)] dX9_isDoneBy_32 (by decide) rfl ?_
    exact zW.sub [1, 2, 3, 0] rfl h
  · have h := h.2 c1
    refine z_aload_n dX9_isDoneBy_10 0 rfl ?_
    refine z_getr shM_0 rfl flX9_68 dX9_isDoneBy_11 ?_
    refine z_iload_n dX9_isDoneBy_14 3 rfl ?_
    refine z_iload_n dX9_isDoneBy_15 3 rfl ?_
    refine z_if_ne 23 dX9_isDoneBy_16 (by decide) (fun c2 => ?_) (fun c2 => ?_)
    · have h := h.1 c2
      refine z_iconst (v := 0) dX9_isDoneBy_23 (by decide) ?_
      obtain ⟨k1, ek1, uk1, h⟩ := h
      refine z_zast2 (b := false) (k0 := k1) shM_19 (by decide) ek1 uk1 dX9_isDoneBy_24 ?_
      refine z_iinc (x := l3) (v := (l3 + 1)) [(3, .int (l3 + 1)), (0, .ref 0), (1, .int l1), (2, .int l2)] dX9_isDoneBy_25 3 rfl rfl (by decide) rfl ?_
      refine z_goto 2 dX9_isDoneBy_28 (by decide) ?_
      exact zW.sub [1, 2, 3, 0] rfl h
    · have h := h.2 c2
      refine z_iconst (v := 1) dX9_isDoneBy_19 (by decide) ?_
      refine z_goto 24 dX9_isDoneBy_20 (by decide) ?_
      obtain ⟨k1, ek1, uk1, h⟩ := h
      refine z_zast2 (b := true) (k0 := k1) shM_19 (by decide) ek1 uk1 dX9_isDoneBy_24 ?_
      refine z_iinc (x := l3) (v := (l3 + 1)) [(3, .int (l3 + 1)), (0, .ref 0), (1, .int l1), (2, .int l2)] dX9_isDoneBy_25 3 rfl rfl (by decide) rfl ?_
      refine z_goto 2 dX9_isDoneBy_28 (by decide) ?_
      exact zW.sub [1, 2, 3, 0] rfl h
set_option maxRecDepth 20000 in
theorem vX9_isDoneBy_33 {g : zG} {d : Nat} {Q : Bool → zM → Prop} {M : zM} {l1 : Int32} {l2 : Int32} {l3 : Int32} (h : ((M 1 154) ≤ l3 → ∃ k1 : Nat, ((512 * (M 1 154)) + l2) = iv k1 ∧ k1 < 3584 ∧ ∃ b1 : Bool, (M 19 k1) = zbI b1 ∧ Q b1 M) ∧ (¬ (M 1 154) ≤ l3 → zW shM g (d + 1) mX9_isDoneBy (zz Q) 48 [(0, .ref 0), (1, .int l1), (2, .int l2), (3, .int l3), (4, .int 0)] [] M)) : zW shM g (d + 1) mX9_isDoneBy (zz Q) 33 [(0, .ref 0), (1, .int l1), (2, .int l2), (3, .int l3)] [] M := by
  refine z_iload_n dX9_isDoneBy_33 3 rfl ?_
  refine z_aload_n dX9_isDoneBy_34 0 rfl ?_
  refine z_getr shM_0 rfl flX9_7 dX9_isDoneBy_35 ?_
  refine z_sipush (v := 154) dX9_isDoneBy_38 (by decide) ?_
  refine z_iald2 (k0 := 154) shM_1 (by decide) (by decide) (by decide) dX9_isDoneBy_41 ?_
  refine z_icmp_ge 109 dX9_isDoneBy_42 (by decide) (fun c1 => ?_) (fun c1 => ?_)
  · have h := h.1 c1
    refine z_aload_n dX9_isDoneBy_109 0 rfl ?_
    refine z_getr shM_0 rfl flX9_68 dX9_isDoneBy_110 ?_
    refine z_sipush (v := 512) dX9_isDoneBy_113 (by decide) ?_
    refine z_aload_n dX9_isDoneBy_116 0 rfl ?_
    refine z_getr shM_0 rfl flX9_7 dX9_isDoneBy_117 ?_
    refine z_sipush (v := 154) dX9_isDoneBy_120 (by decide) ?_
    refine z_iald2 (k0 := 154) shM_1 (by decide) (by decide) (by decide) dX9_isDoneBy_123 ?_
    refine z_imul dX9_isDoneBy_124 ?_
    refine z_iload_n dX9_isDoneBy_125 2 rfl ?_
    refine z_iadd dX9_isDoneBy_126 ?_
    obtain ⟨k1, ek1, uk1, h⟩ := h
    refine z_zald2 (k0 := k1) shM_19 (by decide) ek1 uk1 dX9_isDoneBy_127 ?_
    obtain ⟨b1, eb1, h⟩ := h
    exact z_zret eb1 rfl dX9_isDoneBy_128 h
  · have h := h.2 c1
    refine z_iconst (v := 0) dX9_isDoneBy_45 (by decide) ?_
    refine z_istore [(4, .int 0), (0, .ref 0), (1, .int l1), (2, .int l2), (3, .int l3)] dX9_isDoneBy_46 (by decide) rfl ?_
    exact zW.sub [1, 2, 3, 4, 0] rfl h
set_option maxRecDepth 20000 in
theorem vX9_isDoneBy_48 {g : zG} {d : Nat} {Q : Bool → zM → Prop} {M : zM} {l1 : Int32} {l2 : Int32} {l3 : Int32} {l4 : Int32} (h : zCi shM g d mX9_all [.ref 0] M (fun x1 M1 => (x1 < l4 → zW shM g (d + 1) mX9_isDoneBy (zz Q) 33 [(0, .ref 0), (1, .int l1), (2, .int l2), (3, .int (l3 + 1))] [] M1) ∧ (¬ x1 < l4 → (¬ (l4 &&& (l2 ^^^ (-1))) = 0 → ∃ k1 : Nat, ((512 * (l3 + 1)) + l4) = iv k1 ∧ k1 < 3584 ∧ zW shM g (d + 1) mX9_isDoneBy (zz Q) 48 [(0, .ref 0), (1, .int l1), (2, .int l2), (3, .int l3), (4, .int (l4 + 1))] [] (zup M1 19 k1 (zbI false))) ∧ ((l4 &&& (l2 ^^^ (-1))) = 0 → zCz shM g d mX9_takesSome [.ref 0, .int l3, .int l4, .int l1] M1 (fun b1 M2 => (b1 = false → ∃ k1 : Nat, ((512 * (l3 + 1)) + l4) = iv k1 ∧ k1 < 3584 ∧ zW shM g (d + 1) mX9_isDoneBy (zz Q) 48 [(0, .ref 0), (1, .int l1), (2, .int l2), (3, .int l3), (4, .int (l4 + 1))] [] (zup M2 19 k1 (zbI false))) ∧ (b1 = true → ∃ k1 : Nat, ((512 * (l3 + 1)) + l4) = iv k1 ∧ k1 < 3584 ∧ zW shM g (d + 1) mX9_isDoneBy (zz Q) 48 [(0, .ref 0), (1, .int l1), (2, .int l2), (3, .int l3), (4, .int (l4 + 1))] [] (zup M2 19 k1 (zbI true)))))))) : zW shM g (d + 1) mX9_isDoneBy (zz Q) 48 [(0, .ref 0), (1, .int l1), (2, .int l2), (3, .int l3), (4, .int l4)] [] M := by
  refine z_iload dX9_isDoneBy_48 4 rfl ?_
  refine z_aload_n dX9_isDoneBy_50 0 rfl ?_
  refine z_callV (m2 := mX9_all) (st := [.int l4]) [] okX9_all (Or.inl lkX9_433) shM_0 rfl rfl rfl (Nat.le_of_ble_eq_true rfl) dX9_isDoneBy_51 (zgo_i h fun x1 M1 h => ?_)
  refine z_icmp_gt 103 dX9_isDoneBy_54 (by decide) (fun c1 => ?_) (fun c1 => ?_)
  · have h := h.1 c1
    refine z_iinc (x := l3) (v := (l3 + 1)) [(3, .int (l3 + 1)), (0, .ref 0), (1, .int l1), (2, .int l2), (4, .int l4)] dX9_isDoneBy_103 3 rfl rfl (by decide) rfl ?_
    refine z_goto 33 dX9_isDoneBy_106 (by decide) ?_
    exact zW.sub [1, 2, 3, 0] rfl h
  · have h := h.2 c1
    refine z_aload_n dX9_isDoneBy_57 0 rfl ?_
    refine z_getr shM_0 rfl flX9_68 dX9_isDoneBy_58 ?_
    refine z_sipush (v := 512) dX9_isDoneBy_61 (by decide) ?_
    refine z_iload_n dX9_isDoneBy_64 3 rfl ?_
    refine z_iconst (v := 1) dX9_isDoneBy_65 (by decide) ?_
    refine z_iadd dX9_isDoneBy_66 ?_
    refine z_imul dX9_isDoneBy_67 ?_
    refine z_iload dX9_isDoneBy_68 4 rfl ?_
    refine z_iadd dX9_isDoneBy_70 ?_
    refine z_iload dX9_isDoneBy_71 4 rfl ?_
    refine z_iload_n dX9_isDoneBy_73 2 rfl ?_
    refine z_iconst (v := (-1)) dX9_isDoneBy_74 (by decide) ?_
    refine z_ixor dX9_isDoneBy_75 ?_
    refine z_iand dX9_isDoneBy_76 ?_
    refine z_if_ne 95 dX9_isDoneBy_77 (by decide) (fun c2 => ?_) (fun c2 => ?_)
    · have h := h.1 c2
      refine z_iconst (v := 0) dX9_isDoneBy_95 (by decide) ?_
      obtain ⟨k1, ek1, uk1, h⟩ := h
      refine z_zast2 (b := false) (k0 := k1) shM_19 (by decide) ek1 uk1 dX9_isDoneBy_96 ?_
      refine z_iinc (x := l4) (v := (l4 + 1)) [(4, .int (l4 + 1)), (0, .ref 0), (1, .int l1), (2, .int l2), (3, .int l3)] dX9_isDoneBy_97 4 rfl rfl (by decide) rfl ?_
      refine z_goto 48 dX9_isDoneBy_100 (by decide) ?_
      exact zW.sub [1, 2, 3, 4, 0] rfl h
    · have h := h.2 c2
      refine z_aload_n dX9_isDoneBy_80 0 rfl ?_
      refine z_iload_n dX9_isDoneBy_81 3 rfl ?_
      refine z_iload dX9_isDoneBy_82 4 rfl ?_
      refine z_iload_n dX9_isDoneBy_84 1 rfl ?_
      refine z_callV (m2 := mX9_takesSome) (st := [.int ((512 * (l3 + 1)) + l4), .ref 19]) [.int l3, .int l4, .int l1] okX9_takesSome (Or.inl lkX9_450) shM_0 rfl rfl rfl (Nat.le_of_ble_eq_true rfl) dX9_isDoneBy_85 (zgo_z h fun b1 M2 h => ?_)
      refine z_ifb_eq 95 dX9_isDoneBy_88 (by decide) (fun c3 => ?_) (fun c3 => ?_)
      · have h := h.1 c3
        refine z_iconst (v := 0) dX9_isDoneBy_95 (by decide) ?_
        obtain ⟨k1, ek1, uk1, h⟩ := h
        refine z_zast2 (b := false) (k0 := k1) shM_19 (by decide) ek1 uk1 dX9_isDoneBy_96 ?_
        refine z_iinc (x := l4) (v := (l4 + 1)) [(4, .int (l4 + 1)), (0, .ref 0), (1, .int l1), (2, .int l2), (3, .int l3)] dX9_isDoneBy_97 4 rfl rfl (by decide) rfl ?_
        refine z_goto 48 dX9_isDoneBy_100 (by decide) ?_
        exact zW.sub [1, 2, 3, 4, 0] rfl h
      · have h := h.2 c3
        refine z_iconst (v := 1) dX9_isDoneBy_91 (by decide) ?_
        refine z_goto 96 dX9_isDoneBy_92 (by decide) ?_
        obtain ⟨k1, ek1, uk1, h⟩ := h
        refine z_zast2 (b := true) (k0 := k1) shM_19 (by decide) ek1 uk1 dX9_isDoneBy_96 ?_
        refine z_iinc (x := l4) (v := (l4 + 1)) [(4, .int (l4 + 1)), (0, .ref 0), (1, .int l1), (2, .int l2), (3, .int l3)] dX9_isDoneBy_97 4 rfl rfl (by decide) rfl ?_
        refine z_goto 48 dX9_isDoneBy_100 (by decide) ?_
        exact zW.sub [1, 2, 3, 4, 0] rfl h
theorem dX9_takesSome_0 : decode cX9_takesSome 0 = .ok (.iload_n 2, 1) := by decide +kernel
theorem dX9_takesSome_1 : decode cX9_takesSome 1 = .ok (.istore 4, 2) := by decide +kernel
theorem dX9_takesSome_3 : decode cX9_takesSome 3 = .ok (.iload 4, 2) := by decide +kernel
theorem dX9_takesSome_5 : decode cX9_takesSome 5 = .ok (.ifCond .lt 69, 3) := by decide +kernel
theorem dX9_takesSome_8 : decode cX9_takesSome 8 = .ok (.aload_n 0, 1) := by decide +kernel
theorem dX9_takesSome_9 : decode cX9_takesSome 9 = .ok (.getfield 68, 3) := by decide +kernel
theorem dX9_takesSome_12 : decode cX9_takesSome 12 = .ok (.sipush 512, 3) := by decide +kernel
theorem dX9_takesSome_15 : decode cX9_takesSome 15 = .ok (.iload_n 1, 1) := by decide +kernel
theorem dX9_takesSome_16 : decode cX9_takesSome 16 = .ok (.imul, 1) := by decide +kernel
theorem dX9_takesSome_17 : decode cX9_takesSome 17 = .ok (.iload_n 2, 1) := by decide +kernel
theorem dX9_takesSome_18 : decode cX9_takesSome 18 = .ok (.iload 4, 2) := by decide +kernel
theorem dX9_takesSome_20 : decode cX9_takesSome 20 = .ok (.iconst (-1), 1) := by decide +kernel
theorem dX9_takesSome_21 : decode cX9_takesSome 21 = .ok (.ixor, 1) := by decide +kernel
theorem dX9_takesSome_22 : decode cX9_takesSome 22 = .ok (.iand, 1) := by decide +kernel
theorem dX9_takesSome_23 : decode cX9_takesSome 23 = .ok (.iadd, 1) := by decide +kernel
theorem dX9_takesSome_24 : decode cX9_takesSome 24 = .ok (.baload, 1) := by decide +kernel
theorem dX9_takesSome_25 : decode cX9_takesSome 25 = .ok (.ifCond .eq 29, 3) := by decide +kernel
theorem dX9_takesSome_28 : decode cX9_takesSome 28 = .ok (.aload_n 0, 1) := by decide +kernel
theorem dX9_takesSome_29 : decode cX9_takesSome 29 = .ok (.getfield 65, 3) := by decide +kernel
theorem dX9_takesSome_32 : decode cX9_takesSome 32 = .ok (.sipush 512, 3) := by decide +kernel
theorem dX9_takesSome_35 : decode cX9_takesSome 35 = .ok (.iload_n 1, 1) := by decide +kernel
theorem dX9_takesSome_36 : decode cX9_takesSome 36 = .ok (.imul, 1) := by decide +kernel
theorem dX9_takesSome_37 : decode cX9_takesSome 37 = .ok (.iload 4, 2) := by decide +kernel
theorem dX9_takesSome_39 : decode cX9_takesSome 39 = .ok (.aload_n 0, 1) := by decide +kernel
theorem dX9_takesSome_40 : decode cX9_takesSome 40 = .ok (.getfield 72, 3) := by decide +kernel
theorem dX9_takesSome_43 : decode cX9_takesSome 43 = .ok (.iload_n 1, 1) := by decide +kernel
theorem dX9_takesSome_44 : decode cX9_takesSome 44 = .ok (.iaload, 1) := by decide +kernel
theorem dX9_takesSome_45 : decode cX9_takesSome 45 = .ok (.ior, 1) := by decide +kernel
theorem dX9_takesSome_46 : decode cX9_takesSome 46 = .ok (.iadd, 1) := by decide +kernel
theorem dX9_takesSome_47 : decode cX9_takesSome 47 = .ok (.iaload, 1) := by decide +kernel
theorem dX9_takesSome_48 : decode cX9_takesSome 48 = .ok (.iload_n 3, 1) := by decide +kernel
theorem dX9_takesSome_49 : decode cX9_takesSome 49 = .ok (.if_icmp .gt 5, 3) := by decide +kernel
theorem dX9_takesSome_52 : decode cX9_takesSome 52 = .ok (.iconst 1, 1) := by decide +kernel
theorem dX9_takesSome_53 : decode cX9_takesSome 53 = .ok (.ireturn, 1) := by decide +kernel
theorem dX9_takesSome_54 : decode cX9_takesSome 54 = .ok (.iload 4, 2) := by decide +kernel
theorem dX9_takesSome_56 : decode cX9_takesSome 56 = .ok (.ifCond .ne 7, 3) := by decide +kernel
theorem dX9_takesSome_59 : decode cX9_takesSome 59 = .ok (.iconst (-1), 1) := by decide +kernel
theorem dX9_takesSome_60 : decode cX9_takesSome 60 = .ok (.goto 9, 3) := by decide +kernel
theorem dX9_takesSome_63 : decode cX9_takesSome 63 = .ok (.iload 4, 2) := by decide +kernel
theorem dX9_takesSome_65 : decode cX9_takesSome 65 = .ok (.iconst 1, 1) := by decide +kernel
theorem dX9_takesSome_66 : decode cX9_takesSome 66 = .ok (.isub, 1) := by decide +kernel
theorem dX9_takesSome_67 : decode cX9_takesSome 67 = .ok (.iload_n 2, 1) := by decide +kernel
theorem dX9_takesSome_68 : decode cX9_takesSome 68 = .ok (.iand, 1) := by decide +kernel
theorem dX9_takesSome_69 : decode cX9_takesSome 69 = .ok (.istore 4, 2) := by decide +kernel
theorem dX9_takesSome_71 : decode cX9_takesSome 71 = .ok (.goto (-68), 3) := by decide +kernel
theorem dX9_takesSome_74 : decode cX9_takesSome 74 = .ok (.iconst 0, 1) := by decide +kernel
theorem dX9_takesSome_75 : decode cX9_takesSome 75 = .ok (.ireturn, 1) := by decide +kernel
set_option maxRecDepth 20000 in
theorem vX9_takesSome {g : zG} {d : Nat} {Q : Bool → zM → Prop} {M : zM} {l1 : Int32} {l2 : Int32} {l3 : Int32} (h : zW shM g d mX9_takesSome (zz Q) 3 [(0, .ref 0), (1, .int l1), (2, .int l2), (3, .int l3), (4, .int l2)] [] M) : zCz shM g d mX9_takesSome [.ref 0, .int l1, .int l2, .int l3] M Q := by
  refine zW.enter (by decide +kernel) (Nat.le_of_ble_eq_true rfl) ?_
  change zW shM g d mX9_takesSome (zz Q) 0 [(0, .ref 0), (1, .int l1), (2, .int l2), (3, .int l3)] [] M
  refine z_iload_n dX9_takesSome_0 2 rfl ?_
  refine z_istore [(4, .int l2), (0, .ref 0), (1, .int l1), (2, .int l2), (3, .int l3)] dX9_takesSome_1 (by decide) rfl ?_
  exact zW.sub [1, 2, 3, 4, 0] rfl h
set_option maxRecDepth 20000 in
theorem vX9_takesSome_3 {g : zG} {d : Nat} {Q : Bool → zM → Prop} {M : zM} {l1 : Int32} {l2 : Int32} {l3 : Int32} {l4 : Int32} (h : (l4 < 0 → Q false M) ∧ (¬ l4 < 0 → ∃ k1 : Nat, ((512 * l1) + (l2 &&& (l4 ^^^ (-1)))) = iv k1 ∧ k1 < 3584 ∧ ((M 19 k1) = 0 → zW shM g d mX9_takesSome (zz Q) 54 [(0, .ref 0), (1, .int l1), (2, .int l2), (3, .int l3), (4, .int l4)] [] M) ∧ (¬ (M 19 k1) = 0 → ∃ k2 : Nat, l1 = iv k2 ∧ k2 < 6 ∧ ∃ k3 : Nat, ((512 * l1) + (l4 ||| (M 20 k2))) = iv k3 ∧ k3 < 3072 ∧ (l3 < (M 18 k3) → zW shM g d mX9_takesSome (zz Q) 54 [(0, .ref 0), (1, .int l1), (2, .int l2), (3, .int l3), (4, .int l4)] [] M) ∧ (¬ l3 < (M 18 k3) → Q true M)))) : zW shM g d mX9_takesSome (zz Q) 3 [(0, .ref 0), (1, .int l1), (2, .int l2), (3, .int l3), (4, .int l4)] [] M := by
  refine z_iload dX9_takesSome_3 4 rfl ?_
  refine z_if_lt 74 dX9_takesSome_5 (by decide) (fun c1 => ?_) (fun c1 => ?_)
  · have h := h.1 c1
    refine z_iconst (v := 0) dX9_takesSome_74 (by decide) ?_
    exact z_zret (b := false) rfl rfl dX9_takesSome_75 h
  · have h := h.2 c1
    refine z_aload_n dX9_takesSome_8 0 rfl ?_
    refine z_getr shM_0 rfl flX9_68 dX9_takesSome_9 ?_
    refine z_sipush (v := 512) dX9_takesSome_12 (by decide) ?_
    refine z_iload_n dX9_takesSome_15 1 rfl ?_
    refine z_imul dX9_takesSome_16 ?_
    refine z_iload_n dX9_takesSome_17 2 rfl ?_
    refine z_iload dX9_takesSome_18 4 rfl ?_
    refine z_iconst (v := (-1)) dX9_takesSome_20 (by decide) ?_
    refine z_ixor dX9_takesSome_21 ?_
    refine z_iand dX9_takesSome_22 ?_
    refine z_iadd dX9_takesSome_23 ?_
    obtain ⟨k1, ek1, uk1, h⟩ := h
    refine z_zald2 (k0 := k1) shM_19 (by decide) ek1 uk1 dX9_takesSome_24 ?_
    refine z_if_eq 54 dX9_takesSome_25 (by decide) (fun c2 => ?_) (fun c2 => ?_)
    · have h := h.1 c2
      exact h
    · have h := h.2 c2
      refine z_aload_n dX9_takesSome_28 0 rfl ?_
      refine z_getr shM_0 rfl flX9_65 dX9_takesSome_29 ?_
      refine z_sipush (v := 512) dX9_takesSome_32 (by decide) ?_
      refine z_iload_n dX9_takesSome_35 1 rfl ?_
      refine z_imul dX9_takesSome_36 ?_
      refine z_iload dX9_takesSome_37 4 rfl ?_
      refine z_aload_n dX9_takesSome_39 0 rfl ?_
      refine z_getr shM_0 rfl flX9_72 dX9_takesSome_40 ?_
      refine z_iload_n dX9_takesSome_43 1 rfl ?_
      obtain ⟨k2, ek2, uk2, h⟩ := h
      refine z_iald2 (k0 := k2) shM_20 (by decide) ek2 uk2 dX9_takesSome_44 ?_
      refine z_ior dX9_takesSome_45 ?_
      refine z_iadd dX9_takesSome_46 ?_
      obtain ⟨k3, ek3, uk3, h⟩ := h
      refine z_iald2 (k0 := k3) shM_18 (by decide) ek3 uk3 dX9_takesSome_47 ?_
      refine z_iload_n dX9_takesSome_48 3 rfl ?_
      refine z_icmp_gt 54 dX9_takesSome_49 (by decide) (fun c3 => ?_) (fun c3 => ?_)
      · have h := h.1 c3
        exact h
      · have h := h.2 c3
        refine z_iconst (v := 1) dX9_takesSome_52 (by decide) ?_
        exact z_zret (b := true) rfl rfl dX9_takesSome_53 h
set_option maxRecDepth 20000 in
theorem vX9_takesSome_54 {g : zG} {d : Nat} {Q : Bool → zM → Prop} {M : zM} {l1 : Int32} {l2 : Int32} {l3 : Int32} {l4 : Int32} (h : (¬ l4 = 0 → zW shM g d mX9_takesSome (zz Q) 3 [(0, .ref 0), (1, .int l1), (2, .int l2), (3, .int l3), (4, .int ((l4 - 1) &&& l2))] [] M) ∧ (l4 = 0 → zW shM g d mX9_takesSome (zz Q) 3 [(0, .ref 0), (1, .int l1), (2, .int l2), (3, .int l3), (4, .int (-1))] [] M)) : zW shM g d mX9_takesSome (zz Q) 54 [(0, .ref 0), (1, .int l1), (2, .int l2), (3, .int l3), (4, .int l4)] [] M := by
  refine z_iload dX9_takesSome_54 4 rfl ?_
  refine z_if_ne 63 dX9_takesSome_56 (by decide) (fun c1 => ?_) (fun c1 => ?_)
  · have h := h.1 c1
    refine z_iload dX9_takesSome_63 4 rfl ?_
    refine z_iconst (v := 1) dX9_takesSome_65 (by decide) ?_
    refine z_isub dX9_takesSome_66 ?_
    refine z_iload_n dX9_takesSome_67 2 rfl ?_
    refine z_iand dX9_takesSome_68 ?_
    refine z_istore [(4, .int ((l4 - 1) &&& l2)), (0, .ref 0), (1, .int l1), (2, .int l2), (3, .int l3)] dX9_takesSome_69 (by decide) rfl ?_
    refine z_goto 3 dX9_takesSome_71 (by decide) ?_
    exact zW.sub [1, 2, 3, 4, 0] rfl h
  · have h := h.2 c1
    refine z_iconst (v := (-1)) dX9_takesSome_59 (by decide) ?_
    refine z_goto 69 dX9_takesSome_60 (by decide) ?_
    refine z_istore [(4, .int (-1)), (0, .ref 0), (1, .int l1), (2, .int l2), (3, .int l3)] dX9_takesSome_69 (by decide) rfl ?_
    refine z_goto 3 dX9_takesSome_71 (by decide) ?_
    exact zW.sub [1, 2, 3, 4, 0] rfl h
theorem dX9_soonestSteps_0 : decode cX9_soonestSteps 0 = .ok (.iconst 0, 1) := by decide +kernel
theorem dX9_soonestSteps_1 : decode cX9_soonestSteps 1 = .ok (.istore_n 1, 1) := by decide +kernel
theorem dX9_soonestSteps_2 : decode cX9_soonestSteps 2 = .ok (.iload_n 1, 1) := by decide +kernel
theorem dX9_soonestSteps_3 : decode cX9_soonestSteps 3 = .ok (.bipush 6, 2) := by decide +kernel
theorem dX9_soonestSteps_5 : decode cX9_soonestSteps 5 = .ok (.if_icmp .ge 16, 3) := by decide +kernel
theorem dX9_soonestSteps_8 : decode cX9_soonestSteps 8 = .ok (.aload_n 0, 1) := by decide +kernel
theorem dX9_soonestSteps_9 : decode cX9_soonestSteps 9 = .ok (.getfield 72, 3) := by decide +kernel
theorem dX9_soonestSteps_12 : decode cX9_soonestSteps 12 = .ok (.iload_n 1, 1) := by decide +kernel
theorem dX9_soonestSteps_13 : decode cX9_soonestSteps 13 = .ok (.iconst 0, 1) := by decide +kernel
theorem dX9_soonestSteps_14 : decode cX9_soonestSteps 14 = .ok (.iastore, 1) := by decide +kernel
theorem dX9_soonestSteps_15 : decode cX9_soonestSteps 15 = .ok (.iinc 1 1, 3) := by decide +kernel
theorem dX9_soonestSteps_18 : decode cX9_soonestSteps 18 = .ok (.goto (-16), 3) := by decide +kernel
theorem dX9_soonestSteps_21 : decode cX9_soonestSteps 21 = .ok (.iconst 0, 1) := by decide +kernel
theorem dX9_soonestSteps_22 : decode cX9_soonestSteps 22 = .ok (.istore_n 1, 1) := by decide +kernel
theorem dX9_soonestSteps_23 : decode cX9_soonestSteps 23 = .ok (.aload_n 0, 1) := by decide +kernel
theorem dX9_soonestSteps_24 : decode cX9_soonestSteps 24 = .ok (.iload_n 1, 1) := by decide +kernel
theorem dX9_soonestSteps_25 : decode cX9_soonestSteps 25 = .ok (.aload_n 0, 1) := by decide +kernel
theorem dX9_soonestSteps_26 : decode cX9_soonestSteps 26 = .ok (.invokevirtual 433, 3) := by decide +kernel
theorem dX9_soonestSteps_29 : decode cX9_soonestSteps 29 = .ok (.invokevirtual 453, 3) := by decide +kernel
theorem dX9_soonestSteps_32 : decode cX9_soonestSteps 32 = .ok (.ifCond .ne 9, 3) := by decide +kernel
theorem dX9_soonestSteps_35 : decode cX9_soonestSteps 35 = .ok (.iinc 1 1, 3) := by decide +kernel
theorem dX9_soonestSteps_38 : decode cX9_soonestSteps 38 = .ok (.goto (-15), 3) := by decide +kernel
theorem dX9_soonestSteps_41 : decode cX9_soonestSteps 41 = .ok (.iload_n 1, 1) := by decide +kernel
theorem dX9_soonestSteps_42 : decode cX9_soonestSteps 42 = .ok (.ireturn, 1) := by decide +kernel
set_option maxRecDepth 20000 in
theorem vX9_soonestSteps {g : zG} {d : Nat} {Q : Int32 → zM → Prop} {M : zM} (h : zW shM g (d + 1) mX9_soonestSteps (zi Q) 2 [(0, .ref 0), (1, .int 0)] [] M) : zCi shM g (d + 1) mX9_soonestSteps [.ref 0] M Q := by
  refine zW.enter (by decide +kernel) (Nat.le_of_ble_eq_true rfl) ?_
  change zW shM g (d + 1) mX9_soonestSteps (zi Q) 0 [(0, .ref 0)] [] M
  refine z_iconst (v := 0) dX9_soonestSteps_0 (by decide) ?_
  refine z_istore_n [(1, .int 0), (0, .ref 0)] dX9_soonestSteps_1 (by decide) rfl ?_
  exact zW.sub [1, 0] rfl h
set_option maxRecDepth 20000 in
theorem vX9_soonestSteps_2 {g : zG} {d : Nat} {Q : Int32 → zM → Prop} {M : zM} {l1 : Int32} (h : (6 ≤ l1 → zW shM g (d + 1) mX9_soonestSteps (zi Q) 23 [(0, .ref 0), (1, .int 0)] [] M) ∧ (¬ 6 ≤ l1 → ∃ k1 : Nat, l1 = iv k1 ∧ k1 < 6 ∧ zW shM g (d + 1) mX9_soonestSteps (zi Q) 2 [(0, .ref 0), (1, .int (l1 + 1))] [] (zup M 20 k1 0))) : zW shM g (d + 1) mX9_soonestSteps (zi Q) 2 [(0, .ref 0), (1, .int l1)] [] M := by
  refine z_iload_n dX9_soonestSteps_2 1 rfl ?_
  refine z_bipush (v := 6) dX9_soonestSteps_3 (by decide) ?_
  refine z_icmp_ge 21 dX9_soonestSteps_5 (by decide) (fun c1 => ?_) (fun c1 => ?_)
  · have h := h.1 c1
    refine z_iconst (v := 0) dX9_soonestSteps_21 (by decide) ?_
    refine z_istore_n [(1, .int 0), (0, .ref 0)] dX9_soonestSteps_22 (by decide) rfl ?_
    exact zW.sub [1, 0] rfl h
  · have h := h.2 c1
    refine z_aload_n dX9_soonestSteps_8 0 rfl ?_
    refine z_getr shM_0 rfl flX9_72 dX9_soonestSteps_9 ?_
    refine z_iload_n dX9_soonestSteps_12 1 rfl ?_
    refine z_iconst (v := 0) dX9_soonestSteps_13 (by decide) ?_
    obtain ⟨k1, ek1, uk1, h⟩ := h
    refine z_iast2 (k0 := k1) shM_20 (by decide) ek1 uk1 dX9_soonestSteps_14 ?_
    refine z_iinc (x := l1) (v := (l1 + 1)) [(1, .int (l1 + 1)), (0, .ref 0)] dX9_soonestSteps_15 1 rfl rfl (by decide) rfl ?_
    refine z_goto 2 dX9_soonestSteps_18 (by decide) ?_
    exact zW.sub [1, 0] rfl h
set_option maxRecDepth 20000 in
theorem vX9_soonestSteps_23 {g : zG} {d : Nat} {Q : Int32 → zM → Prop} {M : zM} {l1 : Int32} (h : zCi shM g d mX9_all [.ref 0] M (fun x1 M1 => zCz shM g d mX9_isDoneBy [.ref 0, .int l1, .int x1] M1 (fun b1 M2 => (b1 = true → Q l1 M2) ∧ (b1 = false → zW shM g (d + 1) mX9_soonestSteps (zi Q) 23 [(0, .ref 0), (1, .int (l1 + 1))] [] M2)))) : zW shM g (d + 1) mX9_soonestSteps (zi Q) 23 [(0, .ref 0), (1, .int l1)] [] M := by
  refine z_aload_n dX9_soonestSteps_23 0 rfl ?_
  refine z_iload_n dX9_soonestSteps_24 1 rfl ?_
  refine z_aload_n dX9_soonestSteps_25 0 rfl ?_
  refine z_callV (m2 := mX9_all) (st := [.int l1, .ref 0]) [] okX9_all (Or.inl lkX9_433) shM_0 rfl rfl rfl (Nat.le_of_ble_eq_true rfl) dX9_soonestSteps_26 (zgo_i h fun x1 M1 h => ?_)
  refine z_callV (m2 := mX9_isDoneBy) (st := []) [.int l1, .int x1] okX9_isDoneBy (Or.inl lkX9_453) shM_0 rfl rfl rfl (Nat.le_of_ble_eq_true rfl) dX9_soonestSteps_29 (zgo_z h fun b1 M2 h => ?_)
  refine z_ifb_ne 41 dX9_soonestSteps_32 (by decide) (fun c1 => ?_) (fun c1 => ?_)
  · have h := h.1 c1
    refine z_iload_n dX9_soonestSteps_41 1 rfl ?_
    exact z_iret (st := []) rfl rfl dX9_soonestSteps_42 ⟨_, rfl, h⟩
  · have h := h.2 c1
    refine z_iinc (x := l1) (v := (l1 + 1)) [(1, .int (l1 + 1)), (0, .ref 0)] dX9_soonestSteps_35 1 rfl rfl (by decide) rfl ?_
    refine z_goto 23 dX9_soonestSteps_38 (by decide) ?_
    exact zW.sub [1, 0] rfl h
theorem dX9_takerOf_0 : decode cX9_takerOf 0 = .ok (.aload_n 0, 1) := by decide +kernel
theorem dX9_takerOf_1 : decode cX9_takerOf 1 = .ok (.invokevirtual 433, 3) := by decide +kernel
theorem dX9_takerOf_4 : decode cX9_takerOf 4 = .ok (.istore_n 3, 1) := by decide +kernel
theorem dX9_takerOf_5 : decode cX9_takerOf 5 = .ok (.iconst (-1), 1) := by decide +kernel
theorem dX9_takerOf_6 : decode cX9_takerOf 6 = .ok (.istore 4, 2) := by decide +kernel
theorem dX9_takerOf_8 : decode cX9_takerOf 8 = .ok (.iconst 0, 1) := by decide +kernel
theorem dX9_takerOf_9 : decode cX9_takerOf 9 = .ok (.istore 5, 2) := by decide +kernel
theorem dX9_takerOf_11 : decode cX9_takerOf 11 = .ok (.iload 5, 2) := by decide +kernel
theorem dX9_takerOf_13 : decode cX9_takerOf 13 = .ok (.iload_n 1, 1) := by decide +kernel
theorem dX9_takerOf_14 : decode cX9_takerOf 14 = .ok (.if_icmp .gt 81, 3) := by decide +kernel
theorem dX9_takerOf_17 : decode cX9_takerOf 17 = .ok (.iload_n 3, 1) := by decide +kernel
theorem dX9_takerOf_18 : decode cX9_takerOf 18 = .ok (.iconst 1, 1) := by decide +kernel
theorem dX9_takerOf_19 : decode cX9_takerOf 19 = .ok (.iload 5, 2) := by decide +kernel
theorem dX9_takerOf_21 : decode cX9_takerOf 21 = .ok (.ishl, 1) := by decide +kernel
theorem dX9_takerOf_22 : decode cX9_takerOf 22 = .ok (.iconst (-1), 1) := by decide +kernel
theorem dX9_takerOf_23 : decode cX9_takerOf 23 = .ok (.ixor, 1) := by decide +kernel
theorem dX9_takerOf_24 : decode cX9_takerOf 24 = .ok (.iand, 1) := by decide +kernel
theorem dX9_takerOf_25 : decode cX9_takerOf 25 = .ok (.istore_n 3, 1) := by decide +kernel
theorem dX9_takerOf_26 : decode cX9_takerOf 26 = .ok (.iconst 0, 1) := by decide +kernel
theorem dX9_takerOf_27 : decode cX9_takerOf 27 = .ok (.istore 4, 2) := by decide +kernel
theorem dX9_takerOf_29 : decode cX9_takerOf 29 = .ok (.iconst 0, 1) := by decide +kernel
theorem dX9_takerOf_30 : decode cX9_takerOf 30 = .ok (.istore 6, 2) := by decide +kernel
theorem dX9_takerOf_32 : decode cX9_takerOf 32 = .ok (.iload 6, 2) := by decide +kernel
theorem dX9_takerOf_34 : decode cX9_takerOf 34 = .ok (.ifCond .ne 55, 3) := by decide +kernel
theorem dX9_takerOf_37 : decode cX9_takerOf 37 = .ok (.aload_n 0, 1) := by decide +kernel
theorem dX9_takerOf_38 : decode cX9_takerOf 38 = .ok (.getfield 72, 3) := by decide +kernel
theorem dX9_takerOf_41 : decode cX9_takerOf 41 = .ok (.iload 4, 2) := by decide +kernel
theorem dX9_takerOf_43 : decode cX9_takerOf 43 = .ok (.dup2, 1) := by decide +kernel
theorem dX9_takerOf_44 : decode cX9_takerOf 44 = .ok (.iaload, 1) := by decide +kernel
theorem dX9_takerOf_45 : decode cX9_takerOf 45 = .ok (.iconst 1, 1) := by decide +kernel
theorem dX9_takerOf_46 : decode cX9_takerOf 46 = .ok (.iload 5, 2) := by decide +kernel
theorem dX9_takerOf_48 : decode cX9_takerOf 48 = .ok (.ishl, 1) := by decide +kernel
theorem dX9_takerOf_49 : decode cX9_takerOf 49 = .ok (.ior, 1) := by decide +kernel
theorem dX9_takerOf_50 : decode cX9_takerOf 50 = .ok (.iastore, 1) := by decide +kernel
theorem dX9_takerOf_51 : decode cX9_takerOf 51 = .ok (.aload_n 0, 1) := by decide +kernel
theorem dX9_takerOf_52 : decode cX9_takerOf 52 = .ok (.iload_n 2, 1) := by decide +kernel
theorem dX9_takerOf_53 : decode cX9_takerOf 53 = .ok (.iload_n 3, 1) := by decide +kernel
theorem dX9_takerOf_54 : decode cX9_takerOf 54 = .ok (.invokevirtual 453, 3) := by decide +kernel
theorem dX9_takerOf_57 : decode cX9_takerOf 57 = .ok (.istore 6, 2) := by decide +kernel
theorem dX9_takerOf_59 : decode cX9_takerOf 59 = .ok (.iload 6, 2) := by decide +kernel
theorem dX9_takerOf_61 : decode cX9_takerOf 61 = .ok (.ifCond .eq 6, 3) := by decide +kernel
theorem dX9_takerOf_64 : decode cX9_takerOf 64 = .ok (.goto (-32), 3) := by decide +kernel
theorem dX9_takerOf_67 : decode cX9_takerOf 67 = .ok (.aload_n 0, 1) := by decide +kernel
theorem dX9_takerOf_68 : decode cX9_takerOf 68 = .ok (.getfield 72, 3) := by decide +kernel
theorem dX9_takerOf_71 : decode cX9_takerOf 71 = .ok (.iload 4, 2) := by decide +kernel
theorem dX9_takerOf_73 : decode cX9_takerOf 73 = .ok (.dup2, 1) := by decide +kernel
theorem dX9_takerOf_74 : decode cX9_takerOf 74 = .ok (.iaload, 1) := by decide +kernel
theorem dX9_takerOf_75 : decode cX9_takerOf 75 = .ok (.iconst 1, 1) := by decide +kernel
theorem dX9_takerOf_76 : decode cX9_takerOf 76 = .ok (.iload 5, 2) := by decide +kernel
theorem dX9_takerOf_78 : decode cX9_takerOf 78 = .ok (.ishl, 1) := by decide +kernel
theorem dX9_takerOf_79 : decode cX9_takerOf 79 = .ok (.iconst (-1), 1) := by decide +kernel
theorem dX9_takerOf_80 : decode cX9_takerOf 80 = .ok (.ixor, 1) := by decide +kernel
theorem dX9_takerOf_81 : decode cX9_takerOf 81 = .ok (.iand, 1) := by decide +kernel
theorem dX9_takerOf_82 : decode cX9_takerOf 82 = .ok (.iastore, 1) := by decide +kernel
theorem dX9_takerOf_83 : decode cX9_takerOf 83 = .ok (.iinc 4 1, 3) := by decide +kernel
theorem dX9_takerOf_86 : decode cX9_takerOf 86 = .ok (.goto (-54), 3) := by decide +kernel
theorem dX9_takerOf_89 : decode cX9_takerOf 89 = .ok (.iinc 5 1, 3) := by decide +kernel
theorem dX9_takerOf_92 : decode cX9_takerOf 92 = .ok (.goto (-81), 3) := by decide +kernel
theorem dX9_takerOf_95 : decode cX9_takerOf 95 = .ok (.iload 4, 2) := by decide +kernel
theorem dX9_takerOf_97 : decode cX9_takerOf 97 = .ok (.ireturn, 1) := by decide +kernel
set_option maxRecDepth 20000 in
theorem vX9_takerOf {g : zG} {d : Nat} {Q : Int32 → zM → Prop} {M : zM} {l1 : Int32} {l2 : Int32} (h : zCi shM g d mX9_all [.ref 0] M (fun x1 M1 => zW shM g (d + 1) mX9_takerOf (zi Q) 11 [(0, .ref 0), (1, .int l1), (2, .int l2), (3, .int x1), (4, .int (-1)), (5, .int 0)] [] M1)) : zCi shM g (d + 1) mX9_takerOf [.ref 0, .int l1, .int l2] M Q := by
  refine zW.enter (by decide +kernel) (Nat.le_of_ble_eq_true rfl) ?_
  change zW shM g (d + 1) mX9_takerOf (zi Q) 0 [(0, .ref 0), (1, .int l1), (2, .int l2)] [] M
  refine z_aload_n dX9_takerOf_0 0 rfl ?_
  refine z_callV (m2 := mX9_all) (st := []) [] okX9_all (Or.inl lkX9_433) shM_0 rfl rfl rfl (Nat.le_of_ble_eq_true rfl) dX9_takerOf_1 (zgo_i h fun x1 M1 h => ?_)
  refine z_istore_n [(3, .int x1), (0, .ref 0), (1, .int l1), (2, .int l2)] dX9_takerOf_4 (by decide) rfl ?_
  refine z_iconst (v := (-1)) dX9_takerOf_5 (by decide) ?_
  refine z_istore [(4, .int (-1)), (3, .int x1), (0, .ref 0), (1, .int l1), (2, .int l2)] dX9_takerOf_6 (by decide) rfl ?_
  refine z_iconst (v := 0) dX9_takerOf_8 (by decide) ?_
  refine z_istore [(5, .int 0), (4, .int (-1)), (3, .int x1), (0, .ref 0), (1, .int l1), (2, .int l2)] dX9_takerOf_9 (by decide) rfl ?_
  exact zW.sub [3, 4, 5, 2, 1, 0] rfl h
set_option maxRecDepth 20000 in
theorem vX9_takerOf_11 {g : zG} {d : Nat} {Q : Int32 → zM → Prop} {M : zM} {l1 : Int32} {l2 : Int32} {l3 : Int32} {l4 : Int32} {l5 : Int32} (h : (l1 < l5 → Q l4 M) ∧ (¬ l1 < l5 → zW shM g (d + 1) mX9_takerOf (zi Q) 32 [(0, .ref 0), (1, .int l1), (2, .int l2), (3, .int (l3 &&& ((1 <<< (l5 &&& 31)) ^^^ (-1)))), (4, .int 0), (5, .int l5), (6, .int 0)] [] M)) : zW shM g (d + 1) mX9_takerOf (zi Q) 11 [(0, .ref 0), (1, .int l1), (2, .int l2), (3, .int l3), (4, .int l4), (5, .int l5)] [] M := by
  refine z_iload dX9_takerOf_11 5 rfl ?_
  refine z_iload_n dX9_takerOf_13 1 rfl ?_
  refine z_icmp_gt 95 dX9_takerOf_14 (by decide) (fun c1 => ?_) (fun c1 => ?_)
  · have h := h.1 c1
    refine z_iload dX9_takerOf_95 4 rfl ?_
    exact z_iret (st := []) rfl rfl dX9_takerOf_97 ⟨_, rfl, h⟩
  · have h := h.2 c1
    refine z_iload_n dX9_takerOf_17 3 rfl ?_
    refine z_iconst (v := 1) dX9_takerOf_18 (by decide) ?_
    refine z_iload dX9_takerOf_19 5 rfl ?_
    refine z_ishl dX9_takerOf_21 ?_
    refine z_iconst (v := (-1)) dX9_takerOf_22 (by decide) ?_
    refine z_ixor dX9_takerOf_23 ?_
    refine z_iand dX9_takerOf_24 ?_
    refine z_istore_n [(3, .int (l3 &&& ((1 <<< (l5 &&& 31)) ^^^ (-1)))), (0, .ref 0), (1, .int l1), (2, .int l2), (4, .int l4), (5, .int l5)] dX9_takerOf_25 (by decide) rfl ?_
    refine z_iconst (v := 0) dX9_takerOf_26 (by decide) ?_
    refine z_istore [(4, .int 0), (3, .int (l3 &&& ((1 <<< (l5 &&& 31)) ^^^ (-1)))), (0, .ref 0), (1, .int l1), (2, .int l2), (5, .int l5)] dX9_takerOf_27 (by decide) rfl ?_
    refine z_iconst (v := 0) dX9_takerOf_29 (by decide) ?_
    refine z_istore [(6, .int 0), (4, .int 0), (3, .int (l3 &&& ((1 <<< (l5 &&& 31)) ^^^ (-1)))), (0, .ref 0), (1, .int l1), (2, .int l2), (5, .int l5)] dX9_takerOf_30 (by decide) rfl ?_
    exact zW.sub [3, 4, 5, 2, 1, 6, 0] rfl h
set_option maxRecDepth 20000 in
theorem vX9_takerOf_32 {g : zG} {d : Nat} {Q : Int32 → zM → Prop} {M : zM} {l1 : Int32} {l2 : Int32} {l3 : Int32} {l4 : Int32} {l5 : Int32} {l6 : Int32} (h : (¬ l6 = 0 → zW shM g (d + 1) mX9_takerOf (zi Q) 11 [(0, .ref 0), (1, .int l1), (2, .int l2), (3, .int l3), (4, .int l4), (5, .int (l5 + 1))] [] M) ∧ (l6 = 0 → ∃ k1 : Nat, l4 = iv k1 ∧ k1 < 6 ∧ zCz shM g d mX9_isDoneBy [.ref 0, .int l2, .int l3] (zup M 20 k1 ((M 20 k1) ||| (1 <<< (l5 &&& 31)))) (fun b1 M1 => (b1 = false → zW shM g (d + 1) mX9_takerOf (zi Q) 32 [(0, .ref 0), (1, .int l1), (2, .int l2), (3, .int l3), (4, .int (l4 + 1)), (5, .int l5), (6, .int (zbI b1))] [] (zup M1 20 k1 ((M1 20 k1) &&& ((1 <<< (l5 &&& 31)) ^^^ (-1))))) ∧ (b1 = true → zW shM g (d + 1) mX9_takerOf (zi Q) 32 [(0, .ref 0), (1, .int l1), (2, .int l2), (3, .int l3), (4, .int l4), (5, .int l5), (6, .int (zbI b1))] [] M1)))) : zW shM g (d + 1) mX9_takerOf (zi Q) 32 [(0, .ref 0), (1, .int l1), (2, .int l2), (3, .int l3), (4, .int l4), (5, .int l5), (6, .int l6)] [] M := by
  refine z_iload dX9_takerOf_32 6 rfl ?_
  refine z_if_ne 89 dX9_takerOf_34 (by decide) (fun c1 => ?_) (fun c1 => ?_)
  · have h := h.1 c1
    refine z_iinc (x := l5) (v := (l5 + 1)) [(5, .int (l5 + 1)), (0, .ref 0), (1, .int l1), (2, .int l2), (3, .int l3), (4, .int l4), (6, .int l6)] dX9_takerOf_89 5 rfl rfl (by decide) rfl ?_
    refine z_goto 11 dX9_takerOf_92 (by decide) ?_
    exact zW.sub [1, 2, 3, 4, 5, 0] rfl h
  · have h := h.2 c1
    refine z_aload_n dX9_takerOf_37 0 rfl ?_
    refine z_getr shM_0 rfl flX9_72 dX9_takerOf_38 ?_
    refine z_iload dX9_takerOf_41 4 rfl ?_
    refine z_dup2 dX9_takerOf_43 ?_
    obtain ⟨k1, ek1, uk1, h⟩ := h
    refine z_iald2 (k0 := k1) shM_20 (by decide) ek1 uk1 dX9_takerOf_44 ?_
    refine z_iconst (v := 1) dX9_takerOf_45 (by decide) ?_
    refine z_iload dX9_takerOf_46 5 rfl ?_
    refine z_ishl dX9_takerOf_48 ?_
    refine z_ior dX9_takerOf_49 ?_
    refine z_iast2 (k0 := k1) shM_20 (by decide) ek1 uk1 dX9_takerOf_50 ?_
    refine z_aload_n dX9_takerOf_51 0 rfl ?_
    refine z_iload_n dX9_takerOf_52 2 rfl ?_
    refine z_iload_n dX9_takerOf_53 3 rfl ?_
    refine z_callV (m2 := mX9_isDoneBy) (st := []) [.int l2, .int l3] okX9_isDoneBy (Or.inl lkX9_453) shM_0 rfl rfl rfl (Nat.le_of_ble_eq_true rfl) dX9_takerOf_54 (zgo_z h fun b1 M1 h => ?_)
    refine z_istore [(6, .int (zbI b1)), (0, .ref 0), (1, .int l1), (2, .int l2), (3, .int l3), (4, .int l4), (5, .int l5)] dX9_takerOf_57 (by decide) rfl ?_
    refine z_iload dX9_takerOf_59 0 rfl ?_
    refine z_ifb_eq 67 dX9_takerOf_61 (by decide) (fun c2 => ?_) (fun c2 => ?_)
    · have h := h.1 c2
      refine z_aload_n dX9_takerOf_67 1 rfl ?_
      refine z_getr shM_0 rfl flX9_72 dX9_takerOf_68 ?_
      refine z_iload dX9_takerOf_71 5 rfl ?_
      refine z_dup2 dX9_takerOf_73 ?_
      refine z_iald2 (k0 := k1) shM_20 (by decide) ek1 uk1 dX9_takerOf_74 ?_
      refine z_iconst (v := 1) dX9_takerOf_75 (by decide) ?_
      refine z_iload dX9_takerOf_76 6 rfl ?_
      refine z_ishl dX9_takerOf_78 ?_
      refine z_iconst (v := (-1)) dX9_takerOf_79 (by decide) ?_
      refine z_ixor dX9_takerOf_80 ?_
      refine z_iand dX9_takerOf_81 ?_
      refine z_iast2 (k0 := k1) shM_20 (by decide) ek1 uk1 dX9_takerOf_82 ?_
      refine z_iinc (x := l4) (v := (l4 + 1)) [(4, .int (l4 + 1)), (6, .int (zbI b1)), (0, .ref 0), (1, .int l1), (2, .int l2), (3, .int l3), (5, .int l5)] dX9_takerOf_83 5 rfl rfl (by decide) rfl ?_
      refine z_goto 32 dX9_takerOf_86 (by decide) ?_
      exact zW.sub [2, 3, 4, 5, 0, 6, 1] rfl h
    · have h := h.2 c2
      refine z_goto 32 dX9_takerOf_64 (by decide) ?_
      exact zW.sub [1, 2, 3, 4, 5, 6, 0] rfl h
theorem dX9_soonest_0 : decode cX9_soonest 0 = .ok (.aload_n 0, 1) := by decide +kernel
theorem dX9_soonest_1 : decode cX9_soonest 1 = .ok (.getfield 7, 3) := by decide +kernel
theorem dX9_soonest_4 : decode cX9_soonest 4 = .ok (.sipush 154, 3) := by decide +kernel
theorem dX9_soonest_7 : decode cX9_soonest 7 = .ok (.iaload, 1) := by decide +kernel
theorem dX9_soonest_8 : decode cX9_soonest 8 = .ok (.ifCond .eq 31, 3) := by decide +kernel
theorem dX9_soonest_11 : decode cX9_soonest 11 = .ok (.aload_n 0, 1) := by decide +kernel
theorem dX9_soonest_12 : decode cX9_soonest 12 = .ok (.lload_n 1, 1) := by decide +kernel
theorem dX9_soonest_13 : decode cX9_soonest 13 = .ok (.invokevirtual 443, 3) := by decide +kernel
theorem dX9_soonest_16 : decode cX9_soonest 16 = .ok (.ifCond .eq 23, 3) := by decide +kernel
theorem dX9_soonest_19 : decode cX9_soonest 19 = .ok (.iload_n 3, 1) := by decide +kernel
theorem dX9_soonest_20 : decode cX9_soonest 20 = .ok (.ifCond .eq 21, 3) := by decide +kernel
theorem dX9_soonest_23 : decode cX9_soonest 23 = .ok (.iload_n 3, 1) := by decide +kernel
theorem dX9_soonest_24 : decode cX9_soonest 24 = .ok (.bipush 10, 2) := by decide +kernel
theorem dX9_soonest_26 : decode cX9_soonest 26 = .ok (.bipush 9, 2) := by decide +kernel
theorem dX9_soonest_28 : decode cX9_soonest 28 = .ok (.aload_n 0, 1) := by decide +kernel
theorem dX9_soonest_29 : decode cX9_soonest 29 = .ok (.getfield 430, 3) := by decide +kernel
theorem dX9_soonest_32 : decode cX9_soonest 32 = .ok (.iadd, 1) := by decide +kernel
theorem dX9_soonest_33 : decode cX9_soonest 33 = .ok (.invokestatic 97, 3) := by decide +kernel
theorem dX9_soonest_36 : decode cX9_soonest 36 = .ok (.ifCond .ne 5, 3) := by decide +kernel
theorem dX9_soonest_39 : decode cX9_soonest 39 = .ok (.iconst (-1), 1) := by decide +kernel
theorem dX9_soonest_40 : decode cX9_soonest 40 = .ok (.ireturn, 1) := by decide +kernel
theorem dX9_soonest_41 : decode cX9_soonest 41 = .ok (.aload_n 0, 1) := by decide +kernel
theorem dX9_soonest_42 : decode cX9_soonest 42 = .ok (.invokevirtual 456, 3) := by decide +kernel
theorem dX9_soonest_45 : decode cX9_soonest 45 = .ok (.aload_n 0, 1) := by decide +kernel
theorem dX9_soonest_46 : decode cX9_soonest 46 = .ok (.invokevirtual 459, 3) := by decide +kernel
theorem dX9_soonest_49 : decode cX9_soonest 49 = .ok (.istore 4, 2) := by decide +kernel
theorem dX9_soonest_51 : decode cX9_soonest 51 = .ok (.iload_n 3, 1) := by decide +kernel
theorem dX9_soonest_52 : decode cX9_soonest 52 = .ok (.ifCond .ne 8, 3) := by decide +kernel
theorem dX9_soonest_55 : decode cX9_soonest 55 = .ok (.iload 4, 2) := by decide +kernel
theorem dX9_soonest_57 : decode cX9_soonest 57 = .ok (.goto 13, 3) := by decide +kernel
theorem dX9_soonest_60 : decode cX9_soonest 60 = .ok (.aload_n 0, 1) := by decide +kernel
theorem dX9_soonest_61 : decode cX9_soonest 61 = .ok (.iload_n 3, 1) := by decide +kernel
theorem dX9_soonest_62 : decode cX9_soonest 62 = .ok (.bipush 10, 2) := by decide +kernel
theorem dX9_soonest_64 : decode cX9_soonest 64 = .ok (.isub, 1) := by decide +kernel
theorem dX9_soonest_65 : decode cX9_soonest 65 = .ok (.iload 4, 2) := by decide +kernel
theorem dX9_soonest_67 : decode cX9_soonest 67 = .ok (.invokevirtual 462, 3) := by decide +kernel
theorem dX9_soonest_70 : decode cX9_soonest 70 = .ok (.ireturn, 1) := by decide +kernel
set_option maxRecDepth 20000 in
theorem vX9_soonest {g : zG} {d : Nat} {Q : Int32 → zM → Prop} {M : zM} {l1 : Int64} {l3 : Int32} (h : ((M 1 154) = 0 → Q (-1) M) ∧ (¬ (M 1 154) = 0 → zCz shM g d mX9_laysGoals [.ref 0, .long l1] M (fun b1 M1 => (b1 = false → Q (-1) M1) ∧ (b1 = true → (l3 = 0 → zW shM g (d + 1) mX9_soonest (zi Q) 41 [(0, .ref 0), (3, .int l3)] [] M1) ∧ (¬ l3 = 0 → zCz shM g d mX9_isIn [.int l3, .int 10, .int (9 + (M1 0 38))] M1 (fun b2 M2 => (b2 = true → zW shM g (d + 1) mX9_soonest (zi Q) 41 [(0, .ref 0), (3, .int l3)] [] M2) ∧ (b2 = false → Q (-1) M2))))))) : zCi shM g (d + 1) mX9_soonest [.ref 0, .long l1, .int l3] M Q := by
  refine zW.enter (by decide +kernel) (Nat.le_of_ble_eq_true rfl) ?_
  change zW shM g (d + 1) mX9_soonest (zi Q) 0 [(0, .ref 0), (1, .long l1), (3, .int l3)] [] M
  refine z_aload_n dX9_soonest_0 0 rfl ?_
  refine z_getr shM_0 rfl flX9_7 dX9_soonest_1 ?_
  refine z_sipush (v := 154) dX9_soonest_4 (by decide) ?_
  refine z_iald2 (k0 := 154) shM_1 (by decide) (by decide) (by decide) dX9_soonest_7 ?_
  refine z_if_eq 39 dX9_soonest_8 (by decide) (fun c1 => ?_) (fun c1 => ?_)
  · have h := h.1 c1
    refine z_iconst (v := (-1)) dX9_soonest_39 (by decide) ?_
    exact z_iret (st := []) rfl rfl dX9_soonest_40 ⟨_, rfl, h⟩
  · have h := h.2 c1
    refine z_aload_n dX9_soonest_11 0 rfl ?_
    refine z_lload_n dX9_soonest_12 1 rfl ?_
    refine z_callV (m2 := mX9_laysGoals) (st := []) [.long l1] okX9_laysGoals (Or.inl lkX9_443) shM_0 rfl rfl rfl (Nat.le_of_ble_eq_true rfl) dX9_soonest_13 (zgo_z h fun b1 M1 h => ?_)
    refine z_ifb_eq 39 dX9_soonest_16 (by decide) (fun c2 => ?_) (fun c2 => ?_)
    · have h := h.1 c2
      refine z_iconst (v := (-1)) dX9_soonest_39 (by decide) ?_
      exact z_iret (st := []) rfl rfl dX9_soonest_40 ⟨_, rfl, h⟩
    · have h := h.2 c2
      refine z_iload_n dX9_soonest_19 2 rfl ?_
      refine z_if_eq 41 dX9_soonest_20 (by decide) (fun c3 => ?_) (fun c3 => ?_)
      · have h := h.1 c3
        exact zW.sub [0, 2] rfl h
      · have h := h.2 c3
        refine z_iload_n dX9_soonest_23 2 rfl ?_
        refine z_bipush (v := 10) dX9_soonest_24 (by decide) ?_
        refine z_bipush (v := 9) dX9_soonest_26 (by decide) ?_
        refine z_aload_n dX9_soonest_28 0 rfl ?_
        refine z_geti shM_0 rfl flX9_430 dX9_soonest_29 ?_
        refine z_iadd dX9_soonest_32 ?_
        refine z_callS (m2 := mX9_isIn) (st := []) [.int l3, .int 10, .int (9 + (M1 0 38))] okX9_isIn (Or.inl lkX9_97) rfl rfl (Nat.le_of_ble_eq_true rfl) dX9_soonest_33 (zgo_z h fun b2 M2 h => ?_)
        refine z_ifb_ne 41 dX9_soonest_36 (by decide) (fun c4 => ?_) (fun c4 => ?_)
        · have h := h.1 c4
          exact zW.sub [0, 2] rfl h
        · have h := h.2 c4
          refine z_iconst (v := (-1)) dX9_soonest_39 (by decide) ?_
          exact z_iret (st := []) rfl rfl dX9_soonest_40 ⟨_, rfl, h⟩
set_option maxRecDepth 20000 in
theorem vX9_soonest_41 {g : zG} {d : Nat} {Q : Int32 → zM → Prop} {M : zM} {l3 : Int32} (h : zCv shM g d mX9_laysCosts [.ref 0] M (fun  M1 => zCi shM g d mX9_soonestSteps [.ref 0] M1 (fun x2 M2 => (¬ l3 = 0 → zCi shM g d mX9_takerOf [.ref 0, .int (l3 - 10), .int x2] M2 (fun x3 M3 => Q x3 M3)) ∧ (l3 = 0 → Q x2 M2)))) : zW shM g (d + 1) mX9_soonest (zi Q) 41 [(0, .ref 0), (3, .int l3)] [] M := by
  refine z_aload_n dX9_soonest_41 0 rfl ?_
  refine z_callV (m2 := mX9_laysCosts) (st := []) [] okX9_laysCosts (Or.inl lkX9_456) shM_0 rfl rfl rfl (Nat.le_of_ble_eq_true rfl) dX9_soonest_42 (zgo_v h fun  M1 h => ?_)
  refine z_aload_n dX9_soonest_45 0 rfl ?_
  refine z_callV (m2 := mX9_soonestSteps) (st := []) [] okX9_soonestSteps (Or.inl lkX9_459) shM_0 rfl rfl rfl (Nat.le_of_ble_eq_true rfl) dX9_soonest_46 (zgo_i h fun x2 M2 h => ?_)
  refine z_istore [(4, .int x2), (0, .ref 0), (3, .int l3)] dX9_soonest_49 (by decide) rfl ?_
  refine z_iload_n dX9_soonest_51 2 rfl ?_
  refine z_if_ne 60 dX9_soonest_52 (by decide) (fun c1 => ?_) (fun c1 => ?_)
  · have h := h.1 c1
    refine z_aload_n dX9_soonest_60 1 rfl ?_
    refine z_iload_n dX9_soonest_61 2 rfl ?_
    refine z_bipush (v := 10) dX9_soonest_62 (by decide) ?_
    refine z_isub dX9_soonest_64 ?_
    refine z_iload dX9_soonest_65 0 rfl ?_
    refine z_callV (m2 := mX9_takerOf) (st := []) [.int (l3 - 10), .int x2] okX9_takerOf (Or.inl lkX9_462) shM_0 rfl rfl rfl (Nat.le_of_ble_eq_true rfl) dX9_soonest_67 (zgo_i h fun x3 M3 h => ?_)
    exact z_iret (st := []) rfl rfl dX9_soonest_70 ⟨_, rfl, h⟩
  · have h := h.2 c1
    refine z_iload dX9_soonest_55 0 rfl ?_
    refine z_goto 70 dX9_soonest_57 (by decide) ?_
    exact z_iret (st := []) rfl rfl dX9_soonest_70 ⟨_, rfl, h⟩
theorem dX9_letter_0 : decode cX9_letter 0 = .ok (.iload_n 1, 1) := by decide +kernel
theorem dX9_letter_1 : decode cX9_letter 1 = .ok (.iconst 0, 1) := by decide +kernel
theorem dX9_letter_2 : decode cX9_letter 2 = .ok (.aload_n 0, 1) := by decide +kernel
theorem dX9_letter_3 : decode cX9_letter 3 = .ok (.getfield 7, 3) := by decide +kernel
theorem dX9_letter_6 : decode cX9_letter 6 = .ok (.sipush 157, 3) := by decide +kernel
theorem dX9_letter_9 : decode cX9_letter 9 = .ok (.iaload, 1) := by decide +kernel
theorem dX9_letter_10 : decode cX9_letter 10 = .ok (.iconst 1, 1) := by decide +kernel
theorem dX9_letter_11 : decode cX9_letter 11 = .ok (.isub, 1) := by decide +kernel
theorem dX9_letter_12 : decode cX9_letter 12 = .ok (.invokestatic 97, 3) := by decide +kernel
theorem dX9_letter_15 : decode cX9_letter 15 = .ok (.ifCond .eq 16, 3) := by decide +kernel
theorem dX9_letter_18 : decode cX9_letter 18 = .ok (.aload_n 0, 1) := by decide +kernel
theorem dX9_letter_19 : decode cX9_letter 19 = .ok (.getfield 7, 3) := by decide +kernel
theorem dX9_letter_22 : decode cX9_letter 22 = .ok (.sipush 538, 3) := by decide +kernel
theorem dX9_letter_25 : decode cX9_letter 25 = .ok (.iload_n 1, 1) := by decide +kernel
theorem dX9_letter_26 : decode cX9_letter 26 = .ok (.iadd, 1) := by decide +kernel
theorem dX9_letter_27 : decode cX9_letter 27 = .ok (.iaload, 1) := by decide +kernel
theorem dX9_letter_28 : decode cX9_letter 28 = .ok (.goto 4, 3) := by decide +kernel
theorem dX9_letter_31 : decode cX9_letter 31 = .ok (.iconst (-1), 1) := by decide +kernel
theorem dX9_letter_32 : decode cX9_letter 32 = .ok (.ireturn, 1) := by decide +kernel
set_option maxRecDepth 20000 in
theorem vX9_letter {g : zG} {d : Nat} {Q : Int32 → zM → Prop} {M : zM} {l1 : Int32} (h : zCz shM g d mX9_isIn [.int l1, .int 0, .int ((M 1 157) - 1)] M (fun b1 M1 => (b1 = false → Q (-1) M1) ∧ (b1 = true → ∃ k1 : Nat, (538 + l1) = iv k1 ∧ k1 < 2200 ∧ Q (M1 1 k1) M1))) : zCi shM g (d + 1) mX9_letter [.ref 0, .int l1] M Q := by
  refine zW.enter (by decide +kernel) (Nat.le_of_ble_eq_true rfl) ?_
  change zW shM g (d + 1) mX9_letter (zi Q) 0 [(0, .ref 0), (1, .int l1)] [] M
  refine z_iload_n dX9_letter_0 1 rfl ?_
  refine z_iconst (v := 0) dX9_letter_1 (by decide) ?_
  refine z_aload_n dX9_letter_2 0 rfl ?_
  refine z_getr shM_0 rfl flX9_7 dX9_letter_3 ?_
  refine z_sipush (v := 157) dX9_letter_6 (by decide) ?_
  refine z_iald2 (k0 := 157) shM_1 (by decide) (by decide) (by decide) dX9_letter_9 ?_
  refine z_iconst (v := 1) dX9_letter_10 (by decide) ?_
  refine z_isub dX9_letter_11 ?_
  refine z_callS (m2 := mX9_isIn) (st := []) [.int l1, .int 0, .int ((M 1 157) - 1)] okX9_isIn (Or.inl lkX9_97) rfl rfl (Nat.le_of_ble_eq_true rfl) dX9_letter_12 (zgo_z h fun b1 M1 h => ?_)
  refine z_ifb_eq 31 dX9_letter_15 (by decide) (fun c1 => ?_) (fun c1 => ?_)
  · have h := h.1 c1
    refine z_iconst (v := (-1)) dX9_letter_31 (by decide) ?_
    exact z_iret (st := []) rfl rfl dX9_letter_32 ⟨_, rfl, h⟩
  · have h := h.2 c1
    refine z_aload_n dX9_letter_18 0 rfl ?_
    refine z_getr shM_0 rfl flX9_7 dX9_letter_19 ?_
    refine z_sipush (v := 538) dX9_letter_22 (by decide) ?_
    refine z_iload_n dX9_letter_25 1 rfl ?_
    refine z_iadd dX9_letter_26 ?_
    obtain ⟨k1, ek1, uk1, h⟩ := h
    refine z_iald2 (k0 := k1) shM_1 (by decide) ek1 uk1 dX9_letter_27 ?_
    refine z_goto 32 dX9_letter_28 (by decide) ?_
    exact z_iret (st := []) rfl rfl dX9_letter_32 ⟨_, rfl, h⟩
theorem dX9_want_0 : decode cX9_want 0 = .ok (.iload_n 1, 1) := by decide +kernel
theorem dX9_want_1 : decode cX9_want 1 = .ok (.iconst 0, 1) := by decide +kernel
theorem dX9_want_2 : decode cX9_want 2 = .ok (.aload_n 0, 1) := by decide +kernel
theorem dX9_want_3 : decode cX9_want 3 = .ok (.getfield 7, 3) := by decide +kernel
theorem dX9_want_6 : decode cX9_want 6 = .ok (.sipush 158, 3) := by decide +kernel
theorem dX9_want_9 : decode cX9_want 9 = .ok (.iaload, 1) := by decide +kernel
theorem dX9_want_10 : decode cX9_want 10 = .ok (.iconst 1, 1) := by decide +kernel
theorem dX9_want_11 : decode cX9_want 11 = .ok (.isub, 1) := by decide +kernel
theorem dX9_want_12 : decode cX9_want 12 = .ok (.invokestatic 97, 3) := by decide +kernel
theorem dX9_want_15 : decode cX9_want 15 = .ok (.ifCond .eq 12, 3) := by decide +kernel
theorem dX9_want_18 : decode cX9_want 18 = .ok (.iload_n 2, 1) := by decide +kernel
theorem dX9_want_19 : decode cX9_want 19 = .ok (.iconst 0, 1) := by decide +kernel
theorem dX9_want_20 : decode cX9_want 20 = .ok (.iconst 2, 1) := by decide +kernel
theorem dX9_want_21 : decode cX9_want 21 = .ok (.invokestatic 97, 3) := by decide +kernel
theorem dX9_want_24 : decode cX9_want 24 = .ok (.ifCond .ne 5, 3) := by decide +kernel
theorem dX9_want_27 : decode cX9_want 27 = .ok (.iconst (-1), 1) := by decide +kernel
theorem dX9_want_28 : decode cX9_want 28 = .ok (.ireturn, 1) := by decide +kernel
theorem dX9_want_29 : decode cX9_want 29 = .ok (.iload_n 2, 1) := by decide +kernel
theorem dX9_want_30 : decode cX9_want 30 = .ok (.iconst 2, 1) := by decide +kernel
theorem dX9_want_31 : decode cX9_want 31 = .ok (.if_icmp .ge 20, 3) := by decide +kernel
theorem dX9_want_34 : decode cX9_want 34 = .ok (.aload_n 0, 1) := by decide +kernel
theorem dX9_want_35 : decode cX9_want 35 = .ok (.getfield 7, 3) := by decide +kernel
theorem dX9_want_38 : decode cX9_want 38 = .ok (.sipush 546, 3) := by decide +kernel
theorem dX9_want_41 : decode cX9_want 41 = .ok (.iconst 2, 1) := by decide +kernel
theorem dX9_want_42 : decode cX9_want 42 = .ok (.iload_n 1, 1) := by decide +kernel
theorem dX9_want_43 : decode cX9_want 43 = .ok (.imul, 1) := by decide +kernel
theorem dX9_want_44 : decode cX9_want 44 = .ok (.iadd, 1) := by decide +kernel
theorem dX9_want_45 : decode cX9_want 45 = .ok (.iload_n 2, 1) := by decide +kernel
theorem dX9_want_46 : decode cX9_want 46 = .ok (.iadd, 1) := by decide +kernel
theorem dX9_want_47 : decode cX9_want 47 = .ok (.iaload, 1) := by decide +kernel
theorem dX9_want_48 : decode cX9_want 48 = .ok (.goto 16, 3) := by decide +kernel
theorem dX9_want_51 : decode cX9_want 51 = .ok (.aload_n 0, 1) := by decide +kernel
theorem dX9_want_52 : decode cX9_want 52 = .ok (.iload_n 1, 1) := by decide +kernel
theorem dX9_want_53 : decode cX9_want 53 = .ok (.invokevirtual 406, 3) := by decide +kernel
theorem dX9_want_56 : decode cX9_want 56 = .ok (.ifCond .eq 7, 3) := by decide +kernel
theorem dX9_want_59 : decode cX9_want 59 = .ok (.iconst 1, 1) := by decide +kernel
theorem dX9_want_60 : decode cX9_want 60 = .ok (.goto 4, 3) := by decide +kernel
theorem dX9_want_63 : decode cX9_want 63 = .ok (.iconst 0, 1) := by decide +kernel
theorem dX9_want_64 : decode cX9_want 64 = .ok (.ireturn, 1) := by decide +kernel
set_option maxRecDepth 20000 in
theorem vX9_want {g : zG} {d : Nat} {Q : Int32 → zM → Prop} {M : zM} {l1 : Int32} {l2 : Int32} (h : zCz shM g d mX9_isIn [.int l1, .int 0, .int ((M 1 158) - 1)] M (fun b1 M1 => (b1 = false → Q (-1) M1) ∧ (b1 = true → zCz shM g d mX9_isIn [.int l2, .int 0, .int 2] M1 (fun b2 M2 => (b2 = true → (2 ≤ l2 → zCz shM g d mX9_isRead [.ref 0, .int l1] M2 (fun b3 M3 => (b3 = false → Q 0 M3) ∧ (b3 = true → Q 1 M3))) ∧ (¬ 2 ≤ l2 → ∃ k1 : Nat, ((546 + (2 * l1)) + l2) = iv k1 ∧ k1 < 2200 ∧ Q (M2 1 k1) M2)) ∧ (b2 = false → Q (-1) M2))))) : zCi shM g (d + 1) mX9_want [.ref 0, .int l1, .int l2] M Q := by
  refine zW.enter (by decide +kernel) (Nat.le_of_ble_eq_true rfl) ?_
  change zW shM g (d + 1) mX9_want (zi Q) 0 [(0, .ref 0), (1, .int l1), (2, .int l2)] [] M
  refine z_iload_n dX9_want_0 1 rfl ?_
  refine z_iconst (v := 0) dX9_want_1 (by decide) ?_
  refine z_aload_n dX9_want_2 0 rfl ?_
  refine z_getr shM_0 rfl flX9_7 dX9_want_3 ?_
  refine z_sipush (v := 158) dX9_want_6 (by decide) ?_
  refine z_iald2 (k0 := 158) shM_1 (by decide) (by decide) (by decide) dX9_want_9 ?_
  refine z_iconst (v := 1) dX9_want_10 (by decide) ?_
  refine z_isub dX9_want_11 ?_
  refine z_callS (m2 := mX9_isIn) (st := []) [.int l1, .int 0, .int ((M 1 158) - 1)] okX9_isIn (Or.inl lkX9_97) rfl rfl (Nat.le_of_ble_eq_true rfl) dX9_want_12 (zgo_z h fun b1 M1 h => ?_)
  refine z_ifb_eq 27 dX9_want_15 (by decide) (fun c1 => ?_) (fun c1 => ?_)
  · have h := h.1 c1
    refine z_iconst (v := (-1)) dX9_want_27 (by decide) ?_
    exact z_iret (st := []) rfl rfl dX9_want_28 ⟨_, rfl, h⟩
  · have h := h.2 c1
    refine z_iload_n dX9_want_18 2 rfl ?_
    refine z_iconst (v := 0) dX9_want_19 (by decide) ?_
    refine z_iconst (v := 2) dX9_want_20 (by decide) ?_
    refine z_callS (m2 := mX9_isIn) (st := []) [.int l2, .int 0, .int 2] okX9_isIn (Or.inl lkX9_97) rfl rfl (Nat.le_of_ble_eq_true rfl) dX9_want_21 (zgo_z h fun b2 M2 h => ?_)
    refine z_ifb_ne 29 dX9_want_24 (by decide) (fun c2 => ?_) (fun c2 => ?_)
    · have h := h.1 c2
      refine z_iload_n dX9_want_29 2 rfl ?_
      refine z_iconst (v := 2) dX9_want_30 (by decide) ?_
      refine z_icmp_ge 51 dX9_want_31 (by decide) (fun c3 => ?_) (fun c3 => ?_)
      · have h := h.1 c3
        refine z_aload_n dX9_want_51 0 rfl ?_
        refine z_iload_n dX9_want_52 1 rfl ?_
        refine z_callV (m2 := mX9_isRead) (st := []) [.int l1] okX9_isRead (Or.inl lkX9_406) shM_0 rfl rfl rfl (Nat.le_of_ble_eq_true rfl) dX9_want_53 (zgo_z h fun b3 M3 h => ?_)
        refine z_ifb_eq 63 dX9_want_56 (by decide) (fun c4 => ?_) (fun c4 => ?_)
        · have h := h.1 c4
          refine z_iconst (v := 0) dX9_want_63 (by decide) ?_
          exact z_iret (st := []) rfl rfl dX9_want_64 ⟨_, rfl, h⟩
        · have h := h.2 c4
          refine z_iconst (v := 1) dX9_want_59 (by decide) ?_
          refine z_goto 64 dX9_want_60 (by decide) ?_
          exact z_iret (st := []) rfl rfl dX9_want_64 ⟨_, rfl, h⟩
      · have h := h.2 c3
        refine z_aload_n dX9_want_34 0 rfl ?_
        refine z_getr shM_0 rfl flX9_7 dX9_want_35 ?_
        refine z_sipush (v := 546) dX9_want_38 (by decide) ?_
        refine z_iconst (v := 2) dX9_want_41 (by decide) ?_
        refine z_iload_n dX9_want_42 1 rfl ?_
        refine z_imul dX9_want_43 ?_
        refine z_iadd dX9_want_44 ?_
        refine z_iload_n dX9_want_45 2 rfl ?_
        refine z_iadd dX9_want_46 ?_
        obtain ⟨k1, ek1, uk1, h⟩ := h
        refine z_iald2 (k0 := k1) shM_1 (by decide) ek1 uk1 dX9_want_47 ?_
        refine z_goto 64 dX9_want_48 (by decide) ?_
        exact z_iret (st := []) rfl rfl dX9_want_64 ⟨_, rfl, h⟩
    · have h := h.2 c2
      refine z_iconst (v := (-1)) dX9_want_27 (by decide) ?_
      exact z_iret (st := []) rfl rfl dX9_want_28 ⟨_, rfl, h⟩
theorem dX9_beneath_0 : decode cX9_beneath 0 = .ok (.iload_n 1, 1) := by decide +kernel
theorem dX9_beneath_1 : decode cX9_beneath 1 = .ok (.iconst 0, 1) := by decide +kernel
theorem dX9_beneath_2 : decode cX9_beneath 2 = .ok (.aload_n 0, 1) := by decide +kernel
theorem dX9_beneath_3 : decode cX9_beneath 3 = .ok (.getfield 7, 3) := by decide +kernel
theorem dX9_beneath_6 : decode cX9_beneath 6 = .ok (.sipush 157, 3) := by decide +kernel
theorem dX9_beneath_9 : decode cX9_beneath 9 = .ok (.iaload, 1) := by decide +kernel
theorem dX9_beneath_10 : decode cX9_beneath 10 = .ok (.iconst 1, 1) := by decide +kernel
theorem dX9_beneath_11 : decode cX9_beneath 11 = .ok (.isub, 1) := by decide +kernel
theorem dX9_beneath_12 : decode cX9_beneath 12 = .ok (.invokestatic 97, 3) := by decide +kernel
theorem dX9_beneath_15 : decode cX9_beneath 15 = .ok (.ifCond .eq 11, 3) := by decide +kernel
theorem dX9_beneath_18 : decode cX9_beneath 18 = .ok (.aload_n 0, 1) := by decide +kernel
theorem dX9_beneath_19 : decode cX9_beneath 19 = .ok (.iload_n 2, 1) := by decide +kernel
theorem dX9_beneath_20 : decode cX9_beneath 20 = .ok (.invokevirtual 297, 3) := by decide +kernel
theorem dX9_beneath_23 : decode cX9_beneath 23 = .ok (.ifCond .ne 5, 3) := by decide +kernel
theorem dX9_beneath_26 : decode cX9_beneath 26 = .ok (.iconst (-1), 1) := by decide +kernel
theorem dX9_beneath_27 : decode cX9_beneath 27 = .ok (.ireturn, 1) := by decide +kernel
theorem dX9_beneath_28 : decode cX9_beneath 28 = .ok (.iconst 0, 1) := by decide +kernel
theorem dX9_beneath_29 : decode cX9_beneath 29 = .ok (.istore_n 3, 1) := by decide +kernel
theorem dX9_beneath_30 : decode cX9_beneath 30 = .ok (.iconst 0, 1) := by decide +kernel
theorem dX9_beneath_31 : decode cX9_beneath 31 = .ok (.istore 4, 2) := by decide +kernel
theorem dX9_beneath_33 : decode cX9_beneath 33 = .ok (.iload 4, 2) := by decide +kernel
theorem dX9_beneath_35 : decode cX9_beneath 35 = .ok (.aload_n 0, 1) := by decide +kernel
theorem dX9_beneath_36 : decode cX9_beneath 36 = .ok (.getfield 7, 3) := by decide +kernel
theorem dX9_beneath_39 : decode cX9_beneath 39 = .ok (.sipush 157, 3) := by decide +kernel
theorem dX9_beneath_42 : decode cX9_beneath 42 = .ok (.iaload, 1) := by decide +kernel
theorem dX9_beneath_43 : decode cX9_beneath 43 = .ok (.if_icmp .ge 50, 3) := by decide +kernel
theorem dX9_beneath_46 : decode cX9_beneath 46 = .ok (.iload_n 3, 1) := by decide +kernel
theorem dX9_beneath_47 : decode cX9_beneath 47 = .ok (.aload_n 0, 1) := by decide +kernel
theorem dX9_beneath_48 : decode cX9_beneath 48 = .ok (.getfield 7, 3) := by decide +kernel
theorem dX9_beneath_51 : decode cX9_beneath 51 = .ok (.sipush 538, 3) := by decide +kernel
theorem dX9_beneath_54 : decode cX9_beneath 54 = .ok (.iload 4, 2) := by decide +kernel
theorem dX9_beneath_56 : decode cX9_beneath 56 = .ok (.iadd, 1) := by decide +kernel
theorem dX9_beneath_57 : decode cX9_beneath 57 = .ok (.iaload, 1) := by decide +kernel
theorem dX9_beneath_58 : decode cX9_beneath 58 = .ok (.aload_n 0, 1) := by decide +kernel
theorem dX9_beneath_59 : decode cX9_beneath 59 = .ok (.getfield 7, 3) := by decide +kernel
theorem dX9_beneath_62 : decode cX9_beneath 62 = .ok (.sipush 538, 3) := by decide +kernel
theorem dX9_beneath_65 : decode cX9_beneath 65 = .ok (.iload_n 1, 1) := by decide +kernel
theorem dX9_beneath_66 : decode cX9_beneath 66 = .ok (.iadd, 1) := by decide +kernel
theorem dX9_beneath_67 : decode cX9_beneath 67 = .ok (.iaload, 1) := by decide +kernel
theorem dX9_beneath_68 : decode cX9_beneath 68 = .ok (.ior, 1) := by decide +kernel
theorem dX9_beneath_69 : decode cX9_beneath 69 = .ok (.aload_n 0, 1) := by decide +kernel
theorem dX9_beneath_70 : decode cX9_beneath 70 = .ok (.iload_n 2, 1) := by decide +kernel
theorem dX9_beneath_71 : decode cX9_beneath 71 = .ok (.invokevirtual 400, 3) := by decide +kernel
theorem dX9_beneath_74 : decode cX9_beneath 74 = .ok (.if_icmp .ne 10, 3) := by decide +kernel
theorem dX9_beneath_77 : decode cX9_beneath 77 = .ok (.iconst 1, 1) := by decide +kernel
theorem dX9_beneath_78 : decode cX9_beneath 78 = .ok (.iload 4, 2) := by decide +kernel
theorem dX9_beneath_80 : decode cX9_beneath 80 = .ok (.ishl, 1) := by decide +kernel
theorem dX9_beneath_81 : decode cX9_beneath 81 = .ok (.goto 4, 3) := by decide +kernel
theorem dX9_beneath_84 : decode cX9_beneath 84 = .ok (.iconst 0, 1) := by decide +kernel
theorem dX9_beneath_85 : decode cX9_beneath 85 = .ok (.ior, 1) := by decide +kernel
theorem dX9_beneath_86 : decode cX9_beneath 86 = .ok (.istore_n 3, 1) := by decide +kernel
theorem dX9_beneath_87 : decode cX9_beneath 87 = .ok (.iinc 4 1, 3) := by decide +kernel
theorem dX9_beneath_90 : decode cX9_beneath 90 = .ok (.goto (-57), 3) := by decide +kernel
theorem dX9_beneath_93 : decode cX9_beneath 93 = .ok (.iload_n 3, 1) := by decide +kernel
theorem dX9_beneath_94 : decode cX9_beneath 94 = .ok (.ireturn, 1) := by decide +kernel
set_option maxRecDepth 20000 in
theorem vX9_beneath {g : zG} {d : Nat} {Q : Int32 → zM → Prop} {M : zM} {l1 : Int32} {l2 : Int32} (h : zCz shM g d mX9_isIn [.int l1, .int 0, .int ((M 1 157) - 1)] M (fun b1 M1 => (b1 = false → Q (-1) M1) ∧ (b1 = true → zCz shM g d mX9_isBox [.ref 0, .int l2] M1 (fun b2 M2 => (b2 = true → zW shM g (d + 1) mX9_beneath (zi Q) 33 [(0, .ref 0), (1, .int l1), (2, .int l2), (3, .int 0), (4, .int 0)] [] M2) ∧ (b2 = false → Q (-1) M2))))) : zCi shM g (d + 1) mX9_beneath [.ref 0, .int l1, .int l2] M Q := by
  refine zW.enter (by decide +kernel) (Nat.le_of_ble_eq_true rfl) ?_
  change zW shM g (d + 1) mX9_beneath (zi Q) 0 [(0, .ref 0), (1, .int l1), (2, .int l2)] [] M
  refine z_iload_n dX9_beneath_0 1 rfl ?_
  refine z_iconst (v := 0) dX9_beneath_1 (by decide) ?_
  refine z_aload_n dX9_beneath_2 0 rfl ?_
  refine z_getr shM_0 rfl flX9_7 dX9_beneath_3 ?_
  refine z_sipush (v := 157) dX9_beneath_6 (by decide) ?_
  refine z_iald2 (k0 := 157) shM_1 (by decide) (by decide) (by decide) dX9_beneath_9 ?_
  refine z_iconst (v := 1) dX9_beneath_10 (by decide) ?_
  refine z_isub dX9_beneath_11 ?_
  refine z_callS (m2 := mX9_isIn) (st := []) [.int l1, .int 0, .int ((M 1 157) - 1)] okX9_isIn (Or.inl lkX9_97) rfl rfl (Nat.le_of_ble_eq_true rfl) dX9_beneath_12 (zgo_z h fun b1 M1 h => ?_)
  refine z_ifb_eq 26 dX9_beneath_15 (by decide) (fun c1 => ?_) (fun c1 => ?_)
  · have h := h.1 c1
    refine z_iconst (v := (-1)) dX9_beneath_26 (by decide) ?_
    exact z_iret (st := []) rfl rfl dX9_beneath_27 ⟨_, rfl, h⟩
  · have h := h.2 c1
    refine z_aload_n dX9_beneath_18 0 rfl ?_
    refine z_iload_n dX9_beneath_19 2 rfl ?_
    refine z_callV (m2 := mX9_isBox) (st := []) [.int l2] okX9_isBox (Or.inl lkX9_297) shM_0 rfl rfl rfl (Nat.le_of_ble_eq_true rfl) dX9_beneath_20 (zgo_z h fun b2 M2 h => ?_)
    refine z_ifb_ne 28 dX9_beneath_23 (by decide) (fun c2 => ?_) (fun c2 => ?_)
    · have h := h.1 c2
      refine z_iconst (v := 0) dX9_beneath_28 (by decide) ?_
      refine z_istore_n [(3, .int 0), (0, .ref 0), (1, .int l1), (2, .int l2)] dX9_beneath_29 (by decide) rfl ?_
      refine z_iconst (v := 0) dX9_beneath_30 (by decide) ?_
      refine z_istore [(4, .int 0), (3, .int 0), (0, .ref 0), (1, .int l1), (2, .int l2)] dX9_beneath_31 (by decide) rfl ?_
      exact zW.sub [2, 3, 4, 1, 0] rfl h
    · have h := h.2 c2
      refine z_iconst (v := (-1)) dX9_beneath_26 (by decide) ?_
      exact z_iret (st := []) rfl rfl dX9_beneath_27 ⟨_, rfl, h⟩
set_option maxRecDepth 20000 in
theorem vX9_beneath_33 {g : zG} {d : Nat} {Q : Int32 → zM → Prop} {M : zM} {l1 : Int32} {l2 : Int32} {l3 : Int32} {l4 : Int32} (h : ((M 1 157) ≤ l4 → Q l3 M) ∧ (¬ (M 1 157) ≤ l4 → ∃ k1 : Nat, (538 + l4) = iv k1 ∧ k1 < 2200 ∧ ∃ k2 : Nat, (538 + l1) = iv k2 ∧ k2 < 2200 ∧ zCi shM g d mX9_shapeOf [.ref 0, .int l2] M (fun x1 M1 => (¬ ((M 1 k1) ||| (M 1 k2)) = x1 → zW shM g (d + 1) mX9_beneath (zi Q) 33 [(0, .ref 0), (1, .int l1), (2, .int l2), (3, .int (l3 ||| 0)), (4, .int (l4 + 1))] [] M1) ∧ (((M 1 k1) ||| (M 1 k2)) = x1 → zW shM g (d + 1) mX9_beneath (zi Q) 33 [(0, .ref 0), (1, .int l1), (2, .int l2), (3, .int (l3 ||| (1 <<< (l4 &&& 31)))), (4, .int (l4 + 1))] [] M1)))) : zW shM g (d + 1) mX9_beneath (zi Q) 33 [(0, .ref 0), (1, .int l1), (2, .int l2), (3, .int l3), (4, .int l4)] [] M := by
  refine z_iload dX9_beneath_33 4 rfl ?_
  refine z_aload_n dX9_beneath_35 0 rfl ?_
  refine z_getr shM_0 rfl flX9_7 dX9_beneath_36 ?_
  refine z_sipush (v := 157) dX9_beneath_39 (by decide) ?_
  refine z_iald2 (k0 := 157) shM_1 (by decide) (by decide) (by decide) dX9_beneath_42 ?_
  refine z_icmp_ge 93 dX9_beneath_43 (by decide) (fun c1 => ?_) (fun c1 => ?_)
  · have h := h.1 c1
    refine z_iload_n dX9_beneath_93 3 rfl ?_
    exact z_iret (st := []) rfl rfl dX9_beneath_94 ⟨_, rfl, h⟩
  · have h := h.2 c1
    refine z_iload_n dX9_beneath_46 3 rfl ?_
    refine z_aload_n dX9_beneath_47 0 rfl ?_
    refine z_getr shM_0 rfl flX9_7 dX9_beneath_48 ?_
    refine z_sipush (v := 538) dX9_beneath_51 (by decide) ?_
    refine z_iload dX9_beneath_54 4 rfl ?_
    refine z_iadd dX9_beneath_56 ?_
    obtain ⟨k1, ek1, uk1, h⟩ := h
    refine z_iald2 (k0 := k1) shM_1 (by decide) ek1 uk1 dX9_beneath_57 ?_
    refine z_aload_n dX9_beneath_58 0 rfl ?_
    refine z_getr shM_0 rfl flX9_7 dX9_beneath_59 ?_
    refine z_sipush (v := 538) dX9_beneath_62 (by decide) ?_
    refine z_iload_n dX9_beneath_65 1 rfl ?_
    refine z_iadd dX9_beneath_66 ?_
    obtain ⟨k2, ek2, uk2, h⟩ := h
    refine z_iald2 (k0 := k2) shM_1 (by decide) ek2 uk2 dX9_beneath_67 ?_
    refine z_ior dX9_beneath_68 ?_
    refine z_aload_n dX9_beneath_69 0 rfl ?_
    refine z_iload_n dX9_beneath_70 2 rfl ?_
    refine z_callV (m2 := mX9_shapeOf) (st := [.int ((M 1 k1) ||| (M 1 k2)), .int l3]) [.int l2] okX9_shapeOf (Or.inl lkX9_400) shM_0 rfl rfl rfl (Nat.le_of_ble_eq_true rfl) dX9_beneath_71 (zgo_i h fun x1 M1 h => ?_)
    refine z_icmp_ne 84 dX9_beneath_74 (by decide) (fun c2 => ?_) (fun c2 => ?_)
    · have h := h.1 c2
      refine z_iconst (v := 0) dX9_beneath_84 (by decide) ?_
      refine z_ior dX9_beneath_85 ?_
      refine z_istore_n [(3, .int (l3 ||| 0)), (0, .ref 0), (1, .int l1), (2, .int l2), (4, .int l4)] dX9_beneath_86 (by decide) rfl ?_
      refine z_iinc (x := l4) (v := (l4 + 1)) [(4, .int (l4 + 1)), (3, .int (l3 ||| 0)), (0, .ref 0), (1, .int l1), (2, .int l2)] dX9_beneath_87 4 rfl rfl (by decide) rfl ?_
      refine z_goto 33 dX9_beneath_90 (by decide) ?_
      exact zW.sub [2, 3, 4, 1, 0] rfl h
    · have h := h.2 c2
      refine z_iconst (v := 1) dX9_beneath_77 (by decide) ?_
      refine z_iload dX9_beneath_78 4 rfl ?_
      refine z_ishl dX9_beneath_80 ?_
      refine z_goto 85 dX9_beneath_81 (by decide) ?_
      refine z_ior dX9_beneath_85 ?_
      refine z_istore_n [(3, .int (l3 ||| (1 <<< (l4 &&& 31)))), (0, .ref 0), (1, .int l1), (2, .int l2), (4, .int l4)] dX9_beneath_86 (by decide) rfl ?_
      refine z_iinc (x := l4) (v := (l4 + 1)) [(4, .int (l4 + 1)), (3, .int (l3 ||| (1 <<< (l4 &&& 31)))), (0, .ref 0), (1, .int l1), (2, .int l2)] dX9_beneath_87 4 rfl rfl (by decide) rfl ?_
      refine z_goto 33 dX9_beneath_90 (by decide) ?_
      exact zW.sub [2, 3, 4, 1, 0] rfl h
theorem dX9_count_0 : decode cX9_count 0 = .ok (.iconst 0, 1) := by decide +kernel
theorem dX9_count_1 : decode cX9_count 1 = .ok (.istore_n 1, 1) := by decide +kernel
theorem dX9_count_2 : decode cX9_count 2 = .ok (.iconst 0, 1) := by decide +kernel
theorem dX9_count_3 : decode cX9_count 3 = .ok (.istore_n 2, 1) := by decide +kernel
theorem dX9_count_4 : decode cX9_count 4 = .ok (.iload_n 2, 1) := by decide +kernel
theorem dX9_count_5 : decode cX9_count 5 = .ok (.bipush 16, 2) := by decide +kernel
theorem dX9_count_7 : decode cX9_count 7 = .ok (.if_icmp .ge 17, 3) := by decide +kernel
theorem dX9_count_10 : decode cX9_count 10 = .ok (.iload_n 1, 1) := by decide +kernel
theorem dX9_count_11 : decode cX9_count 11 = .ok (.iload_n 0, 1) := by decide +kernel
theorem dX9_count_12 : decode cX9_count 12 = .ok (.iload_n 2, 1) := by decide +kernel
theorem dX9_count_13 : decode cX9_count 13 = .ok (.ishr, 1) := by decide +kernel
theorem dX9_count_14 : decode cX9_count 14 = .ok (.iconst 1, 1) := by decide +kernel
theorem dX9_count_15 : decode cX9_count 15 = .ok (.iand, 1) := by decide +kernel
theorem dX9_count_16 : decode cX9_count 16 = .ok (.iadd, 1) := by decide +kernel
theorem dX9_count_17 : decode cX9_count 17 = .ok (.istore_n 1, 1) := by decide +kernel
theorem dX9_count_18 : decode cX9_count 18 = .ok (.iinc 2 1, 3) := by decide +kernel
theorem dX9_count_21 : decode cX9_count 21 = .ok (.goto (-17), 3) := by decide +kernel
theorem dX9_count_24 : decode cX9_count 24 = .ok (.iload_n 1, 1) := by decide +kernel
theorem dX9_count_25 : decode cX9_count 25 = .ok (.ireturn, 1) := by decide +kernel
set_option maxRecDepth 20000 in
theorem vX9_count {g : zG} {d : Nat} {Q : Int32 → zM → Prop} {M : zM} {l0 : Int32} (h : zW shM g d mX9_count (zi Q) 4 [(0, .int l0), (1, .int 0), (2, .int 0)] [] M) : zCi shM g d mX9_count [.int l0] M Q := by
  refine zW.enter (by decide +kernel) (Nat.le_of_ble_eq_true rfl) ?_
  change zW shM g d mX9_count (zi Q) 0 [(0, .int l0)] [] M
  refine z_iconst (v := 0) dX9_count_0 (by decide) ?_
  refine z_istore_n [(1, .int 0), (0, .int l0)] dX9_count_1 (by decide) rfl ?_
  refine z_iconst (v := 0) dX9_count_2 (by decide) ?_
  refine z_istore_n [(2, .int 0), (1, .int 0), (0, .int l0)] dX9_count_3 (by decide) rfl ?_
  exact zW.sub [2, 1, 0] rfl h
set_option maxRecDepth 20000 in
theorem vX9_count_4 {g : zG} {d : Nat} {Q : Int32 → zM → Prop} {M : zM} {l0 : Int32} {l1 : Int32} {l2 : Int32} (h : (16 ≤ l2 → Q l1 M) ∧ (¬ 16 ≤ l2 → zW shM g d mX9_count (zi Q) 4 [(0, .int l0), (1, .int (l1 + ((l0 >>> (l2 &&& 31)) &&& 1))), (2, .int (l2 + 1))] [] M)) : zW shM g d mX9_count (zi Q) 4 [(0, .int l0), (1, .int l1), (2, .int l2)] [] M := by
  refine z_iload_n dX9_count_4 2 rfl ?_
  refine z_bipush (v := 16) dX9_count_5 (by decide) ?_
  refine z_icmp_ge 24 dX9_count_7 (by decide) (fun c1 => ?_) (fun c1 => ?_)
  · have h := h.1 c1
    refine z_iload_n dX9_count_24 1 rfl ?_
    exact z_iret (st := []) rfl rfl dX9_count_25 ⟨_, rfl, h⟩
  · have h := h.2 c1
    refine z_iload_n dX9_count_10 1 rfl ?_
    refine z_iload_n dX9_count_11 0 rfl ?_
    refine z_iload_n dX9_count_12 2 rfl ?_
    refine z_ishr dX9_count_13 ?_
    refine z_iconst (v := 1) dX9_count_14 (by decide) ?_
    refine z_iand dX9_count_15 ?_
    refine z_iadd dX9_count_16 ?_
    refine z_istore_n [(1, .int (l1 + ((l0 >>> (l2 &&& 31)) &&& 1))), (0, .int l0), (2, .int l2)] dX9_count_17 (by decide) rfl ?_
    refine z_iinc (x := l2) (v := (l2 + 1)) [(2, .int (l2 + 1)), (1, .int (l1 + ((l0 >>> (l2 &&& 31)) &&& 1))), (0, .int l0)] dX9_count_18 2 rfl rfl (by decide) rfl ?_
    refine z_goto 4 dX9_count_21 (by decide) ?_
    exact zW.sub [2, 1, 0] rfl h
theorem dX9_greaterPart_0 : decode cX9_greaterPart 0 = .ok (.iconst 0, 1) := by decide +kernel
theorem dX9_greaterPart_1 : decode cX9_greaterPart 1 = .ok (.istore_n 3, 1) := by decide +kernel
theorem dX9_greaterPart_2 : decode cX9_greaterPart 2 = .ok (.iconst 0, 1) := by decide +kernel
theorem dX9_greaterPart_3 : decode cX9_greaterPart 3 = .ok (.istore 4, 2) := by decide +kernel
theorem dX9_greaterPart_5 : decode cX9_greaterPart 5 = .ok (.iload 4, 2) := by decide +kernel
theorem dX9_greaterPart_7 : decode cX9_greaterPart 7 = .ok (.aload_n 0, 1) := by decide +kernel
theorem dX9_greaterPart_8 : decode cX9_greaterPart 8 = .ok (.getfield 7, 3) := by decide +kernel
theorem dX9_greaterPart_11 : decode cX9_greaterPart 11 = .ok (.sipush 157, 3) := by decide +kernel
theorem dX9_greaterPart_14 : decode cX9_greaterPart 14 = .ok (.iaload, 1) := by decide +kernel
theorem dX9_greaterPart_15 : decode cX9_greaterPart 15 = .ok (.if_icmp .ge 41, 3) := by decide +kernel
theorem dX9_greaterPart_18 : decode cX9_greaterPart 18 = .ok (.iload_n 3, 1) := by decide +kernel
theorem dX9_greaterPart_19 : decode cX9_greaterPart 19 = .ok (.iload_n 1, 1) := by decide +kernel
theorem dX9_greaterPart_20 : decode cX9_greaterPart 20 = .ok (.iload 4, 2) := by decide +kernel
theorem dX9_greaterPart_22 : decode cX9_greaterPart 22 = .ok (.ishr, 1) := by decide +kernel
theorem dX9_greaterPart_23 : decode cX9_greaterPart 23 = .ok (.iconst 1, 1) := by decide +kernel
theorem dX9_greaterPart_24 : decode cX9_greaterPart 24 = .ok (.iand, 1) := by decide +kernel
theorem dX9_greaterPart_25 : decode cX9_greaterPart 25 = .ok (.iconst 1, 1) := by decide +kernel
theorem dX9_greaterPart_26 : decode cX9_greaterPart 26 = .ok (.if_icmp .ne 21, 3) := by decide +kernel
theorem dX9_greaterPart_29 : decode cX9_greaterPart 29 = .ok (.aload_n 0, 1) := by decide +kernel
theorem dX9_greaterPart_30 : decode cX9_greaterPart 30 = .ok (.getfield 7, 3) := by decide +kernel
theorem dX9_greaterPart_33 : decode cX9_greaterPart 33 = .ok (.sipush 538, 3) := by decide +kernel
theorem dX9_greaterPart_36 : decode cX9_greaterPart 36 = .ok (.iload 4, 2) := by decide +kernel
theorem dX9_greaterPart_38 : decode cX9_greaterPart 38 = .ok (.iadd, 1) := by decide +kernel
theorem dX9_greaterPart_39 : decode cX9_greaterPart 39 = .ok (.iaload, 1) := by decide +kernel
theorem dX9_greaterPart_40 : decode cX9_greaterPart 40 = .ok (.iload_n 2, 1) := by decide +kernel
theorem dX9_greaterPart_41 : decode cX9_greaterPart 41 = .ok (.ishr, 1) := by decide +kernel
theorem dX9_greaterPart_42 : decode cX9_greaterPart 42 = .ok (.iconst 1, 1) := by decide +kernel
theorem dX9_greaterPart_43 : decode cX9_greaterPart 43 = .ok (.iand, 1) := by decide +kernel
theorem dX9_greaterPart_44 : decode cX9_greaterPart 44 = .ok (.goto 4, 3) := by decide +kernel
theorem dX9_greaterPart_47 : decode cX9_greaterPart 47 = .ok (.iconst 0, 1) := by decide +kernel
theorem dX9_greaterPart_48 : decode cX9_greaterPart 48 = .ok (.iadd, 1) := by decide +kernel
theorem dX9_greaterPart_49 : decode cX9_greaterPart 49 = .ok (.istore_n 3, 1) := by decide +kernel
theorem dX9_greaterPart_50 : decode cX9_greaterPart 50 = .ok (.iinc 4 1, 3) := by decide +kernel
theorem dX9_greaterPart_53 : decode cX9_greaterPart 53 = .ok (.goto (-48), 3) := by decide +kernel
theorem dX9_greaterPart_56 : decode cX9_greaterPart 56 = .ok (.iload_n 3, 1) := by decide +kernel
theorem dX9_greaterPart_57 : decode cX9_greaterPart 57 = .ok (.iload_n 1, 1) := by decide +kernel
theorem dX9_greaterPart_58 : decode cX9_greaterPart 58 = .ok (.invokestatic 465, 3) := by decide +kernel
theorem dX9_greaterPart_61 : decode cX9_greaterPart 61 = .ok (.iload_n 3, 1) := by decide +kernel
theorem dX9_greaterPart_62 : decode cX9_greaterPart 62 = .ok (.isub, 1) := by decide +kernel
theorem dX9_greaterPart_63 : decode cX9_greaterPart 63 = .ok (.invokestatic 344, 3) := by decide +kernel
theorem dX9_greaterPart_66 : decode cX9_greaterPart 66 = .ok (.ireturn, 1) := by decide +kernel
set_option maxRecDepth 20000 in
theorem vX9_greaterPart {g : zG} {d : Nat} {Q : Int32 → zM → Prop} {M : zM} {l1 : Int32} {l2 : Int32} (h : zW shM g (d + 1) mX9_greaterPart (zi Q) 5 [(0, .ref 0), (1, .int l1), (2, .int l2), (3, .int 0), (4, .int 0)] [] M) : zCi shM g (d + 1) mX9_greaterPart [.ref 0, .int l1, .int l2] M Q := by
  refine zW.enter (by decide +kernel) (Nat.le_of_ble_eq_true rfl) ?_
  change zW shM g (d + 1) mX9_greaterPart (zi Q) 0 [(0, .ref 0), (1, .int l1), (2, .int l2)] [] M
  refine z_iconst (v := 0) dX9_greaterPart_0 (by decide) ?_
  refine z_istore_n [(3, .int 0), (0, .ref 0), (1, .int l1), (2, .int l2)] dX9_greaterPart_1 (by decide) rfl ?_
  refine z_iconst (v := 0) dX9_greaterPart_2 (by decide) ?_
  refine z_istore [(4, .int 0), (3, .int 0), (0, .ref 0), (1, .int l1), (2, .int l2)] dX9_greaterPart_3 (by decide) rfl ?_
  exact zW.sub [2, 3, 4, 1, 0] rfl h
set_option maxRecDepth 20000 in
theorem vX9_greaterPart_5 {g : zG} {d : Nat} {Q : Int32 → zM → Prop} {M : zM} {l1 : Int32} {l2 : Int32} {l3 : Int32} {l4 : Int32} (h : ((M 1 157) ≤ l4 → zCi shM g d mX9_count [.int l1] M (fun x1 M1 => zCi shM g d mX9_greater [.int l3, .int (x1 - l3)] M1 (fun x2 M2 => Q x2 M2))) ∧ (¬ (M 1 157) ≤ l4 → (¬ ((l1 >>> (l4 &&& 31)) &&& 1) = 1 → zW shM g (d + 1) mX9_greaterPart (zi Q) 5 [(0, .ref 0), (1, .int l1), (2, .int l2), (3, .int (l3 + 0)), (4, .int (l4 + 1))] [] M) ∧ (((l1 >>> (l4 &&& 31)) &&& 1) = 1 → ∃ k1 : Nat, (538 + l4) = iv k1 ∧ k1 < 2200 ∧ zW shM g (d + 1) mX9_greaterPart (zi Q) 5 [(0, .ref 0), (1, .int l1), (2, .int l2), (3, .int (l3 + (((M 1 k1) >>> (l2 &&& 31)) &&& 1))), (4, .int (l4 + 1))] [] M))) : zW shM g (d + 1) mX9_greaterPart (zi Q) 5 [(0, .ref 0), (1, .int l1), (2, .int l2), (3, .int l3), (4, .int l4)] [] M := by
  refine z_iload dX9_greaterPart_5 4 rfl ?_
  refine z_aload_n dX9_greaterPart_7 0 rfl ?_
  refine z_getr shM_0 rfl flX9_7 dX9_greaterPart_8 ?_
  refine z_sipush (v := 157) dX9_greaterPart_11 (by decide) ?_
  refine z_iald2 (k0 := 157) shM_1 (by decide) (by decide) (by decide) dX9_greaterPart_14 ?_
  refine z_icmp_ge 56 dX9_greaterPart_15 (by decide) (fun c1 => ?_) (fun c1 => ?_)
  · have h := h.1 c1
    refine z_iload_n dX9_greaterPart_56 3 rfl ?_
    refine z_iload_n dX9_greaterPart_57 1 rfl ?_
    refine z_callS (m2 := mX9_count) (st := [.int l3]) [.int l1] okX9_count (Or.inl lkX9_465) rfl rfl (Nat.le_of_ble_eq_true rfl) dX9_greaterPart_58 (zgo_i h fun x1 M1 h => ?_)
    refine z_iload_n dX9_greaterPart_61 3 rfl ?_
    refine z_isub dX9_greaterPart_62 ?_
    refine z_callS (m2 := mX9_greater) (st := []) [.int l3, .int (x1 - l3)] okX9_greater (Or.inl lkX9_344) rfl rfl (Nat.le_of_ble_eq_true rfl) dX9_greaterPart_63 (zgo_i h fun x2 M2 h => ?_)
    exact z_iret (st := []) rfl rfl dX9_greaterPart_66 ⟨_, rfl, h⟩
  · have h := h.2 c1
    refine z_iload_n dX9_greaterPart_18 3 rfl ?_
    refine z_iload_n dX9_greaterPart_19 1 rfl ?_
    refine z_iload dX9_greaterPart_20 4 rfl ?_
    refine z_ishr dX9_greaterPart_22 ?_
    refine z_iconst (v := 1) dX9_greaterPart_23 (by decide) ?_
    refine z_iand dX9_greaterPart_24 ?_
    refine z_iconst (v := 1) dX9_greaterPart_25 (by decide) ?_
    refine z_icmp_ne 47 dX9_greaterPart_26 (by decide) (fun c2 => ?_) (fun c2 => ?_)
    · have h := h.1 c2
      refine z_iconst (v := 0) dX9_greaterPart_47 (by decide) ?_
      refine z_iadd dX9_greaterPart_48 ?_
      refine z_istore_n [(3, .int (l3 + 0)), (0, .ref 0), (1, .int l1), (2, .int l2), (4, .int l4)] dX9_greaterPart_49 (by decide) rfl ?_
      refine z_iinc (x := l4) (v := (l4 + 1)) [(4, .int (l4 + 1)), (3, .int (l3 + 0)), (0, .ref 0), (1, .int l1), (2, .int l2)] dX9_greaterPart_50 4 rfl rfl (by decide) rfl ?_
      refine z_goto 5 dX9_greaterPart_53 (by decide) ?_
      exact zW.sub [2, 3, 4, 1, 0] rfl h
    · have h := h.2 c2
      refine z_aload_n dX9_greaterPart_29 0 rfl ?_
      refine z_getr shM_0 rfl flX9_7 dX9_greaterPart_30 ?_
      refine z_sipush (v := 538) dX9_greaterPart_33 (by decide) ?_
      refine z_iload dX9_greaterPart_36 4 rfl ?_
      refine z_iadd dX9_greaterPart_38 ?_
      obtain ⟨k1, ek1, uk1, h⟩ := h
      refine z_iald2 (k0 := k1) shM_1 (by decide) ek1 uk1 dX9_greaterPart_39 ?_
      refine z_iload_n dX9_greaterPart_40 2 rfl ?_
      refine z_ishr dX9_greaterPart_41 ?_
      refine z_iconst (v := 1) dX9_greaterPart_42 (by decide) ?_
      refine z_iand dX9_greaterPart_43 ?_
      refine z_goto 48 dX9_greaterPart_44 (by decide) ?_
      refine z_iadd dX9_greaterPart_48 ?_
      refine z_istore_n [(3, .int (l3 + (((M 1 k1) >>> (l2 &&& 31)) &&& 1))), (0, .ref 0), (1, .int l1), (2, .int l2), (4, .int l4)] dX9_greaterPart_49 (by decide) rfl ?_
      refine z_iinc (x := l4) (v := (l4 + 1)) [(4, .int (l4 + 1)), (3, .int (l3 + (((M 1 k1) >>> (l2 &&& 31)) &&& 1))), (0, .ref 0), (1, .int l1), (2, .int l2)] dX9_greaterPart_50 4 rfl rfl (by decide) rfl ?_
      refine z_goto 5 dX9_greaterPart_53 (by decide) ?_
      exact zW.sub [2, 3, 4, 1, 0] rfl h
