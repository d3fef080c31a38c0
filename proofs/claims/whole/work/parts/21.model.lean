/-! THE WALKS, by program: 21.model -/
theorem dX9_aWay_0 : decode cX9_aWay 0 = .ok (.aload_n 0, 1) := by decide +kernel
theorem dX9_aWay_1 : decode cX9_aWay 1 = .ok (.getfield 204, 3) := by decide +kernel
theorem dX9_aWay_4 : decode cX9_aWay 4 = .ok (.bipush 7, 2) := by decide +kernel
theorem dX9_aWay_6 : decode cX9_aWay 6 = .ok (.if_icmp .eq 9, 3) := by decide +kernel
theorem dX9_aWay_9 : decode cX9_aWay 9 = .ok (.aload_n 0, 1) := by decide +kernel
theorem dX9_aWay_10 : decode cX9_aWay 10 = .ok (.iconst 1, 1) := by decide +kernel
theorem dX9_aWay_11 : decode cX9_aWay 11 = .ok (.invokevirtual 225, 3) := by decide +kernel
theorem dX9_aWay_14 : decode cX9_aWay 14 = .ok (.ireturn, 1) := by decide +kernel
theorem dX9_aWay_15 : decode cX9_aWay 15 = .ok (.aload_n 0, 1) := by decide +kernel
theorem dX9_aWay_16 : decode cX9_aWay 16 = .ok (.invokevirtual 228, 3) := by decide +kernel
theorem dX9_aWay_19 : decode cX9_aWay 19 = .ok (.aload_n 0, 1) := by decide +kernel
theorem dX9_aWay_20 : decode cX9_aWay 20 = .ok (.getfield 204, 3) := by decide +kernel
theorem dX9_aWay_23 : decode cX9_aWay 23 = .ok (.iconst 2, 1) := by decide +kernel
theorem dX9_aWay_24 : decode cX9_aWay 24 = .ok (.if_icmp .ne 35, 3) := by decide +kernel
theorem dX9_aWay_27 : decode cX9_aWay 27 = .ok (.aload_n 0, 1) := by decide +kernel
theorem dX9_aWay_28 : decode cX9_aWay 28 = .ok (.aload_n 0, 1) := by decide +kernel
theorem dX9_aWay_29 : decode cX9_aWay 29 = .ok (.getfield 216, 3) := by decide +kernel
theorem dX9_aWay_32 : decode cX9_aWay 32 = .ok (.invokevirtual 114, 3) := by decide +kernel
theorem dX9_aWay_35 : decode cX9_aWay 35 = .ok (.ifCond .eq 24, 3) := by decide +kernel
theorem dX9_aWay_38 : decode cX9_aWay 38 = .ok (.aload_n 0, 1) := by decide +kernel
theorem dX9_aWay_39 : decode cX9_aWay 39 = .ok (.getfield 276, 3) := by decide +kernel
theorem dX9_aWay_42 : decode cX9_aWay 42 = .ok (.aload_n 0, 1) := by decide +kernel
theorem dX9_aWay_43 : decode cX9_aWay 43 = .ok (.getfield 216, 3) := by decide +kernel
theorem dX9_aWay_46 : decode cX9_aWay 46 = .ok (.ishr, 1) := by decide +kernel
theorem dX9_aWay_47 : decode cX9_aWay 47 = .ok (.iconst 1, 1) := by decide +kernel
theorem dX9_aWay_48 : decode cX9_aWay 48 = .ok (.iand, 1) := by decide +kernel
theorem dX9_aWay_49 : decode cX9_aWay 49 = .ok (.iconst 1, 1) := by decide +kernel
theorem dX9_aWay_50 : decode cX9_aWay 50 = .ok (.if_icmp .ne 9, 3) := by decide +kernel
theorem dX9_aWay_53 : decode cX9_aWay 53 = .ok (.aload_n 0, 1) := by decide +kernel
theorem dX9_aWay_54 : decode cX9_aWay 54 = .ok (.iconst 3, 1) := by decide +kernel
theorem dX9_aWay_55 : decode cX9_aWay 55 = .ok (.invokevirtual 225, 3) := by decide +kernel
theorem dX9_aWay_58 : decode cX9_aWay 58 = .ok (.ireturn, 1) := by decide +kernel
theorem dX9_aWay_59 : decode cX9_aWay 59 = .ok (.aload_n 0, 1) := by decide +kernel
theorem dX9_aWay_60 : decode cX9_aWay 60 = .ok (.iconst 0, 1) := by decide +kernel
theorem dX9_aWay_61 : decode cX9_aWay 61 = .ok (.aload_n 0, 1) := by decide +kernel
theorem dX9_aWay_62 : decode cX9_aWay 62 = .ok (.getfield 7, 3) := by decide +kernel
theorem dX9_aWay_65 : decode cX9_aWay 65 = .ok (.sipush 154, 3) := by decide +kernel
theorem dX9_aWay_68 : decode cX9_aWay 68 = .ok (.iaload, 1) := by decide +kernel
theorem dX9_aWay_69 : decode cX9_aWay 69 = .ok (.iconst 1, 1) := by decide +kernel
theorem dX9_aWay_70 : decode cX9_aWay 70 = .ok (.isub, 1) := by decide +kernel
theorem dX9_aWay_71 : decode cX9_aWay 71 = .ok (.invokevirtual 273, 3) := by decide +kernel
theorem dX9_aWay_74 : decode cX9_aWay 74 = .ok (.ifCond .ne 5, 3) := by decide +kernel
theorem dX9_aWay_77 : decode cX9_aWay 77 = .ok (.iconst 0, 1) := by decide +kernel
theorem dX9_aWay_78 : decode cX9_aWay 78 = .ok (.ireturn, 1) := by decide +kernel
theorem dX9_aWay_79 : decode cX9_aWay 79 = .ok (.aload_n 0, 1) := by decide +kernel
theorem dX9_aWay_80 : decode cX9_aWay 80 = .ok (.getfield 270, 3) := by decide +kernel
theorem dX9_aWay_83 : decode cX9_aWay 83 = .ok (.istore_n 1, 1) := by decide +kernel
theorem dX9_aWay_84 : decode cX9_aWay 84 = .ok (.iconst 1, 1) := by decide +kernel
theorem dX9_aWay_85 : decode cX9_aWay 85 = .ok (.istore_n 2, 1) := by decide +kernel
theorem dX9_aWay_86 : decode cX9_aWay 86 = .ok (.aload_n 0, 1) := by decide +kernel
theorem dX9_aWay_87 : decode cX9_aWay 87 = .ok (.dup, 1) := by decide +kernel
theorem dX9_aWay_88 : decode cX9_aWay 88 = .ok (.getfield 276, 3) := by decide +kernel
theorem dX9_aWay_91 : decode cX9_aWay 91 = .ok (.iconst 1, 1) := by decide +kernel
theorem dX9_aWay_92 : decode cX9_aWay 92 = .ok (.iload_n 1, 1) := by decide +kernel
theorem dX9_aWay_93 : decode cX9_aWay 93 = .ok (.ishl, 1) := by decide +kernel
theorem dX9_aWay_94 : decode cX9_aWay 94 = .ok (.ior, 1) := by decide +kernel
theorem dX9_aWay_95 : decode cX9_aWay 95 = .ok (.putfield 276, 3) := by decide +kernel
theorem dX9_aWay_98 : decode cX9_aWay 98 = .ok (.aload_n 0, 1) := by decide +kernel
theorem dX9_aWay_99 : decode cX9_aWay 99 = .ok (.getfield 204, 3) := by decide +kernel
theorem dX9_aWay_102 : decode cX9_aWay 102 = .ok (.bipush 11, 2) := by decide +kernel
theorem dX9_aWay_104 : decode cX9_aWay 104 = .ok (.bipush 17, 2) := by decide +kernel
theorem dX9_aWay_106 : decode cX9_aWay 106 = .ok (.invokestatic 97, 3) := by decide +kernel
theorem dX9_aWay_109 : decode cX9_aWay 109 = .ok (.ifCond .eq 45, 3) := by decide +kernel
theorem dX9_aWay_112 : decode cX9_aWay 112 = .ok (.aload_n 0, 1) := by decide +kernel
theorem dX9_aWay_113 : decode cX9_aWay 113 = .ok (.getfield 204, 3) := by decide +kernel
theorem dX9_aWay_116 : decode cX9_aWay 116 = .ok (.bipush 16, 2) := by decide +kernel
theorem dX9_aWay_118 : decode cX9_aWay 118 = .ok (.if_icmp .lt 25, 3) := by decide +kernel
theorem dX9_aWay_121 : decode cX9_aWay 121 = .ok (.aload_n 0, 1) := by decide +kernel
theorem dX9_aWay_122 : decode cX9_aWay 122 = .ok (.getfield 204, 3) := by decide +kernel
theorem dX9_aWay_125 : decode cX9_aWay 125 = .ok (.bipush 17, 2) := by decide +kernel
theorem dX9_aWay_127 : decode cX9_aWay 127 = .ok (.if_icmp .ne 7, 3) := by decide +kernel
theorem dX9_aWay_130 : decode cX9_aWay 130 = .ok (.iconst 1, 1) := by decide +kernel
theorem dX9_aWay_131 : decode cX9_aWay 131 = .ok (.goto 4, 3) := by decide +kernel
theorem dX9_aWay_134 : decode cX9_aWay 134 = .ok (.iconst 0, 1) := by decide +kernel
theorem dX9_aWay_135 : decode cX9_aWay 135 = .ok (.istore_n 2, 1) := by decide +kernel
theorem dX9_aWay_136 : decode cX9_aWay 136 = .ok (.aload_n 0, 1) := by decide +kernel
theorem dX9_aWay_137 : decode cX9_aWay 137 = .ok (.invokevirtual 228, 3) := by decide +kernel
theorem dX9_aWay_140 : decode cX9_aWay 140 = .ok (.goto (-42), 3) := by decide +kernel
theorem dX9_aWay_143 : decode cX9_aWay 143 = .ok (.aload_n 0, 1) := by decide +kernel
theorem dX9_aWay_144 : decode cX9_aWay 144 = .ok (.iload_n 1, 1) := by decide +kernel
theorem dX9_aWay_145 : decode cX9_aWay 145 = .ok (.iload_n 2, 1) := by decide +kernel
theorem dX9_aWay_146 : decode cX9_aWay 146 = .ok (.invokevirtual 279, 3) := by decide +kernel
theorem dX9_aWay_149 : decode cX9_aWay 149 = .ok (.ifCond .ne (-51), 3) := by decide +kernel
theorem dX9_aWay_152 : decode cX9_aWay 152 = .ok (.iconst 0, 1) := by decide +kernel
theorem dX9_aWay_153 : decode cX9_aWay 153 = .ok (.ireturn, 1) := by decide +kernel
theorem dX9_aWay_154 : decode cX9_aWay 154 = .ok (.aload_n 0, 1) := by decide +kernel
theorem dX9_aWay_155 : decode cX9_aWay 155 = .ok (.getfield 34, 3) := by decide +kernel
theorem dX9_aWay_158 : decode cX9_aWay 158 = .ok (.iload_n 1, 1) := by decide +kernel
theorem dX9_aWay_159 : decode cX9_aWay 159 = .ok (.iload_n 2, 1) := by decide +kernel
theorem dX9_aWay_160 : decode cX9_aWay 160 = .ok (.iastore, 1) := by decide +kernel
theorem dX9_aWay_161 : decode cX9_aWay 161 = .ok (.aload_n 0, 1) := by decide +kernel
theorem dX9_aWay_162 : decode cX9_aWay 162 = .ok (.dup, 1) := by decide +kernel
theorem dX9_aWay_163 : decode cX9_aWay 163 = .ok (.getfield 282, 3) := by decide +kernel
theorem dX9_aWay_166 : decode cX9_aWay 166 = .ok (.iconst 1, 1) := by decide +kernel
theorem dX9_aWay_167 : decode cX9_aWay 167 = .ok (.iadd, 1) := by decide +kernel
theorem dX9_aWay_168 : decode cX9_aWay 168 = .ok (.putfield 282, 3) := by decide +kernel
theorem dX9_aWay_171 : decode cX9_aWay 171 = .ok (.aload_n 0, 1) := by decide +kernel
theorem dX9_aWay_172 : decode cX9_aWay 172 = .ok (.sipush 159, 3) := by decide +kernel
theorem dX9_aWay_175 : decode cX9_aWay 175 = .ok (.invokevirtual 258, 3) := by decide +kernel
theorem dX9_aWay_178 : decode cX9_aWay 178 = .ok (.ireturn, 1) := by decide +kernel
set_option maxRecDepth 20000 in
theorem vX9_aWay {g : zG} {d : Nat} {Q : Bool → zM → Prop} {M : zM} (h : ((M 0 25) = 7 → zCv shM g d mX9_next0 [.ref 0] M (fun  M1 => (¬ (M1 0 25) = 2 → zW shM g (d + 1) mX9_aWay (zz Q) 59 [(0, .ref 0)] [] M1) ∧ ((M1 0 25) = 2 → zCz shM g d mX9_isSkater [.ref 0, .int (M1 0 27)] M1 (fun b1 M2 => (b1 = false → zW shM g (d + 1) mX9_aWay (zz Q) 59 [(0, .ref 0)] [] M2) ∧ (b1 = true → (¬ (((M2 0 20) >>> ((M2 0 27) &&& 31)) &&& 1) = 1 → zW shM g (d + 1) mX9_aWay (zz Q) 59 [(0, .ref 0)] [] M2) ∧ ((((M2 0 20) >>> ((M2 0 27) &&& 31)) &&& 1) = 1 → zCz shM g d mX9_bad [.ref 0, .int 3] M2 (fun b2 M3 => Q b2 M3))))))) ∧ (¬ (M 0 25) = 7 → zCz shM g d mX9_bad [.ref 0, .int 1] M (fun b1 M1 => Q b1 M1))) : zCz shM g (d + 1) mX9_aWay [.ref 0] M Q := by
  refine zW.enter (by decide +kernel) (Nat.le_of_ble_eq_true rfl) ?_
  change zW shM g (d + 1) mX9_aWay (zz Q) 0 [(0, .ref 0)] [] M
  refine z_aload_n dX9_aWay_0 0 rfl ?_
  refine z_geti shM_0 rfl flX9_204 dX9_aWay_1 ?_
  refine z_bipush (v := 7) dX9_aWay_4 (by decide) ?_
  refine z_icmp_eq 15 dX9_aWay_6 (by decide) (fun c1 => ?_) (fun c1 => ?_)
  · have h := h.1 c1
    refine z_aload_n dX9_aWay_15 0 rfl ?_
    refine z_callV (m2 := mX9_next0) (st := []) [] okX9_next0 (Or.inl lkX9_228) shM_0 rfl rfl rfl (Nat.le_of_ble_eq_true rfl) dX9_aWay_16 (zgo_v h fun  M1 h => ?_)
    refine z_aload_n dX9_aWay_19 0 rfl ?_
    refine z_geti shM_0 rfl flX9_204 dX9_aWay_20 ?_
    refine z_iconst (v := 2) dX9_aWay_23 (by decide) ?_
    refine z_icmp_ne 59 dX9_aWay_24 (by decide) (fun c2 => ?_) (fun c2 => ?_)
    · have h := h.1 c2
      exact h
    · have h := h.2 c2
      refine z_aload_n dX9_aWay_27 0 rfl ?_
      refine z_aload_n dX9_aWay_28 0 rfl ?_
      refine z_geti shM_0 rfl flX9_216 dX9_aWay_29 ?_
      refine z_callV (m2 := mX9_isSkater) (st := []) [.int (M1 0 27)] okX9_isSkater (Or.inl lkX9_114) shM_0 rfl rfl rfl (Nat.le_of_ble_eq_true rfl) dX9_aWay_32 (zgo_z h fun b1 M2 h => ?_)
      refine z_ifb_eq 59 dX9_aWay_35 (by decide) (fun c3 => ?_) (fun c3 => ?_)
      · have h := h.1 c3
        exact h
      · have h := h.2 c3
        refine z_aload_n dX9_aWay_38 0 rfl ?_
        refine z_geti shM_0 rfl flX9_276 dX9_aWay_39 ?_
        refine z_aload_n dX9_aWay_42 0 rfl ?_
        refine z_geti shM_0 rfl flX9_216 dX9_aWay_43 ?_
        refine z_ishr dX9_aWay_46 ?_
        refine z_iconst (v := 1) dX9_aWay_47 (by decide) ?_
        refine z_iand dX9_aWay_48 ?_
        refine z_iconst (v := 1) dX9_aWay_49 (by decide) ?_
        refine z_icmp_ne 59 dX9_aWay_50 (by decide) (fun c4 => ?_) (fun c4 => ?_)
        · have h := h.1 c4
          exact h
        · have h := h.2 c4
          refine z_aload_n dX9_aWay_53 0 rfl ?_
          refine z_iconst (v := 3) dX9_aWay_54 (by decide) ?_
          refine z_callV (m2 := mX9_bad) (st := []) [.int 3] okX9_bad (Or.inl lkX9_225) shM_0 rfl rfl rfl (Nat.le_of_ble_eq_true rfl) dX9_aWay_55 (zgo_z h fun b2 M3 h => ?_)
          exact z_zret rfl rfl dX9_aWay_58 h
  · have h := h.2 c1
    refine z_aload_n dX9_aWay_9 0 rfl ?_
    refine z_iconst (v := 1) dX9_aWay_10 (by decide) ?_
    refine z_callV (m2 := mX9_bad) (st := []) [.int 1] okX9_bad (Or.inl lkX9_225) shM_0 rfl rfl rfl (Nat.le_of_ble_eq_true rfl) dX9_aWay_11 (zgo_z h fun b1 M1 h => ?_)
    exact z_zret rfl rfl dX9_aWay_14 h
set_option maxRecDepth 20000 in
theorem vX9_aWay_59 {g : zG} {d : Nat} {Q : Bool → zM → Prop} {M : zM} (h : zCz shM g d mX9_number [.ref 0, .int 0, .int ((M 1 154) - 1)] M (fun b1 M1 => (b1 = true → zW shM g (d + 1) mX9_aWay (zz Q) 98 [(0, .ref 0), (1, .int (M1 0 33)), (2, .int 1)] [] (zup M1 0 20 ((M1 0 20) ||| (1 <<< ((M1 0 33) &&& 31))))) ∧ (b1 = false → Q false M1))) : zW shM g (d + 1) mX9_aWay (zz Q) 59 [(0, .ref 0)] [] M := by
  refine z_aload_n dX9_aWay_59 0 rfl ?_
  refine z_iconst (v := 0) dX9_aWay_60 (by decide) ?_
  refine z_aload_n dX9_aWay_61 0 rfl ?_
  refine z_getr shM_0 rfl flX9_7 dX9_aWay_62 ?_
  refine z_sipush (v := 154) dX9_aWay_65 (by decide) ?_
  refine z_iald2 (k0 := 154) shM_1 (by decide) (by decide) (by decide) dX9_aWay_68 ?_
  refine z_iconst (v := 1) dX9_aWay_69 (by decide) ?_
  refine z_isub dX9_aWay_70 ?_
  refine z_callV (m2 := mX9_number) (st := []) [.int 0, .int ((M 1 154) - 1)] okX9_number (Or.inl lkX9_273) shM_0 rfl rfl rfl (Nat.le_of_ble_eq_true rfl) dX9_aWay_71 (zgo_z h fun b1 M1 h => ?_)
  refine z_ifb_ne 79 dX9_aWay_74 (by decide) (fun c1 => ?_) (fun c1 => ?_)
  · have h := h.1 c1
    refine z_aload_n dX9_aWay_79 0 rfl ?_
    refine z_geti shM_0 rfl flX9_270 dX9_aWay_80 ?_
    refine z_istore_n [(1, .int (M1 0 33)), (0, .ref 0)] dX9_aWay_83 (by decide) rfl ?_
    refine z_iconst (v := 1) dX9_aWay_84 (by decide) ?_
    refine z_istore_n [(2, .int 1), (1, .int (M1 0 33)), (0, .ref 0)] dX9_aWay_85 (by decide) rfl ?_
    refine z_aload_n dX9_aWay_86 2 rfl ?_
    refine z_dupr dX9_aWay_87 ?_
    refine z_geti shM_0 rfl flX9_276 dX9_aWay_88 ?_
    refine z_iconst (v := 1) dX9_aWay_91 (by decide) ?_
    refine z_iload_n dX9_aWay_92 1 rfl ?_
    refine z_ishl dX9_aWay_93 ?_
    refine z_ior dX9_aWay_94 ?_
    refine z_puti shM_0 rfl fpX9_276 rfl rfl dX9_aWay_95 ?_
    exact zW.sub [2, 1, 0] rfl h
  · have h := h.2 c1
    refine z_iconst (v := 0) dX9_aWay_77 (by decide) ?_
    exact z_zret (b := false) rfl rfl dX9_aWay_78 h
set_option maxRecDepth 20000 in
theorem vX9_aWay_98 {g : zG} {d : Nat} {Q : Bool → zM → Prop} {M : zM} {l1 : Int32} {l2 : Int32} (h : zCz shM g d mX9_isIn [.int (M 0 25), .int 11, .int 17] M (fun b1 M1 => (b1 = false → ∃ k1 : Nat, l1 = iv k1 ∧ k1 < 6 ∧ zCz shM g d mX9_need [.ref 0, .int 159] (zup (zup M1 9 k1 l2) 0 19 (((zup M1 9 k1 l2) 0 19) + 1)) (fun b2 M2 => Q b2 M2)) ∧ (b1 = true → ((M1 0 25) < 16 → zCz shM g d mX9_someSteps [.ref 0, .int l1, .int l2] M1 (fun b2 M2 => (b2 = true → zW shM g (d + 1) mX9_aWay (zz Q) 98 [(0, .ref 0), (1, .int l1), (2, .int l2)] [] M2) ∧ (b2 = false → Q false M2))) ∧ (¬ (M1 0 25) < 16 → (¬ (M1 0 25) = 17 → zCv shM g d mX9_next0 [.ref 0] M1 (fun  M2 => zW shM g (d + 1) mX9_aWay (zz Q) 98 [(0, .ref 0), (1, .int l1), (2, .int 0)] [] M2)) ∧ ((M1 0 25) = 17 → zCv shM g d mX9_next0 [.ref 0] M1 (fun  M2 => zW shM g (d + 1) mX9_aWay (zz Q) 98 [(0, .ref 0), (1, .int l1), (2, .int 1)] [] M2)))))) : zW shM g (d + 1) mX9_aWay (zz Q) 98 [(0, .ref 0), (1, .int l1), (2, .int l2)] [] M := by
  refine z_aload_n dX9_aWay_98 0 rfl ?_
  refine z_geti shM_0 rfl flX9_204 dX9_aWay_99 ?_
  refine z_bipush (v := 11) dX9_aWay_102 (by decide) ?_
  refine z_bipush (v := 17) dX9_aWay_104 (by decide) ?_
  refine z_callS (m2 := mX9_isIn) (st := []) [.int (M 0 25), .int 11, .int 17] okX9_isIn (Or.inl lkX9_97) rfl rfl (Nat.le_of_ble_eq_true rfl) dX9_aWay_106 (zgo_z h fun b1 M1 h => ?_)
  refine z_ifb_eq 154 dX9_aWay_109 (by decide) (fun c1 => ?_) (fun c1 => ?_)
  · have h := h.1 c1
    refine z_aload_n dX9_aWay_154 0 rfl ?_
    refine z_getr shM_0 rfl flX9_34 dX9_aWay_155 ?_
    refine z_iload_n dX9_aWay_158 1 rfl ?_
    refine z_iload_n dX9_aWay_159 2 rfl ?_
    obtain ⟨k1, ek1, uk1, h⟩ := h
    refine z_iast2 (k0 := k1) shM_9 (by decide) ek1 uk1 dX9_aWay_160 ?_
    refine z_aload_n dX9_aWay_161 0 rfl ?_
    refine z_dupr dX9_aWay_162 ?_
    refine z_geti shM_0 rfl flX9_282 dX9_aWay_163 ?_
    refine z_iconst (v := 1) dX9_aWay_166 (by decide) ?_
    refine z_iadd dX9_aWay_167 ?_
    refine z_puti shM_0 rfl fpX9_282 rfl rfl dX9_aWay_168 ?_
    refine z_aload_n dX9_aWay_171 0 rfl ?_
    refine z_sipush (v := 159) dX9_aWay_172 (by decide) ?_
    refine z_callV (m2 := mX9_need) (st := []) [.int 159] okX9_need (Or.inl lkX9_258) shM_0 rfl rfl rfl (Nat.le_of_ble_eq_true rfl) dX9_aWay_175 (zgo_z h fun b2 M2 h => ?_)
    exact z_zret rfl rfl dX9_aWay_178 h
  · have h := h.2 c1
    refine z_aload_n dX9_aWay_112 0 rfl ?_
    refine z_geti shM_0 rfl flX9_204 dX9_aWay_113 ?_
    refine z_bipush (v := 16) dX9_aWay_116 (by decide) ?_
    refine z_icmp_lt 143 dX9_aWay_118 (by decide) (fun c2 => ?_) (fun c2 => ?_)
    · have h := h.1 c2
      refine z_aload_n dX9_aWay_143 0 rfl ?_
      refine z_iload_n dX9_aWay_144 1 rfl ?_
      refine z_iload_n dX9_aWay_145 2 rfl ?_
      refine z_callV (m2 := mX9_someSteps) (st := []) [.int l1, .int l2] okX9_someSteps (Or.inl lkX9_279) shM_0 rfl rfl rfl (Nat.le_of_ble_eq_true rfl) dX9_aWay_146 (zgo_z h fun b2 M2 h => ?_)
      refine z_ifb_ne 98 dX9_aWay_149 (by decide) (fun c3 => ?_) (fun c3 => ?_)
      · have h := h.1 c3
        exact h
      · have h := h.2 c3
        refine z_iconst (v := 0) dX9_aWay_152 (by decide) ?_
        exact z_zret (b := false) rfl rfl dX9_aWay_153 h
    · have h := h.2 c2
      refine z_aload_n dX9_aWay_121 0 rfl ?_
      refine z_geti shM_0 rfl flX9_204 dX9_aWay_122 ?_
      refine z_bipush (v := 17) dX9_aWay_125 (by decide) ?_
      refine z_icmp_ne 134 dX9_aWay_127 (by decide) (fun c3 => ?_) (fun c3 => ?_)
      · have h := h.1 c3
        refine z_iconst (v := 0) dX9_aWay_134 (by decide) ?_
        refine z_istore_n [(2, .int 0), (0, .ref 0), (1, .int l1)] dX9_aWay_135 (by decide) rfl ?_
        refine z_aload_n dX9_aWay_136 1 rfl ?_
        refine z_callV (m2 := mX9_next0) (st := []) [] okX9_next0 (Or.inl lkX9_228) shM_0 rfl rfl rfl (Nat.le_of_ble_eq_true rfl) dX9_aWay_137 (zgo_v h fun  M2 h => ?_)
        refine z_goto 98 dX9_aWay_140 (by decide) ?_
        exact zW.sub [1, 2, 0] rfl h
      · have h := h.2 c3
        refine z_iconst (v := 1) dX9_aWay_130 (by decide) ?_
        refine z_goto 135 dX9_aWay_131 (by decide) ?_
        refine z_istore_n [(2, .int 1), (0, .ref 0), (1, .int l1)] dX9_aWay_135 (by decide) rfl ?_
        refine z_aload_n dX9_aWay_136 1 rfl ?_
        refine z_callV (m2 := mX9_next0) (st := []) [] okX9_next0 (Or.inl lkX9_228) shM_0 rfl rfl rfl (Nat.le_of_ble_eq_true rfl) dX9_aWay_137 (zgo_v h fun  M2 h => ?_)
        refine z_goto 98 dX9_aWay_140 (by decide) ?_
        exact zW.sub [1, 2, 0] rfl h
theorem dX9_readsWays_0 : decode cX9_readsWays 0 = .ok (.aload_n 0, 1) := by decide +kernel
theorem dX9_readsWays_1 : decode cX9_readsWays 1 = .ok (.iconst 0, 1) := by decide +kernel
theorem dX9_readsWays_2 : decode cX9_readsWays 2 = .ok (.putfield 282, 3) := by decide +kernel
theorem dX9_readsWays_5 : decode cX9_readsWays 5 = .ok (.aload_n 0, 1) := by decide +kernel
theorem dX9_readsWays_6 : decode cX9_readsWays 6 = .ok (.iconst 0, 1) := by decide +kernel
theorem dX9_readsWays_7 : decode cX9_readsWays 7 = .ok (.putfield 276, 3) := by decide +kernel
theorem dX9_readsWays_10 : decode cX9_readsWays 10 = .ok (.iconst 0, 1) := by decide +kernel
theorem dX9_readsWays_11 : decode cX9_readsWays 11 = .ok (.istore_n 1, 1) := by decide +kernel
theorem dX9_readsWays_12 : decode cX9_readsWays 12 = .ok (.iload_n 1, 1) := by decide +kernel
theorem dX9_readsWays_13 : decode cX9_readsWays 13 = .ok (.bipush 6, 2) := by decide +kernel
theorem dX9_readsWays_15 : decode cX9_readsWays 15 = .ok (.if_icmp .ge 23, 3) := by decide +kernel
theorem dX9_readsWays_18 : decode cX9_readsWays 18 = .ok (.aload_n 0, 1) := by decide +kernel
theorem dX9_readsWays_19 : decode cX9_readsWays 19 = .ok (.getfield 31, 3) := by decide +kernel
theorem dX9_readsWays_22 : decode cX9_readsWays 22 = .ok (.iload_n 1, 1) := by decide +kernel
theorem dX9_readsWays_23 : decode cX9_readsWays 23 = .ok (.iconst 0, 1) := by decide +kernel
theorem dX9_readsWays_24 : decode cX9_readsWays 24 = .ok (.iastore, 1) := by decide +kernel
theorem dX9_readsWays_25 : decode cX9_readsWays 25 = .ok (.aload_n 0, 1) := by decide +kernel
theorem dX9_readsWays_26 : decode cX9_readsWays 26 = .ok (.getfield 34, 3) := by decide +kernel
theorem dX9_readsWays_29 : decode cX9_readsWays 29 = .ok (.iload_n 1, 1) := by decide +kernel
theorem dX9_readsWays_30 : decode cX9_readsWays 30 = .ok (.iconst 1, 1) := by decide +kernel
theorem dX9_readsWays_31 : decode cX9_readsWays 31 = .ok (.iastore, 1) := by decide +kernel
theorem dX9_readsWays_32 : decode cX9_readsWays 32 = .ok (.iinc 1 1, 3) := by decide +kernel
theorem dX9_readsWays_35 : decode cX9_readsWays 35 = .ok (.goto (-23), 3) := by decide +kernel
theorem dX9_readsWays_38 : decode cX9_readsWays 38 = .ok (.iconst 1, 1) := by decide +kernel
theorem dX9_readsWays_39 : decode cX9_readsWays 39 = .ok (.istore_n 1, 1) := by decide +kernel
theorem dX9_readsWays_40 : decode cX9_readsWays 40 = .ok (.iload_n 1, 1) := by decide +kernel
theorem dX9_readsWays_41 : decode cX9_readsWays 41 = .ok (.ifCond .eq 18, 3) := by decide +kernel
theorem dX9_readsWays_44 : decode cX9_readsWays 44 = .ok (.aload_n 0, 1) := by decide +kernel
theorem dX9_readsWays_45 : decode cX9_readsWays 45 = .ok (.getfield 204, 3) := by decide +kernel
theorem dX9_readsWays_48 : decode cX9_readsWays 48 = .ok (.ifCond .eq 11, 3) := by decide +kernel
theorem dX9_readsWays_51 : decode cX9_readsWays 51 = .ok (.aload_n 0, 1) := by decide +kernel
theorem dX9_readsWays_52 : decode cX9_readsWays 52 = .ok (.invokevirtual 285, 3) := by decide +kernel
theorem dX9_readsWays_55 : decode cX9_readsWays 55 = .ok (.istore_n 1, 1) := by decide +kernel
theorem dX9_readsWays_56 : decode cX9_readsWays 56 = .ok (.goto (-16), 3) := by decide +kernel
theorem dX9_readsWays_59 : decode cX9_readsWays 59 = .ok (.iload_n 1, 1) := by decide +kernel
theorem dX9_readsWays_60 : decode cX9_readsWays 60 = .ok (.ireturn, 1) := by decide +kernel
set_option maxRecDepth 20000 in
theorem vX9_readsWays {g : zG} {d : Nat} {Q : Bool → zM → Prop} {M : zM} (h : zW shM g (d + 1) mX9_readsWays (zz Q) 12 [(0, .ref 0), (1, .int 0)] [] (zup (zup M 0 19 0) 0 20 0)) : zCz shM g (d + 1) mX9_readsWays [.ref 0] M Q := by
  refine zW.enter (by decide +kernel) (Nat.le_of_ble_eq_true rfl) ?_
  change zW shM g (d + 1) mX9_readsWays (zz Q) 0 [(0, .ref 0)] [] M
  refine z_aload_n dX9_readsWays_0 0 rfl ?_
  refine z_iconst (v := 0) dX9_readsWays_1 (by decide) ?_
  refine z_puti shM_0 rfl fpX9_282 rfl rfl dX9_readsWays_2 ?_
  refine z_aload_n dX9_readsWays_5 0 rfl ?_
  refine z_iconst (v := 0) dX9_readsWays_6 (by decide) ?_
  refine z_puti shM_0 rfl fpX9_276 rfl rfl dX9_readsWays_7 ?_
  refine z_iconst (v := 0) dX9_readsWays_10 (by decide) ?_
  refine z_istore_n [(1, .int 0), (0, .ref 0)] dX9_readsWays_11 (by decide) rfl ?_
  exact zW.sub [1, 0] rfl h
set_option maxRecDepth 20000 in
theorem vX9_readsWays_12 {g : zG} {d : Nat} {Q : Bool → zM → Prop} {M : zM} {l1 : Int32} (h : (6 ≤ l1 → zW shM g (d + 1) mX9_readsWays (zz Q) 40 [(0, .ref 0), (1, .int 1)] [] M) ∧ (¬ 6 ≤ l1 → ∃ k1 : Nat, l1 = iv k1 ∧ k1 < 6 ∧ zW shM g (d + 1) mX9_readsWays (zz Q) 12 [(0, .ref 0), (1, .int (l1 + 1))] [] (zup (zup M 8 k1 0) 9 k1 1))) : zW shM g (d + 1) mX9_readsWays (zz Q) 12 [(0, .ref 0), (1, .int l1)] [] M := by
  refine z_iload_n dX9_readsWays_12 1 rfl ?_
  refine z_bipush (v := 6) dX9_readsWays_13 (by decide) ?_
  refine z_icmp_ge 38 dX9_readsWays_15 (by decide) (fun c1 => ?_) (fun c1 => ?_)
  · have h := h.1 c1
    refine z_iconst (v := 1) dX9_readsWays_38 (by decide) ?_
    refine z_istore_n [(1, .int 1), (0, .ref 0)] dX9_readsWays_39 (by decide) rfl ?_
    exact zW.sub [1, 0] rfl h
  · have h := h.2 c1
    refine z_aload_n dX9_readsWays_18 0 rfl ?_
    refine z_getr shM_0 rfl flX9_31 dX9_readsWays_19 ?_
    refine z_iload_n dX9_readsWays_22 1 rfl ?_
    refine z_iconst (v := 0) dX9_readsWays_23 (by decide) ?_
    obtain ⟨k1, ek1, uk1, h⟩ := h
    refine z_iast2 (k0 := k1) shM_8 (by decide) ek1 uk1 dX9_readsWays_24 ?_
    refine z_aload_n dX9_readsWays_25 0 rfl ?_
    refine z_getr shM_0 rfl flX9_34 dX9_readsWays_26 ?_
    refine z_iload_n dX9_readsWays_29 1 rfl ?_
    refine z_iconst (v := 1) dX9_readsWays_30 (by decide) ?_
    refine z_iast2 (k0 := k1) shM_9 (by decide) ek1 uk1 dX9_readsWays_31 ?_
    refine z_iinc (x := l1) (v := (l1 + 1)) [(1, .int (l1 + 1)), (0, .ref 0)] dX9_readsWays_32 1 rfl rfl (by decide) rfl ?_
    refine z_goto 12 dX9_readsWays_35 (by decide) ?_
    exact zW.sub [1, 0] rfl h
set_option maxRecDepth 20000 in
theorem vX9_readsWays_40 {g : zG} {d : Nat} {Q : Bool → zM → Prop} {M : zM} {l1 : Int32} (h : (l1 = 0 → ∃ b1 : Bool, l1 = zbI b1 ∧ Q b1 M) ∧ (¬ l1 = 0 → ((M 0 25) = 0 → ∃ b1 : Bool, l1 = zbI b1 ∧ Q b1 M) ∧ (¬ (M 0 25) = 0 → zCz shM g d mX9_aWay [.ref 0] M (fun b1 M1 => zW shM g (d + 1) mX9_readsWays (zz Q) 40 [(0, .ref 0), (1, .int (zbI b1))] [] M1)))) : zW shM g (d + 1) mX9_readsWays (zz Q) 40 [(0, .ref 0), (1, .int l1)] [] M := by
  refine z_iload_n dX9_readsWays_40 1 rfl ?_
  refine z_if_eq 59 dX9_readsWays_41 (by decide) (fun c1 => ?_) (fun c1 => ?_)
  · have h := h.1 c1
    refine z_iload_n dX9_readsWays_59 1 rfl ?_
    obtain ⟨b1, eb1, h⟩ := h
    exact z_zret eb1 rfl dX9_readsWays_60 h
  · have h := h.2 c1
    refine z_aload_n dX9_readsWays_44 0 rfl ?_
    refine z_geti shM_0 rfl flX9_204 dX9_readsWays_45 ?_
    refine z_if_eq 59 dX9_readsWays_48 (by decide) (fun c2 => ?_) (fun c2 => ?_)
    · have h := h.1 c2
      refine z_iload_n dX9_readsWays_59 1 rfl ?_
      obtain ⟨b1, eb1, h⟩ := h
      exact z_zret eb1 rfl dX9_readsWays_60 h
    · have h := h.2 c2
      refine z_aload_n dX9_readsWays_51 0 rfl ?_
      refine z_callV (m2 := mX9_aWay) (st := []) [] okX9_aWay (Or.inl lkX9_285) shM_0 rfl rfl rfl (Nat.le_of_ble_eq_true rfl) dX9_readsWays_52 (zgo_z h fun b1 M1 h => ?_)
      refine z_istore_n [(1, .int (zbI b1)), (0, .ref 0)] dX9_readsWays_55 (by decide) rfl ?_
      refine z_goto 40 dX9_readsWays_56 (by decide) ?_
      exact zW.sub [1, 0] rfl h
theorem dX9_aLetter_0 : decode cX9_aLetter 0 = .ok (.aload_n 0, 1) := by decide +kernel
theorem dX9_aLetter_1 : decode cX9_aLetter 1 = .ok (.getfield 204, 3) := by decide +kernel
theorem dX9_aLetter_4 : decode cX9_aLetter 4 = .ok (.bipush 8, 2) := by decide +kernel
theorem dX9_aLetter_6 : decode cX9_aLetter 6 = .ok (.if_icmp .eq 9, 3) := by decide +kernel
theorem dX9_aLetter_9 : decode cX9_aLetter 9 = .ok (.aload_n 0, 1) := by decide +kernel
theorem dX9_aLetter_10 : decode cX9_aLetter 10 = .ok (.iconst 1, 1) := by decide +kernel
theorem dX9_aLetter_11 : decode cX9_aLetter 11 = .ok (.invokevirtual 225, 3) := by decide +kernel
theorem dX9_aLetter_14 : decode cX9_aLetter 14 = .ok (.ireturn, 1) := by decide +kernel
theorem dX9_aLetter_15 : decode cX9_aLetter 15 = .ok (.aload_n 0, 1) := by decide +kernel
theorem dX9_aLetter_16 : decode cX9_aLetter 16 = .ok (.getfield 288, 3) := by decide +kernel
theorem dX9_aLetter_19 : decode cX9_aLetter 19 = .ok (.bipush 8, 2) := by decide +kernel
theorem dX9_aLetter_21 : decode cX9_aLetter 21 = .ok (.if_icmp .ne 9, 3) := by decide +kernel
theorem dX9_aLetter_24 : decode cX9_aLetter 24 = .ok (.aload_n 0, 1) := by decide +kernel
theorem dX9_aLetter_25 : decode cX9_aLetter 25 = .ok (.iconst 3, 1) := by decide +kernel
theorem dX9_aLetter_26 : decode cX9_aLetter 26 = .ok (.invokevirtual 225, 3) := by decide +kernel
theorem dX9_aLetter_29 : decode cX9_aLetter 29 = .ok (.ireturn, 1) := by decide +kernel
theorem dX9_aLetter_30 : decode cX9_aLetter 30 = .ok (.aload_n 0, 1) := by decide +kernel
theorem dX9_aLetter_31 : decode cX9_aLetter 31 = .ok (.invokevirtual 228, 3) := by decide +kernel
theorem dX9_aLetter_34 : decode cX9_aLetter 34 = .ok (.iconst 0, 1) := by decide +kernel
theorem dX9_aLetter_35 : decode cX9_aLetter 35 = .ok (.istore_n 1, 1) := by decide +kernel
theorem dX9_aLetter_36 : decode cX9_aLetter 36 = .ok (.iconst 0, 1) := by decide +kernel
theorem dX9_aLetter_37 : decode cX9_aLetter 37 = .ok (.istore_n 2, 1) := by decide +kernel
theorem dX9_aLetter_38 : decode cX9_aLetter 38 = .ok (.iload_n 2, 1) := by decide +kernel
theorem dX9_aLetter_39 : decode cX9_aLetter 39 = .ok (.iconst 3, 1) := by decide +kernel
theorem dX9_aLetter_40 : decode cX9_aLetter 40 = .ok (.if_icmp .ge 62, 3) := by decide +kernel
theorem dX9_aLetter_43 : decode cX9_aLetter 43 = .ok (.iload_n 2, 1) := by decide +kernel
theorem dX9_aLetter_44 : decode cX9_aLetter 44 = .ok (.iconst 2, 1) := by decide +kernel
theorem dX9_aLetter_45 : decode cX9_aLetter 45 = .ok (.if_icmp .ne 28, 3) := by decide +kernel
theorem dX9_aLetter_48 : decode cX9_aLetter 48 = .ok (.aload_n 0, 1) := by decide +kernel
theorem dX9_aLetter_49 : decode cX9_aLetter 49 = .ok (.getfield 204, 3) := by decide +kernel
theorem dX9_aLetter_52 : decode cX9_aLetter 52 = .ok (.iconst 2, 1) := by decide +kernel
theorem dX9_aLetter_53 : decode cX9_aLetter 53 = .ok (.if_icmp .ne 20, 3) := by decide +kernel
theorem dX9_aLetter_56 : decode cX9_aLetter 56 = .ok (.aload_n 0, 1) := by decide +kernel
theorem dX9_aLetter_57 : decode cX9_aLetter 57 = .ok (.getfield 216, 3) := by decide +kernel
theorem dX9_aLetter_60 : decode cX9_aLetter 60 = .ok (.ifCond .ne 13, 3) := by decide +kernel
theorem dX9_aLetter_63 : decode cX9_aLetter 63 = .ok (.iload_n 1, 1) := by decide +kernel
theorem dX9_aLetter_64 : decode cX9_aLetter 64 = .ok (.ifCond .ne 9, 3) := by decide +kernel
theorem dX9_aLetter_67 : decode cX9_aLetter 67 = .ok (.aload_n 0, 1) := by decide +kernel
theorem dX9_aLetter_68 : decode cX9_aLetter 68 = .ok (.iconst 3, 1) := by decide +kernel
theorem dX9_aLetter_69 : decode cX9_aLetter 69 = .ok (.invokevirtual 225, 3) := by decide +kernel
theorem dX9_aLetter_72 : decode cX9_aLetter 72 = .ok (.ireturn, 1) := by decide +kernel
theorem dX9_aLetter_73 : decode cX9_aLetter 73 = .ok (.aload_n 0, 1) := by decide +kernel
theorem dX9_aLetter_74 : decode cX9_aLetter 74 = .ok (.iconst 0, 1) := by decide +kernel
theorem dX9_aLetter_75 : decode cX9_aLetter 75 = .ok (.bipush 7, 2) := by decide +kernel
theorem dX9_aLetter_77 : decode cX9_aLetter 77 = .ok (.invokevirtual 273, 3) := by decide +kernel
theorem dX9_aLetter_80 : decode cX9_aLetter 80 = .ok (.ifCond .ne 5, 3) := by decide +kernel
theorem dX9_aLetter_83 : decode cX9_aLetter 83 = .ok (.iconst 0, 1) := by decide +kernel
theorem dX9_aLetter_84 : decode cX9_aLetter 84 = .ok (.ireturn, 1) := by decide +kernel
theorem dX9_aLetter_85 : decode cX9_aLetter 85 = .ok (.iload_n 1, 1) := by decide +kernel
theorem dX9_aLetter_86 : decode cX9_aLetter 86 = .ok (.aload_n 0, 1) := by decide +kernel
theorem dX9_aLetter_87 : decode cX9_aLetter 87 = .ok (.getfield 270, 3) := by decide +kernel
theorem dX9_aLetter_90 : decode cX9_aLetter 90 = .ok (.iconst 3, 1) := by decide +kernel
theorem dX9_aLetter_91 : decode cX9_aLetter 91 = .ok (.iload_n 2, 1) := by decide +kernel
theorem dX9_aLetter_92 : decode cX9_aLetter 92 = .ok (.imul, 1) := by decide +kernel
theorem dX9_aLetter_93 : decode cX9_aLetter 93 = .ok (.ishl, 1) := by decide +kernel
theorem dX9_aLetter_94 : decode cX9_aLetter 94 = .ok (.ior, 1) := by decide +kernel
theorem dX9_aLetter_95 : decode cX9_aLetter 95 = .ok (.istore_n 1, 1) := by decide +kernel
theorem dX9_aLetter_96 : decode cX9_aLetter 96 = .ok (.iinc 2 1, 3) := by decide +kernel
theorem dX9_aLetter_99 : decode cX9_aLetter 99 = .ok (.goto (-61), 3) := by decide +kernel
theorem dX9_aLetter_102 : decode cX9_aLetter 102 = .ok (.aload_n 0, 1) := by decide +kernel
theorem dX9_aLetter_103 : decode cX9_aLetter 103 = .ok (.getfield 37, 3) := by decide +kernel
theorem dX9_aLetter_106 : decode cX9_aLetter 106 = .ok (.aload_n 0, 1) := by decide +kernel
theorem dX9_aLetter_107 : decode cX9_aLetter 107 = .ok (.getfield 288, 3) := by decide +kernel
theorem dX9_aLetter_110 : decode cX9_aLetter 110 = .ok (.iload_n 1, 1) := by decide +kernel
theorem dX9_aLetter_111 : decode cX9_aLetter 111 = .ok (.iastore, 1) := by decide +kernel
theorem dX9_aLetter_112 : decode cX9_aLetter 112 = .ok (.aload_n 0, 1) := by decide +kernel
theorem dX9_aLetter_113 : decode cX9_aLetter 113 = .ok (.dup, 1) := by decide +kernel
theorem dX9_aLetter_114 : decode cX9_aLetter 114 = .ok (.getfield 288, 3) := by decide +kernel
theorem dX9_aLetter_117 : decode cX9_aLetter 117 = .ok (.iconst 1, 1) := by decide +kernel
theorem dX9_aLetter_118 : decode cX9_aLetter 118 = .ok (.iadd, 1) := by decide +kernel
theorem dX9_aLetter_119 : decode cX9_aLetter 119 = .ok (.putfield 288, 3) := by decide +kernel
theorem dX9_aLetter_122 : decode cX9_aLetter 122 = .ok (.aload_n 0, 1) := by decide +kernel
theorem dX9_aLetter_123 : decode cX9_aLetter 123 = .ok (.sipush 159, 3) := by decide +kernel
theorem dX9_aLetter_126 : decode cX9_aLetter 126 = .ok (.invokevirtual 258, 3) := by decide +kernel
theorem dX9_aLetter_129 : decode cX9_aLetter 129 = .ok (.ireturn, 1) := by decide +kernel
set_option maxRecDepth 20000 in
theorem vX9_aLetter {g : zG} {d : Nat} {Q : Bool → zM → Prop} {M : zM} (h : ((M 0 25) = 8 → (¬ (M 0 21) = 8 → zCv shM g d mX9_next0 [.ref 0] M (fun  M1 => zW shM g (d + 1) mX9_aLetter (zz Q) 38 [(0, .ref 0), (1, .int 0), (2, .int 0)] [] M1)) ∧ ((M 0 21) = 8 → zCz shM g d mX9_bad [.ref 0, .int 3] M (fun b1 M1 => Q b1 M1))) ∧ (¬ (M 0 25) = 8 → zCz shM g d mX9_bad [.ref 0, .int 1] M (fun b1 M1 => Q b1 M1))) : zCz shM g (d + 1) mX9_aLetter [.ref 0] M Q := by
  refine zW.enter (by decide +kernel) (Nat.le_of_ble_eq_true rfl) ?_
  change zW shM g (d + 1) mX9_aLetter (zz Q) 0 [(0, .ref 0)] [] M
  refine z_aload_n dX9_aLetter_0 0 rfl ?_
  refine z_geti shM_0 rfl flX9_204 dX9_aLetter_1 ?_
  refine z_bipush (v := 8) dX9_aLetter_4 (by decide) ?_
  refine z_icmp_eq 15 dX9_aLetter_6 (by decide) (fun c1 => ?_) (fun c1 => ?_)
  · have h := h.1 c1
    refine z_aload_n dX9_aLetter_15 0 rfl ?_
    refine z_geti shM_0 rfl flX9_288 dX9_aLetter_16 ?_
    refine z_bipush (v := 8) dX9_aLetter_19 (by decide) ?_
    refine z_icmp_ne 30 dX9_aLetter_21 (by decide) (fun c2 => ?_) (fun c2 => ?_)
    · have h := h.1 c2
      refine z_aload_n dX9_aLetter_30 0 rfl ?_
      refine z_callV (m2 := mX9_next0) (st := []) [] okX9_next0 (Or.inl lkX9_228) shM_0 rfl rfl rfl (Nat.le_of_ble_eq_true rfl) dX9_aLetter_31 (zgo_v h fun  M1 h => ?_)
      refine z_iconst (v := 0) dX9_aLetter_34 (by decide) ?_
      refine z_istore_n [(1, .int 0), (0, .ref 0)] dX9_aLetter_35 (by decide) rfl ?_
      refine z_iconst (v := 0) dX9_aLetter_36 (by decide) ?_
      refine z_istore_n [(2, .int 0), (1, .int 0), (0, .ref 0)] dX9_aLetter_37 (by decide) rfl ?_
      exact zW.sub [2, 1, 0] rfl h
    · have h := h.2 c2
      refine z_aload_n dX9_aLetter_24 0 rfl ?_
      refine z_iconst (v := 3) dX9_aLetter_25 (by decide) ?_
      refine z_callV (m2 := mX9_bad) (st := []) [.int 3] okX9_bad (Or.inl lkX9_225) shM_0 rfl rfl rfl (Nat.le_of_ble_eq_true rfl) dX9_aLetter_26 (zgo_z h fun b1 M1 h => ?_)
      exact z_zret rfl rfl dX9_aLetter_29 h
  · have h := h.2 c1
    refine z_aload_n dX9_aLetter_9 0 rfl ?_
    refine z_iconst (v := 1) dX9_aLetter_10 (by decide) ?_
    refine z_callV (m2 := mX9_bad) (st := []) [.int 1] okX9_bad (Or.inl lkX9_225) shM_0 rfl rfl rfl (Nat.le_of_ble_eq_true rfl) dX9_aLetter_11 (zgo_z h fun b1 M1 h => ?_)
    exact z_zret rfl rfl dX9_aLetter_14 h
set_option maxRecDepth 20000 in
theorem vX9_aLetter_38 {g : zG} {d : Nat} {Q : Bool → zM → Prop} {M : zM} {l1 : Int32} {l2 : Int32} (h : (3 ≤ l2 → ∃ k1 : Nat, (M 0 21) = iv k1 ∧ k1 < 8 ∧ zCz shM g d mX9_need [.ref 0, .int 159] (zup (zup M 10 k1 l1) 0 21 (((zup M 10 k1 l1) 0 21) + 1)) (fun b1 M1 => Q b1 M1)) ∧ (¬ 3 ≤ l2 → (¬ l2 = 2 → zW shM g (d + 1) mX9_aLetter (zz Q) 73 [(0, .ref 0), (1, .int l1), (2, .int l2)] [] M) ∧ (l2 = 2 → (¬ (M 0 25) = 2 → zW shM g (d + 1) mX9_aLetter (zz Q) 73 [(0, .ref 0), (1, .int l1), (2, .int l2)] [] M) ∧ ((M 0 25) = 2 → (¬ (M 0 27) = 0 → zW shM g (d + 1) mX9_aLetter (zz Q) 73 [(0, .ref 0), (1, .int l1), (2, .int l2)] [] M) ∧ ((M 0 27) = 0 → (¬ l1 = 0 → zW shM g (d + 1) mX9_aLetter (zz Q) 73 [(0, .ref 0), (1, .int l1), (2, .int l2)] [] M) ∧ (l1 = 0 → zCz shM g d mX9_bad [.ref 0, .int 3] M (fun b1 M1 => Q b1 M1))))))) : zW shM g (d + 1) mX9_aLetter (zz Q) 38 [(0, .ref 0), (1, .int l1), (2, .int l2)] [] M := by
  refine z_iload_n dX9_aLetter_38 2 rfl ?_
  refine z_iconst (v := 3) dX9_aLetter_39 (by decide) ?_
  refine z_icmp_ge 102 dX9_aLetter_40 (by decide) (fun c1 => ?_) (fun c1 => ?_)
  · have h := h.1 c1
    refine z_aload_n dX9_aLetter_102 0 rfl ?_
    refine z_getr shM_0 rfl flX9_37 dX9_aLetter_103 ?_
    refine z_aload_n dX9_aLetter_106 0 rfl ?_
    refine z_geti shM_0 rfl flX9_288 dX9_aLetter_107 ?_
    refine z_iload_n dX9_aLetter_110 1 rfl ?_
    obtain ⟨k1, ek1, uk1, h⟩ := h
    refine z_iast2 (k0 := k1) shM_10 (by decide) ek1 uk1 dX9_aLetter_111 ?_
    refine z_aload_n dX9_aLetter_112 0 rfl ?_
    refine z_dupr dX9_aLetter_113 ?_
    refine z_geti shM_0 rfl flX9_288 dX9_aLetter_114 ?_
    refine z_iconst (v := 1) dX9_aLetter_117 (by decide) ?_
    refine z_iadd dX9_aLetter_118 ?_
    refine z_puti shM_0 rfl fpX9_288 rfl rfl dX9_aLetter_119 ?_
    refine z_aload_n dX9_aLetter_122 0 rfl ?_
    refine z_sipush (v := 159) dX9_aLetter_123 (by decide) ?_
    refine z_callV (m2 := mX9_need) (st := []) [.int 159] okX9_need (Or.inl lkX9_258) shM_0 rfl rfl rfl (Nat.le_of_ble_eq_true rfl) dX9_aLetter_126 (zgo_z h fun b1 M1 h => ?_)
    exact z_zret rfl rfl dX9_aLetter_129 h
  · have h := h.2 c1
    refine z_iload_n dX9_aLetter_43 2 rfl ?_
    refine z_iconst (v := 2) dX9_aLetter_44 (by decide) ?_
    refine z_icmp_ne 73 dX9_aLetter_45 (by decide) (fun c2 => ?_) (fun c2 => ?_)
    · have h := h.1 c2
      exact h
    · have h := h.2 c2
      refine z_aload_n dX9_aLetter_48 0 rfl ?_
      refine z_geti shM_0 rfl flX9_204 dX9_aLetter_49 ?_
      refine z_iconst (v := 2) dX9_aLetter_52 (by decide) ?_
      refine z_icmp_ne 73 dX9_aLetter_53 (by decide) (fun c3 => ?_) (fun c3 => ?_)
      · have h := h.1 c3
        exact h
      · have h := h.2 c3
        refine z_aload_n dX9_aLetter_56 0 rfl ?_
        refine z_geti shM_0 rfl flX9_216 dX9_aLetter_57 ?_
        refine z_if_ne 73 dX9_aLetter_60 (by decide) (fun c4 => ?_) (fun c4 => ?_)
        · have h := h.1 c4
          exact h
        · have h := h.2 c4
          refine z_iload_n dX9_aLetter_63 1 rfl ?_
          refine z_if_ne 73 dX9_aLetter_64 (by decide) (fun c5 => ?_) (fun c5 => ?_)
          · have h := h.1 c5
            exact h
          · have h := h.2 c5
            refine z_aload_n dX9_aLetter_67 0 rfl ?_
            refine z_iconst (v := 3) dX9_aLetter_68 (by decide) ?_
            refine z_callV (m2 := mX9_bad) (st := []) [.int 3] okX9_bad (Or.inl lkX9_225) shM_0 rfl rfl rfl (Nat.le_of_ble_eq_true rfl) dX9_aLetter_69 (zgo_z h fun b1 M1 h => ?_)
            exact z_zret rfl rfl dX9_aLetter_72 h
set_option maxRecDepth 20000 in
theorem vX9_aLetter_73 {g : zG} {d : Nat} {Q : Bool → zM → Prop} {M : zM} {l1 : Int32} {l2 : Int32} (h : zCz shM g d mX9_number [.ref 0, .int 0, .int 7] M (fun b1 M1 => (b1 = true → zW shM g (d + 1) mX9_aLetter (zz Q) 38 [(0, .ref 0), (1, .int (l1 ||| ((M1 0 33) <<< ((3 * l2) &&& 31)))), (2, .int (l2 + 1))] [] M1) ∧ (b1 = false → Q false M1))) : zW shM g (d + 1) mX9_aLetter (zz Q) 73 [(0, .ref 0), (1, .int l1), (2, .int l2)] [] M := by
  refine z_aload_n dX9_aLetter_73 0 rfl ?_
  refine z_iconst (v := 0) dX9_aLetter_74 (by decide) ?_
  refine z_bipush (v := 7) dX9_aLetter_75 (by decide) ?_
  refine z_callV (m2 := mX9_number) (st := []) [.int 0, .int 7] okX9_number (Or.inl lkX9_273) shM_0 rfl rfl rfl (Nat.le_of_ble_eq_true rfl) dX9_aLetter_77 (zgo_z h fun b1 M1 h => ?_)
  refine z_ifb_ne 85 dX9_aLetter_80 (by decide) (fun c1 => ?_) (fun c1 => ?_)
  · have h := h.1 c1
    refine z_iload_n dX9_aLetter_85 1 rfl ?_
    refine z_aload_n dX9_aLetter_86 0 rfl ?_
    refine z_geti shM_0 rfl flX9_270 dX9_aLetter_87 ?_
    refine z_iconst (v := 3) dX9_aLetter_90 (by decide) ?_
    refine z_iload_n dX9_aLetter_91 2 rfl ?_
    refine z_imul dX9_aLetter_92 ?_
    refine z_ishl dX9_aLetter_93 ?_
    refine z_ior dX9_aLetter_94 ?_
    refine z_istore_n [(1, .int (l1 ||| ((M1 0 33) <<< ((3 * l2) &&& 31)))), (0, .ref 0), (2, .int l2)] dX9_aLetter_95 (by decide) rfl ?_
    refine z_iinc (x := l2) (v := (l2 + 1)) [(2, .int (l2 + 1)), (1, .int (l1 ||| ((M1 0 33) <<< ((3 * l2) &&& 31)))), (0, .ref 0)] dX9_aLetter_96 2 rfl rfl (by decide) rfl ?_
    refine z_goto 38 dX9_aLetter_99 (by decide) ?_
    exact zW.sub [2, 1, 0] rfl h
  · have h := h.2 c1
    refine z_iconst (v := 0) dX9_aLetter_83 (by decide) ?_
    exact z_zret (b := false) rfl rfl dX9_aLetter_84 h
theorem dX9_readsLetters_0 : decode cX9_readsLetters 0 = .ok (.aload_n 0, 1) := by decide +kernel
theorem dX9_readsLetters_1 : decode cX9_readsLetters 1 = .ok (.iconst 0, 1) := by decide +kernel
theorem dX9_readsLetters_2 : decode cX9_readsLetters 2 = .ok (.putfield 288, 3) := by decide +kernel
theorem dX9_readsLetters_5 : decode cX9_readsLetters 5 = .ok (.iconst 1, 1) := by decide +kernel
theorem dX9_readsLetters_6 : decode cX9_readsLetters 6 = .ok (.istore_n 1, 1) := by decide +kernel
theorem dX9_readsLetters_7 : decode cX9_readsLetters 7 = .ok (.iload_n 1, 1) := by decide +kernel
theorem dX9_readsLetters_8 : decode cX9_readsLetters 8 = .ok (.ifCond .eq 18, 3) := by decide +kernel
theorem dX9_readsLetters_11 : decode cX9_readsLetters 11 = .ok (.aload_n 0, 1) := by decide +kernel
theorem dX9_readsLetters_12 : decode cX9_readsLetters 12 = .ok (.getfield 204, 3) := by decide +kernel
theorem dX9_readsLetters_15 : decode cX9_readsLetters 15 = .ok (.ifCond .eq 11, 3) := by decide +kernel
theorem dX9_readsLetters_18 : decode cX9_readsLetters 18 = .ok (.aload_n 0, 1) := by decide +kernel
theorem dX9_readsLetters_19 : decode cX9_readsLetters 19 = .ok (.invokevirtual 291, 3) := by decide +kernel
theorem dX9_readsLetters_22 : decode cX9_readsLetters 22 = .ok (.istore_n 1, 1) := by decide +kernel
theorem dX9_readsLetters_23 : decode cX9_readsLetters 23 = .ok (.goto (-16), 3) := by decide +kernel
theorem dX9_readsLetters_26 : decode cX9_readsLetters 26 = .ok (.iload_n 1, 1) := by decide +kernel
theorem dX9_readsLetters_27 : decode cX9_readsLetters 27 = .ok (.ireturn, 1) := by decide +kernel
set_option maxRecDepth 20000 in
theorem vX9_readsLetters {g : zG} {d : Nat} {Q : Bool → zM → Prop} {M : zM} (h : zW shM g (d + 1) mX9_readsLetters (zz Q) 7 [(0, .ref 0), (1, .int 1)] [] (zup M 0 21 0)) : zCz shM g (d + 1) mX9_readsLetters [.ref 0] M Q := by
  refine zW.enter (by decide +kernel) (Nat.le_of_ble_eq_true rfl) ?_
  change zW shM g (d + 1) mX9_readsLetters (zz Q) 0 [(0, .ref 0)] [] M
  refine z_aload_n dX9_readsLetters_0 0 rfl ?_
  refine z_iconst (v := 0) dX9_readsLetters_1 (by decide) ?_
  refine z_puti shM_0 rfl fpX9_288 rfl rfl dX9_readsLetters_2 ?_
  refine z_iconst (v := 1) dX9_readsLetters_5 (by decide) ?_
  refine z_istore_n [(1, .int 1), (0, .ref 0)] dX9_readsLetters_6 (by decide) rfl ?_
  exact zW.sub [1, 0] rfl h
set_option maxRecDepth 20000 in
theorem vX9_readsLetters_7 {g : zG} {d : Nat} {Q : Bool → zM → Prop} {M : zM} {l1 : Int32} (h : (l1 = 0 → ∃ b1 : Bool, l1 = zbI b1 ∧ Q b1 M) ∧ (¬ l1 = 0 → ((M 0 25) = 0 → ∃ b1 : Bool, l1 = zbI b1 ∧ Q b1 M) ∧ (¬ (M 0 25) = 0 → zCz shM g d mX9_aLetter [.ref 0] M (fun b1 M1 => zW shM g (d + 1) mX9_readsLetters (zz Q) 7 [(0, .ref 0), (1, .int (zbI b1))] [] M1)))) : zW shM g (d + 1) mX9_readsLetters (zz Q) 7 [(0, .ref 0), (1, .int l1)] [] M := by
  refine z_iload_n dX9_readsLetters_7 1 rfl ?_
  refine z_if_eq 26 dX9_readsLetters_8 (by decide) (fun c1 => ?_) (fun c1 => ?_)
  · have h := h.1 c1
    refine z_iload_n dX9_readsLetters_26 1 rfl ?_
    obtain ⟨b1, eb1, h⟩ := h
    exact z_zret eb1 rfl dX9_readsLetters_27 h
  · have h := h.2 c1
    refine z_aload_n dX9_readsLetters_11 0 rfl ?_
    refine z_geti shM_0 rfl flX9_204 dX9_readsLetters_12 ?_
    refine z_if_eq 26 dX9_readsLetters_15 (by decide) (fun c2 => ?_) (fun c2 => ?_)
    · have h := h.1 c2
      refine z_iload_n dX9_readsLetters_26 1 rfl ?_
      obtain ⟨b1, eb1, h⟩ := h
      exact z_zret eb1 rfl dX9_readsLetters_27 h
    · have h := h.2 c2
      refine z_aload_n dX9_readsLetters_18 0 rfl ?_
      refine z_callV (m2 := mX9_aLetter) (st := []) [] okX9_aLetter (Or.inl lkX9_291) shM_0 rfl rfl rfl (Nat.le_of_ble_eq_true rfl) dX9_readsLetters_19 (zgo_z h fun b1 M1 h => ?_)
      refine z_istore_n [(1, .int (zbI b1)), (0, .ref 0)] dX9_readsLetters_22 (by decide) rfl ?_
      refine z_goto 7 dX9_readsLetters_23 (by decide) ?_
      exact zW.sub [1, 0] rfl h
theorem dX9_aWant_0 : decode cX9_aWant 0 = .ok (.aload_n 0, 1) := by decide +kernel
theorem dX9_aWant_1 : decode cX9_aWant 1 = .ok (.getfield 204, 3) := by decide +kernel
theorem dX9_aWant_4 : decode cX9_aWant 4 = .ok (.bipush 9, 2) := by decide +kernel
theorem dX9_aWant_6 : decode cX9_aWant 6 = .ok (.if_icmp .eq 9, 3) := by decide +kernel
theorem dX9_aWant_9 : decode cX9_aWant 9 = .ok (.aload_n 0, 1) := by decide +kernel
theorem dX9_aWant_10 : decode cX9_aWant 10 = .ok (.iconst 1, 1) := by decide +kernel
theorem dX9_aWant_11 : decode cX9_aWant 11 = .ok (.invokevirtual 225, 3) := by decide +kernel
theorem dX9_aWant_14 : decode cX9_aWant 14 = .ok (.ireturn, 1) := by decide +kernel
theorem dX9_aWant_15 : decode cX9_aWant 15 = .ok (.aload_n 0, 1) := by decide +kernel
theorem dX9_aWant_16 : decode cX9_aWant 16 = .ok (.getfield 294, 3) := by decide +kernel
theorem dX9_aWant_19 : decode cX9_aWant 19 = .ok (.bipush 10, 2) := by decide +kernel
theorem dX9_aWant_21 : decode cX9_aWant 21 = .ok (.if_icmp .ne 9, 3) := by decide +kernel
theorem dX9_aWant_24 : decode cX9_aWant 24 = .ok (.aload_n 0, 1) := by decide +kernel
theorem dX9_aWant_25 : decode cX9_aWant 25 = .ok (.iconst 3, 1) := by decide +kernel
theorem dX9_aWant_26 : decode cX9_aWant 26 = .ok (.invokevirtual 225, 3) := by decide +kernel
theorem dX9_aWant_29 : decode cX9_aWant 29 = .ok (.ireturn, 1) := by decide +kernel
theorem dX9_aWant_30 : decode cX9_aWant 30 = .ok (.aload_n 0, 1) := by decide +kernel
theorem dX9_aWant_31 : decode cX9_aWant 31 = .ok (.invokevirtual 228, 3) := by decide +kernel
theorem dX9_aWant_34 : decode cX9_aWant 34 = .ok (.aload_n 0, 1) := by decide +kernel
theorem dX9_aWant_35 : decode cX9_aWant 35 = .ok (.iconst 0, 1) := by decide +kernel
theorem dX9_aWant_36 : decode cX9_aWant 36 = .ok (.aload_n 0, 1) := by decide +kernel
theorem dX9_aWant_37 : decode cX9_aWant 37 = .ok (.getfield 7, 3) := by decide +kernel
theorem dX9_aWant_40 : decode cX9_aWant 40 = .ok (.sipush 157, 3) := by decide +kernel
theorem dX9_aWant_43 : decode cX9_aWant 43 = .ok (.iaload, 1) := by decide +kernel
theorem dX9_aWant_44 : decode cX9_aWant 44 = .ok (.iconst 1, 1) := by decide +kernel
theorem dX9_aWant_45 : decode cX9_aWant 45 = .ok (.isub, 1) := by decide +kernel
theorem dX9_aWant_46 : decode cX9_aWant 46 = .ok (.invokevirtual 273, 3) := by decide +kernel
theorem dX9_aWant_49 : decode cX9_aWant 49 = .ok (.ifCond .ne 5, 3) := by decide +kernel
theorem dX9_aWant_52 : decode cX9_aWant 52 = .ok (.iconst 0, 1) := by decide +kernel
theorem dX9_aWant_53 : decode cX9_aWant 53 = .ok (.ireturn, 1) := by decide +kernel
theorem dX9_aWant_54 : decode cX9_aWant 54 = .ok (.aload_n 0, 1) := by decide +kernel
theorem dX9_aWant_55 : decode cX9_aWant 55 = .ok (.getfield 40, 3) := by decide +kernel
theorem dX9_aWant_58 : decode cX9_aWant 58 = .ok (.iconst 2, 1) := by decide +kernel
theorem dX9_aWant_59 : decode cX9_aWant 59 = .ok (.aload_n 0, 1) := by decide +kernel
theorem dX9_aWant_60 : decode cX9_aWant 60 = .ok (.getfield 294, 3) := by decide +kernel
theorem dX9_aWant_63 : decode cX9_aWant 63 = .ok (.imul, 1) := by decide +kernel
theorem dX9_aWant_64 : decode cX9_aWant 64 = .ok (.aload_n 0, 1) := by decide +kernel
theorem dX9_aWant_65 : decode cX9_aWant 65 = .ok (.getfield 270, 3) := by decide +kernel
theorem dX9_aWant_68 : decode cX9_aWant 68 = .ok (.iastore, 1) := by decide +kernel
theorem dX9_aWant_69 : decode cX9_aWant 69 = .ok (.aload_n 0, 1) := by decide +kernel
theorem dX9_aWant_70 : decode cX9_aWant 70 = .ok (.bipush 10, 2) := by decide +kernel
theorem dX9_aWant_72 : decode cX9_aWant 72 = .ok (.invokevirtual 258, 3) := by decide +kernel
theorem dX9_aWant_75 : decode cX9_aWant 75 = .ok (.ifCond .ne 5, 3) := by decide +kernel
theorem dX9_aWant_78 : decode cX9_aWant 78 = .ok (.iconst 0, 1) := by decide +kernel
theorem dX9_aWant_79 : decode cX9_aWant 79 = .ok (.ireturn, 1) := by decide +kernel
theorem dX9_aWant_80 : decode cX9_aWant 80 = .ok (.aload_n 0, 1) := by decide +kernel
theorem dX9_aWant_81 : decode cX9_aWant 81 = .ok (.getfield 204, 3) := by decide +kernel
theorem dX9_aWant_84 : decode cX9_aWant 84 = .ok (.iconst 2, 1) := by decide +kernel
theorem dX9_aWant_85 : decode cX9_aWant 85 = .ok (.if_icmp .ne 20, 3) := by decide +kernel
theorem dX9_aWant_88 : decode cX9_aWant 88 = .ok (.aload_n 0, 1) := by decide +kernel
theorem dX9_aWant_89 : decode cX9_aWant 89 = .ok (.aload_n 0, 1) := by decide +kernel
theorem dX9_aWant_90 : decode cX9_aWant 90 = .ok (.getfield 216, 3) := by decide +kernel
theorem dX9_aWant_93 : decode cX9_aWant 93 = .ok (.invokevirtual 297, 3) := by decide +kernel
theorem dX9_aWant_96 : decode cX9_aWant 96 = .ok (.ifCond .ne 9, 3) := by decide +kernel
theorem dX9_aWant_99 : decode cX9_aWant 99 = .ok (.aload_n 0, 1) := by decide +kernel
theorem dX9_aWant_100 : decode cX9_aWant 100 = .ok (.iconst 2, 1) := by decide +kernel
theorem dX9_aWant_101 : decode cX9_aWant 101 = .ok (.invokevirtual 225, 3) := by decide +kernel
theorem dX9_aWant_104 : decode cX9_aWant 104 = .ok (.ireturn, 1) := by decide +kernel
theorem dX9_aWant_105 : decode cX9_aWant 105 = .ok (.aload_n 0, 1) := by decide +kernel
theorem dX9_aWant_106 : decode cX9_aWant 106 = .ok (.iconst 0, 1) := by decide +kernel
theorem dX9_aWant_107 : decode cX9_aWant 107 = .ok (.bipush 63, 2) := by decide +kernel
theorem dX9_aWant_109 : decode cX9_aWant 109 = .ok (.invokevirtual 273, 3) := by decide +kernel
theorem dX9_aWant_112 : decode cX9_aWant 112 = .ok (.ifCond .ne 5, 3) := by decide +kernel
theorem dX9_aWant_115 : decode cX9_aWant 115 = .ok (.iconst 0, 1) := by decide +kernel
theorem dX9_aWant_116 : decode cX9_aWant 116 = .ok (.ireturn, 1) := by decide +kernel
theorem dX9_aWant_117 : decode cX9_aWant 117 = .ok (.aload_n 0, 1) := by decide +kernel
theorem dX9_aWant_118 : decode cX9_aWant 118 = .ok (.getfield 40, 3) := by decide +kernel
theorem dX9_aWant_121 : decode cX9_aWant 121 = .ok (.iconst 2, 1) := by decide +kernel
theorem dX9_aWant_122 : decode cX9_aWant 122 = .ok (.aload_n 0, 1) := by decide +kernel
theorem dX9_aWant_123 : decode cX9_aWant 123 = .ok (.getfield 294, 3) := by decide +kernel
theorem dX9_aWant_126 : decode cX9_aWant 126 = .ok (.imul, 1) := by decide +kernel
theorem dX9_aWant_127 : decode cX9_aWant 127 = .ok (.iconst 1, 1) := by decide +kernel
theorem dX9_aWant_128 : decode cX9_aWant 128 = .ok (.iadd, 1) := by decide +kernel
theorem dX9_aWant_129 : decode cX9_aWant 129 = .ok (.aload_n 0, 1) := by decide +kernel
theorem dX9_aWant_130 : decode cX9_aWant 130 = .ok (.getfield 270, 3) := by decide +kernel
theorem dX9_aWant_133 : decode cX9_aWant 133 = .ok (.iastore, 1) := by decide +kernel
theorem dX9_aWant_134 : decode cX9_aWant 134 = .ok (.aload_n 0, 1) := by decide +kernel
theorem dX9_aWant_135 : decode cX9_aWant 135 = .ok (.dup, 1) := by decide +kernel
theorem dX9_aWant_136 : decode cX9_aWant 136 = .ok (.getfield 294, 3) := by decide +kernel
theorem dX9_aWant_139 : decode cX9_aWant 139 = .ok (.iconst 1, 1) := by decide +kernel
theorem dX9_aWant_140 : decode cX9_aWant 140 = .ok (.iadd, 1) := by decide +kernel
theorem dX9_aWant_141 : decode cX9_aWant 141 = .ok (.putfield 294, 3) := by decide +kernel
theorem dX9_aWant_144 : decode cX9_aWant 144 = .ok (.aload_n 0, 1) := by decide +kernel
theorem dX9_aWant_145 : decode cX9_aWant 145 = .ok (.sipush 159, 3) := by decide +kernel
theorem dX9_aWant_148 : decode cX9_aWant 148 = .ok (.invokevirtual 258, 3) := by decide +kernel
theorem dX9_aWant_151 : decode cX9_aWant 151 = .ok (.ireturn, 1) := by decide +kernel
set_option maxRecDepth 20000 in
theorem vX9_aWant {g : zG} {d : Nat} {Q : Bool → zM → Prop} {M : zM} (h : ((M 0 25) = 9 → (¬ (M 0 22) = 10 → zCv shM g d mX9_next0 [.ref 0] M (fun  M1 => zCz shM g d mX9_number [.ref 0, .int 0, .int ((M1 1 157) - 1)] M1 (fun b1 M2 => (b1 = true → ∃ k1 : Nat, (2 * (M2 0 22)) = iv k1 ∧ k1 < 20 ∧ zCz shM g d mX9_need [.ref 0, .int 10] (zup M2 11 k1 (M2 0 33)) (fun b2 M3 => (b2 = true → (¬ (M3 0 25) = 2 → zW shM g (d + 1) mX9_aWant (zz Q) 105 [(0, .ref 0)] [] M3) ∧ ((M3 0 25) = 2 → zCz shM g d mX9_isBox [.ref 0, .int (M3 0 27)] M3 (fun b3 M4 => (b3 = true → zW shM g (d + 1) mX9_aWant (zz Q) 105 [(0, .ref 0)] [] M4) ∧ (b3 = false → zCz shM g d mX9_bad [.ref 0, .int 2] M4 (fun b4 M5 => Q b4 M5))))) ∧ (b2 = false → Q false M3))) ∧ (b1 = false → Q false M2)))) ∧ ((M 0 22) = 10 → zCz shM g d mX9_bad [.ref 0, .int 3] M (fun b1 M1 => Q b1 M1))) ∧ (¬ (M 0 25) = 9 → zCz shM g d mX9_bad [.ref 0, .int 1] M (fun b1 M1 => Q b1 M1))) : zCz shM g (d + 1) mX9_aWant [.ref 0] M Q := by
  refine zW.enter (by decide +kernel) (Nat.le_of_ble_eq_true rfl) ?_
  change zW shM g (d + 1) mX9_aWant (zz Q) 0 [(0, .ref 0)] [] M
  refine z_aload_n dX9_aWant_0 0 rfl ?_
  refine z_geti shM_0 rfl flX9_204 dX9_aWant_1 ?_
  refine z_bipush (v := 9) dX9_aWant_4 (by decide) ?_
  refine z_icmp_eq 15 dX9_aWant_6 (by decide) (fun c1 => ?_) (fun c1 => ?_)
  · have h := h.1 c1
    refine z_aload_n dX9_aWant_15 0 rfl ?_
    refine z_geti shM_0 rfl flX9_294 dX9_aWant_16 ?_
    refine z_bipush (v := 10) dX9_aWant_19 (by decide) ?_
    refine z_icmp_ne 30 dX9_aWant_21 (by decide) (fun c2 => ?_) (fun c2 => ?_)
    · have h := h.1 c2
      refine z_aload_n dX9_aWant_30 0 rfl ?_
      refine z_callV (m2 := mX9_next0) (st := []) [] okX9_next0 (Or.inl lkX9_228) shM_0 rfl rfl rfl (Nat.le_of_ble_eq_true rfl) dX9_aWant_31 (zgo_v h fun  M1 h => ?_)
      refine z_aload_n dX9_aWant_34 0 rfl ?_
      refine z_iconst (v := 0) dX9_aWant_35 (by decide) ?_
      refine z_aload_n dX9_aWant_36 0 rfl ?_
      refine z_getr shM_0 rfl flX9_7 dX9_aWant_37 ?_
      refine z_sipush (v := 157) dX9_aWant_40 (by decide) ?_
      refine z_iald2 (k0 := 157) shM_1 (by decide) (by decide) (by decide) dX9_aWant_43 ?_
      refine z_iconst (v := 1) dX9_aWant_44 (by decide) ?_
      refine z_isub dX9_aWant_45 ?_
      refine z_callV (m2 := mX9_number) (st := []) [.int 0, .int ((M1 1 157) - 1)] okX9_number (Or.inl lkX9_273) shM_0 rfl rfl rfl (Nat.le_of_ble_eq_true rfl) dX9_aWant_46 (zgo_z h fun b1 M2 h => ?_)
      refine z_ifb_ne 54 dX9_aWant_49 (by decide) (fun c3 => ?_) (fun c3 => ?_)
      · have h := h.1 c3
        refine z_aload_n dX9_aWant_54 0 rfl ?_
        refine z_getr shM_0 rfl flX9_40 dX9_aWant_55 ?_
        refine z_iconst (v := 2) dX9_aWant_58 (by decide) ?_
        refine z_aload_n dX9_aWant_59 0 rfl ?_
        refine z_geti shM_0 rfl flX9_294 dX9_aWant_60 ?_
        refine z_imul dX9_aWant_63 ?_
        refine z_aload_n dX9_aWant_64 0 rfl ?_
        refine z_geti shM_0 rfl flX9_270 dX9_aWant_65 ?_
        obtain ⟨k1, ek1, uk1, h⟩ := h
        refine z_iast2 (k0 := k1) shM_11 (by decide) ek1 uk1 dX9_aWant_68 ?_
        refine z_aload_n dX9_aWant_69 0 rfl ?_
        refine z_bipush (v := 10) dX9_aWant_70 (by decide) ?_
        refine z_callV (m2 := mX9_need) (st := []) [.int 10] okX9_need (Or.inl lkX9_258) shM_0 rfl rfl rfl (Nat.le_of_ble_eq_true rfl) dX9_aWant_72 (zgo_z h fun b2 M3 h => ?_)
        refine z_ifb_ne 80 dX9_aWant_75 (by decide) (fun c4 => ?_) (fun c4 => ?_)
        · have h := h.1 c4
          refine z_aload_n dX9_aWant_80 0 rfl ?_
          refine z_geti shM_0 rfl flX9_204 dX9_aWant_81 ?_
          refine z_iconst (v := 2) dX9_aWant_84 (by decide) ?_
          refine z_icmp_ne 105 dX9_aWant_85 (by decide) (fun c5 => ?_) (fun c5 => ?_)
          · have h := h.1 c5
            exact h
          · have h := h.2 c5
            refine z_aload_n dX9_aWant_88 0 rfl ?_
            refine z_aload_n dX9_aWant_89 0 rfl ?_
            refine z_geti shM_0 rfl flX9_216 dX9_aWant_90 ?_
            refine z_callV (m2 := mX9_isBox) (st := []) [.int (M3 0 27)] okX9_isBox (Or.inl lkX9_297) shM_0 rfl rfl rfl (Nat.le_of_ble_eq_true rfl) dX9_aWant_93 (zgo_z h fun b3 M4 h => ?_)
            refine z_ifb_ne 105 dX9_aWant_96 (by decide) (fun c6 => ?_) (fun c6 => ?_)
            · have h := h.1 c6
              exact h
            · have h := h.2 c6
              refine z_aload_n dX9_aWant_99 0 rfl ?_
              refine z_iconst (v := 2) dX9_aWant_100 (by decide) ?_
              refine z_callV (m2 := mX9_bad) (st := []) [.int 2] okX9_bad (Or.inl lkX9_225) shM_0 rfl rfl rfl (Nat.le_of_ble_eq_true rfl) dX9_aWant_101 (zgo_z h fun b4 M5 h => ?_)
              exact z_zret rfl rfl dX9_aWant_104 h
        · have h := h.2 c4
          refine z_iconst (v := 0) dX9_aWant_78 (by decide) ?_
          exact z_zret (b := false) rfl rfl dX9_aWant_79 h
      · have h := h.2 c3
        refine z_iconst (v := 0) dX9_aWant_52 (by decide) ?_
        exact z_zret (b := false) rfl rfl dX9_aWant_53 h
    · have h := h.2 c2
      refine z_aload_n dX9_aWant_24 0 rfl ?_
      refine z_iconst (v := 3) dX9_aWant_25 (by decide) ?_
      refine z_callV (m2 := mX9_bad) (st := []) [.int 3] okX9_bad (Or.inl lkX9_225) shM_0 rfl rfl rfl (Nat.le_of_ble_eq_true rfl) dX9_aWant_26 (zgo_z h fun b1 M1 h => ?_)
      exact z_zret rfl rfl dX9_aWant_29 h
  · have h := h.2 c1
    refine z_aload_n dX9_aWant_9 0 rfl ?_
    refine z_iconst (v := 1) dX9_aWant_10 (by decide) ?_
    refine z_callV (m2 := mX9_bad) (st := []) [.int 1] okX9_bad (Or.inl lkX9_225) shM_0 rfl rfl rfl (Nat.le_of_ble_eq_true rfl) dX9_aWant_11 (zgo_z h fun b1 M1 h => ?_)
    exact z_zret rfl rfl dX9_aWant_14 h
set_option maxRecDepth 20000 in
theorem vX9_aWant_105 {g : zG} {d : Nat} {Q : Bool → zM → Prop} {M : zM} (h : zCz shM g d mX9_number [.ref 0, .int 0, .int 63] M (fun b1 M1 => (b1 = true → ∃ k1 : Nat, ((2 * (M1 0 22)) + 1) = iv k1 ∧ k1 < 20 ∧ zCz shM g d mX9_need [.ref 0, .int 159] (zup (zup M1 11 k1 (M1 0 33)) 0 22 (((zup M1 11 k1 (M1 0 33)) 0 22) + 1)) (fun b2 M2 => Q b2 M2)) ∧ (b1 = false → Q false M1))) : zW shM g (d + 1) mX9_aWant (zz Q) 105 [(0, .ref 0)] [] M := by
  refine z_aload_n dX9_aWant_105 0 rfl ?_
  refine z_iconst (v := 0) dX9_aWant_106 (by decide) ?_
  refine z_bipush (v := 63) dX9_aWant_107 (by decide) ?_
  refine z_callV (m2 := mX9_number) (st := []) [.int 0, .int 63] okX9_number (Or.inl lkX9_273) shM_0 rfl rfl rfl (Nat.le_of_ble_eq_true rfl) dX9_aWant_109 (zgo_z h fun b1 M1 h => ?_)
  refine z_ifb_ne 117 dX9_aWant_112 (by decide) (fun c1 => ?_) (fun c1 => ?_)
  · have h := h.1 c1
    refine z_aload_n dX9_aWant_117 0 rfl ?_
    refine z_getr shM_0 rfl flX9_40 dX9_aWant_118 ?_
    refine z_iconst (v := 2) dX9_aWant_121 (by decide) ?_
    refine z_aload_n dX9_aWant_122 0 rfl ?_
    refine z_geti shM_0 rfl flX9_294 dX9_aWant_123 ?_
    refine z_imul dX9_aWant_126 ?_
    refine z_iconst (v := 1) dX9_aWant_127 (by decide) ?_
    refine z_iadd dX9_aWant_128 ?_
    refine z_aload_n dX9_aWant_129 0 rfl ?_
    refine z_geti shM_0 rfl flX9_270 dX9_aWant_130 ?_
    obtain ⟨k1, ek1, uk1, h⟩ := h
    refine z_iast2 (k0 := k1) shM_11 (by decide) ek1 uk1 dX9_aWant_133 ?_
    refine z_aload_n dX9_aWant_134 0 rfl ?_
    refine z_dupr dX9_aWant_135 ?_
    refine z_geti shM_0 rfl flX9_294 dX9_aWant_136 ?_
    refine z_iconst (v := 1) dX9_aWant_139 (by decide) ?_
    refine z_iadd dX9_aWant_140 ?_
    refine z_puti shM_0 rfl fpX9_294 rfl rfl dX9_aWant_141 ?_
    refine z_aload_n dX9_aWant_144 0 rfl ?_
    refine z_sipush (v := 159) dX9_aWant_145 (by decide) ?_
    refine z_callV (m2 := mX9_need) (st := []) [.int 159] okX9_need (Or.inl lkX9_258) shM_0 rfl rfl rfl (Nat.le_of_ble_eq_true rfl) dX9_aWant_148 (zgo_z h fun b2 M2 h => ?_)
    exact z_zret rfl rfl dX9_aWant_151 h
  · have h := h.2 c1
    refine z_iconst (v := 0) dX9_aWant_115 (by decide) ?_
    exact z_zret (b := false) rfl rfl dX9_aWant_116 h
theorem dX9_readsWants_0 : decode cX9_readsWants 0 = .ok (.aload_n 0, 1) := by decide +kernel
theorem dX9_readsWants_1 : decode cX9_readsWants 1 = .ok (.iconst 0, 1) := by decide +kernel
theorem dX9_readsWants_2 : decode cX9_readsWants 2 = .ok (.putfield 294, 3) := by decide +kernel
theorem dX9_readsWants_5 : decode cX9_readsWants 5 = .ok (.iconst 1, 1) := by decide +kernel
theorem dX9_readsWants_6 : decode cX9_readsWants 6 = .ok (.istore_n 1, 1) := by decide +kernel
theorem dX9_readsWants_7 : decode cX9_readsWants 7 = .ok (.iload_n 1, 1) := by decide +kernel
theorem dX9_readsWants_8 : decode cX9_readsWants 8 = .ok (.ifCond .eq 18, 3) := by decide +kernel
theorem dX9_readsWants_11 : decode cX9_readsWants 11 = .ok (.aload_n 0, 1) := by decide +kernel
theorem dX9_readsWants_12 : decode cX9_readsWants 12 = .ok (.getfield 204, 3) := by decide +kernel
theorem dX9_readsWants_15 : decode cX9_readsWants 15 = .ok (.ifCond .eq 11, 3) := by decide +kernel
theorem dX9_readsWants_18 : decode cX9_readsWants 18 = .ok (.aload_n 0, 1) := by decide +kernel
theorem dX9_readsWants_19 : decode cX9_readsWants 19 = .ok (.invokevirtual 300, 3) := by decide +kernel
theorem dX9_readsWants_22 : decode cX9_readsWants 22 = .ok (.istore_n 1, 1) := by decide +kernel
theorem dX9_readsWants_23 : decode cX9_readsWants 23 = .ok (.goto (-16), 3) := by decide +kernel
theorem dX9_readsWants_26 : decode cX9_readsWants 26 = .ok (.iload_n 1, 1) := by decide +kernel
theorem dX9_readsWants_27 : decode cX9_readsWants 27 = .ok (.ireturn, 1) := by decide +kernel
set_option maxRecDepth 20000 in
theorem vX9_readsWants {g : zG} {d : Nat} {Q : Bool → zM → Prop} {M : zM} (h : zW shM g (d + 1) mX9_readsWants (zz Q) 7 [(0, .ref 0), (1, .int 1)] [] (zup M 0 22 0)) : zCz shM g (d + 1) mX9_readsWants [.ref 0] M Q := by
  refine zW.enter (by decide +kernel) (Nat.le_of_ble_eq_true rfl) ?_
  change zW shM g (d + 1) mX9_readsWants (zz Q) 0 [(0, .ref 0)] [] M
  refine z_aload_n dX9_readsWants_0 0 rfl ?_
  refine z_iconst (v := 0) dX9_readsWants_1 (by decide) ?_
  refine z_puti shM_0 rfl fpX9_294 rfl rfl dX9_readsWants_2 ?_
  refine z_iconst (v := 1) dX9_readsWants_5 (by decide) ?_
  refine z_istore_n [(1, .int 1), (0, .ref 0)] dX9_readsWants_6 (by decide) rfl ?_
  exact zW.sub [1, 0] rfl h
set_option maxRecDepth 20000 in
theorem vX9_readsWants_7 {g : zG} {d : Nat} {Q : Bool → zM → Prop} {M : zM} {l1 : Int32} (h : (l1 = 0 → ∃ b1 : Bool, l1 = zbI b1 ∧ Q b1 M) ∧ (¬ l1 = 0 → ((M 0 25) = 0 → ∃ b1 : Bool, l1 = zbI b1 ∧ Q b1 M) ∧ (¬ (M 0 25) = 0 → zCz shM g d mX9_aWant [.ref 0] M (fun b1 M1 => zW shM g (d + 1) mX9_readsWants (zz Q) 7 [(0, .ref 0), (1, .int (zbI b1))] [] M1)))) : zW shM g (d + 1) mX9_readsWants (zz Q) 7 [(0, .ref 0), (1, .int l1)] [] M := by
  refine z_iload_n dX9_readsWants_7 1 rfl ?_
  refine z_if_eq 26 dX9_readsWants_8 (by decide) (fun c1 => ?_) (fun c1 => ?_)
  · have h := h.1 c1
    refine z_iload_n dX9_readsWants_26 1 rfl ?_
    obtain ⟨b1, eb1, h⟩ := h
    exact z_zret eb1 rfl dX9_readsWants_27 h
  · have h := h.2 c1
    refine z_aload_n dX9_readsWants_11 0 rfl ?_
    refine z_geti shM_0 rfl flX9_204 dX9_readsWants_12 ?_
    refine z_if_eq 26 dX9_readsWants_15 (by decide) (fun c2 => ?_) (fun c2 => ?_)
    · have h := h.1 c2
      refine z_iload_n dX9_readsWants_26 1 rfl ?_
      obtain ⟨b1, eb1, h⟩ := h
      exact z_zret eb1 rfl dX9_readsWants_27 h
    · have h := h.2 c2
      refine z_aload_n dX9_readsWants_18 0 rfl ?_
      refine z_callV (m2 := mX9_aWant) (st := []) [] okX9_aWant (Or.inl lkX9_300) shM_0 rfl rfl rfl (Nat.le_of_ble_eq_true rfl) dX9_readsWants_19 (zgo_z h fun b1 M1 h => ?_)
      refine z_istore_n [(1, .int (zbI b1)), (0, .ref 0)] dX9_readsWants_22 (by decide) rfl ?_
      refine z_goto 7 dX9_readsWants_23 (by decide) ?_
      exact zW.sub [1, 0] rfl h
theorem dX9_putsWays_0 : decode cX9_putsWays 0 = .ok (.aload_n 0, 1) := by decide +kernel
theorem dX9_putsWays_1 : decode cX9_putsWays 1 = .ok (.getfield 7, 3) := by decide +kernel
theorem dX9_putsWays_4 : decode cX9_putsWays 4 = .ok (.sipush 155, 3) := by decide +kernel
theorem dX9_putsWays_7 : decode cX9_putsWays 7 = .ok (.aload_n 0, 1) := by decide +kernel
theorem dX9_putsWays_8 : decode cX9_putsWays 8 = .ok (.getfield 282, 3) := by decide +kernel
theorem dX9_putsWays_11 : decode cX9_putsWays 11 = .ok (.iastore, 1) := by decide +kernel
theorem dX9_putsWays_12 : decode cX9_putsWays 12 = .ok (.iconst 0, 1) := by decide +kernel
theorem dX9_putsWays_13 : decode cX9_putsWays 13 = .ok (.istore_n 1, 1) := by decide +kernel
theorem dX9_putsWays_14 : decode cX9_putsWays 14 = .ok (.iload_n 1, 1) := by decide +kernel
theorem dX9_putsWays_15 : decode cX9_putsWays 15 = .ok (.bipush 6, 2) := by decide +kernel
theorem dX9_putsWays_17 : decode cX9_putsWays 17 = .ok (.if_icmp .ge 61, 3) := by decide +kernel
theorem dX9_putsWays_20 : decode cX9_putsWays 20 = .ok (.aload_n 0, 1) := by decide +kernel
theorem dX9_putsWays_21 : decode cX9_putsWays 21 = .ok (.getfield 7, 3) := by decide +kernel
theorem dX9_putsWays_24 : decode cX9_putsWays 24 = .ok (.sipush 166, 3) := by decide +kernel
theorem dX9_putsWays_27 : decode cX9_putsWays 27 = .ok (.iload_n 1, 1) := by decide +kernel
theorem dX9_putsWays_28 : decode cX9_putsWays 28 = .ok (.iadd, 1) := by decide +kernel
theorem dX9_putsWays_29 : decode cX9_putsWays 29 = .ok (.aload_n 0, 1) := by decide +kernel
theorem dX9_putsWays_30 : decode cX9_putsWays 30 = .ok (.getfield 31, 3) := by decide +kernel
theorem dX9_putsWays_33 : decode cX9_putsWays 33 = .ok (.iload_n 1, 1) := by decide +kernel
theorem dX9_putsWays_34 : decode cX9_putsWays 34 = .ok (.iaload, 1) := by decide +kernel
theorem dX9_putsWays_35 : decode cX9_putsWays 35 = .ok (.iastore, 1) := by decide +kernel
theorem dX9_putsWays_36 : decode cX9_putsWays 36 = .ok (.aload_n 0, 1) := by decide +kernel
theorem dX9_putsWays_37 : decode cX9_putsWays 37 = .ok (.getfield 7, 3) := by decide +kernel
theorem dX9_putsWays_40 : decode cX9_putsWays 40 = .ok (.sipush 172, 3) := by decide +kernel
theorem dX9_putsWays_43 : decode cX9_putsWays 43 = .ok (.iload_n 1, 1) := by decide +kernel
theorem dX9_putsWays_44 : decode cX9_putsWays 44 = .ok (.iadd, 1) := by decide +kernel
theorem dX9_putsWays_45 : decode cX9_putsWays 45 = .ok (.aload_n 0, 1) := by decide +kernel
theorem dX9_putsWays_46 : decode cX9_putsWays 46 = .ok (.getfield 34, 3) := by decide +kernel
theorem dX9_putsWays_49 : decode cX9_putsWays 49 = .ok (.iload_n 1, 1) := by decide +kernel
theorem dX9_putsWays_50 : decode cX9_putsWays 50 = .ok (.iaload, 1) := by decide +kernel
theorem dX9_putsWays_51 : decode cX9_putsWays 51 = .ok (.iastore, 1) := by decide +kernel
theorem dX9_putsWays_52 : decode cX9_putsWays 52 = .ok (.aload_n 0, 1) := by decide +kernel
theorem dX9_putsWays_53 : decode cX9_putsWays 53 = .ok (.getfield 7, 3) := by decide +kernel
theorem dX9_putsWays_56 : decode cX9_putsWays 56 = .ok (.bipush 9, 2) := by decide +kernel
theorem dX9_putsWays_58 : decode cX9_putsWays 58 = .ok (.iload_n 1, 1) := by decide +kernel
theorem dX9_putsWays_59 : decode cX9_putsWays 59 = .ok (.iadd, 1) := by decide +kernel
theorem dX9_putsWays_60 : decode cX9_putsWays 60 = .ok (.iconst 0, 1) := by decide +kernel
theorem dX9_putsWays_61 : decode cX9_putsWays 61 = .ok (.iastore, 1) := by decide +kernel
theorem dX9_putsWays_62 : decode cX9_putsWays 62 = .ok (.aload_n 0, 1) := by decide +kernel
theorem dX9_putsWays_63 : decode cX9_putsWays 63 = .ok (.getfield 7, 3) := by decide +kernel
theorem dX9_putsWays_66 : decode cX9_putsWays 66 = .ok (.bipush 15, 2) := by decide +kernel
theorem dX9_putsWays_68 : decode cX9_putsWays 68 = .ok (.iload_n 1, 1) := by decide +kernel
theorem dX9_putsWays_69 : decode cX9_putsWays 69 = .ok (.iadd, 1) := by decide +kernel
theorem dX9_putsWays_70 : decode cX9_putsWays 70 = .ok (.iconst 1, 1) := by decide +kernel
theorem dX9_putsWays_71 : decode cX9_putsWays 71 = .ok (.iastore, 1) := by decide +kernel
theorem dX9_putsWays_72 : decode cX9_putsWays 72 = .ok (.iinc 1 1, 3) := by decide +kernel
theorem dX9_putsWays_75 : decode cX9_putsWays 75 = .ok (.goto (-61), 3) := by decide +kernel
theorem dX9_putsWays_78 : decode cX9_putsWays 78 = .ok (.iconst 0, 1) := by decide +kernel
theorem dX9_putsWays_79 : decode cX9_putsWays 79 = .ok (.istore_n 1, 1) := by decide +kernel
theorem dX9_putsWays_80 : decode cX9_putsWays 80 = .ok (.iload_n 1, 1) := by decide +kernel
theorem dX9_putsWays_81 : decode cX9_putsWays 81 = .ok (.sipush 360, 3) := by decide +kernel
theorem dX9_putsWays_84 : decode cX9_putsWays 84 = .ok (.if_icmp .ge 25, 3) := by decide +kernel
theorem dX9_putsWays_87 : decode cX9_putsWays 87 = .ok (.aload_n 0, 1) := by decide +kernel
theorem dX9_putsWays_88 : decode cX9_putsWays 88 = .ok (.getfield 7, 3) := by decide +kernel
theorem dX9_putsWays_91 : decode cX9_putsWays 91 = .ok (.sipush 178, 3) := by decide +kernel
theorem dX9_putsWays_94 : decode cX9_putsWays 94 = .ok (.iload_n 1, 1) := by decide +kernel
theorem dX9_putsWays_95 : decode cX9_putsWays 95 = .ok (.iadd, 1) := by decide +kernel
theorem dX9_putsWays_96 : decode cX9_putsWays 96 = .ok (.aload_n 0, 1) := by decide +kernel
theorem dX9_putsWays_97 : decode cX9_putsWays 97 = .ok (.getfield 28, 3) := by decide +kernel
theorem dX9_putsWays_100 : decode cX9_putsWays 100 = .ok (.iload_n 1, 1) := by decide +kernel
theorem dX9_putsWays_101 : decode cX9_putsWays 101 = .ok (.iaload, 1) := by decide +kernel
theorem dX9_putsWays_102 : decode cX9_putsWays 102 = .ok (.iastore, 1) := by decide +kernel
theorem dX9_putsWays_103 : decode cX9_putsWays 103 = .ok (.iinc 1 1, 3) := by decide +kernel
theorem dX9_putsWays_106 : decode cX9_putsWays 106 = .ok (.goto (-26), 3) := by decide +kernel
theorem dX9_putsWays_109 : decode cX9_putsWays 109 = .ok (.aload_n 0, 1) := by decide +kernel
theorem dX9_putsWays_110 : decode cX9_putsWays 110 = .ok (.invokevirtual 109, 3) := by decide +kernel
theorem dX9_putsWays_113 : decode cX9_putsWays 113 = .ok (.aload_n 0, 1) := by decide +kernel
theorem dX9_putsWays_114 : decode cX9_putsWays 114 = .ok (.getfield 282, 3) := by decide +kernel
theorem dX9_putsWays_117 : decode cX9_putsWays 117 = .ok (.ireturn, 1) := by decide +kernel
set_option maxRecDepth 20000 in
theorem vX9_putsWays {g : zG} {d : Nat} {Q : Int32 → zM → Prop} {M : zM} (h : zW shM g (d + 1) mX9_putsWays (zi Q) 14 [(0, .ref 0), (1, .int 0)] [] (zup M 1 155 (M 0 19))) : zCi shM g (d + 1) mX9_putsWays [.ref 0] M Q := by
  refine zW.enter (by decide +kernel) (Nat.le_of_ble_eq_true rfl) ?_
  change zW shM g (d + 1) mX9_putsWays (zi Q) 0 [(0, .ref 0)] [] M
  refine z_aload_n dX9_putsWays_0 0 rfl ?_
  refine z_getr shM_0 rfl flX9_7 dX9_putsWays_1 ?_
  refine z_sipush (v := 155) dX9_putsWays_4 (by decide) ?_
  refine z_aload_n dX9_putsWays_7 0 rfl ?_
  refine z_geti shM_0 rfl flX9_282 dX9_putsWays_8 ?_
  refine z_iast2 (k0 := 155) shM_1 (by decide) (by decide) (by decide) dX9_putsWays_11 ?_
  refine z_iconst (v := 0) dX9_putsWays_12 (by decide) ?_
  refine z_istore_n [(1, .int 0), (0, .ref 0)] dX9_putsWays_13 (by decide) rfl ?_
  exact zW.sub [1, 0] rfl h
set_option maxRecDepth 20000 in
theorem vX9_putsWays_14 {g : zG} {d : Nat} {Q : Int32 → zM → Prop} {M : zM} {l1 : Int32} (h : (6 ≤ l1 → zW shM g (d + 1) mX9_putsWays (zi Q) 80 [(0, .ref 0), (1, .int 0)] [] M) ∧ (¬ 6 ≤ l1 → ∃ k1 : Nat, l1 = iv k1 ∧ k1 < 6 ∧ ∃ k2 : Nat, (166 + l1) = iv k2 ∧ k2 < 2200 ∧ ∃ k3 : Nat, (172 + l1) = iv k3 ∧ k3 < 2200 ∧ ∃ k4 : Nat, (9 + l1) = iv k4 ∧ k4 < 2200 ∧ ∃ k5 : Nat, (15 + l1) = iv k5 ∧ k5 < 2200 ∧ zW shM g (d + 1) mX9_putsWays (zi Q) 14 [(0, .ref 0), (1, .int (l1 + 1))] [] (zup (zup (zup (zup M 1 k2 (M 8 k1)) 1 k3 ((zup M 1 k2 (M 8 k1)) 9 k1)) 1 k4 0) 1 k5 1))) : zW shM g (d + 1) mX9_putsWays (zi Q) 14 [(0, .ref 0), (1, .int l1)] [] M := by
  refine z_iload_n dX9_putsWays_14 1 rfl ?_
  refine z_bipush (v := 6) dX9_putsWays_15 (by decide) ?_
  refine z_icmp_ge 78 dX9_putsWays_17 (by decide) (fun c1 => ?_) (fun c1 => ?_)
  · have h := h.1 c1
    refine z_iconst (v := 0) dX9_putsWays_78 (by decide) ?_
    refine z_istore_n [(1, .int 0), (0, .ref 0)] dX9_putsWays_79 (by decide) rfl ?_
    exact zW.sub [1, 0] rfl h
  · have h := h.2 c1
    refine z_aload_n dX9_putsWays_20 0 rfl ?_
    refine z_getr shM_0 rfl flX9_7 dX9_putsWays_21 ?_
    refine z_sipush (v := 166) dX9_putsWays_24 (by decide) ?_
    refine z_iload_n dX9_putsWays_27 1 rfl ?_
    refine z_iadd dX9_putsWays_28 ?_
    refine z_aload_n dX9_putsWays_29 0 rfl ?_
    refine z_getr shM_0 rfl flX9_31 dX9_putsWays_30 ?_
    refine z_iload_n dX9_putsWays_33 1 rfl ?_
    obtain ⟨k1, ek1, uk1, h⟩ := h
    refine z_iald2 (k0 := k1) shM_8 (by decide) ek1 uk1 dX9_putsWays_34 ?_
    obtain ⟨k2, ek2, uk2, h⟩ := h
    refine z_iast2 (k0 := k2) shM_1 (by decide) ek2 uk2 dX9_putsWays_35 ?_
    refine z_aload_n dX9_putsWays_36 0 rfl ?_
    refine z_getr shM_0 rfl flX9_7 dX9_putsWays_37 ?_
    refine z_sipush (v := 172) dX9_putsWays_40 (by decide) ?_
    refine z_iload_n dX9_putsWays_43 1 rfl ?_
    refine z_iadd dX9_putsWays_44 ?_
    refine z_aload_n dX9_putsWays_45 0 rfl ?_
    refine z_getr shM_0 rfl flX9_34 dX9_putsWays_46 ?_
    refine z_iload_n dX9_putsWays_49 1 rfl ?_
    refine z_iald2 (k0 := k1) shM_9 (by decide) ek1 uk1 dX9_putsWays_50 ?_
    obtain ⟨k3, ek3, uk3, h⟩ := h
    refine z_iast2 (k0 := k3) shM_1 (by decide) ek3 uk3 dX9_putsWays_51 ?_
    refine z_aload_n dX9_putsWays_52 0 rfl ?_
    refine z_getr shM_0 rfl flX9_7 dX9_putsWays_53 ?_
    refine z_bipush (v := 9) dX9_putsWays_56 (by decide) ?_
    refine z_iload_n dX9_putsWays_58 1 rfl ?_
    refine z_iadd dX9_putsWays_59 ?_
    refine z_iconst (v := 0) dX9_putsWays_60 (by decide) ?_
    obtain ⟨k4, ek4, uk4, h⟩ := h
    refine z_iast2 (k0 := k4) shM_1 (by decide) ek4 uk4 dX9_putsWays_61 ?_
    refine z_aload_n dX9_putsWays_62 0 rfl ?_
    refine z_getr shM_0 rfl flX9_7 dX9_putsWays_63 ?_
    refine z_bipush (v := 15) dX9_putsWays_66 (by decide) ?_
    refine z_iload_n dX9_putsWays_68 1 rfl ?_
    refine z_iadd dX9_putsWays_69 ?_
    refine z_iconst (v := 1) dX9_putsWays_70 (by decide) ?_
    obtain ⟨k5, ek5, uk5, h⟩ := h
    refine z_iast2 (k0 := k5) shM_1 (by decide) ek5 uk5 dX9_putsWays_71 ?_
    refine z_iinc (x := l1) (v := (l1 + 1)) [(1, .int (l1 + 1)), (0, .ref 0)] dX9_putsWays_72 1 rfl rfl (by decide) rfl ?_
    refine z_goto 14 dX9_putsWays_75 (by decide) ?_
    exact zW.sub [1, 0] rfl h
set_option maxRecDepth 20000 in
theorem vX9_putsWays_80 {g : zG} {d : Nat} {Q : Int32 → zM → Prop} {M : zM} {l1 : Int32} (h : (360 ≤ l1 → zCv shM g d mX9_forgets [.ref 0] M (fun  M1 => Q (M1 0 19) M1)) ∧ (¬ 360 ≤ l1 → ∃ k1 : Nat, l1 = iv k1 ∧ k1 < 360 ∧ ∃ k2 : Nat, (178 + l1) = iv k2 ∧ k2 < 2200 ∧ zW shM g (d + 1) mX9_putsWays (zi Q) 80 [(0, .ref 0), (1, .int (l1 + 1))] [] (zup M 1 k2 (M 7 k1)))) : zW shM g (d + 1) mX9_putsWays (zi Q) 80 [(0, .ref 0), (1, .int l1)] [] M := by
  refine z_iload_n dX9_putsWays_80 1 rfl ?_
  refine z_sipush (v := 360) dX9_putsWays_81 (by decide) ?_
  refine z_icmp_ge 109 dX9_putsWays_84 (by decide) (fun c1 => ?_) (fun c1 => ?_)
  · have h := h.1 c1
    refine z_aload_n dX9_putsWays_109 0 rfl ?_
    refine z_callV (m2 := mX9_forgets) (st := []) [] okX9_forgets (Or.inl lkX9_109) shM_0 rfl rfl rfl (Nat.le_of_ble_eq_true rfl) dX9_putsWays_110 (zgo_v h fun  M1 h => ?_)
    refine z_aload_n dX9_putsWays_113 0 rfl ?_
    refine z_geti shM_0 rfl flX9_282 dX9_putsWays_114 ?_
    exact z_iret (st := []) rfl rfl dX9_putsWays_117 ⟨_, rfl, h⟩
  · have h := h.2 c1
    refine z_aload_n dX9_putsWays_87 0 rfl ?_
    refine z_getr shM_0 rfl flX9_7 dX9_putsWays_88 ?_
    refine z_sipush (v := 178) dX9_putsWays_91 (by decide) ?_
    refine z_iload_n dX9_putsWays_94 1 rfl ?_
    refine z_iadd dX9_putsWays_95 ?_
    refine z_aload_n dX9_putsWays_96 0 rfl ?_
    refine z_getr shM_0 rfl flX9_28 dX9_putsWays_97 ?_
    refine z_iload_n dX9_putsWays_100 1 rfl ?_
    obtain ⟨k1, ek1, uk1, h⟩ := h
    refine z_iald2 (k0 := k1) shM_7 (by decide) ek1 uk1 dX9_putsWays_101 ?_
    obtain ⟨k2, ek2, uk2, h⟩ := h
    refine z_iast2 (k0 := k2) shM_1 (by decide) ek2 uk2 dX9_putsWays_102 ?_
    refine z_iinc (x := l1) (v := (l1 + 1)) [(1, .int (l1 + 1)), (0, .ref 0)] dX9_putsWays_103 1 rfl rfl (by decide) rfl ?_
    refine z_goto 80 dX9_putsWays_106 (by decide) ?_
    exact zW.sub [1, 0] rfl h
theorem dX9_putsLaw_0 : decode cX9_putsLaw 0 = .ok (.aload_n 0, 1) := by decide +kernel
theorem dX9_putsLaw_1 : decode cX9_putsLaw 1 = .ok (.getfield 7, 3) := by decide +kernel
theorem dX9_putsLaw_4 : decode cX9_putsLaw 4 = .ok (.sipush 156, 3) := by decide +kernel
theorem dX9_putsLaw_7 : decode cX9_putsLaw 7 = .ok (.aload_n 0, 1) := by decide +kernel
theorem dX9_putsLaw_8 : decode cX9_putsLaw 8 = .ok (.getfield 264, 3) := by decide +kernel
theorem dX9_putsLaw_11 : decode cX9_putsLaw 11 = .ok (.iastore, 1) := by decide +kernel
theorem dX9_putsLaw_12 : decode cX9_putsLaw 12 = .ok (.iconst 0, 1) := by decide +kernel
theorem dX9_putsLaw_13 : decode cX9_putsLaw 13 = .ok (.istore_n 1, 1) := by decide +kernel
theorem dX9_putsLaw_14 : decode cX9_putsLaw 14 = .ok (.iload_n 1, 1) := by decide +kernel
theorem dX9_putsLaw_15 : decode cX9_putsLaw 15 = .ok (.aload_n 0, 1) := by decide +kernel
theorem dX9_putsLaw_16 : decode cX9_putsLaw 16 = .ok (.getfield 264, 3) := by decide +kernel
theorem dX9_putsLaw_19 : decode cX9_putsLaw 19 = .ok (.if_icmp .ge 87, 3) := by decide +kernel
theorem dX9_putsLaw_22 : decode cX9_putsLaw 22 = .ok (.aload_n 0, 1) := by decide +kernel
theorem dX9_putsLaw_23 : decode cX9_putsLaw 23 = .ok (.getfield 7, 3) := by decide +kernel
theorem dX9_putsLaw_26 : decode cX9_putsLaw 26 = .ok (.sipush 1316, 3) := by decide +kernel
theorem dX9_putsLaw_29 : decode cX9_putsLaw 29 = .ok (.iload_n 1, 1) := by decide +kernel
theorem dX9_putsLaw_30 : decode cX9_putsLaw 30 = .ok (.iadd, 1) := by decide +kernel
theorem dX9_putsLaw_31 : decode cX9_putsLaw 31 = .ok (.aload_n 0, 1) := by decide +kernel
theorem dX9_putsLaw_32 : decode cX9_putsLaw 32 = .ok (.getfield 22, 3) := by decide +kernel
theorem dX9_putsLaw_35 : decode cX9_putsLaw 35 = .ok (.iconst 4, 1) := by decide +kernel
theorem dX9_putsLaw_36 : decode cX9_putsLaw 36 = .ok (.iload_n 1, 1) := by decide +kernel
theorem dX9_putsLaw_37 : decode cX9_putsLaw 37 = .ok (.imul, 1) := by decide +kernel
theorem dX9_putsLaw_38 : decode cX9_putsLaw 38 = .ok (.iaload, 1) := by decide +kernel
theorem dX9_putsLaw_39 : decode cX9_putsLaw 39 = .ok (.iastore, 1) := by decide +kernel
theorem dX9_putsLaw_40 : decode cX9_putsLaw 40 = .ok (.aload_n 0, 1) := by decide +kernel
theorem dX9_putsLaw_41 : decode cX9_putsLaw 41 = .ok (.getfield 7, 3) := by decide +kernel
theorem dX9_putsLaw_44 : decode cX9_putsLaw 44 = .ok (.sipush 1332, 3) := by decide +kernel
theorem dX9_putsLaw_47 : decode cX9_putsLaw 47 = .ok (.iload_n 1, 1) := by decide +kernel
theorem dX9_putsLaw_48 : decode cX9_putsLaw 48 = .ok (.iadd, 1) := by decide +kernel
theorem dX9_putsLaw_49 : decode cX9_putsLaw 49 = .ok (.aload_n 0, 1) := by decide +kernel
theorem dX9_putsLaw_50 : decode cX9_putsLaw 50 = .ok (.getfield 22, 3) := by decide +kernel
theorem dX9_putsLaw_53 : decode cX9_putsLaw 53 = .ok (.iconst 4, 1) := by decide +kernel
theorem dX9_putsLaw_54 : decode cX9_putsLaw 54 = .ok (.iload_n 1, 1) := by decide +kernel
theorem dX9_putsLaw_55 : decode cX9_putsLaw 55 = .ok (.imul, 1) := by decide +kernel
theorem dX9_putsLaw_56 : decode cX9_putsLaw 56 = .ok (.iconst 1, 1) := by decide +kernel
theorem dX9_putsLaw_57 : decode cX9_putsLaw 57 = .ok (.iadd, 1) := by decide +kernel
theorem dX9_putsLaw_58 : decode cX9_putsLaw 58 = .ok (.iaload, 1) := by decide +kernel
theorem dX9_putsLaw_59 : decode cX9_putsLaw 59 = .ok (.iastore, 1) := by decide +kernel
theorem dX9_putsLaw_60 : decode cX9_putsLaw 60 = .ok (.aload_n 0, 1) := by decide +kernel
theorem dX9_putsLaw_61 : decode cX9_putsLaw 61 = .ok (.getfield 7, 3) := by decide +kernel
theorem dX9_putsLaw_64 : decode cX9_putsLaw 64 = .ok (.sipush 1348, 3) := by decide +kernel
theorem dX9_putsLaw_67 : decode cX9_putsLaw 67 = .ok (.iload_n 1, 1) := by decide +kernel
theorem dX9_putsLaw_68 : decode cX9_putsLaw 68 = .ok (.iadd, 1) := by decide +kernel
theorem dX9_putsLaw_69 : decode cX9_putsLaw 69 = .ok (.aload_n 0, 1) := by decide +kernel
theorem dX9_putsLaw_70 : decode cX9_putsLaw 70 = .ok (.getfield 22, 3) := by decide +kernel
theorem dX9_putsLaw_73 : decode cX9_putsLaw 73 = .ok (.iconst 4, 1) := by decide +kernel
theorem dX9_putsLaw_74 : decode cX9_putsLaw 74 = .ok (.iload_n 1, 1) := by decide +kernel
theorem dX9_putsLaw_75 : decode cX9_putsLaw 75 = .ok (.imul, 1) := by decide +kernel
theorem dX9_putsLaw_76 : decode cX9_putsLaw 76 = .ok (.iconst 2, 1) := by decide +kernel
theorem dX9_putsLaw_77 : decode cX9_putsLaw 77 = .ok (.iadd, 1) := by decide +kernel
theorem dX9_putsLaw_78 : decode cX9_putsLaw 78 = .ok (.iaload, 1) := by decide +kernel
theorem dX9_putsLaw_79 : decode cX9_putsLaw 79 = .ok (.iastore, 1) := by decide +kernel
theorem dX9_putsLaw_80 : decode cX9_putsLaw 80 = .ok (.aload_n 0, 1) := by decide +kernel
theorem dX9_putsLaw_81 : decode cX9_putsLaw 81 = .ok (.getfield 7, 3) := by decide +kernel
theorem dX9_putsLaw_84 : decode cX9_putsLaw 84 = .ok (.sipush 1364, 3) := by decide +kernel
theorem dX9_putsLaw_87 : decode cX9_putsLaw 87 = .ok (.iload_n 1, 1) := by decide +kernel
theorem dX9_putsLaw_88 : decode cX9_putsLaw 88 = .ok (.iadd, 1) := by decide +kernel
theorem dX9_putsLaw_89 : decode cX9_putsLaw 89 = .ok (.aload_n 0, 1) := by decide +kernel
theorem dX9_putsLaw_90 : decode cX9_putsLaw 90 = .ok (.getfield 22, 3) := by decide +kernel
theorem dX9_putsLaw_93 : decode cX9_putsLaw 93 = .ok (.iconst 4, 1) := by decide +kernel
theorem dX9_putsLaw_94 : decode cX9_putsLaw 94 = .ok (.iload_n 1, 1) := by decide +kernel
theorem dX9_putsLaw_95 : decode cX9_putsLaw 95 = .ok (.imul, 1) := by decide +kernel
theorem dX9_putsLaw_96 : decode cX9_putsLaw 96 = .ok (.iconst 3, 1) := by decide +kernel
theorem dX9_putsLaw_97 : decode cX9_putsLaw 97 = .ok (.iadd, 1) := by decide +kernel
theorem dX9_putsLaw_98 : decode cX9_putsLaw 98 = .ok (.iaload, 1) := by decide +kernel
theorem dX9_putsLaw_99 : decode cX9_putsLaw 99 = .ok (.iastore, 1) := by decide +kernel
theorem dX9_putsLaw_100 : decode cX9_putsLaw 100 = .ok (.iinc 1 1, 3) := by decide +kernel
theorem dX9_putsLaw_103 : decode cX9_putsLaw 103 = .ok (.goto (-89), 3) := by decide +kernel
theorem dX9_putsLaw_106 : decode cX9_putsLaw 106 = .ok (.iconst 0, 1) := by decide +kernel
theorem dX9_putsLaw_107 : decode cX9_putsLaw 107 = .ok (.istore_n 1, 1) := by decide +kernel
theorem dX9_putsLaw_108 : decode cX9_putsLaw 108 = .ok (.iload_n 1, 1) := by decide +kernel
theorem dX9_putsLaw_109 : decode cX9_putsLaw 109 = .ok (.iconst 2, 1) := by decide +kernel
theorem dX9_putsLaw_110 : decode cX9_putsLaw 110 = .ok (.aload_n 0, 1) := by decide +kernel
theorem dX9_putsLaw_111 : decode cX9_putsLaw 111 = .ok (.getfield 231, 3) := by decide +kernel
theorem dX9_putsLaw_114 : decode cX9_putsLaw 114 = .ok (.imul, 1) := by decide +kernel
theorem dX9_putsLaw_115 : decode cX9_putsLaw 115 = .ok (.if_icmp .ge 25, 3) := by decide +kernel
theorem dX9_putsLaw_118 : decode cX9_putsLaw 118 = .ok (.aload_n 0, 1) := by decide +kernel
theorem dX9_putsLaw_119 : decode cX9_putsLaw 119 = .ok (.getfield 7, 3) := by decide +kernel
theorem dX9_putsLaw_122 : decode cX9_putsLaw 122 = .ok (.sipush 1380, 3) := by decide +kernel
theorem dX9_putsLaw_125 : decode cX9_putsLaw 125 = .ok (.iload_n 1, 1) := by decide +kernel
theorem dX9_putsLaw_126 : decode cX9_putsLaw 126 = .ok (.iadd, 1) := by decide +kernel
theorem dX9_putsLaw_127 : decode cX9_putsLaw 127 = .ok (.aload_n 0, 1) := by decide +kernel
theorem dX9_putsLaw_128 : decode cX9_putsLaw 128 = .ok (.getfield 25, 3) := by decide +kernel
theorem dX9_putsLaw_131 : decode cX9_putsLaw 131 = .ok (.iload_n 1, 1) := by decide +kernel
theorem dX9_putsLaw_132 : decode cX9_putsLaw 132 = .ok (.iaload, 1) := by decide +kernel
theorem dX9_putsLaw_133 : decode cX9_putsLaw 133 = .ok (.iastore, 1) := by decide +kernel
theorem dX9_putsLaw_134 : decode cX9_putsLaw 134 = .ok (.iinc 1 1, 3) := by decide +kernel
theorem dX9_putsLaw_137 : decode cX9_putsLaw 137 = .ok (.goto (-29), 3) := by decide +kernel
theorem dX9_putsLaw_140 : decode cX9_putsLaw 140 = .ok (.aload_n 0, 1) := by decide +kernel
theorem dX9_putsLaw_141 : decode cX9_putsLaw 141 = .ok (.getfield 264, 3) := by decide +kernel
theorem dX9_putsLaw_144 : decode cX9_putsLaw 144 = .ok (.ireturn, 1) := by decide +kernel
set_option maxRecDepth 20000 in
theorem vX9_putsLaw {g : zG} {d : Nat} {Q : Int32 → zM → Prop} {M : zM} (h : zW shM g d mX9_putsLaw (zi Q) 14 [(0, .ref 0), (1, .int 0)] [] (zup M 1 156 (M 0 17))) : zCi shM g d mX9_putsLaw [.ref 0] M Q := by
  refine zW.enter (by decide +kernel) (Nat.le_of_ble_eq_true rfl) ?_
  change zW shM g d mX9_putsLaw (zi Q) 0 [(0, .ref 0)] [] M
  refine z_aload_n dX9_putsLaw_0 0 rfl ?_
  refine z_getr shM_0 rfl flX9_7 dX9_putsLaw_1 ?_
  refine z_sipush (v := 156) dX9_putsLaw_4 (by decide) ?_
  refine z_aload_n dX9_putsLaw_7 0 rfl ?_
  refine z_geti shM_0 rfl flX9_264 dX9_putsLaw_8 ?_
  refine z_iast2 (k0 := 156) shM_1 (by decide) (by decide) (by decide) dX9_putsLaw_11 ?_
  refine z_iconst (v := 0) dX9_putsLaw_12 (by decide) ?_
  refine z_istore_n [(1, .int 0), (0, .ref 0)] dX9_putsLaw_13 (by decide) rfl ?_
  exact zW.sub [1, 0] rfl h
set_option maxRecDepth 20000 in
theorem vX9_putsLaw_14 {g : zG} {d : Nat} {Q : Int32 → zM → Prop} {M : zM} {l1 : Int32} (h : ((M 0 17) ≤ l1 → zW shM g d mX9_putsLaw (zi Q) 108 [(0, .ref 0), (1, .int 0)] [] M) ∧ (¬ (M 0 17) ≤ l1 → ∃ k1 : Nat, (4 * l1) = iv k1 ∧ k1 < 64 ∧ ∃ k2 : Nat, (1316 + l1) = iv k2 ∧ k2 < 2200 ∧ ∃ k3 : Nat, ((4 * l1) + 1) = iv k3 ∧ k3 < 64 ∧ ∃ k4 : Nat, (1332 + l1) = iv k4 ∧ k4 < 2200 ∧ ∃ k5 : Nat, ((4 * l1) + 2) = iv k5 ∧ k5 < 64 ∧ ∃ k6 : Nat, (1348 + l1) = iv k6 ∧ k6 < 2200 ∧ ∃ k7 : Nat, ((4 * l1) + 3) = iv k7 ∧ k7 < 64 ∧ ∃ k8 : Nat, (1364 + l1) = iv k8 ∧ k8 < 2200 ∧ ∀ N1 : zM, N1 = zup (zup (zup (zup M 1 k2 (M 5 k1)) 1 k4 ((zup M 1 k2 (M 5 k1)) 5 k3)) 1 k6 ((zup (zup M 1 k2 (M 5 k1)) 1 k4 ((zup M 1 k2 (M 5 k1)) 5 k3)) 5 k5)) 1 k8 ((zup (zup (zup M 1 k2 (M 5 k1)) 1 k4 ((zup M 1 k2 (M 5 k1)) 5 k3)) 1 k6 ((zup (zup M 1 k2 (M 5 k1)) 1 k4 ((zup M 1 k2 (M 5 k1)) 5 k3)) 5 k5)) 5 k7) → zW shM g d mX9_putsLaw (zi Q) 14 [(0, .ref 0), (1, .int (l1 + 1))] [] N1)) : zW shM g d mX9_putsLaw (zi Q) 14 [(0, .ref 0), (1, .int l1)] [] M := by
  refine z_iload_n dX9_putsLaw_14 1 rfl ?_
  refine z_aload_n dX9_putsLaw_15 0 rfl ?_
  refine z_geti shM_0 rfl flX9_264 dX9_putsLaw_16 ?_
  refine z_icmp_ge 106 dX9_putsLaw_19 (by decide) (fun c1 => ?_) (fun c1 => ?_)
  · have h := h.1 c1
    refine z_iconst (v := 0) dX9_putsLaw_106 (by decide) ?_
    refine z_istore_n [(1, .int 0), (0, .ref 0)] dX9_putsLaw_107 (by decide) rfl ?_
    exact zW.sub [1, 0] rfl h
  · have h := h.2 c1
    refine z_aload_n dX9_putsLaw_22 0 rfl ?_
    refine z_getr shM_0 rfl flX9_7 dX9_putsLaw_23 ?_
    refine z_sipush (v := 1316) dX9_putsLaw_26 (by decide) ?_
    refine z_iload_n dX9_putsLaw_29 1 rfl ?_
    refine z_iadd dX9_putsLaw_30 ?_
    refine z_aload_n dX9_putsLaw_31 0 rfl ?_
    refine z_getr shM_0 rfl flX9_22 dX9_putsLaw_32 ?_
    refine z_iconst (v := 4) dX9_putsLaw_35 (by decide) ?_
    refine z_iload_n dX9_putsLaw_36 1 rfl ?_
    refine z_imul dX9_putsLaw_37 ?_
    obtain ⟨k1, ek1, uk1, h⟩ := h
    refine z_iald2 (k0 := k1) shM_5 (by decide) ek1 uk1 dX9_putsLaw_38 ?_
    obtain ⟨k2, ek2, uk2, h⟩ := h
    refine z_iast2 (k0 := k2) shM_1 (by decide) ek2 uk2 dX9_putsLaw_39 ?_
    refine z_aload_n dX9_putsLaw_40 0 rfl ?_
    refine z_getr shM_0 rfl flX9_7 dX9_putsLaw_41 ?_
    refine z_sipush (v := 1332) dX9_putsLaw_44 (by decide) ?_
    refine z_iload_n dX9_putsLaw_47 1 rfl ?_
    refine z_iadd dX9_putsLaw_48 ?_
    refine z_aload_n dX9_putsLaw_49 0 rfl ?_
    refine z_getr shM_0 rfl flX9_22 dX9_putsLaw_50 ?_
    refine z_iconst (v := 4) dX9_putsLaw_53 (by decide) ?_
    refine z_iload_n dX9_putsLaw_54 1 rfl ?_
    refine z_imul dX9_putsLaw_55 ?_
    refine z_iconst (v := 1) dX9_putsLaw_56 (by decide) ?_
    refine z_iadd dX9_putsLaw_57 ?_
    obtain ⟨k3, ek3, uk3, h⟩ := h
    refine z_iald2 (k0 := k3) shM_5 (by decide) ek3 uk3 dX9_putsLaw_58 ?_
    obtain ⟨k4, ek4, uk4, h⟩ := h
    refine z_iast2 (k0 := k4) shM_1 (by decide) ek4 uk4 dX9_putsLaw_59 ?_
    refine z_aload_n dX9_putsLaw_60 0 rfl ?_
    refine z_getr shM_0 rfl flX9_7 dX9_putsLaw_61 ?_
    refine z_sipush (v := 1348) dX9_putsLaw_64 (by decide) ?_
    refine z_iload_n dX9_putsLaw_67 1 rfl ?_
    refine z_iadd dX9_putsLaw_68 ?_
    refine z_aload_n dX9_putsLaw_69 0 rfl ?_
    refine z_getr shM_0 rfl flX9_22 dX9_putsLaw_70 ?_
    refine z_iconst (v := 4) dX9_putsLaw_73 (by decide) ?_
    refine z_iload_n dX9_putsLaw_74 1 rfl ?_
    refine z_imul dX9_putsLaw_75 ?_
    refine z_iconst (v := 2) dX9_putsLaw_76 (by decide) ?_
    refine z_iadd dX9_putsLaw_77 ?_
    obtain ⟨k5, ek5, uk5, h⟩ := h
    refine z_iald2 (k0 := k5) shM_5 (by decide) ek5 uk5 dX9_putsLaw_78 ?_
    obtain ⟨k6, ek6, uk6, h⟩ := h
    refine z_iast2 (k0 := k6) shM_1 (by decide) ek6 uk6 dX9_putsLaw_79 ?_
    refine z_aload_n dX9_putsLaw_80 0 rfl ?_
    refine z_getr shM_0 rfl flX9_7 dX9_putsLaw_81 ?_
    refine z_sipush (v := 1364) dX9_putsLaw_84 (by decide) ?_
    refine z_iload_n dX9_putsLaw_87 1 rfl ?_
    refine z_iadd dX9_putsLaw_88 ?_
    refine z_aload_n dX9_putsLaw_89 0 rfl ?_
    refine z_getr shM_0 rfl flX9_22 dX9_putsLaw_90 ?_
    refine z_iconst (v := 4) dX9_putsLaw_93 (by decide) ?_
    refine z_iload_n dX9_putsLaw_94 1 rfl ?_
    refine z_imul dX9_putsLaw_95 ?_
    refine z_iconst (v := 3) dX9_putsLaw_96 (by decide) ?_
    refine z_iadd dX9_putsLaw_97 ?_
    obtain ⟨k7, ek7, uk7, h⟩ := h
    refine z_iald2 (k0 := k7) shM_5 (by decide) ek7 uk7 dX9_putsLaw_98 ?_
    obtain ⟨k8, ek8, uk8, h⟩ := h
    refine z_iast2 (k0 := k8) shM_1 (by decide) ek8 uk8 dX9_putsLaw_99 ?_
    obtain ⟨N1, eN1⟩ : ∃ y : zM, y = zup (zup (zup (zup M 1 k2 (M 5 k1)) 1 k4 ((zup M 1 k2 (M 5 k1)) 5 k3)) 1 k6 ((zup (zup M 1 k2 (M 5 k1)) 1 k4 ((zup M 1 k2 (M 5 k1)) 5 k3)) 5 k5)) 1 k8 ((zup (zup (zup M 1 k2 (M 5 k1)) 1 k4 ((zup M 1 k2 (M 5 k1)) 5 k3)) 1 k6 ((zup (zup M 1 k2 (M 5 k1)) 1 k4 ((zup M 1 k2 (M 5 k1)) 5 k3)) 5 k5)) 5 k7) := ⟨_, rfl⟩
    refine z_mem N1 eN1 ?_
    have h := h N1 eN1
    refine z_iinc (x := l1) (v := (l1 + 1)) [(1, .int (l1 + 1)), (0, .ref 0)] dX9_putsLaw_100 1 rfl rfl (by decide) rfl ?_
    refine z_goto 14 dX9_putsLaw_103 (by decide) ?_
    exact zW.sub [1, 0] rfl h
set_option maxRecDepth 20000 in
theorem vX9_putsLaw_108 {g : zG} {d : Nat} {Q : Int32 → zM → Prop} {M : zM} {l1 : Int32} (h : ((2 * (M 0 18)) ≤ l1 → Q (M 0 17) M) ∧ (¬ (2 * (M 0 18)) ≤ l1 → ∃ k1 : Nat, l1 = iv k1 ∧ k1 < 820 ∧ ∃ k2 : Nat, (1380 + l1) = iv k2 ∧ k2 < 2200 ∧ zW shM g d mX9_putsLaw (zi Q) 108 [(0, .ref 0), (1, .int (l1 + 1))] [] (zup M 1 k2 (M 6 k1)))) : zW shM g d mX9_putsLaw (zi Q) 108 [(0, .ref 0), (1, .int l1)] [] M := by
  refine z_iload_n dX9_putsLaw_108 1 rfl ?_
  refine z_iconst (v := 2) dX9_putsLaw_109 (by decide) ?_
  refine z_aload_n dX9_putsLaw_110 0 rfl ?_
  refine z_geti shM_0 rfl flX9_231 dX9_putsLaw_111 ?_
  refine z_imul dX9_putsLaw_114 ?_
  refine z_icmp_ge 140 dX9_putsLaw_115 (by decide) (fun c1 => ?_) (fun c1 => ?_)
  · have h := h.1 c1
    refine z_aload_n dX9_putsLaw_140 0 rfl ?_
    refine z_geti shM_0 rfl flX9_264 dX9_putsLaw_141 ?_
    exact z_iret (st := []) rfl rfl dX9_putsLaw_144 ⟨_, rfl, h⟩
  · have h := h.2 c1
    refine z_aload_n dX9_putsLaw_118 0 rfl ?_
    refine z_getr shM_0 rfl flX9_7 dX9_putsLaw_119 ?_
    refine z_sipush (v := 1380) dX9_putsLaw_122 (by decide) ?_
    refine z_iload_n dX9_putsLaw_125 1 rfl ?_
    refine z_iadd dX9_putsLaw_126 ?_
    refine z_aload_n dX9_putsLaw_127 0 rfl ?_
    refine z_getr shM_0 rfl flX9_25 dX9_putsLaw_128 ?_
    refine z_iload_n dX9_putsLaw_131 1 rfl ?_
    obtain ⟨k1, ek1, uk1, h⟩ := h
    refine z_iald2 (k0 := k1) shM_6 (by decide) ek1 uk1 dX9_putsLaw_132 ?_
    obtain ⟨k2, ek2, uk2, h⟩ := h
    refine z_iast2 (k0 := k2) shM_1 (by decide) ek2 uk2 dX9_putsLaw_133 ?_
    refine z_iinc (x := l1) (v := (l1 + 1)) [(1, .int (l1 + 1)), (0, .ref 0)] dX9_putsLaw_134 1 rfl rfl (by decide) rfl ?_
    refine z_goto 108 dX9_putsLaw_137 (by decide) ?_
    exact zW.sub [1, 0] rfl h
theorem dX9_putsLetters_0 : decode cX9_putsLetters 0 = .ok (.aload_n 0, 1) := by decide +kernel
theorem dX9_putsLetters_1 : decode cX9_putsLetters 1 = .ok (.getfield 7, 3) := by decide +kernel
theorem dX9_putsLetters_4 : decode cX9_putsLetters 4 = .ok (.sipush 157, 3) := by decide +kernel
theorem dX9_putsLetters_7 : decode cX9_putsLetters 7 = .ok (.aload_n 0, 1) := by decide +kernel
theorem dX9_putsLetters_8 : decode cX9_putsLetters 8 = .ok (.getfield 288, 3) := by decide +kernel
theorem dX9_putsLetters_11 : decode cX9_putsLetters 11 = .ok (.iastore, 1) := by decide +kernel
theorem dX9_putsLetters_12 : decode cX9_putsLetters 12 = .ok (.aload_n 0, 1) := by decide +kernel
theorem dX9_putsLetters_13 : decode cX9_putsLetters 13 = .ok (.getfield 7, 3) := by decide +kernel
theorem dX9_putsLetters_16 : decode cX9_putsLetters 16 = .ok (.sipush 158, 3) := by decide +kernel
theorem dX9_putsLetters_19 : decode cX9_putsLetters 19 = .ok (.iconst 0, 1) := by decide +kernel
theorem dX9_putsLetters_20 : decode cX9_putsLetters 20 = .ok (.iastore, 1) := by decide +kernel
theorem dX9_putsLetters_21 : decode cX9_putsLetters 21 = .ok (.iconst 0, 1) := by decide +kernel
theorem dX9_putsLetters_22 : decode cX9_putsLetters 22 = .ok (.istore_n 1, 1) := by decide +kernel
theorem dX9_putsLetters_23 : decode cX9_putsLetters 23 = .ok (.iload_n 1, 1) := by decide +kernel
theorem dX9_putsLetters_24 : decode cX9_putsLetters 24 = .ok (.aload_n 0, 1) := by decide +kernel
theorem dX9_putsLetters_25 : decode cX9_putsLetters 25 = .ok (.getfield 288, 3) := by decide +kernel
theorem dX9_putsLetters_28 : decode cX9_putsLetters 28 = .ok (.if_icmp .ge 25, 3) := by decide +kernel
theorem dX9_putsLetters_31 : decode cX9_putsLetters 31 = .ok (.aload_n 0, 1) := by decide +kernel
theorem dX9_putsLetters_32 : decode cX9_putsLetters 32 = .ok (.getfield 7, 3) := by decide +kernel
theorem dX9_putsLetters_35 : decode cX9_putsLetters 35 = .ok (.sipush 538, 3) := by decide +kernel
theorem dX9_putsLetters_38 : decode cX9_putsLetters 38 = .ok (.iload_n 1, 1) := by decide +kernel
theorem dX9_putsLetters_39 : decode cX9_putsLetters 39 = .ok (.iadd, 1) := by decide +kernel
theorem dX9_putsLetters_40 : decode cX9_putsLetters 40 = .ok (.aload_n 0, 1) := by decide +kernel
theorem dX9_putsLetters_41 : decode cX9_putsLetters 41 = .ok (.getfield 37, 3) := by decide +kernel
theorem dX9_putsLetters_44 : decode cX9_putsLetters 44 = .ok (.iload_n 1, 1) := by decide +kernel
theorem dX9_putsLetters_45 : decode cX9_putsLetters 45 = .ok (.iaload, 1) := by decide +kernel
theorem dX9_putsLetters_46 : decode cX9_putsLetters 46 = .ok (.iastore, 1) := by decide +kernel
theorem dX9_putsLetters_47 : decode cX9_putsLetters 47 = .ok (.iinc 1 1, 3) := by decide +kernel
theorem dX9_putsLetters_50 : decode cX9_putsLetters 50 = .ok (.goto (-27), 3) := by decide +kernel
theorem dX9_putsLetters_53 : decode cX9_putsLetters 53 = .ok (.aload_n 0, 1) := by decide +kernel
theorem dX9_putsLetters_54 : decode cX9_putsLetters 54 = .ok (.getfield 288, 3) := by decide +kernel
theorem dX9_putsLetters_57 : decode cX9_putsLetters 57 = .ok (.ireturn, 1) := by decide +kernel
set_option maxRecDepth 20000 in
theorem vX9_putsLetters {g : zG} {d : Nat} {Q : Int32 → zM → Prop} {M : zM} (h : zW shM g d mX9_putsLetters (zi Q) 23 [(0, .ref 0), (1, .int 0)] [] (zup (zup M 1 157 (M 0 21)) 1 158 0)) : zCi shM g d mX9_putsLetters [.ref 0] M Q := by
  refine zW.enter (by decide +kernel) (Nat.le_of_ble_eq_true rfl) ?_
  change zW shM g d mX9_putsLetters (zi Q) 0 [(0, .ref 0)] [] M
  refine z_aload_n dX9_putsLetters_0 0 rfl ?_
  refine z_getr shM_0 rfl flX9_7 dX9_putsLetters_1 ?_
  refine z_sipush (v := 157) dX9_putsLetters_4 (by decide) ?_
  refine z_aload_n dX9_putsLetters_7 0 rfl ?_
  refine z_geti shM_0 rfl flX9_288 dX9_putsLetters_8 ?_
  refine z_iast2 (k0 := 157) shM_1 (by decide) (by decide) (by decide) dX9_putsLetters_11 ?_
  refine z_aload_n dX9_putsLetters_12 0 rfl ?_
  refine z_getr shM_0 rfl flX9_7 dX9_putsLetters_13 ?_
  refine z_sipush (v := 158) dX9_putsLetters_16 (by decide) ?_
  refine z_iconst (v := 0) dX9_putsLetters_19 (by decide) ?_
  refine z_iast2 (k0 := 158) shM_1 (by decide) (by decide) (by decide) dX9_putsLetters_20 ?_
  refine z_iconst (v := 0) dX9_putsLetters_21 (by decide) ?_
  refine z_istore_n [(1, .int 0), (0, .ref 0)] dX9_putsLetters_22 (by decide) rfl ?_
  exact zW.sub [1, 0] rfl h
set_option maxRecDepth 20000 in
theorem vX9_putsLetters_23 {g : zG} {d : Nat} {Q : Int32 → zM → Prop} {M : zM} {l1 : Int32} (h : ((M 0 21) ≤ l1 → Q (M 0 21) M) ∧ (¬ (M 0 21) ≤ l1 → ∃ k1 : Nat, l1 = iv k1 ∧ k1 < 8 ∧ ∃ k2 : Nat, (538 + l1) = iv k2 ∧ k2 < 2200 ∧ zW shM g d mX9_putsLetters (zi Q) 23 [(0, .ref 0), (1, .int (l1 + 1))] [] (zup M 1 k2 (M 10 k1)))) : zW shM g d mX9_putsLetters (zi Q) 23 [(0, .ref 0), (1, .int l1)] [] M := by
  refine z_iload_n dX9_putsLetters_23 1 rfl ?_
  refine z_aload_n dX9_putsLetters_24 0 rfl ?_
  refine z_geti shM_0 rfl flX9_288 dX9_putsLetters_25 ?_
  refine z_icmp_ge 53 dX9_putsLetters_28 (by decide) (fun c1 => ?_) (fun c1 => ?_)
  · have h := h.1 c1
    refine z_aload_n dX9_putsLetters_53 0 rfl ?_
    refine z_geti shM_0 rfl flX9_288 dX9_putsLetters_54 ?_
    exact z_iret (st := []) rfl rfl dX9_putsLetters_57 ⟨_, rfl, h⟩
  · have h := h.2 c1
    refine z_aload_n dX9_putsLetters_31 0 rfl ?_
    refine z_getr shM_0 rfl flX9_7 dX9_putsLetters_32 ?_
    refine z_sipush (v := 538) dX9_putsLetters_35 (by decide) ?_
    refine z_iload_n dX9_putsLetters_38 1 rfl ?_
    refine z_iadd dX9_putsLetters_39 ?_
    refine z_aload_n dX9_putsLetters_40 0 rfl ?_
    refine z_getr shM_0 rfl flX9_37 dX9_putsLetters_41 ?_
    refine z_iload_n dX9_putsLetters_44 1 rfl ?_
    obtain ⟨k1, ek1, uk1, h⟩ := h
    refine z_iald2 (k0 := k1) shM_10 (by decide) ek1 uk1 dX9_putsLetters_45 ?_
    obtain ⟨k2, ek2, uk2, h⟩ := h
    refine z_iast2 (k0 := k2) shM_1 (by decide) ek2 uk2 dX9_putsLetters_46 ?_
    refine z_iinc (x := l1) (v := (l1 + 1)) [(1, .int (l1 + 1)), (0, .ref 0)] dX9_putsLetters_47 1 rfl rfl (by decide) rfl ?_
    refine z_goto 23 dX9_putsLetters_50 (by decide) ?_
    exact zW.sub [1, 0] rfl h
theorem dX9_putsWants_0 : decode cX9_putsWants 0 = .ok (.aload_n 0, 1) := by decide +kernel
theorem dX9_putsWants_1 : decode cX9_putsWants 1 = .ok (.getfield 7, 3) := by decide +kernel
theorem dX9_putsWants_4 : decode cX9_putsWants 4 = .ok (.sipush 158, 3) := by decide +kernel
theorem dX9_putsWants_7 : decode cX9_putsWants 7 = .ok (.aload_n 0, 1) := by decide +kernel
theorem dX9_putsWants_8 : decode cX9_putsWants 8 = .ok (.getfield 294, 3) := by decide +kernel
theorem dX9_putsWants_11 : decode cX9_putsWants 11 = .ok (.iastore, 1) := by decide +kernel
theorem dX9_putsWants_12 : decode cX9_putsWants 12 = .ok (.iconst 0, 1) := by decide +kernel
theorem dX9_putsWants_13 : decode cX9_putsWants 13 = .ok (.istore_n 1, 1) := by decide +kernel
theorem dX9_putsWants_14 : decode cX9_putsWants 14 = .ok (.iload_n 1, 1) := by decide +kernel
theorem dX9_putsWants_15 : decode cX9_putsWants 15 = .ok (.iconst 2, 1) := by decide +kernel
theorem dX9_putsWants_16 : decode cX9_putsWants 16 = .ok (.aload_n 0, 1) := by decide +kernel
theorem dX9_putsWants_17 : decode cX9_putsWants 17 = .ok (.getfield 294, 3) := by decide +kernel
theorem dX9_putsWants_20 : decode cX9_putsWants 20 = .ok (.imul, 1) := by decide +kernel
theorem dX9_putsWants_21 : decode cX9_putsWants 21 = .ok (.if_icmp .ge 25, 3) := by decide +kernel
theorem dX9_putsWants_24 : decode cX9_putsWants 24 = .ok (.aload_n 0, 1) := by decide +kernel
theorem dX9_putsWants_25 : decode cX9_putsWants 25 = .ok (.getfield 7, 3) := by decide +kernel
theorem dX9_putsWants_28 : decode cX9_putsWants 28 = .ok (.sipush 546, 3) := by decide +kernel
theorem dX9_putsWants_31 : decode cX9_putsWants 31 = .ok (.iload_n 1, 1) := by decide +kernel
theorem dX9_putsWants_32 : decode cX9_putsWants 32 = .ok (.iadd, 1) := by decide +kernel
theorem dX9_putsWants_33 : decode cX9_putsWants 33 = .ok (.aload_n 0, 1) := by decide +kernel
theorem dX9_putsWants_34 : decode cX9_putsWants 34 = .ok (.getfield 40, 3) := by decide +kernel
theorem dX9_putsWants_37 : decode cX9_putsWants 37 = .ok (.iload_n 1, 1) := by decide +kernel
theorem dX9_putsWants_38 : decode cX9_putsWants 38 = .ok (.iaload, 1) := by decide +kernel
theorem dX9_putsWants_39 : decode cX9_putsWants 39 = .ok (.iastore, 1) := by decide +kernel
theorem dX9_putsWants_40 : decode cX9_putsWants 40 = .ok (.iinc 1 1, 3) := by decide +kernel
theorem dX9_putsWants_43 : decode cX9_putsWants 43 = .ok (.goto (-29), 3) := by decide +kernel
theorem dX9_putsWants_46 : decode cX9_putsWants 46 = .ok (.aload_n 0, 1) := by decide +kernel
theorem dX9_putsWants_47 : decode cX9_putsWants 47 = .ok (.getfield 294, 3) := by decide +kernel
theorem dX9_putsWants_50 : decode cX9_putsWants 50 = .ok (.ireturn, 1) := by decide +kernel
set_option maxRecDepth 20000 in
theorem vX9_putsWants {g : zG} {d : Nat} {Q : Int32 → zM → Prop} {M : zM} (h : zW shM g d mX9_putsWants (zi Q) 14 [(0, .ref 0), (1, .int 0)] [] (zup M 1 158 (M 0 22))) : zCi shM g d mX9_putsWants [.ref 0] M Q := by
  refine zW.enter (by decide +kernel) (Nat.le_of_ble_eq_true rfl) ?_
  change zW shM g d mX9_putsWants (zi Q) 0 [(0, .ref 0)] [] M
  refine z_aload_n dX9_putsWants_0 0 rfl ?_
  refine z_getr shM_0 rfl flX9_7 dX9_putsWants_1 ?_
  refine z_sipush (v := 158) dX9_putsWants_4 (by decide) ?_
  refine z_aload_n dX9_putsWants_7 0 rfl ?_
  refine z_geti shM_0 rfl flX9_294 dX9_putsWants_8 ?_
  refine z_iast2 (k0 := 158) shM_1 (by decide) (by decide) (by decide) dX9_putsWants_11 ?_
  refine z_iconst (v := 0) dX9_putsWants_12 (by decide) ?_
  refine z_istore_n [(1, .int 0), (0, .ref 0)] dX9_putsWants_13 (by decide) rfl ?_
  exact zW.sub [1, 0] rfl h
set_option maxRecDepth 20000 in
theorem vX9_putsWants_14 {g : zG} {d : Nat} {Q : Int32 → zM → Prop} {M : zM} {l1 : Int32} (h : ((2 * (M 0 22)) ≤ l1 → Q (M 0 22) M) ∧ (¬ (2 * (M 0 22)) ≤ l1 → ∃ k1 : Nat, l1 = iv k1 ∧ k1 < 20 ∧ ∃ k2 : Nat, (546 + l1) = iv k2 ∧ k2 < 2200 ∧ zW shM g d mX9_putsWants (zi Q) 14 [(0, .ref 0), (1, .int (l1 + 1))] [] (zup M 1 k2 (M 11 k1)))) : zW shM g d mX9_putsWants (zi Q) 14 [(0, .ref 0), (1, .int l1)] [] M := by
  refine z_iload_n dX9_putsWants_14 1 rfl ?_
  refine z_iconst (v := 2) dX9_putsWants_15 (by decide) ?_
  refine z_aload_n dX9_putsWants_16 0 rfl ?_
  refine z_geti shM_0 rfl flX9_294 dX9_putsWants_17 ?_
  refine z_imul dX9_putsWants_20 ?_
  refine z_icmp_ge 46 dX9_putsWants_21 (by decide) (fun c1 => ?_) (fun c1 => ?_)
  · have h := h.1 c1
    refine z_aload_n dX9_putsWants_46 0 rfl ?_
    refine z_geti shM_0 rfl flX9_294 dX9_putsWants_47 ?_
    exact z_iret (st := []) rfl rfl dX9_putsWants_50 ⟨_, rfl, h⟩
  · have h := h.2 c1
    refine z_aload_n dX9_putsWants_24 0 rfl ?_
    refine z_getr shM_0 rfl flX9_7 dX9_putsWants_25 ?_
    refine z_sipush (v := 546) dX9_putsWants_28 (by decide) ?_
    refine z_iload_n dX9_putsWants_31 1 rfl ?_
    refine z_iadd dX9_putsWants_32 ?_
    refine z_aload_n dX9_putsWants_33 0 rfl ?_
    refine z_getr shM_0 rfl flX9_40 dX9_putsWants_34 ?_
    refine z_iload_n dX9_putsWants_37 1 rfl ?_
    obtain ⟨k1, ek1, uk1, h⟩ := h
    refine z_iald2 (k0 := k1) shM_11 (by decide) ek1 uk1 dX9_putsWants_38 ?_
    obtain ⟨k2, ek2, uk2, h⟩ := h
    refine z_iast2 (k0 := k2) shM_1 (by decide) ek2 uk2 dX9_putsWants_39 ?_
    refine z_iinc (x := l1) (v := (l1 + 1)) [(1, .int (l1 + 1)), (0, .ref 0)] dX9_putsWants_40 1 rfl rfl (by decide) rfl ?_
    refine z_goto 14 dX9_putsWants_43 (by decide) ?_
    exact zW.sub [1, 0] rfl h
theorem dX9_text_0 : decode cX9_text 0 = .ok (.aload_n 0, 1) := by decide +kernel
theorem dX9_text_1 : decode cX9_text 1 = .ok (.iconst 0, 1) := by decide +kernel
theorem dX9_text_2 : decode cX9_text 2 = .ok (.putfield 303, 3) := by decide +kernel
theorem dX9_text_5 : decode cX9_text 5 = .ok (.aload_n 0, 1) := by decide +kernel
theorem dX9_text_6 : decode cX9_text 6 = .ok (.iconst (-1), 1) := by decide +kernel
theorem dX9_text_7 : decode cX9_text 7 = .ok (.putfield 52, 3) := by decide +kernel
theorem dX9_text_10 : decode cX9_text 10 = .ok (.iload_n 1, 1) := by decide +kernel
theorem dX9_text_11 : decode cX9_text 11 = .ok (.iconst 0, 1) := by decide +kernel
theorem dX9_text_12 : decode cX9_text 12 = .ok (.iconst 3, 1) := by decide +kernel
theorem dX9_text_13 : decode cX9_text 13 = .ok (.invokestatic 97, 3) := by decide +kernel
theorem dX9_text_16 : decode cX9_text 16 = .ok (.ifCond .ne 10, 3) := by decide +kernel
theorem dX9_text_19 : decode cX9_text 19 = .ok (.aload_n 0, 1) := by decide +kernel
theorem dX9_text_20 : decode cX9_text 20 = .ok (.iconst 0, 1) := by decide +kernel
theorem dX9_text_21 : decode cX9_text 21 = .ok (.putfield 120, 3) := by decide +kernel
theorem dX9_text_24 : decode cX9_text 24 = .ok (.iconst (-1), 1) := by decide +kernel
theorem dX9_text_25 : decode cX9_text 25 = .ok (.ireturn, 1) := by decide +kernel
theorem dX9_text_26 : decode cX9_text 26 = .ok (.aload_n 0, 1) := by decide +kernel
theorem dX9_text_27 : decode cX9_text 27 = .ok (.iconst 0, 1) := by decide +kernel
theorem dX9_text_28 : decode cX9_text 28 = .ok (.putfield 219, 3) := by decide +kernel
theorem dX9_text_31 : decode cX9_text 31 = .ok (.aload_n 0, 1) := by decide +kernel
theorem dX9_text_32 : decode cX9_text 32 = .ok (.iconst 0, 1) := by decide +kernel
theorem dX9_text_33 : decode cX9_text 33 = .ok (.putfield 123, 3) := by decide +kernel
theorem dX9_text_36 : decode cX9_text 36 = .ok (.aload_n 0, 1) := by decide +kernel
theorem dX9_text_37 : decode cX9_text 37 = .ok (.iload_n 1, 1) := by decide +kernel
theorem dX9_text_38 : decode cX9_text 38 = .ok (.putfield 186, 3) := by decide +kernel
theorem dX9_text_41 : decode cX9_text 41 = .ok (.aload_n 0, 1) := by decide +kernel
theorem dX9_text_42 : decode cX9_text 42 = .ok (.invokevirtual 228, 3) := by decide +kernel
theorem dX9_text_45 : decode cX9_text 45 = .ok (.iload_n 1, 1) := by decide +kernel
theorem dX9_text_46 : decode cX9_text 46 = .ok (.ifCond .ne 10, 3) := by decide +kernel
theorem dX9_text_49 : decode cX9_text 49 = .ok (.aload_n 0, 1) := by decide +kernel
theorem dX9_text_50 : decode cX9_text 50 = .ok (.invokevirtual 306, 3) := by decide +kernel
theorem dX9_text_53 : decode cX9_text 53 = .ok (.goto 31, 3) := by decide +kernel
theorem dX9_text_56 : decode cX9_text 56 = .ok (.iload_n 1, 1) := by decide +kernel
theorem dX9_text_57 : decode cX9_text 57 = .ok (.iconst 1, 1) := by decide +kernel
theorem dX9_text_58 : decode cX9_text 58 = .ok (.if_icmp .ne 10, 3) := by decide +kernel
theorem dX9_text_61 : decode cX9_text 61 = .ok (.aload_n 0, 1) := by decide +kernel
theorem dX9_text_62 : decode cX9_text 62 = .ok (.invokevirtual 309, 3) := by decide +kernel
theorem dX9_text_65 : decode cX9_text 65 = .ok (.goto 19, 3) := by decide +kernel
theorem dX9_text_68 : decode cX9_text 68 = .ok (.iload_n 1, 1) := by decide +kernel
theorem dX9_text_69 : decode cX9_text 69 = .ok (.iconst 2, 1) := by decide +kernel
theorem dX9_text_70 : decode cX9_text 70 = .ok (.if_icmp .ne 10, 3) := by decide +kernel
theorem dX9_text_73 : decode cX9_text 73 = .ok (.aload_n 0, 1) := by decide +kernel
theorem dX9_text_74 : decode cX9_text 74 = .ok (.invokevirtual 312, 3) := by decide +kernel
theorem dX9_text_77 : decode cX9_text 77 = .ok (.goto 7, 3) := by decide +kernel
theorem dX9_text_80 : decode cX9_text 80 = .ok (.aload_n 0, 1) := by decide +kernel
theorem dX9_text_81 : decode cX9_text 81 = .ok (.invokevirtual 315, 3) := by decide +kernel
theorem dX9_text_84 : decode cX9_text 84 = .ok (.istore_n 2, 1) := by decide +kernel
theorem dX9_text_85 : decode cX9_text 85 = .ok (.aload_n 0, 1) := by decide +kernel
theorem dX9_text_86 : decode cX9_text 86 = .ok (.iconst 0, 1) := by decide +kernel
theorem dX9_text_87 : decode cX9_text 87 = .ok (.putfield 120, 3) := by decide +kernel
theorem dX9_text_90 : decode cX9_text 90 = .ok (.iload_n 2, 1) := by decide +kernel
theorem dX9_text_91 : decode cX9_text 91 = .ok (.ifCond .eq 43, 3) := by decide +kernel
theorem dX9_text_94 : decode cX9_text 94 = .ok (.iload_n 1, 1) := by decide +kernel
theorem dX9_text_95 : decode cX9_text 95 = .ok (.ifCond .ne 10, 3) := by decide +kernel
theorem dX9_text_98 : decode cX9_text 98 = .ok (.aload_n 0, 1) := by decide +kernel
theorem dX9_text_99 : decode cX9_text 99 = .ok (.invokevirtual 318, 3) := by decide +kernel
theorem dX9_text_102 : decode cX9_text 102 = .ok (.goto 31, 3) := by decide +kernel
theorem dX9_text_105 : decode cX9_text 105 = .ok (.iload_n 1, 1) := by decide +kernel
theorem dX9_text_106 : decode cX9_text 106 = .ok (.iconst 1, 1) := by decide +kernel
theorem dX9_text_107 : decode cX9_text 107 = .ok (.if_icmp .ne 10, 3) := by decide +kernel
theorem dX9_text_110 : decode cX9_text 110 = .ok (.aload_n 0, 1) := by decide +kernel
theorem dX9_text_111 : decode cX9_text 111 = .ok (.invokevirtual 321, 3) := by decide +kernel
theorem dX9_text_114 : decode cX9_text 114 = .ok (.goto 19, 3) := by decide +kernel
theorem dX9_text_117 : decode cX9_text 117 = .ok (.iload_n 1, 1) := by decide +kernel
theorem dX9_text_118 : decode cX9_text 118 = .ok (.iconst 2, 1) := by decide +kernel
theorem dX9_text_119 : decode cX9_text 119 = .ok (.if_icmp .ne 10, 3) := by decide +kernel
theorem dX9_text_122 : decode cX9_text 122 = .ok (.aload_n 0, 1) := by decide +kernel
theorem dX9_text_123 : decode cX9_text 123 = .ok (.invokevirtual 324, 3) := by decide +kernel
theorem dX9_text_126 : decode cX9_text 126 = .ok (.goto 7, 3) := by decide +kernel
theorem dX9_text_129 : decode cX9_text 129 = .ok (.aload_n 0, 1) := by decide +kernel
theorem dX9_text_130 : decode cX9_text 130 = .ok (.invokevirtual 327, 3) := by decide +kernel
theorem dX9_text_133 : decode cX9_text 133 = .ok (.ireturn, 1) := by decide +kernel
theorem dX9_text_134 : decode cX9_text 134 = .ok (.aload_n 0, 1) := by decide +kernel
theorem dX9_text_135 : decode cX9_text 135 = .ok (.aload_n 0, 1) := by decide +kernel
theorem dX9_text_136 : decode cX9_text 136 = .ok (.getfield 219, 3) := by decide +kernel
theorem dX9_text_139 : decode cX9_text 139 = .ok (.putfield 303, 3) := by decide +kernel
theorem dX9_text_142 : decode cX9_text 142 = .ok (.aload_n 0, 1) := by decide +kernel
theorem dX9_text_143 : decode cX9_text 143 = .ok (.aload_n 0, 1) := by decide +kernel
theorem dX9_text_144 : decode cX9_text 144 = .ok (.getfield 222, 3) := by decide +kernel
theorem dX9_text_147 : decode cX9_text 147 = .ok (.putfield 52, 3) := by decide +kernel
theorem dX9_text_150 : decode cX9_text 150 = .ok (.iconst (-1), 1) := by decide +kernel
theorem dX9_text_151 : decode cX9_text 151 = .ok (.ireturn, 1) := by decide +kernel
set_option maxRecDepth 20000 in
theorem vX9_text {g : zG} {d : Nat} {Q : Int32 → zM → Prop} {M : zM} {l1 : Int32} (h : zCz shM g d mX9_isIn [.int l1, .int 0, .int 3] (zup (zup M 0 30 0) 0 32 (-1)) (fun b1 M1 => (b1 = true → zCv shM g d mX9_next0 [.ref 0] (zup (zup (zup M1 0 28 0) 0 24 0) 0 16 l1) (fun  M2 => (¬ l1 = 0 → (¬ l1 = 1 → (¬ l1 = 2 → zCz shM g d mX9_readsWants [.ref 0] M2 (fun b2 M3 => zW shM g (d + 1) mX9_text (zi Q) 84 [(0, .ref 0), (1, .int l1)] [.int (zbI b2)] M3)) ∧ (l1 = 2 → zCz shM g d mX9_readsLetters [.ref 0] M2 (fun b2 M3 => zW shM g (d + 1) mX9_text (zi Q) 84 [(0, .ref 0), (1, .int l1)] [.int (zbI b2)] M3))) ∧ (l1 = 1 → zCz shM g d mX9_readsLaw [.ref 0] M2 (fun b2 M3 => zW shM g (d + 1) mX9_text (zi Q) 84 [(0, .ref 0), (1, .int l1)] [.int (zbI b2)] M3))) ∧ (l1 = 0 → zCz shM g d mX9_readsWays [.ref 0] M2 (fun b2 M3 => zW shM g (d + 1) mX9_text (zi Q) 84 [(0, .ref 0), (1, .int l1)] [.int (zbI b2)] M3)))) ∧ (b1 = false → Q (-1) (zup M1 0 23 0)))) : zCi shM g (d + 1) mX9_text [.ref 0, .int l1] M Q := by
  refine zW.enter (by decide +kernel) (Nat.le_of_ble_eq_true rfl) ?_
  change zW shM g (d + 1) mX9_text (zi Q) 0 [(0, .ref 0), (1, .int l1)] [] M
  refine z_aload_n dX9_text_0 0 rfl ?_
  refine z_iconst (v := 0) dX9_text_1 (by decide) ?_
  refine z_puti shM_0 rfl fpX9_303 rfl rfl dX9_text_2 ?_
  refine z_aload_n dX9_text_5 0 rfl ?_
  refine z_iconst (v := (-1)) dX9_text_6 (by decide) ?_
  refine z_puti shM_0 rfl fpX9_52 rfl rfl dX9_text_7 ?_
  refine z_iload_n dX9_text_10 1 rfl ?_
  refine z_iconst (v := 0) dX9_text_11 (by decide) ?_
  refine z_iconst (v := 3) dX9_text_12 (by decide) ?_
  refine z_callS (m2 := mX9_isIn) (st := []) [.int l1, .int 0, .int 3] okX9_isIn (Or.inl lkX9_97) rfl rfl (Nat.le_of_ble_eq_true rfl) dX9_text_13 (zgo_z h fun b1 M1 h => ?_)
  refine z_ifb_ne 26 dX9_text_16 (by decide) (fun c1 => ?_) (fun c1 => ?_)
  · have h := h.1 c1
    refine z_aload_n dX9_text_26 0 rfl ?_
    refine z_iconst (v := 0) dX9_text_27 (by decide) ?_
    refine z_puti shM_0 rfl fpX9_219 rfl rfl dX9_text_28 ?_
    refine z_aload_n dX9_text_31 0 rfl ?_
    refine z_iconst (v := 0) dX9_text_32 (by decide) ?_
    refine z_puti shM_0 rfl fpX9_123 rfl rfl dX9_text_33 ?_
    refine z_aload_n dX9_text_36 0 rfl ?_
    refine z_iload_n dX9_text_37 1 rfl ?_
    refine z_puti shM_0 rfl fpX9_186 rfl rfl dX9_text_38 ?_
    refine z_aload_n dX9_text_41 0 rfl ?_
    refine z_callV (m2 := mX9_next0) (st := []) [] okX9_next0 (Or.inl lkX9_228) shM_0 rfl rfl rfl (Nat.le_of_ble_eq_true rfl) dX9_text_42 (zgo_v h fun  M2 h => ?_)
    refine z_iload_n dX9_text_45 1 rfl ?_
    refine z_if_ne 56 dX9_text_46 (by decide) (fun c2 => ?_) (fun c2 => ?_)
    · have h := h.1 c2
      refine z_iload_n dX9_text_56 1 rfl ?_
      refine z_iconst (v := 1) dX9_text_57 (by decide) ?_
      refine z_icmp_ne 68 dX9_text_58 (by decide) (fun c3 => ?_) (fun c3 => ?_)
      · have h := h.1 c3
        refine z_iload_n dX9_text_68 1 rfl ?_
        refine z_iconst (v := 2) dX9_text_69 (by decide) ?_
        refine z_icmp_ne 80 dX9_text_70 (by decide) (fun c4 => ?_) (fun c4 => ?_)
        · have h := h.1 c4
          refine z_aload_n dX9_text_80 0 rfl ?_
          refine z_callV (m2 := mX9_readsWants) (st := []) [] okX9_readsWants (Or.inl lkX9_315) shM_0 rfl rfl rfl (Nat.le_of_ble_eq_true rfl) dX9_text_81 (zgo_z h fun b2 M3 h => ?_)
          exact h
        · have h := h.2 c4
          refine z_aload_n dX9_text_73 0 rfl ?_
          refine z_callV (m2 := mX9_readsLetters) (st := []) [] okX9_readsLetters (Or.inl lkX9_312) shM_0 rfl rfl rfl (Nat.le_of_ble_eq_true rfl) dX9_text_74 (zgo_z h fun b2 M3 h => ?_)
          refine z_goto 84 dX9_text_77 (by decide) ?_
          exact h
      · have h := h.2 c3
        refine z_aload_n dX9_text_61 0 rfl ?_
        refine z_callV (m2 := mX9_readsLaw) (st := []) [] okX9_readsLaw (Or.inl lkX9_309) shM_0 rfl rfl rfl (Nat.le_of_ble_eq_true rfl) dX9_text_62 (zgo_z h fun b2 M3 h => ?_)
        refine z_goto 84 dX9_text_65 (by decide) ?_
        exact h
    · have h := h.2 c2
      refine z_aload_n dX9_text_49 0 rfl ?_
      refine z_callV (m2 := mX9_readsWays) (st := []) [] okX9_readsWays (Or.inl lkX9_306) shM_0 rfl rfl rfl (Nat.le_of_ble_eq_true rfl) dX9_text_50 (zgo_z h fun b2 M3 h => ?_)
      refine z_goto 84 dX9_text_53 (by decide) ?_
      exact h
  · have h := h.2 c1
    refine z_aload_n dX9_text_19 0 rfl ?_
    refine z_iconst (v := 0) dX9_text_20 (by decide) ?_
    refine z_puti shM_0 rfl fpX9_120 rfl rfl dX9_text_21 ?_
    refine z_iconst (v := (-1)) dX9_text_24 (by decide) ?_
    exact z_iret (st := []) rfl rfl dX9_text_25 ⟨_, rfl, h⟩
set_option maxRecDepth 20000 in
theorem vX9_text_84 {g : zG} {d : Nat} {Q : Int32 → zM → Prop} {M : zM} {l1 : Int32} {s0 : Bool} (h : (s0 = false → Q (-1) (zup (zup (zup M 0 23 0) 0 30 ((zup M 0 23 0) 0 28)) 0 32 ((zup (zup M 0 23 0) 0 30 ((zup M 0 23 0) 0 28)) 0 29))) ∧ (s0 = true → (¬ l1 = 0 → (¬ l1 = 1 → (¬ l1 = 2 → zCi shM g d mX9_putsWants [.ref 0] (zup M 0 23 0) (fun x1 M1 => Q x1 M1)) ∧ (l1 = 2 → zCi shM g d mX9_putsLetters [.ref 0] (zup M 0 23 0) (fun x1 M1 => Q x1 M1))) ∧ (l1 = 1 → zCi shM g d mX9_putsLaw [.ref 0] (zup M 0 23 0) (fun x1 M1 => Q x1 M1))) ∧ (l1 = 0 → zCi shM g d mX9_putsWays [.ref 0] (zup M 0 23 0) (fun x1 M1 => Q x1 M1)))) : zW shM g (d + 1) mX9_text (zi Q) 84 [(0, .ref 0), (1, .int l1)] [.int (zbI s0)] M := by
  refine z_istore_n [(2, .int (zbI s0)), (0, .ref 0), (1, .int l1)] dX9_text_84 (by decide) rfl ?_
  refine z_aload_n dX9_text_85 1 rfl ?_
  refine z_iconst (v := 0) dX9_text_86 (by decide) ?_
  refine z_puti shM_0 rfl fpX9_120 rfl rfl dX9_text_87 ?_
  refine z_iload_n dX9_text_90 0 rfl ?_
  refine z_ifb_eq 134 dX9_text_91 (by decide) (fun c1 => ?_) (fun c1 => ?_)
  · have h := h.1 c1
    refine z_aload_n dX9_text_134 1 rfl ?_
    refine z_aload_n dX9_text_135 1 rfl ?_
    refine z_geti shM_0 rfl flX9_219 dX9_text_136 ?_
    refine z_puti shM_0 rfl fpX9_303 rfl rfl dX9_text_139 ?_
    refine z_aload_n dX9_text_142 1 rfl ?_
    refine z_aload_n dX9_text_143 1 rfl ?_
    refine z_geti shM_0 rfl flX9_222 dX9_text_144 ?_
    refine z_puti shM_0 rfl fpX9_52 rfl rfl dX9_text_147 ?_
    refine z_iconst (v := (-1)) dX9_text_150 (by decide) ?_
    exact z_iret (st := []) rfl rfl dX9_text_151 ⟨_, rfl, h⟩
  · have h := h.2 c1
    refine z_iload_n dX9_text_94 2 rfl ?_
    refine z_if_ne 105 dX9_text_95 (by decide) (fun c2 => ?_) (fun c2 => ?_)
    · have h := h.1 c2
      refine z_iload_n dX9_text_105 2 rfl ?_
      refine z_iconst (v := 1) dX9_text_106 (by decide) ?_
      refine z_icmp_ne 117 dX9_text_107 (by decide) (fun c3 => ?_) (fun c3 => ?_)
      · have h := h.1 c3
        refine z_iload_n dX9_text_117 2 rfl ?_
        refine z_iconst (v := 2) dX9_text_118 (by decide) ?_
        refine z_icmp_ne 129 dX9_text_119 (by decide) (fun c4 => ?_) (fun c4 => ?_)
        · have h := h.1 c4
          refine z_aload_n dX9_text_129 1 rfl ?_
          refine z_callV (m2 := mX9_putsWants) (st := []) [] okX9_putsWants (Or.inl lkX9_327) shM_0 rfl rfl rfl (Nat.le_of_ble_eq_true rfl) dX9_text_130 (zgo_i h fun x1 M1 h => ?_)
          exact z_iret (st := []) rfl rfl dX9_text_133 ⟨_, rfl, h⟩
        · have h := h.2 c4
          refine z_aload_n dX9_text_122 1 rfl ?_
          refine z_callV (m2 := mX9_putsLetters) (st := []) [] okX9_putsLetters (Or.inl lkX9_324) shM_0 rfl rfl rfl (Nat.le_of_ble_eq_true rfl) dX9_text_123 (zgo_i h fun x1 M1 h => ?_)
          refine z_goto 133 dX9_text_126 (by decide) ?_
          exact z_iret (st := []) rfl rfl dX9_text_133 ⟨_, rfl, h⟩
      · have h := h.2 c3
        refine z_aload_n dX9_text_110 1 rfl ?_
        refine z_callV (m2 := mX9_putsLaw) (st := []) [] okX9_putsLaw (Or.inl lkX9_321) shM_0 rfl rfl rfl (Nat.le_of_ble_eq_true rfl) dX9_text_111 (zgo_i h fun x1 M1 h => ?_)
        refine z_goto 133 dX9_text_114 (by decide) ?_
        exact z_iret (st := []) rfl rfl dX9_text_133 ⟨_, rfl, h⟩
    · have h := h.2 c2
      refine z_aload_n dX9_text_98 1 rfl ?_
      refine z_callV (m2 := mX9_putsWays) (st := []) [] okX9_putsWays (Or.inl lkX9_318) shM_0 rfl rfl rfl (Nat.le_of_ble_eq_true rfl) dX9_text_99 (zgo_i h fun x1 M1 h => ?_)
      refine z_goto 133 dX9_text_102 (by decide) ?_
      exact z_iret (st := []) rfl rfl dX9_text_133 ⟨_, rfl, h⟩
theorem dX9_fault_0 : decode cX9_fault 0 = .ok (.iload_n 1, 1) := by decide +kernel
theorem dX9_fault_1 : decode cX9_fault 1 = .ok (.ifCond .ne 10, 3) := by decide +kernel
theorem dX9_fault_4 : decode cX9_fault 4 = .ok (.aload_n 0, 1) := by decide +kernel
theorem dX9_fault_5 : decode cX9_fault 5 = .ok (.getfield 303, 3) := by decide +kernel
theorem dX9_fault_8 : decode cX9_fault 8 = .ok (.goto 16, 3) := by decide +kernel
theorem dX9_fault_11 : decode cX9_fault 11 = .ok (.iload_n 1, 1) := by decide +kernel
theorem dX9_fault_12 : decode cX9_fault 12 = .ok (.iconst 1, 1) := by decide +kernel
theorem dX9_fault_13 : decode cX9_fault 13 = .ok (.if_icmp .ne 10, 3) := by decide +kernel
theorem dX9_fault_16 : decode cX9_fault 16 = .ok (.aload_n 0, 1) := by decide +kernel
theorem dX9_fault_17 : decode cX9_fault 17 = .ok (.getfield 52, 3) := by decide +kernel
theorem dX9_fault_20 : decode cX9_fault 20 = .ok (.goto 4, 3) := by decide +kernel
theorem dX9_fault_23 : decode cX9_fault 23 = .ok (.iconst (-1), 1) := by decide +kernel
theorem dX9_fault_24 : decode cX9_fault 24 = .ok (.ireturn, 1) := by decide +kernel
set_option maxRecDepth 20000 in
theorem vX9_fault {g : zG} {d : Nat} {Q : Int32 → zM → Prop} {M : zM} {l1 : Int32} (h : (¬ l1 = 0 → (¬ l1 = 1 → Q (-1) M) ∧ (l1 = 1 → Q (M 0 32) M)) ∧ (l1 = 0 → Q (M 0 30) M)) : zCi shM g d mX9_fault [.ref 0, .int l1] M Q := by
  refine zW.enter (by decide +kernel) (Nat.le_of_ble_eq_true rfl) ?_
  change zW shM g d mX9_fault (zi Q) 0 [(0, .ref 0), (1, .int l1)] [] M
  refine z_iload_n dX9_fault_0 1 rfl ?_
  refine z_if_ne 11 dX9_fault_1 (by decide) (fun c1 => ?_) (fun c1 => ?_)
  · have h := h.1 c1
    refine z_iload_n dX9_fault_11 1 rfl ?_
    refine z_iconst (v := 1) dX9_fault_12 (by decide) ?_
    refine z_icmp_ne 23 dX9_fault_13 (by decide) (fun c2 => ?_) (fun c2 => ?_)
    · have h := h.1 c2
      refine z_iconst (v := (-1)) dX9_fault_23 (by decide) ?_
      exact z_iret (st := []) rfl rfl dX9_fault_24 ⟨_, rfl, h⟩
    · have h := h.2 c2
      refine z_aload_n dX9_fault_16 0 rfl ?_
      refine z_geti shM_0 rfl flX9_52 dX9_fault_17 ?_
      refine z_goto 24 dX9_fault_20 (by decide) ?_
      exact z_iret (st := []) rfl rfl dX9_fault_24 ⟨_, rfl, h⟩
  · have h := h.2 c1
    refine z_aload_n dX9_fault_4 0 rfl ?_
    refine z_geti shM_0 rfl flX9_303 dX9_fault_5 ?_
    refine z_goto 24 dX9_fault_8 (by decide) ?_
    exact z_iret (st := []) rfl rfl dX9_fault_24 ⟨_, rfl, h⟩
theorem dX9_both_0 : decode cX9_both 0 = .ok (.iload_n 0, 1) := by decide +kernel
theorem dX9_both_1 : decode cX9_both 1 = .ok (.tableswitch 100 23 31 #[51, 55, 59, 100, 63, 74, 85, 100, 96], 51) := by decide +kernel
theorem dX9_both_52 : decode cX9_both 52 = .ok (.iload_n 1, 1) := by decide +kernel
theorem dX9_both_53 : decode cX9_both 53 = .ok (.iload_n 2, 1) := by decide +kernel
theorem dX9_both_54 : decode cX9_both 54 = .ok (.iadd, 1) := by decide +kernel
theorem dX9_both_55 : decode cX9_both 55 = .ok (.ireturn, 1) := by decide +kernel
theorem dX9_both_56 : decode cX9_both 56 = .ok (.iload_n 1, 1) := by decide +kernel
theorem dX9_both_57 : decode cX9_both 57 = .ok (.iload_n 2, 1) := by decide +kernel
theorem dX9_both_58 : decode cX9_both 58 = .ok (.isub, 1) := by decide +kernel
theorem dX9_both_59 : decode cX9_both 59 = .ok (.ireturn, 1) := by decide +kernel
theorem dX9_both_60 : decode cX9_both 60 = .ok (.iload_n 1, 1) := by decide +kernel
theorem dX9_both_61 : decode cX9_both 61 = .ok (.iload_n 2, 1) := by decide +kernel
theorem dX9_both_62 : decode cX9_both 62 = .ok (.imul, 1) := by decide +kernel
theorem dX9_both_63 : decode cX9_both 63 = .ok (.ireturn, 1) := by decide +kernel
theorem dX9_both_64 : decode cX9_both 64 = .ok (.iload_n 1, 1) := by decide +kernel
theorem dX9_both_65 : decode cX9_both 65 = .ok (.iload_n 2, 1) := by decide +kernel
theorem dX9_both_66 : decode cX9_both 66 = .ok (.if_icmp .ge 7, 3) := by decide +kernel
theorem dX9_both_69 : decode cX9_both 69 = .ok (.iconst 1, 1) := by decide +kernel
theorem dX9_both_70 : decode cX9_both 70 = .ok (.goto 4, 3) := by decide +kernel
theorem dX9_both_73 : decode cX9_both 73 = .ok (.iconst 0, 1) := by decide +kernel
theorem dX9_both_74 : decode cX9_both 74 = .ok (.ireturn, 1) := by decide +kernel
theorem dX9_both_75 : decode cX9_both 75 = .ok (.iload_n 1, 1) := by decide +kernel
theorem dX9_both_76 : decode cX9_both 76 = .ok (.iload_n 2, 1) := by decide +kernel
theorem dX9_both_77 : decode cX9_both 77 = .ok (.if_icmp .ne 7, 3) := by decide +kernel
theorem dX9_both_80 : decode cX9_both 80 = .ok (.iconst 1, 1) := by decide +kernel
theorem dX9_both_81 : decode cX9_both 81 = .ok (.goto 4, 3) := by decide +kernel
theorem dX9_both_84 : decode cX9_both 84 = .ok (.iconst 0, 1) := by decide +kernel
theorem dX9_both_85 : decode cX9_both 85 = .ok (.ireturn, 1) := by decide +kernel
theorem dX9_both_86 : decode cX9_both 86 = .ok (.iload_n 1, 1) := by decide +kernel
theorem dX9_both_87 : decode cX9_both 87 = .ok (.iload_n 2, 1) := by decide +kernel
theorem dX9_both_88 : decode cX9_both 88 = .ok (.if_icmp .le 7, 3) := by decide +kernel
theorem dX9_both_91 : decode cX9_both 91 = .ok (.iconst 1, 1) := by decide +kernel
theorem dX9_both_92 : decode cX9_both 92 = .ok (.goto 4, 3) := by decide +kernel
theorem dX9_both_95 : decode cX9_both 95 = .ok (.iconst 0, 1) := by decide +kernel
theorem dX9_both_96 : decode cX9_both 96 = .ok (.ireturn, 1) := by decide +kernel
theorem dX9_both_97 : decode cX9_both 97 = .ok (.iload_n 1, 1) := by decide +kernel
theorem dX9_both_98 : decode cX9_both 98 = .ok (.iload_n 2, 1) := by decide +kernel
theorem dX9_both_99 : decode cX9_both 99 = .ok (.iand, 1) := by decide +kernel
theorem dX9_both_100 : decode cX9_both 100 = .ok (.ireturn, 1) := by decide +kernel
theorem dX9_both_101 : decode cX9_both 101 = .ok (.iload_n 1, 1) := by decide +kernel
theorem dX9_both_102 : decode cX9_both 102 = .ok (.iload_n 2, 1) := by decide +kernel
theorem dX9_both_103 : decode cX9_both 103 = .ok (.ior, 1) := by decide +kernel
theorem dX9_both_104 : decode cX9_both 104 = .ok (.ireturn, 1) := by decide +kernel
set_option maxRecDepth 20000 in
theorem vX9_both {g : zG} {d : Nat} {Q : Int32 → zM → Prop} {M : zM} {l0 : Int32} {l1 : Int32} {l2 : Int32} (h : (l0.toInt < 23 ∨ 31 < l0.toInt → Q (l1 ||| l2) M) ∧ (l0.toInt = 23 → Q (l1 + l2) M) ∧ (l0.toInt = 24 → Q (l1 - l2) M) ∧ (l0.toInt = 25 → Q (l1 * l2) M) ∧ (l0.toInt = 26 → Q (l1 ||| l2) M) ∧ (l0.toInt = 27 → (l2 ≤ l1 → Q 0 M) ∧ (¬ l2 ≤ l1 → Q 1 M)) ∧ (l0.toInt = 28 → (¬ l1 = l2 → Q 0 M) ∧ (l1 = l2 → Q 1 M)) ∧ (l0.toInt = 29 → (l1 ≤ l2 → Q 0 M) ∧ (¬ l1 ≤ l2 → Q 1 M)) ∧ (l0.toInt = 30 → Q (l1 ||| l2) M) ∧ (l0.toInt = 31 → Q (l1 &&& l2) M)) : zCi shM g d mX9_both [.int l0, .int l1, .int l2] M Q := by
  refine zW.enter (by decide +kernel) (Nat.le_of_ble_eq_true rfl) ?_
  change zW shM g d mX9_both (zi Q) 0 [(0, .int l0), (1, .int l1), (2, .int l2)] [] M
  refine z_iload_n dX9_both_0 0 rfl ?_
  refine z_table [52, 56, 60, 101, 64, 75, 86, 101, 97] 101 dX9_both_1 (by decide) (by decide) (by decide) (fun c1 => ?_) ⟨fun c1 => ?_, fun c1 => ?_, fun c1 => ?_, fun c1 => ?_, fun c1 => ?_, fun c1 => ?_, fun c1 => ?_, fun c1 => ?_, fun c1 => ?_, trivial⟩
  · have h := h.1 c1
    refine z_iload_n dX9_both_101 1 rfl ?_
    refine z_iload_n dX9_both_102 2 rfl ?_
    refine z_ior dX9_both_103 ?_
    exact z_iret (st := []) rfl rfl dX9_both_104 ⟨_, rfl, h⟩
  · have h := h.2.1 c1
    refine z_iload_n dX9_both_52 1 rfl ?_
    refine z_iload_n dX9_both_53 2 rfl ?_
    refine z_iadd dX9_both_54 ?_
    exact z_iret (st := []) rfl rfl dX9_both_55 ⟨_, rfl, h⟩
  · have h := h.2.2.1 c1
    refine z_iload_n dX9_both_56 1 rfl ?_
    refine z_iload_n dX9_both_57 2 rfl ?_
    refine z_isub dX9_both_58 ?_
    exact z_iret (st := []) rfl rfl dX9_both_59 ⟨_, rfl, h⟩
  · have h := h.2.2.2.1 c1
    refine z_iload_n dX9_both_60 1 rfl ?_
    refine z_iload_n dX9_both_61 2 rfl ?_
    refine z_imul dX9_both_62 ?_
    exact z_iret (st := []) rfl rfl dX9_both_63 ⟨_, rfl, h⟩
  · have h := h.2.2.2.2.1 c1
    refine z_iload_n dX9_both_101 1 rfl ?_
    refine z_iload_n dX9_both_102 2 rfl ?_
    refine z_ior dX9_both_103 ?_
    exact z_iret (st := []) rfl rfl dX9_both_104 ⟨_, rfl, h⟩
  · have h := h.2.2.2.2.2.1 c1
    refine z_iload_n dX9_both_64 1 rfl ?_
    refine z_iload_n dX9_both_65 2 rfl ?_
    refine z_icmp_ge 73 dX9_both_66 (by decide) (fun c2 => ?_) (fun c2 => ?_)
    · have h := h.1 c2
      refine z_iconst (v := 0) dX9_both_73 (by decide) ?_
      exact z_iret (st := []) rfl rfl dX9_both_74 ⟨_, rfl, h⟩
    · have h := h.2 c2
      refine z_iconst (v := 1) dX9_both_69 (by decide) ?_
      refine z_goto 74 dX9_both_70 (by decide) ?_
      exact z_iret (st := []) rfl rfl dX9_both_74 ⟨_, rfl, h⟩
  · have h := h.2.2.2.2.2.2.1 c1
    refine z_iload_n dX9_both_75 1 rfl ?_
    refine z_iload_n dX9_both_76 2 rfl ?_
    refine z_icmp_ne 84 dX9_both_77 (by decide) (fun c2 => ?_) (fun c2 => ?_)
    · have h := h.1 c2
      refine z_iconst (v := 0) dX9_both_84 (by decide) ?_
      exact z_iret (st := []) rfl rfl dX9_both_85 ⟨_, rfl, h⟩
    · have h := h.2 c2
      refine z_iconst (v := 1) dX9_both_80 (by decide) ?_
      refine z_goto 85 dX9_both_81 (by decide) ?_
      exact z_iret (st := []) rfl rfl dX9_both_85 ⟨_, rfl, h⟩
  · have h := h.2.2.2.2.2.2.2.1 c1
    refine z_iload_n dX9_both_86 1 rfl ?_
    refine z_iload_n dX9_both_87 2 rfl ?_
    refine z_icmp_le 95 dX9_both_88 (by decide) (fun c2 => ?_) (fun c2 => ?_)
    · have h := h.1 c2
      refine z_iconst (v := 0) dX9_both_95 (by decide) ?_
      exact z_iret (st := []) rfl rfl dX9_both_96 ⟨_, rfl, h⟩
    · have h := h.2 c2
      refine z_iconst (v := 1) dX9_both_91 (by decide) ?_
      refine z_goto 96 dX9_both_92 (by decide) ?_
      exact z_iret (st := []) rfl rfl dX9_both_96 ⟨_, rfl, h⟩
  · have h := h.2.2.2.2.2.2.2.2.1 c1
    refine z_iload_n dX9_both_101 1 rfl ?_
    refine z_iload_n dX9_both_102 2 rfl ?_
    refine z_ior dX9_both_103 ?_
    exact z_iret (st := []) rfl rfl dX9_both_104 ⟨_, rfl, h⟩
  · have h := h.2.2.2.2.2.2.2.2.2 c1
    refine z_iload_n dX9_both_97 1 rfl ?_
    refine z_iload_n dX9_both_98 2 rfl ?_
    refine z_iand dX9_both_99 ?_
    exact z_iret (st := []) rfl rfl dX9_both_100 ⟨_, rfl, h⟩
theorem dX9_comesTo_0 : decode cX9_comesTo 0 = .ok (.iconst 0, 1) := by decide +kernel
theorem dX9_comesTo_1 : decode cX9_comesTo 1 = .ok (.istore 4, 2) := by decide +kernel
theorem dX9_comesTo_3 : decode cX9_comesTo 3 = .ok (.iload_n 2, 1) := by decide +kernel
theorem dX9_comesTo_4 : decode cX9_comesTo 4 = .ok (.istore 5, 2) := by decide +kernel
theorem dX9_comesTo_6 : decode cX9_comesTo 6 = .ok (.iload 5, 2) := by decide +kernel
theorem dX9_comesTo_8 : decode cX9_comesTo 8 = .ok (.iload_n 3, 1) := by decide +kernel
theorem dX9_comesTo_9 : decode cX9_comesTo 9 = .ok (.if_icmp .ge 177, 3) := by decide +kernel
theorem dX9_comesTo_12 : decode cX9_comesTo 12 = .ok (.aload_n 0, 1) := by decide +kernel
theorem dX9_comesTo_13 : decode cX9_comesTo 13 = .ok (.getfield 7, 3) := by decide +kernel
theorem dX9_comesTo_16 : decode cX9_comesTo 16 = .ok (.sipush 1380, 3) := by decide +kernel
theorem dX9_comesTo_19 : decode cX9_comesTo 19 = .ok (.sipush 820, 3) := by decide +kernel
theorem dX9_comesTo_22 : decode cX9_comesTo 22 = .ok (.iload_n 1, 1) := by decide +kernel
theorem dX9_comesTo_23 : decode cX9_comesTo 23 = .ok (.imul, 1) := by decide +kernel
theorem dX9_comesTo_24 : decode cX9_comesTo 24 = .ok (.iadd, 1) := by decide +kernel
theorem dX9_comesTo_25 : decode cX9_comesTo 25 = .ok (.iconst 2, 1) := by decide +kernel
theorem dX9_comesTo_26 : decode cX9_comesTo 26 = .ok (.iload 5, 2) := by decide +kernel
theorem dX9_comesTo_28 : decode cX9_comesTo 28 = .ok (.imul, 1) := by decide +kernel
theorem dX9_comesTo_29 : decode cX9_comesTo 29 = .ok (.iadd, 1) := by decide +kernel
theorem dX9_comesTo_30 : decode cX9_comesTo 30 = .ok (.iaload, 1) := by decide +kernel
theorem dX9_comesTo_31 : decode cX9_comesTo 31 = .ok (.istore 6, 2) := by decide +kernel
theorem dX9_comesTo_33 : decode cX9_comesTo 33 = .ok (.aload_n 0, 1) := by decide +kernel
theorem dX9_comesTo_34 : decode cX9_comesTo 34 = .ok (.getfield 7, 3) := by decide +kernel
theorem dX9_comesTo_37 : decode cX9_comesTo 37 = .ok (.sipush 1380, 3) := by decide +kernel
theorem dX9_comesTo_40 : decode cX9_comesTo 40 = .ok (.sipush 820, 3) := by decide +kernel
theorem dX9_comesTo_43 : decode cX9_comesTo 43 = .ok (.iload_n 1, 1) := by decide +kernel
theorem dX9_comesTo_44 : decode cX9_comesTo 44 = .ok (.imul, 1) := by decide +kernel
theorem dX9_comesTo_45 : decode cX9_comesTo 45 = .ok (.iadd, 1) := by decide +kernel
theorem dX9_comesTo_46 : decode cX9_comesTo 46 = .ok (.iconst 2, 1) := by decide +kernel
theorem dX9_comesTo_47 : decode cX9_comesTo 47 = .ok (.iload 5, 2) := by decide +kernel
theorem dX9_comesTo_49 : decode cX9_comesTo 49 = .ok (.imul, 1) := by decide +kernel
theorem dX9_comesTo_50 : decode cX9_comesTo 50 = .ok (.iadd, 1) := by decide +kernel
theorem dX9_comesTo_51 : decode cX9_comesTo 51 = .ok (.iconst 1, 1) := by decide +kernel
theorem dX9_comesTo_52 : decode cX9_comesTo 52 = .ok (.iadd, 1) := by decide +kernel
theorem dX9_comesTo_53 : decode cX9_comesTo 53 = .ok (.iaload, 1) := by decide +kernel
theorem dX9_comesTo_54 : decode cX9_comesTo 54 = .ok (.istore 7, 2) := by decide +kernel
theorem dX9_comesTo_56 : decode cX9_comesTo 56 = .ok (.iload 6, 2) := by decide +kernel
theorem dX9_comesTo_58 : decode cX9_comesTo 58 = .ok (.bipush 23, 2) := by decide +kernel
theorem dX9_comesTo_60 : decode cX9_comesTo 60 = .ok (.if_icmp .ge 33, 3) := by decide +kernel
theorem dX9_comesTo_63 : decode cX9_comesTo 63 = .ok (.aload_n 0, 1) := by decide +kernel
theorem dX9_comesTo_64 : decode cX9_comesTo 64 = .ok (.getfield 46, 3) := by decide +kernel
theorem dX9_comesTo_67 : decode cX9_comesTo 67 = .ok (.iload 4, 2) := by decide +kernel
theorem dX9_comesTo_69 : decode cX9_comesTo 69 = .ok (.iload 6, 2) := by decide +kernel
theorem dX9_comesTo_71 : decode cX9_comesTo 71 = .ok (.ifCond .ne 8, 3) := by decide +kernel
theorem dX9_comesTo_74 : decode cX9_comesTo 74 = .ok (.iload 7, 2) := by decide +kernel
theorem dX9_comesTo_76 : decode cX9_comesTo 76 = .ok (.goto 10, 3) := by decide +kernel
theorem dX9_comesTo_79 : decode cX9_comesTo 79 = .ok (.aload_n 0, 1) := by decide +kernel
theorem dX9_comesTo_80 : decode cX9_comesTo 80 = .ok (.getfield 49, 3) := by decide +kernel
theorem dX9_comesTo_83 : decode cX9_comesTo 83 = .ok (.iload 6, 2) := by decide +kernel
theorem dX9_comesTo_85 : decode cX9_comesTo 85 = .ok (.iaload, 1) := by decide +kernel
theorem dX9_comesTo_86 : decode cX9_comesTo 86 = .ok (.iastore, 1) := by decide +kernel
theorem dX9_comesTo_87 : decode cX9_comesTo 87 = .ok (.iinc 4 1, 3) := by decide +kernel
theorem dX9_comesTo_90 : decode cX9_comesTo 90 = .ok (.goto 90, 3) := by decide +kernel
theorem dX9_comesTo_93 : decode cX9_comesTo 93 = .ok (.iload 6, 2) := by decide +kernel
theorem dX9_comesTo_95 : decode cX9_comesTo 95 = .ok (.bipush 26, 2) := by decide +kernel
theorem dX9_comesTo_97 : decode cX9_comesTo 97 = .ok (.if_icmp .ne 20, 3) := by decide +kernel
theorem dX9_comesTo_100 : decode cX9_comesTo 100 = .ok (.aload_n 0, 1) := by decide +kernel
theorem dX9_comesTo_101 : decode cX9_comesTo 101 = .ok (.getfield 46, 3) := by decide +kernel
theorem dX9_comesTo_104 : decode cX9_comesTo 104 = .ok (.iload 4, 2) := by decide +kernel
theorem dX9_comesTo_106 : decode cX9_comesTo 106 = .ok (.iconst 1, 1) := by decide +kernel
theorem dX9_comesTo_107 : decode cX9_comesTo 107 = .ok (.isub, 1) := by decide +kernel
theorem dX9_comesTo_108 : decode cX9_comesTo 108 = .ok (.dup2, 1) := by decide +kernel
theorem dX9_comesTo_109 : decode cX9_comesTo 109 = .ok (.iaload, 1) := by decide +kernel
theorem dX9_comesTo_110 : decode cX9_comesTo 110 = .ok (.iload 7, 2) := by decide +kernel
theorem dX9_comesTo_112 : decode cX9_comesTo 112 = .ok (.idiv, 1) := by decide +kernel
theorem dX9_comesTo_113 : decode cX9_comesTo 113 = .ok (.iastore, 1) := by decide +kernel
theorem dX9_comesTo_114 : decode cX9_comesTo 114 = .ok (.goto 66, 3) := by decide +kernel
theorem dX9_comesTo_117 : decode cX9_comesTo 117 = .ok (.iload 6, 2) := by decide +kernel
theorem dX9_comesTo_119 : decode cX9_comesTo 119 = .ok (.bipush 30, 2) := by decide +kernel
theorem dX9_comesTo_121 : decode cX9_comesTo 121 = .ok (.if_icmp .ne 26, 3) := by decide +kernel
theorem dX9_comesTo_124 : decode cX9_comesTo 124 = .ok (.aload_n 0, 1) := by decide +kernel
theorem dX9_comesTo_125 : decode cX9_comesTo 125 = .ok (.getfield 46, 3) := by decide +kernel
theorem dX9_comesTo_128 : decode cX9_comesTo 128 = .ok (.iload 4, 2) := by decide +kernel
theorem dX9_comesTo_130 : decode cX9_comesTo 130 = .ok (.iconst 1, 1) := by decide +kernel
theorem dX9_comesTo_131 : decode cX9_comesTo 131 = .ok (.isub, 1) := by decide +kernel
theorem dX9_comesTo_132 : decode cX9_comesTo 132 = .ok (.iconst 1, 1) := by decide +kernel
theorem dX9_comesTo_133 : decode cX9_comesTo 133 = .ok (.aload_n 0, 1) := by decide +kernel
theorem dX9_comesTo_134 : decode cX9_comesTo 134 = .ok (.getfield 46, 3) := by decide +kernel
theorem dX9_comesTo_137 : decode cX9_comesTo 137 = .ok (.iload 4, 2) := by decide +kernel
theorem dX9_comesTo_139 : decode cX9_comesTo 139 = .ok (.iconst 1, 1) := by decide +kernel
theorem dX9_comesTo_140 : decode cX9_comesTo 140 = .ok (.isub, 1) := by decide +kernel
theorem dX9_comesTo_141 : decode cX9_comesTo 141 = .ok (.iaload, 1) := by decide +kernel
theorem dX9_comesTo_142 : decode cX9_comesTo 142 = .ok (.isub, 1) := by decide +kernel
theorem dX9_comesTo_143 : decode cX9_comesTo 143 = .ok (.iastore, 1) := by decide +kernel
theorem dX9_comesTo_144 : decode cX9_comesTo 144 = .ok (.goto 36, 3) := by decide +kernel
theorem dX9_comesTo_147 : decode cX9_comesTo 147 = .ok (.iinc 4 (-1), 3) := by decide +kernel
theorem dX9_comesTo_150 : decode cX9_comesTo 150 = .ok (.aload_n 0, 1) := by decide +kernel
theorem dX9_comesTo_151 : decode cX9_comesTo 151 = .ok (.getfield 46, 3) := by decide +kernel
theorem dX9_comesTo_154 : decode cX9_comesTo 154 = .ok (.iload 4, 2) := by decide +kernel
theorem dX9_comesTo_156 : decode cX9_comesTo 156 = .ok (.iconst 1, 1) := by decide +kernel
theorem dX9_comesTo_157 : decode cX9_comesTo 157 = .ok (.isub, 1) := by decide +kernel
theorem dX9_comesTo_158 : decode cX9_comesTo 158 = .ok (.iload 6, 2) := by decide +kernel
theorem dX9_comesTo_160 : decode cX9_comesTo 160 = .ok (.aload_n 0, 1) := by decide +kernel
theorem dX9_comesTo_161 : decode cX9_comesTo 161 = .ok (.getfield 46, 3) := by decide +kernel
theorem dX9_comesTo_164 : decode cX9_comesTo 164 = .ok (.iload 4, 2) := by decide +kernel
theorem dX9_comesTo_166 : decode cX9_comesTo 166 = .ok (.iconst 1, 1) := by decide +kernel
theorem dX9_comesTo_167 : decode cX9_comesTo 167 = .ok (.isub, 1) := by decide +kernel
theorem dX9_comesTo_168 : decode cX9_comesTo 168 = .ok (.iaload, 1) := by decide +kernel
theorem dX9_comesTo_169 : decode cX9_comesTo 169 = .ok (.aload_n 0, 1) := by decide +kernel
theorem dX9_comesTo_170 : decode cX9_comesTo 170 = .ok (.getfield 46, 3) := by decide +kernel
theorem dX9_comesTo_173 : decode cX9_comesTo 173 = .ok (.iload 4, 2) := by decide +kernel
theorem dX9_comesTo_175 : decode cX9_comesTo 175 = .ok (.iaload, 1) := by decide +kernel
theorem dX9_comesTo_176 : decode cX9_comesTo 176 = .ok (.invokestatic 330, 3) := by decide +kernel
theorem dX9_comesTo_179 : decode cX9_comesTo 179 = .ok (.iastore, 1) := by decide +kernel
theorem dX9_comesTo_180 : decode cX9_comesTo 180 = .ok (.iinc 5 1, 3) := by decide +kernel
theorem dX9_comesTo_183 : decode cX9_comesTo 183 = .ok (.goto (-177), 3) := by decide +kernel
theorem dX9_comesTo_186 : decode cX9_comesTo 186 = .ok (.aload_n 0, 1) := by decide +kernel
theorem dX9_comesTo_187 : decode cX9_comesTo 187 = .ok (.getfield 46, 3) := by decide +kernel
theorem dX9_comesTo_190 : decode cX9_comesTo 190 = .ok (.iconst 0, 1) := by decide +kernel
theorem dX9_comesTo_191 : decode cX9_comesTo 191 = .ok (.iaload, 1) := by decide +kernel
theorem dX9_comesTo_192 : decode cX9_comesTo 192 = .ok (.ireturn, 1) := by decide +kernel
set_option maxRecDepth 20000 in
theorem vX9_comesTo {g : zG} {d : Nat} {Q : Int32 → zM → Prop} {M : zM} {l1 : Int32} {l2 : Int32} {l3 : Int32} (h : zW shM g (d + 1) mX9_comesTo (zi Q) 6 [(0, .ref 0), (1, .int l1), (3, .int l3), (4, .int 0), (5, .int l2)] [] M) : zCi shM g (d + 1) mX9_comesTo [.ref 0, .int l1, .int l2, .int l3] M Q := by
  refine zW.enter (by decide +kernel) (Nat.le_of_ble_eq_true rfl) ?_
  change zW shM g (d + 1) mX9_comesTo (zi Q) 0 [(0, .ref 0), (1, .int l1), (2, .int l2), (3, .int l3)] [] M
  refine z_iconst (v := 0) dX9_comesTo_0 (by decide) ?_
  refine z_istore [(4, .int 0), (0, .ref 0), (1, .int l1), (2, .int l2), (3, .int l3)] dX9_comesTo_1 (by decide) rfl ?_
  refine z_iload_n dX9_comesTo_3 3 rfl ?_
  refine z_istore [(5, .int l2), (4, .int 0), (0, .ref 0), (1, .int l1), (2, .int l2), (3, .int l3)] dX9_comesTo_4 (by decide) rfl ?_
  exact zW.sub [2, 3, 5, 1, 0] rfl h
set_option maxRecDepth 20000 in
theorem vX9_comesTo_6 {g : zG} {d : Nat} {Q : Int32 → zM → Prop} {M : zM} {l1 : Int32} {l3 : Int32} {l4 : Int32} {l5 : Int32} (h : (l3 ≤ l5 → Q (M 13 0) M) ∧ (¬ l3 ≤ l5 → ∃ k1 : Nat, ((1380 + (820 * l1)) + (2 * l5)) = iv k1 ∧ k1 < 2200 ∧ ∃ k2 : Nat, (((1380 + (820 * l1)) + (2 * l5)) + 1) = iv k2 ∧ k2 < 2200 ∧ (23 ≤ (M 1 k1) → (¬ (M 1 k1) = 26 → (¬ (M 1 k1) = 30 → ∃ k3 : Nat, ((l4 + (-1)) - 1) = iv k3 ∧ k3 < 420 ∧ ∃ k4 : Nat, (l4 + (-1)) = iv k4 ∧ k4 < 420 ∧ zCi shM g d mX9_both [.int (M 1 k1), .int (M 13 k3), .int (M 13 k4)] M (fun x1 M1 => zW shM g (d + 1) mX9_comesTo (zi Q) 6 [(0, .ref 0), (1, .int l1), (3, .int l3), (4, .int (l4 + (-1))), (5, .int (l5 + 1))] [] (zup M1 13 k3 x1))) ∧ ((M 1 k1) = 30 → ∃ k3 : Nat, (l4 - 1) = iv k3 ∧ k3 < 420 ∧ zW shM g (d + 1) mX9_comesTo (zi Q) 6 [(0, .ref 0), (1, .int l1), (3, .int l3), (4, .int l4), (5, .int (l5 + 1))] [] (zup M 13 k3 (1 - (M 13 k3))))) ∧ ((M 1 k1) = 26 → ∃ k3 : Nat, (l4 - 1) = iv k3 ∧ k3 < 420 ∧ ¬ (M 1 k2) = 0 ∧ zW shM g (d + 1) mX9_comesTo (zi Q) 6 [(0, .ref 0), (1, .int l1), (3, .int l3), (4, .int l4), (5, .int (l5 + 1))] [] (zup M 13 k3 ((M 13 k3) / (M 1 k2))))) ∧ (¬ 23 ≤ (M 1 k1) → (¬ (M 1 k1) = 0 → ∃ k3 : Nat, (M 1 k1) = iv k3 ∧ k3 < 7 ∧ ∃ k4 : Nat, l4 = iv k4 ∧ k4 < 420 ∧ zW shM g (d + 1) mX9_comesTo (zi Q) 6 [(0, .ref 0), (1, .int l1), (3, .int l3), (4, .int (l4 + 1)), (5, .int (l5 + 1))] [] (zup M 13 k4 (M 14 k3))) ∧ ((M 1 k1) = 0 → ∃ k3 : Nat, l4 = iv k3 ∧ k3 < 420 ∧ zW shM g (d + 1) mX9_comesTo (zi Q) 6 [(0, .ref 0), (1, .int l1), (3, .int l3), (4, .int (l4 + 1)), (5, .int (l5 + 1))] [] (zup M 13 k3 (M 1 k2)))))) : zW shM g (d + 1) mX9_comesTo (zi Q) 6 [(0, .ref 0), (1, .int l1), (3, .int l3), (4, .int l4), (5, .int l5)] [] M := by
  refine z_iload dX9_comesTo_6 4 rfl ?_
  refine z_iload_n dX9_comesTo_8 2 rfl ?_
  refine z_icmp_ge 186 dX9_comesTo_9 (by decide) (fun c1 => ?_) (fun c1 => ?_)
  · have h := h.1 c1
    refine z_aload_n dX9_comesTo_186 0 rfl ?_
    refine z_getr shM_0 rfl flX9_46 dX9_comesTo_187 ?_
    refine z_iconst (v := 0) dX9_comesTo_190 (by decide) ?_
    refine z_iald2 (k0 := 0) shM_13 (by decide) (by decide) (by decide) dX9_comesTo_191 ?_
    exact z_iret (st := []) rfl rfl dX9_comesTo_192 ⟨_, rfl, h⟩
  · have h := h.2 c1
    refine z_aload_n dX9_comesTo_12 0 rfl ?_
    refine z_getr shM_0 rfl flX9_7 dX9_comesTo_13 ?_
    refine z_sipush (v := 1380) dX9_comesTo_16 (by decide) ?_
    refine z_sipush (v := 820) dX9_comesTo_19 (by decide) ?_
    refine z_iload_n dX9_comesTo_22 1 rfl ?_
    refine z_imul dX9_comesTo_23 ?_
    refine z_iadd dX9_comesTo_24 ?_
    refine z_iconst (v := 2) dX9_comesTo_25 (by decide) ?_
    refine z_iload dX9_comesTo_26 4 rfl ?_
    refine z_imul dX9_comesTo_28 ?_
    refine z_iadd dX9_comesTo_29 ?_
    obtain ⟨k1, ek1, uk1, h⟩ := h
    refine z_iald2 (k0 := k1) shM_1 (by decide) ek1 uk1 dX9_comesTo_30 ?_
    refine z_istore [(6, .int (M 1 k1)), (0, .ref 0), (1, .int l1), (3, .int l3), (4, .int l4), (5, .int l5)] dX9_comesTo_31 (by decide) rfl ?_
    refine z_aload_n dX9_comesTo_33 1 rfl ?_
    refine z_getr shM_0 rfl flX9_7 dX9_comesTo_34 ?_
    refine z_sipush (v := 1380) dX9_comesTo_37 (by decide) ?_
    refine z_sipush (v := 820) dX9_comesTo_40 (by decide) ?_
    refine z_iload_n dX9_comesTo_43 2 rfl ?_
    refine z_imul dX9_comesTo_44 ?_
    refine z_iadd dX9_comesTo_45 ?_
    refine z_iconst (v := 2) dX9_comesTo_46 (by decide) ?_
    refine z_iload dX9_comesTo_47 5 rfl ?_
    refine z_imul dX9_comesTo_49 ?_
    refine z_iadd dX9_comesTo_50 ?_
    refine z_iconst (v := 1) dX9_comesTo_51 (by decide) ?_
    refine z_iadd dX9_comesTo_52 ?_
    obtain ⟨k2, ek2, uk2, h⟩ := h
    refine z_iald2 (k0 := k2) shM_1 (by decide) ek2 uk2 dX9_comesTo_53 ?_
    refine z_istore [(7, .int (M 1 k2)), (6, .int (M 1 k1)), (0, .ref 0), (1, .int l1), (3, .int l3), (4, .int l4), (5, .int l5)] dX9_comesTo_54 (by decide) rfl ?_
    refine z_iload dX9_comesTo_56 1 rfl ?_
    refine z_bipush (v := 23) dX9_comesTo_58 (by decide) ?_
    refine z_icmp_ge 93 dX9_comesTo_60 (by decide) (fun c2 => ?_) (fun c2 => ?_)
    · have h := h.1 c2
      refine z_iload dX9_comesTo_93 1 rfl ?_
      refine z_bipush (v := 26) dX9_comesTo_95 (by decide) ?_
      refine z_icmp_ne 117 dX9_comesTo_97 (by decide) (fun c3 => ?_) (fun c3 => ?_)
      · have h := h.1 c3
        refine z_iload dX9_comesTo_117 1 rfl ?_
        refine z_bipush (v := 30) dX9_comesTo_119 (by decide) ?_
        refine z_icmp_ne 147 dX9_comesTo_121 (by decide) (fun c4 => ?_) (fun c4 => ?_)
        · have h := h.1 c4
          refine z_iinc (x := l4) (v := (l4 + (-1))) [(4, .int (l4 + (-1))), (7, .int (M 1 k2)), (6, .int (M 1 k1)), (0, .ref 0), (1, .int l1), (3, .int l3), (5, .int l5)] dX9_comesTo_147 5 rfl rfl (by decide) rfl ?_
          refine z_aload_n dX9_comesTo_150 3 rfl ?_
          refine z_getr shM_0 rfl flX9_46 dX9_comesTo_151 ?_
          refine z_iload dX9_comesTo_154 0 rfl ?_
          refine z_iconst (v := 1) dX9_comesTo_156 (by decide) ?_
          refine z_isub dX9_comesTo_157 ?_
          refine z_iload dX9_comesTo_158 2 rfl ?_
          refine z_aload_n dX9_comesTo_160 3 rfl ?_
          refine z_getr shM_0 rfl flX9_46 dX9_comesTo_161 ?_
          refine z_iload dX9_comesTo_164 0 rfl ?_
          refine z_iconst (v := 1) dX9_comesTo_166 (by decide) ?_
          refine z_isub dX9_comesTo_167 ?_
          obtain ⟨k3, ek3, uk3, h⟩ := h
          refine z_iald2 (k0 := k3) shM_13 (by decide) ek3 uk3 dX9_comesTo_168 ?_
          refine z_aload_n dX9_comesTo_169 3 rfl ?_
          refine z_getr shM_0 rfl flX9_46 dX9_comesTo_170 ?_
          refine z_iload dX9_comesTo_173 0 rfl ?_
          obtain ⟨k4, ek4, uk4, h⟩ := h
          refine z_iald2 (k0 := k4) shM_13 (by decide) ek4 uk4 dX9_comesTo_175 ?_
          refine z_callS (m2 := mX9_both) (st := [.int ((l4 + (-1)) - 1), .ref 13]) [.int (M 1 k1), .int (M 13 k3), .int (M 13 k4)] okX9_both (Or.inl lkX9_330) rfl rfl (Nat.le_of_ble_eq_true rfl) dX9_comesTo_176 (zgo_i h fun x1 M1 h => ?_)
          refine z_iast2 (k0 := k3) shM_13 (by decide) ek3 uk3 dX9_comesTo_179 ?_
          refine z_iinc (x := l5) (v := (l5 + 1)) [(5, .int (l5 + 1)), (4, .int (l4 + (-1))), (7, .int (M 1 k2)), (6, .int (M 1 k1)), (0, .ref 0), (1, .int l1), (3, .int l3)] dX9_comesTo_180 6 rfl rfl (by decide) rfl ?_
          refine z_goto 6 dX9_comesTo_183 (by decide) ?_
          exact zW.sub [4, 5, 6, 1, 0] rfl h
        · have h := h.2 c4
          refine z_aload_n dX9_comesTo_124 2 rfl ?_
          refine z_getr shM_0 rfl flX9_46 dX9_comesTo_125 ?_
          refine z_iload dX9_comesTo_128 5 rfl ?_
          refine z_iconst (v := 1) dX9_comesTo_130 (by decide) ?_
          refine z_isub dX9_comesTo_131 ?_
          refine z_iconst (v := 1) dX9_comesTo_132 (by decide) ?_
          refine z_aload_n dX9_comesTo_133 2 rfl ?_
          refine z_getr shM_0 rfl flX9_46 dX9_comesTo_134 ?_
          refine z_iload dX9_comesTo_137 5 rfl ?_
          refine z_iconst (v := 1) dX9_comesTo_139 (by decide) ?_
          refine z_isub dX9_comesTo_140 ?_
          obtain ⟨k3, ek3, uk3, h⟩ := h
          refine z_iald2 (k0 := k3) shM_13 (by decide) ek3 uk3 dX9_comesTo_141 ?_
          refine z_isub dX9_comesTo_142 ?_
          refine z_iast2 (k0 := k3) shM_13 (by decide) ek3 uk3 dX9_comesTo_143 ?_
          refine z_goto 180 dX9_comesTo_144 (by decide) ?_
          refine z_iinc (x := l5) (v := (l5 + 1)) [(5, .int (l5 + 1)), (7, .int (M 1 k2)), (6, .int (M 1 k1)), (0, .ref 0), (1, .int l1), (3, .int l3), (4, .int l4)] dX9_comesTo_180 6 rfl rfl (by decide) rfl ?_
          refine z_goto 6 dX9_comesTo_183 (by decide) ?_
          exact zW.sub [3, 4, 5, 6, 0] rfl h
      · have h := h.2 c3
        refine z_aload_n dX9_comesTo_100 2 rfl ?_
        refine z_getr shM_0 rfl flX9_46 dX9_comesTo_101 ?_
        refine z_iload dX9_comesTo_104 5 rfl ?_
        refine z_iconst (v := 1) dX9_comesTo_106 (by decide) ?_
        refine z_isub dX9_comesTo_107 ?_
        refine z_dup2 dX9_comesTo_108 ?_
        obtain ⟨k3, ek3, uk3, h⟩ := h
        refine z_iald2 (k0 := k3) shM_13 (by decide) ek3 uk3 dX9_comesTo_109 ?_
        refine z_iload dX9_comesTo_110 0 rfl ?_
        refine z_idiv dX9_comesTo_112 h.1 ?_
        have h := h.2
        refine z_iast2 (k0 := k3) shM_13 (by decide) ek3 uk3 dX9_comesTo_113 ?_
        refine z_goto 180 dX9_comesTo_114 (by decide) ?_
        refine z_iinc (x := l5) (v := (l5 + 1)) [(5, .int (l5 + 1)), (7, .int (M 1 k2)), (6, .int (M 1 k1)), (0, .ref 0), (1, .int l1), (3, .int l3), (4, .int l4)] dX9_comesTo_180 6 rfl rfl (by decide) rfl ?_
        refine z_goto 6 dX9_comesTo_183 (by decide) ?_
        exact zW.sub [3, 4, 5, 6, 0] rfl h
    · have h := h.2 c2
      refine z_aload_n dX9_comesTo_63 2 rfl ?_
      refine z_getr shM_0 rfl flX9_46 dX9_comesTo_64 ?_
      refine z_iload dX9_comesTo_67 5 rfl ?_
      refine z_iload dX9_comesTo_69 1 rfl ?_
      refine z_if_ne 79 dX9_comesTo_71 (by decide) (fun c3 => ?_) (fun c3 => ?_)
      · have h := h.1 c3
        refine z_aload_n dX9_comesTo_79 2 rfl ?_
        refine z_getr shM_0 rfl flX9_49 dX9_comesTo_80 ?_
        refine z_iload dX9_comesTo_83 1 rfl ?_
        obtain ⟨k3, ek3, uk3, h⟩ := h
        refine z_iald2 (k0 := k3) shM_14 (by decide) ek3 uk3 dX9_comesTo_85 ?_
        obtain ⟨k4, ek4, uk4, h⟩ := h
        refine z_iast2 (k0 := k4) shM_13 (by decide) ek4 uk4 dX9_comesTo_86 ?_
        refine z_iinc (x := l4) (v := (l4 + 1)) [(4, .int (l4 + 1)), (7, .int (M 1 k2)), (6, .int (M 1 k1)), (0, .ref 0), (1, .int l1), (3, .int l3), (5, .int l5)] dX9_comesTo_87 5 rfl rfl (by decide) rfl ?_
        refine z_goto 180 dX9_comesTo_90 (by decide) ?_
        refine z_iinc (x := l5) (v := (l5 + 1)) [(5, .int (l5 + 1)), (4, .int (l4 + 1)), (7, .int (M 1 k2)), (6, .int (M 1 k1)), (0, .ref 0), (1, .int l1), (3, .int l3)] dX9_comesTo_180 6 rfl rfl (by decide) rfl ?_
        refine z_goto 6 dX9_comesTo_183 (by decide) ?_
        exact zW.sub [4, 5, 6, 1, 0] rfl h
      · have h := h.2 c3
        refine z_iload dX9_comesTo_74 0 rfl ?_
        refine z_goto 86 dX9_comesTo_76 (by decide) ?_
        obtain ⟨k3, ek3, uk3, h⟩ := h
        refine z_iast2 (k0 := k3) shM_13 (by decide) ek3 uk3 dX9_comesTo_86 ?_
        refine z_iinc (x := l4) (v := (l4 + 1)) [(4, .int (l4 + 1)), (7, .int (M 1 k2)), (6, .int (M 1 k1)), (0, .ref 0), (1, .int l1), (3, .int l3), (5, .int l5)] dX9_comesTo_87 5 rfl rfl (by decide) rfl ?_
        refine z_goto 180 dX9_comesTo_90 (by decide) ?_
        refine z_iinc (x := l5) (v := (l5 + 1)) [(5, .int (l5 + 1)), (4, .int (l4 + 1)), (7, .int (M 1 k2)), (6, .int (M 1 k1)), (0, .ref 0), (1, .int l1), (3, .int l3)] dX9_comesTo_180 6 rfl rfl (by decide) rfl ?_
        refine z_goto 6 dX9_comesTo_183 (by decide) ?_
        exact zW.sub [4, 5, 6, 1, 0] rfl h
theorem dX9_isSo_0 : decode cX9_isSo 0 = .ok (.aload_n 0, 1) := by decide +kernel
theorem dX9_isSo_1 : decode cX9_isSo 1 = .ok (.getfield 7, 3) := by decide +kernel
theorem dX9_isSo_4 : decode cX9_isSo 4 = .ok (.sipush 1348, 3) := by decide +kernel
theorem dX9_isSo_7 : decode cX9_isSo 7 = .ok (.iload_n 1, 1) := by decide +kernel
theorem dX9_isSo_8 : decode cX9_isSo 8 = .ok (.iadd, 1) := by decide +kernel
theorem dX9_isSo_9 : decode cX9_isSo 9 = .ok (.iaload, 1) := by decide +kernel
theorem dX9_isSo_10 : decode cX9_isSo 10 = .ok (.aload_n 0, 1) := by decide +kernel
theorem dX9_isSo_11 : decode cX9_isSo 11 = .ok (.getfield 7, 3) := by decide +kernel
theorem dX9_isSo_14 : decode cX9_isSo 14 = .ok (.sipush 1332, 3) := by decide +kernel
theorem dX9_isSo_17 : decode cX9_isSo 17 = .ok (.iload_n 1, 1) := by decide +kernel
theorem dX9_isSo_18 : decode cX9_isSo 18 = .ok (.iadd, 1) := by decide +kernel
theorem dX9_isSo_19 : decode cX9_isSo 19 = .ok (.iaload, 1) := by decide +kernel
theorem dX9_isSo_20 : decode cX9_isSo 20 = .ok (.if_icmp .eq 32, 3) := by decide +kernel
theorem dX9_isSo_23 : decode cX9_isSo 23 = .ok (.aload_n 0, 1) := by decide +kernel
theorem dX9_isSo_24 : decode cX9_isSo 24 = .ok (.iconst 0, 1) := by decide +kernel
theorem dX9_isSo_25 : decode cX9_isSo 25 = .ok (.aload_n 0, 1) := by decide +kernel
theorem dX9_isSo_26 : decode cX9_isSo 26 = .ok (.getfield 7, 3) := by decide +kernel
theorem dX9_isSo_29 : decode cX9_isSo 29 = .ok (.sipush 1332, 3) := by decide +kernel
theorem dX9_isSo_32 : decode cX9_isSo 32 = .ok (.iload_n 1, 1) := by decide +kernel
theorem dX9_isSo_33 : decode cX9_isSo 33 = .ok (.iadd, 1) := by decide +kernel
theorem dX9_isSo_34 : decode cX9_isSo 34 = .ok (.iaload, 1) := by decide +kernel
theorem dX9_isSo_35 : decode cX9_isSo 35 = .ok (.aload_n 0, 1) := by decide +kernel
theorem dX9_isSo_36 : decode cX9_isSo 36 = .ok (.getfield 7, 3) := by decide +kernel
theorem dX9_isSo_39 : decode cX9_isSo 39 = .ok (.sipush 1348, 3) := by decide +kernel
theorem dX9_isSo_42 : decode cX9_isSo 42 = .ok (.iload_n 1, 1) := by decide +kernel
theorem dX9_isSo_43 : decode cX9_isSo 43 = .ok (.iadd, 1) := by decide +kernel
theorem dX9_isSo_44 : decode cX9_isSo 44 = .ok (.iaload, 1) := by decide +kernel
theorem dX9_isSo_45 : decode cX9_isSo 45 = .ok (.invokevirtual 334, 3) := by decide +kernel
theorem dX9_isSo_48 : decode cX9_isSo 48 = .ok (.iconst 1, 1) := by decide +kernel
theorem dX9_isSo_49 : decode cX9_isSo 49 = .ok (.if_icmp .ne 7, 3) := by decide +kernel
theorem dX9_isSo_52 : decode cX9_isSo 52 = .ok (.iconst 1, 1) := by decide +kernel
theorem dX9_isSo_53 : decode cX9_isSo 53 = .ok (.goto 4, 3) := by decide +kernel
theorem dX9_isSo_56 : decode cX9_isSo 56 = .ok (.iconst 0, 1) := by decide +kernel
theorem dX9_isSo_57 : decode cX9_isSo 57 = .ok (.ireturn, 1) := by decide +kernel
set_option maxRecDepth 20000 in
theorem vX9_isSo {g : zG} {d : Nat} {Q : Bool → zM → Prop} {M : zM} {l1 : Int32} (h : ∃ k1 : Nat, (1348 + l1) = iv k1 ∧ k1 < 2200 ∧ ∃ k2 : Nat, (1332 + l1) = iv k2 ∧ k2 < 2200 ∧ ((M 1 k1) = (M 1 k2) → Q true M) ∧ (¬ (M 1 k1) = (M 1 k2) → zCi shM g d mX9_comesTo [.ref 0, .int 0, .int (M 1 k2), .int (M 1 k1)] M (fun x1 M1 => (¬ x1 = 1 → Q false M1) ∧ (x1 = 1 → Q true M1)))) : zCz shM g (d + 1) mX9_isSo [.ref 0, .int l1] M Q := by
  refine zW.enter (by decide +kernel) (Nat.le_of_ble_eq_true rfl) ?_
  change zW shM g (d + 1) mX9_isSo (zz Q) 0 [(0, .ref 0), (1, .int l1)] [] M
  refine z_aload_n dX9_isSo_0 0 rfl ?_
  refine z_getr shM_0 rfl flX9_7 dX9_isSo_1 ?_
  refine z_sipush (v := 1348) dX9_isSo_4 (by decide) ?_
  refine z_iload_n dX9_isSo_7 1 rfl ?_
  refine z_iadd dX9_isSo_8 ?_
  obtain ⟨k1, ek1, uk1, h⟩ := h
  refine z_iald2 (k0 := k1) shM_1 (by decide) ek1 uk1 dX9_isSo_9 ?_
  refine z_aload_n dX9_isSo_10 0 rfl ?_
  refine z_getr shM_0 rfl flX9_7 dX9_isSo_11 ?_
  refine z_sipush (v := 1332) dX9_isSo_14 (by decide) ?_
  refine z_iload_n dX9_isSo_17 1 rfl ?_
  refine z_iadd dX9_isSo_18 ?_
  obtain ⟨k2, ek2, uk2, h⟩ := h
  refine z_iald2 (k0 := k2) shM_1 (by decide) ek2 uk2 dX9_isSo_19 ?_
  refine z_icmp_eq 52 dX9_isSo_20 (by decide) (fun c1 => ?_) (fun c1 => ?_)
  · have h := h.1 c1
    refine z_iconst (v := 1) dX9_isSo_52 (by decide) ?_
    refine z_goto 57 dX9_isSo_53 (by decide) ?_
    exact z_zret (b := true) rfl rfl dX9_isSo_57 h
  · have h := h.2 c1
    refine z_aload_n dX9_isSo_23 0 rfl ?_
    refine z_iconst (v := 0) dX9_isSo_24 (by decide) ?_
    refine z_aload_n dX9_isSo_25 0 rfl ?_
    refine z_getr shM_0 rfl flX9_7 dX9_isSo_26 ?_
    refine z_sipush (v := 1332) dX9_isSo_29 (by decide) ?_
    refine z_iload_n dX9_isSo_32 1 rfl ?_
    refine z_iadd dX9_isSo_33 ?_
    refine z_iald2 (k0 := k2) shM_1 (by decide) ek2 uk2 dX9_isSo_34 ?_
    refine z_aload_n dX9_isSo_35 0 rfl ?_
    refine z_getr shM_0 rfl flX9_7 dX9_isSo_36 ?_
    refine z_sipush (v := 1348) dX9_isSo_39 (by decide) ?_
    refine z_iload_n dX9_isSo_42 1 rfl ?_
    refine z_iadd dX9_isSo_43 ?_
    refine z_iald2 (k0 := k1) shM_1 (by decide) ek1 uk1 dX9_isSo_44 ?_
    refine z_callV (m2 := mX9_comesTo) (st := []) [.int 0, .int (M 1 k2), .int (M 1 k1)] okX9_comesTo (Or.inl lkX9_334) shM_0 rfl rfl rfl (Nat.le_of_ble_eq_true rfl) dX9_isSo_45 (zgo_i h fun x1 M1 h => ?_)
    refine z_iconst (v := 1) dX9_isSo_48 (by decide) ?_
    refine z_icmp_ne 56 dX9_isSo_49 (by decide) (fun c2 => ?_) (fun c2 => ?_)
    · have h := h.1 c2
      refine z_iconst (v := 0) dX9_isSo_56 (by decide) ?_
      exact z_zret (b := false) rfl rfl dX9_isSo_57 h
    · have h := h.2 c2
      refine z_iconst (v := 1) dX9_isSo_52 (by decide) ?_
      refine z_goto 57 dX9_isSo_53 (by decide) ?_
      exact z_zret (b := true) rfl rfl dX9_isSo_57 h
theorem dX9_says_0 : decode cX9_says 0 = .ok (.iconst 0, 1) := by decide +kernel
theorem dX9_says_1 : decode cX9_says 1 = .ok (.istore_n 3, 1) := by decide +kernel
theorem dX9_says_2 : decode cX9_says 2 = .ok (.iload_n 3, 1) := by decide +kernel
theorem dX9_says_3 : decode cX9_says 3 = .ok (.aload_n 0, 1) := by decide +kernel
theorem dX9_says_4 : decode cX9_says 4 = .ok (.getfield 7, 3) := by decide +kernel
theorem dX9_says_7 : decode cX9_says 7 = .ok (.sipush 156, 3) := by decide +kernel
theorem dX9_says_10 : decode cX9_says 10 = .ok (.iaload, 1) := by decide +kernel
theorem dX9_says_11 : decode cX9_says 11 = .ok (.if_icmp .ge 66, 3) := by decide +kernel
theorem dX9_says_14 : decode cX9_says 14 = .ok (.aload_n 0, 1) := by decide +kernel
theorem dX9_says_15 : decode cX9_says 15 = .ok (.getfield 7, 3) := by decide +kernel
theorem dX9_says_18 : decode cX9_says 18 = .ok (.sipush 1364, 3) := by decide +kernel
theorem dX9_says_21 : decode cX9_says 21 = .ok (.iload_n 3, 1) := by decide +kernel
theorem dX9_says_22 : decode cX9_says 22 = .ok (.iadd, 1) := by decide +kernel
theorem dX9_says_23 : decode cX9_says 23 = .ok (.iaload, 1) := by decide +kernel
theorem dX9_says_24 : decode cX9_says 24 = .ok (.iload_n 1, 1) := by decide +kernel
theorem dX9_says_25 : decode cX9_says 25 = .ok (.if_icmp .ne 46, 3) := by decide +kernel
theorem dX9_says_28 : decode cX9_says 28 = .ok (.aload_n 0, 1) := by decide +kernel
theorem dX9_says_29 : decode cX9_says 29 = .ok (.iload_n 3, 1) := by decide +kernel
theorem dX9_says_30 : decode cX9_says 30 = .ok (.invokevirtual 337, 3) := by decide +kernel
theorem dX9_says_33 : decode cX9_says 33 = .ok (.ifCond .eq 38, 3) := by decide +kernel
theorem dX9_says_36 : decode cX9_says 36 = .ok (.iconst 0, 1) := by decide +kernel
theorem dX9_says_37 : decode cX9_says 37 = .ok (.bipush 9, 2) := by decide +kernel
theorem dX9_says_39 : decode cX9_says 39 = .ok (.aload_n 0, 1) := by decide +kernel
theorem dX9_says_40 : decode cX9_says 40 = .ok (.iconst 0, 1) := by decide +kernel
theorem dX9_says_41 : decode cX9_says 41 = .ok (.aload_n 0, 1) := by decide +kernel
theorem dX9_says_42 : decode cX9_says 42 = .ok (.getfield 7, 3) := by decide +kernel
theorem dX9_says_45 : decode cX9_says 45 = .ok (.sipush 1316, 3) := by decide +kernel
theorem dX9_says_48 : decode cX9_says 48 = .ok (.iload_n 3, 1) := by decide +kernel
theorem dX9_says_49 : decode cX9_says 49 = .ok (.iadd, 1) := by decide +kernel
theorem dX9_says_50 : decode cX9_says 50 = .ok (.iaload, 1) := by decide +kernel
theorem dX9_says_51 : decode cX9_says 51 = .ok (.aload_n 0, 1) := by decide +kernel
theorem dX9_says_52 : decode cX9_says 52 = .ok (.getfield 7, 3) := by decide +kernel
theorem dX9_says_55 : decode cX9_says 55 = .ok (.sipush 1332, 3) := by decide +kernel
theorem dX9_says_58 : decode cX9_says 58 = .ok (.iload_n 3, 1) := by decide +kernel
theorem dX9_says_59 : decode cX9_says 59 = .ok (.iadd, 1) := by decide +kernel
theorem dX9_says_60 : decode cX9_says 60 = .ok (.iaload, 1) := by decide +kernel
theorem dX9_says_61 : decode cX9_says 61 = .ok (.invokevirtual 334, 3) := by decide +kernel
theorem dX9_says_64 : decode cX9_says 64 = .ok (.invokestatic 340, 3) := by decide +kernel
theorem dX9_says_67 : decode cX9_says 67 = .ok (.invokestatic 344, 3) := by decide +kernel
theorem dX9_says_70 : decode cX9_says 70 = .ok (.ireturn, 1) := by decide +kernel
theorem dX9_says_71 : decode cX9_says 71 = .ok (.iinc 3 1, 3) := by decide +kernel
theorem dX9_says_74 : decode cX9_says 74 = .ok (.goto (-72), 3) := by decide +kernel
theorem dX9_says_77 : decode cX9_says 77 = .ok (.iload_n 2, 1) := by decide +kernel
theorem dX9_says_78 : decode cX9_says 78 = .ok (.ireturn, 1) := by decide +kernel
set_option maxRecDepth 20000 in
theorem vX9_says {g : zG} {d : Nat} {Q : Int32 → zM → Prop} {M : zM} {l1 : Int32} {l2 : Int32} (h : zW shM g (d + 1) mX9_says (zi Q) 2 [(0, .ref 0), (1, .int l1), (2, .int l2), (3, .int 0)] [] M) : zCi shM g (d + 1) mX9_says [.ref 0, .int l1, .int l2] M Q := by
  refine zW.enter (by decide +kernel) (Nat.le_of_ble_eq_true rfl) ?_
  change zW shM g (d + 1) mX9_says (zi Q) 0 [(0, .ref 0), (1, .int l1), (2, .int l2)] [] M
  refine z_iconst (v := 0) dX9_says_0 (by decide) ?_
  refine z_istore_n [(3, .int 0), (0, .ref 0), (1, .int l1), (2, .int l2)] dX9_says_1 (by decide) rfl ?_
  exact zW.sub [1, 2, 3, 0] rfl h
set_option maxRecDepth 20000 in
theorem vX9_says_2 {g : zG} {d : Nat} {Q : Int32 → zM → Prop} {M : zM} {l1 : Int32} {l2 : Int32} {l3 : Int32} (h : ((M 1 156) ≤ l3 → Q l2 M) ∧ (¬ (M 1 156) ≤ l3 → ∃ k1 : Nat, (1364 + l3) = iv k1 ∧ k1 < 2200 ∧ (¬ (M 1 k1) = l1 → zW shM g (d + 1) mX9_says (zi Q) 2 [(0, .ref 0), (1, .int l1), (2, .int l2), (3, .int (l3 + 1))] [] M) ∧ ((M 1 k1) = l1 → zCz shM g d mX9_isSo [.ref 0, .int l3] M (fun b1 M1 => (b1 = false → zW shM g (d + 1) mX9_says (zi Q) 2 [(0, .ref 0), (1, .int l1), (2, .int l2), (3, .int (l3 + 1))] [] M1) ∧ (b1 = true → ∃ k2 : Nat, (1316 + l3) = iv k2 ∧ k2 < 2200 ∧ ∃ k3 : Nat, (1332 + l3) = iv k3 ∧ k3 < 2200 ∧ zCi shM g d mX9_comesTo [.ref 0, .int 0, .int (M1 1 k2), .int (M1 1 k3)] M1 (fun x1 M2 => zCi shM g d mX9_lesser [.int 9, .int x1] M2 (fun x2 M3 => zCi shM g d mX9_greater [.int 0, .int x2] M3 (fun x3 M4 => Q x3 M4)))))))) : zW shM g (d + 1) mX9_says (zi Q) 2 [(0, .ref 0), (1, .int l1), (2, .int l2), (3, .int l3)] [] M := by
  refine z_iload_n dX9_says_2 3 rfl ?_
  refine z_aload_n dX9_says_3 0 rfl ?_
  refine z_getr shM_0 rfl flX9_7 dX9_says_4 ?_
  refine z_sipush (v := 156) dX9_says_7 (by decide) ?_
  refine z_iald2 (k0 := 156) shM_1 (by decide) (by decide) (by decide) dX9_says_10 ?_
  refine z_icmp_ge 77 dX9_says_11 (by decide) (fun c1 => ?_) (fun c1 => ?_)
  · have h := h.1 c1
    refine z_iload_n dX9_says_77 2 rfl ?_
    exact z_iret (st := []) rfl rfl dX9_says_78 ⟨_, rfl, h⟩
  · have h := h.2 c1
    refine z_aload_n dX9_says_14 0 rfl ?_
    refine z_getr shM_0 rfl flX9_7 dX9_says_15 ?_
    refine z_sipush (v := 1364) dX9_says_18 (by decide) ?_
    refine z_iload_n dX9_says_21 3 rfl ?_
    refine z_iadd dX9_says_22 ?_
    obtain ⟨k1, ek1, uk1, h⟩ := h
    refine z_iald2 (k0 := k1) shM_1 (by decide) ek1 uk1 dX9_says_23 ?_
    refine z_iload_n dX9_says_24 1 rfl ?_
    refine z_icmp_ne 71 dX9_says_25 (by decide) (fun c2 => ?_) (fun c2 => ?_)
    · have h := h.1 c2
      refine z_iinc (x := l3) (v := (l3 + 1)) [(3, .int (l3 + 1)), (0, .ref 0), (1, .int l1), (2, .int l2)] dX9_says_71 3 rfl rfl (by decide) rfl ?_
      refine z_goto 2 dX9_says_74 (by decide) ?_
      exact zW.sub [1, 2, 3, 0] rfl h
    · have h := h.2 c2
      refine z_aload_n dX9_says_28 0 rfl ?_
      refine z_iload_n dX9_says_29 3 rfl ?_
      refine z_callV (m2 := mX9_isSo) (st := []) [.int l3] okX9_isSo (Or.inl lkX9_337) shM_0 rfl rfl rfl (Nat.le_of_ble_eq_true rfl) dX9_says_30 (zgo_z h fun b1 M1 h => ?_)
      refine z_ifb_eq 71 dX9_says_33 (by decide) (fun c3 => ?_) (fun c3 => ?_)
      · have h := h.1 c3
        refine z_iinc (x := l3) (v := (l3 + 1)) [(3, .int (l3 + 1)), (0, .ref 0), (1, .int l1), (2, .int l2)] dX9_says_71 3 rfl rfl (by decide) rfl ?_
        refine z_goto 2 dX9_says_74 (by decide) ?_
        exact zW.sub [1, 2, 3, 0] rfl h
      · have h := h.2 c3
        refine z_iconst (v := 0) dX9_says_36 (by decide) ?_
        refine z_bipush (v := 9) dX9_says_37 (by decide) ?_
        refine z_aload_n dX9_says_39 0 rfl ?_
        refine z_iconst (v := 0) dX9_says_40 (by decide) ?_
        refine z_aload_n dX9_says_41 0 rfl ?_
        refine z_getr shM_0 rfl flX9_7 dX9_says_42 ?_
        refine z_sipush (v := 1316) dX9_says_45 (by decide) ?_
        refine z_iload_n dX9_says_48 3 rfl ?_
        refine z_iadd dX9_says_49 ?_
        obtain ⟨k2, ek2, uk2, h⟩ := h
        refine z_iald2 (k0 := k2) shM_1 (by decide) ek2 uk2 dX9_says_50 ?_
        refine z_aload_n dX9_says_51 0 rfl ?_
        refine z_getr shM_0 rfl flX9_7 dX9_says_52 ?_
        refine z_sipush (v := 1332) dX9_says_55 (by decide) ?_
        refine z_iload_n dX9_says_58 3 rfl ?_
        refine z_iadd dX9_says_59 ?_
        obtain ⟨k3, ek3, uk3, h⟩ := h
        refine z_iald2 (k0 := k3) shM_1 (by decide) ek3 uk3 dX9_says_60 ?_
        refine z_callV (m2 := mX9_comesTo) (st := [.int 9, .int 0]) [.int 0, .int (M1 1 k2), .int (M1 1 k3)] okX9_comesTo (Or.inl lkX9_334) shM_0 rfl rfl rfl (Nat.le_of_ble_eq_true rfl) dX9_says_61 (zgo_i h fun x1 M2 h => ?_)
        refine z_callS (m2 := mX9_lesser) (st := [.int 0]) [.int 9, .int x1] okX9_lesser (Or.inl lkX9_340) rfl rfl (Nat.le_of_ble_eq_true rfl) dX9_says_64 (zgo_i h fun x2 M3 h => ?_)
        refine z_callS (m2 := mX9_greater) (st := []) [.int 0, .int x2] okX9_greater (Or.inl lkX9_344) rfl rfl (Nat.le_of_ble_eq_true rfl) dX9_says_67 (zgo_i h fun x3 M4 h => ?_)
        exact z_iret (st := []) rfl rfl dX9_says_70 ⟨_, rfl, h⟩
theorem dX9_isSeen_0 : decode cX9_isSeen 0 = .ok (.aload_n 0, 1) := by decide +kernel
theorem dX9_isSeen_1 : decode cX9_isSeen 1 = .ok (.getfield 7, 3) := by decide +kernel
theorem dX9_isSeen_4 : decode cX9_isSeen 4 = .ok (.bipush 21, 2) := by decide +kernel
theorem dX9_isSeen_6 : decode cX9_isSeen 6 = .ok (.iload_n 1, 1) := by decide +kernel
theorem dX9_isSeen_7 : decode cX9_isSeen 7 = .ok (.iadd, 1) := by decide +kernel
theorem dX9_isSeen_8 : decode cX9_isSeen 8 = .ok (.iaload, 1) := by decide +kernel
theorem dX9_isSeen_9 : decode cX9_isSeen 9 = .ok (.aload_n 0, 1) := by decide +kernel
theorem dX9_isSeen_10 : decode cX9_isSeen 10 = .ok (.getfield 7, 3) := by decide +kernel
theorem dX9_isSeen_13 : decode cX9_isSeen 13 = .ok (.sipush 152, 3) := by decide +kernel
theorem dX9_isSeen_16 : decode cX9_isSeen 16 = .ok (.iaload, 1) := by decide +kernel
theorem dX9_isSeen_17 : decode cX9_isSeen 17 = .ok (.if_icmp .lt 7, 3) := by decide +kernel
theorem dX9_isSeen_20 : decode cX9_isSeen 20 = .ok (.iconst 1, 1) := by decide +kernel
theorem dX9_isSeen_21 : decode cX9_isSeen 21 = .ok (.goto 4, 3) := by decide +kernel
theorem dX9_isSeen_24 : decode cX9_isSeen 24 = .ok (.iconst 0, 1) := by decide +kernel
theorem dX9_isSeen_25 : decode cX9_isSeen 25 = .ok (.ireturn, 1) := by decide +kernel
set_option maxRecDepth 20000 in
theorem vX9_isSeen {g : zG} {d : Nat} {Q : Bool → zM → Prop} {M : zM} {l1 : Int32} (h : ∃ k1 : Nat, (21 + l1) = iv k1 ∧ k1 < 2200 ∧ ((M 1 k1) < (M 1 152) → Q false M) ∧ (¬ (M 1 k1) < (M 1 152) → Q true M)) : zCz shM g d mX9_isSeen [.ref 0, .int l1] M Q := by
  refine zW.enter (by decide +kernel) (Nat.le_of_ble_eq_true rfl) ?_
  change zW shM g d mX9_isSeen (zz Q) 0 [(0, .ref 0), (1, .int l1)] [] M
  refine z_aload_n dX9_isSeen_0 0 rfl ?_
  refine z_getr shM_0 rfl flX9_7 dX9_isSeen_1 ?_
  refine z_bipush (v := 21) dX9_isSeen_4 (by decide) ?_
  refine z_iload_n dX9_isSeen_6 1 rfl ?_
  refine z_iadd dX9_isSeen_7 ?_
  obtain ⟨k1, ek1, uk1, h⟩ := h
  refine z_iald2 (k0 := k1) shM_1 (by decide) ek1 uk1 dX9_isSeen_8 ?_
  refine z_aload_n dX9_isSeen_9 0 rfl ?_
  refine z_getr shM_0 rfl flX9_7 dX9_isSeen_10 ?_
  refine z_sipush (v := 152) dX9_isSeen_13 (by decide) ?_
  refine z_iald2 (k0 := 152) shM_1 (by decide) (by decide) (by decide) dX9_isSeen_16 ?_
  refine z_icmp_lt 24 dX9_isSeen_17 (by decide) (fun c1 => ?_) (fun c1 => ?_)
  · have h := h.1 c1
    refine z_iconst (v := 0) dX9_isSeen_24 (by decide) ?_
    exact z_zret (b := false) rfl rfl dX9_isSeen_25 h
  · have h := h.2 c1
    refine z_iconst (v := 1) dX9_isSeen_20 (by decide) ?_
    refine z_goto 25 dX9_isSeen_21 (by decide) ?_
    exact z_zret (b := true) rfl rfl dX9_isSeen_25 h
theorem dX9_seenAt_0 : decode cX9_seenAt 0 = .ok (.aload_n 0, 1) := by decide +kernel
theorem dX9_seenAt_1 : decode cX9_seenAt 1 = .ok (.iload_n 1, 1) := by decide +kernel
theorem dX9_seenAt_2 : decode cX9_seenAt 2 = .ok (.iload_n 2, 1) := by decide +kernel
theorem dX9_seenAt_3 : decode cX9_seenAt 3 = .ok (.invokevirtual 101, 3) := by decide +kernel
theorem dX9_seenAt_6 : decode cX9_seenAt 6 = .ok (.ifCond .eq 20, 3) := by decide +kernel
theorem dX9_seenAt_9 : decode cX9_seenAt 9 = .ok (.aload_n 0, 1) := by decide +kernel
theorem dX9_seenAt_10 : decode cX9_seenAt 10 = .ok (.bipush 8, 2) := by decide +kernel
theorem dX9_seenAt_12 : decode cX9_seenAt 12 = .ok (.iload_n 2, 1) := by decide +kernel
theorem dX9_seenAt_13 : decode cX9_seenAt 13 = .ok (.imul, 1) := by decide +kernel
theorem dX9_seenAt_14 : decode cX9_seenAt 14 = .ok (.iload_n 1, 1) := by decide +kernel
theorem dX9_seenAt_15 : decode cX9_seenAt 15 = .ok (.iadd, 1) := by decide +kernel
theorem dX9_seenAt_16 : decode cX9_seenAt 16 = .ok (.invokevirtual 347, 3) := by decide +kernel
theorem dX9_seenAt_19 : decode cX9_seenAt 19 = .ok (.ifCond .eq 7, 3) := by decide +kernel
theorem dX9_seenAt_22 : decode cX9_seenAt 22 = .ok (.iconst 1, 1) := by decide +kernel
theorem dX9_seenAt_23 : decode cX9_seenAt 23 = .ok (.goto 4, 3) := by decide +kernel
theorem dX9_seenAt_26 : decode cX9_seenAt 26 = .ok (.iconst 0, 1) := by decide +kernel
theorem dX9_seenAt_27 : decode cX9_seenAt 27 = .ok (.ireturn, 1) := by decide +kernel
set_option maxRecDepth 20000 in
theorem vX9_seenAt {g : zG} {d : Nat} {Q : Int32 → zM → Prop} {M : zM} {l1 : Int32} {l2 : Int32} (h : zCz shM g d mX9_isAt [.ref 0, .int l1, .int l2] M (fun b1 M1 => (b1 = false → Q 0 M1) ∧ (b1 = true → zCz shM g d mX9_isSeen [.ref 0, .int ((8 * l2) + l1)] M1 (fun b2 M2 => (b2 = false → Q 0 M2) ∧ (b2 = true → Q 1 M2))))) : zCi shM g (d + 1) mX9_seenAt [.ref 0, .int l1, .int l2] M Q := by
  refine zW.enter (by decide +kernel) (Nat.le_of_ble_eq_true rfl) ?_
  change zW shM g (d + 1) mX9_seenAt (zi Q) 0 [(0, .ref 0), (1, .int l1), (2, .int l2)] [] M
  refine z_aload_n dX9_seenAt_0 0 rfl ?_
  refine z_iload_n dX9_seenAt_1 1 rfl ?_
  refine z_iload_n dX9_seenAt_2 2 rfl ?_
  refine z_callV (m2 := mX9_isAt) (st := []) [.int l1, .int l2] okX9_isAt (Or.inl lkX9_101) shM_0 rfl rfl rfl (Nat.le_of_ble_eq_true rfl) dX9_seenAt_3 (zgo_z h fun b1 M1 h => ?_)
  refine z_ifb_eq 26 dX9_seenAt_6 (by decide) (fun c1 => ?_) (fun c1 => ?_)
  · have h := h.1 c1
    refine z_iconst (v := 0) dX9_seenAt_26 (by decide) ?_
    exact z_iret (st := []) rfl rfl dX9_seenAt_27 ⟨_, rfl, h⟩
  · have h := h.2 c1
    refine z_aload_n dX9_seenAt_9 0 rfl ?_
    refine z_bipush (v := 8) dX9_seenAt_10 (by decide) ?_
    refine z_iload_n dX9_seenAt_12 2 rfl ?_
    refine z_imul dX9_seenAt_13 ?_
    refine z_iload_n dX9_seenAt_14 1 rfl ?_
    refine z_iadd dX9_seenAt_15 ?_
    refine z_callV (m2 := mX9_isSeen) (st := []) [.int ((8 * l2) + l1)] okX9_isSeen (Or.inl lkX9_347) shM_0 rfl rfl rfl (Nat.le_of_ble_eq_true rfl) dX9_seenAt_16 (zgo_z h fun b2 M2 h => ?_)
    refine z_ifb_eq 26 dX9_seenAt_19 (by decide) (fun c2 => ?_) (fun c2 => ?_)
    · have h := h.1 c2
      refine z_iconst (v := 0) dX9_seenAt_26 (by decide) ?_
      exact z_iret (st := []) rfl rfl dX9_seenAt_27 ⟨_, rfl, h⟩
    · have h := h.2 c2
      refine z_iconst (v := 1) dX9_seenAt_22 (by decide) ?_
      refine z_goto 27 dX9_seenAt_23 (by decide) ?_
      exact z_iret (st := []) rfl rfl dX9_seenAt_27 ⟨_, rfl, h⟩
theorem dX9_aroundOf_0 : decode cX9_aroundOf 0 = .ok (.iload_n 1, 1) := by decide +kernel
theorem dX9_aroundOf_1 : decode cX9_aroundOf 1 = .ok (.bipush 8, 2) := by decide +kernel
theorem dX9_aroundOf_3 : decode cX9_aroundOf 3 = .ok (.irem, 1) := by decide +kernel
theorem dX9_aroundOf_4 : decode cX9_aroundOf 4 = .ok (.istore_n 2, 1) := by decide +kernel
theorem dX9_aroundOf_5 : decode cX9_aroundOf 5 = .ok (.iload_n 1, 1) := by decide +kernel
theorem dX9_aroundOf_6 : decode cX9_aroundOf 6 = .ok (.bipush 8, 2) := by decide +kernel
theorem dX9_aroundOf_8 : decode cX9_aroundOf 8 = .ok (.idiv, 1) := by decide +kernel
theorem dX9_aroundOf_9 : decode cX9_aroundOf 9 = .ok (.istore_n 3, 1) := by decide +kernel
theorem dX9_aroundOf_10 : decode cX9_aroundOf 10 = .ok (.aload_n 0, 1) := by decide +kernel
theorem dX9_aroundOf_11 : decode cX9_aroundOf 11 = .ok (.iload_n 2, 1) := by decide +kernel
theorem dX9_aroundOf_12 : decode cX9_aroundOf 12 = .ok (.iload_n 3, 1) := by decide +kernel
theorem dX9_aroundOf_13 : decode cX9_aroundOf 13 = .ok (.iconst 1, 1) := by decide +kernel
theorem dX9_aroundOf_14 : decode cX9_aroundOf 14 = .ok (.isub, 1) := by decide +kernel
theorem dX9_aroundOf_15 : decode cX9_aroundOf 15 = .ok (.invokevirtual 350, 3) := by decide +kernel
theorem dX9_aroundOf_18 : decode cX9_aroundOf 18 = .ok (.aload_n 0, 1) := by decide +kernel
theorem dX9_aroundOf_19 : decode cX9_aroundOf 19 = .ok (.iload_n 2, 1) := by decide +kernel
theorem dX9_aroundOf_20 : decode cX9_aroundOf 20 = .ok (.iconst 1, 1) := by decide +kernel
theorem dX9_aroundOf_21 : decode cX9_aroundOf 21 = .ok (.iadd, 1) := by decide +kernel
theorem dX9_aroundOf_22 : decode cX9_aroundOf 22 = .ok (.iload_n 3, 1) := by decide +kernel
theorem dX9_aroundOf_23 : decode cX9_aroundOf 23 = .ok (.invokevirtual 350, 3) := by decide +kernel
theorem dX9_aroundOf_26 : decode cX9_aroundOf 26 = .ok (.iadd, 1) := by decide +kernel
theorem dX9_aroundOf_27 : decode cX9_aroundOf 27 = .ok (.aload_n 0, 1) := by decide +kernel
theorem dX9_aroundOf_28 : decode cX9_aroundOf 28 = .ok (.iload_n 2, 1) := by decide +kernel
theorem dX9_aroundOf_29 : decode cX9_aroundOf 29 = .ok (.iload_n 3, 1) := by decide +kernel
theorem dX9_aroundOf_30 : decode cX9_aroundOf 30 = .ok (.iconst 1, 1) := by decide +kernel
theorem dX9_aroundOf_31 : decode cX9_aroundOf 31 = .ok (.iadd, 1) := by decide +kernel
theorem dX9_aroundOf_32 : decode cX9_aroundOf 32 = .ok (.invokevirtual 350, 3) := by decide +kernel
theorem dX9_aroundOf_35 : decode cX9_aroundOf 35 = .ok (.iadd, 1) := by decide +kernel
theorem dX9_aroundOf_36 : decode cX9_aroundOf 36 = .ok (.aload_n 0, 1) := by decide +kernel
theorem dX9_aroundOf_37 : decode cX9_aroundOf 37 = .ok (.iload_n 2, 1) := by decide +kernel
theorem dX9_aroundOf_38 : decode cX9_aroundOf 38 = .ok (.iconst 1, 1) := by decide +kernel
theorem dX9_aroundOf_39 : decode cX9_aroundOf 39 = .ok (.isub, 1) := by decide +kernel
theorem dX9_aroundOf_40 : decode cX9_aroundOf 40 = .ok (.iload_n 3, 1) := by decide +kernel
theorem dX9_aroundOf_41 : decode cX9_aroundOf 41 = .ok (.invokevirtual 350, 3) := by decide +kernel
theorem dX9_aroundOf_44 : decode cX9_aroundOf 44 = .ok (.iadd, 1) := by decide +kernel
theorem dX9_aroundOf_45 : decode cX9_aroundOf 45 = .ok (.ireturn, 1) := by decide +kernel
set_option maxRecDepth 20000 in
theorem vX9_aroundOf {g : zG} {d : Nat} {Q : Int32 → zM → Prop} {M : zM} {l1 : Int32} (h : zCi shM g d mX9_seenAt [.ref 0, .int (l1 - l1 / 8 * 8), .int ((l1 / 8) - 1)] M (fun x1 M1 => zCi shM g d mX9_seenAt [.ref 0, .int ((l1 - l1 / 8 * 8) + 1), .int (l1 / 8)] M1 (fun x2 M2 => zCi shM g d mX9_seenAt [.ref 0, .int (l1 - l1 / 8 * 8), .int ((l1 / 8) + 1)] M2 (fun x3 M3 => zCi shM g d mX9_seenAt [.ref 0, .int ((l1 - l1 / 8 * 8) - 1), .int (l1 / 8)] M3 (fun x4 M4 => Q (((x1 + x2) + x3) + x4) M4))))) : zCi shM g (d + 1) mX9_aroundOf [.ref 0, .int l1] M Q := by
  refine zW.enter (by decide +kernel) (Nat.le_of_ble_eq_true rfl) ?_
  change zW shM g (d + 1) mX9_aroundOf (zi Q) 0 [(0, .ref 0), (1, .int l1)] [] M
  refine z_iload_n dX9_aroundOf_0 1 rfl ?_
  refine z_bipush (v := 8) dX9_aroundOf_1 (by decide) ?_
  refine z_irem dX9_aroundOf_3 (by decide) ?_
  refine z_istore_n [(2, .int (l1 - l1 / 8 * 8)), (0, .ref 0), (1, .int l1)] dX9_aroundOf_4 (by decide) rfl ?_
  refine z_iload_n dX9_aroundOf_5 2 rfl ?_
  refine z_bipush (v := 8) dX9_aroundOf_6 (by decide) ?_
  refine z_idiv dX9_aroundOf_8 (by decide) ?_
  refine z_istore_n [(3, .int (l1 / 8)), (2, .int (l1 - l1 / 8 * 8)), (0, .ref 0), (1, .int l1)] dX9_aroundOf_9 (by decide) rfl ?_
  refine z_aload_n dX9_aroundOf_10 2 rfl ?_
  refine z_iload_n dX9_aroundOf_11 1 rfl ?_
  refine z_iload_n dX9_aroundOf_12 0 rfl ?_
  refine z_iconst (v := 1) dX9_aroundOf_13 (by decide) ?_
  refine z_isub dX9_aroundOf_14 ?_
  refine z_callV (m2 := mX9_seenAt) (st := []) [.int (l1 - l1 / 8 * 8), .int ((l1 / 8) - 1)] okX9_seenAt (Or.inl lkX9_350) shM_0 rfl rfl rfl (Nat.le_of_ble_eq_true rfl) dX9_aroundOf_15 (zgo_i h fun x1 M1 h => ?_)
  refine z_aload_n dX9_aroundOf_18 2 rfl ?_
  refine z_iload_n dX9_aroundOf_19 1 rfl ?_
  refine z_iconst (v := 1) dX9_aroundOf_20 (by decide) ?_
  refine z_iadd dX9_aroundOf_21 ?_
  refine z_iload_n dX9_aroundOf_22 0 rfl ?_
  refine z_callV (m2 := mX9_seenAt) (st := [.int x1]) [.int ((l1 - l1 / 8 * 8) + 1), .int (l1 / 8)] okX9_seenAt (Or.inl lkX9_350) shM_0 rfl rfl rfl (Nat.le_of_ble_eq_true rfl) dX9_aroundOf_23 (zgo_i h fun x2 M2 h => ?_)
  refine z_iadd dX9_aroundOf_26 ?_
  refine z_aload_n dX9_aroundOf_27 2 rfl ?_
  refine z_iload_n dX9_aroundOf_28 1 rfl ?_
  refine z_iload_n dX9_aroundOf_29 0 rfl ?_
  refine z_iconst (v := 1) dX9_aroundOf_30 (by decide) ?_
  refine z_iadd dX9_aroundOf_31 ?_
  refine z_callV (m2 := mX9_seenAt) (st := [.int (x1 + x2)]) [.int (l1 - l1 / 8 * 8), .int ((l1 / 8) + 1)] okX9_seenAt (Or.inl lkX9_350) shM_0 rfl rfl rfl (Nat.le_of_ble_eq_true rfl) dX9_aroundOf_32 (zgo_i h fun x3 M3 h => ?_)
  refine z_iadd dX9_aroundOf_35 ?_
  refine z_aload_n dX9_aroundOf_36 2 rfl ?_
  refine z_iload_n dX9_aroundOf_37 1 rfl ?_
  refine z_iconst (v := 1) dX9_aroundOf_38 (by decide) ?_
  refine z_isub dX9_aroundOf_39 ?_
  refine z_iload_n dX9_aroundOf_40 0 rfl ?_
  refine z_callV (m2 := mX9_seenAt) (st := [.int ((x1 + x2) + x3)]) [.int ((l1 - l1 / 8 * 8) - 1), .int (l1 / 8)] okX9_seenAt (Or.inl lkX9_350) shM_0 rfl rfl rfl (Nat.le_of_ble_eq_true rfl) dX9_aroundOf_41 (zgo_i h fun x4 M4 h => ?_)
  refine z_iadd dX9_aroundOf_44 ?_
  exact z_iret (st := []) rfl rfl dX9_aroundOf_45 ⟨_, rfl, h⟩
theorem dX9_lays_0 : decode cX9_lays 0 = .ok (.iload_n 1, 1) := by decide +kernel
theorem dX9_lays_1 : decode cX9_lays 1 = .ok (.bipush 8, 2) := by decide +kernel
theorem dX9_lays_3 : decode cX9_lays 3 = .ok (.irem, 1) := by decide +kernel
theorem dX9_lays_4 : decode cX9_lays 4 = .ok (.istore_n 2, 1) := by decide +kernel
theorem dX9_lays_5 : decode cX9_lays 5 = .ok (.iload_n 1, 1) := by decide +kernel
theorem dX9_lays_6 : decode cX9_lays 6 = .ok (.bipush 8, 2) := by decide +kernel
theorem dX9_lays_8 : decode cX9_lays 8 = .ok (.idiv, 1) := by decide +kernel
theorem dX9_lays_9 : decode cX9_lays 9 = .ok (.istore_n 3, 1) := by decide +kernel
theorem dX9_lays_10 : decode cX9_lays 10 = .ok (.aload_n 0, 1) := by decide +kernel
theorem dX9_lays_11 : decode cX9_lays 11 = .ok (.getfield 49, 3) := by decide +kernel
theorem dX9_lays_14 : decode cX9_lays 14 = .ok (.iconst 1, 1) := by decide +kernel
theorem dX9_lays_15 : decode cX9_lays 15 = .ok (.aload_n 0, 1) := by decide +kernel
theorem dX9_lays_16 : decode cX9_lays 16 = .ok (.getfield 7, 3) := by decide +kernel
theorem dX9_lays_19 : decode cX9_lays 19 = .ok (.bipush 21, 2) := by decide +kernel
theorem dX9_lays_21 : decode cX9_lays 21 = .ok (.iload_n 1, 1) := by decide +kernel
theorem dX9_lays_22 : decode cX9_lays 22 = .ok (.iadd, 1) := by decide +kernel
theorem dX9_lays_23 : decode cX9_lays 23 = .ok (.iaload, 1) := by decide +kernel
theorem dX9_lays_24 : decode cX9_lays 24 = .ok (.iastore, 1) := by decide +kernel
theorem dX9_lays_25 : decode cX9_lays 25 = .ok (.aload_n 0, 1) := by decide +kernel
theorem dX9_lays_26 : decode cX9_lays 26 = .ok (.getfield 49, 3) := by decide +kernel
theorem dX9_lays_29 : decode cX9_lays 29 = .ok (.iconst 2, 1) := by decide +kernel
theorem dX9_lays_30 : decode cX9_lays 30 = .ok (.iload_n 2, 1) := by decide +kernel
theorem dX9_lays_31 : decode cX9_lays 31 = .ok (.ifCond .eq 35, 3) := by decide +kernel
theorem dX9_lays_34 : decode cX9_lays 34 = .ok (.iload_n 3, 1) := by decide +kernel
theorem dX9_lays_35 : decode cX9_lays 35 = .ok (.ifCond .eq 31, 3) := by decide +kernel
theorem dX9_lays_38 : decode cX9_lays 38 = .ok (.iload_n 2, 1) := by decide +kernel
theorem dX9_lays_39 : decode cX9_lays 39 = .ok (.aload_n 0, 1) := by decide +kernel
theorem dX9_lays_40 : decode cX9_lays 40 = .ok (.getfield 7, 3) := by decide +kernel
theorem dX9_lays_43 : decode cX9_lays 43 = .ok (.sipush 150, 3) := by decide +kernel
theorem dX9_lays_46 : decode cX9_lays 46 = .ok (.iaload, 1) := by decide +kernel
theorem dX9_lays_47 : decode cX9_lays 47 = .ok (.iconst 1, 1) := by decide +kernel
theorem dX9_lays_48 : decode cX9_lays 48 = .ok (.isub, 1) := by decide +kernel
theorem dX9_lays_49 : decode cX9_lays 49 = .ok (.if_icmp .eq 17, 3) := by decide +kernel
theorem dX9_lays_52 : decode cX9_lays 52 = .ok (.iload_n 3, 1) := by decide +kernel
theorem dX9_lays_53 : decode cX9_lays 53 = .ok (.aload_n 0, 1) := by decide +kernel
theorem dX9_lays_54 : decode cX9_lays 54 = .ok (.getfield 7, 3) := by decide +kernel
theorem dX9_lays_57 : decode cX9_lays 57 = .ok (.sipush 151, 3) := by decide +kernel
theorem dX9_lays_60 : decode cX9_lays 60 = .ok (.iaload, 1) := by decide +kernel
theorem dX9_lays_61 : decode cX9_lays 61 = .ok (.iconst 1, 1) := by decide +kernel
theorem dX9_lays_62 : decode cX9_lays 62 = .ok (.isub, 1) := by decide +kernel
theorem dX9_lays_63 : decode cX9_lays 63 = .ok (.if_icmp .ne 7, 3) := by decide +kernel
theorem dX9_lays_66 : decode cX9_lays 66 = .ok (.iconst 1, 1) := by decide +kernel
theorem dX9_lays_67 : decode cX9_lays 67 = .ok (.goto 4, 3) := by decide +kernel
theorem dX9_lays_70 : decode cX9_lays 70 = .ok (.iconst 0, 1) := by decide +kernel
theorem dX9_lays_71 : decode cX9_lays 71 = .ok (.iastore, 1) := by decide +kernel
theorem dX9_lays_72 : decode cX9_lays 72 = .ok (.aload_n 0, 1) := by decide +kernel
theorem dX9_lays_73 : decode cX9_lays 73 = .ok (.getfield 49, 3) := by decide +kernel
theorem dX9_lays_76 : decode cX9_lays 76 = .ok (.iconst 3, 1) := by decide +kernel
theorem dX9_lays_77 : decode cX9_lays 77 = .ok (.aload_n 0, 1) := by decide +kernel
theorem dX9_lays_78 : decode cX9_lays 78 = .ok (.getfield 7, 3) := by decide +kernel
theorem dX9_lays_81 : decode cX9_lays 81 = .ok (.iconst 0, 1) := by decide +kernel
theorem dX9_lays_82 : decode cX9_lays 82 = .ok (.iaload, 1) := by decide +kernel
theorem dX9_lays_83 : decode cX9_lays 83 = .ok (.iastore, 1) := by decide +kernel
theorem dX9_lays_84 : decode cX9_lays 84 = .ok (.aload_n 0, 1) := by decide +kernel
theorem dX9_lays_85 : decode cX9_lays 85 = .ok (.getfield 49, 3) := by decide +kernel
theorem dX9_lays_88 : decode cX9_lays 88 = .ok (.iconst 4, 1) := by decide +kernel
theorem dX9_lays_89 : decode cX9_lays 89 = .ok (.iconst 0, 1) := by decide +kernel
theorem dX9_lays_90 : decode cX9_lays 90 = .ok (.iastore, 1) := by decide +kernel
theorem dX9_lays_91 : decode cX9_lays 91 = .ok (.aload_n 0, 1) := by decide +kernel
theorem dX9_lays_92 : decode cX9_lays 92 = .ok (.getfield 49, 3) := by decide +kernel
theorem dX9_lays_95 : decode cX9_lays 95 = .ok (.iconst 5, 1) := by decide +kernel
theorem dX9_lays_96 : decode cX9_lays 96 = .ok (.iconst 0, 1) := by decide +kernel
theorem dX9_lays_97 : decode cX9_lays 97 = .ok (.iastore, 1) := by decide +kernel
theorem dX9_lays_98 : decode cX9_lays 98 = .ok (.aload_n 0, 1) := by decide +kernel
theorem dX9_lays_99 : decode cX9_lays 99 = .ok (.getfield 49, 3) := by decide +kernel
theorem dX9_lays_102 : decode cX9_lays 102 = .ok (.bipush 6, 2) := by decide +kernel
theorem dX9_lays_104 : decode cX9_lays 104 = .ok (.aload_n 0, 1) := by decide +kernel
theorem dX9_lays_105 : decode cX9_lays 105 = .ok (.iload_n 1, 1) := by decide +kernel
theorem dX9_lays_106 : decode cX9_lays 106 = .ok (.invokevirtual 353, 3) := by decide +kernel
theorem dX9_lays_109 : decode cX9_lays 109 = .ok (.iastore, 1) := by decide +kernel
theorem dX9_lays_110 : decode cX9_lays 110 = .ok (.return_, 1) := by decide +kernel
set_option maxRecDepth 20000 in
theorem vX9_lays {g : zG} {d : Nat} {Q : zM → Prop} {M : zM} {l1 : Int32} (h : ∃ k1 : Nat, (21 + l1) = iv k1 ∧ k1 < 2200 ∧ ((l1 - l1 / 8 * 8) = 0 → zW shM g (d + 1) mX9_lays (zv Q) 66 [(0, .ref 0), (1, .int l1)] [.int 2, .ref 14] (zup M 14 1 (M 1 k1))) ∧ (¬ (l1 - l1 / 8 * 8) = 0 → ((l1 / 8) = 0 → zW shM g (d + 1) mX9_lays (zv Q) 66 [(0, .ref 0), (1, .int l1)] [.int 2, .ref 14] (zup M 14 1 (M 1 k1))) ∧ (¬ (l1 / 8) = 0 → ((l1 - l1 / 8 * 8) = (((zup M 14 1 (M 1 k1)) 1 150) - 1) → zW shM g (d + 1) mX9_lays (zv Q) 66 [(0, .ref 0), (1, .int l1)] [.int 2, .ref 14] (zup M 14 1 (M 1 k1))) ∧ (¬ (l1 - l1 / 8 * 8) = (((zup M 14 1 (M 1 k1)) 1 150) - 1) → (¬ (l1 / 8) = (((zup M 14 1 (M 1 k1)) 1 151) - 1) → zW shM g (d + 1) mX9_lays (zv Q) 71 [(0, .ref 0), (1, .int l1)] [.int 0, .int 2, .ref 14] (zup M 14 1 (M 1 k1))) ∧ ((l1 / 8) = (((zup M 14 1 (M 1 k1)) 1 151) - 1) → zW shM g (d + 1) mX9_lays (zv Q) 66 [(0, .ref 0), (1, .int l1)] [.int 2, .ref 14] (zup M 14 1 (M 1 k1))))))) : zCv shM g (d + 1) mX9_lays [.ref 0, .int l1] M Q := by
  refine zW.enter (by decide +kernel) (Nat.le_of_ble_eq_true rfl) ?_
  change zW shM g (d + 1) mX9_lays (zv Q) 0 [(0, .ref 0), (1, .int l1)] [] M
  refine z_iload_n dX9_lays_0 1 rfl ?_
  refine z_bipush (v := 8) dX9_lays_1 (by decide) ?_
  refine z_irem dX9_lays_3 (by decide) ?_
  refine z_istore_n [(2, .int (l1 - l1 / 8 * 8)), (0, .ref 0), (1, .int l1)] dX9_lays_4 (by decide) rfl ?_
  refine z_iload_n dX9_lays_5 2 rfl ?_
  refine z_bipush (v := 8) dX9_lays_6 (by decide) ?_
  refine z_idiv dX9_lays_8 (by decide) ?_
  refine z_istore_n [(3, .int (l1 / 8)), (2, .int (l1 - l1 / 8 * 8)), (0, .ref 0), (1, .int l1)] dX9_lays_9 (by decide) rfl ?_
  refine z_aload_n dX9_lays_10 2 rfl ?_
  refine z_getr shM_0 rfl flX9_49 dX9_lays_11 ?_
  refine z_iconst (v := 1) dX9_lays_14 (by decide) ?_
  refine z_aload_n dX9_lays_15 2 rfl ?_
  refine z_getr shM_0 rfl flX9_7 dX9_lays_16 ?_
  refine z_bipush (v := 21) dX9_lays_19 (by decide) ?_
  refine z_iload_n dX9_lays_21 3 rfl ?_
  refine z_iadd dX9_lays_22 ?_
  obtain ⟨k1, ek1, uk1, h⟩ := h
  refine z_iald2 (k0 := k1) shM_1 (by decide) ek1 uk1 dX9_lays_23 ?_
  refine z_iast2 (k0 := 1) shM_14 (by decide) (by decide) (by decide) dX9_lays_24 ?_
  refine z_aload_n dX9_lays_25 2 rfl ?_
  refine z_getr shM_0 rfl flX9_49 dX9_lays_26 ?_
  refine z_iconst (v := 2) dX9_lays_29 (by decide) ?_
  refine z_iload_n dX9_lays_30 1 rfl ?_
  refine z_if_eq 66 dX9_lays_31 (by decide) (fun c1 => ?_) (fun c1 => ?_)
  · have h := h.1 c1
    exact zW.sub [2, 3] rfl h
  · have h := h.2 c1
    refine z_iload_n dX9_lays_34 0 rfl ?_
    refine z_if_eq 66 dX9_lays_35 (by decide) (fun c2 => ?_) (fun c2 => ?_)
    · have h := h.1 c2
      exact zW.sub [2, 3] rfl h
    · have h := h.2 c2
      refine z_iload_n dX9_lays_38 1 rfl ?_
      refine z_aload_n dX9_lays_39 2 rfl ?_
      refine z_getr shM_0 rfl flX9_7 dX9_lays_40 ?_
      refine z_sipush (v := 150) dX9_lays_43 (by decide) ?_
      refine z_iald2 (k0 := 150) shM_1 (by decide) (by decide) (by decide) dX9_lays_46 ?_
      refine z_iconst (v := 1) dX9_lays_47 (by decide) ?_
      refine z_isub dX9_lays_48 ?_
      refine z_icmp_eq 66 dX9_lays_49 (by decide) (fun c3 => ?_) (fun c3 => ?_)
      · have h := h.1 c3
        exact zW.sub [2, 3] rfl h
      · have h := h.2 c3
        refine z_iload_n dX9_lays_52 0 rfl ?_
        refine z_aload_n dX9_lays_53 2 rfl ?_
        refine z_getr shM_0 rfl flX9_7 dX9_lays_54 ?_
        refine z_sipush (v := 151) dX9_lays_57 (by decide) ?_
        refine z_iald2 (k0 := 151) shM_1 (by decide) (by decide) (by decide) dX9_lays_60 ?_
        refine z_iconst (v := 1) dX9_lays_61 (by decide) ?_
        refine z_isub dX9_lays_62 ?_
        refine z_icmp_ne 70 dX9_lays_63 (by decide) (fun c4 => ?_) (fun c4 => ?_)
        · have h := h.1 c4
          refine z_iconst (v := 0) dX9_lays_70 (by decide) ?_
          exact zW.sub [2, 3] rfl h
        · have h := h.2 c4
          exact zW.sub [2, 3] rfl h
set_option maxRecDepth 20000 in
theorem vX9_lays_66 {g : zG} {d : Nat} {Q : zM → Prop} {M : zM} {l1 : Int32} (h : zW shM g (d + 1) mX9_lays (zv Q) 71 [(0, .ref 0), (1, .int l1)] [.int 1, .int 2, .ref 14] M) : zW shM g (d + 1) mX9_lays (zv Q) 66 [(0, .ref 0), (1, .int l1)] [.int 2, .ref 14] M := by
  refine z_iconst (v := 1) dX9_lays_66 (by decide) ?_
  refine z_goto 71 dX9_lays_67 (by decide) ?_
  exact h
set_option maxRecDepth 20000 in
theorem vX9_lays_71 {g : zG} {d : Nat} {Q : zM → Prop} {M : zM} {l1 : Int32} {s0 : Int32} (h : zCi shM g d mX9_aroundOf [.ref 0, .int l1] (zup (zup (zup (zup M 14 2 s0) 14 3 ((zup M 14 2 s0) 1 0)) 14 4 0) 14 5 0) (fun x1 M1 => Q (zup M1 14 6 x1))) : zW shM g (d + 1) mX9_lays (zv Q) 71 [(0, .ref 0), (1, .int l1)] [.int s0, .int 2, .ref 14] M := by
  refine z_iast2 (k0 := 2) shM_14 (by decide) (by decide) (by decide) dX9_lays_71 ?_
  refine z_aload_n dX9_lays_72 0 rfl ?_
  refine z_getr shM_0 rfl flX9_49 dX9_lays_73 ?_
  refine z_iconst (v := 3) dX9_lays_76 (by decide) ?_
  refine z_aload_n dX9_lays_77 0 rfl ?_
  refine z_getr shM_0 rfl flX9_7 dX9_lays_78 ?_
  refine z_iconst (v := 0) dX9_lays_81 (by decide) ?_
  refine z_iald2 (k0 := 0) shM_1 (by decide) (by decide) (by decide) dX9_lays_82 ?_
  refine z_iast2 (k0 := 3) shM_14 (by decide) (by decide) (by decide) dX9_lays_83 ?_
  refine z_aload_n dX9_lays_84 0 rfl ?_
  refine z_getr shM_0 rfl flX9_49 dX9_lays_85 ?_
  refine z_iconst (v := 4) dX9_lays_88 (by decide) ?_
  refine z_iconst (v := 0) dX9_lays_89 (by decide) ?_
  refine z_iast2 (k0 := 4) shM_14 (by decide) (by decide) (by decide) dX9_lays_90 ?_
  refine z_aload_n dX9_lays_91 0 rfl ?_
  refine z_getr shM_0 rfl flX9_49 dX9_lays_92 ?_
  refine z_iconst (v := 5) dX9_lays_95 (by decide) ?_
  refine z_iconst (v := 0) dX9_lays_96 (by decide) ?_
  refine z_iast2 (k0 := 5) shM_14 (by decide) (by decide) (by decide) dX9_lays_97 ?_
  refine z_aload_n dX9_lays_98 0 rfl ?_
  refine z_getr shM_0 rfl flX9_49 dX9_lays_99 ?_
  refine z_bipush (v := 6) dX9_lays_102 (by decide) ?_
  refine z_aload_n dX9_lays_104 0 rfl ?_
  refine z_iload_n dX9_lays_105 1 rfl ?_
  refine z_callV (m2 := mX9_aroundOf) (st := [.int 6, .ref 14]) [.int l1] okX9_aroundOf (Or.inl lkX9_353) shM_0 rfl rfl rfl (Nat.le_of_ble_eq_true rfl) dX9_lays_106 (zgo_i h fun x1 M1 h => ?_)
  refine z_iast2 (k0 := 6) shM_14 (by decide) (by decide) (by decide) dX9_lays_109 ?_
  exact z_vret (st := []) rfl dX9_lays_110 ⟨rfl, h⟩
theorem dX9_isAnothers_0 : decode cX9_isAnothers 0 = .ok (.aload_n 0, 1) := by decide +kernel
theorem dX9_isAnothers_1 : decode cX9_isAnothers 1 = .ok (.getfield 7, 3) := by decide +kernel
theorem dX9_isAnothers_4 : decode cX9_isAnothers 4 = .ok (.bipush 85, 2) := by decide +kernel
theorem dX9_isAnothers_6 : decode cX9_isAnothers 6 = .ok (.iload_n 1, 1) := by decide +kernel
theorem dX9_isAnothers_7 : decode cX9_isAnothers 7 = .ok (.iadd, 1) := by decide +kernel
theorem dX9_isAnothers_8 : decode cX9_isAnothers 8 = .ok (.iaload, 1) := by decide +kernel
theorem dX9_isAnothers_9 : decode cX9_isAnothers 9 = .ok (.iconst (-1), 1) := by decide +kernel
theorem dX9_isAnothers_10 : decode cX9_isAnothers 10 = .ok (.if_icmp .eq 20, 3) := by decide +kernel
theorem dX9_isAnothers_13 : decode cX9_isAnothers 13 = .ok (.aload_n 0, 1) := by decide +kernel
theorem dX9_isAnothers_14 : decode cX9_isAnothers 14 = .ok (.getfield 7, 3) := by decide +kernel
theorem dX9_isAnothers_17 : decode cX9_isAnothers 17 = .ok (.bipush 85, 2) := by decide +kernel
theorem dX9_isAnothers_19 : decode cX9_isAnothers 19 = .ok (.iload_n 1, 1) := by decide +kernel
theorem dX9_isAnothers_20 : decode cX9_isAnothers 20 = .ok (.iadd, 1) := by decide +kernel
theorem dX9_isAnothers_21 : decode cX9_isAnothers 21 = .ok (.iaload, 1) := by decide +kernel
theorem dX9_isAnothers_22 : decode cX9_isAnothers 22 = .ok (.iload_n 2, 1) := by decide +kernel
theorem dX9_isAnothers_23 : decode cX9_isAnothers 23 = .ok (.if_icmp .eq 7, 3) := by decide +kernel
theorem dX9_isAnothers_26 : decode cX9_isAnothers 26 = .ok (.iconst 1, 1) := by decide +kernel
theorem dX9_isAnothers_27 : decode cX9_isAnothers 27 = .ok (.goto 4, 3) := by decide +kernel
theorem dX9_isAnothers_30 : decode cX9_isAnothers 30 = .ok (.iconst 0, 1) := by decide +kernel
theorem dX9_isAnothers_31 : decode cX9_isAnothers 31 = .ok (.ireturn, 1) := by decide +kernel
set_option maxRecDepth 20000 in
theorem vX9_isAnothers {g : zG} {d : Nat} {Q : Bool → zM → Prop} {M : zM} {l1 : Int32} {l2 : Int32} (h : ∃ k1 : Nat, (85 + l1) = iv k1 ∧ k1 < 2200 ∧ ((M 1 k1) = (-1) → Q false M) ∧ (¬ (M 1 k1) = (-1) → ((M 1 k1) = l2 → Q false M) ∧ (¬ (M 1 k1) = l2 → Q true M))) : zCz shM g d mX9_isAnothers [.ref 0, .int l1, .int l2] M Q := by
  refine zW.enter (by decide +kernel) (Nat.le_of_ble_eq_true rfl) ?_
  change zW shM g d mX9_isAnothers (zz Q) 0 [(0, .ref 0), (1, .int l1), (2, .int l2)] [] M
  refine z_aload_n dX9_isAnothers_0 0 rfl ?_
  refine z_getr shM_0 rfl flX9_7 dX9_isAnothers_1 ?_
  refine z_bipush (v := 85) dX9_isAnothers_4 (by decide) ?_
  refine z_iload_n dX9_isAnothers_6 1 rfl ?_
  refine z_iadd dX9_isAnothers_7 ?_
  obtain ⟨k1, ek1, uk1, h⟩ := h
  refine z_iald2 (k0 := k1) shM_1 (by decide) ek1 uk1 dX9_isAnothers_8 ?_
  refine z_iconst (v := (-1)) dX9_isAnothers_9 (by decide) ?_
  refine z_icmp_eq 30 dX9_isAnothers_10 (by decide) (fun c1 => ?_) (fun c1 => ?_)
  · have h := h.1 c1
    refine z_iconst (v := 0) dX9_isAnothers_30 (by decide) ?_
    exact z_zret (b := false) rfl rfl dX9_isAnothers_31 h
  · have h := h.2 c1
    refine z_aload_n dX9_isAnothers_13 0 rfl ?_
    refine z_getr shM_0 rfl flX9_7 dX9_isAnothers_14 ?_
    refine z_bipush (v := 85) dX9_isAnothers_17 (by decide) ?_
    refine z_iload_n dX9_isAnothers_19 1 rfl ?_
    refine z_iadd dX9_isAnothers_20 ?_
    refine z_iald2 (k0 := k1) shM_1 (by decide) ek1 uk1 dX9_isAnothers_21 ?_
    refine z_iload_n dX9_isAnothers_22 2 rfl ?_
    refine z_icmp_eq 30 dX9_isAnothers_23 (by decide) (fun c2 => ?_) (fun c2 => ?_)
    · have h := h.1 c2
      refine z_iconst (v := 0) dX9_isAnothers_30 (by decide) ?_
      exact z_zret (b := false) rfl rfl dX9_isAnothers_31 h
    · have h := h.2 c2
      refine z_iconst (v := 1) dX9_isAnothers_26 (by decide) ?_
      refine z_goto 31 dX9_isAnothers_27 (by decide) ?_
      exact z_zret (b := true) rfl rfl dX9_isAnothers_31 h
theorem dX9_cutOf_0 : decode cX9_cutOf 0 = .ok (.aload_n 0, 1) := by decide +kernel
theorem dX9_cutOf_1 : decode cX9_cutOf 1 = .ok (.iload_n 2, 1) := by decide +kernel
theorem dX9_cutOf_2 : decode cX9_cutOf 2 = .ok (.invokevirtual 356, 3) := by decide +kernel
theorem dX9_cutOf_5 : decode cX9_cutOf 5 = .ok (.aload_n 0, 1) := by decide +kernel
theorem dX9_cutOf_6 : decode cX9_cutOf 6 = .ok (.getfield 49, 3) := by decide +kernel
theorem dX9_cutOf_9 : decode cX9_cutOf 9 = .ok (.iconst 4, 1) := by decide +kernel
theorem dX9_cutOf_10 : decode cX9_cutOf 10 = .ok (.aload_n 0, 1) := by decide +kernel
theorem dX9_cutOf_11 : decode cX9_cutOf 11 = .ok (.getfield 7, 3) := by decide +kernel
theorem dX9_cutOf_14 : decode cX9_cutOf 14 = .ok (.sipush 160, 3) := by decide +kernel
theorem dX9_cutOf_17 : decode cX9_cutOf 17 = .ok (.iload_n 1, 1) := by decide +kernel
theorem dX9_cutOf_18 : decode cX9_cutOf 18 = .ok (.iadd, 1) := by decide +kernel
theorem dX9_cutOf_19 : decode cX9_cutOf 19 = .ok (.iaload, 1) := by decide +kernel
theorem dX9_cutOf_20 : decode cX9_cutOf 20 = .ok (.iastore, 1) := by decide +kernel
theorem dX9_cutOf_21 : decode cX9_cutOf 21 = .ok (.aload_n 0, 1) := by decide +kernel
theorem dX9_cutOf_22 : decode cX9_cutOf 22 = .ok (.getfield 49, 3) := by decide +kernel
theorem dX9_cutOf_25 : decode cX9_cutOf 25 = .ok (.iconst 5, 1) := by decide +kernel
theorem dX9_cutOf_26 : decode cX9_cutOf 26 = .ok (.aload_n 0, 1) := by decide +kernel
theorem dX9_cutOf_27 : decode cX9_cutOf 27 = .ok (.iload_n 2, 1) := by decide +kernel
theorem dX9_cutOf_28 : decode cX9_cutOf 28 = .ok (.iload_n 1, 1) := by decide +kernel
theorem dX9_cutOf_29 : decode cX9_cutOf 29 = .ok (.invokevirtual 360, 3) := by decide +kernel
theorem dX9_cutOf_32 : decode cX9_cutOf 32 = .ok (.ifCond .eq 7, 3) := by decide +kernel
theorem dX9_cutOf_35 : decode cX9_cutOf 35 = .ok (.iconst 1, 1) := by decide +kernel
theorem dX9_cutOf_36 : decode cX9_cutOf 36 = .ok (.goto 4, 3) := by decide +kernel
theorem dX9_cutOf_39 : decode cX9_cutOf 39 = .ok (.iconst 0, 1) := by decide +kernel
theorem dX9_cutOf_40 : decode cX9_cutOf 40 = .ok (.iastore, 1) := by decide +kernel
theorem dX9_cutOf_41 : decode cX9_cutOf 41 = .ok (.aload_n 0, 1) := by decide +kernel
theorem dX9_cutOf_42 : decode cX9_cutOf 42 = .ok (.bipush 20, 2) := by decide +kernel
theorem dX9_cutOf_44 : decode cX9_cutOf 44 = .ok (.iconst 2, 1) := by decide +kernel
theorem dX9_cutOf_45 : decode cX9_cutOf 45 = .ok (.invokevirtual 363, 3) := by decide +kernel
theorem dX9_cutOf_48 : decode cX9_cutOf 48 = .ok (.ireturn, 1) := by decide +kernel
set_option maxRecDepth 20000 in
theorem vX9_cutOf {g : zG} {d : Nat} {Q : Int32 → zM → Prop} {M : zM} {l1 : Int32} {l2 : Int32} (h : zCv shM g d mX9_lays [.ref 0, .int l2] M (fun  M1 => ∃ k1 : Nat, (160 + l1) = iv k1 ∧ k1 < 2200 ∧ zCz shM g d mX9_isAnothers [.ref 0, .int l2, .int l1] (zup M1 14 4 (M1 1 k1)) (fun b1 M2 => (b1 = false → zCi shM g d mX9_says [.ref 0, .int 20, .int 2] (zup M2 14 5 0) (fun x2 M3 => Q x2 M3)) ∧ (b1 = true → zCi shM g d mX9_says [.ref 0, .int 20, .int 2] (zup M2 14 5 1) (fun x2 M3 => Q x2 M3))))) : zCi shM g (d + 1) mX9_cutOf [.ref 0, .int l1, .int l2] M Q := by
  refine zW.enter (by decide +kernel) (Nat.le_of_ble_eq_true rfl) ?_
  change zW shM g (d + 1) mX9_cutOf (zi Q) 0 [(0, .ref 0), (1, .int l1), (2, .int l2)] [] M
  refine z_aload_n dX9_cutOf_0 0 rfl ?_
  refine z_iload_n dX9_cutOf_1 2 rfl ?_
  refine z_callV (m2 := mX9_lays) (st := []) [.int l2] okX9_lays (Or.inl lkX9_356) shM_0 rfl rfl rfl (Nat.le_of_ble_eq_true rfl) dX9_cutOf_2 (zgo_v h fun  M1 h => ?_)
  refine z_aload_n dX9_cutOf_5 0 rfl ?_
  refine z_getr shM_0 rfl flX9_49 dX9_cutOf_6 ?_
  refine z_iconst (v := 4) dX9_cutOf_9 (by decide) ?_
  refine z_aload_n dX9_cutOf_10 0 rfl ?_
  refine z_getr shM_0 rfl flX9_7 dX9_cutOf_11 ?_
  refine z_sipush (v := 160) dX9_cutOf_14 (by decide) ?_
  refine z_iload_n dX9_cutOf_17 1 rfl ?_
  refine z_iadd dX9_cutOf_18 ?_
  obtain ⟨k1, ek1, uk1, h⟩ := h
  refine z_iald2 (k0 := k1) shM_1 (by decide) ek1 uk1 dX9_cutOf_19 ?_
  refine z_iast2 (k0 := 4) shM_14 (by decide) (by decide) (by decide) dX9_cutOf_20 ?_
  refine z_aload_n dX9_cutOf_21 0 rfl ?_
  refine z_getr shM_0 rfl flX9_49 dX9_cutOf_22 ?_
  refine z_iconst (v := 5) dX9_cutOf_25 (by decide) ?_
  refine z_aload_n dX9_cutOf_26 0 rfl ?_
  refine z_iload_n dX9_cutOf_27 2 rfl ?_
  refine z_iload_n dX9_cutOf_28 1 rfl ?_
  refine z_callV (m2 := mX9_isAnothers) (st := [.int 5, .ref 14]) [.int l2, .int l1] okX9_isAnothers (Or.inl lkX9_360) shM_0 rfl rfl rfl (Nat.le_of_ble_eq_true rfl) dX9_cutOf_29 (zgo_z h fun b1 M2 h => ?_)
  refine z_ifb_eq 39 dX9_cutOf_32 (by decide) (fun c1 => ?_) (fun c1 => ?_)
  · have h := h.1 c1
    refine z_iconst (v := 0) dX9_cutOf_39 (by decide) ?_
    refine z_iast2 (k0 := 5) shM_14 (by decide) (by decide) (by decide) dX9_cutOf_40 ?_
    refine z_aload_n dX9_cutOf_41 0 rfl ?_
    refine z_bipush (v := 20) dX9_cutOf_42 (by decide) ?_
    refine z_iconst (v := 2) dX9_cutOf_44 (by decide) ?_
    refine z_callV (m2 := mX9_says) (st := []) [.int 20, .int 2] okX9_says (Or.inl lkX9_363) shM_0 rfl rfl rfl (Nat.le_of_ble_eq_true rfl) dX9_cutOf_45 (zgo_i h fun x2 M3 h => ?_)
    exact z_iret (st := []) rfl rfl dX9_cutOf_48 ⟨_, rfl, h⟩
  · have h := h.2 c1
    refine z_iconst (v := 1) dX9_cutOf_35 (by decide) ?_
    refine z_goto 40 dX9_cutOf_36 (by decide) ?_
    refine z_iast2 (k0 := 5) shM_14 (by decide) (by decide) (by decide) dX9_cutOf_40 ?_
    refine z_aload_n dX9_cutOf_41 0 rfl ?_
    refine z_bipush (v := 20) dX9_cutOf_42 (by decide) ?_
    refine z_iconst (v := 2) dX9_cutOf_44 (by decide) ?_
    refine z_callV (m2 := mX9_says) (st := []) [.int 20, .int 2] okX9_says (Or.inl lkX9_363) shM_0 rfl rfl rfl (Nat.le_of_ble_eq_true rfl) dX9_cutOf_45 (zgo_i h fun x2 M3 h => ?_)
    exact z_iret (st := []) rfl rfl dX9_cutOf_48 ⟨_, rfl, h⟩
theorem dX9_thawOf_0 : decode cX9_thawOf 0 = .ok (.aload_n 0, 1) := by decide +kernel
theorem dX9_thawOf_1 : decode cX9_thawOf 1 = .ok (.iload_n 1, 1) := by decide +kernel
theorem dX9_thawOf_2 : decode cX9_thawOf 2 = .ok (.invokevirtual 356, 3) := by decide +kernel
theorem dX9_thawOf_5 : decode cX9_thawOf 5 = .ok (.aload_n 0, 1) := by decide +kernel
theorem dX9_thawOf_6 : decode cX9_thawOf 6 = .ok (.bipush 21, 2) := by decide +kernel
theorem dX9_thawOf_8 : decode cX9_thawOf 8 = .ok (.iconst 0, 1) := by decide +kernel
theorem dX9_thawOf_9 : decode cX9_thawOf 9 = .ok (.invokevirtual 363, 3) := by decide +kernel
theorem dX9_thawOf_12 : decode cX9_thawOf 12 = .ok (.ireturn, 1) := by decide +kernel
set_option maxRecDepth 20000 in
theorem vX9_thawOf {g : zG} {d : Nat} {Q : Int32 → zM → Prop} {M : zM} {l1 : Int32} (h : zCv shM g d mX9_lays [.ref 0, .int l1] M (fun  M1 => zCi shM g d mX9_says [.ref 0, .int 21, .int 0] M1 (fun x2 M2 => Q x2 M2))) : zCi shM g (d + 1) mX9_thawOf [.ref 0, .int l1] M Q := by
  refine zW.enter (by decide +kernel) (Nat.le_of_ble_eq_true rfl) ?_
  change zW shM g (d + 1) mX9_thawOf (zi Q) 0 [(0, .ref 0), (1, .int l1)] [] M
  refine z_aload_n dX9_thawOf_0 0 rfl ?_
  refine z_iload_n dX9_thawOf_1 1 rfl ?_
  refine z_callV (m2 := mX9_lays) (st := []) [.int l1] okX9_lays (Or.inl lkX9_356) shM_0 rfl rfl rfl (Nat.le_of_ble_eq_true rfl) dX9_thawOf_2 (zgo_v h fun  M1 h => ?_)
  refine z_aload_n dX9_thawOf_5 0 rfl ?_
  refine z_bipush (v := 21) dX9_thawOf_6 (by decide) ?_
  refine z_iconst (v := 0) dX9_thawOf_8 (by decide) ?_
  refine z_callV (m2 := mX9_says) (st := []) [.int 21, .int 0] okX9_says (Or.inl lkX9_363) shM_0 rfl rfl rfl (Nat.le_of_ble_eq_true rfl) dX9_thawOf_9 (zgo_i h fun x2 M2 h => ?_)
  exact z_iret (st := []) rfl rfl dX9_thawOf_12 ⟨_, rfl, h⟩
theorem dX9_keeps_0 : decode cX9_keeps 0 = .ok (.aload_n 0, 1) := by decide +kernel
theorem dX9_keeps_1 : decode cX9_keeps 1 = .ok (.getfield 94, 3) := by decide +kernel
theorem dX9_keeps_4 : decode cX9_keeps 4 = .ok (.bipush 6, 2) := by decide +kernel
theorem dX9_keeps_6 : decode cX9_keeps 6 = .ok (.if_icmp .ne 44, 3) := by decide +kernel
theorem dX9_keeps_9 : decode cX9_keeps 9 = .ok (.iconst 0, 1) := by decide +kernel
theorem dX9_keeps_10 : decode cX9_keeps 10 = .ok (.istore_n 1, 1) := by decide +kernel
theorem dX9_keeps_11 : decode cX9_keeps 11 = .ok (.iload_n 1, 1) := by decide +kernel
theorem dX9_keeps_12 : decode cX9_keeps 12 = .ok (.sipush 750, 3) := by decide +kernel
theorem dX9_keeps_15 : decode cX9_keeps 15 = .ok (.if_icmp .ge 25, 3) := by decide +kernel
theorem dX9_keeps_18 : decode cX9_keeps 18 = .ok (.aload_n 0, 1) := by decide +kernel
theorem dX9_keeps_19 : decode cX9_keeps 19 = .ok (.getfield 16, 3) := by decide +kernel
theorem dX9_keeps_22 : decode cX9_keeps 22 = .ok (.iload_n 1, 1) := by decide +kernel
theorem dX9_keeps_23 : decode cX9_keeps 23 = .ok (.aload_n 0, 1) := by decide +kernel
theorem dX9_keeps_24 : decode cX9_keeps 24 = .ok (.getfield 16, 3) := by decide +kernel
theorem dX9_keeps_27 : decode cX9_keeps 27 = .ok (.iload_n 1, 1) := by decide +kernel
theorem dX9_keeps_28 : decode cX9_keeps 28 = .ok (.sipush 150, 3) := by decide +kernel
theorem dX9_keeps_31 : decode cX9_keeps 31 = .ok (.iadd, 1) := by decide +kernel
theorem dX9_keeps_32 : decode cX9_keeps 32 = .ok (.iaload, 1) := by decide +kernel
theorem dX9_keeps_33 : decode cX9_keeps 33 = .ok (.iastore, 1) := by decide +kernel
theorem dX9_keeps_34 : decode cX9_keeps 34 = .ok (.iinc 1 1, 3) := by decide +kernel
theorem dX9_keeps_37 : decode cX9_keeps 37 = .ok (.goto (-26), 3) := by decide +kernel
theorem dX9_keeps_40 : decode cX9_keeps 40 = .ok (.aload_n 0, 1) := by decide +kernel
theorem dX9_keeps_41 : decode cX9_keeps 41 = .ok (.dup, 1) := by decide +kernel
theorem dX9_keeps_42 : decode cX9_keeps 42 = .ok (.getfield 94, 3) := by decide +kernel
theorem dX9_keeps_45 : decode cX9_keeps 45 = .ok (.iconst 1, 1) := by decide +kernel
theorem dX9_keeps_46 : decode cX9_keeps 46 = .ok (.isub, 1) := by decide +kernel
theorem dX9_keeps_47 : decode cX9_keeps 47 = .ok (.putfield 94, 3) := by decide +kernel
theorem dX9_keeps_50 : decode cX9_keeps 50 = .ok (.iconst 0, 1) := by decide +kernel
theorem dX9_keeps_51 : decode cX9_keeps 51 = .ok (.istore_n 1, 1) := by decide +kernel
theorem dX9_keeps_52 : decode cX9_keeps 52 = .ok (.iload_n 1, 1) := by decide +kernel
theorem dX9_keeps_53 : decode cX9_keeps 53 = .ok (.sipush 150, 3) := by decide +kernel
theorem dX9_keeps_56 : decode cX9_keeps 56 = .ok (.if_icmp .ge 30, 3) := by decide +kernel
theorem dX9_keeps_59 : decode cX9_keeps 59 = .ok (.aload_n 0, 1) := by decide +kernel
theorem dX9_keeps_60 : decode cX9_keeps 60 = .ok (.getfield 16, 3) := by decide +kernel
theorem dX9_keeps_63 : decode cX9_keeps 63 = .ok (.sipush 150, 3) := by decide +kernel
theorem dX9_keeps_66 : decode cX9_keeps 66 = .ok (.aload_n 0, 1) := by decide +kernel
theorem dX9_keeps_67 : decode cX9_keeps 67 = .ok (.getfield 94, 3) := by decide +kernel
theorem dX9_keeps_70 : decode cX9_keeps 70 = .ok (.imul, 1) := by decide +kernel
theorem dX9_keeps_71 : decode cX9_keeps 71 = .ok (.iload_n 1, 1) := by decide +kernel
theorem dX9_keeps_72 : decode cX9_keeps 72 = .ok (.iadd, 1) := by decide +kernel
theorem dX9_keeps_73 : decode cX9_keeps 73 = .ok (.aload_n 0, 1) := by decide +kernel
theorem dX9_keeps_74 : decode cX9_keeps 74 = .ok (.getfield 7, 3) := by decide +kernel
theorem dX9_keeps_77 : decode cX9_keeps 77 = .ok (.iload_n 1, 1) := by decide +kernel
theorem dX9_keeps_78 : decode cX9_keeps 78 = .ok (.iaload, 1) := by decide +kernel
theorem dX9_keeps_79 : decode cX9_keeps 79 = .ok (.iastore, 1) := by decide +kernel
theorem dX9_keeps_80 : decode cX9_keeps 80 = .ok (.iinc 1 1, 3) := by decide +kernel
theorem dX9_keeps_83 : decode cX9_keeps 83 = .ok (.goto (-31), 3) := by decide +kernel
theorem dX9_keeps_86 : decode cX9_keeps 86 = .ok (.aload_n 0, 1) := by decide +kernel
theorem dX9_keeps_87 : decode cX9_keeps 87 = .ok (.dup, 1) := by decide +kernel
theorem dX9_keeps_88 : decode cX9_keeps 88 = .ok (.getfield 94, 3) := by decide +kernel
theorem dX9_keeps_91 : decode cX9_keeps 91 = .ok (.iconst 1, 1) := by decide +kernel
theorem dX9_keeps_92 : decode cX9_keeps 92 = .ok (.iadd, 1) := by decide +kernel
theorem dX9_keeps_93 : decode cX9_keeps 93 = .ok (.putfield 94, 3) := by decide +kernel
theorem dX9_keeps_96 : decode cX9_keeps 96 = .ok (.return_, 1) := by decide +kernel
set_option maxRecDepth 20000 in
theorem vX9_keeps {g : zG} {d : Nat} {Q : zM → Prop} {M : zM} (h : (¬ (M 0 4) = 6 → zW shM g d mX9_keeps (zv Q) 52 [(0, .ref 0), (1, .int 0)] [] M) ∧ ((M 0 4) = 6 → zW shM g d mX9_keeps (zv Q) 11 [(0, .ref 0), (1, .int 0)] [] M)) : zCv shM g d mX9_keeps [.ref 0] M Q := by
  refine zW.enter (by decide +kernel) (Nat.le_of_ble_eq_true rfl) ?_
  change zW shM g d mX9_keeps (zv Q) 0 [(0, .ref 0)] [] M
  refine z_aload_n dX9_keeps_0 0 rfl ?_
  refine z_geti shM_0 rfl flX9_94 dX9_keeps_1 ?_
  refine z_bipush (v := 6) dX9_keeps_4 (by decide) ?_
  refine z_icmp_ne 50 dX9_keeps_6 (by decide) (fun c1 => ?_) (fun c1 => ?_)
  · have h := h.1 c1
    refine z_iconst (v := 0) dX9_keeps_50 (by decide) ?_
    refine z_istore_n [(1, .int 0), (0, .ref 0)] dX9_keeps_51 (by decide) rfl ?_
    exact zW.sub [1, 0] rfl h
  · have h := h.2 c1
    refine z_iconst (v := 0) dX9_keeps_9 (by decide) ?_
    refine z_istore_n [(1, .int 0), (0, .ref 0)] dX9_keeps_10 (by decide) rfl ?_
    exact zW.sub [1, 0] rfl h
set_option maxRecDepth 20000 in
theorem vX9_keeps_11 {g : zG} {d : Nat} {Q : zM → Prop} {M : zM} {l1 : Int32} (h : (750 ≤ l1 → zW shM g d mX9_keeps (zv Q) 52 [(0, .ref 0), (1, .int 0)] [] (zup M 0 4 ((M 0 4) - 1))) ∧ (¬ 750 ≤ l1 → ∃ k1 : Nat, (l1 + 150) = iv k1 ∧ k1 < 900 ∧ ∃ k2 : Nat, l1 = iv k2 ∧ k2 < 900 ∧ zW shM g d mX9_keeps (zv Q) 11 [(0, .ref 0), (1, .int (l1 + 1))] [] (zup M 3 k2 (M 3 k1)))) : zW shM g d mX9_keeps (zv Q) 11 [(0, .ref 0), (1, .int l1)] [] M := by
  refine z_iload_n dX9_keeps_11 1 rfl ?_
  refine z_sipush (v := 750) dX9_keeps_12 (by decide) ?_
  refine z_icmp_ge 40 dX9_keeps_15 (by decide) (fun c1 => ?_) (fun c1 => ?_)
  · have h := h.1 c1
    refine z_aload_n dX9_keeps_40 0 rfl ?_
    refine z_dupr dX9_keeps_41 ?_
    refine z_geti shM_0 rfl flX9_94 dX9_keeps_42 ?_
    refine z_iconst (v := 1) dX9_keeps_45 (by decide) ?_
    refine z_isub dX9_keeps_46 ?_
    refine z_puti shM_0 rfl fpX9_94 rfl rfl dX9_keeps_47 ?_
    refine z_iconst (v := 0) dX9_keeps_50 (by decide) ?_
    refine z_istore_n [(1, .int 0), (0, .ref 0)] dX9_keeps_51 (by decide) rfl ?_
    exact zW.sub [1, 0] rfl h
  · have h := h.2 c1
    refine z_aload_n dX9_keeps_18 0 rfl ?_
    refine z_getr shM_0 rfl flX9_16 dX9_keeps_19 ?_
    refine z_iload_n dX9_keeps_22 1 rfl ?_
    refine z_aload_n dX9_keeps_23 0 rfl ?_
    refine z_getr shM_0 rfl flX9_16 dX9_keeps_24 ?_
    refine z_iload_n dX9_keeps_27 1 rfl ?_
    refine z_sipush (v := 150) dX9_keeps_28 (by decide) ?_
    refine z_iadd dX9_keeps_31 ?_
    obtain ⟨k1, ek1, uk1, h⟩ := h
    refine z_iald2 (k0 := k1) shM_3 (by decide) ek1 uk1 dX9_keeps_32 ?_
    obtain ⟨k2, ek2, uk2, h⟩ := h
    refine z_iast2 (k0 := k2) shM_3 (by decide) ek2 uk2 dX9_keeps_33 ?_
    refine z_iinc (x := l1) (v := (l1 + 1)) [(1, .int (l1 + 1)), (0, .ref 0)] dX9_keeps_34 1 rfl rfl (by decide) rfl ?_
    refine z_goto 11 dX9_keeps_37 (by decide) ?_
    exact zW.sub [1, 0] rfl h
set_option maxRecDepth 20000 in
theorem vX9_keeps_52 {g : zG} {d : Nat} {Q : zM → Prop} {M : zM} {l1 : Int32} (h : (150 ≤ l1 → Q (zup M 0 4 ((M 0 4) + 1))) ∧ (¬ 150 ≤ l1 → ∃ k1 : Nat, l1 = iv k1 ∧ k1 < 2200 ∧ ∃ k2 : Nat, ((150 * (M 0 4)) + l1) = iv k2 ∧ k2 < 900 ∧ zW shM g d mX9_keeps (zv Q) 52 [(0, .ref 0), (1, .int (l1 + 1))] [] (zup M 3 k2 (M 1 k1)))) : zW shM g d mX9_keeps (zv Q) 52 [(0, .ref 0), (1, .int l1)] [] M := by
  refine z_iload_n dX9_keeps_52 1 rfl ?_
  refine z_sipush (v := 150) dX9_keeps_53 (by decide) ?_
  refine z_icmp_ge 86 dX9_keeps_56 (by decide) (fun c1 => ?_) (fun c1 => ?_)
  · have h := h.1 c1
    refine z_aload_n dX9_keeps_86 0 rfl ?_
    refine z_dupr dX9_keeps_87 ?_
    refine z_geti shM_0 rfl flX9_94 dX9_keeps_88 ?_
    refine z_iconst (v := 1) dX9_keeps_91 (by decide) ?_
    refine z_iadd dX9_keeps_92 ?_
    refine z_puti shM_0 rfl fpX9_94 rfl rfl dX9_keeps_93 ?_
    exact z_vret (st := []) rfl dX9_keeps_96 ⟨rfl, h⟩
  · have h := h.2 c1
    refine z_aload_n dX9_keeps_59 0 rfl ?_
    refine z_getr shM_0 rfl flX9_16 dX9_keeps_60 ?_
    refine z_sipush (v := 150) dX9_keeps_63 (by decide) ?_
    refine z_aload_n dX9_keeps_66 0 rfl ?_
    refine z_geti shM_0 rfl flX9_94 dX9_keeps_67 ?_
    refine z_imul dX9_keeps_70 ?_
    refine z_iload_n dX9_keeps_71 1 rfl ?_
    refine z_iadd dX9_keeps_72 ?_
    refine z_aload_n dX9_keeps_73 0 rfl ?_
    refine z_getr shM_0 rfl flX9_7 dX9_keeps_74 ?_
    refine z_iload_n dX9_keeps_77 1 rfl ?_
    obtain ⟨k1, ek1, uk1, h⟩ := h
    refine z_iald2 (k0 := k1) shM_1 (by decide) ek1 uk1 dX9_keeps_78 ?_
    obtain ⟨k2, ek2, uk2, h⟩ := h
    refine z_iast2 (k0 := k2) shM_3 (by decide) ek2 uk2 dX9_keeps_79 ?_
    refine z_iinc (x := l1) (v := (l1 + 1)) [(1, .int (l1 + 1)), (0, .ref 0)] dX9_keeps_80 1 rfl rfl (by decide) rfl ?_
    refine z_goto 52 dX9_keeps_83 (by decide) ?_
    exact zW.sub [1, 0] rfl h
theorem dX9_undo_0 : decode cX9_undo 0 = .ok (.aload_n 0, 1) := by decide +kernel
theorem dX9_undo_1 : decode cX9_undo 1 = .ok (.getfield 94, 3) := by decide +kernel
theorem dX9_undo_4 : decode cX9_undo 4 = .ok (.ifCond .ne 5, 3) := by decide +kernel
theorem dX9_undo_7 : decode cX9_undo 7 = .ok (.iconst 0, 1) := by decide +kernel
theorem dX9_undo_8 : decode cX9_undo 8 = .ok (.ireturn, 1) := by decide +kernel
theorem dX9_undo_9 : decode cX9_undo 9 = .ok (.aload_n 0, 1) := by decide +kernel
theorem dX9_undo_10 : decode cX9_undo 10 = .ok (.dup, 1) := by decide +kernel
theorem dX9_undo_11 : decode cX9_undo 11 = .ok (.getfield 94, 3) := by decide +kernel
theorem dX9_undo_14 : decode cX9_undo 14 = .ok (.iconst 1, 1) := by decide +kernel
theorem dX9_undo_15 : decode cX9_undo 15 = .ok (.isub, 1) := by decide +kernel
theorem dX9_undo_16 : decode cX9_undo 16 = .ok (.putfield 94, 3) := by decide +kernel
theorem dX9_undo_19 : decode cX9_undo 19 = .ok (.iconst 0, 1) := by decide +kernel
theorem dX9_undo_20 : decode cX9_undo 20 = .ok (.istore_n 1, 1) := by decide +kernel
theorem dX9_undo_21 : decode cX9_undo 21 = .ok (.iload_n 1, 1) := by decide +kernel
theorem dX9_undo_22 : decode cX9_undo 22 = .ok (.sipush 150, 3) := by decide +kernel
theorem dX9_undo_25 : decode cX9_undo 25 = .ok (.if_icmp .ge 30, 3) := by decide +kernel
theorem dX9_undo_28 : decode cX9_undo 28 = .ok (.aload_n 0, 1) := by decide +kernel
theorem dX9_undo_29 : decode cX9_undo 29 = .ok (.getfield 7, 3) := by decide +kernel
theorem dX9_undo_32 : decode cX9_undo 32 = .ok (.iload_n 1, 1) := by decide +kernel
theorem dX9_undo_33 : decode cX9_undo 33 = .ok (.aload_n 0, 1) := by decide +kernel
theorem dX9_undo_34 : decode cX9_undo 34 = .ok (.getfield 16, 3) := by decide +kernel
theorem dX9_undo_37 : decode cX9_undo 37 = .ok (.sipush 150, 3) := by decide +kernel
theorem dX9_undo_40 : decode cX9_undo 40 = .ok (.aload_n 0, 1) := by decide +kernel
theorem dX9_undo_41 : decode cX9_undo 41 = .ok (.getfield 94, 3) := by decide +kernel
theorem dX9_undo_44 : decode cX9_undo 44 = .ok (.imul, 1) := by decide +kernel
theorem dX9_undo_45 : decode cX9_undo 45 = .ok (.iload_n 1, 1) := by decide +kernel
theorem dX9_undo_46 : decode cX9_undo 46 = .ok (.iadd, 1) := by decide +kernel
theorem dX9_undo_47 : decode cX9_undo 47 = .ok (.iaload, 1) := by decide +kernel
theorem dX9_undo_48 : decode cX9_undo 48 = .ok (.iastore, 1) := by decide +kernel
theorem dX9_undo_49 : decode cX9_undo 49 = .ok (.iinc 1 1, 3) := by decide +kernel
theorem dX9_undo_52 : decode cX9_undo 52 = .ok (.goto (-31), 3) := by decide +kernel
theorem dX9_undo_55 : decode cX9_undo 55 = .ok (.iconst 1, 1) := by decide +kernel
theorem dX9_undo_56 : decode cX9_undo 56 = .ok (.ireturn, 1) := by decide +kernel
set_option maxRecDepth 20000 in
theorem vX9_undo {g : zG} {d : Nat} {Q : Bool → zM → Prop} {M : zM} (h : (¬ (M 0 4) = 0 → zW shM g d mX9_undo (zz Q) 21 [(0, .ref 0), (1, .int 0)] [] (zup M 0 4 ((M 0 4) - 1))) ∧ ((M 0 4) = 0 → Q false M)) : zCz shM g d mX9_undo [.ref 0] M Q := by
  refine zW.enter (by decide +kernel) (Nat.le_of_ble_eq_true rfl) ?_
  change zW shM g d mX9_undo (zz Q) 0 [(0, .ref 0)] [] M
  refine z_aload_n dX9_undo_0 0 rfl ?_
  refine z_geti shM_0 rfl flX9_94 dX9_undo_1 ?_
  refine z_if_ne 9 dX9_undo_4 (by decide) (fun c1 => ?_) (fun c1 => ?_)
  · have h := h.1 c1
    refine z_aload_n dX9_undo_9 0 rfl ?_
    refine z_dupr dX9_undo_10 ?_
    refine z_geti shM_0 rfl flX9_94 dX9_undo_11 ?_
    refine z_iconst (v := 1) dX9_undo_14 (by decide) ?_
    refine z_isub dX9_undo_15 ?_
    refine z_puti shM_0 rfl fpX9_94 rfl rfl dX9_undo_16 ?_
    refine z_iconst (v := 0) dX9_undo_19 (by decide) ?_
    refine z_istore_n [(1, .int 0), (0, .ref 0)] dX9_undo_20 (by decide) rfl ?_
    exact zW.sub [1, 0] rfl h
  · have h := h.2 c1
    refine z_iconst (v := 0) dX9_undo_7 (by decide) ?_
    exact z_zret (b := false) rfl rfl dX9_undo_8 h
set_option maxRecDepth 20000 in
theorem vX9_undo_21 {g : zG} {d : Nat} {Q : Bool → zM → Prop} {M : zM} {l1 : Int32} (h : (150 ≤ l1 → Q true M) ∧ (¬ 150 ≤ l1 → ∃ k1 : Nat, ((150 * (M 0 4)) + l1) = iv k1 ∧ k1 < 900 ∧ ∃ k2 : Nat, l1 = iv k2 ∧ k2 < 2200 ∧ zW shM g d mX9_undo (zz Q) 21 [(0, .ref 0), (1, .int (l1 + 1))] [] (zup M 1 k2 (M 3 k1)))) : zW shM g d mX9_undo (zz Q) 21 [(0, .ref 0), (1, .int l1)] [] M := by
  refine z_iload_n dX9_undo_21 1 rfl ?_
  refine z_sipush (v := 150) dX9_undo_22 (by decide) ?_
  refine z_icmp_ge 55 dX9_undo_25 (by decide) (fun c1 => ?_) (fun c1 => ?_)
  · have h := h.1 c1
    refine z_iconst (v := 1) dX9_undo_55 (by decide) ?_
    exact z_zret (b := true) rfl rfl dX9_undo_56 h
  · have h := h.2 c1
    refine z_aload_n dX9_undo_28 0 rfl ?_
    refine z_getr shM_0 rfl flX9_7 dX9_undo_29 ?_
    refine z_iload_n dX9_undo_32 1 rfl ?_
    refine z_aload_n dX9_undo_33 0 rfl ?_
    refine z_getr shM_0 rfl flX9_16 dX9_undo_34 ?_
    refine z_sipush (v := 150) dX9_undo_37 (by decide) ?_
    refine z_aload_n dX9_undo_40 0 rfl ?_
    refine z_geti shM_0 rfl flX9_94 dX9_undo_41 ?_
    refine z_imul dX9_undo_44 ?_
    refine z_iload_n dX9_undo_45 1 rfl ?_
    refine z_iadd dX9_undo_46 ?_
    obtain ⟨k1, ek1, uk1, h⟩ := h
    refine z_iald2 (k0 := k1) shM_3 (by decide) ek1 uk1 dX9_undo_47 ?_
    obtain ⟨k2, ek2, uk2, h⟩ := h
    refine z_iast2 (k0 := k2) shM_1 (by decide) ek2 uk2 dX9_undo_48 ?_
    refine z_iinc (x := l1) (v := (l1 + 1)) [(1, .int (l1 + 1)), (0, .ref 0)] dX9_undo_49 1 rfl rfl (by decide) rfl ?_
    refine z_goto 21 dX9_undo_52 (by decide) ?_
    exact zW.sub [1, 0] rfl h
theorem dX9_deepens_0 : decode cX9_deepens 0 = .ok (.iload_n 3, 1) := by decide +kernel
theorem dX9_deepens_1 : decode cX9_deepens 1 = .ok (.bipush 9, 2) := by decide +kernel
theorem dX9_deepens_3 : decode cX9_deepens 3 = .ok (.aload_n 0, 1) := by decide +kernel
theorem dX9_deepens_4 : decode cX9_deepens 4 = .ok (.getfield 7, 3) := by decide +kernel
theorem dX9_deepens_7 : decode cX9_deepens 7 = .ok (.bipush 21, 2) := by decide +kernel
theorem dX9_deepens_9 : decode cX9_deepens 9 = .ok (.iload_n 2, 1) := by decide +kernel
theorem dX9_deepens_10 : decode cX9_deepens 10 = .ok (.iadd, 1) := by decide +kernel
theorem dX9_deepens_11 : decode cX9_deepens 11 = .ok (.iaload, 1) := by decide +kernel
theorem dX9_deepens_12 : decode cX9_deepens 12 = .ok (.isub, 1) := by decide +kernel
theorem dX9_deepens_13 : decode cX9_deepens 13 = .ok (.invokestatic 340, 3) := by decide +kernel
theorem dX9_deepens_16 : decode cX9_deepens 16 = .ok (.istore 6, 2) := by decide +kernel
theorem dX9_deepens_18 : decode cX9_deepens 18 = .ok (.aload_n 0, 1) := by decide +kernel
theorem dX9_deepens_19 : decode cX9_deepens 19 = .ok (.getfield 7, 3) := by decide +kernel
theorem dX9_deepens_22 : decode cX9_deepens 22 = .ok (.bipush 21, 2) := by decide +kernel
theorem dX9_deepens_24 : decode cX9_deepens 24 = .ok (.iload_n 2, 1) := by decide +kernel
theorem dX9_deepens_25 : decode cX9_deepens 25 = .ok (.iadd, 1) := by decide +kernel
theorem dX9_deepens_26 : decode cX9_deepens 26 = .ok (.dup2, 1) := by decide +kernel
theorem dX9_deepens_27 : decode cX9_deepens 27 = .ok (.iaload, 1) := by decide +kernel
theorem dX9_deepens_28 : decode cX9_deepens 28 = .ok (.iload 6, 2) := by decide +kernel
theorem dX9_deepens_30 : decode cX9_deepens 30 = .ok (.iadd, 1) := by decide +kernel
theorem dX9_deepens_31 : decode cX9_deepens 31 = .ok (.iastore, 1) := by decide +kernel
theorem dX9_deepens_32 : decode cX9_deepens 32 = .ok (.aload_n 0, 1) := by decide +kernel
theorem dX9_deepens_33 : decode cX9_deepens 33 = .ok (.getfield 7, 3) := by decide +kernel
theorem dX9_deepens_36 : decode cX9_deepens 36 = .ok (.bipush 85, 2) := by decide +kernel
theorem dX9_deepens_38 : decode cX9_deepens 38 = .ok (.iload_n 2, 1) := by decide +kernel
theorem dX9_deepens_39 : decode cX9_deepens 39 = .ok (.iadd, 1) := by decide +kernel
theorem dX9_deepens_40 : decode cX9_deepens 40 = .ok (.iload_n 1, 1) := by decide +kernel
theorem dX9_deepens_41 : decode cX9_deepens 41 = .ok (.iastore, 1) := by decide +kernel
theorem dX9_deepens_42 : decode cX9_deepens 42 = .ok (.iload 5, 2) := by decide +kernel
theorem dX9_deepens_44 : decode cX9_deepens 44 = .ok (.ifCond .eq 15, 3) := by decide +kernel
theorem dX9_deepens_47 : decode cX9_deepens 47 = .ok (.aload_n 0, 1) := by decide +kernel
theorem dX9_deepens_48 : decode cX9_deepens 48 = .ok (.getfield 7, 3) := by decide +kernel
theorem dX9_deepens_51 : decode cX9_deepens 51 = .ok (.iconst 2, 1) := by decide +kernel
theorem dX9_deepens_52 : decode cX9_deepens 52 = .ok (.iaload, 1) := by decide +kernel
theorem dX9_deepens_53 : decode cX9_deepens 53 = .ok (.sipush 150, 3) := by decide +kernel
theorem dX9_deepens_56 : decode cX9_deepens 56 = .ok (.if_icmp .ne 4, 3) := by decide +kernel
theorem dX9_deepens_59 : decode cX9_deepens 59 = .ok (.return_, 1) := by decide +kernel
theorem dX9_deepens_60 : decode cX9_deepens 60 = .ok (.sipush 566, 3) := by decide +kernel
theorem dX9_deepens_63 : decode cX9_deepens 63 = .ok (.iconst 5, 1) := by decide +kernel
theorem dX9_deepens_64 : decode cX9_deepens 64 = .ok (.aload_n 0, 1) := by decide +kernel
theorem dX9_deepens_65 : decode cX9_deepens 65 = .ok (.getfield 7, 3) := by decide +kernel
theorem dX9_deepens_68 : decode cX9_deepens 68 = .ok (.iconst 2, 1) := by decide +kernel
theorem dX9_deepens_69 : decode cX9_deepens 69 = .ok (.iaload, 1) := by decide +kernel
theorem dX9_deepens_70 : decode cX9_deepens 70 = .ok (.imul, 1) := by decide +kernel
theorem dX9_deepens_71 : decode cX9_deepens 71 = .ok (.iadd, 1) := by decide +kernel
theorem dX9_deepens_72 : decode cX9_deepens 72 = .ok (.istore 7, 2) := by decide +kernel
theorem dX9_deepens_74 : decode cX9_deepens 74 = .ok (.aload_n 0, 1) := by decide +kernel
theorem dX9_deepens_75 : decode cX9_deepens 75 = .ok (.getfield 7, 3) := by decide +kernel
theorem dX9_deepens_78 : decode cX9_deepens 78 = .ok (.iload 7, 2) := by decide +kernel
theorem dX9_deepens_80 : decode cX9_deepens 80 = .ok (.aload_n 0, 1) := by decide +kernel
theorem dX9_deepens_81 : decode cX9_deepens 81 = .ok (.getfield 7, 3) := by decide +kernel
theorem dX9_deepens_84 : decode cX9_deepens 84 = .ok (.iconst 0, 1) := by decide +kernel
theorem dX9_deepens_85 : decode cX9_deepens 85 = .ok (.iaload, 1) := by decide +kernel
theorem dX9_deepens_86 : decode cX9_deepens 86 = .ok (.iastore, 1) := by decide +kernel
theorem dX9_deepens_87 : decode cX9_deepens 87 = .ok (.aload_n 0, 1) := by decide +kernel
theorem dX9_deepens_88 : decode cX9_deepens 88 = .ok (.getfield 7, 3) := by decide +kernel
theorem dX9_deepens_91 : decode cX9_deepens 91 = .ok (.iload 7, 2) := by decide +kernel
theorem dX9_deepens_93 : decode cX9_deepens 93 = .ok (.iconst 1, 1) := by decide +kernel
theorem dX9_deepens_94 : decode cX9_deepens 94 = .ok (.iadd, 1) := by decide +kernel
theorem dX9_deepens_95 : decode cX9_deepens 95 = .ok (.iload_n 1, 1) := by decide +kernel
theorem dX9_deepens_96 : decode cX9_deepens 96 = .ok (.iastore, 1) := by decide +kernel
theorem dX9_deepens_97 : decode cX9_deepens 97 = .ok (.aload_n 0, 1) := by decide +kernel
theorem dX9_deepens_98 : decode cX9_deepens 98 = .ok (.getfield 7, 3) := by decide +kernel
theorem dX9_deepens_101 : decode cX9_deepens 101 = .ok (.iload 7, 2) := by decide +kernel
theorem dX9_deepens_103 : decode cX9_deepens 103 = .ok (.iconst 2, 1) := by decide +kernel
theorem dX9_deepens_104 : decode cX9_deepens 104 = .ok (.iadd, 1) := by decide +kernel
theorem dX9_deepens_105 : decode cX9_deepens 105 = .ok (.iload_n 2, 1) := by decide +kernel
theorem dX9_deepens_106 : decode cX9_deepens 106 = .ok (.iastore, 1) := by decide +kernel
theorem dX9_deepens_107 : decode cX9_deepens 107 = .ok (.aload_n 0, 1) := by decide +kernel
theorem dX9_deepens_108 : decode cX9_deepens 108 = .ok (.getfield 7, 3) := by decide +kernel
theorem dX9_deepens_111 : decode cX9_deepens 111 = .ok (.iload 7, 2) := by decide +kernel
theorem dX9_deepens_113 : decode cX9_deepens 113 = .ok (.iconst 3, 1) := by decide +kernel
theorem dX9_deepens_114 : decode cX9_deepens 114 = .ok (.iadd, 1) := by decide +kernel
theorem dX9_deepens_115 : decode cX9_deepens 115 = .ok (.iload 6, 2) := by decide +kernel
theorem dX9_deepens_117 : decode cX9_deepens 117 = .ok (.iastore, 1) := by decide +kernel
theorem dX9_deepens_118 : decode cX9_deepens 118 = .ok (.aload_n 0, 1) := by decide +kernel
theorem dX9_deepens_119 : decode cX9_deepens 119 = .ok (.getfield 7, 3) := by decide +kernel
theorem dX9_deepens_122 : decode cX9_deepens 122 = .ok (.iload 7, 2) := by decide +kernel
theorem dX9_deepens_124 : decode cX9_deepens 124 = .ok (.iconst 4, 1) := by decide +kernel
theorem dX9_deepens_125 : decode cX9_deepens 125 = .ok (.iadd, 1) := by decide +kernel
theorem dX9_deepens_126 : decode cX9_deepens 126 = .ok (.iload 4, 2) := by decide +kernel
theorem dX9_deepens_128 : decode cX9_deepens 128 = .ok (.iastore, 1) := by decide +kernel
theorem dX9_deepens_129 : decode cX9_deepens 129 = .ok (.aload_n 0, 1) := by decide +kernel
theorem dX9_deepens_130 : decode cX9_deepens 130 = .ok (.getfield 7, 3) := by decide +kernel
theorem dX9_deepens_133 : decode cX9_deepens 133 = .ok (.iconst 2, 1) := by decide +kernel
theorem dX9_deepens_134 : decode cX9_deepens 134 = .ok (.dup2, 1) := by decide +kernel
theorem dX9_deepens_135 : decode cX9_deepens 135 = .ok (.iaload, 1) := by decide +kernel
theorem dX9_deepens_136 : decode cX9_deepens 136 = .ok (.iconst 1, 1) := by decide +kernel
theorem dX9_deepens_137 : decode cX9_deepens 137 = .ok (.iadd, 1) := by decide +kernel
theorem dX9_deepens_138 : decode cX9_deepens 138 = .ok (.iastore, 1) := by decide +kernel
theorem dX9_deepens_139 : decode cX9_deepens 139 = .ok (.return_, 1) := by decide +kernel
set_option maxRecDepth 20000 in
theorem vX9_deepens {g : zG} {d : Nat} {Q : zM → Prop} {M : zM} {l1 : Int32} {l2 : Int32} {l3 : Int32} {l4 : Int32} {l5 : Bool} (h : ∃ k1 : Nat, (21 + l2) = iv k1 ∧ k1 < 2200 ∧ zCi shM g d mX9_lesser [.int l3, .int (9 - (M 1 k1))] M (fun x1 M1 => ∃ k2 : Nat, (85 + l2) = iv k2 ∧ k2 < 2200 ∧ (l5 = false → Q (zup (zup M1 1 k1 ((M1 1 k1) + x1)) 1 k2 l1)) ∧ (l5 = true → (¬ ((zup (zup M1 1 k1 ((M1 1 k1) + x1)) 1 k2 l1) 1 2) = 150 → ∀ v1 : Int32, v1 = (566 + (5 * ((zup (zup M1 1 k1 ((M1 1 k1) + x1)) 1 k2 l1) 1 2))) → ∃ k3 : Nat, v1 = iv k3 ∧ k3 < 2200 ∧ ∃ k4 : Nat, (v1 + 1) = iv k4 ∧ k4 < 2200 ∧ ∃ k5 : Nat, (v1 + 2) = iv k5 ∧ k5 < 2200 ∧ ∃ k6 : Nat, (v1 + 3) = iv k6 ∧ k6 < 2200 ∧ ∃ k7 : Nat, (v1 + 4) = iv k7 ∧ k7 < 2200 ∧ ∀ v2 : Int32, v2 = (((zup (zup (zup (zup (zup (zup (zup M1 1 k1 ((M1 1 k1) + x1)) 1 k2 l1) 1 k3 ((zup (zup M1 1 k1 ((M1 1 k1) + x1)) 1 k2 l1) 1 0)) 1 k4 l1) 1 k5 l2) 1 k6 x1) 1 k7 l4) 1 2) + 1) → ∀ N1 : zM, N1 = zup (zup (zup (zup (zup (zup (zup (zup M1 1 k1 ((M1 1 k1) + x1)) 1 k2 l1) 1 k3 ((zup (zup M1 1 k1 ((M1 1 k1) + x1)) 1 k2 l1) 1 0)) 1 k4 l1) 1 k5 l2) 1 k6 x1) 1 k7 l4) 1 2 v2 → Q N1) ∧ (((zup (zup M1 1 k1 ((M1 1 k1) + x1)) 1 k2 l1) 1 2) = 150 → Q (zup (zup M1 1 k1 ((M1 1 k1) + x1)) 1 k2 l1))))) : zCv shM g (d + 1) mX9_deepens [.ref 0, .int l1, .int l2, .int l3, .int l4, .int (zbI l5)] M Q := by
  refine zW.enter (by decide +kernel) (Nat.le_of_ble_eq_true rfl) ?_
  change zW shM g (d + 1) mX9_deepens (zv Q) 0 [(0, .ref 0), (1, .int l1), (2, .int l2), (3, .int l3), (4, .int l4), (5, .int (zbI l5))] [] M
  refine z_iload_n dX9_deepens_0 3 rfl ?_
  refine z_bipush (v := 9) dX9_deepens_1 (by decide) ?_
  refine z_aload_n dX9_deepens_3 0 rfl ?_
  refine z_getr shM_0 rfl flX9_7 dX9_deepens_4 ?_
  refine z_bipush (v := 21) dX9_deepens_7 (by decide) ?_
  refine z_iload_n dX9_deepens_9 2 rfl ?_
  refine z_iadd dX9_deepens_10 ?_
  obtain ⟨k1, ek1, uk1, h⟩ := h
  refine z_iald2 (k0 := k1) shM_1 (by decide) ek1 uk1 dX9_deepens_11 ?_
  refine z_isub dX9_deepens_12 ?_
  refine z_callS (m2 := mX9_lesser) (st := []) [.int l3, .int (9 - (M 1 k1))] okX9_lesser (Or.inl lkX9_340) rfl rfl (Nat.le_of_ble_eq_true rfl) dX9_deepens_13 (zgo_i h fun x1 M1 h => ?_)
  refine z_istore [(6, .int x1), (0, .ref 0), (1, .int l1), (2, .int l2), (3, .int l3), (4, .int l4), (5, .int (zbI l5))] dX9_deepens_16 (by decide) rfl ?_
  refine z_aload_n dX9_deepens_18 1 rfl ?_
  refine z_getr shM_0 rfl flX9_7 dX9_deepens_19 ?_
  refine z_bipush (v := 21) dX9_deepens_22 (by decide) ?_
  refine z_iload_n dX9_deepens_24 3 rfl ?_
  refine z_iadd dX9_deepens_25 ?_
  refine z_dup2 dX9_deepens_26 ?_
  refine z_iald2 (k0 := k1) shM_1 (by decide) ek1 uk1 dX9_deepens_27 ?_
  refine z_iload dX9_deepens_28 0 rfl ?_
  refine z_iadd dX9_deepens_30 ?_
  refine z_iast2 (k0 := k1) shM_1 (by decide) ek1 uk1 dX9_deepens_31 ?_
  refine z_aload_n dX9_deepens_32 1 rfl ?_
  refine z_getr shM_0 rfl flX9_7 dX9_deepens_33 ?_
  refine z_bipush (v := 85) dX9_deepens_36 (by decide) ?_
  refine z_iload_n dX9_deepens_38 3 rfl ?_
  refine z_iadd dX9_deepens_39 ?_
  refine z_iload_n dX9_deepens_40 2 rfl ?_
  obtain ⟨k2, ek2, uk2, h⟩ := h
  refine z_iast2 (k0 := k2) shM_1 (by decide) ek2 uk2 dX9_deepens_41 ?_
  refine z_iload dX9_deepens_42 6 rfl ?_
  refine z_ifb_eq 59 dX9_deepens_44 (by decide) (fun c1 => ?_) (fun c1 => ?_)
  · have h := h.1 c1
    exact z_vret (st := []) rfl dX9_deepens_59 ⟨rfl, h⟩
  · have h := h.2 c1
    refine z_aload_n dX9_deepens_47 1 rfl ?_
    refine z_getr shM_0 rfl flX9_7 dX9_deepens_48 ?_
    refine z_iconst (v := 2) dX9_deepens_51 (by decide) ?_
    refine z_iald2 (k0 := 2) shM_1 (by decide) (by decide) (by decide) dX9_deepens_52 ?_
    refine z_sipush (v := 150) dX9_deepens_53 (by decide) ?_
    refine z_icmp_ne 60 dX9_deepens_56 (by decide) (fun c2 => ?_) (fun c2 => ?_)
    · have h := h.1 c2
      refine z_sipush (v := 566) dX9_deepens_60 (by decide) ?_
      refine z_iconst (v := 5) dX9_deepens_63 (by decide) ?_
      refine z_aload_n dX9_deepens_64 1 rfl ?_
      refine z_getr shM_0 rfl flX9_7 dX9_deepens_65 ?_
      refine z_iconst (v := 2) dX9_deepens_68 (by decide) ?_
      refine z_iald2 (k0 := 2) shM_1 (by decide) (by decide) (by decide) dX9_deepens_69 ?_
      refine z_imul dX9_deepens_70 ?_
      refine z_iadd dX9_deepens_71 ?_
      obtain ⟨v1, ev1⟩ : ∃ y : Int32, y = (566 + (5 * ((zup (zup M1 1 k1 ((M1 1 k1) + x1)) 1 k2 l1) 1 2))) := ⟨_, rfl⟩
      refine z_topi v1 ev1 ?_
      have h := h v1 ev1
      refine z_istore [(7, .int v1), (6, .int x1), (0, .ref 0), (1, .int l1), (2, .int l2), (3, .int l3), (4, .int l4), (5, .int (zbI l5))] dX9_deepens_72 (by decide) rfl ?_
      refine z_aload_n dX9_deepens_74 2 rfl ?_
      refine z_getr shM_0 rfl flX9_7 dX9_deepens_75 ?_
      refine z_iload dX9_deepens_78 0 rfl ?_
      refine z_aload_n dX9_deepens_80 2 rfl ?_
      refine z_getr shM_0 rfl flX9_7 dX9_deepens_81 ?_
      refine z_iconst (v := 0) dX9_deepens_84 (by decide) ?_
      refine z_iald2 (k0 := 0) shM_1 (by decide) (by decide) (by decide) dX9_deepens_85 ?_
      obtain ⟨k3, ek3, uk3, h⟩ := h
      refine z_iast2 (k0 := k3) shM_1 (by decide) ek3 uk3 dX9_deepens_86 ?_
      refine z_aload_n dX9_deepens_87 2 rfl ?_
      refine z_getr shM_0 rfl flX9_7 dX9_deepens_88 ?_
      refine z_iload dX9_deepens_91 0 rfl ?_
      refine z_iconst (v := 1) dX9_deepens_93 (by decide) ?_
      refine z_iadd dX9_deepens_94 ?_
      refine z_iload_n dX9_deepens_95 3 rfl ?_
      obtain ⟨k4, ek4, uk4, h⟩ := h
      refine z_iast2 (k0 := k4) shM_1 (by decide) ek4 uk4 dX9_deepens_96 ?_
      refine z_aload_n dX9_deepens_97 2 rfl ?_
      refine z_getr shM_0 rfl flX9_7 dX9_deepens_98 ?_
      refine z_iload dX9_deepens_101 0 rfl ?_
      refine z_iconst (v := 2) dX9_deepens_103 (by decide) ?_
      refine z_iadd dX9_deepens_104 ?_
      refine z_iload_n dX9_deepens_105 4 rfl ?_
      obtain ⟨k5, ek5, uk5, h⟩ := h
      refine z_iast2 (k0 := k5) shM_1 (by decide) ek5 uk5 dX9_deepens_106 ?_
      refine z_aload_n dX9_deepens_107 2 rfl ?_
      refine z_getr shM_0 rfl flX9_7 dX9_deepens_108 ?_
      refine z_iload dX9_deepens_111 0 rfl ?_
      refine z_iconst (v := 3) dX9_deepens_113 (by decide) ?_
      refine z_iadd dX9_deepens_114 ?_
      refine z_iload dX9_deepens_115 1 rfl ?_
      obtain ⟨k6, ek6, uk6, h⟩ := h
      refine z_iast2 (k0 := k6) shM_1 (by decide) ek6 uk6 dX9_deepens_117 ?_
      refine z_aload_n dX9_deepens_118 2 rfl ?_
      refine z_getr shM_0 rfl flX9_7 dX9_deepens_119 ?_
      refine z_iload dX9_deepens_122 0 rfl ?_
      refine z_iconst (v := 4) dX9_deepens_124 (by decide) ?_
      refine z_iadd dX9_deepens_125 ?_
      refine z_iload dX9_deepens_126 6 rfl ?_
      obtain ⟨k7, ek7, uk7, h⟩ := h
      refine z_iast2 (k0 := k7) shM_1 (by decide) ek7 uk7 dX9_deepens_128 ?_
      refine z_aload_n dX9_deepens_129 2 rfl ?_
      refine z_getr shM_0 rfl flX9_7 dX9_deepens_130 ?_
      refine z_iconst (v := 2) dX9_deepens_133 (by decide) ?_
      refine z_dup2 dX9_deepens_134 ?_
      refine z_iald2 (k0 := 2) shM_1 (by decide) (by decide) (by decide) dX9_deepens_135 ?_
      refine z_iconst (v := 1) dX9_deepens_136 (by decide) ?_
      refine z_iadd dX9_deepens_137 ?_
      obtain ⟨v2, ev2⟩ : ∃ y : Int32, y = (((zup (zup (zup (zup (zup (zup (zup M1 1 k1 ((M1 1 k1) + x1)) 1 k2 l1) 1 k3 ((zup (zup M1 1 k1 ((M1 1 k1) + x1)) 1 k2 l1) 1 0)) 1 k4 l1) 1 k5 l2) 1 k6 x1) 1 k7 l4) 1 2) + 1) := ⟨_, rfl⟩
      refine z_topi v2 ev2 ?_
      have h := h v2 ev2
      refine z_iast2 (k0 := 2) shM_1 (by decide) (by decide) (by decide) dX9_deepens_138 ?_
      obtain ⟨N1, eN1⟩ : ∃ y : zM, y = zup (zup (zup (zup (zup (zup (zup (zup M1 1 k1 ((M1 1 k1) + x1)) 1 k2 l1) 1 k3 ((zup (zup M1 1 k1 ((M1 1 k1) + x1)) 1 k2 l1) 1 0)) 1 k4 l1) 1 k5 l2) 1 k6 x1) 1 k7 l4) 1 2 v2 := ⟨_, rfl⟩
      refine z_mem N1 eN1 ?_
      have h := h N1 eN1
      exact z_vret (st := []) rfl dX9_deepens_139 ⟨rfl, h⟩
    · have h := h.2 c2
      exact z_vret (st := []) rfl dX9_deepens_59 ⟨rfl, h⟩
theorem dX9_stepOf_0 : decode cX9_stepOf 0 = .ok (.aload_n 0, 1) := by decide +kernel
theorem dX9_stepOf_1 : decode cX9_stepOf 1 = .ok (.getfield 7, 3) := by decide +kernel
theorem dX9_stepOf_4 : decode cX9_stepOf 4 = .ok (.sipush 178, 3) := by decide +kernel
theorem dX9_stepOf_7 : decode cX9_stepOf 7 = .ok (.bipush 60, 2) := by decide +kernel
theorem dX9_stepOf_9 : decode cX9_stepOf 9 = .ok (.iload_n 1, 1) := by decide +kernel
theorem dX9_stepOf_10 : decode cX9_stepOf 10 = .ok (.imul, 1) := by decide +kernel
theorem dX9_stepOf_11 : decode cX9_stepOf 11 = .ok (.iadd, 1) := by decide +kernel
theorem dX9_stepOf_12 : decode cX9_stepOf 12 = .ok (.iload_n 2, 1) := by decide +kernel
theorem dX9_stepOf_13 : decode cX9_stepOf 13 = .ok (.iadd, 1) := by decide +kernel
theorem dX9_stepOf_14 : decode cX9_stepOf 14 = .ok (.iaload, 1) := by decide +kernel
theorem dX9_stepOf_15 : decode cX9_stepOf 15 = .ok (.ireturn, 1) := by decide +kernel
set_option maxRecDepth 20000 in
theorem vX9_stepOf {g : zG} {d : Nat} {Q : Int32 → zM → Prop} {M : zM} {l1 : Int32} {l2 : Int32} (h : ∃ k1 : Nat, ((178 + (60 * l1)) + l2) = iv k1 ∧ k1 < 2200 ∧ Q (M 1 k1) M) : zCi shM g d mX9_stepOf [.ref 0, .int l1, .int l2] M Q := by
  refine zW.enter (by decide +kernel) (Nat.le_of_ble_eq_true rfl) ?_
  change zW shM g d mX9_stepOf (zi Q) 0 [(0, .ref 0), (1, .int l1), (2, .int l2)] [] M
  refine z_aload_n dX9_stepOf_0 0 rfl ?_
  refine z_getr shM_0 rfl flX9_7 dX9_stepOf_1 ?_
  refine z_sipush (v := 178) dX9_stepOf_4 (by decide) ?_
  refine z_bipush (v := 60) dX9_stepOf_7 (by decide) ?_
  refine z_iload_n dX9_stepOf_9 1 rfl ?_
  refine z_imul dX9_stepOf_10 ?_
  refine z_iadd dX9_stepOf_11 ?_
  refine z_iload_n dX9_stepOf_12 2 rfl ?_
  refine z_iadd dX9_stepOf_13 ?_
  obtain ⟨k1, ek1, uk1, h⟩ := h
  refine z_iald2 (k0 := k1) shM_1 (by decide) ek1 uk1 dX9_stepOf_14 ?_
  exact z_iret (st := []) rfl rfl dX9_stepOf_15 ⟨_, rfl, h⟩
theorem dX9_wentTo_0 : decode cX9_wentTo 0 = .ok (.iload_n 1, 1) := by decide +kernel
theorem dX9_wentTo_1 : decode cX9_wentTo 1 = .ok (.bipush 8, 2) := by decide +kernel
theorem dX9_wentTo_3 : decode cX9_wentTo 3 = .ok (.irem, 1) := by decide +kernel
theorem dX9_wentTo_4 : decode cX9_wentTo 4 = .ok (.iload_n 2, 1) := by decide +kernel
theorem dX9_wentTo_5 : decode cX9_wentTo 5 = .ok (.iconst 1, 1) := by decide +kernel
theorem dX9_wentTo_6 : decode cX9_wentTo 6 = .ok (.if_icmp .ne 7, 3) := by decide +kernel
theorem dX9_wentTo_9 : decode cX9_wentTo 9 = .ok (.iconst 1, 1) := by decide +kernel
theorem dX9_wentTo_10 : decode cX9_wentTo 10 = .ok (.goto 13, 3) := by decide +kernel
theorem dX9_wentTo_13 : decode cX9_wentTo 13 = .ok (.iload_n 2, 1) := by decide +kernel
theorem dX9_wentTo_14 : decode cX9_wentTo 14 = .ok (.iconst 3, 1) := by decide +kernel
theorem dX9_wentTo_15 : decode cX9_wentTo 15 = .ok (.if_icmp .ne 7, 3) := by decide +kernel
theorem dX9_wentTo_18 : decode cX9_wentTo 18 = .ok (.iconst (-1), 1) := by decide +kernel
theorem dX9_wentTo_19 : decode cX9_wentTo 19 = .ok (.goto 4, 3) := by decide +kernel
theorem dX9_wentTo_22 : decode cX9_wentTo 22 = .ok (.iconst 0, 1) := by decide +kernel
theorem dX9_wentTo_23 : decode cX9_wentTo 23 = .ok (.iadd, 1) := by decide +kernel
theorem dX9_wentTo_24 : decode cX9_wentTo 24 = .ok (.istore_n 3, 1) := by decide +kernel
theorem dX9_wentTo_25 : decode cX9_wentTo 25 = .ok (.iload_n 1, 1) := by decide +kernel
theorem dX9_wentTo_26 : decode cX9_wentTo 26 = .ok (.bipush 8, 2) := by decide +kernel
theorem dX9_wentTo_28 : decode cX9_wentTo 28 = .ok (.idiv, 1) := by decide +kernel
theorem dX9_wentTo_29 : decode cX9_wentTo 29 = .ok (.iload_n 2, 1) := by decide +kernel
theorem dX9_wentTo_30 : decode cX9_wentTo 30 = .ok (.iconst 2, 1) := by decide +kernel
theorem dX9_wentTo_31 : decode cX9_wentTo 31 = .ok (.if_icmp .ne 7, 3) := by decide +kernel
theorem dX9_wentTo_34 : decode cX9_wentTo 34 = .ok (.iconst 1, 1) := by decide +kernel
theorem dX9_wentTo_35 : decode cX9_wentTo 35 = .ok (.goto 12, 3) := by decide +kernel
theorem dX9_wentTo_38 : decode cX9_wentTo 38 = .ok (.iload_n 2, 1) := by decide +kernel
theorem dX9_wentTo_39 : decode cX9_wentTo 39 = .ok (.ifCond .ne 7, 3) := by decide +kernel
theorem dX9_wentTo_42 : decode cX9_wentTo 42 = .ok (.iconst (-1), 1) := by decide +kernel
theorem dX9_wentTo_43 : decode cX9_wentTo 43 = .ok (.goto 4, 3) := by decide +kernel
theorem dX9_wentTo_46 : decode cX9_wentTo 46 = .ok (.iconst 0, 1) := by decide +kernel
theorem dX9_wentTo_47 : decode cX9_wentTo 47 = .ok (.iadd, 1) := by decide +kernel
theorem dX9_wentTo_48 : decode cX9_wentTo 48 = .ok (.istore 4, 2) := by decide +kernel
theorem dX9_wentTo_50 : decode cX9_wentTo 50 = .ok (.aload_n 0, 1) := by decide +kernel
theorem dX9_wentTo_51 : decode cX9_wentTo 51 = .ok (.iload_n 3, 1) := by decide +kernel
theorem dX9_wentTo_52 : decode cX9_wentTo 52 = .ok (.iload 4, 2) := by decide +kernel
theorem dX9_wentTo_54 : decode cX9_wentTo 54 = .ok (.invokevirtual 101, 3) := by decide +kernel
theorem dX9_wentTo_57 : decode cX9_wentTo 57 = .ok (.ifCond .eq 13, 3) := by decide +kernel
theorem dX9_wentTo_60 : decode cX9_wentTo 60 = .ok (.bipush 8, 2) := by decide +kernel
theorem dX9_wentTo_62 : decode cX9_wentTo 62 = .ok (.iload 4, 2) := by decide +kernel
theorem dX9_wentTo_64 : decode cX9_wentTo 64 = .ok (.imul, 1) := by decide +kernel
theorem dX9_wentTo_65 : decode cX9_wentTo 65 = .ok (.iload_n 3, 1) := by decide +kernel
theorem dX9_wentTo_66 : decode cX9_wentTo 66 = .ok (.iadd, 1) := by decide +kernel
theorem dX9_wentTo_67 : decode cX9_wentTo 67 = .ok (.goto 4, 3) := by decide +kernel
theorem dX9_wentTo_70 : decode cX9_wentTo 70 = .ok (.iload_n 1, 1) := by decide +kernel
theorem dX9_wentTo_71 : decode cX9_wentTo 71 = .ok (.ireturn, 1) := by decide +kernel
set_option maxRecDepth 20000 in
theorem vX9_wentTo {g : zG} {d : Nat} {Q : Int32 → zM → Prop} {M : zM} {l1 : Int32} {l2 : Int32} (h : (¬ l2 = 1 → (¬ l2 = 3 → zW shM g (d + 1) mX9_wentTo (zi Q) 23 [(0, .ref 0), (1, .int l1), (2, .int l2)] [.int 0, .int (l1 - l1 / 8 * 8)] M) ∧ (l2 = 3 → zW shM g (d + 1) mX9_wentTo (zi Q) 23 [(0, .ref 0), (1, .int l1), (2, .int l2)] [.int (-1), .int (l1 - l1 / 8 * 8)] M)) ∧ (l2 = 1 → zW shM g (d + 1) mX9_wentTo (zi Q) 23 [(0, .ref 0), (1, .int l1), (2, .int l2)] [.int 1, .int (l1 - l1 / 8 * 8)] M)) : zCi shM g (d + 1) mX9_wentTo [.ref 0, .int l1, .int l2] M Q := by
  refine zW.enter (by decide +kernel) (Nat.le_of_ble_eq_true rfl) ?_
  change zW shM g (d + 1) mX9_wentTo (zi Q) 0 [(0, .ref 0), (1, .int l1), (2, .int l2)] [] M
  refine z_iload_n dX9_wentTo_0 1 rfl ?_
  refine z_bipush (v := 8) dX9_wentTo_1 (by decide) ?_
  refine z_irem dX9_wentTo_3 (by decide) ?_
  refine z_iload_n dX9_wentTo_4 2 rfl ?_
  refine z_iconst (v := 1) dX9_wentTo_5 (by decide) ?_
  refine z_icmp_ne 13 dX9_wentTo_6 (by decide) (fun c1 => ?_) (fun c1 => ?_)
  · have h := h.1 c1
    refine z_iload_n dX9_wentTo_13 2 rfl ?_
    refine z_iconst (v := 3) dX9_wentTo_14 (by decide) ?_
    refine z_icmp_ne 22 dX9_wentTo_15 (by decide) (fun c2 => ?_) (fun c2 => ?_)
    · have h := h.1 c2
      refine z_iconst (v := 0) dX9_wentTo_22 (by decide) ?_
      exact h
    · have h := h.2 c2
      refine z_iconst (v := (-1)) dX9_wentTo_18 (by decide) ?_
      refine z_goto 23 dX9_wentTo_19 (by decide) ?_
      exact h
  · have h := h.2 c1
    refine z_iconst (v := 1) dX9_wentTo_9 (by decide) ?_
    refine z_goto 23 dX9_wentTo_10 (by decide) ?_
    exact h
set_option maxRecDepth 20000 in
theorem vX9_wentTo_23 {g : zG} {d : Nat} {Q : Int32 → zM → Prop} {M : zM} {l1 : Int32} {l2 : Int32} {s0 : Int32} {s1 : Int32} (h : (¬ l2 = 2 → (¬ l2 = 0 → zW shM g (d + 1) mX9_wentTo (zi Q) 47 [(0, .ref 0), (1, .int l1), (3, .int (s1 + s0))] [.int 0, .int (l1 / 8)] M) ∧ (l2 = 0 → zW shM g (d + 1) mX9_wentTo (zi Q) 47 [(0, .ref 0), (1, .int l1), (3, .int (s1 + s0))] [.int (-1), .int (l1 / 8)] M)) ∧ (l2 = 2 → zW shM g (d + 1) mX9_wentTo (zi Q) 47 [(0, .ref 0), (1, .int l1), (3, .int (s1 + s0))] [.int 1, .int (l1 / 8)] M)) : zW shM g (d + 1) mX9_wentTo (zi Q) 23 [(0, .ref 0), (1, .int l1), (2, .int l2)] [.int s0, .int s1] M := by
  refine z_iadd dX9_wentTo_23 ?_
  refine z_istore_n [(3, .int (s1 + s0)), (0, .ref 0), (1, .int l1), (2, .int l2)] dX9_wentTo_24 (by decide) rfl ?_
  refine z_iload_n dX9_wentTo_25 2 rfl ?_
  refine z_bipush (v := 8) dX9_wentTo_26 (by decide) ?_
  refine z_idiv dX9_wentTo_28 (by decide) ?_
  refine z_iload_n dX9_wentTo_29 3 rfl ?_
  refine z_iconst (v := 2) dX9_wentTo_30 (by decide) ?_
  refine z_icmp_ne 38 dX9_wentTo_31 (by decide) (fun c1 => ?_) (fun c1 => ?_)
  · have h := h.1 c1
    refine z_iload_n dX9_wentTo_38 3 rfl ?_
    refine z_if_ne 46 dX9_wentTo_39 (by decide) (fun c2 => ?_) (fun c2 => ?_)
    · have h := h.1 c2
      refine z_iconst (v := 0) dX9_wentTo_46 (by decide) ?_
      exact zW.sub [1, 2, 0] rfl h
    · have h := h.2 c2
      refine z_iconst (v := (-1)) dX9_wentTo_42 (by decide) ?_
      refine z_goto 47 dX9_wentTo_43 (by decide) ?_
      exact zW.sub [1, 2, 0] rfl h
  · have h := h.2 c1
    refine z_iconst (v := 1) dX9_wentTo_34 (by decide) ?_
    refine z_goto 47 dX9_wentTo_35 (by decide) ?_
    exact zW.sub [1, 2, 0] rfl h
set_option maxRecDepth 20000 in
theorem vX9_wentTo_47 {g : zG} {d : Nat} {Q : Int32 → zM → Prop} {M : zM} {l1 : Int32} {l3 : Int32} {s0 : Int32} {s1 : Int32} (h : zCz shM g d mX9_isAt [.ref 0, .int l3, .int (s1 + s0)] M (fun b1 M1 => (b1 = false → Q l1 M1) ∧ (b1 = true → Q ((8 * (s1 + s0)) + l3) M1))) : zW shM g (d + 1) mX9_wentTo (zi Q) 47 [(0, .ref 0), (1, .int l1), (3, .int l3)] [.int s0, .int s1] M := by
  refine z_iadd dX9_wentTo_47 ?_
  refine z_istore [(4, .int (s1 + s0)), (0, .ref 0), (1, .int l1), (3, .int l3)] dX9_wentTo_48 (by decide) rfl ?_
  refine z_aload_n dX9_wentTo_50 1 rfl ?_
  refine z_iload_n dX9_wentTo_51 3 rfl ?_
  refine z_iload dX9_wentTo_52 0 rfl ?_
  refine z_callV (m2 := mX9_isAt) (st := []) [.int l3, .int (s1 + s0)] okX9_isAt (Or.inl lkX9_101) shM_0 rfl rfl rfl (Nat.le_of_ble_eq_true rfl) dX9_wentTo_54 (zgo_z h fun b1 M1 h => ?_)
  refine z_ifb_eq 70 dX9_wentTo_57 (by decide) (fun c1 => ?_) (fun c1 => ?_)
  · have h := h.1 c1
    refine z_iload_n dX9_wentTo_70 2 rfl ?_
    exact z_iret (st := []) rfl rfl dX9_wentTo_71 ⟨_, rfl, h⟩
  · have h := h.2 c1
    refine z_bipush (v := 8) dX9_wentTo_60 (by decide) ?_
    refine z_iload dX9_wentTo_62 0 rfl ?_
    refine z_imul dX9_wentTo_64 ?_
    refine z_iload_n dX9_wentTo_65 3 rfl ?_
    refine z_iadd dX9_wentTo_66 ?_
    refine z_goto 71 dX9_wentTo_67 (by decide) ?_
    exact z_iret (st := []) rfl rfl dX9_wentTo_71 ⟨_, rfl, h⟩
