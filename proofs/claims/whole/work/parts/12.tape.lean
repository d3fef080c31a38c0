/-! THE WALKS, by program: 11.tape -/
theorem dX5_put_0 : decode cX5_put 0 = .ok (.bipush 24, 2) := by decide +kernel
theorem dX5_put_2 : decode cX5_put 2 = .ok (.istore_n 2, 1) := by decide +kernel
theorem dX5_put_3 : decode cX5_put 3 = .ok (.iload_n 2, 1) := by decide +kernel
theorem dX5_put_4 : decode cX5_put 4 = .ok (.ifCond .lt 45, 3) := by decide +kernel
theorem dX5_put_7 : decode cX5_put 7 = .ok (.aload_n 0, 1) := by decide +kernel
theorem dX5_put_8 : decode cX5_put 8 = .ok (.getfield 15, 3) := by decide +kernel
theorem dX5_put_11 : decode cX5_put 11 = .ok (.sipush 400, 3) := by decide +kernel
theorem dX5_put_14 : decode cX5_put 14 = .ok (.if_icmp .ge 35, 3) := by decide +kernel
theorem dX5_put_17 : decode cX5_put 17 = .ok (.aload_n 0, 1) := by decide +kernel
theorem dX5_put_18 : decode cX5_put 18 = .ok (.getfield 9, 3) := by decide +kernel
theorem dX5_put_21 : decode cX5_put 21 = .ok (.aload_n 0, 1) := by decide +kernel
theorem dX5_put_22 : decode cX5_put 22 = .ok (.getfield 15, 3) := by decide +kernel
theorem dX5_put_25 : decode cX5_put 25 = .ok (.iload_n 1, 1) := by decide +kernel
theorem dX5_put_26 : decode cX5_put 26 = .ok (.iload_n 2, 1) := by decide +kernel
theorem dX5_put_27 : decode cX5_put 27 = .ok (.ishr, 1) := by decide +kernel
theorem dX5_put_28 : decode cX5_put 28 = .ok (.sipush 255, 3) := by decide +kernel
theorem dX5_put_31 : decode cX5_put 31 = .ok (.iand, 1) := by decide +kernel
theorem dX5_put_32 : decode cX5_put 32 = .ok (.iastore, 1) := by decide +kernel
theorem dX5_put_33 : decode cX5_put 33 = .ok (.aload_n 0, 1) := by decide +kernel
theorem dX5_put_34 : decode cX5_put 34 = .ok (.dup, 1) := by decide +kernel
theorem dX5_put_35 : decode cX5_put 35 = .ok (.getfield 15, 3) := by decide +kernel
theorem dX5_put_38 : decode cX5_put 38 = .ok (.iconst 1, 1) := by decide +kernel
theorem dX5_put_39 : decode cX5_put 39 = .ok (.iadd, 1) := by decide +kernel
theorem dX5_put_40 : decode cX5_put 40 = .ok (.putfield 15, 3) := by decide +kernel
theorem dX5_put_43 : decode cX5_put 43 = .ok (.iinc 2 (-8), 3) := by decide +kernel
theorem dX5_put_46 : decode cX5_put 46 = .ok (.goto (-43), 3) := by decide +kernel
theorem dX5_put_49 : decode cX5_put 49 = .ok (.return_, 1) := by decide +kernel
set_option maxRecDepth 20000 in
theorem vX5_put {g : zG} {d : Nat} {Q : zM → Prop} {M : zM} {l1 : Int32} (h : zW shC g d mX5_put (zv Q) 3 [(0, .ref 98), (1, .int l1), (2, .int 24)] [] M) : zCv shC g d mX5_put [.ref 98, .int l1] M Q := by
  refine zW.enter (by decide +kernel) (Nat.le_of_ble_eq_true rfl) ?_
  change zW shC g d mX5_put (zv Q) 0 [(0, .ref 98), (1, .int l1)] [] M
  refine z_bipush (v := 24) dX5_put_0 (by decide) ?_
  refine z_istore_n [(2, .int 24), (0, .ref 98), (1, .int l1)] dX5_put_2 (by decide) rfl ?_
  exact zW.sub [1, 2, 0] rfl h
set_option maxRecDepth 20000 in
theorem vX5_put_3 {g : zG} {d : Nat} {Q : zM → Prop} {M : zM} {l1 : Int32} {l2 : Int32} (h : (l2 < 0 → Q M) ∧ (¬ l2 < 0 → (400 ≤ (M 98 1) → Q M) ∧ (¬ 400 ≤ (M 98 1) → ∃ k1 : Nat, (M 98 1) = iv k1 ∧ k1 < 400 ∧ ∀ v1 : Int32, v1 = (((zup M 99 k1 ((l1 >>> (l2 &&& 31)) &&& 255)) 98 1) + 1) → zW shC g d mX5_put (zv Q) 3 [(0, .ref 98), (1, .int l1), (2, .int (l2 + (-8)))] [] (zup (zup M 99 k1 ((l1 >>> (l2 &&& 31)) &&& 255)) 98 1 v1)))) : zW shC g d mX5_put (zv Q) 3 [(0, .ref 98), (1, .int l1), (2, .int l2)] [] M := by
  refine z_iload_n dX5_put_3 2 rfl ?_
  refine z_if_lt 49 dX5_put_4 (by decide) (fun c1 => ?_) (fun c1 => ?_)
  · have h := h.1 c1
    exact z_vret (st := []) rfl dX5_put_49 ⟨rfl, h⟩
  · have h := h.2 c1
    refine z_aload_n dX5_put_7 0 rfl ?_
    refine z_geti shC_98 rfl flX5_15 dX5_put_8 ?_
    refine z_sipush (v := 400) dX5_put_11 (by decide) ?_
    refine z_icmp_ge 49 dX5_put_14 (by decide) (fun c2 => ?_) (fun c2 => ?_)
    · have h := h.1 c2
      exact z_vret (st := []) rfl dX5_put_49 ⟨rfl, h⟩
    · have h := h.2 c2
      refine z_aload_n dX5_put_17 0 rfl ?_
      refine z_getr shC_98 rfl flX5_9 dX5_put_18 ?_
      refine z_aload_n dX5_put_21 0 rfl ?_
      refine z_geti shC_98 rfl flX5_15 dX5_put_22 ?_
      refine z_iload_n dX5_put_25 1 rfl ?_
      refine z_iload_n dX5_put_26 2 rfl ?_
      refine z_ishr dX5_put_27 ?_
      refine z_sipush (v := 255) dX5_put_28 (by decide) ?_
      refine z_iand dX5_put_31 ?_
      obtain ⟨k1, ek1, uk1, h⟩ := h
      refine z_iast2 (k0 := k1) shC_99 (by decide) ek1 uk1 dX5_put_32 ?_
      refine z_aload_n dX5_put_33 0 rfl ?_
      refine z_dupr dX5_put_34 ?_
      refine z_geti shC_98 rfl flX5_15 dX5_put_35 ?_
      refine z_iconst (v := 1) dX5_put_38 (by decide) ?_
      refine z_iadd dX5_put_39 ?_
      obtain ⟨v1, ev1⟩ : ∃ y : Int32, y = (((zup M 99 k1 ((l1 >>> (l2 &&& 31)) &&& 255)) 98 1) + 1) := ⟨_, rfl⟩
      refine z_topi v1 ev1 ?_
      have h := h v1 ev1
      refine z_puti shC_98 rfl fpX5_15 rfl rfl dX5_put_40 ?_
      refine z_iinc (x := l2) (v := (l2 + (-8))) [(2, .int (l2 + (-8))), (0, .ref 98), (1, .int l1)] dX5_put_43 2 rfl rfl (by decide) rfl ?_
      refine z_goto 3 dX5_put_46 (by decide) ?_
      exact zW.sub [1, 2, 0] rfl h
theorem dX5_begin_0 : decode cX5_begin 0 = .ok (.aload_n 0, 1) := by decide +kernel
theorem dX5_begin_1 : decode cX5_begin 1 = .ok (.iconst 0, 1) := by decide +kernel
theorem dX5_begin_2 : decode cX5_begin 2 = .ok (.putfield 31, 3) := by decide +kernel
theorem dX5_begin_5 : decode cX5_begin 5 = .ok (.aload_n 0, 1) := by decide +kernel
theorem dX5_begin_6 : decode cX5_begin 6 = .ok (.iconst (-1), 1) := by decide +kernel
theorem dX5_begin_7 : decode cX5_begin 7 = .ok (.putfield 34, 3) := by decide +kernel
theorem dX5_begin_10 : decode cX5_begin 10 = .ok (.aload_n 0, 1) := by decide +kernel
theorem dX5_begin_11 : decode cX5_begin 11 = .ok (.iconst 0, 1) := by decide +kernel
theorem dX5_begin_12 : decode cX5_begin 12 = .ok (.putfield 22, 3) := by decide +kernel
theorem dX5_begin_15 : decode cX5_begin 15 = .ok (.aload_n 0, 1) := by decide +kernel
theorem dX5_begin_16 : decode cX5_begin 16 = .ok (.invokevirtual 37, 3) := by decide +kernel
theorem dX5_begin_19 : decode cX5_begin 19 = .ok (.return_, 1) := by decide +kernel
set_option maxRecDepth 20000 in
theorem vX5_begin {g : zG} {d : Nat} {Q : zM → Prop} {M : zM} (h : zCv shC g d mX5_next [.ref 98] (zup (zup (zup M 98 6 0) 98 7 (-1)) 98 3 0) (fun  M1 => Q M1)) : zCv shC g (d + 1) mX5_begin [.ref 98] M Q := by
  refine zW.enter (by decide +kernel) (Nat.le_of_ble_eq_true rfl) ?_
  change zW shC g (d + 1) mX5_begin (zv Q) 0 [(0, .ref 98)] [] M
  refine z_aload_n dX5_begin_0 0 rfl ?_
  refine z_iconst (v := 0) dX5_begin_1 (by decide) ?_
  refine z_puti shC_98 rfl fpX5_31 rfl rfl dX5_begin_2 ?_
  refine z_aload_n dX5_begin_5 0 rfl ?_
  refine z_iconst (v := (-1)) dX5_begin_6 (by decide) ?_
  refine z_puti shC_98 rfl fpX5_34 rfl rfl dX5_begin_7 ?_
  refine z_aload_n dX5_begin_10 0 rfl ?_
  refine z_iconst (v := 0) dX5_begin_11 (by decide) ?_
  refine z_puti shC_98 rfl fpX5_22 rfl rfl dX5_begin_12 ?_
  refine z_aload_n dX5_begin_15 0 rfl ?_
  refine z_callV (m2 := mX5_next) (st := []) [] okX5_next (Or.inl lkX5_37) shC_98 rfl rfl rfl (Nat.le_of_ble_eq_true rfl) dX5_begin_16 (zgo_v h fun  M1 h => ?_)
  exact z_vret (st := []) rfl dX5_begin_19 ⟨rfl, h⟩
theorem dX5_next_0 : decode cX5_next 0 = .ok (.aload_n 0, 1) := by decide +kernel
theorem dX5_next_1 : decode cX5_next 1 = .ok (.getfield 22, 3) := by decide +kernel
theorem dX5_next_4 : decode cX5_next 4 = .ok (.istore_n 1, 1) := by decide +kernel
theorem dX5_next_5 : decode cX5_next 5 = .ok (.iload_n 1, 1) := by decide +kernel
theorem dX5_next_6 : decode cX5_next 6 = .ok (.aload_n 0, 1) := by decide +kernel
theorem dX5_next_7 : decode cX5_next 7 = .ok (.getfield 15, 3) := by decide +kernel
theorem dX5_next_10 : decode cX5_next 10 = .ok (.if_icmp .ge 22, 3) := by decide +kernel
theorem dX5_next_13 : decode cX5_next 13 = .ok (.aload_n 0, 1) := by decide +kernel
theorem dX5_next_14 : decode cX5_next 14 = .ok (.getfield 9, 3) := by decide +kernel
theorem dX5_next_17 : decode cX5_next 17 = .ok (.iload_n 1, 1) := by decide +kernel
theorem dX5_next_18 : decode cX5_next 18 = .ok (.iaload, 1) := by decide +kernel
theorem dX5_next_19 : decode cX5_next 19 = .ok (.invokestatic 40, 3) := by decide +kernel
theorem dX5_next_22 : decode cX5_next 22 = .ok (.iconst 4, 1) := by decide +kernel
theorem dX5_next_23 : decode cX5_next 23 = .ok (.if_icmp .ne 9, 3) := by decide +kernel
theorem dX5_next_26 : decode cX5_next 26 = .ok (.iinc 1 1, 3) := by decide +kernel
theorem dX5_next_29 : decode cX5_next 29 = .ok (.goto (-24), 3) := by decide +kernel
theorem dX5_next_32 : decode cX5_next 32 = .ok (.aload_n 0, 1) := by decide +kernel
theorem dX5_next_33 : decode cX5_next 33 = .ok (.iload_n 1, 1) := by decide +kernel
theorem dX5_next_34 : decode cX5_next 34 = .ok (.putfield 19, 3) := by decide +kernel
theorem dX5_next_37 : decode cX5_next 37 = .ok (.aload_n 0, 1) := by decide +kernel
theorem dX5_next_38 : decode cX5_next 38 = .ok (.iload_n 1, 1) := by decide +kernel
theorem dX5_next_39 : decode cX5_next 39 = .ok (.aload_n 0, 1) := by decide +kernel
theorem dX5_next_40 : decode cX5_next 40 = .ok (.getfield 15, 3) := by decide +kernel
theorem dX5_next_43 : decode cX5_next 43 = .ok (.if_icmp .ge 15, 3) := by decide +kernel
theorem dX5_next_46 : decode cX5_next 46 = .ok (.aload_n 0, 1) := by decide +kernel
theorem dX5_next_47 : decode cX5_next 47 = .ok (.getfield 9, 3) := by decide +kernel
theorem dX5_next_50 : decode cX5_next 50 = .ok (.iload_n 1, 1) := by decide +kernel
theorem dX5_next_51 : decode cX5_next 51 = .ok (.iaload, 1) := by decide +kernel
theorem dX5_next_52 : decode cX5_next 52 = .ok (.invokestatic 40, 3) := by decide +kernel
theorem dX5_next_55 : decode cX5_next 55 = .ok (.goto 4, 3) := by decide +kernel
theorem dX5_next_58 : decode cX5_next 58 = .ok (.iconst 0, 1) := by decide +kernel
theorem dX5_next_59 : decode cX5_next 59 = .ok (.putfield 25, 3) := by decide +kernel
theorem dX5_next_62 : decode cX5_next 62 = .ok (.aload_n 0, 1) := by decide +kernel
theorem dX5_next_63 : decode cX5_next 63 = .ok (.aload_n 0, 1) := by decide +kernel
theorem dX5_next_64 : decode cX5_next 64 = .ok (.getfield 25, 3) := by decide +kernel
theorem dX5_next_67 : decode cX5_next 67 = .ok (.iconst 3, 1) := by decide +kernel
theorem dX5_next_68 : decode cX5_next 68 = .ok (.if_icmp .ne 12, 3) := by decide +kernel
theorem dX5_next_71 : decode cX5_next 71 = .ok (.aload_n 0, 1) := by decide +kernel
theorem dX5_next_72 : decode cX5_next 72 = .ok (.getfield 9, 3) := by decide +kernel
theorem dX5_next_75 : decode cX5_next 75 = .ok (.iload_n 1, 1) := by decide +kernel
theorem dX5_next_76 : decode cX5_next 76 = .ok (.iaload, 1) := by decide +kernel
theorem dX5_next_77 : decode cX5_next 77 = .ok (.goto 4, 3) := by decide +kernel
theorem dX5_next_80 : decode cX5_next 80 = .ok (.iconst 0, 1) := by decide +kernel
theorem dX5_next_81 : decode cX5_next 81 = .ok (.putfield 28, 3) := by decide +kernel
theorem dX5_next_84 : decode cX5_next 84 = .ok (.aload_n 0, 1) := by decide +kernel
theorem dX5_next_85 : decode cX5_next 85 = .ok (.aload_n 0, 1) := by decide +kernel
theorem dX5_next_86 : decode cX5_next 86 = .ok (.getfield 25, 3) := by decide +kernel
theorem dX5_next_89 : decode cX5_next 89 = .ok (.iconst 3, 1) := by decide +kernel
theorem dX5_next_90 : decode cX5_next 90 = .ok (.if_icmp .ne 9, 3) := by decide +kernel
theorem dX5_next_93 : decode cX5_next 93 = .ok (.iload_n 1, 1) := by decide +kernel
theorem dX5_next_94 : decode cX5_next 94 = .ok (.iconst 1, 1) := by decide +kernel
theorem dX5_next_95 : decode cX5_next 95 = .ok (.iadd, 1) := by decide +kernel
theorem dX5_next_96 : decode cX5_next 96 = .ok (.goto 4, 3) := by decide +kernel
theorem dX5_next_99 : decode cX5_next 99 = .ok (.iload_n 1, 1) := by decide +kernel
theorem dX5_next_100 : decode cX5_next 100 = .ok (.putfield 22, 3) := by decide +kernel
theorem dX5_next_103 : decode cX5_next 103 = .ok (.aload_n 0, 1) := by decide +kernel
theorem dX5_next_104 : decode cX5_next 104 = .ok (.getfield 25, 3) := by decide +kernel
theorem dX5_next_107 : decode cX5_next 107 = .ok (.iconst 3, 1) := by decide +kernel
theorem dX5_next_108 : decode cX5_next 108 = .ok (.if_icmp .eq 82, 3) := by decide +kernel
theorem dX5_next_111 : decode cX5_next 111 = .ok (.aload_n 0, 1) := by decide +kernel
theorem dX5_next_112 : decode cX5_next 112 = .ok (.getfield 22, 3) := by decide +kernel
theorem dX5_next_115 : decode cX5_next 115 = .ok (.aload_n 0, 1) := by decide +kernel
theorem dX5_next_116 : decode cX5_next 116 = .ok (.getfield 15, 3) := by decide +kernel
theorem dX5_next_119 : decode cX5_next 119 = .ok (.if_icmp .ge 71, 3) := by decide +kernel
theorem dX5_next_122 : decode cX5_next 122 = .ok (.aload_n 0, 1) := by decide +kernel
theorem dX5_next_123 : decode cX5_next 123 = .ok (.getfield 9, 3) := by decide +kernel
theorem dX5_next_126 : decode cX5_next 126 = .ok (.aload_n 0, 1) := by decide +kernel
theorem dX5_next_127 : decode cX5_next 127 = .ok (.getfield 22, 3) := by decide +kernel
theorem dX5_next_130 : decode cX5_next 130 = .ok (.iaload, 1) := by decide +kernel
theorem dX5_next_131 : decode cX5_next 131 = .ok (.invokestatic 40, 3) := by decide +kernel
theorem dX5_next_134 : decode cX5_next 134 = .ok (.aload_n 0, 1) := by decide +kernel
theorem dX5_next_135 : decode cX5_next 135 = .ok (.getfield 25, 3) := by decide +kernel
theorem dX5_next_138 : decode cX5_next 138 = .ok (.if_icmp .ne 52, 3) := by decide +kernel
theorem dX5_next_141 : decode cX5_next 141 = .ok (.aload_n 0, 1) := by decide +kernel
theorem dX5_next_142 : decode cX5_next 142 = .ok (.aload_n 0, 1) := by decide +kernel
theorem dX5_next_143 : decode cX5_next 143 = .ok (.getfield 25, 3) := by decide +kernel
theorem dX5_next_146 : decode cX5_next 146 = .ok (.iconst 2, 1) := by decide +kernel
theorem dX5_next_147 : decode cX5_next 147 = .ok (.if_icmp .ne 26, 3) := by decide +kernel
theorem dX5_next_150 : decode cX5_next 150 = .ok (.aload_n 0, 1) := by decide +kernel
theorem dX5_next_151 : decode cX5_next 151 = .ok (.getfield 28, 3) := by decide +kernel
theorem dX5_next_154 : decode cX5_next 154 = .ok (.bipush 10, 2) := by decide +kernel
theorem dX5_next_156 : decode cX5_next 156 = .ok (.imul, 1) := by decide +kernel
theorem dX5_next_157 : decode cX5_next 157 = .ok (.aload_n 0, 1) := by decide +kernel
theorem dX5_next_158 : decode cX5_next 158 = .ok (.getfield 9, 3) := by decide +kernel
theorem dX5_next_161 : decode cX5_next 161 = .ok (.aload_n 0, 1) := by decide +kernel
theorem dX5_next_162 : decode cX5_next 162 = .ok (.getfield 22, 3) := by decide +kernel
theorem dX5_next_165 : decode cX5_next 165 = .ok (.iaload, 1) := by decide +kernel
theorem dX5_next_166 : decode cX5_next 166 = .ok (.iadd, 1) := by decide +kernel
theorem dX5_next_167 : decode cX5_next 167 = .ok (.bipush 48, 2) := by decide +kernel
theorem dX5_next_169 : decode cX5_next 169 = .ok (.isub, 1) := by decide +kernel
theorem dX5_next_170 : decode cX5_next 170 = .ok (.goto 4, 3) := by decide +kernel
theorem dX5_next_173 : decode cX5_next 173 = .ok (.iconst 0, 1) := by decide +kernel
theorem dX5_next_174 : decode cX5_next 174 = .ok (.putfield 28, 3) := by decide +kernel
theorem dX5_next_177 : decode cX5_next 177 = .ok (.aload_n 0, 1) := by decide +kernel
theorem dX5_next_178 : decode cX5_next 178 = .ok (.dup, 1) := by decide +kernel
theorem dX5_next_179 : decode cX5_next 179 = .ok (.getfield 22, 3) := by decide +kernel
theorem dX5_next_182 : decode cX5_next 182 = .ok (.iconst 1, 1) := by decide +kernel
theorem dX5_next_183 : decode cX5_next 183 = .ok (.iadd, 1) := by decide +kernel
theorem dX5_next_184 : decode cX5_next 184 = .ok (.putfield 22, 3) := by decide +kernel
theorem dX5_next_187 : decode cX5_next 187 = .ok (.goto (-84), 3) := by decide +kernel
theorem dX5_next_190 : decode cX5_next 190 = .ok (.aload_n 0, 1) := by decide +kernel
theorem dX5_next_191 : decode cX5_next 191 = .ok (.getfield 25, 3) := by decide +kernel
theorem dX5_next_194 : decode cX5_next 194 = .ok (.iconst 2, 1) := by decide +kernel
theorem dX5_next_195 : decode cX5_next 195 = .ok (.if_icmp .ne 21, 3) := by decide +kernel
theorem dX5_next_198 : decode cX5_next 198 = .ok (.aload_n 0, 1) := by decide +kernel
theorem dX5_next_199 : decode cX5_next 199 = .ok (.getfield 22, 3) := by decide +kernel
theorem dX5_next_202 : decode cX5_next 202 = .ok (.aload_n 0, 1) := by decide +kernel
theorem dX5_next_203 : decode cX5_next 203 = .ok (.getfield 19, 3) := by decide +kernel
theorem dX5_next_206 : decode cX5_next 206 = .ok (.isub, 1) := by decide +kernel
theorem dX5_next_207 : decode cX5_next 207 = .ok (.iconst 4, 1) := by decide +kernel
theorem dX5_next_208 : decode cX5_next 208 = .ok (.if_icmp .le 8, 3) := by decide +kernel
theorem dX5_next_211 : decode cX5_next 211 = .ok (.aload_n 0, 1) := by decide +kernel
theorem dX5_next_212 : decode cX5_next 212 = .ok (.iconst 5, 1) := by decide +kernel
theorem dX5_next_213 : decode cX5_next 213 = .ok (.putfield 25, 3) := by decide +kernel
theorem dX5_next_216 : decode cX5_next 216 = .ok (.return_, 1) := by decide +kernel
set_option maxRecDepth 20000 in
theorem vX5_next {g : zG} {d : Nat} {Q : zM → Prop} {M : zM} (h : zW shC g (d + 1) mX5_next (zv Q) 5 [(0, .ref 98), (1, .int (M 98 3))] [] M) : zCv shC g (d + 1) mX5_next [.ref 98] M Q := by
  refine zW.enter (by decide +kernel) (Nat.le_of_ble_eq_true rfl) ?_
  change zW shC g (d + 1) mX5_next (zv Q) 0 [(0, .ref 98)] [] M
  refine z_aload_n dX5_next_0 0 rfl ?_
  refine z_geti shC_98 rfl flX5_22 dX5_next_1 ?_
  refine z_istore_n [(1, .int (M 98 3)), (0, .ref 98)] dX5_next_4 (by decide) rfl ?_
  exact zW.sub [1, 0] rfl h
set_option maxRecDepth 20000 in
theorem vX5_next_5 {g : zG} {d : Nat} {Q : zM → Prop} {M : zM} {l1 : Int32} (h : ((M 98 1) ≤ l1 → zW shC g (d + 1) mX5_next (zv Q) 32 [(0, .ref 98), (1, .int l1)] [] M) ∧ (¬ (M 98 1) ≤ l1 → ∃ k1 : Nat, l1 = iv k1 ∧ k1 < 400 ∧ zCi shC g d mX5_kindOf [.int (M 99 k1)] M (fun x1 M1 => (¬ x1 = 4 → zW shC g (d + 1) mX5_next (zv Q) 32 [(0, .ref 98), (1, .int l1)] [] M1) ∧ (x1 = 4 → zW shC g (d + 1) mX5_next (zv Q) 5 [(0, .ref 98), (1, .int (l1 + 1))] [] M1)))) : zW shC g (d + 1) mX5_next (zv Q) 5 [(0, .ref 98), (1, .int l1)] [] M := by
  refine z_iload_n dX5_next_5 1 rfl ?_
  refine z_aload_n dX5_next_6 0 rfl ?_
  refine z_geti shC_98 rfl flX5_15 dX5_next_7 ?_
  refine z_icmp_ge 32 dX5_next_10 (by decide) (fun c1 => ?_) (fun c1 => ?_)
  · have h := h.1 c1
    exact h
  · have h := h.2 c1
    refine z_aload_n dX5_next_13 0 rfl ?_
    refine z_getr shC_98 rfl flX5_9 dX5_next_14 ?_
    refine z_iload_n dX5_next_17 1 rfl ?_
    obtain ⟨k1, ek1, uk1, h⟩ := h
    refine z_iald2 (k0 := k1) shC_99 (by decide) ek1 uk1 dX5_next_18 ?_
    refine z_callS (m2 := mX5_kindOf) (st := []) [.int (M 99 k1)] okX5_kindOf (Or.inl lkX5_40) rfl rfl (Nat.le_of_ble_eq_true rfl) dX5_next_19 (zgo_i h fun x1 M1 h => ?_)
    refine z_iconst (v := 4) dX5_next_22 (by decide) ?_
    refine z_icmp_ne 32 dX5_next_23 (by decide) (fun c2 => ?_) (fun c2 => ?_)
    · have h := h.1 c2
      exact h
    · have h := h.2 c2
      refine z_iinc (x := l1) (v := (l1 + 1)) [(1, .int (l1 + 1)), (0, .ref 98)] dX5_next_26 1 rfl rfl (by decide) rfl ?_
      refine z_goto 5 dX5_next_29 (by decide) ?_
      exact zW.sub [1, 0] rfl h
set_option maxRecDepth 20000 in
theorem vX5_next_32 {g : zG} {d : Nat} {Q : zM → Prop} {M : zM} {l1 : Int32} (h : (((zup M 98 2 l1) 98 1) ≤ l1 → zW shC g (d + 1) mX5_next (zv Q) 59 [(0, .ref 98), (1, .int l1)] [.int 0, .ref 98] (zup M 98 2 l1)) ∧ (¬ ((zup M 98 2 l1) 98 1) ≤ l1 → ∃ k1 : Nat, l1 = iv k1 ∧ k1 < 400 ∧ zCi shC g d mX5_kindOf [.int ((zup M 98 2 l1) 99 k1)] (zup M 98 2 l1) (fun x1 M1 => zW shC g (d + 1) mX5_next (zv Q) 59 [(0, .ref 98), (1, .int l1)] [.int x1, .ref 98] M1))) : zW shC g (d + 1) mX5_next (zv Q) 32 [(0, .ref 98), (1, .int l1)] [] M := by
  refine z_aload_n dX5_next_32 0 rfl ?_
  refine z_iload_n dX5_next_33 1 rfl ?_
  refine z_puti shC_98 rfl fpX5_19 rfl rfl dX5_next_34 ?_
  refine z_aload_n dX5_next_37 0 rfl ?_
  refine z_iload_n dX5_next_38 1 rfl ?_
  refine z_aload_n dX5_next_39 0 rfl ?_
  refine z_geti shC_98 rfl flX5_15 dX5_next_40 ?_
  refine z_icmp_ge 58 dX5_next_43 (by decide) (fun c1 => ?_) (fun c1 => ?_)
  · have h := h.1 c1
    refine z_iconst (v := 0) dX5_next_58 (by decide) ?_
    exact h
  · have h := h.2 c1
    refine z_aload_n dX5_next_46 0 rfl ?_
    refine z_getr shC_98 rfl flX5_9 dX5_next_47 ?_
    refine z_iload_n dX5_next_50 1 rfl ?_
    obtain ⟨k1, ek1, uk1, h⟩ := h
    refine z_iald2 (k0 := k1) shC_99 (by decide) ek1 uk1 dX5_next_51 ?_
    refine z_callS (m2 := mX5_kindOf) (st := [.ref 98]) [.int ((zup M 98 2 l1) 99 k1)] okX5_kindOf (Or.inl lkX5_40) rfl rfl (Nat.le_of_ble_eq_true rfl) dX5_next_52 (zgo_i h fun x1 M1 h => ?_)
    refine z_goto 59 dX5_next_55 (by decide) ?_
    exact h
set_option maxRecDepth 20000 in
theorem vX5_next_59 {g : zG} {d : Nat} {Q : zM → Prop} {M : zM} {l1 : Int32} {s0 : Int32} (h : (¬ ((zup M 98 4 s0) 98 4) = 3 → zW shC g (d + 1) mX5_next (zv Q) 81 [(0, .ref 98), (1, .int l1)] [.int 0, .ref 98] (zup M 98 4 s0)) ∧ (((zup M 98 4 s0) 98 4) = 3 → ∃ k1 : Nat, l1 = iv k1 ∧ k1 < 400 ∧ zW shC g (d + 1) mX5_next (zv Q) 81 [(0, .ref 98), (1, .int l1)] [.int ((zup M 98 4 s0) 99 k1), .ref 98] (zup M 98 4 s0))) : zW shC g (d + 1) mX5_next (zv Q) 59 [(0, .ref 98), (1, .int l1)] [.int s0, .ref 98] M := by
  refine z_puti shC_98 rfl fpX5_25 rfl rfl dX5_next_59 ?_
  refine z_aload_n dX5_next_62 0 rfl ?_
  refine z_aload_n dX5_next_63 0 rfl ?_
  refine z_geti shC_98 rfl flX5_25 dX5_next_64 ?_
  refine z_iconst (v := 3) dX5_next_67 (by decide) ?_
  refine z_icmp_ne 80 dX5_next_68 (by decide) (fun c1 => ?_) (fun c1 => ?_)
  · have h := h.1 c1
    refine z_iconst (v := 0) dX5_next_80 (by decide) ?_
    exact h
  · have h := h.2 c1
    refine z_aload_n dX5_next_71 0 rfl ?_
    refine z_getr shC_98 rfl flX5_9 dX5_next_72 ?_
    refine z_iload_n dX5_next_75 1 rfl ?_
    obtain ⟨k1, ek1, uk1, h⟩ := h
    refine z_iald2 (k0 := k1) shC_99 (by decide) ek1 uk1 dX5_next_76 ?_
    refine z_goto 81 dX5_next_77 (by decide) ?_
    exact h
set_option maxRecDepth 20000 in
theorem vX5_next_81 {g : zG} {d : Nat} {Q : zM → Prop} {M : zM} {l1 : Int32} {s0 : Int32} (h : (¬ ((zup M 98 5 s0) 98 4) = 3 → zW shC g (d + 1) mX5_next (zv Q) 103 [(0, .ref 98)] [] (zup (zup M 98 5 s0) 98 3 l1)) ∧ (((zup M 98 5 s0) 98 4) = 3 → zW shC g (d + 1) mX5_next (zv Q) 103 [(0, .ref 98)] [] (zup (zup M 98 5 s0) 98 3 (l1 + 1)))) : zW shC g (d + 1) mX5_next (zv Q) 81 [(0, .ref 98), (1, .int l1)] [.int s0, .ref 98] M := by
  refine z_puti shC_98 rfl fpX5_28 rfl rfl dX5_next_81 ?_
  refine z_aload_n dX5_next_84 0 rfl ?_
  refine z_aload_n dX5_next_85 0 rfl ?_
  refine z_geti shC_98 rfl flX5_25 dX5_next_86 ?_
  refine z_iconst (v := 3) dX5_next_89 (by decide) ?_
  refine z_icmp_ne 99 dX5_next_90 (by decide) (fun c1 => ?_) (fun c1 => ?_)
  · have h := h.1 c1
    refine z_iload_n dX5_next_99 1 rfl ?_
    refine z_puti shC_98 rfl fpX5_22 rfl rfl dX5_next_100 ?_
    exact zW.sub [0] rfl h
  · have h := h.2 c1
    refine z_iload_n dX5_next_93 1 rfl ?_
    refine z_iconst (v := 1) dX5_next_94 (by decide) ?_
    refine z_iadd dX5_next_95 ?_
    refine z_goto 100 dX5_next_96 (by decide) ?_
    refine z_puti shC_98 rfl fpX5_22 rfl rfl dX5_next_100 ?_
    exact zW.sub [0] rfl h
set_option maxRecDepth 20000 in
theorem vX5_next_103 {g : zG} {d : Nat} {Q : zM → Prop} {M : zM} (h : ((M 98 4) = 3 → zW shC g (d + 1) mX5_next (zv Q) 190 [(0, .ref 98)] [] M) ∧ (¬ (M 98 4) = 3 → ((M 98 1) ≤ (M 98 3) → zW shC g (d + 1) mX5_next (zv Q) 190 [(0, .ref 98)] [] M) ∧ (¬ (M 98 1) ≤ (M 98 3) → ∃ k1 : Nat, (M 98 3) = iv k1 ∧ k1 < 400 ∧ zCi shC g d mX5_kindOf [.int (M 99 k1)] M (fun x1 M1 => (¬ x1 = (M1 98 4) → zW shC g (d + 1) mX5_next (zv Q) 190 [(0, .ref 98)] [] M1) ∧ (x1 = (M1 98 4) → (¬ (M1 98 4) = 2 → zW shC g (d + 1) mX5_next (zv Q) 103 [(0, .ref 98)] [] (zup (zup M1 98 5 0) 98 3 (((zup M1 98 5 0) 98 3) + 1))) ∧ ((M1 98 4) = 2 → ∃ k2 : Nat, (M1 98 3) = iv k2 ∧ k2 < 400 ∧ ∀ v1 : Int32, v1 = (((zup M1 98 5 ((((M1 98 5) * 10) + (M1 99 k2)) - 48)) 98 3) + 1) → zW shC g (d + 1) mX5_next (zv Q) 103 [(0, .ref 98)] [] (zup (zup M1 98 5 ((((M1 98 5) * 10) + (M1 99 k2)) - 48)) 98 3 v1))))))) : zW shC g (d + 1) mX5_next (zv Q) 103 [(0, .ref 98)] [] M := by
  refine z_aload_n dX5_next_103 0 rfl ?_
  refine z_geti shC_98 rfl flX5_25 dX5_next_104 ?_
  refine z_iconst (v := 3) dX5_next_107 (by decide) ?_
  refine z_icmp_eq 190 dX5_next_108 (by decide) (fun c1 => ?_) (fun c1 => ?_)
  · have h := h.1 c1
    exact h
  · have h := h.2 c1
    refine z_aload_n dX5_next_111 0 rfl ?_
    refine z_geti shC_98 rfl flX5_22 dX5_next_112 ?_
    refine z_aload_n dX5_next_115 0 rfl ?_
    refine z_geti shC_98 rfl flX5_15 dX5_next_116 ?_
    refine z_icmp_ge 190 dX5_next_119 (by decide) (fun c2 => ?_) (fun c2 => ?_)
    · have h := h.1 c2
      exact h
    · have h := h.2 c2
      refine z_aload_n dX5_next_122 0 rfl ?_
      refine z_getr shC_98 rfl flX5_9 dX5_next_123 ?_
      refine z_aload_n dX5_next_126 0 rfl ?_
      refine z_geti shC_98 rfl flX5_22 dX5_next_127 ?_
      obtain ⟨k1, ek1, uk1, h⟩ := h
      refine z_iald2 (k0 := k1) shC_99 (by decide) ek1 uk1 dX5_next_130 ?_
      refine z_callS (m2 := mX5_kindOf) (st := []) [.int (M 99 k1)] okX5_kindOf (Or.inl lkX5_40) rfl rfl (Nat.le_of_ble_eq_true rfl) dX5_next_131 (zgo_i h fun x1 M1 h => ?_)
      refine z_aload_n dX5_next_134 0 rfl ?_
      refine z_geti shC_98 rfl flX5_25 dX5_next_135 ?_
      refine z_icmp_ne 190 dX5_next_138 (by decide) (fun c3 => ?_) (fun c3 => ?_)
      · have h := h.1 c3
        exact h
      · have h := h.2 c3
        refine z_aload_n dX5_next_141 0 rfl ?_
        refine z_aload_n dX5_next_142 0 rfl ?_
        refine z_geti shC_98 rfl flX5_25 dX5_next_143 ?_
        refine z_iconst (v := 2) dX5_next_146 (by decide) ?_
        refine z_icmp_ne 173 dX5_next_147 (by decide) (fun c4 => ?_) (fun c4 => ?_)
        · have h := h.1 c4
          refine z_iconst (v := 0) dX5_next_173 (by decide) ?_
          refine z_puti shC_98 rfl fpX5_28 rfl rfl dX5_next_174 ?_
          refine z_aload_n dX5_next_177 0 rfl ?_
          refine z_dupr dX5_next_178 ?_
          refine z_geti shC_98 rfl flX5_22 dX5_next_179 ?_
          refine z_iconst (v := 1) dX5_next_182 (by decide) ?_
          refine z_iadd dX5_next_183 ?_
          refine z_puti shC_98 rfl fpX5_22 rfl rfl dX5_next_184 ?_
          refine z_goto 103 dX5_next_187 (by decide) ?_
          exact h
        · have h := h.2 c4
          refine z_aload_n dX5_next_150 0 rfl ?_
          refine z_geti shC_98 rfl flX5_28 dX5_next_151 ?_
          refine z_bipush (v := 10) dX5_next_154 (by decide) ?_
          refine z_imul dX5_next_156 ?_
          refine z_aload_n dX5_next_157 0 rfl ?_
          refine z_getr shC_98 rfl flX5_9 dX5_next_158 ?_
          refine z_aload_n dX5_next_161 0 rfl ?_
          refine z_geti shC_98 rfl flX5_22 dX5_next_162 ?_
          obtain ⟨k2, ek2, uk2, h⟩ := h
          refine z_iald2 (k0 := k2) shC_99 (by decide) ek2 uk2 dX5_next_165 ?_
          refine z_iadd dX5_next_166 ?_
          refine z_bipush (v := 48) dX5_next_167 (by decide) ?_
          refine z_isub dX5_next_169 ?_
          refine z_goto 174 dX5_next_170 (by decide) ?_
          refine z_puti shC_98 rfl fpX5_28 rfl rfl dX5_next_174 ?_
          refine z_aload_n dX5_next_177 0 rfl ?_
          refine z_dupr dX5_next_178 ?_
          refine z_geti shC_98 rfl flX5_22 dX5_next_179 ?_
          refine z_iconst (v := 1) dX5_next_182 (by decide) ?_
          refine z_iadd dX5_next_183 ?_
          obtain ⟨v1, ev1⟩ : ∃ y : Int32, y = (((zup M1 98 5 ((((M1 98 5) * 10) + (M1 99 k2)) - 48)) 98 3) + 1) := ⟨_, rfl⟩
          refine z_topi v1 ev1 ?_
          have h := h v1 ev1
          refine z_puti shC_98 rfl fpX5_22 rfl rfl dX5_next_184 ?_
          refine z_goto 103 dX5_next_187 (by decide) ?_
          exact h
set_option maxRecDepth 20000 in
theorem vX5_next_190 {g : zG} {d : Nat} {Q : zM → Prop} {M : zM} (h : (¬ (M 98 4) = 2 → Q M) ∧ ((M 98 4) = 2 → (((M 98 3) - (M 98 2)) ≤ 4 → Q M) ∧ (¬ ((M 98 3) - (M 98 2)) ≤ 4 → Q (zup M 98 4 5)))) : zW shC g (d + 1) mX5_next (zv Q) 190 [(0, .ref 98)] [] M := by
  refine z_aload_n dX5_next_190 0 rfl ?_
  refine z_geti shC_98 rfl flX5_25 dX5_next_191 ?_
  refine z_iconst (v := 2) dX5_next_194 (by decide) ?_
  refine z_icmp_ne 216 dX5_next_195 (by decide) (fun c1 => ?_) (fun c1 => ?_)
  · have h := h.1 c1
    exact z_vret (st := []) rfl dX5_next_216 ⟨rfl, h⟩
  · have h := h.2 c1
    refine z_aload_n dX5_next_198 0 rfl ?_
    refine z_geti shC_98 rfl flX5_22 dX5_next_199 ?_
    refine z_aload_n dX5_next_202 0 rfl ?_
    refine z_geti shC_98 rfl flX5_19 dX5_next_203 ?_
    refine z_isub dX5_next_206 ?_
    refine z_iconst (v := 4) dX5_next_207 (by decide) ?_
    refine z_icmp_le 216 dX5_next_208 (by decide) (fun c2 => ?_) (fun c2 => ?_)
    · have h := h.1 c2
      exact z_vret (st := []) rfl dX5_next_216 ⟨rfl, h⟩
    · have h := h.2 c2
      refine z_aload_n dX5_next_211 0 rfl ?_
      refine z_iconst (v := 5) dX5_next_212 (by decide) ?_
      refine z_puti shC_98 rfl fpX5_25 rfl rfl dX5_next_213 ?_
      exact z_vret (st := []) rfl dX5_next_216 ⟨rfl, h⟩
theorem dX5_kindOf_0 : decode cX5_kindOf 0 = .ok (.iload_n 0, 1) := by decide +kernel
theorem dX5_kindOf_1 : decode cX5_kindOf 1 = .ok (.bipush 97, 2) := by decide +kernel
theorem dX5_kindOf_3 : decode cX5_kindOf 3 = .ok (.if_icmp .lt 9, 3) := by decide +kernel
theorem dX5_kindOf_6 : decode cX5_kindOf 6 = .ok (.iload_n 0, 1) := by decide +kernel
theorem dX5_kindOf_7 : decode cX5_kindOf 7 = .ok (.bipush 122, 2) := by decide +kernel
theorem dX5_kindOf_9 : decode cX5_kindOf 9 = .ok (.if_icmp .le 15, 3) := by decide +kernel
theorem dX5_kindOf_12 : decode cX5_kindOf 12 = .ok (.iload_n 0, 1) := by decide +kernel
theorem dX5_kindOf_13 : decode cX5_kindOf 13 = .ok (.bipush 65, 2) := by decide +kernel
theorem dX5_kindOf_15 : decode cX5_kindOf 15 = .ok (.if_icmp .lt 11, 3) := by decide +kernel
theorem dX5_kindOf_18 : decode cX5_kindOf 18 = .ok (.iload_n 0, 1) := by decide +kernel
theorem dX5_kindOf_19 : decode cX5_kindOf 19 = .ok (.bipush 90, 2) := by decide +kernel
theorem dX5_kindOf_21 : decode cX5_kindOf 21 = .ok (.if_icmp .gt 5, 3) := by decide +kernel
theorem dX5_kindOf_24 : decode cX5_kindOf 24 = .ok (.iconst 1, 1) := by decide +kernel
theorem dX5_kindOf_25 : decode cX5_kindOf 25 = .ok (.ireturn, 1) := by decide +kernel
theorem dX5_kindOf_26 : decode cX5_kindOf 26 = .ok (.iload_n 0, 1) := by decide +kernel
theorem dX5_kindOf_27 : decode cX5_kindOf 27 = .ok (.bipush 48, 2) := by decide +kernel
theorem dX5_kindOf_29 : decode cX5_kindOf 29 = .ok (.if_icmp .lt 11, 3) := by decide +kernel
theorem dX5_kindOf_32 : decode cX5_kindOf 32 = .ok (.iload_n 0, 1) := by decide +kernel
theorem dX5_kindOf_33 : decode cX5_kindOf 33 = .ok (.bipush 57, 2) := by decide +kernel
theorem dX5_kindOf_35 : decode cX5_kindOf 35 = .ok (.if_icmp .gt 5, 3) := by decide +kernel
theorem dX5_kindOf_38 : decode cX5_kindOf 38 = .ok (.iconst 2, 1) := by decide +kernel
theorem dX5_kindOf_39 : decode cX5_kindOf 39 = .ok (.ireturn, 1) := by decide +kernel
theorem dX5_kindOf_40 : decode cX5_kindOf 40 = .ok (.iload_n 0, 1) := by decide +kernel
theorem dX5_kindOf_41 : decode cX5_kindOf 41 = .ok (.bipush 32, 2) := by decide +kernel
theorem dX5_kindOf_43 : decode cX5_kindOf 43 = .ok (.if_icmp .eq 9, 3) := by decide +kernel
theorem dX5_kindOf_46 : decode cX5_kindOf 46 = .ok (.iload_n 0, 1) := by decide +kernel
theorem dX5_kindOf_47 : decode cX5_kindOf 47 = .ok (.bipush 10, 2) := by decide +kernel
theorem dX5_kindOf_49 : decode cX5_kindOf 49 = .ok (.if_icmp .ne 7, 3) := by decide +kernel
theorem dX5_kindOf_52 : decode cX5_kindOf 52 = .ok (.iconst 4, 1) := by decide +kernel
theorem dX5_kindOf_53 : decode cX5_kindOf 53 = .ok (.goto 4, 3) := by decide +kernel
theorem dX5_kindOf_56 : decode cX5_kindOf 56 = .ok (.iconst 3, 1) := by decide +kernel
theorem dX5_kindOf_57 : decode cX5_kindOf 57 = .ok (.ireturn, 1) := by decide +kernel
set_option maxRecDepth 20000 in
theorem vX5_kindOf {g : zG} {d : Nat} {Q : Int32 → zM → Prop} {M : zM} {l0 : Int32} (h : (l0 < 97 → zW shC g d mX5_kindOf (zi Q) 12 [(0, .int l0)] [] M) ∧ (¬ l0 < 97 → (l0 ≤ 122 → Q 1 M) ∧ (¬ l0 ≤ 122 → zW shC g d mX5_kindOf (zi Q) 12 [(0, .int l0)] [] M))) : zCi shC g d mX5_kindOf [.int l0] M Q := by
  refine zW.enter (by decide +kernel) (Nat.le_of_ble_eq_true rfl) ?_
  change zW shC g d mX5_kindOf (zi Q) 0 [(0, .int l0)] [] M
  refine z_iload_n dX5_kindOf_0 0 rfl ?_
  refine z_bipush (v := 97) dX5_kindOf_1 (by decide) ?_
  refine z_icmp_lt 12 dX5_kindOf_3 (by decide) (fun c1 => ?_) (fun c1 => ?_)
  · have h := h.1 c1
    exact h
  · have h := h.2 c1
    refine z_iload_n dX5_kindOf_6 0 rfl ?_
    refine z_bipush (v := 122) dX5_kindOf_7 (by decide) ?_
    refine z_icmp_le 24 dX5_kindOf_9 (by decide) (fun c2 => ?_) (fun c2 => ?_)
    · have h := h.1 c2
      refine z_iconst (v := 1) dX5_kindOf_24 (by decide) ?_
      exact z_iret (st := []) rfl rfl dX5_kindOf_25 ⟨_, rfl, h⟩
    · have h := h.2 c2
      exact h
set_option maxRecDepth 20000 in
theorem vX5_kindOf_12 {g : zG} {d : Nat} {Q : Int32 → zM → Prop} {M : zM} {l0 : Int32} (h : (l0 < 65 → zW shC g d mX5_kindOf (zi Q) 26 [(0, .int l0)] [] M) ∧ (¬ l0 < 65 → (90 < l0 → zW shC g d mX5_kindOf (zi Q) 26 [(0, .int l0)] [] M) ∧ (¬ 90 < l0 → Q 1 M))) : zW shC g d mX5_kindOf (zi Q) 12 [(0, .int l0)] [] M := by
  refine z_iload_n dX5_kindOf_12 0 rfl ?_
  refine z_bipush (v := 65) dX5_kindOf_13 (by decide) ?_
  refine z_icmp_lt 26 dX5_kindOf_15 (by decide) (fun c1 => ?_) (fun c1 => ?_)
  · have h := h.1 c1
    exact h
  · have h := h.2 c1
    refine z_iload_n dX5_kindOf_18 0 rfl ?_
    refine z_bipush (v := 90) dX5_kindOf_19 (by decide) ?_
    refine z_icmp_gt 26 dX5_kindOf_21 (by decide) (fun c2 => ?_) (fun c2 => ?_)
    · have h := h.1 c2
      exact h
    · have h := h.2 c2
      refine z_iconst (v := 1) dX5_kindOf_24 (by decide) ?_
      exact z_iret (st := []) rfl rfl dX5_kindOf_25 ⟨_, rfl, h⟩
set_option maxRecDepth 20000 in
theorem vX5_kindOf_26 {g : zG} {d : Nat} {Q : Int32 → zM → Prop} {M : zM} {l0 : Int32} (h : (l0 < 48 → zW shC g d mX5_kindOf (zi Q) 40 [(0, .int l0)] [] M) ∧ (¬ l0 < 48 → (57 < l0 → zW shC g d mX5_kindOf (zi Q) 40 [(0, .int l0)] [] M) ∧ (¬ 57 < l0 → Q 2 M))) : zW shC g d mX5_kindOf (zi Q) 26 [(0, .int l0)] [] M := by
  refine z_iload_n dX5_kindOf_26 0 rfl ?_
  refine z_bipush (v := 48) dX5_kindOf_27 (by decide) ?_
  refine z_icmp_lt 40 dX5_kindOf_29 (by decide) (fun c1 => ?_) (fun c1 => ?_)
  · have h := h.1 c1
    exact h
  · have h := h.2 c1
    refine z_iload_n dX5_kindOf_32 0 rfl ?_
    refine z_bipush (v := 57) dX5_kindOf_33 (by decide) ?_
    refine z_icmp_gt 40 dX5_kindOf_35 (by decide) (fun c2 => ?_) (fun c2 => ?_)
    · have h := h.1 c2
      exact h
    · have h := h.2 c2
      refine z_iconst (v := 2) dX5_kindOf_38 (by decide) ?_
      exact z_iret (st := []) rfl rfl dX5_kindOf_39 ⟨_, rfl, h⟩
set_option maxRecDepth 20000 in
theorem vX5_kindOf_40 {g : zG} {d : Nat} {Q : Int32 → zM → Prop} {M : zM} {l0 : Int32} (h : (l0 = 32 → Q 4 M) ∧ (¬ l0 = 32 → (¬ l0 = 10 → Q 3 M) ∧ (l0 = 10 → Q 4 M))) : zW shC g d mX5_kindOf (zi Q) 40 [(0, .int l0)] [] M := by
  refine z_iload_n dX5_kindOf_40 0 rfl ?_
  refine z_bipush (v := 32) dX5_kindOf_41 (by decide) ?_
  refine z_icmp_eq 52 dX5_kindOf_43 (by decide) (fun c1 => ?_) (fun c1 => ?_)
  · have h := h.1 c1
    refine z_iconst (v := 4) dX5_kindOf_52 (by decide) ?_
    refine z_goto 57 dX5_kindOf_53 (by decide) ?_
    exact z_iret (st := []) rfl rfl dX5_kindOf_57 ⟨_, rfl, h⟩
  · have h := h.2 c1
    refine z_iload_n dX5_kindOf_46 0 rfl ?_
    refine z_bipush (v := 10) dX5_kindOf_47 (by decide) ?_
    refine z_icmp_ne 56 dX5_kindOf_49 (by decide) (fun c2 => ?_) (fun c2 => ?_)
    · have h := h.1 c2
      refine z_iconst (v := 3) dX5_kindOf_56 (by decide) ?_
      exact z_iret (st := []) rfl rfl dX5_kindOf_57 ⟨_, rfl, h⟩
    · have h := h.2 c2
      refine z_iconst (v := 4) dX5_kindOf_52 (by decide) ?_
      refine z_goto 57 dX5_kindOf_53 (by decide) ?_
      exact z_iret (st := []) rfl rfl dX5_kindOf_57 ⟨_, rfl, h⟩
theorem dX5_isEnd_0 : decode cX5_isEnd 0 = .ok (.aload_n 0, 1) := by decide +kernel
theorem dX5_isEnd_1 : decode cX5_isEnd 1 = .ok (.getfield 25, 3) := by decide +kernel
theorem dX5_isEnd_4 : decode cX5_isEnd 4 = .ok (.ifCond .ne 7, 3) := by decide +kernel
theorem dX5_isEnd_7 : decode cX5_isEnd 7 = .ok (.iconst 1, 1) := by decide +kernel
theorem dX5_isEnd_8 : decode cX5_isEnd 8 = .ok (.goto 4, 3) := by decide +kernel
theorem dX5_isEnd_11 : decode cX5_isEnd 11 = .ok (.iconst 0, 1) := by decide +kernel
theorem dX5_isEnd_12 : decode cX5_isEnd 12 = .ok (.ireturn, 1) := by decide +kernel
set_option maxRecDepth 20000 in
theorem vX5_isEnd {g : zG} {d : Nat} {Q : Bool → zM → Prop} {M : zM} (h : (¬ (M 98 4) = 0 → Q false M) ∧ ((M 98 4) = 0 → Q true M)) : zCz shC g d mX5_isEnd [.ref 98] M Q := by
  refine zW.enter (by decide +kernel) (Nat.le_of_ble_eq_true rfl) ?_
  change zW shC g d mX5_isEnd (zz Q) 0 [(0, .ref 98)] [] M
  refine z_aload_n dX5_isEnd_0 0 rfl ?_
  refine z_geti shC_98 rfl flX5_25 dX5_isEnd_1 ?_
  refine z_if_ne 11 dX5_isEnd_4 (by decide) (fun c1 => ?_) (fun c1 => ?_)
  · have h := h.1 c1
    refine z_iconst (v := 0) dX5_isEnd_11 (by decide) ?_
    exact z_zret (b := false) rfl rfl dX5_isEnd_12 h
  · have h := h.2 c1
    refine z_iconst (v := 1) dX5_isEnd_7 (by decide) ?_
    refine z_goto 12 dX5_isEnd_8 (by decide) ?_
    exact z_zret (b := true) rfl rfl dX5_isEnd_12 h
theorem dX5_isNumber_0 : decode cX5_isNumber 0 = .ok (.aload_n 0, 1) := by decide +kernel
theorem dX5_isNumber_1 : decode cX5_isNumber 1 = .ok (.getfield 25, 3) := by decide +kernel
theorem dX5_isNumber_4 : decode cX5_isNumber 4 = .ok (.iconst 2, 1) := by decide +kernel
theorem dX5_isNumber_5 : decode cX5_isNumber 5 = .ok (.if_icmp .ne 7, 3) := by decide +kernel
theorem dX5_isNumber_8 : decode cX5_isNumber 8 = .ok (.iconst 1, 1) := by decide +kernel
theorem dX5_isNumber_9 : decode cX5_isNumber 9 = .ok (.goto 4, 3) := by decide +kernel
theorem dX5_isNumber_12 : decode cX5_isNumber 12 = .ok (.iconst 0, 1) := by decide +kernel
theorem dX5_isNumber_13 : decode cX5_isNumber 13 = .ok (.ireturn, 1) := by decide +kernel
set_option maxRecDepth 20000 in
theorem vX5_isNumber {g : zG} {d : Nat} {Q : Bool → zM → Prop} {M : zM} (h : (¬ (M 98 4) = 2 → Q false M) ∧ ((M 98 4) = 2 → Q true M)) : zCz shC g d mX5_isNumber [.ref 98] M Q := by
  refine zW.enter (by decide +kernel) (Nat.le_of_ble_eq_true rfl) ?_
  change zW shC g d mX5_isNumber (zz Q) 0 [(0, .ref 98)] [] M
  refine z_aload_n dX5_isNumber_0 0 rfl ?_
  refine z_geti shC_98 rfl flX5_25 dX5_isNumber_1 ?_
  refine z_iconst (v := 2) dX5_isNumber_4 (by decide) ?_
  refine z_icmp_ne 12 dX5_isNumber_5 (by decide) (fun c1 => ?_) (fun c1 => ?_)
  · have h := h.1 c1
    refine z_iconst (v := 0) dX5_isNumber_12 (by decide) ?_
    exact z_zret (b := false) rfl rfl dX5_isNumber_13 h
  · have h := h.2 c1
    refine z_iconst (v := 1) dX5_isNumber_8 (by decide) ?_
    refine z_goto 13 dX5_isNumber_9 (by decide) ?_
    exact z_zret (b := true) rfl rfl dX5_isNumber_13 h
theorem dX5_isSign_0 : decode cX5_isSign 0 = .ok (.aload_n 0, 1) := by decide +kernel
theorem dX5_isSign_1 : decode cX5_isSign 1 = .ok (.getfield 25, 3) := by decide +kernel
theorem dX5_isSign_4 : decode cX5_isSign 4 = .ok (.iconst 3, 1) := by decide +kernel
theorem dX5_isSign_5 : decode cX5_isSign 5 = .ok (.if_icmp .ne 15, 3) := by decide +kernel
theorem dX5_isSign_8 : decode cX5_isSign 8 = .ok (.aload_n 0, 1) := by decide +kernel
theorem dX5_isSign_9 : decode cX5_isSign 9 = .ok (.getfield 28, 3) := by decide +kernel
theorem dX5_isSign_12 : decode cX5_isSign 12 = .ok (.iload_n 1, 1) := by decide +kernel
theorem dX5_isSign_13 : decode cX5_isSign 13 = .ok (.if_icmp .ne 7, 3) := by decide +kernel
theorem dX5_isSign_16 : decode cX5_isSign 16 = .ok (.iconst 1, 1) := by decide +kernel
theorem dX5_isSign_17 : decode cX5_isSign 17 = .ok (.goto 4, 3) := by decide +kernel
theorem dX5_isSign_20 : decode cX5_isSign 20 = .ok (.iconst 0, 1) := by decide +kernel
theorem dX5_isSign_21 : decode cX5_isSign 21 = .ok (.ireturn, 1) := by decide +kernel
set_option maxRecDepth 20000 in
theorem vX5_isSign {g : zG} {d : Nat} {Q : Bool → zM → Prop} {M : zM} {l1 : Int32} (h : (¬ (M 98 4) = 3 → Q false M) ∧ ((M 98 4) = 3 → (¬ (M 98 5) = l1 → Q false M) ∧ ((M 98 5) = l1 → Q true M))) : zCz shC g d mX5_isSign [.ref 98, .int l1] M Q := by
  refine zW.enter (by decide +kernel) (Nat.le_of_ble_eq_true rfl) ?_
  change zW shC g d mX5_isSign (zz Q) 0 [(0, .ref 98), (1, .int l1)] [] M
  refine z_aload_n dX5_isSign_0 0 rfl ?_
  refine z_geti shC_98 rfl flX5_25 dX5_isSign_1 ?_
  refine z_iconst (v := 3) dX5_isSign_4 (by decide) ?_
  refine z_icmp_ne 20 dX5_isSign_5 (by decide) (fun c1 => ?_) (fun c1 => ?_)
  · have h := h.1 c1
    refine z_iconst (v := 0) dX5_isSign_20 (by decide) ?_
    exact z_zret (b := false) rfl rfl dX5_isSign_21 h
  · have h := h.2 c1
    refine z_aload_n dX5_isSign_8 0 rfl ?_
    refine z_geti shC_98 rfl flX5_28 dX5_isSign_9 ?_
    refine z_iload_n dX5_isSign_12 1 rfl ?_
    refine z_icmp_ne 20 dX5_isSign_13 (by decide) (fun c2 => ?_) (fun c2 => ?_)
    · have h := h.1 c2
      refine z_iconst (v := 0) dX5_isSign_20 (by decide) ?_
      exact z_zret (b := false) rfl rfl dX5_isSign_21 h
    · have h := h.2 c2
      refine z_iconst (v := 1) dX5_isSign_16 (by decide) ?_
      refine z_goto 21 dX5_isSign_17 (by decide) ?_
      exact z_zret (b := true) rfl rfl dX5_isSign_21 h
theorem dX5_isWord_0 : decode cX5_isWord 0 = .ok (.aload_n 0, 1) := by decide +kernel
theorem dX5_isWord_1 : decode cX5_isWord 1 = .ok (.getfield 25, 3) := by decide +kernel
theorem dX5_isWord_4 : decode cX5_isWord 4 = .ok (.iconst 1, 1) := by decide +kernel
theorem dX5_isWord_5 : decode cX5_isWord 5 = .ok (.if_icmp .ne 19, 3) := by decide +kernel
theorem dX5_isWord_8 : decode cX5_isWord 8 = .ok (.aload_n 0, 1) := by decide +kernel
theorem dX5_isWord_9 : decode cX5_isWord 9 = .ok (.getfield 22, 3) := by decide +kernel
theorem dX5_isWord_12 : decode cX5_isWord 12 = .ok (.aload_n 0, 1) := by decide +kernel
theorem dX5_isWord_13 : decode cX5_isWord 13 = .ok (.getfield 19, 3) := by decide +kernel
theorem dX5_isWord_16 : decode cX5_isWord 16 = .ok (.isub, 1) := by decide +kernel
theorem dX5_isWord_17 : decode cX5_isWord 17 = .ok (.aload_n 1, 1) := by decide +kernel
theorem dX5_isWord_18 : decode cX5_isWord 18 = .ok (.invokevirtual 44, 3) := by decide +kernel
theorem dX5_isWord_21 : decode cX5_isWord 21 = .ok (.if_icmp .eq 5, 3) := by decide +kernel
theorem dX5_isWord_24 : decode cX5_isWord 24 = .ok (.iconst 0, 1) := by decide +kernel
theorem dX5_isWord_25 : decode cX5_isWord 25 = .ok (.ireturn, 1) := by decide +kernel
theorem dX5_isWord_26 : decode cX5_isWord 26 = .ok (.iconst 0, 1) := by decide +kernel
theorem dX5_isWord_27 : decode cX5_isWord 27 = .ok (.istore_n 2, 1) := by decide +kernel
theorem dX5_isWord_28 : decode cX5_isWord 28 = .ok (.iload_n 2, 1) := by decide +kernel
theorem dX5_isWord_29 : decode cX5_isWord 29 = .ok (.aload_n 1, 1) := by decide +kernel
theorem dX5_isWord_30 : decode cX5_isWord 30 = .ok (.invokevirtual 44, 3) := by decide +kernel
theorem dX5_isWord_33 : decode cX5_isWord 33 = .ok (.if_icmp .ge 30, 3) := by decide +kernel
theorem dX5_isWord_36 : decode cX5_isWord 36 = .ok (.aload_n 0, 1) := by decide +kernel
theorem dX5_isWord_37 : decode cX5_isWord 37 = .ok (.getfield 9, 3) := by decide +kernel
theorem dX5_isWord_40 : decode cX5_isWord 40 = .ok (.aload_n 0, 1) := by decide +kernel
theorem dX5_isWord_41 : decode cX5_isWord 41 = .ok (.getfield 19, 3) := by decide +kernel
theorem dX5_isWord_44 : decode cX5_isWord 44 = .ok (.iload_n 2, 1) := by decide +kernel
theorem dX5_isWord_45 : decode cX5_isWord 45 = .ok (.iadd, 1) := by decide +kernel
theorem dX5_isWord_46 : decode cX5_isWord 46 = .ok (.iaload, 1) := by decide +kernel
theorem dX5_isWord_47 : decode cX5_isWord 47 = .ok (.aload_n 1, 1) := by decide +kernel
theorem dX5_isWord_48 : decode cX5_isWord 48 = .ok (.iload_n 2, 1) := by decide +kernel
theorem dX5_isWord_49 : decode cX5_isWord 49 = .ok (.invokevirtual 49, 3) := by decide +kernel
theorem dX5_isWord_52 : decode cX5_isWord 52 = .ok (.if_icmp .eq 5, 3) := by decide +kernel
theorem dX5_isWord_55 : decode cX5_isWord 55 = .ok (.iconst 0, 1) := by decide +kernel
theorem dX5_isWord_56 : decode cX5_isWord 56 = .ok (.ireturn, 1) := by decide +kernel
theorem dX5_isWord_57 : decode cX5_isWord 57 = .ok (.iinc 2 1, 3) := by decide +kernel
theorem dX5_isWord_60 : decode cX5_isWord 60 = .ok (.goto (-32), 3) := by decide +kernel
theorem dX5_isWord_63 : decode cX5_isWord 63 = .ok (.iconst 1, 1) := by decide +kernel
theorem dX5_isWord_64 : decode cX5_isWord 64 = .ok (.ireturn, 1) := by decide +kernel
set_option maxRecDepth 20000 in
theorem vX5_isWord {g : zG} {d : Nat} {Q : Bool → zM → Prop} {M : zM} {q : Nat} (hq : q < 23) (h : (¬ (M 98 4) = 1 → Q false M) ∧ ((M 98 4) = 1 → zCi shC g d mJ0_length_8abf5 [.ref (4096 + q)] M (fun x1 M1 => (((M 98 3) - (M 98 2)) = x1 → zW shC g (d + 1) mX5_isWord (zz Q) 28 [(0, .ref 98), (1, .ref (4096 + q)), (2, .int 0)] [] M1) ∧ (¬ ((M 98 3) - (M 98 2)) = x1 → Q false M1)))) : zCz shC g (d + 1) mX5_isWord [.ref 98, .ref (4096 + q)] M Q := by
  refine zW.enter (by decide +kernel) (Nat.le_of_ble_eq_true rfl) ?_
  change zW shC g (d + 1) mX5_isWord (zz Q) 0 [(0, .ref 98), (1, .ref (4096 + q))] [] M
  refine z_aload_n dX5_isWord_0 0 rfl ?_
  refine z_geti shC_98 rfl flX5_25 dX5_isWord_1 ?_
  refine z_iconst (v := 1) dX5_isWord_4 (by decide) ?_
  refine z_icmp_ne 24 dX5_isWord_5 (by decide) (fun c1 => ?_) (fun c1 => ?_)
  · have h := h.1 c1
    refine z_iconst (v := 0) dX5_isWord_24 (by decide) ?_
    exact z_zret (b := false) rfl rfl dX5_isWord_25 h
  · have h := h.2 c1
    refine z_aload_n dX5_isWord_8 0 rfl ?_
    refine z_geti shC_98 rfl flX5_22 dX5_isWord_9 ?_
    refine z_aload_n dX5_isWord_12 0 rfl ?_
    refine z_geti shC_98 rfl flX5_19 dX5_isWord_13 ?_
    refine z_isub dX5_isWord_16 ?_
    refine z_aload_n dX5_isWord_17 1 rfl ?_
    refine z_callT (m2 := mJ0_length_8abf5) (i := q) (st := [.int ((M 98 3) - (M 98 2))]) [] okJ0_length_8abf5 lkX5_44 hq rfl rfl rfl (Nat.le_of_ble_eq_true rfl) dX5_isWord_18 (zgo_i h fun x1 M1 h => ?_)
    refine z_icmp_eq 26 dX5_isWord_21 (by decide) (fun c2 => ?_) (fun c2 => ?_)
    · have h := h.1 c2
      refine z_iconst (v := 0) dX5_isWord_26 (by decide) ?_
      refine z_istore_n [(2, .int 0), (0, .ref 98), (1, .ref (4096 + q))] dX5_isWord_27 (by decide) rfl ?_
      exact zW.sub [1, 2, 0] rfl h
    · have h := h.2 c2
      refine z_iconst (v := 0) dX5_isWord_24 (by decide) ?_
      exact z_zret (b := false) rfl rfl dX5_isWord_25 h
set_option maxRecDepth 20000 in
theorem vX5_isWord_28 {g : zG} {d : Nat} {Q : Bool → zM → Prop} {M : zM} {q : Nat} {l2 : Int32} (hq : q < 23) (h : zCi shC g d mJ0_length_8abf5 [.ref (4096 + q)] M (fun x1 M1 => (x1 ≤ l2 → Q true M1) ∧ (¬ x1 ≤ l2 → ∃ k1 : Nat, ((M1 98 2) + l2) = iv k1 ∧ k1 < 400 ∧ zCi shC g d mJ0_charAt_5068e [.ref (4096 + q), .int l2] M1 (fun x2 M2 => ((M1 99 k1) = x2 → zW shC g (d + 1) mX5_isWord (zz Q) 28 [(0, .ref 98), (1, .ref (4096 + q)), (2, .int (l2 + 1))] [] M2) ∧ (¬ (M1 99 k1) = x2 → Q false M2))))) : zW shC g (d + 1) mX5_isWord (zz Q) 28 [(0, .ref 98), (1, .ref (4096 + q)), (2, .int l2)] [] M := by
  refine z_iload_n dX5_isWord_28 2 rfl ?_
  refine z_aload_n dX5_isWord_29 1 rfl ?_
  refine z_callT (m2 := mJ0_length_8abf5) (i := q) (st := [.int l2]) [] okJ0_length_8abf5 lkX5_44 hq rfl rfl rfl (Nat.le_of_ble_eq_true rfl) dX5_isWord_30 (zgo_i h fun x1 M1 h => ?_)
  refine z_icmp_ge 63 dX5_isWord_33 (by decide) (fun c1 => ?_) (fun c1 => ?_)
  · have h := h.1 c1
    refine z_iconst (v := 1) dX5_isWord_63 (by decide) ?_
    exact z_zret (b := true) rfl rfl dX5_isWord_64 h
  · have h := h.2 c1
    refine z_aload_n dX5_isWord_36 0 rfl ?_
    refine z_getr shC_98 rfl flX5_9 dX5_isWord_37 ?_
    refine z_aload_n dX5_isWord_40 0 rfl ?_
    refine z_geti shC_98 rfl flX5_19 dX5_isWord_41 ?_
    refine z_iload_n dX5_isWord_44 2 rfl ?_
    refine z_iadd dX5_isWord_45 ?_
    obtain ⟨k1, ek1, uk1, h⟩ := h
    refine z_iald2 (k0 := k1) shC_99 (by decide) ek1 uk1 dX5_isWord_46 ?_
    refine z_aload_n dX5_isWord_47 1 rfl ?_
    refine z_iload_n dX5_isWord_48 2 rfl ?_
    refine z_callT (m2 := mJ0_charAt_5068e) (i := q) (st := [.int (M1 99 k1)]) [.int l2] okJ0_charAt_5068e lkX5_49 hq rfl rfl rfl (Nat.le_of_ble_eq_true rfl) dX5_isWord_49 (zgo_i h fun x2 M2 h => ?_)
    refine z_icmp_eq 57 dX5_isWord_52 (by decide) (fun c2 => ?_) (fun c2 => ?_)
    · have h := h.1 c2
      refine z_iinc (x := l2) (v := (l2 + 1)) [(2, .int (l2 + 1)), (0, .ref 98), (1, .ref (4096 + q))] dX5_isWord_57 2 rfl rfl (by decide) rfl ?_
      refine z_goto 28 dX5_isWord_60 (by decide) ?_
      exact zW.sub [1, 2, 0] rfl h
    · have h := h.2 c2
      refine z_iconst (v := 0) dX5_isWord_55 (by decide) ?_
      exact z_zret (b := false) rfl rfl dX5_isWord_56 h
theorem dX5_number_0 : decode cX5_number 0 = .ok (.aload_n 0, 1) := by decide +kernel
theorem dX5_number_1 : decode cX5_number 1 = .ok (.getfield 25, 3) := by decide +kernel
theorem dX5_number_4 : decode cX5_number 4 = .ok (.iconst 2, 1) := by decide +kernel
theorem dX5_number_5 : decode cX5_number 5 = .ok (.if_icmp .eq 11, 3) := by decide +kernel
theorem dX5_number_8 : decode cX5_number 8 = .ok (.aload_n 0, 1) := by decide +kernel
theorem dX5_number_9 : decode cX5_number 9 = .ok (.iconst 1, 1) := by decide +kernel
theorem dX5_number_10 : decode cX5_number 10 = .ok (.invokevirtual 53, 3) := by decide +kernel
theorem dX5_number_13 : decode cX5_number 13 = .ok (.pop, 1) := by decide +kernel
theorem dX5_number_14 : decode cX5_number 14 = .ok (.iconst (-1), 1) := by decide +kernel
theorem dX5_number_15 : decode cX5_number 15 = .ok (.ireturn, 1) := by decide +kernel
theorem dX5_number_16 : decode cX5_number 16 = .ok (.aload_n 0, 1) := by decide +kernel
theorem dX5_number_17 : decode cX5_number 17 = .ok (.getfield 28, 3) := by decide +kernel
theorem dX5_number_20 : decode cX5_number 20 = .ok (.iload_n 1, 1) := by decide +kernel
theorem dX5_number_21 : decode cX5_number 21 = .ok (.if_icmp .lt 11, 3) := by decide +kernel
theorem dX5_number_24 : decode cX5_number 24 = .ok (.aload_n 0, 1) := by decide +kernel
theorem dX5_number_25 : decode cX5_number 25 = .ok (.getfield 28, 3) := by decide +kernel
theorem dX5_number_28 : decode cX5_number 28 = .ok (.iload_n 2, 1) := by decide +kernel
theorem dX5_number_29 : decode cX5_number 29 = .ok (.if_icmp .le 11, 3) := by decide +kernel
theorem dX5_number_32 : decode cX5_number 32 = .ok (.aload_n 0, 1) := by decide +kernel
theorem dX5_number_33 : decode cX5_number 33 = .ok (.iconst 2, 1) := by decide +kernel
theorem dX5_number_34 : decode cX5_number 34 = .ok (.invokevirtual 53, 3) := by decide +kernel
theorem dX5_number_37 : decode cX5_number 37 = .ok (.pop, 1) := by decide +kernel
theorem dX5_number_38 : decode cX5_number 38 = .ok (.iconst (-1), 1) := by decide +kernel
theorem dX5_number_39 : decode cX5_number 39 = .ok (.ireturn, 1) := by decide +kernel
theorem dX5_number_40 : decode cX5_number 40 = .ok (.aload_n 0, 1) := by decide +kernel
theorem dX5_number_41 : decode cX5_number 41 = .ok (.getfield 28, 3) := by decide +kernel
theorem dX5_number_44 : decode cX5_number 44 = .ok (.ireturn, 1) := by decide +kernel
set_option maxRecDepth 20000 in
theorem vX5_number {g : zG} {d : Nat} {Q : Int32 → zM → Prop} {M : zM} {l1 : Int32} {l2 : Int32} (h : ((M 98 4) = 2 → ((M 98 5) < l1 → zCz shC g d mX5_fail [.ref 98, .int 2] M (fun b1 M1 => Q (-1) M1)) ∧ (¬ (M 98 5) < l1 → ((M 98 5) ≤ l2 → Q (M 98 5) M) ∧ (¬ (M 98 5) ≤ l2 → zCz shC g d mX5_fail [.ref 98, .int 2] M (fun b1 M1 => Q (-1) M1)))) ∧ (¬ (M 98 4) = 2 → zCz shC g d mX5_fail [.ref 98, .int 1] M (fun b1 M1 => Q (-1) M1))) : zCi shC g (d + 1) mX5_number [.ref 98, .int l1, .int l2] M Q := by
  refine zW.enter (by decide +kernel) (Nat.le_of_ble_eq_true rfl) ?_
  change zW shC g (d + 1) mX5_number (zi Q) 0 [(0, .ref 98), (1, .int l1), (2, .int l2)] [] M
  refine z_aload_n dX5_number_0 0 rfl ?_
  refine z_geti shC_98 rfl flX5_25 dX5_number_1 ?_
  refine z_iconst (v := 2) dX5_number_4 (by decide) ?_
  refine z_icmp_eq 16 dX5_number_5 (by decide) (fun c1 => ?_) (fun c1 => ?_)
  · have h := h.1 c1
    refine z_aload_n dX5_number_16 0 rfl ?_
    refine z_geti shC_98 rfl flX5_28 dX5_number_17 ?_
    refine z_iload_n dX5_number_20 1 rfl ?_
    refine z_icmp_lt 32 dX5_number_21 (by decide) (fun c2 => ?_) (fun c2 => ?_)
    · have h := h.1 c2
      refine z_aload_n dX5_number_32 0 rfl ?_
      refine z_iconst (v := 2) dX5_number_33 (by decide) ?_
      refine z_callV (m2 := mX5_fail) (st := []) [.int 2] okX5_fail (Or.inl lkX5_53) shC_98 rfl rfl rfl (Nat.le_of_ble_eq_true rfl) dX5_number_34 (zgo_z h fun b1 M1 h => ?_)
      refine z_popi dX5_number_37 ?_
      refine z_iconst (v := (-1)) dX5_number_38 (by decide) ?_
      exact z_iret (st := []) rfl rfl dX5_number_39 ⟨_, rfl, h⟩
    · have h := h.2 c2
      refine z_aload_n dX5_number_24 0 rfl ?_
      refine z_geti shC_98 rfl flX5_28 dX5_number_25 ?_
      refine z_iload_n dX5_number_28 2 rfl ?_
      refine z_icmp_le 40 dX5_number_29 (by decide) (fun c3 => ?_) (fun c3 => ?_)
      · have h := h.1 c3
        refine z_aload_n dX5_number_40 0 rfl ?_
        refine z_geti shC_98 rfl flX5_28 dX5_number_41 ?_
        exact z_iret (st := []) rfl rfl dX5_number_44 ⟨_, rfl, h⟩
      · have h := h.2 c3
        refine z_aload_n dX5_number_32 0 rfl ?_
        refine z_iconst (v := 2) dX5_number_33 (by decide) ?_
        refine z_callV (m2 := mX5_fail) (st := []) [.int 2] okX5_fail (Or.inl lkX5_53) shC_98 rfl rfl rfl (Nat.le_of_ble_eq_true rfl) dX5_number_34 (zgo_z h fun b1 M1 h => ?_)
        refine z_popi dX5_number_37 ?_
        refine z_iconst (v := (-1)) dX5_number_38 (by decide) ?_
        exact z_iret (st := []) rfl rfl dX5_number_39 ⟨_, rfl, h⟩
  · have h := h.2 c1
    refine z_aload_n dX5_number_8 0 rfl ?_
    refine z_iconst (v := 1) dX5_number_9 (by decide) ?_
    refine z_callV (m2 := mX5_fail) (st := []) [.int 1] okX5_fail (Or.inl lkX5_53) shC_98 rfl rfl rfl (Nat.le_of_ble_eq_true rfl) dX5_number_10 (zgo_z h fun b1 M1 h => ?_)
    refine z_popi dX5_number_13 ?_
    refine z_iconst (v := (-1)) dX5_number_14 (by decide) ?_
    exact z_iret (st := []) rfl rfl dX5_number_15 ⟨_, rfl, h⟩
theorem dX5_fail_0 : decode cX5_fail 0 = .ok (.aload_n 0, 1) := by decide +kernel
theorem dX5_fail_1 : decode cX5_fail 1 = .ok (.iload_n 1, 1) := by decide +kernel
theorem dX5_fail_2 : decode cX5_fail 2 = .ok (.putfield 31, 3) := by decide +kernel
theorem dX5_fail_5 : decode cX5_fail 5 = .ok (.aload_n 0, 1) := by decide +kernel
theorem dX5_fail_6 : decode cX5_fail 6 = .ok (.aload_n 0, 1) := by decide +kernel
theorem dX5_fail_7 : decode cX5_fail 7 = .ok (.getfield 19, 3) := by decide +kernel
theorem dX5_fail_10 : decode cX5_fail 10 = .ok (.putfield 34, 3) := by decide +kernel
theorem dX5_fail_13 : decode cX5_fail 13 = .ok (.iconst 0, 1) := by decide +kernel
theorem dX5_fail_14 : decode cX5_fail 14 = .ok (.ireturn, 1) := by decide +kernel
set_option maxRecDepth 20000 in
theorem vX5_fail {g : zG} {d : Nat} {Q : Bool → zM → Prop} {M : zM} {l1 : Int32} (h : Q false (zup (zup M 98 6 l1) 98 7 ((zup M 98 6 l1) 98 2))) : zCz shC g d mX5_fail [.ref 98, .int l1] M Q := by
  refine zW.enter (by decide +kernel) (Nat.le_of_ble_eq_true rfl) ?_
  change zW shC g d mX5_fail (zz Q) 0 [(0, .ref 98), (1, .int l1)] [] M
  refine z_aload_n dX5_fail_0 0 rfl ?_
  refine z_iload_n dX5_fail_1 1 rfl ?_
  refine z_puti shC_98 rfl fpX5_31 rfl rfl dX5_fail_2 ?_
  refine z_aload_n dX5_fail_5 0 rfl ?_
  refine z_aload_n dX5_fail_6 0 rfl ?_
  refine z_geti shC_98 rfl flX5_19 dX5_fail_7 ?_
  refine z_puti shC_98 rfl fpX5_34 rfl rfl dX5_fail_10 ?_
  refine z_iconst (v := 0) dX5_fail_13 (by decide) ?_
  exact z_zret (b := false) rfl rfl dX5_fail_14 h
theorem dX6_clear_0 : decode cX6_clear 0 = .ok (.aload_n 0, 1) := by decide +kernel
theorem dX6_clear_1 : decode cX6_clear 1 = .ok (.getfield 15, 3) := by decide +kernel
theorem dX6_clear_4 : decode cX6_clear 4 = .ok (.iconst 0, 1) := by decide +kernel
theorem dX6_clear_5 : decode cX6_clear 5 = .ok (.invokestatic 28, 3) := by decide +kernel
theorem dX6_clear_8 : decode cX6_clear 8 = .ok (.aload_n 0, 1) := by decide +kernel
theorem dX6_clear_9 : decode cX6_clear 9 = .ok (.getfield 18, 3) := by decide +kernel
theorem dX6_clear_12 : decode cX6_clear 12 = .ok (.iconst 0, 1) := by decide +kernel
theorem dX6_clear_13 : decode cX6_clear 13 = .ok (.invokestatic 28, 3) := by decide +kernel
theorem dX6_clear_16 : decode cX6_clear 16 = .ok (.aload_n 0, 1) := by decide +kernel
theorem dX6_clear_17 : decode cX6_clear 17 = .ok (.getfield 21, 3) := by decide +kernel
theorem dX6_clear_20 : decode cX6_clear 20 = .ok (.iconst 0, 1) := by decide +kernel
theorem dX6_clear_21 : decode cX6_clear 21 = .ok (.invokestatic 28, 3) := by decide +kernel
theorem dX6_clear_24 : decode cX6_clear 24 = .ok (.aload_n 0, 1) := by decide +kernel
theorem dX6_clear_25 : decode cX6_clear 25 = .ok (.iconst 0, 1) := by decide +kernel
theorem dX6_clear_26 : decode cX6_clear 26 = .ok (.putfield 24, 3) := by decide +kernel
theorem dX6_clear_29 : decode cX6_clear 29 = .ok (.return_, 1) := by decide +kernel
set_option maxRecDepth 20000 in
theorem vX6_clear_a {g : zG} {d : Nat} {Q : zM → Prop} {M : zM} (h : zCv shC g d mJ7_fill_53178 [.ref 12, .int 0] M (fun  M1 => zCv shC g d mJ7_fill_53178 [.ref 13, .int 0] M1 (fun  M2 => zCv shC g d mJ7_fill_53178 [.ref 14, .int 0] M2 (fun  M3 => Q (zup M3 10 4 0))))) : zCv shC g (d + 1) mX6_clear [.ref 10] M Q := by
  refine zW.enter (by decide +kernel) (Nat.le_of_ble_eq_true rfl) ?_
  change zW shC g (d + 1) mX6_clear (zv Q) 0 [(0, .ref 10)] [] M
  refine z_aload_n dX6_clear_0 0 rfl ?_
  refine z_getr shC_10 rfl flX6_15 dX6_clear_1 ?_
  refine z_iconst (v := 0) dX6_clear_4 (by decide) ?_
  refine z_callS (m2 := mJ7_fill_53178) (st := []) [.ref 12, .int 0] okJ7_fill_53178 (Or.inl lkX6_28) rfl rfl (Nat.le_of_ble_eq_true rfl) dX6_clear_5 (zgo_v h fun  M1 h => ?_)
  refine z_aload_n dX6_clear_8 0 rfl ?_
  refine z_getr shC_10 rfl flX6_18 dX6_clear_9 ?_
  refine z_iconst (v := 0) dX6_clear_12 (by decide) ?_
  refine z_callS (m2 := mJ7_fill_53178) (st := []) [.ref 13, .int 0] okJ7_fill_53178 (Or.inl lkX6_28) rfl rfl (Nat.le_of_ble_eq_true rfl) dX6_clear_13 (zgo_v h fun  M2 h => ?_)
  refine z_aload_n dX6_clear_16 0 rfl ?_
  refine z_getr shC_10 rfl flX6_21 dX6_clear_17 ?_
  refine z_iconst (v := 0) dX6_clear_20 (by decide) ?_
  refine z_callS (m2 := mJ7_fill_53178) (st := []) [.ref 14, .int 0] okJ7_fill_53178 (Or.inl lkX6_28) rfl rfl (Nat.le_of_ble_eq_true rfl) dX6_clear_21 (zgo_v h fun  M3 h => ?_)
  refine z_aload_n dX6_clear_24 0 rfl ?_
  refine z_iconst (v := 0) dX6_clear_25 (by decide) ?_
  refine z_puti shC_10 rfl fpX6_24 rfl rfl dX6_clear_26 ?_
  exact z_vret (st := []) rfl dX6_clear_29 ⟨rfl, h⟩
set_option maxRecDepth 20000 in
theorem vX6_clear_b {g : zG} {d : Nat} {Q : zM → Prop} {M : zM} (h : zCv shC g d mJ7_fill_53178 [.ref 102, .int 0] M (fun  M1 => zCv shC g d mJ7_fill_53178 [.ref 103, .int 0] M1 (fun  M2 => zCv shC g d mJ7_fill_53178 [.ref 104, .int 0] M2 (fun  M3 => Q (zup M3 100 4 0))))) : zCv shC g (d + 1) mX6_clear [.ref 100] M Q := by
  refine zW.enter (by decide +kernel) (Nat.le_of_ble_eq_true rfl) ?_
  change zW shC g (d + 1) mX6_clear (zv Q) 0 [(0, .ref 100)] [] M
  refine z_aload_n dX6_clear_0 0 rfl ?_
  refine z_getr shC_100 rfl flX6_15 dX6_clear_1 ?_
  refine z_iconst (v := 0) dX6_clear_4 (by decide) ?_
  refine z_callS (m2 := mJ7_fill_53178) (st := []) [.ref 102, .int 0] okJ7_fill_53178 (Or.inl lkX6_28) rfl rfl (Nat.le_of_ble_eq_true rfl) dX6_clear_5 (zgo_v h fun  M1 h => ?_)
  refine z_aload_n dX6_clear_8 0 rfl ?_
  refine z_getr shC_100 rfl flX6_18 dX6_clear_9 ?_
  refine z_iconst (v := 0) dX6_clear_12 (by decide) ?_
  refine z_callS (m2 := mJ7_fill_53178) (st := []) [.ref 103, .int 0] okJ7_fill_53178 (Or.inl lkX6_28) rfl rfl (Nat.le_of_ble_eq_true rfl) dX6_clear_13 (zgo_v h fun  M2 h => ?_)
  refine z_aload_n dX6_clear_16 0 rfl ?_
  refine z_getr shC_100 rfl flX6_21 dX6_clear_17 ?_
  refine z_iconst (v := 0) dX6_clear_20 (by decide) ?_
  refine z_callS (m2 := mJ7_fill_53178) (st := []) [.ref 104, .int 0] okJ7_fill_53178 (Or.inl lkX6_28) rfl rfl (Nat.le_of_ble_eq_true rfl) dX6_clear_21 (zgo_v h fun  M3 h => ?_)
  refine z_aload_n dX6_clear_24 0 rfl ?_
  refine z_iconst (v := 0) dX6_clear_25 (by decide) ?_
  refine z_puti shC_100 rfl fpX6_24 rfl rfl dX6_clear_26 ?_
  exact z_vret (st := []) rfl dX6_clear_29 ⟨rfl, h⟩
theorem dX6_copy_0 : decode cX6_copy 0 = .ok (.aload_n 1, 1) := by decide +kernel
theorem dX6_copy_1 : decode cX6_copy 1 = .ok (.getfield 9, 3) := by decide +kernel
theorem dX6_copy_4 : decode cX6_copy 4 = .ok (.iconst 0, 1) := by decide +kernel
theorem dX6_copy_5 : decode cX6_copy 5 = .ok (.aload_n 0, 1) := by decide +kernel
theorem dX6_copy_6 : decode cX6_copy 6 = .ok (.getfield 9, 3) := by decide +kernel
theorem dX6_copy_9 : decode cX6_copy 9 = .ok (.iconst 0, 1) := by decide +kernel
theorem dX6_copy_10 : decode cX6_copy 10 = .ok (.aload_n 0, 1) := by decide +kernel
theorem dX6_copy_11 : decode cX6_copy 11 = .ok (.getfield 9, 3) := by decide +kernel
theorem dX6_copy_14 : decode cX6_copy 14 = .ok (.arraylength, 1) := by decide +kernel
theorem dX6_copy_15 : decode cX6_copy 15 = .ok (.invokestatic 34, 3) := by decide +kernel
theorem dX6_copy_18 : decode cX6_copy 18 = .ok (.aload_n 1, 1) := by decide +kernel
theorem dX6_copy_19 : decode cX6_copy 19 = .ok (.getfield 15, 3) := by decide +kernel
theorem dX6_copy_22 : decode cX6_copy 22 = .ok (.iconst 0, 1) := by decide +kernel
theorem dX6_copy_23 : decode cX6_copy 23 = .ok (.aload_n 0, 1) := by decide +kernel
theorem dX6_copy_24 : decode cX6_copy 24 = .ok (.getfield 15, 3) := by decide +kernel
theorem dX6_copy_27 : decode cX6_copy 27 = .ok (.iconst 0, 1) := by decide +kernel
theorem dX6_copy_28 : decode cX6_copy 28 = .ok (.bipush 6, 2) := by decide +kernel
theorem dX6_copy_30 : decode cX6_copy 30 = .ok (.invokestatic 34, 3) := by decide +kernel
theorem dX6_copy_33 : decode cX6_copy 33 = .ok (.aload_n 1, 1) := by decide +kernel
theorem dX6_copy_34 : decode cX6_copy 34 = .ok (.getfield 18, 3) := by decide +kernel
theorem dX6_copy_37 : decode cX6_copy 37 = .ok (.iconst 0, 1) := by decide +kernel
theorem dX6_copy_38 : decode cX6_copy 38 = .ok (.aload_n 0, 1) := by decide +kernel
theorem dX6_copy_39 : decode cX6_copy 39 = .ok (.getfield 18, 3) := by decide +kernel
theorem dX6_copy_42 : decode cX6_copy 42 = .ok (.iconst 0, 1) := by decide +kernel
theorem dX6_copy_43 : decode cX6_copy 43 = .ok (.bipush 6, 2) := by decide +kernel
theorem dX6_copy_45 : decode cX6_copy 45 = .ok (.invokestatic 34, 3) := by decide +kernel
theorem dX6_copy_48 : decode cX6_copy 48 = .ok (.aload_n 0, 1) := by decide +kernel
theorem dX6_copy_49 : decode cX6_copy 49 = .ok (.aload_n 1, 1) := by decide +kernel
theorem dX6_copy_50 : decode cX6_copy 50 = .ok (.getfield 24, 3) := by decide +kernel
theorem dX6_copy_53 : decode cX6_copy 53 = .ok (.putfield 24, 3) := by decide +kernel
theorem dX6_copy_56 : decode cX6_copy 56 = .ok (.return_, 1) := by decide +kernel
set_option maxRecDepth 20000 in
theorem vX6_copy_a {g : zG} {d : Nat} {Q : zM → Prop} {M : zM} (h : Q (zup (zcpy (zcpy (zcpy M 101 11 360) 102 12 6) 103 13 6) 10 4 ((zcpy (zcpy (zcpy M 101 11 360) 102 12 6) 103 13 6) 100 4))) : zCv shC g (d + 1) mX6_copy [.ref 10, .ref 100] M Q := by
  refine zW.enter (by decide +kernel) (Nat.le_of_ble_eq_true rfl) ?_
  change zW shC g (d + 1) mX6_copy (zv Q) 0 [(0, .ref 10), (1, .ref 100)] [] M
  refine z_aload_n dX6_copy_0 1 rfl ?_
  refine z_getr shC_100 rfl flX6_9 dX6_copy_1 ?_
  refine z_iconst (v := 0) dX6_copy_4 (by decide) ?_
  refine z_aload_n dX6_copy_5 0 rfl ?_
  refine z_getr shC_10 rfl flX6_9 dX6_copy_6 ?_
  refine z_iconst (v := 0) dX6_copy_9 (by decide) ?_
  refine z_aload_n dX6_copy_10 0 rfl ?_
  refine z_getr shC_10 rfl flX6_9 dX6_copy_11 ?_
  refine z_alen (v := 360) shC_11 (by decide) (by decide) dX6_copy_14 ?_
  refine z_cpy (k0 := 360) shC_101 shC_11 (zat 679 (by decide +kernel) rfl) (by decide) (by decide) (by decide) (by decide) (by decide) (Nat.le_of_ble_eq_true rfl) dX6_copy_15 ?_
  refine z_aload_n dX6_copy_18 1 rfl ?_
  refine z_getr shC_100 rfl flX6_15 dX6_copy_19 ?_
  refine z_iconst (v := 0) dX6_copy_22 (by decide) ?_
  refine z_aload_n dX6_copy_23 0 rfl ?_
  refine z_getr shC_10 rfl flX6_15 dX6_copy_24 ?_
  refine z_iconst (v := 0) dX6_copy_27 (by decide) ?_
  refine z_bipush (v := 6) dX6_copy_28 (by decide) ?_
  refine z_cpy (k0 := 6) shC_102 shC_12 (zat 679 (by decide +kernel) rfl) (by decide) (by decide) (by decide) (by decide) (by decide) (Nat.le_of_ble_eq_true rfl) dX6_copy_30 ?_
  refine z_aload_n dX6_copy_33 1 rfl ?_
  refine z_getr shC_100 rfl flX6_18 dX6_copy_34 ?_
  refine z_iconst (v := 0) dX6_copy_37 (by decide) ?_
  refine z_aload_n dX6_copy_38 0 rfl ?_
  refine z_getr shC_10 rfl flX6_18 dX6_copy_39 ?_
  refine z_iconst (v := 0) dX6_copy_42 (by decide) ?_
  refine z_bipush (v := 6) dX6_copy_43 (by decide) ?_
  refine z_cpy (k0 := 6) shC_103 shC_13 (zat 679 (by decide +kernel) rfl) (by decide) (by decide) (by decide) (by decide) (by decide) (Nat.le_of_ble_eq_true rfl) dX6_copy_45 ?_
  refine z_aload_n dX6_copy_48 0 rfl ?_
  refine z_aload_n dX6_copy_49 1 rfl ?_
  refine z_geti shC_100 rfl flX6_24 dX6_copy_50 ?_
  refine z_puti shC_10 rfl fpX6_24 rfl rfl dX6_copy_53 ?_
  exact z_vret (st := []) rfl dX6_copy_56 ⟨rfl, h⟩
set_option maxRecDepth 20000 in
theorem vX6_copy_b {g : zG} {d : Nat} {Q : zM → Prop} {M : zM} (h : Q (zup (zcpy (zcpy (zcpy M 11 38 360) 12 39 6) 13 40 6) 37 4 ((zcpy (zcpy (zcpy M 11 38 360) 12 39 6) 13 40 6) 10 4))) : zCv shC g (d + 1) mX6_copy [.ref 37, .ref 10] M Q := by
  refine zW.enter (by decide +kernel) (Nat.le_of_ble_eq_true rfl) ?_
  change zW shC g (d + 1) mX6_copy (zv Q) 0 [(0, .ref 37), (1, .ref 10)] [] M
  refine z_aload_n dX6_copy_0 1 rfl ?_
  refine z_getr shC_10 rfl flX6_9 dX6_copy_1 ?_
  refine z_iconst (v := 0) dX6_copy_4 (by decide) ?_
  refine z_aload_n dX6_copy_5 0 rfl ?_
  refine z_getr shC_37 rfl flX6_9 dX6_copy_6 ?_
  refine z_iconst (v := 0) dX6_copy_9 (by decide) ?_
  refine z_aload_n dX6_copy_10 0 rfl ?_
  refine z_getr shC_37 rfl flX6_9 dX6_copy_11 ?_
  refine z_alen (v := 360) shC_38 (by decide) (by decide) dX6_copy_14 ?_
  refine z_cpy (k0 := 360) shC_11 shC_38 (zat 679 (by decide +kernel) rfl) (by decide) (by decide) (by decide) (by decide) (by decide) (Nat.le_of_ble_eq_true rfl) dX6_copy_15 ?_
  refine z_aload_n dX6_copy_18 1 rfl ?_
  refine z_getr shC_10 rfl flX6_15 dX6_copy_19 ?_
  refine z_iconst (v := 0) dX6_copy_22 (by decide) ?_
  refine z_aload_n dX6_copy_23 0 rfl ?_
  refine z_getr shC_37 rfl flX6_15 dX6_copy_24 ?_
  refine z_iconst (v := 0) dX6_copy_27 (by decide) ?_
  refine z_bipush (v := 6) dX6_copy_28 (by decide) ?_
  refine z_cpy (k0 := 6) shC_12 shC_39 (zat 679 (by decide +kernel) rfl) (by decide) (by decide) (by decide) (by decide) (by decide) (Nat.le_of_ble_eq_true rfl) dX6_copy_30 ?_
  refine z_aload_n dX6_copy_33 1 rfl ?_
  refine z_getr shC_10 rfl flX6_18 dX6_copy_34 ?_
  refine z_iconst (v := 0) dX6_copy_37 (by decide) ?_
  refine z_aload_n dX6_copy_38 0 rfl ?_
  refine z_getr shC_37 rfl flX6_18 dX6_copy_39 ?_
  refine z_iconst (v := 0) dX6_copy_42 (by decide) ?_
  refine z_bipush (v := 6) dX6_copy_43 (by decide) ?_
  refine z_cpy (k0 := 6) shC_13 shC_40 (zat 679 (by decide +kernel) rfl) (by decide) (by decide) (by decide) (by decide) (by decide) (Nat.le_of_ble_eq_true rfl) dX6_copy_45 ?_
  refine z_aload_n dX6_copy_48 0 rfl ?_
  refine z_aload_n dX6_copy_49 1 rfl ?_
  refine z_geti shC_10 rfl flX6_24 dX6_copy_50 ?_
  refine z_puti shC_37 rfl fpX6_24 rfl rfl dX6_copy_53 ?_
  exact z_vret (st := []) rfl dX6_copy_56 ⟨rfl, h⟩
set_option maxRecDepth 20000 in
theorem vX6_copy_c {g : zG} {d : Nat} {Q : zM → Prop} {M : zM} (h : Q (zup (zcpy (zcpy (zcpy M 38 11 360) 39 12 6) 40 13 6) 10 4 ((zcpy (zcpy (zcpy M 38 11 360) 39 12 6) 40 13 6) 37 4))) : zCv shC g (d + 1) mX6_copy [.ref 10, .ref 37] M Q := by
  refine zW.enter (by decide +kernel) (Nat.le_of_ble_eq_true rfl) ?_
  change zW shC g (d + 1) mX6_copy (zv Q) 0 [(0, .ref 10), (1, .ref 37)] [] M
  refine z_aload_n dX6_copy_0 1 rfl ?_
  refine z_getr shC_37 rfl flX6_9 dX6_copy_1 ?_
  refine z_iconst (v := 0) dX6_copy_4 (by decide) ?_
  refine z_aload_n dX6_copy_5 0 rfl ?_
  refine z_getr shC_10 rfl flX6_9 dX6_copy_6 ?_
  refine z_iconst (v := 0) dX6_copy_9 (by decide) ?_
  refine z_aload_n dX6_copy_10 0 rfl ?_
  refine z_getr shC_10 rfl flX6_9 dX6_copy_11 ?_
  refine z_alen (v := 360) shC_11 (by decide) (by decide) dX6_copy_14 ?_
  refine z_cpy (k0 := 360) shC_38 shC_11 (zat 679 (by decide +kernel) rfl) (by decide) (by decide) (by decide) (by decide) (by decide) (Nat.le_of_ble_eq_true rfl) dX6_copy_15 ?_
  refine z_aload_n dX6_copy_18 1 rfl ?_
  refine z_getr shC_37 rfl flX6_15 dX6_copy_19 ?_
  refine z_iconst (v := 0) dX6_copy_22 (by decide) ?_
  refine z_aload_n dX6_copy_23 0 rfl ?_
  refine z_getr shC_10 rfl flX6_15 dX6_copy_24 ?_
  refine z_iconst (v := 0) dX6_copy_27 (by decide) ?_
  refine z_bipush (v := 6) dX6_copy_28 (by decide) ?_
  refine z_cpy (k0 := 6) shC_39 shC_12 (zat 679 (by decide +kernel) rfl) (by decide) (by decide) (by decide) (by decide) (by decide) (Nat.le_of_ble_eq_true rfl) dX6_copy_30 ?_
  refine z_aload_n dX6_copy_33 1 rfl ?_
  refine z_getr shC_37 rfl flX6_18 dX6_copy_34 ?_
  refine z_iconst (v := 0) dX6_copy_37 (by decide) ?_
  refine z_aload_n dX6_copy_38 0 rfl ?_
  refine z_getr shC_10 rfl flX6_18 dX6_copy_39 ?_
  refine z_iconst (v := 0) dX6_copy_42 (by decide) ?_
  refine z_bipush (v := 6) dX6_copy_43 (by decide) ?_
  refine z_cpy (k0 := 6) shC_40 shC_13 (zat 679 (by decide +kernel) rfl) (by decide) (by decide) (by decide) (by decide) (by decide) (Nat.le_of_ble_eq_true rfl) dX6_copy_45 ?_
  refine z_aload_n dX6_copy_48 0 rfl ?_
  refine z_aload_n dX6_copy_49 1 rfl ?_
  refine z_geti shC_37 rfl flX6_24 dX6_copy_50 ?_
  refine z_puti shC_10 rfl fpX6_24 rfl rfl dX6_copy_53 ?_
  exact z_vret (st := []) rfl dX6_copy_56 ⟨rfl, h⟩
theorem dX6_wayOf_0 : decode cX6_wayOf 0 = .ok (.aload_n 0, 1) := by decide +kernel
theorem dX6_wayOf_1 : decode cX6_wayOf 1 = .ok (.getfield 9, 3) := by decide +kernel
theorem dX6_wayOf_4 : decode cX6_wayOf 4 = .ok (.iload_n 1, 1) := by decide +kernel
theorem dX6_wayOf_5 : decode cX6_wayOf 5 = .ok (.bipush 60, 2) := by decide +kernel
theorem dX6_wayOf_7 : decode cX6_wayOf 7 = .ok (.imul, 1) := by decide +kernel
theorem dX6_wayOf_8 : decode cX6_wayOf 8 = .ok (.iload_n 2, 1) := by decide +kernel
theorem dX6_wayOf_9 : decode cX6_wayOf 9 = .ok (.iadd, 1) := by decide +kernel
theorem dX6_wayOf_10 : decode cX6_wayOf 10 = .ok (.iaload, 1) := by decide +kernel
theorem dX6_wayOf_11 : decode cX6_wayOf 11 = .ok (.bipush 8, 2) := by decide +kernel
theorem dX6_wayOf_13 : decode cX6_wayOf 13 = .ok (.irem, 1) := by decide +kernel
theorem dX6_wayOf_14 : decode cX6_wayOf 14 = .ok (.ireturn, 1) := by decide +kernel
set_option maxRecDepth 20000 in
theorem vX6_wayOf {g : zG} {d : Nat} {Q : Int32 → zM → Prop} {M : zM} {l1 : Int32} {l2 : Int32} (h : ∃ k1 : Nat, ((l1 * 60) + l2) = iv k1 ∧ k1 < 360 ∧ Q ((M 11 k1) - (M 11 k1) / 8 * 8) M) : zCi shC g d mX6_wayOf [.ref 10, .int l1, .int l2] M Q := by
  refine zW.enter (by decide +kernel) (Nat.le_of_ble_eq_true rfl) ?_
  change zW shC g d mX6_wayOf (zi Q) 0 [(0, .ref 10), (1, .int l1), (2, .int l2)] [] M
  refine z_aload_n dX6_wayOf_0 0 rfl ?_
  refine z_getr shC_10 rfl flX6_9 dX6_wayOf_1 ?_
  refine z_iload_n dX6_wayOf_4 1 rfl ?_
  refine z_bipush (v := 60) dX6_wayOf_5 (by decide) ?_
  refine z_imul dX6_wayOf_7 ?_
  refine z_iload_n dX6_wayOf_8 2 rfl ?_
  refine z_iadd dX6_wayOf_9 ?_
  obtain ⟨k1, ek1, uk1, h⟩ := h
  refine z_iald2 (k0 := k1) shC_11 (by decide) ek1 uk1 dX6_wayOf_10 ?_
  refine z_bipush (v := 8) dX6_wayOf_11 (by decide) ?_
  refine z_irem dX6_wayOf_13 (by decide) ?_
  exact z_iret (st := []) rfl rfl dX6_wayOf_14 ⟨_, rfl, h⟩
theorem dX6_downAt_0 : decode cX6_downAt 0 = .ok (.aload_n 0, 1) := by decide +kernel
theorem dX6_downAt_1 : decode cX6_downAt 1 = .ok (.getfield 9, 3) := by decide +kernel
theorem dX6_downAt_4 : decode cX6_downAt 4 = .ok (.iload_n 1, 1) := by decide +kernel
theorem dX6_downAt_5 : decode cX6_downAt 5 = .ok (.bipush 60, 2) := by decide +kernel
theorem dX6_downAt_7 : decode cX6_downAt 7 = .ok (.imul, 1) := by decide +kernel
theorem dX6_downAt_8 : decode cX6_downAt 8 = .ok (.iload_n 2, 1) := by decide +kernel
theorem dX6_downAt_9 : decode cX6_downAt 9 = .ok (.iadd, 1) := by decide +kernel
theorem dX6_downAt_10 : decode cX6_downAt 10 = .ok (.iaload, 1) := by decide +kernel
theorem dX6_downAt_11 : decode cX6_downAt 11 = .ok (.bipush 8, 2) := by decide +kernel
theorem dX6_downAt_13 : decode cX6_downAt 13 = .ok (.idiv, 1) := by decide +kernel
theorem dX6_downAt_14 : decode cX6_downAt 14 = .ok (.iload_n 3, 1) := by decide +kernel
theorem dX6_downAt_15 : decode cX6_downAt 15 = .ok (.invokestatic 40, 3) := by decide +kernel
theorem dX6_downAt_18 : decode cX6_downAt 18 = .ok (.ireturn, 1) := by decide +kernel
set_option maxRecDepth 20000 in
theorem vX6_downAt {g : zG} {d : Nat} {Q : Int32 → zM → Prop} {M : zM} {l1 : Int32} {l2 : Int32} {l3 : Int32} (h : ∃ k1 : Nat, ((l1 * 60) + l2) = iv k1 ∧ k1 < 360 ∧ zCi shC g d mX6_marked [.int ((M 11 k1) / 8), .int l3] M (fun x1 M1 => Q x1 M1)) : zCi shC g (d + 1) mX6_downAt [.ref 10, .int l1, .int l2, .int l3] M Q := by
  refine zW.enter (by decide +kernel) (Nat.le_of_ble_eq_true rfl) ?_
  change zW shC g (d + 1) mX6_downAt (zi Q) 0 [(0, .ref 10), (1, .int l1), (2, .int l2), (3, .int l3)] [] M
  refine z_aload_n dX6_downAt_0 0 rfl ?_
  refine z_getr shC_10 rfl flX6_9 dX6_downAt_1 ?_
  refine z_iload_n dX6_downAt_4 1 rfl ?_
  refine z_bipush (v := 60) dX6_downAt_5 (by decide) ?_
  refine z_imul dX6_downAt_7 ?_
  refine z_iload_n dX6_downAt_8 2 rfl ?_
  refine z_iadd dX6_downAt_9 ?_
  obtain ⟨k1, ek1, uk1, h⟩ := h
  refine z_iald2 (k0 := k1) shC_11 (by decide) ek1 uk1 dX6_downAt_10 ?_
  refine z_bipush (v := 8) dX6_downAt_11 (by decide) ?_
  refine z_idiv dX6_downAt_13 (by decide) ?_
  refine z_iload_n dX6_downAt_14 3 rfl ?_
  refine z_callS (m2 := mX6_marked) (st := []) [.int ((M 11 k1) / 8), .int l3] okX6_marked (Or.inl lkX6_40) rfl rfl (Nat.le_of_ble_eq_true rfl) dX6_downAt_15 (zgo_i h fun x1 M1 h => ?_)
  exact z_iret (st := []) rfl rfl dX6_downAt_18 ⟨_, rfl, h⟩
theorem dX6_downBehind_0 : decode cX6_downBehind 0 = .ok (.aload_n 0, 1) := by decide +kernel
theorem dX6_downBehind_1 : decode cX6_downBehind 1 = .ok (.getfield 18, 3) := by decide +kernel
theorem dX6_downBehind_4 : decode cX6_downBehind 4 = .ok (.iload_n 1, 1) := by decide +kernel
theorem dX6_downBehind_5 : decode cX6_downBehind 5 = .ok (.iaload, 1) := by decide +kernel
theorem dX6_downBehind_6 : decode cX6_downBehind 6 = .ok (.iload_n 2, 1) := by decide +kernel
theorem dX6_downBehind_7 : decode cX6_downBehind 7 = .ok (.invokestatic 40, 3) := by decide +kernel
theorem dX6_downBehind_10 : decode cX6_downBehind 10 = .ok (.ireturn, 1) := by decide +kernel
set_option maxRecDepth 20000 in
theorem vX6_downBehind {g : zG} {d : Nat} {Q : Int32 → zM → Prop} {M : zM} {l1 : Int32} {l2 : Int32} (h : ∃ k1 : Nat, l1 = iv k1 ∧ k1 < 6 ∧ zCi shC g d mX6_marked [.int (M 13 k1), .int l2] M (fun x1 M1 => Q x1 M1)) : zCi shC g (d + 1) mX6_downBehind [.ref 10, .int l1, .int l2] M Q := by
  refine zW.enter (by decide +kernel) (Nat.le_of_ble_eq_true rfl) ?_
  change zW shC g (d + 1) mX6_downBehind (zi Q) 0 [(0, .ref 10), (1, .int l1), (2, .int l2)] [] M
  refine z_aload_n dX6_downBehind_0 0 rfl ?_
  refine z_getr shC_10 rfl flX6_18 dX6_downBehind_1 ?_
  refine z_iload_n dX6_downBehind_4 1 rfl ?_
  obtain ⟨k1, ek1, uk1, h⟩ := h
  refine z_iald2 (k0 := k1) shC_13 (by decide) ek1 uk1 dX6_downBehind_5 ?_
  refine z_iload_n dX6_downBehind_6 2 rfl ?_
  refine z_callS (m2 := mX6_marked) (st := []) [.int (M 13 k1), .int l2] okX6_marked (Or.inl lkX6_40) rfl rfl (Nat.le_of_ble_eq_true rfl) dX6_downBehind_7 (zgo_i h fun x1 M1 h => ?_)
  exact z_iret (st := []) rfl rfl dX6_downBehind_10 ⟨_, rfl, h⟩
theorem dX6_marked_0 : decode cX6_marked 0 = .ok (.iload_n 0, 1) := by decide +kernel
theorem dX6_marked_1 : decode cX6_marked 1 = .ok (.ifCond .ne 5, 3) := by decide +kernel
theorem dX6_marked_4 : decode cX6_marked 4 = .ok (.iload_n 1, 1) := by decide +kernel
theorem dX6_marked_5 : decode cX6_marked 5 = .ok (.ireturn, 1) := by decide +kernel
theorem dX6_marked_6 : decode cX6_marked 6 = .ok (.iload_n 0, 1) := by decide +kernel
theorem dX6_marked_7 : decode cX6_marked 7 = .ok (.iconst 2, 1) := by decide +kernel
theorem dX6_marked_8 : decode cX6_marked 8 = .ok (.if_icmp .ne 7, 3) := by decide +kernel
theorem dX6_marked_11 : decode cX6_marked 11 = .ok (.iconst 1, 1) := by decide +kernel
theorem dX6_marked_12 : decode cX6_marked 12 = .ok (.goto 4, 3) := by decide +kernel
theorem dX6_marked_15 : decode cX6_marked 15 = .ok (.iconst 0, 1) := by decide +kernel
theorem dX6_marked_16 : decode cX6_marked 16 = .ok (.ireturn, 1) := by decide +kernel
set_option maxRecDepth 20000 in
theorem vX6_marked {g : zG} {d : Nat} {Q : Int32 → zM → Prop} {M : zM} {l0 : Int32} {l1 : Int32} (h : (¬ l0 = 0 → (¬ l0 = 2 → Q 0 M) ∧ (l0 = 2 → Q 1 M)) ∧ (l0 = 0 → Q l1 M)) : zCi shC g d mX6_marked [.int l0, .int l1] M Q := by
  refine zW.enter (by decide +kernel) (Nat.le_of_ble_eq_true rfl) ?_
  change zW shC g d mX6_marked (zi Q) 0 [(0, .int l0), (1, .int l1)] [] M
  refine z_iload_n dX6_marked_0 0 rfl ?_
  refine z_if_ne 6 dX6_marked_1 (by decide) (fun c1 => ?_) (fun c1 => ?_)
  · have h := h.1 c1
    refine z_iload_n dX6_marked_6 0 rfl ?_
    refine z_iconst (v := 2) dX6_marked_7 (by decide) ?_
    refine z_icmp_ne 15 dX6_marked_8 (by decide) (fun c2 => ?_) (fun c2 => ?_)
    · have h := h.1 c2
      refine z_iconst (v := 0) dX6_marked_15 (by decide) ?_
      exact z_iret (st := []) rfl rfl dX6_marked_16 ⟨_, rfl, h⟩
    · have h := h.2 c2
      refine z_iconst (v := 1) dX6_marked_11 (by decide) ?_
      refine z_goto 16 dX6_marked_12 (by decide) ?_
      exact z_iret (st := []) rfl rfl dX6_marked_16 ⟨_, rfl, h⟩
  · have h := h.2 c1
    refine z_iload_n dX6_marked_4 1 rfl ?_
    exact z_iret (st := []) rfl rfl dX6_marked_5 ⟨_, rfl, h⟩
theorem dX6_parse_0 : decode cX6_parse 0 = .ok (.aload_n 0, 1) := by decide +kernel
theorem dX6_parse_1 : decode cX6_parse 1 = .ok (.invokevirtual 44, 3) := by decide +kernel
theorem dX6_parse_4 : decode cX6_parse 4 = .ok (.iconst 0, 1) := by decide +kernel
theorem dX6_parse_5 : decode cX6_parse 5 = .ok (.istore_n 3, 1) := by decide +kernel
theorem dX6_parse_6 : decode cX6_parse 6 = .ok (.iload_n 3, 1) := by decide +kernel
theorem dX6_parse_7 : decode cX6_parse 7 = .ok (.sipush 400, 3) := by decide +kernel
theorem dX6_parse_10 : decode cX6_parse 10 = .ok (.if_icmp .ge 27, 3) := by decide +kernel
theorem dX6_parse_13 : decode cX6_parse 13 = .ok (.aload_n 1, 1) := by decide +kernel
theorem dX6_parse_14 : decode cX6_parse 14 = .ok (.invokevirtual 47, 3) := by decide +kernel
theorem dX6_parse_17 : decode cX6_parse 17 = .ok (.ifCond .ne 20, 3) := by decide +kernel
theorem dX6_parse_20 : decode cX6_parse 20 = .ok (.aload_n 0, 1) := by decide +kernel
theorem dX6_parse_21 : decode cX6_parse 21 = .ok (.aload_n 1, 1) := by decide +kernel
theorem dX6_parse_22 : decode cX6_parse 22 = .ok (.iload_n 2, 1) := by decide +kernel
theorem dX6_parse_23 : decode cX6_parse 23 = .ok (.invokevirtual 53, 3) := by decide +kernel
theorem dX6_parse_26 : decode cX6_parse 26 = .ok (.ifCond .ne 5, 3) := by decide +kernel
theorem dX6_parse_29 : decode cX6_parse 29 = .ok (.iconst 0, 1) := by decide +kernel
theorem dX6_parse_30 : decode cX6_parse 30 = .ok (.ireturn, 1) := by decide +kernel
theorem dX6_parse_31 : decode cX6_parse 31 = .ok (.iinc 3 1, 3) := by decide +kernel
theorem dX6_parse_34 : decode cX6_parse 34 = .ok (.goto (-28), 3) := by decide +kernel
theorem dX6_parse_37 : decode cX6_parse 37 = .ok (.iconst 1, 1) := by decide +kernel
theorem dX6_parse_38 : decode cX6_parse 38 = .ok (.ireturn, 1) := by decide +kernel
set_option maxRecDepth 20000 in
theorem vX6_parse {g : zG} {d : Nat} {Q : Bool → zM → Prop} {M : zM} {l2 : Int32} (h : zCv shC g d mX6_clear [.ref 100] M (fun  M1 => zW shC g (d + 1) mX6_parse (zz Q) 6 [(0, .ref 100), (1, .ref 98), (2, .int l2), (3, .int 0)] [] M1)) : zCz shC g (d + 1) mX6_parse [.ref 100, .ref 98, .int l2] M Q := by
  refine zW.enter (by decide +kernel) (Nat.le_of_ble_eq_true rfl) ?_
  change zW shC g (d + 1) mX6_parse (zz Q) 0 [(0, .ref 100), (1, .ref 98), (2, .int l2)] [] M
  refine z_aload_n dX6_parse_0 0 rfl ?_
  refine z_callV (m2 := mX6_clear) (st := []) [] okX6_clear (Or.inl lkX6_44) shC_100 rfl rfl rfl (Nat.le_of_ble_eq_true rfl) dX6_parse_1 (zgo_v h fun  M1 h => ?_)
  refine z_iconst (v := 0) dX6_parse_4 (by decide) ?_
  refine z_istore_n [(3, .int 0), (0, .ref 100), (1, .ref 98), (2, .int l2)] dX6_parse_5 (by decide) rfl ?_
  exact zW.sub [1, 2, 3, 0] rfl h
set_option maxRecDepth 20000 in
theorem vX6_parse_6 {g : zG} {d : Nat} {Q : Bool → zM → Prop} {M : zM} {l2 : Int32} {l3 : Int32} (h : (400 ≤ l3 → Q true M) ∧ (¬ 400 ≤ l3 → zCz shC g d mX5_isEnd [.ref 98] M (fun b1 M1 => (b1 = true → Q true M1) ∧ (b1 = false → zCz shC g d mX6_parseLine [.ref 100, .ref 98, .int l2] M1 (fun b2 M2 => (b2 = true → zW shC g (d + 1) mX6_parse (zz Q) 6 [(0, .ref 100), (1, .ref 98), (2, .int l2), (3, .int (l3 + 1))] [] M2) ∧ (b2 = false → Q false M2)))))) : zW shC g (d + 1) mX6_parse (zz Q) 6 [(0, .ref 100), (1, .ref 98), (2, .int l2), (3, .int l3)] [] M := by
  refine z_iload_n dX6_parse_6 3 rfl ?_
  refine z_sipush (v := 400) dX6_parse_7 (by decide) ?_
  refine z_icmp_ge 37 dX6_parse_10 (by decide) (fun c1 => ?_) (fun c1 => ?_)
  · have h := h.1 c1
    refine z_iconst (v := 1) dX6_parse_37 (by decide) ?_
    exact z_zret (b := true) rfl rfl dX6_parse_38 h
  · have h := h.2 c1
    refine z_aload_n dX6_parse_13 1 rfl ?_
    refine z_callV (m2 := mX5_isEnd) (st := []) [] okX5_isEnd (Or.inl lkX6_47) shC_98 rfl rfl rfl (Nat.le_of_ble_eq_true rfl) dX6_parse_14 (zgo_z h fun b1 M1 h => ?_)
    refine z_ifb_ne 37 dX6_parse_17 (by decide) (fun c2 => ?_) (fun c2 => ?_)
    · have h := h.1 c2
      refine z_iconst (v := 1) dX6_parse_37 (by decide) ?_
      exact z_zret (b := true) rfl rfl dX6_parse_38 h
    · have h := h.2 c2
      refine z_aload_n dX6_parse_20 0 rfl ?_
      refine z_aload_n dX6_parse_21 1 rfl ?_
      refine z_iload_n dX6_parse_22 2 rfl ?_
      refine z_callV (m2 := mX6_parseLine) (st := []) [.ref 98, .int l2] okX6_parseLine (Or.inl lkX6_53) shC_100 rfl rfl rfl (Nat.le_of_ble_eq_true rfl) dX6_parse_23 (zgo_z h fun b2 M2 h => ?_)
      refine z_ifb_ne 31 dX6_parse_26 (by decide) (fun c3 => ?_) (fun c3 => ?_)
      · have h := h.1 c3
        refine z_iinc (x := l3) (v := (l3 + 1)) [(3, .int (l3 + 1)), (0, .ref 100), (1, .ref 98), (2, .int l2)] dX6_parse_31 3 rfl rfl (by decide) rfl ?_
        refine z_goto 6 dX6_parse_34 (by decide) ?_
        exact zW.sub [1, 2, 3, 0] rfl h
      · have h := h.2 c3
        refine z_iconst (v := 0) dX6_parse_29 (by decide) ?_
        exact z_zret (b := false) rfl rfl dX6_parse_30 h
theorem dX6_parseLine_0 : decode cX6_parseLine 0 = .ok (.aload_n 1, 1) := by decide +kernel
theorem dX6_parseLine_1 : decode cX6_parseLine 1 = .ok (.ldc 57, 2) := by decide +kernel
theorem dX6_parseLine_3 : decode cX6_parseLine 3 = .ok (.invokevirtual 59, 3) := by decide +kernel
theorem dX6_parseLine_6 : decode cX6_parseLine 6 = .ok (.ifCond .ne 9, 3) := by decide +kernel
theorem dX6_parseLine_9 : decode cX6_parseLine 9 = .ok (.aload_n 1, 1) := by decide +kernel
theorem dX6_parseLine_10 : decode cX6_parseLine 10 = .ok (.iconst 1, 1) := by decide +kernel
theorem dX6_parseLine_11 : decode cX6_parseLine 11 = .ok (.invokevirtual 63, 3) := by decide +kernel
theorem dX6_parseLine_14 : decode cX6_parseLine 14 = .ok (.ireturn, 1) := by decide +kernel
theorem dX6_parseLine_15 : decode cX6_parseLine 15 = .ok (.aload_n 1, 1) := by decide +kernel
theorem dX6_parseLine_16 : decode cX6_parseLine 16 = .ok (.invokevirtual 67, 3) := by decide +kernel
theorem dX6_parseLine_19 : decode cX6_parseLine 19 = .ok (.aload_n 1, 1) := by decide +kernel
theorem dX6_parseLine_20 : decode cX6_parseLine 20 = .ok (.iconst 0, 1) := by decide +kernel
theorem dX6_parseLine_21 : decode cX6_parseLine 21 = .ok (.iload_n 2, 1) := by decide +kernel
theorem dX6_parseLine_22 : decode cX6_parseLine 22 = .ok (.iconst 1, 1) := by decide +kernel
theorem dX6_parseLine_23 : decode cX6_parseLine 23 = .ok (.isub, 1) := by decide +kernel
theorem dX6_parseLine_24 : decode cX6_parseLine 24 = .ok (.invokevirtual 70, 3) := by decide +kernel
theorem dX6_parseLine_27 : decode cX6_parseLine 27 = .ok (.istore_n 3, 1) := by decide +kernel
theorem dX6_parseLine_28 : decode cX6_parseLine 28 = .ok (.iload_n 3, 1) := by decide +kernel
theorem dX6_parseLine_29 : decode cX6_parseLine 29 = .ok (.ifCond .lt 9, 3) := by decide +kernel
theorem dX6_parseLine_32 : decode cX6_parseLine 32 = .ok (.iload_n 3, 1) := by decide +kernel
theorem dX6_parseLine_33 : decode cX6_parseLine 33 = .ok (.bipush 6, 2) := by decide +kernel
theorem dX6_parseLine_35 : decode cX6_parseLine 35 = .ok (.if_icmp .lt 5, 3) := by decide +kernel
theorem dX6_parseLine_38 : decode cX6_parseLine 38 = .ok (.iconst 0, 1) := by decide +kernel
theorem dX6_parseLine_39 : decode cX6_parseLine 39 = .ok (.ireturn, 1) := by decide +kernel
theorem dX6_parseLine_40 : decode cX6_parseLine 40 = .ok (.aload_n 0, 1) := by decide +kernel
theorem dX6_parseLine_41 : decode cX6_parseLine 41 = .ok (.getfield 21, 3) := by decide +kernel
theorem dX6_parseLine_44 : decode cX6_parseLine 44 = .ok (.iload_n 3, 1) := by decide +kernel
theorem dX6_parseLine_45 : decode cX6_parseLine 45 = .ok (.iaload, 1) := by decide +kernel
theorem dX6_parseLine_46 : decode cX6_parseLine 46 = .ok (.iconst 1, 1) := by decide +kernel
theorem dX6_parseLine_47 : decode cX6_parseLine 47 = .ok (.if_icmp .ne 9, 3) := by decide +kernel
theorem dX6_parseLine_50 : decode cX6_parseLine 50 = .ok (.aload_n 1, 1) := by decide +kernel
theorem dX6_parseLine_51 : decode cX6_parseLine 51 = .ok (.iconst 3, 1) := by decide +kernel
theorem dX6_parseLine_52 : decode cX6_parseLine 52 = .ok (.invokevirtual 63, 3) := by decide +kernel
theorem dX6_parseLine_55 : decode cX6_parseLine 55 = .ok (.ireturn, 1) := by decide +kernel
theorem dX6_parseLine_56 : decode cX6_parseLine 56 = .ok (.aload_n 0, 1) := by decide +kernel
theorem dX6_parseLine_57 : decode cX6_parseLine 57 = .ok (.getfield 21, 3) := by decide +kernel
theorem dX6_parseLine_60 : decode cX6_parseLine 60 = .ok (.iload_n 3, 1) := by decide +kernel
theorem dX6_parseLine_61 : decode cX6_parseLine 61 = .ok (.iconst 1, 1) := by decide +kernel
theorem dX6_parseLine_62 : decode cX6_parseLine 62 = .ok (.iastore, 1) := by decide +kernel
theorem dX6_parseLine_63 : decode cX6_parseLine 63 = .ok (.aload_n 1, 1) := by decide +kernel
theorem dX6_parseLine_64 : decode cX6_parseLine 64 = .ok (.invokevirtual 67, 3) := by decide +kernel
theorem dX6_parseLine_67 : decode cX6_parseLine 67 = .ok (.iconst 0, 1) := by decide +kernel
theorem dX6_parseLine_68 : decode cX6_parseLine 68 = .ok (.istore 4, 2) := by decide +kernel
theorem dX6_parseLine_70 : decode cX6_parseLine 70 = .ok (.iload 4, 2) := by decide +kernel
theorem dX6_parseLine_72 : decode cX6_parseLine 72 = .ok (.sipush 400, 3) := by decide +kernel
theorem dX6_parseLine_75 : decode cX6_parseLine 75 = .ok (.if_icmp .ge 29, 3) := by decide +kernel
theorem dX6_parseLine_78 : decode cX6_parseLine 78 = .ok (.aload_n 1, 1) := by decide +kernel
theorem dX6_parseLine_79 : decode cX6_parseLine 79 = .ok (.bipush 59, 2) := by decide +kernel
theorem dX6_parseLine_81 : decode cX6_parseLine 81 = .ok (.invokevirtual 73, 3) := by decide +kernel
theorem dX6_parseLine_84 : decode cX6_parseLine 84 = .ok (.ifCond .ne 20, 3) := by decide +kernel
theorem dX6_parseLine_87 : decode cX6_parseLine 87 = .ok (.aload_n 0, 1) := by decide +kernel
theorem dX6_parseLine_88 : decode cX6_parseLine 88 = .ok (.aload_n 1, 1) := by decide +kernel
theorem dX6_parseLine_89 : decode cX6_parseLine 89 = .ok (.iload_n 3, 1) := by decide +kernel
theorem dX6_parseLine_90 : decode cX6_parseLine 90 = .ok (.invokevirtual 77, 3) := by decide +kernel
theorem dX6_parseLine_93 : decode cX6_parseLine 93 = .ok (.ifCond .ne 5, 3) := by decide +kernel
theorem dX6_parseLine_96 : decode cX6_parseLine 96 = .ok (.iconst 0, 1) := by decide +kernel
theorem dX6_parseLine_97 : decode cX6_parseLine 97 = .ok (.ireturn, 1) := by decide +kernel
theorem dX6_parseLine_98 : decode cX6_parseLine 98 = .ok (.iinc 4 1, 3) := by decide +kernel
theorem dX6_parseLine_101 : decode cX6_parseLine 101 = .ok (.goto (-31), 3) := by decide +kernel
theorem dX6_parseLine_104 : decode cX6_parseLine 104 = .ok (.aload_n 1, 1) := by decide +kernel
theorem dX6_parseLine_105 : decode cX6_parseLine 105 = .ok (.invokevirtual 67, 3) := by decide +kernel
theorem dX6_parseLine_108 : decode cX6_parseLine 108 = .ok (.aload_n 0, 1) := by decide +kernel
theorem dX6_parseLine_109 : decode cX6_parseLine 109 = .ok (.dup, 1) := by decide +kernel
theorem dX6_parseLine_110 : decode cX6_parseLine 110 = .ok (.getfield 24, 3) := by decide +kernel
theorem dX6_parseLine_113 : decode cX6_parseLine 113 = .ok (.iconst 1, 1) := by decide +kernel
theorem dX6_parseLine_114 : decode cX6_parseLine 114 = .ok (.iadd, 1) := by decide +kernel
theorem dX6_parseLine_115 : decode cX6_parseLine 115 = .ok (.putfield 24, 3) := by decide +kernel
theorem dX6_parseLine_118 : decode cX6_parseLine 118 = .ok (.iconst 1, 1) := by decide +kernel
theorem dX6_parseLine_119 : decode cX6_parseLine 119 = .ok (.ireturn, 1) := by decide +kernel
set_option maxRecDepth 20000 in
theorem vX6_parseLine {g : zG} {d : Nat} {Q : Bool → zM → Prop} {M : zM} {l2 : Int32} (h : zCz shC g d mX5_isWord [.ref 98, .ref (4096 + 0)] M (fun b1 M1 => (b1 = true → zCv shC g d mX5_next [.ref 98] M1 (fun  M2 => zCi shC g d mX5_number [.ref 98, .int 0, .int (l2 - 1)] M2 (fun x2 M3 => (x2 < 0 → Q false M3) ∧ (¬ x2 < 0 → (x2 < 6 → ∃ k1 : Nat, x2 = iv k1 ∧ k1 < 6 ∧ (¬ (M3 104 k1) = 1 → zCv shC g d mX5_next [.ref 98] (zup M3 104 k1 1) (fun  M4 => zW shC g (d + 1) mX6_parseLine (zz Q) 70 [(0, .ref 100), (1, .ref 98), (3, .int x2), (4, .int 0)] [] M4)) ∧ ((M3 104 k1) = 1 → zCz shC g d mX5_fail [.ref 98, .int 3] M3 (fun b2 M4 => Q b2 M4))) ∧ (¬ x2 < 6 → Q false M3))))) ∧ (b1 = false → zCz shC g d mX5_fail [.ref 98, .int 1] M1 (fun b2 M2 => Q b2 M2)))) : zCz shC g (d + 1) mX6_parseLine [.ref 100, .ref 98, .int l2] M Q := by
  refine zW.enter (by decide +kernel) (Nat.le_of_ble_eq_true rfl) ?_
  change zW shC g (d + 1) mX6_parseLine (zz Q) 0 [(0, .ref 100), (1, .ref 98), (2, .int l2)] [] M
  refine z_aload_n dX6_parseLine_0 1 rfl ?_
  refine z_ldcS (i := 0) (tx := "skater") dX6_parseLine_1 (by decide +kernel) ?_
  refine z_callV (m2 := mX5_isWord) (st := []) [.ref (4096 + 0)] okX5_isWord (Or.inl lkX6_59) shC_98 rfl rfl rfl (Nat.le_of_ble_eq_true rfl) dX6_parseLine_3 (zgo_z h fun b1 M1 h => ?_)
  refine z_ifb_ne 15 dX6_parseLine_6 (by decide) (fun c1 => ?_) (fun c1 => ?_)
  · have h := h.1 c1
    refine z_aload_n dX6_parseLine_15 1 rfl ?_
    refine z_callV (m2 := mX5_next) (st := []) [] okX5_next (Or.inl lkX6_67) shC_98 rfl rfl rfl (Nat.le_of_ble_eq_true rfl) dX6_parseLine_16 (zgo_v h fun  M2 h => ?_)
    refine z_aload_n dX6_parseLine_19 1 rfl ?_
    refine z_iconst (v := 0) dX6_parseLine_20 (by decide) ?_
    refine z_iload_n dX6_parseLine_21 2 rfl ?_
    refine z_iconst (v := 1) dX6_parseLine_22 (by decide) ?_
    refine z_isub dX6_parseLine_23 ?_
    refine z_callV (m2 := mX5_number) (st := []) [.int 0, .int (l2 - 1)] okX5_number (Or.inl lkX6_70) shC_98 rfl rfl rfl (Nat.le_of_ble_eq_true rfl) dX6_parseLine_24 (zgo_i h fun x2 M3 h => ?_)
    refine z_istore_n [(3, .int x2), (0, .ref 100), (1, .ref 98), (2, .int l2)] dX6_parseLine_27 (by decide) rfl ?_
    refine z_iload_n dX6_parseLine_28 0 rfl ?_
    refine z_if_lt 38 dX6_parseLine_29 (by decide) (fun c2 => ?_) (fun c2 => ?_)
    · have h := h.1 c2
      refine z_iconst (v := 0) dX6_parseLine_38 (by decide) ?_
      exact z_zret (b := false) rfl rfl dX6_parseLine_39 h
    · have h := h.2 c2
      refine z_iload_n dX6_parseLine_32 0 rfl ?_
      refine z_bipush (v := 6) dX6_parseLine_33 (by decide) ?_
      refine z_icmp_lt 40 dX6_parseLine_35 (by decide) (fun c3 => ?_) (fun c3 => ?_)
      · have h := h.1 c3
        refine z_aload_n dX6_parseLine_40 1 rfl ?_
        refine z_getr shC_100 rfl flX6_21 dX6_parseLine_41 ?_
        refine z_iload_n dX6_parseLine_44 0 rfl ?_
        obtain ⟨k1, ek1, uk1, h⟩ := h
        refine z_iald2 (k0 := k1) shC_104 (by decide) ek1 uk1 dX6_parseLine_45 ?_
        refine z_iconst (v := 1) dX6_parseLine_46 (by decide) ?_
        refine z_icmp_ne 56 dX6_parseLine_47 (by decide) (fun c4 => ?_) (fun c4 => ?_)
        · have h := h.1 c4
          refine z_aload_n dX6_parseLine_56 1 rfl ?_
          refine z_getr shC_100 rfl flX6_21 dX6_parseLine_57 ?_
          refine z_iload_n dX6_parseLine_60 0 rfl ?_
          refine z_iconst (v := 1) dX6_parseLine_61 (by decide) ?_
          refine z_iast2 (k0 := k1) shC_104 (by decide) ek1 uk1 dX6_parseLine_62 ?_
          refine z_aload_n dX6_parseLine_63 2 rfl ?_
          refine z_callV (m2 := mX5_next) (st := []) [] okX5_next (Or.inl lkX6_67) shC_98 rfl rfl rfl (Nat.le_of_ble_eq_true rfl) dX6_parseLine_64 (zgo_v h fun  M4 h => ?_)
          refine z_iconst (v := 0) dX6_parseLine_67 (by decide) ?_
          refine z_istore [(4, .int 0), (3, .int x2), (0, .ref 100), (1, .ref 98), (2, .int l2)] dX6_parseLine_68 (by decide) rfl ?_
          exact zW.sub [2, 3, 1, 0] rfl h
        · have h := h.2 c4
          refine z_aload_n dX6_parseLine_50 2 rfl ?_
          refine z_iconst (v := 3) dX6_parseLine_51 (by decide) ?_
          refine z_callV (m2 := mX5_fail) (st := []) [.int 3] okX5_fail (Or.inl lkX6_63) shC_98 rfl rfl rfl (Nat.le_of_ble_eq_true rfl) dX6_parseLine_52 (zgo_z h fun b2 M4 h => ?_)
          exact z_zret rfl rfl dX6_parseLine_55 h
      · have h := h.2 c3
        refine z_iconst (v := 0) dX6_parseLine_38 (by decide) ?_
        exact z_zret (b := false) rfl rfl dX6_parseLine_39 h
  · have h := h.2 c1
    refine z_aload_n dX6_parseLine_9 1 rfl ?_
    refine z_iconst (v := 1) dX6_parseLine_10 (by decide) ?_
    refine z_callV (m2 := mX5_fail) (st := []) [.int 1] okX5_fail (Or.inl lkX6_63) shC_98 rfl rfl rfl (Nat.le_of_ble_eq_true rfl) dX6_parseLine_11 (zgo_z h fun b2 M2 h => ?_)
    exact z_zret rfl rfl dX6_parseLine_14 h
set_option maxRecDepth 20000 in
theorem vX6_parseLine_70 {g : zG} {d : Nat} {Q : Bool → zM → Prop} {M : zM} {l3 : Int32} {l4 : Int32} (h : (400 ≤ l4 → zW shC g (d + 1) mX6_parseLine (zz Q) 104 [(0, .ref 100), (1, .ref 98)] [] M) ∧ (¬ 400 ≤ l4 → zCz shC g d mX5_isSign [.ref 98, .int 59] M (fun b1 M1 => (b1 = true → zW shC g (d + 1) mX6_parseLine (zz Q) 104 [(0, .ref 100), (1, .ref 98)] [] M1) ∧ (b1 = false → zCz shC g d mX6_parsePart [.ref 100, .ref 98, .int l3] M1 (fun b2 M2 => (b2 = true → zW shC g (d + 1) mX6_parseLine (zz Q) 70 [(0, .ref 100), (1, .ref 98), (3, .int l3), (4, .int (l4 + 1))] [] M2) ∧ (b2 = false → Q false M2)))))) : zW shC g (d + 1) mX6_parseLine (zz Q) 70 [(0, .ref 100), (1, .ref 98), (3, .int l3), (4, .int l4)] [] M := by
  refine z_iload dX6_parseLine_70 3 rfl ?_
  refine z_sipush (v := 400) dX6_parseLine_72 (by decide) ?_
  refine z_icmp_ge 104 dX6_parseLine_75 (by decide) (fun c1 => ?_) (fun c1 => ?_)
  · have h := h.1 c1
    exact zW.sub [0, 1] rfl h
  · have h := h.2 c1
    refine z_aload_n dX6_parseLine_78 1 rfl ?_
    refine z_bipush (v := 59) dX6_parseLine_79 (by decide) ?_
    refine z_callV (m2 := mX5_isSign) (st := []) [.int 59] okX5_isSign (Or.inl lkX6_73) shC_98 rfl rfl rfl (Nat.le_of_ble_eq_true rfl) dX6_parseLine_81 (zgo_z h fun b1 M1 h => ?_)
    refine z_ifb_ne 104 dX6_parseLine_84 (by decide) (fun c2 => ?_) (fun c2 => ?_)
    · have h := h.1 c2
      exact zW.sub [0, 1] rfl h
    · have h := h.2 c2
      refine z_aload_n dX6_parseLine_87 0 rfl ?_
      refine z_aload_n dX6_parseLine_88 1 rfl ?_
      refine z_iload_n dX6_parseLine_89 2 rfl ?_
      refine z_callV (m2 := mX6_parsePart) (st := []) [.ref 98, .int l3] okX6_parsePart (Or.inl lkX6_77) shC_100 rfl rfl rfl (Nat.le_of_ble_eq_true rfl) dX6_parseLine_90 (zgo_z h fun b2 M2 h => ?_)
      refine z_ifb_ne 98 dX6_parseLine_93 (by decide) (fun c3 => ?_) (fun c3 => ?_)
      · have h := h.1 c3
        refine z_iinc (x := l4) (v := (l4 + 1)) [(4, .int (l4 + 1)), (0, .ref 100), (1, .ref 98), (3, .int l3)] dX6_parseLine_98 3 rfl rfl (by decide) rfl ?_
        refine z_goto 70 dX6_parseLine_101 (by decide) ?_
        exact zW.sub [1, 2, 3, 0] rfl h
      · have h := h.2 c3
        refine z_iconst (v := 0) dX6_parseLine_96 (by decide) ?_
        exact z_zret (b := false) rfl rfl dX6_parseLine_97 h
set_option maxRecDepth 20000 in
theorem vX6_parseLine_104 {g : zG} {d : Nat} {Q : Bool → zM → Prop} {M : zM} (h : zCv shC g d mX5_next [.ref 98] M (fun  M1 => Q true (zup M1 100 4 ((M1 100 4) + 1)))) : zW shC g (d + 1) mX6_parseLine (zz Q) 104 [(0, .ref 100), (1, .ref 98)] [] M := by
  refine z_aload_n dX6_parseLine_104 1 rfl ?_
  refine z_callV (m2 := mX5_next) (st := []) [] okX5_next (Or.inl lkX6_67) shC_98 rfl rfl rfl (Nat.le_of_ble_eq_true rfl) dX6_parseLine_105 (zgo_v h fun  M1 h => ?_)
  refine z_aload_n dX6_parseLine_108 0 rfl ?_
  refine z_dupr dX6_parseLine_109 ?_
  refine z_geti shC_100 rfl flX6_24 dX6_parseLine_110 ?_
  refine z_iconst (v := 1) dX6_parseLine_113 (by decide) ?_
  refine z_iadd dX6_parseLine_114 ?_
  refine z_puti shC_100 rfl fpX6_24 rfl rfl dX6_parseLine_115 ?_
  refine z_iconst (v := 1) dX6_parseLine_118 (by decide) ?_
  exact z_zret (b := true) rfl rfl dX6_parseLine_119 h
theorem dX6_parsePart_0 : decode cX6_parsePart 0 = .ok (.aload_n 1, 1) := by decide +kernel
theorem dX6_parsePart_1 : decode cX6_parsePart 1 = .ok (.invokestatic 80, 3) := by decide +kernel
theorem dX6_parsePart_4 : decode cX6_parsePart 4 = .ok (.istore_n 3, 1) := by decide +kernel
theorem dX6_parsePart_5 : decode cX6_parsePart 5 = .ok (.iload_n 3, 1) := by decide +kernel
theorem dX6_parsePart_6 : decode cX6_parsePart 6 = .ok (.ifCond .eq 16, 3) := by decide +kernel
theorem dX6_parsePart_9 : decode cX6_parsePart 9 = .ok (.aload_n 0, 1) := by decide +kernel
theorem dX6_parsePart_10 : decode cX6_parsePart 10 = .ok (.getfield 18, 3) := by decide +kernel
theorem dX6_parsePart_13 : decode cX6_parsePart 13 = .ok (.iload_n 2, 1) := by decide +kernel
theorem dX6_parsePart_14 : decode cX6_parsePart 14 = .ok (.iload_n 3, 1) := by decide +kernel
theorem dX6_parsePart_15 : decode cX6_parsePart 15 = .ok (.iastore, 1) := by decide +kernel
theorem dX6_parsePart_16 : decode cX6_parsePart 16 = .ok (.aload_n 1, 1) := by decide +kernel
theorem dX6_parsePart_17 : decode cX6_parsePart 17 = .ok (.invokevirtual 67, 3) := by decide +kernel
theorem dX6_parsePart_20 : decode cX6_parsePart 20 = .ok (.iconst 1, 1) := by decide +kernel
theorem dX6_parsePart_21 : decode cX6_parsePart 21 = .ok (.ireturn, 1) := by decide +kernel
theorem dX6_parsePart_22 : decode cX6_parsePart 22 = .ok (.aload_n 1, 1) := by decide +kernel
theorem dX6_parsePart_23 : decode cX6_parsePart 23 = .ok (.invokestatic 84, 3) := by decide +kernel
theorem dX6_parsePart_26 : decode cX6_parsePart 26 = .ok (.istore 4, 2) := by decide +kernel
theorem dX6_parsePart_28 : decode cX6_parsePart 28 = .ok (.iload 4, 2) := by decide +kernel
theorem dX6_parsePart_30 : decode cX6_parsePart 30 = .ok (.iconst (-1), 1) := by decide +kernel
theorem dX6_parsePart_31 : decode cX6_parsePart 31 = .ok (.if_icmp .ne 9, 3) := by decide +kernel
theorem dX6_parsePart_34 : decode cX6_parsePart 34 = .ok (.aload_n 1, 1) := by decide +kernel
theorem dX6_parsePart_35 : decode cX6_parsePart 35 = .ok (.iconst 1, 1) := by decide +kernel
theorem dX6_parsePart_36 : decode cX6_parsePart 36 = .ok (.invokevirtual 63, 3) := by decide +kernel
theorem dX6_parsePart_39 : decode cX6_parsePart 39 = .ok (.ireturn, 1) := by decide +kernel
theorem dX6_parsePart_40 : decode cX6_parsePart 40 = .ok (.aload_n 1, 1) := by decide +kernel
theorem dX6_parsePart_41 : decode cX6_parsePart 41 = .ok (.invokevirtual 67, 3) := by decide +kernel
theorem dX6_parsePart_44 : decode cX6_parsePart 44 = .ok (.aload_n 1, 1) := by decide +kernel
theorem dX6_parsePart_45 : decode cX6_parsePart 45 = .ok (.iconst 1, 1) := by decide +kernel
theorem dX6_parsePart_46 : decode cX6_parsePart 46 = .ok (.bipush 20, 2) := by decide +kernel
theorem dX6_parsePart_48 : decode cX6_parsePart 48 = .ok (.invokevirtual 70, 3) := by decide +kernel
theorem dX6_parsePart_51 : decode cX6_parsePart 51 = .ok (.istore 5, 2) := by decide +kernel
theorem dX6_parsePart_53 : decode cX6_parsePart 53 = .ok (.iload 5, 2) := by decide +kernel
theorem dX6_parsePart_55 : decode cX6_parsePart 55 = .ok (.iconst (-1), 1) := by decide +kernel
theorem dX6_parsePart_56 : decode cX6_parsePart 56 = .ok (.if_icmp .ne 5, 3) := by decide +kernel
theorem dX6_parsePart_59 : decode cX6_parsePart 59 = .ok (.iconst 0, 1) := by decide +kernel
theorem dX6_parsePart_60 : decode cX6_parsePart 60 = .ok (.ireturn, 1) := by decide +kernel
theorem dX6_parsePart_61 : decode cX6_parsePart 61 = .ok (.aload_n 0, 1) := by decide +kernel
theorem dX6_parsePart_62 : decode cX6_parsePart 62 = .ok (.getfield 15, 3) := by decide +kernel
theorem dX6_parsePart_65 : decode cX6_parsePart 65 = .ok (.iload_n 2, 1) := by decide +kernel
theorem dX6_parsePart_66 : decode cX6_parsePart 66 = .ok (.iaload, 1) := by decide +kernel
theorem dX6_parsePart_67 : decode cX6_parsePart 67 = .ok (.iload 5, 2) := by decide +kernel
theorem dX6_parsePart_69 : decode cX6_parsePart 69 = .ok (.iadd, 1) := by decide +kernel
theorem dX6_parsePart_70 : decode cX6_parsePart 70 = .ok (.bipush 60, 2) := by decide +kernel
theorem dX6_parsePart_72 : decode cX6_parsePart 72 = .ok (.if_icmp .le 9, 3) := by decide +kernel
theorem dX6_parsePart_75 : decode cX6_parsePart 75 = .ok (.aload_n 1, 1) := by decide +kernel
theorem dX6_parsePart_76 : decode cX6_parsePart 76 = .ok (.iconst 4, 1) := by decide +kernel
theorem dX6_parsePart_77 : decode cX6_parsePart 77 = .ok (.invokevirtual 63, 3) := by decide +kernel
theorem dX6_parsePart_80 : decode cX6_parsePart 80 = .ok (.ireturn, 1) := by decide +kernel
theorem dX6_parsePart_81 : decode cX6_parsePart 81 = .ok (.aload_n 0, 1) := by decide +kernel
theorem dX6_parsePart_82 : decode cX6_parsePart 82 = .ok (.iload_n 2, 1) := by decide +kernel
theorem dX6_parsePart_83 : decode cX6_parsePart 83 = .ok (.iload 4, 2) := by decide +kernel
theorem dX6_parsePart_85 : decode cX6_parsePart 85 = .ok (.iload 5, 2) := by decide +kernel
theorem dX6_parsePart_87 : decode cX6_parsePart 87 = .ok (.invokevirtual 87, 3) := by decide +kernel
theorem dX6_parsePart_90 : decode cX6_parsePart 90 = .ok (.aload_n 1, 1) := by decide +kernel
theorem dX6_parsePart_91 : decode cX6_parsePart 91 = .ok (.invokevirtual 67, 3) := by decide +kernel
theorem dX6_parsePart_94 : decode cX6_parsePart 94 = .ok (.iconst 1, 1) := by decide +kernel
theorem dX6_parsePart_95 : decode cX6_parsePart 95 = .ok (.ireturn, 1) := by decide +kernel
set_option maxRecDepth 20000 in
theorem vX6_parsePart {g : zG} {d : Nat} {Q : Bool → zM → Prop} {M : zM} {l2 : Int32} (h : zCi shC g d mX6_markTold [.ref 98] M (fun x1 M1 => (x1 = 0 → zCi shC g d mX6_wayTold [.ref 98] M1 (fun x2 M2 => (¬ x2 = (-1) → zCv shC g d mX5_next [.ref 98] M2 (fun  M3 => zCi shC g d mX5_number [.ref 98, .int 1, .int 20] M3 (fun x4 M4 => (¬ x4 = (-1) → ∃ k1 : Nat, l2 = iv k1 ∧ k1 < 6 ∧ (((M4 102 k1) + x4) ≤ 60 → zCv shC g d mX6_append [.ref 100, .int l2, .int x2, .int x4] M4 (fun  M5 => zCv shC g d mX5_next [.ref 98] M5 (fun  M6 => Q true M6))) ∧ (¬ ((M4 102 k1) + x4) ≤ 60 → zCz shC g d mX5_fail [.ref 98, .int 4] M4 (fun b1 M5 => Q b1 M5))) ∧ (x4 = (-1) → Q false M4)))) ∧ (x2 = (-1) → zCz shC g d mX5_fail [.ref 98, .int 1] M2 (fun b1 M3 => Q b1 M3)))) ∧ (¬ x1 = 0 → ∃ k1 : Nat, l2 = iv k1 ∧ k1 < 6 ∧ zCv shC g d mX5_next [.ref 98] (zup M1 103 k1 x1) (fun  M2 => Q true M2)))) : zCz shC g (d + 1) mX6_parsePart [.ref 100, .ref 98, .int l2] M Q := by
  refine zW.enter (by decide +kernel) (Nat.le_of_ble_eq_true rfl) ?_
  change zW shC g (d + 1) mX6_parsePart (zz Q) 0 [(0, .ref 100), (1, .ref 98), (2, .int l2)] [] M
  refine z_aload_n dX6_parsePart_0 1 rfl ?_
  refine z_callS (m2 := mX6_markTold) (st := []) [.ref 98] okX6_markTold (Or.inl lkX6_80) rfl rfl (Nat.le_of_ble_eq_true rfl) dX6_parsePart_1 (zgo_i h fun x1 M1 h => ?_)
  refine z_istore_n [(3, .int x1), (0, .ref 100), (1, .ref 98), (2, .int l2)] dX6_parsePart_4 (by decide) rfl ?_
  refine z_iload_n dX6_parsePart_5 0 rfl ?_
  refine z_if_eq 22 dX6_parsePart_6 (by decide) (fun c1 => ?_) (fun c1 => ?_)
  · have h := h.1 c1
    refine z_aload_n dX6_parsePart_22 2 rfl ?_
    refine z_callS (m2 := mX6_wayTold) (st := []) [.ref 98] okX6_wayTold (Or.inl lkX6_84) rfl rfl (Nat.le_of_ble_eq_true rfl) dX6_parsePart_23 (zgo_i h fun x2 M2 h => ?_)
    refine z_istore [(4, .int x2), (3, .int x1), (0, .ref 100), (1, .ref 98), (2, .int l2)] dX6_parsePart_26 (by decide) rfl ?_
    refine z_iload dX6_parsePart_28 0 rfl ?_
    refine z_iconst (v := (-1)) dX6_parsePart_30 (by decide) ?_
    refine z_icmp_ne 40 dX6_parsePart_31 (by decide) (fun c2 => ?_) (fun c2 => ?_)
    · have h := h.1 c2
      refine z_aload_n dX6_parsePart_40 3 rfl ?_
      refine z_callV (m2 := mX5_next) (st := []) [] okX5_next (Or.inl lkX6_67) shC_98 rfl rfl rfl (Nat.le_of_ble_eq_true rfl) dX6_parsePart_41 (zgo_v h fun  M3 h => ?_)
      refine z_aload_n dX6_parsePart_44 3 rfl ?_
      refine z_iconst (v := 1) dX6_parsePart_45 (by decide) ?_
      refine z_bipush (v := 20) dX6_parsePart_46 (by decide) ?_
      refine z_callV (m2 := mX5_number) (st := []) [.int 1, .int 20] okX5_number (Or.inl lkX6_70) shC_98 rfl rfl rfl (Nat.le_of_ble_eq_true rfl) dX6_parsePart_48 (zgo_i h fun x4 M4 h => ?_)
      refine z_istore [(5, .int x4), (4, .int x2), (3, .int x1), (0, .ref 100), (1, .ref 98), (2, .int l2)] dX6_parsePart_51 (by decide) rfl ?_
      refine z_iload dX6_parsePart_53 0 rfl ?_
      refine z_iconst (v := (-1)) dX6_parsePart_55 (by decide) ?_
      refine z_icmp_ne 61 dX6_parsePart_56 (by decide) (fun c3 => ?_) (fun c3 => ?_)
      · have h := h.1 c3
        refine z_aload_n dX6_parsePart_61 3 rfl ?_
        refine z_getr shC_100 rfl flX6_15 dX6_parsePart_62 ?_
        refine z_iload_n dX6_parsePart_65 5 rfl ?_
        obtain ⟨k1, ek1, uk1, h⟩ := h
        refine z_iald2 (k0 := k1) shC_102 (by decide) ek1 uk1 dX6_parsePart_66 ?_
        refine z_iload dX6_parsePart_67 0 rfl ?_
        refine z_iadd dX6_parsePart_69 ?_
        refine z_bipush (v := 60) dX6_parsePart_70 (by decide) ?_
        refine z_icmp_le 81 dX6_parsePart_72 (by decide) (fun c4 => ?_) (fun c4 => ?_)
        · have h := h.1 c4
          refine z_aload_n dX6_parsePart_81 3 rfl ?_
          refine z_iload_n dX6_parsePart_82 5 rfl ?_
          refine z_iload dX6_parsePart_83 1 rfl ?_
          refine z_iload dX6_parsePart_85 0 rfl ?_
          refine z_callV (m2 := mX6_append) (st := []) [.int l2, .int x2, .int x4] okX6_append (Or.inl lkX6_87) shC_100 rfl rfl rfl (Nat.le_of_ble_eq_true rfl) dX6_parsePart_87 (zgo_v h fun  M5 h => ?_)
          refine z_aload_n dX6_parsePart_90 4 rfl ?_
          refine z_callV (m2 := mX5_next) (st := []) [] okX5_next (Or.inl lkX6_67) shC_98 rfl rfl rfl (Nat.le_of_ble_eq_true rfl) dX6_parsePart_91 (zgo_v h fun  M6 h => ?_)
          refine z_iconst (v := 1) dX6_parsePart_94 (by decide) ?_
          exact z_zret (b := true) rfl rfl dX6_parsePart_95 h
        · have h := h.2 c4
          refine z_aload_n dX6_parsePart_75 4 rfl ?_
          refine z_iconst (v := 4) dX6_parsePart_76 (by decide) ?_
          refine z_callV (m2 := mX5_fail) (st := []) [.int 4] okX5_fail (Or.inl lkX6_63) shC_98 rfl rfl rfl (Nat.le_of_ble_eq_true rfl) dX6_parsePart_77 (zgo_z h fun b1 M5 h => ?_)
          exact z_zret rfl rfl dX6_parsePart_80 h
      · have h := h.2 c3
        refine z_iconst (v := 0) dX6_parsePart_59 (by decide) ?_
        exact z_zret (b := false) rfl rfl dX6_parsePart_60 h
    · have h := h.2 c2
      refine z_aload_n dX6_parsePart_34 3 rfl ?_
      refine z_iconst (v := 1) dX6_parsePart_35 (by decide) ?_
      refine z_callV (m2 := mX5_fail) (st := []) [.int 1] okX5_fail (Or.inl lkX6_63) shC_98 rfl rfl rfl (Nat.le_of_ble_eq_true rfl) dX6_parsePart_36 (zgo_z h fun b1 M3 h => ?_)
      exact z_zret rfl rfl dX6_parsePart_39 h
  · have h := h.2 c1
    refine z_aload_n dX6_parsePart_9 1 rfl ?_
    refine z_getr shC_100 rfl flX6_18 dX6_parsePart_10 ?_
    refine z_iload_n dX6_parsePart_13 3 rfl ?_
    refine z_iload_n dX6_parsePart_14 0 rfl ?_
    obtain ⟨k1, ek1, uk1, h⟩ := h
    refine z_iast2 (k0 := k1) shC_103 (by decide) ek1 uk1 dX6_parsePart_15 ?_
    refine z_aload_n dX6_parsePart_16 2 rfl ?_
    refine z_callV (m2 := mX5_next) (st := []) [] okX5_next (Or.inl lkX6_67) shC_98 rfl rfl rfl (Nat.le_of_ble_eq_true rfl) dX6_parsePart_17 (zgo_v h fun  M2 h => ?_)
    refine z_iconst (v := 1) dX6_parsePart_20 (by decide) ?_
    exact z_zret (b := true) rfl rfl dX6_parsePart_21 h
theorem dX6_append_0 : decode cX6_append 0 = .ok (.iconst 0, 1) := by decide +kernel
theorem dX6_append_1 : decode cX6_append 1 = .ok (.istore 4, 2) := by decide +kernel
theorem dX6_append_3 : decode cX6_append 3 = .ok (.iload 4, 2) := by decide +kernel
theorem dX6_append_5 : decode cX6_append 5 = .ok (.iload_n 3, 1) := by decide +kernel
theorem dX6_append_6 : decode cX6_append 6 = .ok (.if_icmp .ge 53, 3) := by decide +kernel
theorem dX6_append_9 : decode cX6_append 9 = .ok (.aload_n 0, 1) := by decide +kernel
theorem dX6_append_10 : decode cX6_append 10 = .ok (.getfield 9, 3) := by decide +kernel
theorem dX6_append_13 : decode cX6_append 13 = .ok (.iload_n 1, 1) := by decide +kernel
theorem dX6_append_14 : decode cX6_append 14 = .ok (.bipush 60, 2) := by decide +kernel
theorem dX6_append_16 : decode cX6_append 16 = .ok (.imul, 1) := by decide +kernel
theorem dX6_append_17 : decode cX6_append 17 = .ok (.aload_n 0, 1) := by decide +kernel
theorem dX6_append_18 : decode cX6_append 18 = .ok (.getfield 15, 3) := by decide +kernel
theorem dX6_append_21 : decode cX6_append 21 = .ok (.iload_n 1, 1) := by decide +kernel
theorem dX6_append_22 : decode cX6_append 22 = .ok (.iaload, 1) := by decide +kernel
theorem dX6_append_23 : decode cX6_append 23 = .ok (.iadd, 1) := by decide +kernel
theorem dX6_append_24 : decode cX6_append 24 = .ok (.iload_n 2, 1) := by decide +kernel
theorem dX6_append_25 : decode cX6_append 25 = .ok (.bipush 8, 2) := by decide +kernel
theorem dX6_append_27 : decode cX6_append 27 = .ok (.aload_n 0, 1) := by decide +kernel
theorem dX6_append_28 : decode cX6_append 28 = .ok (.getfield 18, 3) := by decide +kernel
theorem dX6_append_31 : decode cX6_append 31 = .ok (.iload_n 1, 1) := by decide +kernel
theorem dX6_append_32 : decode cX6_append 32 = .ok (.iaload, 1) := by decide +kernel
theorem dX6_append_33 : decode cX6_append 33 = .ok (.imul, 1) := by decide +kernel
theorem dX6_append_34 : decode cX6_append 34 = .ok (.iadd, 1) := by decide +kernel
theorem dX6_append_35 : decode cX6_append 35 = .ok (.iastore, 1) := by decide +kernel
theorem dX6_append_36 : decode cX6_append 36 = .ok (.aload_n 0, 1) := by decide +kernel
theorem dX6_append_37 : decode cX6_append 37 = .ok (.getfield 18, 3) := by decide +kernel
theorem dX6_append_40 : decode cX6_append 40 = .ok (.iload_n 1, 1) := by decide +kernel
theorem dX6_append_41 : decode cX6_append 41 = .ok (.iconst 0, 1) := by decide +kernel
theorem dX6_append_42 : decode cX6_append 42 = .ok (.iastore, 1) := by decide +kernel
theorem dX6_append_43 : decode cX6_append 43 = .ok (.aload_n 0, 1) := by decide +kernel
theorem dX6_append_44 : decode cX6_append 44 = .ok (.getfield 15, 3) := by decide +kernel
theorem dX6_append_47 : decode cX6_append 47 = .ok (.iload_n 1, 1) := by decide +kernel
theorem dX6_append_48 : decode cX6_append 48 = .ok (.dup2, 1) := by decide +kernel
theorem dX6_append_49 : decode cX6_append 49 = .ok (.iaload, 1) := by decide +kernel
theorem dX6_append_50 : decode cX6_append 50 = .ok (.iconst 1, 1) := by decide +kernel
theorem dX6_append_51 : decode cX6_append 51 = .ok (.iadd, 1) := by decide +kernel
theorem dX6_append_52 : decode cX6_append 52 = .ok (.iastore, 1) := by decide +kernel
theorem dX6_append_53 : decode cX6_append 53 = .ok (.iinc 4 1, 3) := by decide +kernel
theorem dX6_append_56 : decode cX6_append 56 = .ok (.goto (-53), 3) := by decide +kernel
theorem dX6_append_59 : decode cX6_append 59 = .ok (.return_, 1) := by decide +kernel
set_option maxRecDepth 20000 in
theorem vX6_append {g : zG} {d : Nat} {Q : zM → Prop} {M : zM} {l1 : Int32} {l2 : Int32} {l3 : Int32} (h : zW shC g d mX6_append (zv Q) 3 [(0, .ref 100), (1, .int l1), (2, .int l2), (3, .int l3), (4, .int 0)] [] M) : zCv shC g d mX6_append [.ref 100, .int l1, .int l2, .int l3] M Q := by
  refine zW.enter (by decide +kernel) (Nat.le_of_ble_eq_true rfl) ?_
  change zW shC g d mX6_append (zv Q) 0 [(0, .ref 100), (1, .int l1), (2, .int l2), (3, .int l3)] [] M
  refine z_iconst (v := 0) dX6_append_0 (by decide) ?_
  refine z_istore [(4, .int 0), (0, .ref 100), (1, .int l1), (2, .int l2), (3, .int l3)] dX6_append_1 (by decide) rfl ?_
  exact zW.sub [1, 2, 3, 4, 0] rfl h
set_option maxRecDepth 20000 in
theorem vX6_append_3 {g : zG} {d : Nat} {Q : zM → Prop} {M : zM} {l1 : Int32} {l2 : Int32} {l3 : Int32} {l4 : Int32} (h : (l3 ≤ l4 → Q M) ∧ (¬ l3 ≤ l4 → ∃ k1 : Nat, l1 = iv k1 ∧ k1 < 6 ∧ ∃ k2 : Nat, ((l1 * 60) + (M 102 k1)) = iv k2 ∧ k2 < 360 ∧ ∀ v1 : Int32, v1 = (((zup (zup M 101 k2 (l2 + (8 * (M 103 k1)))) 103 k1 0) 102 k1) + 1) → zW shC g d mX6_append (zv Q) 3 [(0, .ref 100), (1, .int l1), (2, .int l2), (3, .int l3), (4, .int (l4 + 1))] [] (zup (zup (zup M 101 k2 (l2 + (8 * (M 103 k1)))) 103 k1 0) 102 k1 v1))) : zW shC g d mX6_append (zv Q) 3 [(0, .ref 100), (1, .int l1), (2, .int l2), (3, .int l3), (4, .int l4)] [] M := by
  refine z_iload dX6_append_3 4 rfl ?_
  refine z_iload_n dX6_append_5 3 rfl ?_
  refine z_icmp_ge 59 dX6_append_6 (by decide) (fun c1 => ?_) (fun c1 => ?_)
  · have h := h.1 c1
    exact z_vret (st := []) rfl dX6_append_59 ⟨rfl, h⟩
  · have h := h.2 c1
    refine z_aload_n dX6_append_9 0 rfl ?_
    refine z_getr shC_100 rfl flX6_9 dX6_append_10 ?_
    refine z_iload_n dX6_append_13 1 rfl ?_
    refine z_bipush (v := 60) dX6_append_14 (by decide) ?_
    refine z_imul dX6_append_16 ?_
    refine z_aload_n dX6_append_17 0 rfl ?_
    refine z_getr shC_100 rfl flX6_15 dX6_append_18 ?_
    refine z_iload_n dX6_append_21 1 rfl ?_
    obtain ⟨k1, ek1, uk1, h⟩ := h
    refine z_iald2 (k0 := k1) shC_102 (by decide) ek1 uk1 dX6_append_22 ?_
    refine z_iadd dX6_append_23 ?_
    refine z_iload_n dX6_append_24 2 rfl ?_
    refine z_bipush (v := 8) dX6_append_25 (by decide) ?_
    refine z_aload_n dX6_append_27 0 rfl ?_
    refine z_getr shC_100 rfl flX6_18 dX6_append_28 ?_
    refine z_iload_n dX6_append_31 1 rfl ?_
    refine z_iald2 (k0 := k1) shC_103 (by decide) ek1 uk1 dX6_append_32 ?_
    refine z_imul dX6_append_33 ?_
    refine z_iadd dX6_append_34 ?_
    obtain ⟨k2, ek2, uk2, h⟩ := h
    refine z_iast2 (k0 := k2) shC_101 (by decide) ek2 uk2 dX6_append_35 ?_
    refine z_aload_n dX6_append_36 0 rfl ?_
    refine z_getr shC_100 rfl flX6_18 dX6_append_37 ?_
    refine z_iload_n dX6_append_40 1 rfl ?_
    refine z_iconst (v := 0) dX6_append_41 (by decide) ?_
    refine z_iast2 (k0 := k1) shC_103 (by decide) ek1 uk1 dX6_append_42 ?_
    refine z_aload_n dX6_append_43 0 rfl ?_
    refine z_getr shC_100 rfl flX6_15 dX6_append_44 ?_
    refine z_iload_n dX6_append_47 1 rfl ?_
    refine z_dup2 dX6_append_48 ?_
    refine z_iald2 (k0 := k1) shC_102 (by decide) ek1 uk1 dX6_append_49 ?_
    refine z_iconst (v := 1) dX6_append_50 (by decide) ?_
    refine z_iadd dX6_append_51 ?_
    obtain ⟨v1, ev1⟩ : ∃ y : Int32, y = (((zup (zup M 101 k2 (l2 + (8 * (M 103 k1)))) 103 k1 0) 102 k1) + 1) := ⟨_, rfl⟩
    refine z_topi v1 ev1 ?_
    have h := h v1 ev1
    refine z_iast2 (k0 := k1) shC_102 (by decide) ek1 uk1 dX6_append_52 ?_
    refine z_iinc (x := l4) (v := (l4 + 1)) [(4, .int (l4 + 1)), (0, .ref 100), (1, .int l1), (2, .int l2), (3, .int l3)] dX6_append_53 4 rfl rfl (by decide) rfl ?_
    refine z_goto 3 dX6_append_56 (by decide) ?_
    exact zW.sub [1, 2, 3, 4, 0] rfl h
theorem dX6_markTold_0 : decode cX6_markTold 0 = .ok (.aload_n 0, 1) := by decide +kernel
theorem dX6_markTold_1 : decode cX6_markTold 1 = .ok (.ldc 91, 2) := by decide +kernel
theorem dX6_markTold_3 : decode cX6_markTold 3 = .ok (.invokevirtual 59, 3) := by decide +kernel
theorem dX6_markTold_6 : decode cX6_markTold 6 = .ok (.ifCond .eq 5, 3) := by decide +kernel
theorem dX6_markTold_9 : decode cX6_markTold 9 = .ok (.iconst 1, 1) := by decide +kernel
theorem dX6_markTold_10 : decode cX6_markTold 10 = .ok (.ireturn, 1) := by decide +kernel
theorem dX6_markTold_11 : decode cX6_markTold 11 = .ok (.aload_n 0, 1) := by decide +kernel
theorem dX6_markTold_12 : decode cX6_markTold 12 = .ok (.ldc 93, 2) := by decide +kernel
theorem dX6_markTold_14 : decode cX6_markTold 14 = .ok (.invokevirtual 59, 3) := by decide +kernel
theorem dX6_markTold_17 : decode cX6_markTold 17 = .ok (.ifCond .eq 7, 3) := by decide +kernel
theorem dX6_markTold_20 : decode cX6_markTold 20 = .ok (.iconst 2, 1) := by decide +kernel
theorem dX6_markTold_21 : decode cX6_markTold 21 = .ok (.goto 4, 3) := by decide +kernel
theorem dX6_markTold_24 : decode cX6_markTold 24 = .ok (.iconst 0, 1) := by decide +kernel
theorem dX6_markTold_25 : decode cX6_markTold 25 = .ok (.ireturn, 1) := by decide +kernel
set_option maxRecDepth 20000 in
theorem vX6_markTold {g : zG} {d : Nat} {Q : Int32 → zM → Prop} {M : zM} (h : zCz shC g d mX5_isWord [.ref 98, .ref (4096 + 1)] M (fun b1 M1 => (b1 = false → zCz shC g d mX5_isWord [.ref 98, .ref (4096 + 2)] M1 (fun b2 M2 => (b2 = false → Q 0 M2) ∧ (b2 = true → Q 2 M2))) ∧ (b1 = true → Q 1 M1))) : zCi shC g (d + 1) mX6_markTold [.ref 98] M Q := by
  refine zW.enter (by decide +kernel) (Nat.le_of_ble_eq_true rfl) ?_
  change zW shC g (d + 1) mX6_markTold (zi Q) 0 [(0, .ref 98)] [] M
  refine z_aload_n dX6_markTold_0 0 rfl ?_
  refine z_ldcS (i := 1) (tx := "lift") dX6_markTold_1 (by decide +kernel) ?_
  refine z_callV (m2 := mX5_isWord) (st := []) [.ref (4096 + 1)] okX5_isWord (Or.inl lkX6_59) shC_98 rfl rfl rfl (Nat.le_of_ble_eq_true rfl) dX6_markTold_3 (zgo_z h fun b1 M1 h => ?_)
  refine z_ifb_eq 11 dX6_markTold_6 (by decide) (fun c1 => ?_) (fun c1 => ?_)
  · have h := h.1 c1
    refine z_aload_n dX6_markTold_11 0 rfl ?_
    refine z_ldcS (i := 2) (tx := "down") dX6_markTold_12 (by decide +kernel) ?_
    refine z_callV (m2 := mX5_isWord) (st := []) [.ref (4096 + 2)] okX5_isWord (Or.inl lkX6_59) shC_98 rfl rfl rfl (Nat.le_of_ble_eq_true rfl) dX6_markTold_14 (zgo_z h fun b2 M2 h => ?_)
    refine z_ifb_eq 24 dX6_markTold_17 (by decide) (fun c2 => ?_) (fun c2 => ?_)
    · have h := h.1 c2
      refine z_iconst (v := 0) dX6_markTold_24 (by decide) ?_
      exact z_iret (st := []) rfl rfl dX6_markTold_25 ⟨_, rfl, h⟩
    · have h := h.2 c2
      refine z_iconst (v := 2) dX6_markTold_20 (by decide) ?_
      refine z_goto 25 dX6_markTold_21 (by decide) ?_
      exact z_iret (st := []) rfl rfl dX6_markTold_25 ⟨_, rfl, h⟩
  · have h := h.2 c1
    refine z_iconst (v := 1) dX6_markTold_9 (by decide) ?_
    exact z_iret (st := []) rfl rfl dX6_markTold_10 ⟨_, rfl, h⟩
theorem dX6_wayTold_0 : decode cX6_wayTold 0 = .ok (.aload_n 0, 1) := by decide +kernel
theorem dX6_wayTold_1 : decode cX6_wayTold 1 = .ok (.ldc 95, 2) := by decide +kernel
theorem dX6_wayTold_3 : decode cX6_wayTold 3 = .ok (.invokevirtual 59, 3) := by decide +kernel
theorem dX6_wayTold_6 : decode cX6_wayTold 6 = .ok (.ifCond .eq 5, 3) := by decide +kernel
theorem dX6_wayTold_9 : decode cX6_wayTold 9 = .ok (.iconst 0, 1) := by decide +kernel
theorem dX6_wayTold_10 : decode cX6_wayTold 10 = .ok (.ireturn, 1) := by decide +kernel
theorem dX6_wayTold_11 : decode cX6_wayTold 11 = .ok (.aload_n 0, 1) := by decide +kernel
theorem dX6_wayTold_12 : decode cX6_wayTold 12 = .ok (.ldc 97, 2) := by decide +kernel
theorem dX6_wayTold_14 : decode cX6_wayTold 14 = .ok (.invokevirtual 59, 3) := by decide +kernel
theorem dX6_wayTold_17 : decode cX6_wayTold 17 = .ok (.ifCond .eq 5, 3) := by decide +kernel
theorem dX6_wayTold_20 : decode cX6_wayTold 20 = .ok (.iconst 1, 1) := by decide +kernel
theorem dX6_wayTold_21 : decode cX6_wayTold 21 = .ok (.ireturn, 1) := by decide +kernel
theorem dX6_wayTold_22 : decode cX6_wayTold 22 = .ok (.aload_n 0, 1) := by decide +kernel
theorem dX6_wayTold_23 : decode cX6_wayTold 23 = .ok (.ldc 99, 2) := by decide +kernel
theorem dX6_wayTold_25 : decode cX6_wayTold 25 = .ok (.invokevirtual 59, 3) := by decide +kernel
theorem dX6_wayTold_28 : decode cX6_wayTold 28 = .ok (.ifCond .eq 5, 3) := by decide +kernel
theorem dX6_wayTold_31 : decode cX6_wayTold 31 = .ok (.iconst 2, 1) := by decide +kernel
theorem dX6_wayTold_32 : decode cX6_wayTold 32 = .ok (.ireturn, 1) := by decide +kernel
theorem dX6_wayTold_33 : decode cX6_wayTold 33 = .ok (.aload_n 0, 1) := by decide +kernel
theorem dX6_wayTold_34 : decode cX6_wayTold 34 = .ok (.ldc 101, 2) := by decide +kernel
theorem dX6_wayTold_36 : decode cX6_wayTold 36 = .ok (.invokevirtual 59, 3) := by decide +kernel
theorem dX6_wayTold_39 : decode cX6_wayTold 39 = .ok (.ifCond .eq 5, 3) := by decide +kernel
theorem dX6_wayTold_42 : decode cX6_wayTold 42 = .ok (.iconst 3, 1) := by decide +kernel
theorem dX6_wayTold_43 : decode cX6_wayTold 43 = .ok (.ireturn, 1) := by decide +kernel
theorem dX6_wayTold_44 : decode cX6_wayTold 44 = .ok (.aload_n 0, 1) := by decide +kernel
theorem dX6_wayTold_45 : decode cX6_wayTold 45 = .ok (.ldc 103, 2) := by decide +kernel
theorem dX6_wayTold_47 : decode cX6_wayTold 47 = .ok (.invokevirtual 59, 3) := by decide +kernel
theorem dX6_wayTold_50 : decode cX6_wayTold 50 = .ok (.ifCond .eq 7, 3) := by decide +kernel
theorem dX6_wayTold_53 : decode cX6_wayTold 53 = .ok (.iconst 4, 1) := by decide +kernel
theorem dX6_wayTold_54 : decode cX6_wayTold 54 = .ok (.goto 4, 3) := by decide +kernel
theorem dX6_wayTold_57 : decode cX6_wayTold 57 = .ok (.iconst (-1), 1) := by decide +kernel
theorem dX6_wayTold_58 : decode cX6_wayTold 58 = .ok (.ireturn, 1) := by decide +kernel
set_option maxRecDepth 20000 in
theorem vX6_wayTold {g : zG} {d : Nat} {Q : Int32 → zM → Prop} {M : zM} (h : zCz shC g d mX5_isWord [.ref 98, .ref (4096 + 3)] M (fun b1 M1 => (b1 = false → zCz shC g d mX5_isWord [.ref 98, .ref (4096 + 4)] M1 (fun b2 M2 => (b2 = false → zCz shC g d mX5_isWord [.ref 98, .ref (4096 + 5)] M2 (fun b3 M3 => (b3 = false → zCz shC g d mX5_isWord [.ref 98, .ref (4096 + 6)] M3 (fun b4 M4 => (b4 = false → zCz shC g d mX5_isWord [.ref 98, .ref (4096 + 7)] M4 (fun b5 M5 => (b5 = false → Q (-1) M5) ∧ (b5 = true → Q 4 M5))) ∧ (b4 = true → Q 3 M4))) ∧ (b3 = true → Q 2 M3))) ∧ (b2 = true → Q 1 M2))) ∧ (b1 = true → Q 0 M1))) : zCi shC g (d + 1) mX6_wayTold [.ref 98] M Q := by
  refine zW.enter (by decide +kernel) (Nat.le_of_ble_eq_true rfl) ?_
  change zW shC g (d + 1) mX6_wayTold (zi Q) 0 [(0, .ref 98)] [] M
  refine z_aload_n dX6_wayTold_0 0 rfl ?_
  refine z_ldcS (i := 3) (tx := "north") dX6_wayTold_1 (by decide +kernel) ?_
  refine z_callV (m2 := mX5_isWord) (st := []) [.ref (4096 + 3)] okX5_isWord (Or.inl lkX6_59) shC_98 rfl rfl rfl (Nat.le_of_ble_eq_true rfl) dX6_wayTold_3 (zgo_z h fun b1 M1 h => ?_)
  refine z_ifb_eq 11 dX6_wayTold_6 (by decide) (fun c1 => ?_) (fun c1 => ?_)
  · have h := h.1 c1
    refine z_aload_n dX6_wayTold_11 0 rfl ?_
    refine z_ldcS (i := 4) (tx := "east") dX6_wayTold_12 (by decide +kernel) ?_
    refine z_callV (m2 := mX5_isWord) (st := []) [.ref (4096 + 4)] okX5_isWord (Or.inl lkX6_59) shC_98 rfl rfl rfl (Nat.le_of_ble_eq_true rfl) dX6_wayTold_14 (zgo_z h fun b2 M2 h => ?_)
    refine z_ifb_eq 22 dX6_wayTold_17 (by decide) (fun c2 => ?_) (fun c2 => ?_)
    · have h := h.1 c2
      refine z_aload_n dX6_wayTold_22 0 rfl ?_
      refine z_ldcS (i := 5) (tx := "south") dX6_wayTold_23 (by decide +kernel) ?_
      refine z_callV (m2 := mX5_isWord) (st := []) [.ref (4096 + 5)] okX5_isWord (Or.inl lkX6_59) shC_98 rfl rfl rfl (Nat.le_of_ble_eq_true rfl) dX6_wayTold_25 (zgo_z h fun b3 M3 h => ?_)
      refine z_ifb_eq 33 dX6_wayTold_28 (by decide) (fun c3 => ?_) (fun c3 => ?_)
      · have h := h.1 c3
        refine z_aload_n dX6_wayTold_33 0 rfl ?_
        refine z_ldcS (i := 6) (tx := "west") dX6_wayTold_34 (by decide +kernel) ?_
        refine z_callV (m2 := mX5_isWord) (st := []) [.ref (4096 + 6)] okX5_isWord (Or.inl lkX6_59) shC_98 rfl rfl rfl (Nat.le_of_ble_eq_true rfl) dX6_wayTold_36 (zgo_z h fun b4 M4 h => ?_)
        refine z_ifb_eq 44 dX6_wayTold_39 (by decide) (fun c4 => ?_) (fun c4 => ?_)
        · have h := h.1 c4
          refine z_aload_n dX6_wayTold_44 0 rfl ?_
          refine z_ldcS (i := 7) (tx := "rest") dX6_wayTold_45 (by decide +kernel) ?_
          refine z_callV (m2 := mX5_isWord) (st := []) [.ref (4096 + 7)] okX5_isWord (Or.inl lkX6_59) shC_98 rfl rfl rfl (Nat.le_of_ble_eq_true rfl) dX6_wayTold_47 (zgo_z h fun b5 M5 h => ?_)
          refine z_ifb_eq 57 dX6_wayTold_50 (by decide) (fun c5 => ?_) (fun c5 => ?_)
          · have h := h.1 c5
            refine z_iconst (v := (-1)) dX6_wayTold_57 (by decide) ?_
            exact z_iret (st := []) rfl rfl dX6_wayTold_58 ⟨_, rfl, h⟩
          · have h := h.2 c5
            refine z_iconst (v := 4) dX6_wayTold_53 (by decide) ?_
            refine z_goto 58 dX6_wayTold_54 (by decide) ?_
            exact z_iret (st := []) rfl rfl dX6_wayTold_58 ⟨_, rfl, h⟩
        · have h := h.2 c4
          refine z_iconst (v := 3) dX6_wayTold_42 (by decide) ?_
          exact z_iret (st := []) rfl rfl dX6_wayTold_43 ⟨_, rfl, h⟩
      · have h := h.2 c3
        refine z_iconst (v := 2) dX6_wayTold_31 (by decide) ?_
        exact z_iret (st := []) rfl rfl dX6_wayTold_32 ⟨_, rfl, h⟩
    · have h := h.2 c2
      refine z_iconst (v := 1) dX6_wayTold_20 (by decide) ?_
      exact z_iret (st := []) rfl rfl dX6_wayTold_21 ⟨_, rfl, h⟩
  · have h := h.2 c1
    refine z_iconst (v := 0) dX6_wayTold_9 (by decide) ?_
    exact z_iret (st := []) rfl rfl dX6_wayTold_10 ⟨_, rfl, h⟩
