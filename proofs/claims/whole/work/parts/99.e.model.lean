/-! THE CONSTRUCTOR OF THE REFERENCE: by program -/
def nMM : zM := fun k => if k = 0 then (fun j => if j = 32 then -1 else 0) else fun _ => 0
theorem dX9_init_0 : decode cX9_init 0 = .ok (.aload_n 0, 1) := by decide +kernel
theorem dX9_init_1 : decode cX9_init 1 = .ok (.invokespecial 1, 3) := by decide +kernel
theorem dX9_init_4 : decode cX9_init 4 = .ok (.aload_n 0, 1) := by decide +kernel
theorem dX9_init_5 : decode cX9_init 5 = .ok (.sipush 2200, 3) := by decide +kernel
theorem dX9_init_8 : decode cX9_init 8 = .ok (.newarray .int, 2) := by decide +kernel
theorem dX9_init_10 : decode cX9_init 10 = .ok (.putfield 7, 3) := by decide +kernel
theorem dX9_init_13 : decode cX9_init 13 = .ok (.aload_n 0, 1) := by decide +kernel
theorem dX9_init_14 : decode cX9_init 14 = .ok (.sipush 2200, 3) := by decide +kernel
theorem dX9_init_17 : decode cX9_init 17 = .ok (.newarray .int, 2) := by decide +kernel
theorem dX9_init_19 : decode cX9_init 19 = .ok (.putfield 13, 3) := by decide +kernel
theorem dX9_init_22 : decode cX9_init 22 = .ok (.aload_n 0, 1) := by decide +kernel
theorem dX9_init_23 : decode cX9_init 23 = .ok (.sipush 900, 3) := by decide +kernel
theorem dX9_init_26 : decode cX9_init 26 = .ok (.newarray .int, 2) := by decide +kernel
theorem dX9_init_28 : decode cX9_init 28 = .ok (.putfield 16, 3) := by decide +kernel
theorem dX9_init_31 : decode cX9_init 31 = .ok (.aload_n 0, 1) := by decide +kernel
theorem dX9_init_32 : decode cX9_init 32 = .ok (.sipush 150, 3) := by decide +kernel
theorem dX9_init_35 : decode cX9_init 35 = .ok (.newarray .int, 2) := by decide +kernel
theorem dX9_init_37 : decode cX9_init 37 = .ok (.putfield 19, 3) := by decide +kernel
theorem dX9_init_40 : decode cX9_init 40 = .ok (.aload_n 0, 1) := by decide +kernel
theorem dX9_init_41 : decode cX9_init 41 = .ok (.bipush 64, 2) := by decide +kernel
theorem dX9_init_43 : decode cX9_init 43 = .ok (.newarray .int, 2) := by decide +kernel
theorem dX9_init_45 : decode cX9_init 45 = .ok (.putfield 22, 3) := by decide +kernel
theorem dX9_init_48 : decode cX9_init 48 = .ok (.aload_n 0, 1) := by decide +kernel
theorem dX9_init_49 : decode cX9_init 49 = .ok (.sipush 820, 3) := by decide +kernel
theorem dX9_init_52 : decode cX9_init 52 = .ok (.newarray .int, 2) := by decide +kernel
theorem dX9_init_54 : decode cX9_init 54 = .ok (.putfield 25, 3) := by decide +kernel
theorem dX9_init_57 : decode cX9_init 57 = .ok (.aload_n 0, 1) := by decide +kernel
theorem dX9_init_58 : decode cX9_init 58 = .ok (.sipush 360, 3) := by decide +kernel
theorem dX9_init_61 : decode cX9_init 61 = .ok (.newarray .int, 2) := by decide +kernel
theorem dX9_init_63 : decode cX9_init 63 = .ok (.putfield 28, 3) := by decide +kernel
theorem dX9_init_66 : decode cX9_init 66 = .ok (.aload_n 0, 1) := by decide +kernel
theorem dX9_init_67 : decode cX9_init 67 = .ok (.bipush 6, 2) := by decide +kernel
theorem dX9_init_69 : decode cX9_init 69 = .ok (.newarray .int, 2) := by decide +kernel
theorem dX9_init_71 : decode cX9_init 71 = .ok (.putfield 31, 3) := by decide +kernel
theorem dX9_init_74 : decode cX9_init 74 = .ok (.aload_n 0, 1) := by decide +kernel
theorem dX9_init_75 : decode cX9_init 75 = .ok (.bipush 6, 2) := by decide +kernel
theorem dX9_init_77 : decode cX9_init 77 = .ok (.newarray .int, 2) := by decide +kernel
theorem dX9_init_79 : decode cX9_init 79 = .ok (.putfield 34, 3) := by decide +kernel
theorem dX9_init_82 : decode cX9_init 82 = .ok (.aload_n 0, 1) := by decide +kernel
theorem dX9_init_83 : decode cX9_init 83 = .ok (.bipush 8, 2) := by decide +kernel
theorem dX9_init_85 : decode cX9_init 85 = .ok (.newarray .int, 2) := by decide +kernel
theorem dX9_init_87 : decode cX9_init 87 = .ok (.putfield 37, 3) := by decide +kernel
theorem dX9_init_90 : decode cX9_init 90 = .ok (.aload_n 0, 1) := by decide +kernel
theorem dX9_init_91 : decode cX9_init 91 = .ok (.bipush 20, 2) := by decide +kernel
theorem dX9_init_93 : decode cX9_init 93 = .ok (.newarray .int, 2) := by decide +kernel
theorem dX9_init_95 : decode cX9_init 95 = .ok (.putfield 40, 3) := by decide +kernel
theorem dX9_init_98 : decode cX9_init 98 = .ok (.aload_n 0, 1) := by decide +kernel
theorem dX9_init_99 : decode cX9_init 99 = .ok (.sipush 400, 3) := by decide +kernel
theorem dX9_init_102 : decode cX9_init 102 = .ok (.newarray .int, 2) := by decide +kernel
theorem dX9_init_104 : decode cX9_init 104 = .ok (.putfield 43, 3) := by decide +kernel
theorem dX9_init_107 : decode cX9_init 107 = .ok (.aload_n 0, 1) := by decide +kernel
theorem dX9_init_108 : decode cX9_init 108 = .ok (.sipush 420, 3) := by decide +kernel
theorem dX9_init_111 : decode cX9_init 111 = .ok (.newarray .int, 2) := by decide +kernel
theorem dX9_init_113 : decode cX9_init 113 = .ok (.putfield 46, 3) := by decide +kernel
theorem dX9_init_116 : decode cX9_init 116 = .ok (.aload_n 0, 1) := by decide +kernel
theorem dX9_init_117 : decode cX9_init 117 = .ok (.bipush 7, 2) := by decide +kernel
theorem dX9_init_119 : decode cX9_init 119 = .ok (.newarray .int, 2) := by decide +kernel
theorem dX9_init_121 : decode cX9_init 121 = .ok (.putfield 49, 3) := by decide +kernel
theorem dX9_init_124 : decode cX9_init 124 = .ok (.aload_n 0, 1) := by decide +kernel
theorem dX9_init_125 : decode cX9_init 125 = .ok (.iconst (-1), 1) := by decide +kernel
theorem dX9_init_126 : decode cX9_init 126 = .ok (.putfield 52, 3) := by decide +kernel
theorem dX9_init_129 : decode cX9_init 129 = .ok (.aload_n 0, 1) := by decide +kernel
theorem dX9_init_130 : decode cX9_init 130 = .ok (.bipush 64, 2) := by decide +kernel
theorem dX9_init_132 : decode cX9_init 132 = .ok (.newarray .int, 2) := by decide +kernel
theorem dX9_init_134 : decode cX9_init 134 = .ok (.putfield 56, 3) := by decide +kernel
theorem dX9_init_137 : decode cX9_init 137 = .ok (.aload_n 0, 1) := by decide +kernel
theorem dX9_init_138 : decode cX9_init 138 = .ok (.bipush 9, 2) := by decide +kernel
theorem dX9_init_140 : decode cX9_init 140 = .ok (.newarray .int, 2) := by decide +kernel
theorem dX9_init_142 : decode cX9_init 142 = .ok (.putfield 59, 3) := by decide +kernel
theorem dX9_init_145 : decode cX9_init 145 = .ok (.aload_n 0, 1) := by decide +kernel
theorem dX9_init_146 : decode cX9_init 146 = .ok (.sipush 4608, 3) := by decide +kernel
theorem dX9_init_149 : decode cX9_init 149 = .ok (.newarray .int, 2) := by decide +kernel
theorem dX9_init_151 : decode cX9_init 151 = .ok (.putfield 62, 3) := by decide +kernel
theorem dX9_init_154 : decode cX9_init 154 = .ok (.aload_n 0, 1) := by decide +kernel
theorem dX9_init_155 : decode cX9_init 155 = .ok (.sipush 3072, 3) := by decide +kernel
theorem dX9_init_158 : decode cX9_init 158 = .ok (.newarray .int, 2) := by decide +kernel
theorem dX9_init_160 : decode cX9_init 160 = .ok (.putfield 65, 3) := by decide +kernel
theorem dX9_init_163 : decode cX9_init 163 = .ok (.aload_n 0, 1) := by decide +kernel
theorem dX9_init_164 : decode cX9_init 164 = .ok (.sipush 3584, 3) := by decide +kernel
theorem dX9_init_167 : decode cX9_init 167 = .ok (.newarray .boolean, 2) := by decide +kernel
theorem dX9_init_169 : decode cX9_init 169 = .ok (.putfield 68, 3) := by decide +kernel
theorem dX9_init_172 : decode cX9_init 172 = .ok (.aload_n 0, 1) := by decide +kernel
theorem dX9_init_173 : decode cX9_init 173 = .ok (.bipush 6, 2) := by decide +kernel
theorem dX9_init_175 : decode cX9_init 175 = .ok (.newarray .int, 2) := by decide +kernel
theorem dX9_init_177 : decode cX9_init 177 = .ok (.putfield 72, 3) := by decide +kernel
theorem dX9_init_180 : decode cX9_init 180 = .ok (.aload_n 0, 1) := by decide +kernel
theorem dX9_init_181 : decode cX9_init 181 = .ok (.sipush 128, 3) := by decide +kernel
theorem dX9_init_184 : decode cX9_init 184 = .ok (.newarray .int, 2) := by decide +kernel
theorem dX9_init_186 : decode cX9_init 186 = .ok (.putfield 75, 3) := by decide +kernel
theorem dX9_init_189 : decode cX9_init 189 = .ok (.aload_n 0, 1) := by decide +kernel
theorem dX9_init_190 : decode cX9_init 190 = .ok (.sipush 128, 3) := by decide +kernel
theorem dX9_init_193 : decode cX9_init 193 = .ok (.newarray .int, 2) := by decide +kernel
theorem dX9_init_195 : decode cX9_init 195 = .ok (.putfield 78, 3) := by decide +kernel
theorem dX9_init_198 : decode cX9_init 198 = .ok (.aload_n 0, 1) := by decide +kernel
theorem dX9_init_199 : decode cX9_init 199 = .ok (.bipush 64, 2) := by decide +kernel
theorem dX9_init_201 : decode cX9_init 201 = .ok (.newarray .boolean, 2) := by decide +kernel
theorem dX9_init_203 : decode cX9_init 203 = .ok (.putfield 81, 3) := by decide +kernel
theorem dX9_init_206 : decode cX9_init 206 = .ok (.aload_n 0, 1) := by decide +kernel
theorem dX9_init_207 : decode cX9_init 207 = .ok (.sipush 256, 3) := by decide +kernel
theorem dX9_init_210 : decode cX9_init 210 = .ok (.newarray .boolean, 2) := by decide +kernel
theorem dX9_init_212 : decode cX9_init 212 = .ok (.putfield 84, 3) := by decide +kernel
theorem dX9_init_215 : decode cX9_init 215 = .ok (.aload_n 0, 1) := by decide +kernel
theorem dX9_init_216 : decode cX9_init 216 = .ok (.bipush 10, 2) := by decide +kernel
theorem dX9_init_218 : decode cX9_init 218 = .ok (.newarray .int, 2) := by decide +kernel
theorem dX9_init_220 : decode cX9_init 220 = .ok (.putfield 87, 3) := by decide +kernel
theorem dX9_init_223 : decode cX9_init 223 = .ok (.aload_n 0, 1) := by decide +kernel
theorem dX9_init_224 : decode cX9_init 224 = .ok (.bipush 6, 2) := by decide +kernel
theorem dX9_init_226 : decode cX9_init 226 = .ok (.bipush 6, 2) := by decide +kernel
theorem dX9_init_228 : decode cX9_init 228 = .ok (.invokevirtual 90, 3) := by decide +kernel
theorem dX9_init_231 : decode cX9_init 231 = .ok (.return_, 1) := by decide +kernel
theorem fqX9_7 : zFq RX9 7 9 0 (.array .int) := ⟨RX9, TX9, 47, tyX9, rfl, by decide, zat 1202 (by decide +kernel) rfl, inzX9, tyX9_ok, nmX9, by decide +kernel, by decide +kernel, by decide +kernel⟩
theorem fqX9_13 : zFq RX9 13 9 1 (.array .int) := ⟨RX9, TX9, 47, tyX9, rfl, by decide, zat 1203 (by decide +kernel) rfl, inzX9, tyX9_ok, nmX9, by decide +kernel, by decide +kernel, by decide +kernel⟩
theorem fqX9_16 : zFq RX9 16 9 2 (.array .int) := ⟨RX9, TX9, 47, tyX9, rfl, by decide, zat 1204 (by decide +kernel) rfl, inzX9, tyX9_ok, nmX9, by decide +kernel, by decide +kernel, by decide +kernel⟩
theorem fqX9_19 : zFq RX9 19 9 3 (.array .int) := ⟨RX9, TX9, 47, tyX9, rfl, by decide, zat 1205 (by decide +kernel) rfl, inzX9, tyX9_ok, nmX9, by decide +kernel, by decide +kernel, by decide +kernel⟩
theorem fqX9_22 : zFq RX9 22 9 6 (.array .int) := ⟨RX9, TX9, 47, tyX9, rfl, by decide, zat 1208 (by decide +kernel) rfl, inzX9, tyX9_ok, nmX9, by decide +kernel, by decide +kernel, by decide +kernel⟩
theorem fqX9_25 : zFq RX9 25 9 7 (.array .int) := ⟨RX9, TX9, 47, tyX9, rfl, by decide, zat 1209 (by decide +kernel) rfl, inzX9, tyX9_ok, nmX9, by decide +kernel, by decide +kernel, by decide +kernel⟩
theorem fqX9_28 : zFq RX9 28 9 8 (.array .int) := ⟨RX9, TX9, 47, tyX9, rfl, by decide, zat 1210 (by decide +kernel) rfl, inzX9, tyX9_ok, nmX9, by decide +kernel, by decide +kernel, by decide +kernel⟩
theorem fqX9_31 : zFq RX9 31 9 9 (.array .int) := ⟨RX9, TX9, 47, tyX9, rfl, by decide, zat 1211 (by decide +kernel) rfl, inzX9, tyX9_ok, nmX9, by decide +kernel, by decide +kernel, by decide +kernel⟩
theorem fqX9_34 : zFq RX9 34 9 10 (.array .int) := ⟨RX9, TX9, 47, tyX9, rfl, by decide, zat 1212 (by decide +kernel) rfl, inzX9, tyX9_ok, nmX9, by decide +kernel, by decide +kernel, by decide +kernel⟩
theorem fqX9_37 : zFq RX9 37 9 11 (.array .int) := ⟨RX9, TX9, 47, tyX9, rfl, by decide, zat 1213 (by decide +kernel) rfl, inzX9, tyX9_ok, nmX9, by decide +kernel, by decide +kernel, by decide +kernel⟩
theorem fqX9_40 : zFq RX9 40 9 12 (.array .int) := ⟨RX9, TX9, 47, tyX9, rfl, by decide, zat 1214 (by decide +kernel) rfl, inzX9, tyX9_ok, nmX9, by decide +kernel, by decide +kernel, by decide +kernel⟩
theorem fqX9_43 : zFq RX9 43 9 13 (.array .int) := ⟨RX9, TX9, 47, tyX9, rfl, by decide, zat 1215 (by decide +kernel) rfl, inzX9, tyX9_ok, nmX9, by decide +kernel, by decide +kernel, by decide +kernel⟩
theorem fqX9_46 : zFq RX9 46 9 14 (.array .int) := ⟨RX9, TX9, 47, tyX9, rfl, by decide, zat 1216 (by decide +kernel) rfl, inzX9, tyX9_ok, nmX9, by decide +kernel, by decide +kernel, by decide +kernel⟩
theorem fqX9_49 : zFq RX9 49 9 15 (.array .int) := ⟨RX9, TX9, 47, tyX9, rfl, by decide, zat 1217 (by decide +kernel) rfl, inzX9, tyX9_ok, nmX9, by decide +kernel, by decide +kernel, by decide +kernel⟩
theorem fqX9_56 : zFq RX9 56 9 34 (.array .int) := ⟨RX9, TX9, 47, tyX9, rfl, by decide, zat 1236 (by decide +kernel) rfl, inzX9, tyX9_ok, nmX9, by decide +kernel, by decide +kernel, by decide +kernel⟩
theorem fqX9_59 : zFq RX9 59 9 35 (.array .int) := ⟨RX9, TX9, 47, tyX9, rfl, by decide, zat 1237 (by decide +kernel) rfl, inzX9, tyX9_ok, nmX9, by decide +kernel, by decide +kernel, by decide +kernel⟩
theorem fqX9_62 : zFq RX9 62 9 36 (.array .int) := ⟨RX9, TX9, 47, tyX9, rfl, by decide, zat 1238 (by decide +kernel) rfl, inzX9, tyX9_ok, nmX9, by decide +kernel, by decide +kernel, by decide +kernel⟩
theorem fqX9_65 : zFq RX9 65 9 37 (.array .int) := ⟨RX9, TX9, 47, tyX9, rfl, by decide, zat 1239 (by decide +kernel) rfl, inzX9, tyX9_ok, nmX9, by decide +kernel, by decide +kernel, by decide +kernel⟩
theorem fqX9_68 : zFq RX9 68 9 39 (.array .boolean) := ⟨RX9, TX9, 47, tyX9, rfl, by decide, zat 1241 (by decide +kernel) rfl, inzX9, tyX9_ok, nmX9, by decide +kernel, by decide +kernel, by decide +kernel⟩
theorem fqX9_72 : zFq RX9 72 9 40 (.array .int) := ⟨RX9, TX9, 47, tyX9, rfl, by decide, zat 1242 (by decide +kernel) rfl, inzX9, tyX9_ok, nmX9, by decide +kernel, by decide +kernel, by decide +kernel⟩
theorem fqX9_75 : zFq RX9 75 9 41 (.array .int) := ⟨RX9, TX9, 47, tyX9, rfl, by decide, zat 1243 (by decide +kernel) rfl, inzX9, tyX9_ok, nmX9, by decide +kernel, by decide +kernel, by decide +kernel⟩
theorem fqX9_78 : zFq RX9 78 9 42 (.array .int) := ⟨RX9, TX9, 47, tyX9, rfl, by decide, zat 1244 (by decide +kernel) rfl, inzX9, tyX9_ok, nmX9, by decide +kernel, by decide +kernel, by decide +kernel⟩
theorem fqX9_81 : zFq RX9 81 9 43 (.array .boolean) := ⟨RX9, TX9, 47, tyX9, rfl, by decide, zat 1245 (by decide +kernel) rfl, inzX9, tyX9_ok, nmX9, by decide +kernel, by decide +kernel, by decide +kernel⟩
theorem fqX9_84 : zFq RX9 84 9 44 (.array .boolean) := ⟨RX9, TX9, 47, tyX9, rfl, by decide, zat 1246 (by decide +kernel) rfl, inzX9, tyX9_ok, nmX9, by decide +kernel, by decide +kernel, by decide +kernel⟩
theorem fqX9_87 : zFq RX9 87 9 46 (.array .int) := ⟨RX9, TX9, 47, tyX9, rfl, by decide, zat 1248 (by decide +kernel) rfl, inzX9, tyX9_ok, nmX9, by decide +kernel, by decide +kernel, by decide +kernel⟩
theorem nW.eqw {g : zG} {A : Nat → Prop} {d nc ns : Nat} {m : zMi} {B : va_W → Prop} {kc ks pc : Nat} {lv : List (Nat × Value)} {st : List Value} {ws : va_W} (w2 : va_W) (h : ws = w2) (k : nW g A d nc ns m B kc ks pc lv st w2) : nW g A d nc ns m B kc ks pc lv st ws := h ▸ k
/-- what the constructor leaves: a whole world, its object first, the literals where they were -/
def nBB (g : zG) (sh : List zSh) (Dn : zM → Prop) (h0 : Nat) : va_W → Prop := fun ws => ∃ (ad : Nat → Nat) (M : zM), ad 0 = h0 ∧ (∀ k, 3000 ≤ k → ad k = zad g k) ∧ Dn M ∧ ws = zws sh (gA g ad) M
set_option maxRecDepth 100000 in
set_option maxHeartbeats 16000000 in
theorem kX9_init (g : zG) (h0 sz : Nat) : nC g 8 25 19490 mX9_init h0 sz 9 [.null, .null, .null, .null, .int 0, .int 0, .null, .null, .null, .null, .null, .null, .null, .null, .null, .null, .int 0, .int 0, .int 0, .int 0, .int 0, .int 0, .int 0, .int 0, .int 0, .int 0, .int 0, .int 0, .int 0, .int 0, .int 0, .int 0, .int 0, .int 0, .null, .null, .null, .null, .int 0, .null, .null, .null, .null, .null, .null, .int 0, .null] (nBB g shM (fun M => M = freshM nMM 6 6) h0) := by
  refine nW.enter (by decide +kernel) rfl (Nat.le_of_ble_eq_true rfl) ?_
  refine n_aload_n dX9_init_0 0 rfl ?_
  refine n_objInit (idx := 1) (zat 1197 (by decide +kernel) rfl) (by decide) (by decide) dX9_init_1 ?_
  refine n_aload_n dX9_init_4 0 rfl ?_
  refine n_sipush (v := 2200) dX9_init_5 (by decide +kernel) ?_
  refine n_newi (N := 2200) (by decide) (by decide +kernel) (by decide) (by omega) (by omega) dX9_init_8 (fun q1 => ?_)
  refine n_putF (k0 := 0) [.ref q1, .null, .null, .null, .int 0, .int 0, .null, .null, .null, .null, .null, .null, .null, .null, .null, .null, .int 0, .int 0, .int 0, .int 0, .int 0, .int 0, .int 0, .int 0, .int 0, .int 0, .int 0, .int 0, .int 0, .int 0, .int 0, .int 0, .int 0, .int 0, .null, .null, .null, .null, .int 0, .null, .null, .null, .null, .null, .null, .int 0, .null] fqX9_7 rfl rfl (Nat.le_of_ble_eq_true rfl) rfl dX9_init_10 ?_
  refine n_aload_n dX9_init_13 0 rfl ?_
  refine n_sipush (v := 2200) dX9_init_14 (by decide +kernel) ?_
  refine n_newi (N := 2200) (by decide) (by decide +kernel) (by decide) (by omega) (by omega) dX9_init_17 (fun q2 => ?_)
  refine n_putF (k0 := 1) [.ref q1, .ref q2, .null, .null, .int 0, .int 0, .null, .null, .null, .null, .null, .null, .null, .null, .null, .null, .int 0, .int 0, .int 0, .int 0, .int 0, .int 0, .int 0, .int 0, .int 0, .int 0, .int 0, .int 0, .int 0, .int 0, .int 0, .int 0, .int 0, .int 0, .null, .null, .null, .null, .int 0, .null, .null, .null, .null, .null, .null, .int 0, .null] fqX9_13 rfl rfl (Nat.le_of_ble_eq_true rfl) rfl dX9_init_19 ?_
  refine n_aload_n dX9_init_22 0 rfl ?_
  refine n_sipush (v := 900) dX9_init_23 (by decide +kernel) ?_
  refine n_newi (N := 900) (by decide) (by decide +kernel) (by decide) (by omega) (by omega) dX9_init_26 (fun q3 => ?_)
  refine n_putF (k0 := 2) [.ref q1, .ref q2, .ref q3, .null, .int 0, .int 0, .null, .null, .null, .null, .null, .null, .null, .null, .null, .null, .int 0, .int 0, .int 0, .int 0, .int 0, .int 0, .int 0, .int 0, .int 0, .int 0, .int 0, .int 0, .int 0, .int 0, .int 0, .int 0, .int 0, .int 0, .null, .null, .null, .null, .int 0, .null, .null, .null, .null, .null, .null, .int 0, .null] fqX9_16 rfl rfl (Nat.le_of_ble_eq_true rfl) rfl dX9_init_28 ?_
  refine n_aload_n dX9_init_31 0 rfl ?_
  refine n_sipush (v := 150) dX9_init_32 (by decide +kernel) ?_
  refine n_newi (N := 150) (by decide) (by decide +kernel) (by decide) (by omega) (by omega) dX9_init_35 (fun q4 => ?_)
  refine n_putF (k0 := 3) [.ref q1, .ref q2, .ref q3, .ref q4, .int 0, .int 0, .null, .null, .null, .null, .null, .null, .null, .null, .null, .null, .int 0, .int 0, .int 0, .int 0, .int 0, .int 0, .int 0, .int 0, .int 0, .int 0, .int 0, .int 0, .int 0, .int 0, .int 0, .int 0, .int 0, .int 0, .null, .null, .null, .null, .int 0, .null, .null, .null, .null, .null, .null, .int 0, .null] fqX9_19 rfl rfl (Nat.le_of_ble_eq_true rfl) rfl dX9_init_37 ?_
  refine n_aload_n dX9_init_40 0 rfl ?_
  refine n_bipush (v := 64) dX9_init_41 (by decide +kernel) ?_
  refine n_newi (N := 64) (by decide) (by decide +kernel) (by decide) (by omega) (by omega) dX9_init_43 (fun q5 => ?_)
  refine n_putF (k0 := 6) [.ref q1, .ref q2, .ref q3, .ref q4, .int 0, .int 0, .ref q5, .null, .null, .null, .null, .null, .null, .null, .null, .null, .int 0, .int 0, .int 0, .int 0, .int 0, .int 0, .int 0, .int 0, .int 0, .int 0, .int 0, .int 0, .int 0, .int 0, .int 0, .int 0, .int 0, .int 0, .null, .null, .null, .null, .int 0, .null, .null, .null, .null, .null, .null, .int 0, .null] fqX9_22 rfl rfl (Nat.le_of_ble_eq_true rfl) rfl dX9_init_45 ?_
  refine n_aload_n dX9_init_48 0 rfl ?_
  refine n_sipush (v := 820) dX9_init_49 (by decide +kernel) ?_
  refine n_newi (N := 820) (by decide) (by decide +kernel) (by decide) (by omega) (by omega) dX9_init_52 (fun q6 => ?_)
  refine n_putF (k0 := 7) [.ref q1, .ref q2, .ref q3, .ref q4, .int 0, .int 0, .ref q5, .ref q6, .null, .null, .null, .null, .null, .null, .null, .null, .int 0, .int 0, .int 0, .int 0, .int 0, .int 0, .int 0, .int 0, .int 0, .int 0, .int 0, .int 0, .int 0, .int 0, .int 0, .int 0, .int 0, .int 0, .null, .null, .null, .null, .int 0, .null, .null, .null, .null, .null, .null, .int 0, .null] fqX9_25 rfl rfl (Nat.le_of_ble_eq_true rfl) rfl dX9_init_54 ?_
  refine n_aload_n dX9_init_57 0 rfl ?_
  refine n_sipush (v := 360) dX9_init_58 (by decide +kernel) ?_
  refine n_newi (N := 360) (by decide) (by decide +kernel) (by decide) (by omega) (by omega) dX9_init_61 (fun q7 => ?_)
  refine n_putF (k0 := 8) [.ref q1, .ref q2, .ref q3, .ref q4, .int 0, .int 0, .ref q5, .ref q6, .ref q7, .null, .null, .null, .null, .null, .null, .null, .int 0, .int 0, .int 0, .int 0, .int 0, .int 0, .int 0, .int 0, .int 0, .int 0, .int 0, .int 0, .int 0, .int 0, .int 0, .int 0, .int 0, .int 0, .null, .null, .null, .null, .int 0, .null, .null, .null, .null, .null, .null, .int 0, .null] fqX9_28 rfl rfl (Nat.le_of_ble_eq_true rfl) rfl dX9_init_63 ?_
  refine n_aload_n dX9_init_66 0 rfl ?_
  refine n_bipush (v := 6) dX9_init_67 (by decide +kernel) ?_
  refine n_newi (N := 6) (by decide) (by decide +kernel) (by decide) (by omega) (by omega) dX9_init_69 (fun q8 => ?_)
  refine n_putF (k0 := 9) [.ref q1, .ref q2, .ref q3, .ref q4, .int 0, .int 0, .ref q5, .ref q6, .ref q7, .ref q8, .null, .null, .null, .null, .null, .null, .int 0, .int 0, .int 0, .int 0, .int 0, .int 0, .int 0, .int 0, .int 0, .int 0, .int 0, .int 0, .int 0, .int 0, .int 0, .int 0, .int 0, .int 0, .null, .null, .null, .null, .int 0, .null, .null, .null, .null, .null, .null, .int 0, .null] fqX9_31 rfl rfl (Nat.le_of_ble_eq_true rfl) rfl dX9_init_71 ?_
  refine n_aload_n dX9_init_74 0 rfl ?_
  refine n_bipush (v := 6) dX9_init_75 (by decide +kernel) ?_
  refine n_newi (N := 6) (by decide) (by decide +kernel) (by decide) (by omega) (by omega) dX9_init_77 (fun q9 => ?_)
  refine n_putF (k0 := 10) [.ref q1, .ref q2, .ref q3, .ref q4, .int 0, .int 0, .ref q5, .ref q6, .ref q7, .ref q8, .ref q9, .null, .null, .null, .null, .null, .int 0, .int 0, .int 0, .int 0, .int 0, .int 0, .int 0, .int 0, .int 0, .int 0, .int 0, .int 0, .int 0, .int 0, .int 0, .int 0, .int 0, .int 0, .null, .null, .null, .null, .int 0, .null, .null, .null, .null, .null, .null, .int 0, .null] fqX9_34 rfl rfl (Nat.le_of_ble_eq_true rfl) rfl dX9_init_79 ?_
  refine n_aload_n dX9_init_82 0 rfl ?_
  refine n_bipush (v := 8) dX9_init_83 (by decide +kernel) ?_
  refine n_newi (N := 8) (by decide) (by decide +kernel) (by decide) (by omega) (by omega) dX9_init_85 (fun q10 => ?_)
  refine n_putF (k0 := 11) [.ref q1, .ref q2, .ref q3, .ref q4, .int 0, .int 0, .ref q5, .ref q6, .ref q7, .ref q8, .ref q9, .ref q10, .null, .null, .null, .null, .int 0, .int 0, .int 0, .int 0, .int 0, .int 0, .int 0, .int 0, .int 0, .int 0, .int 0, .int 0, .int 0, .int 0, .int 0, .int 0, .int 0, .int 0, .null, .null, .null, .null, .int 0, .null, .null, .null, .null, .null, .null, .int 0, .null] fqX9_37 rfl rfl (Nat.le_of_ble_eq_true rfl) rfl dX9_init_87 ?_
  refine n_aload_n dX9_init_90 0 rfl ?_
  refine n_bipush (v := 20) dX9_init_91 (by decide +kernel) ?_
  refine n_newi (N := 20) (by decide) (by decide +kernel) (by decide) (by omega) (by omega) dX9_init_93 (fun q11 => ?_)
  refine n_putF (k0 := 12) [.ref q1, .ref q2, .ref q3, .ref q4, .int 0, .int 0, .ref q5, .ref q6, .ref q7, .ref q8, .ref q9, .ref q10, .ref q11, .null, .null, .null, .int 0, .int 0, .int 0, .int 0, .int 0, .int 0, .int 0, .int 0, .int 0, .int 0, .int 0, .int 0, .int 0, .int 0, .int 0, .int 0, .int 0, .int 0, .null, .null, .null, .null, .int 0, .null, .null, .null, .null, .null, .null, .int 0, .null] fqX9_40 rfl rfl (Nat.le_of_ble_eq_true rfl) rfl dX9_init_95 ?_
  refine n_aload_n dX9_init_98 0 rfl ?_
  refine n_sipush (v := 400) dX9_init_99 (by decide +kernel) ?_
  refine n_newi (N := 400) (by decide) (by decide +kernel) (by decide) (by omega) (by omega) dX9_init_102 (fun q12 => ?_)
  refine n_putF (k0 := 13) [.ref q1, .ref q2, .ref q3, .ref q4, .int 0, .int 0, .ref q5, .ref q6, .ref q7, .ref q8, .ref q9, .ref q10, .ref q11, .ref q12, .null, .null, .int 0, .int 0, .int 0, .int 0, .int 0, .int 0, .int 0, .int 0, .int 0, .int 0, .int 0, .int 0, .int 0, .int 0, .int 0, .int 0, .int 0, .int 0, .null, .null, .null, .null, .int 0, .null, .null, .null, .null, .null, .null, .int 0, .null] fqX9_43 rfl rfl (Nat.le_of_ble_eq_true rfl) rfl dX9_init_104 ?_
  refine n_aload_n dX9_init_107 0 rfl ?_
  refine n_sipush (v := 420) dX9_init_108 (by decide +kernel) ?_
  refine n_newi (N := 420) (by decide) (by decide +kernel) (by decide) (by omega) (by omega) dX9_init_111 (fun q13 => ?_)
  refine n_putF (k0 := 14) [.ref q1, .ref q2, .ref q3, .ref q4, .int 0, .int 0, .ref q5, .ref q6, .ref q7, .ref q8, .ref q9, .ref q10, .ref q11, .ref q12, .ref q13, .null, .int 0, .int 0, .int 0, .int 0, .int 0, .int 0, .int 0, .int 0, .int 0, .int 0, .int 0, .int 0, .int 0, .int 0, .int 0, .int 0, .int 0, .int 0, .null, .null, .null, .null, .int 0, .null, .null, .null, .null, .null, .null, .int 0, .null] fqX9_46 rfl rfl (Nat.le_of_ble_eq_true rfl) rfl dX9_init_113 ?_
  refine n_aload_n dX9_init_116 0 rfl ?_
  refine n_bipush (v := 7) dX9_init_117 (by decide +kernel) ?_
  refine n_newi (N := 7) (by decide) (by decide +kernel) (by decide) (by omega) (by omega) dX9_init_119 (fun q14 => ?_)
  refine n_putF (k0 := 15) [.ref q1, .ref q2, .ref q3, .ref q4, .int 0, .int 0, .ref q5, .ref q6, .ref q7, .ref q8, .ref q9, .ref q10, .ref q11, .ref q12, .ref q13, .ref q14, .int 0, .int 0, .int 0, .int 0, .int 0, .int 0, .int 0, .int 0, .int 0, .int 0, .int 0, .int 0, .int 0, .int 0, .int 0, .int 0, .int 0, .int 0, .null, .null, .null, .null, .int 0, .null, .null, .null, .null, .null, .null, .int 0, .null] fqX9_49 rfl rfl (Nat.le_of_ble_eq_true rfl) rfl dX9_init_121 ?_
  refine n_aload_n dX9_init_124 0 rfl ?_
  refine n_iconst (v := (-1)) dX9_init_125 (by decide +kernel) ?_
  refine n_puti (k0 := 32) [.ref q1, .ref q2, .ref q3, .ref q4, .int 0, .int 0, .ref q5, .ref q6, .ref q7, .ref q8, .ref q9, .ref q10, .ref q11, .ref q12, .ref q13, .ref q14, .int 0, .int 0, .int 0, .int 0, .int 0, .int 0, .int 0, .int 0, .int 0, .int 0, .int 0, .int 0, .int 0, .int 0, .int 0, .int 0, .int (-1), .int 0, .null, .null, .null, .null, .int 0, .null, .null, .null, .null, .null, .null, .int 0, .null] fpX9_52 rfl rfl (Nat.le_of_ble_eq_true rfl) rfl dX9_init_126 ?_
  refine n_aload_n dX9_init_129 0 rfl ?_
  refine n_bipush (v := 64) dX9_init_130 (by decide +kernel) ?_
  refine n_newi (N := 64) (by decide) (by decide +kernel) (by decide) (by omega) (by omega) dX9_init_132 (fun q15 => ?_)
  refine n_putF (k0 := 34) [.ref q1, .ref q2, .ref q3, .ref q4, .int 0, .int 0, .ref q5, .ref q6, .ref q7, .ref q8, .ref q9, .ref q10, .ref q11, .ref q12, .ref q13, .ref q14, .int 0, .int 0, .int 0, .int 0, .int 0, .int 0, .int 0, .int 0, .int 0, .int 0, .int 0, .int 0, .int 0, .int 0, .int 0, .int 0, .int (-1), .int 0, .ref q15, .null, .null, .null, .int 0, .null, .null, .null, .null, .null, .null, .int 0, .null] fqX9_56 rfl rfl (Nat.le_of_ble_eq_true rfl) rfl dX9_init_134 ?_
  refine n_aload_n dX9_init_137 0 rfl ?_
  refine n_bipush (v := 9) dX9_init_138 (by decide +kernel) ?_
  refine n_newi (N := 9) (by decide) (by decide +kernel) (by decide) (by omega) (by omega) dX9_init_140 (fun q16 => ?_)
  refine n_putF (k0 := 35) [.ref q1, .ref q2, .ref q3, .ref q4, .int 0, .int 0, .ref q5, .ref q6, .ref q7, .ref q8, .ref q9, .ref q10, .ref q11, .ref q12, .ref q13, .ref q14, .int 0, .int 0, .int 0, .int 0, .int 0, .int 0, .int 0, .int 0, .int 0, .int 0, .int 0, .int 0, .int 0, .int 0, .int 0, .int 0, .int (-1), .int 0, .ref q15, .ref q16, .null, .null, .int 0, .null, .null, .null, .null, .null, .null, .int 0, .null] fqX9_59 rfl rfl (Nat.le_of_ble_eq_true rfl) rfl dX9_init_142 ?_
  refine n_aload_n dX9_init_145 0 rfl ?_
  refine n_sipush (v := 4608) dX9_init_146 (by decide +kernel) ?_
  refine n_newi (N := 4608) (by decide) (by decide +kernel) (by decide) (by omega) (by omega) dX9_init_149 (fun q17 => ?_)
  refine n_putF (k0 := 36) [.ref q1, .ref q2, .ref q3, .ref q4, .int 0, .int 0, .ref q5, .ref q6, .ref q7, .ref q8, .ref q9, .ref q10, .ref q11, .ref q12, .ref q13, .ref q14, .int 0, .int 0, .int 0, .int 0, .int 0, .int 0, .int 0, .int 0, .int 0, .int 0, .int 0, .int 0, .int 0, .int 0, .int 0, .int 0, .int (-1), .int 0, .ref q15, .ref q16, .ref q17, .null, .int 0, .null, .null, .null, .null, .null, .null, .int 0, .null] fqX9_62 rfl rfl (Nat.le_of_ble_eq_true rfl) rfl dX9_init_151 ?_
  refine n_aload_n dX9_init_154 0 rfl ?_
  refine n_sipush (v := 3072) dX9_init_155 (by decide +kernel) ?_
  refine n_newi (N := 3072) (by decide) (by decide +kernel) (by decide) (by omega) (by omega) dX9_init_158 (fun q18 => ?_)
  refine n_putF (k0 := 37) [.ref q1, .ref q2, .ref q3, .ref q4, .int 0, .int 0, .ref q5, .ref q6, .ref q7, .ref q8, .ref q9, .ref q10, .ref q11, .ref q12, .ref q13, .ref q14, .int 0, .int 0, .int 0, .int 0, .int 0, .int 0, .int 0, .int 0, .int 0, .int 0, .int 0, .int 0, .int 0, .int 0, .int 0, .int 0, .int (-1), .int 0, .ref q15, .ref q16, .ref q17, .ref q18, .int 0, .null, .null, .null, .null, .null, .null, .int 0, .null] fqX9_65 rfl rfl (Nat.le_of_ble_eq_true rfl) rfl dX9_init_160 ?_
  refine n_aload_n dX9_init_163 0 rfl ?_
  refine n_sipush (v := 3584) dX9_init_164 (by decide +kernel) ?_
  refine n_newz (N := 3584) (by decide) (by decide +kernel) (by decide) (by omega) (by omega) dX9_init_167 (fun q19 => ?_)
  refine n_putF (k0 := 39) [.ref q1, .ref q2, .ref q3, .ref q4, .int 0, .int 0, .ref q5, .ref q6, .ref q7, .ref q8, .ref q9, .ref q10, .ref q11, .ref q12, .ref q13, .ref q14, .int 0, .int 0, .int 0, .int 0, .int 0, .int 0, .int 0, .int 0, .int 0, .int 0, .int 0, .int 0, .int 0, .int 0, .int 0, .int 0, .int (-1), .int 0, .ref q15, .ref q16, .ref q17, .ref q18, .int 0, .ref q19, .null, .null, .null, .null, .null, .int 0, .null] fqX9_68 rfl rfl (Nat.le_of_ble_eq_true rfl) rfl dX9_init_169 ?_
  refine n_aload_n dX9_init_172 0 rfl ?_
  refine n_bipush (v := 6) dX9_init_173 (by decide +kernel) ?_
  refine n_newi (N := 6) (by decide) (by decide +kernel) (by decide) (by omega) (by omega) dX9_init_175 (fun q20 => ?_)
  refine n_putF (k0 := 40) [.ref q1, .ref q2, .ref q3, .ref q4, .int 0, .int 0, .ref q5, .ref q6, .ref q7, .ref q8, .ref q9, .ref q10, .ref q11, .ref q12, .ref q13, .ref q14, .int 0, .int 0, .int 0, .int 0, .int 0, .int 0, .int 0, .int 0, .int 0, .int 0, .int 0, .int 0, .int 0, .int 0, .int 0, .int 0, .int (-1), .int 0, .ref q15, .ref q16, .ref q17, .ref q18, .int 0, .ref q19, .ref q20, .null, .null, .null, .null, .int 0, .null] fqX9_72 rfl rfl (Nat.le_of_ble_eq_true rfl) rfl dX9_init_177 ?_
  refine n_aload_n dX9_init_180 0 rfl ?_
  refine n_sipush (v := 128) dX9_init_181 (by decide +kernel) ?_
  refine n_newi (N := 128) (by decide) (by decide +kernel) (by decide) (by omega) (by omega) dX9_init_184 (fun q21 => ?_)
  refine n_putF (k0 := 41) [.ref q1, .ref q2, .ref q3, .ref q4, .int 0, .int 0, .ref q5, .ref q6, .ref q7, .ref q8, .ref q9, .ref q10, .ref q11, .ref q12, .ref q13, .ref q14, .int 0, .int 0, .int 0, .int 0, .int 0, .int 0, .int 0, .int 0, .int 0, .int 0, .int 0, .int 0, .int 0, .int 0, .int 0, .int 0, .int (-1), .int 0, .ref q15, .ref q16, .ref q17, .ref q18, .int 0, .ref q19, .ref q20, .ref q21, .null, .null, .null, .int 0, .null] fqX9_75 rfl rfl (Nat.le_of_ble_eq_true rfl) rfl dX9_init_186 ?_
  refine n_aload_n dX9_init_189 0 rfl ?_
  refine n_sipush (v := 128) dX9_init_190 (by decide +kernel) ?_
  refine n_newi (N := 128) (by decide) (by decide +kernel) (by decide) (by omega) (by omega) dX9_init_193 (fun q22 => ?_)
  refine n_putF (k0 := 42) [.ref q1, .ref q2, .ref q3, .ref q4, .int 0, .int 0, .ref q5, .ref q6, .ref q7, .ref q8, .ref q9, .ref q10, .ref q11, .ref q12, .ref q13, .ref q14, .int 0, .int 0, .int 0, .int 0, .int 0, .int 0, .int 0, .int 0, .int 0, .int 0, .int 0, .int 0, .int 0, .int 0, .int 0, .int 0, .int (-1), .int 0, .ref q15, .ref q16, .ref q17, .ref q18, .int 0, .ref q19, .ref q20, .ref q21, .ref q22, .null, .null, .int 0, .null] fqX9_78 rfl rfl (Nat.le_of_ble_eq_true rfl) rfl dX9_init_195 ?_
  refine n_aload_n dX9_init_198 0 rfl ?_
  refine n_bipush (v := 64) dX9_init_199 (by decide +kernel) ?_
  refine n_newz (N := 64) (by decide) (by decide +kernel) (by decide) (by omega) (by omega) dX9_init_201 (fun q23 => ?_)
  refine n_putF (k0 := 43) [.ref q1, .ref q2, .ref q3, .ref q4, .int 0, .int 0, .ref q5, .ref q6, .ref q7, .ref q8, .ref q9, .ref q10, .ref q11, .ref q12, .ref q13, .ref q14, .int 0, .int 0, .int 0, .int 0, .int 0, .int 0, .int 0, .int 0, .int 0, .int 0, .int 0, .int 0, .int 0, .int 0, .int 0, .int 0, .int (-1), .int 0, .ref q15, .ref q16, .ref q17, .ref q18, .int 0, .ref q19, .ref q20, .ref q21, .ref q22, .ref q23, .null, .int 0, .null] fqX9_81 rfl rfl (Nat.le_of_ble_eq_true rfl) rfl dX9_init_203 ?_
  refine n_aload_n dX9_init_206 0 rfl ?_
  refine n_sipush (v := 256) dX9_init_207 (by decide +kernel) ?_
  refine n_newz (N := 256) (by decide) (by decide +kernel) (by decide) (by omega) (by omega) dX9_init_210 (fun q24 => ?_)
  refine n_putF (k0 := 44) [.ref q1, .ref q2, .ref q3, .ref q4, .int 0, .int 0, .ref q5, .ref q6, .ref q7, .ref q8, .ref q9, .ref q10, .ref q11, .ref q12, .ref q13, .ref q14, .int 0, .int 0, .int 0, .int 0, .int 0, .int 0, .int 0, .int 0, .int 0, .int 0, .int 0, .int 0, .int 0, .int 0, .int 0, .int 0, .int (-1), .int 0, .ref q15, .ref q16, .ref q17, .ref q18, .int 0, .ref q19, .ref q20, .ref q21, .ref q22, .ref q23, .ref q24, .int 0, .null] fqX9_84 rfl rfl (Nat.le_of_ble_eq_true rfl) rfl dX9_init_212 ?_
  refine n_aload_n dX9_init_215 0 rfl ?_
  refine n_bipush (v := 10) dX9_init_216 (by decide +kernel) ?_
  refine n_newi (N := 10) (by decide) (by decide +kernel) (by decide) (by omega) (by omega) dX9_init_218 (fun q25 => ?_)
  refine n_putF (k0 := 46) [.ref q1, .ref q2, .ref q3, .ref q4, .int 0, .int 0, .ref q5, .ref q6, .ref q7, .ref q8, .ref q9, .ref q10, .ref q11, .ref q12, .ref q13, .ref q14, .int 0, .int 0, .int 0, .int 0, .int 0, .int 0, .int 0, .int 0, .int 0, .int 0, .int 0, .int 0, .int 0, .int 0, .int 0, .int 0, .int (-1), .int 0, .ref q15, .ref q16, .ref q17, .ref q18, .int 0, .ref q19, .ref q20, .ref q21, .ref q22, .ref q23, .ref q24, .int 0, .ref q25] fqX9_87 rfl rfl (Nat.le_of_ble_eq_true rfl) rfl dX9_init_220 ?_
  refine nW.eqw ((h0, Sum.inr (9, [.ref q1, .ref q2, .ref q3, .ref q4, .int 0, .int 0, .ref q5, .ref q6, .ref q7, .ref q8, .ref q9, .ref q10, .ref q11, .ref q12, .ref q13, .ref q14, .int 0, .int 0, .int 0, .int 0, .int 0, .int 0, .int 0, .int 0, .int 0, .int 0, .int 0, .int 0, .int 0, .int 0, .int 0, .int 0, .int (-1), .int 0, .ref q15, .ref q16, .ref q17, .ref q18, .int 0, .ref q19, .ref q20, .ref q21, .ref q22, .ref q23, .ref q24, .int 0, .ref q25])) :: [(q1, .inl (g.2.2.2.1, 2200, .inl (fun _ => 0))), (q2, .inl (g.2.2.2.1, 2200, .inl (fun _ => 0))), (q3, .inl (g.2.2.2.1, 900, .inl (fun _ => 0))), (q4, .inl (g.2.2.2.1, 150, .inl (fun _ => 0))), (q5, .inl (g.2.2.2.1, 64, .inl (fun _ => 0))), (q6, .inl (g.2.2.2.1, 820, .inl (fun _ => 0))), (q7, .inl (g.2.2.2.1, 360, .inl (fun _ => 0))), (q8, .inl (g.2.2.2.1, 6, .inl (fun _ => 0))), (q9, .inl (g.2.2.2.1, 6, .inl (fun _ => 0))), (q10, .inl (g.2.2.2.1, 8, .inl (fun _ => 0))), (q11, .inl (g.2.2.2.1, 20, .inl (fun _ => 0))), (q12, .inl (g.2.2.2.1, 400, .inl (fun _ => 0))), (q13, .inl (g.2.2.2.1, 420, .inl (fun _ => 0))), (q14, .inl (g.2.2.2.1, 7, .inl (fun _ => 0))), (q15, .inl (g.2.2.2.1, 64, .inl (fun _ => 0))), (q16, .inl (g.2.2.2.1, 9, .inl (fun _ => 0))), (q17, .inl (g.2.2.2.1, 4608, .inl (fun _ => 0))), (q18, .inl (g.2.2.2.1, 3072, .inl (fun _ => 0))), (q19, .inl (g.2.2.2.2.1, 3584, .inl (fun _ => 0))), (q20, .inl (g.2.2.2.1, 6, .inl (fun _ => 0))), (q21, .inl (g.2.2.2.1, 128, .inl (fun _ => 0))), (q22, .inl (g.2.2.2.1, 128, .inl (fun _ => 0))), (q23, .inl (g.2.2.2.2.1, 64, .inl (fun _ => 0))), (q24, .inl (g.2.2.2.2.1, 256, .inl (fun _ => 0))), (q25, .inl (g.2.2.2.1, 10, .inl (fun _ => 0)))]) (by simp only [List.nil_append, List.append_assoc, List.cons_append]) ?_
  have had : ∀ k, 3000 ≤ k → (nGl 26 (fun k => [h0, q1, q2, q3, q4, q5, q6, q7, q8, q9, q10, q11, q12, q13, q14, q15, q16, q17, q18, q19, q20, q21, q22, q23, q24, q25].getD k 0) (fun j => zad g (26 + j))) k = zad g k := fun k hk => by
    rw [nGl_ge (by omega)]
    exact congrArg (zad g) (by omega)
  refine n_aload_n dX9_init_223 0 rfl ?_
  refine n_bipush (v := 6) dX9_init_224 (by decide +kernel) ?_
  refine n_bipush (v := 6) dX9_init_226 (by decide +kernel) ?_
  refine n_callZ (sh := shM) (ad := (nGl 26 (fun k => [h0, q1, q2, q3, q4, q5, q6, q7, q8, q9, q10, q11, q12, q13, q14, q15, q16, q17, q18, q19, q20, q21, q22, q23, q24, q25].getD k 0) (fun j => zad g (26 + j)))) (C := nMM) (m2 := mX9_begins) (o := 0) (d2 := 0) (Dn := fun M => M = freshM nMM 6 6) [.int 6, .int 6] (fun H h => ?_) had okX9_begins lkX9_90 shM_0 rfl rfl rfl (by decide) (by decide) (by decide) (by decide) dX9_init_228 (c9_begins (fun j _ => rfl) rfl) (fun M1 hM1 => ?_)
  · have e : (h0, Sum.inr (9, [.ref q1, .ref q2, .ref q3, .ref q4, .int 0, .int 0, .ref q5, .ref q6, .ref q7, .ref q8, .ref q9, .ref q10, .ref q11, .ref q12, .ref q13, .ref q14, .int 0, .int 0, .int 0, .int 0, .int 0, .int 0, .int 0, .int 0, .int 0, .int 0, .int 0, .int 0, .int 0, .int 0, .int 0, .int 0, .int (-1), .int 0, .ref q15, .ref q16, .ref q17, .ref q18, .int 0, .ref q19, .ref q20, .ref q21, .ref q22, .ref q23, .ref q24, .int 0, .ref q25])) :: [(q1, .inl (g.2.2.2.1, 2200, .inl (fun _ => 0))), (q2, .inl (g.2.2.2.1, 2200, .inl (fun _ => 0))), (q3, .inl (g.2.2.2.1, 900, .inl (fun _ => 0))), (q4, .inl (g.2.2.2.1, 150, .inl (fun _ => 0))), (q5, .inl (g.2.2.2.1, 64, .inl (fun _ => 0))), (q6, .inl (g.2.2.2.1, 820, .inl (fun _ => 0))), (q7, .inl (g.2.2.2.1, 360, .inl (fun _ => 0))), (q8, .inl (g.2.2.2.1, 6, .inl (fun _ => 0))), (q9, .inl (g.2.2.2.1, 6, .inl (fun _ => 0))), (q10, .inl (g.2.2.2.1, 8, .inl (fun _ => 0))), (q11, .inl (g.2.2.2.1, 20, .inl (fun _ => 0))), (q12, .inl (g.2.2.2.1, 400, .inl (fun _ => 0))), (q13, .inl (g.2.2.2.1, 420, .inl (fun _ => 0))), (q14, .inl (g.2.2.2.1, 7, .inl (fun _ => 0))), (q15, .inl (g.2.2.2.1, 64, .inl (fun _ => 0))), (q16, .inl (g.2.2.2.1, 9, .inl (fun _ => 0))), (q17, .inl (g.2.2.2.1, 4608, .inl (fun _ => 0))), (q18, .inl (g.2.2.2.1, 3072, .inl (fun _ => 0))), (q19, .inl (g.2.2.2.2.1, 3584, .inl (fun _ => 0))), (q20, .inl (g.2.2.2.1, 6, .inl (fun _ => 0))), (q21, .inl (g.2.2.2.1, 128, .inl (fun _ => 0))), (q22, .inl (g.2.2.2.1, 128, .inl (fun _ => 0))), (q23, .inl (g.2.2.2.2.1, 64, .inl (fun _ => 0))), (q24, .inl (g.2.2.2.2.1, 256, .inl (fun _ => 0))), (q25, .inl (g.2.2.2.1, 10, .inl (fun _ => 0)))] = zwA (gA g (nGl 26 (fun k => [h0, q1, q2, q3, q4, q5, q6, q7, q8, q9, q10, q11, q12, q13, q14, q15, q16, q17, q18, q19, q20, q21, q22, q23, q24, q25].getD k 0) (fun j => zad g (26 + j)))) nMM 0 shM := rfl
    rw [e] at h
    rw [zws_A]
    exact h
  · exact n_vret (by decide) (by decide) rfl dX9_init_231 ⟨_, M1, rfl, had, hM1, rfl⟩
