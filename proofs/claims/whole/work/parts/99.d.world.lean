/-! THE CONSTRUCTOR OF WORLD: by program -/
def nMW : zM := fun k => if k = 0 then (fun j => if j = 0 then 6 else if j = 1 then 6 else if j = 2 then 1 else 0) else fun _ => 0
theorem nMW_s {k : Nat} (h : ¬ k = 0) : nMW k = fun _ => 0 := if_neg h
theorem dX7_init_0 : decode cX7_init 0 = .ok (.aload_n 0, 1) := by decide +kernel
theorem dX7_init_1 : decode cX7_init 1 = .ok (.invokespecial 3, 3) := by decide +kernel
theorem dX7_init_4 : decode cX7_init 4 = .ok (.aload_n 0, 1) := by decide +kernel
theorem dX7_init_5 : decode cX7_init 5 = .ok (.bipush 6, 2) := by decide +kernel
theorem dX7_init_7 : decode cX7_init 7 = .ok (.putfield 9, 3) := by decide +kernel
theorem dX7_init_10 : decode cX7_init 10 = .ok (.aload_n 0, 1) := by decide +kernel
theorem dX7_init_11 : decode cX7_init 11 = .ok (.bipush 6, 2) := by decide +kernel
theorem dX7_init_13 : decode cX7_init 13 = .ok (.putfield 15, 3) := by decide +kernel
theorem dX7_init_16 : decode cX7_init 16 = .ok (.aload_n 0, 1) := by decide +kernel
theorem dX7_init_17 : decode cX7_init 17 = .ok (.iconst 1, 1) := by decide +kernel
theorem dX7_init_18 : decode cX7_init 18 = .ok (.putfield 18, 3) := by decide +kernel
theorem dX7_init_21 : decode cX7_init 21 = .ok (.aload_n 0, 1) := by decide +kernel
theorem dX7_init_22 : decode cX7_init 22 = .ok (.iconst 0, 1) := by decide +kernel
theorem dX7_init_23 : decode cX7_init 23 = .ok (.putfield 21, 3) := by decide +kernel
theorem dX7_init_26 : decode cX7_init 26 = .ok (.aload_n 0, 1) := by decide +kernel
theorem dX7_init_27 : decode cX7_init 27 = .ok (.iconst 0, 1) := by decide +kernel
theorem dX7_init_28 : decode cX7_init 28 = .ok (.putfield 24, 3) := by decide +kernel
theorem dX7_init_31 : decode cX7_init 31 = .ok (.aload_n 0, 1) := by decide +kernel
theorem dX7_init_32 : decode cX7_init 32 = .ok (.bipush 6, 2) := by decide +kernel
theorem dX7_init_34 : decode cX7_init 34 = .ok (.newarray .int, 2) := by decide +kernel
theorem dX7_init_36 : decode cX7_init 36 = .ok (.putfield 27, 3) := by decide +kernel
theorem dX7_init_39 : decode cX7_init 39 = .ok (.aload_n 0, 1) := by decide +kernel
theorem dX7_init_40 : decode cX7_init 40 = .ok (.new 31, 3) := by decide +kernel
theorem dX7_init_43 : decode cX7_init 43 = .ok (.dup, 1) := by decide +kernel
theorem dX7_init_44 : decode cX7_init 44 = .ok (.invokespecial 33, 3) := by decide +kernel
theorem dX7_init_47 : decode cX7_init 47 = .ok (.putfield 34, 3) := by decide +kernel
theorem dX7_init_50 : decode cX7_init 50 = .ok (.aload_n 0, 1) := by decide +kernel
theorem dX7_init_51 : decode cX7_init 51 = .ok (.sipush 150, 3) := by decide +kernel
theorem dX7_init_54 : decode cX7_init 54 = .ok (.newarray .int, 2) := by decide +kernel
theorem dX7_init_56 : decode cX7_init 56 = .ok (.putfield 38, 3) := by decide +kernel
theorem dX7_init_59 : decode cX7_init 59 = .ok (.aload_n 0, 1) := by decide +kernel
theorem dX7_init_60 : decode cX7_init 60 = .ok (.new 41, 3) := by decide +kernel
theorem dX7_init_63 : decode cX7_init 63 = .ok (.dup, 1) := by decide +kernel
theorem dX7_init_64 : decode cX7_init 64 = .ok (.invokespecial 43, 3) := by decide +kernel
theorem dX7_init_67 : decode cX7_init 67 = .ok (.putfield 44, 3) := by decide +kernel
theorem dX7_init_70 : decode cX7_init 70 = .ok (.aload_n 0, 1) := by decide +kernel
theorem dX7_init_71 : decode cX7_init 71 = .ok (.new 48, 3) := by decide +kernel
theorem dX7_init_74 : decode cX7_init 74 = .ok (.dup, 1) := by decide +kernel
theorem dX7_init_75 : decode cX7_init 75 = .ok (.invokespecial 50, 3) := by decide +kernel
theorem dX7_init_78 : decode cX7_init 78 = .ok (.putfield 51, 3) := by decide +kernel
theorem dX7_init_81 : decode cX7_init 81 = .ok (.aload_n 0, 1) := by decide +kernel
theorem dX7_init_82 : decode cX7_init 82 = .ok (.new 55, 3) := by decide +kernel
theorem dX7_init_85 : decode cX7_init 85 = .ok (.dup, 1) := by decide +kernel
theorem dX7_init_86 : decode cX7_init 86 = .ok (.invokespecial 57, 3) := by decide +kernel
theorem dX7_init_89 : decode cX7_init 89 = .ok (.putfield 58, 3) := by decide +kernel
theorem dX7_init_92 : decode cX7_init 92 = .ok (.aload_n 0, 1) := by decide +kernel
theorem dX7_init_93 : decode cX7_init 93 = .ok (.bipush 6, 2) := by decide +kernel
theorem dX7_init_95 : decode cX7_init 95 = .ok (.newarray .int, 2) := by decide +kernel
theorem dX7_init_97 : decode cX7_init 97 = .ok (.putfield 62, 3) := by decide +kernel
theorem dX7_init_100 : decode cX7_init 100 = .ok (.aload_n 0, 1) := by decide +kernel
theorem dX7_init_101 : decode cX7_init 101 = .ok (.bipush 64, 2) := by decide +kernel
theorem dX7_init_103 : decode cX7_init 103 = .ok (.newarray .int, 2) := by decide +kernel
theorem dX7_init_105 : decode cX7_init 105 = .ok (.putfield 65, 3) := by decide +kernel
theorem dX7_init_108 : decode cX7_init 108 = .ok (.return_, 1) := by decide +kernel
def shX7 : List zSh := [(3, 7, [none, none, none, none, none, some 1, some 2, some 8, some 9, some 14, some 21, some 25, some 26]), (0, 6, []), (3, 2, [some 3, some 4, some 5, some 6, some 7, none, none, none]), (0, 64, []), (0, 64, []), (0, 6, []), (0, 6, []), (0, 6, []), (0, 150, []), (3, 6, [some 10, some 11, some 12, some 13, none]), (0, 360, []), (0, 6, []), (0, 6, []), (0, 6, []), (3, 1, [some 15, none, some 16, some 17, some 18, some 19, none, none, some 20]), (0, 400, []), (0, 16, []), (0, 16, []), (0, 16, []), (0, 16, []), (0, 64, []), (3, 3, [some 22, none, some 23, some 24, none]), (0, 8, []), (0, 10, []), (0, 10, []), (0, 6, []), (0, 64, [])]
theorem fqX7_27 : zFq RX7 27 7 5 (.array .int) := ⟨RX7, TX7, 13, tyX7, rfl, by decide, zat 303 (by decide +kernel) rfl, inzX7, tyX7_ok, nmX7, by decide +kernel, by decide +kernel, by decide +kernel⟩
theorem nwX7_31 : zNw RX7 31 2 8 [.null, .null, .null, .null, .null, .int 0, .int 0, .int 0] := ⟨RX2, TX2, tyX2, rfl, zat 153 (by decide +kernel) rfl, zat 154 (by decide +kernel) rfl, zat 122 (by decide +kernel) rfl, inzX2, tyX2_ok, by decide +kernel⟩
theorem okX2_init : zOkI mX2_init := ⟨⟨zat 157 (by decide +kernel) rfl, zat 122 (by decide +kernel) rfl, ⟨by decide +kernel, by decide +kernel⟩, by decide +kernel, by decide +kernel⟩, rfl, zat 156 (by decide +kernel) rfl, rfl⟩
theorem fqX7_34 : zFq RX7 34 7 6 (.object "LeftSkate$Moment") := ⟨RX7, TX7, 13, tyX7, rfl, by decide, zat 305 (by decide +kernel) rfl, inzX7, tyX7_ok, nmX7, by decide +kernel, by decide +kernel, by decide +kernel⟩
theorem fqX7_38 : zFq RX7 38 7 7 (.array .int) := ⟨RX7, TX7, 13, tyX7, rfl, by decide, zat 307 (by decide +kernel) rfl, inzX7, tyX7_ok, nmX7, by decide +kernel, by decide +kernel, by decide +kernel⟩
theorem nwX7_41 : zNw RX7 41 6 5 [.null, .null, .null, .null, .int 0] := ⟨RX6, TX6, tyX6, rfl, zat 200 (by decide +kernel) rfl, zat 201 (by decide +kernel) rfl, zat 123 (by decide +kernel) rfl, inzX6, tyX6_ok, by decide +kernel⟩
theorem okX6_init : zOkI mX6_init := ⟨⟨zat 204 (by decide +kernel) rfl, zat 123 (by decide +kernel) rfl, ⟨by decide +kernel, by decide +kernel⟩, by decide +kernel, by decide +kernel⟩, rfl, zat 203 (by decide +kernel) rfl, rfl⟩
theorem fqX7_44 : zFq RX7 44 7 8 (.object "LeftSkate$Ways") := ⟨RX7, TX7, 13, tyX7, rfl, by decide, zat 309 (by decide +kernel) rfl, inzX7, tyX7_ok, nmX7, by decide +kernel, by decide +kernel, by decide +kernel⟩
theorem nwX7_48 : zNw RX7 48 1 9 [.null, .int 0, .null, .null, .null, .null, .int 0, .int 0, .null] := ⟨RX1, TX1, tyX1, rfl, zat 225 (by decide +kernel) rfl, zat 226 (by decide +kernel) rfl, zat 124 (by decide +kernel) rfl, inzX1, tyX1_ok, by decide +kernel⟩
theorem okX1_init : zOkI mX1_init := ⟨⟨zat 229 (by decide +kernel) rfl, zat 124 (by decide +kernel) rfl, ⟨by decide +kernel, by decide +kernel⟩, by decide +kernel, by decide +kernel⟩, rfl, zat 228 (by decide +kernel) rfl, rfl⟩
theorem fqX7_51 : zFq RX7 51 7 9 (.object "LeftSkate$Law") := ⟨RX7, TX7, 13, tyX7, rfl, by decide, zat 311 (by decide +kernel) rfl, inzX7, tyX7_ok, nmX7, by decide +kernel, by decide +kernel, by decide +kernel⟩
theorem nwX7_55 : zNw RX7 55 3 5 [.null, .int 0, .null, .null, .int 0] := ⟨RX3, TX3, tyX3, rfl, zat 261 (by decide +kernel) rfl, zat 262 (by decide +kernel) rfl, zat 125 (by decide +kernel) rfl, inzX3, tyX3_ok, by decide +kernel⟩
theorem okX3_init : zOkI mX3_init := ⟨⟨zat 265 (by decide +kernel) rfl, zat 125 (by decide +kernel) rfl, ⟨by decide +kernel, by decide +kernel⟩, by decide +kernel, by decide +kernel⟩, rfl, zat 264 (by decide +kernel) rfl, rfl⟩
theorem fqX7_58 : zFq RX7 58 7 10 (.object "LeftSkate$Paper") := ⟨RX7, TX7, 13, tyX7, rfl, by decide, zat 313 (by decide +kernel) rfl, inzX7, tyX7_ok, nmX7, by decide +kernel, by decide +kernel, by decide +kernel⟩
theorem fqX7_62 : zFq RX7 62 7 11 (.array .int) := ⟨RX7, TX7, 13, tyX7, rfl, by decide, zat 316 (by decide +kernel) rfl, inzX7, tyX7_ok, nmX7, by decide +kernel, by decide +kernel, by decide +kernel⟩
theorem fqX7_65 : zFq RX7 65 7 12 (.array .int) := ⟨RX7, TX7, 13, tyX7, rfl, by decide, zat 317 (by decide +kernel) rfl, inzX7, tyX7_ok, nmX7, by decide +kernel, by decide +kernel, by decide +kernel⟩
set_option maxRecDepth 100000 in
theorem kX7_init (g : zG) (h0 sz : Nat) : nC g 2 26 1333 mX7_init h0 sz 7 [.int 0, .int 0, .int 0, .int 0, .int 0, .null, .null, .null, .null, .null, .null, .null, .null] (nB g shX7 nMW h0) := by
  refine nW.enter (by decide +kernel) rfl (Nat.le_of_ble_eq_true rfl) ?_
  refine n_aload_n dX7_init_0 0 rfl ?_
  refine n_objInit (idx := 3) (zat 152 (by decide +kernel) rfl) (by decide) (by decide) dX7_init_1 ?_
  refine n_aload_n dX7_init_4 0 rfl ?_
  refine n_bipush (v := 6) dX7_init_5 (by decide +kernel) ?_
  refine n_puti (k0 := 0) [.int 6, .int 0, .int 0, .int 0, .int 0, .null, .null, .null, .null, .null, .null, .null, .null] fpX7_9 rfl rfl (Nat.le_of_ble_eq_true rfl) rfl dX7_init_7 ?_
  refine n_aload_n dX7_init_10 0 rfl ?_
  refine n_bipush (v := 6) dX7_init_11 (by decide +kernel) ?_
  refine n_puti (k0 := 1) [.int 6, .int 6, .int 0, .int 0, .int 0, .null, .null, .null, .null, .null, .null, .null, .null] fpX7_15 rfl rfl (Nat.le_of_ble_eq_true rfl) rfl dX7_init_13 ?_
  refine n_aload_n dX7_init_16 0 rfl ?_
  refine n_iconst (v := 1) dX7_init_17 (by decide +kernel) ?_
  refine n_puti (k0 := 2) [.int 6, .int 6, .int 1, .int 0, .int 0, .null, .null, .null, .null, .null, .null, .null, .null] fpX7_18 rfl rfl (Nat.le_of_ble_eq_true rfl) rfl dX7_init_18 ?_
  refine n_aload_n dX7_init_21 0 rfl ?_
  refine n_iconst (v := 0) dX7_init_22 (by decide +kernel) ?_
  refine n_puti (k0 := 3) [.int 6, .int 6, .int 1, .int 0, .int 0, .null, .null, .null, .null, .null, .null, .null, .null] fpX7_21 rfl rfl (Nat.le_of_ble_eq_true rfl) rfl dX7_init_23 ?_
  refine n_aload_n dX7_init_26 0 rfl ?_
  refine n_iconst (v := 0) dX7_init_27 (by decide +kernel) ?_
  refine n_puti (k0 := 4) [.int 6, .int 6, .int 1, .int 0, .int 0, .null, .null, .null, .null, .null, .null, .null, .null] fpX7_24 rfl rfl (Nat.le_of_ble_eq_true rfl) rfl dX7_init_28 ?_
  refine n_aload_n dX7_init_31 0 rfl ?_
  refine n_bipush (v := 6) dX7_init_32 (by decide +kernel) ?_
  refine n_newi (N := 6) (by decide) (by decide +kernel) (by decide) (by omega) (by omega) dX7_init_34 (fun q1 => ?_)
  refine n_putF (k0 := 5) [.int 6, .int 6, .int 1, .int 0, .int 0, .ref q1, .null, .null, .null, .null, .null, .null, .null] fqX7_27 rfl rfl (Nat.le_of_ble_eq_true rfl) rfl dX7_init_36 ?_
  refine n_aload_n dX7_init_39 0 rfl ?_
  refine n_newB (N := 8) (d2 := 1) (nc2 := 5) (ns2 := 146) nwX7_31 okX2_init (host := "LeftSkate") (by decide +kernel) (by decide) (by omega) (by omega) (Nat.le_of_ble_eq_true rfl) dX7_init_40 dX7_init_43 dX7_init_44 (fun q sz => kX2_init g q sz) (fun a2 => ?_)
  refine n_putF (k0 := 6) [.int 6, .int 6, .int 1, .int 0, .int 0, .ref q1, .ref (a2 0), .null, .null, .null, .null, .null, .null] fqX7_34 rfl rfl (Nat.le_of_ble_eq_true rfl) rfl dX7_init_47 ?_
  refine n_aload_n dX7_init_50 0 rfl ?_
  refine n_sipush (v := 150) dX7_init_51 (by decide +kernel) ?_
  refine n_newi (N := 150) (by decide) (by decide +kernel) (by decide) (by omega) (by omega) dX7_init_54 (fun q3 => ?_)
  refine n_putF (k0 := 7) [.int 6, .int 6, .int 1, .int 0, .int 0, .ref q1, .ref (a2 0), .ref q3, .null, .null, .null, .null, .null] fqX7_38 rfl rfl (Nat.le_of_ble_eq_true rfl) rfl dX7_init_56 ?_
  refine n_aload_n dX7_init_59 0 rfl ?_
  refine n_newB (N := 5) (d2 := 1) (nc2 := 4) (ns2 := 378) nwX7_41 okX6_init (host := "LeftSkate") (by decide +kernel) (by decide) (by omega) (by omega) (Nat.le_of_ble_eq_true rfl) dX7_init_60 dX7_init_63 dX7_init_64 (fun q sz => kX6_init g q sz) (fun a4 => ?_)
  refine n_putF (k0 := 8) [.int 6, .int 6, .int 1, .int 0, .int 0, .ref q1, .ref (a2 0), .ref q3, .ref (a4 0), .null, .null, .null, .null] fqX7_44 rfl rfl (Nat.le_of_ble_eq_true rfl) rfl dX7_init_67 ?_
  refine n_aload_n dX7_init_70 0 rfl ?_
  refine n_newB (N := 9) (d2 := 1) (nc2 := 6) (ns2 := 528) nwX7_48 okX1_init (host := "LeftSkate") (by decide +kernel) (by decide) (by omega) (by omega) (Nat.le_of_ble_eq_true rfl) dX7_init_71 dX7_init_74 dX7_init_75 (fun q sz => kX1_init g q sz) (fun a5 => ?_)
  refine n_putF (k0 := 9) [.int 6, .int 6, .int 1, .int 0, .int 0, .ref q1, .ref (a2 0), .ref q3, .ref (a4 0), .ref (a5 0), .null, .null, .null] fqX7_51 rfl rfl (Nat.le_of_ble_eq_true rfl) rfl dX7_init_78 ?_
  refine n_aload_n dX7_init_81 0 rfl ?_
  refine n_newB (N := 5) (d2 := 1) (nc2 := 3) (ns2 := 28) nwX7_55 okX3_init (host := "LeftSkate") (by decide +kernel) (by decide) (by omega) (by omega) (Nat.le_of_ble_eq_true rfl) dX7_init_82 dX7_init_85 dX7_init_86 (fun q sz => kX3_init g q sz) (fun a6 => ?_)
  refine n_putF (k0 := 10) [.int 6, .int 6, .int 1, .int 0, .int 0, .ref q1, .ref (a2 0), .ref q3, .ref (a4 0), .ref (a5 0), .ref (a6 0), .null, .null] fqX7_58 rfl rfl (Nat.le_of_ble_eq_true rfl) rfl dX7_init_89 ?_
  refine n_aload_n dX7_init_92 0 rfl ?_
  refine n_bipush (v := 6) dX7_init_93 (by decide +kernel) ?_
  refine n_newi (N := 6) (by decide) (by decide +kernel) (by decide) (by omega) (by omega) dX7_init_95 (fun q7 => ?_)
  refine n_putF (k0 := 11) [.int 6, .int 6, .int 1, .int 0, .int 0, .ref q1, .ref (a2 0), .ref q3, .ref (a4 0), .ref (a5 0), .ref (a6 0), .ref q7, .null] fqX7_62 rfl rfl (Nat.le_of_ble_eq_true rfl) rfl dX7_init_97 ?_
  refine n_aload_n dX7_init_100 0 rfl ?_
  refine n_bipush (v := 64) dX7_init_101 (by decide +kernel) ?_
  refine n_newi (N := 64) (by decide) (by decide +kernel) (by decide) (by omega) (by omega) dX7_init_103 (fun q8 => ?_)
  refine n_putF (k0 := 12) [.int 6, .int 6, .int 1, .int 0, .int 0, .ref q1, .ref (a2 0), .ref q3, .ref (a4 0), .ref (a5 0), .ref (a6 0), .ref q7, .ref q8] fqX7_65 rfl rfl (Nat.le_of_ble_eq_true rfl) rfl dX7_init_105 ?_
  refine n_vret (by decide) (by decide) rfl dX7_init_108 ?_
  refine ⟨(nGl 1 (fun _ => h0) (nGl 1 (fun _ => q1) (nGl 6 a2 (nGl 1 (fun _ => q3) (nGl 5 a4 (nGl 7 a5 (nGl 4 a6 (nGl 1 (fun _ => q7) (fun _ => q8))))))))), rfl, ?_⟩
  have ea2 : zwA (gA g (nGl 1 (fun _ => h0) (nGl 1 (fun _ => q1) (nGl 6 a2 (nGl 1 (fun _ => q3) (nGl 5 a4 (nGl 7 a5 (nGl 4 a6 (nGl 1 (fun _ => q7) (fun _ => q8)))))))))) nMW 2 (shS 2 shX2) = zws shX2 (gA g a2) (fun _ _ => 0) := by
    refine zws_seg shX2 a2 (fun _ _ => 0) (fun k hk => ?_) (fun k hk => ?_) (by decide +kernel)
    · have hk : k < 6 := hk
      show (nGl 1 (fun _ => h0) (nGl 1 (fun _ => q1) (nGl 6 a2 (nGl 1 (fun _ => q3) (nGl 5 a4 (nGl 7 a5 (nGl 4 a6 (nGl 1 (fun _ => q7) (fun _ => q8))))))))) (2 + k) = a2 k
      rw [nGl_ge (by omega), nGl_ge (by omega), nGl_lo (by omega)]
      exact congrArg a2 (by omega)
    · have hk : k < 6 := hk
      exact nMW_s (by omega)
  have ea4 : zwA (gA g (nGl 1 (fun _ => h0) (nGl 1 (fun _ => q1) (nGl 6 a2 (nGl 1 (fun _ => q3) (nGl 5 a4 (nGl 7 a5 (nGl 4 a6 (nGl 1 (fun _ => q7) (fun _ => q8)))))))))) nMW 9 (shS 9 shX6) = zws shX6 (gA g a4) (fun _ _ => 0) := by
    refine zws_seg shX6 a4 (fun _ _ => 0) (fun k hk => ?_) (fun k hk => ?_) (by decide +kernel)
    · have hk : k < 5 := hk
      show (nGl 1 (fun _ => h0) (nGl 1 (fun _ => q1) (nGl 6 a2 (nGl 1 (fun _ => q3) (nGl 5 a4 (nGl 7 a5 (nGl 4 a6 (nGl 1 (fun _ => q7) (fun _ => q8))))))))) (9 + k) = a4 k
      rw [nGl_ge (by omega), nGl_ge (by omega), nGl_ge (by omega), nGl_ge (by omega), nGl_lo (by omega)]
      exact congrArg a4 (by omega)
    · have hk : k < 5 := hk
      exact nMW_s (by omega)
  have ea5 : zwA (gA g (nGl 1 (fun _ => h0) (nGl 1 (fun _ => q1) (nGl 6 a2 (nGl 1 (fun _ => q3) (nGl 5 a4 (nGl 7 a5 (nGl 4 a6 (nGl 1 (fun _ => q7) (fun _ => q8)))))))))) nMW 14 (shS 14 shX1) = zws shX1 (gA g a5) (fun _ _ => 0) := by
    refine zws_seg shX1 a5 (fun _ _ => 0) (fun k hk => ?_) (fun k hk => ?_) (by decide +kernel)
    · have hk : k < 7 := hk
      show (nGl 1 (fun _ => h0) (nGl 1 (fun _ => q1) (nGl 6 a2 (nGl 1 (fun _ => q3) (nGl 5 a4 (nGl 7 a5 (nGl 4 a6 (nGl 1 (fun _ => q7) (fun _ => q8))))))))) (14 + k) = a5 k
      rw [nGl_ge (by omega), nGl_ge (by omega), nGl_ge (by omega), nGl_ge (by omega), nGl_ge (by omega), nGl_lo (by omega)]
      exact congrArg a5 (by omega)
    · have hk : k < 7 := hk
      exact nMW_s (by omega)
  have ea6 : zwA (gA g (nGl 1 (fun _ => h0) (nGl 1 (fun _ => q1) (nGl 6 a2 (nGl 1 (fun _ => q3) (nGl 5 a4 (nGl 7 a5 (nGl 4 a6 (nGl 1 (fun _ => q7) (fun _ => q8)))))))))) nMW 21 (shS 21 shX3) = zws shX3 (gA g a6) (fun _ _ => 0) := by
    refine zws_seg shX3 a6 (fun _ _ => 0) (fun k hk => ?_) (fun k hk => ?_) (by decide +kernel)
    · have hk : k < 4 := hk
      show (nGl 1 (fun _ => h0) (nGl 1 (fun _ => q1) (nGl 6 a2 (nGl 1 (fun _ => q3) (nGl 5 a4 (nGl 7 a5 (nGl 4 a6 (nGl 1 (fun _ => q7) (fun _ => q8))))))))) (21 + k) = a6 k
      rw [nGl_ge (by omega), nGl_ge (by omega), nGl_ge (by omega), nGl_ge (by omega), nGl_ge (by omega), nGl_ge (by omega), nGl_lo (by omega)]
      exact congrArg a6 (by omega)
    · have hk : k < 4 := hk
      exact nMW_s (by omega)
  have e : zwA (gA g (nGl 1 (fun _ => h0) (nGl 1 (fun _ => q1) (nGl 6 a2 (nGl 1 (fun _ => q3) (nGl 5 a4 (nGl 7 a5 (nGl 4 a6 (nGl 1 (fun _ => q7) (fun _ => q8)))))))))) nMW 0 shX7 = zwA (gA g (nGl 1 (fun _ => h0) (nGl 1 (fun _ => q1) (nGl 6 a2 (nGl 1 (fun _ => q3) (nGl 5 a4 (nGl 7 a5 (nGl 4 a6 (nGl 1 (fun _ => q7) (fun _ => q8)))))))))) nMW 0 [(3, 7, [none, none, none, none, none, some 1, some 2, some 8, some 9, some 14, some 21, some 25, some 26])] ++ (zwA (gA g (nGl 1 (fun _ => h0) (nGl 1 (fun _ => q1) (nGl 6 a2 (nGl 1 (fun _ => q3) (nGl 5 a4 (nGl 7 a5 (nGl 4 a6 (nGl 1 (fun _ => q7) (fun _ => q8)))))))))) nMW 1 [(0, 6, [])] ++ (zwA (gA g (nGl 1 (fun _ => h0) (nGl 1 (fun _ => q1) (nGl 6 a2 (nGl 1 (fun _ => q3) (nGl 5 a4 (nGl 7 a5 (nGl 4 a6 (nGl 1 (fun _ => q7) (fun _ => q8)))))))))) nMW 2 (shS 2 shX2) ++ (zwA (gA g (nGl 1 (fun _ => h0) (nGl 1 (fun _ => q1) (nGl 6 a2 (nGl 1 (fun _ => q3) (nGl 5 a4 (nGl 7 a5 (nGl 4 a6 (nGl 1 (fun _ => q7) (fun _ => q8)))))))))) nMW 8 [(0, 150, [])] ++ (zwA (gA g (nGl 1 (fun _ => h0) (nGl 1 (fun _ => q1) (nGl 6 a2 (nGl 1 (fun _ => q3) (nGl 5 a4 (nGl 7 a5 (nGl 4 a6 (nGl 1 (fun _ => q7) (fun _ => q8)))))))))) nMW 9 (shS 9 shX6) ++ (zwA (gA g (nGl 1 (fun _ => h0) (nGl 1 (fun _ => q1) (nGl 6 a2 (nGl 1 (fun _ => q3) (nGl 5 a4 (nGl 7 a5 (nGl 4 a6 (nGl 1 (fun _ => q7) (fun _ => q8)))))))))) nMW 14 (shS 14 shX1) ++ (zwA (gA g (nGl 1 (fun _ => h0) (nGl 1 (fun _ => q1) (nGl 6 a2 (nGl 1 (fun _ => q3) (nGl 5 a4 (nGl 7 a5 (nGl 4 a6 (nGl 1 (fun _ => q7) (fun _ => q8)))))))))) nMW 21 (shS 21 shX3) ++ (zwA (gA g (nGl 1 (fun _ => h0) (nGl 1 (fun _ => q1) (nGl 6 a2 (nGl 1 (fun _ => q3) (nGl 5 a4 (nGl 7 a5 (nGl 4 a6 (nGl 1 (fun _ => q7) (fun _ => q8)))))))))) nMW 25 [(0, 6, [])] ++ (zwA (gA g (nGl 1 (fun _ => h0) (nGl 1 (fun _ => q1) (nGl 6 a2 (nGl 1 (fun _ => q3) (nGl 5 a4 (nGl 7 a5 (nGl 4 a6 (nGl 1 (fun _ => q7) (fun _ => q8)))))))))) nMW 26 [(0, 64, [])])))))))) := rfl
  refine Eq.trans ?_ zws_A.symm
  rw [e, ea2, ea4, ea5, ea6]
  simp only [List.nil_append, List.append_assoc]
  rfl
