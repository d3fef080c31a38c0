/-! THE CONSTRUCTORS OF THE LEAVES: by program -/
theorem dX2_init_0 : decode cX2_init 0 = .ok (.aload_n 0, 1) := by decide +kernel
theorem dX2_init_1 : decode cX2_init 1 = .ok (.invokespecial 3, 3) := by decide +kernel
theorem dX2_init_4 : decode cX2_init 4 = .ok (.aload_n 0, 1) := by decide +kernel
theorem dX2_init_5 : decode cX2_init 5 = .ok (.bipush 64, 2) := by decide +kernel
theorem dX2_init_7 : decode cX2_init 7 = .ok (.newarray .int, 2) := by decide +kernel
theorem dX2_init_9 : decode cX2_init 9 = .ok (.putfield 9, 3) := by decide +kernel
theorem dX2_init_12 : decode cX2_init 12 = .ok (.aload_n 0, 1) := by decide +kernel
theorem dX2_init_13 : decode cX2_init 13 = .ok (.bipush 64, 2) := by decide +kernel
theorem dX2_init_15 : decode cX2_init 15 = .ok (.newarray .int, 2) := by decide +kernel
theorem dX2_init_17 : decode cX2_init 17 = .ok (.putfield 15, 3) := by decide +kernel
theorem dX2_init_20 : decode cX2_init 20 = .ok (.aload_n 0, 1) := by decide +kernel
theorem dX2_init_21 : decode cX2_init 21 = .ok (.bipush 6, 2) := by decide +kernel
theorem dX2_init_23 : decode cX2_init 23 = .ok (.newarray .int, 2) := by decide +kernel
theorem dX2_init_25 : decode cX2_init 25 = .ok (.putfield 18, 3) := by decide +kernel
theorem dX2_init_28 : decode cX2_init 28 = .ok (.aload_n 0, 1) := by decide +kernel
theorem dX2_init_29 : decode cX2_init 29 = .ok (.bipush 6, 2) := by decide +kernel
theorem dX2_init_31 : decode cX2_init 31 = .ok (.newarray .int, 2) := by decide +kernel
theorem dX2_init_33 : decode cX2_init 33 = .ok (.putfield 21, 3) := by decide +kernel
theorem dX2_init_36 : decode cX2_init 36 = .ok (.aload_n 0, 1) := by decide +kernel
theorem dX2_init_37 : decode cX2_init 37 = .ok (.bipush 6, 2) := by decide +kernel
theorem dX2_init_39 : decode cX2_init 39 = .ok (.newarray .int, 2) := by decide +kernel
theorem dX2_init_41 : decode cX2_init 41 = .ok (.putfield 24, 3) := by decide +kernel
theorem dX2_init_44 : decode cX2_init 44 = .ok (.aload_n 0, 1) := by decide +kernel
theorem dX2_init_45 : decode cX2_init 45 = .ok (.iconst 0, 1) := by decide +kernel
theorem dX2_init_46 : decode cX2_init 46 = .ok (.putfield 27, 3) := by decide +kernel
theorem dX2_init_49 : decode cX2_init 49 = .ok (.aload_n 0, 1) := by decide +kernel
theorem dX2_init_50 : decode cX2_init 50 = .ok (.iconst 0, 1) := by decide +kernel
theorem dX2_init_51 : decode cX2_init 51 = .ok (.putfield 31, 3) := by decide +kernel
theorem dX2_init_54 : decode cX2_init 54 = .ok (.aload_n 0, 1) := by decide +kernel
theorem dX2_init_55 : decode cX2_init 55 = .ok (.iconst 0, 1) := by decide +kernel
theorem dX2_init_56 : decode cX2_init 56 = .ok (.putfield 34, 3) := by decide +kernel
theorem dX2_init_59 : decode cX2_init 59 = .ok (.return_, 1) := by decide +kernel
def shX2 : List zSh := [(3, 2, [some 1, some 2, some 3, some 4, some 5, none, none, none]), (0, 64, []), (0, 64, []), (0, 6, []), (0, 6, []), (0, 6, [])]
theorem fqX2_9 : zFq RX2 9 2 0 (.array .int) := ⟨RX2, TX2, 8, tyX2, rfl, by decide, zat 159 (by decide +kernel) rfl, inzX2, tyX2_ok, nmX2, by decide +kernel, by decide +kernel, by decide +kernel⟩
theorem fqX2_15 : zFq RX2 15 2 1 (.array .int) := ⟨RX2, TX2, 8, tyX2, rfl, by decide, zat 162 (by decide +kernel) rfl, inzX2, tyX2_ok, nmX2, by decide +kernel, by decide +kernel, by decide +kernel⟩
theorem fqX2_18 : zFq RX2 18 2 2 (.array .int) := ⟨RX2, TX2, 8, tyX2, rfl, by decide, zat 165 (by decide +kernel) rfl, inzX2, tyX2_ok, nmX2, by decide +kernel, by decide +kernel, by decide +kernel⟩
theorem fqX2_21 : zFq RX2 21 2 3 (.array .int) := ⟨RX2, TX2, 8, tyX2, rfl, by decide, zat 168 (by decide +kernel) rfl, inzX2, tyX2_ok, nmX2, by decide +kernel, by decide +kernel, by decide +kernel⟩
theorem fqX2_24 : zFq RX2 24 2 4 (.array .int) := ⟨RX2, TX2, 8, tyX2, rfl, by decide, zat 171 (by decide +kernel) rfl, inzX2, tyX2_ok, nmX2, by decide +kernel, by decide +kernel, by decide +kernel⟩
set_option maxRecDepth 100000 in
theorem kX2_init (g : zG) (h0 sz : Nat) : nC g 1 5 146 mX2_init h0 sz 2 [.null, .null, .null, .null, .null, .int 0, .int 0, .int 0] (nB g shX2 (fun _ _ => 0) h0) := by
  refine nW.enter (by decide +kernel) rfl (Nat.le_of_ble_eq_true rfl) ?_
  refine n_aload_n dX2_init_0 0 rfl ?_
  refine n_objInit (idx := 3) (zat 158 (by decide +kernel) rfl) (by decide) (by decide) dX2_init_1 ?_
  refine n_aload_n dX2_init_4 0 rfl ?_
  refine n_bipush (v := 64) dX2_init_5 (by decide +kernel) ?_
  refine n_newi (N := 64) (by decide) (by decide +kernel) (by decide) (by omega) (by omega) dX2_init_7 (fun q1 => ?_)
  refine n_putF (k0 := 0) [.ref q1, .null, .null, .null, .null, .int 0, .int 0, .int 0] fqX2_9 rfl rfl (Nat.le_of_ble_eq_true rfl) rfl dX2_init_9 ?_
  refine n_aload_n dX2_init_12 0 rfl ?_
  refine n_bipush (v := 64) dX2_init_13 (by decide +kernel) ?_
  refine n_newi (N := 64) (by decide) (by decide +kernel) (by decide) (by omega) (by omega) dX2_init_15 (fun q2 => ?_)
  refine n_putF (k0 := 1) [.ref q1, .ref q2, .null, .null, .null, .int 0, .int 0, .int 0] fqX2_15 rfl rfl (Nat.le_of_ble_eq_true rfl) rfl dX2_init_17 ?_
  refine n_aload_n dX2_init_20 0 rfl ?_
  refine n_bipush (v := 6) dX2_init_21 (by decide +kernel) ?_
  refine n_newi (N := 6) (by decide) (by decide +kernel) (by decide) (by omega) (by omega) dX2_init_23 (fun q3 => ?_)
  refine n_putF (k0 := 2) [.ref q1, .ref q2, .ref q3, .null, .null, .int 0, .int 0, .int 0] fqX2_18 rfl rfl (Nat.le_of_ble_eq_true rfl) rfl dX2_init_25 ?_
  refine n_aload_n dX2_init_28 0 rfl ?_
  refine n_bipush (v := 6) dX2_init_29 (by decide +kernel) ?_
  refine n_newi (N := 6) (by decide) (by decide +kernel) (by decide) (by omega) (by omega) dX2_init_31 (fun q4 => ?_)
  refine n_putF (k0 := 3) [.ref q1, .ref q2, .ref q3, .ref q4, .null, .int 0, .int 0, .int 0] fqX2_21 rfl rfl (Nat.le_of_ble_eq_true rfl) rfl dX2_init_33 ?_
  refine n_aload_n dX2_init_36 0 rfl ?_
  refine n_bipush (v := 6) dX2_init_37 (by decide +kernel) ?_
  refine n_newi (N := 6) (by decide) (by decide +kernel) (by decide) (by omega) (by omega) dX2_init_39 (fun q5 => ?_)
  refine n_putF (k0 := 4) [.ref q1, .ref q2, .ref q3, .ref q4, .ref q5, .int 0, .int 0, .int 0] fqX2_24 rfl rfl (Nat.le_of_ble_eq_true rfl) rfl dX2_init_41 ?_
  refine n_aload_n dX2_init_44 0 rfl ?_
  refine n_iconst (v := 0) dX2_init_45 (by decide +kernel) ?_
  refine n_puti (k0 := 5) [.ref q1, .ref q2, .ref q3, .ref q4, .ref q5, .int 0, .int 0, .int 0] fpX2_27 rfl rfl (Nat.le_of_ble_eq_true rfl) rfl dX2_init_46 ?_
  refine n_aload_n dX2_init_49 0 rfl ?_
  refine n_iconst (v := 0) dX2_init_50 (by decide +kernel) ?_
  refine n_puti (k0 := 6) [.ref q1, .ref q2, .ref q3, .ref q4, .ref q5, .int 0, .int 0, .int 0] fpX2_31 rfl rfl (Nat.le_of_ble_eq_true rfl) rfl dX2_init_51 ?_
  refine n_aload_n dX2_init_54 0 rfl ?_
  refine n_iconst (v := 0) dX2_init_55 (by decide +kernel) ?_
  refine n_puti (k0 := 7) [.ref q1, .ref q2, .ref q3, .ref q4, .ref q5, .int 0, .int 0, .int 0] fpX2_34 rfl rfl (Nat.le_of_ble_eq_true rfl) rfl dX2_init_56 ?_
  refine n_vret (by decide) (by decide) rfl dX2_init_59 ?_
  refine ⟨fun k => [h0, q1, q2, q3, q4, q5].getD k 0, rfl, ?_⟩
  rw [zws_A]
  rfl
theorem dX5_init_0 : decode cX5_init 0 = .ok (.aload_n 0, 1) := by decide +kernel
theorem dX5_init_1 : decode cX5_init 1 = .ok (.invokespecial 3, 3) := by decide +kernel
theorem dX5_init_4 : decode cX5_init 4 = .ok (.aload_n 0, 1) := by decide +kernel
theorem dX5_init_5 : decode cX5_init 5 = .ok (.sipush 400, 3) := by decide +kernel
theorem dX5_init_8 : decode cX5_init 8 = .ok (.newarray .int, 2) := by decide +kernel
theorem dX5_init_10 : decode cX5_init 10 = .ok (.putfield 9, 3) := by decide +kernel
theorem dX5_init_13 : decode cX5_init 13 = .ok (.aload_n 0, 1) := by decide +kernel
theorem dX5_init_14 : decode cX5_init 14 = .ok (.iconst 0, 1) := by decide +kernel
theorem dX5_init_15 : decode cX5_init 15 = .ok (.putfield 15, 3) := by decide +kernel
theorem dX5_init_18 : decode cX5_init 18 = .ok (.aload_n 0, 1) := by decide +kernel
theorem dX5_init_19 : decode cX5_init 19 = .ok (.iconst 0, 1) := by decide +kernel
theorem dX5_init_20 : decode cX5_init 20 = .ok (.putfield 19, 3) := by decide +kernel
theorem dX5_init_23 : decode cX5_init 23 = .ok (.aload_n 0, 1) := by decide +kernel
theorem dX5_init_24 : decode cX5_init 24 = .ok (.iconst 0, 1) := by decide +kernel
theorem dX5_init_25 : decode cX5_init 25 = .ok (.putfield 22, 3) := by decide +kernel
theorem dX5_init_28 : decode cX5_init 28 = .ok (.aload_n 0, 1) := by decide +kernel
theorem dX5_init_29 : decode cX5_init 29 = .ok (.iconst 0, 1) := by decide +kernel
theorem dX5_init_30 : decode cX5_init 30 = .ok (.putfield 25, 3) := by decide +kernel
theorem dX5_init_33 : decode cX5_init 33 = .ok (.aload_n 0, 1) := by decide +kernel
theorem dX5_init_34 : decode cX5_init 34 = .ok (.iconst 0, 1) := by decide +kernel
theorem dX5_init_35 : decode cX5_init 35 = .ok (.putfield 28, 3) := by decide +kernel
theorem dX5_init_38 : decode cX5_init 38 = .ok (.aload_n 0, 1) := by decide +kernel
theorem dX5_init_39 : decode cX5_init 39 = .ok (.iconst 0, 1) := by decide +kernel
theorem dX5_init_40 : decode cX5_init 40 = .ok (.putfield 31, 3) := by decide +kernel
theorem dX5_init_43 : decode cX5_init 43 = .ok (.aload_n 0, 1) := by decide +kernel
theorem dX5_init_44 : decode cX5_init 44 = .ok (.iconst (-1), 1) := by decide +kernel
theorem dX5_init_45 : decode cX5_init 45 = .ok (.putfield 34, 3) := by decide +kernel
theorem dX5_init_48 : decode cX5_init 48 = .ok (.return_, 1) := by decide +kernel
def shX5 : List zSh := [(3, 5, [some 1, none, none, none, none, none, none, none]), (0, 400, [])]
theorem fqX5_9 : zFq RX5 9 5 0 (.array .int) := ⟨RX5, TX5, 8, tyX5, rfl, by decide, zat 354 (by decide +kernel) rfl, inzX5, tyX5_ok, nmX5, by decide +kernel, by decide +kernel, by decide +kernel⟩
set_option maxRecDepth 100000 in
theorem kX5_init (g : zG) (h0 sz : Nat) : nC g 1 1 400 mX5_init h0 sz 5 [.null, .int 0, .int 0, .int 0, .int 0, .int 0, .int 0, .int 0] (nB g shX5 (fun k => if k = 0 then (fun j => if j = 7 then -1 else 0) else fun _ => 0) h0) := by
  refine nW.enter (by decide +kernel) rfl (Nat.le_of_ble_eq_true rfl) ?_
  refine n_aload_n dX5_init_0 0 rfl ?_
  refine n_objInit (idx := 3) (zat 353 (by decide +kernel) rfl) (by decide) (by decide) dX5_init_1 ?_
  refine n_aload_n dX5_init_4 0 rfl ?_
  refine n_sipush (v := 400) dX5_init_5 (by decide +kernel) ?_
  refine n_newi (N := 400) (by decide) (by decide +kernel) (by decide) (by omega) (by omega) dX5_init_8 (fun q1 => ?_)
  refine n_putF (k0 := 0) [.ref q1, .int 0, .int 0, .int 0, .int 0, .int 0, .int 0, .int 0] fqX5_9 rfl rfl (Nat.le_of_ble_eq_true rfl) rfl dX5_init_10 ?_
  refine n_aload_n dX5_init_13 0 rfl ?_
  refine n_iconst (v := 0) dX5_init_14 (by decide +kernel) ?_
  refine n_puti (k0 := 1) [.ref q1, .int 0, .int 0, .int 0, .int 0, .int 0, .int 0, .int 0] fpX5_15 rfl rfl (Nat.le_of_ble_eq_true rfl) rfl dX5_init_15 ?_
  refine n_aload_n dX5_init_18 0 rfl ?_
  refine n_iconst (v := 0) dX5_init_19 (by decide +kernel) ?_
  refine n_puti (k0 := 2) [.ref q1, .int 0, .int 0, .int 0, .int 0, .int 0, .int 0, .int 0] fpX5_19 rfl rfl (Nat.le_of_ble_eq_true rfl) rfl dX5_init_20 ?_
  refine n_aload_n dX5_init_23 0 rfl ?_
  refine n_iconst (v := 0) dX5_init_24 (by decide +kernel) ?_
  refine n_puti (k0 := 3) [.ref q1, .int 0, .int 0, .int 0, .int 0, .int 0, .int 0, .int 0] fpX5_22 rfl rfl (Nat.le_of_ble_eq_true rfl) rfl dX5_init_25 ?_
  refine n_aload_n dX5_init_28 0 rfl ?_
  refine n_iconst (v := 0) dX5_init_29 (by decide +kernel) ?_
  refine n_puti (k0 := 4) [.ref q1, .int 0, .int 0, .int 0, .int 0, .int 0, .int 0, .int 0] fpX5_25 rfl rfl (Nat.le_of_ble_eq_true rfl) rfl dX5_init_30 ?_
  refine n_aload_n dX5_init_33 0 rfl ?_
  refine n_iconst (v := 0) dX5_init_34 (by decide +kernel) ?_
  refine n_puti (k0 := 5) [.ref q1, .int 0, .int 0, .int 0, .int 0, .int 0, .int 0, .int 0] fpX5_28 rfl rfl (Nat.le_of_ble_eq_true rfl) rfl dX5_init_35 ?_
  refine n_aload_n dX5_init_38 0 rfl ?_
  refine n_iconst (v := 0) dX5_init_39 (by decide +kernel) ?_
  refine n_puti (k0 := 6) [.ref q1, .int 0, .int 0, .int 0, .int 0, .int 0, .int 0, .int 0] fpX5_31 rfl rfl (Nat.le_of_ble_eq_true rfl) rfl dX5_init_40 ?_
  refine n_aload_n dX5_init_43 0 rfl ?_
  refine n_iconst (v := (-1)) dX5_init_44 (by decide +kernel) ?_
  refine n_puti (k0 := 7) [.ref q1, .int 0, .int 0, .int 0, .int 0, .int 0, .int 0, .int (-1)] fpX5_34 rfl rfl (Nat.le_of_ble_eq_true rfl) rfl dX5_init_45 ?_
  refine n_vret (by decide) (by decide) rfl dX5_init_48 ?_
  refine ⟨fun k => [h0, q1].getD k 0, rfl, ?_⟩
  rw [zws_A]
  rfl
theorem dX1_init_0 : decode cX1_init 0 = .ok (.aload_n 0, 1) := by decide +kernel
theorem dX1_init_1 : decode cX1_init 1 = .ok (.invokespecial 3, 3) := by decide +kernel
theorem dX1_init_4 : decode cX1_init 4 = .ok (.aload_n 0, 1) := by decide +kernel
theorem dX1_init_5 : decode cX1_init 5 = .ok (.sipush 400, 3) := by decide +kernel
theorem dX1_init_8 : decode cX1_init 8 = .ok (.newarray .int, 2) := by decide +kernel
theorem dX1_init_10 : decode cX1_init 10 = .ok (.putfield 9, 3) := by decide +kernel
theorem dX1_init_13 : decode cX1_init 13 = .ok (.aload_n 0, 1) := by decide +kernel
theorem dX1_init_14 : decode cX1_init 14 = .ok (.iconst 0, 1) := by decide +kernel
theorem dX1_init_15 : decode cX1_init 15 = .ok (.putfield 15, 3) := by decide +kernel
theorem dX1_init_18 : decode cX1_init 18 = .ok (.aload_n 0, 1) := by decide +kernel
theorem dX1_init_19 : decode cX1_init 19 = .ok (.bipush 16, 2) := by decide +kernel
theorem dX1_init_21 : decode cX1_init 21 = .ok (.newarray .int, 2) := by decide +kernel
theorem dX1_init_23 : decode cX1_init 23 = .ok (.putfield 19, 3) := by decide +kernel
theorem dX1_init_26 : decode cX1_init 26 = .ok (.aload_n 0, 1) := by decide +kernel
theorem dX1_init_27 : decode cX1_init 27 = .ok (.bipush 16, 2) := by decide +kernel
theorem dX1_init_29 : decode cX1_init 29 = .ok (.newarray .int, 2) := by decide +kernel
theorem dX1_init_31 : decode cX1_init 31 = .ok (.putfield 22, 3) := by decide +kernel
theorem dX1_init_34 : decode cX1_init 34 = .ok (.aload_n 0, 1) := by decide +kernel
theorem dX1_init_35 : decode cX1_init 35 = .ok (.bipush 16, 2) := by decide +kernel
theorem dX1_init_37 : decode cX1_init 37 = .ok (.newarray .int, 2) := by decide +kernel
theorem dX1_init_39 : decode cX1_init 39 = .ok (.putfield 25, 3) := by decide +kernel
theorem dX1_init_42 : decode cX1_init 42 = .ok (.aload_n 0, 1) := by decide +kernel
theorem dX1_init_43 : decode cX1_init 43 = .ok (.bipush 16, 2) := by decide +kernel
theorem dX1_init_45 : decode cX1_init 45 = .ok (.newarray .int, 2) := by decide +kernel
theorem dX1_init_47 : decode cX1_init 47 = .ok (.putfield 28, 3) := by decide +kernel
theorem dX1_init_50 : decode cX1_init 50 = .ok (.aload_n 0, 1) := by decide +kernel
theorem dX1_init_51 : decode cX1_init 51 = .ok (.iconst 0, 1) := by decide +kernel
theorem dX1_init_52 : decode cX1_init 52 = .ok (.putfield 31, 3) := by decide +kernel
theorem dX1_init_55 : decode cX1_init 55 = .ok (.aload_n 0, 1) := by decide +kernel
theorem dX1_init_56 : decode cX1_init 56 = .ok (.iconst 0, 1) := by decide +kernel
theorem dX1_init_57 : decode cX1_init 57 = .ok (.putfield 34, 3) := by decide +kernel
theorem dX1_init_60 : decode cX1_init 60 = .ok (.aload_n 0, 1) := by decide +kernel
theorem dX1_init_61 : decode cX1_init 61 = .ok (.bipush 64, 2) := by decide +kernel
theorem dX1_init_63 : decode cX1_init 63 = .ok (.newarray .int, 2) := by decide +kernel
theorem dX1_init_65 : decode cX1_init 65 = .ok (.putfield 37, 3) := by decide +kernel
theorem dX1_init_68 : decode cX1_init 68 = .ok (.return_, 1) := by decide +kernel
def shX1 : List zSh := [(3, 1, [some 1, none, some 2, some 3, some 4, some 5, none, none, some 6]), (0, 400, []), (0, 16, []), (0, 16, []), (0, 16, []), (0, 16, []), (0, 64, [])]
theorem fqX1_9 : zFq RX1 9 1 0 (.array .int) := ⟨RX1, TX1, 9, tyX1, rfl, by decide, zat 231 (by decide +kernel) rfl, inzX1, tyX1_ok, nmX1, by decide +kernel, by decide +kernel, by decide +kernel⟩
theorem fqX1_19 : zFq RX1 19 1 2 (.array .int) := ⟨RX1, TX1, 9, tyX1, rfl, by decide, zat 233 (by decide +kernel) rfl, inzX1, tyX1_ok, nmX1, by decide +kernel, by decide +kernel, by decide +kernel⟩
theorem fqX1_22 : zFq RX1 22 1 3 (.array .int) := ⟨RX1, TX1, 9, tyX1, rfl, by decide, zat 234 (by decide +kernel) rfl, inzX1, tyX1_ok, nmX1, by decide +kernel, by decide +kernel, by decide +kernel⟩
theorem fqX1_25 : zFq RX1 25 1 4 (.array .int) := ⟨RX1, TX1, 9, tyX1, rfl, by decide, zat 235 (by decide +kernel) rfl, inzX1, tyX1_ok, nmX1, by decide +kernel, by decide +kernel, by decide +kernel⟩
theorem fqX1_28 : zFq RX1 28 1 5 (.array .int) := ⟨RX1, TX1, 9, tyX1, rfl, by decide, zat 236 (by decide +kernel) rfl, inzX1, tyX1_ok, nmX1, by decide +kernel, by decide +kernel, by decide +kernel⟩
theorem fqX1_37 : zFq RX1 37 1 8 (.array .int) := ⟨RX1, TX1, 9, tyX1, rfl, by decide, zat 241 (by decide +kernel) rfl, inzX1, tyX1_ok, nmX1, by decide +kernel, by decide +kernel, by decide +kernel⟩
set_option maxRecDepth 100000 in
theorem kX1_init (g : zG) (h0 sz : Nat) : nC g 1 6 528 mX1_init h0 sz 1 [.null, .int 0, .null, .null, .null, .null, .int 0, .int 0, .null] (nB g shX1 (fun _ _ => 0) h0) := by
  refine nW.enter (by decide +kernel) rfl (Nat.le_of_ble_eq_true rfl) ?_
  refine n_aload_n dX1_init_0 0 rfl ?_
  refine n_objInit (idx := 3) (zat 230 (by decide +kernel) rfl) (by decide) (by decide) dX1_init_1 ?_
  refine n_aload_n dX1_init_4 0 rfl ?_
  refine n_sipush (v := 400) dX1_init_5 (by decide +kernel) ?_
  refine n_newi (N := 400) (by decide) (by decide +kernel) (by decide) (by omega) (by omega) dX1_init_8 (fun q1 => ?_)
  refine n_putF (k0 := 0) [.ref q1, .int 0, .null, .null, .null, .null, .int 0, .int 0, .null] fqX1_9 rfl rfl (Nat.le_of_ble_eq_true rfl) rfl dX1_init_10 ?_
  refine n_aload_n dX1_init_13 0 rfl ?_
  refine n_iconst (v := 0) dX1_init_14 (by decide +kernel) ?_
  refine n_puti (k0 := 1) [.ref q1, .int 0, .null, .null, .null, .null, .int 0, .int 0, .null] fpX1_15 rfl rfl (Nat.le_of_ble_eq_true rfl) rfl dX1_init_15 ?_
  refine n_aload_n dX1_init_18 0 rfl ?_
  refine n_bipush (v := 16) dX1_init_19 (by decide +kernel) ?_
  refine n_newi (N := 16) (by decide) (by decide +kernel) (by decide) (by omega) (by omega) dX1_init_21 (fun q2 => ?_)
  refine n_putF (k0 := 2) [.ref q1, .int 0, .ref q2, .null, .null, .null, .int 0, .int 0, .null] fqX1_19 rfl rfl (Nat.le_of_ble_eq_true rfl) rfl dX1_init_23 ?_
  refine n_aload_n dX1_init_26 0 rfl ?_
  refine n_bipush (v := 16) dX1_init_27 (by decide +kernel) ?_
  refine n_newi (N := 16) (by decide) (by decide +kernel) (by decide) (by omega) (by omega) dX1_init_29 (fun q3 => ?_)
  refine n_putF (k0 := 3) [.ref q1, .int 0, .ref q2, .ref q3, .null, .null, .int 0, .int 0, .null] fqX1_22 rfl rfl (Nat.le_of_ble_eq_true rfl) rfl dX1_init_31 ?_
  refine n_aload_n dX1_init_34 0 rfl ?_
  refine n_bipush (v := 16) dX1_init_35 (by decide +kernel) ?_
  refine n_newi (N := 16) (by decide) (by decide +kernel) (by decide) (by omega) (by omega) dX1_init_37 (fun q4 => ?_)
  refine n_putF (k0 := 4) [.ref q1, .int 0, .ref q2, .ref q3, .ref q4, .null, .int 0, .int 0, .null] fqX1_25 rfl rfl (Nat.le_of_ble_eq_true rfl) rfl dX1_init_39 ?_
  refine n_aload_n dX1_init_42 0 rfl ?_
  refine n_bipush (v := 16) dX1_init_43 (by decide +kernel) ?_
  refine n_newi (N := 16) (by decide) (by decide +kernel) (by decide) (by omega) (by omega) dX1_init_45 (fun q5 => ?_)
  refine n_putF (k0 := 5) [.ref q1, .int 0, .ref q2, .ref q3, .ref q4, .ref q5, .int 0, .int 0, .null] fqX1_28 rfl rfl (Nat.le_of_ble_eq_true rfl) rfl dX1_init_47 ?_
  refine n_aload_n dX1_init_50 0 rfl ?_
  refine n_iconst (v := 0) dX1_init_51 (by decide +kernel) ?_
  refine n_puti (k0 := 6) [.ref q1, .int 0, .ref q2, .ref q3, .ref q4, .ref q5, .int 0, .int 0, .null] fpX1_31 rfl rfl (Nat.le_of_ble_eq_true rfl) rfl dX1_init_52 ?_
  refine n_aload_n dX1_init_55 0 rfl ?_
  refine n_iconst (v := 0) dX1_init_56 (by decide +kernel) ?_
  refine n_puti (k0 := 7) [.ref q1, .int 0, .ref q2, .ref q3, .ref q4, .ref q5, .int 0, .int 0, .null] fpX1_34 rfl rfl (Nat.le_of_ble_eq_true rfl) rfl dX1_init_57 ?_
  refine n_aload_n dX1_init_60 0 rfl ?_
  refine n_bipush (v := 64) dX1_init_61 (by decide +kernel) ?_
  refine n_newi (N := 64) (by decide) (by decide +kernel) (by decide) (by omega) (by omega) dX1_init_63 (fun q6 => ?_)
  refine n_putF (k0 := 8) [.ref q1, .int 0, .ref q2, .ref q3, .ref q4, .ref q5, .int 0, .int 0, .ref q6] fqX1_37 rfl rfl (Nat.le_of_ble_eq_true rfl) rfl dX1_init_65 ?_
  refine n_vret (by decide) (by decide) rfl dX1_init_68 ?_
  refine ⟨fun k => [h0, q1, q2, q3, q4, q5, q6].getD k 0, rfl, ?_⟩
  rw [zws_A]
  rfl
theorem dX3_init_0 : decode cX3_init 0 = .ok (.aload_n 0, 1) := by decide +kernel
theorem dX3_init_1 : decode cX3_init 1 = .ok (.invokespecial 3, 3) := by decide +kernel
theorem dX3_init_4 : decode cX3_init 4 = .ok (.aload_n 0, 1) := by decide +kernel
theorem dX3_init_5 : decode cX3_init 5 = .ok (.bipush 8, 2) := by decide +kernel
theorem dX3_init_7 : decode cX3_init 7 = .ok (.newarray .int, 2) := by decide +kernel
theorem dX3_init_9 : decode cX3_init 9 = .ok (.putfield 11, 3) := by decide +kernel
theorem dX3_init_12 : decode cX3_init 12 = .ok (.aload_n 0, 1) := by decide +kernel
theorem dX3_init_13 : decode cX3_init 13 = .ok (.iconst 0, 1) := by decide +kernel
theorem dX3_init_14 : decode cX3_init 14 = .ok (.putfield 15, 3) := by decide +kernel
theorem dX3_init_17 : decode cX3_init 17 = .ok (.aload_n 0, 1) := by decide +kernel
theorem dX3_init_18 : decode cX3_init 18 = .ok (.bipush 10, 2) := by decide +kernel
theorem dX3_init_20 : decode cX3_init 20 = .ok (.newarray .int, 2) := by decide +kernel
theorem dX3_init_22 : decode cX3_init 22 = .ok (.putfield 19, 3) := by decide +kernel
theorem dX3_init_25 : decode cX3_init 25 = .ok (.aload_n 0, 1) := by decide +kernel
theorem dX3_init_26 : decode cX3_init 26 = .ok (.bipush 10, 2) := by decide +kernel
theorem dX3_init_28 : decode cX3_init 28 = .ok (.newarray .int, 2) := by decide +kernel
theorem dX3_init_30 : decode cX3_init 30 = .ok (.putfield 22, 3) := by decide +kernel
theorem dX3_init_33 : decode cX3_init 33 = .ok (.aload_n 0, 1) := by decide +kernel
theorem dX3_init_34 : decode cX3_init 34 = .ok (.iconst 0, 1) := by decide +kernel
theorem dX3_init_35 : decode cX3_init 35 = .ok (.putfield 25, 3) := by decide +kernel
theorem dX3_init_38 : decode cX3_init 38 = .ok (.return_, 1) := by decide +kernel
def shX3 : List zSh := [(3, 3, [some 1, none, some 2, some 3, none]), (0, 8, []), (0, 10, []), (0, 10, [])]
theorem fqX3_11 : zFq RX3 11 3 0 (.array .int) := ⟨RX3, TX3, 5, tyX3, rfl, by decide, zat 267 (by decide +kernel) rfl, inzX3, tyX3_ok, nmX3, by decide +kernel, by decide +kernel, by decide +kernel⟩
theorem fqX3_19 : zFq RX3 19 3 2 (.array .int) := ⟨RX3, TX3, 5, tyX3, rfl, by decide, zat 273 (by decide +kernel) rfl, inzX3, tyX3_ok, nmX3, by decide +kernel, by decide +kernel, by decide +kernel⟩
theorem fqX3_22 : zFq RX3 22 3 3 (.array .int) := ⟨RX3, TX3, 5, tyX3, rfl, by decide, zat 276 (by decide +kernel) rfl, inzX3, tyX3_ok, nmX3, by decide +kernel, by decide +kernel, by decide +kernel⟩
set_option maxRecDepth 100000 in
theorem kX3_init (g : zG) (h0 sz : Nat) : nC g 1 3 28 mX3_init h0 sz 3 [.null, .int 0, .null, .null, .int 0] (nB g shX3 (fun _ _ => 0) h0) := by
  refine nW.enter (by decide +kernel) rfl (Nat.le_of_ble_eq_true rfl) ?_
  refine n_aload_n dX3_init_0 0 rfl ?_
  refine n_objInit (idx := 3) (zat 266 (by decide +kernel) rfl) (by decide) (by decide) dX3_init_1 ?_
  refine n_aload_n dX3_init_4 0 rfl ?_
  refine n_bipush (v := 8) dX3_init_5 (by decide +kernel) ?_
  refine n_newi (N := 8) (by decide) (by decide +kernel) (by decide) (by omega) (by omega) dX3_init_7 (fun q1 => ?_)
  refine n_putF (k0 := 0) [.ref q1, .int 0, .null, .null, .int 0] fqX3_11 rfl rfl (Nat.le_of_ble_eq_true rfl) rfl dX3_init_9 ?_
  refine n_aload_n dX3_init_12 0 rfl ?_
  refine n_iconst (v := 0) dX3_init_13 (by decide +kernel) ?_
  refine n_puti (k0 := 1) [.ref q1, .int 0, .null, .null, .int 0] fpX3_15 rfl rfl (Nat.le_of_ble_eq_true rfl) rfl dX3_init_14 ?_
  refine n_aload_n dX3_init_17 0 rfl ?_
  refine n_bipush (v := 10) dX3_init_18 (by decide +kernel) ?_
  refine n_newi (N := 10) (by decide) (by decide +kernel) (by decide) (by omega) (by omega) dX3_init_20 (fun q2 => ?_)
  refine n_putF (k0 := 2) [.ref q1, .int 0, .ref q2, .null, .int 0] fqX3_19 rfl rfl (Nat.le_of_ble_eq_true rfl) rfl dX3_init_22 ?_
  refine n_aload_n dX3_init_25 0 rfl ?_
  refine n_bipush (v := 10) dX3_init_26 (by decide +kernel) ?_
  refine n_newi (N := 10) (by decide) (by decide +kernel) (by decide) (by omega) (by omega) dX3_init_28 (fun q3 => ?_)
  refine n_putF (k0 := 3) [.ref q1, .int 0, .ref q2, .ref q3, .int 0] fqX3_22 rfl rfl (Nat.le_of_ble_eq_true rfl) rfl dX3_init_30 ?_
  refine n_aload_n dX3_init_33 0 rfl ?_
  refine n_iconst (v := 0) dX3_init_34 (by decide +kernel) ?_
  refine n_puti (k0 := 4) [.ref q1, .int 0, .ref q2, .ref q3, .int 0] fpX3_25 rfl rfl (Nat.le_of_ble_eq_true rfl) rfl dX3_init_35 ?_
  refine n_vret (by decide) (by decide) rfl dX3_init_38 ?_
  refine ⟨fun k => [h0, q1, q2, q3].getD k 0, rfl, ?_⟩
  rw [zws_A]
  rfl
theorem dX4_init_0 : decode cX4_init 0 = .ok (.aload_n 0, 1) := by decide +kernel
theorem dX4_init_1 : decode cX4_init 1 = .ok (.invokespecial 3, 3) := by decide +kernel
theorem dX4_init_4 : decode cX4_init 4 = .ok (.aload_n 0, 1) := by decide +kernel
theorem dX4_init_5 : decode cX4_init 5 = .ok (.bipush 9, 2) := by decide +kernel
theorem dX4_init_7 : decode cX4_init 7 = .ok (.newarray .int, 2) := by decide +kernel
theorem dX4_init_9 : decode cX4_init 9 = .ok (.putfield 9, 3) := by decide +kernel
theorem dX4_init_12 : decode cX4_init 12 = .ok (.aload_n 0, 1) := by decide +kernel
theorem dX4_init_13 : decode cX4_init 13 = .ok (.iconst 0, 1) := by decide +kernel
theorem dX4_init_14 : decode cX4_init 14 = .ok (.putfield 15, 3) := by decide +kernel
theorem dX4_init_17 : decode cX4_init 17 = .ok (.aload_n 0, 1) := by decide +kernel
theorem dX4_init_18 : decode cX4_init 18 = .ok (.sipush 4608, 3) := by decide +kernel
theorem dX4_init_21 : decode cX4_init 21 = .ok (.newarray .int, 2) := by decide +kernel
theorem dX4_init_23 : decode cX4_init 23 = .ok (.putfield 19, 3) := by decide +kernel
theorem dX4_init_26 : decode cX4_init 26 = .ok (.aload_n 0, 1) := by decide +kernel
theorem dX4_init_27 : decode cX4_init 27 = .ok (.iconst 0, 1) := by decide +kernel
theorem dX4_init_28 : decode cX4_init 28 = .ok (.putfield 22, 3) := by decide +kernel
theorem dX4_init_31 : decode cX4_init 31 = .ok (.aload_n 0, 1) := by decide +kernel
theorem dX4_init_32 : decode cX4_init 32 = .ok (.bipush 6, 2) := by decide +kernel
theorem dX4_init_34 : decode cX4_init 34 = .ok (.newarray .int, 2) := by decide +kernel
theorem dX4_init_36 : decode cX4_init 36 = .ok (.putfield 25, 3) := by decide +kernel
theorem dX4_init_39 : decode cX4_init 39 = .ok (.aload_n 0, 1) := by decide +kernel
theorem dX4_init_40 : decode cX4_init 40 = .ok (.sipush 512, 3) := by decide +kernel
theorem dX4_init_43 : decode cX4_init 43 = .ok (.newarray .int, 2) := by decide +kernel
theorem dX4_init_45 : decode cX4_init 45 = .ok (.putfield 28, 3) := by decide +kernel
theorem dX4_init_48 : decode cX4_init 48 = .ok (.aload_n 0, 1) := by decide +kernel
theorem dX4_init_49 : decode cX4_init 49 = .ok (.sipush 512, 3) := by decide +kernel
theorem dX4_init_52 : decode cX4_init 52 = .ok (.newarray .int, 2) := by decide +kernel
theorem dX4_init_54 : decode cX4_init 54 = .ok (.putfield 31, 3) := by decide +kernel
theorem dX4_init_57 : decode cX4_init 57 = .ok (.aload_n 0, 1) := by decide +kernel
theorem dX4_init_58 : decode cX4_init 58 = .ok (.sipush 512, 3) := by decide +kernel
theorem dX4_init_61 : decode cX4_init 61 = .ok (.newarray .int, 2) := by decide +kernel
theorem dX4_init_63 : decode cX4_init 63 = .ok (.putfield 34, 3) := by decide +kernel
theorem dX4_init_66 : decode cX4_init 66 = .ok (.return_, 1) := by decide +kernel
def shX4 : List zSh := [(3, 4, [some 1, none, some 2, none, some 3, some 4, some 5, some 6]), (0, 9, []), (0, 4608, []), (0, 6, []), (0, 512, []), (0, 512, []), (0, 512, [])]
theorem fqX4_9 : zFq RX4 9 4 0 (.array .int) := ⟨RX4, TX4, 8, tyX4, rfl, by decide, zat 395 (by decide +kernel) rfl, inzX4, tyX4_ok, nmX4, by decide +kernel, by decide +kernel, by decide +kernel⟩
theorem fqX4_19 : zFq RX4 19 4 2 (.array .int) := ⟨RX4, TX4, 8, tyX4, rfl, by decide, zat 398 (by decide +kernel) rfl, inzX4, tyX4_ok, nmX4, by decide +kernel, by decide +kernel, by decide +kernel⟩
theorem fqX4_25 : zFq RX4 25 4 4 (.array .int) := ⟨RX4, TX4, 8, tyX4, rfl, by decide, zat 400 (by decide +kernel) rfl, inzX4, tyX4_ok, nmX4, by decide +kernel, by decide +kernel, by decide +kernel⟩
theorem fqX4_28 : zFq RX4 28 4 5 (.array .int) := ⟨RX4, TX4, 8, tyX4, rfl, by decide, zat 401 (by decide +kernel) rfl, inzX4, tyX4_ok, nmX4, by decide +kernel, by decide +kernel, by decide +kernel⟩
theorem fqX4_31 : zFq RX4 31 4 6 (.array .int) := ⟨RX4, TX4, 8, tyX4, rfl, by decide, zat 402 (by decide +kernel) rfl, inzX4, tyX4_ok, nmX4, by decide +kernel, by decide +kernel, by decide +kernel⟩
theorem fqX4_34 : zFq RX4 34 4 7 (.array .int) := ⟨RX4, TX4, 8, tyX4, rfl, by decide, zat 403 (by decide +kernel) rfl, inzX4, tyX4_ok, nmX4, by decide +kernel, by decide +kernel, by decide +kernel⟩
set_option maxRecDepth 100000 in
theorem kX4_init (g : zG) (h0 sz : Nat) : nC g 1 6 6159 mX4_init h0 sz 4 [.null, .int 0, .null, .int 0, .null, .null, .null, .null] (nB g shX4 (fun _ _ => 0) h0) := by
  refine nW.enter (by decide +kernel) rfl (Nat.le_of_ble_eq_true rfl) ?_
  refine n_aload_n dX4_init_0 0 rfl ?_
  refine n_objInit (idx := 3) (zat 394 (by decide +kernel) rfl) (by decide) (by decide) dX4_init_1 ?_
  refine n_aload_n dX4_init_4 0 rfl ?_
  refine n_bipush (v := 9) dX4_init_5 (by decide +kernel) ?_
  refine n_newi (N := 9) (by decide) (by decide +kernel) (by decide) (by omega) (by omega) dX4_init_7 (fun q1 => ?_)
  refine n_putF (k0 := 0) [.ref q1, .int 0, .null, .int 0, .null, .null, .null, .null] fqX4_9 rfl rfl (Nat.le_of_ble_eq_true rfl) rfl dX4_init_9 ?_
  refine n_aload_n dX4_init_12 0 rfl ?_
  refine n_iconst (v := 0) dX4_init_13 (by decide +kernel) ?_
  refine n_puti (k0 := 1) [.ref q1, .int 0, .null, .int 0, .null, .null, .null, .null] fpX4_15 rfl rfl (Nat.le_of_ble_eq_true rfl) rfl dX4_init_14 ?_
  refine n_aload_n dX4_init_17 0 rfl ?_
  refine n_sipush (v := 4608) dX4_init_18 (by decide +kernel) ?_
  refine n_newi (N := 4608) (by decide) (by decide +kernel) (by decide) (by omega) (by omega) dX4_init_21 (fun q2 => ?_)
  refine n_putF (k0 := 2) [.ref q1, .int 0, .ref q2, .int 0, .null, .null, .null, .null] fqX4_19 rfl rfl (Nat.le_of_ble_eq_true rfl) rfl dX4_init_23 ?_
  refine n_aload_n dX4_init_26 0 rfl ?_
  refine n_iconst (v := 0) dX4_init_27 (by decide +kernel) ?_
  refine n_puti (k0 := 3) [.ref q1, .int 0, .ref q2, .int 0, .null, .null, .null, .null] fpX4_22 rfl rfl (Nat.le_of_ble_eq_true rfl) rfl dX4_init_28 ?_
  refine n_aload_n dX4_init_31 0 rfl ?_
  refine n_bipush (v := 6) dX4_init_32 (by decide +kernel) ?_
  refine n_newi (N := 6) (by decide) (by decide +kernel) (by decide) (by omega) (by omega) dX4_init_34 (fun q3 => ?_)
  refine n_putF (k0 := 4) [.ref q1, .int 0, .ref q2, .int 0, .ref q3, .null, .null, .null] fqX4_25 rfl rfl (Nat.le_of_ble_eq_true rfl) rfl dX4_init_36 ?_
  refine n_aload_n dX4_init_39 0 rfl ?_
  refine n_sipush (v := 512) dX4_init_40 (by decide +kernel) ?_
  refine n_newi (N := 512) (by decide) (by decide +kernel) (by decide) (by omega) (by omega) dX4_init_43 (fun q4 => ?_)
  refine n_putF (k0 := 5) [.ref q1, .int 0, .ref q2, .int 0, .ref q3, .ref q4, .null, .null] fqX4_28 rfl rfl (Nat.le_of_ble_eq_true rfl) rfl dX4_init_45 ?_
  refine n_aload_n dX4_init_48 0 rfl ?_
  refine n_sipush (v := 512) dX4_init_49 (by decide +kernel) ?_
  refine n_newi (N := 512) (by decide) (by decide +kernel) (by decide) (by omega) (by omega) dX4_init_52 (fun q5 => ?_)
  refine n_putF (k0 := 6) [.ref q1, .int 0, .ref q2, .int 0, .ref q3, .ref q4, .ref q5, .null] fqX4_31 rfl rfl (Nat.le_of_ble_eq_true rfl) rfl dX4_init_54 ?_
  refine n_aload_n dX4_init_57 0 rfl ?_
  refine n_sipush (v := 512) dX4_init_58 (by decide +kernel) ?_
  refine n_newi (N := 512) (by decide) (by decide +kernel) (by decide) (by omega) (by omega) dX4_init_61 (fun q6 => ?_)
  refine n_putF (k0 := 7) [.ref q1, .int 0, .ref q2, .int 0, .ref q3, .ref q4, .ref q5, .ref q6] fqX4_34 rfl rfl (Nat.le_of_ble_eq_true rfl) rfl dX4_init_63 ?_
  refine n_vret (by decide) (by decide) rfl dX4_init_66 ?_
  refine ⟨fun k => [h0, q1, q2, q3, q4, q5, q6].getD k 0, rfl, ?_⟩
  rw [zws_A]
  rfl
theorem dX6_init_0 : decode cX6_init 0 = .ok (.aload_n 0, 1) := by decide +kernel
theorem dX6_init_1 : decode cX6_init 1 = .ok (.invokespecial 3, 3) := by decide +kernel
theorem dX6_init_4 : decode cX6_init 4 = .ok (.aload_n 0, 1) := by decide +kernel
theorem dX6_init_5 : decode cX6_init 5 = .ok (.sipush 360, 3) := by decide +kernel
theorem dX6_init_8 : decode cX6_init 8 = .ok (.newarray .int, 2) := by decide +kernel
theorem dX6_init_10 : decode cX6_init 10 = .ok (.putfield 9, 3) := by decide +kernel
theorem dX6_init_13 : decode cX6_init 13 = .ok (.aload_n 0, 1) := by decide +kernel
theorem dX6_init_14 : decode cX6_init 14 = .ok (.bipush 6, 2) := by decide +kernel
theorem dX6_init_16 : decode cX6_init 16 = .ok (.newarray .int, 2) := by decide +kernel
theorem dX6_init_18 : decode cX6_init 18 = .ok (.putfield 15, 3) := by decide +kernel
theorem dX6_init_21 : decode cX6_init 21 = .ok (.aload_n 0, 1) := by decide +kernel
theorem dX6_init_22 : decode cX6_init 22 = .ok (.bipush 6, 2) := by decide +kernel
theorem dX6_init_24 : decode cX6_init 24 = .ok (.newarray .int, 2) := by decide +kernel
theorem dX6_init_26 : decode cX6_init 26 = .ok (.putfield 18, 3) := by decide +kernel
theorem dX6_init_29 : decode cX6_init 29 = .ok (.aload_n 0, 1) := by decide +kernel
theorem dX6_init_30 : decode cX6_init 30 = .ok (.bipush 6, 2) := by decide +kernel
theorem dX6_init_32 : decode cX6_init 32 = .ok (.newarray .int, 2) := by decide +kernel
theorem dX6_init_34 : decode cX6_init 34 = .ok (.putfield 21, 3) := by decide +kernel
theorem dX6_init_37 : decode cX6_init 37 = .ok (.aload_n 0, 1) := by decide +kernel
theorem dX6_init_38 : decode cX6_init 38 = .ok (.iconst 0, 1) := by decide +kernel
theorem dX6_init_39 : decode cX6_init 39 = .ok (.putfield 24, 3) := by decide +kernel
theorem dX6_init_42 : decode cX6_init 42 = .ok (.return_, 1) := by decide +kernel
def shX6 : List zSh := [(3, 6, [some 1, some 2, some 3, some 4, none]), (0, 360, []), (0, 6, []), (0, 6, []), (0, 6, [])]
theorem fqX6_9 : zFq RX6 9 6 0 (.array .int) := ⟨RX6, TX6, 5, tyX6, rfl, by decide, zat 206 (by decide +kernel) rfl, inzX6, tyX6_ok, nmX6, by decide +kernel, by decide +kernel, by decide +kernel⟩
theorem fqX6_15 : zFq RX6 15 6 1 (.array .int) := ⟨RX6, TX6, 5, tyX6, rfl, by decide, zat 207 (by decide +kernel) rfl, inzX6, tyX6_ok, nmX6, by decide +kernel, by decide +kernel, by decide +kernel⟩
theorem fqX6_18 : zFq RX6 18 6 2 (.array .int) := ⟨RX6, TX6, 5, tyX6, rfl, by decide, zat 210 (by decide +kernel) rfl, inzX6, tyX6_ok, nmX6, by decide +kernel, by decide +kernel, by decide +kernel⟩
theorem fqX6_21 : zFq RX6 21 6 3 (.array .int) := ⟨RX6, TX6, 5, tyX6, rfl, by decide, zat 211 (by decide +kernel) rfl, inzX6, tyX6_ok, nmX6, by decide +kernel, by decide +kernel, by decide +kernel⟩
set_option maxRecDepth 100000 in
theorem kX6_init (g : zG) (h0 sz : Nat) : nC g 1 4 378 mX6_init h0 sz 6 [.null, .null, .null, .null, .int 0] (nB g shX6 (fun _ _ => 0) h0) := by
  refine nW.enter (by decide +kernel) rfl (Nat.le_of_ble_eq_true rfl) ?_
  refine n_aload_n dX6_init_0 0 rfl ?_
  refine n_objInit (idx := 3) (zat 205 (by decide +kernel) rfl) (by decide) (by decide) dX6_init_1 ?_
  refine n_aload_n dX6_init_4 0 rfl ?_
  refine n_sipush (v := 360) dX6_init_5 (by decide +kernel) ?_
  refine n_newi (N := 360) (by decide) (by decide +kernel) (by decide) (by omega) (by omega) dX6_init_8 (fun q1 => ?_)
  refine n_putF (k0 := 0) [.ref q1, .null, .null, .null, .int 0] fqX6_9 rfl rfl (Nat.le_of_ble_eq_true rfl) rfl dX6_init_10 ?_
  refine n_aload_n dX6_init_13 0 rfl ?_
  refine n_bipush (v := 6) dX6_init_14 (by decide +kernel) ?_
  refine n_newi (N := 6) (by decide) (by decide +kernel) (by decide) (by omega) (by omega) dX6_init_16 (fun q2 => ?_)
  refine n_putF (k0 := 1) [.ref q1, .ref q2, .null, .null, .int 0] fqX6_15 rfl rfl (Nat.le_of_ble_eq_true rfl) rfl dX6_init_18 ?_
  refine n_aload_n dX6_init_21 0 rfl ?_
  refine n_bipush (v := 6) dX6_init_22 (by decide +kernel) ?_
  refine n_newi (N := 6) (by decide) (by decide +kernel) (by decide) (by omega) (by omega) dX6_init_24 (fun q3 => ?_)
  refine n_putF (k0 := 2) [.ref q1, .ref q2, .ref q3, .null, .int 0] fqX6_18 rfl rfl (Nat.le_of_ble_eq_true rfl) rfl dX6_init_26 ?_
  refine n_aload_n dX6_init_29 0 rfl ?_
  refine n_bipush (v := 6) dX6_init_30 (by decide +kernel) ?_
  refine n_newi (N := 6) (by decide) (by decide +kernel) (by decide) (by omega) (by omega) dX6_init_32 (fun q4 => ?_)
  refine n_putF (k0 := 3) [.ref q1, .ref q2, .ref q3, .ref q4, .int 0] fqX6_21 rfl rfl (Nat.le_of_ble_eq_true rfl) rfl dX6_init_34 ?_
  refine n_aload_n dX6_init_37 0 rfl ?_
  refine n_iconst (v := 0) dX6_init_38 (by decide +kernel) ?_
  refine n_puti (k0 := 4) [.ref q1, .ref q2, .ref q3, .ref q4, .int 0] fpX6_24 rfl rfl (Nat.le_of_ble_eq_true rfl) rfl dX6_init_39 ?_
  refine n_vret (by decide) (by decide) rfl dX6_init_42 ?_
  refine ⟨fun k => [h0, q1, q2, q3, q4].getD k 0, rfl, ?_⟩
  rw [zws_A]
  rfl
theorem dX0_init_0 : decode cX0_init 0 = .ok (.aload_n 0, 1) := by decide +kernel
theorem dX0_init_1 : decode cX0_init 1 = .ok (.invokespecial 3, 3) := by decide +kernel
theorem dX0_init_4 : decode cX0_init 4 = .ok (.aload_n 0, 1) := by decide +kernel
theorem dX0_init_5 : decode cX0_init 5 = .ok (.sipush 256, 3) := by decide +kernel
theorem dX0_init_8 : decode cX0_init 8 = .ok (.newarray .int, 2) := by decide +kernel
theorem dX0_init_10 : decode cX0_init 10 = .ok (.putfield 9, 3) := by decide +kernel
theorem dX0_init_13 : decode cX0_init 13 = .ok (.aload_n 0, 1) := by decide +kernel
theorem dX0_init_14 : decode cX0_init 14 = .ok (.bipush 64, 2) := by decide +kernel
theorem dX0_init_16 : decode cX0_init 16 = .ok (.newarray .int, 2) := by decide +kernel
theorem dX0_init_18 : decode cX0_init 18 = .ok (.putfield 15, 3) := by decide +kernel
theorem dX0_init_21 : decode cX0_init 21 = .ok (.aload_n 0, 1) := by decide +kernel
theorem dX0_init_22 : decode cX0_init 22 = .ok (.sipush 128, 3) := by decide +kernel
theorem dX0_init_25 : decode cX0_init 25 = .ok (.newarray .int, 2) := by decide +kernel
theorem dX0_init_27 : decode cX0_init 27 = .ok (.putfield 18, 3) := by decide +kernel
theorem dX0_init_30 : decode cX0_init 30 = .ok (.aload_n 0, 1) := by decide +kernel
theorem dX0_init_31 : decode cX0_init 31 = .ok (.sipush 128, 3) := by decide +kernel
theorem dX0_init_34 : decode cX0_init 34 = .ok (.newarray .int, 2) := by decide +kernel
theorem dX0_init_36 : decode cX0_init 36 = .ok (.putfield 21, 3) := by decide +kernel
theorem dX0_init_39 : decode cX0_init 39 = .ok (.aload_n 0, 1) := by decide +kernel
theorem dX0_init_40 : decode cX0_init 40 = .ok (.iconst 0, 1) := by decide +kernel
theorem dX0_init_41 : decode cX0_init 41 = .ok (.putfield 24, 3) := by decide +kernel
theorem dX0_init_44 : decode cX0_init 44 = .ok (.return_, 1) := by decide +kernel
def shX0 : List zSh := [(3, 0, [some 1, some 2, some 3, some 4, none]), (0, 256, []), (0, 64, []), (0, 128, []), (0, 128, [])]
theorem fqX0_9 : zFq RX0 9 0 0 (.array .int) := ⟨RX0, TX0, 5, tyX0, rfl, by decide, zat 427 (by decide +kernel) rfl, inzX0, tyX0_ok, nmX0, by decide +kernel, by decide +kernel, by decide +kernel⟩
theorem fqX0_15 : zFq RX0 15 0 1 (.array .int) := ⟨RX0, TX0, 5, tyX0, rfl, by decide, zat 428 (by decide +kernel) rfl, inzX0, tyX0_ok, nmX0, by decide +kernel, by decide +kernel, by decide +kernel⟩
theorem fqX0_18 : zFq RX0 18 0 2 (.array .int) := ⟨RX0, TX0, 5, tyX0, rfl, by decide, zat 429 (by decide +kernel) rfl, inzX0, tyX0_ok, nmX0, by decide +kernel, by decide +kernel, by decide +kernel⟩
theorem fqX0_21 : zFq RX0 21 0 3 (.array .int) := ⟨RX0, TX0, 5, tyX0, rfl, by decide, zat 430 (by decide +kernel) rfl, inzX0, tyX0_ok, nmX0, by decide +kernel, by decide +kernel, by decide +kernel⟩
set_option maxRecDepth 100000 in
theorem kX0_init (g : zG) (h0 sz : Nat) : nC g 1 4 576 mX0_init h0 sz 0 [.null, .null, .null, .null, .int 0] (nB g shX0 (fun _ _ => 0) h0) := by
  refine nW.enter (by decide +kernel) rfl (Nat.le_of_ble_eq_true rfl) ?_
  refine n_aload_n dX0_init_0 0 rfl ?_
  refine n_objInit (idx := 3) (zat 426 (by decide +kernel) rfl) (by decide) (by decide) dX0_init_1 ?_
  refine n_aload_n dX0_init_4 0 rfl ?_
  refine n_sipush (v := 256) dX0_init_5 (by decide +kernel) ?_
  refine n_newi (N := 256) (by decide) (by decide +kernel) (by decide) (by omega) (by omega) dX0_init_8 (fun q1 => ?_)
  refine n_putF (k0 := 0) [.ref q1, .null, .null, .null, .int 0] fqX0_9 rfl rfl (Nat.le_of_ble_eq_true rfl) rfl dX0_init_10 ?_
  refine n_aload_n dX0_init_13 0 rfl ?_
  refine n_bipush (v := 64) dX0_init_14 (by decide +kernel) ?_
  refine n_newi (N := 64) (by decide) (by decide +kernel) (by decide) (by omega) (by omega) dX0_init_16 (fun q2 => ?_)
  refine n_putF (k0 := 1) [.ref q1, .ref q2, .null, .null, .int 0] fqX0_15 rfl rfl (Nat.le_of_ble_eq_true rfl) rfl dX0_init_18 ?_
  refine n_aload_n dX0_init_21 0 rfl ?_
  refine n_sipush (v := 128) dX0_init_22 (by decide +kernel) ?_
  refine n_newi (N := 128) (by decide) (by decide +kernel) (by decide) (by omega) (by omega) dX0_init_25 (fun q3 => ?_)
  refine n_putF (k0 := 2) [.ref q1, .ref q2, .ref q3, .null, .int 0] fqX0_18 rfl rfl (Nat.le_of_ble_eq_true rfl) rfl dX0_init_27 ?_
  refine n_aload_n dX0_init_30 0 rfl ?_
  refine n_sipush (v := 128) dX0_init_31 (by decide +kernel) ?_
  refine n_newi (N := 128) (by decide) (by decide +kernel) (by decide) (by omega) (by omega) dX0_init_34 (fun q4 => ?_)
  refine n_putF (k0 := 3) [.ref q1, .ref q2, .ref q3, .ref q4, .int 0] fqX0_21 rfl rfl (Nat.le_of_ble_eq_true rfl) rfl dX0_init_36 ?_
  refine n_aload_n dX0_init_39 0 rfl ?_
  refine n_iconst (v := 0) dX0_init_40 (by decide +kernel) ?_
  refine n_puti (k0 := 4) [.ref q1, .ref q2, .ref q3, .ref q4, .int 0] fpX0_24 rfl rfl (Nat.le_of_ble_eq_true rfl) rfl dX0_init_41 ?_
  refine n_vret (by decide) (by decide) rfl dX0_init_44 ?_
  refine ⟨fun k => [h0, q1, q2, q3, q4].getD k 0, rfl, ?_⟩
  rw [zws_A]
  rfl
