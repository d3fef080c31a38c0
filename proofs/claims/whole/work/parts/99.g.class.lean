/-! THE CONSTRUCTOR OF THE CLASS: by program -/
theorem nwX8_7 : zNw RX8 7 7 13 [.int 0, .int 0, .int 0, .int 0, .int 0, .null, .null, .null, .null, .null, .null, .null, .null] := ⟨RX7, TX7, tyX7, rfl, zat 147 (by decide +kernel) rfl, zat 148 (by decide +kernel) rfl, zat 121 (by decide +kernel) rfl, inzX7, tyX7_ok, by decide +kernel⟩
theorem okX7_init : zOkI mX7_init := ⟨⟨zat 151 (by decide +kernel) rfl, zat 121 (by decide +kernel) rfl, ⟨by decide +kernel, by decide +kernel⟩, by decide +kernel, by decide +kernel⟩, rfl, zat 150 (by decide +kernel) rfl, rfl⟩
theorem fqX8_10 : zFq RX8 10 8 0 (.object "LeftSkate$World") := ⟨RX8, TX8, 13, tyX8, rfl, by decide, zat 467 (by decide +kernel) rfl, inzX8, tyX8_ok, nmX8, by decide +kernel, by decide +kernel, by decide +kernel⟩
theorem fqX8_16 : zFq RX8 16 8 1 (.object "LeftSkate$World") := ⟨RX8, TX8, 13, tyX8, rfl, by decide, zat 468 (by decide +kernel) rfl, inzX8, tyX8_ok, nmX8, by decide +kernel, by decide +kernel, by decide +kernel⟩
theorem nwX8_23 : zNw RX8 23 2 8 [.null, .null, .null, .null, .null, .int 0, .int 0, .int 0] := ⟨RX2, TX2, tyX2, rfl, zat 345 (by decide +kernel) rfl, zat 154 (by decide +kernel) rfl, zat 122 (by decide +kernel) rfl, inzX2, tyX2_ok, by decide +kernel⟩
theorem fqX8_26 : zFq RX8 26 8 3 (.object "LeftSkate$Moment") := ⟨RX8, TX8, 13, tyX8, rfl, by decide, zat 470 (by decide +kernel) rfl, inzX8, tyX8_ok, nmX8, by decide +kernel, by decide +kernel, by decide +kernel⟩
theorem fqX8_30 : zFq RX8 30 8 4 (.array (.object "LeftSkate$Moment")) := ⟨RX8, TX8, 13, tyX8, rfl, by decide, zat 471 (by decide +kernel) rfl, inzX8, tyX8_ok, nmX8, by decide +kernel, by decide +kernel, by decide +kernel⟩
theorem nwX8_38 : zNw RX8 38 5 8 [.null, .int 0, .int 0, .int 0, .int 0, .int 0, .int 0, .int 0] := ⟨RX5, TX5, tyX5, rfl, zat 348 (by decide +kernel) rfl, zat 349 (by decide +kernel) rfl, zat 126 (by decide +kernel) rfl, inzX5, tyX5_ok, by decide +kernel⟩
theorem okX5_init : zOkI mX5_init := ⟨⟨zat 352 (by decide +kernel) rfl, zat 126 (by decide +kernel) rfl, ⟨by decide +kernel, by decide +kernel⟩, by decide +kernel, by decide +kernel⟩, rfl, zat 351 (by decide +kernel) rfl, rfl⟩
theorem fqX8_41 : zFq RX8 41 8 6 (.object "LeftSkate$Tape") := ⟨RX8, TX8, 13, tyX8, rfl, by decide, zat 473 (by decide +kernel) rfl, inzX8, tyX8_ok, nmX8, by decide +kernel, by decide +kernel, by decide +kernel⟩
theorem nwX8_45 : zNw RX8 45 6 5 [.null, .null, .null, .null, .int 0] := ⟨RX6, TX6, tyX6, rfl, zat 383 (by decide +kernel) rfl, zat 201 (by decide +kernel) rfl, zat 123 (by decide +kernel) rfl, inzX6, tyX6_ok, by decide +kernel⟩
theorem fqX8_48 : zFq RX8 48 8 7 (.object "LeftSkate$Ways") := ⟨RX8, TX8, 13, tyX8, rfl, by decide, zat 474 (by decide +kernel) rfl, inzX8, tyX8_ok, nmX8, by decide +kernel, by decide +kernel, by decide +kernel⟩
theorem nwX8_52 : zNw RX8 52 1 9 [.null, .int 0, .null, .null, .null, .null, .int 0, .int 0, .null] := ⟨RX1, TX1, tyX1, rfl, zat 385 (by decide +kernel) rfl, zat 226 (by decide +kernel) rfl, zat 124 (by decide +kernel) rfl, inzX1, tyX1_ok, by decide +kernel⟩
theorem fqX8_55 : zFq RX8 55 8 8 (.object "LeftSkate$Law") := ⟨RX8, TX8, 13, tyX8, rfl, by decide, zat 475 (by decide +kernel) rfl, inzX8, tyX8_ok, nmX8, by decide +kernel, by decide +kernel, by decide +kernel⟩
theorem nwX8_59 : zNw RX8 59 3 5 [.null, .int 0, .null, .null, .int 0] := ⟨RX3, TX3, tyX3, rfl, zat 387 (by decide +kernel) rfl, zat 262 (by decide +kernel) rfl, zat 125 (by decide +kernel) rfl, inzX3, tyX3_ok, by decide +kernel⟩
theorem fqX8_62 : zFq RX8 62 8 9 (.object "LeftSkate$Paper") := ⟨RX8, TX8, 13, tyX8, rfl, by decide, zat 476 (by decide +kernel) rfl, inzX8, tyX8_ok, nmX8, by decide +kernel, by decide +kernel, by decide +kernel⟩
theorem nwX8_66 : zNw RX8 66 4 8 [.null, .int 0, .null, .int 0, .null, .null, .null, .null] := ⟨RX4, TX4, tyX4, rfl, zat 389 (by decide +kernel) rfl, zat 390 (by decide +kernel) rfl, zat 127 (by decide +kernel) rfl, inzX4, tyX4_ok, by decide +kernel⟩
theorem okX4_init : zOkI mX4_init := ⟨⟨zat 393 (by decide +kernel) rfl, zat 127 (by decide +kernel) rfl, ⟨by decide +kernel, by decide +kernel⟩, by decide +kernel, by decide +kernel⟩, rfl, zat 392 (by decide +kernel) rfl, rfl⟩
theorem fqX8_69 : zFq RX8 69 8 10 (.object "LeftSkate$Router") := ⟨RX8, TX8, 13, tyX8, rfl, by decide, zat 477 (by decide +kernel) rfl, inzX8, tyX8_ok, nmX8, by decide +kernel, by decide +kernel, by decide +kernel⟩
theorem nwX8_73 : zNw RX8 73 0 5 [.null, .null, .null, .null, .int 0] := ⟨RX0, TX0, tyX0, rfl, zat 421 (by decide +kernel) rfl, zat 422 (by decide +kernel) rfl, zat 128 (by decide +kernel) rfl, inzX0, tyX0_ok, by decide +kernel⟩
theorem okX0_init : zOkI mX0_init := ⟨⟨zat 425 (by decide +kernel) rfl, zat 128 (by decide +kernel) rfl, ⟨by decide +kernel, by decide +kernel⟩, by decide +kernel, by decide +kernel⟩, rfl, zat 424 (by decide +kernel) rfl, rfl⟩
theorem fqX8_76 : zFq RX8 76 8 11 (.object "LeftSkate$Bars") := ⟨RX8, TX8, 13, tyX8, rfl, by decide, zat 478 (by decide +kernel) rfl, inzX8, tyX8_ok, nmX8, by decide +kernel, by decide +kernel, by decide +kernel⟩
theorem fqX8_80 : zFq RX8 80 8 12 (.array .int) := ⟨RX8, TX8, 13, tyX8, rfl, by decide, zat 479 (by decide +kernel) rfl, inzX8, tyX8_ok, nmX8, by decide +kernel, by decide +kernel, by decide +kernel⟩
theorem n_mo {g : zG} {b : Nat → Nat} {M : zM} : (b 0, Sum.inr (2, zfs (gA g b) M 0 [some 1, some 2, some 3, some 4, some 5, none, none, none])) ∈ zws shX2 (gA g b) M := List.mem_of_getElem? (i := 0) (zws_at (k := 0) (s := (3, 2, [some 1, some 2, some 3, some 4, some 5, none, none, none])) rfl)
def FrC (C : zM) : Prop := (∀ o, 26 ≤ o ∨ o = 0 → C o = nMC o) ∧ (C 1 0 = 6 ∧ C 1 1 = 6 ∧ C 1 2 = 1 ∧ C 1 3 = 0 ∧ C 1 4 = 0) ∧ (C 3 5 = 0 ∧ C 3 6 = nMC 3 6 ∧ C 3 7 = 0) ∧ (∀ k, k < 64 → C 4 k = 0) ∧ (∀ k, k < 64 → C 5 k = -1) ∧ C 10 4 = 0 ∧ (∀ s, s < 6 → C 12 s = 0) ∧ (C 15 6 = 0 ∧ C 15 7 = 0) ∧ (C 22 1 = 0 ∧ C 22 4 = 0)
theorem dX8_init_0 : decode cX8_init 0 = .ok (.aload_n 0, 1) := by decide +kernel
theorem dX8_init_1 : decode cX8_init 1 = .ok (.invokespecial 1, 3) := by decide +kernel
theorem dX8_init_4 : decode cX8_init 4 = .ok (.aload_n 0, 1) := by decide +kernel
theorem dX8_init_5 : decode cX8_init 5 = .ok (.new 7, 3) := by decide +kernel
theorem dX8_init_8 : decode cX8_init 8 = .ok (.dup, 1) := by decide +kernel
theorem dX8_init_9 : decode cX8_init 9 = .ok (.invokespecial 9, 3) := by decide +kernel
theorem dX8_init_12 : decode cX8_init 12 = .ok (.putfield 10, 3) := by decide +kernel
theorem dX8_init_15 : decode cX8_init 15 = .ok (.aload_n 0, 1) := by decide +kernel
theorem dX8_init_16 : decode cX8_init 16 = .ok (.new 7, 3) := by decide +kernel
theorem dX8_init_19 : decode cX8_init 19 = .ok (.dup, 1) := by decide +kernel
theorem dX8_init_20 : decode cX8_init 20 = .ok (.invokespecial 9, 3) := by decide +kernel
theorem dX8_init_23 : decode cX8_init 23 = .ok (.putfield 16, 3) := by decide +kernel
theorem dX8_init_26 : decode cX8_init 26 = .ok (.aload_n 0, 1) := by decide +kernel
theorem dX8_init_27 : decode cX8_init 27 = .ok (.iconst 0, 1) := by decide +kernel
theorem dX8_init_28 : decode cX8_init 28 = .ok (.putfield 19, 3) := by decide +kernel
theorem dX8_init_31 : decode cX8_init 31 = .ok (.aload_n 0, 1) := by decide +kernel
theorem dX8_init_32 : decode cX8_init 32 = .ok (.new 23, 3) := by decide +kernel
theorem dX8_init_35 : decode cX8_init 35 = .ok (.dup, 1) := by decide +kernel
theorem dX8_init_36 : decode cX8_init 36 = .ok (.invokespecial 25, 3) := by decide +kernel
theorem dX8_init_39 : decode cX8_init 39 = .ok (.putfield 26, 3) := by decide +kernel
theorem dX8_init_42 : decode cX8_init 42 = .ok (.aload_n 0, 1) := by decide +kernel
theorem dX8_init_43 : decode cX8_init 43 = .ok (.bipush 6, 2) := by decide +kernel
theorem dX8_init_45 : decode cX8_init 45 = .ok (.anewarray 23, 3) := by decide +kernel
theorem dX8_init_48 : decode cX8_init 48 = .ok (.putfield 30, 3) := by decide +kernel
theorem dX8_init_51 : decode cX8_init 51 = .ok (.aload_n 0, 1) := by decide +kernel
theorem dX8_init_52 : decode cX8_init 52 = .ok (.iconst 0, 1) := by decide +kernel
theorem dX8_init_53 : decode cX8_init 53 = .ok (.putfield 34, 3) := by decide +kernel
theorem dX8_init_56 : decode cX8_init 56 = .ok (.aload_n 0, 1) := by decide +kernel
theorem dX8_init_57 : decode cX8_init 57 = .ok (.new 38, 3) := by decide +kernel
theorem dX8_init_60 : decode cX8_init 60 = .ok (.dup, 1) := by decide +kernel
theorem dX8_init_61 : decode cX8_init 61 = .ok (.invokespecial 40, 3) := by decide +kernel
theorem dX8_init_64 : decode cX8_init 64 = .ok (.putfield 41, 3) := by decide +kernel
theorem dX8_init_67 : decode cX8_init 67 = .ok (.aload_n 0, 1) := by decide +kernel
theorem dX8_init_68 : decode cX8_init 68 = .ok (.new 45, 3) := by decide +kernel
theorem dX8_init_71 : decode cX8_init 71 = .ok (.dup, 1) := by decide +kernel
theorem dX8_init_72 : decode cX8_init 72 = .ok (.invokespecial 47, 3) := by decide +kernel
theorem dX8_init_75 : decode cX8_init 75 = .ok (.putfield 48, 3) := by decide +kernel
theorem dX8_init_78 : decode cX8_init 78 = .ok (.aload_n 0, 1) := by decide +kernel
theorem dX8_init_79 : decode cX8_init 79 = .ok (.new 52, 3) := by decide +kernel
theorem dX8_init_82 : decode cX8_init 82 = .ok (.dup, 1) := by decide +kernel
theorem dX8_init_83 : decode cX8_init 83 = .ok (.invokespecial 54, 3) := by decide +kernel
theorem dX8_init_86 : decode cX8_init 86 = .ok (.putfield 55, 3) := by decide +kernel
theorem dX8_init_89 : decode cX8_init 89 = .ok (.aload_n 0, 1) := by decide +kernel
theorem dX8_init_90 : decode cX8_init 90 = .ok (.new 59, 3) := by decide +kernel
theorem dX8_init_93 : decode cX8_init 93 = .ok (.dup, 1) := by decide +kernel
theorem dX8_init_94 : decode cX8_init 94 = .ok (.invokespecial 61, 3) := by decide +kernel
theorem dX8_init_97 : decode cX8_init 97 = .ok (.putfield 62, 3) := by decide +kernel
theorem dX8_init_100 : decode cX8_init 100 = .ok (.aload_n 0, 1) := by decide +kernel
theorem dX8_init_101 : decode cX8_init 101 = .ok (.new 66, 3) := by decide +kernel
theorem dX8_init_104 : decode cX8_init 104 = .ok (.dup, 1) := by decide +kernel
theorem dX8_init_105 : decode cX8_init 105 = .ok (.invokespecial 68, 3) := by decide +kernel
theorem dX8_init_108 : decode cX8_init 108 = .ok (.putfield 69, 3) := by decide +kernel
theorem dX8_init_111 : decode cX8_init 111 = .ok (.aload_n 0, 1) := by decide +kernel
theorem dX8_init_112 : decode cX8_init 112 = .ok (.new 73, 3) := by decide +kernel
theorem dX8_init_115 : decode cX8_init 115 = .ok (.dup, 1) := by decide +kernel
theorem dX8_init_116 : decode cX8_init 116 = .ok (.invokespecial 75, 3) := by decide +kernel
theorem dX8_init_119 : decode cX8_init 119 = .ok (.putfield 76, 3) := by decide +kernel
theorem dX8_init_122 : decode cX8_init 122 = .ok (.aload_n 0, 1) := by decide +kernel
theorem dX8_init_123 : decode cX8_init 123 = .ok (.bipush 10, 2) := by decide +kernel
theorem dX8_init_125 : decode cX8_init 125 = .ok (.newarray .int, 2) := by decide +kernel
theorem dX8_init_127 : decode cX8_init 127 = .ok (.putfield 80, 3) := by decide +kernel
theorem dX8_init_130 : decode cX8_init 130 = .ok (.iconst 0, 1) := by decide +kernel
theorem dX8_init_131 : decode cX8_init 131 = .ok (.istore_n 1, 1) := by decide +kernel
theorem dX8_init_132 : decode cX8_init 132 = .ok (.iload_n 1, 1) := by decide +kernel
theorem dX8_init_133 : decode cX8_init 133 = .ok (.bipush 6, 2) := by decide +kernel
theorem dX8_init_135 : decode cX8_init 135 = .ok (.if_icmp .ge 22, 3) := by decide +kernel
theorem dX8_init_138 : decode cX8_init 138 = .ok (.aload_n 0, 1) := by decide +kernel
theorem dX8_init_139 : decode cX8_init 139 = .ok (.getfield 30, 3) := by decide +kernel
theorem dX8_init_142 : decode cX8_init 142 = .ok (.iload_n 1, 1) := by decide +kernel
theorem dX8_init_143 : decode cX8_init 143 = .ok (.new 23, 3) := by decide +kernel
theorem dX8_init_146 : decode cX8_init 146 = .ok (.dup, 1) := by decide +kernel
theorem dX8_init_147 : decode cX8_init 147 = .ok (.invokespecial 25, 3) := by decide +kernel
theorem dX8_init_150 : decode cX8_init 150 = .ok (.aastore, 1) := by decide +kernel
theorem dX8_init_151 : decode cX8_init 151 = .ok (.iinc 1 1, 3) := by decide +kernel
theorem dX8_init_154 : decode cX8_init 154 = .ok (.goto (-22), 3) := by decide +kernel
theorem dX8_init_157 : decode cX8_init 157 = .ok (.aload_n 0, 1) := by decide +kernel
theorem dX8_init_158 : decode cX8_init 158 = .ok (.getfield 10, 3) := by decide +kernel
theorem dX8_init_161 : decode cX8_init 161 = .ok (.bipush 6, 2) := by decide +kernel
theorem dX8_init_163 : decode cX8_init 163 = .ok (.bipush 6, 2) := by decide +kernel
theorem dX8_init_165 : decode cX8_init 165 = .ok (.invokevirtual 84, 3) := by decide +kernel
theorem dX8_init_168 : decode cX8_init 168 = .ok (.return_, 1) := by decide +kernel
set_option maxRecDepth 100000 in
set_option maxHeartbeats 4000000 in
theorem kX8_loop {g : zG} {A : Nat → Prop} {h0 : Nat} {a1 : Nat → Nat} {a2 : Nat → Nat} {a3 : Nat → Nat} {q4 : Nat} {a5 : Nat → Nat} {a6 : Nat → Nat} {a7 : Nat → Nat} {a8 : Nat → Nat} {a9 : Nat → Nat} {a10 : Nat → Nat} {q11 : Nat} {pre post : va_W} (hpre : (zws shX7 (gA g a1) nMW ++ (zws shX7 (gA g a2) nMW ++ zws shX2 (gA g a3) (fun _ _ => 0))) = pre) (hpost : zws shX5 (gA g a5) (fun k => if k = 0 then (fun j => if j = 7 then -1 else 0) else fun _ => 0) ++ (zws shX6 (gA g a6) (fun _ _ => 0) ++ (zws shX1 (gA g a7) (fun _ _ => 0) ++ (zws shX3 (gA g a8) (fun _ _ => 0) ++ (zws shX4 (gA g a9) (fun _ _ => 0) ++ (zws shX0 (gA g a10) (fun _ _ => 0) ++ [(q11, Sum.inl (g.2.2.2.1, 10, .inl (fun _ => 0)))]))))) = post) : nW g A 8 128 11895 mX8_init (nBB g shC FrC h0) 92 10971 130 [(0, .ref h0)] [] ((h0, Sum.inr (8, [.ref (a1 0), .ref (a2 0), .int 0, .ref (a3 0), .ref q4, .int 0, .ref (a5 0), .ref (a6 0), .ref (a7 0), .ref (a8 0), .ref (a9 0), .ref (a10 0), .ref q11])) :: (pre ++ (q4, Sum.inl (g.2.2.2.2.2, 6, .inr (.inr (.inr (.inr (fun _ => none)))))) :: post)) := by
  refine n_iconst (v := 0) dX8_init_130 (by decide +kernel) ?_
  refine n_istore_n [(1, .int 0), (0, .ref h0)] dX8_init_131 (by decide) rfl ?_
  refine n_iload_n dX8_init_132 0 rfl ?_
  refine n_bipush (v := 6) dX8_init_133 (by decide +kernel) ?_
  refine n_icmp_ge 157 dX8_init_135 (by decide) (fun c => absurd c (by decide)) (fun _ => ?_)
  refine n_aload_n dX8_init_138 1 rfl ?_
  refine n_get (k0 := 4) flX8_30 rfl dX8_init_139 ?_
  refine n_iload_n dX8_init_142 0 rfl ?_
  refine n_newB (N := 8) (d2 := 1) (nc2 := 5) (ns2 := 146) nwX8_23 okX2_init (host := "LeftSkate") (by decide +kernel) (by decide) (by omega) (by omega) (Nat.le_of_ble_eq_true rfl) dX8_init_143 dX8_init_146 dX8_init_147 (fun q sz => kX2_init g q sz) (fun b0 => ?_)
  refine n_astq (pre := pre) (post := post ++ zws shX2 (gA g b0) (fun _ _ => 0)) (n := 6) (f := (fun _ => none)) (i := 0) 0 (by simp only [List.append_assoc, List.cons_append]) (List.mem_cons_of_mem _ (List.mem_append_right _ n_mo)) (vp_in_iff.mpr (by decide)) (by decide +kernel) dX8_init_150 ?_
  refine n_iinc (v := 1) [(1, .int 1), (0, .ref h0)] dX8_init_151 0 rfl (by decide +kernel) (by decide) rfl ?_
  refine n_goto 132 dX8_init_154 (by decide) ?_
  refine n_iload_n dX8_init_132 0 rfl ?_
  refine n_bipush (v := 6) dX8_init_133 (by decide +kernel) ?_
  refine n_icmp_ge 157 dX8_init_135 (by decide) (fun c => absurd c (by decide)) (fun _ => ?_)
  refine n_aload_n dX8_init_138 1 rfl ?_
  refine n_get (k0 := 4) flX8_30 rfl dX8_init_139 ?_
  refine n_iload_n dX8_init_142 0 rfl ?_
  refine n_newB (N := 8) (d2 := 1) (nc2 := 5) (ns2 := 146) nwX8_23 okX2_init (host := "LeftSkate") (by decide +kernel) (by decide) (by omega) (by omega) (Nat.le_of_ble_eq_true rfl) dX8_init_143 dX8_init_146 dX8_init_147 (fun q sz => kX2_init g q sz) (fun b1 => ?_)
  refine n_astq (pre := pre) (post := (post ++ zws shX2 (gA g b0) (fun _ _ => 0)) ++ zws shX2 (gA g b1) (fun _ _ => 0)) (n := 6) (f := (va_up (fun _ => none) 0 (some (b0 0)))) (i := 1) 1 (by simp only [List.append_assoc, List.cons_append]) (List.mem_cons_of_mem _ (List.mem_append_right _ n_mo)) (vp_in_iff.mpr (by decide)) (by decide +kernel) dX8_init_150 ?_
  refine n_iinc (v := 2) [(1, .int 2), (0, .ref h0)] dX8_init_151 0 rfl (by decide +kernel) (by decide) rfl ?_
  refine n_goto 132 dX8_init_154 (by decide) ?_
  refine n_iload_n dX8_init_132 0 rfl ?_
  refine n_bipush (v := 6) dX8_init_133 (by decide +kernel) ?_
  refine n_icmp_ge 157 dX8_init_135 (by decide) (fun c => absurd c (by decide)) (fun _ => ?_)
  refine n_aload_n dX8_init_138 1 rfl ?_
  refine n_get (k0 := 4) flX8_30 rfl dX8_init_139 ?_
  refine n_iload_n dX8_init_142 0 rfl ?_
  refine n_newB (N := 8) (d2 := 1) (nc2 := 5) (ns2 := 146) nwX8_23 okX2_init (host := "LeftSkate") (by decide +kernel) (by decide) (by omega) (by omega) (Nat.le_of_ble_eq_true rfl) dX8_init_143 dX8_init_146 dX8_init_147 (fun q sz => kX2_init g q sz) (fun b2 => ?_)
  refine n_astq (pre := pre) (post := ((post ++ zws shX2 (gA g b0) (fun _ _ => 0)) ++ zws shX2 (gA g b1) (fun _ _ => 0)) ++ zws shX2 (gA g b2) (fun _ _ => 0)) (n := 6) (f := (va_up (va_up (fun _ => none) 0 (some (b0 0))) 1 (some (b1 0)))) (i := 2) 2 (by simp only [List.append_assoc, List.cons_append]) (List.mem_cons_of_mem _ (List.mem_append_right _ n_mo)) (vp_in_iff.mpr (by decide)) (by decide +kernel) dX8_init_150 ?_
  refine n_iinc (v := 3) [(1, .int 3), (0, .ref h0)] dX8_init_151 0 rfl (by decide +kernel) (by decide) rfl ?_
  refine n_goto 132 dX8_init_154 (by decide) ?_
  refine n_iload_n dX8_init_132 0 rfl ?_
  refine n_bipush (v := 6) dX8_init_133 (by decide +kernel) ?_
  refine n_icmp_ge 157 dX8_init_135 (by decide) (fun c => absurd c (by decide)) (fun _ => ?_)
  refine n_aload_n dX8_init_138 1 rfl ?_
  refine n_get (k0 := 4) flX8_30 rfl dX8_init_139 ?_
  refine n_iload_n dX8_init_142 0 rfl ?_
  refine n_newB (N := 8) (d2 := 1) (nc2 := 5) (ns2 := 146) nwX8_23 okX2_init (host := "LeftSkate") (by decide +kernel) (by decide) (by omega) (by omega) (Nat.le_of_ble_eq_true rfl) dX8_init_143 dX8_init_146 dX8_init_147 (fun q sz => kX2_init g q sz) (fun b3 => ?_)
  refine n_astq (pre := pre) (post := (((post ++ zws shX2 (gA g b0) (fun _ _ => 0)) ++ zws shX2 (gA g b1) (fun _ _ => 0)) ++ zws shX2 (gA g b2) (fun _ _ => 0)) ++ zws shX2 (gA g b3) (fun _ _ => 0)) (n := 6) (f := (va_up (va_up (va_up (fun _ => none) 0 (some (b0 0))) 1 (some (b1 0))) 2 (some (b2 0)))) (i := 3) 3 (by simp only [List.append_assoc, List.cons_append]) (List.mem_cons_of_mem _ (List.mem_append_right _ n_mo)) (vp_in_iff.mpr (by decide)) (by decide +kernel) dX8_init_150 ?_
  refine n_iinc (v := 4) [(1, .int 4), (0, .ref h0)] dX8_init_151 0 rfl (by decide +kernel) (by decide) rfl ?_
  refine n_goto 132 dX8_init_154 (by decide) ?_
  refine n_iload_n dX8_init_132 0 rfl ?_
  refine n_bipush (v := 6) dX8_init_133 (by decide +kernel) ?_
  refine n_icmp_ge 157 dX8_init_135 (by decide) (fun c => absurd c (by decide)) (fun _ => ?_)
  refine n_aload_n dX8_init_138 1 rfl ?_
  refine n_get (k0 := 4) flX8_30 rfl dX8_init_139 ?_
  refine n_iload_n dX8_init_142 0 rfl ?_
  refine n_newB (N := 8) (d2 := 1) (nc2 := 5) (ns2 := 146) nwX8_23 okX2_init (host := "LeftSkate") (by decide +kernel) (by decide) (by omega) (by omega) (Nat.le_of_ble_eq_true rfl) dX8_init_143 dX8_init_146 dX8_init_147 (fun q sz => kX2_init g q sz) (fun b4 => ?_)
  refine n_astq (pre := pre) (post := ((((post ++ zws shX2 (gA g b0) (fun _ _ => 0)) ++ zws shX2 (gA g b1) (fun _ _ => 0)) ++ zws shX2 (gA g b2) (fun _ _ => 0)) ++ zws shX2 (gA g b3) (fun _ _ => 0)) ++ zws shX2 (gA g b4) (fun _ _ => 0)) (n := 6) (f := (va_up (va_up (va_up (va_up (fun _ => none) 0 (some (b0 0))) 1 (some (b1 0))) 2 (some (b2 0))) 3 (some (b3 0)))) (i := 4) 4 (by simp only [List.append_assoc, List.cons_append]) (List.mem_cons_of_mem _ (List.mem_append_right _ n_mo)) (vp_in_iff.mpr (by decide)) (by decide +kernel) dX8_init_150 ?_
  refine n_iinc (v := 5) [(1, .int 5), (0, .ref h0)] dX8_init_151 0 rfl (by decide +kernel) (by decide) rfl ?_
  refine n_goto 132 dX8_init_154 (by decide) ?_
  refine n_iload_n dX8_init_132 0 rfl ?_
  refine n_bipush (v := 6) dX8_init_133 (by decide +kernel) ?_
  refine n_icmp_ge 157 dX8_init_135 (by decide) (fun c => absurd c (by decide)) (fun _ => ?_)
  refine n_aload_n dX8_init_138 1 rfl ?_
  refine n_get (k0 := 4) flX8_30 rfl dX8_init_139 ?_
  refine n_iload_n dX8_init_142 0 rfl ?_
  refine n_newB (N := 8) (d2 := 1) (nc2 := 5) (ns2 := 146) nwX8_23 okX2_init (host := "LeftSkate") (by decide +kernel) (by decide) (by omega) (by omega) (Nat.le_of_ble_eq_true rfl) dX8_init_143 dX8_init_146 dX8_init_147 (fun q sz => kX2_init g q sz) (fun b5 => ?_)
  refine n_astq (pre := pre) (post := (((((post ++ zws shX2 (gA g b0) (fun _ _ => 0)) ++ zws shX2 (gA g b1) (fun _ _ => 0)) ++ zws shX2 (gA g b2) (fun _ _ => 0)) ++ zws shX2 (gA g b3) (fun _ _ => 0)) ++ zws shX2 (gA g b4) (fun _ _ => 0)) ++ zws shX2 (gA g b5) (fun _ _ => 0)) (n := 6) (f := (va_up (va_up (va_up (va_up (va_up (fun _ => none) 0 (some (b0 0))) 1 (some (b1 0))) 2 (some (b2 0))) 3 (some (b3 0))) 4 (some (b4 0)))) (i := 5) 5 (by simp only [List.append_assoc, List.cons_append]) (List.mem_cons_of_mem _ (List.mem_append_right _ n_mo)) (vp_in_iff.mpr (by decide)) (by decide +kernel) dX8_init_150 ?_
  refine n_iinc (v := 6) [(1, .int 6), (0, .ref h0)] dX8_init_151 0 rfl (by decide +kernel) (by decide) rfl ?_
  refine n_goto 132 dX8_init_154 (by decide) ?_
  refine n_iload_n dX8_init_132 0 rfl ?_
  refine n_bipush (v := 6) dX8_init_133 (by decide +kernel) ?_
  refine n_icmp_ge 157 dX8_init_135 (by decide) (fun _ => ?_) (fun c => absurd (by decide) c)
  refine n_aload_n dX8_init_157 1 rfl ?_
  refine n_get (k0 := 0) flX8_10 rfl dX8_init_158 ?_
  refine n_bipush (v := 6) dX8_init_161 (by decide +kernel) ?_
  refine n_bipush (v := 6) dX8_init_163 (by decide +kernel) ?_
  refine n_callZ (sh := shC) (ad := nAC g h0 a1 a2 a3 q4 b0 b1 b2 b3 b4 b5 a5 a6 a7 a8 a9 a10 q11) (C := nMC) (m2 := mX7_restart) (o := 1) (d2 := 3) (Dn := FrC) [.int 6, .int 6] (fun H h => nAC_conv _ _ _ _ _ _ _ _ _ _ _ _ _ _ _ _ _ _ hpre hpost h) (fun k hk => nAC_hi _ _ _ _ _ _ _ _ _ _ _ _ _ _ _ _ _ _ hk) okX7_restart lkX8_84 shC_1 rfl rfl rfl (by decide) (by decide) (by decide) (by decide) dX8_init_165 (c7_restart (d := 0) (fun C1 k1 k2 k3 k4 k5 k6 k7 k8 k9 => ⟨k1, k2, k3, k4, k5, k6, k7, k8, k9⟩)) (fun M1 hM1 => ?_)
  exact n_vret (by decide) (by decide) rfl dX8_init_168 ⟨nAC g h0 a1 a2 a3 q4 b0 b1 b2 b3 b4 b5 a5 a6 a7 a8 a9 a10 q11, M1, rfl, fun k hk => nAC_hi _ _ _ _ _ _ _ _ _ _ _ _ _ _ _ _ _ _ hk, hM1, rfl⟩
set_option maxRecDepth 100000 in
set_option maxHeartbeats 4000000 in
theorem kX8_init (g : zG) (h0 sz : Nat) : nC g 8 128 11895 mX8_init h0 sz 8 [.null, .null, .int 0, .null, .null, .int 0, .null, .null, .null, .null, .null, .null, .null] (nBB g shC FrC h0) := by
  refine nW.enter (by decide +kernel) rfl (Nat.le_of_ble_eq_true rfl) ?_
  refine n_aload_n dX8_init_0 0 rfl ?_
  refine n_objInit (idx := 1) (zat 144 (by decide +kernel) rfl) (by decide) (by decide) dX8_init_1 ?_
  refine n_aload_n dX8_init_4 0 rfl ?_
  refine n_newB (N := 13) (d2 := 2) (nc2 := 26) (ns2 := 1333) nwX8_7 okX7_init (host := "LeftSkate") (by decide +kernel) (by decide) (by omega) (by omega) (Nat.le_of_ble_eq_true rfl) dX8_init_5 dX8_init_8 dX8_init_9 (fun q sz => kX7_init g q sz) (fun a1 => ?_)
  refine n_putF (k0 := 0) [.ref (a1 0), .null, .int 0, .null, .null, .int 0, .null, .null, .null, .null, .null, .null, .null] fqX8_10 rfl rfl (Nat.le_of_ble_eq_true rfl) rfl dX8_init_12 ?_
  refine n_aload_n dX8_init_15 0 rfl ?_
  refine n_newB (N := 13) (d2 := 2) (nc2 := 26) (ns2 := 1333) nwX8_7 okX7_init (host := "LeftSkate") (by decide +kernel) (by decide) (by omega) (by omega) (Nat.le_of_ble_eq_true rfl) dX8_init_16 dX8_init_19 dX8_init_20 (fun q sz => kX7_init g q sz) (fun a2 => ?_)
  refine n_putF (k0 := 1) [.ref (a1 0), .ref (a2 0), .int 0, .null, .null, .int 0, .null, .null, .null, .null, .null, .null, .null] fqX8_16 rfl rfl (Nat.le_of_ble_eq_true rfl) rfl dX8_init_23 ?_
  refine n_aload_n dX8_init_26 0 rfl ?_
  refine n_iconst (v := 0) dX8_init_27 (by decide +kernel) ?_
  refine n_puti (k0 := 2) [.ref (a1 0), .ref (a2 0), .int 0, .null, .null, .int 0, .null, .null, .null, .null, .null, .null, .null] fpX8_19 rfl rfl (Nat.le_of_ble_eq_true rfl) rfl dX8_init_28 ?_
  refine n_aload_n dX8_init_31 0 rfl ?_
  refine n_newB (N := 8) (d2 := 1) (nc2 := 5) (ns2 := 146) nwX8_23 okX2_init (host := "LeftSkate") (by decide +kernel) (by decide) (by omega) (by omega) (Nat.le_of_ble_eq_true rfl) dX8_init_32 dX8_init_35 dX8_init_36 (fun q sz => kX2_init g q sz) (fun a3 => ?_)
  refine n_putF (k0 := 3) [.ref (a1 0), .ref (a2 0), .int 0, .ref (a3 0), .null, .int 0, .null, .null, .null, .null, .null, .null, .null] fqX8_26 rfl rfl (Nat.le_of_ble_eq_true rfl) rfl dX8_init_39 ?_
  refine n_aload_n dX8_init_42 0 rfl ?_
  refine n_bipush (v := 6) dX8_init_43 (by decide +kernel) ?_
  refine n_newq (N := 6) (idx := 23) (zat 345 (by decide +kernel) rfl) (by decide) (by decide +kernel) (by decide) (by omega) (by omega) dX8_init_45 (fun q4 => ?_)
  refine n_putF (k0 := 4) [.ref (a1 0), .ref (a2 0), .int 0, .ref (a3 0), .ref q4, .int 0, .null, .null, .null, .null, .null, .null, .null] fqX8_30 rfl rfl (Nat.le_of_ble_eq_true rfl) rfl dX8_init_48 ?_
  refine n_aload_n dX8_init_51 0 rfl ?_
  refine n_iconst (v := 0) dX8_init_52 (by decide +kernel) ?_
  refine n_puti (k0 := 5) [.ref (a1 0), .ref (a2 0), .int 0, .ref (a3 0), .ref q4, .int 0, .null, .null, .null, .null, .null, .null, .null] fpX8_34 rfl rfl (Nat.le_of_ble_eq_true rfl) rfl dX8_init_53 ?_
  refine n_aload_n dX8_init_56 0 rfl ?_
  refine n_newB (N := 8) (d2 := 1) (nc2 := 1) (ns2 := 400) nwX8_38 okX5_init (host := "LeftSkate") (by decide +kernel) (by decide) (by omega) (by omega) (Nat.le_of_ble_eq_true rfl) dX8_init_57 dX8_init_60 dX8_init_61 (fun q sz => kX5_init g q sz) (fun a5 => ?_)
  refine n_putF (k0 := 6) [.ref (a1 0), .ref (a2 0), .int 0, .ref (a3 0), .ref q4, .int 0, .ref (a5 0), .null, .null, .null, .null, .null, .null] fqX8_41 rfl rfl (Nat.le_of_ble_eq_true rfl) rfl dX8_init_64 ?_
  refine n_aload_n dX8_init_67 0 rfl ?_
  refine n_newB (N := 5) (d2 := 1) (nc2 := 4) (ns2 := 378) nwX8_45 okX6_init (host := "LeftSkate") (by decide +kernel) (by decide) (by omega) (by omega) (Nat.le_of_ble_eq_true rfl) dX8_init_68 dX8_init_71 dX8_init_72 (fun q sz => kX6_init g q sz) (fun a6 => ?_)
  refine n_putF (k0 := 7) [.ref (a1 0), .ref (a2 0), .int 0, .ref (a3 0), .ref q4, .int 0, .ref (a5 0), .ref (a6 0), .null, .null, .null, .null, .null] fqX8_48 rfl rfl (Nat.le_of_ble_eq_true rfl) rfl dX8_init_75 ?_
  refine n_aload_n dX8_init_78 0 rfl ?_
  refine n_newB (N := 9) (d2 := 1) (nc2 := 6) (ns2 := 528) nwX8_52 okX1_init (host := "LeftSkate") (by decide +kernel) (by decide) (by omega) (by omega) (Nat.le_of_ble_eq_true rfl) dX8_init_79 dX8_init_82 dX8_init_83 (fun q sz => kX1_init g q sz) (fun a7 => ?_)
  refine n_putF (k0 := 8) [.ref (a1 0), .ref (a2 0), .int 0, .ref (a3 0), .ref q4, .int 0, .ref (a5 0), .ref (a6 0), .ref (a7 0), .null, .null, .null, .null] fqX8_55 rfl rfl (Nat.le_of_ble_eq_true rfl) rfl dX8_init_86 ?_
  refine n_aload_n dX8_init_89 0 rfl ?_
  refine n_newB (N := 5) (d2 := 1) (nc2 := 3) (ns2 := 28) nwX8_59 okX3_init (host := "LeftSkate") (by decide +kernel) (by decide) (by omega) (by omega) (Nat.le_of_ble_eq_true rfl) dX8_init_90 dX8_init_93 dX8_init_94 (fun q sz => kX3_init g q sz) (fun a8 => ?_)
  refine n_putF (k0 := 9) [.ref (a1 0), .ref (a2 0), .int 0, .ref (a3 0), .ref q4, .int 0, .ref (a5 0), .ref (a6 0), .ref (a7 0), .ref (a8 0), .null, .null, .null] fqX8_62 rfl rfl (Nat.le_of_ble_eq_true rfl) rfl dX8_init_97 ?_
  refine n_aload_n dX8_init_100 0 rfl ?_
  refine n_newB (N := 8) (d2 := 1) (nc2 := 6) (ns2 := 6159) nwX8_66 okX4_init (host := "LeftSkate") (by decide +kernel) (by decide) (by omega) (by omega) (Nat.le_of_ble_eq_true rfl) dX8_init_101 dX8_init_104 dX8_init_105 (fun q sz => kX4_init g q sz) (fun a9 => ?_)
  refine n_putF (k0 := 10) [.ref (a1 0), .ref (a2 0), .int 0, .ref (a3 0), .ref q4, .int 0, .ref (a5 0), .ref (a6 0), .ref (a7 0), .ref (a8 0), .ref (a9 0), .null, .null] fqX8_69 rfl rfl (Nat.le_of_ble_eq_true rfl) rfl dX8_init_108 ?_
  refine n_aload_n dX8_init_111 0 rfl ?_
  refine n_newB (N := 5) (d2 := 1) (nc2 := 4) (ns2 := 576) nwX8_73 okX0_init (host := "LeftSkate") (by decide +kernel) (by decide) (by omega) (by omega) (Nat.le_of_ble_eq_true rfl) dX8_init_112 dX8_init_115 dX8_init_116 (fun q sz => kX0_init g q sz) (fun a10 => ?_)
  refine n_putF (k0 := 11) [.ref (a1 0), .ref (a2 0), .int 0, .ref (a3 0), .ref q4, .int 0, .ref (a5 0), .ref (a6 0), .ref (a7 0), .ref (a8 0), .ref (a9 0), .ref (a10 0), .null] fqX8_76 rfl rfl (Nat.le_of_ble_eq_true rfl) rfl dX8_init_119 ?_
  refine n_aload_n dX8_init_122 0 rfl ?_
  refine n_bipush (v := 10) dX8_init_123 (by decide +kernel) ?_
  refine n_newi (N := 10) (by decide) (by decide +kernel) (by decide) (by omega) (by omega) dX8_init_125 (fun q11 => ?_)
  refine n_putF (k0 := 12) [.ref (a1 0), .ref (a2 0), .int 0, .ref (a3 0), .ref q4, .int 0, .ref (a5 0), .ref (a6 0), .ref (a7 0), .ref (a8 0), .ref (a9 0), .ref (a10 0), .ref q11] fqX8_80 rfl rfl (Nat.le_of_ble_eq_true rfl) rfl dX8_init_127 ?_
  refine nW.eqw ((h0, Sum.inr (8, [.ref (a1 0), .ref (a2 0), .int 0, .ref (a3 0), .ref q4, .int 0, .ref (a5 0), .ref (a6 0), .ref (a7 0), .ref (a8 0), .ref (a9 0), .ref (a10 0), .ref q11])) :: ((zws shX7 (gA g a1) nMW ++ (zws shX7 (gA g a2) nMW ++ zws shX2 (gA g a3) (fun _ _ => 0))) ++ (q4, Sum.inl (g.2.2.2.2.2, 6, .inr (.inr (.inr (.inr (fun _ => none)))))) :: (zws shX5 (gA g a5) (fun k => if k = 0 then (fun j => if j = 7 then -1 else 0) else fun _ => 0) ++ (zws shX6 (gA g a6) (fun _ _ => 0) ++ (zws shX1 (gA g a7) (fun _ _ => 0) ++ (zws shX3 (gA g a8) (fun _ _ => 0) ++ (zws shX4 (gA g a9) (fun _ _ => 0) ++ (zws shX0 (gA g a10) (fun _ _ => 0) ++ [(q11, Sum.inl (g.2.2.2.1, 10, .inl (fun _ => 0)))])))))))) (by simp only [List.nil_append, List.append_assoc, List.cons_append]) ?_
  exact kX8_loop rfl rfl
