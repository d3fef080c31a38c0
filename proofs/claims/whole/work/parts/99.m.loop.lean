/-! THE LAW: its loop and its start -/
theorem fr_RR {C : zM} (h : FrC C) : RR C (freshM nMM 6 6) := by
  obtain ⟨ho, h1, h3, h4, h5, h10, h12, h15, h22⟩ := h
  have z6 : (6 : Int32).toInt = 6 := rfl
  have e0 : C 0 = nMC 0 := ho 0 (Or.inr rfl)
  have e61 : C 61 = fun j => iv (62 + 6 * j : Nat) := ho 61 (Or.inl (by decide))
  have e98 : C 98 = fun j => if j = 7 then -1 else 0 := ho 98 (Or.inl (by decide))
  have z0 : (0 : Int32).toInt = 0 := rfl
  refine ⟨⟨fresh_wo (st := nMM 1 1) ⟨by rw [z6]; decide, by rw [z6]; decide⟩ ⟨by rw [z6]; decide, by rw [z6]; decide⟩ h1 h3 h4 h5 h10 h12 h15 h22, fun j hj => freshW_hi (by omega)⟩, ⟨fun j _ => rfl, Or.inl ⟨rfl, by rw [e0]; rfl⟩⟩, ⟨by rw [e0]; rfl, ?_, fun i hi => ⟨i, hi, by rw [e61]⟩, fun i j hi hj e => ?_, fun i hi hn => ?_⟩, ⟨by rw [e98]; rfl, ?_, fun i hi => ?_, by rw [e98]; rfl, by rw [e98]; rfl⟩⟩
  · show rng 0 0 6
    unfold rng
    omega
  · rw [e61] at e
    have e2 : (iv (62 + 6 * i : Nat)).toInt = (iv (62 + 6 * j : Nat)).toInt := congrArg Int32.toInt e
    rw [iv_toInt (by omega) (by omega), iv_toInt (by omega) (by omega)] at e2
    omega
  · have hn2 : (i : Int) < (0 : Int32).toInt := hn
    omega
  · show rng 0 0 400
    unfold rng
    omega
  · have hn2 : (i : Int) < (0 : Int32).toInt := hi
    omega
section LO
variable {g : zG} {aC aM : Nat → Nat} {b L : Nat} {xs : Nat → Int32}
theorem l_end {lv : List (Nat × Value)} {C M : zM} : lW g aC aM b L xs 1189 lv [] C M := by
  refine l_iconst (v := 1) dL_1189 (by decide +kernel) ?_
  intro p e s m below meth c H locs ls h
  obtain ⟨⟨hx, hb, hr, hml, hown, hts, hX, hbl, hlk, hgv⟩, hF, hK, hPC, hPM, hS, hlv⟩ := id h
  exact va_forget hS.2.2 (lw_ret hx hb hr hlk dL_1190)
theorem l_loop (hL : L ≤ 3072) : ∀ (n t : Nat) (C M : zM), 6 * t ≤ L → L < 6 * t + n → RR C M → lW g aC aM b L xs 18 (lvL b aC aM t) [] C M := by
  intro n
  induction n with
  | zero =>
    intro t C M h1 h2 hR
    omega
  | succ n ih =>
    intro t C M h1 h2 hR
    have eL : (Int32.ofNat L).toInt = L := by
      have e := nI_toInt (n := L) (by omega)
      exact e
    have z6 : (6 : Int32).toInt = 6 := rfl
    have et : (iv (6 * t : Nat)).toInt = 6 * t := by
      rw [iv_toInt (by omega) (by omega)]
      omega
    have es : (Int32.ofNat L - 6).toInt = L - 6 := by
      rw [ti_sub (by rw [eL, z6]; omega) (by rw [eL, z6]; omega), eL, z6]
    refine l_iload dL_18 0 rfl ?_
    refine l_aload dL_19 3 rfl ?_
    refine l_len dL_20 ?_
    refine l_bipush (v := 6) dL_21 (by decide +kernel) ?_
    refine l_isub dL_23 ?_
    refine l_icmp_gt 1189 dL_24 (by decide) (fun _ => l_end) (fun c => ?_)
    rw [Int32.lt_iff_toInt_lt, es, et] at c
    have ht : 6 * t + 6 ≤ L := by omega
    have hN : ∀ C M : zM, RR C M → lW g aC aM b L xs 1183 (lvL b aC aM t) [] C M := by
      intro C M hR
      refine l_iinc (v := iv (6 * (t + 1) : Nat)) (lvL b aC aM (t + 1)) dL_1183 0 rfl ?_ (by decide) rfl ?_
      · show iv (6 * t : Nat) + iv 6 = _
        rw [iv_add]
        congr 1
      · refine l_goto 18 dL_1186 (by decide) ?_
        exact ih (t + 1) C M (by omega) (by omega) hR
    refine l_aload dL_27 3 rfl ?_
    refine l_iload dL_28 0 rfl ?_
    refine l_iald (j := 6 * t) rfl (by omega) hL dL_29 ?_
    refine l_bipush (v := 31) dL_30 (by decide +kernel) ?_
    refine l_iand dL_32 ?_
    refine l_table [172, 195, 228, 261, 304, 367, 390, 413, 436, 459, 492, 525, 558, 581, 614, 647, 670, 694, 717, 740, 813, 876, 909, 932, 965, 998, 1031, 1074, 1108, 1121, 1160] 1183 dL_33 (by decide +kernel) (by decide) (by decide) (fun _ => hN C M hR) (fun i q hi _ => ?_)
    match i, hi with
    | 0, hi =>
      cases hi
      exact lc_0 hL ht hN hR
    | 1, hi =>
      cases hi
      exact lc_1 hL ht hN hR
    | 2, hi =>
      cases hi
      exact lc_2 hL ht hN hR
    | 3, hi =>
      cases hi
      exact lc_3 hL ht hN hR
    | 4, hi =>
      cases hi
      exact lc_4 hL ht hN hR
    | 5, hi =>
      cases hi
      exact lc_5 hL ht hN hR
    | 6, hi =>
      cases hi
      exact lc_6 hL ht hN hR
    | 7, hi =>
      cases hi
      exact lc_7 hL ht hN hR
    | 8, hi =>
      cases hi
      exact lc_8 hL ht hN hR
    | 9, hi =>
      cases hi
      exact lc_9 hL ht hN hR
    | 10, hi =>
      cases hi
      exact lc_10 hL ht hN hR
    | 11, hi =>
      cases hi
      exact lc_11 hL ht hN hR
    | 12, hi =>
      cases hi
      exact lc_12 hL ht hN hR
    | 13, hi =>
      cases hi
      exact lc_13 hL ht hN hR
    | 14, hi =>
      cases hi
      exact lc_14 hL ht hN hR
    | 15, hi =>
      cases hi
      exact lc_15 hL ht hN hR
    | 16, hi =>
      cases hi
      exact lc_16 hL ht hN hR
    | 17, hi =>
      cases hi
      exact lc_17 hL ht hN hR
    | 18, hi =>
      cases hi
      exact lc_18 hL ht hN hR
    | 19, hi =>
      cases hi
      exact lc_19 hL ht hN hR
    | 20, hi =>
      cases hi
      exact lc_20 hL ht hN hR
    | 21, hi =>
      cases hi
      exact lc_21 hL ht hN hR
    | 22, hi =>
      cases hi
      exact lc_22 hL ht hN hR
    | 23, hi =>
      cases hi
      exact lc_23 hL ht hN hR
    | 24, hi =>
      cases hi
      exact lc_24 hL ht hN hR
    | 25, hi =>
      cases hi
      exact lc_25 hL ht hN hR
    | 26, hi =>
      cases hi
      exact lc_26 hL ht hN hR
    | 27, hi =>
      cases hi
      exact lc_27 hL ht hN hR
    | 28, hi =>
      cases hi
      exact lc_28 hL ht hN hR
    | 29, hi =>
      cases hi
      exact lc_29 hL ht hN hR
    | 30, hi =>
      cases hi
      exact lc_30 hL ht hN hR
    | i + 31, hi =>
      simp at hi
end LO
