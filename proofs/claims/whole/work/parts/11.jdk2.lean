/-! THE JDK's own methods: what they answer -/
theorem cJ3_check {sh : List zSh} {g : zG} {d : Nat} {Q : Int32 → zM → Prop} {M : zM} {l0 l1 : Int32} {v : Value} (hv : v = .null ∨ v = .ref 3002) (h1 : ¬ l0 < 0) (h2 : l0 < l1) (h : Q l0 M) : zCi sh g d mJ3_checkIndex_8e157 [.int l0, .int l1, v] M Q := by
  rcases hv with rfl | rfl
  · refine zW.enter (by decide +kernel) (Nat.le_of_ble_eq_true rfl) ?_
    change zW sh g d mJ3_checkIndex_8e157 (zi Q) 0 [(0, .int l0), (1, .int l1), (2, .null)] [] M
    refine z_iload_n dJ3_checkIndex_8e157_0 0 rfl ?_
    refine z_if_lt 9 dJ3_checkIndex_8e157_1 (by decide) (fun c => absurd c h1) (fun _ => ?_)
    refine z_iload_n dJ3_checkIndex_8e157_4 0 rfl ?_
    refine z_iload_n dJ3_checkIndex_8e157_5 1 rfl ?_
    refine z_icmp_lt 16 dJ3_checkIndex_8e157_6 (by decide) (fun _ => ?_) (fun c => absurd h2 c)
    refine z_iload_n dJ3_checkIndex_8e157_16 0 rfl ?_
    exact z_iret (st := []) rfl rfl dJ3_checkIndex_8e157_17 ⟨_, rfl, h⟩
  · refine zW.enter (by decide +kernel) (Nat.le_of_ble_eq_true rfl) ?_
    change zW sh g d mJ3_checkIndex_8e157 (zi Q) 0 [(0, .int l0), (1, .int l1), (2, .ref 3002)] [] M
    refine z_iload_n dJ3_checkIndex_8e157_0 0 rfl ?_
    refine z_if_lt 9 dJ3_checkIndex_8e157_1 (by decide) (fun c => absurd c h1) (fun _ => ?_)
    refine z_iload_n dJ3_checkIndex_8e157_4 0 rfl ?_
    refine z_iload_n dJ3_checkIndex_8e157_5 1 rfl ?_
    refine z_icmp_lt 16 dJ3_checkIndex_8e157_6 (by decide) (fun _ => ?_) (fun c => absurd h2 c)
    refine z_iload_n dJ3_checkIndex_8e157_16 0 rfl ?_
    exact z_iret (st := []) rfl rfl dJ3_checkIndex_8e157_17 ⟨_, rfl, h⟩
theorem cJ0_check {sh : List zSh} {g : zG} {d : Nat} {Q : zM → Prop} {M : zM} {l0 l1 : Int32} (h1 : ¬ l0 < 0) (h2 : l0 < l1) (h : Q M) : zCv sh g (d + 1) mJ0_checkIndex_df160 [.int l0, .int l1] M Q := by
  refine zW.enter (by decide +kernel) (Nat.le_of_ble_eq_true rfl) ?_
  change zW sh g (d + 1) mJ0_checkIndex_df160 (zv Q) 0 [(0, .int l0), (1, .int l1)] [] M
  refine z_iload_n dJ0_checkIndex_df160_0 0 rfl ?_
  refine z_iload_n dJ0_checkIndex_df160_1 1 rfl ?_
  refine z_getsF (zat 612 (by decide +kernel) rfl) dJ0_checkIndex_df160_2 (fun v hv => ?_)
  refine z_callS (m2 := mJ3_checkIndex_8e157) (st := []) [.int l0, .int l1, v] okJ3_checkIndex_8e157 (Or.inl lkJ0_1059) rfl rfl (Nat.le_of_ble_eq_true rfl) dJ0_checkIndex_df160_5 (zgo_i (cJ3_check (Q := fun x M1 => M1 = M) hv h1 h2 rfl) fun x1 M1 e => ?_)
  subst e
  refine z_popi dJ0_checkIndex_df160_8 ?_
  exact z_vret (st := []) rfl dJ0_checkIndex_df160_9 ⟨rfl, h⟩
/-- the char at k of the literal q -/
def zChr (q k : Nat) : Int32 := (zBy.getD q []).getD k 0
theorem zChr_ok : ∀ q, q < 23 → ∀ k, k < zLen.getD q 0 → (((zBy.getD q []).getD k 0 &&& 255).toUInt32 % 65536).toInt32 = zChr q k ∧ narrow .char (.int (zChr q k)) = .int (zChr q k) := by decide +kernel
theorem c_length {sh : List zSh} {g : zG} {d : Nat} {Q : Int32 → zM → Prop} {M : zM} {q : Nat} (hq : q < 23) (h : Q (iv (zLen.getD q 0)) M) : zCi sh g (d + 1) mJ0_length_8abf5 [.ref (4096 + q)] M Q :=
  vJ0_length_8abf5 hq (vJ0_coder_7d493 hq ⟨rfl, by rw [sb_shr0]; exact h⟩)
theorem zlen_small : ∀ q, q < 23 → zLen.getD q 0 < 8 := by decide +kernel
theorem c_charAt {sh : List zSh} {g : zG} {d : Nat} {Q : Int32 → zM → Prop} {M : zM} {q k : Nat} (hq : q < 23) (hk : k < zLen.getD q 0) (h : Q (zChr q k) M) : zCi sh g (d + 3) mJ0_charAt_5068e [.ref (4096 + q), .int (iv k)] M Q := by
  have hs := zlen_small q hq
  obtain ⟨e1, e2⟩ := zChr_ok q hq k hk
  have t1 : (iv k).toInt = k := iv_toInt (by omega) (by omega)
  have t2 : (iv (zLen.getD q 0)).toInt = zLen.getD q 0 := iv_toInt (by omega) (by omega)
  refine vJ0_charAt_5068e hq (vJ0_isLatin1_aae02 hq ?_)
  refine ⟨fun c => absurd c (by decide), fun _ => ?_⟩
  refine vJ1_charAt_3b067 hq (cJ0_check ?_ ?_ ?_)
  · rw [Int32.lt_iff_toInt_lt, t1, Int32.toInt_zero]; omega
  · rw [Int32.lt_iff_toInt_lt, t1, t2]; omega
  · refine ⟨k, rfl, hk, ?_⟩
    rw [e1]
    exact ⟨e2, e2, h⟩
/-- all places of a row -/
def zfill (M : zM) (o n : Nat) (x : Int32) : zM := fun a j => if a = o ∧ j < n then x else M a j
theorem zfill_0 {M : zM} {o : Nat} {x : Int32} : zfill M o 0 x = M := by
  funext a j
  simp [zfill]
theorem zfill_s {M : zM} {o n : Nat} {x : Int32} : zup (zfill M o n x) o n x = zfill M o (n + 1) x := by
  funext a j
  simp only [zup, zfill]
  by_cases ha : a = o
  · by_cases hj : j = n
    · simp [ha, hj]
    · by_cases h2 : j < n
      · simp [ha, hj, h2, Nat.lt_succ_of_lt h2]
      · simp [ha, hj, h2, show ¬ j < n + 1 by omega]
  · simp [ha]
theorem c_fill {sh : List zSh} {g : zG} {d : Nat} {Q : zM → Prop} {M : zM} {o n : Nat} {l : List (Option Nat)} {x : Int32} (hs : sh[o]? = some (0, n, l)) (hn : n < 2 ^ 31) (h : Q (zfill M o n x)) : zCv sh g d mJ7_fill_53178 [.ref o, .int x] M Q := by
  refine zW.enter (by decide +kernel) (Nat.le_of_ble_eq_true rfl) ?_
  change zW sh g d mJ7_fill_53178 (zv Q) 0 [(0, .ref o), (1, .int x)] [] M
  refine z_iconst (v := 0) dJ7_fill_53178_0 (by decide) ?_
  refine z_istore_n [(2, .int 0), (0, .ref o), (1, .int x)] dJ7_fill_53178_1 (by decide) rfl ?_
  refine z_aload_n dJ7_fill_53178_2 1 rfl ?_
  refine z_alen (v := iv n) hs (by decide) rfl dJ7_fill_53178_3 ?_
  refine z_istore_n [(3, .int (iv n)), (2, .int 0), (0, .ref o), (1, .int x)] dJ7_fill_53178_4 (by decide) rfl ?_
  have loop : ∀ k j : Nat, j + k = n → zW sh g d mJ7_fill_53178 (zv Q) 5 [(3, .int (iv n)), (2, .int (iv j)), (0, .ref o), (1, .int x)] [] (zfill M o j x) := by
    intro k
    induction k with
    | zero =>
      intro j hj
      refine z_iload_n dJ7_fill_53178_5 1 rfl ?_
      refine z_iload_n dJ7_fill_53178_6 0 rfl ?_
      have e : j = n := by omega
      subst e
      refine z_icmp_ge 20 dJ7_fill_53178_7 (by decide) (fun _ => ?_) (fun c => absurd (Int32.le_refl _) c)
      exact z_vret (st := []) rfl dJ7_fill_53178_20 ⟨rfl, h⟩
    | succ k ih =>
      intro j hj
      refine z_iload_n dJ7_fill_53178_5 1 rfl ?_
      refine z_iload_n dJ7_fill_53178_6 0 rfl ?_
      refine z_icmp_ge 20 dJ7_fill_53178_7 (by decide) (fun c => ?_) (fun _ => ?_)
      · rw [Int32.le_iff_toInt_le, iv_toInt (by omega) (by omega), iv_toInt (by omega) (by omega)] at c
        omega
      refine z_aload_n dJ7_fill_53178_10 2 rfl ?_
      refine z_iload_n dJ7_fill_53178_11 1 rfl ?_
      refine z_iload_n dJ7_fill_53178_12 3 rfl ?_
      refine z_iast2 (k0 := j) hs hn rfl (by omega) dJ7_fill_53178_13 ?_
      rw [zfill_s]
      refine z_iinc (x := iv j) (v := iv (j + 1 : Nat)) [(2, .int (iv (j + 1 : Nat))), (3, .int (iv n)), (0, .ref o), (1, .int x)] dJ7_fill_53178_14 1 rfl ?_ (by decide) rfl ?_
      · show Int32.ofInt _ + Int32.ofInt _ = Int32.ofInt _
        rw [← Int32.ofInt_add]
        rfl
      refine z_goto 5 dJ7_fill_53178_17 (by decide) ?_
      exact zW.sub [1, 0, 2, 3] rfl (ih (j + 1) (by omega))
  have h0 := loop n 0 (by omega)
  rw [zfill_0] at h0
  exact h0
/-- Integer.bitCount -/
def jsh (x k : Int32) : Int32 := (x.toUInt32 >>> (k.toUInt32 &&& Int32.toUInt32 31)).toInt32
def jbc3 (x : Int32) : Int32 := ((x - (jsh x 1 &&& 1431655765)) &&& 858993459) + (jsh (x - (jsh x 1 &&& 1431655765)) 2 &&& 858993459)
def jbc5 (x : Int32) : Int32 := (jbc3 x + jsh (jbc3 x) 4) &&& 252645135
def jbc (x : Int32) : Int32 := ((jbc5 x + jsh (jbc5 x) 8) + jsh (jbc5 x + jsh (jbc5 x) 8) 16) &&& 63
theorem c_bitCount {sh : List zSh} {g : zG} {d : Nat} {Q : Int32 → zM → Prop} {M : zM} {x : Int32} (h : Q (jbc x) M) : zCi sh g d mJ6_bitCount_0f7a4 [.int x] M Q := by
  refine vJ6_bitCount_0f7a4 (fun v1 e1 v2 e2 v3 e3 v4 e4 v5 e5 v6 e6 => ?_)
  subst e1; subst e2; subst e3; subst e4; subst e5; subst e6
  exact h
