/-! BITS, and the book -/
theorem iv_bv (n : Nat) : (iv n).toBitVec = BitVec.ofNat 32 n := by
  unfold iv
  rw [Int32.toBitVec_ofInt, BitVec.ofInt_natCast]
theorem bv_inj {a b : Int32} (h : a.toBitVec = b.toBitVec) : a = b := Int32.toBitVec_inj.mp h
theorem or_bv {a b k : Nat} (ha : a * 2 ^ k < 2147483648) (hb : b < 2 ^ k) (hk : k < 31) : (BitVec.ofNat 32 a <<< k) ||| BitVec.ofNat 32 b = BitVec.ofNat 32 (a * 2 ^ k + b) := by
  have h1 : a ≤ a * 2 ^ k := Nat.le_mul_of_pos_right a (Nat.two_pow_pos k)
  have h2 : 2 ^ k ≤ 2 ^ 30 := Nat.pow_le_pow_right (by decide) (by omega)
  apply BitVec.eq_of_toNat_eq
  rw [BitVec.toNat_or, BitVec.toNat_shiftLeft, BitVec.toNat_ofNat, BitVec.toNat_ofNat, BitVec.toNat_ofNat]
  rw [Nat.mod_eq_of_lt (show a < 2 ^ 32 by omega), Nat.mod_eq_of_lt (show b < 2 ^ 32 by omega), Nat.shiftLeft_eq, Nat.mod_eq_of_lt (show a * 2 ^ k < 2 ^ 32 by omega), Nat.mod_eq_of_lt (show a * 2 ^ k + b < 2 ^ 32 by omega)]
  rw [← Nat.shiftLeft_eq, ← Nat.shiftLeft_add_eq_or_of_lt hb]
theorem or14 {a b : Nat} (ha : a < 131072) (hb : b < 16384) : (iv a <<< ((14 : Int32) &&& 31)) ||| iv b = iv (a * 16384 + b : Nat) := by
  apply bv_inj
  rw [Int32.toBitVec_or, Int32.toBitVec_shiftLeft, iv_bv, iv_bv, iv_bv]
  exact or_bv (k := 14) (by omega) (by omega) (by omega)
theorem or11 {a b : Nat} (ha : a < 131072) (hb : b < 2048) : (iv a <<< ((11 : Int32) &&& 31)) ||| iv b = iv (a * 2048 + b : Nat) := by
  apply bv_inj
  rw [Int32.toBitVec_or, Int32.toBitVec_shiftLeft, iv_bv, iv_bv, iv_bv]
  exact or_bv (k := 11) (by omega) (by omega) (by omega)
theorem or5 {a b : Nat} (ha : a < 131072) (hb : b < 32) : (iv a <<< ((5 : Int32) &&& 31)) ||| iv b = iv (a * 32 + b : Nat) := by
  apply bv_inj
  rw [Int32.toBitVec_or, Int32.toBitVec_shiftLeft, iv_bv, iv_bv, iv_bv]
  exact or_bv (k := 5) (by omega) (by omega) (by omega)
theorem or1 {a b : Nat} (ha : a < 131072) (hb : b < 2) : (iv a <<< ((1 : Int32) &&& 31)) ||| iv b = iv (a * 2 + b : Nat) := by
  apply bv_inj
  rw [Int32.toBitVec_or, Int32.toBitVec_shiftLeft, iv_bv, iv_bv, iv_bv]
  exact or_bv (k := 1) (by omega) (by omega) (by omega)
theorem sr_bv {n : Nat} (k : Nat) (hn : n < 2147483648) {x : Int32} (h : x.toBitVec = (BitVec.ofNat 32 n).sshiftRight k) : x = iv (n / 2 ^ k : Nat) := by
  have h1 : n / 2 ^ k ≤ n := Nat.div_le_self _ _
  apply bv_inj
  rw [h, iv_bv]
  apply BitVec.eq_of_toInt_eq
  have e : ∀ m : Nat, m < 2147483648 → (BitVec.ofNat 32 m).toInt = m := fun m hm => by
    rw [BitVec.toInt_eq_toNat_bmod, BitVec.toNat_ofNat, Nat.mod_eq_of_lt (by omega), Int.bmod_def]
    omega
  rw [BitVec.toInt_sshiftRight, e n hn, e _ (by omega), Int.shiftRight_eq_div_pow]
  exact (Int.natCast_ediv n (2 ^ k)).symm
theorem sr14 {n : Nat} (hn : n < 2147483648) : iv n >>> ((14 : Int32) &&& 31) = iv (n / 16384 : Nat) := by
  refine sr_bv 14 hn ?_
  rw [Int32.toBitVec_shiftRight, iv_bv]
  rfl
theorem sr11 {n : Nat} (hn : n < 2147483648) : iv n >>> ((11 : Int32) &&& 31) = iv (n / 2048 : Nat) := by
  refine sr_bv 11 hn ?_
  rw [Int32.toBitVec_shiftRight, iv_bv]
  rfl
theorem sr5 {n : Nat} (hn : n < 2147483648) : iv n >>> ((5 : Int32) &&& 31) = iv (n / 32 : Nat) := by
  refine sr_bv 5 hn ?_
  rw [Int32.toBitVec_shiftRight, iv_bv]
  rfl
theorem sr1 {n : Nat} (hn : n < 2147483648) : iv n >>> ((1 : Int32) &&& 31) = iv (n / 2 : Nat) := by
  refine sr_bv 1 hn ?_
  rw [Int32.toBitVec_shiftRight, iv_bv]
  rfl
theorem and_bv {n : Nat} (k : Nat) (hk : k < 31) (hn : n < 2147483648) : iv n &&& iv (2 ^ k - 1 : Nat) = iv (n % 2 ^ k : Nat) := by
  have h2 : 2 ^ k ≤ 2 ^ 30 := Nat.pow_le_pow_right (by decide) (by omega)
  have h3 : n % 2 ^ k ≤ n := Nat.mod_le _ _
  apply bv_inj
  rw [Int32.toBitVec_and, iv_bv, iv_bv, iv_bv]
  apply BitVec.eq_of_toNat_eq
  rw [BitVec.toNat_and, BitVec.toNat_ofNat, BitVec.toNat_ofNat, BitVec.toNat_ofNat, Nat.mod_eq_of_lt (show n < 2 ^ 32 by omega), Nat.mod_eq_of_lt (show 2 ^ k - 1 < 2 ^ 32 by omega), Nat.mod_eq_of_lt (show n % 2 ^ k < 2 ^ 32 by omega)]
  exact Nat.and_two_pow_sub_one_eq_mod n k
theorem and7 {n : Nat} (hn : n < 2147483648) : iv n &&& 7 = iv (n % 8 : Nat) := and_bv 3 (by omega) hn
theorem and63 {n : Nat} (hn : n < 2147483648) : iv n &&& 63 = iv (n % 64 : Nat) := and_bv 6 (by omega) hn
theorem and15 {n : Nat} (hn : n < 2147483648) : iv n &&& 15 = iv (n % 16 : Nat) := and_bv 4 (by omega) hn
theorem and1 {n : Nat} (hn : n < 2147483648) : iv n &&& 1 = iv (n % 2 : Nat) := and_bv 1 (by omega) hn
theorem rng_nat {x : Int32} {b : Nat} (h : rng x 0 b) : ∃ k : Nat, x = iv k ∧ k ≤ b ∧ x.toInt = k := by
  obtain ⟨h1, h2⟩ := h
  exact ⟨x.toInt.toNat, by rw [Int.toNat_of_nonneg h1]; exact iv_of x, by omega, by omega⟩
theorem pack_eq {w : Nat → Int32} {i : Nat} (h : rng (w (566 + 5 * i)) 0 9999 ∧ rng (w (567 + 5 * i)) 0 5 ∧ rng (w (568 + 5 * i)) 0 63 ∧ rng (w (569 + 5 * i)) 0 9 ∧ rng (w (570 + 5 * i)) 0 1) :
    ∃ a s c m f : Nat, a ≤ 9999 ∧ s ≤ 5 ∧ c ≤ 63 ∧ m ≤ 9 ∧ f ≤ 1 ∧ w (566 + 5 * i) = iv a ∧ w (567 + 5 * i) = iv s ∧ w (568 + 5 * i) = iv c ∧ w (569 + 5 * i) = iv m ∧ w (570 + 5 * i) = iv f ∧ packV w i = iv (a * 16384 + (s * 2048 + (c * 32 + (m * 2 + f))) : Nat) := by
  obtain ⟨h1, h2, h3, h4, h5⟩ := h
  obtain ⟨a, ea, ha, -⟩ := rng_nat (b := 9999) h1
  obtain ⟨s, es, hs, -⟩ := rng_nat (b := 5) h2
  obtain ⟨c, ec, hc, -⟩ := rng_nat (b := 63) h3
  obtain ⟨m, em, hm, -⟩ := rng_nat (b := 9) h4
  obtain ⟨f, ef, hf, -⟩ := rng_nat (b := 1) h5
  refine ⟨a, s, c, m, f, ha, hs, hc, hm, hf, ea, es, ec, em, ef, ?_⟩
  rw [packV, ea, es, ec, em, ef, Int32.or_assoc, Int32.or_assoc, Int32.or_assoc, or1 (by omega) (by omega), or5 (by omega) (by omega), or11 (by omega) (by omega), or14 (by omega) (by omega)]
def bookV (w : Nat → Int32) (i what : Int32) : Int32 := if skB (w 2) i = true ∧ 0 ≤ what.toInt ∧ what.toInt ≤ 4 then w (566 + 5 * i.toInt.toNat + what.toInt.toNat) else -1
section BK
variable {g : zG} {d : Nat} {M C : zM} {w : Nat → Int32} {Q : Int32 → zM → Prop}
theorem c9_book {i what : Int32} (hq : IMo (M 1)) (h : Q (bookV (M 1) i what) M) : zCi shM g (d + 1) mX9_book [.ref 0, .int i, .int what] M Q := by
  have hn := hq.1
  unfold bookV at h
  refine vX9_book (c9_isIn ?_)
  rw [isIn_sk hn (by omega)]
  refine ⟨fun hb => ?_, fun hb => c9_isIn ⟨fun hc => ?_, fun hc => ?_⟩⟩
  · rw [if_neg (fun z => by rw [hb] at z; exact absurd z.1 (by decide))] at h
    exact h
  · simp only [isInB, decide_eq_true_eq, decide_eq_false_iff_not, Int32.reduceToInt] at hc
    rw [if_neg (fun z => by omega)] at h
    exact h
  · obtain ⟨k, rfl, hk, hk2, hk3⟩ := sk_nat (z := 150) hn.2 hb
    simp only [isInB, decide_eq_true_eq, decide_eq_false_iff_not, Int32.reduceToInt] at hc
    obtain ⟨j, rfl, hj, hj3⟩ := iv_nat (x := what) (n := 5) (by omega) (by omega)
    rw [if_pos ⟨hb, by omega, by omega⟩, iv_tn (by omega), iv_tn (by omega)] at h
    refine ⟨566 + 5 * k + j, ?_, by omega, h⟩
    rw [show (566 : Int32) = iv 566 from rfl, show (5 : Int32) = iv 5 from rfl, iv_mul, iv_add, iv_add]
    congr 1
theorem c8_book {i what : Int32} (hq : IMo w) (hb : IBk w) (hr : RMo C 3 w) (hB : RBk C 9 w) (h : Q (bookV w i what) C) : zCi shC g d mX8_book [.ref 0, .int i, .int what] C Q := by
  have hn := hq.1
  obtain ⟨n0, n1⟩ := hn
  have e7 : C 3 7 = w 2 := hr.2.2.2.2.2
  have z0 : (0 : Int32).toInt = 0 := rfl
  unfold bookV at h
  refine vX8_book ⟨fun c => ?_, fun c => ⟨fun c2 => ?_, fun c2 => ⟨fun c3 => ?_, fun c3 => ?_⟩⟩⟩
  · rw [Int32.lt_iff_toInt_lt, z0] at c
    rw [if_neg (fun z => by have := z.1; simp only [skB, decide_eq_true_eq, decide_eq_false_iff_not] at this; omega)] at h
    exact h
  · rw [e7, Int32.le_iff_toInt_le] at c2
    rw [if_neg (fun z => by have := z.1; simp only [skB, decide_eq_true_eq, decide_eq_false_iff_not] at this; omega)] at h
    exact h
  · rw [Int32.lt_iff_toInt_lt, z0] at c
    rw [e7, Int32.le_iff_toInt_le] at c2
    obtain ⟨k, rfl, hk, hk3⟩ := iv_nat (x := i) (n := 150) (by omega) (by omega)
    have hsk : skB (w 2) (iv k) = true := by
      simp only [skB, decide_eq_true_eq, decide_eq_false_iff_not]
      omega
    obtain ⟨a, s, cc, m, f, ha, hs, hc, hm, hf, ea, es, ec, em, ef, ep⟩ := pack_eq (hb.2 k (by omega))
    have e9 : C 9 k = iv (a * 16384 + (s * 2048 + (cc * 32 + (m * 2 + f))) : Nat) := (hB k (by omega)).trans ep
    rw [iv_tn (by omega)] at h
    have o : ∀ (j : Nat) (x : Int32), j ≤ 4 → what.toInt = j → w (566 + 5 * k + j) = x → Q x C := by
      intro j x hj hw hx
      rw [if_pos ⟨hsk, by omega, by omega⟩, show what.toInt.toNat = j by omega, hx] at h
      exact h
    refine ⟨k, rfl, hk, fun z => ?_, fun z => ?_, fun z => ?_, fun z => ?_, fun z => ?_, fun z => ?_⟩
    · rw [if_neg (fun y => by omega)] at h
      exact h
    · refine o 0 _ (by omega) z ?_
      rw [e9, sr14 (by omega), show 566 + 5 * k + 0 = 566 + 5 * k by omega, ea]
      congr 2
      omega
    · refine o 1 _ (by omega) z ?_
      rw [e9, sr11 (by omega), and7 (by omega), show 566 + 5 * k + 1 = 567 + 5 * k by omega, es]
      congr 2
      omega
    · refine o 2 _ (by omega) z ?_
      rw [e9, sr5 (by omega), and63 (by omega), show 566 + 5 * k + 2 = 568 + 5 * k by omega, ec]
      congr 2
      omega
    · refine o 3 _ (by omega) z ?_
      rw [e9, sr1 (by omega), and15 (by omega), show 566 + 5 * k + 3 = 569 + 5 * k by omega, em]
      congr 2
      omega
    · refine o 4 _ (by omega) z ?_
      rw [e9, and1 (by omega), show 566 + 5 * k + 4 = 570 + 5 * k by omega, ef]
      congr 2
      omega
  · rw [e7, Int32.le_iff_toInt_le] at c2
    rw [Int32.lt_iff_toInt_lt] at c3
    simp only [Int32.reduceToInt] at c3
    omega
end BK
