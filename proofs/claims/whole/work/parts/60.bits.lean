/-! BITS of any int, sets of 32, how many are in one -/
def bitB (x : Int32) (k : Nat) : Bool := x.toBitVec.getLsbD k
theorem smod32 : ∀ k : Nat, k < 32 → (BitVec.ofNat 32 k).smod 32 = BitVec.ofNat 32 k := by decide +kernel
theorem and31 {k : Nat} (hk : k < 32) : iv k &&& 31 = iv k := by
  have h : iv k &&& 31 = iv (k % 2 ^ 5 : Nat) := and_bv (n := k) 5 (by omega) (by omega)
  rw [h, Nat.mod_eq_of_lt hk]
theorem srK {x : Int32} {k : Nat} (hk : k < 32) : (x >>> (iv k &&& 31)).toBitVec = x.toBitVec.sshiftRight k := by
  rw [and31 hk, Int32.toBitVec_shiftRight, iv_bv, smod32 k hk, BitVec.sshiftRight_eq', BitVec.toNat_ofNat, Nat.mod_eq_of_lt (by omega)]
theorem slK {x : Int32} {k : Nat} (hk : k < 32) : (x <<< (iv k &&& 31)).toBitVec = x.toBitVec <<< k := by
  rw [and31 hk, Int32.toBitVec_shiftLeft, iv_bv, smod32 k hk, BitVec.shiftLeft_eq', BitVec.toNat_ofNat, Nat.mod_eq_of_lt (by omega)]
theorem bit_one1 (k : Nat) : (1 : Int32).toBitVec.getLsbD k = decide (k = 0) := by
  show (1#32).getLsbD k = _
  rw [BitVec.getLsbD_one]
  simp
theorem bit_zb (b : Bool) (k : Nat) : (zbI b).toBitVec.getLsbD k = (b && decide (k = 0)) := by
  cases b
  · show (0#32).getLsbD k = _
    simp
  · show (1#32).getLsbD k = _
    rw [BitVec.getLsbD_one]
    simp
theorem bitAt {x : Int32} {k : Nat} (hk : k < 32) : (x >>> (iv k &&& 31)) &&& 1 = zbI (bitB x k) := by
  apply bv_inj
  rw [Int32.toBitVec_and, srK hk]
  apply BitVec.eq_of_getLsbD_eq
  intro i hi
  rw [BitVec.getLsbD_and, bit_one1, bit_zb]
  by_cases c : i = 0
  · subst c
    rw [BitVec.getLsbD_sshiftRight, if_pos (by omega)]
    unfold bitB
    show (!decide (32 ≤ 0) && x.toBitVec.getLsbD k && decide (0 = 0)) = (x.toBitVec.getLsbD k && decide (0 = 0))
    cases x.toBitVec.getLsbD k <;> rfl
  · simp [c]
theorem bitAt1 {x : Int32} {k : Nat} (hk : k < 32) : (x >>> (iv k &&& 31)) &&& 1 = 1 ↔ bitB x k = true := by
  rw [bitAt hk]
  cases bitB x k <;> decide
theorem bitAt0 {x : Int32} {k : Nat} (hk : k < 32) : (x >>> (iv k &&& 31)) &&& 1 = 0 ↔ bitB x k = false := by
  rw [bitAt hk]
  cases bitB x k <;> decide
theorem bit_or {x y : Int32} {k : Nat} : bitB (x ||| y) k = (bitB x k || bitB y k) := by
  unfold bitB
  rw [Int32.toBitVec_or, BitVec.getLsbD_or]
theorem bit_and {x y : Int32} {k : Nat} : bitB (x &&& y) k = (bitB x k && bitB y k) := by
  unfold bitB
  rw [Int32.toBitVec_and, BitVec.getLsbD_and]
theorem bit_xor {x y : Int32} {k : Nat} : bitB (x ^^^ y) k = (bitB x k ^^ bitB y k) := by
  unfold bitB
  rw [Int32.toBitVec_xor, BitVec.getLsbD_xor]
theorem bit_m1 {k : Nat} (hk : k < 32) : bitB (-1) k = true := by
  have e : (-1 : Int32).toBitVec = BitVec.allOnes 32 := by decide
  unfold bitB
  rw [e, BitVec.getLsbD_allOnes]
  exact decide_eq_true hk
theorem bit_not {x : Int32} {k : Nat} (hk : k < 32) : bitB (x ^^^ (-1)) k = !bitB x k := by
  rw [bit_xor, bit_m1 hk]
  cases bitB x k <;> rfl
theorem bit_z (k : Nat) : bitB 0 k = false := by
  show (0#32).getLsbD k = _
  simp
theorem bit_one {n k : Nat} (hn : n < 32) (hk : k < 32) : bitB (1 <<< (iv n &&& 31)) k = decide (k = n) := by
  unfold bitB
  rw [slK hn]
  rw [BitVec.getLsbD_shiftLeft, bit_one1]
  by_cases c : k = n
  · subst c
    simp [hk]
  · rcases Nat.lt_or_ge k n with h | h
    · simp [h, c]
    · have h2 : ¬ k - n = 0 := by omega
      simp [h2, c]
theorem bit_ext {x y : Int32} (h : ∀ k, k < 32 → bitB x k = bitB y k) : x = y := bv_inj (BitVec.eq_of_getLsbD_eq h)
theorem bit_iv {n k : Nat} (hk : k < 32) : bitB (iv n) k = n.testBit k := by
  unfold bitB
  rw [iv_bv, BitVec.getLsbD_ofNat, decide_eq_true hk, Bool.true_and]
theorem bit_bset {p : Nat → Bool} {k : Nat} (hk : k < 32) : ∀ n, n ≤ 32 → bitB (bset p n) k = (decide (k < n) && p k)
  | 0, _ => by
    rw [bset, bit_z]
    simp
  | n + 1, h => by
    have ih := bit_bset (p := p) hk n (by omega)
    rw [bset]
    split
    · rename_i c
      rw [bit_or, ih, bit_one (by omega) hk]
      by_cases e : k = n
      · subst e
        simp [c]
      · have e2 : decide (k < n + 1) = decide (k < n) := decide_eq_decide.mpr (by omega)
        rw [e2, decide_eq_false e, Bool.or_false]
    · rename_i c
      rw [ih]
      by_cases e : k = n
      · subst e
        simp [c]
      · have e2 : decide (k < n + 1) = decide (k < n) := decide_eq_decide.mpr (by omega)
        rw [e2]
/-- without those of another set -/
theorem bset_less {p q : Nat → Bool} {n : Nat} (hn : n ≤ 32) : bset p n &&& (bset q n ^^^ (-1)) = bset (fun i => p i && !q i) n := by
  refine bit_ext fun k hk => ?_
  rw [bit_and, bit_not hk, bit_bset hk n hn, bit_bset hk n hn, bit_bset hk n hn]
  cases decide (k < n) <;> cases p k <;> cases q k <;> rfl
theorem one_sl {n : Nat} (hn : n < 31) : (1 : Int32) <<< (iv n &&& 31) = iv (2 ^ n : Nat) := by
  refine bit_ext fun k hk => ?_
  rw [bit_one (by omega) hk, bit_iv hk, Nat.testBit_two_pow]
  exact decide_eq_decide.mpr ⟨fun e => e.symm, fun e => e.symm⟩
theorem bset_nat {p : Nat → Bool} : ∀ n, n ≤ 30 → ∃ m : Nat, m < 2 ^ n ∧ bset p n = iv m
  | 0, _ => ⟨0, by decide, rfl⟩
  | n + 1, h => by
    obtain ⟨m, hm, e⟩ := bset_nat (p := p) n (by omega)
    have hp : 2 ^ (n + 1) = 2 ^ n + 2 ^ n := by rw [Nat.pow_succ]; omega
    have h30 : 2 ^ n ≤ 2 ^ 29 := Nat.pow_le_pow_right (by decide) (by omega)
    rw [bset]
    split
    · refine ⟨1 * 2 ^ n + m, by omega, ?_⟩
      rw [e, Int32.or_comm]
      apply bv_inj
      rw [Int32.toBitVec_or, slK (by omega), iv_bv, iv_bv]
      exact or_bv (by rw [Nat.one_mul]; omega) hm (by omega)
    · exact ⟨m, by omega, e⟩
/-- how many -/
def cntB (p : Nat → Bool) : Nat → Nat
  | 0 => 0
  | n + 1 => cntB p n + (if p n = true then 1 else 0)
theorem cntB_congr {p q : Nat → Bool} : ∀ n, (∀ k, k < n → p k = q k) → cntB p n = cntB q n
  | 0, _ => rfl
  | n + 1, h => by
    rw [cntB, cntB, cntB_congr n fun k hk => h k (by omega), h n (by omega)]
theorem cntB_le {p : Nat → Bool} : ∀ n, cntB p n ≤ n
  | 0 => Nat.le_refl 0
  | n + 1 => by
    have := cntB_le (p := p) n
    rw [cntB]
    split <;> omega
theorem cntB_cut {p : Nat → Bool} {n : Nat} : ∀ d, cntB (fun k => decide (k < n) && p k) (n + d) = cntB p n
  | 0 => cntB_congr n fun k hk => by rw [decide_eq_true hk, Bool.true_and]
  | d + 1 => by
    have e : n + (d + 1) = (n + d) + 1 := by omega
    rw [e, cntB, cntB_cut d, decide_eq_false (by omega), Bool.false_and, if_neg (by decide), Nat.add_zero]
theorem jbc_small0 : ∀ a : Nat, a < 32 → ∀ b : Nat, b < 32 → jbc (iv (32 * a + b : Nat)) = iv (cntB (fun k => (32 * a + b).testBit k) 16 : Nat) := by decide +kernel
theorem jbc_small {n : Nat} (hn : n < 1024) : jbc (iv n) = iv (cntB (fun k => n.testBit k) 16 : Nat) := by
  have h := jbc_small0 (n / 32) (by omega) (n % 32) (by omega)
  rw [show 32 * (n / 32) + n % 32 = n by omega] at h
  exact h
theorem jbc_iv {n : Nat} (hn : n < 1024) : jbc (iv n) = iv (cntB (bitB (iv n)) 16 : Nat) := by
  rw [jbc_small hn, cntB_congr (p := bitB (iv n)) (q := fun k => n.testBit k) 16 fun k hk => bit_iv (by omega)]
theorem jbc_bset {p : Nat → Bool} {n : Nat} (hn : n ≤ 10) : jbc (bset p n) = iv (cntB p n : Nat) := by
  obtain ⟨m, hm, e⟩ := bset_nat (p := p) n (by omega)
  have h2 : 2 ^ n ≤ 2 ^ 10 := Nat.pow_le_pow_right (by decide) hn
  rw [e, jbc_iv (by omega), ← e]
  have h3 : cntB (bitB (bset p n)) 16 = cntB (fun k => decide (k < n) && p k) (n + (16 - n)) := by
    rw [show n + (16 - n) = 16 by omega]
    exact cntB_congr 16 fun k hk => bit_bset (by omega) n (by omega)
  rw [h3, cntB_cut]
theorem iv_zb (a : Nat) (b : Bool) : iv a + zbI b = iv (a + (if b = true then 1 else 0) : Nat) := by
  cases b
  · show iv a + 0 = _
    rw [Int32.add_zero]
    rfl
  · exact iv_s a
/-- numbers in a base: the first digit counts 1 -/
def pk (b : Nat) (f : Nat → Nat) : Nat → Nat
  | 0 => 0
  | n + 1 => f 0 + b * pk b (fun i => f (i + 1)) n
theorem pk_congr {b : Nat} : ∀ (n : Nat) {f h : Nat → Nat}, (∀ i, i < n → f i = h i) → pk b f n = pk b h n
  | 0, _, _, _ => rfl
  | n + 1, f, h, e => by
    rw [pk, pk, e 0 (by omega), pk_congr n fun i hi => e (i + 1) (by omega)]
theorem pk_add {b : Nat} : ∀ (n : Nat) (f h : Nat → Nat), pk b f n + pk b h n = pk b (fun i => f i + h i) n
  | 0, _, _ => rfl
  | n + 1, f, h => by
    rw [pk, pk, pk, ← pk_add n, Nat.mul_add]
    omega
theorem pkg_lt {b : Nat} : ∀ (n : Nat) (f : Nat → Nat), (∀ i, i < n → f i < b) → pk b f n < b ^ n
  | 0, _, _ => by
    rw [pk, Nat.pow_zero]
    decide
  | n + 1, f, h => by
    have h0 := h 0 (by omega)
    have ih := pkg_lt n (fun i => f (i + 1)) fun i hi => h (i + 1) (by omega)
    have e : b * (pk b (fun i => f (i + 1)) n + 1) ≤ b * b ^ n := Nat.mul_le_mul_left b ih
    rw [Nat.mul_add, Nat.mul_one] at e
    rw [pk, Nat.pow_succ, Nat.mul_comm (b ^ n) b]
    omega
theorem pk_snoc {b : Nat} : ∀ (n : Nat) (f : Nat → Nat), f n = 0 → pk b f (n + 1) = pk b f n
  | 0, f, h => by
    rw [pk, pk, pk, h]
    omega
  | n + 1, f, h => by
    rw [pk, pk_snoc n (fun i => f (i + 1)) h]
    rfl
theorem pkg_div {b : Nat} {n : Nat} {f : Nat → Nat} (h : f 0 < b) : pk b f (n + 1) / b = pk b (fun i => f (i + 1)) n := by
  rw [pk, Nat.add_mul_div_left _ _ (by omega), Nat.div_eq_of_lt h, Nat.zero_add]
theorem pk_pair {b : Nat} : ∀ (n : Nat) (f : Nat → Nat), pk b f (2 * n) = pk (b * b) (fun i => f (2 * i) + b * f (2 * i + 1)) n
  | 0, _ => rfl
  | n + 1, f => by
    have e : 2 * (n + 1) = 2 * n + 1 + 1 := by omega
    rw [e, pk, pk, pk_pair n, pk, Nat.mul_add, ← Nat.mul_assoc]
    have e2 : (fun i => f (2 * (i + 1)) + b * f (2 * (i + 1) + 1)) = (fun i => f (2 * i + 1 + 1) + b * f (2 * i + 1 + 1 + 1)) := rfl
    rw [e2]
    simp only [Nat.mul_zero, Nat.zero_add]
    omega
theorem two2 (k : Nat) : 2 ^ k * 2 ^ k = 2 ^ (2 * k) := by
  rw [← Nat.pow_add]
  congr 1
  omega
theorem and_split {n a x c y : Nat} (ha : a < 2 ^ n) (hc : c < 2 ^ n) : (a + 2 ^ n * x) &&& (c + 2 ^ n * y) = (a &&& c) + 2 ^ n * (x &&& y) := by
  have h1 : ((a + 2 ^ n * x) &&& (c + 2 ^ n * y)) % 2 ^ n = a &&& c := by
    rw [Nat.and_mod_two_pow, Nat.add_mul_mod_self_left, Nat.add_mul_mod_self_left, Nat.mod_eq_of_lt ha, Nat.mod_eq_of_lt hc]
  have h2 : ((a + 2 ^ n * x) &&& (c + 2 ^ n * y)) / 2 ^ n = x &&& y := by
    rw [Nat.and_div_two_pow, Nat.add_mul_div_left _ _ (Nat.two_pow_pos n), Nat.add_mul_div_left _ _ (Nat.two_pow_pos n), Nat.div_eq_of_lt ha, Nat.div_eq_of_lt hc, Nat.zero_add, Nat.zero_add]
  have h3 := Nat.mod_add_div ((a + 2 ^ n * x) &&& (c + 2 ^ n * y)) (2 ^ n)
  rw [h1, h2] at h3
  exact h3.symm
/-- every other digit -/
theorem pk_mask {k : Nat} : ∀ (n : Nat) (f : Nat → Nat), (∀ i, i < 2 * n → f i < 2 ^ k) → pk (2 ^ k) f (2 * n) &&& pk (2 ^ (2 * k)) (fun _ => 2 ^ k - 1) n = pk (2 ^ (2 * k)) (fun i => f (2 * i)) n
  | 0, _, _ => by simp only [Nat.mul_zero, pk, Nat.zero_and]
  | n + 1, f, h => by
    have h0 := h 0 (by omega)
    have h1 := h 1 (by omega)
    have ih := pk_mask n (fun i => f (i + 1 + 1)) fun i hi => h (i + 2) (by omega)
    have e : 2 * (n + 1) = 2 * n + 1 + 1 := by omega
    have hlt : f 0 + 2 ^ k * f 1 < 2 ^ (2 * k) := by
      have q : 2 ^ k * (f 1 + 1) ≤ 2 ^ k * 2 ^ k := Nat.mul_le_mul_left _ h1
      rw [Nat.mul_add, Nat.mul_one, two2] at q
      omega
    have hlt2 : 2 ^ k - 1 < 2 ^ (2 * k) := by
      have q : 2 ^ k * 1 ≤ 2 ^ k * 2 ^ k := Nat.mul_le_mul_left _ (Nat.two_pow_pos k)
      have q2 := Nat.two_pow_pos k
      rw [Nat.mul_one, two2] at q
      omega
    have e1 : pk (2 ^ k) f (2 * (n + 1)) = (f 0 + 2 ^ k * f 1) + 2 ^ (2 * k) * pk (2 ^ k) (fun i => f (i + 1 + 1)) (2 * n) := by
      rw [e, pk, pk, Nat.mul_add, ← Nat.mul_assoc, two2, ← Nat.add_assoc]
    rw [e1, pk, pk, and_split hlt hlt2, ih, Nat.and_two_pow_sub_one_eq_mod, Nat.add_mul_mod_self_left, Nat.mod_eq_of_lt h0]
    rfl
/-- Long.bitCount -/
theorem ush {x : Int64} {s : UInt64} {k : Nat} (h : (s.toBitVec % 64).toNat = k) : ((x.toUInt64 >>> s).toInt64).toBitVec.toNat = x.toBitVec.toNat / 2 ^ k := by
  show ((x.toUInt64 >>> s).toBitVec).toNat = _
  rw [UInt64.toBitVec_shiftRight, BitVec.ushiftRight_eq', BitVec.toNat_ushiftRight, h, Nat.shiftRight_eq_div_pow]
  rfl
theorem l_add {x y : Int64} (h : x.toBitVec.toNat + y.toBitVec.toNat < 2 ^ 64) : (x + y).toBitVec.toNat = x.toBitVec.toNat + y.toBitVec.toNat := by
  rw [Int64.toBitVec_add, BitVec.toNat_add, Nat.mod_eq_of_lt h]
theorem l_sub {x y : Int64} (h : y.toBitVec.toNat ≤ x.toBitVec.toNat) : (x - y).toBitVec.toNat = x.toBitVec.toNat - y.toBitVec.toNat := by
  have hx := x.toBitVec.isLt
  rw [Int64.toBitVec_sub, BitVec.toNat_sub]
  omega
theorem l_and {x y : Int64} : (x &&& y).toBitVec.toNat = x.toBitVec.toNat &&& y.toBitVec.toNat := by
  rw [Int64.toBitVec_and, BitVec.toNat_and]
def smN (f : Nat → Nat) : Nat → Nat
  | 0 => 0
  | n + 1 => smN f n + f n
theorem smN_pair (f : Nat → Nat) : ∀ n, smN f (2 * n) = smN (fun i => f (2 * i) + f (2 * i + 1)) n
  | 0 => rfl
  | n + 1 => by
    have e : 2 * (n + 1) = 2 * n + 1 + 1 := by omega
    rw [e, smN, smN, smN_pair f n, smN]
    omega
theorem smN_cnt (p : Nat → Bool) : ∀ n, smN (fun i => if p i = true then 1 else 0) n = cntB p n
  | 0 => rfl
  | n + 1 => by
    rw [smN, cntB, smN_cnt p n]
theorem pk_bits : ∀ (N n : Nat), n < 2 ^ N → pk 2 (fun i => if n.testBit i = true then 1 else 0) N = n
  | 0, n, h => by
    rw [Nat.pow_zero] at h
    rw [pk]
    omega
  | N + 1, n, h => by
    rw [Nat.pow_succ] at h
    have ih := pk_bits N (n / 2) (by omega)
    have e : (fun i => if n.testBit (i + 1) = true then 1 else 0) = (fun i => if (n / 2).testBit i = true then 1 else 0) := by
      funext i
      rw [Nat.testBit_succ]
    rw [pk, e, ih, Nat.testBit_zero]
    by_cases c : n % 2 = 1
    · rw [decide_eq_true c, if_pos rfl]
      omega
    · rw [decide_eq_false c, if_neg (by decide)]
      omega
theorem pk_sh {b n : Nat} {f : Nat → Nat} (h : f 0 < b) (hz : f (n + 1) = 0) : pk b f (n + 1) / b = pk b (fun i => f (i + 1)) (n + 1) := by
  rw [pkg_div h, pk_snoc n (fun i => f (i + 1)) hz]
theorem ush2 {x : Int64} {s : UInt64} {c : Nat} (k : Nat) (h : (s.toBitVec % 64).toNat = k) (hc : 2 ^ k = c) : ((x.toUInt64 >>> s).toInt64).toBitVec.toNat = x.toBitVec.toNat / c := by
  rw [ush h, hc]
theorem pk_sh2 {b m : Nat} {f : Nat → Nat} (n : Nat) (hm : m = n + 1) (h : f 0 < b) (hz : f m = 0) : pk b f m / b = pk b (fun i => f (i + 1)) m := by
  subst hm
  exact pk_sh h hz
theorem pk_pair2 {b c m : Nat} (n : Nat) (f : Nat → Nat) (hc : b * b = c) (hm : 2 * n = m) : pk b f m = pk c (fun i => f (2 * i) + b * f (2 * i + 1)) n := by
  subst hc
  subst hm
  exact pk_pair n f
theorem pk_mask2 {b c m u : Nat} (k n : Nat) (f : Nat → Nat) (hb : 2 ^ k = b) (hc : 2 ^ (2 * k) = c) (hu : 2 ^ k - 1 = u) (hm : 2 * n = m) (h : ∀ i, f i < b) : pk b f m &&& pk c (fun _ => u) n = pk c (fun i => f (2 * i)) n := by
  subst hb
  subst hc
  subst hu
  subst hm
  exact pk_mask n f fun i _ => h i
theorem pkg_lt2 {b c : Nat} (n : Nat) (f : Nat → Nat) (hc : b ^ n = c) (h : ∀ i, f i < b) : pk b f n < c := by
  subst hc
  exact pkg_lt n f fun i _ => h i
/-- pairs of bits -/
theorem lbc_1 {x v1 : Int64} {f0 f1 : Nat → Nat} (hx : x.toBitVec.toNat = pk 2 f0 64) (z0 : ∀ i, 64 ≤ i → f0 i = 0) (b0 : ∀ i, f0 i ≤ 1) (e1 : v1 = (x.toUInt64 >>> ((1 : Int32).toInt64.toUInt64 &&& Int64.toUInt64 63)).toInt64) (h1 : ∀ i, f1 i = f0 (2 * i) + f0 (2 * i + 1)) : (x - (v1 &&& 6148914691236517205)).toBitVec.toNat = pk 4 f1 32 := by
  have m1 : (6148914691236517205 : Int64).toBitVec.toNat = pk 4 (fun _ => 1) 32 := by decide +kernel
  have q1 : v1.toBitVec.toNat = pk 2 (fun i => f0 (i + 1)) 64 := by
    rw [e1, ush2 1 (by decide) (c := 2) (by decide), hx]
    exact pk_sh2 63 (by decide) (by have := b0 0; omega) (z0 64 (by omega))
  have q2 : (v1 &&& 6148914691236517205).toBitVec.toNat = pk 4 (fun i => f0 (2 * i + 1)) 32 := by
    rw [l_and, q1, m1]
    exact pk_mask2 1 32 (fun i => f0 (i + 1)) (by decide) (by decide) (by decide) (by decide) fun i => by have := b0 (i + 1); show f0 (i + 1) < 2; omega
  have q3 : x.toBitVec.toNat = pk 4 (fun i => f0 (2 * i) + 2 * f0 (2 * i + 1)) 32 := hx.trans (pk_pair2 32 f0 (by decide) (by decide))
  have q4 : pk 4 (fun i => f0 (2 * i + 1)) 32 + pk 4 f1 32 = x.toBitVec.toNat := by
    rw [pk_add, q3]
    exact pk_congr 32 fun i _ => by
      show f0 (2 * i + 1) + f1 i = f0 (2 * i) + 2 * f0 (2 * i + 1)
      rw [h1]
      omega
  rw [l_sub (by rw [q2]; omega), q2]
  omega
theorem lbc_2 {A v2 : Int64} {f1 f2 : Nat → Nat} (hA : A.toBitVec.toNat = pk 4 f1 32) (z1 : ∀ i, 32 ≤ i → f1 i = 0) (b1 : ∀ i, f1 i ≤ 2) (e2 : v2 = (A.toUInt64 >>> ((2 : Int32).toInt64.toUInt64 &&& Int64.toUInt64 63)).toInt64) (h2 : ∀ i, f2 i = f1 (2 * i) + f1 (2 * i + 1)) : ((A &&& 3689348814741910323) + (v2 &&& 3689348814741910323)).toBitVec.toNat = pk 16 f2 16 := by
  have m2 : (3689348814741910323 : Int64).toBitVec.toNat = pk 16 (fun _ => 3) 16 := by decide +kernel
  have r1 : v2.toBitVec.toNat = pk 4 (fun i => f1 (i + 1)) 32 := by
    rw [e2, ush2 2 (by decide) (c := 4) (by decide), hA]
    exact pk_sh2 31 (by decide) (by have := b1 0; omega) (z1 32 (by omega))
  have r2 : (v2 &&& 3689348814741910323).toBitVec.toNat = pk 16 (fun i => f1 (2 * i + 1)) 16 := by
    rw [l_and, r1, m2]
    exact pk_mask2 2 16 (fun i => f1 (i + 1)) (by decide) (by decide) (by decide) (by decide) fun i => by have := b1 (i + 1); show f1 (i + 1) < 4; omega
  have r3 : (A &&& 3689348814741910323).toBitVec.toNat = pk 16 (fun i => f1 (2 * i)) 16 := by
    rw [l_and, hA, m2]
    exact pk_mask2 2 16 f1 (by decide) (by decide) (by decide) (by decide) fun i => by have := b1 i; omega
  have r4 : pk 16 (fun i => f1 (2 * i)) 16 + pk 16 (fun i => f1 (2 * i + 1)) 16 = pk 16 f2 16 := by
    rw [pk_add]
    exact pk_congr 16 fun i _ => (h2 i).symm
  have hl : pk 16 f2 16 < 2 ^ 64 := pkg_lt2 16 f2 (by decide) fun i => by
    have := b1 (2 * i)
    have := b1 (2 * i + 1)
    rw [h2]
    omega
  rw [l_add (by rw [r3, r2, r4]; exact hl), r3, r2, r4]
theorem lbc_3 {B v3 : Int64} {f2 f3 : Nat → Nat} (hB : B.toBitVec.toNat = pk 16 f2 16) (z2 : ∀ i, 16 ≤ i → f2 i = 0) (b2 : ∀ i, f2 i ≤ 4) (e3 : v3 = (B.toUInt64 >>> ((4 : Int32).toInt64.toUInt64 &&& Int64.toUInt64 63)).toInt64) (h3 : ∀ i, f3 i = f2 (2 * i) + f2 (2 * i + 1)) : ((B + v3) &&& 1085102592571150095).toBitVec.toNat = pk 256 f3 8 := by
  have m3 : (1085102592571150095 : Int64).toBitVec.toNat = pk 256 (fun _ => 15) 8 := by decide +kernel
  have t1 : v3.toBitVec.toNat = pk 16 (fun i => f2 (i + 1)) 16 := by
    rw [e3, ush2 4 (by decide) (c := 16) (by decide), hB]
    exact pk_sh2 15 (by decide) (by have := b2 0; omega) (z2 16 (by omega))
  have t2 : pk 16 f2 16 + pk 16 (fun i => f2 (i + 1)) 16 = pk 16 (fun i => f2 i + f2 (i + 1)) 16 := pk_add 16 f2 _
  have hb : ∀ i, (fun i => f2 i + f2 (i + 1)) i < 16 := fun i => by
    have := b2 i
    have := b2 (i + 1)
    show f2 i + f2 (i + 1) < 16
    omega
  have hl : pk 16 (fun i => f2 i + f2 (i + 1)) 16 < 2 ^ 64 := pkg_lt2 16 _ (by decide) hb
  rw [l_and, l_add (by rw [hB, t1, t2]; exact hl), hB, t1, t2, m3, pk_mask2 4 8 _ (by decide) (by decide) (by decide) (by decide) hb]
  exact pk_congr 8 fun i _ => (h3 i).symm
theorem lbc_4 {K v4 : Int64} {f3 f4 : Nat → Nat} (hK : K.toBitVec.toNat = pk 256 f3 8) (z3 : ∀ i, 8 ≤ i → f3 i = 0) (b3 : ∀ i, f3 i ≤ 8) (e4 : v4 = (K.toUInt64 >>> ((8 : Int32).toInt64.toUInt64 &&& Int64.toUInt64 63)).toInt64) (h4 : ∀ i, f4 i = f3 i + f3 (i + 1)) : (K + v4).toBitVec.toNat = pk 256 f4 8 := by
  have u1 : v4.toBitVec.toNat = pk 256 (fun i => f3 (i + 1)) 8 := by
    rw [e4, ush2 8 (by decide) (c := 256) (by decide), hK]
    exact pk_sh2 7 (by decide) (by have := b3 0; omega) (z3 8 (by omega))
  have u2 : pk 256 f3 8 + pk 256 (fun i => f3 (i + 1)) 8 = pk 256 f4 8 := by
    rw [pk_add]
    exact pk_congr 8 fun i _ => (h4 i).symm
  have hl : pk 256 f4 8 < 2 ^ 64 := pkg_lt2 8 _ (by decide) fun i => by
    have := b3 i
    have := b3 (i + 1)
    rw [h4]
    omega
  rw [l_add (by rw [hK, u1, u2]; exact hl), hK, u1, u2]
theorem lbc_5 {D v5 : Int64} {f4 f5 : Nat → Nat} (hD : D.toBitVec.toNat = pk 256 f4 8) (z4 : ∀ i, 8 ≤ i → f4 i = 0) (b4 : ∀ i, f4 i ≤ 16) (e5 : v5 = (D.toUInt64 >>> ((16 : Int32).toInt64.toUInt64 &&& Int64.toUInt64 63)).toInt64) (h5 : ∀ i, f5 i = f4 i + f4 (i + 2)) : (D + v5).toBitVec.toNat = pk 256 f5 8 := by
  have w1 : v5.toBitVec.toNat = pk 256 (fun i => f4 (i + 2)) 8 := by
    rw [e5, ush2 16 (by decide) (c := 256 * 256) (by decide), hD, ← Nat.div_div_eq_div_mul, pk_sh2 7 (by decide) (by have := b4 0; omega) (z4 8 (by omega))]
    exact pk_sh2 7 (by decide) (by have := b4 1; show f4 1 < 256; omega) (z4 9 (by omega))
  have w2 : pk 256 f4 8 + pk 256 (fun i => f4 (i + 2)) 8 = pk 256 f5 8 := by
    rw [pk_add]
    exact pk_congr 8 fun i _ => (h5 i).symm
  have hl : pk 256 f5 8 < 2 ^ 64 := pkg_lt2 8 _ (by decide) fun i => by
    have := b4 i
    have := b4 (i + 2)
    rw [h5]
    omega
  rw [l_add (by rw [hD, w1, w2]; exact hl), hD, w1, w2]
theorem lbc_6 {F v6 : Int64} {f5 : Nat → Nat} (hF : F.toBitVec.toNat = pk 256 f5 8) (z5 : ∀ i, 8 ≤ i → f5 i = 0) (b5 : ∀ i, f5 i ≤ 32) (e6 : v6 = (F.toUInt64 >>> ((32 : Int32).toInt64.toUInt64 &&& Int64.toUInt64 63)).toInt64) : (F + v6).toInt32 &&& 127 = iv (f5 0 + f5 4 : Nat) := by
  have a0 := b5 0
  have a4 := b5 4
  have k1 : ∃ r, v6.toBitVec.toNat = f5 4 + 256 * r := by
    have p0 : pk 256 f5 8 / 256 = pk 256 (fun i => f5 (i + 1)) 8 := pk_sh2 7 (by decide) (by have := b5 0; omega) (z5 8 (by omega))
    have p1 : pk 256 (fun i => f5 (i + 1)) 8 / 256 = pk 256 (fun i => f5 (i + 2)) 8 := pk_sh2 7 (by decide) (by have := b5 1; show f5 1 < 256; omega) (z5 9 (by omega))
    have p2 : pk 256 (fun i => f5 (i + 2)) 8 / 256 = pk 256 (fun i => f5 (i + 3)) 8 := pk_sh2 7 (by decide) (by have := b5 2; show f5 2 < 256; omega) (z5 10 (by omega))
    have p3 : pk 256 (fun i => f5 (i + 3)) 8 / 256 = pk 256 (fun i => f5 (i + 4)) 8 := pk_sh2 7 (by decide) (by have := b5 3; show f5 3 < 256; omega) (z5 11 (by omega))
    refine ⟨pk 256 (fun i => f5 (i + 1 + 4)) 7, ?_⟩
    rw [e6, ush2 32 (by decide) (c := 256 * 256 * 256 * 256) (by decide), hF, ← Nat.div_div_eq_div_mul, ← Nat.div_div_eq_div_mul, ← Nat.div_div_eq_div_mul, p0, p1, p2, p3, pk]
  have k2 : ∃ r, F.toBitVec.toNat = f5 0 + 256 * r := ⟨pk 256 (fun i => f5 (i + 1)) 7, by rw [hF, pk]⟩
  obtain ⟨r1, k1⟩ := k1
  obtain ⟨r2, k2⟩ := k2
  apply bv_inj
  rw [Int32.toBitVec_and, iv_bv]
  apply BitVec.eq_of_toNat_eq
  have c127 : (127 : Int32).toBitVec.toNat = 2 ^ 7 - 1 := by decide
  have ct : (F + v6).toInt32.toBitVec.toNat = (F + v6).toBitVec.toNat % 2 ^ 32 := by
    rw [Int64.toBitVec_toInt32, BitVec.signExtend_eq_setWidth_of_le _ (by decide), BitVec.toNat_setWidth]
  rw [BitVec.toNat_and, BitVec.toNat_ofNat, c127, Nat.and_two_pow_sub_one_eq_mod, ct, Int64.toBitVec_add, BitVec.toNat_add, k1, k2]
  omega
theorem c_lbc {sh : List zSh} {g : zG} {d : Nat} {Q : Int32 → zM → Prop} {M : zM} {x : Int64} (h : Q (iv (cntB (fun k => x.toBitVec.toNat.testBit k) 64 : Nat)) M) : zCi sh g d mJ13_bitCount_95d88 [.long x] M Q := by
  refine vJ13_bitCount_95d88 (fun v1 e1 v2 e2 v3 e3 v4 e4 v5 e5 v6 e6 v7 e7 => ?_)
  have hn := x.toBitVec.isLt
  rw [← smN_cnt] at h
  have p0 := (pk_bits 64 x.toBitVec.toNat hn).symm
  have z0 : ∀ i, 64 ≤ i → (fun i => if x.toBitVec.toNat.testBit i = true then 1 else 0) i = 0 := fun i hi => by
    show (if x.toBitVec.toNat.testBit i = true then 1 else 0) = 0
    rw [Nat.testBit_lt_two_pow (Nat.lt_of_lt_of_le hn (Nat.pow_le_pow_right (by decide) hi)), if_neg (by decide)]
  have b0 : ∀ i, (fun i => if x.toBitVec.toNat.testBit i = true then 1 else 0) i ≤ 1 := fun i => by
    show (if x.toBitVec.toNat.testBit i = true then 1 else 0) ≤ 1
    split <;> omega
  generalize (fun i => if x.toBitVec.toNat.testBit i = true then 1 else 0) = f0 at p0 z0 b0 h
  obtain ⟨f1, h1⟩ : ∃ f1 : Nat → Nat, ∀ i, f1 i = f0 (2 * i) + f0 (2 * i + 1) := ⟨fun i => f0 (2 * i) + f0 (2 * i + 1), fun _ => rfl⟩
  obtain ⟨f2, h2⟩ : ∃ f2 : Nat → Nat, ∀ i, f2 i = f1 (2 * i) + f1 (2 * i + 1) := ⟨fun i => f1 (2 * i) + f1 (2 * i + 1), fun _ => rfl⟩
  obtain ⟨f3, h3⟩ : ∃ f3 : Nat → Nat, ∀ i, f3 i = f2 (2 * i) + f2 (2 * i + 1) := ⟨fun i => f2 (2 * i) + f2 (2 * i + 1), fun _ => rfl⟩
  obtain ⟨f4, h4⟩ : ∃ f4 : Nat → Nat, ∀ i, f4 i = f3 i + f3 (i + 1) := ⟨fun i => f3 i + f3 (i + 1), fun _ => rfl⟩
  obtain ⟨f5, h5⟩ : ∃ f5 : Nat → Nat, ∀ i, f5 i = f4 i + f4 (i + 2) := ⟨fun i => f4 i + f4 (i + 2), fun _ => rfl⟩
  have s1 : smN f0 64 = smN f1 32 := (smN_pair f0 32).trans (by rw [show (fun i => f0 (2 * i) + f0 (2 * i + 1)) = f1 from funext fun i => (h1 i).symm])
  have s2 : smN f1 32 = smN f2 16 := (smN_pair f1 16).trans (by rw [show (fun i => f1 (2 * i) + f1 (2 * i + 1)) = f2 from funext fun i => (h2 i).symm])
  have s3 : smN f2 16 = smN f3 8 := (smN_pair f2 8).trans (by rw [show (fun i => f2 (2 * i) + f2 (2 * i + 1)) = f3 from funext fun i => (h3 i).symm])
  have z1 : ∀ i, 32 ≤ i → f1 i = 0 := fun i hi => by rw [h1, z0 _ (by omega), z0 _ (by omega)]
  have z2 : ∀ i, 16 ≤ i → f2 i = 0 := fun i hi => by rw [h2, z1 _ (by omega), z1 _ (by omega)]
  have z3 : ∀ i, 8 ≤ i → f3 i = 0 := fun i hi => by rw [h3, z2 _ (by omega), z2 _ (by omega)]
  have z4 : ∀ i, 8 ≤ i → f4 i = 0 := fun i hi => by rw [h4, z3 _ (by omega), z3 _ (by omega)]
  have z5 : ∀ i, 8 ≤ i → f5 i = 0 := fun i hi => by rw [h5, z4 _ (by omega), z4 _ (by omega)]
  have b1 : ∀ i, f1 i ≤ 2 := fun i => by
    have := b0 (2 * i)
    have := b0 (2 * i + 1)
    rw [h1]
    omega
  have b2 : ∀ i, f2 i ≤ 4 := fun i => by
    have := b1 (2 * i)
    have := b1 (2 * i + 1)
    rw [h2]
    omega
  have b3 : ∀ i, f3 i ≤ 8 := fun i => by
    have := b2 (2 * i)
    have := b2 (2 * i + 1)
    rw [h3]
    omega
  have b4 : ∀ i, f4 i ≤ 16 := fun i => by
    have := b3 i
    have := b3 (i + 1)
    rw [h4]
    omega
  have b5 : ∀ i, f5 i ≤ 32 := fun i => by
    have := b4 i
    have := b4 (i + 2)
    rw [h5]
    omega
  have r1 := lbc_1 p0 z0 b0 e1 h1
  have r2 := lbc_2 r1 z1 b1 e2 h2
  have r3 := lbc_3 r2 z2 b2 e3 h3
  have r4 := lbc_4 r3 z3 b3 e4 h4
  have r5 := lbc_5 r4 z4 b4 e5 h5
  have r6 := lbc_6 r5 z5 b5 e6
  have cs : smN f3 8 = f5 0 + f5 4 := by
    rw [h5, h5, h4, h4, h4, h4]
    simp only [smN, Nat.zero_add, Nat.reduceAdd]
    omega
  rw [s1, s2, s3, cs, ← r6, ← e7] at h
  exact h
/-- sets of 64 -/
def lset (p : Nat → Bool) : Nat → Int64
  | 0 => 0
  | n + 1 => if p n = true then lset p n ||| (1 <<< ((iv n).toInt64 &&& 63)) else lset p n
theorem lsh : ∀ n : Nat, n < 64 → ((1 : Int64) <<< ((iv n).toInt64 &&& 63)).toBitVec.toNat = 2 ^ n := by decide +kernel
theorem lset_bit {p : Nat → Bool} {k : Nat} : ∀ n, n ≤ 64 → (lset p n).toBitVec.toNat.testBit k = (decide (k < n) && p k)
  | 0, _ => by
    show (0 : Nat).testBit k = _
    simp
  | n + 1, h => by
    have ih := lset_bit (p := p) (k := k) n (by omega)
    rw [lset]
    split
    · rename_i c
      rw [Int64.toBitVec_or, BitVec.toNat_or, Nat.testBit_or, ih, lsh n (by omega), Nat.testBit_two_pow]
      by_cases e : k = n
      · subst e
        simp [c]
      · have e2 : decide (k < n + 1) = decide (k < n) := decide_eq_decide.mpr (by omega)
        rw [e2, decide_eq_false (fun z : n = k => e z.symm), Bool.or_false]
    · rename_i c
      rw [ih]
      by_cases e : k = n
      · subst e
        simp [c]
      · have e2 : decide (k < n + 1) = decide (k < n) := decide_eq_decide.mpr (by omega)
        rw [e2]
theorem lset_cnt {p : Nat → Bool} : cntB (fun k => (lset p 64).toBitVec.toNat.testBit k) 64 = cntB p 64 :=
  cntB_congr 64 fun k hk => by
    rw [lset_bit 64 (by omega), decide_eq_true hk, Bool.true_and]
