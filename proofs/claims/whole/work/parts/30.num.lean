/-! NUMBERS: ints as integers -/
theorem eqI {a b : Int32} : (a = b) = (a.toInt = b.toInt) := propext Int32.toInt_inj.symm
theorem tr32 (a : Int32) : -2147483648 ≤ a.toInt ∧ a.toInt < 2147483648 := ⟨Int32.le_toInt a, Int32.toInt_lt a⟩
theorem bm32 {z : Int} (h1 : -2147483648 ≤ z) (h2 : z < 2147483648) : z.bmod (2 ^ 32) = z := by
  rw [Int.bmod_def]
  omega
theorem ti_add {a b : Int32} (h1 : -2147483648 ≤ a.toInt + b.toInt) (h2 : a.toInt + b.toInt < 2147483648) : (a + b).toInt = a.toInt + b.toInt := by
  rw [Int32.toInt_add, bm32 h1 h2]
theorem ti_sub {a b : Int32} (h1 : -2147483648 ≤ a.toInt - b.toInt) (h2 : a.toInt - b.toInt < 2147483648) : (a - b).toInt = a.toInt - b.toInt := by
  rw [Int32.toInt_sub, bm32 h1 h2]
theorem ti_mul {a b : Int32} (h1 : -2147483648 ≤ a.toInt * b.toInt) (h2 : a.toInt * b.toInt < 2147483648) : (a * b).toInt = a.toInt * b.toInt := by
  rw [Int32.toInt_mul, bm32 h1 h2]
theorem ti_div {a b : Int32} (h1 : 0 ≤ a.toInt) (h2 : 0 < b.toInt) : (a / b).toInt = a.toInt / b.toInt := by
  rw [Int32.toInt_div, Int.tdiv_eq_ediv_of_nonneg h1]
  have := tr32 a
  refine bm32 ?_ ?_
  · have := Int.ediv_nonneg h1 (Int.le_of_lt h2)
    omega
  · have := Int.ediv_le_self b.toInt h1
    omega
theorem ti_rem {a b : Int32} (h1 : 0 ≤ a.toInt) (h2 : 0 < b.toInt) : (a - a / b * b).toInt = a.toInt % b.toInt := by
  have e := ti_div h1 h2
  have r := tr32 a
  have h3 : a.toInt / b.toInt * b.toInt ≤ a.toInt := Int.ediv_mul_le _ (by omega)
  have h4 : 0 ≤ a.toInt / b.toInt * b.toInt := Int.mul_nonneg (Int.ediv_nonneg h1 (by omega)) (by omega)
  have e2 : (a / b * b).toInt = a.toInt / b.toInt * b.toInt := by
    rw [ti_mul (by rw [e]; omega) (by rw [e]; omega), e]
  rw [ti_sub (by rw [e2]; omega) (by rw [e2]; omega), e2]
  have := Int.emod_add_mul_ediv a.toInt b.toInt
  have h5 : b.toInt * (a.toInt / b.toInt) = a.toInt / b.toInt * b.toInt := Int.mul_comm _ _
  omega
theorem ti_neg {a : Int32} (h : -2147483648 < a.toInt) : (-a).toInt = -a.toInt := by
  rw [Int32.toInt_neg, bm32 (by have := tr32 a; omega) (by omega)]
theorem iv_add (a b : Int) : iv a + iv b = iv (a + b) := (Int32.ofInt_add a b).symm
theorem iv_sub (a b : Int) : iv a - iv b = iv (a - b) := (Int32.ofInt_sub a b).symm
theorem iv_mul (a b : Int) : iv a * iv b = iv (a * b) := (Int32.ofInt_mul a b).symm
theorem iv_lit (n : Nat) : (OfNat.ofNat n : Int32) = iv (OfNat.ofNat n : Nat) := rfl
theorem iv_of (x : Int32) : x = iv x.toInt := (Int32.ofInt_toInt x).symm
theorem iv_nat {x : Int32} {n : Nat} (h0 : 0 ≤ x.toInt) (h : x.toInt < n) : ∃ k : Nat, x = iv k ∧ k < n ∧ x.toInt = k := ⟨x.toInt.toNat, by rw [Int.toNat_of_nonneg h0]; exact iv_of x, by omega, by omega⟩
theorem iv_inj {a b : Int} (ha : -2147483648 ≤ a ∧ a < 2147483648) (hb : -2147483648 ≤ b ∧ b < 2147483648) : iv a = iv b ↔ a = b := by
  rw [eqI, iv_toInt ha.1 ha.2, iv_toInt hb.1 hb.2]
theorem dF {α : Type} {p : Prop} {i : Decidable p} {Q : Bool → α → Prop} {M : α} (h : Q (@decide p i) M) (n : ¬ p) : Q false M := by
  rw [decide_eq_false n] at h
  exact h
theorem dT {α : Type} {p : Prop} {i : Decidable p} {Q : Bool → α → Prop} {M : α} (h : Q (@decide p i) M) (n : p) : Q true M := by
  rw [decide_eq_true n] at h
  exact h
/-- v is between a and b -/
def isInB (v a b : Int32) : Bool := decide (a.toInt ≤ v.toInt ∧ v.toInt ≤ b.toInt)
/-- a cell of the basin -/
def cellB (W H c : Int32) : Bool := decide (0 ≤ c.toInt ∧ c.toInt < 64 ∧ c.toInt % 8 < W.toInt ∧ c.toInt / 8 < H.toInt)
def boxB (W H c : Int32) : Bool := decide (0 ≤ c.toInt ∧ c.toInt < 64 ∧ c.toInt % 8 + 3 ≤ W.toInt ∧ c.toInt / 8 + 3 ≤ H.toInt)
example (a b : Int32) (h : 0 ≤ a.toInt) (h2 : a.toInt < 64) (h3 : 0 ≤ b.toInt) (h4 : b.toInt < 9) : (a - a / 8 * 8) + 2 < b - 1 ↔ a.toInt % 8 + 3 < b.toInt := by
  simp (disch := ((try simp (disch := ((try simp (disch := ((try simp only [Int32.reduceToInt]); omega)) only [Int32.reduceToInt, ti_rem, ti_div, ti_mul, ti_add, ti_sub, iv_toInt]); omega)) only [Int32.reduceToInt, ti_rem, ti_div, ti_mul, ti_add, ti_sub, iv_toInt]); omega)) only [Int32.lt_iff_toInt_lt, Int32.le_iff_toInt_le, eqI, ti_rem, ti_add, ti_sub, ti_mul, ti_div, iv_toInt, Int32.reduceToInt]
  omega
