/-! SETS of nine as numbers -/
def sd (a b : Nat) : Nat := a &&& (b ^^^ 511)
theorem tb9 {a j : Nat} (ha : a < 512) (hj : 9 ≤ j) : a.testBit j = false := Nat.testBit_lt_two_pow (Nat.lt_of_lt_of_le (show a < 2 ^ 9 from ha) (Nat.pow_le_pow_right (by decide) hj))
theorem sd_bit {a b j : Nat} (ha : a < 512) : (sd a b).testBit j = (a.testBit j && !b.testBit j) := by
  show (a &&& (b ^^^ (2 ^ 9 - 1))).testBit j = _
  rw [Nat.testBit_and, Nat.testBit_xor, Nat.testBit_two_pow_sub_one]
  by_cases c : j < 9
  · rw [decide_eq_true c]
    cases a.testBit j <;> cases b.testBit j <;> rfl
  · rw [tb9 ha (by omega)]
    rfl
theorem sd_le {a b : Nat} : sd a b ≤ a := Nat.and_le_left
theorem set_ext {a b : Nat} (ha : a < 512) (hb : b < 512) (h : ∀ j, j < 9 → a.testBit j = b.testBit j) : a = b := by
  refine Nat.eq_of_testBit_eq fun j => ?_
  by_cases c : j < 9
  · exact h j c
  · rw [tb9 ha (by omega), tb9 hb (by omega)]
theorem sd_lt {m k : Nat} (hm : m < 512) (h : m.testBit k = true) : sd m (2 ^ k) < m := by
  refine Nat.lt_of_le_of_ne sd_le fun e => ?_
  have hb := sd_bit (b := 2 ^ k) (j := k) hm
  rw [e, h, Nat.testBit_two_pow_self] at hb
  exact Bool.noConfusion hb
theorem iv_sd {a b : Nat} (ha : a < 512) : iv a &&& (iv b ^^^ (-1)) = iv (sd a b : Nat) := by
  refine bit_ext fun k hk => ?_
  rw [bit_and, bit_not hk, bit_iv hk, bit_iv hk, bit_iv hk, sd_bit ha]
theorem iv_or (a b : Nat) : iv a ||| iv b = iv (a ||| b : Nat) := by
  refine bit_ext fun k hk => ?_
  rw [bit_or, bit_iv hk, bit_iv hk, bit_iv hk, Nat.testBit_or]
theorem iv_and (a b : Nat) : iv a &&& iv b = iv (a &&& b : Nat) := by
  refine bit_ext fun k hk => ?_
  rw [bit_and, bit_iv hk, bit_iv hk, bit_iv hk, Nat.testBit_and]
theorem sd1 {m k : Nat} (hm : m < 512) (hk : k < 31) : iv m &&& ((1 <<< (iv k &&& 31)) ^^^ (-1)) = iv (sd m (2 ^ k) : Nat) := by
  rw [one_sl hk, iv_sd hm]
theorem sd_bit1 {m k j : Nat} (hm : m < 512) : (sd m (2 ^ k)).testBit j = (m.testBit j && decide (j ≠ k)) := by
  rw [sd_bit hm, Nat.testBit_two_pow]
  have e : (!decide (k = j)) = decide (j ≠ k) := by
    rw [← decide_not]
    exact decide_eq_decide.mpr ⟨fun z q => z q.symm, fun z q => z q.symm⟩
  rw [e]
theorem iv_zero_iff {m : Nat} (hm : m < 512) : iv m = 0 ↔ m = 0 := by
  rw [show (0 : Int32) = iv (0 : Nat) from rfl, iv_inj (by omega) (by omega)]
  omega
theorem sd_full {m n : Nat} (hn : n ≤ 9) (hm : m < 2 ^ n) : sd m (2 ^ n - 1) = 0 := by
  have h2 : 2 ^ n ≤ 2 ^ 9 := Nat.pow_le_pow_right (by decide) hn
  have hm5 : m < 512 := by omega
  refine set_ext (Nat.lt_of_le_of_lt sd_le hm5) (by decide) fun j hj => ?_
  rw [sd_bit hm5, Nat.testBit_two_pow_sub_one, Nat.zero_testBit]
  by_cases c : j < n
  · rw [decide_eq_true c]
    cases m.testBit j <;> rfl
  · rw [Nat.testBit_lt_two_pow (Nat.lt_of_lt_of_le hm (Nat.pow_le_pow_right (by decide) (by omega)))]
    rfl
theorem bit_in {m n k : Nat} (hm : m < 2 ^ n) (h : m.testBit k = true) : k < n := by
  refine Nat.lt_of_not_le fun c => ?_
  rw [Nat.testBit_lt_two_pow (Nat.lt_of_lt_of_le hm (Nat.pow_le_pow_right (by decide) c))] at h
  exact Bool.noConfusion h
/-- the next lesser subset -/
theorem sub_next : ∀ (n x S y : Nat), x ≤ n → x &&& S = x → y &&& S = y → y < x → y ≤ (x - 1) &&& S
  | 0, x, S, y, h, _, _, hy => by omega
  | n + 1, x, S, y, h, hx, hy, hlt => by
    have d1 : ∀ a b : Nat, (a &&& b) / 2 = a / 2 &&& b / 2 := fun a b => Nat.and_div_two_pow (n := 1)
    have m1 : ∀ a b : Nat, (a &&& b) % 2 = (a % 2) &&& (b % 2) := fun a b => Nat.and_mod_two_pow (n := 1)
    have hx1 := d1 x S
    have hx2 := m1 x S
    have hy1 := d1 y S
    have hy2 := m1 y S
    have hz1 := d1 (x - 1) S
    have hz2 := m1 (x - 1) S
    rw [hx] at hx1 hx2
    rw [hy] at hy1 hy2
    rcases Nat.mod_two_eq_zero_or_one x with c | c
    · have e1 : (x - 1) / 2 = x / 2 - 1 := by omega
      have e2 : (x - 1) % 2 = 1 := by omega
      rw [e1] at hz1
      rw [e2] at hz2
      have ih := sub_next n (x / 2) (S / 2) (y / 2) (by omega) hx1.symm hy1.symm (by omega)
      rw [← hz1] at ih
      have hys : y % 2 ≤ S % 2 := by
        rcases Nat.mod_two_eq_zero_or_one S with s | s
        · rw [s, Nat.and_zero] at hy2
          omega
        · omega
      have hzs : ((x - 1) &&& S) % 2 = S % 2 := by
        rw [hz2]
        rcases Nat.mod_two_eq_zero_or_one S with s | s <;> rw [s] <;> rfl
      omega
    · have e1 : (x - 1) / 2 = x / 2 := by omega
      rw [e1, ← hx1] at hz1
      omega
theorem sub_nx {x S : Nat} : ((x - 1) &&& S) &&& S = (x - 1) &&& S := by
  rw [Nat.and_assoc, Nat.and_self]
theorem iv_subnx {x S : Nat} (h : 1 ≤ x) : (iv x - 1) &&& iv S = iv ((x - 1) &&& S : Nat) := by
  have e : iv x - 1 = iv (x - 1 : Nat) := by
    rw [show (1 : Int32) = iv 1 from rfl, iv_sub]
    congr 1
    omega
  rw [e, iv_and]
/-- those below n that p holds of -/
def bsN (p : Nat → Bool) : Nat → Nat
  | 0 => 0
  | n + 1 => if p n = true then 2 ^ n + bsN p n else bsN p n
theorem bsN_lt {p : Nat → Bool} : ∀ n, bsN p n < 2 ^ n
  | 0 => by
    rw [bsN]
    decide
  | n + 1 => by
    have := bsN_lt (p := p) n
    rw [bsN, Nat.pow_succ]
    split <;> omega
theorem bsN_bit {p : Nat → Bool} {k : Nat} : ∀ n, (bsN p n).testBit k = (decide (k < n) && p k)
  | 0 => by
    rw [bsN, Nat.zero_testBit, decide_eq_false (by omega), Bool.false_and]
  | n + 1 => by
    have ih := bsN_bit (p := p) (k := k) n
    have hl := bsN_lt (p := p) n
    rw [bsN]
    by_cases c : k < n
    · rw [decide_eq_true (show k < n + 1 by omega)]
      rw [decide_eq_true c] at ih
      split
      · rw [Nat.testBit_two_pow_add_gt c, ih]
      · exact ih
    · by_cases e : k = n
      · subst e
        rw [decide_eq_false c, Bool.false_and] at ih
        rw [decide_eq_true (show k < k + 1 by omega), Bool.true_and]
        split
        · rename_i hp
          rw [Nat.testBit_two_pow_add_eq, ih, hp]
          rfl
        · rename_i hp
          rw [ih]
          cases hq : p k
          · rfl
          · exact absurd hq hp
      · rw [decide_eq_false (show ¬ k < n + 1 by omega), Bool.false_and]
        have hk : 2 ^ (n + 1) ≤ 2 ^ k := Nat.pow_le_pow_right (by decide) (by omega)
        rw [Nat.pow_succ] at hk
        split
        · exact Nat.testBit_lt_two_pow (by omega)
        · exact Nat.testBit_lt_two_pow (by omega)
/-- what the numbers of a set come to -/
def sumB (f : Nat → Nat) (S : Nat) : Nat → Nat
  | 0 => 0
  | n + 1 => sumB f S n + (if S.testBit n = true then f n else 0)
theorem sumB_split {f : Nat → Nat} {S A B : Nat} : ∀ n, (∀ j, j < n → S.testBit j = (A.testBit j || B.testBit j) ∧ (A.testBit j && B.testBit j) = false) → sumB f S n = sumB f A n + sumB f B n
  | 0, _ => rfl
  | n + 1, h => by
    obtain ⟨h1, h2⟩ := h n (by omega)
    rw [sumB, sumB, sumB, sumB_split n fun j hj => h j (by omega), h1]
    cases ha : A.testBit n <;> cases hb : B.testBit n
    · simp
    · simp
      omega
    · simp
      omega
    · rw [ha, hb] at h2
      exact Bool.noConfusion h2
theorem sumB_congr {f h : Nat → Nat} {S : Nat} : ∀ n, (∀ j, j < n → S.testBit j = true → f j = h j) → sumB f S n = sumB h S n
  | 0, _ => rfl
  | n + 1, e => by
    rw [sumB, sumB, sumB_congr n fun j hj => e j (by omega)]
    by_cases c : S.testBit n = true
    · rw [if_pos c, if_pos c, e n (by omega) c]
    · rw [if_neg c, if_neg c]
/-- a set without its least -/
theorem low_bit : ∀ (n S : Nat), S ≤ n → 0 < S → ∃ l, S.testBit l = true ∧ (∀ j, j < l → S.testBit j = false) ∧ ∀ j, (S &&& (S - 1)).testBit j = (S.testBit j && decide (j ≠ l))
  | 0, S, h, h0 => by omega
  | n + 1, S, h, h0 => by
    have d1 : ∀ a b : Nat, (a &&& b) / 2 = a / 2 &&& b / 2 := fun a b => Nat.and_div_two_pow (n := 1)
    have m1 : ∀ a b : Nat, (a &&& b) % 2 = (a % 2) &&& (b % 2) := fun a b => Nat.and_mod_two_pow (n := 1)
    rcases Nat.mod_two_eq_zero_or_one S with c | c
    · obtain ⟨l, h1, h2, h3⟩ := low_bit n (S / 2) (by omega) (by omega)
      refine ⟨l + 1, by rw [Nat.testBit_succ]; exact h1, fun j hj => ?_, fun j => ?_⟩
      · cases j with
        | zero => rw [Nat.testBit_zero, c]; rfl
        | succ j => rw [Nat.testBit_succ]; exact h2 j (by omega)
      · cases j with
        | zero =>
          rw [Nat.testBit_zero, Nat.testBit_zero, m1, c, Nat.zero_and]
          rfl
        | succ j =>
          rw [Nat.testBit_succ, Nat.testBit_succ, d1, show (S - 1) / 2 = S / 2 - 1 by omega, h3 j]
          have e : decide (j ≠ l) = decide (j + 1 ≠ l + 1) := decide_eq_decide.mpr (by omega)
          rw [e]
    · refine ⟨0, by rw [Nat.testBit_zero, c]; rfl, fun j hj => by omega, fun j => ?_⟩
      cases j with
      | zero =>
        rw [Nat.testBit_zero, Nat.testBit_zero, m1, show (S - 1) % 2 = 0 by omega, Nat.and_zero, c]
        rfl
      | succ j =>
        rw [Nat.testBit_succ, Nat.testBit_succ, d1, show (S - 1) / 2 = S / 2 by omega, Nat.and_self, decide_eq_true (by omega), Bool.and_true]
/-! bits of a long -/
def lbit (x : Int64) (c : Nat) : Bool := x.toBitVec.toNat.testBit c
theorem smod64 : ∀ c : Nat, c < 64 → (((iv c).toInt64 &&& 63).toBitVec.smod 64).toNat = c := by decide +kernel
theorem lbit_and {x : Int64} {c : Nat} (hc : c < 64) : (x >>> ((iv c).toInt64 &&& 63)) &&& 1 = if lbit x c = true then 1 else 0 := by
  have h1 : ∀ i, (1 : Int64).toBitVec.getLsbD i = decide (i = 0) := fun i => by
    show (1#64).getLsbD i = _
    rw [BitVec.getLsbD_one]
    simp
  have e : ((x >>> ((iv c).toInt64 &&& 63)) &&& 1).toBitVec = (if lbit x c = true then (1 : Int64) else 0).toBitVec := by
    rw [Int64.toBitVec_and, Int64.toBitVec_shiftRight, BitVec.sshiftRight_eq', smod64 c hc]
    apply BitVec.eq_of_getLsbD_eq
    intro i hi
    rw [BitVec.getLsbD_and, h1]
    by_cases q : i = 0
    · subst q
      rw [BitVec.getLsbD_sshiftRight, if_pos (by omega)]
      show (!decide (64 ≤ 0) && lbit x c && decide (0 = 0)) = _
      cases lbit x c
      · rw [if_neg (by decide)]
        rfl
      · rw [if_pos rfl]
        rfl
    · rw [decide_eq_false q, Bool.and_false]
      split
      · rw [h1, decide_eq_false q]
      · show false = (0#64).getLsbD i
        simp
  exact Int64.toBitVec_inj.mp e
theorem lcmp0 {x : Int64} {c : Nat} (hc : c < 64) : lg_cmp ((x >>> ((iv c).toInt64 &&& 63)) &&& 1) 0 = 0 ↔ lbit x c = false := by
  rw [lbit_and hc]
  cases lbit x c
  · rw [if_neg (by decide)]
    decide
  · rw [if_pos rfl]
    decide
theorem lcmp1 {x : Int64} {c : Nat} (hc : c < 64) : lg_cmp ((x >>> ((iv c).toInt64 &&& 63)) &&& 1) 1 = 0 ↔ lbit x c = true := by
  rw [lbit_and hc]
  cases lbit x c
  · rw [if_neg (by decide)]
    decide
  · rw [if_pos rfl]
    decide
/-- the cells of a set, in their order -/
def gls (x : Int64) : Nat → List Nat
  | 0 => []
  | c + 1 => if lbit x c = true then gls x c ++ [c] else gls x c
theorem gls_len {x : Int64} : ∀ c, (gls x c).length = cntB (fun k => x.toBitVec.toNat.testBit k) c
  | 0 => rfl
  | c + 1 => by
    have ih := gls_len (x := x) c
    rw [gls, cntB]
    have e : x.toBitVec.toNat.testBit c = lbit x c := rfl
    rw [e]
    by_cases q : lbit x c = true
    · rw [if_pos q, if_pos q, List.length_append, ih]
      rfl
    · rw [if_neg q, if_neg q, ih]
      rfl
theorem gls_mem {x : Int64} {a : Nat} : ∀ c, a ∈ gls x c → a < c ∧ lbit x a = true
  | 0, h => by
    rw [gls] at h
    exact absurd h List.not_mem_nil
  | c + 1, h => by
    rw [gls] at h
    by_cases q : lbit x c = true
    · rw [if_pos q, List.mem_append, List.mem_singleton] at h
      rcases h with h | rfl
      · have := gls_mem c h
        exact ⟨by omega, this.2⟩
      · exact ⟨by omega, q⟩
    · rw [if_neg q] at h
      have := gls_mem c h
      exact ⟨by omega, this.2⟩
theorem gls_ext {x : Int64} {c : Nat} : ∀ d, ∃ r, gls x (c + d) = gls x c ++ r
  | 0 => ⟨[], by rw [List.append_nil]; rfl⟩
  | d + 1 => by
    obtain ⟨r, e⟩ := gls_ext (x := x) (c := c) d
    rw [← Nat.add_assoc, gls]
    by_cases q : lbit x (c + d) = true
    · rw [if_pos q, e, List.append_assoc]
      exact ⟨_, rfl⟩
    · rw [if_neg q, e]
      exact ⟨_, rfl⟩
theorem gls_le {x : Int64} {c c2 : Nat} (h : c ≤ c2) : (gls x c).length ≤ (gls x c2).length := by
  obtain ⟨r, e⟩ := gls_ext (x := x) (c := c) (c2 - c)
  rw [show c + (c2 - c) = c2 by omega] at e
  rw [e, List.length_append]
  omega
theorem gls_full {x : Int64} {c c2 : Nat} (h : c ≤ c2) (hl : (gls x c2).length ≤ (gls x c).length) : gls x c2 = gls x c := by
  obtain ⟨r, e⟩ := gls_ext (x := x) (c := c) (c2 - c)
  rw [show c + (c2 - c) = c2 by omega] at e
  rw [e, List.length_append] at hl
  have hr : r = [] := List.eq_nil_of_length_eq_zero (by omega)
  rw [e, hr, List.append_nil]
theorem getD_app {l : List Nat} {a i : Nat} : (l ++ [a]).getD i 0 = if i = l.length then a else l.getD i 0 := by
  rw [List.getD_eq_getElem?_getD, List.getD_eq_getElem?_getD]
  by_cases c : i = l.length
  · rw [if_pos c, c, List.getElem?_append_right (Nat.le_refl _), Nat.sub_self]
    rfl
  · rw [if_neg c]
    rcases Nat.lt_or_ge i l.length with q | q
    · rw [List.getElem?_append_left q]
    · rw [List.getElem?_append_right q, List.getElem?_eq_none (by simp only [List.length_singleton]; omega), List.getElem?_eq_none q]
