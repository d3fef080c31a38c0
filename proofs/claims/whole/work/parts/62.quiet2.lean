/-! QUIET methods, more: beneath, lookAt, who, holds -/
theorem zbI_and (p q : Bool) : zbI p &&& zbI q = zbI (p && q) := by
  cases p <;> cases q <;> decide
theorem and11 (a b : Int32) : (a &&& b) &&& 1 = (a &&& 1) &&& (b &&& 1) := by
  rw [Int32.and_assoc a 1, ← Int32.and_assoc 1 b 1, Int32.and_comm 1 b, Int32.and_assoc b 1 1, Int32.and_self, ← Int32.and_assoc]
theorem allI {N : Nat} (hN : N ≤ 8) : ((1 : Int32) <<< (iv N &&& 31)) - 1 = iv (2 ^ N - 1 : Nat) ∧ 1 ≤ 2 ^ N ∧ 2 ^ N ≤ 256 := by
  have h1 := Nat.two_pow_pos N
  have h2 : 2 ^ N ≤ 2 ^ 8 := Nat.pow_le_pow_right (by decide) hN
  refine ⟨?_, by omega, by omega⟩
  rw [one_sl (by omega), show (1 : Int32) = iv 1 from rfl, iv_sub]
  congr 1
  omega
theorem nat_of_bits {x : Int32} {N : Nat} (hN : N ≤ 30) (h : ∀ k, N ≤ k → k < 32 → bitB x k = false) : ∃ m : Nat, m < 2 ^ N ∧ x = iv m := by
  refine ⟨x.toBitVec.toNat, ?_, ?_⟩
  · refine Nat.lt_pow_two_of_testBit _ fun i hi => ?_
    rcases Nat.lt_or_ge i 32 with c | c
    · exact h i hi c
    · exact Nat.testBit_lt_two_pow (Nat.lt_of_lt_of_le x.toBitVec.isLt (Nat.pow_le_pow_right (by decide) c))
  · apply bv_inj
    rw [iv_bv, BitVec.ofNat_toNat]
    rfl
theorem mask_iff {x : Int32} {N : Nat} (hN : N ≤ 30) : (x &&& (iv (2 ^ N - 1 : Nat) ^^^ (-1))) = 0 ↔ ∃ m : Nat, m < 2 ^ N ∧ x = iv m := by
  constructor
  · intro h
    refine nat_of_bits hN fun k h1 h2 => ?_
    have hb : bitB (x &&& (iv (2 ^ N - 1 : Nat) ^^^ (-1))) k = false := by rw [h, bit_z]
    rw [bit_and, bit_not h2, bit_iv h2, Nat.testBit_two_pow_sub_one, decide_eq_false (by omega)] at hb
    cases hx : bitB x k
    · rfl
    · rw [hx] at hb
      exact absurd hb (by decide)
  · rintro ⟨m, hm, rfl⟩
    refine bit_ext fun k hk => ?_
    rw [bit_and, bit_not hk, bit_iv hk, bit_iv hk, Nat.testBit_two_pow_sub_one, bit_z]
    by_cases c : k < N
    · rw [decide_eq_true c]
      cases m.testBit k <;> rfl
    · rw [Nat.testBit_lt_two_pow (Nat.lt_of_lt_of_le hm (Nat.pow_le_pow_right (by decide) (by omega)))]
      rfl
theorem iv_xor (a b : Nat) : iv a ^^^ iv b = iv (a ^^^ b : Nat) := by
  apply bv_inj
  rw [Int32.toBitVec_xor, iv_bv, iv_bv, iv_bv, BitVec.ofNat_xor]
def benB (w : Nat → Int32) (l b i : Nat) : Bool := decide (w (538 + i) ||| w (538 + l) = shp w b)
def beneathV (w : Nat → Int32) (l c : Int32) : Int32 := if skB (w 157) l = true ∧ boxB (w 150) (w 151) c = true then bset (benB w l.toInt.toNat c.toInt.toNat) (w 157).toInt.toNat else -1
def havB (w : Nat → Int32) (x : Int32) (c i : Nat) : Bool := bitB x i && bitB (w (538 + i)) c
def havN (w : Nat → Int32) (x : Int32) (c : Nat) : Nat := cntB (havB w x c) (w 157).toInt.toNat
def gpI (w : Nat → Int32) (x : Int32) (c : Nat) : Int32 := if iv (cntB (bitB x) 16 : Nat) - iv (havN w x c : Nat) < iv (havN w x c : Nat) then iv (havN w x c : Nat) else iv (cntB (bitB x) 16 : Nat) - iv (havN w x c : Nat)
def lookF (w : Nat → Int32) (x : Int32) : Nat → Nat → Nat → Int32
  | 0, _, b => iv b
  | f + 1, k, b => if gpI w x b ≤ gpI w x k then lookF w x f (k + 1) b else lookF w x f (k + 1) k
def lookAtV (w : Nat → Int32) (x : Int32) : Int32 := if (0 ≤ x.toInt ∧ x.toInt ≤ (2 ^ (w 157).toInt.toNat - 1 : Nat)) ∧ 2 ≤ cntB (bitB x) 16 then lookF w x 8 1 0 else -1
def cutsB (w : Nat → Int32) (s k i : Nat) : Bool := seenB w (k + 8 * (i / 3) + i % 3) && decide (w (85 + (k + 8 * (i / 3) + i % 3)) = iv s)
def cutsN (w : Nat → Int32) (s k : Nat) : Nat := cntB (cutsB w s k) 9
def whoF (w : Nat → Int32) (k : Nat) (what : Int32) : Nat → Nat → Int32 → Nat → Int32 → Int32
  | 0, _, b, _, st => if what = 0 then b else st
  | f + 1, s, b, m, st => whoF w k what f (s + 1) (if m < cutsN w s k then iv s else b) (if m < cutsN w s k then cutsN w s k else m) (if 0 < cutsN w s k then st ||| (1 <<< (iv s &&& 31)) else st)
def whoV (w : Nat → Int32) (c what : Int32) : Int32 := if boxB (w 150) (w 151) c = true ∧ (what = 0 ∨ what = 1) then whoF w c.toInt.toNat what (w 154).toInt.toNat 0 (-1) 0 0 else -2
def pcN (m : Nat) : Nat := cntB (fun k => m.testBit k) 16
def apP (w : Nat → Int32) (m d : Nat) : Prop := ∀ i k : Nat, k < i → i < (w 157).toInt.toNat → m.testBit i = true → m.testBit k = true → d ≤ cntB (bitB (w (538 + i) ^^^ w (538 + k))) 16
noncomputable def apB (w : Nat → Int32) (m d : Nat) : Bool := @decide (apP w m d) (Classical.propDecidable _)
noncomputable def holdsF (w : Nat → Int32) (d : Nat) : Nat → Nat → Nat → Nat
  | 0, _, b => b
  | f + 1, m, b => holdsF w d f (m + 1) (if pcN b < pcN m ∧ apB w m d = true then m else b)
noncomputable def holdsV (w : Nat → Int32) (d what : Int32) : Int32 := if (1 ≤ d.toInt ∧ d.toInt ≤ 9) ∧ (what = 0 ∨ what = 1) then (if what = 0 then iv (pcN (holdsF w d.toInt.toNat (2 ^ (w 157).toInt.toNat - 1) 1 0) : Nat) else iv (holdsF w d.toInt.toNat (2 ^ (w 157).toInt.toNat - 1) 1 0 : Nat)) else -1
theorem cntB_mono {p q : Nat → Bool} : ∀ n m, n ≤ m → (∀ k, k < n → p k = true → q k = true) → cntB p n ≤ cntB q m
  | 0, m, _, _ => by
    rw [cntB]
    exact Nat.zero_le _
  | n + 1, m, hm, h => by
    obtain ⟨r, rfl⟩ : ∃ r, m = r + 1 := ⟨m - 1, by omega⟩
    by_cases c : n = r
    · subst c
      have ih := cntB_mono (p := p) (q := q) n n (Nat.le_refl n) fun k hk => h k (by omega)
      rw [cntB, cntB]
      by_cases c1 : p n = true
      · rw [if_pos c1, if_pos (h n (by omega) c1)]
        omega
      · rw [if_neg c1]
        omega
    · have ih := cntB_mono (p := p) (q := q) (n + 1) r (by omega) h
      have e : cntB q (r + 1) = cntB q r + (if q r = true then 1 else 0) := rfl
      omega
  termination_by n m => m
theorem havN_le {w : Nat → Int32} {x : Int32} {c : Nat} (h : (w 157).toInt.toNat ≤ 8) : havN w x c ≤ cntB (bitB x) 16 := by
  refine cntB_mono _ 16 (by omega) fun k _ hk => ?_
  unfold havB at hk
  cases hb : bitB x k
  · rw [hb] at hk
    exact absurd hk (by simp)
  · rfl
theorem what01 {what : Int32} : isInB what 0 1 = true ↔ what = 0 ∨ what = 1 := by
  simp only [isInB, decide_eq_true_eq, decide_eq_false_iff_not, Int32.reduceToInt]
  constructor
  · intro hb
    by_cases c : what.toInt = 0
    · exact Or.inl (by rw [eqI, c]; rfl)
    · exact Or.inr (by rw [eqI]; simp only [Int32.reduceToInt]; omega)
  · rintro (rfl | rfl) <;> simp only [Int32.reduceToInt] <;> omega
section QA9
variable {g : zG} {d : Nat} {M : zM} {Q : Int32 → zM → Prop}
theorem c9_beneath {l c : Int32} (hi : IS (M 1)) (h : Q (beneathV (M 1) l c) M) : zCi shM g (d + 4) mX9_beneath [.ref 0, .int l, .int c] M Q := by
  have hn := hi.2.2.2.2.2.1
  have hn8 := hn.2
  unfold beneathV at h
  refine vX9_beneath (c9_isIn ?_)
  rw [isIn_sk hn (by omega)]
  refine ⟨fun hb => ?_, fun hb => c9_isBox hi.1 ⟨fun hx => ?_, fun hx => ?_⟩⟩
  · rw [if_neg (fun z => by rw [hb] at z; exact Bool.noConfusion z.1)] at h
    exact h
  · rw [if_pos ⟨hb, hx⟩] at h
    obtain ⟨k, rfl, hk, hk2, hk3⟩ := sk_nat (z := 8) hn.2 hb
    obtain ⟨b, rfl, hb64, hbo⟩ := box_nat hi.1 hx
    obtain ⟨N, e1, e2, e3⟩ := iv_nat (x := M 1 157) (n := 9) hn.1 (by omega)
    have e4 : (M 1 157).toInt.toNat = N := by omega
    rw [iv_tn (by omega), iv_tn (by omega), e4] at h
    have loop : ∀ n i : Nat, i + n = N → zW shM g (d + 4) mX9_beneath (zi Q) 33 [(0, .ref 0), (1, .int (iv k)), (2, .int (iv b)), (3, .int (bset (benB (M 1) k b) i)), (4, .int (iv i))] [] M := by
      intro n
      induction n with
      | zero =>
        intro i hi2
        obtain rfl : i = N := by omega
        refine vX9_beneath_33 ⟨fun _ => h, fun c => absurd ?_ c⟩
        rw [e1]
        exact Int32.le_refl _
      | succ n ih =>
        intro i hi2
        have ih := ih (i + 1) (by omega)
        rw [bset] at ih
        refine vX9_beneath_33 ⟨fun c => ?_, fun _ => ⟨538 + i, iv_n 538 i, by omega, 538 + k, iv_n 538 k, by omega, c9_shapeOf hbo ⟨fun c => ?_, fun c => ?_⟩⟩⟩
        · rw [e1] at c
          exact (not_le_iv (a := N) (b := i) (by omega) (by omega) c).elim
        · rw [if_neg (fun z : benB (M 1) k b i = true => c (of_decide_eq_true z))] at ih
          rw [iv_s, Int32.or_zero]
          exact ih
        · rw [if_pos (show benB (M 1) k b i = true from decide_eq_true c)] at ih
          rw [iv_s]
          exact ih
    exact loop N 0 (by omega)
  · rw [if_neg (fun z => by rw [hx] at z; exact Bool.noConfusion z.2)] at h
    exact h
theorem c9_count {x : Int32} (h : Q (iv (cntB (bitB x) 16 : Nat)) M) : zCi shM g d mX9_count [.int x] M Q := by
  refine vX9_count ?_
  have loop : ∀ n i : Nat, i + n = 16 → zW shM g d mX9_count (zi Q) 4 [(0, .int x), (1, .int (iv (cntB (bitB x) i : Nat))), (2, .int (iv i))] [] M := by
    intro n
    induction n with
    | zero =>
      intro i hi
      obtain rfl : i = 16 := by omega
      exact vX9_count_4 ⟨fun _ => h, fun c => absurd (by decide) c⟩
    | succ n ih =>
      intro i hi
      have ih := ih (i + 1) (by omega)
      rw [cntB] at ih
      refine vX9_count_4 ⟨fun c => (not_le_iv (a := 16) (b := i) (by omega) (by omega) c).elim, fun _ => ?_⟩
      rw [bitAt (by omega), iv_zb, iv_s]
      exact ih
  exact loop 16 0 rfl
theorem c9_greaterPart {x : Int32} {c : Nat} (hi : IS (M 1)) (hc : c < 9) (h : Q (gpI (M 1) x c) M) : zCi shM g (d + 1) mX9_greaterPart [.ref 0, .int x, .int (iv c)] M Q := by
  have hn := hi.2.2.2.2.2.1
  have hn8 := hn.2
  obtain ⟨N, e1, e2, e3⟩ := iv_nat (x := M 1 157) (n := 9) hn.1 (by omega)
  have e4 : (M 1 157).toInt.toNat = N := by omega
  unfold gpI havN at h
  rw [e4] at h
  refine vX9_greaterPart ?_
  have loop : ∀ n i : Nat, i + n = N → zW shM g (d + 1) mX9_greaterPart (zi Q) 5 [(0, .ref 0), (1, .int x), (2, .int (iv c)), (3, .int (iv (cntB (havB (M 1) x c) i : Nat))), (4, .int (iv i))] [] M := by
    intro n
    induction n with
    | zero =>
      intro i hi2
      obtain rfl : i = N := by omega
      refine vX9_greaterPart_5 ⟨fun _ => c9_count (c9_greater h), fun c => absurd ?_ c⟩
      rw [e1]
      exact Int32.le_refl _
    | succ n ih =>
      intro i hi2
      have ih := ih (i + 1) (by omega)
      rw [cntB] at ih
      refine vX9_greaterPart_5 ⟨fun c => ?_, fun _ => ⟨fun hb => ?_, fun hb => ⟨538 + i, iv_n 538 i, by omega, ?_⟩⟩⟩
      · rw [e1] at c
        exact (not_le_iv (a := N) (b := i) (by omega) (by omega) c).elim
      · rw [if_neg (fun z : havB (M 1) x c i = true => hb ((bitAt1 (by omega)).mpr (Bool.and_eq_true_iff.mp z).1))] at ih
        rw [iv_s, Int32.add_zero]
        exact ih
      · have hb1 := (bitAt1 (by omega)).mp hb
        rw [bitAt (by omega), iv_zb, iv_s]
        rw [havB, hb1, Bool.true_and] at ih
        exact ih
  exact loop N 0 (by omega)
theorem c9_lookAt {x : Int32} (hi : IS (M 1)) (h : Q (lookAtV (M 1) x) M) : zCi shM g (d + 2) mX9_lookAt [.ref 0, .int x] M Q := by
  have hn := hi.2.2.2.2.2.1
  have hn8 := hn.2
  obtain ⟨N, e1, e2, e3⟩ := iv_nat (x := M 1 157) (n := 9) hn.1 (by omega)
  have e4 : (M 1 157).toInt.toNat = N := by omega
  unfold lookAtV at h
  rw [e4] at h
  obtain ⟨a1, a2, a3⟩ := allI (N := N) (by omega)
  refine vX9_lookAt (c9_isIn ?_)
  rw [e1, a1]
  have hcnt := cntB_le (p := bitB x) 16
  refine ⟨fun hb => ?_, fun hb => c9_count ⟨fun c => ?_, fun c => ?_⟩⟩
  · simp only [isInB, decide_eq_true_eq, decide_eq_false_iff_not, Int32.reduceToInt] at hb
    rw [iv_toInt (by omega) (by omega)] at hb
    rw [if_neg (fun z => hb z.1)] at h
    exact h
  · simp only [isInB, decide_eq_true_eq, decide_eq_false_iff_not, Int32.reduceToInt] at hb
    rw [iv_toInt (by omega) (by omega)] at hb
    rw [show (2 : Int32) = iv (2 : Nat) from rfl, Int32.le_iff_toInt_le, iv_toInt (by omega) (by omega), iv_toInt (by omega) (by omega)] at c
    rw [if_pos ⟨hb, by omega⟩] at h
    have loop : ∀ f k b : Nat, k + f = 9 → b < 9 → Q (lookF (M 1) x f k b) M → zW shM g (d + 2) mX9_lookAt (zi Q) 34 [(0, .ref 0), (1, .int x), (2, .int (iv b)), (3, .int (iv k))] [] M := by
      intro f
      induction f with
      | zero =>
        intro k b hk hb9 h
        obtain rfl : k = 9 := by omega
        exact vX9_lookAt_34 ⟨fun _ => h, fun c => absurd (by decide) c⟩
      | succ f ih =>
        intro k b hk hb9 h
        rw [lookF] at h
        refine vX9_lookAt_34 ⟨fun c => (not_le_iv (a := 9) (b := k) (by omega) (by omega) c).elim, fun _ => c9_greaterPart hi (by omega) (c9_greaterPart hi hb9 ⟨fun c => ?_, fun c => ?_⟩)⟩
        · rw [if_pos c] at h
          rw [iv_s]
          exact ih (k + 1) b (by omega) hb9 h
        · rw [if_neg c] at h
          rw [iv_s]
          exact ih (k + 1) k (by omega) (by omega) h
    exact loop 8 1 0 rfl (by decide) h
  · rw [show (2 : Int32) = iv (2 : Nat) from rfl, Int32.le_iff_toInt_le, iv_toInt (by omega) (by omega), iv_toInt (by omega) (by omega)] at c
    rw [if_neg (fun z => c (by omega))] at h
    exact h
theorem c9_cutsOf {s k : Nat} (hs : s < 6) (hk : boxOK k) (h : Q (iv (cutsN (M 1) s k : Nat)) M) : zCi shM g (d + 1) mX9_cutsOf [.ref 0, .int (iv s), .int (iv k)] M Q := by
  refine vX9_cutsOf ?_
  have loop : ∀ n i : Nat, i + n = 9 → zW shM g (d + 1) mX9_cutsOf (zi Q) 5 [(0, .ref 0), (1, .int (iv s)), (2, .int (iv k)), (3, .int (iv (cntB (cutsB (M 1) s k) i : Nat))), (4, .int (iv i))] [] M := by
    intro n
    induction n with
    | zero =>
      intro i hi
      obtain rfl : i = 9 := by omega
      exact vX9_cutsOf_5 ⟨fun _ => h, fun c => absurd (by decide) c⟩
    | succ n ih =>
      intro i hi
      have ih := ih (i + 1) (by omega)
      rw [cntB] at ih
      have e : (iv k + (8 * (iv i / 3))) + (iv i - iv i / 3 * 3) = iv (k + 8 * (i / 3) + i % 3 : Nat) := by
        rw [Int32.mul_comm 8]
        exact inbox_eq (by omega)
      have h64 := hk.at (i := i) (by omega)
      refine vX9_cutsOf_5 ⟨fun c => (not_le_iv (a := 9) (b := i) (by omega) (by omega) c).elim, fun _ => ?_⟩
      rw [e]
      refine c9_isSeen h64 ⟨fun hb => ?_, fun hb => ⟨85 + (k + 8 * (i / 3) + i % 3), iv_n 85 _, by omega, fun c => ?_, fun c => ?_⟩⟩
      · rw [cutsB, hb, Bool.false_and, if_neg (by decide)] at ih
        rw [iv_s, Int32.add_zero]
        exact ih
      · rw [cutsB, hb, Bool.true_and, decide_eq_false c, if_neg (by decide)] at ih
        rw [iv_s, Int32.add_zero]
        exact ih
      · rw [cutsB, hb, Bool.true_and, decide_eq_true c, if_pos rfl] at ih
        rw [iv_s, iv_s]
        exact ih
  exact loop 9 0 rfl
theorem c9_who {c what : Int32} (hi : IS (M 1)) (h : Q (whoV (M 1) c what) M) : zCi shM g (d + 4) mX9_who [.ref 0, .int c, .int what] M Q := by
  obtain ⟨n0, n6⟩ := hi.2.2.2.1
  obtain ⟨N, e1, e2, e3⟩ := iv_nat (x := M 1 154) (n := 7) n0 (by omega)
  have e4 : (M 1 154).toInt.toNat = N := by omega
  unfold whoV at h
  rw [e4] at h
  refine vX9_who (c9_isBox hi.1 ⟨fun hb => ?_, fun hb => c9_isIn ⟨fun hw => ?_, fun hw => ?_⟩⟩)
  · rw [if_neg (fun z => by rw [hb] at z; exact Bool.noConfusion z.1)] at h
    exact h
  · rw [if_pos ⟨hb, what01.mp hw⟩] at h
    obtain ⟨b, rfl, hb64, hbo⟩ := box_nat hi.1 hb
    rw [iv_tn (by omega)] at h
    have loop : ∀ (f s : Nat) (l3 : Int32) (m : Nat) (l5 : Int32), s + f = N → m ≤ 9 → Q (whoF (M 1) b what f s l3 m l5) M → zW shM g (d + 4) mX9_who (zi Q) 31 [(0, .ref 0), (1, .int (iv b)), (2, .int what), (3, .int l3), (4, .int (iv m)), (5, .int l5), (6, .int (iv s))] [] M := by
      intro f
      induction f with
      | zero =>
        intro s l3 m l5 hs hm h9
        obtain rfl : s = N := by omega
        have h : Q (if what = 0 then l3 else l5) M := h9
        refine vX9_who_31 ⟨fun _ => ⟨fun c => ?_, fun c => ?_⟩, fun c => absurd ?_ c⟩
        · rw [if_neg c] at h
          exact h
        · rw [if_pos c] at h
          exact h
        · rw [e1]
          exact Int32.le_refl _
      | succ f ih =>
        intro s l3 m l5 hs hm h
        simp only [whoF] at h
        have hc9 : cutsN (M 1) s b ≤ 9 := cntB_le 9
        refine vX9_who_31 ⟨fun c => ?_, fun _ => c9_cutsOf (by omega) hbo ?_⟩
        · rw [e1] at c
          exact (not_le_iv (a := N) (b := s) (by omega) (by omega) c).elim
        generalize cutsN (M 1) s b = n at h hc9
        have cmp : iv m < iv n ↔ m < n := by
          rw [Int32.lt_iff_toInt_lt, iv_toInt (by omega) (by omega), iv_toInt (by omega) (by omega)]
          omega
        have c0 : iv n ≤ 0 ↔ n = 0 := by
          rw [show (0 : Int32) = iv (0 : Nat) from rfl, Int32.le_iff_toInt_le, iv_toInt (by omega) (by omega), iv_toInt (by omega) (by omega)]
          omega
        have nx : ∀ x : Int32, (l5 ||| x) = (if 0 < n then l5 ||| (1 <<< (iv s &&& 31)) else l5) → zW shM g (d + 4) mX9_who (zi Q) 68 [(0, .ref 0), (1, .int (iv b)), (2, .int what), (3, .int l3), (4, .int (iv m)), (6, .int (iv s)), (7, .int (iv n))] [.int x, .int l5] M := by
          intro x hx
          refine vX9_who_68 ⟨fun c => ?_, fun c => ?_⟩
          · rw [if_pos (cmp.mp c), if_pos (cmp.mp c)] at h
            rw [hx, iv_s]
            exact ih (s + 1) _ _ _ (by omega) hc9 h
          · rw [if_neg (fun z => c (cmp.mpr z)), if_neg (fun z => c (cmp.mpr z))] at h
            rw [hx, iv_s]
            exact ih (s + 1) _ _ _ (by omega) hm h
        refine ⟨fun c => nx 0 ?_, fun c => nx _ ?_⟩
        · rw [if_neg (by have := c0.mp c; omega), Int32.or_zero]
        · rw [if_pos (by have : ¬ n = 0 := fun z => c (c0.mpr z); omega)]
    exact loop N 0 (-1) 0 0 (by omega) (by omega) h
  · rw [if_neg (fun z => by rw [what01.mpr z.2] at hw; exact Bool.noConfusion hw)] at h
    exact h
theorem c9_areApart {Q : Bool → zM → Prop} {m dn : Nat} (hi : IS (M 1)) (hm : m < 1024) (hd : dn ≤ 9) (h : Q (apB (M 1) m dn) M) : zCz shM g (d + 1) mX9_areApart [.ref 0, .int (iv m), .int (iv dn)] M Q := by
  have hn := hi.2.2.2.2.2.1
  have hn8 := hn.2
  obtain ⟨N, e1, e2, e3⟩ := iv_nat (x := M 1 157) (n := 9) hn.1 (by omega)
  have e4 : (M 1 157).toInt.toNat = N := by omega
  unfold apB at h
  refine vX9_areApart ?_
  have loop : ∀ n i : Nat, i + n = N → (∀ i' k, k < i' → i' < i → m.testBit i' = true → m.testBit k = true → dn ≤ cntB (bitB (M 1 (538 + i') ^^^ M 1 (538 + k))) 16) → zW shM g (d + 1) mX9_areApart (zz Q) 2 [(0, .ref 0), (1, .int (iv m)), (2, .int (iv dn)), (3, .int (iv i))] [] M := by
    intro n
    induction n with
    | zero =>
      intro i hi2 hall
      obtain rfl : i = N := by omega
      refine vX9_areApart_2 ⟨fun _ => dT h ?_, fun c => absurd ?_ c⟩
      · intro i' k h1 h2 h3 h4
        exact hall i' k h1 (by omega) h3 h4
      · rw [e1]
        exact Int32.le_refl _
    | succ n ih =>
      intro i hi2 hall
      refine vX9_areApart_2 ⟨fun c => ?_, fun _ => ?_⟩
      · rw [e1] at c
        exact (not_le_iv (a := N) (b := i) (by omega) (by omega) c).elim
      have inner : ∀ f k : Nat, k + f = i → (∀ k', k' < k → m.testBit i = true → m.testBit k' = true → dn ≤ cntB (bitB (M 1 (538 + i) ^^^ M 1 (538 + k'))) 16) → zW shM g (d + 1) mX9_areApart (zz Q) 17 [(0, .ref 0), (1, .int (iv m)), (2, .int (iv dn)), (3, .int (iv i)), (4, .int (iv k))] [] M := by
        intro f
        induction f with
        | zero =>
          intro k hk hin
          obtain rfl : k = i := by omega
          refine vX9_areApart_17 ⟨fun _ => ?_, fun c => absurd (Int32.le_refl _) c⟩
          rw [iv_s]
          refine ih (k + 1) (by omega) fun i' k' h1 h2 h3 h4 => ?_
          by_cases e : i' = k
          · subst e
            exact hin k' h1 h3 h4
          · exact hall i' k' h1 (by omega) h3 h4
        | succ f ihf =>
          intro k hk hin
          have nx : (m.testBit i = true → m.testBit k = true → dn ≤ cntB (bitB (M 1 (538 + i) ^^^ M 1 (538 + k))) 16) → zW shM g (d + 1) mX9_areApart (zz Q) 17 [(0, .ref 0), (1, .int (iv m)), (2, .int (iv dn)), (3, .int (iv i)), (4, .int (iv k + 1))] [] M := by
            intro hk2
            rw [iv_s]
            refine ihf (k + 1) (by omega) fun k' h1 h2 h3 => ?_
            by_cases e : k' = k
            · subst e
              exact hk2 h2 h3
            · exact hin k' (by omega) h2 h3
          refine vX9_areApart_17 ⟨fun c => (not_le_iv (a := i) (b := k) (by omega) (by omega) c).elim, fun _ => ⟨fun c => nx fun z _ => absurd z ?_, fun c => ⟨fun c2 => nx fun _ z => absurd z ?_, fun c2 => ⟨538 + i, iv_n 538 i, by omega, 538 + k, iv_n 538 k, by omega, c9_count ⟨fun c3 => nx fun _ _ => ?_, fun c3 => ?_⟩⟩⟩⟩⟩
          · rw [bitAt1 (by omega), bit_iv (by omega)] at c
            exact c
          · rw [bitAt1 (by omega), bit_iv (by omega)] at c2
            exact c2
          · have := cntB_le (p := bitB (M 1 (538 + i) ^^^ M 1 (538 + k))) 16
            rw [Int32.le_iff_toInt_le, iv_toInt (by omega) (by omega), iv_toInt (by omega) (by omega)] at c3
            omega
          · rw [bitAt1 (by omega), bit_iv (by omega)] at c
            rw [bitAt1 (by omega), bit_iv (by omega)] at c2
            have := cntB_le (p := bitB (M 1 (538 + i) ^^^ M 1 (538 + k))) 16
            refine dF h fun z => c3 ?_
            exact le_iv_of (z i k (by omega) (by omega) c c2) (by omega)
      exact inner i 0 (by omega) fun k' h1 => by omega
  exact loop N 0 (by omega) fun i' k _ h1 => by omega
theorem pc_iv {m : Nat} : cntB (bitB (iv m)) 16 = pcN m := cntB_congr 16 fun k hk => bit_iv (by omega)
theorem c9_holds {dd what : Int32} (hi : IS (M 1)) (h : Q (holdsV (M 1) dd what) M) : zCi shM g (d + 2) mX9_holds [.ref 0, .int dd, .int what] M Q := by
  have hn := hi.2.2.2.2.2.1
  have hn8 := hn.2
  obtain ⟨N, e1, e2, e3⟩ := iv_nat (x := M 1 157) (n := 9) hn.1 (by omega)
  have e4 : (M 1 157).toInt.toNat = N := by omega
  unfold holdsV at h
  rw [e4] at h
  obtain ⟨a1, a2, a3⟩ := allI (N := N) (by omega)
  have a4 : (1 : Int32) <<< (iv N &&& 31) = iv (2 ^ N : Nat) := one_sl (by omega)
  refine vX9_holds (c9_isIn ⟨fun hb => ?_, fun hb => c9_isIn ⟨fun hw => ?_, fun hw => ?_⟩⟩)
  · simp only [isInB, decide_eq_true_eq, decide_eq_false_iff_not, Int32.reduceToInt] at hb
    rw [if_neg (fun z => hb z.1)] at h
    exact h
  · simp only [isInB, decide_eq_true_eq, decide_eq_false_iff_not, Int32.reduceToInt] at hb
    rw [if_pos ⟨hb, what01.mp hw⟩] at h
    obtain ⟨dn, rfl, hd10, hdI⟩ := iv_nat (x := dd) (n := 10) (by omega) (by omega)
    rw [iv_tn (by omega)] at h
    have loop : ∀ f m b : Nat, m + f = 2 ^ N → b < 2 ^ N → Q (if what = 0 then iv (pcN (holdsF (M 1) dn f m b) : Nat) else iv (holdsF (M 1) dn f m b : Nat)) M → zW shM g (d + 2) mX9_holds (zi Q) 26 [(0, .ref 0), (1, .int (iv dn)), (2, .int what), (3, .int (iv b)), (4, .int (iv m))] [] M := by
      intro f
      induction f with
      | zero =>
        intro m b hm hb2 h
        obtain rfl : m = 2 ^ N := by omega
        rw [holdsF] at h
        refine vX9_holds_26 ⟨fun _ => ⟨fun c => ?_, fun c => c9_count ?_⟩, fun c => absurd ?_ c⟩
        · rw [if_neg c] at h
          exact h
        · rw [if_pos c] at h
          rw [pc_iv]
          exact h
        · rw [e1, a4]
          exact Int32.le_refl _
      | succ f ih =>
        intro m b hm hb2 h
        rw [holdsF] at h
        have p1 : pcN m ≤ 16 := cntB_le 16
        have p2 : pcN b ≤ 16 := cntB_le 16
        refine vX9_holds_26 ⟨fun c => ?_, fun _ => c9_count (c9_count ?_)⟩
        · rw [e1, a4] at c
          exact (not_le_iv (a := 2 ^ N) (b := m) (by omega) (by omega) c).elim
        rw [pc_iv, pc_iv, iv_s]
        refine ⟨fun c => ?_, fun c => c9_areApart hi (by omega) (by omega) ⟨fun c2 => ?_, fun c2 => ?_⟩⟩
        · rw [Int32.le_iff_toInt_le, iv_toInt (by omega) (by omega), iv_toInt (by omega) (by omega)] at c
          rw [if_neg (c := pcN b < pcN m ∧ _) (fun z => by omega)] at h
          exact ih (m + 1) b (by omega) hb2 h
        · rw [if_neg (c := pcN b < pcN m ∧ _) (fun z => by rw [c2] at z; exact Bool.noConfusion z.2)] at h
          exact ih (m + 1) b (by omega) hb2 h
        · rw [Int32.le_iff_toInt_le, iv_toInt (by omega) (by omega), iv_toInt (by omega) (by omega)] at c
          rw [if_pos (c := pcN b < pcN m ∧ _) ⟨by omega, c2⟩] at h
          exact ih (m + 1) m (by omega) (by omega) h
    exact loop (2 ^ N - 1) 1 0 (by omega) (by omega) h
  · rw [if_neg (fun z => by rw [what01.mpr z.2] at hw; exact Bool.noConfusion hw)] at h
    exact h
end QA9
section QA8
variable {g : zG} {d : Nat} {C : zM} {w : Nat → Int32} {Q : Int32 → zM → Prop}
theorem c8_beneath {l c : Int32} (hi : IS w) (hS : RS C 1 w) (hr : RMo C 3 w) (h : Q (beneathV w l c) C) : zCi shC g (d + 2) mX8_beneath [.ref 0, .int l, .int c] C Q := by
  have hn := hi.2.2.2.2.2.1
  have hn8 := hn.2
  have hp := hS.2.2.2.2.2.2.2.2
  unfold beneathV at h
  refine vX8_beneath (c3_isLetter hS ⟨fun hb => ?_, fun hb => c7_isBox hi hS ⟨fun hx => ?_, fun hx => ?_⟩⟩)
  · rw [if_neg (fun z => by rw [hb] at z; exact Bool.noConfusion z.1)] at h
    exact h
  · rw [if_pos ⟨hb, hx⟩] at h
    obtain ⟨k, rfl, hk, hk2, hk3⟩ := sk_nat (z := 8) hn.2 hb
    obtain ⟨b, rfl, hb64, hbo⟩ := box_nat hi.1 hx
    obtain ⟨N, e1, e2, e3⟩ := iv_nat (x := w 157) (n := 9) hn.1 (by omega)
    have e4 : (w 157).toInt.toNat = N := by omega
    have e5 : C 22 1 = iv N := hp.1.trans e1
    rw [iv_tn (by omega), iv_tn (by omega), e4] at h
    refine ⟨k, rfl, hk, c7_seenBox zMo3 hS hr hbo ?_⟩
    have ek : C 23 k = w (538 + k) := hp.2.2.1 k hk hk2
    rw [ek]
    have loop : ∀ n i : Nat, i + n = N → zW shC g (d + 2) mX8_beneath (zi Q) 63 [(0, .ref 0), (3, .int (w (538 + k))), (4, .int (shp w b)), (5, .int (bset (benB w k b) i)), (6, .int (iv i))] [] C := by
      intro n
      induction n with
      | zero =>
        intro i hi2
        obtain rfl : i = N := by omega
        refine vX8_beneath_63 ⟨fun _ => h, fun c => absurd ?_ c⟩
        rw [e5]
        exact Int32.le_refl _
      | succ n ih =>
        intro i hi2
        have ih := ih (i + 1) (by omega)
        rw [bset] at ih
        have ei : C 23 i = w (538 + i) := hp.2.2.1 i (by omega) (by omega)
        refine vX8_beneath_63 ⟨fun c => ?_, fun _ => ⟨i, rfl, by omega, fun c => ?_, fun c => ?_⟩⟩
        · rw [e5] at c
          exact (not_le_iv (a := N) (b := i) (by omega) (by omega) c).elim
        · rw [ei] at c
          rw [if_neg (fun z : benB w k b i = true => c (of_decide_eq_true z))] at ih
          rw [iv_s]
          exact ih
        · rw [ei] at c
          rw [if_pos (show benB w k b i = true from decide_eq_true c)] at ih
          rw [iv_s]
          exact ih
    exact loop N 0 (by omega)
  · rw [if_neg (fun z => by rw [hx] at z; exact Bool.noConfusion z.2)] at h
    exact h
theorem c3_having {x : Int32} {c : Nat} (hi : IS w) (hS : RS C 1 w) (hc : c < 9) (h : Q (iv (havN w x c : Nat)) C) : zCi shC g d mX3_having [.ref 22, .int x, .int (iv c)] C Q := by
  have hn := hi.2.2.2.2.2.1
  have hn8 := hn.2
  have hp := hS.2.2.2.2.2.2.2.2
  obtain ⟨N, e1, e2, e3⟩ := iv_nat (x := w 157) (n := 9) hn.1 (by omega)
  have e4 : (w 157).toInt.toNat = N := by omega
  have e5 : C 22 1 = iv N := hp.1.trans e1
  unfold havN at h
  rw [e4] at h
  refine vX3_having ?_
  have loop : ∀ n i : Nat, i + n = N → zW shC g d mX3_having (zi Q) 5 [(0, .ref 22), (1, .int x), (2, .int (iv c)), (3, .int (iv (cntB (havB w x c) i : Nat))), (4, .int (iv i))] [] C := by
    intro n
    induction n with
    | zero =>
      intro i hi2
      obtain rfl : i = N := by omega
      refine vX3_having_5 ⟨fun _ => h, fun c => absurd ?_ c⟩
      rw [e5]
      exact Int32.le_refl _
    | succ n ih =>
      intro i hi2
      have ih := ih (i + 1) (by omega)
      rw [cntB] at ih
      have ei : C 23 i = w (538 + i) := hp.2.2.1 i (by omega) (by omega)
      refine vX3_having_5 ⟨fun c => ?_, fun _ => ⟨i, rfl, by omega, fun v1 hv => ?_⟩⟩
      · rw [e5] at c
        exact (not_le_iv (a := N) (b := i) (by omega) (by omega) c).elim
      · rw [and11, bitAt (by omega), bitAt (by omega), zbI_and, ei] at hv
        rw [hv, iv_zb, iv_s]
        exact ih
  exact loop N 0 (by omega)
theorem c3_allLetters {N : Nat} (hN : N ≤ 8) (e1 : C 22 1 = iv N) (h : Q (iv (2 ^ N - 1 : Nat)) C) : zCi shC g d mX3_allLetters [.ref 22] C Q := by
  refine vX3_allLetters ?_
  rw [e1, (allI hN).1]
  exact h
theorem imax_gp {w : Nat → Int32} {x : Int32} {c : Nat} : imax (iv (havN w x c : Nat)) (iv (cntB (bitB x) 16 : Nat) - iv (havN w x c : Nat)) = gpI w x c := by
  unfold imax gpI
  generalize iv (havN w x c : Nat) = a
  generalize iv (cntB (bitB x) 16 : Nat) - a = b
  simp only [Int32.lt_iff_toInt_lt]
  split <;> split <;> first | rfl | omega | (rw [eqI]; omega)
theorem c8_lookAt {x : Int32} (hi : IS w) (hS : RS C 1 w) (h : Q (lookAtV w x) C) : zCi shC g (d + 1) mX8_lookAt [.ref 0, .int x] C Q := by
  have hn := hi.2.2.2.2.2.1
  have hn8 := hn.2
  have hp := hS.2.2.2.2.2.2.2.2
  obtain ⟨N, e1, e2, e3⟩ := iv_nat (x := w 157) (n := 9) hn.1 (by omega)
  have e4 : (w 157).toInt.toNat = N := by omega
  have e5 : C 22 1 = iv N := hp.1.trans e1
  unfold lookAtV at h
  rw [e4] at h
  obtain ⟨a1, a2, a3⟩ := allI (N := N) (by omega)
  refine vX8_lookAt (c_bitCount (c3_allLetters (by omega) e5 ⟨fun hz => ?_, fun hz => ?_⟩))
  · rw [if_neg (fun z => hz ?_)] at h
    · exact h
    · rw [mask_iff (by omega)]
      exact ⟨x.toInt.toNat, by omega, by rw [Int.toNat_of_nonneg z.1.1]; exact iv_of x⟩
  · obtain ⟨m, hm, rfl⟩ := (mask_iff (by omega)).mp hz
    have em := iv_toInt (z := m) (by omega) (by omega)
    have hcnt := cntB_le (p := bitB (iv m)) 16
    rw [jbc_iv (by omega)]
    refine ⟨fun c => ?_, fun c => ?_⟩
    · rw [show (2 : Int32) = iv (2 : Nat) from rfl, Int32.le_iff_toInt_le, iv_toInt (by omega) (by omega), iv_toInt (by omega) (by omega)] at c
      rw [if_pos ⟨by omega, by omega⟩] at h
      have hle := fun c => havN_le (w := w) (x := iv m) (c := c) (by omega)
      have loop : ∀ f k b : Nat, k + f = 9 → Q (lookF w (iv m) f k b) C → zW shC g (d + 1) mX8_lookAt (zi Q) 39 [(0, .ref 0), (1, .int (iv m)), (2, .int (iv (cntB (bitB (iv m)) 16 : Nat))), (3, .int (iv b)), (4, .int (gpI w (iv m) b)), (5, .int (iv k))] [] C := by
        intro f
        induction f with
        | zero =>
          intro k b hk h
          obtain rfl : k = 9 := by omega
          exact vX8_lookAt_39 ⟨fun _ => h, fun c => absurd (by decide) c⟩
        | succ f ih =>
          intro k b hk h
          rw [lookF] at h
          refine vX8_lookAt_39 ⟨fun c => (not_le_iv (a := 9) (b := k) (by omega) (by omega) c).elim, fun _ => c3_having hi hS (by omega) ?_⟩
          rw [imax_gp, iv_s]
          refine ⟨fun c => ?_, fun c => ?_⟩
          · rw [if_pos c] at h
            exact ih (k + 1) b (by omega) h
          · rw [if_neg c] at h
            exact ih (k + 1) k (by omega) h
      refine vX8_lookAt_39 ⟨fun c => absurd c (by decide), fun _ => c3_having (c := 0) hi hS (by decide) ?_⟩
      rw [imax_gp]
      refine ⟨fun c => ?_, fun _ => loop 8 1 0 rfl h⟩
      exfalso
      have h0 := hle 0
      unfold gpI at c
      rw [iv_s, iv_sub] at c
      rw [Int32.le_iff_toInt_le, iv_toInt (by omega) (by omega)] at c
      split at c
      · rw [iv_toInt (by omega) (by omega)] at c
        omega
      · rw [iv_toInt (by omega) (by omega)] at c
        omega
    · rw [show (2 : Int32) = iv (2 : Nat) from rfl, Int32.le_iff_toInt_le, iv_toInt (by omega) (by omega), iv_toInt (by omega) (by omega)] at c
      rw [if_neg (fun z => c (by omega))] at h
      exact h
theorem c7_writtenBy {s k : Nat} (hS : RS C 1 w) (hr : RMo C 3 w) (hs : s < 6) (hk : boxOK k) (h : Q (iv (cutsN w s k : Nat)) C) : zCi shC g (d + 1) mX7_writtenBy [.ref 1, .int (iv s), .int (iv k)] C Q := by
  refine vX7_writtenBy ?_
  have loop : ∀ n i : Nat, i + n = 9 → zW shC g (d + 1) mX7_writtenBy (zi Q) 5 [(0, .ref 1), (1, .int (iv s)), (2, .int (iv k)), (3, .int (iv (cntB (cutsB w s k) i : Nat))), (4, .int (iv i))] [] C := by
    intro n
    induction n with
    | zero =>
      intro i hi
      obtain rfl : i = 9 := by omega
      exact vX7_writtenBy_5 ⟨fun _ => h, fun c => absurd (by decide) c⟩
    | succ n ih =>
      intro i hi
      have ih := ih (i + 1) (by omega)
      rw [cntB] at ih
      have h64 := hk.at (i := i) (by omega)
      refine vX7_writtenBy_5 ⟨fun c => (not_le_iv (a := 9) (b := i) (by omega) (by omega) c).elim, fun _ => vX7_inBox ?_⟩
      rw [inbox_eq (by omega)]
      refine c7_isSeen zMo3 hS hr h64 ⟨fun hb => ?_, fun hb => ⟨k + 8 * (i / 3) + i % 3, rfl, h64, ?_⟩⟩
      · rw [cutsB, hb, Bool.false_and, if_neg (by decide)] at ih
        rw [iv_s]
        exact ih
      · rw [hr.2.1 _ h64]
        refine ⟨fun c => ?_, fun c => ?_⟩
        · rw [cutsB, hb, Bool.true_and, decide_eq_false c, if_neg (by decide)] at ih
          rw [iv_s]
          exact ih
        · rw [cutsB, hb, Bool.true_and, decide_eq_true c, if_pos rfl] at ih
          rw [iv_s, iv_s]
          exact ih
  exact loop 9 0 rfl
theorem c8_who {c what : Int32} (hi : IS w) (hS : RS C 1 w) (hr : RMo C 3 w) (h : Q (whoV w c what) C) : zCi shC g (d + 2) mX8_who [.ref 0, .int c, .int what] C Q := by
  obtain ⟨n0, n6⟩ := hi.2.2.2.1
  obtain ⟨N, e1, e2, e3⟩ := iv_nat (x := w 154) (n := 7) n0 (by omega)
  have e4 : (w 154).toInt.toNat = N := by omega
  have e5 : C 1 4 = iv N := hS.2.2.2.2.1.trans e1
  unfold whoV at h
  rw [e4] at h
  have main : boxB (w 150) (w 151) c = true → (what = 0 ∨ what = 1) → zW shC g (d + 2) mX8_who (zi Q) 34 [(0, .ref 0), (1, .int c), (2, .int what), (3, .int 0), (4, .int (-1)), (5, .int 0), (6, .int 0)] [] C := by
    intro hb hw
    rw [if_pos ⟨hb, hw⟩] at h
    obtain ⟨b, rfl, hb64, hbo⟩ := box_nat hi.1 hb
    rw [iv_tn (by omega)] at h
    have loop : ∀ (f s : Nat) (l3 : Int32) (m : Nat) (l5 : Int32), s + f = N → m ≤ 9 → Q (whoF w b what f s l3 m l5) C → zW shC g (d + 2) mX8_who (zi Q) 34 [(0, .ref 0), (1, .int (iv b)), (2, .int what), (3, .int (iv m)), (4, .int l3), (5, .int l5), (6, .int (iv s))] [] C := by
      intro f
      induction f with
      | zero =>
        intro s l3 m l5 hs hm h9
        obtain rfl : s = N := by omega
        have h : Q (if what = 0 then l3 else l5) C := h9
        refine vX8_who_34 ⟨fun _ => ⟨fun c => ?_, fun c => ?_⟩, fun c => absurd ?_ c⟩
        · rw [if_neg c] at h
          exact h
        · rw [if_pos c] at h
          exact h
        · rw [e5]
          exact Int32.le_refl _
      | succ f ih =>
        intro s l3 m l5 hs hm h
        simp only [whoF] at h
        have hc9 : cutsN w s b ≤ 9 := cntB_le 9
        refine vX8_who_34 ⟨fun c => ?_, fun _ => c7_writtenBy hS hr (by omega) hbo ?_⟩
        · rw [e5] at c
          exact (not_le_iv (a := N) (b := s) (by omega) (by omega) c).elim
        generalize cutsN w s b = n at h hc9
        have cmp : iv n ≤ iv m ↔ ¬ m < n := by
          rw [Int32.le_iff_toInt_le, iv_toInt (by omega) (by omega), iv_toInt (by omega) (by omega)]
          omega
        have c0 : iv n ≤ 0 ↔ ¬ 0 < n := by
          rw [show (0 : Int32) = iv (0 : Nat) from rfl, Int32.le_iff_toInt_le, iv_toInt (by omega) (by omega), iv_toInt (by omega) (by omega)]
          omega
        have ih2 := fun l3 m l5 => ih (s + 1) l3 m l5 (by omega)
        rw [iv_s]
        refine ⟨fun c => ⟨fun c2 => ?_, fun c2 => ?_⟩, fun c => ⟨fun c2 => ?_, fun c2 => ?_⟩⟩
        · rw [if_neg (cmp.mp c2), if_neg (cmp.mp c2), if_neg (c0.mp c)] at h
          exact ih2 _ _ _ hm h
        · rw [if_pos (Decidable.not_not.mp fun z => c2 (cmp.mpr z)), if_pos (Decidable.not_not.mp fun z => c2 (cmp.mpr z)), if_neg (c0.mp c)] at h
          exact ih2 _ _ _ hc9 h
        · rw [if_neg (cmp.mp c2), if_neg (cmp.mp c2), if_pos (Decidable.not_not.mp fun z => c (c0.mpr z))] at h
          exact ih2 _ _ _ hm h
        · rw [if_pos (Decidable.not_not.mp fun z => c2 (cmp.mpr z)), if_pos (Decidable.not_not.mp fun z => c2 (cmp.mpr z)), if_pos (Decidable.not_not.mp fun z => c (c0.mpr z))] at h
          exact ih2 _ _ _ hc9 h
    exact loop N 0 (-1) 0 0 (by omega) (by omega) h
  refine vX8_who (c7_isBox hi hS ⟨fun hb => ?_, fun hb => ⟨fun c1 => main hb (Or.inl c1), fun c1 => ⟨fun c2 => main hb (Or.inr c2), fun c2 => ?_⟩⟩⟩)
  · rw [if_neg (fun z => by rw [hb] at z; exact Bool.noConfusion z.1)] at h
    exact h
  · rw [if_neg (fun z => z.2.elim c1 c2)] at h
    exact h
theorem c3_differ {Q : Bool → zM → Prop} {m dn : Nat} (hi : IS w) (hS : RS C 1 w) (hm : m < 1024) (hd : dn ≤ 9) (h : Q (apB w m dn) C) : zCz shC g (d + 1) mX3_differ [.ref 22, .int (iv m), .int (iv dn)] C Q := by
  have hn := hi.2.2.2.2.2.1
  have hn8 := hn.2
  have hp := hS.2.2.2.2.2.2.2.2
  have hL := hi.2.2.2.2.2.2.2.2.2.2.2.1
  obtain ⟨N, e1, e2, e3⟩ := iv_nat (x := w 157) (n := 9) hn.1 (by omega)
  have e4 : (w 157).toInt.toNat = N := by omega
  have e5 : C 22 1 = iv N := hp.1.trans e1
  unfold apB at h
  refine vX3_differ ?_
  have loop : ∀ n i : Nat, i + n = N → (∀ i' k, k < i' → i' < i → m.testBit i' = true → m.testBit k = true → dn ≤ cntB (bitB (w (538 + i') ^^^ w (538 + k))) 16) → zW shC g (d + 1) mX3_differ (zz Q) 2 [(0, .ref 22), (1, .int (iv m)), (2, .int (iv dn)), (3, .int (iv i))] [] C := by
    intro n
    induction n with
    | zero =>
      intro i hi2 hall
      obtain rfl : i = N := by omega
      refine vX3_differ_2 ⟨fun _ => dT h ?_, fun c => absurd ?_ c⟩
      · intro i' k h1 h2 h3 h4
        exact hall i' k h1 (by omega) h3 h4
      · rw [e5]
        exact Int32.le_refl _
    | succ n ih =>
      intro i hi2 hall
      refine vX3_differ_2 ⟨fun c => ?_, fun _ => ?_⟩
      · rw [e5] at c
        exact (not_le_iv (a := N) (b := i) (by omega) (by omega) c).elim
      have inner : ∀ f k : Nat, k + f = i → (∀ k', k' < k → m.testBit i = true → m.testBit k' = true → dn ≤ cntB (bitB (w (538 + i) ^^^ w (538 + k'))) 16) → zW shC g (d + 1) mX3_differ (zz Q) 13 [(0, .ref 22), (1, .int (iv m)), (2, .int (iv dn)), (3, .int (iv i)), (4, .int (iv k))] [] C := by
        intro f
        induction f with
        | zero =>
          intro k hk hin
          obtain rfl : k = i := by omega
          refine vX3_differ_13 ⟨fun _ => ?_, fun c => absurd (Int32.le_refl _) c⟩
          rw [iv_s]
          refine ih (k + 1) (by omega) fun i' k' h1 h2 h3 h4 => ?_
          by_cases e : i' = k
          · subst e
            exact hin k' h1 h3 h4
          · exact hall i' k' h1 (by omega) h3 h4
        | succ f ihf =>
          intro k hk hin
          have nx : (m.testBit i = true → m.testBit k = true → dn ≤ cntB (bitB (w (538 + i) ^^^ w (538 + k))) 16) → zW shC g (d + 1) mX3_differ (zz Q) 13 [(0, .ref 22), (1, .int (iv m)), (2, .int (iv dn)), (3, .int (iv i)), (4, .int (iv k + 1))] [] C := by
            intro hk2
            rw [iv_s]
            refine ihf (k + 1) (by omega) fun k' h1 h2 h3 => ?_
            by_cases e : k' = k
            · subst e
              exact hk2 h2 h3
            · exact hin k' (by omega) h2 h3
          have eb : ((iv m >>> (iv i &&& 31)) &&& (iv m >>> (iv k &&& 31))) &&& 1 = zbI (m.testBit i && m.testBit k) := by
            rw [and11, bitAt (by omega), bitAt (by omega), zbI_and, bit_iv (by omega), bit_iv (by omega)]
          have ei : C 23 i = w (538 + i) := hp.2.2.1 i (by omega) (by omega)
          have ek : C 23 k = w (538 + k) := hp.2.2.1 k (by omega) (by omega)
          refine vX3_differ_13 ⟨fun c => (not_le_iv (a := i) (b := k) (by omega) (by omega) c).elim, fun _ => ⟨fun c => vX3_differ_38 ⟨fun _ => nx fun z1 z2 => absurd ?_ c, fun c2 => absurd rfl c2⟩, fun c => vX3_differ_38 ⟨fun c2 => absurd c2 (by decide), fun _ => ⟨i, rfl, by omega, k, rfl, by omega, c_bitCount ?_⟩⟩⟩⟩
          · rw [eb, z1, z2]
            rfl
          · rw [eb] at c
            have c1 : m.testBit i = true ∧ m.testBit k = true := by
              cases h1 : m.testBit i <;> cases h2 : m.testBit k <;> rw [h1, h2] at c <;> first | exact ⟨rfl, rfl⟩ | exact absurd c (by decide)
            obtain ⟨a, ea, ha, -⟩ := rng_nat (b := 511) (hL i (by omega))
            obtain ⟨b, eb2, hb, -⟩ := rng_nat (b := 511) (hL k (by omega))
            have hx : a ^^^ b < 2 ^ 10 := Nat.xor_lt_two_pow (by omega) (by omega)
            have ej : jbc (w (538 + i) ^^^ w (538 + k)) = iv (cntB (bitB (w (538 + i) ^^^ w (538 + k))) 16 : Nat) := by
              rw [ea, eb2, iv_xor, jbc_iv (by omega)]
            have := cntB_le (p := bitB (w (538 + i) ^^^ w (538 + k))) 16
            rw [ei, ek, ej]
            refine ⟨fun c3 => nx fun _ _ => ?_, fun c3 => ?_⟩
            · rw [Int32.le_iff_toInt_le, iv_toInt (by omega) (by omega), iv_toInt (by omega) (by omega)] at c3
              omega
            · refine dF h fun z => c3 ?_
              exact le_iv_of (z i k (by omega) (by omega) c1.1 c1.2) (by omega)
      exact inner i 0 (by omega) fun k' h1 => by omega
  exact loop N 0 (by omega) fun i' k _ h1 => by omega
theorem c8_holds {dd what : Int32} (hi : IS w) (hS : RS C 1 w) (h : Q (holdsV w dd what) C) : zCi shC g (d + 2) mX8_holds [.ref 0, .int dd, .int what] C Q := by
  have hn := hi.2.2.2.2.2.1
  have hn8 := hn.2
  have hp := hS.2.2.2.2.2.2.2.2
  obtain ⟨N, e1, e2, e3⟩ := iv_nat (x := w 157) (n := 9) hn.1 (by omega)
  have e4 : (w 157).toInt.toNat = N := by omega
  have e5 : C 22 1 = iv N := hp.1.trans e1
  unfold holdsV at h
  rw [e4] at h
  obtain ⟨a1, a2, a3⟩ := allI (N := N) (by omega)
  have main : (1 ≤ dd.toInt ∧ dd.toInt ≤ 9) → (what = 0 ∨ what = 1) → zW shC g (d + 2) mX8_holds (zi Q) 27 [(0, .ref 0), (1, .int dd), (2, .int what), (3, .int 0), (4, .int 1)] [] C := by
    intro hb hw
    rw [if_pos ⟨hb, hw⟩] at h
    obtain ⟨dn, rfl, hd10, hdI⟩ := iv_nat (x := dd) (n := 10) (by omega) (by omega)
    rw [iv_tn (by omega)] at h
    have loop : ∀ f m b : Nat, m + f = 2 ^ N → b < 2 ^ N → Q (if what = 0 then iv (pcN (holdsF w dn f m b) : Nat) else iv (holdsF w dn f m b : Nat)) C → zW shC g (d + 2) mX8_holds (zi Q) 27 [(0, .ref 0), (1, .int (iv dn)), (2, .int what), (3, .int (iv b)), (4, .int (iv m))] [] C := by
      intro f
      induction f with
      | zero =>
        intro m b hm hb2 h
        obtain rfl : m = 2 ^ N := by omega
        rw [holdsF] at h
        refine vX8_holds_27 (c3_allLetters (by omega) e5 ⟨fun _ => ⟨fun c => ?_, fun c => c_bitCount ?_⟩, fun c => absurd ?_ c⟩)
        · rw [if_neg c] at h
          exact h
        · rw [if_pos c] at h
          rw [jbc_small (by omega)]
          exact h
        · rw [Int32.lt_iff_toInt_lt, iv_toInt (by omega) (by omega), iv_toInt (by omega) (by omega)]
          omega
      | succ f ih =>
        intro m b hm hb2 h
        rw [holdsF] at h
        have p1 : pcN m ≤ 16 := cntB_le 16
        have p2 : pcN b ≤ 16 := cntB_le 16
        refine vX8_holds_27 (c3_allLetters (by omega) e5 ⟨fun c => ?_, fun _ => c_bitCount (c_bitCount ?_)⟩)
        · exfalso
          rw [Int32.lt_iff_toInt_lt, iv_toInt (by omega) (by omega), iv_toInt (by omega) (by omega)] at c
          omega
        have q1 : jbc (iv m) = iv (pcN m : Nat) := jbc_small (by omega)
        have q2 : jbc (iv b) = iv (pcN b : Nat) := jbc_small (by omega)
        rw [q1, q2, iv_s]
        refine ⟨fun c => ?_, fun c => c3_differ hi hS (by omega) (by omega) ⟨fun c2 => ?_, fun c2 => ?_⟩⟩
        · rw [Int32.le_iff_toInt_le, iv_toInt (by omega) (by omega), iv_toInt (by omega) (by omega)] at c
          rw [if_neg (c := pcN b < pcN m ∧ _) (fun z => by omega)] at h
          exact ih (m + 1) b (by omega) hb2 h
        · rw [if_neg (c := pcN b < pcN m ∧ _) (fun z => by rw [c2] at z; exact Bool.noConfusion z.2)] at h
          exact ih (m + 1) b (by omega) hb2 h
        · rw [Int32.le_iff_toInt_le, iv_toInt (by omega) (by omega), iv_toInt (by omega) (by omega)] at c
          rw [if_pos (c := pcN b < pcN m ∧ _) ⟨by omega, c2⟩] at h
          exact ih (m + 1) m (by omega) (by omega) h
    exact loop (2 ^ N - 1) 1 0 (by omega) (by omega) h
  refine vX8_holds ⟨fun c => ?_, fun c => ⟨fun c2 => ?_, fun c2 => ⟨fun c3 => main ⟨?_, ?_⟩ (Or.inl c3), fun c3 => ⟨fun c4 => main ⟨?_, ?_⟩ (Or.inr c4), fun c4 => ?_⟩⟩⟩⟩
  all_goals
    rw [Int32.lt_iff_toInt_lt] at c
    simp only [Int32.reduceToInt] at c
  all_goals
    try
      rw [Int32.lt_iff_toInt_lt] at c2
      simp only [Int32.reduceToInt] at c2
  · rw [if_neg (fun z => by omega)] at h
    exact h
  · rw [if_neg (fun z => by omega)] at h
    exact h
  · omega
  · omega
  · omega
  · omega
  · rw [if_neg (fun z => z.2.elim c3 c4)] at h
    exact h
end QA8
