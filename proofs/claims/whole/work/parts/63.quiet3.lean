/-! QUIET methods: heard, yet, look -/
theorem iv_neg (a : Int) : -iv a = iv (-a) := (Int32.ofInt_neg a).symm
theorem dm8 {k : Nat} (hk : k < 64) : iv k / 8 = iv (k / 8 : Nat) ∧ iv k - iv k / 8 * 8 = iv (k % 8 : Nat) := by
  have e1 : iv k / 8 = iv (k / 8 : Nat) := by
    rw [eqI, ti_div] <;> simp (disch := omega) only [iv_toInt, Int32.reduceToInt] <;> omega
  refine ⟨e1, ?_⟩
  rw [e1, show (8 : Int32) = iv 8 from rfl, iv_mul, iv_sub]
  congr 1
  omega
def distN (a b : Nat) : Nat := (((a % 8 : Nat) : Int) - ((b % 8 : Nat) : Int)).natAbs + (((a / 8 : Nat) : Int) - ((b / 8 : Nat) : Int)).natAbs
theorem distN_comm (a b : Nat) : distN a b = distN b a := by
  unfold distN
  omega
theorem distN_le {a b : Nat} (ha : a < 64) (hb : b < 64) : distN a b ≤ 14 := by
  unfold distN
  omega
theorem iabs_iv {z : Int} (h1 : -100 ≤ z) (h2 : z ≤ 100) : iabs (iv z) = iv (z.natAbs : Nat) := by
  unfold iabs
  rw [show (0 : Int32) = iv 0 from rfl, iv_sub]
  simp only [Int32.le_iff_toInt_le]
  rw [iv_toInt (by omega) (by omega), iv_toInt (by omega) (by omega)]
  split
  · congr 1
    omega
  · congr 1
    omega
section DI
variable {g : zG} {d : Nat} {M C : zM} {Q : Int32 → zM → Prop}
theorem c9_apart {a b : Nat} (ha : a < 64) (hb : b < 64) (h : Q (iv (distN a b : Nat)) M) : zCi shM g d mX9_apart [.int (iv a), .int (iv b)] M Q := by
  obtain ⟨a1, a2⟩ := dm8 ha
  obtain ⟨b1, b2⟩ := dm8 hb
  unfold distN at h
  refine vX9_apart ?_
  rw [a2, b2, a1, b1]
  simp only [iv_sub, iv_neg, iv_add, Int32.le_iff_toInt_le, Int32.reduceToInt]
  rw [iv_toInt (by omega) (by omega), iv_toInt (by omega) (by omega)]
  refine ⟨fun c => ⟨fun c2 v1 e => ?_, fun c2 v1 e => ?_⟩, fun c => ⟨fun c2 v1 e => ?_, fun c2 v1 e => ?_⟩⟩
  all_goals
    have e2 : v1 = iv (((((a % 8 : Nat) : Int) - ((b % 8 : Nat) : Int)).natAbs + (((a / 8 : Nat) : Int) - ((b / 8 : Nat) : Int)).natAbs : Nat) : Int) := by
      rw [e]
      congr 1
      omega
    rw [e2]
    exact h
theorem c8_distance {a b : Nat} (ha : a < 64) (hb : b < 64) (h : Q (iv (distN a b : Nat)) C) : zCi shC g (d + 1) mX8_distance [.int (iv a), .int (iv b)] C Q := by
  obtain ⟨a1, a2⟩ := dm8 ha
  obtain ⟨b1, b2⟩ := dm8 hb
  unfold distN at h
  refine vX8_distance fun v1 e => ?_
  rw [a2, b2, a1, b1, iv_sub, iv_sub, iabs_iv (by omega) (by omega), iabs_iv (by omega) (by omega), iv_add, ← Int.natCast_add] at e
  rw [e]
  exact h
end DI
def heardB (w : Nat → Int32) (s n c : Nat) : Bool := cellB (w 150) (w 151) (iv c) && decide (distN c (w (3 + s)).toInt.toNat ≤ n)
def heardV (w : Nat → Int32) (s n : Int32) : Int64 := if skB (w 154) s = true ∧ 0 ≤ n.toInt ∧ n.toInt ≤ 9 then lset (heardB w s.toInt.toNat n.toInt.toNat) 64 else -1
section HE
variable {g : zG} {d : Nat} {M C : zM} {w : Nat → Int32} {Q : Int64 → zM → Prop}
theorem c9_heard {s n : Int32} (hi : IS (M 1)) (hq : IMo (M 1)) (h : Q (heardV (M 1) s n) M) : zCl shM g (d + 3) mX9_heard [.ref 0, .int s, .int n] M Q := by
  obtain ⟨n0, n6⟩ := hi.2.2.2.1
  unfold heardV at h
  refine vX9_heard (c9_isSkater ⟨n0, n6⟩ ⟨fun hb => ?_, fun hb => c9_isIn ⟨fun hw => ?_, fun hw => ?_⟩⟩)
  · rw [if_neg (fun z => by rw [hb] at z; exact Bool.noConfusion z.1)] at h
    exact h
  · simp only [isInB, decide_eq_true_eq, decide_eq_false_iff_not, Int32.reduceToInt] at hw
    rw [if_pos ⟨hb, hw⟩] at h
    obtain ⟨k, rfl, hk, hk2, hk3⟩ := sk_nat (z := 6) (by omega) hb
    obtain ⟨m, rfl, hm, hmI⟩ := iv_nat (x := n) (n := 10) hw.1 (by omega)
    obtain ⟨p, hp, hp64, hpI, hpc⟩ := place_rng hq hk
    rw [iv_tn (by omega), iv_tn (by omega)] at h
    have loop : ∀ f i : Nat, i + f = 64 → zW shM g (d + 3) mX9_heard (zl Q) 27 [(0, .ref 0), (1, .int (iv k)), (2, .int (iv m)), (3, .long (lset (heardB (M 1) k m) i)), (5, .int (iv i))] [] M := by
      intro f
      induction f with
      | zero =>
        intro i hi2
        obtain rfl : i = 64 := by omega
        exact vX9_heard_27 ⟨fun _ => h, fun c => absurd (by decide) c⟩
      | succ f ih =>
        intro i hi2
        have ih := ih (i + 1) (by omega)
        rw [lset, heardB] at ih
        refine vX9_heard_27 ⟨fun c => (not_le_iv (a := 64) (b := i) (by omega) (by omega) c).elim, fun _ => c9_isCell hi.1 ⟨fun hc => ?_, fun hc => ⟨3 + k, iv_n 3 k, by omega, ?_⟩⟩⟩
        · rw [hc, Bool.false_and, if_neg (by decide)] at ih
          rw [iv_s]
          exact ih
        · have ep : (M 1 (3 + k)).toInt.toNat = p := by omega
          have hdl := distN_le (a := i) (b := p) (by omega) hp64
          rw [hp]
          refine c9_apart (by omega) hp64 ?_
          rw [hc, Bool.true_and, ep] at ih
          rw [Int32.lt_iff_toInt_lt, iv_toInt (by omega) (by omega), iv_toInt (by omega) (by omega), iv_s]
          refine ⟨fun c => ?_, fun c => ?_⟩
          · rw [decide_eq_false (by omega), if_neg (by decide)] at ih
            exact ih
          · rw [decide_eq_true (by omega), if_pos rfl] at ih
            exact ih
    exact loop 64 0 rfl
  · simp only [isInB, decide_eq_true_eq, decide_eq_false_iff_not, Int32.reduceToInt] at hw
    rw [if_neg (fun z => hw z.2)] at h
    exact h
theorem c8_heard {s n : Int32} (hi : IS w) (hq : IMo w) (hS : RS C 1 w) (hr : RMo C 3 w) (h : Q (heardV w s n) C) : zCl shC g (d + 2) mX8_heard [.ref 0, .int s, .int n] C Q := by
  obtain ⟨n0, n6⟩ := hi.2.2.2.1
  unfold heardV at h
  refine vX8_heard (c7_isSkater hS ⟨fun hb => ?_, fun hb => ⟨fun c => ?_, fun c => ⟨fun c2 => ?_, fun c2 => ?_⟩⟩⟩)
  · rw [if_neg (fun z => by rw [hb] at z; exact Bool.noConfusion z.1)] at h
    exact h
  · rw [Int32.lt_iff_toInt_lt] at c
    simp only [Int32.reduceToInt] at c
    rw [if_neg (fun z => by omega)] at h
    exact h
  · rw [Int32.lt_iff_toInt_lt] at c
    rw [Int32.le_iff_toInt_le] at c2
    simp only [Int32.reduceToInt] at c c2
    rw [if_pos ⟨hb, by omega⟩] at h
    obtain ⟨k, rfl, hk, hk2, hk3⟩ := sk_nat (z := 6) (by omega) hb
    obtain ⟨m, rfl, hm, hmI⟩ := iv_nat (x := n) (n := 10) (by omega) (by omega)
    obtain ⟨p, hp, hp64, hpI, hpc⟩ := place_rng hq hk
    rw [iv_tn (by omega), iv_tn (by omega)] at h
    have e6 : C 6 k = iv p := (hr.2.2.1 k hk hk2).1.trans hp
    refine ⟨k, rfl, hk, ?_⟩
    rw [e6]
    have loop : ∀ f i : Nat, i + f = 64 → zW shC g (d + 2) mX8_heard (zl Q) 44 [(0, .ref 0), (2, .int (iv m)), (3, .int (iv p)), (4, .long (lset (heardB w k m) i)), (6, .int (iv i))] [] C := by
      intro f
      induction f with
      | zero =>
        intro i hi2
        obtain rfl : i = 64 := by omega
        exact vX8_heard_44 ⟨fun _ => h, fun c => absurd (by decide) c⟩
      | succ f ih =>
        intro i hi2
        have ih := ih (i + 1) (by omega)
        rw [lset, heardB] at ih
        refine vX8_heard_44 ⟨fun c => (not_le_iv (a := 64) (b := i) (by omega) (by omega) c).elim, fun _ => c7_isCell hS ⟨fun hc => ?_, fun hc => c8_distance hp64 (by omega) ?_⟩⟩
        · rw [hc, Bool.false_and, if_neg (by decide)] at ih
          rw [iv_s]
          exact ih
        · have ep : (w (3 + k)).toInt.toNat = p := by omega
          have hdl := distN_le (a := i) (b := p) (by omega) hp64
          rw [hc, Bool.true_and, ep] at ih
          rw [distN_comm, Int32.lt_iff_toInt_lt, iv_toInt (by omega) (by omega), iv_toInt (by omega) (by omega), iv_s]
          refine ⟨fun c => ?_, fun c => ?_⟩
          · rw [decide_eq_false (by omega), if_neg (by decide)] at ih
            exact ih
          · rw [decide_eq_true (by omega), if_pos rfl] at ih
            exact ih
    exact loop 64 0 rfl
  · rw [Int32.le_iff_toInt_le] at c2
    simp only [Int32.reduceToInt] at c2
    rw [if_neg (fun z => by omega)] at h
    exact h
end HE
/-! YET: chances of each depth, a million in all -/
def lo1 (p d : Nat) (f : Nat → Nat) : Nat → Nat := fun j => if j = d then f d - f d * p / 1000 else if j + 1 = d then f j + f d * p / 1000 else f j
def loF (p : Nat) : Nat → Nat → (Nat → Nat) → (Nat → Nat)
  | 0, _, f => f
  | n + 1, d, f => loF p n (d + 1) (lo1 p d f)
def loN (p : Nat) : Nat → (Nat → Nat) → (Nat → Nat)
  | 0, f => f
  | n + 1, f => loN p n (loF p 9 1 f)
def sumI (f : Nat → Nat) : Nat → Nat → Int32 → Int32
  | 0, _, a => a
  | n + 1, d, a => sumI f n (d + 1) (a + iv (f d))
def yet0 (k : Nat) : Nat → Nat := fun d => if d = k then 1000000 else 0
def yetV (w : Nat → Int32) (c n p : Int32) : Int32 := if cellB (w 150) (w 151) c = true ∧ (1 ≤ n.toInt ∧ n.toInt ≤ 99) ∧ 0 ≤ p.toInt ∧ p.toInt ≤ 1000 then sumI (loN p.toInt.toNat n.toInt.toNat (yet0 (w (21 + c.toInt.toNat)).toInt.toNat)) (10 - (w 152).toInt.toNat) (w 152).toInt.toNat 0 else -1
def sm10 (f : Nat → Nat) : Nat := f 0 + f 1 + f 2 + f 3 + f 4 + f 5 + f 6 + f 7 + f 8 + f 9
theorem sm10_le {f : Nat → Nat} {k : Nat} (hk : k < 10) : f k ≤ sm10 f := by
  unfold sm10
  obtain rfl | rfl | rfl | rfl | rfl | rfl | rfl | rfl | rfl | rfl : k = 0 ∨ k = 1 ∨ k = 2 ∨ k = 3 ∨ k = 4 ∨ k = 5 ∨ k = 6 ∨ k = 7 ∨ k = 8 ∨ k = 9 := by omega
  all_goals omega
theorem lo1_sm {p k : Nat} {f : Nat → Nat} (hp : p ≤ 1000) (h1 : 1 ≤ k) (h9 : k ≤ 9) : sm10 (lo1 p k f) = sm10 f := by
  have hg : f k * p / 1000 ≤ f k := Nat.div_le_of_le_mul (by rw [Nat.mul_comm 1000]; exact Nat.mul_le_mul_left _ hp)
  unfold sm10
  obtain rfl | rfl | rfl | rfl | rfl | rfl | rfl | rfl | rfl : k = 1 ∨ k = 2 ∨ k = 3 ∨ k = 4 ∨ k = 5 ∨ k = 6 ∨ k = 7 ∨ k = 8 ∨ k = 9 := by omega
  all_goals
    simp only [lo1, Nat.reduceAdd, Nat.reduceEqDiff, if_true, if_false]
    omega
theorem yet0_sm {k : Nat} (hk : k < 10) : sm10 (yet0 k) = 1000000 := by
  unfold sm10 yet0
  obtain rfl | rfl | rfl | rfl | rfl | rfl | rfl | rfl | rfl | rfl : k = 0 ∨ k = 1 ∨ k = 2 ∨ k = 3 ∨ k = 4 ∨ k = 5 ∨ k = 6 ∨ k = 7 ∨ k = 8 ∨ k = 9 := by omega
  all_goals rfl
theorem mulp {x p : Nat} (hx : x ≤ 1000000) (hp : p ≤ 1000) : x * p ≤ 1000000000 := Nat.mul_le_mul hx hp
theorem less9 {x p : Nat} (hx : x ≤ 1000000) (hp : p ≤ 1000) : (((iv x).toInt64 * (iv p).toInt64) / 1000).toInt32 = iv (x * p / 1000 : Nat) := by
  have hm := mulp hx hp
  have e1 : (iv x).toInt64.toInt = x := by rw [Int32.toInt_toInt64, iv_toInt (by omega) (by omega)]
  have e2 : (iv p).toInt64.toInt = p := by rw [Int32.toInt_toInt64, iv_toInt (by omega) (by omega)]
  have e3 : ((iv x).toInt64 * (iv p).toInt64).toInt = ((x * p : Nat) : Int) := by
    rw [Int64.toInt_mul, e1, e2, ← Int.natCast_mul, Int.bmod_def]
    omega
  have e4 : (((iv x).toInt64 * (iv p).toInt64) / 1000).toInt = ((x * p / 1000 : Nat) : Int) := by
    rw [Int64.toInt_div, e3, show (1000 : Int64).toInt = ((1000 : Nat) : Int) from rfl, ← Int.ofNat_tdiv, Int.bmod_def]
    omega
  rw [eqI, Int64.toInt_toInt32, e4, iv_toInt (by omega) (by omega), Int.bmod_def]
  omega
theorem less8 {x p : Nat} (hx : x ≤ 1000000) (hp : p ≤ 1000) : (iv x * iv p) / 1000 = iv (x * p / 1000 : Nat) := by
  have hm := mulp hx hp
  have e1 : (iv x).toInt = x := iv_toInt (by omega) (by omega)
  have e2 : (iv p).toInt = p := iv_toInt (by omega) (by omega)
  have e3 : (iv x * iv p).toInt = ((x * p : Nat) : Int) := by
    rw [ti_mul (by rw [e1, e2, ← Int.natCast_mul]; omega) (by rw [e1, e2, ← Int.natCast_mul]; omega), e1, e2, ← Int.natCast_mul]
  rw [eqI, ti_div (by rw [e3]; omega) (by decide), e3, iv_toInt (by omega) (by omega)]
  simp only [Int32.reduceToInt]
  omega
/-- a row of chances, one depth on -/
theorem lo_row {X : zM} {o p k : Nat} {f : Nat → Nat} (hf : ∀ j, j < 10 → X o j = iv (f j)) (h1 : 1 ≤ k) (h9 : k ≤ 9) (hp : p ≤ 1000) {x y : Int32} (hx : x = X o k - iv (f k * p / 1000 : Nat)) (hy : y = (zup X o k x) o (k - 1) + iv (f k * p / 1000 : Nat)) : ∀ j, j < 10 → (zup (zup X o k x) o (k - 1) y) o j = iv (lo1 p k f j) := by
  have hg : f k * p / 1000 ≤ f k := Nat.div_le_of_le_mul (by rw [Nat.mul_comm 1000]; exact Nat.mul_le_mul_left _ hp)
  intro j hj
  unfold lo1
  by_cases c : j = k
  · rw [if_pos c, c, zup_ne (by omega), zup_same, hx, hf k (by omega), iv_sub]
    congr 1
    omega
  · rw [if_neg c]
    by_cases c2 : j + 1 = k
    · have ej : j = k - 1 := by omega
      rw [if_pos c2, ej, zup_same, hy, zup_ne (by omega), hf (k - 1) (by omega), iv_add]
      rfl
    · rw [if_neg c2, zup_ne (by omega), zup_ne (by omega), hf j hj]
section YE
variable {g : zG} {d : Nat} {M C : zM} {w : Nat → Int32} {Q : Int32 → zM → Prop}
theorem c9_y163 {f : Nat → Nat} (hf : ∀ j, j < 10 → M 25 j = iv (f j)) : ∀ (n k : Nat) (a : Int32), k + n = 10 → Q (sumI f n k a) M → zW shM g (d + 3) mX9_yet (zi Q) 163 [(0, .ref 0), (4, .int a), (5, .int (iv k))] [] M
  | 0, k, a, hk, h => by
    obtain rfl : k = 10 := by omega
    exact vX9_yet_163 ⟨fun _ => h, fun c => absurd (by decide) c⟩
  | n + 1, k, a, hk, h => by
    refine vX9_yet_163 ⟨fun c => ?_, fun _ => ⟨k, rfl, by omega, ?_⟩⟩
    · exfalso
      rw [Int32.lt_iff_toInt_lt, iv_toInt (by omega) (by omega)] at c
      simp only [Int32.reduceToInt] at c
      omega
    · rw [hf k (by omega), iv_s]
      exact c9_y163 hf n (k + 1) _ (by omega) h
theorem c9_yet {c n p : Int32} (hi : IS (M 1)) (hq : IMo (M 1)) (h : ∀ M' : zM, MEq M M' → Q (yetV (M 1) c n p) M') : zCi shM g (d + 3) mX9_yet [.ref 0, .int c, .int n, .int p] M Q := by
  unfold yetV at h
  have h0 := h M MEq.rfl
  refine vX9_yet (c9_isCell hi.1 ⟨fun hb => ?_, fun hb => c9_isIn ⟨fun hn => ?_, fun hn => c9_isIn ⟨fun hp => ?_, fun hp => ?_⟩⟩⟩)
  · rw [if_neg (fun z => by rw [hb] at z; exact Bool.noConfusion z.1)] at h0
    exact h0
  · simp only [isInB, decide_eq_true_eq, decide_eq_false_iff_not, Int32.reduceToInt] at hn
    rw [if_neg (fun z => hn z.2.1)] at h0
    exact h0
  · simp only [isInB, decide_eq_true_eq, decide_eq_false_iff_not, Int32.reduceToInt] at hn hp
    obtain ⟨k, rfl, hk⟩ := cell_nat hb
    obtain ⟨N, rfl, hN, hNI⟩ := iv_nat (x := n) (n := 100) (by omega) (by omega)
    obtain ⟨P, rfl, hP, hPI⟩ := iv_nat (x := p) (n := 1001) hp.1 (by omega)
    obtain ⟨D, eD, hD, hDI⟩ := rng_nat (b := 9) (hq.2.2.2.2.1 k hk)
    obtain ⟨s1, s9⟩ := hi.2.1
    obtain ⟨S, eS, hS, hSI⟩ := iv_nat (x := M 1 152) (n := 10) (by omega) (by omega)
    rw [if_pos ⟨hb, hn, hp⟩, iv_tn (by omega), iv_tn (by omega), iv_tn (by omega), eD, eS, iv_tn (by omega), iv_tn (by omega)] at h
    -- outer
    have outer : ∀ (fu i : Nat) (M1 : zM) (f : Nat → Nat), i + fu = N → (∀ o, o ≠ 25 → M1 o = M o) → (∀ j, j < 10 → M1 25 j = iv (f j)) → sm10 f = 1000000 → loN P fu f = loN P N (yet0 D) → zW shM g (d + 3) mX9_yet (zi Q) 78 [(0, .ref 0), (2, .int (iv N)), (3, .int (iv P)), (4, .int (iv i))] [] M1 := by
      intro fu
      induction fu with
      | zero =>
        intro i M1 f hf ho hc hs hr
        obtain rfl : i = N := by omega
        refine vX9_yet_78 ⟨fun _ => ?_, fun c => absurd (Int32.le_refl _) c⟩
        have e1 : M1 1 152 = iv S := by rw [ho 1 (by decide)]; exact eS
        have er : f = loN P i (yet0 D) := hr
        rw [e1]
        refine c9_y163 hc (10 - S) S 0 (by omega) ?_
        rw [er]
        exact h M1 (MEq.of fun o hoo => ho o (by omega))
      | succ fu ih =>
        intro i M1 f hf ho hc hs hr
        refine vX9_yet_78 ⟨fun c => (not_le_iv (a := N) (b := i) (by omega) (by omega) c).elim, fun _ => ?_⟩
        have inner : ∀ (n k : Nat) (M2 : zM) (f2 : Nat → Nat), k + n = 10 → 1 ≤ k → (∀ o, o ≠ 25 → M2 o = M o) → (∀ j, j < 10 → M2 25 j = iv (f2 j)) → sm10 f2 = 1000000 → loF P n k f2 = loF P 9 1 f → zW shM g (d + 3) mX9_yet (zi Q) 87 [(0, .ref 0), (2, .int (iv N)), (3, .int (iv P)), (4, .int (iv i)), (5, .int (iv k))] [] M2 := by
          intro n
          induction n with
          | zero =>
            intro k M2 f2 hk h1 ho2 hc2 hs2 hr2
            obtain rfl : k = 10 := by omega
            refine vX9_yet_87 ⟨fun _ => ?_, fun c => absurd (by decide) c⟩
            rw [iv_s]
            have er : f2 = loF P 9 1 f := hr2
            refine ih (i + 1) M2 f2 (by omega) ho2 hc2 hs2 ?_
            rw [er]
            exact hr
          | succ n ihn =>
            intro k M2 f2 hk h1 ho2 hc2 hs2 hr2
            have hx : f2 k ≤ 1000000 := by
              rw [← hs2]
              exact sm10_le (by omega)
            refine vX9_yet_87 ⟨fun c => ?_, fun _ => ⟨k, rfl, by omega, fun v1 e1 => ⟨k - 1, ?_, by omega, fun v2 e2 => ?_⟩⟩⟩
            · exfalso
              rw [Int32.lt_iff_toInt_lt, iv_toInt (by omega) (by omega)] at c
              simp only [Int32.reduceToInt] at c
              omega
            · rw [show (1 : Int32) = iv 1 from rfl, iv_sub]
              congr 1
              omega
            · have e1' : v1 = M2 25 k - iv (f2 k * P / 1000 : Nat) := by
                rw [e1, hc2 k (by omega), less9 hx (by omega)]
              have e2' : v2 = (zup M2 25 k v1) 25 (k - 1) + iv (f2 k * P / 1000 : Nat) := by
                rw [e2, hc2 k (by omega), less9 hx (by omega)]
              rw [iv_s]
              exact ihn (k + 1) _ (lo1 P k f2) (by omega) (by omega) (fun o hoo => by rw [zup_oth hoo, zup_oth hoo]; exact ho2 o hoo) (lo_row hc2 h1 (by omega) (by omega) e1' e2') (by rw [lo1_sm (by omega) h1 (by omega)]; exact hs2) hr2
        exact inner 9 1 M1 f rfl (by decide) ho hc hs rfl
    have start : ∀ (fu i : Nat) (M1 : zM), i + fu = 10 → (∀ o, o ≠ 25 → M1 o = M o) → (∀ j, j < i → M1 25 j = iv (yet0 D j)) → zW shM g (d + 3) mX9_yet (zi Q) 34 [(0, .ref 0), (1, .int (iv k)), (2, .int (iv N)), (3, .int (iv P)), (4, .int (iv i))] [] M1 := by
      intro fu
      induction fu with
      | zero =>
        intro i M1 hf ho hc
        obtain rfl : i = 10 := by omega
        exact vX9_yet_34 ⟨fun _ => outer N 0 M1 (yet0 D) (by omega) ho hc (yet0_sm (by omega)) rfl, fun c => absurd (by decide) c⟩
      | succ fu ih =>
        intro i M1 hf ho hc
        have nx : ∀ x : Int32, x = iv (yet0 D i) → zW shM g (d + 3) mX9_yet (zi Q) 34 [(0, .ref 0), (1, .int (iv k)), (2, .int (iv N)), (3, .int (iv P)), (4, .int (iv i + 1))] [] (zup M1 25 i x) := by
          intro x hx
          rw [iv_s]
          refine ih (i + 1) _ (by omega) (fun o hoo => by rw [zup_oth hoo]; exact ho o hoo) (fun j hj => ?_)
          by_cases e : j = i
          · rw [e, zup_same, hx]
          · rw [zup_ne (Or.inr e)]
            exact hc j (by omega)
        refine vX9_yet_34 ⟨fun c => ?_, fun _ => ⟨21 + k, iv_n 21 k, by omega, fun c => ⟨i, rfl, by omega, nx 0 ?_⟩, fun c => ⟨i, rfl, by omega, nx 1000000 ?_⟩⟩⟩
        · exfalso
          rw [Int32.lt_iff_toInt_lt, iv_toInt (by omega) (by omega)] at c
          simp only [Int32.reduceToInt] at c
          omega
        · rw [ho 1 (by decide), eD] at c
          unfold yet0
          rw [if_neg (fun z => c (by rw [z]))]
          rfl
        · rw [ho 1 (by decide), eD, iv_inj (by omega) (by omega)] at c
          unfold yet0
          rw [if_pos (by omega)]
          rfl
    exact start 10 0 M rfl (fun _ _ => rfl) (fun j hj => by omega)
  · simp only [isInB, decide_eq_true_eq, decide_eq_false_iff_not, Int32.reduceToInt] at hp
    rw [if_neg (fun z => hp z.2.2)] at h0
    exact h0
theorem c8_y95 {f : Nat → Nat} (hf : ∀ j, j < 10 → C 128 j = iv (f j)) : ∀ (n k : Nat) (a : Int32), k + n = 10 → Q (sumI f n k a) C → zW shC g (d + 1) mX8_yet (zi Q) 95 [(0, .ref 0), (4, .int a), (5, .int (iv k))] [] C
  | 0, k, a, hk, h => by
    obtain rfl : k = 10 := by omega
    exact vX8_yet_95 ⟨fun _ => h, fun c => absurd (by decide) c⟩
  | n + 1, k, a, hk, h => by
    refine vX8_yet_95 ⟨fun c => ?_, fun _ => ⟨k, rfl, by omega, ?_⟩⟩
    · exfalso
      rw [Int32.lt_iff_toInt_lt, iv_toInt (by omega) (by omega)] at c
      simp only [Int32.reduceToInt] at c
      omega
    · rw [hf k (by omega), iv_s]
      exact c8_y95 hf n (k + 1) _ (by omega) h
theorem c8_loseOne {Q : zM → Prop} {P : Nat} {f : Nat → Nat} (hP : P ≤ 1000) (hc : ∀ j, j < 10 → C 128 j = iv (f j)) (hs : sm10 f = 1000000) (h : ∀ C' : zM, (∀ o, o ≠ 128 → C' o = C o) → (∀ j, j < 10 → C' 128 j = iv (loF P 9 1 f j)) → sm10 (loF P 9 1 f) = 1000000 → Q C') : zCv shC g d mX8_loseOne [.ref 0, .int (iv P)] C Q := by
  refine vX8_loseOne ?_
  have inner : ∀ (n k : Nat) (C2 : zM) (f2 : Nat → Nat), k + n = 10 → 1 ≤ k → (∀ o, o ≠ 128 → C2 o = C o) → (∀ j, j < 10 → C2 128 j = iv (f2 j)) → sm10 f2 = 1000000 → loF P n k f2 = loF P 9 1 f → zW shC g d mX8_loseOne (zv Q) 2 [(0, .ref 0), (1, .int (iv P)), (2, .int (iv k))] [] C2 := by
    intro n
    induction n with
    | zero =>
      intro k C2 f2 hk h1 ho2 hc2 hs2 hr2
      obtain rfl : k = 10 := by omega
      have er : f2 = loF P 9 1 f := hr2
      rw [er] at hc2 hs2
      exact vX8_loseOne_2 ⟨fun _ => h C2 ho2 hc2 hs2, fun c => absurd (by decide) c⟩
    | succ n ihn =>
      intro k C2 f2 hk h1 ho2 hc2 hs2 hr2
      have hx : f2 k ≤ 1000000 := by
        rw [← hs2]
        exact sm10_le (by omega)
      have e0 : (C2 128 k * iv P) / 1000 = iv (f2 k * P / 1000 : Nat) := by
        rw [hc2 k (by omega), less8 hx (by omega)]
      refine vX8_loseOne_2 ⟨fun c => ?_, fun _ => ⟨k, rfl, by omega, k - 1, ?_, by omega, fun v1 e1 => ?_⟩⟩
      · exfalso
        rw [Int32.lt_iff_toInt_lt, iv_toInt (by omega) (by omega)] at c
        simp only [Int32.reduceToInt] at c
        omega
      · rw [show (1 : Int32) = iv 1 from rfl, iv_sub]
        congr 1
        omega
      · rw [e0] at e1 ⊢
        rw [iv_s]
        exact ihn (k + 1) _ (lo1 P k f2) (by omega) (by omega) (fun o hoo => by rw [zup_oth hoo, zup_oth hoo]; exact ho2 o hoo) (lo_row hc2 h1 (by omega) (by omega) rfl e1) (by rw [lo1_sm (by omega) h1 (by omega)]; exact hs2) hr2
  exact inner 9 1 C f rfl (by decide) (fun _ _ => rfl) hc hs rfl
theorem c8_yet {c n p : Int32} (hi : IS w) (hq : IMo w) (hS : RS C 1 w) (hr : RMo C 3 w) (h : ∀ C' : zM, CEq C C' → Q (yetV w c n p) C') : zCi shC g (d + 1) mX8_yet [.ref 0, .int c, .int n, .int p] C Q := by
  unfold yetV at h
  have h0 := h C CEq.rfl
  refine vX8_yet (c7_isCell hS ⟨fun hb => ?_, fun hb => ⟨fun c1 => ?_, fun c1 => ⟨fun c2 => ?_, fun c2 => ⟨fun c3 => ?_, fun c3 => ⟨fun c4 => ?_, fun c4 => ?_⟩⟩⟩⟩⟩)
  · rw [if_neg (fun z => by rw [hb] at z; exact Bool.noConfusion z.1)] at h0
    exact h0
  all_goals
    rw [Int32.lt_iff_toInt_lt] at c1
    simp only [Int32.reduceToInt] at c1
  · rw [if_neg (fun z => by omega)] at h0
    exact h0
  all_goals
    rw [Int32.lt_iff_toInt_lt] at c2
    simp only [Int32.reduceToInt] at c2
  · rw [if_neg (fun z => by omega)] at h0
    exact h0
  all_goals
    rw [Int32.lt_iff_toInt_lt] at c3
    simp only [Int32.reduceToInt] at c3
  · rw [if_neg (fun z => by omega)] at h0
    exact h0
  all_goals
    rw [Int32.le_iff_toInt_le] at c4
    simp only [Int32.reduceToInt] at c4
  · obtain ⟨k, rfl, hk⟩ := cell_nat hb
    obtain ⟨N, rfl, hN, hNI⟩ := iv_nat (x := n) (n := 100) (by omega) (by omega)
    obtain ⟨P, rfl, hP, hPI⟩ := iv_nat (x := p) (n := 1001) (by omega) (by omega)
    obtain ⟨D, eD, hD, hDI⟩ := rng_nat (b := 9) (hq.2.2.2.2.1 k hk)
    obtain ⟨s1, s9⟩ := hi.2.1
    obtain ⟨S, eS, hS2, hSI⟩ := iv_nat (x := w 152) (n := 10) (by omega) (by omega)
    rw [if_pos ⟨hb, by omega, by omega⟩, iv_tn (by omega), iv_tn (by omega), iv_tn (by omega), eD, eS, iv_tn (by omega), iv_tn (by omega)] at h
    refine c_fill (n := 10) (l := []) rfl (by decide) ⟨k, rfl, hk, D, ?_, by omega, ?_⟩
    · show zfill C 128 10 0 4 k = iv D
      simp only [zfill, show ¬ (4 = 128) by decide, false_and, if_false]
      rw [← eD]
      exact hr.1 k hk
    have outer : ∀ (fu i : Nat) (C1 : zM) (f : Nat → Nat), i + fu = N → (∀ o, o ≠ 128 → C1 o = C o) → (∀ j, j < 10 → C1 128 j = iv (f j)) → sm10 f = 1000000 → loN P fu f = loN P N (yet0 D) → zW shC g (d + 1) mX8_yet (zi Q) 66 [(0, .ref 0), (2, .int (iv N)), (3, .int (iv P)), (4, .int (iv i))] [] C1 := by
      intro fu
      induction fu with
      | zero =>
        intro i C1 f hf ho hc hs hrr
        obtain rfl : i = N := by omega
        refine vX8_yet_66 ⟨fun _ => ?_, fun c => absurd (Int32.le_refl _) c⟩
        have e1 : C1 1 2 = iv S := by rw [ho 1 (by decide), ← eS]; exact hS.2.2.1
        have er : f = loN P i (yet0 D) := hrr
        rw [e1]
        refine c8_y95 hc (10 - S) S 0 (by omega) ?_
        rw [er]
        exact h C1 (fun o a _ _ _ _ => ho o (by omega))
      | succ fu ih =>
        intro i C1 f hf ho hc hs hrr
        refine vX8_yet_66 ⟨fun c => (not_le_iv (a := N) (b := i) (by omega) (by omega) c).elim, fun _ => c8_loseOne (by omega) hc hs (fun C2 ho2 hc2 hs2 => ?_)⟩
        rw [iv_s]
        exact ih (i + 1) C2 _ (by omega) (fun o hoo => (ho2 o hoo).trans (ho o hoo)) hc2 hs2 hrr
    refine outer N 0 _ (yet0 D) (by omega) (fun o hoo => ?_) (fun j hj => ?_) (yet0_sm (by omega)) rfl
    · rw [zup_oth hoo]
      funext j
      simp only [zfill, hoo, false_and, if_false]
    · unfold yet0
      by_cases e : j = D
      · rw [e, zup_same, if_pos rfl]
        rfl
      · rw [zup_ne (Or.inr e), if_neg e]
        simp only [zfill, hj, and_self, if_true]
        rfl
  · rw [if_neg (fun z => by omega)] at h0
    exact h0
end YE
def lookV (w : Nat → Int32) (bk what : Int32) : Int32 := if what.toInt = 0 then w 150 else if what.toInt = 1 then w 151 else if what.toInt = 2 then w 0 else if what.toInt = 3 then w 154 else if what.toInt = 4 then w 152 else if what.toInt = 5 then w 153 else if what.toInt = 6 then w 2 else if what.toInt = 7 then w 1 else if what.toInt = 8 then w 155 else if what.toInt = 9 then w 156 else if what.toInt = 10 then w 157 else if what.toInt = 11 then w 158 else if what.toInt = 12 then bk else if what.toInt = 13 then iv (cntB (seeB w) 64 : Nat) else -1
section LO
variable {g : zG} {d : Nat} {M C : zM} {Q : Int32 → zM → Prop}
theorem c9_seenMany (hw : WHw (M 1)) (h : Q (iv (cntB (seeB (M 1)) 64 : Nat)) M) : zCi shM g (d + 3) mX9_seenMany [.ref 0] M Q := by
  refine vX9_seenMany ?_
  have loop : ∀ n i : Nat, i + n = 64 → zW shM g (d + 3) mX9_seenMany (zi Q) 4 [(0, .ref 0), (1, .int (iv (cntB (seeB (M 1)) i : Nat))), (2, .int (iv i))] [] M := by
    intro n
    induction n with
    | zero =>
      intro i hi
      obtain rfl : i = 64 := by omega
      exact vX9_seenMany_4 ⟨fun _ => h, fun c => absurd (by decide) c⟩
    | succ n ih =>
      intro i hi
      have ih := ih (i + 1) (by omega)
      rw [cntB, seeB] at ih
      refine vX9_seenMany_4 ⟨fun c => (not_le_iv (a := 64) (b := i) (by omega) (by omega) c).elim, fun _ => c9_isCell hw ⟨fun hb => ?_, fun hb => c9_isSeen (by omega) ⟨fun hs => ?_, fun hs => ?_⟩⟩⟩
      · rw [hb, Bool.false_and, if_neg (by decide)] at ih
        rw [iv_s, Int32.add_zero]
        exact ih
      · rw [hb, hs, Bool.true_and, if_neg (by decide)] at ih
        rw [iv_s, Int32.add_zero]
        exact ih
      · rw [hb, hs, Bool.true_and, if_pos rfl] at ih
        rw [iv_s, iv_s]
        exact ih
  exact loop 64 0 rfl
theorem c9_look {what : Int32} (hi : IS (M 1)) (h : Q (lookV (M 1) (M 0 4) what) M) : zCi shM g (d + 4) mX9_look [.ref 0, .int what] M Q := by
  unfold lookV at h
  refine vX9_look ⟨fun z => ?_, fun z => ?_, fun z => ?_, fun z => ?_, fun z => ?_, fun z => ?_, fun z => ?_, fun z => ?_, fun z => ?_, fun z => ?_, fun z => ?_, fun z => ?_, fun z => ?_, fun z => ?_, fun z => c9_seenMany hi.1 ?_⟩
  · rw [if_neg (by omega), if_neg (by omega), if_neg (by omega), if_neg (by omega), if_neg (by omega), if_neg (by omega), if_neg (by omega), if_neg (by omega), if_neg (by omega), if_neg (by omega), if_neg (by omega), if_neg (by omega), if_neg (by omega), if_neg (by omega)] at h
    exact h
  · rw [if_pos z] at h
    exact h
  · rw [if_neg (by omega), if_pos z] at h
    exact h
  · rw [if_neg (by omega), if_neg (by omega), if_pos z] at h
    exact h
  · rw [if_neg (by omega), if_neg (by omega), if_neg (by omega), if_pos z] at h
    exact h
  · rw [if_neg (by omega), if_neg (by omega), if_neg (by omega), if_neg (by omega), if_pos z] at h
    exact h
  · rw [if_neg (by omega), if_neg (by omega), if_neg (by omega), if_neg (by omega), if_neg (by omega), if_pos z] at h
    exact h
  · rw [if_neg (by omega), if_neg (by omega), if_neg (by omega), if_neg (by omega), if_neg (by omega), if_neg (by omega), if_pos z] at h
    exact h
  · rw [if_neg (by omega), if_neg (by omega), if_neg (by omega), if_neg (by omega), if_neg (by omega), if_neg (by omega), if_neg (by omega), if_pos z] at h
    exact h
  · rw [if_neg (by omega), if_neg (by omega), if_neg (by omega), if_neg (by omega), if_neg (by omega), if_neg (by omega), if_neg (by omega), if_neg (by omega), if_pos z] at h
    exact h
  · rw [if_neg (by omega), if_neg (by omega), if_neg (by omega), if_neg (by omega), if_neg (by omega), if_neg (by omega), if_neg (by omega), if_neg (by omega), if_neg (by omega), if_pos z] at h
    exact h
  · rw [if_neg (by omega), if_neg (by omega), if_neg (by omega), if_neg (by omega), if_neg (by omega), if_neg (by omega), if_neg (by omega), if_neg (by omega), if_neg (by omega), if_neg (by omega), if_pos z] at h
    exact h
  · rw [if_neg (by omega), if_neg (by omega), if_neg (by omega), if_neg (by omega), if_neg (by omega), if_neg (by omega), if_neg (by omega), if_neg (by omega), if_neg (by omega), if_neg (by omega), if_neg (by omega), if_pos z] at h
    exact h
  · rw [if_neg (by omega), if_neg (by omega), if_neg (by omega), if_neg (by omega), if_neg (by omega), if_neg (by omega), if_neg (by omega), if_neg (by omega), if_neg (by omega), if_neg (by omega), if_neg (by omega), if_neg (by omega), if_pos z] at h
    exact h
  · rw [if_neg (by omega), if_neg (by omega), if_neg (by omega), if_neg (by omega), if_neg (by omega), if_neg (by omega), if_neg (by omega), if_neg (by omega), if_neg (by omega), if_neg (by omega), if_neg (by omega), if_neg (by omega), if_neg (by omega), if_pos z] at h
    exact h
theorem c8_look {what : Int32} (hR : RR C M) (h : Q (lookV (M 1) (M 0 4) what) C) : zCi shC g (d + 2) mX8_look [.ref 0, .int what] C Q := by
  unfold lookV at h
  have hS := hR.rs
  have hr := hR.rm
  refine vX8_look ⟨fun z => ?_, fun z => ?_, fun z => ?_, fun z => ?_, fun z => ?_, fun z => ?_, fun z => ?_, fun z => ?_, fun z => ?_, fun z => ?_, fun z => ?_, fun z => ?_, fun z => ?_, fun z => ?_, fun z => c7_seenCells zMo3 hS hr (c_lbc ?_)⟩
  · rw [if_neg (by omega), if_neg (by omega), if_neg (by omega), if_neg (by omega), if_neg (by omega), if_neg (by omega), if_neg (by omega), if_neg (by omega), if_neg (by omega), if_neg (by omega), if_neg (by omega), if_neg (by omega), if_neg (by omega), if_neg (by omega)] at h
    exact h
  · rw [if_pos z] at h
    rw [hS.1]
    exact h
  · rw [if_neg (by omega), if_pos z] at h
    rw [hS.2.1]
    exact h
  · rw [if_neg (by omega), if_neg (by omega), if_pos z] at h
    rw [hr.2.2.2.1]
    exact h
  · rw [if_neg (by omega), if_neg (by omega), if_neg (by omega), if_pos z] at h
    rw [hS.2.2.2.2.1]
    exact h
  · rw [if_neg (by omega), if_neg (by omega), if_neg (by omega), if_neg (by omega), if_pos z] at h
    rw [hS.2.2.1]
    exact h
  · rw [if_neg (by omega), if_neg (by omega), if_neg (by omega), if_neg (by omega), if_neg (by omega), if_pos z] at h
    rw [hS.2.2.2.1]
    exact h
  · rw [if_neg (by omega), if_neg (by omega), if_neg (by omega), if_neg (by omega), if_neg (by omega), if_neg (by omega), if_pos z] at h
    rw [hr.2.2.2.2.2]
    exact h
  · rw [if_neg (by omega), if_neg (by omega), if_neg (by omega), if_neg (by omega), if_neg (by omega), if_neg (by omega), if_neg (by omega), if_pos z] at h
    rw [hr.2.2.2.2.1]
    exact h
  · rw [if_neg (by omega), if_neg (by omega), if_neg (by omega), if_neg (by omega), if_neg (by omega), if_neg (by omega), if_neg (by omega), if_neg (by omega), if_pos z] at h
    rw [hS.2.2.2.2.2.2.1.1]
    exact h
  · rw [if_neg (by omega), if_neg (by omega), if_neg (by omega), if_neg (by omega), if_neg (by omega), if_neg (by omega), if_neg (by omega), if_neg (by omega), if_neg (by omega), if_pos z] at h
    rw [hS.2.2.2.2.2.2.2.1.1]
    exact h
  · rw [if_neg (by omega), if_neg (by omega), if_neg (by omega), if_neg (by omega), if_neg (by omega), if_neg (by omega), if_neg (by omega), if_neg (by omega), if_neg (by omega), if_neg (by omega), if_pos z] at h
    rw [hS.2.2.2.2.2.2.2.2.1]
    exact h
  · rw [if_neg (by omega), if_neg (by omega), if_neg (by omega), if_neg (by omega), if_neg (by omega), if_neg (by omega), if_neg (by omega), if_neg (by omega), if_neg (by omega), if_neg (by omega), if_neg (by omega), if_pos z] at h
    rw [hS.2.2.2.2.2.2.2.2.2.1]
    exact h
  · rw [if_neg (by omega), if_neg (by omega), if_neg (by omega), if_neg (by omega), if_neg (by omega), if_neg (by omega), if_neg (by omega), if_neg (by omega), if_neg (by omega), if_neg (by omega), if_neg (by omega), if_neg (by omega), if_pos z] at h
    rw [hR.2.2.1.1]
    exact h
  · rw [if_neg (by omega), if_neg (by omega), if_neg (by omega), if_neg (by omega), if_neg (by omega), if_neg (by omega), if_neg (by omega), if_neg (by omega), if_neg (by omega), if_neg (by omega), if_neg (by omega), if_neg (by omega), if_neg (by omega), if_pos z] at h
    have e : cntB (fun k => (seenL (M 1)).toBitVec.toNat.testBit k) 64 = cntB (seeB (M 1)) 64 := lset_cnt
    rw [e]
    exact h
end LO
