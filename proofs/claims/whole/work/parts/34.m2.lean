/-! THE REFERENCE: what it reads -/
section M2
variable {g : zG} {d : Nat} {M : zM}
theorem c9_isSkater {Q : Bool → zM → Prop} {c : Int32} (hn : rng (M 1 154) 0 6) (h : Q (skB (M 1 154) c) M) : zCz shM g (d + 1) mX9_isSkater [.ref 0, .int c] M Q := by
  obtain ⟨h1, h2⟩ := hn
  refine vX9_isSkater (c9_isIn ?_)
  have e : isInB c 0 (M 1 154 - 1) = skB (M 1 154) c := by
    simp (disch := ((try simp (disch := ((try simp (disch := ((try simp only [Int32.reduceToInt]); omega)) only [Int32.reduceToInt, ti_rem, ti_div, ti_mul, ti_add, ti_sub, iv_toInt]); omega)) only [Int32.reduceToInt, ti_rem, ti_div, ti_mul, ti_add, ti_sub, iv_toInt]); omega)) only [isInB, skB, ti_sub, Int32.reduceToInt]
    congr 1
    simp only [eq_iff_iff]
    omega
  rw [e]
  exact h
theorem c9_isBox {Q : Bool → zM → Prop} {c : Int32} (hw : WHw (M 1)) (h : Q (boxB (M 1 150) (M 1 151) c) M) : zCz shM g (d + 3) mX9_isBox [.ref 0, .int c] M Q := by
  have hw0 := hw
  obtain ⟨w1, w2, w3, w4⟩ := hw
  refine vX9_isBox (c9_isCell hw0 ⟨fun c1 => dF h ?_, fun c1 => ?_⟩)
  · simp only [cellB, decide_eq_true_eq, decide_eq_false_iff_not] at c1
    omega
  simp only [cellB, decide_eq_true_eq, decide_eq_false_iff_not] at c1
  refine c9_isAt hw0 ⟨fun c2 => dF h ?_, fun c2 => dT h ?_⟩
  all_goals
    simp (disch := ((try simp (disch := ((try simp (disch := ((try simp only [Int32.reduceToInt]); omega)) only [Int32.reduceToInt, ti_rem, ti_div, ti_mul, ti_add, ti_sub, iv_toInt]); omega)) only [Int32.reduceToInt, ti_rem, ti_div, ti_mul, ti_add, ti_sub, iv_toInt]); omega)) only [atB, decide_eq_true_eq, decide_eq_false_iff_not, ti_rem, ti_add, ti_sub, ti_mul, ti_div, Int32.reduceToInt] at c2
    omega
theorem c9_isSeen {Q : Bool → zM → Prop} {k : Nat} (hk : k < 64) (h : Q (seenB (M 1) k) M) : zCz shM g d mX9_isSeen [.ref 0, .int (iv k)] M Q := by
  refine vX9_isSeen ⟨21 + k, iv_n 21 k, by omega, ?_⟩
  refine ⟨fun c => dF h ?_, fun c => dT h ?_⟩ <;> rw [Int32.lt_iff_toInt_lt] at c <;> omega
theorem c9_seenAt {Q : Int32 → zM → Prop} {x y : Int} (hw : WHw (M 1)) (hx : -9 ≤ x ∧ x < 99) (hy : -9 ≤ y ∧ y < 99) (h : Q (iv (nb (M 1) x y : Nat)) M) : zCi shM g (d + 2) mX9_seenAt [.ref 0, .int (iv x), .int (iv y)] M Q := by
  have hw0 := hw
  obtain ⟨w1, w2, w3, w4⟩ := hw
  refine vX9_seenAt (c9_isAt hw0 ⟨fun c1 => ?_, fun c1 => ?_⟩)
  · simp (disch := omega) only [atB, decide_eq_true_eq, decide_eq_false_iff_not, iv_toInt] at c1
    rw [nb, if_neg (by omega)] at h
    exact h
  · simp (disch := omega) only [atB, decide_eq_true_eq, decide_eq_false_iff_not, iv_toInt] at c1
    have e : 8 * iv y + iv x = iv ((8 * y + x).toNat : Nat) := by
      rw [show (8 : Int32) = iv 8 from rfl, iv_mul, iv_add]
      congr 1
      omega
    rw [e]
    refine c9_isSeen (by omega) ⟨fun c2 => ?_, fun c2 => ?_⟩
    · rw [nb, if_neg (by rw [c2]; simp)] at h
      exact h
    · rw [nb, if_pos ⟨by omega, by omega, by omega, by omega, c2⟩] at h
      exact h
theorem c9_aroundOf {Q : Int32 → zM → Prop} {k : Nat} (hw : WHw (M 1)) (hk : k < 64) (h : Q (iv (arN (M 1) k : Nat)) M) : zCi shM g (d + 3) mX9_aroundOf [.ref 0, .int (iv k)] M Q := by
  have e1 : iv k / 8 = iv (k / 8 : Nat) := by
    rw [eqI, ti_div] <;> simp (disch := omega) only [iv_toInt, Int32.reduceToInt] <;> omega
  have e2 : iv k - iv (k / 8 : Nat) * 8 = iv (k % 8 : Nat) := by
    rw [show (8 : Int32) = iv 8 from rfl, iv_mul, iv_sub]
    congr 1
    omega
  have e3 : (1 : Int32) = iv 1 := rfl
  refine vX9_aroundOf ?_
  rw [e1, e2, e3, iv_sub, iv_add, iv_add, iv_sub]
  refine c9_seenAt hw (by omega) (by omega) (c9_seenAt hw (by omega) (by omega) (c9_seenAt hw (by omega) (by omega) (c9_seenAt hw (by omega) (by omega) ?_)))
  simp only [iv_add]
  rw [arN] at h
  push_cast at h
  exact h
theorem c9_shapeOf {Q : Int32 → zM → Prop} {k : Nat} (hk : boxOK k) (h : Q (shp (M 1) k) M) : zCi shM g (d + 1) mX9_shapeOf [.ref 0, .int (iv k)] M Q := by
  refine vX9_shapeOf ?_
  have loop : ∀ n i : Nat, i + n = 9 → zW shM g (d + 1) mX9_shapeOf (zi Q) 4 [(0, .ref 0), (1, .int (iv k)), (2, .int (bset (fun i => seenB (M 1) (k + 8 * (i / 3) + i % 3)) i)), (3, .int (iv i))] [] M := by
    intro n
    induction n with
    | zero =>
      intro i hi
      obtain rfl : i = 9 := by omega
      exact vX9_shapeOf_4 ⟨fun _ => h, fun c => absurd (by decide) c⟩
    | succ n ih =>
      intro i hi
      have ih := ih (i + 1) (by omega)
      refine vX9_shapeOf_4 ⟨fun c => ?_, fun _ => ?_⟩
      · rw [Int32.le_iff_toInt_le, iv_toInt (by omega) (by omega)] at c
        simp only [Int32.reduceToInt] at c
        omega
      · have e : (iv k + (8 * (iv i / 3))) + (iv i - iv i / 3 * 3) = iv (k + 8 * (i / 3) + i % 3 : Nat) := by
          rw [Int32.mul_comm 8]
          exact inbox_eq (by omega)
        rw [e, iv_s]
        refine c9_isSeen (hk.at (by omega)) ⟨fun c => ?_, fun c => ?_⟩
        · rw [bset, c] at ih
          rw [Int32.or_zero]
          exact ih
        · rw [bset, c] at ih
          exact ih
  exact loop 9 0 rfl
theorem c9_readIn {Q : Int32 → zM → Prop} {k : Nat} (hn : rng (M 1 157) 0 8) (hk : boxOK k) (h : Q (readV (M 1) k) M) : zCi shM g (d + 2) mX9_readIn [.ref 0, .int (iv k)] M Q := by
  obtain ⟨hn0, hn8⟩ := hn
  refine vX9_readIn (c9_shapeOf hk ?_)
  have loop : ∀ n i : Nat, i + n = (M 1 157).toInt.toNat → Q (rdF (M 1) (shp (M 1) k) n i) M → zW shM g (d + 2) mX9_readIn (zi Q) 8 [(0, .ref 0), (2, .int (shp (M 1) k)), (3, .int (iv i))] [] M := by
    intro n
    induction n with
    | zero =>
      intro i hi h
      refine vX9_readIn_8 ⟨fun _ => h, fun c => ?_⟩
      rw [Int32.le_iff_toInt_le, iv_toInt (by omega) (by omega)] at c
      omega
    | succ n ih =>
      intro i hi h
      rw [rdF] at h
      refine vX9_readIn_8 ⟨fun c => ?_, fun _ => ⟨538 + i, iv_n 538 i, by omega, ?_⟩⟩
      · rw [Int32.le_iff_toInt_le, iv_toInt (by omega) (by omega)] at c
        omega
      · rw [iv_s]
        refine ⟨fun c => ?_, fun c => ?_⟩
        · rw [if_neg c] at h
          exact ih (i + 1) (by omega) h
        · rw [if_pos c] at h
          exact h
  exact loop _ 0 (by omega) h
end M2
