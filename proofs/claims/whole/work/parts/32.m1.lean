/-! THE REFERENCE, its small methods. What a world's row w holds: ranges -/
section M1
variable {g : zG} {d : Nat} {M : zM}
theorem c9_isIn {Q : Bool → zM → Prop} {l0 l1 l2 : Int32} (h : Q (isInB l0 l1 l2) M) : zCz shM g d mX9_isIn [.int l0, .int l1, .int l2] M Q := by
  refine vX9_isIn ⟨fun c => dF h ?_, fun c => ⟨fun c2 => dF h ?_, fun c2 => dT h ?_⟩⟩ <;> simp only [Int32.lt_iff_toInt_lt] at * <;> omega
theorem c9_lesser {Q : Int32 → zM → Prop} {a b : Int32} (h : Q (if a < b then a else b) M) : zCi shM g d mX9_lesser [.int a, .int b] M Q := by
  refine vX9_lesser ⟨fun c => ?_, fun c => ?_⟩
  · rw [if_neg (Int32.not_lt.mpr c)] at h
    exact h
  · rw [if_pos (Int32.not_le.mp c)] at h
    exact h
theorem c9_greater {Q : Int32 → zM → Prop} {a b : Int32} (h : Q (if b < a then a else b) M) : zCi shM g d mX9_greater [.int a, .int b] M Q := by
  refine vX9_greater ⟨fun c => ?_, fun c => ?_⟩
  · rw [if_neg (Int32.not_lt.mpr c)] at h
    exact h
  · rw [if_pos (Int32.not_le.mp c)] at h
    exact h
theorem c9_isAt {Q : Bool → zM → Prop} {x y : Int32} (hw : WHw (M 1)) (h : Q (atB (M 1 150) (M 1 151) x y) M) : zCz shM g (d + 1) mX9_isAt [.ref 0, .int x, .int y] M Q := by
  obtain ⟨w1, w2, w3, w4⟩ := hw
  refine vX9_isAt (c9_isIn ⟨fun c => dF h ?_, fun c => c9_isIn ⟨fun c2 => dF h ?_, fun c2 => dT h ?_⟩⟩) <;> simp (disch := ((try simp (disch := ((try simp (disch := ((try simp only [Int32.reduceToInt]); omega)) only [Int32.reduceToInt, ti_rem, ti_div, ti_mul, ti_add, ti_sub, iv_toInt]); omega)) only [Int32.reduceToInt, ti_rem, ti_div, ti_mul, ti_add, ti_sub, iv_toInt]); omega)) only [isInB, decide_eq_true_eq, decide_eq_false_iff_not, ti_sub, Int32.reduceToInt] at * <;> omega
theorem c9_isCell {Q : Bool → zM → Prop} {c : Int32} (hw : WHw (M 1)) (h : Q (cellB (M 1 150) (M 1 151) c) M) : zCz shM g (d + 2) mX9_isCell [.ref 0, .int c] M Q := by
  have hw0 := hw
  obtain ⟨w1, w2, w3, w4⟩ := hw
  refine vX9_isCell (c9_isIn ⟨fun c1 => dF h ?_, fun c1 => c9_isAt hw0 ⟨fun c2 => dF h ?_, fun c2 => dT h ?_⟩⟩)
  · simp only [isInB, decide_eq_true_eq, decide_eq_false_iff_not, Int32.reduceToInt] at c1
    omega
  · simp only [isInB, decide_eq_true_eq, decide_eq_false_iff_not, Int32.reduceToInt] at c1
    simp (disch := ((try simp (disch := ((try simp (disch := ((try simp only [Int32.reduceToInt]); omega)) only [Int32.reduceToInt, ti_rem, ti_div, ti_mul, ti_add, ti_sub, iv_toInt]); omega)) only [Int32.reduceToInt, ti_rem, ti_div, ti_mul, ti_add, ti_sub, iv_toInt]); omega)) only [atB, decide_eq_true_eq, decide_eq_false_iff_not, ti_rem, ti_sub, ti_mul, ti_div, Int32.reduceToInt] at c2
    omega
  · simp only [isInB, decide_eq_true_eq, decide_eq_false_iff_not, Int32.reduceToInt] at c1
    simp (disch := ((try simp (disch := ((try simp (disch := ((try simp only [Int32.reduceToInt]); omega)) only [Int32.reduceToInt, ti_rem, ti_div, ti_mul, ti_add, ti_sub, iv_toInt]); omega)) only [Int32.reduceToInt, ti_rem, ti_div, ti_mul, ti_add, ti_sub, iv_toInt]); omega)) only [atB, decide_eq_true_eq, decide_eq_false_iff_not, ti_rem, ti_sub, ti_mul, ti_div, Int32.reduceToInt] at c2
    omega
end M1
