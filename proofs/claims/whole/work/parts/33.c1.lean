/-! THE CLASS, its small methods, in words of the row w -/
section C1
variable {g : zG} {d : Nat} {C : zM} {w : Nat → Int32} {m : Nat}
theorem c7_isCell {Q : Bool → zM → Prop} {c : Int32} (hs : RS C 1 w) (h : Q (cellB (w 150) (w 151) c) C) : zCz shC g d mX7_isCell [.ref 1, .int c] C Q := by
  obtain ⟨e1, e2, -⟩ := hs
  rw [← e1, ← e2] at h
  refine vX7_isCell ⟨fun c1 => dF h ?_, fun c1 => ⟨fun c2 => dF h ?_, fun c2 => ⟨fun c3 => dF h ?_, fun c3 => ⟨fun c4 => dF h ?_, fun c4 => dT h ?_⟩⟩⟩⟩
  · simp only [Int32.lt_iff_toInt_lt, Int32.reduceToInt] at c1; omega
  · simp only [Int32.le_iff_toInt_le, Int32.reduceToInt] at c2; omega
  all_goals
    simp only [Int32.lt_iff_toInt_lt, Int32.reduceToInt] at c1
    simp only [Int32.le_iff_toInt_le, Int32.reduceToInt] at c2
    simp (disch := ((try simp (disch := ((try simp (disch := ((try simp only [Int32.reduceToInt]); omega)) only [Int32.reduceToInt, ti_rem, ti_div, ti_mul, ti_add, ti_sub, iv_toInt]); omega)) only [Int32.reduceToInt, ti_rem, ti_div, ti_mul, ti_add, ti_sub, iv_toInt]); omega)) only [Int32.le_iff_toInt_le, ti_rem, ti_sub, ti_mul, ti_div, Int32.reduceToInt] at *
    omega
theorem c7_isSkater {Q : Bool → zM → Prop} {c : Int32} (hs : RS C 1 w) (h : Q (skB (w 154) c) C) : zCz shC g d mX7_isSkater [.ref 1, .int c] C Q := by
  obtain ⟨-, -, -, -, e1, -⟩ := hs
  rw [← e1] at h
  refine vX7_isSkater ⟨fun c1 => dF h ?_, fun c1 => ⟨fun c2 => dF h ?_, fun c2 => dT h ?_⟩⟩ <;> simp only [Int32.lt_iff_toInt_lt, Int32.le_iff_toInt_le, Int32.reduceToInt] at * <;> omega
theorem c7_isSeen {Q : Bool → zM → Prop} {k : Nat} (hm : zMo shC m) (hs : RS C 1 w) (hr : RMo C m w) (hk : k < 64) (h : Q (seenB w k) C) : zCz shC g d mX7_isSeen [.ref 1, .ref m, .int (iv k)] C Q := by
  refine vX7_isSeen hm ⟨k, rfl, hk, ?_⟩
  rw [hr.1 k hk, hs.2.2.1]
  refine ⟨fun c => dF h ?_, fun c => dT h ?_⟩ <;> rw [Int32.lt_iff_toInt_lt] at c <;> omega
theorem c7_seenBox {Q : Int32 → zM → Prop} {k : Nat} (hm : zMo shC m) (hs : RS C 1 w) (hr : RMo C m w) (hk : boxOK k) (h : Q (shp w k) C) : zCi shC g (d + 1) mX7_seenBox [.ref 1, .ref m, .int (iv k)] C Q := by
  refine vX7_seenBox hm ?_
  have loop : ∀ n i : Nat, i + n = 9 → zW shC g (d + 1) mX7_seenBox (zi Q) 5 [(0, .ref 1), (1, .ref m), (2, .int (iv k)), (3, .int (bset (fun i => seenB w (k + 8 * (i / 3) + i % 3)) i)), (4, .int (iv i))] [] C := by
    intro n
    induction n with
    | zero =>
      intro i hi
      obtain rfl : i = 9 := by omega
      exact vX7_seenBox_5 hm ⟨fun _ => h, fun c => absurd (by decide) c⟩
    | succ n ih =>
      intro i hi
      have ih := ih (i + 1) (by omega)
      refine vX7_seenBox_5 hm ⟨fun c => ?_, fun _ => vX7_inBox ?_⟩
      · rw [Int32.le_iff_toInt_le, iv_toInt (by omega) (by omega)] at c
        simp only [Int32.reduceToInt] at c
        omega
      · rw [inbox_eq (by omega), iv_s]
        refine c7_isSeen hm hs hr (hk.at (by omega)) ⟨fun c => ?_, fun c => ?_⟩
        · rw [bset, c] at ih
          exact ih
        · rw [bset, c] at ih
          exact ih
  exact loop 9 0 rfl
theorem c7_readBox {Q : Int32 → zM → Prop} {k : Nat} (hm : zMo shC m) (hi : IS w) (hs : RS C 1 w) (hr : RMo C m w) (hk : boxOK k) (h : Q (readV w k) C) : zCi shC g (d + 2) mX7_readBox [.ref 1, .ref m, .int (iv k)] C Q := by
  refine vX7_readBox hm (c7_seenBox hm hs hr hk ?_)
  obtain ⟨-, -, -, -, -, -, -, -, hp⟩ := hs
  obtain ⟨p1, -, p3, -⟩ := hp
  obtain ⟨-, -, -, -, -, hn, -⟩ := hi
  obtain ⟨hn0, hn8⟩ := hn
  have loop : ∀ n i : Nat, i + n = (w 157).toInt.toNat → Q (rdF w (shp w k) n i) C → zW shC g (d + 2) mX7_readBox (zi Q) 10 [(0, .ref 1), (3, .int (shp w k)), (4, .int (iv i))] [] C := by
    intro n
    induction n with
    | zero =>
      intro i hi h
      refine vX7_readBox_10 hm ⟨fun _ => h, fun c => ?_⟩
      rw [p1, Int32.le_iff_toInt_le, iv_toInt (by omega) (by omega)] at c
      omega
    | succ n ih =>
      intro i hi h
      rw [rdF] at h
      refine vX7_readBox_10 hm ⟨fun c => ?_, fun _ => ⟨i, rfl, by omega, ?_⟩⟩
      · rw [p1, Int32.le_iff_toInt_le, iv_toInt (by omega) (by omega)] at c
        omega
      · rw [p3 i (by omega) (by omega), iv_s]
        refine ⟨fun c => ?_, fun c => ?_⟩
        · rw [if_neg c] at h
          exact ih (i + 1) (by omega) h
        · rw [if_pos c] at h
          exact h
  exact loop _ 0 (by omega) h
end C1
section C1b
variable {g : zG} {d : Nat} {C : zM} {w : Nat → Int32} {m : Nat}
theorem c7_isBox {Q : Bool → zM → Prop} {c : Int32} (hi : IS w) (hs : RS C 1 w) (h : Q (boxB (w 150) (w 151) c) C) : zCz shC g (d + 1) mX7_isBox [.ref 1, .int c] C Q := by
  obtain ⟨⟨w1, w2, w3, w4⟩, -⟩ := hi
  have e1 := hs.1
  have e2 := hs.2.1
  refine vX7_isBox (c7_isCell hs ⟨fun c1 => dF h ?_, fun c1 => ?_⟩)
  · simp only [cellB, decide_eq_true_eq, decide_eq_false_iff_not] at c1
    omega
  simp only [cellB, decide_eq_true_eq, decide_eq_false_iff_not] at c1
  rw [e1, e2]
  refine ⟨fun c2 => dF h ?_, fun c2 => ⟨fun c3 => dF h ?_, fun c3 => dT h ?_⟩⟩
  all_goals
    simp (disch := ((try simp (disch := ((try simp (disch := ((try simp only [Int32.reduceToInt]); omega)) only [Int32.reduceToInt, ti_rem, ti_div, ti_mul, ti_add, ti_sub, iv_toInt]); omega)) only [Int32.reduceToInt, ti_rem, ti_div, ti_mul, ti_add, ti_sub, iv_toInt]); omega)) only [Int32.lt_iff_toInt_lt, ti_rem, ti_sub, ti_mul, ti_div, Int32.reduceToInt] at *
    omega
end C1b
