/-! cut and thaw: the class -/
section L7
variable {g : zG} {d : Nat} {C : zM} {w : Nat → Int32} {m : Nat}
theorem zSt_val : zSt 0 0 = iv 0 ∧ zSt 0 1 = iv 1 ∧ zSt 0 2 = iv 0 ∧ zSt 0 3 = iv (-1) ∧ zSt 1 0 = iv (-1) ∧ zSt 1 1 = iv 0 ∧ zSt 1 2 = iv 1 ∧ zSt 1 3 = iv 0 := by decide
/-- the step of a way -/
def dX (i : Nat) : Int := if i = 1 then 1 else if i = 3 then -1 else 0
def dY (i : Nat) : Int := if i = 0 then -1 else if i = 2 then 1 else 0
theorem zSt_d {i : Nat} (h : i < 4) : zSt 0 i = iv (dX i) ∧ zSt 1 i = iv (dY i) := by
  have hi : i = 0 ∨ i = 1 ∨ i = 2 ∨ i = 3 := by omega
  rcases hi with rfl | rfl | rfl | rfl <;> decide
/-- beside: the cell that way; -1 beyond the rim -/
def besV (w : Nat → Int32) (k i : Nat) : Int := if 0 ≤ (k % 8 : Nat) + dX i ∧ (k % 8 : Nat) + dX i < (w 150).toInt ∧ 0 ≤ (k / 8 : Nat) + dY i ∧ (k / 8 : Nat) + dY i < (w 151).toInt then 8 * ((k / 8 : Nat) + dY i) + ((k % 8 : Nat) + dX i) else -1
theorem dXY (i : Nat) : -1 ≤ dX i ∧ dX i ≤ 1 ∧ -1 ≤ dY i ∧ dY i ≤ 1 := by
  unfold dX dY
  split <;> split <;> (try split) <;> (try split) <;> omega
theorem c7_beside {Q : Int32 → zM → Prop} {k i : Nat} (hi : IS w) (hs : RS C 1 w) (hk : k < 64) (h4 : i < 4) (h : Q (iv (besV w k i)) C) : zCi shC g d mX7_beside [.ref 1, .int (iv k), .int (iv i)] C Q := by
  obtain ⟨⟨w1, w2, w3, w4⟩, -⟩ := hi
  obtain ⟨e1, e2, -⟩ := hs
  obtain ⟨d1, d2, d3, d4⟩ := dXY i
  have q1 : iv k / 8 = iv (k / 8 : Nat) := by
    rw [eqI, ti_div] <;> simp (disch := omega) only [iv_toInt, Int32.reduceToInt] <;> omega
  have q2 : iv k - iv (k / 8 : Nat) * 8 = iv (k % 8 : Nat) := by
    rw [show (8 : Int32) = iv 8 from rfl, iv_mul, iv_sub]
    congr 1
    omega
  obtain ⟨z1, z2⟩ := zSt_d h4
  unfold besV at h
  refine vX7_beside ⟨i, rfl, h4, ?_⟩
  rw [q1, q2, z1, z2, iv_add, iv_add, e1, e2]
  simp (disch := omega) only [Int32.lt_iff_toInt_lt, Int32.le_iff_toInt_le, iv_toInt, Int32.reduceToInt]
  refine ⟨fun c => ?_, fun c => ⟨fun c2 => ?_, fun c2 => ⟨fun c3 => ?_, fun c3 => ⟨fun c4 v1 e => ?_, fun c4 => ?_⟩⟩⟩⟩
  · rw [if_neg (by omega)] at h
    exact h
  · rw [if_neg (by omega)] at h
    exact h
  · rw [if_neg (by omega)] at h
    exact h
  · rw [if_pos (by omega)] at h
    rw [e, show (8 : Int32) = iv 8 from rfl, iv_mul, iv_add]
    exact h
  · rw [if_neg (by omega)] at h
    exact h
theorem nb_bes {k i : Nat} (hi : IS w) (hk : k < 64) : (besV w k i = -1 → nb w ((k % 8 : Nat) + dX i) ((k / 8 : Nat) + dY i) = 0) ∧ (besV w k i ≠ -1 → ∃ j : Nat, besV w k i = j ∧ j < 64 ∧ nb w ((k % 8 : Nat) + dX i) ((k / 8 : Nat) + dY i) = if seenB w j = true then 1 else 0) := by
  obtain ⟨⟨w1, w2, w3, w4⟩, -⟩ := hi
  obtain ⟨d1, d2, d3, d4⟩ := dXY i
  unfold besV nb
  split
  · rename_i c
    refine ⟨fun z => by omega, fun _ => ⟨(8 * ((k / 8 : Nat) + dY i) + ((k % 8 : Nat) + dX i)).toNat, by omega, by omega, ?_⟩⟩
    by_cases hb : seenB w (8 * ((k / 8 : Nat) + dY i) + ((k % 8 : Nat) + dX i)).toNat = true
    · rw [if_pos ⟨c.1, c.2.1, c.2.2.1, c.2.2.2, hb⟩, if_pos hb]
    · rw [if_neg (fun z => hb z.2.2.2.2), if_neg hb]
  · rename_i c
    refine ⟨fun _ => ?_, fun z => absurd rfl z⟩
    rw [if_neg]
    omega
/-- around, way by way -/
def arF (w : Nat → Int32) (k : Nat) : Nat → Nat
  | 0 => 0
  | i + 1 => arF w k i + nb w ((k % 8 : Nat) + dX i) ((k / 8 : Nat) + dY i)
theorem arF_4 (k : Nat) : arF w k 4 = arN w k := by
  simp only [arF, arN, dX, dY]
  simp
  rfl
theorem nb_le (x y : Int) : nb w x y ≤ 1 := by unfold nb; split <;> omega
theorem arF_le (k : Nat) : ∀ i, arF w k i ≤ i
  | 0 => Nat.le_refl 0
  | i + 1 => by
    have := arF_le k i
    have := nb_le (w := w) ((k % 8 : Nat) + dX i) ((k / 8 : Nat) + dY i)
    simp only [arF]
    omega
theorem c7_seenAround {Q : Int32 → zM → Prop} {k : Nat} (hm : zMo shC m) (hi : IS w) (hs : RS C 1 w) (hr : RMo C m w) (hk : k < 64) (h : Q (iv (arN w k : Nat)) C) : zCi shC g (d + 1) mX7_seenAround [.ref 1, .ref m, .int (iv k)] C Q := by
  refine vX7_seenAround hm ?_
  have loop : ∀ n i : Nat, i + n = 4 → zW shC g (d + 1) mX7_seenAround (zi Q) 5 [(0, .ref 1), (1, .ref m), (2, .int (iv k)), (3, .int (iv (arF w k i : Nat))), (4, .int (iv i))] [] C := by
    intro n
    induction n with
    | zero =>
      intro i hi4
      obtain rfl : i = 4 := by omega
      rw [arF_4]
      exact vX7_seenAround_5 hm ⟨fun _ => h, fun c => absurd (by decide) c⟩
    | succ n ih =>
      intro i hi4
      have ih := ih (i + 1) (by omega)
      have hle := arF_le (w := w) k i
      obtain ⟨b1, b2⟩ := nb_bes (i := i) hi hk
      refine vX7_seenAround_5 hm ⟨fun c => ?_, fun _ => c7_beside hi hs hk (by omega) ⟨fun c => ?_, fun c => ?_⟩⟩
      · rw [Int32.le_iff_toInt_le, iv_toInt (by omega) (by omega)] at c
        simp only [Int32.reduceToInt] at c
        omega
      · have hb : besV w k i = -1 := by
          rcases Decidable.em (besV w k i = -1) with q | q
          · exact q
          · obtain ⟨j, hj, hj2, -⟩ := b2 q
            rw [hj, show (-1 : Int32) = iv (-1) from rfl, iv_inj (by omega) (by omega)] at c
            omega
        rw [arF, b1 hb] at ih
        rw [iv_s]
        exact ih
      · have hb : besV w k i ≠ -1 := by
          intro q
          apply c
          rw [q]
          rfl
        obtain ⟨j, hj, hj2, hn⟩ := b2 hb
        rw [arF, hn] at ih
        rw [hj, iv_s]
        refine c7_isSeen hm hs hr hj2 ⟨fun c => ?_, fun c => ?_⟩
        · rw [c] at ih
          exact ih
        · rw [c] at ih
          rw [iv_s]
          exact ih
  exact loop 4 0 rfl
end L7
