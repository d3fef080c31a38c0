/-! A MINUTE of the reference, as a change of its row -/
def goV (w : Nat → Int32) (k i : Nat) : Nat := if besV w k i = -1 then k else (besV w k i).toNat
/-- how much deeper -/
def moreV (w : Nat → Int32) (k : Nat) (by' : Int32) : Int32 := if by' < 9 - w (21 + k) then by' else 9 - w (21 + k)
def deepW (real : Bool) (w : Nat → Int32) (s k : Nat) (by' fell : Int32) : Nat → Int32 :=
  if real = true ∧ ¬ w 2 = 150 then
    upd (upd (upd (upd (upd (upd (upd (upd w (21 + k) (w (21 + k) + moreV w k by')) (85 + k) (iv s)) (566 + 5 * (w 2).toInt.toNat) (w 0)) (567 + 5 * (w 2).toInt.toNat) (iv s)) (568 + 5 * (w 2).toInt.toNat) (iv k)) (569 + 5 * (w 2).toInt.toNat) (moreV w k by')) (570 + 5 * (w 2).toInt.toNat) fell) 2 (w 2 + 1)
  else upd (upd w (21 + k) (w (21 + k) + moreV w k by')) (85 + k) (iv s)
section G9
variable {g : zG} {d : Nat}
theorem goV_cell {w : Nat → Int32} (hi : WHw w) {k i : Nat} (hk : cellB (w 150) (w 151) (iv k) = true) (hk64 : k < 64) : goV w k i < 64 ∧ cellB (w 150) (w 151) (iv (goV w k i : Nat)) = true := by
  obtain ⟨w1, w2, w3, w4⟩ := hi
  obtain ⟨d1, d2, d3, d4⟩ := dXY i
  unfold goV
  split
  · exact ⟨hk64, hk⟩
  · rename_i c
    unfold besV at c ⊢
    split at c
    · rename_i c2
      rw [if_pos c2]
      have hlt : (8 * ((k / 8 : Nat) + dY i) + ((k % 8 : Nat) + dX i)).toNat < 64 := by omega
      refine ⟨hlt, ?_⟩
      simp only [cellB, decide_eq_true_eq, decide_eq_false_iff_not]
      rw [iv_toInt (by omega) (by omega)]
      omega
    · exact absurd rfl c
theorem c9_wentTo {Q : Int32 → zM → Prop} {M : zM} {k i : Nat} (hw : WHw (M 1)) (hk : k < 64) (hi : i < 4) (h : Q (iv (goV (M 1) k i : Nat)) M) : zCi shM g (d + 2) mX9_wentTo [.ref 0, .int (iv k), .int (iv i)] M Q := by
  obtain ⟨d1, d2, d3, d4⟩ := dXY i
  have hw0 := hw
  obtain ⟨w1, w2, w3, w4⟩ := hw
  have e1 : iv k / 8 = iv (k / 8 : Nat) := by
    rw [eqI, ti_div] <;> simp (disch := omega) only [iv_toInt, Int32.reduceToInt] <;> omega
  have e2 : iv k - iv (k / 8 : Nat) * 8 = iv (k % 8 : Nat) := by
    rw [show (8 : Int32) = iv 8 from rfl, iv_mul, iv_sub]
    congr 1
    omega
  have fin : zW shM g (d + 2) mX9_wentTo (zi Q) 47 [(0, .ref 0), (1, .int (iv k)), (3, .int (iv ((k % 8 : Nat) + dX i)))] [.int (iv (dY i)), .int (iv k / 8)] M := by
    rw [e1]
    refine vX9_wentTo_47 ?_
    rw [iv_add]
    refine c9_isAt hw0 ⟨fun c => ?_, fun c => ?_⟩
    · simp (disch := omega) only [atB, decide_eq_true_eq, decide_eq_false_iff_not, iv_toInt] at c
      have eb : besV (M 1) k i = -1 := by
        unfold besV
        rw [if_neg (by omega)]
      rw [goV, if_pos eb] at h
      exact h
    · simp (disch := omega) only [atB, decide_eq_true_eq, decide_eq_false_iff_not, iv_toInt] at c
      have eb : besV (M 1) k i = 8 * ((k / 8 : Nat) + dY i) + ((k % 8 : Nat) + dX i) := by
        unfold besV
        rw [if_pos (by omega)]
      rw [goV, if_neg (by rw [eb]; omega), eb, Int.toNat_of_nonneg (by omega)] at h
      rw [show (8 : Int32) = iv 8 from rfl, iv_mul, iv_add]
      exact h
  have mid : zW shM g (d + 2) mX9_wentTo (zi Q) 23 [(0, .ref 0), (1, .int (iv k)), (2, .int (iv i))] [.int (iv (dX i)), .int (iv k - iv k / 8 * 8)] M := by
    refine vX9_wentTo_23 ?_
    rw [e1, e2, iv_add]
    rw [e1] at fin
    have n : ∀ z : Int, 0 ≤ z → z < 4 → (iv i = iv z ↔ (i : Int) = z) := fun z h1 h2 => iv_inj (by omega) (by omega)
    refine ⟨fun c => ⟨fun c2 => ?_, fun c2 => ?_⟩, fun c => ?_⟩
    · have hd : dY i = 0 := by
        have n2 := n 2 (by omega) (by omega)
        have n0 := n 0 (by omega) (by omega)
        have : ¬ (i : Int) = 2 := fun z => c (n2.mpr z)
        have : ¬ (i : Int) = 0 := fun z => c2 (n0.mpr z)
        unfold dY
        rw [if_neg (by omega), if_neg (by omega)]
      rw [hd] at fin
      exact fin
    · have hi0 : (i : Int) = 0 := (n 0 (by omega) (by omega)).mp c2
      have hd : dY i = -1 := by
        unfold dY
        rw [if_pos (by omega)]
      rw [hd] at fin
      exact fin
    · have hi2 : (i : Int) = 2 := (n 2 (by omega) (by omega)).mp c
      have hd : dY i = 1 := by
        unfold dY
        rw [if_neg (by omega), if_pos (by omega)]
      rw [hd] at fin
      exact fin
  refine vX9_wentTo ?_
  have n : ∀ z : Int, 0 ≤ z → z < 4 → (iv i = iv z ↔ (i : Int) = z) := fun z h1 h2 => iv_inj (by omega) (by omega)
  refine ⟨fun c => ⟨fun c2 => ?_, fun c2 => ?_⟩, fun c => ?_⟩
  · have hd : dX i = 0 := by
      have : ¬ (i : Int) = 1 := fun z => c ((n 1 (by omega) (by omega)).mpr z)
      have : ¬ (i : Int) = 3 := fun z => c2 ((n 3 (by omega) (by omega)).mpr z)
      unfold dX
      rw [if_neg (by omega), if_neg (by omega)]
    rw [hd] at mid
    exact mid
  · have hi0 : (i : Int) = 3 := (n 3 (by omega) (by omega)).mp c2
    have hd : dX i = -1 := by
      unfold dX
      rw [if_neg (by omega), if_pos (by omega)]
    rw [hd] at mid
    exact mid
  · have hi2 : (i : Int) = 1 := (n 1 (by omega) (by omega)).mp c
    have hd : dX i = 1 := by
      unfold dX
      rw [if_pos (by omega)]
    rw [hd] at mid
    exact mid
theorem c9_deepens {Q : zM → Prop} {M : zM} {s k : Nat} {by' fell : Int32} {real : Bool} (hk : k < 64) (hs : s < 6) (hn : rng (M 1 2) 0 150) (h : ∀ M' : zM, (∀ o, o ≠ 1 → M' o = M o) → M' 1 = deepW real (M 1) s k by' fell → Q M') : zCv shM g (d + 1) mX9_deepens [.ref 0, .int (iv s), .int (iv k), .int by', .int fell, .int (zbI real)] M Q := by
  obtain ⟨hn0, hn1⟩ := hn
  refine vX9_deepens ⟨21 + k, iv_n 21 k, by omega, c9_lesser ⟨85 + k, iv_n 85 k, by omega, ?_⟩⟩
  change _ ∧ _
  have em : (if by' < 9 - M 1 (21 + k) then by' else 9 - M 1 (21 + k)) = moreV (M 1) k by' := rfl
  rw [em]
  have r2 : (zup (zup M 1 (21 + k) (M 1 (21 + k) + moreV (M 1) k by')) 1 (85 + k) (iv s)) 1 2 = M 1 2 := by
    rw [zup_ne (by omega), zup_ne (by omega)]
  have r0 : (zup (zup M 1 (21 + k) (M 1 (21 + k) + moreV (M 1) k by')) 1 (85 + k) (iv s)) 1 0 = M 1 0 := by
    rw [zup_ne (by omega), zup_ne (by omega)]
  rw [r2, r0]
  refine ⟨fun c => ?_, fun c => ⟨fun c2 v1 ev1 => ?_, fun c2 => ?_⟩⟩
  · subst c
    refine h _ (fun o ho => by rw [zup_oth ho, zup_oth ho]) ?_
    rw [deepW, if_neg (by simp), zup_row, zup_row]
  · subst c
    obtain ⟨n, hn2, hn3, hn4⟩ := iv_nat (x := M 1 2) (n := 151) hn0 (by omega)
    have hnlt : n < 150 := by
      rcases Nat.lt_or_ge n 150 with q | q
      · exact q
      · exfalso
        apply c2
        rw [hn2, show n = 150 by omega]
        rfl
    have ev : v1 = iv (566 + 5 * n : Nat) := by
      rw [ev1, hn2, show (5 : Int32) = iv 5 from rfl, iv_mul, show (566 : Int32) = iv 566 from rfl, iv_add]
      congr 1
    rw [ev]
    refine ⟨566 + 5 * n, rfl, by omega, 567 + 5 * n, ?_, by omega, 568 + 5 * n, ?_, by omega, 569 + 5 * n, ?_, by omega, 570 + 5 * n, ?_, by omega, fun v2 e2 N1 eN => ?_⟩
    · rw [iv_s]; congr 1; omega
    · rw [show (2 : Int32) = iv 2 from rfl, iv_add]; congr 1; omega
    · rw [show (3 : Int32) = iv 3 from rfl, iv_add]; congr 1; omega
    · rw [show (4 : Int32) = iv 4 from rfl, iv_add]; congr 1; omega
    · rw [zup_ne (by omega), zup_ne (by omega), zup_ne (by omega), zup_ne (by omega), zup_ne (by omega), r2] at e2
      refine h N1 (fun o ho => by rw [eN]; simp only [zup_oth ho]) ?_
      have et : (M 1 2).toInt.toNat = n := by omega
      rw [eN, deepW, if_pos ⟨rfl, c2⟩, e2, et]
      simp only [zup_row]
  · refine h _ (fun o ho => by rw [zup_oth ho, zup_oth ho]) ?_
    rw [deepW, if_neg (fun z => z.2 c2), zup_row, zup_row]
end G9
