/-! text(0), both sides: the ways -/
section X0
variable {g g' : zG} {C M : zM}
/-- the reference's fresh rows at the beginning -/
def frM (M : zM) : Nat → zM
  | 0 => M
  | j + 1 => zup (zup (frM M j) 8 j 0) 9 j 1
theorem frM_at {M : zM} : ∀ j, (∀ o, o ≠ 8 → o ≠ 9 → frM M j o = M o) ∧ ∀ s, s < j → frM M j 8 s = 0 ∧ frM M j 9 s = 1
  | 0 => ⟨fun _ _ _ => rfl, fun s hs => by omega⟩
  | j + 1 => by
    obtain ⟨h1, h2⟩ := frM_at (M := M) j
    refine ⟨fun o a b => by rw [frM, zup_oth b, zup_oth a]; exact h1 o a b, fun s hs => ?_⟩
    rw [frM]
    by_cases e : s = j
    · rw [e]
      exact ⟨by rw [zup_oth (by omega), zup_same], zup_same⟩
    · obtain ⟨y1, y2⟩ := h2 s (by omega)
      exact ⟨by rw [zup_oth (by omega), zup_ne (Or.inr e)]; exact y1, by rw [zup_ne (Or.inr e), zup_oth (by omega)]; exact y2⟩
theorem c9_frM {d : Nat} {Q : Bool → zM → Prop} (h : zW shM g' (d + 1) mX9_readsWays (zz Q) 40 [(0, .ref 0), (1, .int 1)] [] (frM M 6)) : ∀ m j : Nat, j + m = 6 → zW shM g' (d + 1) mX9_readsWays (zz Q) 12 [(0, .ref 0), (1, .int (iv j))] [] (frM M j) := by
  intro m
  induction m with
  | zero =>
    intro j hj
    obtain rfl : j = 6 := by omega
    exact vX9_readsWays_12 ⟨fun _ => h, fun z => absurd (by decide) z⟩
  | succ m ih =>
    intro j hj
    refine vX9_readsWays_12 ⟨fun z => ?_, fun _ => ⟨j, rfl, by omega, ?_⟩⟩
    · rw [Int32.le_iff_toInt_le, iv_toInt (by omega) (by omega)] at z
      simp only [Int32.reduceToInt] at z
      omega
    · rw [iv_s]
      exact ih (j + 1) (by omega)
/-- the row with new ways -/
def wayR (M : zM) : Nat → Int32 := fun j => if j = 155 then M 0 19 else if 166 ≤ j ∧ j < 172 then M 8 (j - 166) else if 172 ≤ j ∧ j < 178 then M 9 (j - 172) else if 9 ≤ j ∧ j < 15 then 0 else if 15 ≤ j ∧ j < 21 then 1 else if 178 ≤ j ∧ j < 538 then M 7 (j - 178) else M 1 j
def pwM (M : zM) : Nat → zM
  | 0 => zup M 1 155 (M 0 19)
  | j + 1 => zup (zup (zup (zup (pwM M j) 1 (166 + j) (M 8 j)) 1 (172 + j) (M 9 j)) 1 (9 + j) 0) 1 (15 + j) 1
def pwN (N M : zM) : Nat → zM
  | 0 => N
  | j + 1 => zup (pwN N M j) 1 (178 + j) (M 7 j)
theorem pwM_o {M : zM} : ∀ j o, o ≠ 1 → pwM M j o = M o
  | 0, o, h => zup_oth h
  | j + 1, o, h => by rw [pwM, zup_oth h, zup_oth h, zup_oth h, zup_oth h]; exact pwM_o j o h
theorem pwN_o {N M : zM} : ∀ j o, o ≠ 1 → pwN N M j o = N o
  | 0, o, _ => rfl
  | j + 1, o, h => by rw [pwN, zup_oth h]; exact pwN_o j o h
theorem pwM_1 {M : zM} : ∀ j x, j ≤ 6 → pwM M j 1 x = if x = 155 then M 0 19 else if 166 ≤ x ∧ x < 166 + j then M 8 (x - 166) else if 172 ≤ x ∧ x < 172 + j then M 9 (x - 172) else if 9 ≤ x ∧ x < 9 + j then 0 else if 15 ≤ x ∧ x < 15 + j then 1 else M 1 x
  | 0, x, _ => by
    rw [pwM, zup_row]
    by_cases c : x = 155
    · rw [c, upd_at, if_pos rfl]
    · rw [upd_ne c, if_neg c, if_neg (by omega), if_neg (by omega), if_neg (by omega), if_neg (by omega)]
  | j + 1, x, hj => by
    rw [pwM, zup_row, zup_row, zup_row, zup_row]
    by_cases c1 : x = 15 + j
    · rw [c1, upd_at, if_neg (by omega), if_neg (by omega), if_neg (by omega), if_neg (by omega), if_pos (by omega)]
    · by_cases c2 : x = 9 + j
      · rw [c2, upd_ne (by omega), upd_at, if_neg (by omega), if_neg (by omega), if_neg (by omega), if_pos (by omega)]
      · by_cases c3 : x = 172 + j
        · rw [c3, upd_ne (by omega), upd_ne (by omega), upd_at, if_neg (by omega), if_neg (by omega), if_pos (by omega), show 172 + j - 172 = j by omega]
        · by_cases c4 : x = 166 + j
          · rw [c4, upd_ne (by omega), upd_ne (by omega), upd_ne (by omega), upd_at, if_neg (by omega), if_pos (by omega), show 166 + j - 166 = j by omega]
          · rw [upd_ne c1, upd_ne c2, upd_ne c3, upd_ne c4, pwM_1 j x (by omega)]
            have k1 : (166 ≤ x ∧ x < 166 + j) = (166 ≤ x ∧ x < 166 + (j + 1)) := propext ⟨fun z => by omega, fun z => by omega⟩
            have k2 : (172 ≤ x ∧ x < 172 + j) = (172 ≤ x ∧ x < 172 + (j + 1)) := propext ⟨fun z => by omega, fun z => by omega⟩
            have k3 : (9 ≤ x ∧ x < 9 + j) = (9 ≤ x ∧ x < 9 + (j + 1)) := propext ⟨fun z => by omega, fun z => by omega⟩
            have k4 : (15 ≤ x ∧ x < 15 + j) = (15 ≤ x ∧ x < 15 + (j + 1)) := propext ⟨fun z => by omega, fun z => by omega⟩
            simp only [k1, k2, k3, k4]
theorem pwN_1 {N M : zM} : ∀ j x, pwN N M j 1 x = if 178 ≤ x ∧ x < 178 + j then M 7 (x - 178) else N 1 x
  | 0, x => by rw [pwN, if_neg (by omega)]
  | j + 1, x => by
    rw [pwN, zup_row]
    by_cases c : x = 178 + j
    · rw [c, upd_at, if_pos (by omega), show 178 + j - 178 = j by omega]
    · rw [upd_ne c, pwN_1 j x]
      have k1 : (178 ≤ x ∧ x < 178 + j) = (178 ≤ x ∧ x < 178 + (j + 1)) := propext ⟨fun z => by omega, fun z => by omega⟩
      simp only [k1]
theorem c9_putsWays {d : Nat} {Q : Int32 → zM → Prop} (h : Q (M 0 19) (zup (pwN (pwM M 6) M 360) 0 4 0)) : zCi shM g' (d + 1) mX9_putsWays [.ref 0] M Q := by
  have l2 : ∀ m j : Nat, j + m = 360 → zW shM g' (d + 1) mX9_putsWays (zi Q) 80 [(0, .ref 0), (1, .int (iv j))] [] (pwN (pwM M 6) M j) := by
    intro m
    induction m with
    | zero =>
      intro j hj
      obtain rfl : j = 360 := by omega
      refine vX9_putsWays_80 ⟨fun _ => vX9_forgets ?_, fun z => absurd (by decide) z⟩
      rw [zup_ne (Or.inr (by omega)), pwN_o 360 0 (by omega), pwM_o 6 0 (by omega)]
      exact h
    | succ m ih =>
      intro j hj
      refine vX9_putsWays_80 ⟨fun z => ?_, fun _ => ⟨j, rfl, by omega, 178 + j, iv_add 178 j, by omega, ?_⟩⟩
      · rw [Int32.le_iff_toInt_le, iv_toInt (by omega) (by omega)] at z
        simp only [Int32.reduceToInt] at z
        omega
      · rw [iv_s, pwN_o j 7 (by omega), pwM_o 6 7 (by omega)]
        exact ih (j + 1) (by omega)
  have l1 : ∀ m j : Nat, j + m = 6 → zW shM g' (d + 1) mX9_putsWays (zi Q) 14 [(0, .ref 0), (1, .int (iv j))] [] (pwM M j) := by
    intro m
    induction m with
    | zero =>
      intro j hj
      obtain rfl : j = 6 := by omega
      exact vX9_putsWays_14 ⟨fun _ => l2 360 0 (by omega), fun z => absurd (by decide) z⟩
    | succ m ih =>
      intro j hj
      refine vX9_putsWays_14 ⟨fun z => ?_, fun _ => ⟨j, rfl, by omega, 166 + j, iv_add 166 j, by omega, 172 + j, iv_add 172 j, by omega, 9 + j, iv_add 9 j, by omega, 15 + j, iv_add 15 j, by omega, ?_⟩⟩
      · rw [Int32.le_iff_toInt_le, iv_toInt (by omega) (by omega)] at z
        simp only [Int32.reduceToInt] at z
        omega
      · rw [iv_s, zup_oth (a := 9) (by omega), pwM_o j 8 (by omega), pwM_o j 9 (by omega)]
        exact ih (j + 1) (by omega)
  exact vX9_putsWays (l1 6 0 (by omega))
theorem pw_row {x : Nat} : zup (pwN (pwM M 6) M 360) 0 4 0 1 x = wayR M x := by
  rw [zup_oth (by omega), pwN_1, pwM_1 6 x (by omega)]
  unfold wayR
  by_cases c : 178 ≤ x ∧ x < 538
  · rw [if_pos (by omega), if_neg (by omega), if_neg (by omega), if_neg (by omega), if_neg (by omega), if_neg (by omega), if_pos c]
  · rw [if_neg (by omega)]
    simp only [c, if_false]
end X0
