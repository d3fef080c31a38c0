/-! A MINUTE of the class: the cell behind a step, a cut -/
/-- a line of the class's book -/
def packV (w : Nat → Int32) (i : Nat) : Int32 := ((((w (566 + 5 * i) <<< (14 &&& 31)) ||| (w (567 + 5 * i) <<< (11 &&& 31))) ||| (w (568 + 5 * i) <<< (5 &&& 31))) ||| (w (569 + 5 * i) <<< (1 &&& 31))) ||| w (570 + 5 * i)
def RBk (C : zM) (p : Nat) (w : Nat → Int32) : Prop := ∀ i : Nat, (i : Int) < (w 2).toInt → C p i = packV w i
theorem packV_row {w v : Nat → Int32} (h : ∀ j, 150 ≤ j → v j = w j) (i : Nat) : packV v i = packV w i := by
  unfold packV
  rw [h (566 + 5 * i) (by omega), h (567 + 5 * i) (by omega), h (568 + 5 * i) (by omega), h (569 + 5 * i) (by omega), h (570 + 5 * i) (by omega)]
theorem RBk.row {C : zM} {p : Nat} {w v : Nat → Int32} (h2 : v 2 = w 2) (h : ∀ j, 150 ≤ j → v j = w j) (hR : RBk C p w) : RBk C p v := by
  intro i hi
  rw [h2] at hi
  rw [packV_row h]
  exact hR i hi
section G7
variable {g : zG} {d : Nat} {C : zM} {w : Nat → Int32} {m : Nat}
theorem c7_cellBehind {Q : Int32 → zM → Prop} {k i : Nat} (hi : IS w) (hs : RS C 1 w) (hk : k < 64) (h5 : i < 5) (h : Q (iv ((if i = 4 then k else goV w k i) : Nat)) C) : zCi shC g (d + 1) mX7_cellBehind [.ref 1, .int (iv k), .int (iv i)] C Q := by
  have n4 : iv i = 4 ↔ i = 4 := by
    rw [show (4 : Int32) = iv 4 from rfl, iv_inj (by omega) (by omega)]
    omega
  refine vX7_cellBehind ⟨fun c => c7_beside hi hs hk ?_ ?_, fun c => ?_⟩
  · have : ¬ i = 4 := fun z => c (n4.mpr z)
    omega
  · have hn : ¬ i = 4 := fun z => c (n4.mpr z)
    rw [if_neg hn] at h
    obtain ⟨⟨w1, w2, w3, w4⟩, -⟩ := hi
    obtain ⟨d1, d2, d3, d4⟩ := dXY i
    have hb : besV w k i = -1 ∨ (0 ≤ besV w k i ∧ besV w k i < 64) := by
      unfold besV
      split
      · exact Or.inr (by omega)
      · exact Or.inl rfl
    refine ⟨fun c2 => ?_, fun c2 => ?_⟩
    · have hb2 : besV w k i ≠ -1 := fun z => c2 (by rw [z]; rfl)
      rw [goV, if_neg hb2, Int.toNat_of_nonneg (by omega)] at h
      exact h
    · have hb2 : besV w k i = -1 := by
        rcases hb with hb | hb
        · exact hb
        · rw [show (-1 : Int32) = iv (-1) from rfl, iv_inj (by omega) (by omega)] at c2
          exact c2
      rw [goV, if_pos hb2] at h
      exact h
  · have hn : i = 4 := n4.mp c
    rw [if_pos hn] at h
    exact h
theorem more_eq {x b : Int32} (hx : rng x 0 9) (hb : rng b 0 9) : imin 9 (x + b) = x + (if b < 9 - x then b else 9 - x) := by
  obtain ⟨x0, x9⟩ := hx
  obtain ⟨b0, b9⟩ := hb
  unfold imin
  have t9 : (9 : Int32).toInt = 9 := rfl
  have e1 : (x + b).toInt = x.toInt + b.toInt := ti_add (by omega) (by omega)
  have e2 : (9 - x).toInt = 9 - x.toInt := by rw [ti_sub (by rw [t9]; omega) (by rw [t9]; omega), t9]
  simp only [Int32.lt_iff_toInt_lt, e1, e2, t9]
  by_cases q : b.toInt < 9 - x.toInt
  · rw [if_pos (by omega), if_pos q]
  · rw [if_neg q]
    have e3 : x + (9 - x) = 9 := by
      rw [eqI, ti_add (by rw [e2]; omega) (by rw [e2]; omega), e2, t9]
      omega
    rw [e3]
    split
    · rw [eqI, e1, t9]
      omega
    · rfl
theorem deepW_hi {real : Bool} {s k : Nat} {b f : Int32} (hk : k < 64) (hn : rng (w 2) 0 150) {j : Nat} (hj : 150 ≤ j) (hj2 : j < 566 ∨ 1316 ≤ j) : deepW real w s k b f j = w j := by
  obtain ⟨h0, h1⟩ := hn
  unfold deepW
  split
  · rename_i c
    have : (w 2).toInt ≠ 150 := fun z => c.2 (by rw [eqI, z]; rfl)
    rw [upd_ne (by omega), upd_ne (by omega), upd_ne (by omega), upd_ne (by omega), upd_ne (by omega), upd_ne (by omega), upd_ne (by omega), upd_ne (by omega)]
  · rw [upd_ne (by omega), upd_ne (by omega)]
theorem RMo.row {v : Nat → Int32} (h : ∀ j, j < 150 ∨ j = 154 → v j = w j) (hR : RMo C m w) : RMo C m v := by
  obtain ⟨h1, h2, h3, h4, h5, h6⟩ := hR
  refine ⟨fun j hj => by rw [h _ (by omega)]; exact h1 j hj, fun j hj => by rw [h _ (by omega)]; exact h2 j hj, fun s hs hq => ?_, by rw [h _ (by omega)]; exact h4, by rw [h _ (by omega)]; exact h5, by rw [h _ (by omega)]; exact h6⟩
  rw [h _ (by omega)] at hq
  rw [h (3 + s) (by omega), h (9 + s) (by omega), h (15 + s) (by omega)]
  exact h3 s hs hq
theorem c7_deepen {Q : zM → Prop} {s k : Nat} {b f : Int32} {real : Bool} (hm : zMo shC m) (hr : RMo C m w) (hbk : RBk C 9 w) (hn : rng (w 2) 0 150) (hs : s < 6) (hk : k < 64) (hp : C (m + 3) s = iv k) (hd : rng (w (21 + k)) 0 9) (hb : rng b 0 9)
    (h : ∀ C' : zM, (∀ o, o ≠ m → o ≠ m + 1 → o ≠ m + 2 → o ≠ 9 → C' o = C o) → RMo C' m (deepW real w s k b f) → RBk C' 9 (deepW real w s k b f) → Q C') : zCv shC g (d + 1) mX7_deepen [.ref 1, .ref m, .int (iv s), .int b, .int f, .int (zbI real)] C Q := by
  have hmm := zMo_at hm
  obtain ⟨hn0, hn1⟩ := hn
  refine vX7_deepen hm ⟨s, rfl, hs, k, hp, hk, ?_⟩
  have ed : C (m + 1) k = w (21 + k) := hr.1 k hk
  have em : imin 9 (C (m + 1) k + b) = w (21 + k) + moreV w k b := by
    rw [ed]
    exact more_eq hd hb
  rw [em]
  have hr1 : RMo (zup C (m + 1) k (w (21 + k) + moreV w k b)) m (upd w (21 + k) (w (21 + k) + moreV w k b)) := hr.setDepth hk
  have hr2 : RMo (zup (zup C (m + 1) k (w (21 + k) + moreV w k b)) (m + 2) k (iv s)) m (upd (upd w (21 + k) (w (21 + k) + moreV w k b)) (85 + k) (iv s)) := hr1.setLatest hk
  have e7 : (zup (zup C (m + 1) k (w (21 + k) + moreV w k b)) (m + 2) k (iv s)) m 7 = w 2 := by
    rw [zup_ne (by omega), zup_ne (by omega)]
    exact hr.2.2.2.2.2
  have e5 : (zup (zup C (m + 1) k (w (21 + k) + moreV w k b)) (m + 2) k (iv s)) m 5 = w 0 := by
    rw [zup_ne (by omega), zup_ne (by omega)]
    exact hr.2.2.2.1
  have edd : (zup (zup C (m + 1) k (w (21 + k) + moreV w k b)) (m + 2) k (iv s)) (m + 1) k - C (m + 1) k = moreV w k b := by
    rw [zup_ne (by omega), zup_same, ed, Int32.add_comm, Int32.add_sub_cancel]
  have hk2 : RBk (zup (zup C (m + 1) k (w (21 + k) + moreV w k b)) (m + 2) k (iv s)) 9 (upd (upd w (21 + k) (w (21 + k) + moreV w k b)) (85 + k) (iv s)) := by
    refine RBk.row (w := w) (by rw [upd_ne (by omega), upd_ne (by omega)]) (fun j hj => by rw [upd_ne (by omega), upd_ne (by omega)]) ?_
    intro i hi
    rw [zup_oth (by omega), zup_oth (by omega)]
    exact hbk i hi
  rw [e7, e5, edd, hp]
  refine ⟨fun c => ?_, fun c => ⟨fun c2 => ?_, fun c2 v1 e1 v2 e2 v3 e3 => ?_⟩⟩
  · subst c
    refine h _ (fun o o1 o2 o3 o4 => by rw [zup_oth o3, zup_oth o2]) ?_ ?_
    · rw [deepW, if_neg (by simp)]
      exact hr2
    · rw [deepW, if_neg (by simp)]
      exact hk2
  · subst c
    rw [Int32.le_iff_toInt_le] at c2
    simp only [Int32.reduceToInt] at c2
    have hw2 : w 2 = 150 := by
      rw [eqI]
      simp only [Int32.reduceToInt]
      omega
    refine h _ (fun o o1 o2 o3 o4 => by rw [zup_oth o3, zup_oth o2]) ?_ ?_
    · rw [deepW, if_neg (fun z => z.2 hw2)]
      exact hr2
    · rw [deepW, if_neg (fun z => z.2 hw2)]
      exact hk2
  · subst c
    rw [Int32.le_iff_toInt_le] at c2
    simp only [Int32.reduceToInt] at c2
    obtain ⟨n, hn2, hn3, hn4⟩ := iv_nat (x := w 2) (n := 150) hn0 (by omega)
    have hw2 : ¬ w 2 = 150 := by
      rw [eqI]
      simp only [Int32.reduceToInt]
      omega
    refine ⟨n, hn2, hn3, fun v4 e4 => ?_⟩
    rw [zup_ne (by omega), zup_ne (by omega), zup_ne (by omega), hr.2.2.2.2.2] at e4
    have et : (w 2).toInt.toNat = n := by omega
    subst e1; subst e2; subst e3; subst e4
    have hrow : ∀ j, j < 150 ∨ j = 154 → deepW true w s k b f j = upd (upd (upd w (21 + k) (w (21 + k) + moreV w k b)) (85 + k) (iv s)) 2 (w 2 + 1) j := by
      intro j hj
      rw [deepW, if_pos ⟨rfl, hw2⟩, et]
      by_cases q : j = 2
      · rw [q, upd_at, upd_at]
      · rw [upd_ne q, upd_ne q, upd_ne (by omega), upd_ne (by omega), upd_ne (by omega), upd_ne (by omega), upd_ne (by omega)]
    refine h _ (fun o o1 o2 o3 o4 => by rw [zup_oth o1, zup_oth o4, zup_oth o3, zup_oth o2]) ?_ ?_
    · refine RMo.row hrow ?_
      refine RMo.setN (p := 7) (r := 2) ?_ (by omega)
      exact hr2.keep fun o a1 a2 => zup_oth (by omega)
    · intro i hi
      have e2v : deepW true w s k b f 2 = w 2 + 1 := by
        rw [deepW, if_pos ⟨rfl, hw2⟩, upd_at]
      rw [e2v, ti_add (by simp only [Int32.reduceToInt]; omega) (by simp only [Int32.reduceToInt]; omega)] at hi
      simp only [Int32.reduceToInt] at hi
      rw [zup_oth (by omega)]
      by_cases q : i = n
      · rw [q, zup_same]
        unfold packV
        rw [deepW, if_pos ⟨rfl, hw2⟩, et]
        have f0 : ∀ x : Nat → Int32, upd (upd (upd (upd (upd (upd x (566 + 5 * n) (w 0)) (567 + 5 * n) (iv s)) (568 + 5 * n) (iv k)) (569 + 5 * n) (moreV w k b)) (570 + 5 * n) f) 2 (w 2 + 1) (566 + 5 * n) = w 0 := fun x => by
          rw [upd_ne (by omega), upd_ne (by omega), upd_ne (by omega), upd_ne (by omega), upd_ne (by omega), upd_at]
        have f1 : ∀ x : Nat → Int32, upd (upd (upd (upd (upd (upd x (566 + 5 * n) (w 0)) (567 + 5 * n) (iv s)) (568 + 5 * n) (iv k)) (569 + 5 * n) (moreV w k b)) (570 + 5 * n) f) 2 (w 2 + 1) (567 + 5 * n) = iv s := fun x => by
          rw [upd_ne (by omega), upd_ne (by omega), upd_ne (by omega), upd_ne (by omega), upd_at]
        have f2 : ∀ x : Nat → Int32, upd (upd (upd (upd (upd (upd x (566 + 5 * n) (w 0)) (567 + 5 * n) (iv s)) (568 + 5 * n) (iv k)) (569 + 5 * n) (moreV w k b)) (570 + 5 * n) f) 2 (w 2 + 1) (568 + 5 * n) = iv k := fun x => by
          rw [upd_ne (by omega), upd_ne (by omega), upd_ne (by omega), upd_at]
        have f3 : ∀ x : Nat → Int32, upd (upd (upd (upd (upd (upd x (566 + 5 * n) (w 0)) (567 + 5 * n) (iv s)) (568 + 5 * n) (iv k)) (569 + 5 * n) (moreV w k b)) (570 + 5 * n) f) 2 (w 2 + 1) (569 + 5 * n) = moreV w k b := fun x => by
          rw [upd_ne (by omega), upd_ne (by omega), upd_at]
        have f4 : ∀ x : Nat → Int32, upd (upd (upd (upd (upd (upd x (566 + 5 * n) (w 0)) (567 + 5 * n) (iv s)) (568 + 5 * n) (iv k)) (569 + 5 * n) (moreV w k b)) (570 + 5 * n) f) 2 (w 2 + 1) (570 + 5 * n) = f := fun x => by
          rw [upd_ne (by omega), upd_at]
        rw [f0, f1, f2, f3, f4]
      · rw [zup_ne (Or.inr q), zup_oth (by omega), zup_oth (by omega)]
        have hi2 : (i : Int) < (w 2).toInt := by omega
        rw [hbk i hi2]
        unfold packV
        rw [deepW, if_pos ⟨rfl, hw2⟩, et]
        have ff : ∀ c : Nat, c < 5 → upd (upd (upd (upd (upd (upd (upd (upd w (21 + k) (w (21 + k) + moreV w k b)) (85 + k) (iv s)) (566 + 5 * n) (w 0)) (567 + 5 * n) (iv s)) (568 + 5 * n) (iv k)) (569 + 5 * n) (moreV w k b)) (570 + 5 * n) f) 2 (w 2 + 1) (566 + c + 5 * i) = w (566 + c + 5 * i) := fun c hc => by
          rw [upd_ne (by omega), upd_ne (by omega), upd_ne (by omega), upd_ne (by omega), upd_ne (by omega), upd_ne (by omega), upd_ne (by omega), upd_ne (by omega)]
        have g0 := ff 0 (by omega)
        have g1 := ff 1 (by omega)
        have g2 := ff 2 (by omega)
        have g3 := ff 3 (by omega)
        have g4 := ff 4 (by omega)
        simp only [Nat.add_zero, Nat.reduceAdd] at g0 g1 g2 g3 g4
        rw [g0, g1, g2, g3, g4]
end G7
