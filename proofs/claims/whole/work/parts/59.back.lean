/-! undo of the class; image of both -/
def WaysCp (C C' : zM) (b b' : Nat) : Prop := C' (b' + 9) 4 = C (b + 9) 4 ∧ (∀ j, j < 360 → C' (b' + 10) j = C (b + 10) j) ∧ (∀ j, j < 6 → C' (b' + 11) j = C (b + 11) j) ∧ (∀ j, j < 6 → C' (b' + 12) j = C (b + 12) j)
def LawCp (C C' : zM) (b b' : Nat) : Prop := C' (b' + 14) 6 = C (b + 14) 6 ∧ C' (b' + 14) 7 = C (b + 14) 7 ∧ (∀ j, j < 400 → C' (b' + 15) j = C (b + 15) j) ∧ (∀ j, j < 16 → C' (b' + 16) j = C (b + 16) j ∧ C' (b' + 17) j = C (b + 17) j ∧ C' (b' + 18) j = C (b + 18) j ∧ C' (b' + 19) j = C (b + 19) j)
def PaperCp (C C' : zM) (b b' : Nat) : Prop := C' (b' + 21) 1 = C (b + 21) 1 ∧ C' (b' + 21) 4 = C (b + 21) 4 ∧ (∀ j, j < 8 → C' (b' + 22) j = C (b + 22) j) ∧ (∀ j, j < 10 → C' (b' + 23) j = C (b + 23) j ∧ C' (b' + 24) j = C (b + 24) j)
theorem RWays.cp {C C' : zM} {b b' : Nat} {w : Nat → Int32} (h60 : ∀ s : Nat, s < 6 → (w (166 + s)).toInt ≤ 60) (hc : WaysCp C C' b b') (h : RWays C b w) : RWays C' b' w := by
  obtain ⟨c1, c2, c3, c4⟩ := hc
  obtain ⟨h1, h2, h3, h4⟩ := h
  refine ⟨c1.trans h1, fun s hs => (c3 s hs).trans (h2 s hs), fun s i hs hi => ?_, fun s hs hq => ?_⟩
  · have := h60 s hs
    rw [c2 (60 * s + i) (by omega)]
    exact h3 s i hs hi
  · rw [c4 s hs]
    exact h4 s hs hq
theorem RLaw.cp {C C' : zM} {b b' : Nat} {w : Nat → Int32} (hL : LawOK w) (hc : LawCp C C' b b') (h : RLaw C b w) : RLaw C' b' w := by
  obtain ⟨c1, c2, c3, c4⟩ := hc
  obtain ⟨h1, h2, h3⟩ := h
  obtain ⟨l0, l16, hl⟩ := hL
  refine ⟨c1.trans h1, by rw [c2]; exact h2, fun i hi => ?_⟩
  obtain ⟨e1, e2, e3, e4⟩ := c4 i (by omega)
  obtain ⟨f, m, t, q1, q2, q3, q4, q5, q6, -⟩ := hl i hi
  rw [e1, e2, e3, e4]
  obtain ⟨a1, a2, a3, a4, a5⟩ := h3 i hi
  refine ⟨a1, a2, a3, a4, fun j b1 b2 => ?_⟩
  have : (j : Int) < t := by rw [q3, iv_toInt (by omega) (by omega)] at b2; exact b2
  rw [c3 j (by omega)]
  exact a5 j b1 b2
theorem RPaper.cp {C C' : zM} {b b' : Nat} {w : Nat → Int32} (hc : PaperCp C C' b b') (h : RPaper C b w) : RPaper C' b' w := by
  obtain ⟨c1, c2, c3, c4⟩ := hc
  obtain ⟨h1, h2, h3, h4⟩ := h
  exact ⟨c1.trans h1, c2.trans h2, fun i hi hq => (c3 i hi).trans (h3 i hi hq), fun i hi hq => ⟨(c4 i hi).1.trans (h4 i hi hq).1, (c4 i hi).2.trans (h4 i hi hq).2⟩⟩
theorem RWo.cp {C C' : zM} {b b' : Nat} {w : Nat → Int32} (h : RWo C b w) (h0 : ∀ j, j < 5 → C' b' j = C b j) (h1 : ∀ j, j < 6 → C' (b' + 1) j = C (b + 1) j) (hm : RMo C' (b' + 2) w) (h8 : ∀ j, j < 150 → C' (b' + 8) j = C (b + 8) j) (hw : WaysCp C C' b b') (hl : LawCp C C' b b') (hp : PaperCp C C' b b') : RWo C' b' w := by
  obtain ⟨a1, a2, a3, a4, ⟨e0, e1, e2, e3, e4, e5, e6, e7, e8⟩, a6, a7⟩ := h
  refine ⟨a1, a2, a3, a4, ⟨(h0 0 (by omega)).trans e0, (h0 1 (by omega)).trans e1, (h0 2 (by omega)).trans e2, (h0 3 (by omega)).trans e3, (h0 4 (by omega)).trans e4, fun s hs hq => (h1 s hs).trans (e5 s hs hq), e6.cp (fun s hs => (a1.2.2.2.2.2.2.2.2.1 s hs).2) hw, e7.cp a1.2.2.2.2.2.2.2.2.2.2.2.2.2 hl, e8.cp hp⟩, hm, fun i hi => ?_⟩
  have := a2.1.2
  rw [h8 i (by omega)]
  exact a7 i hi
section CP
variable {g : zG} {d : Nat} {C : zM} {Q : zM → Prop}
theorem c6_copy_b (h : ∀ C' : zM, (∀ o, o < 37 ∨ 40 < o → C' o = C o) → WaysCp C C' 1 28 → Q C') : zCv shC g (d + 1) mX6_copy [.ref 37, .ref 10] C Q := by
  refine vX6_copy_b (h _ (fun o ho => ?_) ⟨?_, fun j hj => ?_, fun j hj => ?_, fun j hj => ?_⟩)
  · funext j
    have n : o ≠ 37 ∧ o ≠ 38 ∧ o ≠ 39 ∧ o ≠ 40 := by omega
    simp [zup, zcpy, n]
  all_goals simp [zup, zcpy, *]
theorem c6_copy_c (h : ∀ C' : zM, (∀ o, o < 10 ∨ 13 < o → C' o = C o) → WaysCp C C' 28 1 → Q C') : zCv shC g (d + 1) mX6_copy [.ref 10, .ref 37] C Q := by
  refine vX6_copy_c (h _ (fun o ho => ?_) ⟨?_, fun j hj => ?_, fun j hj => ?_, fun j hj => ?_⟩)
  · funext j
    have n : o ≠ 10 ∧ o ≠ 11 ∧ o ≠ 12 ∧ o ≠ 13 := by omega
    simp [zup, zcpy, n]
  all_goals simp [zup, zcpy, *]
theorem c1_copy_b (h : ∀ C' : zM, (∀ o, o < 42 ∨ 47 < o → C' o = C o) → LawCp C C' 1 28 → Q C') : zCv shC g (d + 1) mX1_copy [.ref 42, .ref 15] C Q := by
  refine vX1_copy_b (fun N1 e1 => h _ (fun o ho => ?_) ⟨?_, ?_, fun j hj => ?_, fun j hj => ⟨?_, ?_, ?_, ?_⟩⟩)
  · funext j
    have n : o ≠ 42 ∧ o ≠ 43 ∧ o ≠ 44 ∧ o ≠ 45 ∧ o ≠ 46 ∧ o ≠ 47 := by omega
    rw [e1]
    simp [zup, zcpy, n]
  all_goals
    rw [e1]
    simp [zup, zcpy, *]
theorem c1_copy_c (h : ∀ C' : zM, (∀ o, o < 15 ∨ 20 < o → C' o = C o) → LawCp C C' 28 1 → Q C') : zCv shC g (d + 1) mX1_copy [.ref 15, .ref 42] C Q := by
  refine vX1_copy_c (fun N1 e1 => h _ (fun o ho => ?_) ⟨?_, ?_, fun j hj => ?_, fun j hj => ⟨?_, ?_, ?_, ?_⟩⟩)
  · funext j
    have n : o ≠ 15 ∧ o ≠ 16 ∧ o ≠ 17 ∧ o ≠ 18 ∧ o ≠ 19 ∧ o ≠ 20 := by omega
    rw [e1]
    simp [zup, zcpy, n]
  all_goals
    rw [e1]
    simp [zup, zcpy, *]
theorem c3_copy_b (h : ∀ C' : zM, (∀ o, o < 49 ∨ 52 < o → C' o = C o) → PaperCp C C' 1 28 → Q C') : zCv shC g (d + 1) mX3_copy [.ref 49, .ref 22] C Q := by
  refine vX3_copy_b (fun N1 e1 => h _ (fun o ho => ?_) ⟨?_, ?_, fun j hj => ?_, fun j hj => ⟨?_, ?_⟩⟩)
  · funext j
    have n : o ≠ 49 ∧ o ≠ 50 ∧ o ≠ 51 ∧ o ≠ 52 := by omega
    rw [e1]
    simp [zup, zcpy, n]
  all_goals
    rw [e1]
    simp [zup, zcpy, *]
theorem c3_copy_c (h : ∀ C' : zM, (∀ o, o < 22 ∨ 25 < o → C' o = C o) → PaperCp C C' 28 1 → Q C') : zCv shC g (d + 1) mX3_copy [.ref 22, .ref 49] C Q := by
  refine vX3_copy_c (fun N1 e1 => h _ (fun o ho => ?_) ⟨?_, ?_, fun j hj => ?_, fun j hj => ⟨?_, ?_⟩⟩)
  · funext j
    have n : o ≠ 22 ∧ o ≠ 23 ∧ o ≠ 24 ∧ o ≠ 25 := by omega
    rw [e1]
    simp [zup, zcpy, n]
  all_goals
    rw [e1]
    simp [zup, zcpy, *]
theorem zMo30 : zMo shC 30 := by
  refine ⟨?_, ?_, ?_, ?_, ?_, ?_⟩ <;> rfl
theorem c7_copy_a {w : Nat → Int32} (hw : RWo C 1 w) (h : ∀ C' : zM, (∀ o, o < 28 ∨ 52 < o → C' o = C o) → RWo C' 28 w → Q C') : zCv shC g (d + 3) mX7_copy [.ref 28, .ref 1] C Q := by
  refine vX7_copy_a (fun N1 e1 => ?_)
  have s28 : ∀ j, j < 5 → (zcpy (zup N1 28 4 (N1 1 4)) 2 29 6) 28 j = C 1 j := fun j hj => by
    rw [e1]
    obtain rfl | rfl | rfl | rfl | rfl : j = 0 ∨ j = 1 ∨ j = 2 ∨ j = 3 ∨ j = 4 := by omega
    all_goals simp [zup, zcpy]
  have s29 : ∀ j, j < 6 → (zcpy (zup N1 28 4 (N1 1 4)) 2 29 6) 29 j = C 2 j := fun j hj => by
    rw [e1]
    simp [zup, zcpy, hj]
  have so : ∀ o, o ≠ 28 → o ≠ 29 → (zcpy (zup N1 28 4 (N1 1 4)) 2 29 6) o = C o := fun o a b => by
    rw [e1]
    funext j
    simp [zup, zcpy, a, b]
  generalize zcpy (zup N1 28 4 (N1 1 4)) 2 29 6 = C1 at s28 s29 so
  have hr1 : RMo C1 3 w := hw.2.2.2.2.2.1.keep fun o a b => so o (by omega) (by omega)
  refine c2_copy zMo30 zMo3 (by omega) (fun C2 o2 r2 => ?_)
  have hr2 := r2 w hr1
  refine c6_copy_b (fun C3 o3 w3 => c1_copy_b (fun C4 o4 l4 => c3_copy_b (fun C5 o5 p5 => h C5 (fun o ho => ?_) (hw.cp (fun j hj => ?_) (fun j hj => ?_) ?_ (fun j hj => ?_) ?_ ?_ ?_))))
  · rw [o5 o (by omega), o4 o (by omega), o3 o (by omega)]
    have : (zcpy C2 9 36 150) o = C2 o := by
      funext j
      have n : o ≠ 36 := by omega
      simp [zcpy, n]
    rw [this, o2 o (by omega), so o (by omega) (by omega)]
  · rw [o5 28 (by omega), o4 28 (by omega), o3 28 (by omega)]
    have : (zcpy C2 9 36 150) 28 j = C2 28 j := by simp [zcpy]
    rw [this, o2 28 (by omega)]
    exact s28 j hj
  · rw [o5 (28 + 1) (by omega), o4 (28 + 1) (by omega), o3 (28 + 1) (by omega)]
    have : (zcpy C2 9 36 150) (28 + 1) j = C2 29 j := by simp [zcpy]
    rw [this, o2 29 (by omega)]
    exact s29 j hj
  · refine hr2.keep fun o a b => ?_
    rw [o5 o (by omega), o4 o (by omega), o3 o (by omega)]
    funext j
    have n : o ≠ 36 := by omega
    simp [zcpy, n]
  · rw [o5 (28 + 8) (by omega), o4 (28 + 8) (by omega), o3 (28 + 8) (by omega)]
    have : (zcpy C2 9 36 150) (28 + 8) j = C2 9 j := by simp [zcpy, hj]
    rw [this, o2 9 (by omega), so 9 (by omega) (by omega)]
  · have t : ∀ o, 10 ≤ o → o ≤ 13 → (zcpy C2 9 36 150) o = C o := fun o a b => by
      have : (zcpy C2 9 36 150) o = C2 o := by
        funext j
        have n : o ≠ 36 := by omega
        simp [zcpy, n]
      rw [this, o2 o (by omega), so o (by omega) (by omega)]
    obtain ⟨a1, a2, a3, a4⟩ := w3
    refine ⟨?_, fun j hj => ?_, fun j hj => ?_, fun j hj => ?_⟩
    · rw [o5 (28 + 9) (by omega), o4 (28 + 9) (by omega), a1, t (1 + 9) (by omega) (by omega)]
    · rw [o5 (28 + 10) (by omega), o4 (28 + 10) (by omega), a2 j hj, t (1 + 10) (by omega) (by omega)]
    · rw [o5 (28 + 11) (by omega), o4 (28 + 11) (by omega), a3 j hj, t (1 + 11) (by omega) (by omega)]
    · rw [o5 (28 + 12) (by omega), o4 (28 + 12) (by omega), a4 j hj, t (1 + 12) (by omega) (by omega)]
  · have t : ∀ o, 15 ≤ o → o ≤ 20 → C3 o = C o := fun o a b => by
      rw [o3 o (by omega)]
      have : (zcpy C2 9 36 150) o = C2 o := by
        funext j
        have n : o ≠ 36 := by omega
        simp [zcpy, n]
      rw [this, o2 o (by omega), so o (by omega) (by omega)]
    obtain ⟨a1, a2, a3, a4⟩ := l4
    refine ⟨?_, ?_, fun j hj => ?_, fun j hj => ?_⟩
    · rw [o5 (28 + 14) (by omega), a1, t (1 + 14) (by omega) (by omega)]
    · rw [o5 (28 + 14) (by omega), a2, t (1 + 14) (by omega) (by omega)]
    · rw [o5 (28 + 15) (by omega), a3 j hj, t (1 + 15) (by omega) (by omega)]
    · obtain ⟨b1, b2, b3, b4⟩ := a4 j hj
      rw [o5 (28 + 16) (by omega), o5 (28 + 17) (by omega), o5 (28 + 18) (by omega), o5 (28 + 19) (by omega), b1, b2, b3, b4, t (1 + 16) (by omega) (by omega), t (1 + 17) (by omega) (by omega), t (1 + 18) (by omega) (by omega), t (1 + 19) (by omega) (by omega)]
      exact ⟨rfl, rfl, rfl, rfl⟩
  · have t : ∀ o, 22 ≤ o → o ≤ 25 → C4 o = C o := fun o a b => by
      rw [o4 o (by omega), o3 o (by omega)]
      have : (zcpy C2 9 36 150) o = C2 o := by
        funext j
        have n : o ≠ 36 := by omega
        simp [zcpy, n]
      rw [this, o2 o (by omega), so o (by omega) (by omega)]
    obtain ⟨a1, a2, a3, a4⟩ := p5
    refine ⟨?_, ?_, fun j hj => ?_, fun j hj => ?_⟩
    · rw [a1, t (1 + 21) (by omega) (by omega)]
    · rw [a2, t (1 + 21) (by omega) (by omega)]
    · rw [a3 j hj, t (1 + 22) (by omega) (by omega)]
    · obtain ⟨b1, b2⟩ := a4 j hj
      rw [b1, b2, t (1 + 23) (by omega) (by omega), t (1 + 24) (by omega) (by omega)]
      exact ⟨rfl, rfl⟩
theorem c7_copy_b {w : Nat → Int32} (hw : RWo C 28 w) (h : ∀ C' : zM, (∀ o, o < 1 ∨ 25 < o → C' o = C o) → RWo C' 1 w → Q C') : zCv shC g (d + 3) mX7_copy [.ref 1, .ref 28] C Q := by
  refine vX7_copy_b (fun N1 e1 => ?_)
  have s28 : ∀ j, j < 5 → (zcpy (zup N1 1 4 (N1 28 4)) 29 2 6) 1 j = C 28 j := fun j hj => by
    rw [e1]
    obtain rfl | rfl | rfl | rfl | rfl : j = 0 ∨ j = 1 ∨ j = 2 ∨ j = 3 ∨ j = 4 := by omega
    all_goals simp [zup, zcpy]
  have s29 : ∀ j, j < 6 → (zcpy (zup N1 1 4 (N1 28 4)) 29 2 6) 2 j = C 29 j := fun j hj => by
    rw [e1]
    simp [zup, zcpy, hj]
  have so : ∀ o, o ≠ 1 → o ≠ 2 → (zcpy (zup N1 1 4 (N1 28 4)) 29 2 6) o = C o := fun o a b => by
    rw [e1]
    funext j
    simp [zup, zcpy, a, b]
  generalize zcpy (zup N1 1 4 (N1 28 4)) 29 2 6 = C1 at s28 s29 so
  have hr1 : RMo C1 30 w := hw.2.2.2.2.2.1.keep fun o a b => so o (by omega) (by omega)
  refine c2_copy zMo3 zMo30 (by omega) (fun C2 o2 r2 => ?_)
  have hr2 := r2 w hr1
  have tz : ∀ o, o ≠ 9 → (zcpy C2 36 9 150) o = C2 o := fun o a => by
    funext j
    simp [zcpy, a]
  refine c6_copy_c (fun C3 o3 w3 => c1_copy_c (fun C4 o4 l4 => c3_copy_c (fun C5 o5 p5 => h C5 (fun o ho => ?_) (hw.cp (fun j hj => ?_) (fun j hj => ?_) ?_ (fun j hj => ?_) ?_ ?_ ?_))))
  · rw [o5 o (by omega), o4 o (by omega), o3 o (by omega), tz o (by omega), o2 o (by omega), so o (by omega) (by omega)]
  · rw [o5 1 (by omega), o4 1 (by omega), o3 1 (by omega), tz 1 (by omega), o2 1 (by omega)]
    exact s28 j hj
  · rw [o5 (1 + 1) (by omega), o4 (1 + 1) (by omega), o3 (1 + 1) (by omega), tz (1 + 1) (by omega), o2 (1 + 1) (by omega)]
    exact s29 j hj
  · refine hr2.keep fun o a b => ?_
    rw [o5 o (by omega), o4 o (by omega), o3 o (by omega), tz o (by omega)]
  · rw [o5 (1 + 8) (by omega), o4 (1 + 8) (by omega), o3 (1 + 8) (by omega)]
    have : (zcpy C2 36 9 150) (1 + 8) j = C2 36 j := by simp [zcpy, hj]
    rw [this, o2 36 (by omega), so 36 (by omega) (by omega)]
  · have t : ∀ o, 37 ≤ o → o ≤ 40 → (zcpy C2 36 9 150) o = C o := fun o a b => by
      rw [tz o (by omega), o2 o (by omega), so o (by omega) (by omega)]
    obtain ⟨a1, a2, a3, a4⟩ := w3
    refine ⟨?_, fun j hj => ?_, fun j hj => ?_, fun j hj => ?_⟩
    · rw [o5 (1 + 9) (by omega), o4 (1 + 9) (by omega), a1, t (28 + 9) (by omega) (by omega)]
    · rw [o5 (1 + 10) (by omega), o4 (1 + 10) (by omega), a2 j hj, t (28 + 10) (by omega) (by omega)]
    · rw [o5 (1 + 11) (by omega), o4 (1 + 11) (by omega), a3 j hj, t (28 + 11) (by omega) (by omega)]
    · rw [o5 (1 + 12) (by omega), o4 (1 + 12) (by omega), a4 j hj, t (28 + 12) (by omega) (by omega)]
  · have t : ∀ o, 42 ≤ o → o ≤ 47 → C3 o = C o := fun o a b => by
      rw [o3 o (by omega), tz o (by omega), o2 o (by omega), so o (by omega) (by omega)]
    obtain ⟨a1, a2, a3, a4⟩ := l4
    refine ⟨?_, ?_, fun j hj => ?_, fun j hj => ?_⟩
    · rw [o5 (1 + 14) (by omega), a1, t (28 + 14) (by omega) (by omega)]
    · rw [o5 (1 + 14) (by omega), a2, t (28 + 14) (by omega) (by omega)]
    · rw [o5 (1 + 15) (by omega), a3 j hj, t (28 + 15) (by omega) (by omega)]
    · obtain ⟨b1, b2, b3, b4⟩ := a4 j hj
      rw [o5 (1 + 16) (by omega), o5 (1 + 17) (by omega), o5 (1 + 18) (by omega), o5 (1 + 19) (by omega), b1, b2, b3, b4, t (28 + 16) (by omega) (by omega), t (28 + 17) (by omega) (by omega), t (28 + 18) (by omega) (by omega), t (28 + 19) (by omega) (by omega)]
      exact ⟨rfl, rfl, rfl, rfl⟩
  · have t : ∀ o, 49 ≤ o → o ≤ 52 → C4 o = C o := fun o a b => by
      rw [o4 o (by omega), o3 o (by omega), tz o (by omega), o2 o (by omega), so o (by omega) (by omega)]
    obtain ⟨a1, a2, a3, a4⟩ := p5
    refine ⟨?_, ?_, fun j hj => ?_, fun j hj => ?_⟩
    · rw [a1, t (28 + 21) (by omega) (by omega)]
    · rw [a2, t (28 + 21) (by omega) (by omega)]
    · rw [a3 j hj, t (28 + 22) (by omega) (by omega)]
    · obtain ⟨b1, b2⟩ := a4 j hj
      rw [b1, b2, t (28 + 23) (by omega) (by omega), t (28 + 24) (by omega) (by omega)]
      exact ⟨rfl, rfl⟩
end CP
section UN8
variable {g : zG} {d : Nat} {M C : zM}
theorem bkW_bk {bk w : Nat → Int32} {i n : Nat} : bkW bk (bkW bk w n) i = bkW bk w i := by
  funext j
  unfold bkW
  split
  · rfl
  · rfl
theorem c8_undo {Q : Bool → zM → Prop} (hR : RR C M) (h : ∀ C' : zM, RR C' (undoM M) → Q (undoB M) C') : zCz shC g (d + 2) mX8_undo [.ref 0] C Q := by
  obtain ⟨r1, r2, r3, r4⟩ := id hR
  obtain ⟨h1, h2, h3, h4, h5⟩ := r3
  obtain ⟨n, en, hn6, en2⟩ := rng_nat (b := 6) h2
  have e5 : C 0 5 = iv n := h1.trans en
  have z0 : (0 : Int32).toInt = 0 := rfl
  unfold undoM undoB at h
  refine vX8_undo ⟨fun c => ?_, fun c => ?_⟩
  · rw [e5, Int32.lt_iff_toInt_lt, iv_toInt (by omega) (by omega), z0] at c
    have c0 : ¬ M 0 4 = 0 := fun z => by rw [z, z0] at en2; omega
    rw [if_neg c0, decide_eq_true c0, en2, show ((n : Int)).toNat = n by omega] at h
    have e1 : C 0 5 - 1 = iv (n - 1 : Nat) := by
      rw [e5, show (1 : Int32) = iv 1 from rfl, iv_sub]
      congr 1
      omega
    have e1' : M 0 4 - 1 = iv (n - 1 : Nat) := by
      rw [en, show (1 : Int32) = iv 1 from rfl, iv_sub]
      congr 1
      omega
    rw [e1'] at h
    obtain ⟨q, hq, eq⟩ := h3 (n - 1) (by omega)
    obtain ⟨a1, a2, a3, a4, a5⟩ := h5 (n - 1) (by omega) (by omega)
    have z61 : (zup C 0 5 (C 0 5 - 1)) 61 = C 61 := zup_oth (by decide)
    refine ⟨n - 1, by rw [zup_same, e1], by omega, 62 + 6 * q, by rw [z61, eq, tn_iv (by omega)], zMoP hq, c2_copy zMo3 (zMoP hq) (by omega) (fun C1 o1 q1 => h _ ?_)⟩
    rw [eq, iv_tn (by omega)] at a4
    have a4' : RMo (zup C 0 5 (C 0 5 - 1)) (62 + 6 * q) (bkW (M 3) (M 1) (n - 1)) := a4.keep fun o b1 b2 => zup_oth (by omega)
    have hr := q1 _ a4'
    have oo : ∀ o, o ≠ 0 → (o < 3 ∨ 8 < o) → C1 o = C o := fun o b1 b2 => by rw [o1 o (by omega), zup_oth b1]
    have o0 : C1 0 5 = iv (n - 1 : Nat) := by rw [o1 0 (by omega), zup_same, e1]
    have o02 : C1 0 2 = C 0 2 := by rw [o1 0 (by omega), zup_ne (by omega)]
    have hv : ∀ j, 150 ≤ j → bkW (M 3) (M 1) (n - 1) j = M 1 j := fun j hj => bkW_hi hj
    have e2 : bkW (M 3) (M 1) (n - 1) 2 = M 3 (150 * (n - 1) + 2) := bkW_lo (by omega)
    refine ⟨⟨⟨hR.is.row hv, a1, ⟨a2, fun i hi => ?_⟩, hR.no.row fun j hj => hv j (by omega), ?_, hr, fun i hi => ?_⟩, fun j hj => ?_⟩, ?_, ?_, ?_⟩
    · have hi' : (i : Int) < (bkW (M 3) (M 1) (n - 1) 2).toInt := hi
      rw [e2] at hi'
      have := hR.bk.2 i (by omega)
      show rng (bkW (M 3) (M 1) (n - 1) (566 + 5 * i)) 0 9999 ∧ rng (bkW (M 3) (M 1) (n - 1) (567 + 5 * i)) 0 5 ∧ rng (bkW (M 3) (M 1) (n - 1) (568 + 5 * i)) 0 63 ∧ rng (bkW (M 3) (M 1) (n - 1) (569 + 5 * i)) 0 9 ∧ rng (bkW (M 3) (M 1) (n - 1) (570 + 5 * i)) 0 1
      rw [hv _ (by omega), hv _ (by omega), hv _ (by omega), hv _ (by omega), hv _ (by omega)]
      exact this
    · show RS C1 1 (bkW (M 3) (M 1) (n - 1))
      exact (hR.rs.keepb fun o b1 b2 b3 b4 => oo o (by omega) (by omega)).row hv
    · have hi' : (i : Int) < (bkW (M 3) (M 1) (n - 1) 2).toInt := hi
      rw [e2] at hi'
      show C1 9 i = packV (bkW (M 3) (M 1) (n - 1)) i
      rw [oo 9 (by omega) (by omega), packV_row hv]
      exact hR.rb i (by omega)
    · show bkW (M 3) (M 1) (n - 1) j = 0
      rw [hv j (by omega)]
      exact hR.1.2 j hj
    · show Rimg C1 (upd (M 0) 4 (iv (n - 1 : Nat)) 5) (M 2)
      rw [upd_ne (by omega)]
      exact r2.keep o02 fun o b1 b2 => oo o (by omega) (by omega)
    · show Rpast C1 (upd (M 0) 4 (iv (n - 1 : Nat)) 4) (M 3) (bkW (M 3) (M 1) (n - 1))
      rw [upd_at]
      have o61 : C1 61 = C 61 := oo 61 (by omega) (by omega)
      refine ⟨o0, ?_, by rw [o61]; exact h3, by rw [o61]; exact h4, fun i hi hin => ?_⟩
      · unfold rng
        rw [iv_toInt (by omega) (by omega)]
        omega
      · rw [iv_toInt (by omega) (by omega)] at hin ⊢
        obtain ⟨f1, f2, f3, f4, f5⟩ := h5 i hi (by omega)
        obtain ⟨q2, hq2, eq2⟩ := h3 i hi
        rw [bkW_bk, e2, o61]
        refine ⟨f1, f2, f5 (n - 1) (by omega) (by omega), ?_, fun j b1 b2 => f5 j b1 (by omega)⟩
        rw [eq2, iv_tn (by omega)] at f4 ⊢
        exact f4.keep fun o b1 b2 => oo o (by omega) (by omega)
    · show Rtape C1 (upd (M 0) 4 (iv (n - 1 : Nat)) 23) (upd (M 0) 4 (iv (n - 1 : Nat)) 30) (upd (M 0) 4 (iv (n - 1 : Nat)) 32) (M 12)
      rw [upd_ne (by omega), upd_ne (by omega), upd_ne (by omega)]
      exact r4.keep (oo 98 (by omega) (by omega)) (oo 99 (by omega) (by omega))
  · rw [e5, Int32.lt_iff_toInt_lt, iv_toInt (by omega) (by omega), z0] at c
    have n0 : n = 0 := by omega
    have c0 : M 0 4 = 0 := by rw [en, n0]; rfl
    rw [if_pos c0, decide_eq_false (fun z => z c0)] at h
    exact h C hR
def imageB (M : zM) (t : Bool) : Bool := t || decide (M 0 5 ≠ 0)
def imageM (M : zM) (t : Bool) : zM :=
  if t = true then (fun o => if o = 2 then M 1 else if o = 0 then upd (M 0) 5 1 else M o)
  else if M 0 5 = 0 then M else (fun o => if o = 1 then M 2 else if o = 0 then upd (upd (M 0) 4 0) 5 1 else M o)
theorem c9_image {Q : Bool → zM → Prop} {t : Bool} (hb1 : ∀ j, 2200 ≤ j → M 1 j = 0) (hb2 : ∀ j, 2200 ≤ j → M 2 j = 0) (h : Q (imageB M t) (imageM M t)) : zCz shM g (d + 1) mX9_image [.ref 0, .int (zbI t)] M Q := by
  have lt : t = true → zW shM g (d + 1) mX9_image (zz Q) 15 [(0, .ref 0), (1, .int (zbI t)), (2, .int (iv (0 : Nat)))] [] M := by
    intro ht
    unfold imageB imageM at h
    rw [ht] at h
    rw [if_pos rfl] at h
    have loop : ∀ (f k : Nat) (M1 : zM), k + f = 2200 → (∀ o, o ≠ 2 → M1 o = M o) → (∀ j, M1 2 j = if j < k then M 1 j else M 2 j) → zW shM g (d + 1) mX9_image (zz Q) 15 [(0, .ref 0), (1, .int (zbI t)), (2, .int (iv k))] [] M1 := by
      intro f
      induction f with
      | zero =>
        intro k M1 hk ho h2
        have ek : k = 2200 := by omega
        subst ek
        refine vX9_image_15 ⟨fun _ => ⟨fun _ => ?_, fun z => (by rw [ht] at z; cases z)⟩, fun z => absurd (by decide) z⟩
        have e : zup M1 0 5 (zbI true) = fun o => if o = 2 then M 1 else if o = 0 then upd (M 0) 5 1 else M o := by
          funext o
          by_cases o2 : o = 2
          · rw [if_pos o2, o2, zup_oth (by decide)]
            funext j
            rw [h2 j]
            split
            · rfl
            · rw [hb1 j (by omega), hb2 j (by omega)]
          · rw [if_neg o2]
            by_cases o0 : o = 0
            · rw [if_pos o0, o0, zup_row, ho 0 (by decide)]
              rfl
            · rw [if_neg o0, zup_oth o0, ho o o2]
        rw [e]
        exact h
      | succ f ih =>
        intro k M1 hk ho h2
        refine vX9_image_15 ⟨fun z => ?_, fun _ => ⟨fun z => (by rw [ht] at z; cases z), fun _ => ⟨k, rfl, by omega, ?_⟩⟩⟩
        · exfalso
          rw [Int32.le_iff_toInt_le, iv_toInt (by omega) (by omega)] at z
          simp only [Int32.reduceToInt] at z
          omega
        · rw [iv_s]
          refine ih (k + 1) _ (by omega) (fun o a => (zup_oth a).trans (ho o a)) (fun j => ?_)
          rw [zup_row]
          by_cases e : j = k
          · rw [e, upd_at, if_pos (by omega), ho 1 (by decide)]
          · rw [upd_ne e, h2 j]
            by_cases e2 : j < k
            · rw [if_pos e2, if_pos (by omega)]
            · rw [if_neg e2, if_neg (by omega)]
    exact loop 2200 0 M (by omega) (fun _ _ => rfl) (fun j => by rw [if_neg (by omega)])
  refine vX9_image ⟨lt, fun ht => ⟨fun c => ?_, fun c => ?_⟩⟩
  · unfold imageB imageM at h
    rw [ht] at h
    rw [if_neg (by decide), if_neg c, decide_eq_true c] at h
    have loop : ∀ (f k : Nat) (M1 : zM), k + f = 2200 → (∀ o, o ≠ 1 → M1 o = M o) → (∀ j, M1 1 j = if j < k then M 2 j else M 1 j) → zW shM g (d + 1) mX9_image (zz Q) 15 [(0, .ref 0), (1, .int (zbI t)), (2, .int (iv k))] [] M1 := by
      intro f
      induction f with
      | zero =>
        intro k M1 hk ho h2
        have ek : k = 2200 := by omega
        subst ek
        refine vX9_image_15 ⟨fun _ => ⟨fun z => (by rw [ht] at z; cases z), fun _ => vX9_forgets ?_⟩, fun z => absurd (by decide) z⟩
        have e : zup (zup M1 0 4 0) 0 5 (zbI true) = fun o => if o = 1 then M 2 else if o = 0 then upd (upd (M 0) 4 0) 5 1 else M o := by
          funext o
          by_cases o2 : o = 1
          · rw [if_pos o2, o2, zup_oth (by decide), zup_oth (by decide)]
            funext j
            rw [h2 j]
            split
            · rfl
            · rw [hb1 j (by omega), hb2 j (by omega)]
          · rw [if_neg o2]
            by_cases o0 : o = 0
            · rw [if_pos o0, o0, zup_row, zup_row, ho 0 (by decide)]
              rfl
            · rw [if_neg o0, zup_oth o0, zup_oth o0, ho o o2]
        rw [e]
        exact h
      | succ f ih =>
        intro k M1 hk ho h2
        refine vX9_image_15 ⟨fun z => ?_, fun _ => ⟨fun _ => ⟨k, rfl, by omega, ?_⟩, fun z => (by rw [ht] at z; cases z)⟩⟩
        · exfalso
          rw [Int32.le_iff_toInt_le, iv_toInt (by omega) (by omega)] at z
          simp only [Int32.reduceToInt] at z
          omega
        · rw [iv_s]
          refine ih (k + 1) _ (by omega) (fun o a => (zup_oth a).trans (ho o a)) (fun j => ?_)
          rw [zup_row]
          by_cases e : j = k
          · rw [e, upd_at, if_pos (by omega), ho 2 (by decide)]
          · rw [upd_ne e, h2 j]
            by_cases e2 : j < k
            · rw [if_pos e2, if_pos (by omega)]
            · rw [if_neg e2, if_neg (by omega)]
    exact loop 2200 0 M (by omega) (fun _ _ => rfl) (fun j => by rw [if_neg (by omega)])
  · unfold imageB imageM at h
    rw [ht] at h
    rw [if_neg (by decide), if_pos c, decide_eq_false (fun z => z c)] at h
    exact h
theorem c8_image {Q : Bool → zM → Prop} {t : Bool} (hR : RR C M) (h : ∀ C' : zM, RR C' (imageM M t) → Q (imageB M t) C') : zCz shC g (d + 4) mX8_image [.ref 0, .int (zbI t)] C Q := by
  obtain ⟨r1, r2, r3, r4⟩ := id hR
  unfold imageM imageB at h
  refine vX8_image ⟨fun ht => ⟨fun c => ?_, fun c => ?_⟩, fun ht => ?_⟩
  · rw [ht] at h
    rcases r2.2 with ⟨a1, a2⟩ | ⟨a1, a2, a3⟩
    · exact absurd a2 c
    · have c1 : ¬ M 0 5 = 0 := by rw [a1]; decide
      rw [if_neg (by decide), if_neg c1, decide_eq_true c1] at h
      refine c7_copy_b a3 (fun C1 o1 w1 => c8_forget (h _ ⟨⟨?_, ?_⟩, ?_, ?_, ?_⟩))
      · show RWo (zup C1 0 5 0) 1 (M 2)
        exact w1.keep fun o a b c => zup_oth (by omega)
      · exact r2.1
      · show Rimg (zup C1 0 5 0) (upd (upd (M 0) 4 0) 5 1 5) (M 2)
        rw [upd_at]
        refine ⟨r2.1, Or.inr ⟨rfl, ?_, ?_⟩⟩
        · rw [zup_ne (by omega), o1 0 (by omega)]
          exact a2
        · exact a3.keep fun o a b c => by rw [zup_oth (by omega), o1 o (by omega)]
      · show Rpast (zup C1 0 5 0) (upd (upd (M 0) 4 0) 5 1 4) (M 3) (M 2)
        rw [upd_ne (by omega), upd_at]
        exact r3.none zup_same (by rw [zup_oth (by decide), o1 61 (by omega)])
      · show Rtape (zup C1 0 5 0) (upd (upd (M 0) 4 0) 5 1 23) (upd (upd (M 0) 4 0) 5 1 30) (upd (upd (M 0) 4 0) 5 1 32) (M 12)
        rw [upd_ne (by omega), upd_ne (by omega), upd_ne (by omega), upd_ne (by omega), upd_ne (by omega), upd_ne (by omega)]
        exact r4.keep (by rw [zup_oth (by decide), o1 98 (by omega)]) (by rw [zup_oth (by decide), o1 99 (by omega)])
  · rw [ht] at h
    rcases r2.2 with ⟨a1, a2⟩ | ⟨a1, a2, a3⟩
    · rw [if_neg (by decide), if_pos a1, decide_eq_false (fun z => z a1)] at h
      exact h C hR
    · rw [a2] at c
      exact absurd c (by decide)
  · rw [ht] at h
    rw [if_pos rfl] at h
    refine c7_copy_a r1.1 (fun C1 o1 w1 => h _ ⟨?_, ?_, ?_, ?_⟩)
    · show Rnow (zup C1 0 2 (zbI true)) (M 1)
      exact r1.keep fun o a b c => by rw [zup_oth (by omega), o1 o (by omega)]
    · show Rimg (zup C1 0 2 (zbI true)) (upd (M 0) 5 1 5) (M 1)
      rw [upd_at]
      exact ⟨r1.2, Or.inr ⟨rfl, zup_same, w1.keep fun o a b c => zup_oth (by omega)⟩⟩
    · show Rpast (zup C1 0 2 (zbI true)) (upd (M 0) 5 1 4) (M 3) (M 1)
      rw [upd_ne (by omega)]
      exact r3.keep (by rw [zup_ne (by omega), o1 0 (by omega)]) fun o a b => by rw [zup_oth (by omega), o1 o (by omega)]
    · show Rtape (zup C1 0 2 (zbI true)) (upd (M 0) 5 1 23) (upd (M 0) 5 1 30) (upd (M 0) 5 1 32) (M 12)
      rw [upd_ne (by omega), upd_ne (by omega), upd_ne (by omega)]
      exact r4.keep (by rw [zup_oth (by decide), o1 98 (by omega)]) (by rw [zup_oth (by decide), o1 99 (by omega)])
end UN8
