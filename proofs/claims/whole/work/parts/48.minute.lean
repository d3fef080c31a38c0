/-! A MINUTE, whole -/
def skW (real : Bool) (w : Nat → Int32) (s : Nat) : Nat → Int32 := if w (9 + s) = w (166 + s) then w else if fellB real w = true then deepW real (drewW real w) s (w (3 + s)).toInt.toNat 3 1 else stepW real (drewW real w) s
def skF (real : Bool) (w : Nat → Int32) (s : Nat) (l : Int32) : Int32 := if w (9 + s) = w (166 + s) then l else if fellB real w = true then l + 1 else l
def skR (real : Bool) : Nat → Nat → (Nat → Int32) → (Nat → Int32)
  | 0, _, w => w
  | n + 1, s, w => skR real n (s + 1) (skW real w s)
def fellN (real : Bool) : Nat → Nat → Int32 → (Nat → Int32) → Int32
  | 0, _, l, _ => l
  | n + 1, s, l, w => fellN real n (s + 1) (skF real w s l) (skW real w s)
def thaW (v : Nat → Int32) : Nat → Int32 := upd (thawN v 64) 0 (v 0 + 1)
def minW (real : Bool) (w : Nat → Int32) : Nat → Int32 := thaW (skR real (w 154).toInt.toNat 0 w)
def minN (real : Bool) (w : Nat → Int32) : Int32 := fellN real (w 154).toInt.toNat 0 0 w
theorem r39 : rng 3 0 9 := by
  unfold rng
  decide
theorem sk_keep {real : Bool} {w : Nat → Int32} {s : Nat} (hi : IS w) (hq : IMo w) (hs : s < 6) (hsk : (s : Int) < (w 154).toInt) : IMo (skW real w s) ∧ ∀ j, 150 ≤ j → j < 566 ∨ 1316 ≤ j → skW real w s j = w j := by
  have hd : ∀ j, 2 ≤ j → drewW real w j = w j := fun j hj => drewW_ne (by omega)
  have hqd : IMo (drewW real w) := IMo.low hd hq
  have hid : IS (drewW real w) := hi.row fun j hj => hd j (by omega)
  have hskd : (s : Int) < (drewW real w 154).toInt := by rw [hd 154 (by omega)]; exact hsk
  obtain ⟨k, hk, hk64, hkI, hkc⟩ := place_rng hq hs
  unfold skW
  split
  · exact ⟨hq, fun _ _ _ => rfl⟩
  · rename_i c
    have hg : (w (9 + s)).toInt < (w (166 + s)).toInt := by
      have := hq.2.2.1 s hs
      rw [eqI] at c
      omega
    split
    · have e : (w (3 + s)).toInt.toNat = k := by omega
      rw [e]
      refine ⟨IMo.deep hqd hid (by rw [hd 150 (by omega), hd 151 (by omega)]; exact hkc) hk64 hs hskd r39, fun j h1 h2 => ?_⟩
      rw [deepW_hi hk64 hqd.1 h1 h2, hd j (by omega)]
    · refine ⟨IMo.step hqd hid hs hskd (by rw [hd _ (by omega), hd _ (by omega)]; exact hg), fun j h1 h2 => ?_⟩
      rw [stepW_hi hqd hid hs h1 h2, hd j (by omega)]
theorem skR_keep {real : Bool} : ∀ (n s : Nat) (w : Nat → Int32), IS w → IMo w → s + n ≤ 6 → ((s + n : Nat) : Int) ≤ (w 154).toInt → IMo (skR real n s w) ∧ ∀ j, 150 ≤ j → j < 566 ∨ 1316 ≤ j → skR real n s w j = w j
  | 0, s, w, hi, hq, h6, hn => ⟨hq, fun _ _ _ => rfl⟩
  | n + 1, s, w, hi, hq, h6, hn => by
    obtain ⟨h1, h2⟩ := sk_keep (real := real) hi hq (show s < 6 by omega) (by omega)
    obtain ⟨h3, h4⟩ := skR_keep n (s + 1) (skW real w s) (hi.row2 h2) h1 (by omega) (by rw [h2 154 (by omega) (by omega)]; omega)
    exact ⟨h3, fun j a b => (h4 j a b).trans (h2 j a b)⟩
theorem thaW_ne {v : Nat → Int32} {j : Nat} (h : j ≠ 0) (h2 : j < 21 ∨ 85 ≤ j) : thaW v j = v j := by
  unfold thaW
  rw [upd_ne h, thawN_out (by omega)]
theorem IMo.thaWok {v : Nat → Int32} (h : IMo v) : IMo (thaW v) := IMo.low (fun j hj => upd_ne (by omega)) h.thaw
theorem minW_keep {real : Bool} {w : Nat → Int32} (hi : IS w) (hq : IMo w) : IMo (minW real w) ∧ ∀ j, 150 ≤ j → j < 566 ∨ 1316 ≤ j → minW real w j = w j := by
  obtain ⟨a, b⟩ := hi.2.2.2.1
  obtain ⟨h1, h2⟩ := skR_keep (real := real) (w 154).toInt.toNat 0 w hi hq (by omega) (by omega)
  exact ⟨h1.thaWok, fun j h3 h4 => (thaW_ne (by omega) (by omega)).trans (h2 j h3 h4)⟩
section MI9
variable {g : zG} {d : Nat} {Q : Int32 → zM → Prop} {real : Bool} {N : Nat}
theorem t4 (hN : N ≤ 6) : ∀ (n s : Nat) (l : Int32) (M : zM), s + n = N → IS (M 1) → IMo (M 1) → M 1 154 = iv N →
    (∀ M' : zM, (∀ o, o ≠ 1 → o ≠ 13 → o ≠ 14 → o ≠ 15 → M' o = M o) → M' 1 = thaW (skR real n s (M 1)) → Q (fellN real n s l (M 1)) M') →
    zW shM g (d + 7) mX9_aMinute (zi Q) 4 [(0, .ref 0), (1, .int (zbI real)), (2, .int l), (3, .int (iv s))] [] M
  | 0, s, l, M, hs, hi, hq, h154, h => by
    refine vX9_aMinute_4 ⟨fun _ => t85 hi rfl (fun M2 h2 hT => t122 hq (fun M3 h3 hr3 => ?_) hT 64 0 M2 (by omega) (fun _ _ => rfl) ?_) 64 0 M (by omega) (fun _ _ _ _ => rfl) (fun i hi => by omega), fun c => ?_⟩
    · exact h M3 (fun o o1 o2 o3 o4 => (h3 o o1).trans (h2 o o2 o3 o4)) hr3
    · rw [thawN_0]
      exact h2 1 (by decide) (by decide) (by decide)
    · exfalso
      rw [h154, Int32.le_iff_toInt_le, iv_toInt (by omega) (by omega), iv_toInt (by omega) (by omega)] at c
      omega
  | n + 1, s, l, M, hs, hi, hq, h154, h => by
    have h6 : s < 6 := by omega
    have hsk : (s : Int) < (M 1 154).toInt := by rw [h154, iv_toInt (by omega) (by omega)]; omega
    obtain ⟨k, hk, hk64, hkI, hkc⟩ := place_rng hq h6
    obtain ⟨s1, s2⟩ := sk_keep (real := real) hi hq h6 hsk
    have nx : ∀ (M2 : zM) (l2 : Int32), M2 1 = skW real (M 1) s → l2 = skF real (M 1) s l → (∀ o, o ≠ 1 → o ≠ 13 → o ≠ 14 → o ≠ 15 → M2 o = M o) → zW shM g (d + 7) mX9_aMinute (zi Q) 4 [(0, .ref 0), (1, .int (zbI real)), (2, .int l2), (3, .int (iv s + 1))] [] M2 := by
      intro M2 l2 e1 e2 ho
      rw [iv_s]
      refine t4 hN n (s + 1) l2 M2 (by omega) (by rw [e1]; exact hi.row2 s2) (by rw [e1]; exact s1) (by rw [e1, s2 154 (by omega) (by omega)]; exact h154) (fun M' ho' hr' => ?_)
      rw [e1] at hr'
      rw [e1, e2]
      exact h M' (fun o a b c e => (ho' o a b c e).trans (ho o a b c e)) hr'
    have hd : ∀ j, 2 ≤ j → drewW real (M 1) j = M 1 j := fun j hj => drewW_ne (by omega)
    refine vX9_aMinute_4 ⟨fun z => ?_, fun _ => ⟨9 + s, iv_n 9 s, by omega, 166 + s, iv_n 166 s, by omega, fun hne => c9_falls (fun M1 ho1 hr1 => ⟨fun hb => ?_, fun hb => ?_⟩), fun he => nx M l ?_ ?_ (fun _ _ _ _ _ => rfl)⟩⟩
    · exfalso
      rw [h154, Int32.le_iff_toInt_le, iv_toInt (by omega) (by omega), iv_toInt (by omega) (by omega)] at z
      omega
    · have hg : (M 1 (9 + s)).toInt < (M 1 (166 + s)).toInt := by
        have := hq.2.2.1 s h6
        rw [eqI] at hne
        omega
      refine c9_goesOn (by rw [hr1]; exact hi.row fun j hj => hd j (by omega)) (by rw [hr1]; exact IMo.low hd hq) h6 (by rw [hr1, hd _ (by omega), hd _ (by omega)]; exact hg) (fun M2 h2 hr2 => nx M2 l ?_ ?_ (fun o o1 o2 o3 _ => (h2 o o1 o2 o3).trans (ho1 o o1)))
      · rw [hr2, hr1, skW, if_neg hne, if_neg (by rw [hb]; decide)]
      · rw [skF, if_neg hne, if_neg (by rw [hb]; decide)]
    · refine ⟨3 + s, iv_n 3 s, by omega, ?_⟩
      have ek : M1 1 (3 + s) = iv k := by rw [hr1, hd _ (by omega)]; exact hk
      rw [ek]
      refine c9_deepens hk64 h6 (by rw [hr1, hd _ (by omega)]; exact hq.1) (fun M2 h2 hr2 => nx M2 (l + 1) ?_ ?_ (fun o o1 _ _ _ => (h2 o o1).trans (ho1 o o1)))
      · have e : (M 1 (3 + s)).toInt.toNat = k := by omega
        rw [hr2, hr1, skW, if_neg hne, if_pos hb, e]
      · rw [skF, if_neg hne, if_pos hb]
    · rw [skW, if_pos he]
    · rw [skF, if_pos he]
theorem c9_aMinute {M : zM} (hi : IS (M 1)) (hq : IMo (M 1)) (h : ∀ M' : zM, (∀ o, o ≠ 1 → o ≠ 13 → o ≠ 14 → o ≠ 15 → M' o = M o) → M' 1 = minW real (M 1) → Q (minN real (M 1)) M') : zCi shM g (d + 7) mX9_aMinute [.ref 0, .int (zbI real)] M Q := by
  obtain ⟨a, b⟩ := hi.2.2.2.1
  obtain ⟨N, e1, e2, e3⟩ := iv_nat (x := M 1 154) (n := 7) a (by omega)
  have e4 : (M 1 154).toInt.toNat = N := by omega
  unfold minW minN at h
  rw [e4] at h
  exact vX9_aMinute (t4 (N := N) (by omega) N 0 0 M (by omega) hi hq e1 h)
end MI9
section MI7
variable {g : zG} {d : Nat} {Q : Int32 → zM → Prop} {real : Bool} {N m : Nat}
theorem t5 (hm : zMo shC m) (hre : real = true → m = 3) (hN : N ≤ 6) : ∀ (n s : Nat) (l : Int32) (C : zM) (w : Nat → Int32), s + n = N → IS w → IMo w → RS C 1 w → RMo C m w → RBk C 9 w → w 154 = iv N →
    (∀ C' : zM, (∀ o, (o < m ∨ m + 5 < o) → o ≠ 9 → o ≠ 21 → o ≠ 26 → o ≠ 27 → C' o = C o) → RMo C' m (thaW (skR real n s w)) → RBk C' 9 (thaW (skR real n s w)) → Q (fellN real n s l w) C') →
    zW shC g (d + 5) mX7_pass (zi Q) 5 [(0, .ref 1), (1, .ref m), (2, .int (zbI real)), (3, .int l), (4, .int (iv s))] [] C
  | 0, s, l, C, w, hs, hi, hq, hS, hr, hb, h154, h => by
    have hmm := zMo_at hm
    refine vX7_pass_5 hm ⟨fun _ => c7_thaw hm hi hq hS hr (fun C1 h1 hr1 => ?_), fun c => ?_⟩
    · have e5 : C1 m 5 = w 0 := by
        rw [hr1.2.2.2.1, thawN_out (by omega)]
      rw [e5]
      refine h _ (fun o o1 o2 o3 o4 o5 => ?_) (hr1.setN (p := 5) (r := 0) (by omega)) ?_
      · rw [zup_oth (by omega)]
        exact h1 o (by omega) o3 o4 o5
      · refine RBk.row (w := w) (thaW_ne (by omega) (by omega)) (fun j hj => thaW_ne (by omega) (by omega)) ?_
        intro i hi
        rw [zup_oth (by omega), h1 9 (by omega) (by omega) (by omega) (by omega)]
        exact hb i hi
    · exfalso
      rw [hS.2.2.2.2.1, h154, Int32.le_iff_toInt_le, iv_toInt (by omega) (by omega), iv_toInt (by omega) (by omega)] at c
      omega
  | n + 1, s, l, C, w, hs, hi, hq, hS, hr, hb, h154, h => by
    have hmm := zMo_at hm
    have h6 : s < 6 := by omega
    have hsk : (s : Int) < (w 154).toInt := by rw [h154, iv_toInt (by omega) (by omega)]; omega
    obtain ⟨k, hk, hk64, hkI, hkc⟩ := place_rng hq h6
    obtain ⟨s1, s2⟩ := sk_keep (real := real) hi hq h6 hsk
    have nx : ∀ (C2 : zM) (l2 : Int32), RMo C2 m (skW real w s) → RBk C2 9 (skW real w s) → l2 = skF real w s l → (∀ o, (o < m ∨ m + 5 < o) → o ≠ 9 → o ≠ 21 → o ≠ 26 → o ≠ 27 → C2 o = C o) → zW shC g (d + 5) mX7_pass (zi Q) 5 [(0, .ref 1), (1, .ref m), (2, .int (zbI real)), (3, .int l2), (4, .int (iv s + 1))] [] C2 := by
      intro C2 l2 r2 b2 e2 ho
      rw [iv_s]
      have hS2 : RS C2 1 w := hS.keep fun o a b c => ho o (by omega) (by omega) (by omega) (by omega) (by omega)
      refine t5 hm hre hN n (s + 1) l2 C2 (skW real w s) (by omega) (hi.row2 s2) s1 (hS2.row2 hi s2) r2 b2 (by rw [s2 154 (by omega) (by omega)]; exact h154) (fun C' ho' hr' hb' => ?_)
      rw [e2]
      exact h C' (fun o a b c e f => (ho' o a b c e f).trans (ho o a b c e f)) hr' hb'
    have e4 : C (m + 4) s = w (9 + s) := (hr.2.2.1 s h6 hsk).2.1
    have e3 : C (m + 3) s = iv k := (hr.2.2.1 s h6 hsk).1.trans hk
    have e12 : C 12 s = w (166 + s) := hS.2.2.2.2.2.2.1.2.1 s h6
    have e13 : C 1 3 = w 153 := hS.2.2.2.1
    have hlt := hq.2.2.1 s h6
    have hd : ∀ j, 2 ≤ j → drewW real w j = w j := fun j hj => drewW_ne (by omega)
    have z0 : (0 : Int32).toInt = 0 := rfl
    refine vX7_pass_5 hm ⟨fun z => ?_, fun _ => ⟨s, rfl, h6, fun c => ?_, fun c => ?_⟩⟩
    · exfalso
      rw [hS.2.2.2.2.1, h154, Int32.le_iff_toInt_le, iv_toInt (by omega) (by omega), iv_toInt (by omega) (by omega)] at z
      omega
    · rw [e4, e12, Int32.lt_iff_toInt_lt] at c
      have hne : ¬ w (9 + s) = w (166 + s) := by
        rw [eqI]
        omega
      -- no draw
      have q0 : drewW real w = w → fellB real w = false → zCv shC g (d + 4) mX7_step [.ref 1, .ref m, .int (iv s), .int (zbI real)] C (fun M1 => zW shC g (d + 5) mX7_pass (zi Q) 5 [(0, .ref 1), (1, .ref m), (2, .int (zbI real)), (3, .int l), (4, .int (iv s + 1))] [] M1) := by
        intro a1 a2
        refine c7_step hm hi hq hS hr hb h6 hsk c (fun C2 h2 hr2 hb2 => nx C2 l ?_ ?_ ?_ (fun o o1 o2 o3 o4 _ => h2 o o1 o2 o3 o4))
        · rw [skW, if_neg hne, if_neg (by rw [a2]; decide), a1]; exact hr2
        · rw [skW, if_neg hne, if_neg (by rw [a2]; decide), a1]; exact hb2
        · rw [skF, if_neg hne, if_neg (by rw [a2]; decide)]
      refine ⟨fun er => q0 ?_ ?_, fun er => ⟨fun z => q0 ?_ ?_, fun z => ?_⟩⟩
      · unfold drewW
        rw [if_neg]
        rintro ⟨x, _⟩
        rw [er] at x
        cases x
      · unfold fellB
        refine decide_eq_false ?_
        rintro ⟨x, _⟩
        rw [er] at x
        cases x
      · rw [e13, Int32.le_iff_toInt_le, z0] at z
        unfold drewW
        rw [if_neg]
        rintro ⟨_, x⟩
        omega
      · rw [e13, Int32.le_iff_toInt_le, z0] at z
        unfold fellB
        refine decide_eq_false ?_
        rintro ⟨_, x, _⟩
        omega
      · rw [e13, Int32.le_iff_toInt_le, z0] at z
        have m3 := hre er
        subst m3
        have e6 : C 3 6 = w 1 := hr.2.2.2.2.1
        refine c2_draw ?_
        rw [e6]
        have hdw : drewW real w = upd w 1 (nextD (w 1)) := by
          unfold drewW
          rw [if_pos ⟨er, by omega⟩]
        have hr1 : RMo (zup C 3 6 (nextD (w 1))) 3 (drewW real w) := by
          rw [hdw]
          exact hr.setN (p := 6) (r := 1) (by omega)
        have hS1 : RS (zup C 3 6 (nextD (w 1))) 1 (drewW real w) := (hS.keep fun o a b c => zup_oth (by omega)).row fun j hj => hd j (by omega)
        have hb1 : RBk (zup C 3 6 (nextD (w 1))) 9 (drewW real w) := by
          refine RBk.row (w := w) (hd 2 (by omega)) (fun j hj => hd j (by omega)) ?_
          intro i hi
          rw [zup_oth (by omega)]
          exact hb i hi
        have ho1 : ∀ o, (o < 3 ∨ 3 + 5 < o) → zup C 3 6 (nextD (w 1)) o = C o := fun o ho => zup_oth (by omega)
        have e13' : (zup C 3 6 (nextD (w 1))) 1 3 = w 153 := by rw [zup_oth (by omega)]; exact e13
        have hid : IS (drewW real w) := hi.row fun j hj => hd j (by omega)
        have hqd : IMo (drewW real w) := IMo.low hd hq
        have hskd : (s : Int) < (drewW real w 154).toInt := by rw [hd 154 (by omega)]; exact hsk
        rw [e13', Int32.le_iff_toInt_le]
        refine ⟨fun z2 => ?_, fun z2 => ?_⟩
        · have hf : fellB real w = false := by
            unfold fellB
            refine decide_eq_false ?_
            rintro ⟨_, _, x⟩
            exact Int.not_lt.mpr z2 x
          refine c7_step hm hid hqd hS1 hr1 hb1 h6 hskd (by rw [hd _ (by omega), hd _ (by omega)]; exact c) (fun C2 h2 hr2 hb2 => nx C2 l ?_ ?_ ?_ (fun o o1 o2 o3 o4 _ => (h2 o o1 o2 o3 o4).trans (ho1 o o1)))
          · rw [skW, if_neg hne, if_neg (by rw [hf]; decide)]; exact hr2
          · rw [skW, if_neg hne, if_neg (by rw [hf]; decide)]; exact hb2
          · rw [skF, if_neg hne, if_neg (by rw [hf]; decide)]
        · have hf : fellB real w = true := by
            unfold fellB
            exact decide_eq_true ⟨er, Int.not_le.mp z, Int.not_le.mp z2⟩
          clear z2
          have ek : (w (3 + s)).toInt.toNat = k := by omega
          have e3' : (zup C 3 6 (nextD (w 1))) (3 + 3) s = iv k := by rw [zup_oth (by omega)]; exact e3
          refine c7_deepen hm hr1 hb1 hqd.1 h6 hk64 e3' (by rw [hd _ (by omega)]; exact hq.2.2.2.2.1 k hk64) r39 (fun C2 h2 hr2 hb2 => nx C2 (l + 1) ?_ ?_ ?_ (fun o o1 o2 _ _ _ => (h2 o (by omega) (by omega) (by omega) o2).trans (ho1 o o1)))
          · rw [skW, if_neg hne, if_pos hf, ek, er]; rw [er] at hr2; exact hr2
          · rw [skW, if_neg hne, if_pos hf, ek, er]; rw [er] at hb2; exact hb2
          · rw [skF, if_neg hne, if_pos hf]
    · rw [e4, e12, Int32.lt_iff_toInt_lt] at c
      have he : w (9 + s) = w (166 + s) := by
        rw [eqI]
        omega
      refine nx C l ?_ ?_ ?_ (fun _ _ _ _ _ _ => rfl)
      · rw [skW, if_pos he]; exact hr
      · rw [skW, if_pos he]; exact hb
      · rw [skF, if_pos he]
theorem c7_pass {C : zM} {w : Nat → Int32} (hm : zMo shC m) (hre : real = true → m = 3) (hi : IS w) (hq : IMo w) (hS : RS C 1 w) (hr : RMo C m w) (hb : RBk C 9 w)
    (h : ∀ C' : zM, (∀ o, (o < m ∨ m + 5 < o) → o ≠ 9 → o ≠ 21 → o ≠ 26 → o ≠ 27 → C' o = C o) → RMo C' m (minW real w) → RBk C' 9 (minW real w) → Q (minN real w) C') : zCi shC g (d + 5) mX7_pass [.ref 1, .ref m, .int (zbI real)] C Q := by
  obtain ⟨a, b⟩ := hi.2.2.2.1
  obtain ⟨N, e1, e2, e3⟩ := iv_nat (x := w 154) (n := 7) a (by omega)
  have e4 : (w 154).toInt.toNat = N := by omega
  unfold minW minN at h
  rw [e4] at h
  exact vX7_pass hm (t5 hm hre (N := N) (by omega) N 0 0 C w (by omega) hi hq hS hr hb e1 h)
end MI7
