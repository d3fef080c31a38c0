/-! skater and basin, of the class -/
section SK8
variable {g : zG} {d : Nat} {M C : zM}
theorem c8_skater {Q : Int32 → zM → Prop} {hand cell : Int32} (hR : RR C M) (h : ∀ C' : zM, RR C' (skaterM M hand cell) → Q (skaterV (M 1) hand cell) C') : zCi shC g (d + 1) mX8_skater [.ref 0, .int hand, .int cell] C Q := by
  have hi := hR.is
  have hq := hR.mo
  have hn2 := hq.1
  have hS := hR.rs
  have hr := hR.rm
  have hB := hR.rb
  have n06 := hi.2.2.2.1
  obtain ⟨n, en, hn, en2⟩ := rng_nat (b := 6) n06
  have z0 : (0 : Int32).toInt = 0 := rfl
  have z6 : (6 : Int32).toInt = 6 := rfl
  have z9 : (9 : Int32).toInt = 9 := rfl
  have no : ∀ (z : ¬ (0 ≤ hand.toInt ∧ hand.toInt ≤ 9 ∧ cellB (M 1 150) (M 1 151) cell = true ∧ (M 1 154).toInt < 6)), Q (-1) C := by
    intro z
    have e : skOK (M 1) hand cell = false := decide_eq_false z
    unfold skaterV skaterM at h
    rw [e, if_neg (by decide), if_neg (by decide)] at h
    exact h C hR
  have e14 : C 1 4 = M 1 154 := hS.2.2.2.2.1
  refine vX8_skater ⟨fun c => no fun z => ?_, fun c => ⟨fun c2 => no fun z => ?_, fun c2 => c7_isCell hS ⟨fun hc => no fun z => ?_, fun hc => ⟨fun h6 => c8_forget (vX7_join ?_), fun h6 => no fun z => ?_⟩⟩⟩⟩
  · rw [Int32.lt_iff_toInt_lt, z0] at c
    omega
  · rw [Int32.lt_iff_toInt_lt, z9] at c2
    omega
  · rw [hc] at z
    exact absurd z.2.2.1 (by decide)
  · rw [Int32.lt_iff_toInt_lt, z0] at c
    rw [Int32.lt_iff_toInt_lt, z9] at c2
    rw [e14, Int32.lt_iff_toInt_lt, z6] at h6
    have e : skOK (M 1) hand cell = true := decide_eq_true ⟨by omega, by omega, hc, h6⟩
    unfold skaterV skaterM at h
    rw [e, if_pos rfl, if_pos rfl, en, iv_tn (by omega)] at h
    have n6 : n < 6 := by omega
    have e14' : (zup C 0 5 0) 1 4 = iv n := by rw [zup_oth (by decide), e14, en]
    refine ⟨n, e14', n6, fun v1 hv => ?_⟩
    rw [zup_oth (by decide), zup_oth (by decide), zup_oth (by decide), zup_oth (by decide), e14', iv_s] at hv
    rw [e14', hv]
    -- the two sides
    have ha : ∀ j, j ≠ 160 + n → j ≠ 3 + n → j ≠ 166 + n → j ≠ 9 + n → j ≠ 15 + n → j ≠ 154 → (skM M hand cell n) 1 j = M 1 j := by
      intro j h1 h2 h3 h4 h5 h6
      show (zup (zup (zup (zup (zup (zup (zup M 1 (160 + n) hand) 1 (3 + n) cell) 1 (166 + n) 0) 1 (9 + n) 0) 1 (15 + n) 1) 1 154 (iv (n + 1 : Nat))) 0 4 0) 1 j = _
      rw [zup_oth (by decide), zup_row, zup_row, zup_row, zup_row, zup_row, zup_row, upd_ne h6, upd_ne h5, upd_ne h4, upd_ne h3, upd_ne h2, upd_ne h1]
    have hx : (skM M hand cell n) 1 (160 + n) = hand ∧ (skM M hand cell n) 1 (3 + n) = cell ∧ (skM M hand cell n) 1 (166 + n) = 0 ∧ (skM M hand cell n) 1 (9 + n) = 0 ∧ (skM M hand cell n) 1 (15 + n) = 1 ∧ (skM M hand cell n) 1 154 = iv (n + 1 : Nat) := by
      unfold skM
      rw [zup_oth (by decide), zup_row, zup_row, zup_row, zup_row, zup_row, zup_row]
      refine ⟨?_, ?_, ?_, ?_, ?_, ?_⟩
      · rw [upd_ne (by omega), upd_ne (by omega), upd_ne (by omega), upd_ne (by omega), upd_ne (by omega), upd_at]
      · rw [upd_ne (by omega), upd_ne (by omega), upd_ne (by omega), upd_ne (by omega), upd_at]
      · rw [upd_ne (by omega), upd_ne (by omega), upd_ne (by omega), upd_at]
      · rw [upd_ne (by omega), upd_ne (by omega), upd_at]
      · rw [upd_ne (by omega), upd_at]
      · rw [upd_at]
    have hM0 : (skM M hand cell n) 0 = upd (M 0) 4 0 := by
      unfold skM
      rw [zup_row, zup_oth (by decide), zup_oth (by decide), zup_oth (by decide), zup_oth (by decide), zup_oth (by decide), zup_oth (by decide)]
    have hMo : ∀ o, o ≠ 0 → o ≠ 1 → (skM M hand cell n) o = M o := by
      intro o a b
      unfold skM
      rw [zup_oth a, zup_oth b, zup_oth b, zup_oth b, zup_oth b, zup_oth b, zup_oth b]
    -- the class's new contents, its forgetting last
    have eC : zup (zup (zup (zup (zup (zup C 0 5 0) 2 n hand) 6 n cell) 7 n 0) 8 n 1) 1 4 (iv (n + 1 : Nat)) = zup (zup (zup (zup (zup (zup C 2 n hand) 6 n cell) 7 n 0) 8 n 1) 1 4 (iv (n + 1 : Nat))) 0 5 0 := by
      funext o j
      unfold zup
      by_cases o0 : o = 0
      · subst o0
        simp
      · simp [o0]
    rw [eC]
    generalize hw : (skM M hand cell n) 1 = w at ha hx
    obtain ⟨x1, x2, x3, x4, x5, x6⟩ := hx
    have t6 : (w 154).toInt = n + 1 := by rw [x6, iv_toInt (by omega) (by omega)]; omega
    have z1 : (1 : Int32).toInt = 1 := rfl
    have es : ∀ t i, skt w t i = skt (M 1) t i := fun t i => by unfold skt; rw [ha _ (by omega) (by omega) (by omega) (by omega) (by omega) (by omega)]
    have no166 : ∀ s : Nat, s < 6 → (n : Int) ≤ s → M 1 (166 + s) = 0 := fun s hs hq => hR.no s hs (by omega)
    have e166 : ∀ s : Nat, s < 6 → w (166 + s) = M 1 (166 + s) := fun s hs => by
      by_cases e : s = n
      · rw [e, x3, no166 n n6 (by omega)]
      · exact ha _ (by omega) (by omega) (by omega) (by omega) (by omega) (by omega)
    have hIS : IS w := by
      obtain ⟨⟨w1, w2, w3, w4⟩, h2, h3, h4, h5, h6', h7, h8, h9, h10, h11, h12, h13, h14⟩ := hi
      have hv : ∀ j, j = 150 ∨ j = 151 ∨ j = 152 ∨ j = 153 ∨ j = 155 ∨ j = 156 ∨ j = 157 ∨ j = 158 ∨ 172 ≤ j → w j = M 1 j := fun j hj => ha j (by omega) (by omega) (by omega) (by omega) (by omega) (by omega)
      refine ⟨⟨by rw [hv 150 (by omega)]; exact w1, by rw [hv 150 (by omega)]; exact w2, by rw [hv 151 (by omega)]; exact w3, by rw [hv 151 (by omega)]; exact w4⟩, by rw [hv _ (by omega)]; exact h2, by rw [hv _ (by omega)]; exact h3, ⟨by omega, by omega⟩, by rw [hv _ (by omega)]; exact h5, by rw [hv _ (by omega)]; exact h6', by rw [hv _ (by omega)]; exact h7, fun s hs => ?_, fun s hs => by rw [e166 s hs]; exact h9 s hs, fun s hs => by rw [hv _ (by omega)]; exact h10 s hs, fun s hs hq => by rw [e166 (s / 60) (by omega)] at hq; rw [hv _ (by omega)]; exact h11 s hs hq, fun s hs => by rw [hv _ (by omega)]; exact h12 s hs, fun i hi hq => ?_, h14.row3 fun j hj => hv j (by omega)⟩
      · by_cases e : s = n
        · rw [e, x1]
          unfold rng
          omega
        · rw [ha _ (by omega) (by omega) (by omega) (by omega) (by omega) (by omega)]; exact h8 s hs
      · rw [hv 158 (by omega)] at hq
        rw [hv 157 (by omega), hv 150 (by omega), hv 151 (by omega), hv (546 + 2 * i) (by omega), hv (547 + 2 * i) (by omega)]
        exact h13 i hi hq
    have hIM : IMo w := by
      obtain ⟨a1, a2, a3, a4, a5, a6, a7, a8⟩ := hq
      have hv : ∀ j, j = 2 ∨ (21 ≤ j ∧ j < 154) → w j = M 1 j := fun j hj => ha j (by omega) (by omega) (by omega) (by omega) (by omega) (by omega)
      refine ⟨by rw [hv 2 (by omega)]; exact a1, fun t ht => ?_, fun t ht => ?_, fun t ht => ?_, fun c hc => ?_, fun c hc hcc => ?_, fun c hc => ?_, fun t ht hq => ?_⟩
      · rw [hv 150 (by omega), hv 151 (by omega)]
        by_cases e : t = n
        · rw [e, x2]; exact hc
        · rw [ha (3 + t) (by omega) (by omega) (by omega) (by omega) (by omega) (by omega)]; exact a2 t ht
      · rw [e166 t ht]
        by_cases e : t = n
        · rw [e, x4, no166 n n6 (by omega), z0]; omega
        · rw [ha (9 + t) (by omega) (by omega) (by omega) (by omega) (by omega) (by omega)]; exact a3 t ht
      · by_cases e : t = n
        · rw [e, x5]
          unfold rng
          rw [z1]
          omega
        · rw [ha (15 + t) (by omega) (by omega) (by omega) (by omega) (by omega) (by omega)]; exact a4 t ht
      · rw [hv (21 + c) (by omega)]; exact a5 c hc
      · rw [hv 150 (by omega), hv 151 (by omega)] at hcc
        rw [hv (21 + c) (by omega)]; exact a6 c hc hcc
      · rw [hv (85 + c) (by omega)]
        have := a7 c hc
        omega
      · rw [e166 t ht] at hq
        by_cases e : t = n
        · rw [e, x4, no166 n n6 (by omega)] at hq
          exact absurd hq (by decide)
        · rw [ha (9 + t) (by omega) (by omega) (by omega) (by omega) (by omega) (by omega)] at hq
          rw [ha (15 + t) (by omega) (by omega) (by omega) (by omega) (by omega) (by omega), ha (9 + t) (by omega) (by omega) (by omega) (by omega) (by omega) (by omega), es]
          exact a8 t ht hq
    have hRS : RS (zup (zup (zup (zup (zup C 2 n hand) 6 n cell) 7 n 0) 8 n 1) 1 4 (iv (n + 1 : Nat))) 1 w := by
      have hv : ∀ j, j = 150 ∨ j = 151 ∨ j = 152 ∨ j = 153 ∨ j = 155 ∨ j = 156 ∨ j = 157 ∨ j = 158 ∨ 172 ≤ j → w j = M 1 j := fun j hj => ha j (by omega) (by omega) (by omega) (by omega) (by omega) (by omega)
      have zo : ∀ o, 9 ≤ o → (zup (zup (zup (zup (zup C 2 n hand) 6 n cell) 7 n 0) 8 n 1) 1 4 (iv (n + 1 : Nat))) o = C o := fun o ho => by
        rw [zup_oth (by omega), zup_oth (by omega), zup_oth (by omega), zup_oth (by omega), zup_oth (by omega)]
      have zo1 : ∀ j, j ≠ 4 → (zup (zup (zup (zup (zup C 2 n hand) 6 n cell) 7 n 0) 8 n 1) 1 4 (iv (n + 1 : Nat))) 1 j = C 1 j := fun j hj => by
        rw [zup_ne (by omega), zup_oth (by omega), zup_oth (by omega), zup_oth (by omega), zup_oth (by omega)]
      obtain ⟨a0, a1, a2, a3, a4, a5, ⟨b1, b2, b3, b4⟩, ⟨c1, c2, c3⟩, e1, e2, e3, e4⟩ := hS
      refine ⟨?_, ?_, ?_, ?_, ?_, fun s hs hq => ?_, ⟨?_, fun s hs => ?_, fun s i hs hq => ?_, fun s hs hq => ?_⟩, ⟨?_, ⟨fun z i hi => ?_, fun z => ?_⟩, fun i hi => ?_⟩, ?_, ?_, fun i hi hq => ?_, fun i hi hq => ?_⟩
      · rw [zo1 _ (by omega), hv _ (by omega)]; exact a0
      · rw [zo1 _ (by omega), hv _ (by omega)]; exact a1
      · rw [zo1 _ (by omega), hv _ (by omega)]; exact a2
      · rw [zo1 _ (by omega), hv _ (by omega)]; exact a3
      · rw [zup_same, x6]
      · rw [zup_oth (by omega), zup_oth (by omega), zup_oth (by omega), zup_oth (by omega)]
        by_cases e : s = n
        · rw [e, zup_same, x1]
        · rw [zup_ne (by omega), ha _ (by omega) (by omega) (by omega) (by omega) (by omega) (by omega)]
          exact a5 s hs (by omega)
      · rw [zo _ (by omega), hv _ (by omega)]; exact b1
      · rw [zo _ (by omega), e166 s hs]; exact b2 s hs
      · rw [e166 s hs] at hq
        rw [zo _ (by omega), hv _ (by omega), es]; exact b3 s i hs hq
      · rw [e166 s hs] at hq
        rw [zo _ (by omega), hv (172 + s) (by omega), e166 s hs, es]; exact b4 s hs hq
      · rw [zo _ (by omega), hv _ (by omega)]; exact c1
      · rw [zo _ (by omega)] at z
        rw [hv _ (by omega)] at hi ⊢
        exact c2.mp z i hi
      · rw [zo _ (by omega)]
        refine c2.mpr fun i hi => ?_
        have := z i (by rw [hv _ (by omega)]; exact hi)
        rw [hv _ (by omega)] at this
        exact this
      · rw [hv _ (by omega)] at hi
        rw [zo (1 + 16) (by omega), zo (1 + 17) (by omega), zo (1 + 18) (by omega), zo (1 + 19) (by omega), zo (1 + 15) (by omega), hv (1364 + i) (by omega), hv (1316 + i) (by omega), hv (1332 + i) (by omega), hv (1348 + i) (by omega)]
        obtain ⟨q1, q2, q3, q4, q5⟩ := c3 i hi
        refine ⟨q1, q2, q3, q4, fun j a b => ?_⟩
        rw [hv (1380 + 2 * j) (by omega), hv (1381 + 2 * j) (by omega)]
        exact q5 j a b
      · rw [zo _ (by omega), hv _ (by omega)]; exact e1
      · rw [zo _ (by omega), hv _ (by omega)]; exact e2
      · rw [hv _ (by omega)] at hq
        rw [zo _ (by omega), hv _ (by omega)]; exact e3 i hi hq
      · rw [hv _ (by omega)] at hq
        rw [zo (1 + 23) (by omega), zo (1 + 24) (by omega), hv (546 + 2 * i) (by omega), hv (547 + 2 * i) (by omega)]; exact e4 i hi hq
    have hRM : RMo (zup (zup (zup (zup (zup C 2 n hand) 6 n cell) 7 n 0) 8 n 1) 1 4 (iv (n + 1 : Nat))) (1 + 2) w := by
      obtain ⟨r1, r2, r3, r4, r5, r6⟩ := hr
      have z3 : ∀ o, o = 3 ∨ o = 4 ∨ o = 5 → (zup (zup (zup (zup (zup C 2 n hand) 6 n cell) 7 n 0) 8 n 1) 1 4 (iv (n + 1 : Nat))) o = C o := fun o ho => by
        rw [zup_oth (by omega), zup_oth (by omega), zup_oth (by omega), zup_oth (by omega), zup_oth (by omega)]
      have hv : ∀ j, j < 3 ∨ (21 ≤ j ∧ j < 154) → w j = M 1 j := fun j hj => ha j (by omega) (by omega) (by omega) (by omega) (by omega) (by omega)
      refine ⟨fun k hk => ?_, fun k hk => ?_, fun s hs hq => ?_, ?_, ?_, ?_⟩
      · rw [z3 (1 + 2 + 1) (by omega), hv _ (by omega)]; exact r1 k hk
      · rw [z3 (1 + 2 + 2) (by omega), hv _ (by omega)]; exact r2 k hk
      · have g6 : (zup (zup (zup (zup (zup C 2 n hand) 6 n cell) 7 n 0) 8 n 1) 1 4 (iv (n + 1 : Nat))) 6 s = if s = n then cell else C 6 s := by simp [zup]
        have g7 : (zup (zup (zup (zup (zup C 2 n hand) 6 n cell) 7 n 0) 8 n 1) 1 4 (iv (n + 1 : Nat))) 7 s = if s = n then 0 else C 7 s := by simp [zup]
        have g8 : (zup (zup (zup (zup (zup C 2 n hand) 6 n cell) 7 n 0) 8 n 1) 1 4 (iv (n + 1 : Nat))) 8 s = if s = n then 1 else C 8 s := by simp [zup]
        refine ⟨g6.trans ?_, g7.trans ?_, g8.trans ?_⟩
        · by_cases e : s = n
          · rw [if_pos e, e, x2]
          · rw [if_neg e, ha (3 + s) (by omega) (by omega) (by omega) (by omega) (by omega) (by omega)]
            exact (r3 s hs (by omega)).1
        · by_cases e : s = n
          · rw [if_pos e, e, x4]
          · rw [if_neg e, ha (9 + s) (by omega) (by omega) (by omega) (by omega) (by omega) (by omega)]
            exact (r3 s hs (by omega)).2.1
        · by_cases e : s = n
          · rw [if_pos e, e, x5]
          · rw [if_neg e, ha (15 + s) (by omega) (by omega) (by omega) (by omega) (by omega) (by omega)]
            exact (r3 s hs (by omega)).2.2
      · rw [z3 (1 + 2) (by omega), hv _ (by omega)]; exact r4
      · rw [z3 (1 + 2) (by omega), hv _ (by omega)]; exact r5
      · rw [z3 (1 + 2) (by omega), hv _ (by omega)]; exact r6
    refine h _ (hR.chg (w := w) ⟨hIS, hIM, ?_, ?_, hRS, hRM, ?_⟩ (fun j hj => ?_) (fun o ho => ?_) hw hM0 hMo)
    · exact hR.bk.row (ha 0 (by omega) (by omega) (by omega) (by omega) (by omega) (by omega)) (ha 2 (by omega) (by omega) (by omega) (by omega) (by omega) (by omega)) (fun j a _ => ha j (by omega) (by omega) (by omega) (by omega) (by omega) (by omega)) hn2.2
    · intro s hs hq
      rw [e166 s hs]
      exact no166 s hs (by omega)
    · exact (hB.keep (by rw [zup_oth (by omega), zup_oth (by omega), zup_oth (by omega), zup_oth (by omega), zup_oth (by omega)])).row2 (ha 2 (by omega) (by omega) (by omega) (by omega) (by omega) (by omega)) (fun j a _ => ha j (by omega) (by omega) (by omega) (by omega) (by omega) (by omega)) hn2.2
    · rw [ha j (by omega) (by omega) (by omega) (by omega) (by omega) (by omega)]
      exact hR.1.2 j hj
    · rw [zup_oth (by omega), zup_oth (by omega), zup_oth (by omega), zup_oth (by omega), zup_oth (by omega)]
  · rw [e14, Int32.lt_iff_toInt_lt, z6] at h6
    exact h6 z.2.2.2
/-- a fresh row -/
theorem fresh_is {a b st : Int32} (ha : rng a 3 8) (hb : rng b 3 7) : IS (freshW a b st) := by
  obtain ⟨a1, a2⟩ := ha
  obtain ⟨b1, b2⟩ := hb
  have e0 : ∀ j, 153 ≤ j → freshW a b st j = 0 := fun j hj => freshW_hi hj
  have e150 : freshW a b st 150 = a := rfl
  have e151 : freshW a b st 151 = b := rfl
  have e152 : freshW a b st 152 = 1 := rfl
  refine ⟨⟨by rw [e150]; exact a1, by rw [e150]; exact a2, by rw [e151]; exact b1, by rw [e151]; exact b2⟩, by rw [e152]; unfold rng; decide, ?_, ?_, ?_, ?_, ?_, fun s hs => ?_, fun s hs => ?_, fun s hs => ?_, fun s hs _ => ?_, fun s hs => ?_, fun i hi hq => ?_, ?_, ?_, fun i hi => ?_⟩
  · rw [e0 _ (by omega)]; exact rng0 (by omega) (by omega)
  · rw [e0 _ (by omega)]; exact rng0 (by omega) (by omega)
  · rw [e0 _ (by omega)]; exact rng0 (by omega) (by omega)
  · rw [e0 _ (by omega)]; exact rng0 (by omega) (by omega)
  · rw [e0 _ (by omega)]; exact rng0 (by omega) (by omega)
  · rw [e0 _ (by omega)]; exact rng0 (by omega) (by omega)
  · rw [e0 _ (by omega)]; exact rng0 (by omega) (by omega)
  · rw [e0 _ (by omega)]; exact rng0 (by omega) (by omega)
  · rw [e0 _ (by omega)]; exact rng0 (by omega) (by omega)
  · rw [e0 _ (by omega)]; exact rng0 (by omega) (by omega)
  · exfalso
    rw [e0 _ (by omega)] at hq
    have z0 : (0 : Int32).toInt = 0 := rfl
    omega
  · rw [e0 _ (by omega)]; decide
  · rw [e0 _ (by omega)]; decide
  · exfalso
    rw [e0 _ (by omega)] at hi
    have z0 : (0 : Int32).toInt = 0 := rfl
    omega
theorem fresh_mo {a b st : Int32} (ha : rng a 3 8) (hb : rng b 3 7) : IMo (freshW a b st) := by
  obtain ⟨a1, a2⟩ := ha
  obtain ⟨b1, b2⟩ := hb
  have e0 : ∀ j, j ≠ 1 → j < 85 → freshW a b st j = 0 := fun j hj h2 => freshW_lo hj (Or.inl h2)
  have e1 : ∀ j, 153 ≤ j → freshW a b st j = 0 := fun j hj => freshW_hi hj
  have z0 : (0 : Int32).toInt = 0 := rfl
  have e150 : freshW a b st 150 = a := rfl
  have e151 : freshW a b st 151 = b := rfl
  have e85 : ∀ c, c < 64 → freshW a b st (85 + c) = -1 := fun c hc => by
    unfold freshW
    rw [if_neg (by omega), if_neg (by omega), if_neg (by omega), if_neg (by omega), if_pos (by omega)]
  refine ⟨?_, fun t ht => ?_, fun t ht => ?_, fun t ht => ?_, fun c hc => ?_, fun c hc _ => ?_, fun c hc => ?_, fun t ht hq => ?_⟩
  · rw [e0 _ (by omega) (by omega)]; exact rng0 (by omega) (by omega)
  · rw [e0 (3 + t) (by omega) (by omega), e150, e151]
    simp only [cellB, decide_eq_true_eq, decide_eq_false_iff_not]
    omega
  · rw [e0 (9 + t) (by omega) (by omega), e1 (166 + t) (by omega), z0]
    omega
  · rw [e0 _ (by omega) (by omega)]; exact rng0 (by omega) (by omega)
  · rw [e0 _ (by omega) (by omega)]; exact rng0 (by omega) (by omega)
  · exact e0 _ (by omega) (by omega)
  · rw [e85 c hc, e1 154 (by omega), z0]
    decide
  · rw [e0 (9 + t) (by omega) (by omega), e1 (166 + t) (by omega)] at hq
    omega
theorem fresh_wo {C : zM} {a b st : Int32} (ha : rng a 3 8) (hb : rng b 3 7) (h1 : C 1 0 = a ∧ C 1 1 = b ∧ C 1 2 = 1 ∧ C 1 3 = 0 ∧ C 1 4 = 0) (h3 : C 3 5 = 0 ∧ C 3 6 = st ∧ C 3 7 = 0) (h4 : ∀ k, k < 64 → C 4 k = 0) (h5 : ∀ k, k < 64 → C 5 k = -1) (h10 : C 10 4 = 0) (h12 : ∀ s, s < 6 → C 12 s = 0) (h15 : C 15 6 = 0 ∧ C 15 7 = 0) (h22 : C 22 1 = 0 ∧ C 22 4 = 0) : RWo C 1 (freshW a b st) := by
  have e0 : ∀ j, j ≠ 1 → j < 85 → freshW a b st j = 0 := fun j hj h2 => freshW_lo hj (Or.inl h2)
  have e1 : ∀ j, 153 ≤ j → freshW a b st j = 0 := fun j hj => freshW_hi hj
  have z0 : (0 : Int32).toInt = 0 := rfl
  have e85 : ∀ c, c < 64 → freshW a b st (85 + c) = -1 := fun c hc => by
    unfold freshW
    rw [if_neg (by omega), if_neg (by omega), if_neg (by omega), if_neg (by omega), if_pos (by omega)]
  have no : ∀ {j : Nat} {i : Nat}, 153 ≤ j → ¬ ((i : Int) < (freshW a b st j).toInt) := fun {j i} hj z => by
    rw [e1 j hj, z0] at z
    omega
  obtain ⟨b0, b1, b2, b3, b4⟩ := h1
  refine ⟨fresh_is ha hb, fresh_mo ha hb, ⟨?_, fun i hi => ?_⟩, fun s hs _ => e1 _ (by omega), ?_, ?_, fun i hi => ?_⟩
  · rw [e0 0 (by omega) (by omega)]; exact rng0 (by omega) (by omega)
  · rw [e0 2 (by omega) (by omega)] at hi
    omega
  · refine ⟨b0, b1, b2, b3.trans (e1 153 (by omega)).symm, b4.trans (e1 154 (by omega)).symm, fun s hs hq => absurd hq (no (by omega)), ⟨h10.trans (e1 155 (by omega)).symm, fun s hs => (h12 s hs).trans (e1 (166 + s) (by omega)).symm, fun s i hs hq => absurd hq (no (by omega)), fun s hs hq => ?_⟩, ⟨h15.1.trans (e1 156 (by omega)).symm, ⟨fun _ i hi => absurd hi (no (by omega)), fun _ => h15.2⟩, fun i hi => absurd hi (no (by omega))⟩, h22.1.trans (e1 157 (by omega)).symm, h22.2.trans (e1 158 (by omega)).symm, fun i hi hq => absurd hq (no (by omega)), fun i hi hq => absurd hq (no (by omega))⟩
    exfalso
    rw [e1 _ (by omega)] at hq
    omega
  · refine ⟨fun k hk => (h4 k hk).trans (e0 (21 + k) (by omega) (by omega)).symm, fun k hk => (h5 k hk).trans (e85 k hk).symm, fun s hs hq => absurd hq (no (by omega)), h3.1.trans (e0 0 (by omega) (by omega)).symm, h3.2.1, h3.2.2.trans (e0 2 (by omega) (by omega)).symm⟩
  · rw [e0 2 (by omega) (by omega)] at hi
    omega
/-- the class's world begins anew -/
theorem c7_restart {Q : zM → Prop} {a b : Int32} (h : ∀ C' : zM, (∀ o, 26 ≤ o ∨ o = 0 → C' o = C o) → (C' 1 0 = a ∧ C' 1 1 = b ∧ C' 1 2 = 1 ∧ C' 1 3 = 0 ∧ C' 1 4 = 0) → (C' 3 5 = 0 ∧ C' 3 6 = C 3 6 ∧ C' 3 7 = 0) → (∀ k, k < 64 → C' 4 k = 0) → (∀ k, k < 64 → C' 5 k = -1) → C' 10 4 = 0 → (∀ s, s < 6 → C' 12 s = 0) → (C' 15 6 = 0 ∧ C' 15 7 = 0) → (C' 22 1 = 0 ∧ C' 22 4 = 0) → Q C') : zCv shC g (d + 3) mX7_restart [.ref 1, .int a, .int b] C Q := by
  have f4 : shC[4]? = some (0, 64, []) := rfl
  have f5 : shC[5]? = some (0, 64, []) := rfl
  have f12 : shC[12]? = some (0, 6, []) := rfl
  have f13 : shC[13]? = some (0, 6, []) := rfl
  have f14 : shC[14]? = some (0, 6, []) := rfl
  refine vX7_restart (vX2_clear (c_fill f4 (by decide) (c_fill f5 (by decide) (vX6_clear_a (c_fill f12 (by decide) (c_fill f13 (by decide) (c_fill f14 (by decide) (vX1_clear_a (vX3_clear_a ?_)))))))))
  refine h _ (fun o ho => ?_) ?_ ?_ (fun k hk => ?_) (fun k hk => ?_) ?_ (fun s hs => ?_) ?_ ?_
  · funext j
    have n1 : o ≠ 1 ∧ o ≠ 3 ∧ o ≠ 4 ∧ o ≠ 5 ∧ o ≠ 10 ∧ o ≠ 12 ∧ o ≠ 13 ∧ o ≠ 14 ∧ o ≠ 15 ∧ o ≠ 22 := by omega
    simp [zup, zfill, n1]
  · simp [zup, zfill]
  · simp [zup, zfill]
  · simp [zup, zfill, hk]
  · simp [zup, zfill, hk]
  · simp [zup, zfill]
  · simp [zup, zfill, hs]
  · simp [zup, zfill]
  · simp [zup, zfill]
theorem c8_basin {Q : Bool → zM → Prop} {a b : Int32} (hR : RR C M) (h : ∀ C' : zM, RR C' (basinM M a b) → Q (basinB a b) C') : zCz shC g (d + 4) mX8_basin [.ref 0, .int a, .int b] C Q := by
  have z3 : (3 : Int32).toInt = 3 := rfl
  have z8 : (8 : Int32).toInt = 8 := rfl
  have z7 : (7 : Int32).toInt = 7 := rfl
  have no : ¬ (3 ≤ a.toInt ∧ a.toInt ≤ 8 ∧ 3 ≤ b.toInt ∧ b.toInt ≤ 7) → Q false C := by
    intro z
    have e : basinB a b = false := decide_eq_false z
    unfold basinM at h
    rw [e, if_neg (by decide)] at h
    exact h C hR
  refine vX8_basin ⟨fun c => no fun z => ?_, fun c1 => ⟨fun c => no fun z => ?_, fun c2 => ⟨fun c => no fun z => ?_, fun c3 => ⟨fun c4 => ?_, fun c => no fun z => ?_⟩⟩⟩⟩
  · rw [Int32.lt_iff_toInt_lt, z3] at c
    omega
  · rw [Int32.lt_iff_toInt_lt, z8] at c
    omega
  · rw [Int32.lt_iff_toInt_lt, z3] at c
    omega
  · rw [Int32.lt_iff_toInt_lt, z3] at c1 c3
    rw [Int32.lt_iff_toInt_lt, z8] at c2
    rw [Int32.le_iff_toInt_le, z7] at c4
    have e : basinB a b = true := decide_eq_true ⟨by omega, by omega, by omega, by omega⟩
    unfold basinM at h
    rw [e, if_pos rfl] at h
    have e6 : C 3 6 = M 1 1 := hR.rm.2.2.2.2.1
    refine c7_restart (fun C' ho h1 h3 h4 h5 h10 h12 h15 h22 => c8_forget (h _ (hR.chg (w := freshW a b (M 1 1)) (fresh_wo ⟨by omega, by omega⟩ ⟨by omega, by omega⟩ h1 ⟨h3.1, h3.2.1.trans e6, h3.2.2⟩ h4 h5 h10 h12 h15 h22) (fun j hj => freshW_hi (by omega)) ho rfl rfl (fun o a b => ?_))))
    show (if o = 1 then _ else if o = 0 then _ else M o) = M o
    rw [if_neg b, if_neg a]
  · rw [Int32.le_iff_toInt_le, z7] at c
    omega
end SK8
