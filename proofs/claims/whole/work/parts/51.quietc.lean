/-! QUIET methods of the class -/
section Q8
variable {g : zG} {d : Nat} {C : zM} {w : Nat → Int32} {Q : Int32 → zM → Prop}
theorem mark_at {b : Nat} (hi : IS w) (hs : RS C b w) {s i : Nat} (h6 : s < 6) (hg : (i : Int) < (w (166 + s)).toInt) {wy pr : Nat} (e1 : (w (178 + 60 * s + i)).toInt / 2 = wy) (e2 : (w (178 + 60 * s + i)).toInt % 2 = pr) (hw5 : wy < 5) (hp2 : pr < 2) :
    (C (b + 10) (60 * s + i)) - (C (b + 10) (60 * s + i)) / 8 * 8 = iv wy ∧ iv (mkd ((C (b + 10) (60 * s + i)) / 8).toInt (skt w s i)) = iv pr := by
  obtain ⟨a0, a1, a2, a3⟩ := hs.2.2.2.2.2.2.1.2.2.1 s i h6 hg
  refine ⟨?_, ?_⟩
  · rw [eqI, ti_rem a0 (by decide), iv_toInt (by omega) (by omega)]
    simp only [Int32.reduceToInt]
    omega
  · rw [ti_div a0 (by decide)]
    simp only [Int32.reduceToInt]
    rw [← a3, e2]
theorem c7_isOther {Q : Bool → zM → Prop} {k : Nat} {s : Int32} {x : Int32} (hx : x = w (85 + k)) (h : Q (othB w k s) C) : zCz shC g d mX7_isOther [.int x, .int s] C Q := by
  rw [hx]
  exact vX7_isOther ⟨fun c => dF h fun z => z.1 c, fun c => ⟨fun c2 => dF h fun z => z.2 c2, fun c2 => dT h ⟨c, c2⟩⟩⟩
theorem c7_cros_loop (hi : IS w) (hq : IMo w) (hS : RS C 1 w) (hr : RMo C 3 w) {s t : Nat} (hs : s < 6) (ht : (w (166 + s)).toInt = t) (h60 : t ≤ 60) : ∀ (f i k : Nat) (n l3 : Int32), i + f = t → k < 64 → cellB (w 150) (w 151) (iv k) = true → (i < t → l3.toInt = skt w s i) → Q (crosR w s f i k n) C →
    zW shC g (d + 2) mX7_crossings (zi Q) 34 [(0, .ref 1), (1, .int (iv s)), (2, .int (iv k)), (3, .int l3), (4, .int n), (5, .int (iv i))] [] C
  | 0, i, k, n, l3, hf, hk, hc, hd, h => by
    have e12 : C 12 s = w (166 + s) := hS.2.2.2.2.2.2.1.2.1 s hs
    refine vX7_crossings_34 ⟨s, rfl, hs, fun _ => h, fun c => ?_⟩
    exfalso
    rw [e12, Int32.le_iff_toInt_le, ht, iv_toInt (by omega) (by omega)] at c
    omega
  | f + 1, i, k, n, l3, hf, hk, hc, hd, h => by
    have e12 : C 12 s = w (166 + s) := hS.2.2.2.2.2.2.1.2.1 s hs
    obtain ⟨wy, pr, hwy, hpr, e1, e2, e3, e4⟩ := step_at hi hs (show i < 60 by omega) (by omega)
    obtain ⟨m1, m2⟩ := mark_at hi hS hs (show (i : Int) < (w (166 + s)).toInt by omega) e1 e2 hwy hpr
    have e60 : iv s * 60 + iv i = iv (60 * s + i : Nat) := by
      rw [show (60 : Int32) = iv 60 from rfl, iv_mul, iv_add]
      congr 1
      push_cast
      omega
    have hg := goV_cell hi.1 hc hk (i := wy)
    have e5 : ((wy : Int)).toNat = wy := by omega
    have esk : (i + 1 < t → (iv pr).toInt = skt w s (i + 1)) := by
      intro _
      rw [iv_toInt (by omega) (by omega)]
      unfold skt
      rw [if_neg (by omega), show i + 1 - 1 = i by omega, e2]
    refine vX7_crossings_34 ⟨s, rfl, hs, fun c => ?_, fun _ => vX6_wayOf ⟨60 * s + i, e60, by omega, vX6_downAt ⟨60 * s + i, e60, by omega, c6_marked ?_⟩⟩⟩
    · exfalso
      rw [e12, Int32.le_iff_toInt_le, ht, iv_toInt (by omega) (by omega)] at c
      omega
    · have m1' : C 11 (60 * s + i) - C 11 (60 * s + i) / 8 * 8 = iv wy := m1
      have m2' : iv (mkd ((C 11 (60 * s + i)) / 8).toInt (skt w s i)) = iv pr := m2
      rw [m1', hd (by omega), m2']
      refine c7_cellBehind hi hS hk hwy ⟨fun c => ?_, fun c => ⟨fun c1 => ?_, fun c1 => ?_⟩⟩
      · rw [show (4 : Int32) = iv 4 from rfl, iv_inj (by omega) (by omega)] at c
        have c4 : wy = 4 := by omega
        rw [crosR, e1, if_pos c] at h
        rw [if_pos c4, iv_s]
        exact c7_cros_loop hi hq hS hr hs ht h60 f (i + 1) k n _ (by omega) hk hc esk h
      · have c4 : wy ≠ 4 := fun z => c (by rw [z]; rfl)
        have p1 : ¬ (pr : Int) = 1 := fun z => c1 (by rw [z]; rfl)
        rw [crosR, e1, if_neg (by omega), e5, e2, if_neg (fun z => p1 z.1)] at h
        rw [if_neg c4, iv_s]
        exact c7_cros_loop hi hq hS hr hs ht h60 f (i + 1) _ n _ (by omega) hg.1 hg.2 esk h
      · have c4 : wy ≠ 4 := fun z => c (by rw [z]; rfl)
        rw [show (1 : Int32) = iv 1 from rfl, iv_inj (by omega) (by omega)] at c1
        rw [crosR, e1, if_neg (by omega), e5, e2] at h
        rw [if_neg c4]
        refine ⟨goV w k wy, rfl, hg.1, c7_isOther (k := goV w k wy) (hr.2.1 _ hg.1) ⟨fun hb => ?_, fun hb => ?_⟩⟩
        · rw [if_neg (fun z => by rw [hb] at z; exact absurd z.2 (by decide))] at h
          rw [iv_s]
          exact c7_cros_loop hi hq hS hr hs ht h60 f (i + 1) _ n _ (by omega) hg.1 hg.2 esk h
        · rw [if_pos ⟨c1, hb⟩] at h
          rw [iv_s]
          exact c7_cros_loop hi hq hS hr hs ht h60 f (i + 1) _ (n + 1) _ (by omega) hg.1 hg.2 esk h
theorem c7_crossings {s : Nat} (hi : IS w) (hq : IMo w) (hS : RS C 1 w) (hr : RMo C 3 w) (hs : s < 6) (hsk : (s : Int) < (w 154).toInt) (h : Q (crosV w s) C) : zCi shC g (d + 2) mX7_crossings [.ref 1, .int (iv s)] C Q := by
  obtain ⟨k, hk, hk64, hkI, hkc⟩ := place_rng hq hs
  obtain ⟨g0, gle⟩ := hq.2.2.1 s hs
  obtain ⟨q0, q60⟩ := hi.2.2.2.2.2.2.2.2.1 s hs
  obtain ⟨n, hn, hn2, hn3⟩ := iv_nat (x := w (9 + s)) (n := 61) g0 (by omega)
  obtain ⟨t, ht, ht2, ht3⟩ := iv_nat (x := w (166 + s)) (n := 61) q0 (by omega)
  obtain ⟨p1, p2, p3⟩ := hr.2.2.1 s hs hsk
  have p1' : C 6 s = iv k := p1.trans hk
  have p2' : C 7 s = iv n := p2.trans hn
  have p3' : C 8 s = w (15 + s) := p3
  have hd := hq.2.2.2.2.2.2.2 s hs
  unfold crosV at h
  rw [ht3, hn3, hkI] at h
  refine vX7_crossings ⟨s, rfl, hs, ?_⟩
  rw [p1', p2', p3']
  refine c7_cros_loop hi hq hS hr hs ht3 (by omega) _ n k 0 _ (by omega) hk64 hkc (fun hlt => ?_) h
  have := hd (by omega)
  rw [hn3] at this
  exact this
theorem c8_of {s what : Int32} (hi : IS w) (hq : IMo w) (hS : RS C 1 w) (hr : RMo C 3 w) (h : Q (ofV w s what) C) : zCi shC g (d + 3) mX8_of [.ref 0, .int s, .int what] C Q := by
  obtain ⟨n0, n6⟩ := hi.2.2.2.1
  unfold ofV at h
  refine vX8_of (c7_isSkater hS ⟨fun hb => ?_, fun hb => ?_⟩)
  · rw [if_neg (by rw [hb]; decide)] at h
    obtain ⟨k, rfl, hk, hk2, hk3⟩ := sk_nat (z := 6) (by omega) hb
    rw [iv_tn (by omega)] at h
    obtain ⟨p1, p2, p3⟩ := hr.2.2.1 k hk hk2
    have p1' : C 6 k = w (3 + k) := p1
    have p2' : C 7 k = w (9 + k) := p2
    have p3' : C 8 k = w (15 + k) := p3
    have ph : C 2 k = w (160 + k) := hS.2.2.2.2.2.1 k hk hk2
    have e12 : C 12 k = w (166 + k) := hS.2.2.2.2.2.2.1.2.1 k hk
    refine ⟨fun z => ?_, fun z => ⟨k, rfl, hk, ?_⟩, fun z => ⟨k, rfl, hk, ?_⟩, fun z => ⟨k, rfl, hk, ?_⟩, fun z => ⟨k, rfl, hk, ?_⟩, fun z => ⟨k, rfl, hk, ?_⟩, fun z => c7_crossings hi hq hS hr hk hk2 ?_⟩
    · rw [if_neg (by omega), if_neg (by omega), if_neg (by omega), if_neg (by omega), if_neg (by omega), if_neg (by omega)] at h
      exact h
    · rw [if_pos z] at h
      rw [ph]
      exact h
    · rw [if_neg (by omega), if_pos z] at h
      rw [p1']
      exact h
    · rw [if_neg (by omega), if_neg (by omega), if_pos z] at h
      rw [e12, p2']
      exact h
    · rw [if_neg (by omega), if_neg (by omega), if_neg (by omega), if_pos z] at h
      rw [p2']
      exact h
    · rw [if_neg (by omega), if_neg (by omega), if_neg (by omega), if_neg (by omega), if_pos z] at h
      rw [p3']
      exact h
    · rw [if_neg (by omega), if_neg (by omega), if_neg (by omega), if_neg (by omega), if_neg (by omega), if_pos z] at h
      exact h
  · rw [if_pos hb] at h
    exact h
theorem c8_at {c what : Int32} (hi : IS w) (hS : RS C 1 w) (hr : RMo C 3 w) (h : ∀ C' : zM, CEq C C' → Q (atV w c what) C') : zCi shC g (d + 4) mX8_at [.ref 0, .int c, .int what] C Q := by
  unfold atV at h
  have h0 := h C CEq.rfl
  refine vX8_at (c7_isCell hS ⟨fun hb => ?_, fun hb => ?_⟩)
  · rw [if_neg (by rw [hb]; decide)] at h h0
    obtain ⟨k, rfl, hk⟩ := cell_nat hb
    rw [iv_tn (by omega)] at h h0
    have d4 : C 4 k = w (21 + k) := hr.1 k hk
    have d5 : C 5 k = w (85 + k) := hr.2.1 k hk
    refine ⟨fun z => ?_, fun z => ⟨k, rfl, hk, ?_⟩, fun z => ⟨k, rfl, hk, ?_⟩, fun z => c7_isSeen zMo3 hS hr hk ⟨fun e => ?_, fun e => ?_⟩, fun z => c7_thawOf zMo3 hi hS hr hk (fun C' hC => ?_), fun z => c7_seenAround zMo3 hi hS hr hk ?_⟩
    · rw [if_neg (by omega), if_neg (by omega), if_neg (by omega), if_neg (by omega), if_neg (by omega)] at h0
      exact h0
    · rw [if_pos z] at h0
      rw [d4]
      exact h0
    · rw [if_neg (by omega), if_pos z] at h0
      rw [d5]
      exact h0
    · rw [if_neg (by omega), if_neg (by omega), if_pos z, e] at h0
      exact h0
    · rw [if_neg (by omega), if_neg (by omega), if_pos z, e] at h0
      exact h0
    · have h1 := h C' (fun o _ a b _ _ => hC o a b)
      rw [if_neg (by omega), if_neg (by omega), if_neg (by omega), if_pos z] at h1
      exact h1
    · rw [if_neg (by omega), if_neg (by omega), if_neg (by omega), if_neg (by omega), if_pos z] at h0
      exact h0
  · rw [if_pos hb] at h0
    exact h0
theorem c8_cut {s c : Int32} (hi : IS w) (hS : RS C 1 w) (hr : RMo C 3 w) (h : ∀ C' : zM, CEq C C' → Q (cutA w s c) C') : zCi shC g (d + 4) mX8_cut [.ref 0, .int s, .int c] C Q := by
  obtain ⟨n0, n6⟩ := hi.2.2.2.1
  unfold cutA at h
  have h0 := h C CEq.rfl
  refine vX8_cut (c7_isSkater hS ⟨fun hb => ?_, fun hb => c7_isCell hS ⟨fun hc => ?_, fun hc => ?_⟩⟩)
  · rw [if_neg (fun z => by rw [hb] at z; exact absurd z.1 (by decide))] at h0
    exact h0
  · obtain ⟨k, rfl, hk⟩ := cell_nat hc
    obtain ⟨j, rfl, hj, hj2, hj3⟩ := sk_nat (z := 6) (by omega) hb
    refine c7_cutOf zMo3 hi hS hr hk hj hj2 (fun C' hC => ?_)
    have h1 := h C' (fun o _ a b _ _ => hC o a b)
    rw [if_pos ⟨hb, hc⟩, iv_tn (by omega), iv_tn (by omega)] at h1
    exact h1
  · rw [if_neg (fun z => by rw [hc] at z; exact absurd z.2 (by decide))] at h0
    exact h0
theorem c3_isLetter {Q : Bool → zM → Prop} {i : Int32} (hS : RS C 1 w) (h : Q (skB (w 157) i) C) : zCz shC g d mX3_isLetter [.ref 22, .int i] C Q := by
  have e1 : C 22 1 = w 157 := hS.2.2.2.2.2.2.2.2.1
  rw [← e1] at h
  refine vX3_isLetter ⟨fun c1 => dF h ?_, fun c1 => ⟨fun c2 => dF h ?_, fun c2 => dT h ?_⟩⟩ <;> simp only [Int32.lt_iff_toInt_lt, Int32.le_iff_toInt_le, Int32.reduceToInt] at * <;> omega
theorem c3_isWant {Q : Bool → zM → Prop} {i : Int32} (hS : RS C 1 w) (h : Q (skB (w 158) i) C) : zCz shC g d mX3_isWant [.ref 22, .int i] C Q := by
  have e1 : C 22 4 = w 158 := hS.2.2.2.2.2.2.2.2.2.1
  rw [← e1] at h
  refine vX3_isWant ⟨fun c1 => dF h ?_, fun c1 => ⟨fun c2 => dF h ?_, fun c2 => dT h ?_⟩⟩ <;> simp only [Int32.lt_iff_toInt_lt, Int32.le_iff_toInt_le, Int32.reduceToInt] at * <;> omega
theorem c8_letter {i : Int32} (hi : IS w) (hS : RS C 1 w) (h : Q (letterV w i) C) : zCi shC g (d + 1) mX8_letter [.ref 0, .int i] C Q := by
  have hn := hi.2.2.2.2.2.1
  unfold letterV at h
  refine vX8_letter (c3_isLetter hS ⟨fun hb => ?_, fun hb => ?_⟩)
  · rw [if_neg (by rw [hb]; decide)] at h
    exact h
  · rw [if_pos hb] at h
    obtain ⟨k, rfl, hk, hk2, hk3⟩ := sk_nat (z := 8) hn.2 hb
    rw [iv_tn (by omega)] at h
    refine ⟨k, rfl, hk, ?_⟩
    have e : C 23 k = w (538 + k) := hS.2.2.2.2.2.2.2.2.2.2.1 k hk hk2
    rw [e]
    exact h
theorem c7_isReadSo {Q : Bool → zM → Prop} {k m : Nat} (hm : zMo shC m) (hi : IS w) (hS : RS C 1 w) (hr : RMo C m w) (hk : k < 10) (hk2 : (k : Int) < (w 158).toInt) (h : Q (isReadB w k) C) : zCz shC g (d + 3) mX7_isReadSo [.ref 1, .ref m, .int (iv k)] C Q := by
  obtain ⟨-, hb⟩ := hi.2.2.2.2.2.2.2.2.2.2.2.2.1 k hk hk2
  obtain ⟨b, eb, hb64, hbo⟩ := box_nat hi.1 hb
  have eb2 : (w (547 + 2 * k)).toInt.toNat = b := by rw [eb, iv_tn (by omega)]
  obtain ⟨q1, q2⟩ := hS.2.2.2.2.2.2.2.2.2.2.2 k hk hk2
  have q1' : C 24 k = w (546 + 2 * k) := q1
  have q2' : C 25 k = iv b := q2.trans eb
  refine vX7_isReadSo hm ⟨k, rfl, hk, ?_⟩
  rw [q2']
  refine c7_readBox hm hi hS hr hbo ⟨fun z => dF h ?_, fun z => dT h ?_⟩
  · rw [eb2, ← q1']
    exact z
  · rw [eb2, ← q1']
    exact z
theorem c8_want {i what : Int32} (hi : IS w) (hS : RS C 1 w) (hr : RMo C 3 w) (h : Q (wantV w i what) C) : zCi shC g (d + 4) mX8_want [.ref 0, .int i, .int what] C Q := by
  have hn := hi.2.2.2.2.2.2.1
  unfold wantV at h
  refine vX8_want (c3_isWant hS ⟨fun hb => ?_, fun hb => ?_⟩)
  · rw [if_neg (by rw [hb]; decide)] at h
    obtain ⟨k, rfl, hk, hk2, hk3⟩ := sk_nat (z := 10) hn.2 hb
    rw [iv_tn (by omega)] at h
    obtain ⟨q1, q2⟩ := hS.2.2.2.2.2.2.2.2.2.2.2 k hk hk2
    have q1' : C 24 k = w (546 + 2 * k) := q1
    have q2' : C 25 k = w (547 + 2 * k) := q2
    refine ⟨fun z => ?_, fun z => ⟨k, rfl, hk, ?_⟩, fun z => ⟨k, rfl, hk, ?_⟩, fun z => c7_isReadSo zMo3 hi hS hr hk hk2 ⟨fun e => ?_, fun e => ?_⟩⟩
    · rw [if_neg (by omega), if_neg (by omega), if_neg (by omega)] at h
      exact h
    · rw [if_pos z] at h
      rw [q1']
      exact h
    · rw [if_neg (by omega), if_pos z] at h
      rw [q2']
      exact h
    · rw [if_neg (by omega), if_neg (by omega), if_pos z, e] at h
      exact h
    · rw [if_neg (by omega), if_neg (by omega), if_pos z, e] at h
      exact h
  · rw [if_pos hb] at h
    exact h
theorem c8_read {c : Int32} (hi : IS w) (hS : RS C 1 w) (hr : RMo C 3 w) (h : Q (readA w c) C) : zCi shC g (d + 3) mX8_read [.ref 0, .int c] C Q := by
  unfold readA at h
  refine vX8_read (c7_isBox hi hS ⟨fun hb => ?_, fun hb => ?_⟩)
  · rw [if_neg (by rw [hb]; decide)] at h
    exact h
  · rw [if_pos hb] at h
    obtain ⟨k, rfl, hk, hbo⟩ := box_nat hi.1 hb
    rw [iv_tn (by omega)] at h
    exact c7_readBox zMo3 hi hS hr hbo h
end Q8
