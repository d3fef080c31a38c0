/-! QUIET methods: of, at, cut, letter, want, read -/
theorem cell_nat {W H c : Int32} (h : cellB W H c = true) : ∃ k : Nat, c = iv k ∧ k < 64 := by
  simp only [cellB, decide_eq_true_eq, decide_eq_false_iff_not] at h
  obtain ⟨k, h1, h2, -⟩ := iv_nat (x := c) (n := 64) (by omega) (by omega)
  exact ⟨k, h1, h2⟩
theorem box_nat {w : Nat → Int32} {c : Int32} (hw : WHw w) (h : boxB (w 150) (w 151) c = true) : ∃ k : Nat, c = iv k ∧ k < 64 ∧ boxOK k := by
  obtain ⟨w1, w2, w3, w4⟩ := hw
  simp only [boxB, decide_eq_true_eq, decide_eq_false_iff_not] at h
  obtain ⟨k, h1, h2, h3⟩ := iv_nat (x := c) (n := 64) (by omega) (by omega)
  refine ⟨k, h1, h2, ?_⟩
  unfold boxOK
  omega
theorem sk_nat {n s : Int32} {z : Nat} (hz : n.toInt ≤ z) (h : skB n s = true) : ∃ k : Nat, s = iv k ∧ k < z ∧ (k : Int) < n.toInt ∧ s.toInt = k := by
  simp only [skB, decide_eq_true_eq, decide_eq_false_iff_not] at h
  obtain ⟨k, h1, h2, h3⟩ := iv_nat (x := s) (n := z) (by omega) (by omega)
  exact ⟨k, h1, h2, by omega, h3⟩
theorem iv_tn {k : Nat} (h : k < 2147483648) : (iv k).toInt.toNat = k := by
  rw [iv_toInt (by omega) (by omega)]
  omega
def crosR (w : Nat → Int32) (s : Nat) : Nat → Nat → Nat → Int32 → Int32
  | 0, _, _, n => n
  | f + 1, i, k, n =>
    if (w (178 + 60 * s + i)).toInt / 2 = 4 then crosR w s f (i + 1) k n
    else if (w (178 + 60 * s + i)).toInt % 2 = 1 ∧ othB w (goV w k ((w (178 + 60 * s + i)).toInt / 2).toNat) (iv s) = true then crosR w s f (i + 1) (goV w k ((w (178 + 60 * s + i)).toInt / 2).toNat) (n + 1)
    else crosR w s f (i + 1) (goV w k ((w (178 + 60 * s + i)).toInt / 2).toNat) n
def crosV (w : Nat → Int32) (s : Nat) : Int32 := crosR w s ((w (166 + s)).toInt.toNat - (w (9 + s)).toInt.toNat) (w (9 + s)).toInt.toNat (w (3 + s)).toInt.toNat 0
def ofV (w : Nat → Int32) (s what : Int32) : Int32 :=
  if skB (w 154) s = false then -2 else if what.toInt = 0 then w (160 + s.toInt.toNat) else if what.toInt = 1 then w (3 + s.toInt.toNat) else if what.toInt = 2 then w (166 + s.toInt.toNat) - w (9 + s.toInt.toNat)
  else if what.toInt = 3 then w (9 + s.toInt.toNat) else if what.toInt = 4 then w (15 + s.toInt.toNat) else if what.toInt = 5 then crosV w s.toInt.toNat else -2
def atV (w : Nat → Int32) (c what : Int32) : Int32 :=
  if cellB (w 150) (w 151) c = false then -2 else if what.toInt = 0 then w (21 + c.toInt.toNat) else if what.toInt = 1 then w (85 + c.toInt.toNat) else if what.toInt = 2 then zbI (seenB w c.toInt.toNat)
  else if what.toInt = 3 then thawV w c.toInt.toNat else if what.toInt = 4 then iv (arN w c.toInt.toNat : Nat) else -2
def cutA (w : Nat → Int32) (s c : Int32) : Int32 := if skB (w 154) s = true ∧ cellB (w 150) (w 151) c = true then cutV w s.toInt.toNat c.toInt.toNat else -1
def letterV (w : Nat → Int32) (i : Int32) : Int32 := if skB (w 157) i = true then w (538 + i.toInt.toNat) else -1
def wantV (w : Nat → Int32) (i what : Int32) : Int32 :=
  if skB (w 158) i = false then -1 else if what.toInt = 0 then w (546 + 2 * i.toInt.toNat) else if what.toInt = 1 then w (547 + 2 * i.toInt.toNat) else if what.toInt = 2 then zbI (isReadB w i.toInt.toNat) else -1
def readA (w : Nat → Int32) (c : Int32) : Int32 := if boxB (w 150) (w 151) c = true then readV w c.toInt.toNat else -2
section Q9
variable {g : zG} {d : Nat} {M : zM} {Q : Int32 → zM → Prop}
/-- a bound checked by isIn, as by skB -/
theorem isIn_sk {n c : Int32} {b : Int} (hn : rng n 0 b) (hb : b < 2147483647) : isInB c 0 (n - 1) = skB n c := by
  obtain ⟨h1, h2⟩ := hn
  simp (disch := ((try simp (disch := ((try simp (disch := ((try simp only [Int32.reduceToInt]); omega)) only [Int32.reduceToInt, ti_rem, ti_div, ti_mul, ti_add, ti_sub, iv_toInt]); omega)) only [Int32.reduceToInt, ti_rem, ti_div, ti_mul, ti_add, ti_sub, iv_toInt]); omega)) only [isInB, skB, ti_sub, Int32.reduceToInt]
  congr 1
  simp only [eq_iff_iff]
  omega
theorem step_at {w : Nat → Int32} (hi : IS w) {s i : Nat} (hs : s < 6) (h60 : i < 60) (hcn : (i : Int) < (w (166 + s)).toInt) : ∃ wy pr : Nat, wy < 5 ∧ pr < 2 ∧ (w (178 + 60 * s + i)).toInt / 2 = wy ∧ (w (178 + 60 * s + i)).toInt % 2 = pr ∧ w (178 + 60 * s + i) / 2 = iv wy ∧ w (178 + 60 * s + i) - w (178 + 60 * s + i) / 2 * 2 = iv pr := by
  have h := hi.2.2.2.2.2.2.2.2.2.2.1 (60 * s + i) (by omega) (by rw [show (60 * s + i) / 60 = s by omega, show (60 * s + i) % 60 = i by omega]; exact hcn)
  rw [show 178 + (60 * s + i) = 178 + 60 * s + i by omega] at h
  generalize w (178 + 60 * s + i) = x at h ⊢
  obtain ⟨a, b⟩ := h
  refine ⟨(x.toInt / 2).toNat, (x.toInt % 2).toNat, by omega, by omega, by omega, by omega, ?_, ?_⟩
  · rw [eqI, ti_div a (by decide), iv_toInt (by omega) (by omega)]
    simp only [Int32.reduceToInt]
    omega
  · rw [eqI, ti_rem a (by decide), iv_toInt (by omega) (by omega)]
    simp only [Int32.reduceToInt]
    omega
theorem c9_cros_loop (hi : IS (M 1)) {s t : Nat} (hs : s < 6) (ht : (M 1 (166 + s)).toInt = t) (h60 : t ≤ 60) : ∀ (f i k : Nat) (n : Int32), i + f = t → k < 64 → cellB (M 1 150) (M 1 151) (iv k) = true → Q (crosR (M 1) s f i k n) M →
    zW shM g (d + 3) mX9_crossedBy (zi Q) 22 [(0, .ref 0), (1, .int (iv s)), (2, .int n), (3, .int (iv k)), (4, .int (iv i))] [] M
  | 0, i, k, n, hf, hk, hc, h => by
    refine vX9_crossedBy_22 ⟨166 + s, iv_n 166 s, by omega, fun _ => h, fun c => ?_⟩
    exfalso
    rw [Int32.le_iff_toInt_le, ht, iv_toInt (by omega) (by omega)] at c
    omega
  | f + 1, i, k, n, hf, hk, hc, h => by
    obtain ⟨wy, pr, hwy, hpr, e1, e2, e3, e4⟩ := step_at hi hs (show i < 60 by omega) (by omega)
    have hw := hi.1
    refine vX9_crossedBy_22 ⟨166 + s, iv_n 166 s, by omega, fun c => ?_, fun _ => vX9_stepOf ⟨178 + 60 * s + i, ?_, by omega, fun c => ?_, fun c => ?_⟩⟩
    · exfalso
      rw [Int32.le_iff_toInt_le, ht, iv_toInt (by omega) (by omega)] at c
      omega
    · rw [show (178 : Int32) = iv 178 from rfl, show (60 : Int32) = iv 60 from rfl, iv_mul, iv_add, iv_add]
      congr 1
    · rw [e3] at c
      have c4 : wy ≠ 4 := fun z => c (by rw [z]; rfl)
      rw [e3] at e4
      rw [e3]
      have hg := goV_cell hw hc hk (i := wy)
      have e5 : ((wy : Int)).toNat = wy := by omega
      rw [crosR, e1, e2, if_neg (by omega), e5] at h
      refine c9_wentTo hw hk (by omega) ⟨fun c1 => ?_, fun c1 => c9_isAnothers hg.1 ⟨fun hb => ?_, fun hb => ?_⟩⟩
      · rw [e4] at c1
        have p1 : ¬ (pr : Int) = 1 := fun z => c1 (by rw [z]; rfl)
        rw [if_neg (fun z => p1 z.1)] at h
        rw [Int32.add_zero, iv_s]
        exact c9_cros_loop hi hs ht h60 f (i + 1) _ n (by omega) hg.1 hg.2 h
      · rw [if_neg (fun z => by rw [hb] at z; exact absurd z.2 (by decide))] at h
        rw [Int32.add_zero, iv_s]
        exact c9_cros_loop hi hs ht h60 f (i + 1) _ n (by omega) hg.1 hg.2 h
      · rw [e4, show (1 : Int32) = iv 1 from rfl, iv_inj (by omega) (by omega)] at c1
        rw [if_pos ⟨c1, hb⟩] at h
        rw [iv_s]
        exact c9_cros_loop hi hs ht h60 f (i + 1) _ (n + 1) (by omega) hg.1 hg.2 h
    · rw [e3, show (4 : Int32) = iv 4 from rfl, iv_inj (by omega) (by omega)] at c
      rw [crosR, e1, if_pos c] at h
      rw [iv_s]
      exact c9_cros_loop hi hs ht h60 f (i + 1) k n (by omega) hk hc h
theorem c9_crossedBy {s : Nat} (hi : IS (M 1)) (hq : IMo (M 1)) (hs : s < 6) (h : Q (crosV (M 1) s) M) : zCi shM g (d + 3) mX9_crossedBy [.ref 0, .int (iv s)] M Q := by
  obtain ⟨k, hk, hk64, hkI, hkc⟩ := place_rng hq hs
  obtain ⟨g0, gle⟩ := hq.2.2.1 s hs
  obtain ⟨q0, q60⟩ := hi.2.2.2.2.2.2.2.2.1 s hs
  obtain ⟨n, hn, hn2, hn3⟩ := iv_nat (x := M 1 (9 + s)) (n := 61) g0 (by omega)
  obtain ⟨t, ht, ht2, ht3⟩ := iv_nat (x := M 1 (166 + s)) (n := 61) q0 (by omega)
  unfold crosV at h
  rw [ht3, hn3, hkI] at h
  refine vX9_crossedBy ⟨3 + s, iv_n 3 s, by omega, 9 + s, iv_n 9 s, by omega, ?_⟩
  rw [hk, hn]
  exact c9_cros_loop hi hs ht3 (by omega) _ n k 0 (by omega) hk64 hkc h
theorem c9_of {s what : Int32} (hi : IS (M 1)) (hq : IMo (M 1)) (h : Q (ofV (M 1) s what) M) : zCi shM g (d + 4) mX9_of [.ref 0, .int s, .int what] M Q := by
  obtain ⟨n0, n6⟩ := hi.2.2.2.1
  unfold ofV at h
  refine vX9_of (c9_isSkater ⟨n0, n6⟩ ⟨fun hb => ?_, fun hb => ?_⟩)
  · rw [if_neg (by rw [hb]; decide)] at h
    obtain ⟨k, rfl, hk, hk2, hk3⟩ := sk_nat (z := 6) (by omega) hb
    rw [iv_tn (by omega)] at h
    refine ⟨fun z => ?_, fun z => ⟨160 + k, iv_n 160 k, by omega, ?_⟩, fun z => ⟨3 + k, iv_n 3 k, by omega, ?_⟩, fun z => ⟨166 + k, iv_n 166 k, by omega, 9 + k, iv_n 9 k, by omega, ?_⟩, fun z => ⟨9 + k, iv_n 9 k, by omega, ?_⟩, fun z => ⟨15 + k, iv_n 15 k, by omega, ?_⟩, fun z => c9_crossedBy hi hq hk ?_⟩
    · rw [if_neg (by omega), if_neg (by omega), if_neg (by omega), if_neg (by omega), if_neg (by omega), if_neg (by omega)] at h
      exact h
    · rw [if_pos z] at h
      exact h
    · rw [if_neg (by omega), if_pos z] at h
      exact h
    · rw [if_neg (by omega), if_neg (by omega), if_pos z] at h
      exact h
    · rw [if_neg (by omega), if_neg (by omega), if_neg (by omega), if_pos z] at h
      exact h
    · rw [if_neg (by omega), if_neg (by omega), if_neg (by omega), if_neg (by omega), if_pos z] at h
      exact h
    · rw [if_neg (by omega), if_neg (by omega), if_neg (by omega), if_neg (by omega), if_neg (by omega), if_pos z] at h
      exact h
  · rw [if_pos hb] at h
    exact h
theorem c9_at {c what : Int32} (hi : IS (M 1)) (h : ∀ M' : zM, MEq M M' → Q (atV (M 1) c what) M') : zCi shM g (d + 6) mX9_at [.ref 0, .int c, .int what] M Q := by
  have hw := hi.1
  have hL : LawOK (M 1) := hi.2.2.2.2.2.2.2.2.2.2.2.2.2
  unfold atV at h
  have h0 := h M MEq.rfl
  refine vX9_at (c9_isCell hw ⟨fun hb => ?_, fun hb => ?_⟩)
  · rw [if_neg (by rw [hb]; decide)] at h h0
    obtain ⟨k, rfl, hk⟩ := cell_nat hb
    rw [iv_tn (by omega)] at h h0
    refine ⟨fun z => ?_, fun z => ⟨21 + k, iv_n 21 k, by omega, ?_⟩, fun z => ⟨85 + k, iv_n 85 k, by omega, ?_⟩, fun z => c9_isSeen hk ⟨fun e => ?_, fun e => ?_⟩, fun z => c9_thawOf hw hL hk (fun M' hM => ?_), fun z => c9_aroundOf hw hk ?_⟩
    · rw [if_neg (by omega), if_neg (by omega), if_neg (by omega), if_neg (by omega), if_neg (by omega)] at h0
      exact h0
    · rw [if_pos z] at h0
      exact h0
    · rw [if_neg (by omega), if_pos z] at h0
      exact h0
    · rw [if_neg (by omega), if_neg (by omega), if_pos z, e] at h0
      exact h0
    · rw [if_neg (by omega), if_neg (by omega), if_pos z, e] at h0
      exact h0
    · have h1 := h M' (MEq.of fun o ho => hM o (by omega) (by omega))
      rw [if_neg (by omega), if_neg (by omega), if_neg (by omega), if_pos z] at h1
      exact h1
    · rw [if_neg (by omega), if_neg (by omega), if_neg (by omega), if_neg (by omega), if_pos z] at h0
      exact h0
  · rw [if_pos hb] at h0
    exact h0
theorem c9_cut {s c : Int32} (hi : IS (M 1)) (h : ∀ M' : zM, MEq M M' → Q (cutA (M 1) s c) M') : zCi shM g (d + 6) mX9_cut [.ref 0, .int s, .int c] M Q := by
  have hw := hi.1
  have hL : LawOK (M 1) := hi.2.2.2.2.2.2.2.2.2.2.2.2.2
  obtain ⟨n0, n6⟩ := hi.2.2.2.1
  unfold cutA at h
  have h0 := h M MEq.rfl
  refine vX9_cut (c9_isSkater ⟨n0, n6⟩ ⟨fun hb => ?_, fun hb => c9_isCell hw ⟨fun hc => ?_, fun hc => ?_⟩⟩)
  · rw [if_neg (fun z => by rw [hb] at z; exact absurd z.1 (by decide))] at h0
    exact h0
  · rw [if_neg (fun z => by rw [hc] at z; exact absurd z.2 (by decide))] at h0
    exact h0
  · obtain ⟨k, rfl, hk⟩ := cell_nat hc
    obtain ⟨j, rfl, hj, hj2, hj3⟩ := sk_nat (z := 6) (by omega) hb
    refine c9_cutOf hw hL hj hk (fun M' hM => ?_)
    have h1 := h M' (MEq.of fun o ho => hM o (by omega) (by omega))
    rw [if_pos ⟨hb, hc⟩, iv_tn (by omega), iv_tn (by omega)] at h1
    exact h1
theorem c9_letter {i : Int32} (hi : IS (M 1)) (h : Q (letterV (M 1) i) M) : zCi shM g (d + 1) mX9_letter [.ref 0, .int i] M Q := by
  have hn := hi.2.2.2.2.2.1
  unfold letterV at h
  refine vX9_letter (c9_isIn ?_)
  rw [isIn_sk hn (by omega)]
  refine ⟨fun hb => ?_, fun hb => ?_⟩
  · rw [if_neg (by rw [hb]; decide)] at h
    exact h
  · rw [if_pos hb] at h
    obtain ⟨k, rfl, hk, hk2, hk3⟩ := sk_nat (z := 8) hn.2 hb
    rw [iv_tn (by omega)] at h
    exact ⟨538 + k, iv_n 538 k, by omega, h⟩
theorem c9_isRead {Q : Bool → zM → Prop} {k : Nat} (hi : IS (M 1)) (hk : k < 10) (hk2 : (k : Int) < (M 1 158).toInt) (h : Q (isReadB (M 1) k) M) : zCz shM g (d + 3) mX9_isRead [.ref 0, .int (iv k)] M Q := by
  obtain ⟨-, hb⟩ := hi.2.2.2.2.2.2.2.2.2.2.2.2.1 k hk hk2
  obtain ⟨b, eb, hb64, hbo⟩ := box_nat hi.1 hb
  have eb2 : (M 1 (547 + 2 * k)).toInt.toNat = b := by rw [eb, iv_tn (by omega)]
  have e2 : (546 : Int32) + (2 * iv k) = iv (546 + 2 * k : Nat) := by
    rw [show (546 : Int32) = iv 546 from rfl, show (2 : Int32) = iv 2 from rfl, iv_mul, iv_add]
    congr 1
  have e3 : ((546 : Int32) + (2 * iv k)) + 1 = iv (547 + 2 * k : Nat) := by
    rw [e2, iv_s]
    congr 1
    omega
  refine vX9_isRead ⟨547 + 2 * k, e3, by omega, ?_⟩
  rw [eb]
  refine c9_readIn hi.2.2.2.2.2.1 hbo ⟨546 + 2 * k, e2, by omega, fun z => dF h ?_, fun z => dT h ?_⟩
  · rw [eb2]
    exact z
  · rw [eb2]
    exact z
theorem c9_want {i what : Int32} (hi : IS (M 1)) (h : Q (wantV (M 1) i what) M) : zCi shM g (d + 4) mX9_want [.ref 0, .int i, .int what] M Q := by
  have hn := hi.2.2.2.2.2.2.1
  unfold wantV at h
  refine vX9_want (c9_isIn ?_)
  rw [isIn_sk hn (by omega)]
  refine ⟨fun hb => ?_, fun hb => c9_isIn ⟨fun hc => ?_, fun hc => ?_⟩⟩
  · rw [if_pos hb] at h
    exact h
  · rw [if_neg (by rw [hb]; decide)] at h
    obtain ⟨k, rfl, hk, hk2, hk3⟩ := sk_nat (z := 10) hn.2 hb
    rw [iv_tn (by omega)] at h
    have e2 : (546 : Int32) + (2 * iv k) = iv (546 + 2 * k : Nat) := by
      rw [show (546 : Int32) = iv 546 from rfl, show (2 : Int32) = iv 2 from rfl, iv_mul, iv_add]
      congr 1
    simp only [isInB, decide_eq_true_eq, decide_eq_false_iff_not, Int32.reduceToInt] at hc
    refine ⟨fun z => ?_, fun z => ?_⟩
    · rw [Int32.le_iff_toInt_le] at z
      simp only [Int32.reduceToInt] at z
      rw [if_neg (by omega), if_neg (by omega), if_pos (by omega)] at h
      refine c9_isRead hi hk hk2 ⟨fun e => ?_, fun e => ?_⟩
      · rw [e] at h
        exact h
      · rw [e] at h
        exact h
    · rw [Int32.le_iff_toInt_le] at z
      simp only [Int32.reduceToInt] at z
      rw [e2]
      by_cases w0 : what.toInt = 0
      · have ew : what = iv 0 := by rw [eqI, w0]; rfl
        rw [if_pos w0] at h
        refine ⟨546 + 2 * k, ?_, by omega, h⟩
        rw [ew, iv_add]
        congr 1 <;> omega
      · have w1 : what.toInt = 1 := by omega
        have ew : what = iv 1 := by rw [eqI, w1]; rfl
        rw [if_neg w0, if_pos w1] at h
        refine ⟨547 + 2 * k, ?_, by omega, h⟩
        rw [ew, iv_add]
        congr 1 <;> omega
  · simp only [isInB, decide_eq_true_eq, decide_eq_false_iff_not, Int32.reduceToInt] at hc
    rw [if_neg (by rw [hb]; decide), if_neg (by omega), if_neg (by omega), if_neg (by omega)] at h
    exact h
theorem c9_read {c : Int32} (hi : IS (M 1)) (h : Q (readA (M 1) c) M) : zCi shM g (d + 4) mX9_read [.ref 0, .int c] M Q := by
  unfold readA at h
  refine vX9_read (c9_isBox hi.1 ⟨fun hb => ?_, fun hb => ?_⟩)
  · rw [if_neg (by rw [hb]; decide)] at h
    exact h
  · rw [if_pos hb] at h
    obtain ⟨k, rfl, hk, hbo⟩ := box_nat hi.1 hb
    rw [iv_tn (by omega)] at h
    exact c9_readIn hi.2.2.2.2.2.1 hbo h
end Q9
