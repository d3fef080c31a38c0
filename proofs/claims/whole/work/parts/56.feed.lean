/-! feed, end, fault -/
/-- byte k of the five numbers -/
def feedB (xs : Nat → Int32) (k : Nat) : Int32 := (xs (k / 4) >>> (iv (24 - 8 * (k % 4) : Nat) &&& 31)) &&& 255
def feedT (n : Nat) (t xs : Nat → Int32) (m : Nat) : Nat → Int32 := fun j => if n ≤ j ∧ j < n + m then feedB xs (j - n) else t j
def xs5 (a b c d e : Int32) : Nat → Int32 := fun i => if i = 0 then a else if i = 1 then b else if i = 2 then c else if i = 3 then d else e
theorem feedT_0 {n : Nat} {t xs : Nat → Int32} : feedT n t xs 0 = t := by
  funext j
  unfold feedT
  rw [if_neg (by omega)]
theorem feedT_s {n m : Nat} {t xs : Nat → Int32} : feedT n t xs (m + 1) = upd (feedT n t xs m) (n + m) (feedB xs m) := by
  funext j
  unfold feedT upd
  by_cases e : j = n + m
  · rw [if_pos e, if_pos (by omega), e, show n + m - n = m by omega]
  · rw [if_neg e]
    by_cases e2 : n ≤ j ∧ j < n + m
    · rw [if_pos (by omega)]
      show _ = if n ≤ j ∧ j < n + m then _ else _
      rw [if_pos e2]
    · rw [if_neg (by omega)]
      show _ = if n ≤ j ∧ j < n + m then _ else _
      rw [if_neg e2]
theorem and255_rng (x : Int32) : rng (x &&& 255) 0 255 := by
  have h : (x &&& 255).toBitVec.toNat ≤ 255 := by
    rw [Int32.toBitVec_and, BitVec.toNat_and]
    exact Nat.and_le_right
  have h2 : (x &&& 255).toInt = ((x &&& 255).toBitVec.toNat : Int) := by
    show (x &&& 255).toBitVec.toInt = _
    rw [BitVec.toInt_eq_toNat_bmod, Int.bmod_def]
    omega
  unfold rng
  rw [h2]
  omega
theorem feedB_rng (xs : Nat → Int32) (k : Nat) : rng (feedB xs k) 0 255 := and255_rng _
def feedOK (M : zM) : Bool := decide ((M 0 23).toInt + 20 ≤ 400)
def feedM (M : zM) (a b c d e : Int32) : zM := if feedOK M = true then (fun o => if o = 12 then feedT (M 0 23).toInt.toNat (M 12) (xs5 a b c d e) 20 else if o = 0 then upd (M 0) 23 (iv ((M 0 23).toInt + 20)) else M o) else M
def feedV (M : zM) : Int32 := if feedOK M = true then iv ((M 0 23).toInt + 20) else -1
def endB (M : zM) (n : Int32) : Bool := decide (0 ≤ n.toInt ∧ n.toInt ≤ (M 0 23).toInt)
def endM (M : zM) (n : Int32) : zM := if endB M n = true then zup M 0 23 n else M
def faultV (M : zM) (what : Int32) : Int32 := if what = 0 then M 0 30 else if what = 1 then M 0 32 else -1
section FE
variable {g : zG} {dp : Nat} {M C : zM}
theorem c9_feed {Q : Int32 → zM → Prop} {a b c d e : Int32} (hn : rng (M 0 23) 0 400) (h : Q (feedV M) (feedM M a b c d e)) : zCi shM g dp mX9_feed [.ref 0, .int a, .int b, .int c, .int d, .int e] M Q := by
  obtain ⟨n, en, hn4, en2⟩ := rng_nat (b := 400) hn
  have e20 : (M 0 23 + 20).toInt = n + 20 := by
    rw [ti_add (by simp only [Int32.reduceToInt]; omega) (by simp only [Int32.reduceToInt]; omega), en2]
    rfl
  unfold feedV feedM at h
  refine vX9_feed ⟨fun c1 => ?_, fun c1 => ?_⟩
  · rw [Int32.le_iff_toInt_le, e20] at c1
    simp only [Int32.reduceToInt] at c1
    have ok : feedOK M = true := decide_eq_true (by omega)
    rw [ok, if_pos rfl, if_pos rfl, en2, show ((n : Int)).toNat = n by omega] at h
    have loop : ∀ (f k : Nat) (M1 : zM), k + f = 20 → (∀ o, o ≠ 0 → o ≠ 12 → M1 o = M o) → M1 12 = feedT n (M 12) (xs5 a b c d e) k → M1 0 = upd (M 0) 23 (iv (n + k : Nat)) → zW shM g dp mX9_feed (zi Q) 18 [(0, .ref 0), (1, .int a), (2, .int b), (3, .int c), (4, .int d), (5, .int e), (6, .int (iv k))] [] M1 := by
      intro f
      induction f with
      | zero =>
        intro k M1 hk ho h12 h0
        have ek : k = 20 := by omega
        subst ek
        refine vX9_feed_18 ⟨fun _ => ?_, fun z => absurd (by decide) z⟩
        have e1 : M1 = fun o => if o = 12 then feedT n (M 12) (xs5 a b c d e) 20 else if o = 0 then upd (M 0) 23 (iv ((n : Int) + 20)) else M o := by
          funext o
          by_cases o12 : o = 12
          · rw [if_pos o12, o12, h12]
          · rw [if_neg o12]
            by_cases o0 : o = 0
            · rw [if_pos o0, o0, h0]
              rfl
            · rw [if_neg o0, ho o o0 o12]
        have e2 : M1 0 23 = iv ((n : Int) + 20) := by
          rw [h0, upd_at]
          rfl
        rw [e2, e1]
        exact h
      | succ f ih =>
        intro k M1 hk ho h12 h0
        have nx : ∀ x : Int32, x = xs5 a b c d e (k / 4) → zW shM g dp mX9_feed (zi Q) 71 [(0, .ref 0), (1, .int a), (2, .int b), (3, .int c), (4, .int d), (5, .int e), (6, .int (iv k))] [.int x] M1 := by
          intro x hx
          refine vX9_feed_71 (fun v1 hv => ⟨n + k, ?_, by omega, ?_⟩)
          · rw [h0, upd_at]
          · have es : (24 : Int32) - (8 * (iv k - iv k / 4 * 4)) = iv (24 - 8 * (k % 4) : Nat) := by
              have e1 : iv k / 4 = iv (k / 4 : Nat) := by
                rw [eqI, ti_div] <;> simp (disch := omega) only [iv_toInt, Int32.reduceToInt] <;> omega
              rw [e1, show (4 : Int32) = iv 4 from rfl, show (8 : Int32) = iv 8 from rfl, show (24 : Int32) = iv 24 from rfl, iv_mul, iv_sub, iv_mul, iv_sub]
              congr 1
              omega
            have ev : v1 = feedB (xs5 a b c d e) k := by
              rw [hv, es, hx]
              rfl
            rw [zup_oth (by decide), h0, upd_at, iv_s, iv_s, ev]
            refine ih (k + 1) _ (by omega) (fun o o0 o12 => ?_) ?_ ?_
            · rw [zup_oth o0, zup_oth o12]
              exact ho o o0 o12
            · rw [zup_oth (by decide), zup_row, h12, feedT_s]
            · rw [zup_row, zup_oth (by decide), h0]
              funext j
              simp only [upd]
              split
              · rfl
              · rfl
        have t4 : ∀ z : Nat, z < 100 → ((OfNat.ofNat z : Int32) ≤ iv k ↔ z ≤ k) := by
          intro z hz
          rw [show (OfNat.ofNat z : Int32) = iv z from rfl, Int32.le_iff_toInt_le, iv_toInt (by omega) (by omega), iv_toInt (by omega) (by omega)]
          exact Int.ofNat_le
        have t20 := t4 20 (by omega)
        have t16 := t4 16 (by omega)
        have t12 := t4 12 (by omega)
        have t8 := t4 8 (by omega)
        have t4 := t4 4 (by omega)
        refine vX9_feed_18 ⟨fun z => absurd (t20.mp z) (by omega), fun _ => ⟨fun z4 => ⟨fun z8 => ⟨fun z12 => ⟨fun z16 => nx _ ?_, fun z16 => nx _ ?_⟩, fun z12 => nx _ ?_⟩, fun z8 => nx _ ?_⟩, fun z4 => nx _ ?_⟩⟩
        · have := t16.mp z16
          unfold xs5
          rw [if_neg (by omega), if_neg (by omega), if_neg (by omega), if_neg (by omega)]
        · have := t12.mp z12
          have : ¬ 16 ≤ k := fun q => z16 (t16.mpr q)
          unfold xs5
          rw [if_neg (by omega), if_neg (by omega), if_neg (by omega), if_pos (by omega)]
        · have := t8.mp z8
          have : ¬ 12 ≤ k := fun q => z12 (t12.mpr q)
          unfold xs5
          rw [if_neg (by omega), if_neg (by omega), if_pos (by omega)]
        · have := t4.mp z4
          have : ¬ 8 ≤ k := fun q => z8 (t8.mpr q)
          unfold xs5
          rw [if_neg (by omega), if_pos (by omega)]
        · have : ¬ 4 ≤ k := fun q => z4 (t4.mpr q)
          unfold xs5
          rw [if_pos (by omega)]
    refine loop 20 0 M (by omega) (fun _ _ _ => rfl) feedT_0.symm ?_
    exact (upd_self en).symm
  · rw [Int32.le_iff_toInt_le, e20] at c1
    simp only [Int32.reduceToInt] at c1
    have ok : feedOK M = false := decide_eq_false (by omega)
    rw [ok, if_neg (by decide), if_neg (by decide)] at h
    exact h
theorem c9_end {Q : Bool → zM → Prop} {n : Int32} (h : Q (endB M n) (endM M n)) : zCz shM g (dp + 1) mX9_end [.ref 0, .int n] M Q := by
  have e : isInB n 0 (M 0 23) = endB M n := rfl
  refine vX9_end (c9_isIn ?_)
  rw [e]
  unfold endM at h
  refine ⟨fun hb => ?_, fun hb => ?_⟩
  · rw [hb, if_pos rfl] at h
    exact h
  · rw [hb, if_neg (by decide)] at h
    exact h
theorem c9_fault {Q : Int32 → zM → Prop} {what : Int32} (h : Q (faultV M what) M) : zCi shM g dp mX9_fault [.ref 0, .int what] M Q := by
  unfold faultV at h
  refine vX9_fault ⟨fun c => ⟨fun c2 => ?_, fun c2 => ?_⟩, fun c => ?_⟩
  · rw [if_neg c, if_neg c2] at h
    exact h
  · rw [if_neg c, if_pos c2] at h
    exact h
  · rw [if_pos c] at h
    exact h
theorem RR.tn {C M : zM} (h : RR C M) : rng (M 0 23) 0 400 := h.2.2.2.2.1
theorem c8_fault {Q : Int32 → zM → Prop} {what : Int32} (hR : RR C M) (h : Q (faultV M what) C) : zCi shC g dp mX8_fault [.ref 0, .int what] C Q := by
  obtain ⟨-, -, -, h1, h2, h3, h4, h5⟩ := hR
  unfold faultV at h
  rw [← h4, ← h5] at h
  refine vX8_fault ⟨fun c => ⟨fun c2 => ?_, fun c2 => ?_⟩, fun c => ?_⟩
  · rw [if_neg c, if_neg c2] at h
    exact h
  · rw [if_neg c, if_pos c2] at h
    exact h
  · rw [if_pos c] at h
    exact h
theorem c8_end {Q : Bool → zM → Prop} {n : Int32} (hR : RR C M) (h : ∀ C' : zM, RR C' (endM M n) → Q (endB M n) C') : zCz shC g dp mX8_end [.ref 0, .int n] C Q := by
  obtain ⟨r1, r2, r3, h1, h2, h3, h4, h5⟩ := id hR
  have z0 : (0 : Int32).toInt = 0 := rfl
  have no : ¬ (0 ≤ n.toInt ∧ n.toInt ≤ (M 0 23).toInt) → Q false C := by
    intro z
    have e : endB M n = false := decide_eq_false z
    unfold endM at h
    rw [e, if_neg (by decide)] at h
    exact h C hR
  refine vX8_end ⟨fun c => no fun z => ?_, fun c => ⟨fun c2 => ?_, fun c2 => no fun z => ?_⟩⟩
  · rw [Int32.lt_iff_toInt_lt, z0] at c
    omega
  · rw [Int32.lt_iff_toInt_lt, z0] at c
    rw [h1, Int32.le_iff_toInt_le] at c2
    have e : endB M n = true := decide_eq_true ⟨by omega, c2⟩
    unfold endM at h
    rw [e, if_pos rfl] at h
    refine h _ ⟨?_, ?_, ?_, ?_⟩
    · rw [zup_oth (by decide)]
      exact r1.keep fun o a b _ => zup_oth (by omega)
    · rw [zup_ne (by omega), zup_oth (by decide)]
      exact r2.keep (by rw [zup_oth (by decide)]) fun o a b => zup_oth (by omega)
    · rw [zup_ne (by omega), zup_oth (by decide), zup_oth (by decide)]
      exact r3.keep (by rw [zup_oth (by decide)]) fun o a b => zup_oth (by omega)
    · rw [zup_same, zup_ne (by omega), zup_ne (by omega), zup_oth (by decide)]
      obtain ⟨n0, n4⟩ := h2
      refine ⟨zup_same, ⟨by omega, by omega⟩, fun i hi => ?_, ?_, ?_⟩
      · rw [zup_oth (by decide)]
        exact h3 i (by omega)
      · rw [zup_ne (by omega)]
        exact h4
      · rw [zup_ne (by omega)]
        exact h5
  · rw [h1, Int32.le_iff_toInt_le] at c2
    omega
/-- four bytes -/
theorem c5_put {Q : zM → Prop} {x : Int32} {n q : Nat} {t xs : Nat → Int32} (hx : x = xs q) (hn : n + 20 ≤ 400) (hq : q < 5) (hl : C 98 1 = iv (n + 4 * q : Nat)) (ht : ∀ i, i < n + 4 * q → C 99 i = feedT n t xs (4 * q) i) (h : ∀ C' : zM, (∀ o, o ≠ 98 → o ≠ 99 → C' o = C o) → (∀ i, i ≠ 1 → C' 98 i = C 98 i) → C' 98 1 = iv (n + 4 * (q + 1) : Nat) → (∀ i, i < n + 4 * (q + 1) → C' 99 i = feedT n t xs (4 * (q + 1)) i) → Q C') : zCv shC g dp mX5_put [.ref 98, .int x] C Q := by
  have loop : ∀ (f k : Nat) (C1 : zM), k + f = 4 → (∀ o, o ≠ 98 → o ≠ 99 → C1 o = C o) → (∀ i, i ≠ 1 → C1 98 i = C 98 i) → C1 98 1 = iv (n + 4 * q + k : Nat) → (∀ i, i < n + 4 * q + k → C1 99 i = feedT n t xs (4 * q + k) i) → zW shC g dp mX5_put (zv Q) 3 [(0, .ref 98), (1, .int x), (2, .int (iv (24 - 8 * (k : Int))))] [] C1 := by
    intro f
    induction f with
    | zero =>
      intro k C1 hk ho h98 h1 h2
      have ek : k = 4 := by omega
      subst ek
      exact vX5_put_3 ⟨fun _ => h C1 ho h98 h1 h2, fun z => absurd (by decide) z⟩
    | succ f ih =>
      intro k C1 hk ho h98 h1 h2
      refine vX5_put_3 ⟨fun z => ?_, fun _ => ⟨fun z => ?_, fun _ => ⟨n + 4 * q + k, h1, by omega, fun v1 hv => ?_⟩⟩⟩
      · exfalso
        rw [Int32.lt_iff_toInt_lt, iv_toInt (by omega) (by omega)] at z
        simp only [Int32.reduceToInt] at z
        omega
      · exfalso
        rw [h1, Int32.le_iff_toInt_le, iv_toInt (by omega) (by omega)] at z
        simp only [Int32.reduceToInt] at z
        omega
      · have e8 : iv (24 - 8 * (k : Int)) + (-8) = iv (24 - 8 * ((k + 1 : Nat) : Int)) := by
          rw [show (-8 : Int32) = iv (-8) from rfl, iv_add]
          congr 1
          omega
        have eb : (x >>> (iv (24 - 8 * (k : Int)) &&& 31)) &&& 255 = feedB xs (4 * q + k) := by
          unfold feedB
          rw [hx, show (4 * q + k) / 4 = q by omega, show (4 * q + k) % 4 = k by omega, show (24 - 8 * (k : Int)) = ((24 - 8 * k : Nat) : Int) by omega]
        rw [zup_oth (by decide), h1, iv_s] at hv
        rw [hv, eb, e8]
        refine ih (k + 1) _ (by omega) (fun o o8 o9 => ?_) (fun i hi => ?_) ?_ (fun i hi => ?_)
        · rw [zup_oth o8, zup_oth o9]
          exact ho o o8 o9
        · rw [zup_ne (Or.inr hi), zup_oth (by decide)]
          exact h98 i hi
        · rw [zup_same]
          congr 1
        · rw [zup_oth (by decide), show 4 * q + (k + 1) = 4 * q + k + 1 by omega, feedT_s, show n + (4 * q + k) = n + 4 * q + k by omega]
          by_cases e : i = n + 4 * q + k
          · rw [e, zup_same, upd_at]
          · rw [zup_ne (Or.inr e), upd_ne e]
            exact h2 i (by omega)
  exact vX5_put (loop 4 0 C (by omega) (fun _ _ _ => rfl) (fun _ _ => rfl) hl ht)
theorem c8_feed {Q : Int32 → zM → Prop} {a b c d e : Int32} (hR : RR C M) (h : ∀ C' : zM, RR C' (feedM M a b c d e) → Q (feedV M) C') : zCi shC g (dp + 1) mX8_feed [.ref 0, .int a, .int b, .int c, .int d, .int e] C Q := by
  obtain ⟨r1, r2, r3, h1, h2, h3, h4, h5⟩ := id hR
  obtain ⟨n, en, hn4, en2⟩ := rng_nat (b := 400) h2
  have e20 : (C 98 1 + 20).toInt = n + 20 := by
    rw [h1, ti_add (by simp only [Int32.reduceToInt]; omega) (by simp only [Int32.reduceToInt]; omega), en2]
    rfl
  unfold feedV feedM at h
  refine vX8_feed ⟨fun c1 => ?_, fun c1 => ?_⟩
  · rw [Int32.le_iff_toInt_le, e20] at c1
    simp only [Int32.reduceToInt] at c1
    have ok : feedOK M = true := decide_eq_true (by omega)
    rw [ok, if_pos rfl, if_pos rfl, en2, show ((n : Int)).toNat = n by omega] at h
    have i0 : ∀ i, i < n + 4 * 0 → C 99 i = feedT n (M 12) (xs5 a b c d e) (4 * 0) i := fun i hi => by
      rw [show 4 * 0 = 0 from rfl, feedT_0]
      exact (h3 i (by omega)).1
    refine c5_put (q := 0) (xs := xs5 a b c d e) (n := n) (t := M 12) rfl (by omega) (by omega) (h1.trans en) i0 (fun C1 o1 s1 l1 t1 => c5_put (q := 1) (xs := xs5 a b c d e) (n := n) (t := M 12) rfl (by omega) (by omega) l1 t1 (fun C2 o2 s2 l2 t2 => c5_put (q := 2) (xs := xs5 a b c d e) (n := n) (t := M 12) rfl (by omega) (by omega) l2 t2 (fun C3 o3 s3 l3 t3 => c5_put (q := 3) (xs := xs5 a b c d e) (n := n) (t := M 12) rfl (by omega) (by omega) l3 t3 (fun C4 o4 s4 l4 t4 => c5_put (q := 4) (xs := xs5 a b c d e) (n := n) (t := M 12) rfl (by omega) (by omega) l4 t4 (fun C5 o5 s5 l5 t5 => ?_)))))
    have ho : ∀ o, o ≠ 98 → o ≠ 99 → C5 o = C o := fun o a b => (o5 o a b).trans ((o4 o a b).trans ((o3 o a b).trans ((o2 o a b).trans (o1 o a b))))
    have hs : ∀ i, i ≠ 1 → C5 98 i = C 98 i := fun i a => (s5 i a).trans ((s4 i a).trans ((s3 i a).trans ((s2 i a).trans (s1 i a))))
    have l5' : C5 98 1 = iv ((n : Int) + 20) := l5
    rw [l5']
    refine h _ ⟨?_, ?_, ?_, ?_⟩
    · show Rnow C5 (M 1)
      exact r1.keep fun o a b _ => ho o (by omega) (by omega)
    · show Rimg C5 (upd (M 0) 23 (iv ((n : Int) + 20)) 5) (M 2)
      rw [upd_ne (by omega)]
      exact r2.keep (by rw [ho 0 (by decide) (by decide)]) fun o a b => ho o (by omega) (by omega)
    · show Rpast C5 (upd (M 0) 23 (iv ((n : Int) + 20)) 4) (M 3) (M 1)
      rw [upd_ne (by omega)]
      exact r3.keep (by rw [ho 0 (by decide) (by decide)]) fun o a b => ho o (by omega) (by omega)
    · show Rtape C5 (upd (M 0) 23 (iv ((n : Int) + 20)) 23) (upd (M 0) 23 (iv ((n : Int) + 20)) 30) (upd (M 0) 23 (iv ((n : Int) + 20)) 32) (feedT n (M 12) (xs5 a b c d e) 20)
      rw [upd_at, upd_ne (by omega), upd_ne (by omega)]
      refine ⟨l5', ?_, fun i hi => ?_, ?_, ?_⟩
      · unfold rng
        rw [iv_toInt (by omega) (by omega)]
        omega
      · rw [iv_toInt (by omega) (by omega)] at hi
        refine ⟨t5 i (by omega), ?_⟩
        unfold feedT
        split
        · exact feedB_rng _ _
        · exact (h3 i (by omega)).2
      · rw [hs 6 (by omega)]
        exact h4
      · rw [hs 7 (by omega)]
        exact h5
  · rw [Int32.le_iff_toInt_le, e20] at c1
    simp only [Int32.reduceToInt] at c1
    have ok : feedOK M = false := decide_eq_false (by omega)
    rw [ok, if_neg (by decide), if_neg (by decide)] at h
    exact h C hR
end FE
