/-! ROUTES of the class -/
section RO8
variable {g : zG} {d : Nat} {C : zM} {w : Nat → Int32} {gs : Nat → Nat} {n : Nat}
theorem c7_areCells {Q : Bool → zM → Prop} {x : Int64} (hS : RS C 1 w) (h : Q (allB w x) C) : zCz shC g (d + 1) mX7_areCells [.ref 1, .long x] C Q := by
  refine vX7_areCells ?_
  have loop : ∀ f c : Nat, c + f = 64 → (∀ a : Nat, a < c → lbit x a = true → cellB (w 150) (w 151) (iv a) = true) → zW shC g (d + 1) mX7_areCells (zz Q) 2 [(0, .ref 1), (1, .long x), (3, .int (iv c))] [] C := by
    intro f
    induction f with
    | zero =>
      intro c hc ha
      obtain rfl : c = 64 := by omega
      rw [allB_t ha] at h
      exact vX7_areCells_2 ⟨fun _ => h, fun c => absurd (by decide) c⟩
    | succ f ih =>
      intro c hc ha
      refine vX7_areCells_2 ⟨fun q => (not_le_iv (a := 64) (b := c) (by omega) (by omega) q).elim, fun _ => ⟨fun q => ?_, fun q => c7_isCell hS ⟨fun hb => ?_, fun hb => ?_⟩⟩⟩
      · rw [iv_s]
        refine ih (c + 1) (by omega) fun a h1 h2 => ?_
        by_cases e : a = c
        · rw [e] at h2
          exact absurd ((lcmp1 (by omega)).mpr h2) q
        · exact ha a (by omega) h2
      · rw [iv_s]
        refine ih (c + 1) (by omega) fun a h1 h2 => ?_
        by_cases e : a = c
        · rw [e]
          exact hb
        · exact ha a (by omega) h2
      · rw [allB_f (fun z => by
          rw [z c (by omega) ((lcmp1 (by omega)).mp q)] at hb
          exact Bool.noConfusion hb)] at h
        exact h
  exact loop 64 0 rfl fun a ha => absurd ha (Nat.not_lt_zero _)
theorem c4_all {Q : Int32 → zM → Prop} (hn : n ≤ 9) (hg : C 116 1 = iv n) (h : Q (iv (2 ^ n - 1 : Nat)) C) : zCi shC g d mX4_all [.ref 116] C Q := by
  refine vX4_all ?_
  have h1 := Nat.two_pow_pos n
  have e : (1 : Int32) <<< (C 116 1 &&& 31) - 1 = iv (2 ^ n - 1 : Nat) := by
    rw [hg, one_sl (by omega), show (1 : Int32) = iv 1 from rfl, iv_sub]
    congr 1
    omega
  rw [e]
  exact h
/-- the first stop over a set: none of the empty one -/
theorem c4_firstStop {Q : Int32 → zM → Prop} {m c : Nat} (hn : n ≤ 9) (hgs : ∀ i, i < n → gs i < 64) (hG : G7 C gs n) (hT : ∀ i, i < n → m.testBit i = true → C 118 (9 * m + i) = iv (lov gs n (sd m (2 ^ i)) (gs i) : Nat)) (hm : m < 2 ^ n) (hc : c < 64) (h : Q (if m = 0 then -1 else iv (fst1 gs n m c : Nat)) C) : zCi shC g (d + 2) mX4_firstStop [.ref 116, .int (iv c), .int (iv m)] C Q := by
  have h2 : 2 ^ n ≤ 2 ^ 9 := Nat.pow_le_pow_right (by decide) hn
  have hm5 : m < 512 := by omega
  have vb : ∀ i, i < n → m.testBit i = true → vov gs n m c i ≤ 14 + 14 * 512 := by
    intro i hi hbi
    have hlt := sd_lt (m := m) (k := i) (by omega) hbi
    have h3 := lov_le hn hgs _ (sd m (2 ^ i)) (gs i) (Nat.le_refl _) (by omega) (hgs i hi)
    have h5 := distN_le hc (hgs i hi)
    have e : vov gs n m c i = distN c (gs i) + lov gs n (sd m (2 ^ i)) (gs i) := rfl
    omega
  -- some were found: b with the least of those below k
  have some1 : ∀ (f k b : Nat), k + f = n → b < k → m.testBit b = true → (∀ j, j < k → m.testBit j = true → vov gs n m c b ≤ vov gs n m c j) → (∀ j, j < b → m.testBit j = true → vov gs n m c b < vov gs n m c j) → zW shC g (d + 2) mX4_firstStop (zi Q) 9 [(0, .ref 116), (1, .int (iv c)), (2, .int (iv m)), (3, .int (iv b)), (4, .int (iv (vov gs n m c b : Nat))), (5, .int (iv k))] [] C := by
    intro f
    induction f with
    | zero =>
      intro k b hk hb hbb h1 h3
      obtain rfl : k = n := by omega
      have hz : m ≠ 0 := fun z => by
        rw [z, Nat.zero_testBit] at hbb
        exact Bool.noConfusion hbb
      rw [if_neg hz, fst1_eq hn hgs hm hc hbb h1 h3] at h
      refine vX4_firstStop_9 ⟨fun _ => h, fun q => absurd ?_ q⟩
      rw [hG.1]
      exact Int32.le_refl _
    | succ f ih =>
      intro k b hk hb hbb h1 h3
      refine vX4_firstStop_9 ⟨fun q => ?_, fun _ => ⟨fun q => ?_, fun q => ⟨k, rfl, by omega, ?_⟩⟩⟩
      · rw [hG.1] at q
        exact (not_le_iv (a := n) (b := k) (by omega) (by omega) q).elim
      · rw [bitAt1 (by omega), bit_iv (by omega)] at q
        rw [iv_s]
        refine ih (k + 1) b (by omega) (by omega) hbb (fun j hj hbj => ?_) h3
        by_cases e : j = k
        · rw [e] at hbj
          exact absurd hbj q
        · exact h1 j (by omega) hbj
      · rw [bitAt1 (by omega), bit_iv (by omega)] at q
        rw [hG.2 k (by omega)]
        refine c8_distance hc (hgs k (by omega)) ⟨9 * m + k, at_nine m k, by omega, ?_⟩
        have e : vov gs n m c k = distN c (gs k) + lov gs n (sd m (2 ^ k)) (gs k) := rfl
        have v1 := vb k (by omega) q
        have v2 := vb b (by omega) hbb
        rw [hT k (by omega) q, iv_add, ← Int.natCast_add, ← e, iv_s]
        refine ⟨fun q2 => ?_, fun q2 => ?_⟩
        · rw [Int32.le_iff_toInt_le, iv_toInt (by omega) (by omega), iv_toInt (by omega) (by omega)] at q2
          refine ih (k + 1) b (by omega) (by omega) hbb (fun j hj hbj => ?_) h3
          by_cases e : j = k
          · rw [e]
            omega
          · exact h1 j (by omega) hbj
        · rw [Int32.le_iff_toInt_le, iv_toInt (by omega) (by omega), iv_toInt (by omega) (by omega)] at q2
          refine ih (k + 1) k (by omega) (by omega) q (fun j hj hbj => ?_) (fun j hj hbj => ?_)
          · by_cases e : j = k
            · rw [e]
              exact Nat.le_refl _
            · have := h1 j (by omega) hbj
              omega
          · have := h1 j hj hbj
            omega
  have none1 : ∀ (f k : Nat), k + f = n → (∀ j, j < k → m.testBit j = false) → zW shC g (d + 2) mX4_firstStop (zi Q) 9 [(0, .ref 116), (1, .int (iv c)), (2, .int (iv m)), (3, .int (-1)), (4, .int 100000000), (5, .int (iv k))] [] C := by
    intro f
    induction f with
    | zero =>
      intro k hk h1
      obtain rfl : k = n := by omega
      have hz : m = 0 := by
        refine set_ext hm5 (by decide) fun j hj => ?_
        rw [Nat.zero_testBit]
        by_cases c : j < k
        · exact h1 j c
        · exact Nat.testBit_lt_two_pow (Nat.lt_of_lt_of_le hm (Nat.pow_le_pow_right (by decide) (by omega)))
      rw [if_pos hz] at h
      refine vX4_firstStop_9 ⟨fun _ => h, fun q => absurd ?_ q⟩
      rw [hG.1]
      exact Int32.le_refl _
    | succ f ih =>
      intro k hk h1
      refine vX4_firstStop_9 ⟨fun q => ?_, fun _ => ⟨fun q => ?_, fun q => ⟨k, rfl, by omega, ?_⟩⟩⟩
      · rw [hG.1] at q
        exact (not_le_iv (a := n) (b := k) (by omega) (by omega) q).elim
      · rw [bitAt1 (by omega), bit_iv (by omega)] at q
        rw [iv_s]
        refine ih (k + 1) (by omega) fun j hj => ?_
        by_cases e : j = k
        · rw [e]
          cases hq : m.testBit k
          · rfl
          · exact absurd hq q
        · exact h1 j (by omega)
      · rw [bitAt1 (by omega), bit_iv (by omega)] at q
        rw [hG.2 k (by omega)]
        refine c8_distance hc (hgs k (by omega)) ⟨9 * m + k, at_nine m k, by omega, ?_⟩
        have e : vov gs n m c k = distN c (gs k) + lov gs n (sd m (2 ^ k)) (gs k) := rfl
        have v1 := vb k (by omega) q
        rw [hT k (by omega) q, iv_add, ← Int.natCast_add, ← e, iv_s]
        refine ⟨fun q2 => ?_, fun _ => some1 f (k + 1) k (by omega) (by omega) q (fun j hj hbj => ?_) (fun j hj hbj => ?_)⟩
        · exfalso
          rw [Int32.le_iff_toInt_le, iv_toInt (by omega) (by omega)] at q2
          simp only [Int32.reduceToInt] at q2
          omega
        · by_cases e : j = k
          · rw [e]
            exact Nat.le_refl _
          · rw [h1 j (by omega)] at hbj
            exact Bool.noConfusion hbj
        · rw [h1 j hj] at hbj
          exact Bool.noConfusion hbj
  exact vX4_firstStop (none1 n 0 (by omega) fun j hj => absurd hj (Nat.not_lt_zero _))
theorem c4_lead {Q : Int32 → zM → Prop} {m c : Nat} (hn : n ≤ 9) (hgs : ∀ i, i < n → gs i < 64) (hG : G7 C gs n) (hT : ∀ i, i < n → m.testBit i = true → C 118 (9 * m + i) = iv (lov gs n (sd m (2 ^ i)) (gs i) : Nat)) (hm : m < 2 ^ n) (hc : c < 64) (h : Q (iv (lov gs n m c : Nat)) C) : zCi shC g (d + 3) mX4_lead [.ref 116, .int (iv c), .int (iv m)] C Q := by
  have h2 : 2 ^ n ≤ 2 ^ 9 := Nat.pow_le_pow_right (by decide) hn
  refine vX4_lead (c4_firstStop hn hgs hG hT hm hc ?_)
  by_cases hz : m = 0
  · rw [if_pos hz]
    refine ⟨fun q => absurd rfl q, fun _ => ?_⟩
    rw [hz, lov_0] at h
    exact h
  · rw [if_neg hz]
    obtain ⟨f1, f2, f3, f4⟩ := fst1_is hn hgs hm hz hc
    have e : vov gs n m c (fst1 gs n m c) = distN c (gs (fst1 gs n m c)) + lov gs n (sd m (2 ^ fst1 gs n m c)) (gs (fst1 gs n m c)) := rfl
    refine ⟨fun _ => ⟨fst1 gs n m c, rfl, by omega, ?_⟩, fun q => ?_⟩
    · rw [hG.2 _ f1]
      refine c8_distance hc (hgs _ f1) ⟨9 * m + fst1 gs n m c, at_nine _ _, by omega, ?_⟩
      rw [hT _ f1 f2, iv_add, ← Int.natCast_add, ← e, f3]
      exact h
    · exfalso
      rw [show (-1 : Int32) = iv (-1) from rfl, iv_inj (by omega) (by omega)] at q
      omega
theorem c4_fillTours {Q : zM → Prop} (hn : n ≤ 9) (hgs : ∀ i, i < n → gs i < 64) (hG : G7 C gs n) (h : ∀ C' : zM, (∀ o, o ≠ 118 → C' o = C o) → T7 C' gs n (2 ^ n) → Q C') : zCv shC g (d + 4) mX4_fillTours [.ref 116] C Q := by
  have h1 := Nat.two_pow_pos n
  have h2 : 2 ^ n ≤ 2 ^ 9 := Nat.pow_le_pow_right (by decide) hn
  refine vX4_fillTours ?_
  have loop : ∀ (f m : Nat) (C1 : zM), m + f = 2 ^ n → (∀ o, o ≠ 118 → C1 o = C o) → T7 C1 gs n m → zW shC g (d + 4) mX4_fillTours (zv Q) 2 [(0, .ref 116), (1, .int (iv m))] [] C1 := by
    intro f
    induction f with
    | zero =>
      intro m C1 hm ho hT
      obtain rfl : m = 2 ^ n := by omega
      refine vX4_fillTours_2 (c4_all hn (by rw [ho 116 (by decide)]; exact hG.1) ⟨fun _ => h C1 ho hT, fun q => absurd ?_ q⟩)
      rw [Int32.lt_iff_toInt_lt, iv_toInt (by omega) (by omega), iv_toInt (by omega) (by omega)]
      omega
    | succ f ih =>
      intro m C1 hm ho hT
      have inner : ∀ (fu i : Nat) (C2 : zM), i + fu = n → (∀ o, o ≠ 118 → C2 o = C o) → T7 C2 gs n m → (∀ j, j < i → m.testBit j = true → C2 118 (9 * m + j) = iv (lov gs n (sd m (2 ^ j)) (gs j) : Nat)) → zW shC g (d + 4) mX4_fillTours (zv Q) 12 [(0, .ref 116), (1, .int (iv m)), (2, .int (iv i))] [] C2 := by
        intro fu
        induction fu with
        | zero =>
          intro i C2 hi ho2 hT2 hr
          obtain rfl : i = n := by omega
          refine vX4_fillTours_12 ⟨fun _ => ?_, fun q => absurd ?_ q⟩
          · rw [iv_s]
            refine ih (m + 1) C2 (by omega) ho2 fun s j hs hj hb => ?_
            by_cases e : s = m
            · rw [e] at hb ⊢
              exact hr j hj hb
            · exact hT2 s j (by omega) hj hb
          · rw [ho2 116 (by decide), hG.1]
            exact Int32.le_refl _
        | succ fu ihf =>
          intro i C2 hi ho2 hT2 hr
          have hG2 : G7 C2 gs n := by
            unfold G7
            rw [ho2 116 (by decide), ho2 117 (by decide)]
            exact hG
          refine vX4_fillTours_12 ⟨fun q => ?_, fun _ => ⟨fun q => ?_, fun q => ⟨i, rfl, by omega, ?_⟩⟩⟩
          · rw [ho2 116 (by decide), hG.1] at q
            exact (not_le_iv (a := n) (b := i) (by omega) (by omega) q).elim
          · rw [bitAt1 (by omega), bit_iv (by omega)] at q
            rw [iv_s]
            refine ihf (i + 1) C2 (by omega) ho2 hT2 fun j hj hb => ?_
            by_cases e : j = i
            · rw [e] at hb
              exact absurd hb q
            · exact hr j (by omega) hb
          · rw [bitAt1 (by omega), bit_iv (by omega)] at q
            have hlt := sd_lt (m := m) (k := i) (by omega) q
            rw [hG2.2 i (by omega), sd1 (by omega) (by omega)]
            refine c4_lead hn hgs hG2 (fun j hj hb => hT2 _ j hlt hj hb) (by omega) (hgs i (by omega)) ⟨9 * m + i, at_nine m i, by omega, ?_⟩
            rw [iv_s]
            refine ihf (i + 1) _ (by omega) (fun o ho3 => by rw [zup_oth ho3]; exact ho2 o ho3) (fun s j hs hj hb => ?_) fun j hj hb => ?_
            · rw [zup_ne (by omega)]
              exact hT2 s j hs hj hb
            · by_cases e : j = i
              · rw [e, zup_same]
              · rw [zup_ne (by omega)]
                exact hr j (by omega) hb
      refine vX4_fillTours_2 (c4_all hn (by rw [ho 116 (by decide)]; exact hG.1) ⟨fun q => ?_, fun _ => inner n 0 C1 (by omega) ho hT fun j hj => absurd hj (Nat.not_lt_zero _)⟩)
      exfalso
      rw [Int32.lt_iff_toInt_lt, iv_toInt (by omega) (by omega), iv_toInt (by omega) (by omega)] at q
      omega
  refine loop (2 ^ n - 1) 1 C (by omega) (fun _ _ => rfl) fun s i hs hi hb => ?_
  obtain rfl : s = 0 := by omega
  rw [Nat.zero_testBit] at hb
  exact Bool.noConfusion hb
theorem c4_take {Q : Bool → zM → Prop} {x : Int64} (h : ∀ C' : zM, (∀ o, o < 116 ∨ 119 ≤ o → C' o = C o) → (∀ j, j ≠ 1 → C' 116 j = C 116 j) → ((gls x 64).length ≤ 9 → G7 C' (gsF x) (gls x 64).length ∧ T7 C' (gsF x) (gls x 64).length (2 ^ (gls x 64).length)) → Q (decide ((gls x 64).length ≤ 9)) C') : zCz shC g (d + 5) mX4_take [.ref 116, .long x] C Q := by
  refine vX4_take (c_lbc ?_)
  rw [← gls_len]
  have hl64 : (gls x 64).length ≤ 64 := by
    rw [gls_len]
    exact cntB_le 64
  refine ⟨fun q => ?_, fun q => ?_⟩
  · rw [show (9 : Int32) = iv (9 : Nat) from rfl, Int32.le_iff_toInt_le, iv_toInt (by omega) (by omega), iv_toInt (by omega) (by omega)] at q
    have hn : (gls x 64).length ≤ 9 := by omega
    rw [decide_eq_true hn] at h
    have fin : ∀ (C1 : zM), (∀ o, o ≠ 116 → o ≠ 117 → C1 o = C o) → (∀ j, j ≠ 1 → C1 116 j = C 116 j) → G7 C1 (gsF x) (gls x 64).length → zCv shC g (d + 4) mX4_fillTours [.ref 116] C1 (fun M1 => Q true M1) := by
      intro C1 ho hj hG
      refine c4_fillTours hn (fun i hi => gsF_64 hi) hG fun C2 h2 hT => h C2 (fun o hoo => ?_) (fun j hj2 => ?_) fun _ => ⟨?_, hT⟩
      · rw [h2 o (by omega)]
        exact ho o (by omega) (by omega)
      · rw [h2 116 (by decide)]
        exact hj j hj2
      · unfold G7
        rw [h2 116 (by decide), h2 117 (by decide)]
        exact hG
    have loop : ∀ (f c : Nat) (C1 : zM), c + f = 64 → (∀ o, o ≠ 116 → o ≠ 117 → C1 o = C o) → (∀ j, j ≠ 1 → C1 116 j = C 116 j) → C1 116 1 = iv (gls x c).length → (∀ i, i < (gls x c).length → C1 117 i = iv ((gls x c).getD i 0 : Nat)) → zW shC g (d + 5) mX4_take (zz Q) 18 [(0, .ref 116), (1, .long x), (3, .int (iv c))] [] C1 := by
      intro f
      induction f with
      | zero =>
        intro c C1 hc ho hj hl hr
        obtain rfl : c = 64 := by omega
        exact vX4_take_18 ⟨fun _ => fin C1 ho hj ⟨hl, hr⟩, fun c => absurd (by decide) c⟩
      | succ f ih =>
        intro c C1 hc ho hj hl hr
        have hle := gls_le (x := x) (c := c) (c2 := 64) (by omega)
        refine vX4_take_18 ⟨fun q => (not_le_iv (a := 64) (b := c) (by omega) (by omega) q).elim, fun _ => ⟨fun q9 => ?_, fun q9 => ⟨fun qb => ?_, fun qb => ⟨(gls x c).length, hl, ?_, ?_⟩⟩⟩⟩
        · rw [hl, show (9 : Int32) = iv (9 : Nat) from rfl, Int32.le_iff_toInt_le, iv_toInt (by omega) (by omega), iv_toInt (by omega) (by omega)] at q9
          have e := gls_full (x := x) (c := c) (c2 := 64) (by omega) (by omega)
          refine fin C1 ho hj ⟨by rw [e]; exact hl, fun i hi => ?_⟩
          unfold gsF
          rw [e] at hi ⊢
          exact hr i hi
        · have hbit : lbit x c = false := by
            cases hx : lbit x c
            · rfl
            · exact absurd ((lcmp1 (by omega)).mpr hx) qb
          have eg : gls x (c + 1) = gls x c := by rw [gls, if_neg (by rw [hbit]; decide)]
          rw [iv_s]
          exact ih (c + 1) C1 (by omega) ho hj (by rw [eg]; exact hl) (by rw [eg]; exact hr)
        · rw [hl, show (9 : Int32) = iv (9 : Nat) from rfl, Int32.le_iff_toInt_le, iv_toInt (by omega) (by omega), iv_toInt (by omega) (by omega)] at q9
          omega
        · have hbit := (lcmp1 (by omega)).mp qb
          have eg : gls x (c + 1) = gls x c ++ [c] := by rw [gls, if_pos hbit]
          rw [iv_s]
          refine ih (c + 1) _ (by omega) (fun o a b => ?_) (fun j hj2 => ?_) ?_ (fun i hi => ?_)
          · rw [zup_oth a, zup_oth b]
            exact ho o a b
          · rw [zup_ne (Or.inr hj2), zup_oth (by decide)]
            exact hj j hj2
          · rw [zup_same, zup_oth (by decide), hl, iv_s, eg, List.length_append]
            rfl
          · rw [eg, List.length_append] at hi
            simp only [List.length_singleton] at hi
            rw [zup_oth (by decide), eg, getD_app]
            by_cases e : i = (gls x c).length
            · rw [e, zup_same, if_pos rfl]
            · rw [zup_ne (Or.inr e), if_neg e]
              exact hr i (by omega)
    exact loop 64 0 _ rfl (fun o a _ => zup_oth a) (fun j hj => zup_ne (Or.inr hj)) (by rw [zup_same]; rfl) (fun i hi => absurd hi (Nat.not_lt_zero _))
  · rw [show (9 : Int32) = iv (9 : Nat) from rfl, Int32.le_iff_toInt_le, iv_toInt (by omega) (by omega), iv_toInt (by omega) (by omega)] at q
    have h0 := h C (fun _ _ => rfl) (fun _ _ => rfl) (fun z => absurd z (by omega))
    rw [decide_eq_false (by omega)] at h0
    exact h0
theorem c4_stop {Q : Int32 → zM → Prop} {t p : Nat} (hn : n ≤ 9) (hgs : ∀ i, i < n → gs i < 64) (hG : G7 C gs n) (hT : T7 C gs n (2 ^ n)) (hp : p < 64) (ht : t < n) (h : Q (iv (stopF gs n (t + 1) (2 ^ n - 1) p : Nat)) C) : zCi shC g (d + 3) mX4_stop [.ref 116, .int (iv p), .int (iv t)] C Q := by
  have h1 := Nat.two_pow_pos n
  have h2 : 2 ^ n ≤ 2 ^ 9 := Nat.pow_le_pow_right (by decide) hn
  refine vX4_stop (c4_all hn hG.1 ?_)
  have loop : ∀ (f j m c : Nat), j + f = t + 1 → m < 2 ^ n → c < 64 → f ≤ cntB (fun k => m.testBit k) n → stopF gs n f m c = stopF gs n (t + 1) (2 ^ n - 1) p → zW shC g (d + 3) mX4_stop (zi Q) 11 [(0, .ref 116), (2, .int (iv t)), (3, .int (iv c)), (4, .int (iv m)), (5, .int (iv j))] [] C := by
    intro f
    induction f with
    | zero =>
      intro j m c hj hm5 hc hcn hst
      refine vX4_stop_11 ⟨fun _ => ?_, fun q => absurd ?_ q⟩
      · have e : c = stopF gs n (t + 1) (2 ^ n - 1) p := hst
        rw [e]
        exact h
      · rw [Int32.lt_iff_toInt_lt, iv_toInt (by omega) (by omega), iv_toInt (by omega) (by omega)]
        omega
    | succ f ih =>
      intro j m c hj hm5 hc hcn hst
      have hz : m ≠ 0 := fun z => by
        rw [z, show (fun k => (0 : Nat).testBit k) = fun _ => false from funext fun k => Nat.zero_testBit k] at hcn
        have : ∀ n, cntB (fun _ => false) n = 0 := fun n => by
          induction n with
          | zero => rfl
          | succ n ih => rw [cntB, ih]; rfl
        rw [this] at hcn
        omega
      obtain ⟨f1, f2, f3, f4⟩ := fst1_is hn hgs hm5 hz hc
      refine vX4_stop_11 ⟨fun q => ?_, fun _ => c4_firstStop hn hgs hG (fun i hi hb => hT m i hm5 hi hb) hm5 hc ?_⟩
      · exfalso
        rw [Int32.lt_iff_toInt_lt, iv_toInt (by omega) (by omega), iv_toInt (by omega) (by omega)] at q
        omega
      · rw [if_neg hz]
        refine ⟨fun _ => ⟨fst1 gs n m c, rfl, by omega, ?_⟩, fun q => ?_⟩
        · rw [hG.2 _ f1, sd1 (by omega) (by omega), iv_s]
          have hlt := sd_lt (m := m) (k := fst1 gs n m c) (by omega) f2
          refine ih (j + 1) _ _ (by omega) (by omega) (hgs _ f1) ?_ hst
          have one : ∀ N, cntB (fun k => m.testBit k) N ≤ cntB (fun k => (sd m (2 ^ fst1 gs n m c)).testBit k) N + 1 := by
            have gen : ∀ N, cntB (fun k => m.testBit k) N ≤ cntB (fun k => (sd m (2 ^ fst1 gs n m c)).testBit k) N + (if fst1 gs n m c < N then 1 else 0) := by
              intro N
              induction N with
              | zero => exact Nat.zero_le _
              | succ N ihN =>
                rw [cntB, cntB]
                have hb := sd_bit1 (m := m) (k := fst1 gs n m c) (j := N) (by omega)
                rw [hb]
                by_cases e : N = fst1 gs n m c
                · rw [if_neg (by omega)] at ihN
                  rw [if_pos (show fst1 gs n m c < N + 1 by omega)]
                  split <;> split <;> omega
                · rw [decide_eq_true e, Bool.and_true]
                  by_cases e2 : fst1 gs n m c < N
                  · rw [if_pos e2] at ihN
                    rw [if_pos (show fst1 gs n m c < N + 1 by omega)]
                    omega
                  · rw [if_neg e2] at ihN
                    omega
            intro N
            have := gen N
            split at this <;> omega
          have := one n
          omega
        · exfalso
          rw [show (-1 : Int32) = iv (-1) from rfl, iv_inj (by omega) (by omega)] at q
          omega
  have hfull : cntB (fun k => (2 ^ n - 1).testBit k) n = n := by
    have gen : ∀ N, N ≤ n → cntB (fun k => (2 ^ n - 1).testBit k) N = N := by
      intro N
      induction N with
      | zero => intro _; rfl
      | succ N ihN =>
        intro hN
        rw [cntB, ihN (by omega), Nat.testBit_two_pow_sub_one, decide_eq_true (by omega), if_pos rfl]
    exact gen n (Nat.le_refl n)
  exact loop (t + 1) 0 (2 ^ n - 1) p (by omega) (by omega) hp (by rw [hfull]; omega) rfl
theorem c8_route {Q : Int32 → zM → Prop} {s what : Int32} {x : Int64} (hi : IS w) (hq : IMo w) (hS : RS C 1 w) (hr : RMo C 3 w) (h : ∀ C' : zM, CEq C C' → Q (routeV w s x what) C') : zCi shC g (d + 6) mX8_route [.ref 0, .int s, .long x, .int what] C Q := by
  obtain ⟨n0, n6⟩ := hi.2.2.2.1
  unfold routeV at h
  have h0 := h C CEq.rfl
  refine vX8_route (c7_isSkater hS ⟨fun hb => ?_, fun hb => c7_areCells hS ⟨fun ha => ?_, fun ha => c4_take fun C1 h1 h1j hGT => ⟨fun hl => ?_, fun hl => ?_⟩⟩⟩)
  · rw [if_neg (fun z => by rw [hb] at z; exact Bool.noConfusion z.1)] at h0
    exact h0
  · rw [if_neg (fun z => by
      have := z.2
      unfold goalsB at this
      rw [ha] at this
      exact Bool.noConfusion this)] at h0
    exact h0
  · have hm : CEq C C1 := fun o a _ _ _ _ => h1 o (by omega)
    have hn := of_decide_eq_true hl
    have hgb : goalsB w x = true := by
      unfold goalsB
      rw [ha, hl]
      rfl
    have h9 := h C1 hm
    rw [if_pos ⟨hb, hgb⟩] at h9
    obtain ⟨hG, hT⟩ := hGT hn
    have hgs : ∀ i, i < (gls x 64).length → gsF x i < 64 := fun i hi => gsF_64 hi
    clear h h0 hGT hl hgb
    generalize (gls x 64).length = n at *
    generalize gsF x = gs at *
    obtain ⟨k, rfl, hk, hk2, hk3⟩ := sk_nat (z := 6) (by omega) hb
    obtain ⟨p, hp, hp64, hpI, hpc⟩ := place_rng hq hk
    rw [iv_tn (by omega), hp, iv_tn (by omega)] at h9
    have hp2 := Nat.two_pow_pos n
    have e6 : C1 6 k = iv p := by rw [h1 6 (by omega)]; exact (hr.2.2.1 k hk hk2).1.trans hp
    refine ⟨k, rfl, hk, ?_⟩
    rw [e6]
    refine ⟨fun q => ⟨fun q2 => ?_, fun q2 => ⟨fun q3 => ?_, fun q3 => ?_⟩⟩, fun q => c4_all hn hG.1 (c4_lead hn hgs hG (fun i hi hb => hT _ i (by omega) hi hb) (by omega) hp64 ?_)⟩
    · rw [if_neg q, if_neg (fun z => ?_)] at h9
      · exact h9
      · rw [Int32.lt_iff_toInt_lt, ti_sub (by simp only [Int32.reduceToInt]; omega) (by simp only [Int32.reduceToInt]; omega)] at q2
        simp only [Int32.reduceToInt] at q2
        omega
    · rw [if_neg q, if_neg (fun z => ?_)] at h9
      · exact h9
      · rw [hG.1, Int32.le_iff_toInt_le, iv_toInt (by omega) (by omega), ti_sub (by simp only [Int32.reduceToInt]; omega) (by simp only [Int32.reduceToInt]; omega)] at q3
        simp only [Int32.reduceToInt] at q3
        omega
    · rw [Int32.lt_iff_toInt_lt] at q2
      simp only [Int32.reduceToInt] at q2
      rw [hG.1, Int32.le_iff_toInt_le, iv_toInt (by omega) (by omega)] at q3
      obtain ⟨t, ht, ht2, htI⟩ := iv_nat (x := what - 10) (n := n) (by omega) (by omega)
      have ew : what = iv (t + 10 : Nat) := by
        have e1 : what = (what - 10) + 10 := (Int32.sub_add_cancel what 10).symm
        rw [e1, ht, show (10 : Int32) = iv 10 from rfl, iv_add]
        rfl
      have ewI : what.toInt = t + 10 := by
        rw [ew, iv_toInt (by omega) (by omega)]
        omega
      rw [if_neg q, if_pos (by omega), ewI, show ((t : Int) + 10).toNat - 9 = t + 1 by omega] at h9
      rw [ht]
      exact c4_stop hn hgs hG hT hp64 ht2 h9
    · rw [if_pos q] at h9
      exact h9
  · have hm : CEq C C1 := fun o a _ _ _ _ => h1 o (by omega)
    have h9 := h C1 hm
    rw [if_neg (fun z => by
      have := z.2
      unfold goalsB at this
      rw [hl, Bool.and_false] at this
      exact Bool.noConfusion this)] at h9
    exact h9
end RO8
