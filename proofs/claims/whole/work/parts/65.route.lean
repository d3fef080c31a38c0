/-! ROUTES: the fewest steps over a set of cells -/
def mnG (v : Nat → Nat) (p : Nat → Bool) : Nat → Nat
  | 0 => 100000
  | j + 1 => if p j = true then min (mnG v p j) (v j) else mnG v p j
theorem mnG_congr {v u : Nat → Nat} {p : Nat → Bool} : ∀ n, (∀ j, j < n → p j = true → v j = u j) → mnG v p n = mnG u p n
  | 0, _ => rfl
  | n + 1, h => by
    rw [mnG, mnG, mnG_congr n fun j hj => h j (by omega)]
    by_cases c : p n = true
    · rw [if_pos c, if_pos c, h n (by omega) c]
    · rw [if_neg c, if_neg c]
theorem mnG_le {v : Nat → Nat} {p : Nat → Bool} {j : Nat} : ∀ n, j < n → p j = true → mnG v p n ≤ v j
  | 0, h, _ => by omega
  | n + 1, h, hp => by
    rw [mnG]
    by_cases e : j = n
    · subst e
      rw [if_pos hp]
      exact Nat.min_le_right _ _
    · have ih := mnG_le (v := v) (p := p) (j := j) n (by omega) hp
      split
      · exact Nat.le_trans (Nat.min_le_left _ _) ih
      · exact ih
theorem mnG_mem {v : Nat → Nat} {p : Nat → Bool} : ∀ n, mnG v p n = 100000 ∨ ∃ j, j < n ∧ p j = true ∧ mnG v p n = v j
  | 0 => Or.inl rfl
  | n + 1 => by
    rw [mnG]
    by_cases c : p n = true
    · rw [if_pos c]
      rcases Nat.le_total (mnG v p n) (v n) with q | q
      · rw [Nat.min_eq_left q]
        rcases mnG_mem (v := v) (p := p) n with h | ⟨j, h1, h2, h3⟩
        · exact Or.inl h
        · exact Or.inr ⟨j, by omega, h2, h3⟩
      · rw [Nat.min_eq_right q]
        exact Or.inr ⟨n, by omega, c, rfl⟩
    · rw [if_neg c]
      rcases mnG_mem (v := v) (p := p) n with h | ⟨j, h1, h2, h3⟩
      · exact Or.inl h
      · exact Or.inr ⟨j, by omega, h2, h3⟩
theorem mnG_top {v : Nat → Nat} {p : Nat → Bool} : ∀ n, mnG v p n ≤ 100000
  | 0 => Nat.le_refl _
  | n + 1 => by
    have := mnG_top (v := v) (p := p) n
    rw [mnG]
    split
    · exact Nat.le_trans (Nat.min_le_left _ _) this
    · exact this
def lov (gs : Nat → Nat) (n : Nat) (m c : Nat) : Nat :=
  if m = 0 then 0 else mnG (fun k => if h : m < 512 ∧ m.testBit k = true then distN c (gs k) + lov gs n (sd m (2 ^ k)) (gs k) else 0) (fun k => m.testBit k) n
termination_by m
decreasing_by exact sd_lt h.1 h.2
/-- by way of cell k first -/
def vov (gs : Nat → Nat) (n m c k : Nat) : Nat := distN c (gs k) + lov gs n (sd m (2 ^ k)) (gs k)
theorem lov_eq {gs : Nat → Nat} {n m c : Nat} (hm : m < 512) : lov gs n m c = if m = 0 then 0 else mnG (vov gs n m c) (fun k => m.testBit k) n := by
  rw [lov]
  split
  · rfl
  · refine mnG_congr n fun j _ hp => ?_
    rw [dif_pos ⟨hm, hp⟩]
    rfl
theorem lov_0 {gs : Nat → Nat} {n c : Nat} : lov gs n 0 c = 0 := by
  rw [lov_eq (by decide), if_pos rfl]
theorem lov_le {gs : Nat → Nat} {n : Nat} (hn : n ≤ 9) (hg : ∀ i, i < n → gs i < 64) : ∀ (b m c : Nat), m ≤ b → m < 2 ^ n → c < 64 → lov gs n m c ≤ 14 * m
  | 0, m, c, hb, hm, hc => by
    obtain rfl : m = 0 := by omega
    rw [lov_0]
    exact Nat.zero_le _
  | b + 1, m, c, hb, hm, hc => by
    have h2 : 2 ^ n ≤ 2 ^ 9 := Nat.pow_le_pow_right (by decide) hn
    rw [lov_eq (by omega)]
    split
    · exact Nat.zero_le _
    · rename_i hz
      obtain ⟨k, hk⟩ := Nat.exists_testBit_of_ne_zero hz
      have hkn := bit_in hm hk
      have h1 := mnG_le (v := vov gs n m c) (p := fun k => m.testBit k) n hkn hk
      have h3 := sd_lt (m := m) (k := k) (by omega) hk
      have h4 := lov_le hn hg b (sd m (2 ^ k)) (gs k) (by omega) (by omega) (hg k hkn)
      have h5 := distN_le hc (hg k hkn)
      have e : vov gs n m c k = distN c (gs k) + lov gs n (sd m (2 ^ k)) (gs k) := rfl
      omega
/-- the first cell of the route -/
def fsF (gs : Nat → Nat) (n m c : Nat) : Nat → Nat → Nat
  | 0, k => k
  | f + 1, k => if m.testBit k = true ∧ vov gs n m c k = lov gs n m c then k else fsF gs n m c f (k + 1)
def fst1 (gs : Nat → Nat) (n m c : Nat) : Nat := fsF gs n m c n 0
theorem fsF_eq {gs : Nat → Nat} {n m c b : Nat} (hb : m.testBit b = true ∧ vov gs n m c b = lov gs n m c) : ∀ f k, k ≤ b → b < k + f → (∀ j, k ≤ j → j < b → ¬ (m.testBit j = true ∧ vov gs n m c j = lov gs n m c)) → fsF gs n m c f k = b
  | 0, k, h1, h2, _ => by omega
  | f + 1, k, h1, h2, h3 => by
    rw [fsF]
    by_cases e : k = b
    · subst e
      rw [if_pos hb]
    · rw [if_neg (h3 k (Nat.le_refl k) (by omega))]
      exact fsF_eq hb f (k + 1) (by omega) (by omega) fun j h4 h5 => h3 j (by omega) h5
/-- a least one is there -/
theorem lov_min {gs : Nat → Nat} {n m c b : Nat} (hn : n ≤ 9) (hg : ∀ i, i < n → gs i < 64) (hm : m < 2 ^ n) (hc : c < 64) (hb : m.testBit b = true) (h : ∀ k, k < n → m.testBit k = true → vov gs n m c b ≤ vov gs n m c k) : lov gs n m c = vov gs n m c b := by
  have h2 : 2 ^ n ≤ 2 ^ 9 := Nat.pow_le_pow_right (by decide) hn
  have hl := lov_le hn hg m m c (Nat.le_refl m) hm hc
  have hbn := bit_in hm hb
  have hz : m ≠ 0 := fun z => by
    rw [z, Nat.zero_testBit] at hb
    exact Bool.noConfusion hb
  rw [lov_eq (by omega), if_neg hz] at hl ⊢
  have h1 := mnG_le (v := vov gs n m c) (p := fun k => m.testBit k) n hbn hb
  rcases mnG_mem (v := vov gs n m c) (p := fun k => m.testBit k) n with q | ⟨j, q1, q2, q3⟩
  · omega
  · have := h j q1 q2
    omega
theorem vov_ge {gs : Nat → Nat} {n m c k : Nat} (hn : n ≤ 9) (hm : m < 2 ^ n) (hk : m.testBit k = true) : lov gs n m c ≤ vov gs n m c k := by
  have h2 : 2 ^ n ≤ 2 ^ 9 := Nat.pow_le_pow_right (by decide) hn
  have hz : m ≠ 0 := fun z => by
    rw [z, Nat.zero_testBit] at hk
    exact Bool.noConfusion hk
  rw [lov_eq (by omega), if_neg hz]
  exact mnG_le (v := vov gs n m c) (p := fun k => m.testBit k) n (bit_in hm hk) hk
theorem fst1_eq {gs : Nat → Nat} {n m c b : Nat} (hn : n ≤ 9) (hg : ∀ i, i < n → gs i < 64) (hm : m < 2 ^ n) (hc : c < 64) (hb : m.testBit b = true) (h : ∀ k, k < n → m.testBit k = true → vov gs n m c b ≤ vov gs n m c k) (h3 : ∀ k, k < b → m.testBit k = true → vov gs n m c b < vov gs n m c k) : fst1 gs n m c = b := by
  have e := lov_min hn hg hm hc hb h
  refine fsF_eq ⟨hb, e.symm⟩ n 0 (by omega) (by have := bit_in hm hb; omega) fun j _ h5 h6 => ?_
  have := h3 j h5 h6.1
  have := h6.2
  omega
/-- which it is -/
theorem fst1_is {gs : Nat → Nat} {n m c : Nat} (hn : n ≤ 9) (hg : ∀ i, i < n → gs i < 64) (hm : m < 2 ^ n) (hz : m ≠ 0) (hc : c < 64) : fst1 gs n m c < n ∧ m.testBit (fst1 gs n m c) = true ∧ vov gs n m c (fst1 gs n m c) = lov gs n m c ∧ ∀ k, k < fst1 gs n m c → ¬ (m.testBit k = true ∧ vov gs n m c k = lov gs n m c) := by
  have h2 : 2 ^ n ≤ 2 ^ 9 := Nat.pow_le_pow_right (by decide) hn
  have hl := lov_le hn hg m m c (Nat.le_refl m) hm hc
  have hex : ∃ j, j < n ∧ m.testBit j = true ∧ vov gs n m c j = lov gs n m c := by
    rw [lov_eq (by omega), if_neg hz] at hl ⊢
    rcases mnG_mem (v := vov gs n m c) (p := fun k => m.testBit k) n with q | ⟨j, q1, q2, q3⟩
    · omega
    · exact ⟨j, q1, q2, q3.symm⟩
  obtain ⟨j, j1, j2, j3⟩ := hex
  have gen : ∀ f k, k + f = n → (∃ j, k ≤ j ∧ j < n ∧ m.testBit j = true ∧ vov gs n m c j = lov gs n m c) → (∀ i, i < k → ¬ (m.testBit i = true ∧ vov gs n m c i = lov gs n m c)) → fsF gs n m c f k < n ∧ m.testBit (fsF gs n m c f k) = true ∧ vov gs n m c (fsF gs n m c f k) = lov gs n m c ∧ ∀ i, i < fsF gs n m c f k → ¬ (m.testBit i = true ∧ vov gs n m c i = lov gs n m c) := by
    intro f
    induction f with
    | zero =>
      rintro k hk ⟨j, a, b, _⟩
      omega
    | succ f ih =>
      rintro k hk ⟨j, a, b, e⟩ hno
      rw [fsF]
      by_cases q : m.testBit k = true ∧ vov gs n m c k = lov gs n m c
      · rw [if_pos q]
        exact ⟨by omega, q.1, q.2, hno⟩
      · rw [if_neg q]
        refine ih (k + 1) (by omega) ⟨j, ?_, b, e⟩ fun i hi => ?_
        · rcases Nat.lt_or_eq_of_le a with z | z
          · exact z
          · subst z
            exact absurd e q
        · by_cases z : i = k
          · rw [z]
            exact q
          · exact hno i (by omega)
  exact gen n 0 (by omega) ⟨j, by omega, j1, j2, j3⟩ fun i hi => by omega
/-- i cells on -/
def stopF (gs : Nat → Nat) (n : Nat) : Nat → Nat → Nat → Nat
  | 0, _, c => c
  | f + 1, m, c => stopF gs n f (sd m (2 ^ fst1 gs n m c)) (gs (fst1 gs n m c))
def gsF (x : Int64) (i : Nat) : Nat := (gls x 64).getD i 0
noncomputable def allB (w : Nat → Int32) (x : Int64) : Bool := @decide (∀ c : Nat, c < 64 → lbit x c = true → cellB (w 150) (w 151) (iv c) = true) (Classical.propDecidable _)
theorem allB_t {w : Nat → Int32} {x : Int64} (h : ∀ c : Nat, c < 64 → lbit x c = true → cellB (w 150) (w 151) (iv c) = true) : allB w x = true := @decide_eq_true _ (Classical.propDecidable _) h
theorem allB_f {w : Nat → Int32} {x : Int64} (h : ¬ ∀ c : Nat, c < 64 → lbit x c = true → cellB (w 150) (w 151) (iv c) = true) : allB w x = false := @decide_eq_false _ (Classical.propDecidable _) h
noncomputable def goalsB (w : Nat → Int32) (x : Int64) : Bool := allB w x && decide ((gls x 64).length ≤ 9)
noncomputable def routeV (w : Nat → Int32) (s : Int32) (x : Int64) (what : Int32) : Int32 :=
  if skB (w 154) s = true ∧ goalsB w x = true then
    (if what = 0 then iv (lov (gsF x) (gls x 64).length (2 ^ (gls x 64).length - 1) (w (3 + s.toInt.toNat)).toInt.toNat : Nat)
    else if 10 ≤ what.toInt ∧ what.toInt < 10 + (gls x 64).length then iv (stopF (gsF x) (gls x 64).length (what.toInt.toNat - 9) (2 ^ (gls x 64).length - 1) (w (3 + s.toInt.toNat)).toInt.toNat : Nat) else -1)
  else -1
theorem gsF_64 {x : Int64} {i : Nat} (h : i < (gls x 64).length) : gsF x i < 64 := by
  unfold gsF
  rw [List.getD_eq_getElem?_getD, List.getElem?_eq_getElem h]
  exact (gls_mem 64 (List.getElem_mem h)).1
theorem lesser_iv {a b : Nat} (ha : a < 2147483648) (hb : b < 2147483648) : (if iv a < iv b then iv a else iv b) = iv (min a b : Nat) := by
  simp only [Int32.lt_iff_toInt_lt]
  rw [iv_toInt (by omega) (by omega), iv_toInt (by omega) (by omega)]
  split
  · congr 1
    omega
  · congr 1
    omega
theorem nine_at (s i : Nat) : ((9 : Int32) * iv s) + iv i = iv (9 * s + i : Nat) := by
  rw [show (9 : Int32) = iv 9 from rfl, iv_mul, iv_add]
  congr 1
theorem at_nine (s i : Nat) : (iv s * (9 : Int32)) + iv i = iv (9 * s + i : Nat) := by
  rw [Int32.mul_comm]
  exact nine_at s i
/-- the reference's goals; its rows of routes, for sets below b -/
def G9 (M : zM) (gs : Nat → Nat) (n : Nat) : Prop := M 0 38 = iv n ∧ ∀ i, i < n → M 16 i = iv (gs i)
def T9 (M : zM) (gs : Nat → Nat) (n b : Nat) : Prop := ∀ s i, s < b → i < n → s.testBit i = false → M 17 (9 * s + i) = iv (lov gs n s (gs i))
def G7 (C : zM) (gs : Nat → Nat) (n : Nat) : Prop := C 116 1 = iv n ∧ ∀ i, i < n → C 117 i = iv (gs i)
def T7 (C : zM) (gs : Nat → Nat) (n b : Nat) : Prop := ∀ s i, s < b → i < n → s.testBit i = true → C 118 (9 * s + i) = iv (lov gs n (sd s (2 ^ i)) (gs i))
section RO9
variable {g : zG} {d : Nat} {M : zM} {gs : Nat → Nat} {n : Nat}
theorem c9_laysGoals {Q : Bool → zM → Prop} {x : Int64} (hw : WHw (M 1)) (h : ∀ M' : zM, (∀ o, o ≠ 0 → o ≠ 16 → M' o = M o) → (∀ j, j ≠ 38 → M' 0 j = M 0 j) → (goalsB (M 1) x = true → G9 M' (gsF x) (gls x 64).length) → Q (goalsB (M 1) x) M') : zCz shM g (d + 3) mX9_laysGoals [.ref 0, .long x] M Q := by
  refine vX9_laysGoals ?_
  have loop : ∀ (f c : Nat) (M1 : zM), c + f = 64 → (∀ o, o ≠ 0 → o ≠ 16 → M1 o = M o) → (∀ j, j ≠ 38 → M1 0 j = M 0 j) → M1 0 38 = iv (gls x c).length → (gls x c).length ≤ 9 → (∀ i, i < (gls x c).length → M1 16 i = iv ((gls x c).getD i 0 : Nat)) → (∀ a, a < c → lbit x a = true → cellB (M 1 150) (M 1 151) (iv a) = true) → zW shM g (d + 3) mX9_laysGoals (zz Q) 7 [(0, .ref 0), (1, .long x), (3, .int (iv c))] [] M1 := by
    intro f
    induction f with
    | zero =>
      intro c M1 hc ho hj hl h9 hr ha
      obtain rfl : c = 64 := by omega
      have e : goalsB (M 1) x = true := by
        unfold goalsB
        rw [allB_t ha, decide_eq_true h9]
        rfl
      have h0 := h M1 ho hj (fun _ => ⟨hl, hr⟩)
      rw [e] at h0
      exact vX9_laysGoals_7 ⟨fun _ => h0, fun c => absurd (by decide) c⟩
    | succ f ih =>
      intro c M1 hc ho hj hl h9 hr ha
      have hw1 : WHw (M1 1) := by rw [ho 1 (by decide) (by decide)]; exact hw
      refine vX9_laysGoals_7 ⟨fun q => (not_le_iv (a := 64) (b := c) (by omega) (by omega) q).elim, fun _ => ⟨fun q => c9_isCell hw1 ⟨fun hb => ?_, fun hb => ⟨fun q9 => ⟨(gls x c).length, hl, ?_, ?_⟩, fun q9 => ?_⟩⟩, fun q => ?_⟩⟩
      · have hbit : lbit x c = true := by
          cases hx : lbit x c
          · exact absurd ((lcmp0 (by omega)).mpr hx) q
          · rfl
        have e : goalsB (M 1) x = false := by
          unfold goalsB
          rw [allB_f (fun z => by
            have := z c (by omega) hbit
            rw [ho 1 (by decide) (by decide), this] at hb
            exact Bool.noConfusion hb), Bool.false_and]
        have h0 := h M1 ho hj (fun z => by rw [e] at z; exact Bool.noConfusion z)
        rw [e] at h0
        exact h0
      · refine Nat.lt_of_le_of_ne h9 fun z => q9 ?_
        rw [hl, z]
        rfl
      · have hbit : lbit x c = true := by
          cases hx : lbit x c
          · exact absurd ((lcmp0 (by omega)).mpr hx) q
          · rfl
        have h8 : (gls x c).length < 9 := by
          refine Nat.lt_of_le_of_ne h9 fun z => q9 ?_
          rw [hl, z]
          rfl
        have eg : gls x (c + 1) = gls x c ++ [c] := by rw [gls, if_pos hbit]
        rw [iv_s]
        refine ih (c + 1) _ (by omega) (fun o a b => ?_) (fun j hj2 => ?_) ?_ ?_ (fun i hi => ?_) (fun a ha2 hb2 => ?_)
        · rw [zup_oth a, zup_oth b]
          exact ho o a b
        · rw [zup_ne (Or.inr hj2), zup_oth (by decide)]
          exact hj j hj2
        · rw [zup_same, zup_oth (by decide), hl, iv_s, eg, List.length_append]
          rfl
        · rw [eg, List.length_append]
          exact h8
        · rw [eg, List.length_append] at hi
          simp only [List.length_singleton] at hi
          rw [zup_oth (by decide), eg, getD_app]
          by_cases e : i = (gls x c).length
          · rw [e, zup_same, if_pos rfl]
          · rw [zup_ne (Or.inr e), if_neg e]
            exact hr i (by omega)
        · by_cases e : a = c
          · rw [e]
            rw [ho 1 (by decide) (by decide)] at hb
            exact hb
          · exact ha a (by omega) hb2
      · have hbit : lbit x c = true := by
          cases hx : lbit x c
          · exact absurd ((lcmp0 (by omega)).mpr hx) q
          · rfl
        have el : (gls x c).length = 9 := by
          rw [hl, show (9 : Int32) = iv (9 : Nat) from rfl, iv_inj (by omega) (by omega)] at q9
          omega
        have eg : gls x (c + 1) = gls x c ++ [c] := by rw [gls, if_pos hbit]
        have hle := gls_le (x := x) (c := c + 1) (c2 := 64) (by omega)
        rw [eg, List.length_append, el] at hle
        simp only [List.length_singleton] at hle
        have e : goalsB (M 1) x = false := by
          unfold goalsB
          rw [decide_eq_false (by omega), Bool.and_false]
        have h0 := h M1 ho hj (fun z => by rw [e] at z; exact Bool.noConfusion z)
        rw [e] at h0
        exact h0
      · have hbit := (lcmp0 (by omega)).mp q
        have eg : gls x (c + 1) = gls x c := by rw [gls, if_neg (by rw [hbit]; decide)]
        rw [iv_s]
        refine ih (c + 1) M1 (by omega) ho hj (by rw [eg]; exact hl) (by rw [eg]; exact h9) (by rw [eg]; exact hr) (fun a ha2 hb2 => ?_)
        by_cases e : a = c
        · rw [e, hbit] at hb2
          exact Bool.noConfusion hb2
        · exact ha a (by omega) hb2
  exact loop 64 0 _ rfl (fun o a _ => zup_oth a) (fun j hj => zup_ne (Or.inr hj)) (by rw [zup_same]; rfl) (Nat.zero_le _) (fun i hi => absurd hi (Nat.not_lt_zero _)) (fun a ha => absurd ha (Nat.not_lt_zero _))
theorem c9_all {Q : Int32 → zM → Prop} (hn : n ≤ 9) (hg : M 0 38 = iv n) (h : Q (iv (2 ^ n - 1 : Nat)) M) : zCi shM g d mX9_all [.ref 0] M Q := by
  refine vX9_all ?_
  have h1 := Nat.two_pow_pos n
  have e : (1 : Int32) <<< (M 0 38 &&& 31) - 1 = iv (2 ^ n - 1 : Nat) := by
    rw [hg, one_sl (by omega), show (1 : Int32) = iv 1 from rfl, iv_sub]
    congr 1
    omega
  rw [e]
  exact h
theorem c9_leastOver {Q : Int32 → zM → Prop} {m c : Nat} (hn : n ≤ 9) (hgs : ∀ i, i < n → gs i < 64) (hG : G9 M gs n) (hT : T9 M gs n m) (hm : m < 2 ^ n) (hc : c < 64) (h : Q (iv (lov gs n m c : Nat)) M) : zCi shM g (d + 1) mX9_leastOver [.ref 0, .int (iv m), .int (iv c)] M Q := by
  have h2 : 2 ^ n ≤ 2 ^ 9 := Nat.pow_le_pow_right (by decide) hn
  have hm5 : m < 512 := by omega
  rw [lov_eq hm5] at h
  have loop : ∀ (f k a : Nat), k + f = n → a ≤ 100000 → (∀ b, (m = 0 → b = 0) → (m ≠ 0 → b = mnG (vov gs n m c) (fun k => m.testBit k) k) → a = b) → zW shM g (d + 1) mX9_leastOver (zi Q) 15 [(0, .ref 0), (1, .int (iv m)), (2, .int (iv c)), (3, .int (iv a)), (4, .int (iv k))] [] M := by
    intro f
    induction f with
    | zero =>
      intro k a hk ha hb
      obtain rfl : k = n := by omega
      refine vX9_leastOver_15 ⟨fun _ => ?_, fun q => absurd ?_ q⟩
      · rw [hb _ (fun z => if_pos z) (fun z => if_neg z)]
        exact h
      · rw [hG.1]
        exact Int32.le_refl _
    | succ f ih =>
      intro k a hk ha hb
      refine vX9_leastOver_15 ⟨fun q => ?_, fun _ => ⟨fun q => ?_, fun q => ⟨k, rfl, by omega, ?_⟩⟩⟩
      · rw [hG.1] at q
        exact (not_le_iv (a := n) (b := k) (by omega) (by omega) q).elim
      · rw [bitAt1 (by omega), bit_iv (by omega)] at q
        rw [iv_s]
        refine ih (k + 1) a (by omega) ha fun b b0 b1 => hb b b0 fun z => ?_
        rw [b1 z, mnG, if_neg q]
      · rw [bitAt1 (by omega), bit_iv (by omega)] at q
        have hz : m ≠ 0 := fun z => by
          rw [z, Nat.zero_testBit] at q
          exact Bool.noConfusion q
        rw [hG.2 k (by omega)]
        refine c9_apart hc (hgs k (by omega)) (fun v1 e1 => ⟨9 * sd m (2 ^ k) + k, ?_, ?_, ?_⟩)
        · rw [e1, sd1 hm5 (by omega), nine_at]
        · have := sd_le (a := m) (b := 2 ^ k)
          omega
        · have hlt := sd_lt hm5 q
          have hsb : (sd m (2 ^ k)).testBit k = false := by
            rw [sd_bit1 hm5, decide_eq_false (by omega), Bool.and_false]
          have h3 := lov_le hn hgs _ (sd m (2 ^ k)) (gs k) (Nat.le_refl _) (by omega) (hgs k (by omega))
          have h5 := distN_le hc (hgs k (by omega))
          rw [hT _ k hlt (by omega) hsb, iv_add, ← Int.natCast_add]
          have e : vov gs n m c k = distN c (gs k) + lov gs n (sd m (2 ^ k)) (gs k) := rfl
          rw [← e]
          refine c9_lesser ?_
          rw [lesser_iv (by omega) (by omega), iv_s]
          refine ih (k + 1) _ (by omega) (Nat.le_trans (Nat.min_le_left _ _) ha) fun b b0 b1 => ?_
          rw [b1 hz, mnG, if_pos q, hb _ (fun z => absurd z hz) (fun _ => rfl)]
  refine vX9_leastOver ⟨fun q => ?_, fun q => ?_⟩
  · have hz : m ≠ 0 := fun z => q (by rw [z]; rfl)
    exact loop n 0 100000 (by omega) (Nat.le_refl _) fun b _ b1 => (b1 hz).symm
  · have hz : m = 0 := (iv_zero_iff hm5).mp q
    exact loop n 0 0 (by omega) (Nat.zero_le _) fun b b0 _ => (b0 hz).symm
theorem c9_laysRoutes {Q : zM → Prop} (hn : n ≤ 9) (hgs : ∀ i, i < n → gs i < 64) (hG : G9 M gs n) (h : ∀ M' : zM, (∀ o, o ≠ 17 → M' o = M o) → T9 M' gs n (2 ^ n) → Q M') : zCv shM g (d + 2) mX9_laysRoutes [.ref 0, .int (iv (2 ^ n - 1 : Nat))] M Q := by
  have h1 := Nat.two_pow_pos n
  have h2 : 2 ^ n ≤ 2 ^ 9 := Nat.pow_le_pow_right (by decide) hn
  refine vX9_laysRoutes ?_
  have loop : ∀ (f m : Nat) (M1 : zM), m + f = 2 ^ n → (∀ o, o ≠ 17 → M1 o = M o) → T9 M1 gs n m → zW shM g (d + 2) mX9_laysRoutes (zv Q) 2 [(0, .ref 0), (1, .int (iv (2 ^ n - 1 : Nat))), (2, .int (iv m))] [] M1 := by
    intro f
    induction f with
    | zero =>
      intro m M1 hm ho hT
      obtain rfl : m = 2 ^ n := by omega
      refine vX9_laysRoutes_2 (c9_all hn (by rw [ho 0 (by decide)]; exact hG.1) ⟨fun _ => h M1 ho hT, fun q => absurd ?_ q⟩)
      rw [Int32.lt_iff_toInt_lt, iv_toInt (by omega) (by omega), iv_toInt (by omega) (by omega)]
      omega
    | succ f ih =>
      intro m M1 hm ho hT
      have inner : ∀ (fu i : Nat) (M2 : zM), i + fu = n → (∀ o, o ≠ 17 → M2 o = M o) → T9 M2 gs n m → (∀ j, j < i → m.testBit j = false → M2 17 (9 * m + j) = iv (lov gs n m (gs j) : Nat)) → zW shM g (d + 2) mX9_laysRoutes (zv Q) 23 [(0, .ref 0), (1, .int (iv (2 ^ n - 1 : Nat))), (2, .int (iv m)), (3, .int (iv i))] [] M2 := by
        intro fu
        induction fu with
        | zero =>
          intro i M2 hi ho2 hT2 hr
          obtain rfl : i = n := by omega
          refine vX9_laysRoutes_23 ⟨fun _ => ?_, fun q => absurd ?_ q⟩
          · rw [iv_s]
            refine ih (m + 1) M2 (by omega) ho2 fun s j hs hj hb => ?_
            by_cases e : s = m
            · rw [e] at hb ⊢
              exact hr j hj hb
            · exact hT2 s j (by omega) hj hb
          · rw [ho2 0 (by decide), hG.1]
            exact Int32.le_refl _
        | succ fu ihf =>
          intro i M2 hi ho2 hT2 hr
          have hG2 : G9 M2 gs n := by
            unfold G9
            rw [ho2 0 (by decide), ho2 16 (by decide)]
            exact hG
          refine vX9_laysRoutes_23 ⟨fun q => ?_, fun _ => ⟨fun q => ?_, fun q => ⟨i, rfl, by omega, ?_⟩⟩⟩
          · rw [ho2 0 (by decide), hG.1] at q
            exact (not_le_iv (a := n) (b := i) (by omega) (by omega) q).elim
          · rw [iv_s]
            refine ihf (i + 1) M2 (by omega) ho2 hT2 fun j hj hb => ?_
            by_cases e : j = i
            · exfalso
              rw [e] at hb
              apply q
              rw [bitAt0 (by omega), bit_iv (by omega)]
              exact hb
            · exact hr j (by omega) hb
          · rw [bitAt0 (by omega), bit_iv (by omega)] at q
            rw [hG2.2 i (by omega)]
            refine c9_leastOver hn hgs hG2 hT2 (by omega) (hgs i (by omega)) ⟨9 * m + i, nine_at m i, by omega, ?_⟩
            rw [iv_s]
            refine ihf (i + 1) _ (by omega) (fun o ho3 => by rw [zup_oth ho3]; exact ho2 o ho3) (fun s j hs hj hb => ?_) fun j hj hb => ?_
            · rw [zup_ne (by omega)]
              exact hT2 s j hs hj hb
            · by_cases e : j = i
              · rw [e, zup_same]
              · rw [zup_ne (by omega)]
                exact hr j (by omega) hb
      refine vX9_laysRoutes_2 (c9_all hn (by rw [ho 0 (by decide)]; exact hG.1) ⟨fun q => ?_, fun _ => ⟨fun _ => inner n 0 M1 (by omega) ho hT fun j hj => by omega, fun q => absurd ?_ q⟩⟩)
      · exfalso
        rw [Int32.lt_iff_toInt_lt, iv_toInt (by omega) (by omega), iv_toInt (by omega) (by omega)] at q
        omega
      · rw [iv_sd (by omega), sd_full hn (by omega)]
        rfl
  exact loop (2 ^ n) 0 M (by omega) (fun _ _ => rfl) fun s i hs => by omega
theorem c9_route {Q : Int32 → zM → Prop} {s what : Int32} {x : Int64} (hi : IS (M 1)) (hq : IMo (M 1)) (h : ∀ M' : zM, MEq M M' → Q (routeV (M 1) s x what) M') : zCi shM g (d + 4) mX9_route [.ref 0, .int s, .long x, .int what] M Q := by
  obtain ⟨n0, n6⟩ := hi.2.2.2.1
  unfold routeV at h
  refine vX9_route (c9_isSkater ⟨n0, n6⟩ ⟨fun hb => ?_, fun hb => c9_laysGoals hi.1 (fun M1 h1 h1j hG => ⟨fun hg => ?_, fun hg => ?_⟩)⟩)
  · have h0 := h M MEq.rfl
    rw [if_neg (fun z => by rw [hb] at z; exact Bool.noConfusion z.1)] at h0
    exact h0
  · have hm : MEq M M1 := by
      refine ⟨h1 1 (by decide) (by decide), h1 2 (by decide) (by decide), h1 3 (by decide) (by decide), h1 12 (by decide) (by decide), h1j 4 (by decide), h1j 5 (by decide), h1j 23 (by decide), h1j 30 (by decide), h1j 32 (by decide)⟩
    have h0 := h M1 hm
    rw [if_neg (fun z => by rw [hg] at z; exact Bool.noConfusion z.2)] at h0
    exact h0
  · rw [if_pos ⟨hb, hg⟩] at h
    have hm : MEq M M1 := by
      refine ⟨h1 1 (by decide) (by decide), h1 2 (by decide) (by decide), h1 3 (by decide) (by decide), h1 12 (by decide) (by decide), h1j 4 (by decide), h1j 5 (by decide), h1j 23 (by decide), h1j 30 (by decide), h1j 32 (by decide)⟩
    have hG1 := hG hg
    have hn : (gls x 64).length ≤ 9 := by
      unfold goalsB at hg
      exact of_decide_eq_true (Bool.and_eq_true_iff.mp hg).2
    have hgs : ∀ i, i < (gls x 64).length → gsF x i < 64 := fun i hi => gsF_64 hi
    generalize (gls x 64).length = n at *
    generalize gsF x = gs at *
    obtain ⟨k, rfl, hk, hk2, hk3⟩ := sk_nat (z := 6) (by omega) hb
    obtain ⟨p, hp, hp64, hpI, hpc⟩ := place_rng hq hk
    rw [iv_tn (by omega), hp, iv_tn (by omega)] at h
    have hp2 := Nat.two_pow_pos n
    have hp9 : 2 ^ n ≤ 2 ^ 9 := Nat.pow_le_pow_right (by decide) hn
    have main : (what = 0 ∨ (10 ≤ what.toInt ∧ what.toInt < 10 + n)) → zW shM g (d + 4) mX9_route (zi Q) 40 [(0, .ref 0), (1, .int (iv k)), (4, .int what)] [] M1 := by
      intro hwh
      refine vX9_route_40 (c9_all hn hG1.1 (c9_laysRoutes hn hgs hG1 fun M2 h2 hT => ?_))
      have hG2 : G9 M2 gs n := by
        unfold G9
        rw [h2 0 (by decide), h2 16 (by decide)]
        exact hG1
      have hm2 : MEq M M2 := hm.trans (MEq.of fun o ho => h2 o (by omega))
      have e1 : M2 1 (3 + k) = iv p := by rw [h2 1 (by decide), h1 1 (by decide) (by decide)]; exact hp
      refine c9_all hn hG2.1 ⟨3 + k, iv_n 3 k, by omega, fun q => ?_, fun q => ?_⟩
      · have hw2 : 10 ≤ what.toInt ∧ what.toInt < 10 + n := hwh.resolve_left q
        rw [if_neg q, if_pos hw2] at h
        obtain ⟨t, rfl, ht, htI⟩ := iv_nat (x := what) (n := 20) (by omega) (by omega)
        rw [iv_tn (by omega)] at h
        rw [e1]
        have loop : ∀ (f j m c : Nat), j + f = t + 1 → m < 2 ^ n → c < 64 → f ≤ cntB (fun k => m.testBit k) n → stopF gs n f m c = stopF gs n (t - 9) (2 ^ n - 1) p → zW shM g (d + 4) mX9_route (zi Q) 82 [(0, .ref 0), (4, .int (iv t)), (5, .int (iv m)), (6, .int (iv c)), (7, .int (iv j))] [] M2 := by
          intro f
          induction f with
          | zero =>
            intro j m c hj hm5 hc hcn hst
            refine vX9_route_82 ⟨fun _ => ?_, fun q => absurd ?_ q⟩
            · have e : c = stopF gs n (t - 9) (2 ^ n - 1) p := hst
              rw [e]
              exact h M2 hm2
            · rw [Int32.lt_iff_toInt_lt, iv_toInt (by omega) (by omega), iv_toInt (by omega) (by omega)]
              omega
          | succ f ih =>
            intro j m c hj hm5 hc hcn hst
            have hz : m ≠ 0 := fun z => by
              rw [z, show (fun k => (0 : Nat).testBit k) = fun _ => false from funext fun k => Nat.zero_testBit k] at hcn
              have : ∀ n, cntB (fun _ => false) n = 0 := fun n => by
                induction n with
                | zero => rfl
                | succ n ih => rw [cntB, ih]; rfl
              rw [this] at hcn
              omega
            obtain ⟨f1, f2, f3, f4⟩ := fst1_is hn hgs hm5 hz hc
            have inner : ∀ (fu i : Nat), i + fu = fst1 gs n m c → zW shM g (d + 4) mX9_route (zi Q) 92 [(0, .ref 0), (4, .int (iv t)), (5, .int (iv m)), (6, .int (iv c)), (7, .int (iv j)), (8, .int (iv i))] [] M2 := by
              have at1 : ∀ i, i < n → m.testBit i = true → (vov gs n m c i = lov gs n m c → zW shM g (d + 4) mX9_route (zi Q) 82 [(0, .ref 0), (4, .int (iv t)), (5, .int (iv (sd m (2 ^ i) : Nat))), (6, .int (iv (gs i))), (7, .int (iv j + 1))] [] M2) → (¬ vov gs n m c i = lov gs n m c → zW shM g (d + 4) mX9_route (zi Q) 92 [(0, .ref 0), (4, .int (iv t)), (5, .int (iv m)), (6, .int (iv c)), (7, .int (iv j)), (8, .int (iv i + 1))] [] M2) → zW shM g (d + 4) mX9_route (zi Q) 92 [(0, .ref 0), (4, .int (iv t)), (5, .int (iv m)), (6, .int (iv c)), (7, .int (iv j)), (8, .int (iv i))] [] M2 := by
                intro i hi9 hbi hyes hno
                have hsb : (sd m (2 ^ i)).testBit i = false := by
                  rw [sd_bit1 (by omega), decide_eq_false (by omega), Bool.and_false]
                have hsl := sd_le (a := m) (b := 2 ^ i)
                have hlt := sd_lt (m := m) (k := i) (by omega) hbi
                have h3 := lov_le hn hgs _ (sd m (2 ^ i)) (gs i) (Nat.le_refl _) (by omega) (hgs i hi9)
                have h4 := lov_le hn hgs _ m c (Nat.le_refl _) hm5 hc
                have h5 := distN_le hc (hgs i hi9)
                refine vX9_route_92 ⟨fun q => ?_, fun _ => ⟨i, rfl, by omega, ?_⟩⟩
                · rw [bitAt0 (by omega), bit_iv (by omega), hbi] at q
                  exact Bool.noConfusion q
                · rw [hG2.2 i hi9]
                  refine c9_apart hc (hgs i hi9) fun v1 e1 => ⟨9 * sd m (2 ^ i) + i, ?_, by omega, c9_leastOver hn hgs hG2 (fun s j hs => hT s j (by omega)) hm5 hc ?_⟩
                  · rw [e1, sd1 (by omega) (by omega), nine_at]
                  · rw [hT _ i (by omega) hi9 hsb, hG2.2 i hi9, sd1 (by omega) (by omega), iv_add, ← Int.natCast_add]
                    have e : vov gs n m c i = distN c (gs i) + lov gs n (sd m (2 ^ i)) (gs i) := rfl
                    rw [← e]
                    have ee : iv (vov gs n m c i : Nat) = iv (lov gs n m c : Nat) ↔ vov gs n m c i = lov gs n m c := by
                      rw [iv_inj (by omega) (by omega)]
                      omega
                    exact ⟨fun q => hyes (ee.mp q), fun q => hno fun z => q (ee.mpr z)⟩
              intro fu
              induction fu with
              | zero =>
                intro i hi2
                obtain rfl : i = fst1 gs n m c := by omega
                refine at1 _ f1 f2 (fun _ => ?_) fun q => absurd f3 q
                rw [iv_s]
                have hlt := sd_lt (m := m) (k := fst1 gs n m c) (by omega) f2
                refine ih (j + 1) _ _ (by omega) (by omega) (hgs _ f1) ?_ hst
                have hsp := smN_cnt (fun k => m.testBit k) n
                have hs2 := smN_cnt (fun k => (sd m (2 ^ fst1 gs n m c)).testBit k) n
                have one : ∀ N, cntB (fun k => m.testBit k) N ≤ cntB (fun k => (sd m (2 ^ fst1 gs n m c)).testBit k) N + 1 := by
                  have gen : ∀ N, cntB (fun k => m.testBit k) N ≤ cntB (fun k => (sd m (2 ^ fst1 gs n m c)).testBit k) N + (if fst1 gs n m c < N then 1 else 0) := by
                    intro N
                    induction N with
                    | zero => exact Nat.zero_le _
                    | succ N ihN =>
                      rw [cntB, cntB]
                      have hb := sd_bit1 (m := m) (k := fst1 gs n m c) (j := N) (by omega)
                      rw [hb]
                      by_cases e : N = fst1 gs n m c
                      · rw [if_neg (by omega)] at ihN
                        rw [if_pos (show fst1 gs n m c < N + 1 by omega)]
                        split <;> split <;> omega
                      · rw [decide_eq_true e, Bool.and_true]
                        by_cases e2 : fst1 gs n m c < N
                        · rw [if_pos e2] at ihN
                          rw [if_pos (show fst1 gs n m c < N + 1 by omega)]
                          omega
                        · rw [if_neg e2] at ihN
                          omega
                  intro N
                  have := gen N
                  split at this <;> omega
                have := one n
                omega
              | succ fu ihf =>
                intro i hi2
                by_cases hbi : m.testBit i = true
                · refine at1 i (by omega) hbi (fun q => absurd ⟨hbi, q⟩ (f4 i (by omega))) fun _ => ?_
                  rw [iv_s]
                  exact ihf (i + 1) (by omega)
                · refine vX9_route_92 ⟨fun _ => ?_, fun q => absurd ?_ q⟩
                  · rw [iv_s]
                    exact ihf (i + 1) (by omega)
                  · rw [bitAt0 (by omega), bit_iv (by omega)]
                    cases hq : m.testBit i
                    · rfl
                    · exact absurd hq hbi
            refine vX9_route_82 ⟨fun q => ?_, fun _ => inner (fst1 gs n m c) 0 (by omega)⟩
            exfalso
            rw [Int32.lt_iff_toInt_lt, iv_toInt (by omega) (by omega), iv_toInt (by omega) (by omega)] at q
            omega
        have hfull : cntB (fun k => (2 ^ n - 1).testBit k) n = n := by
          have gen : ∀ N, N ≤ n → cntB (fun k => (2 ^ n - 1).testBit k) N = N := by
            intro N
            induction N with
            | zero => intro _; rfl
            | succ N ihN =>
              intro hN
              rw [cntB, ihN (by omega), Nat.testBit_two_pow_sub_one, decide_eq_true (by omega), if_pos rfl]
          exact gen n (Nat.le_refl n)
        exact loop (t - 9) 10 (2 ^ n - 1) p (by omega) (by omega) hp64 (by rw [hfull]; omega) rfl
      · rw [if_pos q] at h
        rw [e1]
        exact c9_leastOver hn hgs hG2 (fun s j hs => hT s j (by omega)) (by omega) hp64 (h M2 hm2)
    have e9 : (9 : Int32) + M1 0 38 = iv (9 + n : Nat) := by
      rw [hG1.1]
      exact iv_n 9 n
    refine ⟨fun q => main (Or.inl q), fun q => c9_isIn ⟨fun hw => main (Or.inr ?_), fun hw => ?_⟩⟩
    · rw [e9] at hw
      simp only [isInB, decide_eq_true_eq, decide_eq_false_iff_not, Int32.reduceToInt] at hw
      rw [iv_toInt (by omega) (by omega)] at hw
      omega
    · rw [e9] at hw
      simp only [isInB, decide_eq_true_eq, decide_eq_false_iff_not, Int32.reduceToInt] at hw
      rw [iv_toInt (by omega) (by omega)] at hw
      rw [if_neg q, if_neg (by omega)] at h
      exact h M1 hm
end RO9
