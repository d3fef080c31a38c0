/-! SOONEST of the reference -/
theorem big_at (s i : Nat) : ((512 : Int32) * iv s) + iv i = iv (512 * s + i : Nat) := by
  rw [show (512 : Int32) = iv 512 from rfl, iv_mul, iv_add]
  congr 1
theorem sd_zero {a b : Nat} (ha : a < 512) : sd a b = 0 ↔ a &&& b = a := by
  constructor
  · intro h
    refine sub_of fun j hj => ?_
    have hb := sd_bit (b := b) (j := j) ha
    rw [h, Nat.zero_testBit, hj] at hb
    cases c : b.testBit j
    · rw [c] at hb
      exact Bool.noConfusion hb
    · rfl
  · intro h
    refine set_ext (Nat.lt_of_le_of_lt sd_le ha) (by decide) fun j _ => ?_
    rw [sd_bit ha, Nat.zero_testBit]
    cases c : a.testBit j
    · rfl
    · rw [sub_bit h c]
      rfl
theorem sub_trans {a b c : Nat} (h1 : a &&& b = a) (h2 : b &&& c = b) : a &&& c = a := sub_of fun _ hj => sub_bit h2 (sub_bit h1 hj)
theorem sd_sub {a b : Nat} : sd a b &&& a = sd a b := by
  unfold sd
  rw [Nat.and_comm a, Nat.and_assoc, Nat.and_self]
theorem fxK_s {n k r : Nat} {b : Nat → Nat} (hk : k < n) : fxK n b (k + 1) r = if r = b k then fxK n b k (b k) ||| 2 ^ k else fxK n b k r := by
  have hkn : 2 ^ k < 2 ^ n := Nat.pow_lt_pow_right (by decide) hk
  split
  · rename_i e
    subst e
    refine set_extn fxK_lt (Nat.or_lt_two_pow fxK_lt hkn) fun j hj => ?_
    rw [Nat.testBit_or, fxK_bit, fxK_bit, Nat.testBit_two_pow, decide_eq_true hj]
    by_cases c : j = k
    · subst c
      rw [decide_eq_true (show j < j + 1 by omega), decide_eq_true (show j = j from rfl), decide_eq_true (show b j = b j from rfl)]
      simp
    · have e1 : decide (j < k + 1) = decide (j < k) := decide_eq_decide.mpr (by omega)
      rw [e1, decide_eq_false (show ¬ k = j from fun z => c z.symm), Bool.or_false]
  · rename_i e
    refine set_extn fxK_lt fxK_lt fun j hj => ?_
    rw [fxK_bit, fxK_bit]
    by_cases c : j = k
    · subst c
      rw [decide_eq_false (show ¬ b j = r from fun z => e z.symm)]
      simp
    · have e1 : decide (j < k + 1) = decide (j < k) := decide_eq_decide.mpr (by omega)
      rw [e1]
theorem tb_least {gs : Nat → Nat} {n : Nat} {pl : Nat → Nat} {t s i k : Nat} (h : ∃ a, good1 gs n pl t s a) (hk : k ≤ i) : (∃ a, good1 gs n pl t s a ∧ (∀ j, j < k → a j = tbL gs n pl t s (i + 1) j) ∧ a k = tbL gs n pl t s (i + 1) k) ∧ ∀ q, q < tbL gs n pl t s (i + 1) k → ¬ ∃ a, good1 gs n pl t s a ∧ (∀ j, j < k → a j = tbL gs n pl t s (i + 1) j) ∧ a k = q := by
  have st : ∀ j, j < k → tbL gs n pl t s (i + 1) j = tbL gs n pl t s k j := fun j hj => by
    have := tbL_stay (gs := gs) (n := n) (pl := pl) (t := t) (s := s) (j := j) (i + 1 - k) k hj
    rw [show k + (i + 1 - k) = i + 1 by omega] at this
    exact this
  have sk : tbL gs n pl t s (i + 1) k = lstT (fun q => ∃ a, good1 gs n pl t s a ∧ (∀ j, j < k → a j = tbL gs n pl t s k j) ∧ a k = q) := by
    have := tbL_stay (gs := gs) (n := n) (pl := pl) (t := t) (s := s) (j := k) (i - k) (k + 1) (by omega)
    rw [show k + 1 + (i - k) = i + 1 by omega] at this
    rw [this, tbL_s, if_pos rfl]
  obtain ⟨a, ha, hb⟩ := tbL_ext h k
  obtain ⟨h1, h2⟩ := lstT_spec (p := fun q => ∃ a, good1 gs n pl t s a ∧ (∀ j, j < k → a j = tbL gs n pl t s k j) ∧ a k = q) ⟨a k, a, ha, hb, rfl⟩
  rw [← sk] at h1 h2
  refine ⟨?_, fun q hq => ?_⟩
  · obtain ⟨a2, g1, g2, g3⟩ := h1
    exact ⟨a2, g1, fun j hj => (g2 j hj).trans (st j hj).symm, g3⟩
  · rintro ⟨a2, g1, g2, g3⟩
    exact h2 q hq ⟨a2, g1, fun j hj => (g2 j hj).trans (st j hj), g3⟩
theorem tb_lt {gs : Nat → Nat} {n : Nat} {pl : Nat → Nat} {t s i j : Nat} (h : ∃ a, good1 gs n pl t s a) (hj : j ≤ i) (hn : j < n) : tbL gs n pl t s (i + 1) j < s := by
  obtain ⟨a, ⟨h1, _⟩, h2⟩ := tbL_ext h (i + 1)
  rw [← h2 j (by omega)]
  refine h1 j hn ?_
  rw [Nat.testBit_two_pow_sub_one]
  exact decide_eq_true hn
/-- the costs of the reference -/
def Co9 (M : zM) (gs : Nat → Nat) (n : Nat) (pl : Nat → Nat) (N : Nat) : Prop := ∀ r P, r < N → P < 2 ^ n → M 18 (512 * r + P) = iv (lov gs n P (pl r) : Nat)
noncomputable def cdB (gs : Nat → Nat) (n : Nat) (pl fx : Nat → Nat) (t left s S : Nat) : Bool := if s = 0 then decide (S = 0) else if sd S left = 0 then fzB gs n pl fx t s S else false
theorem cdB_is {gs : Nat → Nat} {n : Nat} {pl fx : Nat → Nat} {t left s S : Nat} (hn : n ≤ 9) (hS : S < 2 ^ n) (hl : S &&& left = S) : cdB gs n pl fx t left s S = true ↔ fz gs n pl fx t s S := by
  have h2 := pow9 hn
  unfold cdB
  by_cases c : s = 0
  · subst c
    rw [if_pos rfl, fz_0 hS, decide_eq_true_eq]
  · rw [if_neg c, if_pos ((sd_zero (by omega)).mpr hl)]
    exact fzB_t
section SO9
variable {g : zG} {d : Nat} {M : zM} {gs : Nat → Nat} {n N : Nat} {pl fx : Nat → Nat}
theorem c9_takesSome {Q : Bool → zM → Prop} {s S t : Nat} (hn : n ≤ 9) (hgs : ∀ i, i < n → gs i < 64) (hpl : ∀ r, pl r < 64) (hN : N ≤ 6) (hs : s < N) (hS : S < 2 ^ n) (ht : t < 100000) (hCo : Co9 M gs n pl N) (hfx : M 20 s = iv (fx s) ∧ fx s < 2 ^ n) (hCD : ∀ P, P &&& S = P → ∃ b : Bool, M 19 (512 * s + P) = zbI b ∧ (b = true ↔ fz gs n pl fx t s P)) (h : Q (fzB gs n pl fx t (s + 1) S) M) : zCz shM g d mX9_takesSome [.ref 0, .int (iv s), .int (iv S), .int (iv t)] M Q := by
  have h2 := pow9 hn
  refine vX9_takesSome ?_
  have loop : ∀ (f x : Nat), x ≤ f → x &&& S = x → (∀ y, y &&& S = y → x < y → ¬ (lov gs n (y ||| fx s) (pl s) ≤ t ∧ fz gs n pl fx t s (sd S y))) → zW shM g d mX9_takesSome (zz Q) 3 [(0, .ref 0), (1, .int (iv s)), (2, .int (iv S)), (3, .int (iv t)), (4, .int (iv x))] [] M := by
    intro f
    induction f with
    | zero =>
      intro x hx hxS hno
      obtain rfl : x = 0 := by omega
      have nx : ¬ (lov gs n (0 ||| fx s) (pl s) ≤ t ∧ fz gs n pl fx t s (sd S 0)) → zW shM g d mX9_takesSome (zz Q) 54 [(0, .ref 0), (1, .int (iv s)), (2, .int (iv S)), (3, .int (iv t)), (4, .int (iv (0 : Nat)))] [] M := by
        intro hbad
        refine vX9_takesSome_54 ⟨fun q => absurd rfl q, fun _ => vX9_takesSome_3 ⟨fun _ => ?_, fun q => absurd (by decide) q⟩⟩
        have e : fzB gs n pl fx t (s + 1) S = false := by
          rw [fzB_f, fz_s hn hS]
          rintro ⟨P, p1, p2, p3⟩
          rcases Nat.eq_zero_or_pos P with z | z
          · subst z
            exact hbad ⟨p2, p3⟩
          · exact hno P p1 z ⟨p2, p3⟩
        rw [e] at h
        exact h
      obtain ⟨b, hb1, hb2⟩ := hCD (sd S 0) sd_sub
      refine vX9_takesSome_3 ⟨fun q => absurd q (by decide), fun _ => ⟨512 * s + sd S 0, ?_, ?_, fun q => nx fun z => ?_, fun q => ⟨s, rfl, by omega, 512 * s + (0 ||| fx s), ?_, ?_, fun q2 => nx fun z => ?_, fun q2 => ?_⟩⟩⟩
      · rw [iv_sd (by omega), big_at]
      · have := sd_le (a := S) (b := 0)
        omega
      · rw [hb1, hb2.mpr z.2] at q
        exact absurd q (by decide)
      · rw [hfx.1, iv_or, big_at]
      · rw [Nat.zero_or]
        omega
      · have hl := lov_le hn hgs _ (0 ||| fx s) (pl s) (Nat.le_refl _) (by rw [Nat.zero_or]; exact hfx.2) (hpl s)
        rw [Nat.zero_or] at q2 hl z
        rw [hCo s _ hs hfx.2, Int32.lt_iff_toInt_lt, iv_toInt (by omega) (by omega), iv_toInt (by omega) (by omega)] at q2
        omega
      · have hl := lov_le hn hgs _ (0 ||| fx s) (pl s) (Nat.le_refl _) (by rw [Nat.zero_or]; exact hfx.2) (hpl s)
        rw [Nat.zero_or] at q2 hl
        rw [hCo s _ hs hfx.2, Int32.lt_iff_toInt_lt, iv_toInt (by omega) (by omega), iv_toInt (by omega) (by omega)] at q2
        have e : fzB gs n pl fx t (s + 1) S = true := by
          rw [fzB_t, fz_s hn hS]
          refine ⟨0, Nat.zero_and _, by rw [Nat.zero_or]; omega, ?_⟩
          refine hb2.mp ?_
          cases b
          · rw [hb1] at q
            exact absurd rfl q
          · rfl
        rw [e] at h
        exact h
    | succ f ih =>
      intro x hx hxS hno
      by_cases hx0 : x = 0
      · exact ih x (by omega) hxS hno
      have hxle := sub_le hxS
      have hxo : x ||| fx s < 2 ^ n := Nat.or_lt_two_pow (by omega) hfx.2
      have nx : ¬ (lov gs n (x ||| fx s) (pl s) ≤ t ∧ fz gs n pl fx t s (sd S x)) → zW shM g d mX9_takesSome (zz Q) 54 [(0, .ref 0), (1, .int (iv s)), (2, .int (iv S)), (3, .int (iv t)), (4, .int (iv x))] [] M := by
        intro hbad
        refine vX9_takesSome_54 ⟨fun _ => ?_, fun q => absurd ((iv_zero_iff (by omega)).mp q) hx0⟩
        rw [iv_subnx (by omega)]
        have hle : (x - 1) &&& S ≤ x - 1 := Nat.and_le_left
        refine ih _ (by omega) sub_nx fun y hy hlt => ?_
        rcases Nat.lt_trichotomy y x with z | z | z
        · have := sub_next x x S y (Nat.le_refl x) hxS hy z
          omega
        · rw [z]
          exact hbad
        · exact hno y hy z
      obtain ⟨b, hb1, hb2⟩ := hCD (sd S x) sd_sub
      have hl := lov_le hn hgs _ (x ||| fx s) (pl s) (Nat.le_refl _) hxo (hpl s)
      refine vX9_takesSome_3 ⟨fun q => ?_, fun _ => ⟨512 * s + sd S x, ?_, ?_, fun q => nx fun z => ?_, fun q => ⟨s, rfl, by omega, 512 * s + (x ||| fx s), ?_, ?_, fun q2 => nx fun z => ?_, fun q2 => ?_⟩⟩⟩
      · exfalso
        rw [Int32.lt_iff_toInt_lt, iv_toInt (by omega) (by omega)] at q
        simp only [Int32.reduceToInt] at q
        omega
      · rw [iv_sd (by omega), big_at]
      · have := sd_le (a := S) (b := x)
        omega
      · rw [hb1, hb2.mpr z.2] at q
        exact absurd q (by decide)
      · rw [hfx.1, iv_or, big_at]
      · omega
      · rw [hCo s _ hs hxo, Int32.lt_iff_toInt_lt, iv_toInt (by omega) (by omega), iv_toInt (by omega) (by omega)] at q2
        omega
      · rw [hCo s _ hs hxo, Int32.lt_iff_toInt_lt, iv_toInt (by omega) (by omega), iv_toInt (by omega) (by omega)] at q2
        have e : fzB gs n pl fx t (s + 1) S = true := by
          rw [fzB_t, fz_s hn hS]
          refine ⟨x, hxS, by omega, hb2.mp ?_⟩
          cases b
          · rw [hb1] at q
            exact absurd rfl q
          · rfl
        rw [e] at h
        exact h
  exact loop S S (Nat.le_refl S) (Nat.and_self S) fun y hy hlt => by
    have := sub_le hy
    omega
theorem c9_isDoneBy {Q : Bool → zM → Prop} {left t : Nat} (hn : n ≤ 9) (hgs : ∀ i, i < n → gs i < 64) (hpl : ∀ r, pl r < 64) (hN : N ≤ 6) (hN1 : 1 ≤ N) (hl : left < 2 ^ n) (ht : t < 100000) (h154 : M 1 154 = iv N) (h38 : M 0 38 = iv n) (hCo : Co9 M gs n pl N) (hfx : ∀ r, r < N → M 20 r = iv (fx r) ∧ fx r < 2 ^ n) (h : ∀ M' : zM, (∀ o, o ≠ 19 → M' o = M o) → Q (fzB gs n pl fx t N left) M') : zCz shM g (d + 1) mX9_isDoneBy [.ref 0, .int (iv t), .int (iv left)] M Q := by
  have h2 := pow9 hn
  refine vX9_isDoneBy ?_
  have main : ∀ (f s : Nat) (M1 : zM), s + f = N → (∀ o, o ≠ 19 → M1 o = M o) → (∀ r S, r ≤ s → S < 2 ^ n → M1 19 (512 * r + S) = zbI (cdB gs n pl fx t left r S)) → zW shM g (d + 1) mX9_isDoneBy (zz Q) 33 [(0, .ref 0), (1, .int (iv t)), (2, .int (iv left)), (3, .int (iv s))] [] M1 := by
    intro f
    induction f with
    | zero =>
      intro s M1 hs ho hr
      obtain rfl : s = N := by omega
      refine vX9_isDoneBy_33 ⟨fun _ => ⟨512 * s + left, ?_, by omega, cdB gs n pl fx t left s left, hr s left (Nat.le_refl s) hl, ?_⟩, fun q => absurd ?_ q⟩
      · rw [ho 1 (by decide), h154, big_at]
      · have e : cdB gs n pl fx t left s left = fzB gs n pl fx t s left := by
          unfold cdB
          rw [if_neg (by omega), if_pos ((sd_zero (by omega)).mpr (Nat.and_self left))]
        rw [e]
        exact h M1 ho
      · rw [ho 1 (by decide), h154]
        exact Int32.le_refl _
    | succ f ih =>
      intro s M1 hs ho hr
      have inner : ∀ (fu S : Nat) (M2 : zM), S + fu = 2 ^ n → (∀ o, o ≠ 19 → M2 o = M o) → (∀ r P, r ≤ s → P < 2 ^ n → M2 19 (512 * r + P) = zbI (cdB gs n pl fx t left r P)) → (∀ P, P < S → M2 19 (512 * (s + 1) + P) = zbI (cdB gs n pl fx t left (s + 1) P)) → zW shM g (d + 1) mX9_isDoneBy (zz Q) 48 [(0, .ref 0), (1, .int (iv t)), (2, .int (iv left)), (3, .int (iv s)), (4, .int (iv S))] [] M2 := by
        intro fu
        induction fu with
        | zero =>
          intro S M2 hS ho2 hr2 hr3
          obtain rfl : S = 2 ^ n := by omega
          refine vX9_isDoneBy_48 (c9_all hn (by rw [ho2 0 (by decide)]; exact h38) ⟨fun _ => ?_, fun q => absurd ?_ q⟩)
          · rw [iv_s]
            refine ih (s + 1) M2 (by omega) ho2 fun r P hrs hP => ?_
            by_cases e : r = s + 1
            · rw [e]
              exact hr3 P hP
            · exact hr2 r P (by omega) hP
          · rw [Int32.lt_iff_toInt_lt, iv_toInt (by omega) (by omega), iv_toInt (by omega) (by omega)]
            omega
        | succ fu ihf =>
          intro S M2 hS ho2 hr2 hr3
          have nx : ∀ b : Bool, b = cdB gs n pl fx t left (s + 1) S → ∀ M3 : zM, (∀ o, M3 o = M2 o) → zW shM g (d + 1) mX9_isDoneBy (zz Q) 48 [(0, .ref 0), (1, .int (iv t)), (2, .int (iv left)), (3, .int (iv s)), (4, .int (iv S + 1))] [] (zup M3 19 (512 * (s + 1) + S) (zbI b)) := by
            intro b hb M3 hM3
            rw [iv_s]
            refine ihf (S + 1) _ (by omega) (fun o hoo => by rw [zup_oth hoo, hM3]; exact ho2 o hoo) (fun r P hrs hP => ?_) fun P hP => ?_
            · rw [zup_ne (by omega), hM3]
              exact hr2 r P hrs hP
            · by_cases e : P = S
              · rw [e, zup_same, hb]
              · rw [zup_ne (by omega), hM3]
                exact hr3 P (by omega)
          have ek : ((512 : Int32) * (iv s + 1)) + iv S = iv (512 * (s + 1) + S : Nat) := by
            rw [iv_s, big_at]
          refine vX9_isDoneBy_48 (c9_all hn (by rw [ho2 0 (by decide)]; exact h38) ⟨fun q => ?_, fun _ => ⟨fun q => ⟨512 * (s + 1) + S, ek, by omega, nx false ?_ M2 fun _ => rfl⟩, fun q => c9_takesSome (N := N) hn hgs hpl hN (by omega) (by omega) ht (fun r P hrr hP => by rw [ho2 18 (by decide)]; exact hCo r P hrr hP) (by rw [ho2 20 (by decide)]; exact hfx s (by omega)) (fun P hP => ?_) ⟨fun e => ⟨512 * (s + 1) + S, ek, by omega, nx false ?_ M2 fun _ => rfl⟩, fun e => ⟨512 * (s + 1) + S, ek, by omega, nx true ?_ M2 fun _ => rfl⟩⟩⟩⟩)
          · exfalso
            rw [Int32.lt_iff_toInt_lt, iv_toInt (by omega) (by omega), iv_toInt (by omega) (by omega)] at q
            omega
          · rw [iv_sd (by omega)] at q
            unfold cdB
            rw [if_neg (by omega), if_neg fun z => q (by rw [z]; rfl)]
          · have hPS := sub_le hP
            rw [iv_sd (by omega)] at q
            have hz := (iv_zero_iff (Nat.lt_of_le_of_lt sd_le (by omega))).mp q
            have hSl := (sd_zero (by omega)).mp hz
            exact ⟨_, hr2 s P (Nat.le_refl s) (by omega), cdB_is hn (by omega) (sub_trans hP hSl)⟩
          · rw [iv_sd (by omega)] at q
            have hz := (iv_zero_iff (Nat.lt_of_le_of_lt sd_le (by omega))).mp q
            unfold cdB
            rw [if_neg (by omega), if_pos hz, e]
          · rw [iv_sd (by omega)] at q
            have hz := (iv_zero_iff (Nat.lt_of_le_of_lt sd_le (by omega))).mp q
            unfold cdB
            rw [if_neg (by omega), if_pos hz, e]
      refine vX9_isDoneBy_33 ⟨fun q => ?_, fun _ => inner (2 ^ n) 0 M1 (by omega) ho hr fun P hP => absurd hP (Nat.not_lt_zero _)⟩
      rw [ho 1 (by decide), h154] at q
      exact (not_le_iv (a := N) (b := s) (by omega) (by omega) q).elim
  have start : ∀ (f S : Nat) (M1 : zM), S + f = 2 ^ n → (∀ o, o ≠ 19 → M1 o = M o) → (∀ P, P < S → M1 19 P = zbI (decide (P = 0))) → zW shM g (d + 1) mX9_isDoneBy (zz Q) 2 [(0, .ref 0), (1, .int (iv t)), (2, .int (iv left)), (3, .int (iv S))] [] M1 := by
    intro f
    induction f with
    | zero =>
      intro S M1 hS ho hr
      obtain rfl : S = 2 ^ n := by omega
      refine vX9_isDoneBy_2 (c9_all hn (by rw [ho 0 (by decide)]; exact h38) ⟨fun _ => main N 0 M1 (by omega) ho fun r P hr0 hP => ?_, fun q => absurd ?_ q⟩)
      · obtain rfl : r = 0 := by omega
        unfold cdB
        rw [if_pos rfl, show 512 * 0 + P = P by omega]
        exact hr P hP
      · rw [Int32.lt_iff_toInt_lt, iv_toInt (by omega) (by omega), iv_toInt (by omega) (by omega)]
        omega
    | succ f ih =>
      intro S M1 hS ho hr
      have nx : ∀ b : Bool, b = decide (S = 0) → zW shM g (d + 1) mX9_isDoneBy (zz Q) 2 [(0, .ref 0), (1, .int (iv t)), (2, .int (iv left)), (3, .int (iv S + 1))] [] (zup M1 19 S (zbI b)) := by
        intro b hb
        rw [iv_s]
        refine ih (S + 1) _ (by omega) (fun o hoo => by rw [zup_oth hoo]; exact ho o hoo) fun P hP => ?_
        by_cases e : P = S
        · rw [e, zup_same, hb]
        · rw [zup_ne (by omega)]
          exact hr P (by omega)
      refine vX9_isDoneBy_2 (c9_all hn (by rw [ho 0 (by decide)]; exact h38) ⟨fun q => ?_, fun _ => ⟨fun q => ⟨S, rfl, by omega, nx false ?_⟩, fun q => ⟨S, rfl, by omega, nx true ?_⟩⟩⟩)
      · exfalso
        rw [Int32.lt_iff_toInt_lt, iv_toInt (by omega) (by omega), iv_toInt (by omega) (by omega)] at q
        omega
      · rw [decide_eq_false]
        exact fun z => q (by rw [z]; rfl)
      · rw [decide_eq_true ((iv_zero_iff (by omega)).mp q)]
  exact start (2 ^ n) 0 M (by omega) (fun _ _ => rfl) fun P hP => absurd hP (Nat.not_lt_zero _)
theorem c9_soonestSteps {Q : Int32 → zM → Prop} (hn : n ≤ 9) (hgs : ∀ i, i < n → gs i < 64) (hpl : ∀ r, pl r < 64) (hN : N ≤ 6) (hN1 : 1 ≤ N) (h154 : M 1 154 = iv N) (h38 : M 0 38 = iv n) (hCo : Co9 M gs n pl N) (h : ∀ M' : zM, (∀ o, o ≠ 19 → o ≠ 20 → M' o = M o) → (∀ r, r < 6 → M' 20 r = 0) → Q (iv (soonT gs n pl N : Nat)) M') : zCi shM g (d + 2) mX9_soonestSteps [.ref 0] M Q := by
  have h2 := pow9 hn
  obtain ⟨t1, t2, t3⟩ := soonT_spec hn hgs hpl (show 0 < N by omega)
  refine vX9_soonestSteps ?_
  have steps : ∀ (f t : Nat) (M1 : zM), t + f = soonT gs n pl N → (∀ o, o ≠ 19 → o ≠ 20 → M1 o = M o) → (∀ r, r < 6 → M1 20 r = 0) → zW shM g (d + 2) mX9_soonestSteps (zi Q) 23 [(0, .ref 0), (1, .int (iv t))] [] M1 := by
    intro f
    induction f with
    | zero =>
      intro t M1 ht ho hr
      obtain rfl : t = soonT gs n pl N := by omega
      refine vX9_soonestSteps_23 (c9_all hn (by rw [ho 0 (by decide) (by decide)]; exact h38) (c9_isDoneBy (N := N) (gs := gs) (pl := pl) (fx := fun _ => 0) hn hgs hpl hN hN1 (by omega) (by omega) (by rw [ho 1 (by decide) (by decide)]; exact h154) (by rw [ho 0 (by decide) (by decide)]; exact h38) (fun r P a b => by rw [ho 18 (by decide) (by decide)]; exact hCo r P a b) (fun r hrN => ⟨by rw [hr r (by omega)]; rfl, by omega⟩) fun M2 h3 => ?_))
      have e : fzB gs n pl (fun _ => 0) (soonT gs n pl N) N (2 ^ n - 1) = true := fzB_t.mpr t1
      rw [e]
      exact ⟨fun _ => h M2 (fun o a b => (h3 o a).trans (ho o a b)) (fun r hr6 => by rw [h3 20 (by decide)]; exact hr r hr6), fun z => Bool.noConfusion z⟩
    | succ f ih =>
      intro t M1 ht ho hr
      refine vX9_soonestSteps_23 (c9_all hn (by rw [ho 0 (by decide) (by decide)]; exact h38) (c9_isDoneBy (N := N) (gs := gs) (pl := pl) (fx := fun _ => 0) hn hgs hpl hN hN1 (by omega) (by omega) (by rw [ho 1 (by decide) (by decide)]; exact h154) (by rw [ho 0 (by decide) (by decide)]; exact h38) (fun r P a b => by rw [ho 18 (by decide) (by decide)]; exact hCo r P a b) (fun r hrN => ⟨by rw [hr r (by omega)]; rfl, by omega⟩) fun M2 h3 => ?_))
      have e : fzB gs n pl (fun _ => 0) t N (2 ^ n - 1) = false := fzB_f.mpr (t2 t (by omega))
      rw [e]
      refine ⟨fun z => Bool.noConfusion z, fun _ => ?_⟩
      rw [iv_s]
      exact ih (t + 1) M2 (by omega) (fun o a b => (h3 o a).trans (ho o a b)) (fun r hr6 => by rw [h3 20 (by decide)]; exact hr r hr6)
  have start : ∀ (f s : Nat) (M1 : zM), s + f = 6 → (∀ o, o ≠ 19 → o ≠ 20 → M1 o = M o) → (∀ r, r < s → M1 20 r = 0) → zW shM g (d + 2) mX9_soonestSteps (zi Q) 2 [(0, .ref 0), (1, .int (iv s))] [] M1 := by
    intro f
    induction f with
    | zero =>
      intro s M1 hs ho hr
      obtain rfl : s = 6 := by omega
      exact vX9_soonestSteps_2 ⟨fun _ => steps (soonT gs n pl N) 0 M1 (by omega) ho hr, fun c => absurd (by decide) c⟩
    | succ f ih =>
      intro s M1 hs ho hr
      refine vX9_soonestSteps_2 ⟨fun q => (not_le_iv (a := 6) (b := s) (by omega) (by omega) q).elim, fun _ => ⟨s, rfl, by omega, ?_⟩⟩
      rw [iv_s]
      refine ih (s + 1) _ (by omega) (fun o a b => by rw [zup_oth b]; exact ho o a b) fun r hrs => ?_
      by_cases e : r = s
      · rw [e, zup_same]
      · rw [zup_ne (Or.inr e)]
        exact hr r (by omega)
  exact start 6 0 M rfl (fun _ _ _ => rfl) fun r hr => absurd hr (Nat.not_lt_zero _)
theorem c9_takerOf {Q : Int32 → zM → Prop} {i : Nat} (hn : n ≤ 9) (hgs : ∀ i, i < n → gs i < 64) (hpl : ∀ r, pl r < 64) (hN : N ≤ 6) (hN1 : 1 ≤ N) (hi : i < n) (h154 : M 1 154 = iv N) (h38 : M 0 38 = iv n) (hCo : Co9 M gs n pl N) (h20 : ∀ r, r < 6 → M 20 r = 0) (h : ∀ M' : zM, (∀ o, o ≠ 19 → o ≠ 20 → M' o = M o) → Q (iv (tbL gs n pl (soonT gs n pl N) N (i + 1) i : Nat)) M') : zCi shM g (d + 2) mX9_takerOf [.ref 0, .int (iv i), .int (iv (soonT gs n pl N : Nat))] M Q := by
  have h2 := pow9 hn
  obtain ⟨t1, t2, t3⟩ := soonT_spec hn hgs hpl (show 0 < N by omega)
  generalize hT : soonT gs n pl N = T at *
  have hleast := fun k hk => tb_least (gs := gs) (n := n) (pl := pl) (t := T) (s := N) (i := i) (k := k) t1 hk
  have hblt := fun j hj hjn => tb_lt (gs := gs) (n := n) (pl := pl) (t := T) (s := N) (i := i) (j := j) t1 hj hjn
  generalize tbL gs n pl T N (i + 1) = b at *
  refine vX9_takerOf (c9_all hn h38 ?_)
  have outer : ∀ (f k : Nat) (l4 : Int32) (M1 : zM), k + f = i + 1 → (0 < k → l4 = iv (b (k - 1))) → (∀ o, o ≠ 19 → o ≠ 20 → M1 o = M o) → (∀ r, r < 6 → M1 20 r = iv (fxK n b k r)) → zW shM g (d + 2) mX9_takerOf (zi Q) 11 [(0, .ref 0), (1, .int (iv i)), (2, .int (iv T)), (3, .int (iv (lfK n k))), (4, .int l4), (5, .int (iv k))] [] M1 := by
    intro f
    induction f with
    | zero =>
      intro k l4 M1 hk hl4 ho hr
      obtain rfl : k = i + 1 := by omega
      refine vX9_takerOf_11 ⟨fun _ => ?_, fun q => absurd ?_ q⟩
      · rw [hl4 (by omega)]
        exact h M1 ho
      · rw [Int32.lt_iff_toInt_lt, iv_toInt (by omega) (by omega), iv_toInt (by omega) (by omega)]
        omega
    | succ f ih =>
      intro k l4 M1 hk hl4 ho hr
      obtain ⟨hyes, hno⟩ := hleast k (by omega)
      have hbk := hblt k (by omega) (by omega)
      have hlk : lfK n k < 2 ^ n := lfK_lt
      have inner : ∀ (fu q : Nat) (M2 : zM), q + fu = b k → (∀ o, o ≠ 19 → o ≠ 20 → M2 o = M o) → (∀ r, r < 6 → M2 20 r = iv (fxK n b k r)) → zW shM g (d + 2) mX9_takerOf (zi Q) 32 [(0, .ref 0), (1, .int (iv i)), (2, .int (iv T)), (3, .int (iv (lfK n (k + 1)))), (4, .int (iv q)), (5, .int (iv k)), (6, .int 0)] [] M2 := by
        have at1 : ∀ (q : Nat) (M2 : zM), q < N → (∀ o, o ≠ 19 → o ≠ 20 → M2 o = M o) → (∀ r, r < 6 → M2 20 r = iv (fxK n b k r)) → ((∃ a, good1 gs n pl T N a ∧ (∀ j, j < k → a j = b j) ∧ a k = q) → ∀ M3 : zM, (∀ o, o ≠ 19 → o ≠ 20 → M3 o = M o) → (∀ r, r < 6 → M3 20 r = iv ((if r = q then fxK n b k q ||| 2 ^ k else fxK n b k r : Nat))) → zW shM g (d + 2) mX9_takerOf (zi Q) 32 [(0, .ref 0), (1, .int (iv i)), (2, .int (iv T)), (3, .int (iv (lfK n (k + 1)))), (4, .int (iv q)), (5, .int (iv k)), (6, .int (zbI true))] [] M3) → ((¬ ∃ a, good1 gs n pl T N a ∧ (∀ j, j < k → a j = b j) ∧ a k = q) → ∀ M3 : zM, (∀ o, o ≠ 19 → o ≠ 20 → M3 o = M o) → (∀ r, r < 6 → M3 20 r = iv (fxK n b k r)) → zW shM g (d + 2) mX9_takerOf (zi Q) 32 [(0, .ref 0), (1, .int (iv i)), (2, .int (iv T)), (3, .int (iv (lfK n (k + 1)))), (4, .int (iv q + 1)), (5, .int (iv k)), (6, .int (zbI false))] [] M3) → zW shM g (d + 2) mX9_takerOf (zi Q) 32 [(0, .ref 0), (1, .int (iv i)), (2, .int (iv T)), (3, .int (iv (lfK n (k + 1)))), (4, .int (iv q)), (5, .int (iv k)), (6, .int 0)] [] M2 := by
          intro q M2 hqN ho2 hr2 hy hf
          have hfq : fxK n b k q < 2 ^ n := fxK_lt
          have hkn : 2 ^ k < 2 ^ n := Nat.pow_lt_pow_right (by decide) (by omega)
          have hor : fxK n b k q ||| 2 ^ k < 2 ^ n := Nat.or_lt_two_pow hfq hkn
          have er : (M2 20 q) ||| (1 <<< (iv k &&& 31)) = iv (fxK n b k q ||| 2 ^ k : Nat) := by
            rw [hr2 q (by omega), one_sl (by omega), iv_or]
          have htry := fz_try (gs := gs) (n := n) (pl := pl) (t := T) (s := N) (k := k) (q := q) (b := b) (fx := fun r => if r = q then fxK n b k q ||| 2 ^ k else fxK n b k r) hn (by omega) (fun j hj => hblt j (by omega) (by omega)) hqN (fun r _ => rfl)
          refine vX9_takerOf_32 ⟨fun z => absurd rfl z, fun _ => ⟨q, rfl, by omega, ?_⟩⟩
          rw [er]
          have hrow : ∀ r, r < 6 → (zup M2 20 q (iv (fxK n b k q ||| 2 ^ k : Nat))) 20 r = iv ((if r = q then fxK n b k q ||| 2 ^ k else fxK n b k r : Nat)) := by
            intro r hr6
            by_cases e : r = q
            · rw [e, zup_same, if_pos rfl]
            · rw [zup_ne (Or.inr e), if_neg e]
              exact hr2 r hr6
          refine c9_isDoneBy (N := N) (gs := gs) (pl := pl) (fx := fun r => if r = q then fxK n b k q ||| 2 ^ k else fxK n b k r) hn hgs hpl hN hN1 lfK_lt (by omega) (by rw [zup_oth (by decide), ho2 1 (by decide) (by decide)]; exact h154) (by rw [zup_oth (by decide), ho2 0 (by decide) (by decide)]; exact h38) (fun r P a c => by rw [zup_oth (by decide), ho2 18 (by decide) (by decide)]; exact hCo r P a c) (fun r hrN => ⟨hrow r (by omega), ?_⟩) fun M3 h3 => ⟨fun e => ?_, fun e => ?_⟩
          · show (if r = q then fxK n b k q ||| 2 ^ k else fxK n b k r) < 2 ^ n
            split
            · exact hor
            · exact fxK_lt
          · rw [e]
            refine hf (fun z => fzB_f.mp e (htry.mpr z)) _ (fun o a c => ?_) fun r hr6 => ?_
            · rw [zup_oth c, h3 o a, zup_oth c]
              exact ho2 o a c
            · have e2 : M3 20 q = iv (fxK n b k q ||| 2 ^ k : Nat) := by
                rw [h3 20 (by decide), zup_same]
              by_cases er2 : r = q
              · rw [er2, zup_same, e2, sd1 (by omega) (by omega)]
                congr 2
                refine set_extn (Nat.lt_of_le_of_lt sd_le hor) fxK_lt fun j hj => ?_
                rw [sd_bit1 (by omega), Nat.testBit_or, Nat.testBit_two_pow, fxK_bit]
                by_cases ej : j = k
                · rw [decide_eq_false (show ¬ j ≠ k from fun z => z ej), decide_eq_false (show ¬ j < k by omega)]
                  simp
                · rw [decide_eq_true (show j ≠ k from ej), decide_eq_false (show ¬ k = j from fun z => ej z.symm)]
                  simp
              · rw [zup_ne (Or.inr er2), h3 20 (by decide), zup_ne (Or.inr er2)]
                exact hr2 r hr6
          · rw [e]
            exact hy (htry.mp (fzB_t.mp e)) M3 (fun o a c => by rw [h3 o a, zup_oth c]; exact ho2 o a c) (fun r hr6 => by rw [h3 20 (by decide)]; exact hrow r hr6)
        intro fu
        induction fu with
        | zero =>
          intro q M2 hq ho2 hr2
          obtain rfl : q = b k := by omega
          refine at1 _ M2 hbk ho2 hr2 (fun _ M3 ho3 hr3 => vX9_takerOf_32 ⟨fun _ => ?_, fun z => absurd z (by decide)⟩) fun z => absurd hyes z
          rw [iv_s]
          refine ih (k + 1) _ M3 (by omega) (fun _ => rfl) ho3 fun r hr6 => ?_
          rw [fxK_s (by omega)]
          exact hr3 r hr6
        | succ fu ihf =>
          intro q M2 hq ho2 hr2
          refine at1 q M2 (by omega) ho2 hr2 (fun z => absurd z (hno q (by omega))) fun _ M3 ho3 hr3 => ?_
          rw [iv_s]
          exact ihf (q + 1) M3 (by omega) ho3 hr3
      refine vX9_takerOf_11 ⟨fun q => ?_, fun _ => ?_⟩
      · exfalso
        rw [Int32.lt_iff_toInt_lt, iv_toInt (by omega) (by omega), iv_toInt (by omega) (by omega)] at q
        omega
      · rw [sd1 (by omega) (by omega), lfK_s hn]
        exact inner (b k) 0 M1 (by omega) ho hr
  have h0 := outer (i + 1) 0 (-1) M (by omega) (fun z => absurd z (Nat.lt_irrefl 0)) (fun _ _ _ => rfl) (fun r hr6 => by
    rw [h20 r hr6]
    have e : fxK n b 0 r = 0 := set_extn fxK_lt (by omega) fun j hj => by
      rw [fxK_bit, Nat.zero_testBit, decide_eq_false (Nat.not_lt_zero j)]
      simp
    rw [e]
    rfl)
  rw [lfK_0] at h0
  exact h0
theorem c9_laysCosts {Q : zM → Prop} (hn : n ≤ 9) (hgs : ∀ i, i < n → gs i < 64) (hpl : ∀ r, pl r < 64) (hN : N ≤ 6) (h154 : M 1 154 = iv N) (hp : ∀ r, r < N → M 1 (3 + r) = iv (pl r)) (hG : G9 M gs n) (h : ∀ M' : zM, (∀ o, o ≠ 17 → o ≠ 18 → M' o = M o) → Co9 M' gs n pl N → Q M') : zCv shM g (d + 3) mX9_laysCosts [.ref 0] M Q := by
  have h2 := pow9 hn
  refine vX9_laysCosts (c9_all hn hG.1 (c9_laysRoutes hn hgs hG fun M0 h0 hT => ?_))
  have outer : ∀ (f s : Nat) (M1 : zM), s + f = N → (∀ o, o ≠ 18 → M1 o = M0 o) → (∀ r P, r < s → P < 2 ^ n → M1 18 (512 * r + P) = iv (lov gs n P (pl r) : Nat)) → zW shM g (d + 3) mX9_laysCosts (zv Q) 10 [(0, .ref 0), (1, .int (iv s))] [] M1 := by
    intro f
    induction f with
    | zero =>
      intro s M1 hs ho hr
      obtain rfl : s = N := by omega
      refine vX9_laysCosts_10 ⟨fun _ => h M1 (fun o a b => (ho o b).trans (h0 o a)) hr, fun q => absurd ?_ q⟩
      rw [ho 1 (by decide), h0 1 (by decide), h154]
      exact Int32.le_refl _
    | succ f ih =>
      intro s M1 hs ho hr
      have inner : ∀ (fu S : Nat) (M2 : zM), S + fu = 2 ^ n → (∀ o, o ≠ 18 → M2 o = M0 o) → (∀ r P, r < s → P < 2 ^ n → M2 18 (512 * r + P) = iv (lov gs n P (pl r) : Nat)) → (∀ P, P < S → M2 18 (512 * s + P) = iv (lov gs n P (pl s) : Nat)) → zW shM g (d + 3) mX9_laysCosts (zv Q) 24 [(0, .ref 0), (1, .int (iv s)), (2, .int (iv S))] [] M2 := by
        intro fu
        induction fu with
        | zero =>
          intro S M2 hS ho2 hr2 hr3
          obtain rfl : S = 2 ^ n := by omega
          refine vX9_laysCosts_24 (c9_all hn (by rw [ho2 0 (by decide), h0 0 (by decide)]; exact hG.1) ⟨fun _ => ?_, fun q => absurd ?_ q⟩)
          · rw [iv_s]
            refine ih (s + 1) M2 (by omega) ho2 fun r P hrs hP => ?_
            by_cases e : r = s
            · rw [e]
              exact hr3 P hP
            · exact hr2 r P (by omega) hP
          · rw [Int32.lt_iff_toInt_lt, iv_toInt (by omega) (by omega), iv_toInt (by omega) (by omega)]
            omega
        | succ fu ihf =>
          intro S M2 hS ho2 hr2 hr3
          have hG2 : G9 M2 gs n := by
            unfold G9
            rw [ho2 0 (by decide), ho2 16 (by decide), h0 0 (by decide), h0 16 (by decide)]
            exact hG
          have hT2 : T9 M2 gs n S := fun a j ha hj hb => by
            rw [ho2 17 (by decide)]
            exact hT a j (by omega) hj hb
          have ep : M2 1 (3 + s) = iv (pl s) := by
            rw [ho2 1 (by decide), h0 1 (by decide)]
            exact hp s (by omega)
          refine vX9_laysCosts_24 (c9_all hn hG2.1 ⟨fun q => ?_, fun _ => ⟨3 + s, iv_n 3 s, by omega, ?_⟩⟩)
          · exfalso
            rw [Int32.lt_iff_toInt_lt, iv_toInt (by omega) (by omega), iv_toInt (by omega) (by omega)] at q
            omega
          · rw [ep]
            refine c9_leastOver hn hgs hG2 hT2 (by omega) (hpl s) ⟨512 * s + S, big_at s S, by omega, ?_⟩
            rw [iv_s]
            refine ihf (S + 1) _ (by omega) (fun o hoo => by rw [zup_oth hoo]; exact ho2 o hoo) (fun r P hrs hP => ?_) fun P hP => ?_
            · rw [zup_ne (by omega)]
              exact hr2 r P hrs hP
            · by_cases e : P = S
              · rw [e, zup_same]
              · rw [zup_ne (by omega)]
                exact hr3 P (by omega)
      refine vX9_laysCosts_10 ⟨fun q => ?_, fun _ => inner (2 ^ n) 0 M1 (by omega) ho hr fun P hP => absurd hP (Nat.not_lt_zero _)⟩
      rw [ho 1 (by decide), h0 1 (by decide), h154] at q
      exact (not_le_iv (a := N) (b := s) (by omega) (by omega) q).elim
  exact outer N 0 M0 (by omega) (fun _ _ => rfl) fun r P hr => absurd hr (Nat.not_lt_zero _)
theorem c9_soonest {Q : Int32 → zM → Prop} {what : Int32} {x : Int64} (hi : IS (M 1)) (hq : IMo (M 1)) (h : ∀ M' : zM, MEq M M' → Q (soonestV (M 1) x what) M') : zCi shM g (d + 4) mX9_soonest [.ref 0, .long x, .int what] M Q := by
  obtain ⟨n0, n6⟩ := hi.2.2.2.1
  unfold soonestV at h
  refine vX9_soonest ⟨fun hz => ?_, fun hz => c9_laysGoals hi.1 (fun M1 h1 h1j hG => ⟨fun hg => ?_, fun hg => ?_⟩)⟩
  · have h0 := h M MEq.rfl
    rw [if_neg (fun z => z.1 hz)] at h0
    exact h0
  · have hm : MEq M M1 := by
      refine ⟨h1 1 (by decide) (by decide), h1 2 (by decide) (by decide), h1 3 (by decide) (by decide), h1 12 (by decide) (by decide), h1j 4 (by decide), h1j 5 (by decide), h1j 23 (by decide), h1j 30 (by decide), h1j 32 (by decide)⟩
    have h0 := h M1 hm
    rw [if_neg (fun z => by rw [hg] at z; exact Bool.noConfusion z.2)] at h0
    exact h0
  · rw [if_pos ⟨hz, hg⟩] at h
    have hm : MEq M M1 := by
      refine ⟨h1 1 (by decide) (by decide), h1 2 (by decide) (by decide), h1 3 (by decide) (by decide), h1 12 (by decide) (by decide), h1j 4 (by decide), h1j 5 (by decide), h1j 23 (by decide), h1j 30 (by decide), h1j 32 (by decide)⟩
    have hG1 := hG hg
    have hn : (gls x 64).length ≤ 9 := by
      unfold goalsB at hg
      exact of_decide_eq_true (Bool.and_eq_true_iff.mp hg).2
    have hgs : ∀ i, i < (gls x 64).length → gsF x i < 64 := fun i hi => gsF_64 hi
    clear hG
    generalize (gls x 64).length = n at *
    generalize gsF x = gs at *
    obtain ⟨N, eN, hN, hNI⟩ := iv_nat (x := M 1 154) (n := 7) n0 (by omega)
    have hN1 : 1 ≤ N := by
      rcases Nat.eq_zero_or_pos N with z | z
      · rw [eN, z] at hz
        exact absurd rfl hz
      · exact z
    rw [eN, iv_tn (by omega)] at h
    have hp2 := pow9 hn
    have hplr : ∀ r, r < 6 → (M 1 (3 + r)).toInt.toNat < 64 ∧ M 1 (3 + r) = iv ((M 1 (3 + r)).toInt.toNat : Nat) := fun r hr => by
      obtain ⟨p, hp, hp64, hpI, hpc⟩ := place_rng hq hr
      rw [hp, iv_tn (by omega)]
      exact ⟨hp64, rfl⟩
    obtain ⟨pl, hpl, hplN⟩ : ∃ pl : Nat → Nat, (∀ r, pl r < 64) ∧ ∀ r, r < 6 → pl r = (M 1 (3 + r)).toInt.toNat := by
      refine ⟨fun r => if r < 6 then (M 1 (3 + r)).toInt.toNat else 0, fun r => ?_, fun r hr => if_pos hr⟩
      show (if r < 6 then (M 1 (3 + r)).toInt.toNat else 0) < 64
      split
      · rename_i c
        exact (hplr r c).1
      · decide
    have sc : ∀ (t s : Nat) (a : Nat → Nat), s ≤ 6 → (good1 gs n (fun r => (M 1 (3 + r)).toInt.toNat) t s a ↔ good1 gs n pl t s a) := by
      intro t s a hs
      unfold good1 asgF
      refine and_congr Iff.rfl ⟨fun z r hr => ?_, fun z r hr => ?_⟩
      · rw [hplN r (by omega)]
        exact z r hr
      · have := z r hr
        rw [hplN r (by omega)] at this
        exact this
    have eT : soonT gs n (fun r => (M 1 (3 + r)).toInt.toNat) N = soonT gs n pl N := by
      unfold soonT
      congr 1
      funext t
      exact propext ⟨fun ⟨a, ha⟩ => ⟨a, (sc t N a (by omega)).mp ha⟩, fun ⟨a, ha⟩ => ⟨a, (sc t N a (by omega)).mpr ha⟩⟩
    have eL : ∀ (t k : Nat), tbL gs n (fun r => (M 1 (3 + r)).toInt.toNat) t N k = tbL gs n pl t N k := by
      intro t k
      induction k with
      | zero => rfl
      | succ k ih =>
        funext j
        rw [tbL_s, tbL_s, ih]
        congr 2
        funext q
        exact propext ⟨fun ⟨a, ha, h⟩ => ⟨a, (sc t N a (by omega)).mp ha, h⟩, fun ⟨a, ha, h⟩ => ⟨a, (sc t N a (by omega)).mpr ha, h⟩⟩
    rw [eT, eL] at h
    have main : (what = 0 ∨ (10 ≤ what.toInt ∧ what.toInt < 10 + n)) → zW shM g (d + 4) mX9_soonest (zi Q) 41 [(0, .ref 0), (3, .int what)] [] M1 := by
      intro hwh
      refine vX9_soonest_41 (c9_laysCosts (N := N) (pl := pl) hn hgs hpl (by omega) (by rw [h1 1 (by decide) (by decide)]; exact eN) (fun r hr => by rw [h1 1 (by decide) (by decide), hplN r (by omega)]; exact (hplr r (by omega)).2) hG1 fun M2 h2 hCo => ?_)
      have e154 : M2 1 154 = iv N := by rw [h2 1 (by decide) (by decide), h1 1 (by decide) (by decide)]; exact eN
      have e38 : M2 0 38 = iv n := by rw [h2 0 (by decide) (by decide)]; exact hG1.1
      refine c9_soonestSteps (N := N) (gs := gs) (pl := pl) hn hgs hpl (by omega) hN1 e154 e38 hCo fun M3 h3 h20 => ⟨fun q => ?_, fun q => ?_⟩
      · have hw2 : 10 ≤ what.toInt ∧ what.toInt < 10 + n := hwh.resolve_left q
        rw [if_neg q, if_pos hw2] at h
        obtain ⟨t, rfl, ht, htI⟩ := iv_nat (x := what) (n := 20) (by omega) (by omega)
        rw [iv_tn (by omega), show t - 9 = t - 10 + 1 by omega] at h
        have e10 : iv t - 10 = iv (t - 10 : Nat) := by
          rw [show (10 : Int32) = iv 10 from rfl, iv_sub]
          congr 1
          omega
        rw [e10]
        refine c9_takerOf (N := N) (gs := gs) (pl := pl) hn hgs hpl (by omega) hN1 (by omega) (by rw [h3 1 (by decide) (by decide)]; exact e154) (by rw [h3 0 (by decide) (by decide)]; exact e38) (fun r P a b => by rw [h3 18 (by decide) (by decide)]; exact hCo r P a b) h20 fun M4 h4 => ?_
        exact h M4 (hm.trans (MEq.of fun o ho => by rw [h4 o (by omega) (by omega), h3 o (by omega) (by omega), h2 o (by omega) (by omega)]))
      · rw [if_pos q] at h
        exact h M3 (hm.trans (MEq.of fun o ho => by rw [h3 o (by omega) (by omega), h2 o (by omega) (by omega)]))
    have e9 : (9 : Int32) + M1 0 38 = iv (9 + n : Nat) := by
      rw [hG1.1]
      exact iv_n 9 n
    refine ⟨fun q => main (Or.inl q), fun q => c9_isIn ⟨fun hw => main (Or.inr ?_), fun hw => ?_⟩⟩
    · rw [e9] at hw
      simp only [isInB, decide_eq_true_eq, decide_eq_false_iff_not, Int32.reduceToInt] at hw
      rw [iv_toInt (by omega) (by omega)] at hw
      omega
    · rw [e9] at hw
      simp only [isInB, decide_eq_true_eq, decide_eq_false_iff_not, Int32.reduceToInt] at hw
      rw [iv_toInt (by omega) (by omega)] at hw
      rw [if_neg q, if_neg (by omega)] at h
      exact h M1 hm
end SO9
