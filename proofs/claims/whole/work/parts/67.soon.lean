/-! SOONEST: the cells of a set shared among skaters -/
/-- the least number with a property -/
noncomputable def lstT (p : Nat → Prop) : Nat := @dite _ (∃ t, p t ∧ ∀ r, r < t → ¬ p r) (Classical.propDecidable _) (fun h => h.choose) (fun _ => 0)
theorem lstT_eq {p : Nat → Prop} {t : Nat} (h1 : p t) (h2 : ∀ r, r < t → ¬ p r) : lstT p = t := by
  have hex : ∃ t, p t ∧ ∀ r, r < t → ¬ p r := ⟨t, h1, h2⟩
  unfold lstT
  rw [dif_pos hex]
  have hs := hex.choose_spec
  rcases Nat.lt_trichotomy hex.choose t with q | q | q
  · exact absurd hs.1 (h2 _ q)
  · exact q
  · exact absurd h1 (hs.2 _ q)
theorem least_ex {p : Nat → Prop} : ∀ n t, t ≤ n → p t → ∃ t, p t ∧ ∀ r, r < t → ¬ p r
  | 0, t, h, hp => by
    obtain rfl : t = 0 := by omega
    exact ⟨0, hp, fun r hr => absurd hr (Nat.not_lt_zero _)⟩
  | n + 1, t, h, hp => by
    by_cases q : ∃ r, r < t ∧ p r
    · obtain ⟨r, h1, h2⟩ := q
      exact least_ex n r (by omega) h2
    · exact ⟨t, hp, fun r hr hpr => q ⟨r, hr, hpr⟩⟩
theorem lstT_spec {p : Nat → Prop} (h : ∃ t, p t) : p (lstT p) ∧ ∀ r, r < lstT p → ¬ p r := by
  obtain ⟨t, ht⟩ := h
  obtain ⟨u, h1, h2⟩ := least_ex t t (Nat.le_refl t) ht
  rw [lstT_eq h1 h2]
  exact ⟨h1, h2⟩
/-- the cells of S that a gives to r -/
def shA (n r : Nat) (a : Nat → Nat) (S : Nat) : Nat := bsN (fun i => S.testBit i && decide (a i = r)) n
theorem shA_bit {n r S j : Nat} {a : Nat → Nat} : (shA n r a S).testBit j = (decide (j < n) && (S.testBit j && decide (a j = r))) := bsN_bit n
theorem shA_lt {n r S : Nat} {a : Nat → Nat} : shA n r a S < 2 ^ n := bsN_lt n
def asgF (gs : Nat → Nat) (n : Nat) (pl fx : Nat → Nat) (t s S : Nat) (a : Nat → Nat) : Prop := (∀ i, i < n → S.testBit i = true → a i < s) ∧ ∀ r, r < s → lov gs n (shA n r a S ||| fx r) (pl r) ≤ t
def fz (gs : Nat → Nat) (n : Nat) (pl fx : Nat → Nat) (t s S : Nat) : Prop := ∃ a, asgF gs n pl fx t s S a
theorem pow9 {n : Nat} (hn : n ≤ 9) : 1 ≤ 2 ^ n ∧ 2 ^ n ≤ 512 := ⟨Nat.two_pow_pos n, Nat.pow_le_pow_right (n := 2) (by decide) hn⟩
theorem set_extn {n a b : Nat} (ha : a < 2 ^ n) (hb : b < 2 ^ n) (h : ∀ j, j < n → a.testBit j = b.testBit j) : a = b := by
  refine Nat.eq_of_testBit_eq fun j => ?_
  by_cases c : j < n
  · exact h j c
  · rw [Nat.testBit_lt_two_pow (Nat.lt_of_lt_of_le ha (Nat.pow_le_pow_right (by decide) (by omega))), Nat.testBit_lt_two_pow (Nat.lt_of_lt_of_le hb (Nat.pow_le_pow_right (by decide) (by omega)))]
theorem sub_bit {P S j : Nat} (h : P &&& S = P) (hj : P.testBit j = true) : S.testBit j = true := by
  rw [← h, Nat.testBit_and] at hj
  exact (Bool.and_eq_true_iff.mp hj).2
theorem sub_of {P S : Nat} (h : ∀ j, P.testBit j = true → S.testBit j = true) : P &&& S = P := by
  refine Nat.eq_of_testBit_eq fun j => ?_
  rw [Nat.testBit_and]
  cases c : P.testBit j
  · rfl
  · rw [h j c]
    rfl
theorem sub_le {P S : Nat} (h : P &&& S = P) : P ≤ S := by
  rw [← h]
  exact Nat.and_le_right
/-- what is left when P has been taken: shares of r -/
theorem shA_rest {n r s S P : Nat} {a : Nat → Nat} (hn : n ≤ 9) (hS : S < 2 ^ n) (hr : r ≠ s) (hP : P = shA n s a S) : shA n r a (sd S P) = shA n r a S := by
  have h2 := pow9 hn
  refine set_extn shA_lt shA_lt fun j hj => ?_
  rw [shA_bit, shA_bit, sd_bit (by omega), hP, shA_bit, decide_eq_true hj]
  by_cases e : a j = r
  · rw [decide_eq_true e, decide_eq_false (fun z => hr (by omega))]
    cases S.testBit j <;> rfl
  · rw [decide_eq_false e]
    simp
theorem shA_put {n s S P : Nat} {a : Nat → Nat} (hn : n ≤ 9) (hS : S < 2 ^ n) (hP : P &&& S = P) (ha : ∀ i, i < n → (sd S P).testBit i = true → a i < s) : shA n s (fun i => if P.testBit i = true then s else a i) S = P := by
  have h2 := pow9 hn
  have hPS := sub_le hP
  refine set_extn shA_lt (by omega) fun j hj => ?_
  rw [shA_bit, decide_eq_true hj, Bool.true_and]
  cases c : P.testBit j
  · cases c2 : S.testBit j
    · rfl
    · have h3 := ha j hj (by rw [sd_bit (by omega), c, c2]; rfl)
      rw [if_neg (by decide), decide_eq_false (by omega)]
      rfl
  · rw [sub_bit hP c, if_pos rfl, decide_eq_true rfl]
    rfl
theorem shA_put2 {n r s S P : Nat} {a : Nat → Nat} (hn : n ≤ 9) (hS : S < 2 ^ n) (hr : r ≠ s) : shA n r (fun i => if P.testBit i = true then s else a i) S = shA n r a (sd S P) := by
  have h2 := pow9 hn
  refine set_extn shA_lt shA_lt fun j hj => ?_
  rw [shA_bit, shA_bit, sd_bit (by omega)]
  cases c : P.testBit j
  · rw [if_neg (by decide)]
    simp
  · rw [if_pos rfl, decide_eq_false (show ¬ s = r from fun z => hr z.symm)]
    simp
theorem asg_out {gs : Nat → Nat} {n : Nat} {pl fx : Nat → Nat} {t s S : Nat} {a : Nat → Nat} (hn : n ≤ 9) (hS : S < 2 ^ n) (h : asgF gs n pl fx t (s + 1) S a) : (shA n s a S &&& S = shA n s a S) ∧ lov gs n (shA n s a S ||| fx s) (pl s) ≤ t ∧ asgF gs n pl fx t s (sd S (shA n s a S)) a := by
  have h2 := pow9 hn
  obtain ⟨h3, h4⟩ := h
  refine ⟨sub_of fun j hj => ?_, h4 s (by omega), fun i hi hb => ?_, fun r hr => ?_⟩
  · rw [shA_bit] at hj
    exact (Bool.and_eq_true_iff.mp (Bool.and_eq_true_iff.mp hj).2).1
  · rw [sd_bit (by omega), shA_bit, decide_eq_true hi, Bool.true_and] at hb
    have h5 := h3 i hi (Bool.and_eq_true_iff.mp hb).1
    have h6 : a i ≠ s := fun z => by
      rw [decide_eq_true z, (Bool.and_eq_true_iff.mp hb).1] at hb
      exact Bool.noConfusion hb
    omega
  · rw [shA_rest hn hS (by omega) rfl]
    exact h4 r (by omega)
theorem asg_in {gs : Nat → Nat} {n : Nat} {pl fx : Nat → Nat} {t s S P : Nat} {a : Nat → Nat} (hn : n ≤ 9) (hS : S < 2 ^ n) (hP : P &&& S = P) (hc : lov gs n (P ||| fx s) (pl s) ≤ t) (h : asgF gs n pl fx t s (sd S P) a) : asgF gs n pl fx t (s + 1) S (fun i => if P.testBit i = true then s else a i) := by
  have h2 := pow9 hn
  obtain ⟨h3, h4⟩ := h
  refine ⟨fun i hi hb => ?_, fun r hr => ?_⟩
  · show (if P.testBit i = true then s else a i) < s + 1
    split
    · omega
    · rename_i c
      have := h3 i hi (by rw [sd_bit (by omega), hb]; cases q : P.testBit i <;> first | rfl | exact absurd q c)
      omega
  · by_cases e : r = s
    · rw [e, shA_put hn hS hP h3]
      exact hc
    · rw [shA_put2 hn hS e]
      exact h4 r (by omega)
theorem fz_s {gs : Nat → Nat} {n : Nat} {pl fx : Nat → Nat} {t s S : Nat} (hn : n ≤ 9) (hS : S < 2 ^ n) : fz gs n pl fx t (s + 1) S ↔ ∃ P, P &&& S = P ∧ lov gs n (P ||| fx s) (pl s) ≤ t ∧ fz gs n pl fx t s (sd S P) := by
  constructor
  · rintro ⟨a, ha⟩
    obtain ⟨h1, h2, h3⟩ := asg_out hn hS ha
    exact ⟨_, h1, h2, a, h3⟩
  · rintro ⟨P, h1, h2, a, h3⟩
    exact ⟨_, asg_in hn hS h1 h2 h3⟩
theorem fz_0 {gs : Nat → Nat} {n : Nat} {pl fx : Nat → Nat} {t S : Nat} (hS : S < 2 ^ n) : fz gs n pl fx t 0 S ↔ S = 0 := by
  constructor
  · rintro ⟨a, h1, _⟩
    refine set_extn hS (Nat.two_pow_pos n) fun j hj => ?_
    rw [Nat.zero_testBit]
    cases c : S.testBit j
    · rfl
    · exact absurd (h1 j hj c) (Nat.not_lt_zero _)
  · rintro rfl
    exact ⟨fun _ => 0, fun i _ hb => by rw [Nat.zero_testBit] at hb; exact Bool.noConfusion hb, fun r hr => absurd hr (Nat.not_lt_zero _)⟩
noncomputable def fzB (gs : Nat → Nat) (n : Nat) (pl fx : Nat → Nat) (t s S : Nat) : Bool := @decide (fz gs n pl fx t s S) (Classical.propDecidable _)
theorem fzB_t {gs : Nat → Nat} {n : Nat} {pl fx : Nat → Nat} {t s S : Nat} : fzB gs n pl fx t s S = true ↔ fz gs n pl fx t s S := ⟨fun h => @of_decide_eq_true _ (Classical.propDecidable _) h, fun h => @decide_eq_true _ (Classical.propDecidable _) h⟩
theorem fzB_f {gs : Nat → Nat} {n : Nat} {pl fx : Nat → Nat} {t s S : Nat} : fzB gs n pl fx t s S = false ↔ ¬ fz gs n pl fx t s S := by
  rw [← fzB_t]
  cases fzB gs n pl fx t s S <;> simp
/-- a way to share all -/
def good1 (gs : Nat → Nat) (n : Nat) (pl : Nat → Nat) (t s : Nat) (a : Nat → Nat) : Prop := asgF gs n pl (fun _ => 0) t s (2 ^ n - 1) a
noncomputable def soonT (gs : Nat → Nat) (n : Nat) (pl : Nat → Nat) (s : Nat) : Nat := lstT fun t => ∃ a, good1 gs n pl t s a
/-- the first way, cell by cell -/
noncomputable def tbL (gs : Nat → Nat) (n : Nat) (pl : Nat → Nat) (t s : Nat) : Nat → Nat → Nat
  | 0 => fun _ => 0
  | k + 1 => fun j => if j = k then lstT (fun q => ∃ a, good1 gs n pl t s a ∧ (∀ i, i < k → a i = tbL gs n pl t s k i) ∧ a k = q) else tbL gs n pl t s k j
noncomputable def soonestV (w : Nat → Int32) (x : Int64) (what : Int32) : Int32 :=
  if w 154 ≠ 0 ∧ goalsB w x = true then
    (if what = 0 then iv (soonT (gsF x) (gls x 64).length (fun s => (w (3 + s)).toInt.toNat) (w 154).toInt.toNat : Nat)
    else if 10 ≤ what.toInt ∧ what.toInt < 10 + (gls x 64).length then iv (tbL (gsF x) (gls x 64).length (fun s => (w (3 + s)).toInt.toNat) (soonT (gsF x) (gls x 64).length (fun s => (w (3 + s)).toInt.toNat) (w 154).toInt.toNat) (w 154).toInt.toNat (what.toInt.toNat - 9) (what.toInt.toNat - 10) : Nat) else -1)
  else -1
theorem or_zero {a : Nat} : a ||| 0 = a := Nat.or_zero a
/-- one skater can go everywhere -/
theorem good_ex {gs : Nat → Nat} {n : Nat} {pl : Nat → Nat} {s : Nat} (hn : n ≤ 9) (hg : ∀ i, i < n → gs i < 64) (hp : ∀ r, pl r < 64) (hs : 0 < s) : ∃ a, good1 gs n pl 7168 s a := by
  have h2 := pow9 hn
  refine ⟨fun _ => 0, fun i _ _ => hs, fun r hr => ?_⟩
  have h3 : shA n r (fun _ => 0) (2 ^ n - 1) < 2 ^ n := shA_lt
  have h4 := lov_le hn hg _ (shA n r (fun _ => 0) (2 ^ n - 1)) (pl r) (Nat.le_refl _) h3 (hp r)
  show lov gs n (shA n r (fun _ => 0) (2 ^ n - 1) ||| 0) (pl r) ≤ 7168
  rw [Nat.or_zero]
  omega
theorem soonT_spec {gs : Nat → Nat} {n : Nat} {pl : Nat → Nat} {s : Nat} (hn : n ≤ 9) (hg : ∀ i, i < n → gs i < 64) (hp : ∀ r, pl r < 64) (hs : 0 < s) : (∃ a, good1 gs n pl (soonT gs n pl s) s a) ∧ (∀ t, t < soonT gs n pl s → ¬ ∃ a, good1 gs n pl t s a) ∧ soonT gs n pl s ≤ 7168 := by
  have hex := good_ex hn hg hp hs
  obtain ⟨h1, h2⟩ := lstT_spec (p := fun t => ∃ a, good1 gs n pl t s a) ⟨7168, hex⟩
  refine ⟨h1, h2, Nat.le_of_not_lt fun q => h2 7168 q hex⟩
theorem good_up {gs : Nat → Nat} {n : Nat} {pl : Nat → Nat} {s t t2 : Nat} (h : t ≤ t2) {a : Nat → Nat} (hg : good1 gs n pl t s a) : good1 gs n pl t2 s a := ⟨hg.1, fun r hr => Nat.le_trans (hg.2 r hr) h⟩
theorem tbL_s {gs : Nat → Nat} {n : Nat} {pl : Nat → Nat} {t s k j : Nat} : tbL gs n pl t s (k + 1) j = if j = k then lstT (fun q => ∃ a, good1 gs n pl t s a ∧ (∀ i, i < k → a i = tbL gs n pl t s k i) ∧ a k = q) else tbL gs n pl t s k j := rfl
theorem tbL_ext {gs : Nat → Nat} {n : Nat} {pl : Nat → Nat} {t s : Nat} (h : ∃ a, good1 gs n pl t s a) : ∀ k, ∃ a, good1 gs n pl t s a ∧ ∀ i, i < k → a i = tbL gs n pl t s k i
  | 0 => by
    obtain ⟨a, ha⟩ := h
    exact ⟨a, ha, fun i hi => absurd hi (Nat.not_lt_zero _)⟩
  | k + 1 => by
    obtain ⟨a, ha, hb⟩ := tbL_ext h k
    obtain ⟨⟨a2, h1, h2, h3⟩, _⟩ := lstT_spec (p := fun q => ∃ a, good1 gs n pl t s a ∧ (∀ i, i < k → a i = tbL gs n pl t s k i) ∧ a k = q) ⟨a k, a, ha, hb, rfl⟩
    refine ⟨a2, h1, fun i hi => ?_⟩
    rw [tbL_s]
    by_cases e : i = k
    · rw [if_pos e, e]
      exact h3
    · rw [if_neg e]
      exact h2 i (by omega)
theorem tbL_stay {gs : Nat → Nat} {n : Nat} {pl : Nat → Nat} {t s j : Nat} : ∀ d k, j < k → tbL gs n pl t s (k + d) j = tbL gs n pl t s k j
  | 0, _, _ => rfl
  | d + 1, k, h => by
    rw [← Nat.add_assoc, tbL_s, if_neg (by omega)]
    exact tbL_stay d k h
/-- taken so far: the cells below k that b gives to r -/
def fxK (n : Nat) (b : Nat → Nat) (k r : Nat) : Nat := bsN (fun j => decide (j < k) && decide (b j = r)) n
theorem fxK_bit {n k r j : Nat} {b : Nat → Nat} : (fxK n b k r).testBit j = (decide (j < n) && (decide (j < k) && decide (b j = r))) := bsN_bit n
theorem fxK_lt {n k r : Nat} {b : Nat → Nat} : fxK n b k r < 2 ^ n := bsN_lt n
/-- the cells from k on -/
def lfK (n k : Nat) : Nat := bsN (fun j => decide (k ≤ j)) n
theorem lfK_bit {n k j : Nat} : (lfK n k).testBit j = (decide (j < n) && decide (k ≤ j)) := bsN_bit n
theorem lfK_lt {n k : Nat} : lfK n k < 2 ^ n := bsN_lt n
theorem lfK_0 {n : Nat} : lfK n 0 = 2 ^ n - 1 := by
  have h := Nat.two_pow_pos n
  refine set_extn lfK_lt (by omega) fun j hj => ?_
  rw [lfK_bit, Nat.testBit_two_pow_sub_one, decide_eq_true hj, decide_eq_true (Nat.zero_le j)]
  rfl
theorem lfK_s {n k : Nat} (hn : n ≤ 9) : sd (lfK n k) (2 ^ k) = lfK n (k + 1) := by
  have h2 := pow9 hn
  have h3 : lfK n k < 2 ^ n := lfK_lt
  refine set_extn (Nat.lt_of_le_of_lt sd_le lfK_lt) lfK_lt fun j hj => ?_
  rw [sd_bit1 (by omega), lfK_bit, lfK_bit, decide_eq_true hj, Bool.true_and, Bool.true_and]
  have e : (decide (k ≤ j) && decide (j ≠ k)) = decide (k + 1 ≤ j) := by
    rw [← Bool.decide_and]
    exact decide_eq_decide.mpr (by omega)
  exact e
/-- sharing the rest when cell k goes to q -/
theorem fz_try {gs : Nat → Nat} {n : Nat} {pl : Nat → Nat} {t s k q : Nat} {b fx : Nat → Nat} (hn : n ≤ 9) (hk : k < n) (hb : ∀ j, j < k → b j < s) (hq : q < s) (hfx : ∀ r, r < s → fx r = if r = q then fxK n b k q ||| 2 ^ k else fxK n b k r) : fz gs n pl fx t s (lfK n (k + 1)) ↔ ∃ a, good1 gs n pl t s a ∧ (∀ j, j < k → a j = b j) ∧ a k = q := by
  have h2 := pow9 hn
  have hkn : 2 ^ k < 2 ^ n := Nat.pow_lt_pow_right (by decide) hk
  have hfb : ∀ r j, r < s → j < n → (fx r).testBit j = ((decide (j < k) && decide (b j = r)) || (decide (j = k) && decide (r = q))) := by
    intro r j hr hj
    rw [hfx r hr]
    by_cases e : r = q
    · subst e
      rw [if_pos rfl, Nat.testBit_or, fxK_bit, Nat.testBit_two_pow, decide_eq_true hj, decide_eq_true rfl, Bool.true_and, Bool.and_true]
      congr 1
      exact decide_eq_decide.mpr ⟨fun z => z.symm, fun z => z.symm⟩
    · rw [if_neg e, fxK_bit, decide_eq_true hj, decide_eq_false e, Bool.true_and, Bool.and_false, Bool.or_false]
  have hfl : ∀ r, r < s → fx r < 2 ^ n := by
    intro r hr
    rw [hfx r hr]
    split
    · exact Nat.or_lt_two_pow fxK_lt hkn
    · exact fxK_lt
  constructor
  · rintro ⟨a, h3, h4⟩
    refine ⟨fun j => if j < k then b j else if j = k then q else a j, ⟨fun i hi _ => ?_, fun r hr => ?_⟩, fun j hj => if_pos hj, ?_⟩
    · show (if i < k then b i else if i = k then q else a i) < s
      split
      · rename_i c
        exact hb i c
      · split
        · exact hq
        · rename_i c1 c2
          refine h3 i hi ?_
          rw [lfK_bit, decide_eq_true hi, decide_eq_true (by omega)]
          rfl
    · have e : shA n r (fun j => if j < k then b j else if j = k then q else a j) (2 ^ n - 1) = shA n r a (lfK n (k + 1)) ||| fx r := by
        refine set_extn shA_lt (Nat.or_lt_two_pow shA_lt (hfl r hr)) fun j hj => ?_
        rw [Nat.testBit_or, shA_bit, shA_bit, hfb r j hr hj, Nat.testBit_two_pow_sub_one, lfK_bit, decide_eq_true hj]
        by_cases c1 : j < k
        · rw [if_pos c1, decide_eq_true c1, decide_eq_false (show ¬ k + 1 ≤ j by omega), decide_eq_false (show ¬ j = k by omega)]
          simp
        · rw [if_neg c1, decide_eq_false c1]
          by_cases c2 : j = k
          · rw [if_pos c2, decide_eq_true c2, decide_eq_false (show ¬ k + 1 ≤ j by omega)]
            have : decide (q = r) = decide (r = q) := decide_eq_decide.mpr ⟨fun z => z.symm, fun z => z.symm⟩
            rw [this]
            simp
          · rw [if_neg c2, decide_eq_false c2, decide_eq_true (show k + 1 ≤ j by omega)]
            simp
      have h5 := h4 r hr
      rw [← e] at h5
      show lov gs n (shA n r _ (2 ^ n - 1) ||| 0) (pl r) ≤ t
      rw [Nat.or_zero]
      exact h5
    · show (if k < k then b k else if k = k then q else a k) = q
      rw [if_neg (Nat.lt_irrefl k), if_pos rfl]
  · rintro ⟨a, ⟨h3, h4⟩, h5, h6⟩
    refine ⟨a, fun i hi _ => h3 i hi ?_, fun r hr => ?_⟩
    · rw [Nat.testBit_two_pow_sub_one]
      exact decide_eq_true hi
    · have e : shA n r a (2 ^ n - 1) = shA n r a (lfK n (k + 1)) ||| fx r := by
        refine set_extn shA_lt (Nat.or_lt_two_pow shA_lt (hfl r hr)) fun j hj => ?_
        rw [Nat.testBit_or, shA_bit, shA_bit, hfb r j hr hj, Nat.testBit_two_pow_sub_one, lfK_bit, decide_eq_true hj]
        by_cases c1 : j < k
        · rw [decide_eq_true c1, decide_eq_false (show ¬ k + 1 ≤ j by omega), decide_eq_false (show ¬ j = k by omega), h5 j c1]
          simp
        · rw [decide_eq_false c1]
          by_cases c2 : j = k
          · subst c2
            rw [decide_eq_true rfl, decide_eq_false (show ¬ j + 1 ≤ j by omega), h6]
            have : decide (q = r) = decide (r = q) := decide_eq_decide.mpr ⟨fun z => z.symm, fun z => z.symm⟩
            rw [this]
            simp
          · rw [decide_eq_false c2, decide_eq_true (show k + 1 ≤ j by omega)]
            simp
      have h7 := h4 r hr
      rw [← e]
      have h8 : lov gs n (shA n r a (2 ^ n - 1) ||| 0) (pl r) ≤ t := h7
      rw [Nat.or_zero] at h8
      exact h8
