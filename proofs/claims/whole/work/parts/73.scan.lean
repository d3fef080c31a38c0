/-! THE SCANNER, both sides: the token behind a place of the tape -/
/-- what a byte is: 1 a letter, 2 a digit, 4 blank, 3 any other -/
def kd (c : Int32) : Nat := if (97 ≤ c.toInt ∧ c.toInt ≤ 122) ∨ (65 ≤ c.toInt ∧ c.toInt ≤ 90) then 1 else if 48 ≤ c.toInt ∧ c.toInt ≤ 57 then 2 else if c.toInt = 32 ∨ c.toInt = 10 then 4 else 3
/-- the bytes from p to e are word q -/
def wrd (t : Nat → Int32) (p e q : Nat) : Bool := decide (e = p + zLen.getD q 0 ∧ ∀ k, k < zLen.getD q 0 → t (p + k) = zChr q k)
theorem wrd_iff {t : Nat → Int32} {p e q : Nat} : wrd t p e q = true ↔ e = p + zLen.getD q 0 ∧ ∀ k, k < zLen.getD q 0 → t (p + k) = zChr q k := by
  unfold wrd
  exact decide_eq_true_iff
def wdV (t : Nat → Int32) (p e : Nat) : List (Nat × Nat) → Int32
  | [] => 1
  | a :: l => if wrd t p e a.1 then iv (a.2 : Nat) else wdV t p e l
/-- the words of each kind of text, with their tokens -/
def wlst : Nat → List (Nat × Nat)
  | 0 => [(0, 7), (3, 11), (4, 12), (5, 13), (6, 14), (7, 15), (1, 16), (2, 17)]
  | 1 => [(16, 3), (19, 4), (18, 5), (17, 6), (9, 20), (8, 21), (10, 41), (11, 42), (12, 43), (13, 44), (14, 45), (15, 46)]
  | 2 => [(20, 8)]
  | _ => [(21, 9), (22, 10)]
def sgV (c : Int32) : Int32 := if c = 59 ∨ c = 43 ∨ c = 45 ∨ c = 42 ∨ c = 47 ∨ c = 40 ∨ c = 41 ∨ c = 60 ∨ c = 61 ∨ c = 62 then 100 + c else 1
/-- the number that the first m bytes behind p tell -/
def nmV (t : Nat → Int32) (p : Nat) : Nat → Int32
  | 0 => 0
  | m + 1 => nmV t p m * 10 + t (p + m) - 48
theorem wdV_t {t : Nat → Int32} {p e q k : Nat} {l : List (Nat × Nat)} (h : wrd t p e q = true) : wdV t p e ((q, k) :: l) = iv (k : Nat) := by
  rw [wdV]
  exact if_pos h
theorem wdV_f {t : Nat → Int32} {p e q k : Nat} {l : List (Nat × Nat)} (h : ¬ wrd t p e q = true) : wdV t p e ((q, k) :: l) = wdV t p e l := by
  rw [wdV]
  exact if_neg h
theorem kd_le (c : Int32) : 1 ≤ kd c ∧ kd c ≤ 4 := by
  unfold kd
  split
  · omega
  · split
    · omega
    · split <;> omega
theorem nmV_rng {t : Nat → Int32} {p : Nat} : ∀ m, m ≤ 4 → (∀ j, p ≤ j → j < p + m → kd (t j) = 2) → 0 ≤ (nmV t p m).toInt ∧ (nmV t p m).toInt < 10 ^ m := by
  intro m
  induction m with
  | zero =>
    intro _ _
    rw [nmV]
    exact ⟨by decide, by decide⟩
  | succ m ih =>
    intro hm hd
    obtain ⟨h1, h2⟩ := ih (by omega) fun j a b => hd j a (by omega)
    have hk := hd (p + m) (by omega) (by omega)
    have hr : 48 ≤ (t (p + m)).toInt ∧ (t (p + m)).toInt ≤ 57 := by
      unfold kd at hk
      split at hk
      · omega
      · split at hk
        · omega
        · split at hk <;> omega
    have h3 : (nmV t p m).toInt < 1000 := by
      obtain rfl | rfl | rfl | rfl : m = 0 ∨ m = 1 ∨ m = 2 ∨ m = 3 := by omega
      all_goals omega
    have e : (nmV t p (m + 1)).toInt = (nmV t p m).toInt * 10 + (t (p + m)).toInt - 48 := by
      rw [nmV]
      simp (disch := ((try simp (disch := ((try simp (disch := ((try simp only [Int32.reduceToInt]); omega)) only [Int32.reduceToInt, ti_rem, ti_div, ti_mul, ti_add, ti_sub, iv_toInt]); omega)) only [Int32.reduceToInt, ti_rem, ti_div, ti_mul, ti_add, ti_sub, iv_toInt]); omega)) only [ti_add, ti_sub, ti_mul, Int32.reduceToInt]
    rw [e]
    refine ⟨by omega, ?_⟩
    rw [Int.pow_succ]
    omega
/-- both scanners behind place e of tape t -/
def SCn (t : Nat → Int32) (n rd e : Nat) (C M : zM) : Prop := C 98 1 = iv n ∧ M 0 23 = iv n ∧ n ≤ 400 ∧ (∀ i, i < n → C 99 i = t i) ∧ M 12 = t ∧ (∀ i, i < n → rng (t i) 0 255) ∧ M 0 16 = iv rd ∧ rd < 4 ∧ C 98 3 = iv e ∧ M 0 24 = iv e ∧ e ≤ n
/-- both scanners see the token from p to e -/
def TK (t : Nat → Int32) (n rd p e : Nat) (C M : zM) : Prop := SCn t n rd e C M ∧ C 98 2 = iv p ∧ M 0 26 = iv p ∧ p ≤ e ∧
  ((p = n ∧ C 98 4 = 0 ∧ M 0 25 = 0) ∨ (p < e ∧ C 98 4 = 1 ∧ M 0 25 = wdV t p e (wlst rd)) ∨ (p < e ∧ C 98 4 = 2 ∧ M 0 25 = 2 ∧ M 0 27 = C 98 5 ∧ rng (C 98 5) 0 9999) ∨ (p < e ∧ C 98 4 = 5 ∧ M 0 25 = 1) ∨ (p < e ∧ C 98 4 = 3 ∧ C 98 5 = t p ∧ M 0 25 = sgV (t p)))
theorem ex_run (P : Nat → Prop) (hd : ∀ i, P i ∨ ¬ P i) (n : Nat) : ∀ m i, i + m = n → ∃ p, i ≤ p ∧ p ≤ n ∧ (∀ j, i ≤ j → j < p → P j) ∧ (p < n → ¬ P p) := by
  intro m
  induction m with
  | zero =>
    intro i hi
    exact ⟨i, by omega, by omega, fun j a b => by omega, fun a => by omega⟩
  | succ m ih =>
    intro i hi
    rcases hd i with h | h
    · obtain ⟨p, h1, h2, h3, h4⟩ := ih (i + 1) (by omega)
      refine ⟨p, by omega, h2, fun j a b => ?_, h4⟩
      by_cases c : j = i
      · rw [c]; exact h
      · exact h3 j (by omega) b
    · exact ⟨i, by omega, by omega, fun j a b => by omega, fun _ => h⟩
section SCC
variable {g : zG} {d : Nat} {C : zM} {t : Nat → Int32} {n p e q : Nat}
theorem c7_kindOf {Q : Int32 → zM → Prop} {c : Int32} (h : Q (iv (kd c)) C) : zCi shC g d mX5_kindOf [.int c] C Q := by
  have key : ∀ k : Nat, kd c = k → Q (iv k) C := fun k e => e ▸ h
  have w40 : ¬ ((97 ≤ c.toInt ∧ c.toInt ≤ 122) ∨ (65 ≤ c.toInt ∧ c.toInt ≤ 90)) → ¬ (48 ≤ c.toInt ∧ c.toInt ≤ 57) → zW shC g d mX5_kindOf (zi Q) 40 [(0, .int c)] [] C := fun a b => vX5_kindOf_40 ⟨fun x => key 4 (by unfold kd; rw [if_neg a, if_neg b, if_pos (Or.inl (by rw [x]; rfl))]), fun x => ⟨fun y => key 3 (by
    unfold kd
    rw [if_neg a, if_neg b, if_neg]
    rw [eqI] at x y
    simp only [Int32.reduceToInt] at x y
    omega), fun y => key 4 (by unfold kd; rw [if_neg a, if_neg b, if_pos (Or.inr (by rw [y]; rfl))])⟩⟩
  have w26 : ¬ ((97 ≤ c.toInt ∧ c.toInt ≤ 122) ∨ (65 ≤ c.toInt ∧ c.toInt ≤ 90)) → zW shC g d mX5_kindOf (zi Q) 26 [(0, .int c)] [] C := fun a => vX5_kindOf_26 ⟨fun x => w40 a (by
    simp only [Int32.lt_iff_toInt_lt, Int32.reduceToInt] at x
    omega), fun x => ⟨fun y => w40 a (by
    simp only [Int32.lt_iff_toInt_lt, Int32.reduceToInt] at y
    omega), fun y => key 2 (by
    simp only [Int32.lt_iff_toInt_lt, Int32.reduceToInt] at x y
    unfold kd
    rw [if_neg a, if_pos (by omega)])⟩⟩
  have w12 : ¬ (97 ≤ c.toInt ∧ c.toInt ≤ 122) → zW shC g d mX5_kindOf (zi Q) 12 [(0, .int c)] [] C := fun a => vX5_kindOf_12 ⟨fun x => w26 (by
    simp only [Int32.lt_iff_toInt_lt, Int32.reduceToInt] at x
    omega), fun x => ⟨fun y => w26 (by
    simp only [Int32.lt_iff_toInt_lt, Int32.reduceToInt] at y
    omega), fun y => key 1 (by
    simp only [Int32.lt_iff_toInt_lt, Int32.reduceToInt] at x y
    unfold kd
    rw [if_pos (by omega)])⟩⟩
  exact vX5_kindOf ⟨fun x => w12 (by
    simp only [Int32.lt_iff_toInt_lt, Int32.reduceToInt] at x
    omega), fun x => ⟨fun y => key 1 (by
    simp only [Int32.lt_iff_toInt_lt, Int32.le_iff_toInt_le, Int32.reduceToInt] at x y
    unfold kd
    rw [if_pos (by omega)]), fun y => w12 (by
    simp only [Int32.le_iff_toInt_le, Int32.reduceToInt] at y
    omega)⟩⟩
theorem c7_isWord {Q : Bool → zM → Prop} (hq : q < 23) (ht : ∀ i, i < n → C 99 i = t i) (hn : n ≤ 400) (h2 : C 98 2 = iv p) (h3 : C 98 3 = iv e) (hp : p ≤ e) (he : e ≤ n) (h : Q (decide (C 98 4 = 1 ∧ wrd t p e q = true)) C) : zCz shC g (d + 4) mX5_isWord [.ref 98, .ref (4096 + q)] C Q := by
  have hl := zlen_small q hq
  refine vX5_isWord hq ⟨fun c => dF h fun z => c z.1, fun c => c_length hq ⟨fun c2 => ?_, fun c2 => dF h fun z => c2 ?_⟩⟩
  · rw [h2, h3, iv_sub, iv_inj (by omega) (by omega)] at c2
    have he2 : e = p + zLen.getD q 0 := by omega
    have loop : ∀ m k : Nat, k + m = zLen.getD q 0 → (∀ j, j < k → t (p + j) = zChr q j) → zW shC g (d + 4) mX5_isWord (zz Q) 28 [(0, .ref 98), (1, .ref (4096 + q)), (2, .int (iv k))] [] C := by
      intro m
      induction m with
      | zero =>
        intro k hk hj
        refine vX5_isWord_28 hq (c_length hq ⟨fun _ => dT h ⟨c, wrd_iff.mpr ⟨he2, fun j a => hj j (by omega)⟩⟩, fun x => absurd ?_ x⟩)
        rw [Int32.le_iff_toInt_le, iv_toInt (by omega) (by omega), iv_toInt (by omega) (by omega)]
        omega
      | succ m ih =>
        intro k hk hj
        refine vX5_isWord_28 hq (c_length hq ⟨fun x => ?_, fun _ => ⟨p + k, by rw [h2, iv_add]; rfl, by omega, c_charAt hq (by omega) ⟨fun x => ?_, fun x => dF h fun z => x ?_⟩⟩⟩)
        · rw [Int32.le_iff_toInt_le, iv_toInt (by omega) (by omega), iv_toInt (by omega) (by omega)] at x
          omega
        · rw [iv_s]
          refine ih (k + 1) (by omega) fun j a => ?_
          by_cases b : j = k
          · rw [b, ← ht (p + k) (by omega)]
            exact x
          · exact hj j (by omega)
        · rw [ht (p + k) (by omega)]
          exact (wrd_iff.mp z.2).2 k (by omega)
    exact loop (zLen.getD q 0) 0 (by omega) fun j a => by omega
  · rw [h2, h3, iv_sub, (wrd_iff.mp z.2).1]
    congr 1
    omega
theorem c7_isSign {Q : Bool → zM → Prop} {c : Int32} (h : Q (decide (C 98 4 = 3 ∧ C 98 5 = c)) C) : zCz shC g d mX5_isSign [.ref 98, .int c] C Q :=
  vX5_isSign ⟨fun a => dF h fun z => a z.1, fun a => ⟨fun b => dF h fun z => b z.2, fun b => dT h ⟨a, b⟩⟩⟩
theorem c7_isEnd {Q : Bool → zM → Prop} (h : Q (decide (C 98 4 = 0)) C) : zCz shC g d mX5_isEnd [.ref 98] C Q :=
  vX5_isEnd ⟨fun a => dF h a, fun a => dT h a⟩
theorem c7_isNumber {Q : Bool → zM → Prop} (h : Q (decide (C 98 4 = 2)) C) : zCz shC g d mX5_isNumber [.ref 98] C Q :=
  vX5_isNumber ⟨fun a => dF h a, fun a => dT h a⟩
end SCC
section SCM
variable {g : zG} {d : Nat} {M : zM} {t : Nat → Int32} {n p e q : Nat}
theorem c9_see {Q : Int32 → zM → Prop} {i : Nat} (h23 : M 0 23 = iv n) (h12 : M 12 = t) (hn : n ≤ 400) (hi : i ≤ 400) (h : Q (if i < n then t i else -1) M) : zCi shM g d mX9_see [.ref 0, .int (iv i)] M Q := by
  refine vX9_see ⟨fun c => ?_, fun c => ?_⟩
  · rw [h23, Int32.le_iff_toInt_le, iv_toInt (by omega) (by omega), iv_toInt (by omega) (by omega)] at c
    rw [if_neg (by omega)] at h
    exact h
  · rw [h23, Int32.le_iff_toInt_le, iv_toInt (by omega) (by omega), iv_toInt (by omega) (by omega)] at c
    rw [if_pos (by omega)] at h
    refine ⟨i, rfl, by omega, ?_⟩
    rw [h12]
    exact h
theorem c9_isLetter {Q : Bool → zM → Prop} {c : Int32} (h : Q (decide (kd c = 1)) M) : zCz shM g (d + 1) mX9_isLetter [.int c] M Q := by
  refine vX9_isLetter (c9_isIn ⟨fun a => dT h ?_, fun a => c9_isIn ⟨fun b => dF h ?_, fun b => dT h ?_⟩⟩)
  all_goals
    simp only [isInB, decide_eq_true_eq, decide_eq_false_iff_not, Int32.reduceToInt] at *
    unfold kd
  · rw [if_pos (by omega)]
  · rw [if_neg (by omega)]
    split
    · omega
    · split <;> omega
  · rw [if_pos (by omega)]
theorem c9_isDigit {Q : Bool → zM → Prop} {c : Int32} (h : Q (decide (kd c = 2)) M) : zCz shM g (d + 1) mX9_isDigit [.int c] M Q := by
  refine vX9_isDigit (c9_isIn ?_)
  have e : isInB c 48 57 = decide (kd c = 2) := by
    rw [Bool.eq_iff_iff]
    simp only [isInB, decide_eq_true_eq, decide_eq_false_iff_not, Int32.reduceToInt]
    unfold kd
    constructor
    · intro a
      rw [if_neg (by omega), if_pos (by omega)]
    · intro a
      split at a
      · omega
      · split at a
        · omega
        · split at a <;> omega
  rw [e]
  exact h
theorem c9_isW {Q : Bool → zM → Prop} (hq : q < 23) (h12 : M 12 = t) (h24 : M 0 24 = iv e) (h26 : M 0 26 = iv p) (hp : p ≤ e) (he : e ≤ 400) (h : Q (wrd t p e q) M) : zCz shM g (d + 4) mX9_is [.ref 0, .ref (4096 + q)] M Q := by
  have hl := zlen_small q hq
  have h : Q (decide (wrd t p e q = true)) M := by rw [Bool.decide_eq_true]; exact h
  have w0 : ∀ k : Nat, k ≤ zLen.getD q 0 → ¬ wrd t p e q = true → zW shM g (d + 4) mX9_is (zz Q) 24 [(0, .ref 0), (1, .ref (4096 + q)), (2, .int 0), (3, .int (iv k))] [] M := fun k _ hw =>
    vX9_is_24 hq (c_length hq ⟨fun _ => ⟨false, rfl, dF h hw⟩, fun _ => ⟨fun _ => ⟨false, rfl, dF h hw⟩, fun x => absurd rfl x⟩⟩)
  refine vX9_is hq (c_length hq ⟨fun c => w0 0 (by omega) fun z => c ?_, fun c => ?_⟩)
  · rw [h24, h26, iv_sub, (wrd_iff.mp z).1]
    congr 1
    omega
  · rw [h24, h26, iv_sub, iv_inj (by omega) (by omega)] at c
    have he2 : e = p + zLen.getD q 0 := by omega
    have loop : ∀ m k : Nat, k + m = zLen.getD q 0 → (∀ j, j < k → t (p + j) = zChr q j) → zW shM g (d + 4) mX9_is (zz Q) 24 [(0, .ref 0), (1, .ref (4096 + q)), (2, .int 1), (3, .int (iv k))] [] M := by
      intro m
      induction m with
      | zero =>
        intro k hk hj
        refine vX9_is_24 hq (c_length hq ⟨fun _ => ⟨true, rfl, dT h (wrd_iff.mpr ⟨he2, fun j a => hj j (by omega)⟩)⟩, fun x => absurd ?_ x⟩)
        rw [Int32.le_iff_toInt_le, iv_toInt (by omega) (by omega), iv_toInt (by omega) (by omega)]
        omega
      | succ m ih =>
        intro k hk hj
        refine vX9_is_24 hq (c_length hq ⟨fun x => ?_, fun _ => ⟨fun x => absurd x (by decide), fun _ => ⟨p + k, by rw [h26, iv_add]; rfl, by omega, c_charAt hq (by omega) ⟨fun x => ?_, fun x => ?_⟩⟩⟩⟩)
        · rw [Int32.le_iff_toInt_le, iv_toInt (by omega) (by omega), iv_toInt (by omega) (by omega)] at x
          omega
        · rw [iv_s]
          refine w0 (k + 1) (by omega) fun z => x ?_
          rw [h12]
          exact (wrd_iff.mp z).2 k (by omega)
        · rw [iv_s]
          refine ih (k + 1) (by omega) fun j a => ?_
          by_cases b : j = k
          · rw [b, ← h12]
            exact x
          · exact hj j (by omega)
    exact loop (zLen.getD q 0) 0 (by omega) fun j a => by omega
theorem c9_word {Q : Int32 → zM → Prop} {rd : Nat} (h16 : M 0 16 = iv rd) (hr : rd < 4) (h12 : M 12 = t) (h24 : M 0 24 = iv e) (h26 : M 0 26 = iv p) (hp : p ≤ e) (he : e ≤ 400) (h : Q (wdV t p e (wlst rd)) M) : zCi shM g (d + 6) mX9_word [.ref 0] M Q := by
  have hi : (M 0 16).toInt = rd := by rw [h16, iv_toInt (by omega) (by omega)]
  refine vX9_word ⟨fun c => ?_, fun c => ?_, fun c => ?_, fun c => ?_⟩
  · obtain rfl : rd = 3 := by omega
    rw [wlst] at h
    · refine vX9_wantWord ?_
      refine c9_isW (by decide) h12 h24 h26 hp he ⟨fun b => ?_, fun b => by rw [wdV_t b] at h; exact h⟩
      rw [wdV_f (by rw [b]; exact Bool.false_ne_true)] at h
      refine c9_isW (by decide) h12 h24 h26 hp he ⟨fun b => ?_, fun b => by rw [wdV_t b] at h; exact h⟩
      rw [wdV_f (by rw [b]; exact Bool.false_ne_true)] at h
      exact h
    all_goals (intro a; omega)
  · obtain rfl : rd = 0 := by omega
    rw [wlst] at h
    refine vX9_wayWord ?_
    iterate 8
      refine c9_isW (by decide) h12 h24 h26 hp he ⟨fun b => ?_, fun b => by rw [wdV_t b] at h; exact h⟩
      rw [wdV_f (by rw [b]; exact Bool.false_ne_true)] at h
    exact h
  · obtain rfl : rd = 1 := by omega
    rw [wlst] at h
    refine vX9_iceWord ?_
    iterate 12
      refine c9_isW (by decide) h12 h24 h26 hp he ⟨fun b => ?_, fun b => by rw [wdV_t b] at h; exact h⟩
      rw [wdV_f (by rw [b]; exact Bool.false_ne_true)] at h
    exact h
  · obtain rfl : rd = 2 := by omega
    rw [wlst] at h
    refine c9_isW (by decide) h12 h24 h26 hp he ⟨fun b => ?_, fun b => by rw [wdV_t b] at h; exact h⟩
    rw [wdV_f (by rw [b]; exact Bool.false_ne_true)] at h
    exact h
end SCM
