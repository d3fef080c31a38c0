/-! SOONEST of the class -/
theorem imin_iv {a b : Nat} (ha : a < 2147483648) (hb : b < 2147483648) : imin (iv a) (iv b) = iv (min a b : Nat) := by
  unfold imin
  simp only [Int32.lt_iff_toInt_lt]
  rw [iv_toInt (by omega) (by omega), iv_toInt (by omega) (by omega)]
  split
  · congr 1
    omega
  · congr 1
    omega
theorem imax_iv {a b : Nat} (ha : a < 2147483648) (hb : b < 2147483648) : imax (iv a) (iv b) = iv (max a b : Nat) := by
  unfold imax
  simp only [Int32.lt_iff_toInt_lt]
  rw [iv_toInt (by omega) (by omega), iv_toInt (by omega) (by omega)]
  split
  · congr 1
    omega
  · congr 1
    omega
theorem sd_0 {S : Nat} (hS : S < 512) : sd S 0 = S := set_ext (Nat.lt_of_le_of_lt sd_le hS) hS fun j _ => by
  rw [sd_bit hS, Nat.zero_testBit]
  simp
/-- one skater more, without any taken -/
theorem fz0_s {gs : Nat → Nat} {n : Nat} {pl : Nat → Nat} {t s S : Nat} (hn : n ≤ 9) (hS : S < 2 ^ n) : fz gs n pl (fun _ => 0) t (s + 1) S ↔ ∃ P, P &&& S = P ∧ lov gs n P (pl s) ≤ t ∧ fz gs n pl (fun _ => 0) t s (sd S P) := by
  rw [fz_s hn hS]
  simp only [Nat.or_zero]
theorem zfill_at {M : zM} {o n j : Nat} {x : Int32} (h : j < n) : zfill M o n x o j = x := by
  simp [zfill, h]
/-- the least of the longest routes -/
def LL (gs : Nat → Nat) (n : Nat) (pl : Nat → Nat) (s S : Nat) (x : Int32) : Prop := ∃ v : Nat, x = iv v ∧ v ≤ 100000000 ∧ ∀ t, t < 100000000 → (v ≤ t ↔ fz gs n pl (fun _ => 0) t s S)
/-- the cells as digits to the base 6, the first highest -/
def dgN (n S : Nat) : Nat := sumB (fun i => 6 ^ (n - 1 - i)) S n
def vaN (n : Nat) (a : Nat → Nat) (S : Nat) : Nat := sumB (fun i => a i * 6 ^ (n - 1 - i)) S n
def LV (gs : Nat → Nat) (n : Nat) (pl : Nat → Nat) (T s S : Nat) (x : Int32) : Prop := ∃ v : Nat, x = iv v ∧ v ≤ 100000000 ∧ (∀ a, asgF gs n pl (fun _ => 0) T s S a → v ≤ vaN n a S) ∧ (v < 100000000 → ∃ a, asgF gs n pl (fun _ => 0) T s S a ∧ vaN n a S = v)
theorem sumB_0 {f : Nat → Nat} : ∀ n, sumB f 0 n = 0
  | 0 => rfl
  | n + 1 => by
    rw [sumB, sumB_0 n, Nat.zero_testBit, if_neg (by decide)]
theorem dg_le {n S : Nat} : ∀ k, k ≤ n → 5 * sumB (fun i => 6 ^ (n - 1 - i)) S k + 6 ^ (n - k) ≤ 6 ^ n
  | 0, _ => by
    rw [sumB, Nat.sub_zero]
    omega
  | k + 1, hk => by
    have ih := dg_le (n := n) (S := S) k (by omega)
    have e : 6 ^ (n - k) = 6 * 6 ^ (n - 1 - k) := by
      rw [show n - k = n - 1 - k + 1 by omega, Nat.pow_succ]
      omega
    have e2 : n - (k + 1) = n - 1 - k := by omega
    rw [sumB, e2]
    split <;> omega
theorem dg_small {n S : Nat} (hn : n ≤ 9) : 5 * dgN n S < 10077697 := by
  have h := dg_le (n := n) (S := S) n (Nat.le_refl n)
  have h6 : 6 ^ n ≤ 6 ^ 9 := Nat.pow_le_pow_right (by decide) hn
  have e9 : (6 : Nat) ^ 9 = 10077696 := by decide
  rw [Nat.sub_self, Nat.pow_zero] at h
  unfold dgN
  omega
theorem sumB_mul {f : Nat → Nat} {S c : Nat} : ∀ n, sumB (fun i => c * f i) S n = c * sumB f S n
  | 0 => rfl
  | n + 1 => by
    rw [sumB, sumB, sumB_mul n, Nat.mul_add]
    split <;> simp
/-- what a gives comes to s's part and the rest -/
theorem va_out {n s S : Nat} {a : Nat → Nat} (hn : n ≤ 9) (hS : S < 2 ^ n) : vaN n a S = vaN n a (sd S (shA n s a S)) + s * dgN n (shA n s a S) := by
  have h2 := pow9 hn
  unfold vaN dgN
  rw [sumB_split (A := sd S (shA n s a S)) (B := shA n s a S) n fun j hj => ?_, ← sumB_mul]
  · congr 1
    refine sumB_congr n fun j hj hb => ?_
    rw [shA_bit] at hb
    have := of_decide_eq_true (Bool.and_eq_true_iff.mp (Bool.and_eq_true_iff.mp hb).2).2
    rw [this]
  · rw [sd_bit (by omega), shA_bit, decide_eq_true hj]
    cases S.testBit j <;> cases decide (a j = s) <;> exact ⟨rfl, rfl⟩
theorem va_in {n s S P : Nat} {a : Nat → Nat} (hn : n ≤ 9) (hS : S < 2 ^ n) (hP : P &&& S = P) : vaN n (fun i => if P.testBit i = true then s else a i) S = vaN n a (sd S P) + s * dgN n P := by
  have h2 := pow9 hn
  unfold vaN dgN
  rw [sumB_split (A := sd S P) (B := P) n fun j hj => ?_, ← sumB_mul]
  · congr 1
    · refine sumB_congr n fun j hj hb => ?_
      rw [sd_bit (by omega)] at hb
      have h3 := (Bool.and_eq_true_iff.mp hb).2
      show (if P.testBit j = true then s else a j) * 6 ^ (n - 1 - j) = a j * 6 ^ (n - 1 - j)
      rw [if_neg (show ¬ P.testBit j = true from fun z => by rw [z] at h3; exact Bool.noConfusion h3)]
    · refine sumB_congr n fun j hj hb => ?_
      show (if P.testBit j = true then s else a j) * 6 ^ (n - 1 - j) = s * 6 ^ (n - 1 - j)
      rw [if_pos hb]
  · rw [sd_bit (by omega)]
    cases c : P.testBit j
    · simp
    · rw [sub_bit hP c]
      exact ⟨rfl, rfl⟩
/-- read as a number to the base 6 -/
def hoN (a : Nat → Nat) : Nat → Nat
  | 0 => 0
  | m + 1 => 6 * hoN a m + a m
theorem va_ho {n : Nat} {a : Nat → Nat} : ∀ m, m ≤ n → sumB (fun i => a i * 6 ^ (n - 1 - i)) (2 ^ n - 1) m = hoN a m * 6 ^ (n - m)
  | 0, _ => by
    rw [sumB, hoN, Nat.zero_mul]
  | m + 1, hm => by
    rw [sumB, va_ho m (by omega), Nat.testBit_two_pow_sub_one, decide_eq_true (by omega), if_pos rfl, hoN, show n - m = n - 1 - m + 1 by omega, Nat.pow_succ, show n - (m + 1) = n - 1 - m by omega, Nat.add_mul, Nat.mul_assoc, Nat.mul_comm (6 ^ (n - 1 - m)) 6, ← Nat.mul_assoc, ← Nat.mul_assoc, Nat.mul_comm (hoN a m) 6, Nat.mul_assoc]
theorem va_all {n : Nat} {a : Nat → Nat} : vaN n a (2 ^ n - 1) = hoN a n := by
  have h := va_ho (n := n) (a := a) n (Nat.le_refl n)
  rw [Nat.sub_self, Nat.pow_zero, Nat.mul_one] at h
  exact h
theorem ho_lt {a c : Nat → Nat} {k : Nat} (h1 : ∀ j, j < k → a j = c j) (h2 : a k < c k) : ∀ d, (∀ j, j < k + 1 + d → a j < 6) → hoN a (k + 1 + d) < hoN c (k + 1 + d)
  | 0, _ => by
    have e : ∀ m, m ≤ k → hoN a m = hoN c m := by
      intro m
      induction m with
      | zero => intro _; rfl
      | succ m ih =>
        intro hm
        rw [hoN, hoN, ih (by omega), h1 m (by omega)]
    rw [Nat.add_zero, hoN, hoN, e k (Nat.le_refl k)]
    omega
  | d + 1, h6 => by
    have ih := ho_lt h1 h2 d fun j hj => h6 j (by omega)
    have h7 := h6 (k + 1 + d) (by omega)
    rw [← Nat.add_assoc, hoN, hoN]
    omega
theorem ho_dig {a : Nat → Nat} {i : Nat} : ∀ d, (∀ j, j < i + 1 + d → a j < 6) → hoN a (i + 1 + d) / 6 ^ d % 6 = a i
  | 0, h6 => by
    have := h6 i (by omega)
    rw [Nat.add_zero, hoN, Nat.pow_zero, Nat.div_one]
    omega
  | d + 1, h6 => by
    have ih := ho_dig (a := a) (i := i) d fun j hj => h6 j (by omega)
    have h7 := h6 (i + 1 + d) (by omega)
    rw [← Nat.add_assoc, hoN, Nat.pow_succ, Nat.mul_comm (6 ^ d) 6, ← Nat.div_div_eq_div_mul, show (6 * hoN a (i + 1 + d) + a (i + 1 + d)) / 6 = hoN a (i + 1 + d) by omega]
    exact ih
theorem ho_big {a : Nat → Nat} : ∀ m, (∀ j, j < m → a j < 6) → hoN a m < 6 ^ m
  | 0, _ => by
    rw [hoN]
    decide
  | m + 1, h => by
    have ih := ho_big m fun j hj => h j (by omega)
    have := h m (by omega)
    rw [hoN, Nat.pow_succ]
    omega
/-- the least number's digits are the first way's -/
theorem dig_tb {gs : Nat → Nat} {n : Nat} {pl : Nat → Nat} {t s i V : Nat} {a : Nat → Nat} (hs : s ≤ 6) (hi : i < n) (ha : good1 gs n pl t s a) (hV : vaN n a (2 ^ n - 1) = V) (hmin : ∀ c, good1 gs n pl t s c → V ≤ vaN n c (2 ^ n - 1)) : V / 6 ^ (n - 1 - i) % 6 = tbL gs n pl t s (i + 1) i := by
  have all6 : ∀ c, good1 gs n pl t s c → ∀ j, j < n → c j < 6 := by
    intro c hc j hj
    have := hc.1 j hj (by rw [Nat.testBit_two_pow_sub_one]; exact decide_eq_true hj)
    omega
  have eq : ∀ k, k ≤ i + 1 → ∀ j, j < k → a j = tbL gs n pl t s (i + 1) j := by
    intro k
    induction k with
    | zero => intro _ j hj; exact absurd hj (Nat.not_lt_zero j)
    | succ k ih =>
      intro hk j hj
      have ih := ih (by omega)
      by_cases e : j = k
      · rw [e]
        obtain ⟨⟨c, c1, c2, c3⟩, hno⟩ := tb_least (gs := gs) (n := n) (pl := pl) (t := t) (s := s) (i := i) (k := k) ⟨a, ha⟩ (by omega)
        rcases Nat.lt_trichotomy (a k) (tbL gs n pl t s (i + 1) k) with z | z | z
        · exact absurd ⟨a, ha, ih, rfl⟩ (hno _ z)
        · exact z
        · exfalso
          have h1 := ho_lt (a := c) (c := a) (k := k) (fun j hj => (c2 j hj).trans (ih j hj).symm) (by omega) (n - 1 - k) fun j hj => all6 c c1 j (by omega)
          rw [show k + 1 + (n - 1 - k) = n by omega] at h1
          have h2 := hmin c c1
          rw [va_all] at h2
          rw [va_all] at hV
          omega
      · exact ih j (by omega)
  have h1 := ho_dig (a := a) (i := i) (n - 1 - i) fun j hj => all6 a ha j (by omega)
  rw [show i + 1 + (n - 1 - i) = n by omega, ← va_all (n := n), hV] at h1
  rw [h1]
  exact eq (i + 1) (Nat.le_refl _) i (by omega)
/-- what stays in the router -/
def Rt7 (C : zM) (gs : Nat → Nat) (n : Nat) (pl : Nat → Nat) (N : Nat) : Prop := G7 C gs n ∧ T7 C gs n (2 ^ n) ∧ C 116 3 = iv N ∧ ∀ r, r < N → C 119 r = iv (pl r)
theorem Rt7.keep {C C' : zM} {gs : Nat → Nat} {n : Nat} {pl : Nat → Nat} {N : Nat} (h : Rt7 C gs n pl N) (hk : ∀ o, 116 ≤ o → o ≤ 119 → C' o = C o) : Rt7 C' gs n pl N := by
  unfold Rt7 G7 T7 at h ⊢
  rw [hk 116 (by omega) (by omega), hk 117 (by omega) (by omega), hk 118 (by omega) (by omega), hk 119 (by omega) (by omega)]
  exact h
section SO7
variable {g : zG} {d : Nat} {C : zM} {w : Nat → Int32} {gs : Nat → Nat} {n N : Nat} {pl : Nat → Nat}
theorem c4_lastNeeded {Q : Int32 → zM → Prop} {s : Nat} (hn : n ≤ 9) (hs : s < N) (hN : N ≤ 6) (hR : Rt7 C gs n pl N) (h : Q (if s + 1 = N then iv (2 ^ n - 1 : Nat) else 0) C) : zCi shC g (d + 1) mX4_lastNeeded [.ref 116, .int (iv s)] C Q := by
  have e : C 116 3 - 1 = iv (N - 1 : Nat) := by
    rw [hR.2.2.1, show (1 : Int32) = iv 1 from rfl, iv_sub]
    congr 1
    omega
  refine vX4_lastNeeded ⟨fun q => ?_, fun q => c4_all hn hR.1.1 ?_⟩
  · rw [e, iv_inj (by omega) (by omega)] at q
    rw [if_neg (by omega)] at h
    exact h
  · rw [e, iv_inj (by omega) (by omega)] at q
    rw [if_pos (by omega)] at h
    exact h
theorem c4_fillCosts {Q : zM → Prop} {s : Nat} (hn : n ≤ 9) (hgs : ∀ i, i < n → gs i < 64) (hpl : ∀ r, pl r < 64) (hs : s < N) (hN : N ≤ 6) (hR : Rt7 C gs n pl N) (h : ∀ C' : zM, (∀ o, o ≠ 120 → C' o = C o) → (∀ P, P < 2 ^ n → C' 120 P = iv (lov gs n P (pl s) : Nat)) → Q C') : zCv shC g (d + 4) mX4_fillCosts [.ref 116, .int (iv s)] C Q := by
  have h2 := pow9 hn
  refine vX4_fillCosts ?_
  have loop : ∀ (f S : Nat) (C1 : zM), S + f = 2 ^ n → (∀ o, o ≠ 120 → C1 o = C o) → (∀ P, P < S → C1 120 P = iv (lov gs n P (pl s) : Nat)) → zW shC g (d + 4) mX4_fillCosts (zv Q) 2 [(0, .ref 116), (1, .int (iv s)), (2, .int (iv S))] [] C1 := by
    intro f
    induction f with
    | zero =>
      intro S C1 hS ho hr
      obtain rfl : S = 2 ^ n := by omega
      refine vX4_fillCosts_2 (c4_all hn (by rw [ho 116 (by decide)]; exact hR.1.1) ⟨fun _ => h C1 ho hr, fun q => absurd ?_ q⟩)
      rw [Int32.lt_iff_toInt_lt, iv_toInt (by omega) (by omega), iv_toInt (by omega) (by omega)]
      omega
    | succ f ih =>
      intro S C1 hS ho hr
      have hR1 : Rt7 C1 gs n pl N := hR.keep fun o a b => ho o (by omega)
      refine vX4_fillCosts_2 (c4_all hn hR1.1.1 ⟨fun q => ?_, fun _ => ⟨s, rfl, by omega, ?_⟩⟩)
      · exfalso
        rw [Int32.lt_iff_toInt_lt, iv_toInt (by omega) (by omega), iv_toInt (by omega) (by omega)] at q
        omega
      · rw [hR1.2.2.2 s hs]
        refine c4_lead hn hgs hR1.1 (fun i hi hb => hR1.2.1 S i (by omega) hi hb) (by omega) (hpl s) ⟨S, rfl, by omega, ?_⟩
        rw [iv_s]
        refine ih (S + 1) _ (by omega) (fun o hoo => by rw [zup_oth hoo]; exact ho o hoo) fun P hP => ?_
        by_cases e : P = S
        · rw [e, zup_same]
        · rw [zup_ne (Or.inr e)]
          exact hr P (by omega)
  exact loop (2 ^ n) 0 C (by omega) (fun _ _ => rfl) fun P hP => absurd hP (Nat.not_lt_zero _)
theorem c4_leastLongest {Q : Int32 → zM → Prop} {s S : Nat} (hn : n ≤ 9) (hgs : ∀ i, i < n → gs i < 64) (hpl : ∀ r, pl r < 64) (hS : S < 2 ^ n) (hc : ∀ P, P < 2 ^ n → C 120 P = iv (lov gs n P (pl s) : Nat)) (hL : ∀ P, P ≤ S → LL gs n pl s P (C 121 P)) (h : ∀ x, LL gs n pl (s + 1) S x → Q x C) : zCi shC g (d + 1) mX4_leastLongest [.ref 116, .int (iv S)] C Q := by
  have h2 := pow9 hn
  have hb : ∀ P, P < 2 ^ n → lov gs n P (pl s) ≤ 7168 := fun P hP => by
    have := lov_le hn hgs _ P (pl s) (Nat.le_refl _) hP (hpl s)
    omega
  have loop : ∀ (f x v : Nat), x ≤ f → x &&& S = x → v ≤ 100000000 → (∀ t, t < 100000000 → (v ≤ t ↔ ∃ P, P &&& S = P ∧ (P = 0 ∨ x < P) ∧ lov gs n P (pl s) ≤ t ∧ fz gs n pl (fun _ => 0) t s (sd S P))) → zW shC g (d + 1) mX4_leastLongest (zi Q) 18 [(0, .ref 116), (1, .int (iv S)), (2, .int (iv v)), (3, .int (iv x))] [] C := by
    intro f
    induction f with
    | zero =>
      intro x v hx hxS hv hi
      obtain rfl : x = 0 := by omega
      refine vX4_leastLongest_18 ⟨fun _ => h _ ⟨v, rfl, hv, fun t ht => ?_⟩, fun q => absurd (by decide) q⟩
      rw [hi t ht, fz0_s hn hS]
      exact ⟨fun ⟨P, a, _, b⟩ => ⟨P, a, b⟩, fun ⟨P, a, b⟩ => ⟨P, a, by omega, b⟩⟩
    | succ f ih =>
      intro x v hx hxS hv hi
      by_cases hx0 : x = 0
      · exact ih x v (by omega) hxS hv hi
      have hxle := sub_le hxS
      have hsl := sd_le (a := S) (b := x)
      obtain ⟨u, u1, u2, u3⟩ := hL (sd S x) hsl
      have hbx := hb x (by omega)
      refine vX4_leastLongest_18 ⟨fun q => ?_, fun _ => ⟨x, rfl, by omega, sd S x, iv_sd (by omega), by omega, ?_⟩⟩
      · exfalso
        rw [Int32.le_iff_toInt_le, iv_toInt (by omega) (by omega)] at q
        simp only [Int32.reduceToInt] at q
        omega
      · have hle : (x - 1) &&& S ≤ x - 1 := Nat.and_le_left
        rw [hc x (by omega), u1, imax_iv (by omega) (by omega), imin_iv (by omega) (by omega), iv_subnx (by omega)]
        refine ih _ _ (by omega) sub_nx (by omega) fun t ht => ?_
        have h3 := hi t ht
        have h4 := u3 t ht
        constructor
        · intro hm
          by_cases c : v ≤ t
          · obtain ⟨P, a, b, e⟩ := h3.mp c
            have hz : P = 0 ∨ (x - 1) &&& S < P := by
              clear h3 h4 hm
              omega
            exact ⟨P, a, hz, e⟩
          · exact ⟨x, hxS, by omega, by omega, h4.mp (by omega)⟩
        · rintro ⟨P, a, b, e1, e2⟩
          rcases Nat.lt_trichotomy P x with z | z | z
          · have h5 := sub_next x x S P (Nat.le_refl x) hxS a z
            have hP0 : P = 0 := by omega
            have := h3.mpr ⟨P, a, Or.inl hP0, e1, e2⟩
            omega
          · subst z
            have := h4.mpr e2
            omega
          · have := h3.mpr ⟨P, a, Or.inr z, e1, e2⟩
            omega
  obtain ⟨u, u1, u2, u3⟩ := hL S (Nat.le_refl S)
  refine vX4_leastLongest ⟨S, rfl, by omega, ?_⟩
  have e0 : lov gs n 0 (pl s) = 0 := lov_0
  rw [hc 0 (by omega), e0, u1, imax_iv (by omega) (by omega), show max 0 u = u by omega]
  refine loop S S u (Nat.le_refl S) (Nat.and_self S) u2 fun t ht => ?_
  rw [u3 t ht]
  constructor
  · intro hf
    exact ⟨0, Nat.zero_and S, Or.inl rfl, by omega, by rw [sd_0 (by omega)]; exact hf⟩
  · rintro ⟨P, a, b, e1, e2⟩
    have hP0 : P = 0 := by
      have := sub_le a
      omega
    rw [hP0, sd_0 (by omega)] at e2
    exact e2
theorem c4_longest {Q : Int32 → zM → Prop} (hn : n ≤ 9) (hgs : ∀ i, i < n → gs i < 64) (hpl : ∀ r, pl r < 64) (hN : N ≤ 6) (hN1 : 1 ≤ N) (hR : Rt7 C gs n pl N) (h : ∀ C' : zM, (∀ o, o ≠ 120 → o ≠ 121 → C' o = C o) → Q (iv (soonT gs n pl N : Nat)) C') : zCi shC g (d + 5) mX4_longest [.ref 116] C Q := by
  have h2 := pow9 hn
  obtain ⟨t1, t2, t3⟩ := soonT_spec hn hgs hpl (show 0 < N by omega)
  refine vX4_longest (c_fill (n := 512) (l := []) rfl (by decide) ?_)
  have outer : ∀ (f s : Nat) (C1 : zM), s + f = N → (∀ o, o ≠ 120 → o ≠ 121 → C1 o = C o) → (∀ S, S < 2 ^ n → (s < N ∨ S = 2 ^ n - 1) → LL gs n pl s S (C1 121 S)) → zW shC g (d + 5) mX4_longest (zi Q) 18 [(0, .ref 116), (1, .int (iv s))] [] C1 := by
    intro f
    induction f with
    | zero =>
      intro s C1 hs ho hL
      obtain rfl : s = N := by omega
      have hR1 : Rt7 C1 gs n pl s := hR.keep fun o a b => ho o (by omega) (by omega)
      obtain ⟨v, v1, v2, v3⟩ := hL (2 ^ n - 1) (by omega) (Or.inr rfl)
      have ev : v = soonT gs n pl s := by
        rcases Nat.lt_trichotomy v (soonT gs n pl s) with z | z | z
        · exact absurd ((v3 v (by omega)).mp (Nat.le_refl v)) (t2 v z)
        · exact z
        · have := (v3 (soonT gs n pl s) (by omega)).mpr t1
          omega
      refine vX4_longest_18 ⟨fun _ => c4_all hn hR1.1.1 ⟨2 ^ n - 1, rfl, by omega, ?_⟩, fun q => absurd ?_ q⟩
      · rw [v1, ev]
        exact h C1 ho
      · rw [hR1.2.2.1]
        exact Int32.le_refl _
    | succ f ih =>
      intro s C1 hs ho hL
      have hR1 : Rt7 C1 gs n pl N := hR.keep fun o a b => ho o (by omega) (by omega)
      refine vX4_longest_18 ⟨fun q => ?_, fun _ => c4_fillCosts (N := N) hn hgs hpl (by omega) hN hR1 fun C2 hC2 hc2 => c4_all hn (by rw [hC2 116 (by decide)]; exact hR1.1.1) ?_⟩
      · rw [hR1.2.2.1] at q
        exact (not_le_iv (a := N) (b := s) (by omega) (by omega) q).elim
      have inner : ∀ (fu : Nat) (C3 : zM), fu ≤ 2 ^ n → (∀ o, o ≠ 121 → C3 o = C2 o) → (s + 1 = N → 2 ^ n - 1 ≤ fu) → (∀ S, S < 2 ^ n → fu ≤ S → LL gs n pl (s + 1) S (C3 121 S)) → (∀ S, S < fu → LL gs n pl s S (C3 121 S)) → zW shC g (d + 5) mX4_longest (zi Q) 36 [(0, .ref 116), (1, .int (iv s)), (2, .int (iv ((fu : Int) - 1)))] [] C3 := by
        intro fu
        induction fu with
        | zero =>
          intro C3 hfu ho3 hlast hd hl
          have hR3 : Rt7 C3 gs n pl N := hR1.keep fun o a b => by rw [ho3 o (by omega), hC2 o (by omega)]
          have fin : zW shC g (d + 5) mX4_longest (zi Q) 18 [(0, .ref 116), (1, .int (iv s + 1))] [] C3 := by
            rw [iv_s]
            exact ih (s + 1) C3 (by omega) (fun o a b => by rw [ho3 o b, hC2 o a]; exact ho o a b) fun S hS _ => hd S hS (Nat.zero_le S)
          refine vX4_longest_36 (c4_lastNeeded (N := N) hn (by omega) hN hR3 ⟨fun _ => fin, fun q => absurd ?_ q⟩)
          rw [Int32.lt_iff_toInt_lt, iv_toInt (by omega) (by omega)]
          split
          · rw [iv_toInt (by omega) (by omega)]
            omega
          · simp only [Int32.reduceToInt]
            omega
        | succ fu ihf =>
          intro C3 hfu ho3 hlast hd hl
          have hR3 : Rt7 C3 gs n pl N := hR1.keep fun o a b => by rw [ho3 o (by omega), hC2 o (by omega)]
          have ef : ((fu + 1 : Nat) : Int) - 1 = fu := by omega
          rw [ef]
          refine vX4_longest_36 (c4_lastNeeded (N := N) hn (by omega) hN hR3 ⟨fun q => ?_, fun q => ?_⟩)
          · have hlt : s + 1 = N ∧ fu < 2 ^ n - 1 := by
              rw [Int32.lt_iff_toInt_lt, iv_toInt (by omega) (by omega)] at q
              split at q
              · rename_i e
                rw [iv_toInt (by omega) (by omega)] at q
                exact ⟨e, by omega⟩
              · simp only [Int32.reduceToInt] at q
                omega
            rw [iv_s]
            refine ih (s + 1) C3 (by omega) (fun o a b => by rw [ho3 o b, hC2 o a]; exact ho o a b) fun S hS hS2 => ?_
            have hSe : S = 2 ^ n - 1 := by omega
            exact hd S hS (by omega)
          · have hge : s + 1 = N → 2 ^ n - 1 ≤ fu := by
              intro e
              rw [if_pos e, Int32.lt_iff_toInt_lt, iv_toInt (by omega) (by omega), iv_toInt (by omega) (by omega)] at q
              omega
            refine c4_leastLongest (s := s) hn hgs hpl (by omega) (fun P hP => by rw [ho3 120 (by decide)]; exact hc2 P hP) (fun P hP => hl P (by omega)) fun x hx => ⟨fu, rfl, by omega, ?_⟩
            have en : iv (fu : Int) + (-1) = iv ((fu : Int) - 1) := by
              rw [show (-1 : Int32) = iv (-1) from rfl, iv_add]
              rfl
            rw [en]
            by_cases elast : s + 1 = N
            · -- the last skater: the whole set alone
              have hfe := hge elast
              have hfu2 : fu = 2 ^ n - 1 := by omega
              have hR4 : Rt7 (zup C3 121 fu x) gs n pl N := hR3.keep fun o a b => zup_oth (by omega)
              refine vX4_longest_36 (c4_lastNeeded (N := N) hn (by omega) hN hR4 ?_)
              rw [if_pos elast]
              refine ⟨fun _ => ?_, fun q => absurd ?_ q⟩
              · rw [iv_s]
                refine ih (s + 1) _ (by omega) (fun o a b => by rw [zup_oth b, ho3 o b, hC2 o a]; exact ho o a b) fun S hS hS2 => ?_
                have hSe : S = fu := by omega
                rw [hSe, zup_same]
                exact hx
              · rw [Int32.lt_iff_toInt_lt, iv_toInt (by omega) (by omega), iv_toInt (by omega) (by omega)]
                omega
            · refine ihf _ (by omega) (fun o hoo => by rw [zup_oth hoo]; exact ho3 o hoo) (fun z => absurd z elast) (fun S hS hfS => ?_) fun S hS => ?_
              · by_cases e : S = fu
                · rw [e, zup_same]
                  exact hx
                · rw [zup_ne (Or.inr e)]
                  exact hd S hS (by omega)
              · rw [zup_ne (Or.inr (by omega))]
                exact hl S (by omega)
      have e0 : iv (2 ^ n - 1 : Nat) = iv ((2 ^ n : Nat) - 1 : Int) := by
        congr 1
        omega
      rw [e0]
      refine inner (2 ^ n) C2 (Nat.le_refl _) (fun _ _ => rfl) (fun _ => by omega) (fun S hS hS2 => absurd hS (by omega)) fun S hS => ?_
      rw [hC2 121 (by decide)]
      exact hL S hS (Or.inl (by omega))
  refine outer N 0 _ (by omega) (fun o a b => ?_) fun S hS _ => ?_
  · rw [zup_oth b]
    funext j
    simp only [zfill, b, false_and, if_false]
  · by_cases e : S = 0
    · rw [e, zup_same]
      exact ⟨0, rfl, by omega, fun t ht => ⟨fun _ => (fz_0 (by omega)).mpr rfl, fun _ => Nat.zero_le t⟩⟩
    · rw [zup_ne (Or.inr e)]
      refine ⟨100000000, ?_, Nat.le_refl _, fun t ht => ⟨fun z => by omega, fun z => absurd ((fz_0 hS).mp z) e⟩⟩
      rw [zfill_at (by omega)]
      rfl
theorem c4_fillDigits {Q : zM → Prop} (hn : n ≤ 9) (hR : Rt7 C gs n pl N) (h : ∀ C' : zM, (∀ o, o ≠ 122 → C' o = C o) → (∀ P, P < 2 ^ n → C' 122 P = iv (dgN n P : Nat)) → Q C') : zCv shC g (d + 1) mX4_fillDigits [.ref 116] C Q := by
  have h2 := pow9 hn
  have dg1 : ∀ l, l < n → dgN n (2 ^ l) = 6 ^ (n - 1 - l) := by
    intro l hl
    unfold dgN
    have gen : ∀ m, m ≤ n → sumB (fun i => 6 ^ (n - 1 - i)) (2 ^ l) m = if l < m then 6 ^ (n - 1 - l) else 0 := by
      intro m
      induction m with
      | zero => intro _; rfl
      | succ m ih =>
        intro hm
        rw [sumB, ih (by omega), Nat.testBit_two_pow]
        by_cases e : l = m
        · rw [decide_eq_true e, if_pos rfl, if_neg (by omega), if_pos (by omega), e]
          omega
        · rw [decide_eq_false e, if_neg (show ¬ (false = true) by decide)]
          by_cases c : l < m
          · rw [if_pos c, if_pos (by omega)]
            rfl
          · rw [if_neg c, if_neg (by omega)]
    rw [gen n (Nat.le_refl n), if_pos hl]
  have second : ∀ (f S : Nat) (C1 : zM), S + f = 2 ^ n → 1 ≤ S → (∀ o, o ≠ 122 → C1 o = C o) → (∀ P, P < S → C1 122 P = iv (dgN n P : Nat)) → (∀ l, l < n → C1 122 (2 ^ l) = iv (dgN n (2 ^ l) : Nat)) → zW shC g (d + 1) mX4_fillDigits (zv Q) 42 [(0, .ref 116), (2, .int (iv S))] [] C1 := by
    intro f
    induction f with
    | zero =>
      intro S C1 hS h1 ho hr hp
      obtain rfl : S = 2 ^ n := by omega
      refine vX4_fillDigits_42 (c4_all hn (by rw [ho 116 (by decide)]; exact hR.1.1) ⟨fun _ => h C1 ho hr, fun q => absurd ?_ q⟩)
      rw [Int32.lt_iff_toInt_lt, iv_toInt (by omega) (by omega), iv_toInt (by omega) (by omega)]
      omega
    | succ f ih =>
      intro S C1 hS h1 ho hr hp
      obtain ⟨l, l1, l2, l3⟩ := low_bit S S (Nat.le_refl S) (by omega)
      have hln := bit_in (n := n) (by omega) l1
      have hle : S &&& (S - 1) ≤ S - 1 := Nat.and_le_right
      have el : sd S (S &&& (S - 1)) = 2 ^ l := by
        have hl9 : 2 ^ l < 2 ^ n := Nat.pow_lt_pow_right (by decide) hln
        refine set_ext (Nat.lt_of_le_of_lt sd_le (by omega)) (by omega) fun j _ => ?_
        rw [sd_bit (by omega), l3, Nat.testBit_two_pow]
        by_cases e : j = l
        · rw [e, l1, decide_eq_false (show ¬ l ≠ l from fun z => z rfl), decide_eq_true (show l = l from rfl)]
          rfl
        · rw [decide_eq_true (show j ≠ l from e), decide_eq_false (show ¬ l = j from fun z => e z.symm)]
          cases S.testBit j <;> rfl
      have ed : dgN n S = dgN n (S &&& (S - 1)) + dgN n (2 ^ l) := by
        unfold dgN
        refine sumB_split n fun j hj => ?_
        rw [l3, Nat.testBit_two_pow]
        by_cases e : j = l
        · rw [e, l1, decide_eq_false (show ¬ l ≠ l from fun z => z rfl), decide_eq_true (show l = l from rfl)]
          exact ⟨rfl, rfl⟩
        · rw [decide_eq_true (show j ≠ l from e), decide_eq_false (show ¬ l = j from fun z => e z.symm)]
          cases S.testBit j <;> exact ⟨rfl, rfl⟩
      have er : iv S &&& (iv S - 1) = iv (S &&& (S - 1) : Nat) := by
        rw [Int32.and_comm, iv_subnx h1, Nat.and_comm]
      have hl9 : 2 ^ l < 2 ^ n := Nat.pow_lt_pow_right (by decide) hln
      refine vX4_fillDigits_42 (c4_all hn (by rw [ho 116 (by decide)]; exact hR.1.1) ⟨fun q => ?_, fun _ => ⟨S &&& (S - 1), er, by omega, 2 ^ l, ?_, by omega, S, rfl, by omega, ?_⟩⟩)
      · exfalso
        rw [Int32.lt_iff_toInt_lt, iv_toInt (by omega) (by omega), iv_toInt (by omega) (by omega)] at q
        omega
      · rw [er, iv_sd (by omega), el]
      · rw [hr _ (by omega), hp l hln, iv_add, ← Int.natCast_add, ← ed, iv_s]
        refine ih (S + 1) _ (by omega) (by omega) (fun o hoo => by rw [zup_oth hoo]; exact ho o hoo) (fun P hP => ?_) fun k hk => ?_
        · by_cases e : P = S
          · rw [e, zup_same]
          · rw [zup_ne (Or.inr e)]
            exact hr P (by omega)
        · by_cases e : 2 ^ k = S
          · rw [e, zup_same]
          · rw [zup_ne (Or.inr e)]
            exact hp k hk
  have first : ∀ (f : Nat) (C1 : zM), f ≤ n → (∀ o, o ≠ 122 → C1 o = C o) → C1 122 0 = 0 → (∀ l, f ≤ l → l < n → C1 122 (2 ^ l) = iv (6 ^ (n - 1 - l) : Nat)) → zW shC g (d + 1) mX4_fillDigits (zv Q) 16 [(0, .ref 116), (1, .int (iv (6 ^ (n - f) : Nat))), (2, .int (iv ((f : Int) - 1)))] [] C1 := by
    intro f
    induction f with
    | zero =>
      intro C1 hf ho h0 hr
      refine vX4_fillDigits_16 ⟨fun _ => ?_, fun q => absurd (by decide) q⟩
      refine second (2 ^ n - 1) 1 C1 (by omega) (Nat.le_refl 1) ho (fun P hP => ?_) fun l hl => ?_
      · obtain rfl : P = 0 := by omega
        rw [h0]
        unfold dgN
        rw [sumB_0]
        rfl
      · rw [dg1 l hl]
        exact hr l (Nat.zero_le l) hl
    | succ f ih =>
      intro C1 hf ho h0 hr
      have ef : ((f + 1 : Nat) : Int) - 1 = f := by omega
      have hf9 : 2 ^ f < 2 ^ n := Nat.pow_lt_pow_right (by decide) (by omega)
      have hf0 := Nat.two_pow_pos f
      rw [ef]
      refine vX4_fillDigits_16 ⟨fun q => ?_, fun _ => ⟨2 ^ f, one_sl (by omega), by omega, ?_⟩⟩
      · exfalso
        rw [Int32.lt_iff_toInt_lt, iv_toInt (by omega) (by omega)] at q
        simp only [Int32.reduceToInt] at q
        omega
      · have e6 : iv (6 ^ (n - (f + 1)) : Nat) * 6 = iv (6 ^ (n - f) : Nat) := by
          rw [show (6 : Int32) = iv (6 : Nat) from rfl, iv_mul, ← Int.natCast_mul, show n - f = n - (f + 1) + 1 by omega, Nat.pow_succ]
        have en : iv (f : Int) + (-1) = iv ((f : Int) - 1) := by
          rw [show (-1 : Int32) = iv (-1) from rfl, iv_add]
          rfl
        rw [e6, en]
        refine ih _ (by omega) (fun o hoo => by rw [zup_oth hoo]; exact ho o hoo) ?_ fun l hl hln => ?_
        · rw [zup_ne (Or.inr (by omega))]
          exact h0
        · by_cases e : l = f
          · rw [e, zup_same, show n - (f + 1) = n - 1 - f by omega]
          · have hne : 2 ^ l ≠ 2 ^ f := Nat.ne_of_gt (Nat.pow_lt_pow_right (by decide) (by omega))
            rw [zup_ne (Or.inr hne)]
            exact hr l (by omega) hln
  refine vX4_fillDigits ?_
  have h0 := first n (zup C 122 0 0) (Nat.le_refl n) (fun o ho => zup_oth ho) zup_same (fun l hl hln => by omega)
  rw [Nat.sub_self, Nat.pow_zero] at h0
  have e1 : (zup C 122 0 0) 116 1 - 1 = iv ((n : Int) - 1) := by
    rw [zup_oth (by decide), hR.1.1, show (1 : Int32) = iv 1 from rfl, iv_sub]
  rw [e1]
  exact h0
theorem c4_leastTakers {Q : Int32 → zM → Prop} {s S T : Nat} (hn : n ≤ 9) (hgs : ∀ i, i < n → gs i < 64) (hpl : ∀ r, pl r < 64) (hs : s < 6) (hT : T ≤ 7168) (hS : S < 2 ^ n) (hc : ∀ P, P < 2 ^ n → C 120 P = iv (lov gs n P (pl s) : Nat)) (hdg : ∀ P, P < 2 ^ n → C 122 P = iv (dgN n P : Nat)) (hL : ∀ P, P ≤ S → LV gs n pl T s P (C 121 P)) (h : ∀ x, LV gs n pl T (s + 1) S x → Q x C) : zCi shC g (d + 1) mX4_leastTakers [.ref 116, .int (iv s), .int (iv S), .int (iv T)] C Q := by
  have h2 := pow9 hn
  have hb : ∀ P, P < 2 ^ n → lov gs n P (pl s) ≤ 7168 := fun P hP => by
    have := lov_le hn hgs _ P (pl s) (Nat.le_refl _) hP (hpl s)
    omega
  have loop : ∀ (f x v : Nat), x ≤ f → x &&& S = x → v ≤ 100000000 → (∀ P, P &&& S = P → (P = 0 ∨ x < P) → lov gs n P (pl s) ≤ T → ∀ a, asgF gs n pl (fun _ => 0) T s (sd S P) a → v ≤ vaN n a (sd S P) + s * dgN n P) → (v < 100000000 → ∃ P, P &&& S = P ∧ lov gs n P (pl s) ≤ T ∧ ∃ a, asgF gs n pl (fun _ => 0) T s (sd S P) a ∧ v = vaN n a (sd S P) + s * dgN n P) → zW shC g (d + 1) mX4_leastTakers (zi Q) 11 [(0, .ref 116), (1, .int (iv s)), (2, .int (iv S)), (3, .int (iv T)), (4, .int (iv v)), (5, .int (iv x))] [] C := by
    intro f
    induction f with
    | zero =>
      intro x v hx hxS hv hlo hat
      obtain rfl : x = 0 := by omega
      refine vX4_leastTakers_11 ⟨fun _ => h _ ⟨v, rfl, hv, fun a ha => ?_, fun hlt => ?_⟩, fun q => absurd (by decide) q⟩
      · obtain ⟨a1, a2, a3⟩ := asg_out hn hS ha
        rw [Nat.or_zero] at a2
        rw [va_out (s := s) hn hS]
        exact hlo _ a1 (by omega) a2 a a3
      · obtain ⟨P, p1, p2, a, a1, a2⟩ := hat hlt
        refine ⟨fun i => if P.testBit i = true then s else a i, asg_in hn hS p1 (by rw [Nat.or_zero]; exact p2) a1, ?_⟩
        rw [va_in hn hS p1, a2]
    | succ f ih =>
      intro x v hx hxS hv hlo hat
      by_cases hx0 : x = 0
      · exact ih x v (by omega) hxS hv hlo hat
      have hxle := sub_le hxS
      have hsl := sd_le (a := S) (b := x)
      obtain ⟨u, u1, u2, u3, u4⟩ := hL (sd S x) hsl
      have hbx := hb x (by omega)
      have hle : (x - 1) &&& S ≤ x - 1 := Nat.and_le_left
      have hsm := dg_small (n := n) (S := x) hn
      have hmul : s * dgN n x ≤ 5 * dgN n x := Nat.mul_le_mul_right _ (by omega)
      refine vX4_leastTakers_11 ⟨fun q => ?_, fun _ => ⟨x, rfl, by omega, fun q => ?_, fun q => ⟨sd S x, iv_sd (by omega), by omega, ?_⟩⟩⟩
      · exfalso
        rw [Int32.le_iff_toInt_le, iv_toInt (by omega) (by omega)] at q
        simp only [Int32.reduceToInt] at q
        omega
      · rw [hc x (by omega), Int32.lt_iff_toInt_lt, iv_toInt (by omega) (by omega), iv_toInt (by omega) (by omega)] at q
        rw [iv_subnx (by omega)]
        refine ih _ v (by omega) sub_nx hv (fun P p1 p2 p3 a ha => ?_) hat
        rcases Nat.lt_trichotomy P x with z | z | z
        · have h5 := sub_next x x S P (Nat.le_refl x) hxS p1 z
          exact hlo P p1 (Or.inl (by omega)) p3 a ha
        · subst z
          omega
        · exact hlo P p1 (Or.inr z) p3 a ha
      · rw [hc x (by omega), Int32.lt_iff_toInt_lt, iv_toInt (by omega) (by omega), iv_toInt (by omega) (by omega)] at q
        rw [hdg x (by omega), u1, iv_mul, ← Int.natCast_mul, iv_add, ← Int.natCast_add, imin_iv (by omega) (by omega), iv_subnx (by omega)]
        refine ih _ _ (by omega) sub_nx (by omega) (fun P p1 p2 p3 a ha => ?_) fun hlt => ?_
        · rcases Nat.lt_trichotomy P x with z | z | z
          · have h5 := sub_next x x S P (Nat.le_refl x) hxS p1 z
            have := hlo P p1 (Or.inl (by omega)) p3 a ha
            omega
          · subst z
            have := u3 a ha
            omega
          · have := hlo P p1 (Or.inr z) p3 a ha
            omega
        · by_cases c : v ≤ u + s * dgN n x
          · rw [Nat.min_eq_left c] at hlt ⊢
            exact hat hlt
          · rw [Nat.min_eq_right (by omega)] at hlt ⊢
            obtain ⟨a, a1, a2⟩ := u4 (by omega)
            exact ⟨x, hxS, by omega, a, a1, by rw [a2]⟩
  obtain ⟨u, u1, u2, u3, u4⟩ := hL S (Nat.le_refl S)
  have e0 : lov gs n 0 (pl s) = 0 := lov_0
  have ed : dgN n 0 = 0 := by
    unfold dgN
    exact sumB_0 n
  refine vX4_leastTakers ⟨S, rfl, by omega, ?_⟩
  rw [u1]
  refine loop S S u (Nat.le_refl S) (Nat.and_self S) u2 (fun P p1 p2 p3 a ha => ?_) fun hlt => ?_
  · have hP0 : P = 0 := by
      have := sub_le p1
      omega
    rw [hP0, sd_0 (by omega)] at ha
    rw [hP0, sd_0 (by omega), ed, Nat.mul_zero]
    exact u3 a ha
  · obtain ⟨a, a1, a2⟩ := u4 hlt
    exact ⟨0, Nat.zero_and S, by omega, a, by rw [sd_0 (by omega)]; exact a1, by rw [sd_0 (by omega), ed, Nat.mul_zero, a2]; rfl⟩
theorem c4_taker {Q : Int32 → zM → Prop} {i : Nat} (hn : n ≤ 9) (hgs : ∀ i, i < n → gs i < 64) (hpl : ∀ r, pl r < 64) (hN : N ≤ 6) (hN1 : 1 ≤ N) (hi : i < n) (hR : Rt7 C gs n pl N) (h : ∀ C' : zM, (∀ o, o ≠ 120 → o ≠ 121 → o ≠ 122 → C' o = C o) → Q (iv (tbL gs n pl (soonT gs n pl N) N (i + 1) i : Nat)) C') : zCi shC g (d + 6) mX4_taker [.ref 116, .int (iv i)] C Q := by
  have h2 := pow9 hn
  obtain ⟨t1, t2, t3⟩ := soonT_spec hn hgs hpl (show 0 < N by omega)
  refine vX4_taker (c4_longest hn hgs hpl hN hN1 hR fun Ca hCa => ?_)
  generalize soonT gs n pl N = T at *
  have hRa : Rt7 Ca gs n pl N := hR.keep fun o a b => hCa o (by omega) (by omega)
  refine c4_fillDigits hn hRa fun Cb hCb hdg => c_fill (n := 512) (l := []) rfl (by decide) ?_
  have hRb : Rt7 Cb gs n pl N := hRa.keep fun o a b => hCb o (by omega)
  have outer : ∀ (f s : Nat) (C1 : zM), s + f = N → (∀ o, o ≠ 120 → o ≠ 121 → C1 o = Cb o) → (∀ S, S < 2 ^ n → (s < N ∨ S = 2 ^ n - 1) → LV gs n pl T s S (C1 121 S)) → zW shC g (d + 6) mX4_taker (zi Q) 27 [(0, .ref 116), (1, .int (iv i)), (2, .int (iv T)), (3, .int (iv s))] [] C1 := by
    intro f
    induction f with
    | zero =>
      intro s C1 hs ho hL
      obtain rfl : s = N := by omega
      have hR1 : Rt7 C1 gs n pl s := hRb.keep fun o a b => ho o (by omega) (by omega)
      obtain ⟨v, v1, v2, v3, v4⟩ := hL (2 ^ n - 1) (by omega) (Or.inr rfl)
      obtain ⟨a0, ha0⟩ := t1
      have g6 : ∀ c, good1 gs n pl T s c → ∀ j, j < n → c j < 6 := by
        intro c hc j hj
        have := hc.1 j hj (by rw [Nat.testBit_two_pow_sub_one]; exact decide_eq_true hj)
        omega
      have hsm : v < 10077696 := by
        have h5 := v3 a0 ha0
        rw [va_all] at h5
        have h6 := ho_big n (g6 a0 ha0)
        have h7 : 6 ^ n ≤ 6 ^ 9 := Nat.pow_le_pow_right (by decide) hn
        have e9 : (6 : Nat) ^ 9 = 10077696 := by decide
        omega
      obtain ⟨a, ha, hav⟩ := v4 (by omega)
      have hdig := dig_tb (i := i) (V := v) (by omega) hi ha hav v3
      have hin : 2 ^ i < 2 ^ n := Nat.pow_lt_pow_right (by decide) hi
      have hpw : dgN n (2 ^ i) = 6 ^ (n - 1 - i) := by
        unfold dgN
        have gen : ∀ m, m ≤ n → sumB (fun j => 6 ^ (n - 1 - j)) (2 ^ i) m = if i < m then 6 ^ (n - 1 - i) else 0 := by
          intro m
          induction m with
          | zero => intro _; rfl
          | succ m ih =>
            intro hm
            rw [sumB, ih (by omega), Nat.testBit_two_pow]
            by_cases e : i = m
            · rw [decide_eq_true e, if_pos rfl, if_neg (by omega), if_pos (by omega), e]
              omega
            · rw [decide_eq_false e, if_neg (show ¬ (false = true) by decide)]
              by_cases c : i < m
              · rw [if_pos c, if_pos (by omega)]
                rfl
              · rw [if_neg c, if_neg (by omega)]
        rw [gen n (Nat.le_refl n), if_pos hi]
      have hp1 : 1 ≤ 6 ^ (n - 1 - i) := Nat.pos_of_ne_zero (by
        intro z
        have := Nat.pow_eq_zero.mp z
        omega)
      have hp2 : 6 ^ (n - 1 - i) ≤ 6 ^ 9 := Nat.pow_le_pow_right (by decide) (by omega)
      have e9 : (6 : Nat) ^ 9 = 10077696 := by decide
      have e122 : C1 122 (2 ^ i) = iv (6 ^ (n - 1 - i) : Nat) := by
        rw [ho 122 (by decide) (by decide), hdg _ hin, hpw]
      clear hpw
      generalize 6 ^ (n - 1 - i) = dg at *
      refine vX4_taker_27 ⟨fun _ => ⟨2 ^ i, one_sl (by omega), by omega, fun q => ?_, fun _ => c4_all hn hR1.1.1 ⟨2 ^ n - 1, rfl, by omega, fun q => ?_, fun u hu => ?_⟩⟩, fun q => absurd ?_ q⟩
      · exfalso
        rw [e122, Int32.le_iff_toInt_le, iv_toInt (by omega) (by omega)] at q
        simp only [Int32.reduceToInt] at q
        omega
      · rw [e122, show (0 : Int32) = iv (0 : Nat) from rfl, iv_inj (by omega) (by omega)] at q
        omega
      · have e1 : iv v / iv (dg : Nat) = iv (v / dg : Nat) := by
          have hd := Nat.div_le_self v (dg)
          rw [eqI, ti_div (by rw [iv_toInt (by omega) (by omega)]; omega) (by rw [iv_toInt (by omega) (by omega)]; omega), iv_toInt (by omega) (by omega), iv_toInt (by omega) (by omega), iv_toInt (Int.le_trans (by decide) (Int.natCast_nonneg _)) (by omega)]
          exact (Int.natCast_ediv v _).symm
        have hd := Nat.div_le_self v (dg)
        have e2 : u = iv (v / dg % 6 : Nat) := by
          rw [hu, v1, e122, e1]
          generalize v / dg = y at hd
          rw [eqI, ti_rem (by rw [iv_toInt (by omega) (by omega)]; omega) (by decide), iv_toInt (by omega) (by omega), iv_toInt (by omega) (by omega)]
          simp only [Int32.reduceToInt]
          omega
        rw [e2, hdig]
        exact h C1 fun o a b c => by rw [ho o a b, hCb o c, hCa o a b]
      · rw [hR1.2.2.1]
        exact Int32.le_refl _
    | succ f ih =>
      intro s C1 hs ho hL
      have hR1 : Rt7 C1 gs n pl N := hRb.keep fun o a b => ho o (by omega) (by omega)
      refine vX4_taker_27 ⟨fun q => ?_, fun _ => c4_fillCosts (N := N) hn hgs hpl (by omega) hN hR1 fun C2 hC2 hc2 => c4_all hn (by rw [hC2 116 (by decide)]; exact hR1.1.1) ?_⟩
      · rw [hR1.2.2.1] at q
        exact (not_le_iv (a := N) (b := s) (by omega) (by omega) q).elim
      have inner : ∀ (fu : Nat) (C3 : zM), fu ≤ 2 ^ n → (∀ o, o ≠ 121 → C3 o = C2 o) → (s + 1 = N → 2 ^ n - 1 ≤ fu) → (∀ S, S < 2 ^ n → fu ≤ S → LV gs n pl T (s + 1) S (C3 121 S)) → (∀ S, S < fu → LV gs n pl T s S (C3 121 S)) → zW shC g (d + 6) mX4_taker (zi Q) 46 [(0, .ref 116), (1, .int (iv i)), (2, .int (iv T)), (3, .int (iv s)), (4, .int (iv ((fu : Int) - 1)))] [] C3 := by
        intro fu
        induction fu with
        | zero =>
          intro C3 hfu ho3 hlast hd hl
          have hR3 : Rt7 C3 gs n pl N := hR1.keep fun o a b => by rw [ho3 o (by omega), hC2 o (by omega)]
          have fin : zW shC g (d + 6) mX4_taker (zi Q) 27 [(0, .ref 116), (1, .int (iv i)), (2, .int (iv T)), (3, .int (iv s + 1))] [] C3 := by
            rw [iv_s]
            exact ih (s + 1) C3 (by omega) (fun o a b => by rw [ho3 o b, hC2 o a]; exact ho o a b) fun S hS _ => hd S hS (Nat.zero_le S)
          refine vX4_taker_46 (c4_lastNeeded (N := N) hn (by omega) hN hR3 ⟨fun _ => fin, fun q => absurd ?_ q⟩)
          rw [Int32.lt_iff_toInt_lt, iv_toInt (by omega) (by omega)]
          split
          · rw [iv_toInt (by omega) (by omega)]
            omega
          · simp only [Int32.reduceToInt]
            omega
        | succ fu ihf =>
          intro C3 hfu ho3 hlast hd hl
          have hR3 : Rt7 C3 gs n pl N := hR1.keep fun o a b => by rw [ho3 o (by omega), hC2 o (by omega)]
          have ef : ((fu + 1 : Nat) : Int) - 1 = fu := by omega
          rw [ef]
          refine vX4_taker_46 (c4_lastNeeded (N := N) hn (by omega) hN hR3 ⟨fun q => ?_, fun q => ?_⟩)
          · have hlt : s + 1 = N ∧ fu < 2 ^ n - 1 := by
              rw [Int32.lt_iff_toInt_lt, iv_toInt (by omega) (by omega)] at q
              split at q
              · rename_i e
                rw [iv_toInt (by omega) (by omega)] at q
                exact ⟨e, by omega⟩
              · simp only [Int32.reduceToInt] at q
                omega
            rw [iv_s]
            refine ih (s + 1) C3 (by omega) (fun o a b => by rw [ho3 o b, hC2 o a]; exact ho o a b) fun S hS hS2 => ?_
            have hSe : S = 2 ^ n - 1 := by omega
            exact hd S hS (by omega)
          · have hge : s + 1 = N → 2 ^ n - 1 ≤ fu := by
              intro e
              rw [if_pos e, Int32.lt_iff_toInt_lt, iv_toInt (by omega) (by omega), iv_toInt (by omega) (by omega)] at q
              omega
            refine c4_leastTakers (s := s) hn hgs hpl (by omega) t3 (by omega) (fun P hP => by rw [ho3 120 (by decide)]; exact hc2 P hP) (fun P hP => by rw [ho3 122 (by decide), hC2 122 (by decide), ho 122 (by decide) (by decide)]; exact hdg P hP) (fun P hP => hl P (by omega)) fun x hx => ⟨fu, rfl, by omega, ?_⟩
            have en : iv (fu : Int) + (-1) = iv ((fu : Int) - 1) := by
              rw [show (-1 : Int32) = iv (-1) from rfl, iv_add]
              rfl
            rw [en]
            by_cases elast : s + 1 = N
            · have hfe := hge elast
              have hfu2 : fu = 2 ^ n - 1 := by omega
              have hR4 : Rt7 (zup C3 121 fu x) gs n pl N := hR3.keep fun o a b => zup_oth (by omega)
              refine vX4_taker_46 (c4_lastNeeded (N := N) hn (by omega) hN hR4 ?_)
              rw [if_pos elast]
              refine ⟨fun _ => ?_, fun q => absurd ?_ q⟩
              · rw [iv_s]
                refine ih (s + 1) _ (by omega) (fun o a b => by rw [zup_oth b, ho3 o b, hC2 o a]; exact ho o a b) fun S hS hS2 => ?_
                have hSe : S = fu := by omega
                rw [hSe, zup_same]
                exact hx
              · rw [Int32.lt_iff_toInt_lt, iv_toInt (by omega) (by omega), iv_toInt (by omega) (by omega)]
                omega
            · refine ihf _ (by omega) (fun o hoo => by rw [zup_oth hoo]; exact ho3 o hoo) (fun z => absurd z elast) (fun S hS hfS => ?_) fun S hS => ?_
              · by_cases e : S = fu
                · rw [e, zup_same]
                  exact hx
                · rw [zup_ne (Or.inr e)]
                  exact hd S hS (by omega)
              · rw [zup_ne (Or.inr (by omega))]
                exact hl S (by omega)
      have e0 : iv (2 ^ n - 1 : Nat) = iv ((2 ^ n : Nat) - 1 : Int) := by
        congr 1
        omega
      rw [e0]
      refine inner (2 ^ n) C2 (Nat.le_refl _) (fun _ _ => rfl) (fun _ => by omega) (fun S hS hS2 => absurd hS (by omega)) fun S hS => ?_
      rw [hC2 121 (by decide)]
      exact hL S hS (Or.inl (by omega))
  refine outer N 0 _ (by omega) (fun o a b => ?_) fun S hS _ => ?_
  · rw [zup_oth b]
    funext j
    simp only [zfill, b, false_and, if_false]
  · by_cases e : S = 0
    · rw [e, zup_same]
      refine ⟨0, rfl, by omega, fun a _ => Nat.zero_le _, fun _ => ⟨fun _ => 0, ⟨fun j _ hb => ?_, fun r hr => absurd hr (Nat.not_lt_zero r)⟩, ?_⟩⟩
      · rw [Nat.zero_testBit] at hb
        exact Bool.noConfusion hb
      · unfold vaN
        exact sumB_0 n
    · rw [zup_ne (Or.inr e)]
      refine ⟨100000000, ?_, Nat.le_refl _, fun a ha => absurd ((fz_0 hS).mp ⟨a, ha⟩) e, fun z => absurd z (Nat.lt_irrefl _)⟩
      rw [zfill_at (by omega)]
      rfl
theorem c8_soonest {Q : Int32 → zM → Prop} {what : Int32} {x : Int64} (hi : IS w) (hq : IMo w) (hS : RS C 1 w) (hr : RMo C 3 w) (h : ∀ C' : zM, CEq C C' → Q (soonestV w x what) C') : zCi shC g (d + 7) mX8_soonest [.ref 0, .long x, .int what] C Q := by
  obtain ⟨n0, n6⟩ := hi.2.2.2.1
  have e14 : C 1 4 = w 154 := hS.2.2.2.2.1
  unfold soonestV at h
  have h0 := h C CEq.rfl
  refine vX8_soonest ⟨fun hz => ?_, fun hz => c7_areCells hS ⟨fun ha => ?_, fun ha => c4_take fun C1 h1 h1j hGT => ⟨fun hl => ?_, fun hl => ?_⟩⟩⟩
  · rw [e14] at hz
    rw [if_neg (fun z => z.1 hz)] at h0
    exact h0
  · rw [if_neg (fun z => by
      have := z.2
      unfold goalsB at this
      rw [ha] at this
      exact Bool.noConfusion this)] at h0
    exact h0
  · rw [e14] at hz
    have hm : CEq C C1 := fun o a _ _ _ _ => h1 o (by omega)
    have hn := of_decide_eq_true hl
    have hgb : goalsB w x = true := by
      unfold goalsB
      rw [ha, hl]
      rfl
    rw [if_pos ⟨hz, hgb⟩] at h
    obtain ⟨hG, hT⟩ := hGT hn
    have hgs : ∀ i, i < (gls x 64).length → gsF x i < 64 := fun i hi => gsF_64 hi
    clear h0 hGT hl hgb
    generalize (gls x 64).length = n at *
    generalize gsF x = gs at *
    obtain ⟨N, eN, hN, hNI⟩ := iv_nat (x := w 154) (n := 7) n0 (by omega)
    have hN1 : 1 ≤ N := by
      rcases Nat.eq_zero_or_pos N with z | z
      · rw [eN, z] at hz
        exact absurd rfl hz
      · exact z
    rw [eN, iv_tn (by omega)] at h
    have hp2 := pow9 hn
    have hplr : ∀ r, r < 6 → (w (3 + r)).toInt.toNat < 64 ∧ w (3 + r) = iv ((w (3 + r)).toInt.toNat : Nat) := fun r hr => by
      obtain ⟨p, hp, hp64, hpI, hpc⟩ := place_rng hq hr
      rw [hp, iv_tn (by omega)]
      exact ⟨hp64, rfl⟩
    obtain ⟨pl, hpl, hplN⟩ : ∃ pl : Nat → Nat, (∀ r, pl r < 64) ∧ ∀ r, r < 6 → pl r = (w (3 + r)).toInt.toNat := by
      refine ⟨fun r => if r < 6 then (w (3 + r)).toInt.toNat else 0, fun r => ?_, fun r hr => if_pos hr⟩
      show (if r < 6 then (w (3 + r)).toInt.toNat else 0) < 64
      split
      · rename_i c
        exact (hplr r c).1
      · decide
    have sc : ∀ (t s : Nat) (a : Nat → Nat), s ≤ 6 → (good1 gs n (fun r => (w (3 + r)).toInt.toNat) t s a ↔ good1 gs n pl t s a) := by
      intro t s a hs
      unfold good1 asgF
      refine and_congr Iff.rfl ⟨fun z r hr => ?_, fun z r hr => ?_⟩
      · rw [hplN r (by omega)]
        exact z r hr
      · have := z r hr
        rw [hplN r (by omega)] at this
        exact this
    have eT : soonT gs n (fun r => (w (3 + r)).toInt.toNat) N = soonT gs n pl N := by
      unfold soonT
      congr 1
      funext t
      exact propext ⟨fun ⟨a, ha⟩ => ⟨a, (sc t N a (by omega)).mp ha⟩, fun ⟨a, ha⟩ => ⟨a, (sc t N a (by omega)).mpr ha⟩⟩
    have eL : ∀ (t k : Nat), tbL gs n (fun r => (w (3 + r)).toInt.toNat) t N k = tbL gs n pl t N k := by
      intro t k
      induction k with
      | zero => rfl
      | succ k ih =>
        funext j
        rw [tbL_s, tbL_s, ih]
        congr 2
        funext q
        exact propext ⟨fun ⟨a, ha, h⟩ => ⟨a, (sc t N a (by omega)).mp ha, h⟩, fun ⟨a, ha, h⟩ => ⟨a, (sc t N a (by omega)).mpr ha, h⟩⟩
    rw [eT, eL] at h
    have main : (what = 0 ∨ (10 ≤ what.toInt ∧ what.toInt < 10 + n)) → zW shC g (d + 7) mX8_soonest (zi Q) 63 [(0, .ref 0), (3, .int what), (4, .int (what - 10))] [] C1 := by
      intro hwh
      have e1 : C1 1 4 = iv N := by rw [h1 1 (by omega), e14]; exact eN
      have emin : imin (iv N) 6 = iv N := by
        rw [show (6 : Int32) = iv (6 : Nat) from rfl, imin_iv (by omega) (by omega), show min N 6 = N by omega]
      refine vX8_soonest_63 (vX4_begin ⟨N, ?_, by omega, ?_⟩)
      · rw [e1, emin, zup_same]
      rw [e1, emin]
      have hCk : ∀ o, o ≠ 119 → o ≠ 116 → (zcpy (zup C1 116 3 (iv N)) 6 119 N) o = C1 o := by
        intro o a b
        funext j
        simp only [zcpy, a, false_and, if_false]
        rw [zup_oth b]
      have e116 : ∀ j, (zcpy (zup C1 116 3 (iv N)) 6 119 N) 116 j = if j = 3 then iv N else C1 116 j := by
        intro j
        simp only [zcpy, show ¬ (116 : Nat) = 119 by decide, false_and, if_false]
        by_cases e : j = 3
        · rw [e, zup_same, if_pos rfl]
        · rw [zup_ne (Or.inr e), if_neg e]
      have hR : Rt7 (zcpy (zup C1 116 3 (iv N)) 6 119 N) gs n pl N := by
        refine ⟨⟨?_, fun i hi => ?_⟩, fun a b c e f => ?_, ?_, fun r hrN => ?_⟩
        · rw [e116, if_neg (by decide)]
          exact hG.1
        · rw [hCk 117 (by decide) (by decide)]
          exact hG.2 i hi
        · rw [hCk 118 (by decide) (by decide)]
          exact hT a b c e f
        · rw [e116, if_pos rfl]
        · simp only [zcpy, hrN, and_self, if_true]
          rw [zup_oth (by decide), h1 6 (by omega), (hr.2.2.1 r (by omega) (by omega)).1, (hplr r (by omega)).2, hplN r (by omega)]
      have hmk : ∀ C2 : zM, (∀ o, o ≠ 120 → o ≠ 121 → o ≠ 122 → C2 o = (zcpy (zup C1 116 3 (iv N)) 6 119 N) o) → CEq C C2 := fun C2 h3 o a b c e f => by
        rw [h3 o (by omega) (by omega) (by omega), hCk o (by omega) (by omega)]
        exact h1 o (by omega)
      refine ⟨fun q => ?_, fun q => c4_longest (N := N) (gs := gs) (pl := pl) hn hgs hpl (by omega) hN1 hR fun C2 h3 => ?_⟩
      · have hw2 : 10 ≤ what.toInt ∧ what.toInt < 10 + n := hwh.resolve_left q
        rw [if_neg q, if_pos hw2] at h
        obtain ⟨t, rfl, ht, htI⟩ := iv_nat (x := what) (n := 20) (by omega) (by omega)
        rw [iv_tn (by omega), show t - 9 = t - 10 + 1 by omega] at h
        have e10 : iv t - 10 = iv (t - 10 : Nat) := by
          rw [show (10 : Int32) = iv 10 from rfl, iv_sub]
          congr 1
          omega
        rw [e10]
        exact c4_taker (N := N) (gs := gs) (pl := pl) hn hgs hpl (by omega) hN1 (by omega) hR fun C2 h3 => h C2 (hmk C2 h3)
      · rw [if_pos q] at h
        exact h C2 (hmk C2 fun o a b _ => h3 o a b)
    refine ⟨fun q => main (Or.inl q), fun q => ⟨fun q2 => ?_, fun q2 => ⟨fun q3 => main (Or.inr ?_), fun q3 => ?_⟩⟩⟩
    · rw [if_neg q, if_neg (fun z => ?_)] at h
      · exact h C1 hm
      · rw [Int32.lt_iff_toInt_lt, ti_sub (by simp only [Int32.reduceToInt]; omega) (by simp only [Int32.reduceToInt]; omega)] at q2
        simp only [Int32.reduceToInt] at q2
        omega
    · rw [Int32.lt_iff_toInt_lt] at q2
      simp only [Int32.reduceToInt] at q2
      rw [hG.1, Int32.lt_iff_toInt_lt, iv_toInt (by omega) (by omega)] at q3
      obtain ⟨t, ht, ht2, htI⟩ := iv_nat (x := what - 10) (n := n) (by omega) (by omega)
      have ew : what = iv (t + 10 : Nat) := by
        have e1 : what = (what - 10) + 10 := (Int32.sub_add_cancel what 10).symm
        rw [e1, ht, show (10 : Int32) = iv 10 from rfl, iv_add]
        rfl
      have ewI : what.toInt = t + 10 := by
        rw [ew, iv_toInt (by omega) (by omega)]
        omega
      omega
    · rw [if_neg q, if_neg (fun z => ?_)] at h
      · exact h C1 hm
      · apply q3
        rw [hG.1, Int32.lt_iff_toInt_lt, iv_toInt (by omega) (by omega), ti_sub (by simp only [Int32.reduceToInt]; omega) (by simp only [Int32.reduceToInt]; omega)]
        simp only [Int32.reduceToInt]
        omega
  · have hm : CEq C C1 := fun o a _ _ _ _ => h1 o (by omega)
    have h9 := h C1 hm
    rw [if_neg (fun z => by
      have := z.2
      unfold goalsB at this
      rw [hl, Bool.and_false] at this
      exact Bool.noConfusion this)] at h9
    exact h9
end SO7
