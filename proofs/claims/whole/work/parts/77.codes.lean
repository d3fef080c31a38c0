/-! THE CODES of a law, as both write them down -/
def row6 (M : zM) : Nat → Int32 := fun j => M 6 (j - 1380)
theorem row6_at {M : zM} {j : Nat} : row6 M (1380 + 2 * j) = M 6 (2 * j) := by
  unfold row6
  rw [show 1380 + 2 * j - 1380 = 2 * j by omega]
theorem row6_at1 {M : zM} {j : Nat} : row6 M (1381 + 2 * j) = M 6 (2 * j + 1) := by
  unfold row6
  rw [show 1381 + 2 * j - 1380 = 2 * j + 1 by omega]
theorem ty_cong {w v : Nat → Int32} : ∀ (n a : Nat) (ts : List Bool), (∀ j, a ≤ j → j < a + n → v (1380 + 2 * j) = w (1380 + 2 * j)) → tyRun v a n ts = tyRun w a n ts := by
  intro n
  induction n with
  | zero => intro a ts _; rfl
  | succ n ih =>
    intro a ts h
    rw [tyRun, tyRun, h a (by omega) (by omega)]
    split
    · rfl
    · cases tyStep (w (1380 + 2 * a)).toInt ts with
      | none => rfl
      | some u => exact ih (a + 1) u fun j x y => h j (by omega) (by omega)
theorem ty_app {w : Nat → Int32} : ∀ (m a n : Nat) (ts u : List Bool), tyRun w a m ts = some u → tyRun w a (m + n) ts = tyRun w (a + m) n u := by
  intro m
  induction m with
  | zero =>
    intro a n ts u h
    rw [tyRun] at h
    rw [Nat.zero_add, Nat.add_zero, Option.some.inj h]
  | succ m ih =>
    intro a n ts u h
    rw [tyRun] at h
    rw [show m + 1 + n = (m + n) + 1 by omega, tyRun, show a + (m + 1) = a + 1 + m by omega]
    split at h
    · exact absurd h (by simp)
    · rw [if_neg (by assumption)]
      cases e : tyStep (w (1380 + 2 * a)).toInt ts with
      | none => rw [e] at h; exact absurd h (by simp)
      | some v =>
        rw [e] at h
        exact ih (a + 1) n v u h
/-- codes a .. k - 1 of the fresh ones leave the kinds s on any pile of L at most -/
def Ty (L : Nat) (M : zM) (a k : Nat) (s : List Bool) : Prop := a ≤ k ∧ ∀ ts : List Bool, ts.length ≤ L → tyRun (row6 M) a (k - a) ts = some (s ++ ts)
/-- the first k codes of both -/
def LK (k : Nat) (C M : zM) : Prop := C 105 1 = iv k ∧ M 0 18 = iv k ∧ ∀ j, j < k → RCode (C 106 j) (M 6 (2 * j)) (M 6 (2 * j + 1))
/-- codes up to k are kept -/
def Pre (k : Nat) (C M C' M' : zM) : Prop := (∀ j, j < k → C' 106 j = C 106 j) ∧ (∀ j, j < 2 * k → M' 6 j = M 6 j) ∧ C' 98 6 = C 98 6 ∧ C' 98 7 = C 98 7
theorem Pre.rfl {k : Nat} {C M : zM} : Pre k C M C M := ⟨fun _ _ => Eq.refl _, fun _ _ => Eq.refl _, Eq.refl _, Eq.refl _⟩
theorem Pre.trans {k l : Nat} {C M C1 M1 C2 M2 : zM} (hl : k ≤ l) (h : Pre k C M C1 M1) (h2 : Pre l C1 M1 C2 M2) : Pre k C M C2 M2 := ⟨fun j a => (h2.1 j (by omega)).trans (h.1 j a), fun j a => (h2.2.1 j (by omega)).trans (h.2.1 j a), h2.2.2.1.trans h.2.2.1, h2.2.2.2.trans h.2.2.2⟩
theorem Ty.pre {L a k : Nat} {s : List Bool} {C M C' M' : zM} (h : Ty L M a k s) (hp : Pre k C M C' M') : Ty L M' a k s := by
  refine ⟨h.1, fun ts hl => ?_⟩
  rw [← h.2 ts hl]
  refine ty_cong _ _ _ fun j x y => ?_
  have := h.1
  rw [row6_at, row6_at]
  exact hp.2.1 _ (by omega)
theorem Ty.nil {L a : Nat} {M : zM} : Ty L M a a [] := by
  refine ⟨Nat.le_refl _, fun ts _ => ?_⟩
  rw [Nat.sub_self]
  rfl
theorem Ty.app {L L' a k l : Nat} {s r : List Bool} {M : zM} (h : Ty L M a k s) (h2 : Ty L' M k l r) (hl : s.length + L ≤ L') : Ty L M a l (r ++ s) := by
  have a1 := h.1
  have a2 := h2.1
  refine ⟨by omega, fun ts ht => ?_⟩
  rw [show l - a = (k - a) + (l - k) by omega, ty_app _ _ _ _ _ (h.2 ts ht), show a + (k - a) = k by omega, h2.2 _ (by rw [List.length_append]; omega), List.append_assoc]
theorem Ty.one {k : Nat} {M : zM} {L : Nat} {s r : List Bool} (hs : ∀ ts : List Bool, tyStep (M 6 (2 * k)).toInt (s ++ ts) = some (r ++ ts)) {a : Nat} (h : Ty L M a k s) (hl : s.length + L < 60) : Ty L M a (k + 1) r := by
  have a1 := h.1
  refine ⟨by omega, fun ts ht => ?_⟩
  rw [show k + 1 - a = (k - a) + 1 by omega, ty_app _ _ _ _ _ (h.2 ts ht), show a + (k - a) = k by omega, tyRun, if_neg (by rw [List.length_append]; omega), row6_at, hs ts]
  rfl
/-- one code written down by both -/
def EC (C : zM) (k : Nat) (x : Int32) : zM := zup (zup C 106 k x) 105 1 (iv (k + 1 : Nat))
def EM (M : zM) (k : Nat) (s v : Int32) : zM := zup (zup (zup M 6 (2 * k) s) 6 (2 * k + 1) v) 0 18 (iv (k + 1 : Nat))
theorem EC_oc {C : zM} {k : Nat} {x : Int32} : (∀ o, o ≠ 105 → o ≠ 106 → EC C k x o = C o) ∧ (∀ s, s ≠ 1 → EC C k x 105 s = C 105 s) ∧ EC C k x 105 1 = iv (k + 1 : Nat) ∧ EC C k x 106 k = x ∧ ∀ j, j ≠ k → EC C k x 106 j = C 106 j := by
  unfold EC
  refine ⟨fun o a b => by rw [zup_oth a, zup_oth b], fun s a => by rw [zup_ne (Or.inr a), zup_oth (by omega)], zup_same, by rw [zup_ne (Or.inl (by omega)), zup_same], fun j a => by rw [zup_ne (Or.inl (by omega)), zup_ne (Or.inr a)]⟩
theorem EM_om {M : zM} {k : Nat} {s v : Int32} : (∀ o, o ≠ 0 → o ≠ 6 → EM M k s v o = M o) ∧ (∀ j, j ≠ 18 → EM M k s v 0 j = M 0 j) ∧ EM M k s v 0 18 = iv (k + 1 : Nat) ∧ EM M k s v 6 (2 * k) = s ∧ EM M k s v 6 (2 * k + 1) = v ∧ ∀ j, j ≠ 2 * k → j ≠ 2 * k + 1 → EM M k s v 6 j = M 6 j := by
  unfold EM
  refine ⟨fun o a b => by rw [zup_oth a, zup_oth b, zup_oth b], fun j a => by rw [zup_ne (Or.inr a), zup_oth (by omega), zup_oth (by omega)], zup_same, by rw [zup_ne (Or.inl (by omega)), zup_ne (Or.inr (by omega)), zup_same], by rw [zup_ne (Or.inl (by omega)), zup_same], fun j a b => by rw [zup_ne (Or.inl (by omega)), zup_ne (Or.inr b), zup_ne (Or.inr a)]⟩
theorem LK.step {k : Nat} {C M : zM} {x s v : Int32} (h : LK k C M) (hr : RCode x s v) : LK (k + 1) (EC C k x) (EM M k s v) ∧ Pre k C M (EC C k x) (EM M k s v) := by
  obtain ⟨c1, -, c3, c4, c5⟩ := EC_oc (C := C) (k := k) (x := x)
  obtain ⟨-, -, m3, m4, m5, m6⟩ := EM_om (M := M) (k := k) (s := s) (v := v)
  refine ⟨⟨c3, m3, fun j hj => ?_⟩, fun j hj => c5 j (by omega), fun j hj => m6 j (by omega) (by omega), by rw [c1 98 (by omega) (by omega)], by rw [c1 98 (by omega) (by omega)]⟩
  by_cases e : j = k
  · rw [e, c4, m4, m5]
    exact hr
  · rw [c5 j e, m6 _ (by omega) (by omega), m6 _ (by omega) (by omega)]
    exact h.2.2 j (by omega)
section EMI
variable {g g' : zG} {d : Nat} {C M : zM} {k : Nat}
theorem c7_emit {Q : zM → Prop} {x y : Int32} (h1 : C 105 1 = iv k) (hk : k < 400) (h : Q (EC C k (x + 16 * y))) : zCv shC g d mX1_emit [.ref 105, .int x, .int y] C Q := by
  refine vX1_emit ⟨fun a => ?_, fun _ => ⟨k, h1, hk, ?_⟩⟩
  · rw [h1, Int32.le_iff_toInt_le, iv_toInt (by omega) (by omega)] at a
    simp only [Int32.reduceToInt] at a
    omega
  · rw [zup_oth (by omega), h1, iv_s]
    exact h
theorem c9_lay {Q : zM → Prop} {s v : Int32} (h1 : M 0 18 = iv k) (hk : k < 400) (h : Q (EM M k s v)) : zCv shM g d mX9_lay [.ref 0, .int s, .int v] M Q := by
  have e0 : (2 : Int32) * iv k = iv (2 * k : Nat) := by
    rw [show (2 : Int32) = iv 2 from rfl, iv_mul]
    rfl
  have e1 : iv (2 * k : Nat) + 1 = iv (2 * k + 1 : Nat) := iv_s _
  refine vX9_lay ⟨2 * k, by rw [h1, e0], by omega, 2 * k + 1, by rw [zup_oth (by omega), h1, e0, e1], by omega, ?_⟩
  rw [zup_oth (by omega), zup_oth (by omega), h1, iv_s]
  exact h
theorem c7_emitIf {Q : zM → Prop} {b : Bool} {x : Int32} (h1 : b = true → C 105 1 = iv k ∧ k < 400 ∧ Q (EC C k x)) (h0 : b = false → Q C) : zCv shC g (d + 1) mX1_emitIf [.ref 105, .int (zbI b), .int x] C Q := by
  refine vX1_emitIf ⟨h0, fun a => c7_emit (h1 a).1 (h1 a).2.1 ?_⟩
  rw [Int32.mul_zero, Int32.add_zero]
  exact (h1 a).2.2
end EMI
