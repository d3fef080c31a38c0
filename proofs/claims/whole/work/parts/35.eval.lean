/-! THE LAW OF ICE, worked out: a pile of ints; both sides -/
def bothV (s : Int) (a b : Int32) : Int32 := if s = 23 then a + b else if s = 24 then a - b else if s = 25 then a * b else if s = 27 then (if a < b then 1 else 0) else if s = 28 then (if a = b then 1 else 0) else if s = 29 then (if b < a then 1 else 0) else if s = 31 then a &&& b else a ||| b
def evStep (s v : Int32) (f : Nat → Int32) (st : List Int32) : List Int32 :=
  if s.toInt = 0 then v :: st else if s.toInt ≤ 6 then f (s.toInt.toNat - 1) :: st
  else if s.toInt = 26 then (match st with | x :: r => (x / v) :: r | [] => [])
  else if s.toInt = 30 then (match st with | x :: r => (1 - x) :: r | [] => [])
  else match st with | y :: x :: r => bothV s.toInt x y :: r | _ => []
def evRun (w f : Nat → Int32) : Nat → Nat → List Int32 → List Int32
  | 0, _, st => st
  | n + 1, a, st => evRun w f n (a + 1) (evStep (w (1380 + 2 * a)) (w (1381 + 2 * a)) f st)
def evV (w f : Nat → Int32) (a n : Nat) : Int32 := (evRun w f n a []).headD 0
def tsOK : List Bool → List Int32 → Prop
  | [], [] => True
  | t :: ts, x :: xs => (t = true → x = 0 ∨ x = 1) ∧ tsOK ts xs
  | _, _ => False
theorem tsOK.len : ∀ {ts : List Bool} {st : List Int32}, tsOK ts st → ts.length = st.length
  | [], [], _ => rfl
  | _ :: ts, _ :: xs, h => by simp only [List.length_cons, tsOK.len h.2]
  | [], _ :: _, h => h.elim
  | _ :: _, [], h => h.elim
theorem tsOK.inv {t : Bool} {ts : List Bool} {st : List Int32} (h : tsOK (t :: ts) st) : ∃ x r, st = x :: r ∧ (t = true → x = 0 ∨ x = 1) ∧ tsOK ts r := by
  cases st with
  | nil => exact h.elim
  | cons x r => exact ⟨x, r, rfl, h.1, h.2⟩
/-- a pile in a row of ints -/
def pileOK (M : zM) (o : Nat) : List Int32 → Prop
  | [] => True
  | x :: r => M o r.length = x ∧ pileOK M o r
theorem pileOK.up {M : zM} {o k : Nat} {x : Int32} : ∀ {r : List Int32}, pileOK M o r → r.length ≤ k → pileOK (zup M o k x) o r
  | [], _, _ => trivial
  | y :: r, h, hk => by
    simp only [List.length_cons] at hk
    refine ⟨?_, h.2.up (by omega)⟩
    have hne : r.length ≠ k := by omega
    simp only [zup, hne, and_false, if_false]
    exact h.1
theorem pileOK.push {M : zM} {o : Nat} {x : Int32} {r : List Int32} (h : pileOK M o r) : pileOK (zup M o r.length x) o (x :: r) := ⟨by simp [zup], h.up (Nat.le_refl _)⟩
theorem zup_oth {M : zM} {o k a : Nat} {x : Int32} (h : a ≠ o) : zup M o k x a = M a := by
  funext j
  simp [zup, h]
theorem zup_same {M : zM} {o k : Nat} {x : Int32} : zup M o k x o k = x := by simp [zup]
theorem zup_ne {M : zM} {o k a j : Nat} {x : Int32} (h : a ≠ o ∨ j ≠ k) : zup M o k x a j = M a j := by
  simp only [zup]
  rw [if_neg]
  omega
theorem bin01 {s : Int} {x y : Int32} (h : 27 ≤ s) (hx : s ≤ 29 ∨ ((x = 0 ∨ x = 1) ∧ (y = 0 ∨ y = 1))) : bothV s x y = 0 ∨ bothV s x y = 1 := by
  unfold bothV
  rw [if_neg (by omega), if_neg (by omega), if_neg (by omega)]
  split
  · split <;> simp
  split
  · split <;> simp
  split
  · split <;> simp
  rcases hx with hx | ⟨hx, hy⟩
  · omega
  · split <;> rcases hx with rfl | rfl <;> rcases hy with rfl | rfl <;> decide
/-- one step: kinds and pile -/
theorem ty_sound {w : Nat → Int32} {f : Nat → Int32} {s v : Int32} {ts t1 : List Bool} {st : List Int32} (h : tyStep s.toInt ts = some t1) (hs : tsOK ts st) (hr : s.toInt ≤ 6 ∨ 23 ≤ s.toInt) (h32 : s.toInt ≤ 32) (h0 : 0 ≤ s.toInt) : tsOK t1 (evStep s v f st) ∧
    ((s.toInt ≤ 6) ∨ (s.toInt = 26 ∧ ∃ x r, st = x :: r) ∨ (s.toInt = 30 ∧ ∃ x r, st = x :: r) ∨ (23 ≤ s.toInt ∧ s.toInt ≠ 26 ∧ s.toInt ≠ 30 ∧ ∃ y x r, st = y :: x :: r)) := by
  unfold tyStep at h
  unfold evStep
  by_cases c6 : s.toInt ≤ 6
  · rw [if_pos c6] at h
    cases h
    refine ⟨?_, Or.inl c6⟩
    by_cases c0 : s.toInt = 0
    · rw [if_pos c0]
      exact ⟨fun e => (by cases e), hs⟩
    · rw [if_neg c0, if_pos c6]
      exact ⟨fun e => (by cases e), hs⟩
  rw [if_neg c6] at h
  rw [if_neg (by omega), if_neg c6]
  by_cases c26 : s.toInt = 26
  · rw [if_pos c26] at h
    rw [if_pos c26]
    match ts, h with
    | false :: r, h =>
      cases h
      obtain ⟨x, r2, rfl, h1, h2⟩ := hs.inv
      exact ⟨⟨fun e => (by cases e), h2⟩, Or.inr (Or.inl ⟨c26, x, r2, rfl⟩)⟩
  rw [if_neg c26] at h
  rw [if_neg c26]
  by_cases c30 : s.toInt = 30
  · rw [if_pos c30] at h
    rw [if_pos c30]
    match ts, h with
    | true :: r, h =>
      cases h
      obtain ⟨x, r2, rfl, h1, h2⟩ := hs.inv
      refine ⟨⟨fun _ => ?_, h2⟩, Or.inr (Or.inr (Or.inl ⟨c30, x, r2, rfl⟩))⟩
      rcases h1 rfl with rfl | rfl
      · exact Or.inr (by decide)
      · exact Or.inl (by decide)
  rw [if_neg c30] at h
  rw [if_neg c30]
  by_cases c25 : s.toInt ≤ 25
  · rw [if_pos c25] at h
    match ts, h with
    | false :: false :: r, h =>
      cases h
      obtain ⟨y, r2, rfl, h1, h2⟩ := hs.inv
      obtain ⟨x, r3, rfl, h3, h4⟩ := h2.inv
      exact ⟨⟨fun e => (by cases e), h4⟩, Or.inr (Or.inr (Or.inr ⟨by omega, c26, c30, y, x, r3, rfl⟩))⟩
  rw [if_neg c25] at h
  by_cases c29 : s.toInt ≤ 29
  · rw [if_pos c29] at h
    match ts, h with
    | false :: false :: r, h =>
      cases h
      obtain ⟨y, r2, rfl, h1, h2⟩ := hs.inv
      obtain ⟨x, r3, rfl, h3, h4⟩ := h2.inv
      exact ⟨⟨fun e => bin01 (by omega) (Or.inl c29), h4⟩, Or.inr (Or.inr (Or.inr ⟨by omega, c26, c30, y, x, r3, rfl⟩))⟩
  rw [if_neg c29] at h
  match ts, h with
  | true :: true :: r, h =>
    cases h
    obtain ⟨y, r2, rfl, h1, h2⟩ := hs.inv
    obtain ⟨x, r3, rfl, h3, h4⟩ := h2.inv
    exact ⟨⟨fun e => bin01 (by omega) (Or.inr ⟨h3 rfl, h1 rfl⟩), h4⟩, Or.inr (Or.inr (Or.inr ⟨by omega, c26, c30, y, x, r3, rfl⟩))⟩
theorem tyRun_inv {w : Nat → Int32} {a n : Nat} {ts tF : List Bool} (h : tyRun w a (n + 1) ts = some tF) : ts.length < 60 ∧ ∃ t1, tyStep (w (1380 + 2 * a)).toInt ts = some t1 ∧ tyRun w (a + 1) n t1 = some tF := by
  rw [tyRun] at h
  split at h
  · cases h
  · split at h
    · cases h
    · rename_i h1 _ t1 h2
      exact ⟨by omega, t1, h2, h⟩
section E9
variable {g : zG} {d : Nat}
theorem c9_both {Q : Int32 → zM → Prop} {M : zM} {s a b : Int32} (h0 : 23 ≤ s.toInt) (h26 : s.toInt ≠ 26) (h30 : s.toInt ≠ 30) (h32 : s.toInt ≤ 32) (h : Q (bothV s.toInt a b) M) : zCi shM g d mX9_both [.int s, .int a, .int b] M Q := by
  unfold bothV at h
  refine vX9_both ⟨fun c => ?_, fun c => ?_, fun c => ?_, fun c => ?_, fun c => absurd c h26, fun c => ?_, fun c => ?_, fun c => ?_, fun c => absurd c h30, fun c => ?_⟩
  · rw [if_neg (by omega), if_neg (by omega), if_neg (by omega), if_neg (by omega), if_neg (by omega), if_neg (by omega), if_neg (by omega)] at h
    exact h
  · rw [if_pos c] at h
    exact h
  · rw [if_neg (by omega), if_pos c] at h
    exact h
  · rw [if_neg (by omega), if_neg (by omega), if_pos c] at h
    exact h
  · rw [if_neg (by omega), if_neg (by omega), if_neg (by omega), if_pos c] at h
    refine ⟨fun c2 => ?_, fun c2 => ?_⟩
    · rw [if_neg (Int32.not_lt.mpr c2)] at h
      exact h
    · rw [if_pos (Int32.not_le.mp c2)] at h
      exact h
  · rw [if_neg (by omega), if_neg (by omega), if_neg (by omega), if_neg (by omega), if_pos c] at h
    refine ⟨fun c2 => ?_, fun c2 => ?_⟩
    · rw [if_neg c2] at h
      exact h
    · rw [if_pos c2] at h
      exact h
  · rw [if_neg (by omega), if_neg (by omega), if_neg (by omega), if_neg (by omega), if_neg (by omega), if_pos c] at h
    refine ⟨fun c2 => ?_, fun c2 => ?_⟩
    · rw [if_neg (Int32.not_lt.mpr c2)] at h
      exact h
    · rw [if_pos (Int32.not_le.mp c2)] at h
      exact h
  · rw [if_neg (by omega), if_neg (by omega), if_neg (by omega), if_neg (by omega), if_neg (by omega), if_neg (by omega), if_pos c] at h
    exact h
/-- the codes from a to t are codes -/
def codesOK (w : Nat → Int32) (a t : Nat) : Prop := ∀ j, a ≤ j → j < t → 0 ≤ (w (1380 + 2 * j)).toInt ∧ (w (1380 + 2 * j)).toInt ≤ 32 ∧ ((w (1380 + 2 * j)).toInt ≤ 6 ∨ 23 ≤ (w (1380 + 2 * j)).toInt) ∧ ((w (1380 + 2 * j)).toInt = 26 → 1 ≤ (w (1381 + 2 * j)).toInt)
theorem c9_comes_loop {Q : Int32 → zM → Prop} {w f : Nat → Int32} {t : Nat} {tF : List Bool} (ht : t ≤ 400) : ∀ (n a : Nat) (st : List Int32) (ts : List Bool) (M : zM), a + n = t → codesOK w a t → M 1 = w → (∀ i, i < 6 → M 14 (i + 1) = f i) → pileOK M 13 st → tsOK ts st → tyRun w a n ts = some tF →
    (∀ M' : zM, (∀ o, o ≠ 13 → M' o = M o) → pileOK M' 13 (evRun w f n a st) → tsOK tF (evRun w f n a st) → Q (M' 13 0) M') →
    zW shM g (d + 1) mX9_comesTo (zi Q) 6 [(0, .ref 0), (1, .int 0), (3, .int (iv t)), (4, .int (iv st.length)), (5, .int (iv a))] [] M := by
  intro n
  induction n with
  | zero =>
    intro a st ts M ha hc hw hf hp hts hty hQ
    refine vX9_comesTo_6 ⟨fun _ => ?_, fun c => ?_⟩
    · rw [tyRun] at hty
      cases hty
      exact hQ M (fun _ _ => rfl) hp hts
    · obtain rfl : a = t := by omega
      exact absurd (Int32.le_refl _) c
  | succ n ih =>
    intro a st ts M ha hc hw hf hp hts hty hQ
    obtain ⟨hlen, t1, hstep, hrest⟩ := tyRun_inv hty
    obtain ⟨q0, q32, q23, q26⟩ := hc a (Nat.le_refl _) (by omega)
    have hl := hts.len
    have hsnd := fun v => ty_sound (w := w) (f := f) (v := v) hstep hts q23 q32 q0
    obtain ⟨hts1, hkind⟩ := hsnd (w (1381 + 2 * a))
    have hc1 : codesOK w (a + 1) t := fun j h1 h2 => hc j (by omega) h2
    have e1 : (1380 + 820 * 0) + 2 * iv a = iv (1380 + 2 * a : Nat) := by
      rw [show (2 : Int32) = iv 2 from rfl, iv_mul, show (1380 + 820 * 0 : Int32) = iv 1380 from rfl, iv_add]
      congr 1
    have e2 : iv (1380 + 2 * a : Nat) + 1 = iv (1381 + 2 * a : Nat) := by
      rw [iv_s]
      congr 1
      omega
    refine vX9_comesTo_6 ⟨fun c => ?_, fun _ => ⟨1380 + 2 * a, e1, by omega, 1381 + 2 * a, by rw [e1]; exact e2, by omega, ?_⟩⟩
    · rw [Int32.le_iff_toInt_le, iv_toInt (by omega) (by omega), iv_toInt (by omega) (by omega)] at c
      omega
    rw [hw]
    have ih' := fun (st' : List Int32) (M' : zM) (hst : evStep (w (1380 + 2 * a)) (w (1381 + 2 * a)) f st = st') (hM : ∀ o, o ≠ 13 → M' o = M o) (hp' : pileOK M' 13 st') => ih (a + 1) st' t1 M' (by omega) hc1 (by rw [hM 1 (by decide), hw]) (fun i hi => by rw [hM 14 (by decide)]; exact hf i hi) hp' (hst ▸ hts1) hrest
      (fun M2 h1 h2 h3 => hQ M2 (fun o ho => (h1 o ho).trans (hM o ho)) (by rw [evRun, hst]; exact h2) (by rw [evRun, hst]; exact h3))
    rw [iv_s]
    refine ⟨fun c23 => ?_, fun c23 => ?_⟩
    · rw [Int32.le_iff_toInt_le] at c23
      simp only [Int32.reduceToInt] at c23
      refine ⟨fun c26 => ⟨fun c30 => ?_, fun c30 => ?_⟩, fun c26 => ?_⟩
      · rw [eqI] at c26 c30
        simp only [Int32.reduceToInt] at c26 c30
        have hk : ∃ y x r, st = y :: x :: r := by
          rcases hkind with h | h | h | h
          · omega
          · omega
          · omega
          · exact h.2.2.2
        obtain ⟨y, x, r, rfl⟩ := hk
        have l1 : iv (y :: x :: r).length + (-1) = iv (r.length + 1 : Nat) := by
          rw [show (-1 : Int32) = iv (-1) from rfl, iv_add]
          congr 1
          simp only [List.length_cons]
          omega
        have l2 : iv (r.length + 1 : Nat) - 1 = iv r.length := by
          rw [show (1 : Int32) = iv 1 from rfl, iv_sub]
          congr 1
          omega
        rw [l1, l2]
        simp only [List.length_cons] at hl
        refine ⟨r.length, rfl, by omega, r.length + 1, rfl, by omega, c9_both (by omega) c26 c30 (by omega) ?_⟩
        obtain ⟨p1, p2, p3⟩ := hp
        rw [p2, show M 13 (r.length + 1) = y from p1]
        have hst : evStep (w (1380 + 2 * a)) (w (1381 + 2 * a)) f (y :: x :: r) = bothV (w (1380 + 2 * a)).toInt x y :: r := by
          unfold evStep
          rw [if_neg (by omega), if_neg (by omega), if_neg c26, if_neg c30]
        exact ih' (bothV (w (1380 + 2 * a)).toInt x y :: r) _ hst (fun o ho => zup_oth ho) p3.push
      · rw [eqI] at c26 c30
        simp only [Int32.reduceToInt] at c26 c30
        have hk : ∃ x r, st = x :: r := by
          rcases hkind with h | h | h | h
          · omega
          · omega
          · exact h.2
          · omega
        obtain ⟨x, r, rfl⟩ := hk
        have l2 : iv (x :: r).length - 1 = iv r.length := by
          rw [show (1 : Int32) = iv 1 from rfl, iv_sub]
          congr 1
          simp only [List.length_cons]
          omega
        rw [l2]
        simp only [List.length_cons] at hl
        refine ⟨r.length, rfl, by omega, ?_⟩
        obtain ⟨p1, p3⟩ := hp
        rw [p1]
        have hst : evStep (w (1380 + 2 * a)) (w (1381 + 2 * a)) f (x :: r) = (1 - x) :: r := by
          unfold evStep
          rw [if_neg (by omega), if_neg (by omega), if_neg c26, if_pos c30]
        exact ih' ((1 - x) :: r) _ hst (fun o ho => zup_oth ho) p3.push
      · rw [eqI] at c26
        simp only [Int32.reduceToInt] at c26
        have hk : ∃ x r, st = x :: r := by
          rcases hkind with h | h | h | h
          · omega
          · exact h.2
          · omega
          · omega
        obtain ⟨x, r, rfl⟩ := hk
        have l2 : iv (x :: r).length - 1 = iv r.length := by
          rw [show (1 : Int32) = iv 1 from rfl, iv_sub]
          congr 1
          simp only [List.length_cons]
          omega
        rw [l2]
        simp only [List.length_cons] at hl
        have hv := q26 c26
        refine ⟨r.length, rfl, by omega, fun e => ?_, ?_⟩
        · rw [e] at hv
          simp only [Int32.reduceToInt] at hv
          omega
        obtain ⟨p1, p3⟩ := hp
        rw [p1]
        have hst : evStep (w (1380 + 2 * a)) (w (1381 + 2 * a)) f (x :: r) = (x / w (1381 + 2 * a)) :: r := by
          unfold evStep
          rw [if_neg (by omega), if_neg (by omega), if_pos c26]
        exact ih' ((x / w (1381 + 2 * a)) :: r) _ hst (fun o ho => zup_oth ho) p3.push
    · rw [Int32.le_iff_toInt_le] at c23
      simp only [Int32.reduceToInt] at c23
      refine ⟨fun c0 => ?_, fun c0 => ?_⟩
      · rw [eqI] at c0
        simp only [Int32.reduceToInt] at c0
        obtain ⟨k, hk, hk7, hkI⟩ := iv_nat (x := w (1380 + 2 * a)) (n := 7) q0 (by omega)
        refine ⟨k, hk, hk7, st.length, rfl, by omega, ?_⟩
        have hfk := hf (k - 1) (by omega)
        rw [show k - 1 + 1 = k by omega] at hfk
        rw [hfk, iv_s]
        have hst : evStep (w (1380 + 2 * a)) (w (1381 + 2 * a)) f st = f (k - 1) :: st := by
          unfold evStep
          rw [if_neg c0, if_pos (by omega), hkI]
          rfl
        exact ih' (f (k - 1) :: st) _ hst (fun o ho => zup_oth ho) hp.push
      · rw [eqI] at c0
        simp only [Int32.reduceToInt] at c0
        refine ⟨st.length, rfl, by omega, ?_⟩
        rw [iv_s]
        have hst : evStep (w (1380 + 2 * a)) (w (1381 + 2 * a)) f st = w (1381 + 2 * a) :: st := by
          unfold evStep
          rw [if_pos c0]
        exact ih' (w (1381 + 2 * a) :: st) _ hst (fun o ho => zup_oth ho) hp.push
theorem c9_comesTo {Q : Int32 → zM → Prop} {M : zM} {f : Nat → Int32} {a t : Nat} {b : Bool} (hat : a ≤ t) (ht : t ≤ 400) (hc : codesOK (M 1) a t) (hf : ∀ i, i < 6 → M 14 (i + 1) = f i) (hty : tyRun (M 1) a (t - a) [] = some [b])
    (h : ∀ M' : zM, (∀ o, o ≠ 13 → M' o = M o) → (b = true → evV (M 1) f a (t - a) = 0 ∨ evV (M 1) f a (t - a) = 1) → Q (evV (M 1) f a (t - a)) M') : zCi shM g (d + 1) mX9_comesTo [.ref 0, .int 0, .int (iv a), .int (iv t)] M Q := by
  refine vX9_comesTo (c9_comes_loop ht (t - a) a [] [] M (by omega) hc rfl hf trivial trivial hty fun M' h1 h2 h3 => ?_)
  obtain ⟨x, r, e, hx, hr⟩ := h3.inv
  have er : r = [] := by
    cases r with
    | nil => rfl
    | cons _ _ => exact hr.elim
  subst er
  have e3 : evV (M 1) f a (t - a) = x := by rw [evV, e]; rfl
  rw [e] at h2
  have e2 : M' 13 0 = x := h2.1
  rw [e2, ← e3]
  exact h M' h1 (by rw [e3]; exact hx)
end E9
