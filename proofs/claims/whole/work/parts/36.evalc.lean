/-! THE LAW OF ICE, worked out by the class -/
section E7
variable {g : zG} {d : Nat}
theorem c1_joined {Q : Int32 → zM → Prop} {M : zM} {x s v a b : Int32} {o : Int} (hx : x = iv o) (hr : RCode x s v) (ho : 0 ≤ o ∧ o ≤ 11) (h0 : 23 ≤ s.toInt) (h26 : s.toInt ≠ 26) (h30 : s.toInt ≠ 30) (h : Q (bothV s.toInt a b) M) : zCi shC g d mX1_joined [.int (iv o), .int a, .int b] M Q := by
  have ht : (iv o).toInt = o := iv_toInt (by omega) (by omega)
  have hxo : x.toInt = o := by rw [hx, ht]
  have hcase : (s.toInt = 25 ∧ o = 4) ∨ (s.toInt = 23 ∧ o = 5) ∨ (s.toInt = 24 ∧ o = 6) ∨ (s.toInt = 27 ∧ o = 7) ∨ (s.toInt = 28 ∧ o = 8) ∨ (s.toInt = 29 ∧ o = 9) ∨ (s.toInt = 31 ∧ o = 10) ∨ (s.toInt = 32 ∧ o = 11) := by
    obtain ⟨-, hr⟩ := hr
    simp only [eqI, hxo, Int32.reduceToInt] at hr
    omega
  unfold bothV at h
  refine vX1_joined ?_
  rw [ht]
  refine ⟨fun c => by omega, fun c => ?_, fun c => ?_, fun c => ?_, fun c => ?_, fun c => ?_, fun c => ?_, fun c => ?_, fun c => ?_⟩
  · rw [if_neg (by omega), if_neg (by omega), if_pos (by omega)] at h
    exact h
  · rw [if_pos (by omega)] at h
    exact h
  · rw [if_neg (by omega), if_pos (by omega)] at h
    exact h
  · rw [if_neg (by omega), if_neg (by omega), if_neg (by omega), if_pos (by omega)] at h
    refine ⟨fun c2 => ?_, fun c2 => ?_⟩
    · rw [if_neg (Int32.not_lt.mpr c2)] at h
      exact h
    · rw [if_pos (Int32.not_le.mp c2)] at h
      exact h
  · rw [if_neg (by omega), if_neg (by omega), if_neg (by omega), if_neg (by omega), if_pos (by omega)] at h
    refine ⟨fun c2 => ?_, fun c2 => ?_⟩
    · rw [if_neg c2] at h
      exact h
    · rw [if_pos c2] at h
      exact h
  · rw [if_neg (by omega), if_neg (by omega), if_neg (by omega), if_neg (by omega), if_neg (by omega), if_pos (by omega)] at h
    refine ⟨fun c2 => ?_, fun c2 => ?_⟩
    · rw [if_neg (Int32.not_lt.mpr c2)] at h
      exact h
    · rw [if_pos (Int32.not_le.mp c2)] at h
      exact h
  · rw [if_neg (by omega), if_neg (by omega), if_neg (by omega), if_neg (by omega), if_neg (by omega), if_neg (by omega), if_pos (by omega)] at h
    exact h
  · rw [if_neg (by omega), if_neg (by omega), if_neg (by omega), if_neg (by omega), if_neg (by omega), if_neg (by omega), if_neg (by omega)] at h
    exact h
theorem c1_value_loop {Q : Int32 → zM → Prop} {w f : Nat → Int32} {t : Nat} {b : Bool} (ht : t ≤ 400) : ∀ (n a : Nat) (st : List Int32) (ts : List Bool) (C : zM), a + n = t → codesOK w a t → (∀ j, a ≤ j → j < t → RCode (C 16 j) (w (1380 + 2 * j)) (w (1381 + 2 * j))) → (∀ i, i < 6 → C 26 i = f i) → pileOK C 21 st → tsOK ts st → tyRun w a n ts = some [b] →
    (∀ C' : zM, (∀ o, o ≠ 21 → C' o = C o) → pileOK C' 21 (evRun w f n a st) → tsOK [b] (evRun w f n a st) → Q (C' 21 0) C') →
    zW shC g (d + 1) mX1_value (zi Q) 6 [(0, .ref 15), (2, .int (iv t)), (3, .ref 26), (4, .int (iv st.length)), (5, .int (iv a))] [] C := by
  intro n
  induction n with
  | zero =>
    intro a st ts C ha hc hcd hf hp hts hty hQ
    refine vX1_value_6 ⟨fun _ => ?_, fun c => ?_⟩
    · rw [tyRun] at hty
      cases hty
      have hl := hts.len
      refine ⟨fun c => ?_, fun _ => hQ C (fun _ _ => rfl) hp hts⟩
      rw [← hl] at c
      exact absurd c (show ¬ iv ((1 : Nat) : Int) ≤ 0 by decide)
    · obtain rfl : a = t := by omega
      exact absurd (Int32.le_refl _) c
  | succ n ih =>
    intro a st ts C ha hc hcd hf hp hts hty hQ
    obtain ⟨hlen, t1, hstep, hrest⟩ := tyRun_inv hty
    obtain ⟨q0, q32, q23, q26⟩ := hc a (Nat.le_refl _) (by omega)
    have hl := hts.len
    obtain ⟨hts1, hkind⟩ := ty_sound (f := f) (v := w (1381 + 2 * a)) (w := w) hstep hts q23 q32 q0
    have hc1 : codesOK w (a + 1) t := fun j h1 h2 => hc j (by omega) h2
    have hcode := hcd a (Nat.le_refl _) (by omega)
    have hx0 := hcode.1
    have hxr := tr32 (C 16 a)
    have e16 : (C 16 a) / 16 = iv ((C 16 a).toInt / 16) := by
      rw [eqI, ti_div hx0 (by decide), iv_toInt (by omega) (by omega)]
      rfl
    have eop : (C 16 a) - (C 16 a) / 16 * 16 = iv ((C 16 a).toInt % 16) := by
      rw [eqI, ti_rem hx0 (by decide), iv_toInt (by omega) (by omega)]
      rfl
    have ih' := fun (st' : List Int32) (C' : zM) (hst : evStep (w (1380 + 2 * a)) (w (1381 + 2 * a)) f st = st') (hM : ∀ o, o ≠ 21 → C' o = C o) (hp' : pileOK C' 21 st') => ih (a + 1) st' t1 C' (by omega) hc1 (fun j h1 h2 => by rw [hM 16 (by decide)]; exact hcd j (by omega) h2) (fun i hi => by rw [hM 26 (by decide)]; exact hf i hi) hp' (hst ▸ hts1) hrest
      (fun M2 h1 h2 h3 => hQ M2 (fun o ho => (h1 o ho).trans (hM o ho)) (by rw [evRun, hst]; exact h2) (by rw [evRun, hst]; exact h3))
    refine vX1_value_6 ⟨fun c => ?_, fun _ => ⟨a, rfl, by omega, ?_⟩⟩
    · rw [Int32.le_iff_toInt_le, iv_toInt (by omega) (by omega), iv_toInt (by omega) (by omega)] at c
      omega
    rw [eop, e16, iv_s]
    generalize hoe : (C 16 a).toInt % 16 = o
    generalize hne : (C 16 a).toInt / 16 = q
    have hxq : (C 16 a).toInt = 16 * q + o := by omega
    obtain ⟨-, hR⟩ := hcode
    have lt64 : iv st.length < 64 := by
      rw [Int32.lt_iff_toInt_lt, iv_toInt (by omega) (by omega)]
      simp only [Int32.reduceToInt]
      omega
    have mono : ∀ x r, st = x :: r → iv st.length - 1 = iv r.length := by
      rintro x r rfl
      rw [show (1 : Int32) = iv 1 from rfl, iv_sub]
      congr 1
      simp only [List.length_cons]
      omega
    have one : ∀ x r, st = x :: r → ¬ iv st.length < 1 := by
      rintro x r rfl
      simp only [List.length_cons] at hl ⊢
      rw [Int32.lt_iff_toInt_lt, iv_toInt (by omega) (by omega)]
      simp only [Int32.reduceToInt]
      omega
    -- the code by its kinds
    by_cases k0 : (w (1380 + 2 * a)).toInt = 0
    · have ho : o = 0 ∧ (w (1381 + 2 * a)).toInt = q := by
        simp only [eqI, Int32.reduceToInt, hoe, hne, hxq] at hR
        omega
      obtain ⟨rfl, hv⟩ := ho
      refine ⟨fun _ => vX1_value_47 ⟨fun _ => ⟨fun c => absurd (by decide) c, fun _ => ⟨st.length, rfl, by omega, ?_⟩⟩, fun c => absurd lt64 c⟩, fun c => absurd (by decide) c⟩
      rw [← hv, ← iv_of, iv_s st.length, iv_s a]
      have hst : evStep (w (1380 + 2 * a)) (w (1381 + 2 * a)) f st = w (1381 + 2 * a) :: st := by
        unfold evStep
        rw [if_pos k0]
      exact ih' (w (1381 + 2 * a) :: st) _ hst (fun o ho => zup_oth ho) hp.push
    by_cases k6 : (w (1380 + 2 * a)).toInt ≤ 6
    · have ho : o = 1 ∧ q = (w (1380 + 2 * a)).toInt - 1 := by
        simp only [eqI, Int32.reduceToInt, hoe, hne, hxq] at hR
        omega
      obtain ⟨rfl, hv⟩ := ho
      obtain ⟨k, hk, hk6, hkI⟩ := iv_nat (x := iv q) (n := 6) (by rw [iv_toInt] <;> omega) (by rw [iv_toInt] <;> omega)
      have hkq : q = k := by
        rw [iv_toInt (by omega) (by omega)] at hkI
        exact hkI
      refine ⟨fun c => absurd c (by decide), fun _ => ⟨fun c => absurd (by decide) c, fun _ => vX1_value_47 ⟨fun _ => ⟨fun _ => ⟨k, hk, hk6, st.length, rfl, by omega, ?_⟩, fun c => absurd c (by decide)⟩, fun c => absurd lt64 c⟩⟩⟩
      rw [hf k hk6, iv_s st.length, iv_s a]
      have hst : evStep (w (1380 + 2 * a)) (w (1381 + 2 * a)) f st = f k :: st := by
        unfold evStep
        rw [if_neg k0, if_pos k6]
        congr 2
        omega
      exact ih' (f k :: st) _ hst (fun o ho => zup_oth ho) hp.push
    by_cases k26 : (w (1380 + 2 * a)).toInt = 26
    · have ho : o = 3 ∧ (w (1381 + 2 * a)).toInt = q := by
        simp only [eqI, Int32.reduceToInt, hoe, hne, hxq] at hR
        omega
      obtain ⟨rfl, hv⟩ := ho
      have hv1 := q26 k26
      have hk : ∃ x r, st = x :: r := by
        rcases hkind with h | h | h | h
        · omega
        · exact h.2
        · omega
        · omega
      obtain ⟨x, r, hxr2⟩ := hk
      have hq0 : ¬ iv q = 0 := by
        rw [eqI, iv_toInt (by omega) (by omega)]
        simp only [Int32.reduceToInt]
        omega
      refine ⟨fun c => absurd c (by decide), fun _ => ⟨fun _ => ⟨fun c => absurd c (by decide), fun _ => ⟨fun c => absurd (by decide) c, fun _ => vX1_value_95 ⟨fun c => absurd c (one x r hxr2), fun _ => ⟨fun c => absurd (by decide) c, fun _ => ⟨fun _ => vX1_value_114 ⟨fun c => absurd (by decide) c, fun _ => ⟨r.length, mono x r hxr2, ?_, hq0, ?_⟩⟩, fun c => absurd c hq0⟩⟩⟩⟩⟩, fun c => absurd c (by decide)⟩⟩
      · rw [hxr2] at hl
        simp only [List.length_cons] at hl
        omega
      subst hxr2
      obtain ⟨p1, p3⟩ := hp
      rw [p1, ← hv, ← iv_of, iv_s]
      have hst : evStep (w (1380 + 2 * a)) (w (1381 + 2 * a)) f (x :: r) = (x / w (1381 + 2 * a)) :: r := by
        unfold evStep
        rw [if_neg (by omega), if_neg (by omega), if_pos k26]
      exact ih' ((x / w (1381 + 2 * a)) :: r) _ hst (fun o ho => zup_oth ho) p3.push
    by_cases k30 : (w (1380 + 2 * a)).toInt = 30
    · have ho : o = 2 := by
        simp only [eqI, Int32.reduceToInt, hoe, hne, hxq] at hR
        omega
      subst ho
      have hk : ∃ x r, st = x :: r := by
        rcases hkind with h | h | h | h
        · omega
        · omega
        · exact h.2
        · omega
      obtain ⟨x, r, hxr2⟩ := hk
      refine ⟨fun c => absurd c (by decide), fun _ => ⟨fun _ => ⟨fun _ => vX1_value_95 ⟨fun c => absurd c (one x r hxr2), fun _ => ⟨fun _ => vX1_value_114 ⟨fun _ => ⟨r.length, mono x r hxr2, ?_, ?_⟩, fun c => absurd c (by decide)⟩, fun c => absurd c (by decide)⟩⟩, fun c => absurd (by decide) c⟩, fun c => absurd c (by decide)⟩⟩
      · rw [hxr2] at hl
        simp only [List.length_cons] at hl
        omega
      subst hxr2
      obtain ⟨p1, p3⟩ := hp
      rw [p1, iv_s]
      have hst : evStep (w (1380 + 2 * a)) (w (1381 + 2 * a)) f (x :: r) = (1 - x) :: r := by
        unfold evStep
        rw [if_neg (by omega), if_neg (by omega), if_neg k26, if_pos k30]
      exact ih' ((1 - x) :: r) _ hst (fun o ho => zup_oth ho) p3.push
    · have ho : 4 ≤ o ∧ o ≤ 11 ∧ q = 0 := by
        simp only [eqI, Int32.reduceToInt, hoe, hne, hxq] at hR
        omega
      obtain ⟨ho1, ho2, rfl⟩ := ho
      have hk : ∃ y x r, st = y :: x :: r := by
        rcases hkind with h | h | h | h
        · omega
        · omega
        · omega
        · exact h.2.2.2
      obtain ⟨y, x, r, rfl⟩ := hk
      simp only [List.length_cons] at hl
      have to : (iv o).toInt = o := iv_toInt (by omega) (by omega)
      have n0 : ∀ z : Int, 0 ≤ z → z ≤ 3 → ¬ iv o = iv z := by
        intro z h1 h2
        rw [iv_inj (by omega) (by omega)]
        omega
      have l1 : iv (y :: x :: r).length + (-1) = iv (r.length + 1 : Nat) := by
        rw [show (-1 : Int32) = iv (-1) from rfl, iv_add]
        congr 1
        simp only [List.length_cons]
        omega
      have l2 : iv (r.length + 1 : Nat) - 1 = iv r.length := by
        rw [show (1 : Int32) = iv 1 from rfl, iv_sub]
        congr 1
        omega
      refine ⟨fun c => absurd c (n0 0 (by omega) (by omega)), fun _ => ⟨fun _ => ⟨fun c => absurd c (n0 2 (by omega) (by omega)), fun _ => ⟨fun _ => ⟨fun _ => ?_, fun c => ?_⟩, fun c => absurd c (n0 3 (by omega) (by omega))⟩⟩, fun c => absurd c (n0 1 (by omega) (by omega))⟩⟩
      · rw [l1, l2]
        obtain ⟨p1, p2, p3⟩ := hp
        refine ⟨r.length, rfl, by omega, r.length + 1, rfl, by omega, c1_joined (x := C 16 a) (s := w (1380 + 2 * a)) (v := w (1381 + 2 * a)) ?_ ⟨hx0, hR⟩ (by omega) (by omega) k26 k30 ?_⟩
        · rw [iv_of (C 16 a)]
          congr 1
          omega
        rw [p2, show C 21 (r.length + 1) = y from p1]
        have hst : evStep (w (1380 + 2 * a)) (w (1381 + 2 * a)) f (y :: x :: r) = bothV (w (1380 + 2 * a)).toInt x y :: r := by
          unfold evStep
          rw [if_neg (by omega), if_neg (by omega), if_neg k26, if_neg k30]
        exact ih' (bothV (w (1380 + 2 * a)).toInt x y :: r) _ hst (fun o ho => zup_oth ho) p3.push
      · rw [Int32.le_iff_toInt_le, iv_toInt (by simp only [List.length_cons]; omega) (by simp only [List.length_cons]; omega)] at c
        simp only [Int32.reduceToInt, List.length_cons] at c
        omega
theorem c1_value {Q : Int32 → zM → Prop} {C : zM} {w f : Nat → Int32} {a t : Nat} {b : Bool} (hat : a ≤ t) (ht : t ≤ 400) (hc : codesOK w a t) (hcd : ∀ j, a ≤ j → j < t → RCode (C 16 j) (w (1380 + 2 * j)) (w (1381 + 2 * j))) (hf : ∀ i, i < 6 → C 26 i = f i) (hty : tyRun w a (t - a) [] = some [b])
    (h : ∀ C' : zM, (∀ o, o ≠ 21 → C' o = C o) → (b = true → evV w f a (t - a) = 0 ∨ evV w f a (t - a) = 1) → Q (evV w f a (t - a)) C') : zCi shC g (d + 1) mX1_value [.ref 15, .int (iv a), .int (iv t), .ref 26] C Q := by
  refine vX1_value (c1_value_loop ht (t - a) a [] [] C (by omega) hc hcd hf trivial trivial hty fun M' h1 h2 h3 => ?_)
  obtain ⟨x, r, e, hx, hr⟩ := h3.inv
  have er : r = [] := by
    cases r with
    | nil => rfl
    | cons _ _ => exact hr.elim
  subst er
  have e3 : evV w f a (t - a) = x := by rw [evV, e]; rfl
  rw [e] at h2
  have e2 : M' 21 0 = x := h2.1
  rw [e2, ← e3]
  exact h M' h1 (by rw [e3]; exact hx)
end E7
