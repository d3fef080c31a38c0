/-! THE NEXT TOKEN, both sides -/
/-- what a step of the scanner leaves as it was -/
def OC (C C' : zM) : Prop := (∀ o, o ≠ 98 → C' o = C o) ∧ ∀ s, s = 1 ∨ 6 ≤ s → C' 98 s = C 98 s
def OM (M M' : zM) : Prop := (∀ o, o ≠ 0 → M' o = M o) ∧ ∀ s, s < 24 ∨ 27 < s → M' 0 s = M 0 s
theorem OC.trans {C C1 C2 : zM} (h : OC C C1) (h2 : OC C1 C2) : OC C C2 := ⟨fun o a => (h2.1 o a).trans (h.1 o a), fun s a => (h2.2 s a).trans (h.2 s a)⟩
theorem OM.trans {C C1 C2 : zM} (h : OM C C1) (h2 : OM C1 C2) : OM C C2 := ⟨fun o a => (h2.1 o a).trans (h.1 o a), fun s a => (h2.2 s a).trans (h.2 s a)⟩
theorem OM.up {M : zM} {s : Nat} {x : Int32} (hs : 24 ≤ s ∧ s ≤ 27) : OM M (zup M 0 s x) := ⟨fun o a => zup_oth a, fun j a => zup_ne (Or.inr (by omega))⟩
theorem OC.up {C : zM} {s : Nat} {x : Int32} (hs : 2 ≤ s ∧ s ≤ 5) : OC C (zup C 98 s x) := ⟨fun o a => zup_oth a, fun j a => zup_ne (Or.inr (by omega))⟩
section NX7
variable {g : zG} {t : Nat → Int32} {n : Nat}
theorem c7_skip {C : zM} {p : Nat} (h1 : C 98 1 = iv n) (hn : n ≤ 400) (ht : ∀ i, i < n → C 99 i = t i) (hp : p ≤ n) (hk : p < n → kd (t p) ≠ 4) {d : Nat} {Q : zM → Prop} (h : zW shC g (d + 1) mX5_next (zv Q) 32 [(0, .ref 98), (1, .int (iv p))] [] C) : ∀ m i : Nat, i + m = p → (∀ j, i ≤ j → j < p → kd (t j) = 4) → zW shC g (d + 1) mX5_next (zv Q) 5 [(0, .ref 98), (1, .int (iv i))] [] C := by
  intro m
  induction m with
  | zero =>
    intro i hi hj
    obtain rfl : i = p := by omega
    refine vX5_next_5 ⟨fun _ => h, fun c => ⟨i, rfl, ?_, c7_kindOf ⟨fun _ => h, fun x => ?_⟩⟩⟩
    all_goals rw [h1, Int32.le_iff_toInt_le, iv_toInt (by omega) (by omega), iv_toInt (by omega) (by omega)] at c
    · omega
    · rw [ht i (by omega)] at x
      have hx := hk (by omega)
      have hl := kd_le (t i)
      have h4 : iv (kd (t i)) = iv (4 : Nat) := x
      rw [iv_inj (by omega) (by omega)] at h4
      omega
  | succ m ih =>
    intro i hi hj
    refine vX5_next_5 ⟨fun c => ?_, fun _ => ⟨i, rfl, by omega, c7_kindOf ⟨fun x => ?_, fun x => ?_⟩⟩⟩
    · rw [h1, Int32.le_iff_toInt_le, iv_toInt (by omega) (by omega), iv_toInt (by omega) (by omega)] at c
      omega
    · rw [ht i (by omega), hj i (by omega) (by omega)] at x
      exact absurd rfl x
    · rw [iv_s]
      exact ih (i + 1) (by omega) fun j a b => hj j (by omega) b
theorem c7_run {p e K : Nat} (hK : K = 1 ∨ K = 2) (hn : n ≤ 400) (he : e ≤ n) (hend : e < n → kd (t e) ≠ K) : ∀ (m a : Nat) (C : zM), a + m = e → p ≤ a → C 98 1 = iv n → (∀ i, i < n → C 99 i = t i) → C 98 4 = iv K → C 98 3 = iv a → (K = 2 → C 98 5 = nmV t p (a - p)) → (∀ j, a ≤ j → j < e → kd (t j) = K) →
    ∃ C' : zM, OC C C' ∧ C' 98 2 = C 98 2 ∧ C' 98 4 = iv K ∧ C' 98 3 = iv e ∧ (K = 2 → C' 98 5 = nmV t p (e - p)) ∧ ∀ (d : Nat) (Q : zM → Prop), zW shC g (d + 1) mX5_next (zv Q) 190 [(0, .ref 98)] [] C' → zW shC g (d + 1) mX5_next (zv Q) 103 [(0, .ref 98)] [] C := by
  have k3 : ¬ iv K = (3 : Int32) := by
    rcases hK with rfl | rfl <;> decide
  intro m
  induction m with
  | zero =>
    intro a C ha hp h1 ht h4 h3 h5 hj
    obtain rfl : a = e := by omega
    refine ⟨C, ⟨fun _ _ => rfl, fun _ _ => rfl⟩, rfl, h4, h3, h5, fun d Q h => vX5_next_103 ⟨fun c => h, fun _ => ⟨fun _ => h, fun c => ⟨a, h3, ?_, c7_kindOf ⟨fun _ => h, fun x => ?_⟩⟩⟩⟩⟩
    all_goals rw [h1, h3, Int32.le_iff_toInt_le, iv_toInt (by omega) (by omega), iv_toInt (by omega) (by omega)] at c
    · omega
    · have hx := hend (by omega)
      have hl := kd_le (t a)
      rw [ht a (by omega), h4, iv_inj (by omega) (by omega)] at x
      omega
  | succ m ih =>
    intro a C ha hp h1 ht h4 h3 h5 hj
    have ka := hj a (by omega) (by omega)
    have e1 : iv (a : Nat) + 1 = iv (a + 1 : Nat) := iv_s a
    by_cases k2 : K = 2
    · obtain ⟨C', o1, o2, o4, o3, o5, o6⟩ := ih (a + 1) (zup (zup C 98 5 (C 98 5 * 10 + C 99 a - 48)) 98 3 (iv (a + 1 : Nat))) (by omega) (by omega) (by rw [zup_ne (Or.inr (by omega)), zup_ne (Or.inr (by omega))]; exact h1) (fun i hi => by rw [zup_oth (by omega), zup_oth (by omega)]; exact ht i hi) (by rw [zup_ne (Or.inr (by omega)), zup_ne (Or.inr (by omega))]; exact h4) zup_same (fun _ => by
        rw [zup_ne (Or.inr (by omega)), zup_same, h5 k2, ht a (by omega), show a + 1 - p = (a - p) + 1 by omega, nmV, show p + (a - p) = a by omega]) fun j x y => hj j (by omega) y
      refine ⟨C', ((OC.up (by omega)).trans (OC.up (by omega))).trans o1, by rw [o2, zup_ne (Or.inr (by omega)), zup_ne (Or.inr (by omega))], o4, o3, o5, fun d Q h => vX5_next_103 ⟨fun c => absurd (h4 ▸ c) k3, fun _ => ⟨fun c => ?_, fun c => ⟨a, h3, by omega, c7_kindOf ⟨fun x => ?_, fun _ => ⟨fun x => ?_, fun _ => ⟨a, h3, by omega, fun v hv => ?_⟩⟩⟩⟩⟩⟩⟩
      · rw [h1, h3, Int32.le_iff_toInt_le, iv_toInt (by omega) (by omega), iv_toInt (by omega) (by omega)] at c
        omega
      · rw [ht a (by omega), ka, h4] at x
        exact absurd rfl x
      · rw [h4, k2] at x
        exact absurd rfl x
      · have ev : v = iv (a + 1 : Nat) := by rw [hv, zup_ne (Or.inr (by omega)), h3, e1]
        rw [ev]
        exact o6 d Q h
    · obtain ⟨C', o1, o2, o4, o3, o5, o6⟩ := ih (a + 1) (zup (zup C 98 5 0) 98 3 (iv (a + 1 : Nat))) (by omega) (by omega) (by rw [zup_ne (Or.inr (by omega)), zup_ne (Or.inr (by omega))]; exact h1) (fun i hi => by rw [zup_oth (by omega), zup_oth (by omega)]; exact ht i hi) (by rw [zup_ne (Or.inr (by omega)), zup_ne (Or.inr (by omega))]; exact h4) zup_same (fun x => absurd x k2) fun j x y => hj j (by omega) y
      refine ⟨C', ((OC.up (by omega)).trans (OC.up (by omega))).trans o1, by rw [o2, zup_ne (Or.inr (by omega)), zup_ne (Or.inr (by omega))], o4, o3, o5, fun d Q h => vX5_next_103 ⟨fun c => absurd (h4 ▸ c) k3, fun _ => ⟨fun c => ?_, fun c => ⟨a, h3, by omega, c7_kindOf ⟨fun x => ?_, fun _ => ⟨fun x => ?_, fun x => ?_⟩⟩⟩⟩⟩⟩
      · rw [h1, h3, Int32.le_iff_toInt_le, iv_toInt (by omega) (by omega), iv_toInt (by omega) (by omega)] at c
        omega
      · rw [ht a (by omega), ka, h4] at x
        exact absurd rfl x
      · rw [zup_ne (Or.inr (by omega)), h3, e1]
        exact o6 d Q h
      · obtain rfl : K = 1 := by omega
        rw [h4] at x
        exact absurd x (by decide)
end NX7
section NX9
variable {g : zG} {t : Nat → Int32} {n : Nat}
theorem c9_skip {p : Nat} (hn : n ≤ 400) (hp : p ≤ n) : ∀ (m i : Nat) (M : zM), i + m = p → M 0 23 = iv n → M 12 = t → M 0 24 = iv i → (∀ j, i ≤ j → j < p → kd (t j) = 4) → ∃ M' : zM, OM M M' ∧ M' 0 24 = iv p ∧ ∀ (d : Nat) (Q : zM → Prop), zW shM g (d + 1) mX9_next0 (zv Q) 0 [(0, .ref 0)] [] M' → zW shM g (d + 1) mX9_next0 (zv Q) 0 [(0, .ref 0)] [] M := by
  intro m
  induction m with
  | zero =>
    intro i M hi h23 h12 h24 hj
    obtain rfl : i = p := by omega
    exact ⟨M, ⟨fun _ _ => rfl, fun _ _ => rfl⟩, h24, fun d Q h => h⟩
  | succ m ih =>
    intro i M hi h23 h12 h24 hj
    obtain ⟨M', o1, o2, o3⟩ := ih (i + 1) (zup M 0 24 (iv (i + 1 : Nat))) (by omega) (by rw [zup_ne (Or.inr (by omega))]; exact h23) (by rw [zup_oth (by omega)]; exact h12) zup_same fun j a b => hj j (by omega) b
    refine ⟨M', (OM.up (by omega)).trans o1, o2, fun d Q h => ?_⟩
    have e1 : iv (i : Nat) + 1 = iv (i + 1 : Nat) := iv_s i
    have hw := o3 d Q h
    have hk := hj i (by omega) (by omega)
    have hb : (t i).toInt = 32 ∨ (t i).toInt = 10 := by
      unfold kd at hk
      split at hk
      · omega
      · split at hk
        · omega
        · split at hk
          · assumption
          · omega
    refine vX9_next0_0 ?_
    rw [h24]
    refine c9_see h23 h12 hn (by omega) ?_
    rw [if_pos (by omega)]
    refine ⟨fun _ => by rw [h24, e1]; exact hw, fun c => ?_⟩
    rw [h24]
    refine c9_see h23 h12 hn (by omega) ?_
    rw [if_pos (by omega)]
    refine ⟨fun c2 => ?_, fun _ => by rw [h24, e1]; exact hw⟩
    rw [eqI] at c c2
    simp only [Int32.reduceToInt] at c c2
    omega
theorem c9_letters {p e rd : Nat} (hn : n ≤ 400) (he : e ≤ n) (hend : e < n → kd (t e) ≠ 1) (hrd : rd < 4) : ∀ (m a : Nat) (M : zM), a + m = e → p ≤ a → M 0 23 = iv n → M 12 = t → M 0 16 = iv rd → M 0 26 = iv p → M 0 24 = iv a → (∀ j, a ≤ j → j < e → kd (t j) = 1) →
    ∃ M' : zM, OM M M' ∧ M' 0 26 = iv p ∧ M' 0 24 = iv e ∧ M' 0 25 = wdV t p e (wlst rd) ∧ ∀ (d : Nat) (Q : zM → Prop), Q M' → zW shM g (d + 7) mX9_next0 (zv Q) 76 [(0, .ref 0)] [] M := by
  intro m
  induction m with
  | zero =>
    intro a M ha hp h23 h12 h16 h26 h24 hj
    obtain rfl : a = e := by omega
    refine ⟨zup M 0 25 (wdV t p a (wlst rd)), OM.up (by omega), by rw [zup_ne (Or.inr (by omega))]; exact h26, by rw [zup_ne (Or.inr (by omega))]; exact h24, zup_same, fun d Q h => vX9_next0_76 ?_⟩
    rw [h24]
    refine c9_see h23 h12 hn (by omega) (c9_isLetter ⟨fun _ => c9_word h16 hrd h12 h24 h26 hp (by omega) h, fun x => ?_⟩)
    have x := of_decide_eq_true x
    split at x
    · exact absurd x (hend (by omega))
    · exact absurd x (by decide)
  | succ m ih =>
    intro a M ha hp h23 h12 h16 h26 h24 hj
    obtain ⟨M', o1, o2, o3, o4, o5⟩ := ih (a + 1) (zup M 0 24 (iv (a + 1 : Nat))) (by omega) (by omega) (by rw [zup_ne (Or.inr (by omega))]; exact h23) (by rw [zup_oth (by omega)]; exact h12) (by rw [zup_ne (Or.inr (by omega))]; exact h16) (by rw [zup_ne (Or.inr (by omega))]; exact h26) zup_same fun j x y => hj j (by omega) y
    refine ⟨M', (OM.up (by omega)).trans o1, o2, o3, o4, fun d Q h => vX9_next0_76 ?_⟩
    have e1 : iv (a : Nat) + 1 = iv (a + 1 : Nat) := iv_s a
    rw [h24]
    refine c9_see h23 h12 hn (by omega) (c9_isLetter ⟨fun x => ?_, fun _ => ?_⟩)
    · have x := of_decide_eq_false x
      rw [if_pos (by omega)] at x
      exact absurd (hj a (by omega) (by omega)) x
    · rw [h24, e1]
      exact o5 d Q h
theorem c9_digits {p e : Nat} (hn : n ≤ 400) (he : e ≤ n) (hend : e < n → kd (t e) ≠ 2) : ∀ (m a : Nat) (M : zM), a + m = e → p ≤ a → M 0 23 = iv n → M 12 = t → M 0 26 = iv p → M 0 24 = iv a → (a ≤ p + 4 → M 0 27 = nmV t p (a - p)) → (∀ j, a ≤ j → j < e → kd (t j) = 2) →
    ∃ M' : zM, OM M M' ∧ M' 0 26 = iv p ∧ M' 0 24 = iv e ∧ M' 0 25 = (if e ≤ p + 4 then 2 else 1) ∧ (e ≤ p + 4 → M' 0 27 = nmV t p (e - p)) ∧ ∀ (d : Nat) (Q : zM → Prop), Q M' → zW shM g (d + 7) mX9_next0 (zv Q) 126 [(0, .ref 0)] [] M := by
  intro m
  induction m with
  | zero =>
    intro a M ha hp h23 h12 h26 h24 h27 hj
    obtain rfl : a = e := by omega
    refine ⟨zup M 0 25 (if a ≤ p + 4 then 2 else 1), OM.up (by omega), by rw [zup_ne (Or.inr (by omega))]; exact h26, by rw [zup_ne (Or.inr (by omega))]; exact h24, zup_same, fun x => by rw [zup_ne (Or.inr (by omega))]; exact h27 x, fun d Q h => vX9_next0_126 ?_⟩
    rw [h24]
    refine c9_see h23 h12 hn (by omega) (c9_isDigit ⟨fun _ => ⟨fun c => ?_, fun c => ?_⟩, fun x => ?_⟩)
    · rw [h24, h26, iv_sub, Int32.le_iff_toInt_le, iv_toInt (by omega) (by omega)] at c
      simp only [Int32.reduceToInt] at c
      rw [if_neg (by omega)] at h
      exact h
    · rw [h24, h26, iv_sub, Int32.le_iff_toInt_le, iv_toInt (by omega) (by omega)] at c
      simp only [Int32.reduceToInt] at c
      rw [if_pos (by omega)] at h
      exact h
    · have x := of_decide_eq_true x
      split at x
      · exact absurd x (hend (by omega))
      · exact absurd x (by decide)
  | succ m ih =>
    intro a M ha hp h23 h12 h26 h24 h27 hj
    have e1 : iv (a : Nat) + 1 = iv (a + 1 : Nat) := iv_s a
    have e4 : iv (p : Nat) + 4 = iv (p + 4 : Nat) := iv_add p 4
    have ka := hj a (by omega) (by omega)
    by_cases c4 : p + 4 ≤ a
    · obtain ⟨M', o1, o2, o3, o4, o5, o6⟩ := ih (a + 1) (zup M 0 24 (iv (a + 1 : Nat))) (by omega) (by omega) (by rw [zup_ne (Or.inr (by omega))]; exact h23) (by rw [zup_oth (by omega)]; exact h12) (by rw [zup_ne (Or.inr (by omega))]; exact h26) zup_same (fun x => by omega) fun j x y => hj j (by omega) y
      refine ⟨M', (OM.up (by omega)).trans o1, o2, o3, o4, o5, fun d Q h => vX9_next0_126 ?_⟩
      rw [h24]
      refine c9_see h23 h12 hn (by omega) (c9_isDigit ⟨fun x => ?_, fun _ => ⟨fun _ => ?_, fun c => ?_⟩⟩)
      · have x := of_decide_eq_false x
        rw [if_pos (by omega)] at x
        exact absurd ka x
      · rw [h24, e1]
        exact o6 d Q h
      · rw [h24, h26, e4, Int32.le_iff_toInt_le, iv_toInt (by omega) (by omega), iv_toInt (by omega) (by omega)] at c
        omega
    · obtain ⟨M', o1, o2, o3, o4, o5, o6⟩ := ih (a + 1) (zup (zup M 0 27 (10 * M 0 27 + t a - 48)) 0 24 (iv (a + 1 : Nat))) (by omega) (by omega) (by rw [zup_ne (Or.inr (by omega)), zup_ne (Or.inr (by omega))]; exact h23) (by rw [zup_oth (by omega), zup_oth (by omega)]; exact h12) (by rw [zup_ne (Or.inr (by omega)), zup_ne (Or.inr (by omega))]; exact h26) zup_same (fun x => by
        rw [zup_ne (Or.inr (by omega)), zup_same, h27 (by omega), show a + 1 - p = (a - p) + 1 by omega, nmV, show p + (a - p) = a by omega, Int32.mul_comm]) fun j x y => hj j (by omega) y
      refine ⟨M', ((OM.up (by omega)).trans (OM.up (by omega))).trans o1, o2, o3, o4, o5, fun d Q h => vX9_next0_126 ?_⟩
      rw [h24]
      refine c9_see h23 h12 hn (by omega) (c9_isDigit ⟨fun x => ?_, fun _ => ⟨fun c => ?_, fun _ => ?_⟩⟩)
      · have x := of_decide_eq_false x
        rw [if_pos (by omega)] at x
        exact absurd ka x
      · rw [h24, h26, e4, Int32.le_iff_toInt_le, iv_toInt (by omega) (by omega), iv_toInt (by omega) (by omega)] at c
        omega
      · rw [h24]
        refine c9_see h23 h12 hn (by omega) fun v hv => ?_
        rw [if_pos (by omega)] at hv ⊢
        have ev : v = iv (a + 1 : Nat) := by rw [hv, zup_ne (Or.inr (by omega)), h24, e1]
        rw [ev]
        exact o6 d Q h
end NX9
