/-! THE NEXT TOKEN of both, put together; what the parsers ask of it -/
section TO
variable {g : zG} {t : Nat → Int32} {n : Nat}
theorem c7_nextK {C : zM} {p K d : Nat} {Q : zM → Prop} (h1 : C 98 1 = iv n) (hn : n ≤ 400) (ht : ∀ i, i < n → C 99 i = t i) (hp : p < n) (hk : kd (t p) = K) (hK : K = 1 ∨ K = 2) (h : zW shC g (d + 1) mX5_next (zv Q) 103 [(0, .ref 98)] [] (zup (zup (zup (zup C 98 2 (iv p)) 98 4 (iv K)) 98 5 0) 98 3 (iv p))) : zW shC g (d + 1) mX5_next (zv Q) 32 [(0, .ref 98), (1, .int (iv p))] [] C := by
  have k3 : ¬ iv K = (3 : Int32) := by
    rcases hK with rfl | rfl <;> decide
  refine vX5_next_32 ⟨fun x => ?_, fun _ => ⟨p, rfl, by omega, c7_kindOf ?_⟩⟩
  · rw [zup_ne (Or.inr (by omega)), h1, Int32.le_iff_toInt_le, iv_toInt (by omega) (by omega), iv_toInt (by omega) (by omega)] at x
    omega
  · rw [zup_oth (by omega), ht p hp, hk]
    refine vX5_next_59 ⟨fun _ => ?_, fun x => absurd x (by rw [zup_same]; exact k3)⟩
    exact vX5_next_81 ⟨fun _ => h, fun x => absurd x (by rw [zup_ne (Or.inr (by omega)), zup_same]; exact k3)⟩
theorem c7_next3 {C : zM} {p d : Nat} {Q : zM → Prop} (h1 : C 98 1 = iv n) (hn : n ≤ 400) (ht : ∀ i, i < n → C 99 i = t i) (hp : p < n) (hk : kd (t p) = 3) (h : Q (zup (zup (zup (zup C 98 2 (iv p)) 98 4 3) 98 5 (t p)) 98 3 (iv (p + 1 : Nat)))) : zW shC g (d + 1) mX5_next (zv Q) 32 [(0, .ref 98), (1, .int (iv p))] [] C := by
  have e1 : iv (p : Nat) + 1 = iv (p + 1 : Nat) := iv_s p
  refine vX5_next_32 ⟨fun x => ?_, fun _ => ⟨p, rfl, by omega, c7_kindOf ?_⟩⟩
  · rw [zup_ne (Or.inr (by omega)), h1, Int32.le_iff_toInt_le, iv_toInt (by omega) (by omega), iv_toInt (by omega) (by omega)] at x
    omega
  · rw [zup_oth (by omega), ht p hp, hk]
    refine vX5_next_59 ⟨fun x => absurd (by rw [zup_same]; rfl) x, fun _ => ⟨p, rfl, by omega, ?_⟩⟩
    rw [zup_oth (by omega), zup_oth (by omega), ht p hp]
    refine vX5_next_81 ⟨fun x => absurd (by rw [zup_ne (Or.inr (by omega)), zup_same]; rfl) x, fun _ => ?_⟩
    rw [e1]
    exact vX5_next_103 ⟨fun _ => vX5_next_190 ⟨fun _ => h, fun x => absurd x (by rw [zup_ne (Or.inr (by omega)), zup_ne (Or.inr (by omega)), zup_same]; decide)⟩, fun x => absurd (by rw [zup_ne (Or.inr (by omega)), zup_ne (Or.inr (by omega)), zup_same]; rfl) x⟩
theorem c7_next0 {C : zM} {p d : Nat} {Q : zM → Prop} (h1 : C 98 1 = iv n) (hn : n ≤ 400) (hp : p = n) (h : Q (zup (zup (zup (zup C 98 2 (iv p)) 98 4 0) 98 5 0) 98 3 (iv p))) : zW shC g (d + 1) mX5_next (zv Q) 32 [(0, .ref 98), (1, .int (iv p))] [] C := by
  refine vX5_next_32 ⟨fun _ => ?_, fun x => absurd ?_ x⟩
  · refine vX5_next_59 ⟨fun _ => ?_, fun x => absurd x (by rw [zup_same]; decide)⟩
    refine vX5_next_81 ⟨fun _ => ?_, fun x => absurd x (by rw [zup_ne (Or.inr (by omega)), zup_same]; decide)⟩
    refine vX5_next_103 ⟨fun x => absurd x (by rw [zup_ne (Or.inr (by omega)), zup_ne (Or.inr (by omega)), zup_same]; decide), fun _ => ⟨fun _ => ?_, fun x => absurd ?_ x⟩⟩
    · exact vX5_next_190 ⟨fun _ => h, fun x => absurd x (by rw [zup_ne (Or.inr (by omega)), zup_ne (Or.inr (by omega)), zup_same]; decide)⟩
    · rw [zup_same, zup_ne (Or.inr (by omega)), zup_ne (Or.inr (by omega)), zup_ne (Or.inr (by omega)), zup_ne (Or.inr (by omega)), h1, hp]
      exact Int32.le_refl _
  · rw [zup_ne (Or.inr (by omega)), h1, hp]
    exact Int32.le_refl _
theorem kd_blank {c : Int32} (h : kd c ≠ 4) : ¬ c = 32 ∧ ¬ c = 10 := by
  refine ⟨fun e => ?_, fun e => ?_⟩ <;> rw [e] at h <;> exact h (by decide)
theorem c9_tok {M : zM} {p d : Nat} {Q : zM → Prop} (hn : n ≤ 400) (hp : p ≤ n) (h23 : M 0 23 = iv n) (h12 : M 12 = t) (h24 : M 0 24 = iv p) (hr : ∀ i, i < n → rng (t i) 0 255) (hk : p < n → kd (t p) ≠ 4)
    (hE : p = n → Q (zup (zup M 0 26 (iv p)) 0 25 0)) (h1 : p < n → kd (t p) = 1 → zW shM g (d + 2) mX9_next0 (zv Q) 76 [(0, .ref 0)] [] (zup M 0 26 (iv p))) (h2 : p < n → kd (t p) = 2 → zW shM g (d + 2) mX9_next0 (zv Q) 126 [(0, .ref 0)] [] (zup (zup M 0 26 (iv p)) 0 27 0)) (h3 : p < n → kd (t p) = 3 → Q (zup (zup (zup M 0 26 (iv p)) 0 24 (iv (p + 1 : Nat))) 0 25 (sgV (t p)))) : zW shM g (d + 2) mX9_next0 (zv Q) 0 [(0, .ref 0)] [] M := by
  have e1 : iv (p : Nat) + 1 = iv (p + 1 : Nat) := iv_s p
  have hb : ¬ (if p < n then t p else -1) = 32 ∧ ¬ (if p < n then t p else -1) = 10 := by
    split
    · exact kd_blank (hk (by assumption))
    · exact ⟨by decide, by decide⟩
  have g23 : zup M 0 26 (iv p) 0 23 = iv n := by rw [zup_ne (Or.inr (by omega))]; exact h23
  have g12 : zup M 0 26 (iv p) 12 = t := by rw [zup_oth (by omega)]; exact h12
  have g24 : zup M 0 26 (iv p) 0 24 = iv p := by rw [zup_ne (Or.inr (by omega))]; exact h24
  refine vX9_next0_0 ?_
  rw [h24]
  refine c9_see h23 h12 hn (by omega) ⟨fun x => absurd x hb.1, fun _ => ?_⟩
  rw [h24]
  refine c9_see h23 h12 hn (by omega) ⟨fun _ => ?_, fun x => absurd x hb.2⟩
  rw [h24, g24]
  refine c9_see g23 g12 hn (by omega) ?_
  by_cases c : p < n
  · rw [if_pos c]
    have hrp := hr p c
    unfold rng at hrp
    refine ⟨fun _ => c9_isLetter ⟨fun b1 => c9_isDigit ⟨fun b2 => ?_, fun b2 => h2 c (of_decide_eq_true b2)⟩, fun b1 => h1 c (of_decide_eq_true b1)⟩, fun x => ?_⟩
    · have k3 : kd (t p) = 3 := by
        have := kd_le (t p)
        have := hk c
        have := of_decide_eq_false b1
        have := of_decide_eq_false b2
        omega
      have h3 := h3 c k3
      have w1 : sgV (t p) = 100 + t p → zW shM g (d + 2) mX9_next0 (zv Q) 284 [(0, .ref 0), (1, .int (t p))] [] (zup (zup M 0 26 (iv p)) 0 24 (iv (p + 1 : Nat))) := fun e => vX9_next0_284 (vX9_next0_289 ⟨fun x => absurd x (by decide), fun _ => by rw [e] at h3; exact h3⟩)
      rw [g24, e1]
      refine ⟨fun x => w1 (if_pos (by simp only [x, true_or, or_true])), fun x1 => ⟨fun x => w1 (if_pos (by simp only [x, true_or, or_true])), fun x2 => ⟨fun x => w1 (if_pos (by simp only [x, true_or, or_true])), fun x3 => ⟨fun x => w1 (if_pos (by simp only [x, true_or, or_true])), fun x4 => ⟨fun x => w1 (if_pos (by simp only [x, true_or, or_true])), fun x5 => ⟨fun x => w1 (if_pos (by simp only [x, true_or, or_true])), fun x6 => ⟨fun x => w1 (if_pos (by simp only [x, true_or, or_true])), fun x7 => ⟨fun x => w1 (if_pos (by simp only [x, true_or, or_true])), fun x8 => ⟨fun x => w1 (if_pos (by simp only [x, true_or, or_true])), fun x9 => ⟨fun x10 => ?_, fun x => w1 (if_pos (by simp only [x, true_or, or_true]))⟩⟩⟩⟩⟩⟩⟩⟩⟩⟩
      have e0 : sgV (t p) = 1 := if_neg (by simp only [x1, x2, x3, x4, x5, x6, x7, x8, x9, x10, or_false, not_false_eq_true])
      rw [e0] at h3
      exact vX9_next0_289 ⟨fun _ => h3, fun x => absurd rfl x⟩
    · rw [x] at hrp
      exact absurd hrp.1 (by decide)
  · rw [if_neg c]
    exact ⟨fun x => absurd rfl x, fun _ => hE (by omega)⟩
end TO
section TN
variable {g g' : zG} {t : Nat → Int32} {n rd e : Nat} {C M : zM}
theorem s_next (h : SCn t n rd e C M) : ∃ (p' e' : Nat) (C' M' : zM), TK t n rd p' e' C' M' ∧ e ≤ p' ∧ OC C C' ∧ OM M M' ∧ (∀ (d : Nat) (Q : zM → Prop), Q C' → zCv shC g (d + 1) mX5_next [.ref 98] C Q) ∧ ∀ (d : Nat) (Q : zM → Prop), Q M' → zCv shM g' (d + 7) mX9_next0 [.ref 0] M Q := by
  obtain ⟨c1, m23, hn, ht, m12, hr, m16, hrd, c3, m24, he⟩ := h
  obtain ⟨p, hp1, hp2, hp3, hp4⟩ := ex_run (fun j => kd (t j) = 4) (fun i => by omega) n (n - e) e (by omega)
  obtain ⟨M1, om1, n24, mW⟩ := c9_skip (g := g') hn hp2 (p - e) e M (by omega) m23 m12 m24 hp3
  have n23 : M1 0 23 = iv n := (om1.2 23 (by omega)).trans m23
  have n12 : M1 12 = t := (om1.1 12 (by omega)).trans m12
  have n16 : M1 0 16 = iv rd := (om1.2 16 (by omega)).trans m16
  have skC : ∀ (d : Nat) (Q : zM → Prop), zW shC g (d + 1) mX5_next (zv Q) 32 [(0, .ref 98), (1, .int (iv p))] [] C → zCv shC g (d + 1) mX5_next [.ref 98] C Q := fun d Q w => by
    refine vX5_next ?_
    rw [c3]
    exact c7_skip c1 hn ht hp2 hp4 w (p - e) e (by omega) hp3
  have skM : ∀ (d : Nat) (Q : zM → Prop), zW shM g' (d + 7) mX9_next0 (zv Q) 0 [(0, .ref 0)] [] M1 → zCv shM g' (d + 7) mX9_next0 [.ref 0] M Q := fun d Q w => by
    refine zW.enter (by decide +kernel) (Nat.le_of_ble_eq_true rfl) ?_
    change zW shM g' (d + 7) mX9_next0 (zv Q) 0 [(0, .ref 0)] [] M
    exact mW (d + 6) Q w
  have oc4 : ∀ x y z u : Int32, OC C (zup (zup (zup (zup C 98 2 x) 98 4 y) 98 5 z) 98 3 u) := fun x y z u => (((OC.up (by omega)).trans (OC.up (by omega))).trans (OC.up (by omega))).trans (OC.up (by omega))
  have om2 : ∀ x y : Int32, OM M (zup (zup M1 0 26 x) 0 25 y) := fun x y => (om1.trans (OM.up (by omega))).trans (OM.up (by omega))
  have sc : ∀ (C' M' : zM) (e' : Nat), OC C C' → OM M M' → C' 98 3 = iv e' → M' 0 24 = iv e' → e' ≤ n → SCn t n rd e' C' M' := fun C' M' e' a b a3 b4 hl => ⟨(a.2 1 (by omega)).trans c1, (b.2 23 (by omega)).trans m23, hn, fun i hi => by rw [a.1 99 (by omega)]; exact ht i hi, (b.1 12 (by omega)).trans m12, hr, (b.2 16 (by omega)).trans m16, hrd, a3, b4, hl⟩
  by_cases c : p = n
  · refine ⟨p, p, _, _, ⟨sc _ _ p (oc4 (iv p) 0 0 (iv p)) (om2 (iv p) 0) zup_same ?_ hp2, ?_, ?_, Nat.le_refl _, Or.inl ⟨c, ?_, zup_same⟩⟩, hp1, oc4 (iv p) 0 0 (iv p), om2 (iv p) 0, fun d Q q => skC d Q (c7_next0 c1 hn c q), fun d Q q => skM d Q (c9_tok hn hp2 n23 n12 n24 hr hp4 (fun _ => q) (fun x => by omega) (fun x => by omega) fun x => by omega)⟩
    · rw [zup_ne (Or.inr (by omega)), zup_ne (Or.inr (by omega))]; exact n24
    · rw [zup_ne (Or.inr (by omega)), zup_ne (Or.inr (by omega)), zup_ne (Or.inr (by omega)), zup_same]
    · rw [zup_ne (Or.inr (by omega)), zup_same]
    · rw [zup_ne (Or.inr (by omega)), zup_ne (Or.inr (by omega)), zup_same]
  · have hp : p < n := by omega
    have hkl := kd_le (t p)
    have hk4 := hp4 hp
    by_cases k3 : kd (t p) = 3
    · refine ⟨p, p + 1, _, _, ⟨sc _ _ (p + 1) (oc4 (iv p) 3 (t p) (iv (p + 1 : Nat))) (((om1.trans (OM.up (s := 26) (x := iv p) (by omega))).trans (OM.up (s := 24) (x := iv (p + 1 : Nat)) (by omega))).trans (OM.up (s := 25) (x := sgV (t p)) (by omega))) zup_same ?_ hp, ?_, ?_, by omega, Or.inr (Or.inr (Or.inr (Or.inr ⟨by omega, ?_, ?_, zup_same⟩)))⟩, hp1, oc4 _ _ _ _, ((om1.trans (OM.up (by omega))).trans (OM.up (by omega))).trans (OM.up (by omega)), fun d Q q => skC d Q (c7_next3 c1 hn ht hp k3 q), fun d Q q => skM d Q (c9_tok hn hp2 n23 n12 n24 hr hp4 (fun x => absurd x c) (fun _ x => by omega) (fun _ x => by omega) fun _ _ => q)⟩
      · rw [zup_ne (Or.inr (by omega)), zup_same]
      · rw [zup_ne (Or.inr (by omega)), zup_ne (Or.inr (by omega)), zup_ne (Or.inr (by omega)), zup_same]
      · rw [zup_ne (Or.inr (by omega)), zup_ne (Or.inr (by omega)), zup_same]
      · rw [zup_ne (Or.inr (by omega)), zup_ne (Or.inr (by omega)), zup_same]
      · rw [zup_ne (Or.inr (by omega)), zup_same]
    · obtain ⟨e', f1, f2, f3, f4⟩ := ex_run (fun j => kd (t j) = kd (t p)) (fun i => by omega) n (n - p) p (by omega)
      have fp : p < e' := by
        by_cases x : e' = p
        · exact absurd (by rw [x]) (f4 (by omega))
        · omega
      have hK : kd (t p) = 1 ∨ kd (t p) = 2 := by omega
      obtain ⟨C', q1, q2, q3, q4, q5, q6⟩ := c7_run (g := g) (p := p) hK hn f2 f4 (e' - p) p (zup (zup (zup (zup C 98 2 (iv p)) 98 4 (iv (kd (t p)))) 98 5 0) 98 3 (iv p)) (by omega) (by omega) ((oc4 _ _ _ _).2 1 (by omega) |>.trans c1) (fun i hi => by rw [(oc4 _ _ _ _).1 99 (by omega)]; exact ht i hi) (by rw [zup_ne (Or.inr (by omega)), zup_ne (Or.inr (by omega)), zup_same]) zup_same (fun _ => by rw [zup_ne (Or.inr (by omega)), zup_same, Nat.sub_self, nmV]) f3
      have q2' : C' 98 2 = iv p := by rw [q2, zup_ne (Or.inr (by omega)), zup_ne (Or.inr (by omega)), zup_ne (Or.inr (by omega)), zup_same]
      have oc := (oc4 (iv p) (iv (kd (t p))) 0 (iv p)).trans q1
      rcases hK with k | k
      · rw [k] at f3 f4 q3 q6
        obtain ⟨M', r1, r2, r3, r4, r5⟩ := c9_letters (g := g') (p := p) hn f2 f4 hrd (e' - p) p (zup M1 0 26 (iv p)) (by omega) (by omega) (by rw [zup_ne (Or.inr (by omega))]; exact n23) (by rw [zup_oth (by omega)]; exact n12) (by rw [zup_ne (Or.inr (by omega))]; exact n16) zup_same (by rw [zup_ne (Or.inr (by omega))]; exact n24) f3
        have om := (om1.trans (OM.up (s := 26) (x := iv p) (by omega))).trans r1
        refine ⟨p, e', C', M', ⟨sc _ _ e' oc om q4 r3 f2, q2', r2, by omega, Or.inr (Or.inl ⟨fp, q3, r4⟩)⟩, hp1, oc, om, fun d Q q => skC d Q (c7_nextK c1 hn ht hp k (Or.inl rfl) ?_), fun d Q q => skM d Q (c9_tok (d := d + 5) hn hp2 n23 n12 n24 hr hp4 (fun x => absurd x c) (fun _ _ => r5 d Q q) (fun _ x => by omega) fun _ x => by omega)⟩
        exact q6 d Q (vX5_next_190 ⟨fun _ => q, fun x => absurd x (by rw [q3]; decide)⟩)
      · rw [k] at f3 f4 q3 q6
        obtain ⟨M', r1, r2, r3, r4, r5, r6⟩ := c9_digits (g := g') (p := p) hn f2 f4 (e' - p) p (zup (zup M1 0 26 (iv p)) 0 27 0) (by omega) (by omega) (by rw [zup_ne (Or.inr (by omega)), zup_ne (Or.inr (by omega))]; exact n23) (by rw [zup_oth (by omega), zup_oth (by omega)]; exact n12) (by rw [zup_ne (Or.inr (by omega)), zup_same]) (by rw [zup_ne (Or.inr (by omega)), zup_ne (Or.inr (by omega))]; exact n24) (fun _ => by rw [zup_same, Nat.sub_self, nmV]) f3
        have om := ((om1.trans (OM.up (s := 26) (x := iv p) (by omega))).trans (OM.up (s := 27) (x := 0) (by omega))).trans r1
        have q5 := q5 k
        by_cases f : e' ≤ p + 4
        · rw [if_pos f] at r4
          have hv := nmV_rng (t := t) (p := p) (e' - p) (by omega) fun j a b => f3 j a (by omega)
          have hv4 : (10 : Int) ^ (e' - p) ≤ 10 ^ 4 := by
            obtain x | x | x | x : e' - p = 1 ∨ e' - p = 2 ∨ e' - p = 3 ∨ e' - p = 4 := by omega
            all_goals
              rw [x]
              decide
          refine ⟨p, e', C', M', ⟨sc _ _ e' oc om q4 r3 f2, q2', r2, by omega, Or.inr (Or.inr (Or.inl ⟨fp, q3, r4, (r5 f).trans q5.symm, ?_⟩))⟩, hp1, oc, om, fun d Q q => skC d Q (c7_nextK c1 hn ht hp k (Or.inr rfl) ?_), fun d Q q => skM d Q (c9_tok (d := d + 5) hn hp2 n23 n12 n24 hr hp4 (fun x => absurd x c) (fun _ x => by omega) (fun _ _ => r6 d Q q) fun _ x => by omega)⟩
          · rw [q5]
            unfold rng
            omega
          · refine q6 d Q (vX5_next_190 ⟨fun _ => q, fun _ => ⟨fun _ => q, fun x => absurd ?_ x⟩⟩)
            rw [q4, q2', iv_sub, Int32.le_iff_toInt_le, iv_toInt (by omega) (by omega)]
            simp only [Int32.reduceToInt]
            omega
        · rw [if_neg f] at r4
          refine ⟨p, e', zup C' 98 4 5, M', ⟨sc _ _ e' (oc.trans (OC.up (by omega))) om (by rw [zup_ne (Or.inr (by omega))]; exact q4) r3 f2, by rw [zup_ne (Or.inr (by omega))]; exact q2', r2, by omega, Or.inr (Or.inr (Or.inr (Or.inl ⟨fp, zup_same, r4⟩)))⟩, hp1, oc.trans (OC.up (by omega)), om, fun d Q q => skC d Q (c7_nextK c1 hn ht hp k (Or.inr rfl) ?_), fun d Q q => skM d Q (c9_tok (d := d + 5) hn hp2 n23 n12 n24 hr hp4 (fun x => absurd x c) (fun _ x => by omega) (fun _ _ => r6 d Q q) fun _ x => by omega)⟩
          refine q6 d Q (vX5_next_190 ⟨fun x => absurd q3 x, fun _ => ⟨fun x => ?_, fun _ => q⟩⟩)
          rw [q4, q2', iv_sub, Int32.le_iff_toInt_le, iv_toInt (by omega) (by omega)] at x
          simp only [Int32.reduceToInt] at x
          omega
end TN
