/-! cut and thaw of the class -/
theorem zMo_at {m : Nat} (h : zMo shC m) : m = 3 ∨ m = 30 ∨ m = 55 ∨ m = 62 ∨ m = 68 ∨ m = 74 ∨ m = 80 ∨ m = 86 ∨ m = 92 := by
  have h1 := (List.getElem?_eq_some_iff.mp h.1).1
  rw [shC_len] at h1
  have h2 : (List.range 129).all (fun m => !(shC[m]? == some (3, 2, [some (m + 1), some (m + 2), some (m + 3), some (m + 4), some (m + 5), none, none, none])) || (m == 3 || m == 30 || m == 55 || m == 62 || m == 68 || m == 74 || m == 80 || m == 86 || m == 92)) = true := by decide +kernel
  have h3 := List.all_eq_true.mp h2 m (List.mem_range.mpr h1)
  simp only [h.1, beq_self_eq_true, Bool.not_true, Bool.false_or, Bool.or_eq_true, beq_iff_eq] at h3
  omega
theorem RS.keep {C C' : zM} {w : Nat → Int32} (h : RS C 1 w) (hk : ∀ o, o ≤ 25 → o ≠ 21 → ¬ (3 ≤ o ∧ o ≤ 9) → C' o = C o) : RS C' 1 w := by
  obtain ⟨h0, h1, h2, h3, h4, h5, ⟨a1, a2, a3, a4⟩, ⟨b1, b2, b3⟩, c1, c2, c3, c4⟩ := h
  refine ⟨?_, ?_, ?_, ?_, ?_, ?_, ⟨?_, ?_, ?_, ?_⟩, ⟨?_, ?_, ?_⟩, ?_, ?_, ?_, ?_⟩
  · rw [hk 1 (by omega) (by omega) (by omega)]; exact h0
  · rw [hk 1 (by omega) (by omega) (by omega)]; exact h1
  · rw [hk 1 (by omega) (by omega) (by omega)]; exact h2
  · rw [hk 1 (by omega) (by omega) (by omega)]; exact h3
  · rw [hk 1 (by omega) (by omega) (by omega)]; exact h4
  · rw [hk (1 + 1) (by omega) (by omega) (by omega)]; exact h5
  · rw [hk (1 + 9) (by omega) (by omega) (by omega)]; exact a1
  · rw [hk (1 + 11) (by omega) (by omega) (by omega)]; exact a2
  · rw [hk (1 + 10) (by omega) (by omega) (by omega)]; exact a3
  · rw [hk (1 + 12) (by omega) (by omega) (by omega)]; exact a4
  · rw [hk (1 + 14) (by omega) (by omega) (by omega)]; exact b1
  · rw [hk (1 + 14) (by omega) (by omega) (by omega)]; exact b2
  · rw [hk (1 + 16) (by omega) (by omega) (by omega), hk (1 + 17) (by omega) (by omega) (by omega), hk (1 + 18) (by omega) (by omega) (by omega), hk (1 + 19) (by omega) (by omega) (by omega), hk (1 + 15) (by omega) (by omega) (by omega)]; exact b3
  · rw [hk (1 + 21) (by omega) (by omega) (by omega)]; exact c1
  · rw [hk (1 + 21) (by omega) (by omega) (by omega)]; exact c2
  · rw [hk (1 + 22) (by omega) (by omega) (by omega)]; exact c3
  · rw [hk (1 + 23) (by omega) (by omega) (by omega), hk (1 + 24) (by omega) (by omega) (by omega)]; exact c4
theorem RMo.keep {C C' : zM} {m : Nat} {w : Nat → Int32} (h : RMo C m w) (hk : ∀ o, m ≤ o → o ≤ m + 5 → C' o = C o) : RMo C' m w := by
  obtain ⟨h1, h2, h3, h4, h5, h6⟩ := h
  refine ⟨?_, ?_, ?_, ?_, ?_, ?_⟩
  · rw [hk (m + 1) (by omega) (by omega)]; exact h1
  · rw [hk (m + 2) (by omega) (by omega)]; exact h2
  · rw [hk (m + 3) (by omega) (by omega), hk (m + 4) (by omega) (by omega), hk (m + 5) (by omega) (by omega)]; exact h3
  · rw [hk m (by omega) (by omega)]; exact h4
  · rw [hk m (by omega) (by omega)]; exact h5
  · rw [hk m (by omega) (by omega)]; exact h6
section L7b
variable {g : zG} {d : Nat} {C : zM} {w : Nat → Int32} {m : Nat}
theorem c7_fillFacts {Q : zM → Prop} {k : Nat} (hm : zMo shC m) (hi : IS w) (hs : RS C 1 w) (hr : RMo C m w) (hk : k < 64) (h : ∀ C' : zM, (∀ o, o ≠ 26 → C' o = C o) → (∀ i, i < 6 → C' 26 i = factsV w k 0 0 i) → Q C') : zCv shC g (d + 2) mX7_fillFacts [.ref 1, .ref m, .int (iv k)] C Q := by
  have hmm := zMo_at hm
  obtain ⟨⟨w1, w2, w3, w4⟩, -⟩ := id hi
  have e1 : iv k / 8 = iv (k / 8 : Nat) := by
    rw [eqI, ti_div] <;> simp (disch := omega) only [iv_toInt, Int32.reduceToInt] <;> omega
  have e2 : iv k - iv (k / 8 : Nat) * 8 = iv (k % 8 : Nat) := by
    rw [show (8 : Int32) = iv 8 from rfl, iv_mul, iv_sub]
    congr 1
    omega
  have last : ∀ e : Int32, e = edgeV w k → zW shC g (d + 2) mX7_fillFacts (zv Q) 75 [(0, .ref 1), (1, .ref m), (2, .int (iv k))] [.int e, .int 1, .ref 26] (zup C 26 0 (C (m + 1) k)) := by
    intro e he
    have ho : ∀ o, o ≠ 26 → (zup (zup (zup (zup (zup C 26 0 (C (m + 1) k)) 26 1 e) 26 2 ((zup (zup C 26 0 (C (m + 1) k)) 26 1 e) m 5)) 26 3 0) 26 4 0) o = C o := fun o ho => by simp only [zup_oth ho]
    refine vX7_fillFacts_75 hm (c7_seenAround hm hi (hs.keep fun o a b c => ho o (by omega)) (hr.keep fun o a b => ho o (by omega)) hk ?_)
    refine h _ (fun o h26 => by rw [zup_oth h26]; exact ho o h26) (fun i hi6 => ?_)
    have hd := hr.1 k hk
    have hmin : (zup (zup C 26 0 (C (m + 1) k)) 26 1 e) m 5 = w 0 := by
      rw [zup_oth (by omega), zup_oth (by omega)]
      exact hr.2.2.2.1
    have hi' : i = 0 ∨ i = 1 ∨ i = 2 ∨ i = 3 ∨ i = 4 ∨ i = 5 := by omega
    rw [hmin]
    rcases hi' with rfl | rfl | rfl | rfl | rfl | rfl <;> simp [zup, factsV, he, hd]
  have one : edgeV w k = 1 → zW shC g (d + 2) mX7_fillFacts (zv Q) 41 [(0, .ref 1), (1, .ref m), (2, .int (iv k))] [] C := fun e =>
    vX7_fillFacts_41 hm (vX7_fillFacts_46 hm ⟨k, rfl, hk, fun c => absurd c (by decide), fun _ => last 1 e.symm⟩)
  have zero : edgeV w k = 0 → zW shC g (d + 2) mX7_fillFacts (zv Q) 46 [(0, .ref 1), (1, .ref m), (2, .int (iv k))] [.int 0] C := fun e =>
    vX7_fillFacts_46 hm ⟨k, rfl, hk, fun _ => last 0 e.symm, fun c => absurd rfl c⟩
  refine vX7_fillFacts hm ?_
  rw [e1, e2, hs.1, hs.2.1]
  refine ⟨fun c => one ?_, fun c => ⟨fun c2 => one ?_, fun c2 => ⟨fun c3 => one ?_, fun c3 => ⟨fun c4 => zero ?_, fun c4 => one ?_⟩⟩⟩⟩
  all_goals
    clear one zero last
    simp (disch := ((try simp (disch := ((try simp (disch := ((try simp only [Int32.reduceToInt]); omega)) only [Int32.reduceToInt, ti_rem, ti_div, ti_mul, ti_add, ti_sub, iv_toInt]); omega)) only [Int32.reduceToInt, ti_rem, ti_div, ti_mul, ti_add, ti_sub, iv_toInt]); omega)) only [eqI, iv_toInt, ti_sub, Int32.reduceToInt] at *
    unfold edgeV
  · rw [if_pos (by omega)]
    rfl
  · rw [if_pos (by omega)]
    rfl
  · rw [if_pos (by omega)]
    rfl
  · rw [if_neg (by omega)]
    rfl
  · rw [if_pos (by omega)]
    rfl
theorem RLaw.line {C : zM} {w : Nat → Int32} (hl : RLaw C 1 w) {i : Nat} (hi : (i : Int) < (w 156).toInt) : C 17 i = (if w (1364 + i) = 20 then 0 else 1) ∧ C 18 i = w (1316 + i) ∧ C 19 i = w (1332 + i) ∧ C 20 i = w (1348 + i) ∧ ∀ j : Nat, (w (1316 + i)).toInt ≤ j → (j : Int) < (w (1348 + i)).toInt → RCode (C 16 j) (w (1380 + 2 * j)) (w (1381 + 2 * j)) := hl.2.2 i hi
/-- the class's number of a word -/
def wdC (word : Int32) : Int32 := if word = 20 then 0 else 1
theorem c1_answer {Q : Int32 → zM → Prop} {f : Nat → Int32} {word dflt : Int32} (hw : word = 20 ∨ word = 21) (hL : LawOK w) (hl : RLaw C 1 w) (hf : ∀ i, i < 6 → C 26 i = f i) (h : ∀ C' : zM, (∀ o, o ≠ 21 → C' o = C o) → Q (rawF w f word dflt (w 156).toInt.toNat 0) C') : zCi shC g (d + 2) mX1_answer [.ref 15, .int (wdC word), .ref 26, .int dflt] C Q := by
  have h0 := hL.1
  have h16 := hL.2.1
  refine vX1_answer ?_
  have loop : ∀ (n i : Nat) (C1 : zM), i + n = (w 156).toInt.toNat → (∀ o, o ≠ 21 → C1 o = C o) → (∀ C' : zM, (∀ o, o ≠ 21 → C' o = C o) → Q (rawF w f word dflt n i) C') → zW shC g (d + 2) mX1_answer (zi Q) 3 [(0, .ref 15), (1, .int (wdC word)), (2, .ref 26), (3, .int dflt), (4, .int (iv i))] [] C1 := by
    intro n
    induction n with
    | zero =>
      intro i C1 hi hC h
      have e6 : C1 15 6 = w 156 := by rw [hC 15 (by decide)]; exact hl.1
      refine vX1_answer_3 ⟨fun _ => h C1 hC, fun c => ?_⟩
      rw [e6, Int32.le_iff_toInt_le, iv_toInt (by omega) (by omega)] at c
      omega
    | succ n ih =>
      intro i C1 hi hC h
      have e6 : C1 15 6 = w 156 := by rw [hC 15 (by decide)]; exact hl.1
      have hi' : (i : Int) < (w 156).toInt := by omega
      obtain ⟨f0, m0, t0, h1, h2, h3, h4, h5, h6, h7, h8, h9, h10, h11⟩ := hL.line hi'
      obtain ⟨l1, l2, l3, l4, l5⟩ := hl.line hi'
      rw [h1, h3] at l5
      rw [iv_toInt (by omega) (by omega), iv_toInt (by omega) (by omega)] at l5
      rw [rawF_def] at h
      have n77 : condB w f i = true → w (1364 + i) = word → ∀ C2 : zM, (∀ o, o ≠ 21 → C2 o = C o) → zW shC g (d + 2) mX1_answer (zi Q) 77 [(0, .ref 15), (2, .ref 26), (4, .int (iv i))] [] C2 := by
        intro hc hwd C2 hC2
        rw [if_pos ⟨hwd, hc⟩] at h
        refine vX1_answer_77 ⟨i, rfl, by omega, ?_⟩
        rw [hC2 18 (by decide), hC2 19 (by decide), l2, l3, h1, h2]
        refine c1_value (w := w) (f := f) (b := false) (by omega) (by omega) h8 (fun j a b => by rw [hC2 16 (by decide)]; exact l5 j (by omega) (by omega)) (fun j hj => by rw [hC2 26 (by decide)]; exact hf j hj) h10 (fun C3 hC3 _ => ?_)
        have hq := h C3 (fun o ho => (hC3 o ho).trans (hC2 o ho))
        rw [h1, h2, iv_toInt (by omega) (by omega), iv_toInt (by omega) (by omega)] at hq
        simp only [Int.toNat_natCast] at hq
        exact hq
      refine vX1_answer_3 ⟨fun c => ?_, fun _ => ⟨i, rfl, by omega, ?_⟩⟩
      · rw [e6, Int32.le_iff_toInt_le, iv_toInt (by omega) (by omega)] at c
        omega
      rw [hC 17 (by decide), hC 19 (by decide), hC 20 (by decide), l1, l3, l4, iv_s]
      have hwd : (if w (1364 + i) = 20 then (0 : Int32) else 1) = wdC word ↔ w (1364 + i) = word := by
        unfold wdC
        rcases h7 with q | q <;> rcases hw with r | r <;> rw [q, r] <;> decide
      refine ⟨fun c => ?_, fun c => ?_⟩
      · have hword := hwd.mp c
        refine ⟨fun c2 => vX1_answer_48 ⟨fun c => absurd rfl c, fun _ => ⟨i, rfl, by omega, ?_⟩⟩, fun c2 => vX1_answer_48 ⟨fun _ => n77 ?_ hword C1 hC, fun c => absurd c (by decide)⟩⟩
        · have hmt : m0 < t0 := by
            rcases Nat.lt_or_ge m0 t0 with q | q
            · exact q
            · exfalso
              apply c2
              rw [h2, h3]
              congr 2
              omega
          rw [hC 19 (by decide), hC 20 (by decide), l3, l4, h2, h3, iv_s]
          refine c1_value (w := w) (f := f) (b := true) (by omega) h6 h9 (fun j a b => by rw [hC 16 (by decide)]; exact l5 j (by omega) (by omega)) (fun j hj => by rw [hC 26 (by decide)]; exact hf j hj) (h11 hmt) (fun C3 hC3 hb => ?_)
          have hC3' : ∀ o, o ≠ 21 → C3 o = C o := fun o ho => (hC3 o ho).trans (hC o ho)
          have hv : condB w f i = decide (evV w f m0 (t0 - m0) = 1) := by
            unfold condB
            rw [decide_eq_false (fun z => c2 z.symm), h2, h3, iv_toInt (by omega) (by omega), iv_toInt (by omega) (by omega)]
            rfl
          refine ⟨fun c3 => ?_, fun c3 => ?_⟩
          · have hf0 : condB w f i = false := by
              rw [hv, c3]
              decide
            rw [if_neg (fun z => by rw [hf0] at z; cases z.2)] at h
            exact ih (i + 1) C3 (by omega) hC3' h
          · have ht0 : condB w f i = true := by
              rw [hv]
              rcases hb rfl with q | q
              · exact absurd q c3
              · rw [q]
                decide
            exact n77 ht0 hword C3 hC3'
        · unfold condB
          rw [decide_eq_true c2.symm]
          rfl
      · rw [if_neg (fun z => c (hwd.mpr z.1))] at h
        exact ih (i + 1) C1 (by omega) hC h
  exact loop _ 0 C (by omega) (fun _ _ => rfl) h
theorem c7_held {Q : Int32 → zM → Prop} {x : Int32} (h : Q (heldV x) C) : zCi shC g (d + 1) mX7_held [.int x] C Q := by
  refine vX7_held ?_
  have e : imax 0 (imin 9 x) = heldV x := by
    unfold imax imin heldV
    simp only [Int32.lt_iff_toInt_lt]
    have t9 : (9 : Int32).toInt = 9 := rfl
    have t0 : (0 : Int32).toInt = 0 := rfl
    by_cases q1 : x.toInt < 9
    · simp only [t9, q1, if_true, t0]
      by_cases q2 : 0 < x.toInt
      · rw [if_pos q2, if_neg (by omega), if_neg (by omega)]
      · rw [if_neg q2, if_pos (by omega)]
    · simp only [t9, q1, if_false, t0]
      rw [if_pos (by omega), if_neg (by omega), if_pos (by omega)]
  rw [e]
  exact h
theorem c7_cutOf {Q : Int32 → zM → Prop} {s k : Nat} (hm : zMo shC m) (hi : IS w) (hs : RS C 1 w) (hr : RMo C m w) (hk : k < 64) (h6 : s < 6) (hsk : (s : Int) < (w 154).toInt) (h : ∀ C' : zM, (∀ o, o ≠ 21 → o ≠ 26 → C' o = C o) → Q (cutV w s k) C') : zCi shC g (d + 3) mX7_cutOf [.ref 1, .ref m, .int (iv s), .int (iv k)] C Q := by
  have hmm := zMo_at hm
  refine vX7_cutOf hm (c7_fillFacts hm hi hs hr hk fun C1 h1 hf => ⟨s, rfl, h6, k, rfl, hk, ?_⟩)
  have eh : C1 2 s = w (160 + s) := by
    rw [h1 2 (by decide)]
    exact hs.2.2.2.2.2.1 s h6 hsk
  have el : (zup C1 26 3 (C1 2 s)) (m + 2) k = w (85 + k) := by
    rw [zup_oth (by omega), h1 (m + 2) (by omega)]
    exact hr.2.1 k hk
  have hL : LawOK w := hi.2.2.2.2.2.2.2.2.2.2.2.2.2
  have main : ∀ b : Bool, othB w k (iv s) = b → zW shC g (d + 3) mX7_cutOf (zi Q) 41 [(0, .ref 1)] [.int (zbI b), .int 4, .ref 26] (zup C1 26 3 (C1 2 s)) := by
    intro b hb
    refine vX7_cutOf_41 hm ?_
    have hC : ∀ o, o ≠ 26 → (zup (zup C1 26 3 (C1 2 s)) 26 4 (zbI b)) o = C o := fun o ho => by rw [zup_oth ho, zup_oth ho]; exact h1 o ho
    refine c1_answer (word := 20) (w := w) (f := factsV w k (w (160 + s)) (zbI b)) (Or.inl rfl) hL (hs.keep fun o a b c => hC o (by omega)).2.2.2.2.2.2.2.1 (fun i hi => ?_) (fun C2 hC2 => c7_held ?_)
    · have hi' : i = 0 ∨ i = 1 ∨ i = 2 ∨ i = 3 ∨ i = 4 ∨ i = 5 := by omega
      have := hf i hi
      rcases hi' with rfl | rfl | rfl | rfl | rfl | rfl <;> simp [zup, factsV, eh] at this ⊢ <;> exact this
    · have hq := h C2 (fun o h21 h26 => (hC2 o h21).trans (hC o h26))
      rw [cutV, lawV, hb] at hq
      exact hq
  rw [el]
  refine vX7_isOther ⟨fun c => ⟨fun _ => main false ?_, fun c2 => (by cases c2)⟩, fun c => ⟨fun c2 => ⟨fun _ => main false ?_, fun c3 => (by cases c3)⟩, fun c2 => ⟨fun c3 => (by cases c3), fun _ => main true ?_⟩⟩⟩
  · unfold othB
    rw [decide_eq_false]
    exact fun z => z.1 c
  · unfold othB
    rw [decide_eq_false]
    exact fun z => z.2 c2
  · unfold othB
    rw [decide_eq_true]
    exact ⟨c, c2⟩
theorem c7_thawOf {Q : Int32 → zM → Prop} {k : Nat} (hm : zMo shC m) (hi : IS w) (hs : RS C 1 w) (hr : RMo C m w) (hk : k < 64) (h : ∀ C' : zM, (∀ o, o ≠ 21 → o ≠ 26 → C' o = C o) → Q (thawV w k) C') : zCi shC g (d + 3) mX7_thawOf [.ref 1, .ref m, .int (iv k)] C Q := by
  have hL : LawOK w := hi.2.2.2.2.2.2.2.2.2.2.2.2.2
  refine vX7_thawOf hm (c7_fillFacts hm hi hs hr hk fun C1 h1 hf => ?_)
  refine c1_answer (word := 21) (w := w) (f := factsV w k 0 0) (Or.inr rfl) hL (hs.keep fun o a b c => h1 o (by omega)).2.2.2.2.2.2.2.1 hf (fun C2 hC2 => c7_held ?_)
  exact h C2 (fun o h21 h26 => (hC2 o h21).trans (h1 o h26))
end L7b
