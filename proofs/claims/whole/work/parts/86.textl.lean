/-! text(1), both sides: the law of the ice -/
def rowTo (N : zM) (r : Nat → Int32) : zM := fun o => if o = 1 then r else N o
theorem rowTo_eq {N M' : zM} {r : Nat → Int32} (h : ∀ o, o ≠ 1 → M' o = N o) (h1 : M' 1 = r) : M' = rowTo N r := by
  funext o
  unfold rowTo
  split
  · rename_i e
    rw [e, h1]
  · rename_i e
    exact h o e
theorem rowTo_1 {N : zM} {r : Nat → Int32} : rowTo N r 1 = r := if_pos rfl
theorem rowTo_o {N : zM} {r : Nat → Int32} {o : Nat} (h : o ≠ 1) : rowTo N r o = N o := if_neg h
/-- the class's law put in its place -/
def lawC (C : zM) : zM := fun a j => if a = 16 ∧ j < 400 then C 106 j else if a = 17 ∧ j < 16 then C 107 j else if a = 18 ∧ j < 16 then C 108 j else if a = 19 ∧ j < 16 then C 109 j else if a = 20 ∧ j < 16 then C 110 j else if a = 15 ∧ (j = 1 ∨ j = 6 ∨ j = 7) then C 105 j else C a j
theorem lawC_o {C : zM} {o : Nat} (h : ¬ (15 ≤ o ∧ o ≤ 20)) : lawC C o = C o := by
  funext j
  unfold lawC
  rw [if_neg (by omega), if_neg (by omega), if_neg (by omega), if_neg (by omega), if_neg (by omega), if_neg (by omega)]
theorem lawC_at {C : zM} {j : Nat} : (j < 400 → lawC C 16 j = C 106 j) ∧ (j < 16 → lawC C 17 j = C 107 j ∧ lawC C 18 j = C 108 j ∧ lawC C 19 j = C 109 j ∧ lawC C 20 j = C 110 j) ∧ lawC C 15 6 = C 105 6 ∧ lawC C 15 7 = C 105 7 := by
  unfold lawC
  refine ⟨fun a => if_pos ⟨rfl, a⟩, fun a => ⟨?_, ?_, ?_, ?_⟩, ?_, ?_⟩
  · rw [if_neg (by omega), if_pos ⟨rfl, a⟩]
  · rw [if_neg (by omega), if_neg (by omega), if_pos ⟨rfl, a⟩]
  · rw [if_neg (by omega), if_neg (by omega), if_neg (by omega), if_pos ⟨rfl, a⟩]
  · rw [if_neg (by omega), if_neg (by omega), if_neg (by omega), if_neg (by omega), if_pos ⟨rfl, a⟩]
  · rw [if_neg (by omega), if_neg (by omega), if_neg (by omega), if_neg (by omega), if_neg (by omega), if_pos (by omega)]
  · rw [if_neg (by omega), if_neg (by omega), if_neg (by omega), if_neg (by omega), if_neg (by omega), if_pos (by omega)]
theorem lawC_is {C N1 : zM} (h : N1 = zup (zcpy (zcpy (zcpy (zcpy (zcpy C 106 16 400) 107 17 16) 108 18 16) 109 19 16) 110 20 16) 15 1 ((zcpy (zcpy (zcpy (zcpy (zcpy C 106 16 400) 107 17 16) 108 18 16) 109 19 16) 110 20 16) 105 1)) : zup (zup N1 15 6 (N1 105 6)) 15 7 ((zup N1 15 6 (N1 105 6)) 105 7) = lawC C := by
  have e : ∀ o j, N1 o j = if o = 15 ∧ j = 1 then C 105 1 else if o = 20 ∧ j < 16 then C 110 j else if o = 19 ∧ j < 16 then C 109 j else if o = 18 ∧ j < 16 then C 108 j else if o = 17 ∧ j < 16 then C 107 j else if o = 16 ∧ j < 400 then C 106 j else C o j := by
    intro o j
    rw [h]
    unfold zup zcpy
    split
    · simp
    · simp
  have e5 : ∀ j, N1 105 j = C 105 j := fun j => by
    rw [e]
    simp
  funext o j
  unfold zup lawC
  rw [e5]
  simp only [e, e5]
  by_cases h15 : o = 15
  · subst h15
    simp
    by_cases j7 : j = 7
    · simp [j7]
    · by_cases j6 : j = 6
      · simp [j6]
      · by_cases j1 : j = 1
        · simp [j1]
        · simp [j7, j6, j1]
  · simp only [h15, false_and, if_false]
    by_cases h16 : o = 16
    · subst h16; simp
    · by_cases h17 : o = 17
      · subst h17; simp
      · by_cases h18 : o = 18
        · subst h18; simp
        · by_cases h19 : o = 19
          · subst h19; simp
          · simp only [h16, h17, h18, h19, false_and, if_false]
theorem lawR_at {N : zM} {i k : Nat} (hi : i ≤ 16) : lawR N i k 156 = iv i ∧ (∀ l, l < i → lawR N i k (1316 + l) = N 5 (4 * l) ∧ lawR N i k (1332 + l) = N 5 (4 * l + 1) ∧ lawR N i k (1348 + l) = N 5 (4 * l + 2) ∧ lawR N i k (1364 + l) = N 5 (4 * l + 3)) ∧ (∀ j, j < k → lawR N i k (1380 + 2 * j) = N 6 (2 * j) ∧ lawR N i k (1381 + 2 * j) = N 6 (2 * j + 1)) ∧ ∀ j, j < 156 ∨ (157 ≤ j ∧ j < 1316) → lawR N i k j = N 1 j := by
  unfold lawR
  refine ⟨if_pos rfl, fun l hl => ⟨?_, ?_, ?_, ?_⟩, fun j hj => ⟨?_, ?_⟩, fun j hj => ?_⟩
  · rw [if_neg (by omega), if_pos (by omega), show 1316 + l - 1316 = l by omega]
  · rw [if_neg (by omega), if_neg (by omega), if_pos (by omega), show 1332 + l - 1332 = l by omega]
  · rw [if_neg (by omega), if_neg (by omega), if_neg (by omega), if_pos (by omega), show 1348 + l - 1348 = l by omega]
  · rw [if_neg (by omega), if_neg (by omega), if_neg (by omega), if_neg (by omega), if_pos (by omega), show 1364 + l - 1364 = l by omega]
  · rw [if_neg (by omega), if_neg (by omega), if_neg (by omega), if_neg (by omega), if_neg (by omega), if_pos (by omega), show 1380 + 2 * j - 1380 = 2 * j by omega]
  · rw [if_neg (by omega), if_neg (by omega), if_neg (by omega), if_neg (by omega), if_neg (by omega), if_pos (by omega), show 1381 + 2 * j - 1380 = 2 * j + 1 by omega]
  · rw [if_neg (by omega), if_neg (by omega), if_neg (by omega), if_neg (by omega), if_neg (by omega), if_neg (by omega)]
theorem lawR_ok {C N : zM} {i k : Nat} (hk : LK k C N) (hn : LNs i k C N) (h4 : k ≤ 400) : LawOK (lawR N i k) ∧ RLaw (lawC C) 1 (lawR N i k) := by
  obtain ⟨n6, n17, n16, ⟨th, nt1, nt2, nt3⟩, nj⟩ := hn
  obtain ⟨a1, a2, a3, a4⟩ := lawR_at (N := N) (k := k) n16
  have ti : (lawR N i k 156).toInt = i := by rw [a1, iv_toInt (by omega) (by omega)]
  have tyc : ∀ f m : Nat, f ≤ m → m ≤ k → tyRun (lawR N i k) f (m - f) [] = tyRun (row6 N) f (m - f) [] := fun f m x y => ty_cong _ _ _ fun j u v => by
    rw [(a3 j (by omega)).1, row6_at]
  constructor
  · refine ⟨by omega, by omega, fun l hl => ?_⟩
    rw [ti] at hl
    obtain ⟨f, m, u, b1, b2, b3, b4, b5, b6, b7, b8, b9, -⟩ := nj l (by omega)
    obtain ⟨c1, c2, c3, c4⟩ := a2 l (by omega)
    refine ⟨f, m, u, c1.trans b1, c2.trans b2, c3.trans b3, b4, b5, by omega, by rw [c4]; exact b7, fun j x y => ?_, ?_, fun z => ?_⟩
    · obtain ⟨d1, d2⟩ := a3 j (by omega)
      rw [d1, d2]
      exact rc_rng (hk.2.2 j (by omega))
    · rw [tyc f m (by omega) (by omega)]
      exact b8.2 [] (Nat.zero_le _)
    · rw [tyc m u (by omega) (by omega)]
      exact (b9 z).2 [] (Nat.zero_le _)
  · refine ⟨by rw [lawC_at (j := 0).2.2.1, n6, a1], ?_, fun l hl => ?_⟩
    · show lawC C 15 7 = 0 ↔ _
      rw [lawC_at (j := 0).2.2.2, nt2, ti]
      constructor
      · intro z l hl
        rw [(a2 l (by omega)).2.2.2]
        refine nt3.mp ?_ l (by omega)
        rw [eqI, iv_toInt (by omega) (by omega)] at z
        simp only [Int32.reduceToInt] at z
        omega
      · intro z
        rw [nt3.mpr fun j hj => by
          have := z j (by omega)
          rw [(a2 j hj).2.2.2] at this
          exact this]
        rfl
    · rw [ti] at hl
      obtain ⟨f, m, u, b1, b2, b3, b4, b5, b6, b7, b8, b9, e1, e2, e3, e4⟩ := nj l (by omega)
      obtain ⟨c1, c2, c3, c4⟩ := a2 l (by omega)
      obtain ⟨g1, g2, g3, g4⟩ := (lawC_at (C := C) (j := l)).2.1 (by omega)
      refine ⟨?_, ?_, ?_, ?_, fun j x y => ?_⟩
      · rw [c4]; exact g1.trans e1
      · rw [c1, b1]; exact g2.trans e2
      · rw [c2, b2]; exact g3.trans e3
      · rw [c3, b3]; exact g4.trans e4
      · rw [c3, b3, iv_toInt (by omega) (by omega)] at y
        obtain ⟨d1, d2⟩ := a3 j (by omega)
        rw [d1, d2, show lawC C (1 + 15) j = C 106 j from (lawC_at (C := C) (j := j)).1 (by omega)]
        exact hk.2.2 j (by omega)
section T1
variable {g g' : zG} {C M : zM}
theorem s_text1 (h : RR C M) : ∃ (x : Int32) (C' M' : zM), RR C' M' ∧ (∀ (d : Nat) (Q : Int32 → zM → Prop), Q x C' → zCi shC g (d + 28) mX8_text [.ref 0, .int 1] C Q) ∧ ∀ (d : Nat) (Q : Int32 → zM → Prop), Q x M' → zCi shM g' (d + 41) mX9_text [.ref 0, .int 1] M Q := by
  obtain ⟨n, p, e, C1, M1, tk, a1, a2, a3, a4, a5, a6, a7, a8, a9⟩ := s_begin (g := g) (g' := g') (k := 1) h (by omega)
  obtain ⟨b, C2, M2, ⟨⟨f1, f2, f3, f4⟩, q2, q3⟩, q5, q6⟩ := s_law (g := g) (g' := g') tk
  have rC : ∀ (d : Nat) (Q : Int32 → zM → Prop), (b = false → Q (-1) (zup C2 98 1 0)) → (b = true → Q (C2 105 6) (zup (lawC C2) 98 1 0)) → zCi shC g (d + 28) mX8_text [.ref 0, .int 1] C Q := fun d Q x y =>
    vX8_text (a8 (d + 25) _ ⟨fun _ => vX8_text_42 ⟨fun z => absurd rfl z, fun _ => q5 d _ ⟨fun z => vX8_text_89 ⟨fun _ => vX8_text_136 ⟨fun _ => x z, fun z => absurd z (by decide)⟩, fun z => absurd z (by decide)⟩, fun z => vX1_copy_a fun N1 hN => by
      rw [lawC_is hN, lawC_at (j := 0).2.2.1]
      exact y z⟩⟩, fun z => absurd z (by decide)⟩)
  have rM : ∀ (d : Nat) (Q : Int32 → zM → Prop), (b = false → Q (-1) (zup (zup (zup M2 0 23 0) 0 30 ((zup M2 0 23 0) 0 28)) 0 32 ((zup (zup M2 0 23 0) 0 30 ((zup M2 0 23 0) 0 28)) 0 29))) → (b = true → zCi shM g' (d + 40) mX9_putsLaw [.ref 0] (zup M2 0 23 0) (fun x1 M1 => Q x1 M1)) → zCi shM g' (d + 41) mX9_text [.ref 0, .int 1] M Q := fun d Q x y =>
    vX9_text (c9_isIn ⟨fun _ => a9 (d + 33) _ ⟨fun _ => ⟨fun z => absurd rfl z, fun _ => q6 d _ (vX9_text_84 ⟨x, fun z => ⟨fun _ => ⟨fun z2 => absurd rfl z2, fun _ => y z⟩, fun z2 => absurd z2 (by decide)⟩⟩)⟩, fun z => absurd z (by decide)⟩, fun z => absurd z (by decide)⟩)
  have m : ∀ o, o = 1 ∨ o = 2 ∨ o = 3 → M2 o = M o := fun o ho => (f3 o (by omega) (by omega)).trans (a4 o (by omega))
  have cc : ∀ o, o ≤ 97 → C2 o = C o := fun o ho => (f1 o (by omega) (by omega)).trans (a1 o (by omega))
  cases b with
  | false =>
    have hf := q2 rfl
    refine ⟨-1, _, _, ?_, fun d Q q => rC d Q (fun _ => q) fun z => absurd z (by decide), fun d Q q => rM d Q (fun _ => q) fun z => absurd z (by decide)⟩
    refine h.textF (fun o ho => by rw [zup_oth (by omega)]; exact cc o ho) (fun o ho => by rw [zup_oth (by omega), zup_oth (by omega), zup_oth (by omega)]; exact m o ho) ?_ ?_ zup_same ?_ ?_ ?_
    · rw [zup_ne (Or.inr (by omega)), zup_ne (Or.inr (by omega)), zup_ne (Or.inr (by omega)), f4 4 (by omega), a5 4 (by omega)]
    · rw [zup_ne (Or.inr (by omega)), zup_ne (Or.inr (by omega)), zup_ne (Or.inr (by omega)), f4 5 (by omega), a5 5 (by omega)]
    · rw [zup_ne (Or.inr (by omega)), zup_ne (Or.inr (by omega)), zup_same]
    · rw [zup_ne (Or.inr (by omega)), zup_ne (j := 30) (Or.inr (by omega)), zup_same, zup_ne (Or.inr (by omega))]
      exact hf.1
    · rw [zup_ne (Or.inr (by omega)), zup_same, zup_ne (Or.inr (by omega)), zup_ne (Or.inr (by omega))]
      exact hf.2
  | true =>
    obtain ⟨x6, x7, k, i, lk, ln, k4⟩ := q3 rfl
    have lk' : LK k C2 (zup M2 0 23 0) := lk.keep rfl rfl (zup_ne (Or.inr (by omega))) (zup_oth (by omega))
    have ln' : LNs i k C2 (zup M2 0 23 0) := by
      obtain ⟨y1, y2, y3, y4, y5⟩ := ln
      refine ⟨y1, by rw [zup_ne (Or.inr (by omega))]; exact y2, y3, by rw [zup_oth (by omega)]; exact y4, fun j hj => (y5 j hj).keep (Nat.le_refl _) ⟨fun _ _ => rfl, fun _ _ => by rw [zup_oth (by omega)], rfl, rfl⟩ (fun _ _ => by rw [zup_oth (by omega)]) fun _ _ _ => rfl⟩
    have hi := ln.2.2.1
    obtain ⟨ok, rl⟩ := lawR_ok lk' ln' k4
    refine ⟨iv i, zup (lawC C2) 98 1 0, rowTo (zup M2 0 23 0) (lawR (zup M2 0 23 0) i k), ?_, fun d Q q => rC d Q (fun z => absurd z (by decide)) fun _ => by rw [ln.1]; exact q, fun d Q q => rM d Q (fun z => absurd z (by decide)) fun _ => c9_putsLaw hi k4 ln'.2.1 lk'.2.1 fun M' o r => by rw [rowTo_eq o r]; exact q⟩
    have r0 : ∀ s, rowTo (zup M2 0 23 0) (lawR (zup M2 0 23 0) i k) 0 s = zup M2 0 23 0 0 s := fun s => by rw [rowTo_o (by omega)]
    have hv : ∀ j, j < 156 ∨ (157 ≤ j ∧ j < 1316) → lawR (zup M2 0 23 0) i k j = M 1 j := fun j hj => by
      rw [(lawR_at hi).2.2.2 j hj, zup_oth (by omega), m 1 (by omega)]
    have hv2 : ∀ j, 2200 ≤ j → lawR (zup M2 0 23 0) i k j = M 1 j := fun j hj => by
      unfold lawR
      rw [if_neg (by omega), if_neg (by omega), if_neg (by omega), if_neg (by omega), if_neg (by omega), if_neg (by omega), zup_oth (by omega), m 1 (by omega)]
    have cl : ∀ o, o ≤ 97 → ¬ (15 ≤ o ∧ o ≤ 20) → zup (lawC C2) 98 1 0 o = C o := fun o a b => by
      rw [zup_oth (by omega), lawC_o b]
      exact cc o a
    have hIS := h.is
    have nrng : (M 1 2).toInt ≤ 150 := h.mo.1.2
    refine h.textR (fun o a b => cl o b (by omega)) (by rw [cl 0 (by omega) (by omega)]) ?_ ?_ ?_ ?_ zup_same ?_ ?_ ?_
    · rw [rowTo_o (by omega), zup_oth (by omega)]
      exact m 2 (by omega)
    · rw [r0, zup_ne (Or.inr (by omega)), f4 5 (by omega), a5 5 (by omega)]
    · rw [rowTo_1]
      obtain ⟨⟨w1, w2, w3, w4, w5, w6, w7⟩, w8⟩ := h.1
      refine ⟨⟨hIS.lawN hv ok, w2.law hIS (fun j hj => hv j (by omega)) (fun j x y => hv j (by omega)), IBk.row (hv 0 (by omega)) (hv 2 (by omega)) (fun j x y => hv j (by omega)) nrng w3, ?_, ?_, ?_, ?_⟩, fun j hj => (hv2 j hj).trans (w8 j hj)⟩
      · intro s hs hq
        rw [hv 154 (by omega)] at hq
        rw [hv (166 + s) (by omega)]
        exact w4 s hs hq
      · obtain ⟨y0, y1, y2, y3, y4, y5, ⟨z1, z2, z3, z4⟩, -, v1, v2, v3, v4⟩ := w5
        have sk : ∀ s i', s < 6 → i' ≤ 60 → skt (lawR (zup M2 0 23 0) i k) s i' = skt (M 1) s i' := fun s i' a b => by
          unfold skt
          split
          · rfl
          · rw [hv (178 + 60 * s + (i' - 1)) (by omega)]
        have h166 := hIS.2.2.2.2.2.2.2.2.1
        refine ⟨by rw [cl 1 (by omega) (by omega), hv 150 (by omega)]; exact y0, by rw [cl 1 (by omega) (by omega), hv 151 (by omega)]; exact y1, by rw [cl 1 (by omega) (by omega), hv 152 (by omega)]; exact y2, by rw [cl 1 (by omega) (by omega), hv 153 (by omega)]; exact y3, by rw [cl 1 (by omega) (by omega), hv 154 (by omega)]; exact y4, fun s hs hq => ?_, ⟨?_, fun s hs => ?_, fun s i' hs hq => ?_, fun s hs hq => ?_⟩, ?_, ?_, ?_, fun l hl hq => ?_, fun l hl hq => ?_⟩
        · rw [hv 154 (by omega)] at hq
          rw [cl (1 + 1) (by omega) (by omega), hv (160 + s) (by omega)]
          exact y5 s hs hq
        · rw [cl (1 + 9) (by omega) (by omega), hv 155 (by omega)]
          exact z1
        · rw [cl (1 + 11) (by omega) (by omega), hv (166 + s) (by omega)]
          exact z2 s hs
        · have h6 := h166 s hs
          unfold rng at h6
          rw [hv (166 + s) (by omega)] at hq
          rw [cl (1 + 10) (by omega) (by omega), hv (178 + 60 * s + i') (by omega), sk s i' hs (by omega)]
          exact z3 s i' hs hq
        · have h6 := h166 s hs
          unfold rng at h6
          rw [hv (166 + s) (by omega)] at hq
          rw [cl (1 + 12) (by omega) (by omega), hv (172 + s) (by omega), hv (166 + s) (by omega), sk s _ hs (by omega)]
          exact z4 s hs hq
        · have : ∀ o, 15 ≤ o → o ≤ 20 → zup (lawC C2) 98 1 0 o = lawC C2 o := fun o _ b => zup_oth (by omega)
          unfold RLaw at rl ⊢
          rw [this (1 + 14) (by omega) (by omega), this (1 + 15) (by omega) (by omega), this (1 + 16) (by omega) (by omega), this (1 + 17) (by omega) (by omega), this (1 + 18) (by omega) (by omega), this (1 + 19) (by omega) (by omega)]
          exact rl
        · rw [cl (1 + 21) (by omega) (by omega), hv 157 (by omega)]
          exact v1
        · rw [cl (1 + 21) (by omega) (by omega), hv 158 (by omega)]
          exact v2
        · rw [hv 157 (by omega)] at hq
          rw [cl (1 + 22) (by omega) (by omega), hv (538 + l) (by omega)]
          exact v3 l hl hq
        · rw [hv 158 (by omega)] at hq
          rw [cl (1 + 23) (by omega) (by omega), cl (1 + 24) (by omega) (by omega), hv (546 + 2 * l) (by omega), hv (547 + 2 * l) (by omega)]
          exact v4 l hl hq
      · exact (RMo.row (w := M 1) (fun j hj => hv j (by omega)) w6).keep fun o a b => cl o (by omega) (by omega)
      · exact RBk.keep (cl (1 + 8) (by omega) (by omega)) (RBk.row2 (hv 2 (by omega)) (fun j x y => hv j (by omega)) nrng w7)
    · rw [rowTo_1, r0, zup_ne (Or.inr (by omega)), f4 4 (by omega), a5 4 (by omega), rowTo_o (by omega), zup_oth (by omega), m 3 (by omega)]
      exact (h.2.2.1.row hIS (fun j hj => hv j (by omega)) (fun j x y => hv j (by omega)) (by rw [hv 2 (by omega)]; exact Int.le_refl _)).keep (by rw [cl 0 (by omega) (by omega)]) fun o a b => cl o b (by omega)
    · rw [r0, zup_same]
    · rw [r0, zup_ne (Or.inr (by omega)), zup_ne (Or.inr (by omega)), f4 30 (by omega), a6, lawC_o (by omega)]
      exact x6.trans a2
    · rw [r0, zup_ne (Or.inr (by omega)), zup_ne (Or.inr (by omega)), f4 32 (by omega), a7, lawC_o (by omega)]
      exact x7.trans a3
end T1
