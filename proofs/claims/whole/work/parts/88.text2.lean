/-! text(2), both sides: the letters -/
theorem LawOK.cong {w v : Nat → Int32} (h : ∀ j, j = 156 ∨ 1316 ≤ j → v j = w j) (hL : LawOK w) : LawOK v := by
  obtain ⟨h0, h16, hl⟩ := hL
  refine ⟨by rw [h _ (by omega)]; exact h0, by rw [h _ (by omega)]; exact h16, fun i hi => ?_⟩
  rw [h _ (by omega)] at hi
  obtain ⟨f, m, t, h1, h2, h3, h4, h5, h6, h7, h8, h9, h10⟩ := hl i hi
  refine ⟨f, m, t, by rw [h _ (by omega)]; exact h1, by rw [h _ (by omega)]; exact h2, by rw [h _ (by omega)]; exact h3, h4, h5, h6, by rw [h _ (by omega)]; exact h7, fun j a b => ?_, ?_, fun q => ?_⟩
  · rw [h _ (by omega), h _ (by omega)]
    exact h8 j a b
  · rw [ty_cong _ _ _ fun j _ _ => h (1380 + 2 * j) (by omega)]
    exact h9
  · rw [ty_cong _ _ _ fun j _ _ => h (1380 + 2 * j) (by omega)]
    exact h10 q
theorem RLaw.cong {C C' : zM} {w v : Nat → Int32} (h : ∀ j, j = 156 ∨ 1316 ≤ j → v j = w j) (hc : ∀ o, 15 ≤ o → o ≤ 20 → C' o = C o) (hR : RLaw C 1 w) : RLaw C' 1 v := by
  obtain ⟨b1, b2, b3⟩ := hR
  refine ⟨by rw [hc (1 + 14) (by omega) (by omega), h _ (by omega)]; exact b1, ?_, fun i hi => ?_⟩
  · rw [hc (1 + 14) (by omega) (by omega), h 156 (by omega)]
    refine b2.trans ⟨fun z i hi => ?_, fun z i hi => ?_⟩
    · rw [h _ (by omega)]; exact z i hi
    · have := z i hi
      rw [h _ (by omega)] at this
      exact this
  · rw [h 156 (by omega)] at hi
    obtain ⟨c1, c2, c3, c4, c5⟩ := b3 i hi
    rw [hc (1 + 16) (by omega) (by omega), hc (1 + 17) (by omega) (by omega), hc (1 + 18) (by omega) (by omega), hc (1 + 19) (by omega) (by omega), hc (1 + 15) (by omega) (by omega), h (1364 + i) (by omega), h (1316 + i) (by omega), h (1332 + i) (by omega), h (1348 + i) (by omega)]
    refine ⟨c1, c2, c3, c4, fun j x y => ?_⟩
    rw [h (1380 + 2 * j) (by omega), h (1381 + 2 * j) (by omega)]
    exact c5 j x y
/-- the state under a new paper -/
theorem RWo.paper {C C' : zM} {w v : Nat → Int32} (hR : RWo C 1 w) (hv : ∀ j, j < 157 ∨ (159 ≤ j ∧ j < 538) ∨ 566 ≤ j → v j = w j) (cl : ∀ o, o ≤ 97 → ¬ (22 ≤ o ∧ o ≤ 25) → C' o = C o) (hp : RPaper C' 1 v) (r7 : rng (v 157) 0 8) (r8 : rng (v 158) 0 10) (r5 : ∀ i, i < 8 → rng (v (538 + i)) 0 511) (hw : ∀ i : Nat, i < 10 → (i : Int) < (v 158).toInt → skB (v 157) (v (546 + 2 * i)) = true ∧ boxB (v 150) (v 151) (v (547 + 2 * i)) = true) : RWo C' 1 v := by
  obtain ⟨w1, w2, w3, w4, w5, w6, w7⟩ := hR
  have hIS := w1
  obtain ⟨⟨a1, a2, a3, a4⟩, b2, b3, b4, b5, b7, b8, c0, c1, c2, c3, c4, c5, cL⟩ := w1
  have nrng : (w 2).toInt ≤ 150 := w2.1.2
  have r : ∀ {j : Nat} {x y : Int}, (j < 157 ∨ (159 ≤ j ∧ j < 538) ∨ 566 ≤ j) → rng (w j) x y → rng (v j) x y := fun hj q => by rw [hv _ hj]; exact q
  refine ⟨⟨⟨by rw [hv 150 (by omega)]; exact a1, by rw [hv 150 (by omega)]; exact a2, by rw [hv 151 (by omega)]; exact a3, by rw [hv 151 (by omega)]; exact a4⟩, r (by omega) b2, r (by omega) b3, r (by omega) b4, r (by omega) b5, r7, r8, fun i hi => r (by omega) (c0 i hi), fun i hi => r (by omega) (c1 i hi), fun i hi => r (by omega) (c2 i hi), fun i hi hq => r (by omega) (c3 i hi (by rw [hv (166 + i / 60) (by omega)] at hq; exact hq)), r5, hw, cL.cong fun j hj => hv j (by omega)⟩, w2.law hIS (fun j hj => hv j (by omega)) (fun j x y => hv j (by omega)), IBk.row (hv 0 (by omega)) (hv 2 (by omega)) (fun j x y => hv j (by omega)) nrng w3, ?_, ?_, ?_, ?_⟩
  · intro s hs hq
    rw [hv 154 (by omega)] at hq
    rw [hv (166 + s) (by omega)]
    exact w4 s hs hq
  · obtain ⟨y0, y1, y2, y3, y4, y5, ⟨z1, z2, z3, z4⟩, yl, -⟩ := w5
    have sk : ∀ s i', s < 6 → i' ≤ 60 → skt v s i' = skt w s i' := fun s i' a b => by
      unfold skt
      split
      · rfl
      · rw [hv (178 + 60 * s + (i' - 1)) (by omega)]
    refine ⟨by rw [cl 1 (by omega) (by omega), hv 150 (by omega)]; exact y0, by rw [cl 1 (by omega) (by omega), hv 151 (by omega)]; exact y1, by rw [cl 1 (by omega) (by omega), hv 152 (by omega)]; exact y2, by rw [cl 1 (by omega) (by omega), hv 153 (by omega)]; exact y3, by rw [cl 1 (by omega) (by omega), hv 154 (by omega)]; exact y4, fun s hs hq => ?_, ⟨?_, fun s hs => ?_, fun s i' hs hq => ?_, fun s hs hq => ?_⟩, yl.cong (fun j hj => hv j (by omega)) (fun o a b => cl o (by omega) (by omega)), hp⟩
    · rw [hv 154 (by omega)] at hq
      rw [cl (1 + 1) (by omega) (by omega), hv (160 + s) (by omega)]
      exact y5 s hs hq
    · rw [cl (1 + 9) (by omega) (by omega), hv 155 (by omega)]
      exact z1
    · rw [cl (1 + 11) (by omega) (by omega), hv (166 + s) (by omega)]
      exact z2 s hs
    · have h6 := c1 s hs
      unfold rng at h6
      rw [hv (166 + s) (by omega)] at hq
      rw [cl (1 + 10) (by omega) (by omega), hv (178 + 60 * s + i') (by omega), sk s i' hs (by omega)]
      exact z3 s i' hs hq
    · have h6 := c1 s hs
      unfold rng at h6
      rw [hv (166 + s) (by omega)] at hq
      rw [cl (1 + 12) (by omega) (by omega), hv (172 + s) (by omega), hv (166 + s) (by omega), sk s _ hs (by omega)]
      exact z4 s hs hq
  · exact (RMo.row (w := w) (fun j hj => hv j (by omega)) w6).keep fun o a b => cl o (by omega) (by omega)
  · exact RBk.keep (cl (1 + 8) (by omega) (by omega)) (RBk.row2 (hv 2 (by omega)) (fun j x y => hv j (by omega)) nrng w7)
/-- the class's paper put in its place -/
def papC (C : zM) : zM := fun a j => if a = 23 ∧ j < 8 then C 113 j else if a = 24 ∧ j < 10 then C 114 j else if a = 25 ∧ j < 10 then C 115 j else if a = 22 ∧ (j = 1 ∨ j = 4) then C 112 j else C a j
theorem papC_o {C : zM} {o : Nat} (h : ¬ (22 ≤ o ∧ o ≤ 25)) : papC C o = C o := by
  funext j
  unfold papC
  rw [if_neg (by omega), if_neg (by omega), if_neg (by omega), if_neg (by omega)]
theorem papC_at {C : zM} {j : Nat} : (j < 8 → papC C 23 j = C 113 j) ∧ (j < 10 → papC C 24 j = C 114 j ∧ papC C 25 j = C 115 j) ∧ papC C 22 1 = C 112 1 ∧ papC C 22 4 = C 112 4 := by
  unfold papC
  refine ⟨fun a => if_pos ⟨rfl, a⟩, fun a => ⟨?_, ?_⟩, ?_, ?_⟩
  · rw [if_neg (by omega), if_pos ⟨rfl, a⟩]
  · rw [if_neg (by omega), if_neg (by omega), if_pos ⟨rfl, a⟩]
  · rw [if_neg (by omega), if_neg (by omega), if_neg (by omega), if_pos (by omega)]
  · rw [if_neg (by omega), if_neg (by omega), if_neg (by omega), if_pos (by omega)]
theorem papC_is {C N1 : zM} (h : N1 = zup (zup (zcpy (zcpy (zcpy C 113 23 8) 114 24 10) 115 25 10) 22 1 ((zcpy (zcpy (zcpy C 113 23 8) 114 24 10) 115 25 10) 112 1)) 22 4 ((zup (zcpy (zcpy (zcpy C 113 23 8) 114 24 10) 115 25 10) 22 1 ((zcpy (zcpy (zcpy C 113 23 8) 114 24 10) 115 25 10) 112 1)) 112 4)) : N1 = papC C := by
  rw [h]
  funext o j
  unfold zup zcpy papC
  by_cases h22 : o = 22
  · subst h22
    by_cases j4 : j = 4
    · simp [j4]
    · by_cases j1 : j = 1
      · simp [j1]
      · simp [j4, j1]
  · by_cases h23 : o = 23
    · subst h23; simp
    · by_cases h24 : o = 24
      · subst h24; simp
      · by_cases h25 : o = 25
        · subst h25; simp
        · simp [h22, h23, h24, h25]
section T2
variable {g g' : zG} {t : Nat → Int32} {n : Nat} {C M : zM}
theorem s_lettersL : ∀ (N p e i j : Nat) (C M : zM), n - p < N → TK t n 2 p e C M → PN i C M → j ≤ p → ∃ (b : Bool) (C' M' : zM), FrX C M C' M' ∧ (b = false → Flt C' M') ∧ (b = true → C' 98 6 = C 98 6 ∧ C' 98 7 = C 98 7 ∧ ∃ i' : Nat, PN i' C' M') ∧ (∀ (d : Nat) (Q : Bool → zM → Prop), Q b C' → zW shC g (d + 6) mX3_parseLetters (zz Q) 6 [(0, .ref 112), (1, .ref 98), (2, .int (iv j))] [] C) ∧ ∀ (d : Nat) (Q : Bool → zM → Prop), Q b M' → zW shM g' (d + 10) mX9_readsLetters (zz Q) 7 [(0, .ref 0), (1, .int 1)] [] M := by
  intro N
  induction N with
  | zero => intro p e i j C M hN; omega
  | succ N ih =>
    intro p e i j C M hN h hn hj
    have hl := h.len
    by_cases c : M 0 25 = 0
    · refine ⟨true, C, M, FrX.rfl, fun z => absurd z (by decide), fun _ => ⟨rfl, rfl, i, hn⟩, fun d Q q => vX3_parseLetters_6 ⟨fun _ => q, fun _ => q_isEnd h ⟨fun _ => q, fun z => absurd c (of_decide_eq_false z)⟩⟩, fun d Q q => vX9_readsLetters_7 ⟨fun z => absurd z (by decide), fun _ => ⟨fun _ => ⟨true, rfl, q⟩, fun z => absurd c z⟩⟩⟩
    · have hlt := h.lt c
      obtain ⟨b, C1, M1, q1, q2, q3, q5, q6⟩ := s_letter (g := g) (g' := g') h hn
      have rC : ∀ (d : Nat) (Q : Bool → zM → Prop), (b = true → zW shC g (d + 6) mX3_parseLetters (zz Q) 6 [(0, .ref 112), (1, .ref 98), (2, .int (iv (j + 1 : Nat)))] [] C1) → (b = false → Q false C1) → zW shC g (d + 6) mX3_parseLetters (zz Q) 6 [(0, .ref 112), (1, .ref 98), (2, .int (iv j))] [] C := fun d Q x y => by
        refine vX3_parseLetters_6 ⟨fun z => absurd z (i400 (by omega)), fun _ => q_isEnd h ⟨fun z => absurd (of_decide_eq_true z) c, fun _ => q5 d _ ⟨fun z => ?_, y⟩⟩⟩
        rw [iv_s]
        exact x z
      have rM : ∀ (d : Nat) (Q : Bool → zM → Prop), zW shM g' (d + 10) mX9_readsLetters (zz Q) 7 [(0, .ref 0), (1, .int (zbI b))] [] M1 → zW shM g' (d + 10) mX9_readsLetters (zz Q) 7 [(0, .ref 0), (1, .int 1)] [] M := fun d Q x =>
        vX9_readsLetters_7 ⟨fun z => absurd z (by decide), fun _ => ⟨fun z => absurd z c, fun _ => q6 d _ x⟩⟩
      cases b with
      | false => exact ⟨false, C1, M1, q1, fun _ => q2 rfl, fun z => absurd z (by decide), fun d Q q => rC d Q (fun z => absurd z (by decide)) fun _ => q, fun d Q q => rM d Q (vX9_readsLetters_7 ⟨fun _ => ⟨false, rfl, q⟩, fun z => absurd rfl z⟩)⟩
      | true =>
        obtain ⟨a6, a7, p1, e1, h1, pp1, n1⟩ := q3 rfl
        obtain ⟨b, C2, M2, j1, j2, j3, j5, j6⟩ := ih p1 e1 (i + 1) (j + 1) C1 M1 (by omega) h1 n1 (by omega)
        refine ⟨b, C2, M2, q1.trans j1, j2, fun hb => ?_, fun d Q q => rC d Q (fun _ => j5 d Q q) fun z => absurd z (by decide), fun d Q q => rM d Q (j6 d Q q)⟩
        obtain ⟨x6, x7, x⟩ := j3 hb
        exact ⟨x6.trans a6, x7.trans a7, x⟩
/-- the row with new letters -/
def letR (M : zM) (i : Nat) : Nat → Int32 := fun j => if j = 157 then iv i else if j = 158 then 0 else if 538 ≤ j ∧ j < 538 + i then M 10 (j - 538) else M 1 j
theorem c9_putsLetters {d : Nat} {Q : Int32 → zM → Prop} {i : Nat} (hi : i ≤ 8) (h21 : M 0 21 = iv i) (h : Q (iv i) (rowTo M (letR M i))) : zCi shM g' d mX9_putsLetters [.ref 0] M Q := by
  have loop : ∀ (m j : Nat) (N : zM), j + m = i → N = rowTo M (fun x => if x = 157 then iv i else if x = 158 then 0 else if 538 ≤ x ∧ x < 538 + j then M 10 (x - 538) else M 1 x) → zW shM g' d mX9_putsLetters (zi Q) 23 [(0, .ref 0), (1, .int (iv j))] [] N := by
    intro m
    induction m with
    | zero =>
      intro j N hj hN
      obtain rfl : j = i := by omega
      have e21 : N 0 21 = iv j := by rw [hN, rowTo_o (by omega)]; exact h21
      refine vX9_putsLetters_23 ⟨fun _ => ?_, fun z => absurd ?_ z⟩
      · rw [e21, hN]
        exact h
      · rw [e21]
        exact Int32.le_refl _
    | succ m ih =>
      intro j N hj hN
      have e21 : N 0 21 = iv i := by rw [hN, rowTo_o (by omega)]; exact h21
      refine vX9_putsLetters_23 ⟨fun z => ?_, fun _ => ⟨j, rfl, by omega, 538 + j, iv_add 538 j, by omega, ?_⟩⟩
      · rw [e21, Int32.le_iff_toInt_le, iv_toInt (by omega) (by omega), iv_toInt (by omega) (by omega)] at z
        omega
      · rw [iv_s]
        refine ih (j + 1) _ (by omega) (rowTo_eq (fun o a => by rw [zup_oth a, hN, rowTo_o a]) ?_)
        rw [zup_row, hN, rowTo_1, rowTo_o (by omega)]
        funext x
        by_cases e : x = 538 + j
        · rw [e, upd_at, if_neg (by omega), if_neg (by omega), if_pos (by omega), show 538 + j - 538 = j by omega]
        · rw [upd_ne e]
          by_cases x7 : x = 157
          · rw [if_pos x7, if_pos x7]
          · by_cases x8 : x = 158
            · rw [if_neg x7, if_neg x7, if_pos x8, if_pos x8]
            · by_cases x5 : 538 ≤ x ∧ x < 538 + j
              · rw [if_neg x7, if_neg x7, if_neg x8, if_neg x8, if_pos x5, if_pos (by omega)]
              · rw [if_neg x7, if_neg x7, if_neg x8, if_neg x8, if_neg x5, if_neg (by omega : ¬ (538 ≤ x ∧ x < 538 + (j + 1)))]
  refine vX9_putsLetters (loop i 0 _ (by omega) (rowTo_eq (fun o a => by rw [zup_oth a, zup_oth a]) ?_))
  rw [zup_row, zup_row, h21]
  funext x
  by_cases x8 : x = 158
  · rw [x8, upd_at, if_neg (by omega), if_pos rfl]
  · rw [upd_ne x8]
    by_cases x7 : x = 157
    · rw [x7, upd_at, if_pos rfl]
    · rw [upd_ne x7, if_neg x7, if_neg x8, if_neg (by omega)]
theorem s_text2 (h : RR C M) : ∃ (x : Int32) (C' M' : zM), RR C' M' ∧ (∀ (d : Nat) (Q : Int32 → zM → Prop), Q x C' → zCi shC g (d + 7) mX8_text [.ref 0, .int 2] C Q) ∧ ∀ (d : Nat) (Q : Int32 → zM → Prop), Q x M' → zCi shM g' (d + 11) mX9_text [.ref 0, .int 2] M Q := by
  obtain ⟨n, p, e, C1, M1, tk, a1, a2, a3, a4, a5, a6, a7, a8, a9⟩ := s_begin (g := g) (g' := g') (k := 2) h (by omega)
  have pn : PN 0 (zup (zup C1 112 1 0) 112 4 0) (zup M1 0 21 0) := ⟨by rw [zup_ne (Or.inr (by omega)), zup_same]; rfl, zup_same, by omega, zup_same, fun j hj => by omega⟩
  obtain ⟨b, C2, M2, f0, q2, q3, q5, q6⟩ := s_lettersL (g := g) (g' := g') (n + 1) p e 0 0 _ _ (by omega) (((tk.c (o := 112) (i := 1) (x := 0) (by omega)).c (o := 112) (i := 4) (x := 0) (by omega)).m0 (i := 21) (x := 0) (by omega)) pn (by omega)
  obtain ⟨f1, f2, f3, f4⟩ := ((FrX.c (C := C1) (M := M1) (o := 112) (i := 1) (x := 0) (by omega)).trans ((FrX.c (o := 112) (i := 4) (x := 0) (by omega)).trans (FrX.m0 (i := 21) (x := 0) (by omega)))).trans f0
  have rC : ∀ (d : Nat) (Q : Int32 → zM → Prop), (b = false → Q (-1) (zup C2 98 1 0)) → (b = true → Q (C2 112 1) (zup (papC C2) 98 1 0)) → zCi shC g (d + 7) mX8_text [.ref 0, .int 2] C Q := fun d Q x y =>
    vX8_text (a8 (d + 4) _ ⟨fun _ => vX8_text_42 ⟨fun _ => vX8_text_89 ⟨fun z => absurd rfl z, fun _ => vX3_parseLetters (vX3_clear_b (q5 d _ ⟨fun z => vX8_text_136 ⟨fun _ => x z, fun z => absurd z (by decide)⟩, fun z => vX3_copy_a fun N1 hN => by
      rw [papC_is hN, papC_at (j := 0).2.2.1]
      exact y z⟩))⟩, fun z => absurd z (by decide)⟩, fun z => absurd z (by decide)⟩)
  have rM : ∀ (d : Nat) (Q : Int32 → zM → Prop), (b = false → Q (-1) (zup (zup (zup M2 0 23 0) 0 30 ((zup M2 0 23 0) 0 28)) 0 32 ((zup (zup M2 0 23 0) 0 30 ((zup M2 0 23 0) 0 28)) 0 29))) → (b = true → zCi shM g' (d + 10) mX9_putsLetters [.ref 0] (zup M2 0 23 0) (fun x1 M1 => Q x1 M1)) → zCi shM g' (d + 11) mX9_text [.ref 0, .int 2] M Q := fun d Q x y =>
    vX9_text (c9_isIn ⟨fun _ => a9 (d + 3) _ ⟨fun _ => ⟨fun _ => ⟨fun z => absurd rfl z, fun _ => vX9_readsLetters (q6 d _ (vX9_text_84 ⟨x, fun z => ⟨fun _ => ⟨fun _ => ⟨fun z2 => absurd rfl z2, fun _ => y z⟩, fun z2 => absurd z2 (by decide)⟩, fun z2 => absurd z2 (by decide)⟩⟩))⟩, fun z => absurd z (by decide)⟩, fun z => absurd z (by decide)⟩, fun z => absurd z (by decide)⟩)
  have m : ∀ o, o = 1 ∨ o = 2 ∨ o = 3 → M2 o = M o := fun o ho => (f3 o (by omega) (by omega)).trans (a4 o (by omega))
  have cc : ∀ o, o ≤ 97 → C2 o = C o := fun o ho => (f1 o (by omega) (by omega)).trans (a1 o (by omega))
  cases b with
  | false =>
    have hf := q2 rfl
    refine ⟨-1, _, _, ?_, fun d Q q => rC d Q (fun _ => q) fun z => absurd z (by decide), fun d Q q => rM d Q (fun _ => q) fun z => absurd z (by decide)⟩
    refine h.textF (fun o ho => by rw [zup_oth (by omega)]; exact cc o ho) (fun o ho => by rw [zup_oth (by omega), zup_oth (by omega), zup_oth (by omega)]; exact m o ho) ?_ ?_ zup_same ?_ ?_ ?_
    · rw [zup_ne (Or.inr (by omega)), zup_ne (Or.inr (by omega)), zup_ne (Or.inr (by omega)), f4 4 (by omega), a5 4 (by omega)]
    · rw [zup_ne (Or.inr (by omega)), zup_ne (Or.inr (by omega)), zup_ne (Or.inr (by omega)), f4 5 (by omega), a5 5 (by omega)]
    · rw [zup_ne (Or.inr (by omega)), zup_ne (Or.inr (by omega)), zup_same]
    · rw [zup_ne (Or.inr (by omega)), zup_ne (j := 30) (Or.inr (by omega)), zup_same, zup_ne (Or.inr (by omega))]
      exact hf.1
    · rw [zup_ne (Or.inr (by omega)), zup_same, zup_ne (Or.inr (by omega)), zup_ne (Or.inr (by omega))]
      exact hf.2
  | true =>
    obtain ⟨x6, x7, i, y1, y2, y3, y4, y5⟩ := q3 rfl
    rw [zup_oth (by omega), zup_oth (by omega)] at x6 x7
    have g21 : zup M2 0 23 0 0 21 = iv i := by rw [zup_ne (Or.inr (by omega))]; exact y2
    refine ⟨iv i, zup (papC C2) 98 1 0, rowTo (zup M2 0 23 0) (letR (zup M2 0 23 0) i), ?_, fun d Q q => rC d Q (fun z => absurd z (by decide)) fun _ => by rw [y1]; exact q, fun d Q q => rM d Q (fun z => absurd z (by decide)) fun _ => c9_putsLetters y3 g21 q⟩
    have r0 : ∀ s, rowTo (zup M2 0 23 0) (letR (zup M2 0 23 0) i) 0 s = zup M2 0 23 0 0 s := fun s => by rw [rowTo_o (by omega)]
    have hv : ∀ j, j < 157 ∨ (159 ≤ j ∧ j < 538) ∨ 566 ≤ j → letR (zup M2 0 23 0) i j = M 1 j := fun j hj => by
      unfold letR
      rw [if_neg (by omega), if_neg (by omega), if_neg (by omega), zup_oth (by omega), m 1 (by omega)]
    have h157 : letR (zup M2 0 23 0) i 157 = iv i := if_pos rfl
    have h158 : letR (zup M2 0 23 0) i 158 = 0 := by
      unfold letR
      rw [if_neg (by omega), if_pos rfl]
    have h538 : ∀ l, l < 8 → letR (zup M2 0 23 0) i (538 + l) = if l < i then M2 10 l else M 1 (538 + l) := fun l hl => by
      unfold letR
      rw [if_neg (by omega), if_neg (by omega)]
      by_cases c : l < i
      · rw [if_pos (by omega), if_pos c, zup_oth (by omega), show 538 + l - 538 = l by omega]
      · rw [if_neg (by omega), if_neg c, zup_oth (by omega), m 1 (by omega)]
    have ti : (iv i).toInt = i := iv_toInt (by omega) (by omega)
    have cl : ∀ o, o ≤ 97 → ¬ (22 ≤ o ∧ o ≤ 25) → zup (papC C2) 98 1 0 o = C o := fun o a b => by
      rw [zup_oth (by omega), papC_o b]
      exact cc o a
    have hIS := h.is
    have rw0 : RWo (zup (papC C2) 98 1 0) 1 (letR (zup M2 0 23 0) i) := by
      refine h.1.1.paper hv cl ⟨?_, ?_, fun l hl hq => ?_, fun l hl hq => ?_⟩ (by rw [h157]; unfold rng; omega) (by rw [h158]; exact ⟨by decide, by decide⟩) (fun l hl => ?_) fun l hl hq => ?_
      · rw [h157, zup_oth (by omega)]
        exact (papC_at (j := 0)).2.2.1.trans y1
      · rw [h158, zup_oth (by omega)]
        exact (papC_at (j := 0)).2.2.2.trans y4
      · rw [h157, ti] at hq
        rw [h538 l hl, if_pos (by omega), zup_oth (by omega)]
        exact ((papC_at (j := l)).1 hl).trans (y5 l (by omega)).1
      · rw [h158] at hq
        have z0 : (0 : Int32).toInt = 0 := rfl
        omega
      · rw [h538 l hl]
        split
        · exact (y5 l (by assumption)).2
        · exact hIS.2.2.2.2.2.2.2.2.2.2.2.1 l hl
      · rw [h158] at hq
        have z0 : (0 : Int32).toInt = 0 := rfl
        omega
    refine h.textR (fun o a b => cl o b (by omega)) (by rw [cl 0 (by omega) (by omega)]) ?_ ?_ ?_ ?_ zup_same ?_ ?_ ?_
    · rw [rowTo_o (by omega), zup_oth (by omega)]
      exact m 2 (by omega)
    · rw [r0, zup_ne (Or.inr (by omega)), f4 5 (by omega), a5 5 (by omega)]
    · rw [rowTo_1]
      exact ⟨rw0, fun j hj => (hv j (by omega)).trans (h.1.2 j hj)⟩
    · rw [rowTo_1, r0, zup_ne (Or.inr (by omega)), f4 4 (by omega), a5 4 (by omega), rowTo_o (by omega), zup_oth (by omega), m 3 (by omega)]
      exact (h.2.2.1.row hIS (fun j hj => hv j (by omega)) (fun j x y => hv j (by omega)) (by rw [hv 2 (by omega)]; exact Int.le_refl _)).keep (by rw [cl 0 (by omega) (by omega)]) fun o a b => cl o b (by omega)
    · rw [r0, zup_same]
    · rw [r0, zup_ne (Or.inr (by omega)), zup_ne (Or.inr (by omega)), f4 30 (by omega), a6, papC_o (by omega)]
      exact x6.trans a2
    · rw [r0, zup_ne (Or.inr (by omega)), zup_ne (Or.inr (by omega)), f4 32 (by omega), a7, papC_o (by omega)]
      exact x7.trans a3
end T2
