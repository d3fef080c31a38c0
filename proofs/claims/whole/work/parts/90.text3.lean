/-! text(3), both sides: the wants -/
section T3
variable {g g' : zG} {t : Nat → Int32} {n : Nat} {C M : zM}
theorem s_wantsL : ∀ (N p e i j : Nat) (C M : zM), n - p < N → TK t n 3 p e C M → PW i C M → j ≤ p → ∃ (b : Bool) (C' M' : zM), FrX C M C' M' ∧ (b = false → Flt C' M') ∧ (b = true → C' 98 6 = C 98 6 ∧ C' 98 7 = C 98 7 ∧ ∃ i' : Nat, PW i' C' M') ∧ (∀ (d : Nat) (Q : Bool → zM → Prop), Q b C' → zW shC g (d + 6) mX3_parseWants (zz Q) 15 [(0, .ref 112), (1, .ref 98), (2, .ref 1), (3, .int (iv j))] [] C) ∧ ∀ (d : Nat) (Q : Bool → zM → Prop), Q b M' → zW shM g' (d + 10) mX9_readsWants (zz Q) 7 [(0, .ref 0), (1, .int 1)] [] M := by
  intro N
  induction N with
  | zero => intro p e i j C M hN; omega
  | succ N ih =>
    intro p e i j C M hN h hn hj
    have hl := h.len
    by_cases c : M 0 25 = 0
    · refine ⟨true, C, M, FrX.rfl, fun z => absurd z (by decide), fun _ => ⟨rfl, rfl, i, hn⟩, fun d Q q => vX3_parseWants_15 ⟨fun _ => q, fun _ => q_isEnd h ⟨fun _ => q, fun z => absurd c (of_decide_eq_false z)⟩⟩, fun d Q q => vX9_readsWants_7 ⟨fun z => absurd z (by decide), fun _ => ⟨fun _ => ⟨true, rfl, q⟩, fun z => absurd c z⟩⟩⟩
    · have hlt := h.lt c
      obtain ⟨b, C1, M1, q1, q2, q3, q5, q6⟩ := s_want (g := g) (g' := g') h hn
      have rC : ∀ (d : Nat) (Q : Bool → zM → Prop), (b = true → zW shC g (d + 6) mX3_parseWants (zz Q) 15 [(0, .ref 112), (1, .ref 98), (2, .ref 1), (3, .int (iv (j + 1 : Nat)))] [] C1) → (b = false → Q false C1) → zW shC g (d + 6) mX3_parseWants (zz Q) 15 [(0, .ref 112), (1, .ref 98), (2, .ref 1), (3, .int (iv j))] [] C := fun d Q x y => by
        refine vX3_parseWants_15 ⟨fun z => absurd z (i400 (by omega)), fun _ => q_isEnd h ⟨fun z => absurd (of_decide_eq_true z) c, fun _ => q5 d _ ⟨fun z => ?_, y⟩⟩⟩
        rw [iv_s]
        exact x z
      have rM : ∀ (d : Nat) (Q : Bool → zM → Prop), zW shM g' (d + 10) mX9_readsWants (zz Q) 7 [(0, .ref 0), (1, .int (zbI b))] [] M1 → zW shM g' (d + 10) mX9_readsWants (zz Q) 7 [(0, .ref 0), (1, .int 1)] [] M := fun d Q x =>
        vX9_readsWants_7 ⟨fun z => absurd z (by decide), fun _ => ⟨fun z => absurd z c, fun _ => q6 d _ x⟩⟩
      cases b with
      | false => exact ⟨false, C1, M1, q1, fun _ => q2 rfl, fun z => absurd z (by decide), fun d Q q => rC d Q (fun z => absurd z (by decide)) fun _ => q, fun d Q q => rM d Q (vX9_readsWants_7 ⟨fun _ => ⟨false, rfl, q⟩, fun z => absurd rfl z⟩)⟩
      | true =>
        obtain ⟨a6, a7, p1, e1, h1, pp1, n1⟩ := q3 rfl
        obtain ⟨b, C2, M2, j1, j2, j3, j5, j6⟩ := ih p1 e1 (i + 1) (j + 1) C1 M1 (by omega) h1 n1 (by omega)
        refine ⟨b, C2, M2, q1.trans j1, j2, fun hb => ?_, fun d Q q => rC d Q (fun _ => j5 d Q q) fun z => absurd z (by decide), fun d Q q => rM d Q (j6 d Q q)⟩
        obtain ⟨x6, x7, x⟩ := j3 hb
        exact ⟨x6.trans a6, x7.trans a7, x⟩
/-- the row with new wants -/
def wanR (M : zM) (i : Nat) : Nat → Int32 := fun j => if j = 158 then iv i else if 546 ≤ j ∧ j < 546 + 2 * i then M 11 (j - 546) else M 1 j
theorem c9_putsWants {d : Nat} {Q : Int32 → zM → Prop} {i : Nat} (hi : i ≤ 10) (h22 : M 0 22 = iv i) (h : Q (iv i) (rowTo M (wanR M i))) : zCi shM g' d mX9_putsWants [.ref 0] M Q := by
  have e2 : (2 : Int32) * iv i = iv (2 * i : Nat) := by
    rw [show (2 : Int32) = iv 2 from rfl, iv_mul]
    rfl
  have loop : ∀ (m j : Nat) (N : zM), j + m = 2 * i → N = rowTo M (fun x => if x = 158 then iv i else if 546 ≤ x ∧ x < 546 + j then M 11 (x - 546) else M 1 x) → zW shM g' d mX9_putsWants (zi Q) 14 [(0, .ref 0), (1, .int (iv j))] [] N := by
    intro m
    induction m with
    | zero =>
      intro j N hj hN
      have ej : j = 2 * i := by omega
      have e22 : N 0 22 = iv i := by rw [hN, rowTo_o (by omega)]; exact h22
      refine vX9_putsWants_14 ⟨fun _ => ?_, fun z => absurd ?_ z⟩
      · rw [e22, hN, ej]
        exact h
      · rw [e22, e2, ej]
        exact Int32.le_refl _
    | succ m ih =>
      intro j N hj hN
      have e22 : N 0 22 = iv i := by rw [hN, rowTo_o (by omega)]; exact h22
      refine vX9_putsWants_14 ⟨fun z => ?_, fun _ => ⟨j, rfl, by omega, 546 + j, iv_add 546 j, by omega, ?_⟩⟩
      · rw [e22, e2, Int32.le_iff_toInt_le, iv_toInt (by omega) (by omega), iv_toInt (by omega) (by omega)] at z
        omega
      · rw [iv_s]
        refine ih (j + 1) _ (by omega) (rowTo_eq (fun o a => by rw [zup_oth a, hN, rowTo_o a]) ?_)
        rw [zup_row, hN, rowTo_1, rowTo_o (by omega)]
        funext x
        by_cases e : x = 546 + j
        · rw [e, upd_at, if_neg (by omega), if_pos (by omega), show 546 + j - 546 = j by omega]
        · rw [upd_ne e]
          by_cases x8 : x = 158
          · rw [if_pos x8, if_pos x8]
          · by_cases x5 : 546 ≤ x ∧ x < 546 + j
            · rw [if_neg x8, if_neg x8, if_pos x5, if_pos (by omega)]
            · rw [if_neg x8, if_neg x8, if_neg x5, if_neg (by omega : ¬ (546 ≤ x ∧ x < 546 + (j + 1)))]
  refine vX9_putsWants (loop (2 * i) 0 _ (by omega) (rowTo_eq (fun o a => by rw [zup_oth a]) ?_))
  rw [zup_row, h22]
  funext x
  by_cases x8 : x = 158
  · rw [x8, upd_at, if_pos rfl]
  · rw [upd_ne x8, if_neg x8, if_neg (by omega)]
/-- the wants are read into a copy of the paper -/
theorem pap_d {N1 : zM} (h : N1 = zup (zup (zcpy (zcpy (zcpy C 23 113 8) 24 114 10) 25 115 10) 112 1 ((zcpy (zcpy (zcpy C 23 113 8) 24 114 10) 25 115 10) 22 1)) 112 4 ((zup (zcpy (zcpy (zcpy C 23 113 8) 24 114 10) 25 115 10) 112 1 ((zcpy (zcpy (zcpy C 23 113 8) 24 114 10) 25 115 10) 22 1)) 22 4)) : (∀ o, ¬ (112 ≤ o ∧ o ≤ 115) → N1 o = C o) ∧ N1 112 1 = C 22 1 ∧ ∀ j, j < 8 → N1 113 j = C 23 j := by
  rw [h]
  refine ⟨fun o ho => ?_, ?_, fun j hj => ?_⟩
  · funext j
    unfold zup zcpy
    simp (disch := omega) only [if_neg]
  · unfold zup zcpy
    simp
  · unfold zup zcpy
    simp [hj]
theorem s_text3 (h : RR C M) : ∃ (x : Int32) (C' M' : zM), RR C' M' ∧ (∀ (d : Nat) (Q : Int32 → zM → Prop), Q x C' → zCi shC g (d + 7) mX8_text [.ref 0, .int 3] C Q) ∧ ∀ (d : Nat) (Q : Int32 → zM → Prop), Q x M' → zCi shM g' (d + 11) mX9_text [.ref 0, .int 3] M Q := by
  obtain ⟨n, p, e, C1, M1, tk, a1, a2, a3, a4, a5, a6, a7, a8, a9⟩ := s_begin (g := g) (g' := g') (k := 3) h (by omega)
  obtain ⟨D, hD⟩ : ∃ D : zM, D = zup (zup (zcpy (zcpy (zcpy C1 23 113 8) 24 114 10) 25 115 10) 112 1 ((zcpy (zcpy (zcpy C1 23 113 8) 24 114 10) 25 115 10) 22 1)) 112 4 ((zup (zcpy (zcpy (zcpy C1 23 113 8) 24 114 10) 25 115 10) 112 1 ((zcpy (zcpy (zcpy C1 23 113 8) 24 114 10) 25 115 10) 22 1)) 22 4) := ⟨_, rfl⟩
  obtain ⟨d1, d2, d3⟩ := pap_d hD
  have m11 : M1 1 = M 1 := a4 1 (by omega)
  have hrp := h.rs.2.2.2.2.2.2.2.2
  obtain ⟨rp1, rp2, rp3, rp4⟩ := hrp
  have hIS := h.is
  have pw : PW 0 (zup D 112 4 0) (zup M1 0 22 0) := by
    have m1' : zup M1 0 22 0 1 = M 1 := by rw [zup_oth (by omega)]; exact m11
    unfold PW
    rw [m1']
    refine ⟨h.rs.keepb fun o x y _ _ => by rw [zup_oth (by omega), d1 o (by omega), a1 o (by omega)], hIS, zup_same, zup_same, by omega, ?_, fun j hj hq => ?_, fun j hj => by omega⟩
    · rw [zup_ne (Or.inr (by omega)), d2, a1 22 (by omega)]
      exact rp1
    · rw [zup_oth (by omega), d3 j hj, a1 23 (by omega)]
      exact rp3 j hj hq
  have tk' : TK (M 12) n 3 p e (zup D 112 4 0) (zup M1 0 22 0) := ((tk.keep (d1 98 (by omega)) (d1 99 (by omega)) rfl rfl fun _ _ _ => rfl).c (by omega)).m0 (by omega)
  have fD : FrX C1 M1 (zup D 112 4 0) (zup M1 0 22 0) := by
    have : FrX C1 M1 D M1 := ⟨fun o x y => d1 o (by omega), by rw [d1 98 (by omega)], fun _ _ _ => rfl, fun _ _ => rfl⟩
    exact (this.trans (FrX.c (by omega))).trans (FrX.m0 (by omega))
  obtain ⟨b, C2, M2, f0, q2, q3, q5, q6⟩ := s_wantsL (g := g) (g' := g') (n + 1) p e 0 0 _ _ (by omega) tk' pw (by omega)
  obtain ⟨f1, f2, f3, f4⟩ := fD.trans f0
  have rC : ∀ (d : Nat) (Q : Int32 → zM → Prop), (b = false → Q (-1) (zup C2 98 1 0)) → (b = true → Q (C2 112 4) (zup (papC C2) 98 1 0)) → zCi shC g (d + 7) mX8_text [.ref 0, .int 3] C Q := fun d Q x y =>
    vX8_text (a8 (d + 4) _ ⟨fun _ => vX8_text_42 ⟨fun _ => vX8_text_89 ⟨fun _ => vX8_text_136 ⟨fun z => absurd rfl z, fun _ => vX3_parseWants (vX3_copy_d fun N0 hN0 => by
      rw [← hD] at hN0
      rw [hN0]
      exact q5 d _ ⟨fun z => x z, fun z => vX3_copy_a fun N1 hN => by
        rw [papC_is hN, papC_at (j := 0).2.2.2]
        exact y z⟩)⟩, fun z => absurd z (by decide)⟩, fun z => absurd z (by decide)⟩, fun z => absurd z (by decide)⟩)
  have rM : ∀ (d : Nat) (Q : Int32 → zM → Prop), (b = false → Q (-1) (zup (zup (zup M2 0 23 0) 0 30 ((zup M2 0 23 0) 0 28)) 0 32 ((zup (zup M2 0 23 0) 0 30 ((zup M2 0 23 0) 0 28)) 0 29))) → (b = true → zCi shM g' (d + 10) mX9_putsWants [.ref 0] (zup M2 0 23 0) (fun x1 M1 => Q x1 M1)) → zCi shM g' (d + 11) mX9_text [.ref 0, .int 3] M Q := fun d Q x y =>
    vX9_text (c9_isIn ⟨fun _ => a9 (d + 3) _ ⟨fun _ => ⟨fun _ => ⟨fun _ => vX9_readsWants (q6 d _ (vX9_text_84 ⟨x, fun z => ⟨fun _ => ⟨fun _ => ⟨fun _ => y z, fun z2 => absurd z2 (by decide)⟩, fun z2 => absurd z2 (by decide)⟩, fun z2 => absurd z2 (by decide)⟩⟩)), fun z => absurd z (by decide)⟩, fun z => absurd z (by decide)⟩, fun z => absurd z (by decide)⟩, fun z => absurd z (by decide)⟩)
  have m : ∀ o, o = 1 ∨ o = 2 ∨ o = 3 → M2 o = M o := fun o ho => (f3 o (by omega) (by omega)).trans (a4 o (by omega))
  have cc : ∀ o, o ≤ 97 → C2 o = C o := fun o ho => (f1 o (by omega) (by omega)).trans (a1 o (by omega))
  cases b with
  | false =>
    have hf := q2 rfl
    refine ⟨-1, _, _, ?_, fun d Q q => rC d Q (fun _ => q) fun z => absurd z (by decide), fun d Q q => rM d Q (fun _ => q) fun z => absurd z (by decide)⟩
    refine h.textF (fun o ho => by rw [zup_oth (by omega)]; exact cc o ho) (fun o ho => by rw [zup_oth (by omega), zup_oth (by omega), zup_oth (by omega)]; exact m o ho) ?_ ?_ zup_same ?_ ?_ ?_
    · rw [zup_ne (Or.inr (by omega)), zup_ne (Or.inr (by omega)), zup_ne (Or.inr (by omega)), f4 4 (by omega), a5 4 (by omega)]
    · rw [zup_ne (Or.inr (by omega)), zup_ne (Or.inr (by omega)), zup_ne (Or.inr (by omega)), f4 5 (by omega), a5 5 (by omega)]
    · rw [zup_ne (Or.inr (by omega)), zup_ne (Or.inr (by omega)), zup_same]
    · rw [zup_ne (Or.inr (by omega)), zup_ne (j := 30) (Or.inr (by omega)), zup_same, zup_ne (Or.inr (by omega))]
      exact hf.1
    · rw [zup_ne (Or.inr (by omega)), zup_same, zup_ne (Or.inr (by omega)), zup_ne (Or.inr (by omega))]
      exact hf.2
  | true =>
    obtain ⟨x6, x7, i, y1, y2, y3, y4, y5, y6, y7, y8⟩ := q3 rfl
    rw [zup_oth (by omega), d1 98 (by omega)] at x6 x7
    rw [m 1 (by omega)] at y6 y7 y8
    have g22 : zup M2 0 23 0 0 22 = iv i := by rw [zup_ne (Or.inr (by omega))]; exact y4
    refine ⟨iv i, zup (papC C2) 98 1 0, rowTo (zup M2 0 23 0) (wanR (zup M2 0 23 0) i), ?_, fun d Q q => rC d Q (fun z => absurd z (by decide)) fun _ => by rw [y3]; exact q, fun d Q q => rM d Q (fun z => absurd z (by decide)) fun _ => c9_putsWants y5 g22 q⟩
    have r0 : ∀ s, rowTo (zup M2 0 23 0) (wanR (zup M2 0 23 0) i) 0 s = zup M2 0 23 0 0 s := fun s => by rw [rowTo_o (by omega)]
    have hv1 : ∀ j, j ≠ 158 → (j < 546 ∨ 566 ≤ j) → wanR (zup M2 0 23 0) i j = M 1 j := fun j hj hj2 => by
      unfold wanR
      rw [if_neg hj, if_neg (by omega), zup_oth (by omega), m 1 (by omega)]
    have hv : ∀ j, j < 157 ∨ (159 ≤ j ∧ j < 538) ∨ 566 ≤ j → wanR (zup M2 0 23 0) i j = M 1 j := fun j hj => hv1 j (by omega) (by omega)
    have h158 : wanR (zup M2 0 23 0) i 158 = iv i := if_pos rfl
    have h546 : ∀ l, l < 2 * i → wanR (zup M2 0 23 0) i (546 + l) = M2 11 l := fun l hl => by
      unfold wanR
      rw [if_neg (by omega), if_pos (by omega), zup_oth (by omega), show 546 + l - 546 = l by omega]
    have ti : (iv i).toInt = i := iv_toInt (by omega) (by omega)
    have cl : ∀ o, o ≤ 97 → ¬ (22 ≤ o ∧ o ≤ 25) → zup (papC C2) 98 1 0 o = C o := fun o a b => by
      rw [zup_oth (by omega), papC_o b]
      exact cc o a
    have rw0 : RWo (zup (papC C2) 98 1 0) 1 (wanR (zup M2 0 23 0) i) := by
      refine h.1.1.paper hv cl ⟨?_, ?_, fun l hl hq => ?_, fun l hl hq => ?_⟩ (by rw [hv1 157 (by omega) (by omega)]; exact hIS.2.2.2.2.2.1) (by rw [h158]; unfold rng; omega) (fun l hl => ?_) fun l hl hq => ?_
      · rw [hv1 157 (by omega) (by omega), zup_oth (by omega)]
        exact (papC_at (j := 0)).2.2.1.trans y6
      · rw [h158, zup_oth (by omega)]
        exact (papC_at (j := 0)).2.2.2.trans y3
      · rw [hv1 157 (by omega) (by omega)] at hq
        rw [hv1 (538 + l) (by omega) (by omega), zup_oth (by omega)]
        exact ((papC_at (j := l)).1 hl).trans (y7 l hl hq)
      · rw [h158, ti] at hq
        obtain ⟨k1, k2, k3, k4⟩ := y8 l (by omega)
        rw [h546 (2 * l) (by omega), show 547 + 2 * l = 546 + (2 * l + 1) by omega, h546 (2 * l + 1) (by omega), zup_oth (by omega), zup_oth (by omega)]
        exact ⟨((papC_at (j := l)).2.1 hl).1.trans k1, ((papC_at (j := l)).2.1 hl).2.trans k2⟩
      · rw [hv1 (538 + l) (by omega) (by omega)]
        exact hIS.2.2.2.2.2.2.2.2.2.2.2.1 l hl
      · rw [h158, ti] at hq
        obtain ⟨k1, k2, k3, k4⟩ := y8 l (by omega)
        rw [h546 (2 * l) (by omega), show 547 + 2 * l = 546 + (2 * l + 1) by omega, h546 (2 * l + 1) (by omega), hv1 157 (by omega) (by omega), hv1 150 (by omega) (by omega), hv1 151 (by omega) (by omega)]
        exact ⟨k3, k4⟩
    refine h.textR (fun o a b => cl o b (by omega)) (by rw [cl 0 (by omega) (by omega)]) ?_ ?_ ?_ ?_ zup_same ?_ ?_ ?_
    · rw [rowTo_o (by omega), zup_oth (by omega)]
      exact m 2 (by omega)
    · rw [r0, zup_ne (Or.inr (by omega)), f4 5 (by omega), a5 5 (by omega)]
    · rw [rowTo_1]
      exact ⟨rw0, fun j hj => (hv j (by omega)).trans (h.1.2 j hj)⟩
    · rw [rowTo_1, r0, zup_ne (Or.inr (by omega)), f4 4 (by omega), a5 4 (by omega), rowTo_o (by omega), zup_oth (by omega), m 3 (by omega)]
      exact (h.2.2.1.row hIS (fun j hj => hv j (by omega)) (fun j x y => hv j (by omega)) (by rw [hv 2 (by omega)]; exact Int.le_refl _)).keep (by rw [cl 0 (by omega) (by omega)]) fun o a b => cl o b (by omega)
    · rw [r0, zup_same]
    · rw [r0, zup_ne (Or.inr (by omega)), zup_ne (Or.inr (by omega)), f4 30 (by omega), a6, papC_o (by omega)]
      exact x6.trans a2
    · rw [r0, zup_ne (Or.inr (by omega)), zup_ne (Or.inr (by omega)), f4 32 (by omega), a7, papC_o (by omega)]
      exact x7.trans a3
end T3
