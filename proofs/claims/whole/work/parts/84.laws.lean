/-! A LAW, both sides -/
section LW
variable {g g' : zG} {t : Nat → Int32} {n : Nat}
theorem ivz : (iv (0 : Nat) : Int32) = 0 := rfl
theorem i400 {i : Nat} (h : i < 400) : ¬ (400 : Int32) ≤ iv i := fun x => by
  rw [Int32.le_iff_toInt_le, iv_toInt (by omega) (by omega)] at x
  simp only [Int32.reduceToInt] at x
  omega
/-- how the reading of a law ends -/
def PLw (C M : zM) (b : Bool) (C' M' : zM) : Prop := FrX C M C' M' ∧ (b = false → Flt C' M') ∧ (b = true → C' 98 6 = C 98 6 ∧ C' 98 7 = C 98 7 ∧ ∃ k i : Nat, LK k C' M' ∧ LNs i k C' M' ∧ k ≤ 400)
theorem s_lawL : ∀ (N p e k i j : Nat) (C M : zM), n - p < N → TK t n 1 p e C M → LK k C M → k ≤ p → LNs i k C M → j ≤ p → ∃ (b : Bool) (C' M' : zM), PLw C M b C' M' ∧ (∀ (d : Nat) (Q : Bool → zM → Prop), Q b C' → zW shC g (d + 27) mX1_parse (zz Q) 6 [(0, .ref 105), (1, .ref 98), (2, .int (iv j))] [] C) ∧ ∀ (d : Nat) (Q : Bool → zM → Prop), Q b M' → zW shM g' (d + 40) mX9_readsLaw (zz Q) 12 [(0, .ref 0), (1, .int 1)] [] M := by
  intro N
  induction N with
  | zero => intro p e k i j C M hN; omega
  | succ N ih =>
    intro p e k i j C M hN h hk hkp hn hj
    have hl := h.len
    by_cases c : M 0 25 = 0
    · refine ⟨true, C, M, ⟨FrX.rfl, fun z => absurd z (by decide), fun _ => ⟨rfl, rfl, k, i, hk, hn, by omega⟩⟩, fun d Q q => vX1_parse_6 ⟨fun _ => q, fun _ => q_isEnd h ⟨fun _ => q, fun z => absurd c (of_decide_eq_false z)⟩⟩, fun d Q q => vX9_readsLaw_12 ⟨fun z => absurd z (by decide), fun _ => ⟨fun _ => ⟨true, rfl, q⟩, fun z => absurd c z⟩⟩⟩
    · have hlt := h.lt c
      obtain ⟨b, C1, M1, q1, q2, q3, q5, q6⟩ := s_line (g := g) (g' := g') h hk hkp hn
      have rC : ∀ (d : Nat) (Q : Bool → zM → Prop), (b = true → zW shC g (d + 27) mX1_parse (zz Q) 6 [(0, .ref 105), (1, .ref 98), (2, .int (iv (j + 1 : Nat)))] [] C1) → (b = false → Q false C1) → zW shC g (d + 27) mX1_parse (zz Q) 6 [(0, .ref 105), (1, .ref 98), (2, .int (iv j))] [] C := fun d Q x y => by
        refine vX1_parse_6 ⟨fun z => absurd z (i400 (by omega)), fun _ => q_isEnd h ⟨fun z => absurd (of_decide_eq_true z) c, fun _ => q5 d _ ⟨fun z => ?_, y⟩⟩⟩
        rw [iv_s]
        exact x z
      have rM : ∀ (d : Nat) (Q : Bool → zM → Prop), ((b = false → zW shM g' (d + 40) mX9_readsLaw (zz Q) 12 [(0, .ref 0), (1, .int (zbI b))] [] (zup M1 0 17 ((M1 0 17) + 0))) ∧ (b = true → zW shM g' (d + 40) mX9_readsLaw (zz Q) 12 [(0, .ref 0), (1, .int (zbI b))] [] (zup M1 0 17 ((M1 0 17) + 1)))) → zW shM g' (d + 40) mX9_readsLaw (zz Q) 12 [(0, .ref 0), (1, .int 1)] [] M := fun d Q x =>
        vX9_readsLaw_12 ⟨fun z => absurd z (by decide), fun _ => ⟨fun z => absurd z c, fun _ => q6 d _ x⟩⟩
      cases b with
      | false =>
        have hf := q2 rfl
        refine ⟨false, C1, zup M1 0 17 ((M1 0 17) + 0), ⟨q1.trans (FrX.m0 (by omega)), fun _ => ⟨hf.1.trans (zup_ne (Or.inr (by omega))).symm, hf.2.trans (zup_ne (Or.inr (by omega))).symm⟩, fun z => absurd z (by decide)⟩, fun d Q q => rC d Q (fun z => absurd z (by decide)) fun _ => q, fun d Q q => rM d Q ⟨fun _ => vX9_readsLaw_12 ⟨fun _ => ⟨false, rfl, q⟩, fun z => absurd rfl z⟩, fun z => absurd z (by decide)⟩⟩
      | true =>
        obtain ⟨a6, a7, a17, p1, e1, k1, h1, l1, pp1, kp1, n1⟩ := q3 rfl
        have e17 : zup M1 0 17 ((M1 0 17) + 1) = zup M1 0 17 (iv (i + 1 : Nat)) := by rw [a17, iv_s]
        obtain ⟨b, C2, M2, ⟨j1, j2, j3⟩, j5, j6⟩ := ih p1 e1 k1 (i + 1) (j + 1) C1 (zup M1 0 17 (iv (i + 1 : Nat))) (by omega) (h1.m0 (by omega)) (l1.keep rfl rfl (zup_ne (Or.inr (by omega))) (zup_oth (by omega))) kp1 n1 (by omega)
        refine ⟨b, C2, M2, ⟨(q1.trans (FrX.m0 (by omega))).trans j1, j2, fun hb => ?_⟩, fun d Q q => rC d Q (fun _ => j5 d Q q) fun z => absurd z (by decide), fun d Q q => rM d Q ⟨fun z => absurd z (by decide), fun _ => by rw [e17]; exact j6 d Q q⟩⟩
        obtain ⟨x6, x7, x⟩ := j3 hb
        exact ⟨x6.trans a6, x7.trans a7, x⟩
theorem s_law {p e : Nat} {C M : zM} (h : TK t n 1 p e C M) : ∃ (b : Bool) (C' M' : zM), PLw C M b C' M' ∧ (∀ (d : Nat) (Q : Bool → zM → Prop), Q b C' → zCz shC g (d + 27) mX1_parse [.ref 105, .ref 98] C Q) ∧ ∀ (d : Nat) (Q : Bool → zM → Prop), Q b M' → zCz shM g' (d + 40) mX9_readsLaw [.ref 0] M Q := by
  have hk : LK 0 (zup (zup (zup C 105 1 0) 105 6 0) 105 7 0) (zup (zup M 0 17 0) 0 18 0) := ⟨by rw [zup_ne (Or.inr (by omega)), zup_ne (Or.inr (by omega)), zup_same]; rfl, zup_same, fun j hj => by omega⟩
  have hn : LNs 0 0 (zup (zup (zup C 105 1 0) 105 6 0) 105 7 0) (zup (zup M 0 17 0) 0 18 0) := ⟨by rw [zup_ne (Or.inr (by omega)), zup_same]; rfl, by rw [zup_ne (Or.inr (by omega)), zup_same]; rfl, by omega, ⟨0, by omega, zup_same, by simp⟩, fun j hj => by omega⟩
  obtain ⟨b, C', M', ⟨h1, h2, h3⟩, h5, h6⟩ := s_lawL (g := g) (g' := g') (n + 1) p e 0 0 0 _ _ (by omega) ((((h.c (o := 105) (i := 1) (x := 0) (by omega)).c (o := 105) (i := 6) (x := 0) (by omega)).c (o := 105) (i := 7) (x := 0) (by omega)).m0 (i := 17) (x := 0) (by omega) |>.m0 (i := 18) (x := 0) (by omega)) hk (by omega) hn (by omega)
  refine ⟨b, C', M', ⟨((((FrX.c (by omega)).trans (FrX.c (by omega))).trans (FrX.c (by omega))).trans ((FrX.m0 (by omega)).trans (FrX.m0 (by omega)))).trans h1, h2, fun hb => ?_⟩, fun d Q q => vX1_parse (vX1_clear_b (h5 d Q q)), fun d Q q => vX9_readsLaw (h6 d Q q)⟩
  obtain ⟨x6, x7, x⟩ := h3 hb
  rw [zup_oth (by omega), zup_oth (by omega), zup_oth (by omega)] at x6 x7
  exact ⟨x6, x7, x⟩
end LW
/-- the row of the reference with a new law -/
def lawR (M : zM) (i k : Nat) : Nat → Int32 := fun j => if j = 156 then iv i else if 1316 ≤ j ∧ j < 1316 + i then M 5 (4 * (j - 1316)) else if 1332 ≤ j ∧ j < 1332 + i then M 5 (4 * (j - 1332) + 1) else if 1348 ≤ j ∧ j < 1348 + i then M 5 (4 * (j - 1348) + 2) else if 1364 ≤ j ∧ j < 1364 + i then M 5 (4 * (j - 1364) + 3) else if 1380 ≤ j ∧ j < 1380 + 2 * k then M 6 (j - 1380) else M 1 j
section LP
variable {g' : zG} {d : Nat} {Q : Int32 → zM → Prop}
theorem c9_putsLaw {M : zM} {i k : Nat} (hi : i ≤ 16) (hk : k ≤ 400) (h17 : M 0 17 = iv i) (h18 : M 0 18 = iv k) (h : ∀ M', (∀ o, o ≠ 1 → M' o = M o) → M' 1 = lawR M i k → Q (iv i) M') : zCi shM g' d mX9_putsLaw [.ref 0] M Q := by
  have e2 : (2 : Int32) * iv k = iv (2 * k : Nat) := by
    rw [show (2 : Int32) = iv 2 from rfl, iv_mul]
    rfl
  -- the codes
  have codes : ∀ (m j : Nat) (N : zM), j + m = 2 * k → (∀ o, o ≠ 1 → N o = M o) → (∀ x, N 1 x = (if 1380 ≤ x ∧ x < 1380 + j then M 6 (x - 1380) else if 1380 ≤ x then M 1 x else lawR M i k x)) → zW shM g' d mX9_putsLaw (zi Q) 108 [(0, .ref 0), (1, .int (iv j))] [] N := by
    intro m
    induction m with
    | zero =>
      intro j N hj ho h1
      refine vX9_putsLaw_108 ⟨fun _ => ?_, fun z => absurd ?_ z⟩
      · rw [ho 0 (by omega), h17]
        refine h N ho (funext fun x => ?_)
        rw [h1]
        unfold lawR
        split
        · rw [if_neg (by omega), if_neg (by omega), if_neg (by omega), if_neg (by omega), if_neg (by omega), if_pos (by omega)]
        · split
          · rw [if_neg (by omega), if_neg (by omega), if_neg (by omega), if_neg (by omega), if_neg (by omega), if_neg (by omega)]
          · rfl
      · rw [ho 0 (by omega), h18, e2, Int32.le_iff_toInt_le, iv_toInt (by omega) (by omega), iv_toInt (by omega) (by omega)]
        omega
    | succ m ih =>
      intro j N hj ho h1
      refine vX9_putsLaw_108 ⟨fun z => ?_, fun _ => ⟨j, rfl, by omega, 1380 + j, ?_, by omega, ?_⟩⟩
      · rw [ho 0 (by omega), h18, e2, Int32.le_iff_toInt_le, iv_toInt (by omega) (by omega), iv_toInt (by omega) (by omega)] at z
        omega
      · exact iv_add 1380 j
      · rw [iv_s]
        refine ih (j + 1) _ (by omega) (fun o a => by rw [zup_oth a]; exact ho o a) fun x => ?_
        rw [zup_row, ho 6 (by omega)]
        by_cases e : x = 1380 + j
        · rw [e, upd_at, if_pos (by omega), show 1380 + j - 1380 = j by omega]
        · rw [upd_ne e, h1]
          by_cases c : 1380 ≤ x ∧ x < 1380 + j
          · rw [if_pos c, if_pos (by omega)]
          · rw [if_neg c, if_neg (by omega : ¬ (1380 ≤ x ∧ x < 1380 + (j + 1)))]
  -- the lines
  have e4 : ∀ j x : Nat, (4 : Int32) * iv j + iv x = iv (4 * j + x : Nat) := fun j x => by
    rw [show (4 : Int32) = iv 4 from rfl, iv_mul, iv_add]
    rfl
  have e40 : ∀ j : Nat, (4 : Int32) * iv j = iv (4 * j : Nat) := fun j => by
    rw [show (4 : Int32) = iv 4 from rfl, iv_mul]
    rfl
  have linesL : ∀ (m j : Nat) (N : zM), j + m = i → (∀ o, o ≠ 1 → N o = M o) → (∀ x, N 1 x = (if x < 1380 then lawR M j 0 x else M 1 x) ∨ (x = 156 ∧ N 1 x = iv i)) → N 1 156 = iv i → zW shM g' d mX9_putsLaw (zi Q) 14 [(0, .ref 0), (1, .int (iv j))] [] N := by
    intro m
    induction m with
    | zero =>
      intro j N hj ho h1 h156
      obtain rfl : j = i := by omega
      refine vX9_putsLaw_14 ⟨fun _ => codes (2 * k) 0 N (by omega) ho fun x => ?_, fun z => absurd ?_ z⟩
      · rw [if_neg (by omega : ¬ (1380 ≤ x ∧ x < 1380 + 0))]
        rcases h1 x with h1 | ⟨h1, h2⟩
        · rw [h1]
          by_cases c : x < 1380
          · rw [if_pos c, if_neg (by omega)]
            unfold lawR
            split
            · rfl
            · split
              · rfl
              · split
                · rfl
                · split
                  · rfl
                  · split
                    · rfl
                    · rw [if_neg (by omega), if_neg (by omega)]
          · rw [if_neg c, if_pos (by omega)]
        · rw [h2, if_neg (by omega), h1]
          unfold lawR
          rw [if_pos rfl]
      · rw [ho 0 (by omega), h17]
        exact Int32.le_refl _
    | succ m ih =>
      intro j N hj ho h1 h156
      have o5 := ho 5 (by omega)
      refine vX9_putsLaw_14 ⟨fun z => ?_, fun _ => ⟨4 * j, e40 j, by omega, 1316 + j, iv_add 1316 j, by omega, 4 * j + 1, e4 j 1, by omega, 1332 + j, iv_add 1332 j, by omega, 4 * j + 2, e4 j 2, by omega, 1348 + j, iv_add 1348 j, by omega, 4 * j + 3, e4 j 3, by omega, 1364 + j, iv_add 1364 j, by omega, fun N1 hN1 => ?_⟩⟩
      · rw [ho 0 (by omega), h17, Int32.le_iff_toInt_le, iv_toInt (by omega) (by omega), iv_toInt (by omega) (by omega)] at z
        omega
      · rw [iv_s]
        have r1 : N1 1 = upd (upd (upd (upd (N 1) (1316 + j) (M 5 (4 * j))) (1332 + j) (M 5 (4 * j + 1))) (1348 + j) (M 5 (4 * j + 2))) (1364 + j) (M 5 (4 * j + 3)) := by
          rw [hN1]
          simp only [zup_row, zup_oth (show (5 : Nat) ≠ 1 by decide), o5]
        refine ih (j + 1) N1 (by omega) (fun o a => by rw [hN1, zup_oth a, zup_oth a, zup_oth a, zup_oth a]; exact ho o a) (fun x => ?_) (by rw [r1, upd_ne (by omega), upd_ne (by omega), upd_ne (by omega), upd_ne (by omega)]; exact h156)
        by_cases e156 : x = 156
        · refine Or.inr ⟨e156, ?_⟩
          rw [e156, r1, upd_ne (by omega), upd_ne (by omega), upd_ne (by omega), upd_ne (by omega)]
          exact h156
        · refine Or.inl ?_
          rw [r1]
          have h1x := (h1 x).resolve_right fun z => e156 z.1
          by_cases a1 : x = 1316 + j
          · rw [a1, upd_ne (by omega), upd_ne (by omega), upd_ne (by omega), upd_at, if_pos (by omega)]
            unfold lawR
            rw [if_neg (by omega), if_pos (by omega), show 1316 + j - 1316 = j by omega]
          · by_cases a2 : x = 1332 + j
            · rw [a2, upd_ne (by omega), upd_ne (by omega), upd_at, if_pos (by omega)]
              unfold lawR
              rw [if_neg (by omega), if_neg (by omega), if_pos (by omega), show 1332 + j - 1332 = j by omega]
            · by_cases a3 : x = 1348 + j
              · rw [a3, upd_ne (by omega), upd_at, if_pos (by omega)]
                unfold lawR
                rw [if_neg (by omega), if_neg (by omega), if_neg (by omega), if_pos (by omega), show 1348 + j - 1348 = j by omega]
              · by_cases a4 : x = 1364 + j
                · rw [a4, upd_at, if_pos (by omega)]
                  unfold lawR
                  rw [if_neg (by omega), if_neg (by omega), if_neg (by omega), if_neg (by omega), if_pos (by omega), show 1364 + j - 1364 = j by omega]
                · rw [upd_ne a4, upd_ne a3, upd_ne a2, upd_ne a1, h1x]
                  by_cases c : x < 1380
                  · rw [if_pos c, if_pos c]
                    unfold lawR
                    rw [if_neg e156, if_neg e156]
                    by_cases b1 : 1316 ≤ x ∧ x < 1316 + j
                    · rw [if_pos b1, if_pos (by omega)]
                    · rw [if_neg b1, if_neg (by omega : ¬ (1316 ≤ x ∧ x < 1316 + (j + 1)))]
                      by_cases b2 : 1332 ≤ x ∧ x < 1332 + j
                      · rw [if_pos b2, if_pos (by omega)]
                      · rw [if_neg b2, if_neg (by omega : ¬ (1332 ≤ x ∧ x < 1332 + (j + 1)))]
                        by_cases b3 : 1348 ≤ x ∧ x < 1348 + j
                        · rw [if_pos b3, if_pos (by omega)]
                        · rw [if_neg b3, if_neg (by omega : ¬ (1348 ≤ x ∧ x < 1348 + (j + 1)))]
                          by_cases b4 : 1364 ≤ x ∧ x < 1364 + j
                          · rw [if_pos b4, if_pos (by omega)]
                          · rw [if_neg b4, if_neg (by omega : ¬ (1364 ≤ x ∧ x < 1364 + (j + 1)))]
                  · rw [if_neg c, if_neg c]
  refine vX9_putsLaw (linesL i 0 _ (by omega) (fun o a => zup_oth a) (fun x => ?_) (by rw [zup_same]; exact h17))
  by_cases e : x = 156
  · exact Or.inr ⟨e, by rw [e, zup_same]; exact h17⟩
  · refine Or.inl ?_
    rw [zup_ne (Or.inr e)]
    unfold lawR
    by_cases c : x < 1380
    · rw [if_pos c, if_neg e, if_neg (by omega), if_neg (by omega), if_neg (by omega), if_neg (by omega), if_neg (by omega)]
    · rw [if_neg c]
end LP
