/-! A CLAUSE, both sides -/
theorem Ty.mono {L L' a k : Nat} {s : List Bool} {M : zM} (h : Ty L M a k s) (hl : L' ≤ L) : Ty L' M a k s := ⟨h.1, fun ts x => h.2 ts (by omega)⟩
section CL
variable {g g' : zG} {t : Nat → Int32} {n : Nat}
/-- the comparison that stands here, as each of both names it -/
theorem s_cmp {p e : Nat} {C M : zM} (h : TK t n 1 p e C M) : (¬ M 0 25 = 160 ∧ ¬ M 0 25 = 161 ∧ ¬ M 0 25 = 162 ∧ ∀ (d : Nat) (Q : Int32 → zM → Prop), Q (-1) C → zCi shC g (d + 1) mX1_comparisonTold [.ref 98] C Q) ∨
    ∃ x s : Int32, RCode x s 0 ∧ 27 ≤ s.toInt ∧ s.toInt ≤ 29 ∧ ¬ x = -1 ∧ ¬ M 0 25 = 0 ∧ (∀ (d : Nat) (Q : Int32 → zM → Prop), Q x C → zCi shC g (d + 1) mX1_comparisonTold [.ref 98] C Q) ∧ ((M 0 25 = 160 ∧ s = 27) ∨ (M 0 25 = 161 ∧ s = 28) ∨ (M 0 25 = 162 ∧ s = 29)) := by
  by_cases c1 : M 0 25 = 160
  · refine Or.inr ⟨7, 27, rc_op.2.2.2.1, by decide, by decide, by decide, by rw [c1]; decide, fun d Q q => ?_, Or.inl ⟨c1, rfl⟩⟩
    exact vX1_comparisonTold (q_isSign h (c := 60) (x := 160) (by unfold isSg; simp only [true_or, or_true]) (by decide) ⟨fun z => absurd c1 (of_decide_eq_false z), fun _ => q⟩)
  · by_cases c2 : M 0 25 = 161
    · refine Or.inr ⟨8, 28, rc_op.2.2.2.2.1, by decide, by decide, by decide, by rw [c2]; decide, fun d Q q => ?_, Or.inr (Or.inl ⟨c2, rfl⟩)⟩
      exact vX1_comparisonTold (q_isSign h (c := 60) (x := 160) (by unfold isSg; simp only [true_or, or_true]) (by decide) ⟨fun _ => q_isSign h (c := 61) (x := 161) (by unfold isSg; simp only [true_or, or_true]) (by decide) ⟨fun z => absurd c2 (of_decide_eq_false z), fun _ => q⟩, fun z => absurd (of_decide_eq_true z) c1⟩)
    · by_cases c3 : M 0 25 = 162
      · refine Or.inr ⟨9, 29, rc_op.2.2.2.2.2.1, by decide, by decide, by decide, by rw [c3]; decide, fun d Q q => ?_, Or.inr (Or.inr ⟨c3, rfl⟩)⟩
        exact vX1_comparisonTold (q_isSign h (c := 60) (x := 160) (by unfold isSg; simp only [true_or, or_true]) (by decide) ⟨fun _ => q_isSign h (c := 61) (x := 161) (by unfold isSg; simp only [true_or, or_true]) (by decide) ⟨fun _ => q_isSign h (c := 62) (x := 162) (by unfold isSg; simp only [true_or, or_true]) (by decide) ⟨fun z => absurd c3 (of_decide_eq_false z), fun _ => q⟩, fun z => absurd (of_decide_eq_true z) c2⟩, fun z => absurd (of_decide_eq_true z) c1⟩)
      · refine Or.inl ⟨c1, c2, c3, fun d Q q => ?_⟩
        exact vX1_comparisonTold (q_isSign h (c := 60) (x := 160) (by unfold isSg; simp only [true_or, or_true]) (by decide) ⟨fun _ => q_isSign h (c := 61) (x := 161) (by unfold isSg; simp only [true_or, or_true]) (by decide) ⟨fun _ => q_isSign h (c := 62) (x := 162) (by unfold isSg; simp only [true_or, or_true]) (by decide) ⟨fun _ => q, fun z => absurd (of_decide_eq_true z) c3⟩, fun z => absurd (of_decide_eq_true z) c2⟩, fun z => absurd (of_decide_eq_true z) c1⟩)
theorem ty_cmp {s : Int} {r : List Bool} (h7 : 27 ≤ s) (h25 : s ≤ 29) : tyStep s (false :: false :: r) = some (true :: r) := by
  unfold tyStep
  rw [if_neg (by omega), if_neg (by omega), if_neg (by omega), if_neg (by omega), if_pos h25]
/-- a comparison of two sums -/
theorem s_test {p e k o r : Nat} {C M : zM} (h : TK t n 1 p e C M) (hk : LK k C M) (hkp : k ≤ p) (n6 : ¬ M 0 25 = 6) (n40 : ¬ M 0 25 = 140) (ho : o + r = 8) : ∃ (b : Bool) (C' M' : zM), PL t n p k 0 (22 + 2 * o) k [true] C M b C' M' ∧ (b = true → p < (M' 0 26).toInt) ∧ (∀ (d : Nat) (Q : Bool → zM → Prop), Q b C' → zCz shC g (d + 2 * r + 8) mX1_parseClause [.ref 105, .ref 98, .int (iv o)] C Q) ∧ ∀ (d : Nat) (Q : Bool → zM → Prop), Q b M' → zCz shM g' (d + 3 * r + 12) mX9_oneTest [.ref 0] M Q := by
  have rC0 : ∀ (d : Nat) (Q : Bool → zM → Prop), zCz shC g (d + 2 * r + 7) mX1_parseSum [.ref 105, .ref 98] C (fun b1 M1 => (b1 = true → zCi shC g (d + 2 * r + 7) mX1_comparisonTold [.ref 98] M1 (fun x1 M2 => (¬ x1 = (-1) → zCv shC g (d + 2 * r + 7) mX5_next [.ref 98] M2 (fun M3 => zCz shC g (d + 2 * r + 7) mX1_parseSum [.ref 105, .ref 98] M3 (fun b2 M4 => zCv shC g (d + 2 * r + 7) mX1_emitIf [.ref 105, .int (zbI b2), .int x1] M4 (fun M5 => Q b2 M5)))) ∧ (x1 = (-1) → zCz shC g (d + 2 * r + 7) mX5_fail [.ref 98, .int 1] M2 (fun b2 M3 => Q b2 M3)))) ∧ (b1 = false → Q false M1)) → zCz shC g (d + 2 * r + 8) mX1_parseClause [.ref 105, .ref 98, .int (iv o)] C Q := fun d Q x =>
    vX1_parseClause (q_isWord h (d := d + 2 * r + 3) (k := 6) (x := 6) (by decide) rfl (q_isSign h (c := 40) (x := 140) (by unfold isSg; simp only [true_or, or_true]) (by decide) ⟨fun z => absurd (of_decide_eq_true z) n6, fun _ => ⟨fun _ => vX1_parseClause_36 ⟨fun _ => ⟨fun _ => x, fun z => absurd (of_decide_eq_true z) n40⟩, fun z => absurd (of_decide_eq_true z) n6⟩, fun z => absurd (of_decide_eq_true z) n40⟩⟩))
  obtain ⟨b, C1, M1, ⟨q1, q2, q3⟩, q4, q5, q6⟩ := s_sum (g := g) (g' := g') h hk hkp
  cases b with
  | false => exact ⟨false, C1, M1, ⟨q1, fun _ => q2 rfl, fun z => absurd z (by decide)⟩, fun z => absurd z (by decide), fun d Q q => rC0 d Q (q5 (d + 2 * r + 1) _ ⟨fun z => absurd z (by decide), fun _ => q⟩), fun d Q q => vX9_oneTest ⟨fun _ => ⟨fun _ => q6 (d + 3 * r + 1) _ ⟨fun z => absurd z (by decide), fun _ => q⟩, fun z => absurd z n40⟩, fun z => absurd z n6⟩⟩
  | true =>
    obtain ⟨r1, r2, p1, e1, k1, h1, l1, pp1, kk1, kp1, ty1⟩ := q3 rfl
    have hl1 := h1.len
    have pl1 : p < p1 := by
      have := q4 rfl
      rw [h1.2.2.1, iv_toInt (by omega) (by omega)] at this
      omega
    rcases s_cmp (g := g) h1 with ⟨c1, c2, c3, cC⟩ | ⟨x, s, hr, h27, h29, hx, hz, cC, cM⟩
    · exact ⟨false, FC C1 1, FM M1 1, ⟨q1.trans FrL.off, fun _ => Flt.ofe h1, fun z => absurd z (by decide)⟩, fun z => absurd z (by decide), fun d Q q => rC0 d Q (q5 (d + 2 * r + 1) _ ⟨fun _ => cC (d + 2 * r + 6) _ ⟨fun z => absurd rfl z, fun _ => c7_fail q⟩, fun z => absurd z (by decide)⟩), fun d Q q => vX9_oneTest ⟨fun _ => ⟨fun _ => q6 (d + 3 * r + 1) _ ⟨fun _ => ⟨fun _ => ⟨fun _ => ⟨fun _ => vX9_oneTest_147 ⟨fun z => absurd rfl z, fun _ => c9_bad q⟩, fun z => absurd z c3⟩, fun z => absurd z c2⟩, fun z => absurd z c1⟩, fun z => absurd z (by decide)⟩, fun z => absurd z n40⟩, fun z => absurd z n6⟩⟩
    · have hs1 : ¬ s = -1 := fun z => by
        rw [z] at h27
        exact absurd h27 (by decide)
      have rM0 : ∀ (d : Nat) (Q : Bool → zM → Prop), zW shM g' (d + 3 * r + 12) mX9_oneTest (zz Q) 147 [(0, .ref 0)] [.int s] M1 → zCz shM g' (d + 3 * r + 12) mX9_oneTest [.ref 0] M Q := fun d Q w =>
        vX9_oneTest ⟨fun _ => ⟨fun _ => q6 (d + 3 * r + 1) _ ⟨fun _ => by
          rcases cM with ⟨a, b⟩ | ⟨a, b⟩ | ⟨a, b⟩ <;> rw [b] at w <;> rw [a]
          · exact ⟨fun z => absurd rfl z, fun _ => w⟩
          · exact ⟨fun _ => ⟨fun z => absurd rfl z, fun _ => w⟩, fun z => absurd z (by decide)⟩
          · exact ⟨fun _ => ⟨fun _ => ⟨fun z => absurd rfl z, fun _ => w⟩, fun z => absurd z (by decide)⟩, fun z => absurd z (by decide)⟩, fun z => absurd z (by decide)⟩, fun z => absurd z n40⟩, fun z => absurd z n6⟩
      obtain ⟨p2, e2, C2, M2, h2, hp2, o1, o2, w1, w2⟩ := s_step (g := g) (g' := g') h1 hz
      obtain ⟨b, C3, M3, ⟨j1, j2, j3⟩, j4, j5, j6⟩ := s_sum (g := g) (g' := g') h2 (l1.ofn o1 o2) (by omega)
      have f2 := q1.trans (FrL.ofn o1 o2)
      have rC : ∀ (d : Nat) (Q : Bool → zM → Prop), zCv shC g (d + 2 * r + 7) mX1_emitIf [.ref 105, .int (zbI b), .int x] C3 (fun M5 => Q b M5) → zCz shC g (d + 2 * r + 8) mX1_parseClause [.ref 105, .ref 98, .int (iv o)] C Q := fun d Q w =>
        rC0 d Q (q5 (d + 2 * r + 1) _ ⟨fun _ => cC (d + 2 * r + 6) _ ⟨fun _ => w1 (d + 2 * r + 6) _ (j5 (d + 2 * r + 1) _ w), fun z => absurd z hx⟩, fun z => absurd z (by decide)⟩)
      cases b with
      | false => exact ⟨false, C3, M3, ⟨f2.trans j1, fun _ => j2 rfl, fun z => absurd z (by decide)⟩, fun z => absurd z (by decide), fun d Q q => rC d Q (c7_emitIf (k := k) (fun z => absurd z (by decide)) fun _ => q), fun d Q q => rM0 d Q (vX9_oneTest_147 ⟨fun _ => w2 (d + 3 * r + 4) _ (j6 (d + 3 * r + 1) _ ⟨fun z => absurd z (by decide), fun _ => q⟩), fun z => absurd z hs1⟩)⟩
      | true =>
        obtain ⟨v1, v2, p3, e3, k3, h3, l3, pp3, kk3, kp3, ty3⟩ := j3 rfl
        have hl3 := h3.len
        have k400 : k3 < 400 := by omega
        have tya : Ty (22 + 2 * o) M3 k k3 [false, false] := Ty.app (((ty1.pre (Pre.ofn (k := k1) o1 o2)).pre v2).mono (by omega)) ty3 (by rw [List.length_singleton]; omega)
        obtain ⟨a1, a2, a3, a4, a5, a6⟩ := s_op h3 l3 hr tya (r := [true]) (fun ts => ty_cmp h27 h29) (by rw [List.length_cons, List.length_singleton]; omega)
        have h26 : (EM M3 k3 s 0 0 26).toInt = p3 := by rw [a1.2.2.1, iv_toInt (by omega) (by omega)]
        refine ⟨true, EC C3 k3 x, EM M3 k3 s 0, ⟨(f2.trans j1).trans FrL.ofe, fun z => absurd z (by decide), fun _ => ⟨a5.trans (v1.trans ((o2.2 31 (by omega)).trans r1)), ((r2.trans kk1 (Pre.ofn o1 o2)).trans kk1 v2).trans (by omega) a3, p3, e3, k3 + 1, a1, a2, by omega, by omega, by omega, a4⟩⟩, fun _ => by omega, fun d Q q => rC d Q (c7_emitIf (k := k3) (fun _ => ⟨l3.1, k400, q⟩) fun z => absurd z (by decide)), fun d Q q => rM0 d Q (vX9_oneTest_147 ⟨fun _ => w2 (d + 3 * r + 4) _ (j6 (d + 3 * r + 1) _ ⟨fun _ => c9_lay l3.2.1 k400 q, fun z => absurd z (by decide)⟩), fun z => absurd z hs1⟩)⟩
/-- none may be opened any more -/
theorem s_deep {p e k : Nat} {C M : zM} (h : TK t n 1 p e C M) (h31 : M 0 31 = iv (8 : Nat)) (hop : M 0 25 = 6 ∨ M 0 25 = 140) : ∃ (b : Bool) (C' M' : zM), PL t n p k 0 (22 + 2 * 8) k [true] C M b C' M' ∧ (b = true → p < (M' 0 26).toInt) ∧ (∀ (d : Nat) (Q : Bool → zM → Prop), Q b C' → zCz shC g (d + 8) mX1_parseClause [.ref 105, .ref 98, .int (iv (8 : Nat))] C Q) ∧ ∀ (d : Nat) (Q : Bool → zM → Prop), Q b M' → zCz shM g' (d + 12) mX9_oneTest [.ref 0] M Q := by
  refine ⟨false, FC C 3, FM M 3, ⟨FrL.off, fun _ => Flt.ofe h, fun z => absurd z (by decide)⟩, fun z => absurd z (by decide), fun d Q q => ?_, fun d Q q => ?_⟩
  · have w : ∀ l3 l4 : Bool, zW shC g (d + 8) mX1_parseClause (zz Q) 24 [(0, .ref 105), (1, .ref 98), (2, .int (iv (8 : Nat))), (3, .int (zbI l3)), (4, .int (zbI l4))] [] C := fun l3 l4 => vX1_parseClause_24 ⟨fun z => absurd z (by decide), fun _ => c7_fail q⟩
    refine vX1_parseClause (q_isWord h (d := d + 3) (k := 6) (x := 6) (by decide) rfl (q_isSign h (c := 40) (x := 140) (by unfold isSg; simp only [true_or, or_true]) (by decide) ⟨fun _ => w _ _, fun z => ⟨fun z2 => ?_, fun _ => w _ _⟩⟩))
    exact absurd hop fun y => y.elim (of_decide_eq_false z) (of_decide_eq_false z2)
  · have w : ∀ Q2 : Bool → zM → Prop, Q2 false (FM M 3) → zCz shM g' (d + 11) mX9_opens [.ref 0] M Q2 := fun Q2 q2 => vX9_opens ⟨fun z => absurd h31 z, fun _ => c9_bad q2⟩
    refine vX9_oneTest ⟨fun z => ⟨fun z2 => ?_, fun _ => w _ ⟨fun _ => q, fun z => absurd z (by decide)⟩⟩, fun _ => w _ ⟨fun _ => q, fun z => absurd z (by decide)⟩⟩
    exact absurd hop fun y => y.elim z z2
end CL
