/-! THE WAY OF ONE SKATER, both sides, behind its number -/
section WL
variable {g g' : zG} {t : Nat → Int32} {n : Nat}
theorem s_wayL {s : Nat} (hs : s < 6) : ∀ (N p e j pk : Nat) (C M : zM), n - p < N → TK t n 0 p e C M → pk ≤ 1 → Sk s C M (iv pk) → j + 1 ≤ p → ∃ (b : Bool) (C' M' : zM), FrX C M C' M' ∧ (b = false → Flt C' M') ∧ (b = true → C' 98 6 = C 98 6 ∧ C' 98 7 = C 98 7 ∧ C' 104 = C 104 ∧ C' 100 4 = C 100 4 + 1 ∧ M' 0 19 = M 0 19 + 1 ∧ M' 0 20 = M 0 20 ∧ (∃ p' e' : Nat, TK t n 0 p' e' C' M' ∧ p < p') ∧ Sk s C' M' (M' 9 s) ∧ (∀ u, u ≠ s → M' 9 u = M 9 u) ∧ (∀ u sk, u ≠ s → Sk u C M sk → Sk u C' M' sk) ∧ ∀ u, u ≠ s → M' 8 u = M 8 u) ∧
    (∀ (d : Nat) (Q : Bool → zM → Prop), Q b C' → zW shC g (d + 7) mX6_parseLine (zz Q) 70 [(0, .ref 100), (1, .ref 98), (3, .int (iv s)), (4, .int (iv j))] [] C) ∧ ∀ (d : Nat) (Q : Bool → zM → Prop), Q b M' → zW shM g' (d + 10) mX9_aWay (zz Q) 98 [(0, .ref 0), (1, .int (iv s)), (2, .int (iv pk))] [] M := by
  intro N
  induction N with
  | zero => intro p e j pk C M hN; omega
  | succ N ih =>
    intro p e j pk C M hN h hpk hsk hj
    have hl := h.len
    have j400 := i400 (i := j) (by omega)
    -- the class, when the token ends no way
    have rC : ∀ (d : Nat) (Q : Bool → zM → Prop), ¬ M 0 25 = 159 → zCz shC g (d + 6) mX6_parsePart [.ref 100, .ref 98, .int (iv s)] C (fun b2 M2 => (b2 = true → zW shC g (d + 7) mX6_parseLine (zz Q) 70 [(0, .ref 100), (1, .ref 98), (3, .int (iv s)), (4, .int (iv (j + 1 : Nat)))] [] M2) ∧ (b2 = false → Q false M2)) → zW shC g (d + 7) mX6_parseLine (zz Q) 70 [(0, .ref 100), (1, .ref 98), (3, .int (iv s)), (4, .int (iv j))] [] C := fun d Q x y =>
      vX6_parseLine_70 ⟨fun z => absurd z j400, fun _ => q_isSign h (c := 59) (x := 159) (by unfold isSg; simp only [true_or, or_true]) (by decide) ⟨fun z => absurd (of_decide_eq_true z) x, fun _ => by
        rw [iv_s]
        exact y⟩⟩
    have inq : ∀ x y : Int, (x ≤ (M 0 25).toInt ∧ (M 0 25).toInt ≤ y) → ∀ a b : Int32, a.toInt = x → b.toInt = y → isInB (M 0 25) a b = true := fun x y hxy a b ha hb => by
      simp only [isInB, decide_eq_true_eq, decide_eq_false_iff_not]
      omega
    have i11 : (11 : Int32).toInt = 11 := rfl
    have i17 : (17 : Int32).toInt = 17 := rfl
    have i16 : (16 : Int32).toInt = 16 := rfl
    have i159 : (159 : Int32).toInt = 159 := rfl
    by_cases cm : M 0 25 = 16 ∨ M 0 25 = 17
    · obtain ⟨tl, pk', htl, hpk', hmk, hx, hcm, hrm⟩ : ∃ tl pk' : Nat, 1 ≤ tl ∧ pk' ≤ 1 ∧ (∀ x, (pk' : Int) = mkd tl x) ∧ tl ≤ 2 ∧ (∀ (d : Nat) (Q : Int32 → zM → Prop), Q (iv tl) C → zCi shC g (d + 5) mX6_markTold [.ref 98] C Q) ∧ ∀ (d : Nat) (Q : Bool → zM → Prop), zCv shM g' (d + 9) mX9_next0 [.ref 0] M (fun M2 => zW shM g' (d + 10) mX9_aWay (zz Q) 98 [(0, .ref 0), (1, .int (iv s)), (2, .int (iv pk'))] [] M2) → zW shM g' (d + 10) mX9_aWay (zz Q) 98 [(0, .ref 0), (1, .int (iv s)), (2, .int (iv pk))] [] M := by
        rcases cm with c | c
        · have h25 : (M 0 25).toInt = 16 := by rw [c]; rfl
          refine ⟨1, 0, by omega, by omega, fun x => rfl, by omega, fun d Q q => c7_markTold h (fun _ => q) (fun z => absurd (c.symm.trans z) (by decide)) fun z => absurd c z, fun d Q q => vX9_aWay_98 (c9_isIn ?_)⟩
          rw [inq 11 17 (by omega) 11 17 i11 i17]
          exact ⟨fun z => absurd z (by decide), fun _ => ⟨fun z => absurd z (by rw [c]; decide), fun _ => ⟨fun _ => q, fun z => absurd (c.symm.trans z) (by decide)⟩⟩⟩
        · have h25 : (M 0 25).toInt = 17 := by rw [c]; rfl
          refine ⟨2, 1, by omega, by omega, fun x => rfl, by omega, fun d Q q => c7_markTold h (fun z => absurd (c.symm.trans z) (by decide)) (fun _ => q) fun _ z => absurd c z, fun d Q q => vX9_aWay_98 (c9_isIn ?_)⟩
          rw [inq 11 17 (by omega) 11 17 i11 i17]
          exact ⟨fun z => absurd z (by decide), fun _ => ⟨fun z => absurd z (by rw [c]; decide), fun _ => ⟨fun z => absurd c z, fun _ => q⟩⟩⟩
      have hz : ¬ M 0 25 = 0 := by rcases cm with c | c <;> rw [c] <;> decide
      have n59 : ¬ M 0 25 = 159 := by rcases cm with c | c <;> rw [c] <;> decide
      have hlt := h.lt hz
      obtain ⟨p1, e1, C1, M1, h1, hp1, o1, o2, w1, w2⟩ := s_step (g := g) (g' := g') (h.c (o := 103) (i := s) (x := iv tl) (by omega)) hz
      have sk0 : Sk s (zup C 103 s (iv tl)) M (iv pk') := by
        obtain ⟨n0, tl0, pk0, a1, a2, a3, a4, a5, a6, a7, a8, a9⟩ := hsk
        refine ⟨n0, tl, pk', a1, by rw [zup_oth (by omega)]; exact a2, a3, zup_same, hx, rfl, hpk', hmk _, fun i hi => ?_⟩
        rw [zup_oth (by omega)]
        exact a9 i hi
      have skn : ∀ u sk, Sk u (zup C 103 s (iv tl)) M sk → Sk u C1 M1 sk := fun u sk x => x.keep (fun _ _ => by rw [o1.1 101 (by omega)]) (by rw [o1.1 102 (by omega)]) (by rw [o1.1 103 (by omega)]) (fun _ _ => by rw [o2.1 7 (by omega)]) (by rw [o2.1 8 (by omega)])
      have sko : ∀ u sk, u ≠ s → Sk u C M sk → Sk u (zup C 103 s (iv tl)) M sk := fun u sk a x => x.keep (fun _ _ => by rw [zup_oth (by omega)]) (by rw [zup_oth (by omega)]) (zup_ne (Or.inr a)) (fun _ _ => rfl) rfl
      obtain ⟨b, C', M', q1, q2, q3, q5, q6⟩ := ih p1 e1 (j + 1) pk' C1 M1 (by omega) h1 hpk' (skn s _ sk0) (by omega)
      refine ⟨b, C', M', ((FrX.c (by omega)).trans (FrL.ofn o1 o2).x).trans q1, q2, fun hb => ?_, fun d Q q => rC d Q n59 (vX6_parsePart (hcm d _ ⟨fun z => ?_, fun _ => ⟨s, rfl, hs, w1 (d + 4) _ ⟨fun _ => q5 d Q q, fun z => absurd z (by decide)⟩⟩⟩)), fun d Q q => hrm d Q (w2 (d + 2) _ (q6 d Q q))⟩
      · obtain ⟨x1, x2, x3, x4, x5, x6, ⟨p2, e2, x7, x8⟩, x9, x10, x11, x12⟩ := q3 hb
        refine ⟨x1.trans ?_, x2.trans ?_, x3.trans ?_, x4.trans ?_, x5.trans ?_, x6.trans (o2.2 20 (by omega)), ⟨p2, e2, x7, by omega⟩, x9, fun u hu => (x10 u hu).trans (by rw [o2.1 9 (by omega)]), fun u sk a x => x11 u sk a (skn u sk (sko u sk a x)), fun u a => (x12 u a).trans (by rw [o2.1 8 (by omega)])⟩
        · rw [o1.2 6 (by omega), zup_oth (by omega)]
        · rw [o1.2 7 (by omega), zup_oth (by omega)]
        · rw [o1.1 104 (by omega), zup_oth (by omega)]
        · rw [o1.1 100 (by omega), zup_oth (by omega)]
        · rw [o2.2 19 (by omega)]
      · rw [eqI, iv_toInt (by omega) (by omega)] at z
        simp only [Int32.reduceToInt] at z
        omega
    · by_cases cw : 11 ≤ (M 0 25).toInt ∧ (M 0 25).toInt ≤ 15
      · obtain ⟨wy, hwy⟩ : ∃ wy : Nat, wy = ((M 0 25).toInt - 11).toNat := ⟨_, rfl⟩
        have c : M 0 25 = iv (11 + wy : Nat) := by
          rw [eqI, iv_toInt (by omega) (by omega)]
          omega
        have n59 : ¬ M 0 25 = 159 := fun z => by
          rw [z] at cw
          omega
        have hlt := h.lt (fun z => by
          rw [z] at cw
          have z0 : (0 : Int32).toInt = 0 := rfl
          omega)
        obtain ⟨b, C1, M1, q1, q2, q3, q5, q6⟩ := s_some (g := g) (g' := g') hs h hpk hsk (by omega) c
        have rM : ∀ (d : Nat) (Q : Bool → zM → Prop), zCz shM g' (d + 9) mX9_someSteps [.ref 0, .int (iv s), .int (iv pk)] M (fun b2 M2 => (b2 = true → zW shM g' (d + 10) mX9_aWay (zz Q) 98 [(0, .ref 0), (1, .int (iv s)), (2, .int (iv pk))] [] M2) ∧ (b2 = false → Q false M2)) → zW shM g' (d + 10) mX9_aWay (zz Q) 98 [(0, .ref 0), (1, .int (iv s)), (2, .int (iv pk))] [] M := fun d Q x => by
          refine vX9_aWay_98 (c9_isIn ?_)
          rw [inq 11 17 (by omega) 11 17 i11 i17]
          refine ⟨fun z => absurd z (by decide), fun _ => ⟨fun _ => x, fun z => absurd ?_ z⟩⟩
          rw [Int32.lt_iff_toInt_lt]
          omega
        cases b with
        | false => exact ⟨false, C1, M1, q1, fun _ => q2 rfl, fun z => absurd z (by decide), fun d Q q => rC d Q n59 (q5 d _ ⟨fun z => absurd z (by decide), fun _ => q⟩), fun d Q q => rM d Q (q6 d _ ⟨fun z => absurd z (by decide), fun _ => q⟩)⟩
        | true =>
          obtain ⟨y1, y2, y3, y4, y5, y6, y7, ⟨p1, e1, h1, pp1⟩, y8, y9, y10⟩ := q3 rfl
          obtain ⟨b, C', M', k1, k2, k3, k5, k6⟩ := ih p1 e1 (j + 1) pk C1 M1 (by omega) h1 hpk y8 (by omega)
          refine ⟨b, C', M', q1.trans k1, k2, fun hb => ?_, fun d Q q => rC d Q n59 (q5 d _ ⟨fun _ => k5 d Q q, fun z => absurd z (by decide)⟩), fun d Q q => rM d Q (q6 d _ ⟨fun _ => k6 d Q q, fun z => absurd z (by decide)⟩)⟩
          obtain ⟨x1, x2, x3, x4, x5, x6, ⟨p2, e2, x7, x8⟩, x9, x10, x11, x12⟩ := k3 hb
          exact ⟨x1.trans y1, x2.trans y2, x3.trans y4, by rw [x4, y3], by rw [x5, y6], x6.trans y7, ⟨p2, e2, x7, by omega⟩, x9, fun u hu => (x10 u hu).trans (by rw [y5]), fun u sk a x => x11 u sk a (y9 u sk a x), fun u a => (x12 u a).trans (y10 u a)⟩
      · -- the way ends
        have ninq : isInB (M 0 25) 11 17 = false := by
          simp only [isInB, decide_eq_true_eq, decide_eq_false_iff_not]
          intro z
          by_cases z6 : (M 0 25).toInt = 16
          · exact cm (Or.inl (by rw [eqI, z6]; rfl))
          · by_cases z7 : (M 0 25).toInt = 17
            · exact cm (Or.inr (by rw [eqI, z7]; rfl))
            · omega
        have rM : ∀ (d : Nat) (Q : Bool → zM → Prop), zCz shM g' (d + 9) mX9_need [.ref 0, .int 159] (zup (zup M 9 s (iv pk)) 0 19 (M 0 19 + 1)) (fun b2 M2 => Q b2 M2) → zW shM g' (d + 10) mX9_aWay (zz Q) 98 [(0, .ref 0), (1, .int (iv s)), (2, .int (iv pk))] [] M := fun d Q x => by
          refine vX9_aWay_98 (c9_isIn ?_)
          rw [ninq]
          refine ⟨fun _ => ⟨s, rfl, hs, ?_⟩, fun z => absurd z (by decide)⟩
          rw [zup_oth (a := 0) (by omega)]
          exact x
        have h' := (h.m (o := 9) (i := s) (x := iv pk) (by omega)).m0 (i := 19) (x := M 0 19 + 1) (by omega)
        have f' : FrX C M C (zup (zup M 9 s (iv pk)) 0 19 (M 0 19 + 1)) := (FrX.m (by omega)).trans (FrX.m0 (by omega))
        have q25 : zup (zup M 9 s (iv pk)) 0 19 (M 0 19 + 1) 0 25 = M 0 25 := by rw [zup_ne (Or.inr (by omega)), zup_oth (by omega)]
        by_cases c59 : M 0 25 = 159
        · obtain ⟨p1, e1, C1, M1, h1, hp1, o1, o2, w1, w2⟩ := s_step (g := g) (g' := g') h' (by rw [q25, c59]; decide)
          have skn : ∀ u sk, Sk u C M sk → Sk u (zup C1 100 4 (C1 100 4 + 1)) M1 sk := fun u sk x => x.keep (fun _ _ => by rw [zup_oth (by omega), o1.1 101 (by omega)]) (by rw [zup_oth (by omega), o1.1 102 (by omega)]) (by rw [zup_oth (by omega), o1.1 103 (by omega)]) (fun _ _ => by rw [o2.1 7 (by omega), zup_oth (by omega), zup_oth (by omega)]) (by rw [o2.1 8 (by omega), zup_oth (by omega), zup_oth (by omega)])
          have m9 : M1 9 = upd (M 9) s (iv pk) := by rw [o2.1 9 (by omega), zup_oth (by omega), zup_row]
          refine ⟨true, zup C1 100 4 (C1 100 4 + 1), M1, (f'.trans (FrL.ofn o1 o2).x).trans (FrX.c (by omega)), fun z => absurd z (by decide), fun _ => ⟨?_, ?_, ?_, ?_, ?_, ?_, ⟨p1, e1, h1.c (by omega), hp1⟩, ?_, fun u hu => by rw [m9, upd_ne hu], fun u sk _ x => skn u sk x, fun u _ => by rw [o2.1 8 (by omega), zup_oth (by omega), zup_oth (by omega)]⟩, fun d Q q => vX6_parseLine_70 ⟨fun z => absurd z j400, fun _ => q_isSign h (c := 59) (x := 159) (by unfold isSg; simp only [true_or, or_true]) (by decide) ⟨fun _ => vX6_parseLine_104 (w1 (d + 5) _ q), fun z => absurd c59 (of_decide_eq_false z)⟩⟩, fun d Q q => rM d Q (vX9_need ⟨fun _ => w2 (d + 1) _ q, fun z => absurd (q25.trans c59) z⟩)⟩
          · rw [zup_oth (by omega), o1.2 6 (by omega)]
          · rw [zup_oth (by omega), o1.2 7 (by omega)]
          · rw [zup_oth (by omega), o1.1 104 (by omega)]
          · rw [zup_same, o1.1 100 (by omega)]
          · rw [o2.2 19 (by omega), zup_same]
          · rw [o2.2 20 (by omega), zup_ne (Or.inr (by omega)), zup_oth (by omega)]
          · rw [m9, upd_at]
            exact skn s _ hsk
        · refine ⟨false, _, _, f'.trans FrL.off.x, fun _ => Flt.ofe h', fun z => absurd z (by decide), fun d Q q => rC d Q c59 (vX6_parsePart (c7_markTold h (fun z => absurd (Or.inl z) cm) (fun z => absurd (Or.inr z) cm) fun _ _ => ⟨fun _ => c7_wayTold h (fun w hw z => ?_) fun _ => ⟨fun z => absurd rfl z, fun _ => c7_fail ⟨fun z => absurd z (by decide), fun _ => q⟩⟩, fun z => absurd rfl z⟩)), fun d Q q => rM d Q (vX9_need ⟨fun z => absurd (q25.symm.trans z) c59, fun _ => c9_bad q⟩)⟩
          refine absurd ?_ cw
          rw [z, iv_toInt (by omega) (by omega)]
          omega
end WL
