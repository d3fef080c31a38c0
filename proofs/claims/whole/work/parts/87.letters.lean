/-! NUMBERS, and LETTERS, both sides -/
section NU
variable {g g' : zG} {t : Nat → Int32} {n rd p e : Nat} {C M : zM}
theorem s_num {lo hi : Int32} (h : TK t n rd p e C M) : (∃ k : Int32, (∀ (d : Nat) (Q : Int32 → zM → Prop), Q (-1) (FC C k) → zCi shC g (d + 1) mX5_number [.ref 98, .int lo, .int hi] C Q) ∧ ∀ (d : Nat) (Q : Bool → zM → Prop), Q false (FM M k) → zCz shM g' (d + 8) mX9_number [.ref 0, .int lo, .int hi] M Q) ∨
    ∃ (v : Int32) (p' e' : Nat) (C' M' : zM), TK t n rd p' e' C' M' ∧ p < p' ∧ OC C C' ∧ OM (zup M 0 33 v) M' ∧ M 0 25 = 2 ∧ M 0 27 = v ∧ lo.toInt ≤ v.toInt ∧ v.toInt ≤ hi.toInt ∧ rng v 0 9999 ∧ (∀ (d : Nat) (Q : Int32 → zM → Prop), Q v C → zCi shC g (d + 1) mX5_number [.ref 98, .int lo, .int hi] C Q) ∧ (∀ (d : Nat) (Q : zM → Prop), Q C' → zCv shC g (d + 1) mX5_next [.ref 98] C Q) ∧ ∀ (d : Nat) (Q : Bool → zM → Prop), Q true M' → zCz shM g' (d + 8) mX9_number [.ref 0, .int lo, .int hi] M Q := by
  by_cases c : M 0 25 = 2
  · obtain ⟨n1, n2⟩ := h.num c
    by_cases b : lo.toInt ≤ (C 98 5).toInt ∧ (C 98 5).toInt ≤ hi.toInt
    · obtain ⟨p1, e1, C1, M1, h1, hp1, o1, o2, w1, w2⟩ := s_step (g := g) (g' := g') (h.m0 (i := 33) (x := C 98 5) (by omega)) (by rw [zup_ne (Or.inr (by omega)), c]; decide)
      refine Or.inr ⟨C 98 5, p1, e1, C1, M1, h1, hp1, o1, o2, c, n1, b.1, b.2, n2, fun d Q q => q_number h (fun _ _ _ => q) (fun _ z => absurd b z) fun z => absurd c z, w1, fun d Q q => vX9_number ⟨fun _ => c9_isIn ⟨fun _ => ?_, fun z => ?_⟩, fun z => absurd c z⟩⟩
      · rw [n1]
        exact w2 d _ q
      · rw [n1] at z
        simp only [isInB, decide_eq_true_eq, decide_eq_false_iff_not] at z
        exact absurd b z
    · refine Or.inl ⟨2, fun d Q q => q_number h (fun _ x y => absurd ⟨x, y⟩ b) (fun _ _ => q) fun z => absurd c z, fun d Q q => vX9_number ⟨fun _ => c9_isIn ⟨fun z => ?_, fun _ => c9_bad q⟩, fun z => absurd c z⟩⟩
      rw [n1] at z
      simp only [isInB, decide_eq_true_eq, decide_eq_false_iff_not] at z
      exact absurd z b
  · exact Or.inl ⟨1, fun d Q q => q_number h (fun z => absurd z c) (fun z => absurd z c) fun _ => q, fun d Q q => vX9_number ⟨fun z => absurd z c, fun _ => c9_bad q⟩⟩
theorem FrX.ofn {v : Int32} {C' M' : zM} (o1 : OC C C') (o2 : OM (zup M 0 33 v) M') : FrX C M C' M' := (FrX.m0 (by omega)).trans (FrL.ofn o1 o2).x
theorem Flt.of {k : Int32} (h : TK t n rd p e C M) : Flt (FC C k) (FM M k) := Flt.ofe h
end NU
/-- i letters are read -/
def PN (i : Nat) (C M : zM) : Prop := C 112 1 = iv i ∧ M 0 21 = iv i ∧ i ≤ 8 ∧ C 112 4 = 0 ∧ ∀ j, j < i → C 113 j = M 10 j ∧ rng (M 10 j) 0 511
theorem PN.ofn {i : Nat} {C M C' M' : zM} (h : PN i C M) (hc : ∀ o, o ≠ 98 → C' o = C o) (h10 : M' 10 = M 10) (h21 : M' 0 21 = M 0 21) : PN i C' M' := by
  unfold PN at h ⊢
  rw [hc 112 (by omega), hc 113 (by omega), h10, h21]
  exact h
theorem shape_rng {a b c : Int32} (ha : 0 ≤ a.toInt ∧ a.toInt ≤ 7) (hb : 0 ≤ b.toInt ∧ b.toInt ≤ 7) (hc : 0 ≤ c.toInt ∧ c.toInt ≤ 7) : rng ((((0 : Int32) ||| (a <<< (((3 : Int32) * 0) &&& 31))) ||| (b <<< (((3 : Int32) * (0 + 1)) &&& 31))) ||| (c <<< (((3 : Int32) * (0 + 1 + 1)) &&& 31))) 0 511 := by
  have key : ∀ x, x < 8 → ∀ y, y < 8 → ∀ z, z < 8 → 0 ≤ ((((0 : Int32) ||| (iv (x : Nat) <<< (((3 : Int32) * 0) &&& 31))) ||| (iv (y : Nat) <<< (((3 : Int32) * (0 + 1)) &&& 31))) ||| (iv (z : Nat) <<< (((3 : Int32) * (0 + 1 + 1)) &&& 31))).toInt ∧ ((((0 : Int32) ||| (iv (x : Nat) <<< (((3 : Int32) * 0) &&& 31))) ||| (iv (y : Nat) <<< (((3 : Int32) * (0 + 1)) &&& 31))) ||| (iv (z : Nat) <<< (((3 : Int32) * (0 + 1 + 1)) &&& 31))).toInt ≤ 511 := by decide +kernel
  have ea : a = iv a.toInt.toNat := by rw [eqI, iv_toInt (by omega) (by omega)]; omega
  have eb : b = iv b.toInt.toNat := by rw [eqI, iv_toInt (by omega) (by omega)]; omega
  have ec : c = iv c.toInt.toNat := by rw [eqI, iv_toInt (by omega) (by omega)]; omega
  have := key a.toInt.toNat (by omega) b.toInt.toNat (by omega) c.toInt.toNat (by omega)
  rw [← ea, ← eb, ← ec] at this
  exact this
section LE
variable {g g' : zG} {t : Nat → Int32} {n : Nat}
theorem neg1 {v : Int32} (h : rng v 0 9999) : ¬ v = -1 := fun z => by
  rw [z] at h
  exact absurd h.1 (by decide)
theorem s_letter {p e i : Nat} {C M : zM} (h : TK t n 2 p e C M) (hn : PN i C M) : ∃ (b : Bool) (C' M' : zM), FrX C M C' M' ∧ (b = false → Flt C' M') ∧ (b = true → C' 98 6 = C 98 6 ∧ C' 98 7 = C 98 7 ∧ ∃ p' e' : Nat, TK t n 2 p' e' C' M' ∧ p < p' ∧ PN (i + 1) C' M') ∧
    (∀ (d : Nat) (Q : Bool → zM → Prop), Q b C' → zCz shC g (d + 5) mX3_parseLetter [.ref 112, .ref 98] C Q) ∧ ∀ (d : Nat) (Q : Bool → zM → Prop), Q b M' → zCz shM g' (d + 9) mX9_aLetter [.ref 0] M Q := by
  obtain ⟨n1, n2, n3, n4, n5⟩ := hn
  by_cases c : M 0 25 = 8
  · have lt8 : i < 8 → C 112 1 < 8 := fun x => by
      rw [n1, Int32.lt_iff_toInt_lt, iv_toInt (by omega) (by omega)]
      simp only [Int32.reduceToInt]
      omega
    have rC : ∀ (d : Nat) (Q : Bool → zM → Prop), ((C 112 1) < 8 → zW shC g (d + 5) mX3_parseLetter (zz Q) 34 [(0, .ref 112), (1, .ref 98), (2, .int 0), (3, .int 0)] [] C) ∧ (¬ (C 112 1) < 8 → zCz shC g (d + 4) mX5_fail [.ref 98, .int 3] C (fun b2 M2 => Q b2 M2)) → zCz shC g (d + 5) mX3_parseLetter [.ref 112, .ref 98] C Q := fun d Q x =>
      vX3_parseLetter (q_isWord h (d := d) (k := 8) (x := 8) (by decide) rfl ⟨fun _ => x, fun z => absurd c (of_decide_eq_false z)⟩)
    have rM : ∀ (d : Nat) (Q : Bool → zM → Prop), (¬ (M 0 21) = 8 → zCv shM g' (d + 8) mX9_next0 [.ref 0] M (fun M1 => zW shM g' (d + 9) mX9_aLetter (zz Q) 38 [(0, .ref 0), (1, .int 0), (2, .int 0)] [] M1)) ∧ ((M 0 21) = 8 → zCz shM g' (d + 8) mX9_bad [.ref 0, .int 3] M (fun b1 M1 => Q b1 M1)) → zCz shM g' (d + 9) mX9_aLetter [.ref 0] M Q := fun d Q x => vX9_aLetter ⟨fun _ => x, fun z => absurd c z⟩
    by_cases c8 : i = 8
    · refine ⟨false, FC C 3, FM M 3, FrL.off.x, fun _ => Flt.ofe h, fun z => absurd z (by decide), fun d Q q => rC d Q ⟨fun z => ?_, fun _ => c7_fail q⟩, fun d Q q => rM d Q ⟨fun z => ?_, fun _ => c9_bad q⟩⟩
      · rw [n1, c8] at z; exact absurd z (by decide)
      · rw [n2, c8] at z; exact absurd rfl z
    · have i8 : i < 8 := by omega
      have m8 : ¬ M 0 21 = 8 := fun z => by
        rw [n2, eqI, iv_toInt (by omega) (by omega)] at z
        simp only [Int32.reduceToInt] at z
        omega
      obtain ⟨p1, e1, C1, M1, h1, hp1, o1, o2, w1, w2⟩ := s_step (g := g) (g' := g') h (by rw [c]; decide)
      have f1 : FrX C M C1 M1 := (FrL.ofn o1 o2).x
      have rC1 : ∀ (d : Nat) (Q : Bool → zM → Prop), zCi shC g (d + 4) mX5_number [.ref 98, .int 0, .int 7] C1 (fun x2 M2 => (¬ x2 = (-1) → zW shC g (d + 5) mX3_parseLetter (zz Q) 34 [(0, .ref 112), (1, .ref 98), (2, .int ((0 : Int32) ||| (x2 <<< (((3 : Int32) * 0) &&& 31)))), (3, .int (0 + 1))] [] M2) ∧ (x2 = (-1) → Q false M2)) → zCz shC g (d + 5) mX3_parseLetter [.ref 112, .ref 98] C Q := fun d Q x =>
        rC d Q ⟨fun _ => vX3_parseLetter_34 ⟨fun z => absurd z (by decide), fun _ => w1 (d + 3) _ x⟩, fun z => absurd (lt8 i8) z⟩
      have rM1 : ∀ (d : Nat) (Q : Bool → zM → Prop), zCz shM g' (d + 8) mX9_number [.ref 0, .int 0, .int 7] M1 (fun b1 M1 => (b1 = true → zW shM g' (d + 9) mX9_aLetter (zz Q) 38 [(0, .ref 0), (1, .int ((0 : Int32) ||| ((M1 0 33) <<< (((3 : Int32) * 0) &&& 31)))), (2, .int (0 + 1))] [] M1) ∧ (b1 = false → Q false M1)) → zCz shM g' (d + 9) mX9_aLetter [.ref 0] M Q := fun d Q x =>
        rM d Q ⟨fun _ => w2 (d + 1) _ (vX9_aLetter_38 ⟨fun z => absurd z (by decide), fun _ => ⟨fun _ => vX9_aLetter_73 x, fun z => absurd z (by decide)⟩⟩), fun z => absurd z m8⟩
      rcases s_num (g := g) (g' := g') (lo := 0) (hi := 7) h1 with ⟨k, u1, u2⟩ | ⟨a, p2, e2, C2, M2, h2, hp2, o3, o4, t2, va, la, ha, ra, u1, u2, u3⟩
      · exact ⟨false, FC C1 k, FM M1 k, f1.trans FrL.off.x, fun _ => Flt.ofe h1, fun z => absurd z (by decide), fun d Q q => rC1 d Q (u1 (d + 3) _ ⟨fun z => absurd rfl z, fun _ => q⟩), fun d Q q => rM1 d Q (u2 d _ ⟨fun z => absurd z (by decide), fun _ => q⟩)⟩
      · have f2 := f1.trans (FrX.ofn o3 o4)
        have e33 : M2 0 33 = a := by rw [o4.2 33 (by omega), zup_same]
        have rC2 : ∀ (d : Nat) (Q : Bool → zM → Prop), zCi shC g (d + 4) mX5_number [.ref 98, .int 0, .int 7] C2 (fun x2 M2 => (¬ x2 = (-1) → zW shC g (d + 5) mX3_parseLetter (zz Q) 34 [(0, .ref 112), (1, .ref 98), (2, .int (((0 : Int32) ||| (a <<< (((3 : Int32) * 0) &&& 31))) ||| (x2 <<< (((3 : Int32) * (0 + 1)) &&& 31)))), (3, .int (0 + 1 + 1))] [] M2) ∧ (x2 = (-1) → Q false M2)) → zCz shC g (d + 5) mX3_parseLetter [.ref 112, .ref 98] C Q := fun d Q x =>
          rC1 d Q (u1 (d + 3) _ ⟨fun _ => vX3_parseLetter_34 ⟨fun z => absurd z (by decide), fun _ => u2 (d + 3) _ x⟩, fun z => absurd z (neg1 ra)⟩)
        have rM2 : ∀ (d : Nat) (Q : Bool → zM → Prop), zCz shM g' (d + 8) mX9_number [.ref 0, .int 0, .int 7] M2 (fun b1 M1 => (b1 = true → zW shM g' (d + 9) mX9_aLetter (zz Q) 38 [(0, .ref 0), (1, .int (((0 : Int32) ||| (a <<< (((3 : Int32) * 0) &&& 31))) ||| ((M1 0 33) <<< (((3 : Int32) * (0 + 1)) &&& 31)))), (2, .int (0 + 1 + 1))] [] M1) ∧ (b1 = false → Q false M1)) → zCz shM g' (d + 9) mX9_aLetter [.ref 0] M Q := fun d Q x =>
          rM1 d Q (u3 d _ ⟨fun _ => by
            rw [e33]
            exact vX9_aLetter_38 ⟨fun z => absurd z (by decide), fun _ => ⟨fun _ => vX9_aLetter_73 x, fun z => absurd z (by decide)⟩⟩, fun z => absurd z (by decide)⟩)
        rcases s_num (g := g) (g' := g') (lo := 0) (hi := 7) h2 with ⟨k, u4, u5⟩ | ⟨b, p3, e3, C3, M3, h3, hp3, o5, o6, t3, vb, lb, hb, rb, u4, u5, u6⟩
        · exact ⟨false, FC C2 k, FM M2 k, f2.trans FrL.off.x, fun _ => Flt.ofe h2, fun z => absurd z (by decide), fun d Q q => rC2 d Q (u4 (d + 3) _ ⟨fun z => absurd rfl z, fun _ => q⟩), fun d Q q => rM2 d Q (u5 d _ ⟨fun z => absurd z (by decide), fun _ => q⟩)⟩
        · have f3 := f2.trans (FrX.ofn o5 o6)
          have e33b : M3 0 33 = b := by rw [o6.2 33 (by omega), zup_same]
          obtain ⟨s2, hs2⟩ : ∃ s2 : Int32, s2 = (((0 : Int32) ||| (a <<< (((3 : Int32) * 0) &&& 31))) ||| (b <<< (((3 : Int32) * (0 + 1)) &&& 31))) := ⟨_, rfl⟩
          have rC3 : ∀ (d : Nat) (Q : Bool → zM → Prop), zCi shC g (d + 4) mX5_number [.ref 98, .int 0, .int 7] C3 (fun x2 M2 => (¬ x2 = (-1) → zW shC g (d + 5) mX3_parseLetter (zz Q) 34 [(0, .ref 112), (1, .ref 98), (2, .int (s2 ||| (x2 <<< (((3 : Int32) * (0 + 1 + 1)) &&& 31)))), (3, .int (0 + 1 + 1 + 1))] [] M2) ∧ (x2 = (-1) → Q false M2)) → zCz shC g (d + 5) mX3_parseLetter [.ref 112, .ref 98] C Q := fun d Q x =>
            rC2 d Q (u4 (d + 3) _ ⟨fun _ => vX3_parseLetter_34 ⟨fun z => absurd z (by decide), fun _ => u5 (d + 3) _ (by rw [← hs2]; exact x)⟩, fun z => absurd z (neg1 rb)⟩)
          have rM3 : ∀ (d : Nat) (Q : Bool → zM → Prop), zW shM g' (d + 9) mX9_aLetter (zz Q) 38 [(0, .ref 0), (1, .int s2), (2, .int (0 + 1 + 1))] [] M3 → zCz shM g' (d + 9) mX9_aLetter [.ref 0] M Q := fun d Q x =>
            rM2 d Q (u6 d _ ⟨fun _ => by
              rw [e33b, ← hs2]
              exact x, fun z => absurd z (by decide)⟩)
          by_cases cz : M3 0 25 = 2 ∧ M3 0 27 = 0 ∧ s2 = 0
          · obtain ⟨z1, z2, z3⟩ := cz
            have hnum := h3.num z1
            have v0 : C3 98 5 = 0 := hnum.1.symm.trans z2
            refine ⟨false, FC C3 3, FM M3 3, f3.trans FrL.off.x, fun _ => Flt.ofe h3, fun z => absurd z (by decide), fun d Q q => rC3 d Q (q_number h3 (fun _ _ _ => ⟨fun _ => ?_, fun z => absurd (v0.symm.trans z) (by decide)⟩) (fun _ z => absurd (by rw [v0]; decide) z) fun z => absurd z1 z), fun d Q q => rM3 d Q (vX9_aLetter_38 ⟨fun z => absurd z (by decide), fun _ => ⟨fun z => absurd (by decide) z, fun _ => ⟨fun z => absurd z1 z, fun _ => ⟨fun z => absurd z2 z, fun _ => ⟨fun z => absurd z3 z, fun _ => c9_bad q⟩⟩⟩⟩⟩)⟩
            rw [v0, z3]
            exact vX3_parseLetter_34 ⟨fun _ => ⟨fun z => absurd (by decide) z, fun _ => c7_fail q⟩, fun z => absurd (by decide) z⟩
          · have rM4 : ∀ (d : Nat) (Q : Bool → zM → Prop), zCz shM g' (d + 8) mX9_number [.ref 0, .int 0, .int 7] M3 (fun b1 M1 => (b1 = true → zW shM g' (d + 9) mX9_aLetter (zz Q) 38 [(0, .ref 0), (1, .int (s2 ||| ((M1 0 33) <<< (((3 : Int32) * (0 + 1 + 1)) &&& 31)))), (2, .int (0 + 1 + 1 + 1))] [] M1) ∧ (b1 = false → Q false M1)) → zCz shM g' (d + 9) mX9_aLetter [.ref 0] M Q := fun d Q x =>
              rM3 d Q (vX9_aLetter_38 ⟨fun z => absurd z (by decide), fun _ => ⟨fun _ => vX9_aLetter_73 x, fun _ => ⟨fun _ => vX9_aLetter_73 x, fun y1 => ⟨fun _ => vX9_aLetter_73 x, fun y2 => ⟨fun _ => vX9_aLetter_73 x, fun y3 => absurd ⟨y1, y2, y3⟩ cz⟩⟩⟩⟩⟩)
            rcases s_num (g := g) (g' := g') (lo := 0) (hi := 7) h3 with ⟨k, u7, u8⟩ | ⟨v, p4, e4, C4, M4, h4, hp4, o7, o8, t4, vc, lc, hc, rc, u7, u8, u9⟩
            · exact ⟨false, FC C3 k, FM M3 k, f3.trans FrL.off.x, fun _ => Flt.ofe h3, fun z => absurd z (by decide), fun d Q q => rC3 d Q (u7 (d + 3) _ ⟨fun z => absurd rfl z, fun _ => q⟩), fun d Q q => rM4 d Q (u8 d _ ⟨fun z => absurd z (by decide), fun _ => q⟩)⟩
            · have f4 := f3.trans (FrX.ofn o7 o8)
              have e33c : M4 0 33 = v := by rw [o8.2 33 (by omega), zup_same]
              obtain ⟨s3, hs3⟩ : ∃ s3 : Int32, s3 = s2 ||| (v <<< (((3 : Int32) * (0 + 1 + 1)) &&& 31)) := ⟨_, rfl⟩
              have r3 : rng s3 0 511 := by
                rw [hs3, hs2]
                exact shape_rng ⟨la, ha⟩ ⟨lb, hb⟩ ⟨lc, hc⟩
              have s3z : ¬ s3 = 0 := fun z => by
                rw [hs3] at z
                have zz1 := z
                rw [Int32.or_eq_zero_iff] at zz1
                have w0 : v = 0 := by
                  have key : ∀ x, x < 8 → iv (x : Nat) <<< (((3 : Int32) * (0 + 1 + 1)) &&& 31) = 0 → x = 0 := by decide +kernel
                  have ev : v = iv v.toInt.toNat := by
                    have lc' : 0 ≤ v.toInt := lc
                    rw [eqI, iv_toInt (by omega) (by
                      have : v.toInt ≤ 7 := hc
                      omega)]
                    omega
                  have hc' : v.toInt ≤ 7 := hc
                  have := key v.toInt.toNat (by omega) (by rw [← ev]; exact zz1.2)
                  rw [ev, this]
                  rfl
                exact cz ⟨t4, vc.trans w0, zz1.1⟩
              have rC5 : ∀ (d : Nat) (Q : Bool → zM → Prop), zCz shC g (d + 4) mX5_isSign [.ref 98, .int 59] C4 (fun b1 M2 => (b1 = true → zCv shC g (d + 4) mX5_next [.ref 98] M2 (fun M3 => ∃ k1 : Nat, (M3 112 1) = iv k1 ∧ k1 < 8 ∧ Q true (zup (zup M3 113 k1 s3) 112 1 (((zup M3 113 k1 s3) 112 1) + 1)))) ∧ (b1 = false → zCz shC g (d + 4) mX5_fail [.ref 98, .int 1] M2 (fun b2 M3 => Q b2 M3))) → zCz shC g (d + 5) mX3_parseLetter [.ref 112, .ref 98] C Q := fun d Q x =>
                rC3 d Q (u7 (d + 3) _ ⟨fun _ => by
                  rw [← hs3]
                  exact vX3_parseLetter_34 ⟨fun _ => ⟨fun _ => u8 (d + 3) _ x, fun z => absurd z s3z⟩, fun z => absurd (by decide) z⟩, fun z => absurd z (neg1 rc)⟩)
              have g21 : M4 0 21 = iv i := by
                rw [o8.2 21 (by omega), zup_ne (Or.inr (by omega)), o6.2 21 (by omega), zup_ne (Or.inr (by omega)), o4.2 21 (by omega), zup_ne (Or.inr (by omega)), o2.2 21 (by omega)]
                exact n2
              have g10 : M4 10 = M 10 := by
                rw [o8.1 10 (by omega), zup_oth (by omega), o6.1 10 (by omega), zup_oth (by omega), o4.1 10 (by omega), zup_oth (by omega), o2.1 10 (by omega)]
              have rM5 : ∀ (d : Nat) (Q : Bool → zM → Prop), zCz shM g' (d + 8) mX9_need [.ref 0, .int 159] (zup (zup M4 10 i s3) 0 21 (iv (i + 1 : Nat))) (fun b1 M1 => Q b1 M1) → zCz shM g' (d + 9) mX9_aLetter [.ref 0] M Q := fun d Q x =>
                rM4 d Q (u9 d _ ⟨fun _ => by
                  rw [e33c, ← hs3]
                  refine vX9_aLetter_38 ⟨fun _ => ⟨i, g21, i8, ?_⟩, fun z => absurd (by decide) z⟩
                  rw [zup_oth (by omega), g21, iv_s]
                  exact x, fun z => absurd z (by decide)⟩)
              have h4' := (h4.m (o := 10) (i := i) (x := s3) (by omega)).m0 (i := 21) (x := iv (i + 1 : Nat)) (by omega)
              have f5 := (f4.trans (FrX.m (o := 10) (i := i) (x := s3) (by omega))).trans (FrX.m0 (i := 21) (x := iv (i + 1 : Nat)) (by omega))
              have hc4 : ∀ o, o ≠ 98 → C4 o = C o := fun o ho => by rw [o7.1 o ho, o5.1 o ho, o3.1 o ho, o1.1 o ho]
              have hs4 : ∀ s, 6 ≤ s → C4 98 s = C 98 s := fun s hs => by rw [o7.2 s (by omega), o5.2 s (by omega), o3.2 s (by omega), o1.2 s (by omega)]
              have q25 : zup (zup M4 10 i s3) 0 21 (iv (i + 1 : Nat)) 0 25 = M4 0 25 := by rw [zup_ne (Or.inr (by omega)), zup_oth (by omega)]
              by_cases c59 : M4 0 25 = 159
              · obtain ⟨p5, e5, C5, M5, h5, hp5, o9, o10, w5, w6⟩ := s_step (g := g) (g' := g') h4' (by rw [q25, c59]; decide)
                have k1 : C5 112 1 = iv i := by rw [o9.1 112 (by omega), hc4 112 (by omega)]; exact n1
                refine ⟨true, zup (zup C5 113 i s3) 112 1 (iv (i + 1 : Nat)), M5, ((f5.trans (FrL.ofn o9 o10).x).trans (FrX.c (by omega))).trans (FrX.c (by omega)), fun z => absurd z (by decide), fun _ => ⟨?_, ?_, p5, e5, (h5.c (by omega)).c (by omega), by omega, zup_same, ?_, by omega, ?_, fun j hj => ?_⟩, fun d Q q => rC5 d Q (q_isSign h4 (c := 59) (x := 159) (by unfold isSg; simp only [true_or, or_true]) (by decide) ⟨fun _ => w5 (d + 3) _ ⟨i, k1, i8, ?_⟩, fun z => absurd c59 (of_decide_eq_false z)⟩), fun d Q q => rM5 d Q (vX9_need ⟨fun _ => w6 d _ q, fun z => absurd (q25.trans c59) z⟩)⟩
                · rw [zup_oth (by omega), zup_oth (by omega), o9.2 6 (by omega)]; exact hs4 6 (by omega)
                · rw [zup_oth (by omega), zup_oth (by omega), o9.2 7 (by omega)]; exact hs4 7 (by omega)
                · rw [o10.2 21 (by omega), zup_same]
                · rw [zup_ne (Or.inr (by omega)), zup_oth (by omega), o9.1 112 (by omega), hc4 112 (by omega)]; exact n4
                · have r13 : zup (zup C5 113 i s3) 112 1 (iv (i + 1 : Nat)) 113 = upd (C 113) i s3 := by rw [zup_oth (by omega), zup_row, o9.1 113 (by omega), hc4 113 (by omega)]
                  have r10 : M5 10 = upd (M 10) i s3 := by rw [o10.1 10 (by omega), zup_oth (by omega), zup_row, g10]
                  rw [r13, r10]
                  by_cases ej : j = i
                  · rw [ej, upd_at, upd_at]
                    exact ⟨rfl, r3⟩
                  · rw [upd_ne ej, upd_ne ej]
                    exact n5 j (by omega)
                · rw [zup_oth (by omega), k1, iv_s]
                  exact q
              · exact ⟨false, _, _, f5.trans FrL.off.x, fun _ => Flt.ofe h4', fun z => absurd z (by decide), fun d Q q => rC5 d Q (q_isSign h4 (c := 59) (x := 159) (by unfold isSg; simp only [true_or, or_true]) (by decide) ⟨fun z => absurd (of_decide_eq_true z) c59, fun _ => c7_fail q⟩), fun d Q q => rM5 d Q (vX9_need ⟨fun z => absurd (q25.symm.trans z) c59, fun _ => c9_bad q⟩)⟩
  · exact ⟨false, FC C 1, FM M 1, FrL.off.x, fun _ => Flt.ofe h, fun z => absurd z (by decide), fun d Q q => vX3_parseLetter (q_isWord h (d := d) (k := 8) (x := 8) (by decide) rfl ⟨fun z => absurd (of_decide_eq_true z) c, fun _ => c7_fail q⟩), fun d Q q => vX9_aLetter ⟨fun z => absurd z c, fun _ => c9_bad q⟩⟩
end LE
