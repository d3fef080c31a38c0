/-! WANTS, both sides -/
/-- i wants are read -/
def PW (i : Nat) (C M : zM) : Prop := RS C 1 (M 1) ∧ IS (M 1) ∧ C 112 4 = iv i ∧ M 0 22 = iv i ∧ i ≤ 10 ∧ C 112 1 = M 1 157 ∧ (∀ j : Nat, j < 8 → (j : Int) < (M 1 157).toInt → C 113 j = M 1 (538 + j)) ∧ ∀ j, j < i → C 114 j = M 11 (2 * j) ∧ C 115 j = M 11 (2 * j + 1) ∧ skB (M 1 157) (M 11 (2 * j)) = true ∧ boxB (M 1 150) (M 1 151) (M 11 (2 * j + 1)) = true
section WA
variable {g g' : zG} {t : Nat → Int32} {n : Nat}
theorem s_want {p e i : Nat} {C M : zM} (h : TK t n 3 p e C M) (hn : PW i C M) : ∃ (b : Bool) (C' M' : zM), FrX C M C' M' ∧ (b = false → Flt C' M') ∧ (b = true → C' 98 6 = C 98 6 ∧ C' 98 7 = C 98 7 ∧ ∃ p' e' : Nat, TK t n 3 p' e' C' M' ∧ p < p' ∧ PW (i + 1) C' M') ∧
    (∀ (d : Nat) (Q : Bool → zM → Prop), Q b C' → zCz shC g (d + 5) mX3_parseWant [.ref 112, .ref 98, .ref 1] C Q) ∧ ∀ (d : Nat) (Q : Bool → zM → Prop), Q b M' → zCz shM g' (d + 9) mX9_aWant [.ref 0] M Q := by
  obtain ⟨rs, is, n1, n2, n3, n4, n5, n6⟩ := hn
  have e2 : ∀ x : Nat, (2 : Int32) * iv i + iv x = iv (2 * i + x : Nat) := fun x => by
    rw [show (2 : Int32) = iv 2 from rfl, iv_mul, iv_add]
    rfl
  have e20 : (2 : Int32) * iv i = iv (2 * i : Nat) := by
    rw [show (2 : Int32) = iv 2 from rfl, iv_mul]
    rfl
  by_cases c : M 0 25 = 9
  · have rC : ∀ (d : Nat) (Q : Bool → zM → Prop), (C 112 4 < 10 → zCv shC g (d + 4) mX5_next [.ref 98] C (fun M2 => zCi shC g (d + 4) mX5_number [.ref 98, .int 0, .int ((M2 112 1) - 1)] M2 (fun x2 M3 => (¬ x2 = (-1) → zCv shC g (d + 4) mX5_next [.ref 98] M3 (fun M4 => zCz shC g (d + 4) mX5_isWord [.ref 98, .ref (4096 + 22)] M4 (fun b2 M5 => (b2 = true → zCv shC g (d + 4) mX5_next [.ref 98] M5 (fun M6 => zCi shC g (d + 4) mX5_number [.ref 98, .int 0, .int 63] M6 (fun x5 M7 => (¬ x5 = (-1) → zCz shC g (d + 4) mX7_isBox [.ref 1, .int x5] M7 (fun b3 M8 => (b3 = true → zCv shC g (d + 4) mX5_next [.ref 98] M8 (fun M9 => zCz shC g (d + 4) mX5_isSign [.ref 98, .int 59] M9 (fun b4 M10 => (b4 = true → zCv shC g (d + 4) mX5_next [.ref 98] M10 (fun M11 => ∃ k1 : Nat, (M11 112 4) = iv k1 ∧ k1 < 10 ∧ ∃ k2 : Nat, ((zup M11 114 k1 x2) 112 4) = iv k2 ∧ k2 < 10 ∧ Q true (zup (zup (zup M11 114 k1 x2) 115 k2 x5) 112 4 (((zup (zup M11 114 k1 x2) 115 k2 x5) 112 4) + 1)))) ∧ (b4 = false → zCz shC g (d + 4) mX5_fail [.ref 98, .int 1] M10 (fun b5 M11 => Q b5 M11))))) ∧ (b3 = false → zCz shC g (d + 4) mX5_fail [.ref 98, .int 2] M8 (fun b4 M9 => Q b4 M9)))) ∧ (x5 = (-1) → Q false M7)))) ∧ (b2 = false → zCz shC g (d + 4) mX5_fail [.ref 98, .int 1] M5 (fun b3 M6 => Q b3 M6))))) ∧ (x2 = (-1) → Q false M3)))) ∧ (¬ C 112 4 < 10 → zCz shC g (d + 4) mX5_fail [.ref 98, .int 3] C (fun b2 M2 => Q b2 M2)) → zCz shC g (d + 5) mX3_parseWant [.ref 112, .ref 98, .ref 1] C Q := fun d Q x =>
      vX3_parseWant (q_isWord h (d := d) (k := 9) (x := 9) (by decide) rfl ⟨fun _ => x, fun z => absurd c (of_decide_eq_false z)⟩)
    by_cases c10 : i = 10
    · refine ⟨false, FC C 3, FM M 3, FrL.off.x, fun _ => Flt.ofe h, fun z => absurd z (by decide), fun d Q q => rC d Q ⟨fun z => ?_, fun _ => c7_fail q⟩, fun d Q q => vX9_aWant ⟨fun _ => ⟨fun z => ?_, fun _ => c9_bad q⟩, fun z => absurd c z⟩⟩
      · rw [n1, c10] at z; exact absurd z (by decide)
      · rw [n2, c10] at z; exact absurd rfl z
    · have i10 : i < 10 := by omega
      have lt10 : C 112 4 < 10 := by
        rw [n1, Int32.lt_iff_toInt_lt, iv_toInt (by omega) (by omega)]
        simp only [Int32.reduceToInt]
        omega
      have m10 : ¬ M 0 22 = 10 := fun z => by
        rw [n2, eqI, iv_toInt (by omega) (by omega)] at z
        simp only [Int32.reduceToInt] at z
        omega
      have hw7 := is.2.2.2.2.2.1
      unfold rng at hw7
      have h71 : (M 1 157 - 1).toInt = (M 1 157).toInt - 1 := by simp (disch := ((try simp (disch := ((try simp (disch := ((try simp only [Int32.reduceToInt]); omega)) only [Int32.reduceToInt, ti_rem, ti_div, ti_mul, ti_add, ti_sub, iv_toInt]); omega)) only [Int32.reduceToInt, ti_rem, ti_div, ti_mul, ti_add, ti_sub, iv_toInt]); omega)) only [ti_sub, Int32.reduceToInt]
      obtain ⟨p1, e1, C1, M1, h1, hp1, o1, o2, w1, w2⟩ := s_step (g := g) (g' := g') h (by rw [c]; decide)
      have f1 : FrX C M C1 M1 := (FrL.ofn o1 o2).x
      have k112 : C1 112 1 - 1 = M 1 157 - 1 := by rw [o1.1 112 (by omega), n4]
      have m157 : M1 1 157 - 1 = M 1 157 - 1 := by rw [o2.1 1 (by omega)]
      rcases s_num (g := g) (g' := g') (lo := 0) (hi := M 1 157 - 1) h1 with ⟨k, u1, u2⟩ | ⟨a, p2, e2', C2, M2, h2, hp2, o3, o4, t2, va, la, ha, ra, u1, u2, u3⟩
      · refine ⟨false, FC C1 k, FM M1 k, f1.trans FrL.off.x, fun _ => Flt.ofe h1, fun z => absurd z (by decide), fun d Q q => rC d Q ⟨fun _ => w1 (d + 3) _ ?_, fun z => absurd lt10 z⟩, fun d Q q => vX9_aWant ⟨fun _ => ⟨fun _ => w2 (d + 1) _ ?_, fun z => absurd z m10⟩, fun z => absurd c z⟩⟩
        · rw [k112]
          exact u1 (d + 3) _ ⟨fun z => absurd rfl z, fun _ => q⟩
        · rw [m157]
          exact u2 d _ ⟨fun z => absurd z (by decide), fun _ => q⟩
      · have f2 := f1.trans (FrX.ofn o3 o4)
        have e33 : M2 0 33 = a := by rw [o4.2 33 (by omega), zup_same]
        have g22 : M2 0 22 = iv i := by
          rw [o4.2 22 (by omega), zup_ne (Or.inr (by omega)), o2.2 22 (by omega)]
          exact n2
        have h2' := h2.m (o := 11) (i := 2 * i) (x := a) (by omega)
        have f2' := f2.trans (FrX.m (o := 11) (i := 2 * i) (x := a) (by omega))
        have q25 : zup M2 11 (2 * i) a 0 25 = M2 0 25 := by rw [zup_oth (by omega)]
        have rC2 : ∀ (d : Nat) (Q : Bool → zM → Prop), zCz shC g (d + 4) mX5_isWord [.ref 98, .ref (4096 + 22)] C2 (fun b2 M5 => (b2 = true → zCv shC g (d + 4) mX5_next [.ref 98] M5 (fun M6 => zCi shC g (d + 4) mX5_number [.ref 98, .int 0, .int 63] M6 (fun x5 M7 => (¬ x5 = (-1) → zCz shC g (d + 4) mX7_isBox [.ref 1, .int x5] M7 (fun b3 M8 => (b3 = true → zCv shC g (d + 4) mX5_next [.ref 98] M8 (fun M9 => zCz shC g (d + 4) mX5_isSign [.ref 98, .int 59] M9 (fun b4 M10 => (b4 = true → zCv shC g (d + 4) mX5_next [.ref 98] M10 (fun M11 => ∃ k1 : Nat, (M11 112 4) = iv k1 ∧ k1 < 10 ∧ ∃ k2 : Nat, ((zup M11 114 k1 a) 112 4) = iv k2 ∧ k2 < 10 ∧ Q true (zup (zup (zup M11 114 k1 a) 115 k2 x5) 112 4 (((zup (zup M11 114 k1 a) 115 k2 x5) 112 4) + 1)))) ∧ (b4 = false → zCz shC g (d + 4) mX5_fail [.ref 98, .int 1] M10 (fun b5 M11 => Q b5 M11))))) ∧ (b3 = false → zCz shC g (d + 4) mX5_fail [.ref 98, .int 2] M8 (fun b4 M9 => Q b4 M9)))) ∧ (x5 = (-1) → Q false M7)))) ∧ (b2 = false → zCz shC g (d + 4) mX5_fail [.ref 98, .int 1] M5 (fun b3 M6 => Q b3 M6))) → zCz shC g (d + 5) mX3_parseWant [.ref 112, .ref 98, .ref 1] C Q := fun d Q x =>
          rC d Q ⟨fun _ => w1 (d + 3) _ (by
            rw [k112]
            exact u1 (d + 3) _ ⟨fun _ => u2 (d + 3) _ x, fun z => absurd z (neg1 ra)⟩), fun z => absurd lt10 z⟩
        have rM2 : ∀ (d : Nat) (Q : Bool → zM → Prop), zCz shM g' (d + 8) mX9_need [.ref 0, .int 10] (zup M2 11 (2 * i) a) (fun b2 M3 => (b2 = true → (¬ (M3 0 25) = 2 → zW shM g' (d + 9) mX9_aWant (zz Q) 105 [(0, .ref 0)] [] M3) ∧ ((M3 0 25) = 2 → zCz shM g' (d + 8) mX9_isBox [.ref 0, .int (M3 0 27)] M3 (fun b3 M4 => (b3 = true → zW shM g' (d + 9) mX9_aWant (zz Q) 105 [(0, .ref 0)] [] M4) ∧ (b3 = false → zCz shM g' (d + 8) mX9_bad [.ref 0, .int 2] M4 (fun b4 M5 => Q b4 M5))))) ∧ (b2 = false → Q false M3)) → zCz shM g' (d + 9) mX9_aWant [.ref 0] M Q := fun d Q x =>
          vX9_aWant ⟨fun _ => ⟨fun _ => w2 (d + 1) _ (by
            rw [m157]
            refine u3 d _ ⟨fun _ => ⟨2 * i, ?_, by omega, ?_⟩, fun z => absurd z (by decide)⟩
            · rw [g22, e20]
            · rw [e33]
              exact x), fun z => absurd z m10⟩, fun z => absurd c z⟩
        by_cases cat : M2 0 25 = 10
        · obtain ⟨p3, e3, C3, M3, h3, hp3, o5, o6, w3, w4⟩ := s_step (g := g) (g' := g') h2' (by rw [q25, cat]; decide)
          have f3 := f2'.trans (FrL.ofn o5 o6).x
          have c3 : ∀ o, o ≠ 98 → C3 o = C o := fun o ho => by rw [o5.1 o ho, o3.1 o ho, o1.1 o ho]
          have m3 : M3 1 = M 1 := f3.2.2.1 1 (by omega) (by omega)
          have rs3 : RS C3 1 (M 1) := rs.keepb fun o a b _ _ => c3 o (by omega)
          have rC3 : ∀ (d : Nat) (Q : Bool → zM → Prop), zCi shC g (d + 4) mX5_number [.ref 98, .int 0, .int 63] C3 (fun x5 M7 => (¬ x5 = (-1) → zCz shC g (d + 4) mX7_isBox [.ref 1, .int x5] M7 (fun b3 M8 => (b3 = true → zCv shC g (d + 4) mX5_next [.ref 98] M8 (fun M9 => zCz shC g (d + 4) mX5_isSign [.ref 98, .int 59] M9 (fun b4 M10 => (b4 = true → zCv shC g (d + 4) mX5_next [.ref 98] M10 (fun M11 => ∃ k1 : Nat, (M11 112 4) = iv k1 ∧ k1 < 10 ∧ ∃ k2 : Nat, ((zup M11 114 k1 a) 112 4) = iv k2 ∧ k2 < 10 ∧ Q true (zup (zup (zup M11 114 k1 a) 115 k2 x5) 112 4 (((zup (zup M11 114 k1 a) 115 k2 x5) 112 4) + 1)))) ∧ (b4 = false → zCz shC g (d + 4) mX5_fail [.ref 98, .int 1] M10 (fun b5 M11 => Q b5 M11))))) ∧ (b3 = false → zCz shC g (d + 4) mX5_fail [.ref 98, .int 2] M8 (fun b4 M9 => Q b4 M9)))) ∧ (x5 = (-1) → Q false M7)) → zCz shC g (d + 5) mX3_parseWant [.ref 112, .ref 98, .ref 1] C Q := fun d Q x =>
            rC2 d Q (q_isWord h2 (d := d) (k := 10) (x := 10) (by decide) rfl ⟨fun _ => w3 (d + 3) _ x, fun z => absurd cat (of_decide_eq_false z)⟩)
          have rM3 : ∀ (d : Nat) (Q : Bool → zM → Prop), (¬ (M3 0 25) = 2 → zW shM g' (d + 9) mX9_aWant (zz Q) 105 [(0, .ref 0)] [] M3) ∧ ((M3 0 25) = 2 → zCz shM g' (d + 8) mX9_isBox [.ref 0, .int (M3 0 27)] M3 (fun b3 M4 => (b3 = true → zW shM g' (d + 9) mX9_aWant (zz Q) 105 [(0, .ref 0)] [] M4) ∧ (b3 = false → zCz shM g' (d + 8) mX9_bad [.ref 0, .int 2] M4 (fun b4 M5 => Q b4 M5)))) → zCz shM g' (d + 9) mX9_aWant [.ref 0] M Q := fun d Q x =>
            rM2 d Q (vX9_need ⟨fun _ => w4 d _ ⟨fun _ => x, fun z => absurd z (by decide)⟩, fun z => absurd (q25.trans cat) z⟩)
          by_cases cb : M3 0 25 = 2 ∧ boxB (M 1 150) (M 1 151) (M3 0 27) = false
          · obtain ⟨z1, z2⟩ := cb
            obtain ⟨v1, v2⟩ := h3.num z1
            refine ⟨false, FC C3 2, FM M3 2, f3.trans FrL.off.x, fun _ => Flt.ofe h3, fun z => absurd z (by decide), fun d Q q => rC3 d Q (q_number h3 (fun _ _ _ => ⟨fun _ => c7_isBox is rs3 ?_, fun z => absurd z (neg1 v2)⟩) (fun _ _ => ⟨fun z => absurd rfl z, fun _ => q⟩) fun z => absurd z1 z), fun d Q q => rM3 d Q ⟨fun z => absurd z1 z, fun _ => c9_isBox (by rw [m3]; exact is.1) ?_⟩⟩
            · rw [← v1, z2]
              exact ⟨fun z => absurd z (by decide), fun _ => c7_fail q⟩
            · rw [m3, z2]
              exact ⟨fun z => absurd z (by decide), fun _ => c9_bad q⟩
          · have rM4 : ∀ (d : Nat) (Q : Bool → zM → Prop), zW shM g' (d + 9) mX9_aWant (zz Q) 105 [(0, .ref 0)] [] M3 → zCz shM g' (d + 9) mX9_aWant [.ref 0] M Q := fun d Q x =>
              rM3 d Q ⟨fun _ => x, fun z => c9_isBox (by rw [m3]; exact is.1) (by
                rw [m3, eq_true_of_ne_false fun w => cb ⟨z, w⟩]
                exact ⟨fun _ => x, fun z => absurd z (by decide)⟩)⟩
            rcases s_num (g := g) (g' := g') (lo := 0) (hi := 63) h3 with ⟨k, u4, u5⟩ | ⟨v, p4, e4, C4, M4, h4, hp4, o7, o8, t4, vc, lc, hc, rc, u4, u5, u6⟩
            · exact ⟨false, FC C3 k, FM M3 k, f3.trans FrL.off.x, fun _ => Flt.ofe h3, fun z => absurd z (by decide), fun d Q q => rC3 d Q (u4 (d + 3) _ ⟨fun z => absurd rfl z, fun _ => q⟩), fun d Q q => rM4 d Q (vX9_aWant_105 (u5 d _ ⟨fun z => absurd z (by decide), fun _ => q⟩))⟩
            · have bx : boxB (M 1 150) (M 1 151) v = true := by
                rw [← vc]
                exact eq_true_of_ne_false fun w => cb ⟨t4, w⟩
              have f4 := f3.trans (FrX.ofn o7 o8)
              have e33b : M4 0 33 = v := by rw [o8.2 33 (by omega), zup_same]
              have g22b : M4 0 22 = iv i := by
                rw [o8.2 22 (by omega), zup_ne (Or.inr (by omega)), o6.2 22 (by omega), zup_oth (by omega)]
                exact g22
              have g11 : M4 11 = upd (M 11) (2 * i) a := by
                rw [o8.1 11 (by omega), zup_oth (by omega), o6.1 11 (by omega), zup_row, o4.1 11 (by omega), zup_oth (by omega), o2.1 11 (by omega)]
              have hc4 : ∀ o, o ≠ 98 → C4 o = C o := fun o ho => (o7.1 o ho).trans (c3 o ho)
              have hs4 : ∀ s, 6 ≤ s → C4 98 s = C 98 s := fun s hs => by rw [o7.2 s (by omega), o5.2 s (by omega), o3.2 s (by omega), o1.2 s (by omega)]
              have h4' := (h4.m (o := 11) (i := 2 * i + 1) (x := v) (by omega)).m0 (i := 22) (x := iv (i + 1 : Nat)) (by omega)
              have f5 := (f4.trans (FrX.m (o := 11) (i := 2 * i + 1) (x := v) (by omega))).trans (FrX.m0 (i := 22) (x := iv (i + 1 : Nat)) (by omega))
              have q25b : zup (zup M4 11 (2 * i + 1) v) 0 22 (iv (i + 1 : Nat)) 0 25 = M4 0 25 := by rw [zup_ne (Or.inr (by omega)), zup_oth (by omega)]
              have rC5 : ∀ (d : Nat) (Q : Bool → zM → Prop), zCz shC g (d + 4) mX5_isSign [.ref 98, .int 59] C4 (fun b4 M10 => (b4 = true → zCv shC g (d + 4) mX5_next [.ref 98] M10 (fun M11 => ∃ k1 : Nat, (M11 112 4) = iv k1 ∧ k1 < 10 ∧ ∃ k2 : Nat, ((zup M11 114 k1 a) 112 4) = iv k2 ∧ k2 < 10 ∧ Q true (zup (zup (zup M11 114 k1 a) 115 k2 v) 112 4 (((zup (zup M11 114 k1 a) 115 k2 v) 112 4) + 1)))) ∧ (b4 = false → zCz shC g (d + 4) mX5_fail [.ref 98, .int 1] M10 (fun b5 M11 => Q b5 M11))) → zCz shC g (d + 5) mX3_parseWant [.ref 112, .ref 98, .ref 1] C Q := fun d Q x =>
                rC3 d Q (u4 (d + 3) _ ⟨fun _ => c7_isBox is rs3 (by
                  rw [bx]
                  exact ⟨fun _ => u5 (d + 3) _ x, fun z => absurd z (by decide)⟩), fun z => absurd z (neg1 rc)⟩)
              have rM5 : ∀ (d : Nat) (Q : Bool → zM → Prop), zCz shM g' (d + 8) mX9_need [.ref 0, .int 159] (zup (zup M4 11 (2 * i + 1) v) 0 22 (iv (i + 1 : Nat))) (fun b1 M1 => Q b1 M1) → zCz shM g' (d + 9) mX9_aWant [.ref 0] M Q := fun d Q x =>
                rM4 d Q (vX9_aWant_105 (u6 d _ ⟨fun _ => ⟨2 * i + 1, by rw [g22b]; exact e2 1, by omega, by
                  rw [e33b, zup_oth (by omega), g22b, iv_s]
                  exact x⟩, fun z => absurd z (by decide)⟩))
              by_cases c59 : M4 0 25 = 159
              · obtain ⟨p5, e5, C5, M5, h5, hp5, o9, o10, w5, w6⟩ := s_step (g := g) (g' := g') h4' (by rw [q25b, c59]; decide)
                have k1 : C5 112 4 = iv i := by rw [o9.1 112 (by omega), hc4 112 (by omega)]; exact n1
                have m5 : M5 1 = M 1 := by rw [o10.1 1 (by omega), zup_oth (by omega), zup_oth (by omega), o8.1 1 (by omega), zup_oth (by omega), m3]
                have r11 : M5 11 = upd (upd (M 11) (2 * i) a) (2 * i + 1) v := by rw [o10.1 11 (by omega), zup_oth (by omega), zup_row, g11]
                have r14 : zup (zup (zup C5 114 i a) 115 i v) 112 4 (iv (i + 1 : Nat)) 114 = upd (C 114) i a := by rw [zup_oth (by omega), zup_oth (by omega), zup_row, o9.1 114 (by omega), hc4 114 (by omega)]
                have r15 : zup (zup (zup C5 114 i a) 115 i v) 112 4 (iv (i + 1 : Nat)) 115 = upd (C 115) i v := by rw [zup_oth (by omega), zup_row, zup_oth (by omega), o9.1 115 (by omega), hc4 115 (by omega)]
                refine ⟨true, zup (zup (zup C5 114 i a) 115 i v) 112 4 (iv (i + 1 : Nat)), M5, (((f5.trans (FrL.ofn o9 o10).x).trans (FrX.c (by omega))).trans (FrX.c (by omega))).trans (FrX.c (by omega)), fun z => absurd z (by decide), fun _ => ⟨?_, ?_, p5, e5, ((h5.c (by omega)).c (by omega)).c (by omega), by omega, ?_, by rw [m5]; exact is, zup_same, ?_, by omega, ?_, fun j hj hq => ?_, fun j hj => ?_⟩, fun d Q q => rC5 d Q (q_isSign h4 (c := 59) (x := 159) (by unfold isSg; simp only [true_or, or_true]) (by decide) ⟨fun _ => w5 (d + 3) _ ⟨i, k1, i10, i, by rw [zup_oth (by omega)]; exact k1, i10, ?_⟩, fun z => absurd c59 (of_decide_eq_false z)⟩), fun d Q q => rM5 d Q (vX9_need ⟨fun _ => w6 d _ q, fun z => absurd (q25b.trans c59) z⟩)⟩
                · rw [zup_oth (by omega), zup_oth (by omega), zup_oth (by omega), o9.2 6 (by omega)]; exact hs4 6 (by omega)
                · rw [zup_oth (by omega), zup_oth (by omega), zup_oth (by omega), o9.2 7 (by omega)]; exact hs4 7 (by omega)
                · rw [m5]
                  exact rs.keepb fun o x y _ _ => by rw [zup_oth (by omega), zup_oth (by omega), zup_oth (by omega), o9.1 o (by omega), hc4 o (by omega)]
                · rw [o10.2 22 (by omega), zup_same]
                · rw [m5, zup_ne (Or.inr (by omega)), zup_oth (by omega), zup_oth (by omega), o9.1 112 (by omega), hc4 112 (by omega)]; exact n4
                · rw [m5] at hq ⊢
                  rw [zup_oth (by omega), zup_oth (by omega), zup_oth (by omega), o9.1 113 (by omega), hc4 113 (by omega)]
                  exact n5 j hj hq
                · rw [r14, r15, r11, m5]
                  by_cases ej : j = i
                  · rw [ej, upd_at, upd_at, upd_ne (by omega), upd_at, upd_at]
                    refine ⟨rfl, rfl, ?_, bx⟩
                    simp only [skB, decide_eq_true_eq, decide_eq_false_iff_not]
                    rw [h71] at ha
                    have la' : 0 ≤ a.toInt := la
                    omega
                  · rw [upd_ne ej, upd_ne ej, upd_ne (by omega), upd_ne (by omega), upd_ne (by omega), upd_ne (by omega)]
                    exact n6 j (by omega)
                · rw [zup_oth (a := 112) (by omega), zup_oth (a := 112) (by omega), k1, iv_s]
                  exact q
              · exact ⟨false, _, _, f5.trans FrL.off.x, fun _ => Flt.ofe h4', fun z => absurd z (by decide), fun d Q q => rC5 d Q (q_isSign h4 (c := 59) (x := 159) (by unfold isSg; simp only [true_or, or_true]) (by decide) ⟨fun z => absurd (of_decide_eq_true z) c59, fun _ => c7_fail q⟩), fun d Q q => rM5 d Q (vX9_need ⟨fun z => absurd (q25b.symm.trans z) c59, fun _ => c9_bad q⟩)⟩
        · exact ⟨false, _, _, f2'.trans FrL.off.x, fun _ => Flt.ofe h2', fun z => absurd z (by decide), fun d Q q => rC2 d Q (q_isWord h2 (d := d) (k := 10) (x := 10) (by decide) rfl ⟨fun z => absurd (of_decide_eq_true z) cat, fun _ => c7_fail q⟩), fun d Q q => rM2 d Q (vX9_need ⟨fun z => absurd (q25.symm.trans z) cat, fun _ => c9_bad ⟨fun z => absurd z (by decide), fun _ => q⟩⟩)⟩
  · exact ⟨false, FC C 1, FM M 1, FrL.off.x, fun _ => Flt.ofe h, fun z => absurd z (by decide), fun d Q q => vX3_parseWant (q_isWord h (d := d) (k := 9) (x := 9) (by decide) rfl ⟨fun z => absurd (of_decide_eq_true z) c, fun _ => c7_fail q⟩), fun d Q q => vX9_aWant ⟨fun z => absurd z c, fun _ => c9_bad q⟩⟩
end WA
