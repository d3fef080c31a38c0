/-! A PART OF A WAY, both sides -/
section WP
variable {g g' : zG} {t : Nat → Int32} {n : Nat}
theorem c7_markTold {p e d : Nat} {C M : zM} {Q : Int32 → zM → Prop} (h : TK t n 0 p e C M) (h1 : M 0 25 = 16 → Q 1 C) (h2 : M 0 25 = 17 → Q 2 C) (h0 : ¬ M 0 25 = 16 → ¬ M 0 25 = 17 → Q 0 C) : zCi shC g (d + 5) mX6_markTold [.ref 98] C Q :=
  vX6_markTold (q_isWord h (d := d) (k := 16) (x := 16) (by decide) rfl ⟨fun a => q_isWord h (d := d) (k := 17) (x := 17) (by decide) rfl ⟨fun b => h0 (of_decide_eq_false a) (of_decide_eq_false b), fun b => h2 (of_decide_eq_true b)⟩, fun a => h1 (of_decide_eq_true a)⟩)
theorem c7_wayTold {p e d : Nat} {C M : zM} {Q : Int32 → zM → Prop} (h : TK t n 0 p e C M) (h1 : ∀ w : Nat, w ≤ 4 → M 0 25 = iv (11 + w : Nat) → Q (iv w) C) (h0 : ¬ (11 ≤ (M 0 25).toInt ∧ (M 0 25).toInt ≤ 15) → Q (-1) C) : zCi shC g (d + 5) mX6_wayTold [.ref 98] C Q := by
  refine vX6_wayTold (q_isWord h (d := d) (k := 11) (x := 11) (by decide) rfl ⟨fun a => q_isWord h (d := d) (k := 12) (x := 12) (by decide) rfl ⟨fun b => q_isWord h (d := d) (k := 13) (x := 13) (by decide) rfl ⟨fun c => q_isWord h (d := d) (k := 14) (x := 14) (by decide) rfl ⟨fun e => q_isWord h (d := d) (k := 15) (x := 15) (by decide) rfl ⟨fun f => h0 fun z => ?_, fun f => h1 4 (by omega) (of_decide_eq_true f)⟩, fun e => h1 3 (by omega) (of_decide_eq_true e)⟩, fun c => h1 2 (by omega) (of_decide_eq_true c)⟩, fun b => h1 1 (by omega) (of_decide_eq_true b)⟩, fun a => h1 0 (by omega) (of_decide_eq_true a)⟩)
  simp only [decide_eq_true_eq, decide_eq_false_iff_not, eqI, Int32.reduceToInt] at a b c e f
  omega
theorem s_some {s p e pk wy : Nat} {C M : zM} (hs : s < 6) (h : TK t n 0 p e C M) (hpk : pk ≤ 1) (hsk : Sk s C M (iv pk)) (hwy : wy ≤ 4) (c : M 0 25 = iv (11 + wy : Nat)) : ∃ (b : Bool) (C' M' : zM), FrX C M C' M' ∧ (b = false → Flt C' M') ∧ (b = true → C' 98 6 = C 98 6 ∧ C' 98 7 = C 98 7 ∧ C' 100 = C 100 ∧ C' 104 = C 104 ∧ M' 9 = M 9 ∧ M' 0 19 = M 0 19 ∧ M' 0 20 = M 0 20 ∧ (∃ p' e' : Nat, TK t n 0 p' e' C' M' ∧ p < p') ∧ Sk s C' M' (iv pk) ∧ (∀ u sk, u ≠ s → Sk u C M sk → Sk u C' M' sk) ∧ ∀ u, u ≠ s → M' 8 u = M 8 u) ∧
    (∀ (d : Nat) (Q : Bool → zM → Prop), Q b C' → zCz shC g (d + 6) mX6_parsePart [.ref 100, .ref 98, .int (iv s)] C Q) ∧ ∀ (d : Nat) (Q : Bool → zM → Prop), Q b M' → zCz shM g' (d + 9) mX9_someSteps [.ref 0, .int (iv s), .int (iv pk)] M Q := by
  have t25 : (M 0 25).toInt = 11 + wy := by
    rw [c, iv_toInt (by omega) (by omega)]
    omega
  have hz : ¬ M 0 25 = 0 := fun z => by
    rw [z] at t25
    have z0 : (0 : Int32).toInt = 0 := rfl
    omega
  have kw : M 0 25 - 11 = iv wy := by
    rw [c, show (11 : Int32) = iv 11 from rfl, iv_sub]
    congr 1
    omega
  have n16 : ∀ x : Nat, 16 ≤ x → x ≤ 17 → ¬ M 0 25 = iv x := fun x a b z => by
    rw [c, iv_inj (by omega) (by omega)] at z
    omega
  obtain ⟨p1, e1, C1, M1, h1, hp1, o1, o2, w1, w2⟩ := s_step (g := g) (g' := g') h hz
  have f1 : FrX C M C1 M1 := (FrL.ofn o1 o2).x
  have sk1 : ∀ u sk, Sk u C M sk → Sk u C1 M1 sk := fun u sk x => x.keep (fun _ _ => by rw [o1.1 101 (by omega)]) (by rw [o1.1 102 (by omega)]) (by rw [o1.1 103 (by omega)]) (fun _ _ => by rw [o2.1 7 (by omega)]) (by rw [o2.1 8 (by omega)])
  have hh := sk1 s _ hsk
  obtain ⟨n0, tl, pk', a1, a2, a3, a4, a5, -⟩ := hh
  have rC : ∀ (d : Nat) (Q : Bool → zM → Prop), zCi shC g (d + 5) mX5_number [.ref 98, .int 1, .int 20] C1 (fun x4 M4 => (¬ x4 = (-1) → ∃ k1 : Nat, iv (s : Nat) = iv k1 ∧ k1 < 6 ∧ (((M4 102 k1) + x4) ≤ 60 → zCv shC g (d + 5) mX6_append [.ref 100, .int (iv s), .int (iv wy), .int x4] M4 (fun M5 => zCv shC g (d + 5) mX5_next [.ref 98] M5 (fun M6 => Q true M6))) ∧ (¬ ((M4 102 k1) + x4) ≤ 60 → zCz shC g (d + 5) mX5_fail [.ref 98, .int 4] M4 (fun b1 M5 => Q b1 M5))) ∧ (x4 = (-1) → Q false M4)) → zCz shC g (d + 6) mX6_parsePart [.ref 100, .ref 98, .int (iv s)] C Q := fun d Q x =>
    vX6_parsePart (c7_markTold h (fun z => absurd z (n16 16 (by omega) (by omega))) (fun z => absurd z (n16 17 (by omega) (by omega))) fun _ _ => ⟨fun _ => c7_wayTold h (fun w hw e => by
      obtain rfl : w = wy := by
        rw [c, iv_inj (by omega) (by omega)] at e
        omega
      refine ⟨fun _ => w1 (d + 4) _ x, fun z => ?_⟩
      rw [eqI, iv_toInt (by omega) (by omega)] at z
      simp only [Int32.reduceToInt] at z
      omega) fun z => absurd ⟨by omega, by omega⟩ z, fun z => absurd rfl z⟩)
  have rM : ∀ (d : Nat) (Q : Bool → zM → Prop), (¬ (M1 0 25) = 2 → zCz shM g' (d + 8) mX9_number [.ref 0, .int 1, .int 20] M1 (fun b1 M2 => (b1 = true → zW shM g' (d + 9) mX9_someSteps (zz Q) 70 [(0, .ref 0), (1, .int (iv s)), (2, .int (iv pk)), (3, .int (iv wy)), (4, .int 0)] [] M2) ∧ (b1 = false → Q false M2))) ∧ ((M1 0 25) = 2 → (isInB (M1 0 27) 1 20 = false → zCz shM g' (d + 8) mX9_number [.ref 0, .int 1, .int 20] M1 (fun b2 M3 => (b2 = true → zW shM g' (d + 9) mX9_someSteps (zz Q) 70 [(0, .ref 0), (1, .int (iv s)), (2, .int (iv pk)), (3, .int (iv wy)), (4, .int 0)] [] M3) ∧ (b2 = false → Q false M3))) ∧ (isInB (M1 0 27) 1 20 = true → (((M1 8 s) + (M1 0 27)) ≤ 60 → zCz shM g' (d + 8) mX9_number [.ref 0, .int 1, .int 20] M1 (fun b2 M3 => (b2 = true → zW shM g' (d + 9) mX9_someSteps (zz Q) 70 [(0, .ref 0), (1, .int (iv s)), (2, .int (iv pk)), (3, .int (iv wy)), (4, .int 0)] [] M3) ∧ (b2 = false → Q false M3))) ∧ (¬ ((M1 8 s) + (M1 0 27)) ≤ 60 → zCz shM g' (d + 8) mX9_bad [.ref 0, .int 4] M1 (fun b2 M3 => Q b2 M3)))) → zCz shM g' (d + 9) mX9_someSteps [.ref 0, .int (iv s), .int (iv pk)] M Q := fun d Q x =>
    vX9_someSteps (w2 (d + 1) _ (by
      rw [kw]
      exact ⟨x.1, fun z => c9_isIn ⟨(x.2 z).1, fun z2 => ⟨s, rfl, hs, (x.2 z).2 z2⟩⟩⟩))
  by_cases c2 : M1 0 25 = 2
  · obtain ⟨v1, v2⟩ := h1.num c2
    by_cases cr : (1 : Int32).toInt ≤ (C1 98 5).toInt ∧ (C1 98 5).toInt ≤ (20 : Int32).toInt
    · have i1 : (1 : Int32).toInt = 1 := rfl
      have i20 : (20 : Int32).toInt = 20 := rfl
      obtain ⟨v, hv⟩ : ∃ v : Nat, v = (C1 98 5).toInt.toNat := ⟨_, rfl⟩
      have ev : C1 98 5 = iv v := by
        rw [eqI, iv_toInt (by omega) (by omega)]
        omega
      have inb : isInB (M1 0 27) 1 20 = true := by
        rw [v1]
        simp only [isInB, decide_eq_true_eq, decide_eq_false_iff_not]
        exact cr
      have hsum : (iv (n0 : Nat) + iv (v : Nat)).toInt = n0 + v := by
        rw [iv_add, iv_toInt (by omega) (by omega)]
      have i60 : (60 : Int32).toInt = 60 := rfl
      by_cases c60 : n0 + v ≤ 60
      · have le60 : iv (n0 : Nat) + iv (v : Nat) ≤ 60 := by
          rw [Int32.le_iff_toInt_le, hsum, i60]
          omega
        -- the class: append, then the next token
        obtain ⟨z1, z2, z3, -⟩ := s_append (g := g) (g' := g') (v := v) hs hwy hpk v 0 n0 tl C1 (zup M1 0 33 (iv v)) (by omega) (by omega) (by omega) (by rw [zup_oth (by omega)]; exact a1) zup_same a4 a5 ((sk1 s _ hsk).keep (fun _ _ => rfl) rfl rfl (fun _ _ => by rw [zup_oth (by omega)]) (by rw [zup_oth (by omega)]))
        have tk1 : TK t n 0 p1 e1 (apCs C1 s n0 tl wy v) (zup M1 0 33 (iv v)) := (h1.keep (z2.1 98 (by omega)) (z2.1 99 (by omega)) rfl rfl fun _ _ _ => rfl).m0 (by omega)
        obtain ⟨p2, e2, C2, M2, h2, hp2, o3, o4, w3, w4⟩ := s_step (g := g) (g' := g') tk1 (by rw [zup_ne (Or.inr (by omega)), c2]; decide)
        have skm : ∀ u sk, Sk u C1 M1 sk → Sk u C1 M2 sk := fun u sk x => x.keep (fun _ _ => rfl) rfl rfl (fun _ _ => by rw [o4.1 7 (by omega), zup_oth (by omega)]) (by rw [o4.1 8 (by omega), zup_oth (by omega)])
        obtain ⟨y1, y2, -, y4⟩ := s_append (g := g) (g' := g') (v := v) hs hwy hpk v 0 n0 tl C1 M2 (by omega) (by omega) (by omega) (by rw [o4.1 8 (by omega), zup_oth (by omega)]; exact a1) (by rw [o4.2 33 (by omega), zup_same]) a4 a5 (skm s _ (sk1 s _ hsk))
        have skc : ∀ u sk, Sk u (apCs C1 s n0 tl wy v) (apMs M2 s n0 wy pk v) sk → Sk u C2 (apMs M2 s n0 wy pk v) sk := fun u sk x => x.keep (fun _ _ => by rw [o3.1 101 (by omega)]) (by rw [o3.1 102 (by omega)]) (by rw [o3.1 103 (by omega)]) (fun _ _ => rfl) rfl
        have m0 : apMs M2 s n0 wy pk v 0 = M2 0 := y2.2.1 0 (by omega) (by omega)
        have cx : ∀ o, o ≠ 98 → ¬ (101 ≤ o ∧ o ≤ 103) → C2 o = C o := fun o a b => by rw [o3.1 o a, z2.1 o b, o1.1 o a]
        refine ⟨true, C2, apMs M2 s n0 wy pk v, ⟨fun o a b => cx o a (by omega), ?_, fun o a b => ?_, fun x hx => ?_⟩, fun z => absurd z (by decide), fun _ => ⟨?_, ?_, cx 100 (by omega) (by omega), cx 104 (by omega) (by omega), ?_, ?_, ?_, ⟨p2, e2, ?_, by omega⟩, skc s _ y1, fun u sk a b => skc u sk (y2.2.2.1 u sk a (skm u sk (sk1 u sk b))), fun u a => by rw [y2.2.2.2 u a, o4.1 8 (by omega), zup_oth (by omega), o2.1 8 (by omega)]⟩, fun d Q q => rC d Q (q_number h1 (fun _ _ _ => ⟨fun _ => ⟨s, rfl, hs, fun _ => vX6_append (by
          rw [ev]
          exact z3 (d + 5) _ (w3 (d + 4) _ q)), fun z => absurd (by rw [a2, ev]; exact le60) z⟩, fun z => ?_⟩) (fun _ z => absurd cr z) fun z => absurd c2 z), fun d Q q => rM d Q ⟨fun z => absurd c2 z, fun _ => ⟨fun z => absurd (inb.symm.trans z) (by decide), fun _ => ⟨fun _ => vX9_number ⟨fun _ => c9_isIn (by
            rw [inb, v1, ev]
            exact ⟨fun _ => w4 d _ ⟨fun _ => y4 (d + 8) _ q, fun z => absurd z (by decide)⟩, fun z => absurd z (by decide)⟩), fun z => absurd c2 z⟩, fun z => absurd (by rw [a1, v1, ev]; exact le60) z⟩⟩⟩⟩
        · rw [o3.2 1 (by omega), z2.1 98 (by omega), o1.2 1 (by omega)]
        · rw [y2.2.1 o (by omega) (by omega), o4.1 o a, zup_oth a, o2.1 o a]
        · rw [m0, o4.2 x (by omega), zup_ne (Or.inr (by omega)), o2.2 x (by omega)]
        · rw [o3.2 6 (by omega), z2.1 98 (by omega), o1.2 6 (by omega)]
        · rw [o3.2 7 (by omega), z2.1 98 (by omega), o1.2 7 (by omega)]
        · rw [y2.2.1 9 (by omega) (by omega), o4.1 9 (by omega), zup_oth (by omega), o2.1 9 (by omega)]
        · rw [m0, o4.2 19 (by omega), zup_ne (Or.inr (by omega)), o2.2 19 (by omega)]
        · rw [m0, o4.2 20 (by omega), zup_ne (Or.inr (by omega)), o2.2 20 (by omega)]
        · exact h2.keep rfl rfl (by rw [y2.2.1 12 (by omega) (by omega)]) (by rw [m0]) fun _ _ _ => by rw [m0]
        · exact absurd z (neg1 v2)
      · have n60 : ¬ iv (n0 : Nat) + iv (v : Nat) ≤ 60 := fun z => by
          rw [Int32.le_iff_toInt_le, hsum, i60] at z
          omega
        refine ⟨false, FC C1 4, FM M1 4, f1.trans FrL.off.x, fun _ => Flt.ofe h1, fun z => absurd z (by decide), fun d Q q => rC d Q (q_number h1 (fun _ _ _ => ⟨fun _ => ⟨s, rfl, hs, fun z => absurd (by rw [a2, ev] at z; exact z) n60, fun _ => c7_fail q⟩, fun z => absurd z (neg1 v2)⟩) (fun _ z => absurd cr z) fun z => absurd c2 z), fun d Q q => rM d Q ⟨fun z => absurd c2 z, fun _ => ⟨fun z => absurd (inb.symm.trans z) (by decide), fun _ => ⟨fun z => absurd (by rw [a1, v1, ev] at z; exact z) n60, fun _ => c9_bad q⟩⟩⟩⟩
    · have inb : isInB (M1 0 27) 1 20 = false := by
        rw [v1]
        simp only [isInB, decide_eq_true_eq, decide_eq_false_iff_not]
        exact cr
      refine ⟨false, FC C1 2, FM M1 2, f1.trans FrL.off.x, fun _ => Flt.ofe h1, fun z => absurd z (by decide), fun d Q q => rC d Q (q_number h1 (fun _ x y => absurd ⟨x, y⟩ cr) (fun _ _ => ⟨fun z => absurd rfl z, fun _ => q⟩) fun z => absurd c2 z), fun d Q q => rM d Q ⟨fun z => absurd c2 z, fun _ => ⟨fun _ => vX9_number ⟨fun _ => c9_isIn (by
        rw [inb]
        exact ⟨fun z => absurd z (by decide), fun _ => c9_bad ⟨fun z => absurd z (by decide), fun _ => q⟩⟩), fun z => absurd c2 z⟩, fun z => absurd (inb.symm.trans z) (by decide)⟩⟩⟩
  · exact ⟨false, FC C1 1, FM M1 1, f1.trans FrL.off.x, fun _ => Flt.ofe h1, fun z => absurd z (by decide), fun d Q q => rC d Q (q_number h1 (fun z => absurd z c2) (fun z => absurd z c2) fun _ => ⟨fun z => absurd rfl z, fun _ => q⟩), fun d Q q => rM d Q ⟨fun _ => vX9_number ⟨fun z => absurd z c2, fun _ => c9_bad ⟨fun z => absurd z (by decide), fun _ => q⟩⟩, fun z => absurd z c2⟩⟩
end WP
