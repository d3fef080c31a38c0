/-! A LINE OF WAYS, both sides -/
def ins (S : Nat → Bool) (s : Nat) : Nat → Bool := fun k => decide (k = s) || S k
theorem cntB_ins {S : Nat → Bool} {s : Nat} (hs : S s = false) : ∀ m, cntB (ins S s) m = cntB S m + (if s < m then 1 else 0)
  | 0 => by
    rw [if_neg (by omega)]
    rfl
  | m + 1 => by
    rw [cntB, cntB, cntB_ins hs m]
    by_cases e : m = s
    · have e1 : ins S s m = true := by
        unfold ins
        rw [e]
        simp
      have e2 : S m = false := by rw [e]; exact hs
      rw [if_neg (show ¬ s < m by omega), if_pos e1, if_neg (show ¬ S m = true by rw [e2]; exact Bool.false_ne_true), if_pos (show s < m + 1 by omega)]
    · have e1 : ins S s m = S m := by
        unfold ins
        rw [decide_eq_false e, Bool.false_or]
      rw [e1]
      by_cases c : s < m
      · rw [if_pos c, if_pos (show s < m + 1 by omega)]
        omega
      · rw [if_neg c, if_neg (show ¬ s < m + 1 by omega)]
        omega
theorem bset_ins {S : Nat → Bool} {s : Nat} (hs : s < 6) : bset S 6 ||| (1 <<< (iv s &&& 31)) = bset (ins S s) 6 := by
  refine bit_ext fun k hk => ?_
  rw [bit_or, bit_bset hk 6 (by omega), bit_bset hk 6 (by omega), bit_one (by omega) hk]
  unfold ins
  by_cases e : k = s
  · rw [e]
    simp [hs]
  · simp [e]
def WY (S : Nat → Bool) (C M : zM) : Prop := (∀ s, s < 6 → C 104 s = if S s then 1 else 0) ∧ M 0 20 = bset S 6 ∧ C 100 4 = iv (cntB S 6 : Nat) ∧ M 0 19 = iv (cntB S 6 : Nat) ∧ (∀ s : Nat, s < 6 → S s = true → (s : Int) < (M 1 154).toInt) ∧ (∀ s, s < 6 → S s = false → M 8 s = 0 ∧ M 9 s = 1) ∧ ∀ s, s < 6 → Sk s C M (M 9 s)
section WN
variable {g g' : zG} {t : Nat → Int32} {n : Nat}
theorem s_way {p e : Nat} {S : Nat → Bool} {C M : zM} (h : TK t n 0 p e C M) (hN : rng (M 1 154) 0 6) (hw : WY S C M) : ∃ (b : Bool) (C' M' : zM), FrX C M C' M' ∧ (b = false → Flt C' M') ∧ (b = true → C' 98 6 = C 98 6 ∧ C' 98 7 = C 98 7 ∧ (∃ p' e' : Nat, TK t n 0 p' e' C' M' ∧ p < p') ∧ ∃ S' : Nat → Bool, WY S' C' M') ∧
    (∀ (d : Nat) (Q : Bool → zM → Prop), Q b C' → zCz shC g (d + 7) mX6_parseLine [.ref 100, .ref 98, .int (M 1 154)] C Q) ∧ ∀ (d : Nat) (Q : Bool → zM → Prop), Q b M' → zCz shM g' (d + 10) mX9_aWay [.ref 0] M Q := by
  obtain ⟨a1, a2, a3, a4, a5, a6, a7⟩ := hw
  unfold rng at hN
  have h71 : (M 1 154 - 1).toInt = (M 1 154).toInt - 1 := by simp (disch := ((try simp (disch := ((try simp (disch := ((try simp only [Int32.reduceToInt]); omega)) only [Int32.reduceToInt, ti_rem, ti_div, ti_mul, ti_add, ti_sub, iv_toInt]); omega)) only [Int32.reduceToInt, ti_rem, ti_div, ti_mul, ti_add, ti_sub, iv_toInt]); omega)) only [ti_sub, Int32.reduceToInt]
  have z0 : (0 : Int32).toInt = 0 := rfl
  have z6 : (6 : Int32).toInt = 6 := rfl
  by_cases c : M 0 25 = 7
  · obtain ⟨p1, e1, C1, M1, h1, hp1, o1, o2, w1, w2⟩ := s_step (g := g) (g' := g') h (by rw [c]; decide)
    have f1 : FrX C M C1 M1 := (FrL.ofn o1 o2).x
    have m1 : M1 1 = M 1 := o2.1 1 (by omega)
    have hl1 := h1.len
    have rC : ∀ (d : Nat) (Q : Bool → zM → Prop), zCi shC g (d + 6) mX5_number [.ref 98, .int 0, .int (M 1 154 - 1)] C1 (fun x2 M3 => (x2 < 0 → Q false M3) ∧ (¬ x2 < 0 → (x2 < 6 → ∃ k1 : Nat, x2 = iv k1 ∧ k1 < 6 ∧ (¬ (M3 104 k1) = 1 → zCv shC g (d + 6) mX5_next [.ref 98] (zup M3 104 k1 1) (fun M4 => zW shC g (d + 7) mX6_parseLine (zz Q) 70 [(0, .ref 100), (1, .ref 98), (3, .int x2), (4, .int 0)] [] M4)) ∧ ((M3 104 k1) = 1 → zCz shC g (d + 6) mX5_fail [.ref 98, .int 3] M3 (fun b2 M4 => Q b2 M4))) ∧ (¬ x2 < 6 → Q false M3))) → zCz shC g (d + 7) mX6_parseLine [.ref 100, .ref 98, .int (M 1 154)] C Q := fun d Q x =>
      vX6_parseLine (q_isWord h (d := d + 2) (k := 7) (x := 7) (by decide) rfl ⟨fun _ => w1 (d + 5) _ x, fun z => absurd c (of_decide_eq_false z)⟩)
    have rM : ∀ (d : Nat) (Q : Bool → zM → Prop), ((¬ (M1 0 25) = 2 → zW shM g' (d + 10) mX9_aWay (zz Q) 59 [(0, .ref 0)] [] M1) ∧ ((M1 0 25) = 2 → (skB (M 1 154) (M1 0 27) = false → zW shM g' (d + 10) mX9_aWay (zz Q) 59 [(0, .ref 0)] [] M1) ∧ (skB (M 1 154) (M1 0 27) = true → (¬ (((M1 0 20) >>> ((M1 0 27) &&& 31)) &&& 1) = 1 → zW shM g' (d + 10) mX9_aWay (zz Q) 59 [(0, .ref 0)] [] M1) ∧ ((((M1 0 20) >>> ((M1 0 27) &&& 31)) &&& 1) = 1 → zCz shM g' (d + 9) mX9_bad [.ref 0, .int 3] M1 (fun b2 M3 => Q b2 M3))))) → zCz shM g' (d + 10) mX9_aWay [.ref 0] M Q := fun d Q x =>
      vX9_aWay ⟨fun _ => w2 (d + 2) _ ⟨x.1, fun z => c9_isSkater (d := d + 8) (by rw [m1]; exact hN) (by
        rw [m1]
        exact x.2 z)⟩, fun z => absurd c z⟩
    by_cases cv : M1 0 25 = 2 ∧ skB (M 1 154) (M1 0 27) = true
    · obtain ⟨c2, cs⟩ := cv
      obtain ⟨v1, v2⟩ := h1.num c2
      obtain ⟨s, hs⟩ : ∃ s : Nat, s = (C1 98 5).toInt.toNat := ⟨_, rfl⟩
      have cs' := cs
      rw [v1] at cs'
      simp only [skB, decide_eq_true_eq, decide_eq_false_iff_not] at cs'
      have es : C1 98 5 = iv s := by
        rw [eqI, iv_toInt (by omega) (by omega)]
        omega
      have s6 : s < 6 := by omega
      have ti : (iv (s : Nat)).toInt = s := iv_toInt (by omega) (by omega)
      have nneg : ¬ iv (s : Nat) < 0 := fun z => by
        rw [Int32.lt_iff_toInt_lt, ti, z0] at z
        omega
      have lt6 : iv (s : Nat) < 6 := by
        rw [Int32.lt_iff_toInt_lt, ti, z6]
        omega
      have m20 : M1 0 20 = bset S 6 := (o2.2 20 (by omega)).trans a2
      have hbit : ((((M1 0 20) >>> ((M1 0 27) &&& 31)) &&& 1) = 1) ↔ S s = true := by
        rw [m20, v1, es, bitAt1 (by omega), bit_bset (by omega) 6 (by omega), decide_eq_true s6, Bool.true_and]
      have c104 : C1 104 s = if S s then 1 else 0 := by rw [o1.1 104 (by omega)]; exact a1 s s6
      have rC2 : ∀ (d : Nat) (Q : Bool → zM → Prop), (¬ (C1 104 s) = 1 → zCv shC g (d + 6) mX5_next [.ref 98] (zup C1 104 s 1) (fun M4 => zW shC g (d + 7) mX6_parseLine (zz Q) 70 [(0, .ref 100), (1, .ref 98), (3, .int (iv s)), (4, .int (iv (0 : Nat)))] [] M4)) ∧ ((C1 104 s) = 1 → zCz shC g (d + 6) mX5_fail [.ref 98, .int 3] C1 (fun b2 M4 => Q b2 M4)) → zCz shC g (d + 7) mX6_parseLine [.ref 100, .ref 98, .int (M 1 154)] C Q := fun d Q x =>
        rC d Q (q_number (d := d + 5) h1 (fun _ _ _ => by
          rw [es]
          exact ⟨fun z => absurd z nneg, fun _ => ⟨fun _ => ⟨s, rfl, s6, x⟩, fun z => absurd lt6 z⟩⟩) (fun _ z => by
          rw [h71, z0] at z
          omega) fun z => absurd c2 z)
      by_cases cS : S s = true
      · refine ⟨false, FC C1 3, FM M1 3, f1.trans FrL.off.x, fun _ => Flt.ofe h1, fun z => absurd z (by decide), fun d Q q => rC2 d Q ⟨fun z => absurd (by rw [c104, cS]; rfl) z, fun _ => c7_fail q⟩, fun d Q q => rM d Q ⟨fun z => absurd c2 z, fun _ => ⟨fun z => absurd (cs.symm.trans z) (by decide), fun _ => ⟨fun z => absurd (hbit.mpr cS) z, fun _ => c9_bad q⟩⟩⟩⟩
      · have hS : S s = false := Bool.eq_false_iff.mpr cS
        obtain ⟨b8, b9⟩ := a6 s s6 hS
        obtain ⟨p2, e2, C2, M2, h2, hp2, o3, o4, w3, w4⟩ := s_step (g := g) (g' := g') ((h1.c (o := 104) (i := s) (x := 1) (by omega)).m0 (i := 33) (x := iv s) (by omega)) (by rw [zup_ne (Or.inr (by omega)), c2]; decide)
        have e20 : M2 0 20 = bset S 6 := by rw [o4.2 20 (by omega), zup_ne (Or.inr (by omega))]; exact m20
        have e33 : M2 0 33 = iv s := by rw [o4.2 33 (by omega), zup_same]
        have rows : ∀ o, o ≠ 0 → M2 o = M o := fun o a => by rw [o4.1 o a, zup_oth a, o2.1 o a]
        have crow : ∀ o, o ≠ 98 → o ≠ 104 → C2 o = C o := fun o a b => by rw [o3.1 o a, zup_oth b, o1.1 o a]
        have skn : ∀ u sk, Sk u C M sk → Sk u C2 (zup M2 0 20 (bset (ins S s) 6)) sk := fun u sk x => x.keep (fun _ _ => by rw [crow 101 (by omega) (by omega)]) (by rw [crow 102 (by omega) (by omega)]) (by rw [crow 103 (by omega) (by omega)]) (fun _ _ => by rw [zup_oth (by omega), rows 7 (by omega)]) (by rw [zup_oth (by omega), rows 8 (by omega)])
        have sk1 : Sk s C2 (zup M2 0 20 (bset (ins S s) 6)) (iv (1 : Nat)) := by
          have := skn s _ (a7 s s6)
          rw [b9] at this
          exact this
        obtain ⟨b, C', M', k1, k2, k3, k5, k6⟩ := s_wayL (g := g) (g' := g') s6 (n + 1) p2 e2 0 1 C2 (zup M2 0 20 (bset (ins S s) 6)) (by omega) (h2.m0 (by omega)) (by omega) sk1 (by omega)
        have f2 : FrX C M C2 (zup M2 0 20 (bset (ins S s) 6)) := ((f1.trans (FrX.c (o := 104) (i := s) (x := 1) (by omega))).trans (FrX.ofn o3 o4)).trans (FrX.m0 (by omega))
        refine ⟨b, C', M', f2.trans k1, k2, fun hb => ?_, fun d Q q => rC2 d Q ⟨fun _ => w3 (d + 5) _ (k5 d Q q), fun z => absurd (by rw [c104, hS] at z; exact z) (by decide)⟩, fun d Q q => rM d Q ⟨fun z => absurd c2 z, fun _ => ⟨fun z => absurd (cs.symm.trans z) (by decide), fun _ => ⟨fun _ => vX9_aWay_59 (vX9_number ⟨fun _ => c9_isIn ⟨fun _ => ?_, fun z => ?_⟩, fun z => absurd c2 z⟩), fun z => absurd (hbit.mp z) cS⟩⟩⟩⟩
        · obtain ⟨x1, x2, x3, x4, x5, x6, ⟨p3, e3, x7, x8⟩, x9, x10, x11, x12⟩ := k3 hb
          refine ⟨x1.trans ?_, x2.trans ?_, ⟨p3, e3, x7, by omega⟩, ins S s, fun u hu => ?_, x6.trans zup_same, ?_, ?_, fun u hu huS => ?_, fun u hu huS => ?_, fun u hu => ?_⟩
          · rw [o3.2 6 (by omega), zup_oth (by omega), o1.2 6 (by omega)]
          · rw [o3.2 7 (by omega), zup_oth (by omega), o1.2 7 (by omega)]
          · rw [x3, o3.1 104 (by omega), zup_row, o1.1 104 (by omega)]
            unfold ins
            by_cases eu : u = s
            · rw [eu, upd_at]
              simp
            · rw [upd_ne eu, a1 u hu]
              simp [eu]
          · rw [x4, crow 100 (by omega) (by omega), a3, iv_s, cntB_ins hS, if_pos s6]
          · rw [x5, zup_ne (Or.inr (by omega)), o4.2 19 (by omega), zup_ne (Or.inr (by omega)), o2.2 19 (by omega), a4, iv_s, cntB_ins hS, if_pos s6]
          · have em : M' 1 = M 1 := by rw [k1.2.2.1 1 (by omega) (by omega), zup_oth (by omega), rows 1 (by omega)]
            rw [em]
            by_cases eu : u = s
            · rw [eu]
              omega
            · refine a5 u hu ?_
              unfold ins at huS
              rw [decide_eq_false eu, Bool.false_or] at huS
              exact huS
          · have eu : u ≠ s := fun z => by
              rw [z] at huS
              unfold ins at huS
              simp at huS
            have huS' : S u = false := by
              unfold ins at huS
              rw [decide_eq_false eu, Bool.false_or] at huS
              exact huS
            obtain ⟨y1, y2⟩ := a6 u hu huS'
            have h9 : M' 9 u = 1 := by rw [x10 u eu, zup_oth (by omega), rows 9 (by omega)]; exact y2
            exact ⟨by rw [x12 u eu, zup_oth (by omega), rows 8 (by omega)]; exact y1, h9⟩
          · by_cases eu : u = s
            · rw [eu]
              exact x9
            · rw [x10 u eu, zup_oth (by omega), rows 9 (by omega)]
              exact x11 u _ eu (skn u _ (a7 u hu))
        · rw [v1, es]
          refine w4 (d + 1) _ ⟨fun _ => ?_, fun z => absurd z (by decide)⟩
          rw [e33, e20, bset_ins s6]
          exact k6 d Q q
        · rw [v1, m1] at z
          simp only [isInB, decide_eq_true_eq, decide_eq_false_iff_not] at z
          rw [h71, z0] at z
          omega
    · rcases s_num (g := g) (g' := g') (lo := 0) (hi := M 1 154 - 1) h1 with ⟨k, u1, u2⟩ | ⟨v, -, -, -, -, -, -, -, -, t2, va, la, ha, -, -, -, -⟩
      · refine ⟨false, FC C1 k, FM M1 k, f1.trans FrL.off.x, fun _ => Flt.ofe h1, fun z => absurd z (by decide), fun d Q q => rC d Q (u1 (d + 5) _ ⟨fun _ => q, fun z => absurd (by decide) z⟩), fun d Q q => ?_⟩
        have w59 : zW shM g' (d + 10) mX9_aWay (zz Q) 59 [(0, .ref 0)] [] M1 := vX9_aWay_59 (by
          rw [m1]
          exact u2 (d + 1) _ ⟨fun z => absurd z (by decide), fun _ => q⟩)
        exact rM d Q ⟨fun _ => w59, fun z => ⟨fun _ => w59, fun z2 => absurd ⟨z, z2⟩ cv⟩⟩
      · refine absurd ⟨t2, ?_⟩ cv
        rw [va]
        simp only [skB, decide_eq_true_eq, decide_eq_false_iff_not]
        rw [h71] at ha
        rw [z0] at la
        omega
  · exact ⟨false, FC C 1, FM M 1, FrL.off.x, fun _ => Flt.ofe h, fun z => absurd z (by decide), fun d Q q => vX6_parseLine (q_isWord h (d := d + 2) (k := 7) (x := 7) (by decide) rfl ⟨fun z => absurd (of_decide_eq_true z) c, fun _ => c7_fail q⟩), fun d Q q => vX9_aWay ⟨fun z => absurd z c, fun _ => c9_bad q⟩⟩
end WN
