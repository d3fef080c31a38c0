/-! CLAUSES of every depth, both sides -/
section CK
variable {g g' : zG} {t : Nat → Int32} {n : Nat}
theorem s_not {p e k o r : Nat} {C M : zM} (hcl : ClS g g' t n r) (ho : o + (r + 1) = 8) (h : TK t n 1 p e C M) (hk : LK k C M) (hkp : k ≤ p) (h31 : M 0 31 = iv o) (c6 : M 0 25 = 6) : ∃ (b : Bool) (C' M' : zM), PL t n p k 0 (22 + 2 * o) k [true] C M b C' M' ∧ (b = true → p < (M' 0 26).toInt) ∧ (∀ (d : Nat) (Q : Bool → zM → Prop), Q b C' → zCz shC g (d + 2 * r + 10) mX1_parseClause [.ref 105, .ref 98, .int (iv o)] C Q) ∧ ∀ (d : Nat) (Q : Bool → zM → Prop), Q b M' → zCz shM g' (d + 3 * r + 15) mX9_oneTest [.ref 0] M Q := by
  have hl := h.len
  have e1 : iv (o : Nat) + 1 = iv (o + 1 : Nat) := iv_s o
  have e0 : iv (o + 1 : Nat) - 1 = iv (o : Nat) := by
    rw [show (1 : Int32) = iv 1 from rfl, iv_sub]
    congr 1
    omega
  have o8 : ¬ iv (o : Nat) = (8 : Int32) := fun z => by
    rw [eqI, iv_toInt (by omega) (by omega)] at z
    simp only [Int32.reduceToInt] at z
    omega
  have ol8 : iv (o : Nat) < (8 : Int32) := by
    rw [Int32.lt_iff_toInt_lt, iv_toInt (by omega) (by omega)]
    simp only [Int32.reduceToInt]
    omega
  obtain ⟨p1, e', C1, M1, h1, hp1, o1, o2, w1, w2⟩ := s_step (g := g) (g' := g') (h.dm (x := iv (o + 1 : Nat))) (by rw [DM_om.2.1 25 (by omega), c6]; decide)
  have f1 : FrL C M C1 M1 := FrL.dm.trans (FrL.ofn o1 o2)
  have p1' : Pre k C M C1 M1 := Pre.dm.trans (Nat.le_refl _) (Pre.ofn o1 o2)
  obtain ⟨b, C2, M2, ⟨q1, q2, q3⟩, q4, q5, q6⟩ := hcl p1 e' k (o + 1) C1 M1 (by omega) h1 (hk.dm.ofn o1 o2) (by omega) ((o2.2 31 (by omega)).trans DM_om.2.2)
  have q5' : ∀ (d : Nat) (Q : Bool → zM → Prop), Q b C2 → zCz shC g (d + 2 * r + 9) mX1_parseClause [.ref 105, .ref 98, .int (iv (o + 1 : Nat))] C1 Q := fun d Q q => by
    have := q5 (d + 1) Q q
    rw [show d + 1 + 2 * r + 8 = d + 2 * r + 9 by omega] at this
    exact this
  have q6' : ∀ (d : Nat) (Q : Bool → zM → Prop), Q b M2 → zCz shM g' (d + 3 * r + 14) mX9_oneTest [.ref 0] M1 Q := fun d Q q => by
    have := q6 (d + 2) Q q
    rw [show d + 2 + 3 * r + 12 = d + 3 * r + 14 by omega] at this
    exact this
  have rC : ∀ (d : Nat) (Q : Bool → zM → Prop), zCv shC g (d + 2 * r + 9) mX1_emitIf [.ref 105, .int (zbI b), .int 2] C2 (fun M3 => Q b M3) → zCz shC g (d + 2 * r + 10) mX1_parseClause [.ref 105, .ref 98, .int (iv o)] C Q := fun d Q w =>
    vX1_parseClause (q_isWord h (d := d + 2 * r + 5) (k := 6) (x := 6) (by decide) rfl (q_isSign h (c := 40) (x := 140) (by unfold isSg; simp only [true_or, or_true]) (by decide) ⟨fun _ => vX1_parseClause_24 ⟨fun _ => vX1_parseClause_36 ⟨fun z => absurd c6 (of_decide_eq_false z), fun _ => w1 (d + 2 * r + 8) _ (by rw [e1]; exact q5' d _ w)⟩, fun z => absurd ol8 z⟩, fun z => absurd c6 (of_decide_eq_false z)⟩))
  have rM : ∀ (d : Nat) (Q : Bool → zM → Prop), ((b = true → zCv shM g' (d + 3 * r + 14) mX9_lay [.ref 0, .int 30, .int 0] (zup M2 0 31 ((M2 0 31) - 1)) (fun M3 => Q true M3)) ∧ (b = false → Q false M2)) → zCz shM g' (d + 3 * r + 15) mX9_oneTest [.ref 0] M Q := fun d Q w =>
    vX9_oneTest ⟨fun z => absurd c6 z, fun _ => vX9_opens ⟨fun _ => by
      rw [h31, e1]
      exact w2 (d + 3 * r + 6) _ ⟨fun z => absurd z (by decide), fun _ => q6' d _ w⟩, fun z => absurd (h31 ▸ z) o8⟩⟩
  cases b with
  | false => exact ⟨false, C2, M2, ⟨f1.trans q1, fun _ => q2 rfl, fun z => absurd z (by decide)⟩, fun z => absurd z (by decide), fun d Q q => rC d Q (c7_emitIf (k := k) (fun z => absurd z (by decide)) fun _ => q), fun d Q q => rM d Q ⟨fun z => absurd z (by decide), fun _ => q⟩⟩
  | true =>
    obtain ⟨r1, r2, p2, e2, k2, h2, l2, pp2, kk2, kp2, ty2⟩ := q3 rfl
    have hl2 := h2.len
    have k400 : k2 < 400 := by omega
    have m31 : M2 0 31 = iv (o + 1 : Nat) := r1.trans ((o2.2 31 (by omega)).trans DM_om.2.2)
    have tyd : Ty (22 + 2 * o) (DM M2 (iv o)) k k2 [true] := (ty2.mono (by omega)).pre (Pre.dm (C := C2))
    obtain ⟨a1, a2, a3, a4, a5, a6⟩ := s_op (h2.dm (x := iv o)) l2.dm rc_op.2.2.2.2.2.2.1 tyd (r := [true]) (fun ts => rfl) (by rw [List.length_singleton]; omega)
    have h26 : (EM (DM M2 (iv o)) k2 30 0 0 26).toInt = p2 := by rw [a1.2.2.1, iv_toInt (by omega) (by omega)]
    refine ⟨true, EC C2 k2 2, EM (DM M2 (iv o)) k2 30 0, ⟨((f1.trans q1).trans FrL.dm).trans FrL.ofe, fun z => absurd z (by decide), fun _ => ⟨a5.trans (DM_om.2.2.trans h31.symm), ((p1'.trans (Nat.le_refl _) r2).trans (Nat.le_refl _) Pre.dm).trans (by omega) a3, p2, e2, k2 + 1, a1, a2, by omega, by omega, by omega, a4⟩⟩, fun _ => by omega, fun d Q q => rC d Q (c7_emitIf (k := k2) (fun _ => ⟨l2.1, k400, q⟩) fun z => absurd z (by decide)), fun d Q q => rM d Q ⟨fun _ => ?_, fun z => absurd z (by decide)⟩⟩
    rw [m31, e0]
    exact c9_lay l2.dm.2.1 k400 q
theorem s_par {p e k o r : Nat} {C M : zM} (hcd : CdS g g' t n r) (ho : o + (r + 1) = 8) (h : TK t n 1 p e C M) (hk : LK k C M) (hkp : k ≤ p) (h31 : M 0 31 = iv o) (c6 : ¬ M 0 25 = 6) (c40 : M 0 25 = 140) : ∃ (b : Bool) (C' M' : zM), PL t n p k 0 (22 + 2 * o) k [true] C M b C' M' ∧ (b = true → p < (M' 0 26).toInt) ∧ (∀ (d : Nat) (Q : Bool → zM → Prop), Q b C' → zCz shC g (d + 2 * r + 10) mX1_parseClause [.ref 105, .ref 98, .int (iv o)] C Q) ∧ ∀ (d : Nat) (Q : Bool → zM → Prop), Q b M' → zCz shM g' (d + 3 * r + 15) mX9_oneTest [.ref 0] M Q := by
  have hl := h.len
  have e1 : iv (o : Nat) + 1 = iv (o + 1 : Nat) := iv_s o
  have e0 : iv (o + 1 : Nat) - 1 = iv (o : Nat) := by
    rw [show (1 : Int32) = iv 1 from rfl, iv_sub]
    congr 1
    omega
  have o8 : ¬ iv (o : Nat) = (8 : Int32) := fun z => by
    rw [eqI, iv_toInt (by omega) (by omega)] at z
    simp only [Int32.reduceToInt] at z
    omega
  have ol8 : iv (o : Nat) < (8 : Int32) := by
    rw [Int32.lt_iff_toInt_lt, iv_toInt (by omega) (by omega)]
    simp only [Int32.reduceToInt]
    omega
  obtain ⟨p1, e', C1, M1, h1, hp1, o1, o2, w1, w2⟩ := s_step (g := g) (g' := g') (h.dm (x := iv (o + 1 : Nat))) (by rw [DM_om.2.1 25 (by omega), c40]; decide)
  have f1 : FrL C M C1 M1 := FrL.dm.trans (FrL.ofn o1 o2)
  have p1' : Pre k C M C1 M1 := Pre.dm.trans (Nat.le_refl _) (Pre.ofn o1 o2)
  obtain ⟨b, C2, M2, ⟨q1, q2, q3⟩, q4, q5, q6⟩ := hcd p1 e' k (o + 1) C1 M1 (by omega) h1 (hk.dm.ofn o1 o2) (by omega) ((o2.2 31 (by omega)).trans DM_om.2.2)
  have rC : ∀ (d : Nat) (Q : Bool → zM → Prop), ((b = true → zCz shC g (d + 2 * r + 9) mX5_isSign [.ref 98, .int 41] C2 (fun b2 M3 => (b2 = true → zCv shC g (d + 2 * r + 9) mX5_next [.ref 98] M3 (fun M4 => Q true M4)) ∧ (b2 = false → zCz shC g (d + 2 * r + 9) mX5_fail [.ref 98, .int 1] M3 (fun b3 M4 => Q b3 M4)))) ∧ (b = false → Q false C2)) → zCz shC g (d + 2 * r + 10) mX1_parseClause [.ref 105, .ref 98, .int (iv o)] C Q := fun d Q w =>
    vX1_parseClause (q_isWord h (d := d + 2 * r + 5) (k := 6) (x := 6) (by decide) rfl (q_isSign h (c := 40) (x := 140) (by unfold isSg; simp only [true_or, or_true]) (by decide) ⟨fun z => absurd (of_decide_eq_true z) c6, fun _ => ⟨fun z => absurd c40 (of_decide_eq_false z), fun _ => vX1_parseClause_24 ⟨fun _ => vX1_parseClause_36 ⟨fun _ => ⟨fun z => absurd c40 (of_decide_eq_false z), fun _ => w1 (d + 2 * r + 8) _ (by rw [e1]; exact q5 d _ w)⟩, fun z => absurd (of_decide_eq_true z) c6⟩, fun z => absurd ol8 z⟩⟩⟩))
  have rM : ∀ (d : Nat) (Q : Bool → zM → Prop), ((b = false → Q false M2) ∧ (b = true → zCz shM g' (d + 3 * r + 14) mX9_need [.ref 0, .int 141] M2 (fun b3 M3 => (b3 = true → Q true (zup M3 0 31 ((M3 0 31) - 1))) ∧ (b3 = false → Q false M3)))) → zCz shM g' (d + 3 * r + 15) mX9_oneTest [.ref 0] M Q := fun d Q w =>
    vX9_oneTest ⟨fun _ => ⟨fun z => absurd c40 z, fun _ => vX9_opens ⟨fun _ => by
      rw [h31, e1]
      exact w2 (d + 3 * r + 6) _ ⟨fun z => absurd z (by decide), fun _ => q6 d _ w⟩, fun z => absurd (h31 ▸ z) o8⟩⟩, fun z => absurd z c6⟩
  cases b with
  | false => exact ⟨false, C2, M2, ⟨f1.trans q1, fun _ => q2 rfl, fun z => absurd z (by decide)⟩, fun z => absurd z (by decide), fun d Q q => rC d Q ⟨fun z => absurd z (by decide), fun _ => q⟩, fun d Q q => rM d Q ⟨fun _ => q, fun z => absurd z (by decide)⟩⟩
  | true =>
    obtain ⟨r1, r2, p2, e2, k2, h2, l2, pp2, kk2, kp2, ty2⟩ := q3 rfl
    have hl2 := h2.len
    have m31 : M2 0 31 = iv (o + 1 : Nat) := r1.trans ((o2.2 31 (by omega)).trans DM_om.2.2)
    by_cases c41 : M2 0 25 = 141
    · obtain ⟨p3, e3, C3, M3, h3, hp3, o3, o4, w3, w4⟩ := s_step (g := g) (g' := g') h2 (by rw [c41]; decide)
      have hl3 := h3.len
      have n31 : M3 0 31 = iv (o + 1 : Nat) := (o4.2 31 (by omega)).trans m31
      have h26 : (DM M3 (iv o) 0 26).toInt = p3 := by rw [(h3.dm (x := iv o)).2.2.1, iv_toInt (by omega) (by omega)]
      refine ⟨true, C3, DM M3 (iv o), ⟨((f1.trans q1).trans (FrL.ofn o3 o4)).trans FrL.dm, fun z => absurd z (by decide), fun _ => ⟨DM_om.2.2.trans h31.symm, ((p1'.trans (Nat.le_refl _) r2).trans kk2 (Pre.ofn o3 o4)).trans kk2 Pre.dm, p3, e3, k2, h3.dm, (l2.ofn o3 o4).dm, by omega, by omega, by omega, ((ty2.mono (by omega)).pre (Pre.ofn (k := k2) o3 o4)).pre (Pre.dm (C := C3))⟩⟩, fun _ => by omega, fun d Q q => rC d Q ⟨fun _ => q_isSign h2 (c := 41) (x := 141) (by unfold isSg; simp only [true_or, or_true]) (by decide) ⟨fun _ => w3 (d + 2 * r + 8) _ q, fun z => absurd c41 (of_decide_eq_false z)⟩, fun z => absurd z (by decide)⟩, fun d Q q => rM d Q ⟨fun z => absurd z (by decide), fun _ => vX9_need ⟨fun _ => w4 (d + 3 * r + 6) _ ⟨fun _ => ?_, fun z => absurd z (by decide)⟩, fun z => absurd c41 z⟩⟩⟩
      rw [n31, e0]
      exact q
    · exact ⟨false, FC C2 1, FM M2 1, ⟨(f1.trans q1).trans FrL.off, fun _ => Flt.ofe h2, fun z => absurd z (by decide)⟩, fun z => absurd z (by decide), fun d Q q => rC d Q ⟨fun _ => q_isSign h2 (c := 41) (x := 141) (by unfold isSg; simp only [true_or, or_true]) (by decide) ⟨fun z => absurd (of_decide_eq_true z) c41, fun _ => c7_fail q⟩, fun z => absurd z (by decide)⟩, fun d Q q => rM d Q ⟨fun z => absurd z (by decide), fun _ => vX9_need ⟨fun z => absurd z c41, fun _ => c9_bad ⟨fun z => absurd z (by decide), fun _ => q⟩⟩⟩⟩
theorem s_clause : ∀ r : Nat, ClS g g' t n r := by
  intro r
  induction r with
  | zero =>
    intro p e k o C M ho h hk hkp h31
    by_cases c : M 0 25 = 6 ∨ M 0 25 = 140
    · obtain rfl : o = 8 := by omega
      exact s_deep h h31 c
    · exact s_test (r := 0) h hk hkp (fun z => c (Or.inl z)) (fun z => c (Or.inr z)) ho
  | succ r ih =>
    intro p e k o C M ho h hk hkp h31
    by_cases c6 : M 0 25 = 6
    · exact s_not ih ho h hk hkp h31 c6
    · by_cases c40 : M 0 25 = 140
      · exact s_par (s_cond ih) ho h hk hkp h31 c6 c40
      · exact s_test (r := r + 1) h hk hkp c6 c40 ho
end CK
