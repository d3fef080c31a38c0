/-! A CONDITION, both sides -/
def DM (M : zM) (x : Int32) : zM := zup M 0 31 x
theorem DM_om {M : zM} {x : Int32} : (∀ o, o ≠ 0 → DM M x o = M o) ∧ (∀ j, j ≠ 31 → DM M x 0 j = M 0 j) ∧ DM M x 0 31 = x := by
  unfold DM
  exact ⟨fun o a => zup_oth a, fun j a => zup_ne (Or.inr a), zup_same⟩
theorem TK.dm {t : Nat → Int32} {n rd p e : Nat} {C M : zM} {x : Int32} (h : TK t n rd p e C M) : TK t n rd p e C (DM M x) := h.keep rfl rfl (DM_om.1 12 (by omega)) (DM_om.2.1 16 (by omega)) fun j a b => DM_om.2.1 j (by omega)
theorem LK.dm {k : Nat} {C M : zM} {x : Int32} (h : LK k C M) : LK k C (DM M x) := h.keep rfl rfl (DM_om.2.1 18 (by omega)) (DM_om.1 6 (by omega))
theorem FrL.dm {C M : zM} {x : Int32} : FrL C M C (DM M x) := ⟨fun _ _ _ _ => Eq.refl _, Eq.refl _, fun _ _ => Eq.refl _, fun o a _ => DM_om.1 o a, fun j a => DM_om.2.1 j (by omega)⟩
theorem Pre.dm {k : Nat} {C M : zM} {x : Int32} : Pre k C M C (DM M x) := ⟨fun _ _ => Eq.refl _, fun j _ => by rw [DM_om.1 6 (by omega)], Eq.refl _, Eq.refl _⟩
def afterO (g' : zG) (d : Nat) (orr : Bool) (Q : Bool → zM → Prop) (b : Bool) (M : zM) : Prop := (b = true → (orr = false → zW shM g' (d + 2) mX9_any (zz Q) 9 [(0, .ref 0)] [] M) ∧ (orr = true → zCv shM g' (d + 1) mX9_lay [.ref 0, .int 32, .int 0] M (fun M2 => zW shM g' (d + 2) mX9_any (zz Q) 9 [(0, .ref 0)] [] M2))) ∧ (b = false → Q false M)
def testR (g' : zG) (d : Nat) (an orr : Bool) (Q : Bool → zM → Prop) (M : zM) : Prop := zCz shM g' d mX9_oneTest [.ref 0] M (fun b M1 => (b = true → (an = false → zW shM g' (d + 1) mX9_every (zz (afterO g' d orr Q)) 9 [(0, .ref 0)] [] M1) ∧ (an = true → zCv shM g' d mX9_lay [.ref 0, .int 31, .int 0] M1 (fun M2 => zW shM g' (d + 1) mX9_every (zz (afterO g' d orr Q)) 9 [(0, .ref 0)] [] M2))) ∧ (b = false → afterO g' d orr Q false M1))
/-- what is to be shown of a clause with r levels left, and of a condition -/
def ClS (g g' : zG) (t : Nat → Int32) (n r : Nat) : Prop := ∀ (p e k o : Nat) (C M : zM), o + r = 8 → TK t n 1 p e C M → LK k C M → k ≤ p → M 0 31 = iv o → ∃ (b : Bool) (C' M' : zM), PL t n p k 0 (22 + 2 * o) k [true] C M b C' M' ∧ (b = true → p < (M' 0 26).toInt) ∧ (∀ (d : Nat) (Q : Bool → zM → Prop), Q b C' → zCz shC g (d + 2 * r + 8) mX1_parseClause [.ref 105, .ref 98, .int (iv o)] C Q) ∧ ∀ (d : Nat) (Q : Bool → zM → Prop), Q b M' → zCz shM g' (d + 3 * r + 12) mX9_oneTest [.ref 0] M Q
def CdS (g g' : zG) (t : Nat → Int32) (n r : Nat) : Prop := ∀ (p e k o : Nat) (C M : zM), o + r = 8 → TK t n 1 p e C M → LK k C M → k ≤ p → M 0 31 = iv o → ∃ (b : Bool) (C' M' : zM), PL t n p k 0 (20 + 2 * o) k [true] C M b C' M' ∧ (b = true → p < (M' 0 26).toInt) ∧ (∀ (d : Nat) (Q : Bool → zM → Prop), Q b C' → zCz shC g (d + 2 * r + 9) mX1_parseCondition [.ref 105, .ref 98, .int (iv o)] C Q) ∧ ∀ (d : Nat) (Q : Bool → zM → Prop), Q b M' → zCz shM g' (d + 3 * r + 14) mX9_any [.ref 0] M Q
section CN
variable {g g' : zG} {t : Nat → Int32} {n : Nat}
theorem s_sum {p e k : Nat} {C M : zM} (h : TK t n 1 p e C M) (hk : LK k C M) (hkp : k ≤ p) : ∃ (b : Bool) (C' M' : zM), PL t n p k 0 50 k [false] C M b C' M' ∧ (b = true → p < (M' 0 26).toInt) ∧ (∀ (d : Nat) (Q : Bool → zM → Prop), Q b C' → zCz shC g (d + 6) mX1_parseSum [.ref 105, .ref 98] C Q) ∧ ∀ (d : Nat) (Q : Bool → zM → Prop), Q b M' → zCz shM g' (d + 10) mX9_sumUp [.ref 0] M Q := by
  obtain ⟨b, C', M', h1, h2, h3, h4⟩ := s_sumL (g := g) (g' := g') (n + 1) p e k 0 k 0 false (-1) (-1) C M (by omega) h hk (Or.inl ⟨rfl, rfl, rfl⟩) hkp (by omega) Ty.nil
  refine ⟨b, C', M', h1, fun hb => (h2 hb).2.2.2.2, fun d Q q => vX1_parseSum (h3 d Q q), fun d Q q => vX9_sumUp (vX9_product ?_)⟩
  have hu := h4 d Q q
  unfold unitR at hu
  refine zCz_mono hu fun b N x => ⟨fun z => ?_, fun z => ⟨fun y => absurd y (by decide), fun _ => (x.2 z).2 rfl⟩⟩
  refine zW_mono ((x.1 z).1 rfl) fun b N y => ⟨fun w => (y.1 w).1 rfl, y.2⟩
theorem s_condL {r o : Nat} (hcl : ClS g g' t n r) (ho : o + r = 8) : ∀ (N p e k i a : Nat) (an orr : Bool) (C M : zM), n - p < N → TK t n 1 p e C M → LK k C M → k + an.toNat + orr.toNat ≤ p → 2 * i ≤ p → M 0 31 = iv o → Ty (20 + 2 * o) M a k (List.replicate (an.toNat + orr.toNat) true) →
    ∃ (b : Bool) (C' M' : zM), PL t n p k (an.toNat + orr.toNat) (20 + 2 * o) a [true] C M b C' M' ∧ (b = true → p < (M' 0 26).toInt) ∧ (∀ (d : Nat) (Q : Bool → zM → Prop), Q b C' → zW shC g (d + 2 * r + 9) mX1_parseCondition (zz Q) 8 [(0, .ref 105), (1, .ref 98), (2, .int (iv o)), (3, .int (zbI orr)), (4, .int (zbI an)), (5, .int (iv i))] [] C) ∧
      ∀ (d : Nat) (Q : Bool → zM → Prop), Q b M' → testR g' (d + 3 * r + 12) an orr Q M := by
  intro N
  induction N with
  | zero => intro p e k i a an orr C M hN; omega
  | succ N ih =>
    intro p e k i a an orr C M hN h hk hkp hi h31 hty
    have hl := h.len
    have h400 : ¬ (400 : Int32) ≤ iv i := fun x => by
      rw [Int32.le_iff_toInt_le, iv_toInt (by omega) (by omega)] at x
      simp only [Int32.reduceToInt] at x
      omega
    have hb1 : an.toNat ≤ 1 := by cases an <;> decide
    have hb2 : orr.toNat ≤ 1 := by cases orr <;> decide
    obtain ⟨b, C1, M1, ⟨q1, q2, q3⟩, q4, q5, q6⟩ := hcl p e k o C M ho h hk (by omega) h31
    cases b with
    | false => exact ⟨false, C1, M1, ⟨q1, fun _ => q2 rfl, fun z => absurd z (by decide)⟩, fun z => absurd z (by decide), fun d Q q => vX1_parseCondition_8 ⟨fun z => absurd z h400, fun _ => q5 d _ ⟨fun z => absurd z (by decide), fun _ => q⟩⟩, fun d Q q => q6 d _ ⟨fun z => absurd z (by decide), fun _ => ⟨fun z => absurd z (by decide), fun _ => q⟩⟩⟩
    | true =>
      obtain ⟨r1, r2, p1, e1, k1, h1, l1, pp1, kk1, kp1, ty1⟩ := q3 rfl
      have hl1 := h1.len
      have pl1 : p < p1 := by
        have := q4 rfl
        rw [h1.2.2.1, iv_toInt (by omega) (by omega)] at this
        omega
      have tya : Ty (20 + 2 * o) M1 a k1 (true :: List.replicate (an.toNat + orr.toNat) true) := Ty.app (hty.pre r2) ty1 (by rw [List.length_replicate]; omega)
      have k400 : k1 < 400 ∨ (an = false ∧ orr = false) := by
        cases an <;> cases orr
        · exact Or.inr ⟨rfl, rfl⟩
        all_goals
          refine Or.inl ?_
          simp only [Bool.toNat_false, Bool.toNat_true] at hkp
          omega
      -- and
      obtain ⟨C2, M2, h2, l2, ty2, f2, pr2, g2, tk2, rc2, rm2⟩ : ∃ C2 M2 : zM, TK t n 1 p1 e1 C2 M2 ∧ LK (k1 + an.toNat) C2 M2 ∧ Ty (20 + 2 * o) M2 a (k1 + an.toNat) (true :: List.replicate orr.toNat true) ∧ FrL C1 M1 C2 M2 ∧ Pre k1 C1 M1 C2 M2 ∧ M2 0 31 = M1 0 31 ∧ M2 0 25 = M1 0 25 ∧ (∀ (d : Nat) (R : zM → Prop), R C2 → zCv shC g (d + 1) mX1_emitIf [.ref 105, .int (zbI an), .int 10] C1 R) ∧ ∀ (d : Nat) (R : zM → Prop), R M2 → (an = false → R M1) ∧ (an = true → zCv shM g' d mX9_lay [.ref 0, .int 31, .int 0] M1 R) := by
        cases an with
        | false =>
          refine ⟨C1, M1, h1, l1, ?_, FrL.rfl, Pre.rfl, rfl, rfl, fun d R x => c7_emitIf (k := k1) (fun z => absurd z (by decide)) fun _ => x, fun d R x => ⟨fun _ => x, fun z => absurd z (by decide)⟩⟩
          rw [show false.toNat + orr.toNat = orr.toNat from Nat.zero_add _] at tya
          exact tya
        | true =>
          rw [show true.toNat + orr.toNat = orr.toNat + 1 from Nat.add_comm 1 _, List.replicate_succ] at tya
          obtain ⟨a1, a2, a3, a4, a5, a6⟩ := s_op h1 l1 rc_op.2.2.2.2.2.2.2.1 tya (r := true :: List.replicate orr.toNat true) (fun ts => rfl) (by rw [List.length_cons, List.length_cons, List.length_replicate]; omega)
          have k4 : k1 < 400 := k400.elim id fun z => absurd z.1 (by decide)
          exact ⟨_, _, a1, a2, a4, FrL.ofe, a3, a5, a6, fun d R x => c7_emitIf (k := k1) (fun _ => ⟨l1.1, k4, x⟩) fun z => absurd z (by decide), fun d R x => ⟨fun z => absurd z (by decide), fun _ => c9_lay l1.2.1 k4 x⟩⟩
      have f2' := q1.trans f2
      have pr2' : Pre k C M C2 M2 := r2.trans (by omega) pr2
      have g2' : M2 0 31 = M 0 31 := g2.trans r1
      have rC : ∀ (d : Nat) (Q : Bool → zM → Prop), zCz shC g (d + 2 * r + 8) mX5_isWord [.ref 98, .ref (4096 + 18)] C2 (fun b2 M3 => (b2 = true → zW shC g (d + 2 * r + 9) mX1_parseCondition (zz Q) 62 [(0, .ref 105), (1, .ref 98), (2, .int (iv o)), (3, .int (zbI orr)), (4, .int (zbI b2)), (5, .int (iv i))] [] M3) ∧ (b2 = false → zCv shC g (d + 2 * r + 8) mX1_emitIf [.ref 105, .int (zbI orr), .int 11] M3 (fun M4 => zCz shC g (d + 2 * r + 8) mX5_isWord [.ref 98, .ref (4096 + 19)] M4 (fun b3 M5 => zW shC g (d + 2 * r + 9) mX1_parseCondition (zz Q) 62 [(0, .ref 105), (1, .ref 98), (2, .int (iv o)), (3, .int (zbI b3)), (4, .int (zbI b2)), (5, .int (iv i))] [] M5)))) → zW shC g (d + 2 * r + 9) mX1_parseCondition (zz Q) 8 [(0, .ref 105), (1, .ref 98), (2, .int (iv o)), (3, .int (zbI orr)), (4, .int (zbI an)), (5, .int (iv i))] [] C := fun d Q x =>
        vX1_parseCondition_8 ⟨fun z => absurd z h400, fun _ => q5 d _ ⟨fun _ => rc2 (d + 2 * r + 7) _ x, fun z => absurd z (by decide)⟩⟩
      have rM : ∀ (d : Nat) (Q : Bool → zM → Prop), zW shM g' (d + 3 * r + 13) mX9_every (zz (afterO g' (d + 3 * r + 12) orr Q)) 9 [(0, .ref 0)] [] M2 → testR g' (d + 3 * r + 12) an orr Q M := fun d Q x =>
        q6 d _ ⟨fun _ => rm2 (d + 3 * r + 12) _ x, fun z => absurd z (by decide)⟩
      by_cases cA : M2 0 25 = 5
      · obtain ⟨p3, e3, C3, M3, h3, hp3, o3, o4, w3, w4⟩ := s_step (g := g) (g' := g') h2 (by rw [cA]; decide)
        have tt : true.toNat = 1 := rfl
        obtain ⟨b, C', M', ⟨j1, j2, j3⟩, j4, j5, j6⟩ := ih p3 e3 (k1 + an.toNat) (i + 1) a true orr C3 M3 (by omega) h3 (l2.ofn o3 o4) (by omega) (by omega) ((o4.2 31 (by omega)).trans (g2'.trans h31)) (by
          rw [show true.toNat + orr.toNat = orr.toNat + 1 from Nat.add_comm 1 _, List.replicate_succ]
          exact ty2.pre (Pre.ofn (k := k1 + an.toNat) o3 o4))
        refine ⟨b, C', M', ⟨(f2'.trans (FrL.ofn o3 o4)).trans j1, j2, fun hb => ?_⟩, fun hb => ?_, fun d Q q => rC d Q (q_isWord h2 (d := d + 2 * r + 4) (k := 5) (x := 5) (by decide) rfl ⟨fun _ => vX1_parseCondition_62 ⟨fun _ => ?_, fun z => ?_⟩, fun z => absurd cA (of_decide_eq_false z)⟩), fun d Q q => rM d Q (vX9_every_9 ⟨fun z => absurd cA z, fun _ => w4 (d + 3 * r + 5) _ ?_⟩)⟩
        · obtain ⟨v1, v2, p6, e6, k6, v3, v4, v5, v6, v7, v8⟩ := j3 hb
          exact ⟨v1.trans ((o4.2 31 (by omega)).trans g2'), (pr2'.trans (by omega) (Pre.ofn (k := k1 + an.toNat) o3 o4)).trans (by omega) v2, p6, e6, k6, v3, v4, by omega, by omega, by omega, v8⟩
        · have := j4 hb
          omega
        · rw [iv_s, show decide (M2 0 25 = 5) = true from decide_eq_true cA]
          exact w3 (d + 2 * r + 7) _ (j5 d Q q)
        · exact absurd cA (of_decide_eq_false z)
        · have hu := j6 d Q q
          unfold testR at hu
          exact zCz_mono hu fun b N x => ⟨fun z => (x.1 z).2 rfl, fun z => x.2 z⟩
      · have dA : decide (M2 0 25 = 5) = false := decide_eq_false cA
        -- or
        obtain ⟨C3, M3, h3, l3, ty3, f3, pr3, g3, tk3, rc3, rm3⟩ : ∃ C3 M3 : zM, TK t n 1 p1 e1 C3 M3 ∧ LK (k1 + an.toNat + orr.toNat) C3 M3 ∧ Ty (20 + 2 * o) M3 a (k1 + an.toNat + orr.toNat) [true] ∧ FrL C2 M2 C3 M3 ∧ Pre (k1 + an.toNat) C2 M2 C3 M3 ∧ M3 0 31 = M2 0 31 ∧ M3 0 25 = M2 0 25 ∧ (∀ (d : Nat) (R : zM → Prop), R C3 → zCv shC g (d + 1) mX1_emitIf [.ref 105, .int (zbI orr), .int 11] C2 R) ∧ ∀ (d : Nat) (Q : Bool → zM → Prop), zW shM g' (d + 2) mX9_any (zz Q) 9 [(0, .ref 0)] [] M3 → afterO g' d orr Q true M2 := by
          cases orr with
          | false => exact ⟨C2, M2, h2, l2, ty2, FrL.rfl, Pre.rfl, rfl, rfl, fun d R x => c7_emitIf (k := k1) (fun z => absurd z (by decide)) fun _ => x, fun d Q x => ⟨fun _ => ⟨fun _ => x, fun z => absurd z (by decide)⟩, fun z => absurd z (by decide)⟩⟩
          | true =>
            obtain ⟨a1, a2, a3, a4, a5, a6⟩ := s_op h2 l2 rc_op.2.2.2.2.2.2.2.2 ty2 (r := [true]) (fun ts => rfl) (by rw [List.length_cons, List.length_replicate, show true.toNat = 1 from rfl]; omega)
            have k4 : k1 + an.toNat < 400 := by
              have : true.toNat = 1 := rfl
              omega
            exact ⟨_, _, a1, a2, a4, FrL.ofe, a3, a5, a6, fun d R x => c7_emitIf (k := k1 + an.toNat) (fun _ => ⟨l2.1, k4, x⟩) fun z => absurd z (by decide), fun d Q x => ⟨fun _ => ⟨fun z => absurd z (by decide), fun _ => c9_lay l2.2.1 k4 x⟩, fun z => absurd z (by decide)⟩⟩
        have rC3 : ∀ (d : Nat) (Q : Bool → zM → Prop), zCz shC g (d + 2 * r + 8) mX5_isWord [.ref 98, .ref (4096 + 19)] C3 (fun b3 M5 => zW shC g (d + 2 * r + 9) mX1_parseCondition (zz Q) 62 [(0, .ref 105), (1, .ref 98), (2, .int (iv o)), (3, .int (zbI b3)), (4, .int (zbI (decide (M2 0 25 = 5)))), (5, .int (iv i))] [] M5) → zW shC g (d + 2 * r + 9) mX1_parseCondition (zz Q) 8 [(0, .ref 105), (1, .ref 98), (2, .int (iv o)), (3, .int (zbI orr)), (4, .int (zbI an)), (5, .int (iv i))] [] C := fun d Q x =>
          rC d Q (q_isWord h2 (d := d + 2 * r + 4) (k := 5) (x := 5) (by decide) rfl ⟨fun z => absurd (of_decide_eq_true z) cA, fun _ => rc3 (d + 2 * r + 7) _ x⟩)
        have rM3 : ∀ (d : Nat) (Q : Bool → zM → Prop), zW shM g' (d + 3 * r + 14) mX9_any (zz Q) 9 [(0, .ref 0)] [] M3 → testR g' (d + 3 * r + 12) an orr Q M := fun d Q x => rM d Q (vX9_every_9 ⟨fun _ => rm3 (d + 3 * r + 12) Q x, fun z => absurd z cA⟩)
        by_cases cO : M3 0 25 = 4
        · obtain ⟨p4, e4, C4, M4, h4, hp4, o3, o4, w3, w4⟩ := s_step (g := g) (g' := g') h3 (by rw [cO]; decide)
          obtain ⟨b, C', M', ⟨j1, j2, j3⟩, j4, j5, j6⟩ := ih p4 e4 (k1 + an.toNat + orr.toNat) (i + 1) a false true C4 M4 (by omega) h4 (l3.ofn o3 o4) (by
            have : false.toNat = 0 := rfl
            have : true.toNat = 1 := rfl
            omega) (by omega) ((o4.2 31 (by omega)).trans (g3.trans (g2'.trans h31))) (ty3.pre (Pre.ofn (k := k1 + an.toNat + orr.toNat) o3 o4))
          have x1 : false.toNat + true.toNat = 1 := rfl
          refine ⟨b, C', M', ⟨((f2'.trans f3).trans (FrL.ofn o3 o4)).trans j1, j2, fun hb => ?_⟩, fun hb => ?_, fun d Q q => rC3 d Q (q_isWord h3 (d := d + 2 * r + 4) (k := 4) (x := 4) (by decide) rfl (vX1_parseCondition_62 ⟨fun z => absurd (of_decide_eq_true z) cA, fun _ => ⟨fun _ => ?_, fun z => ?_⟩⟩)), fun d Q q => rM3 d Q (vX9_any_9 ⟨fun z => absurd cO z, fun _ => w4 (d + 3 * r + 6) _ (vX9_every ?_)⟩)⟩
          · obtain ⟨v1, v2, p6, e6, k6, v3, v4, v5, v6, v7, v8⟩ := j3 hb
            exact ⟨v1.trans ((o4.2 31 (by omega)).trans (g3.trans g2')), ((pr2'.trans (by omega) pr3).trans (by omega) (Pre.ofn (k := k1 + an.toNat + orr.toNat) o3 o4)).trans (by omega) v2, p6, e6, k6, v3, v4, by omega, by omega, by omega, v8⟩
          · have := j4 hb
            omega
          · rw [iv_s, dA, show decide (M3 0 25 = 4) = true from decide_eq_true cO]
            exact w3 (d + 2 * r + 7) _ (j5 d Q q)
          · rw [show decide (M3 0 25 = 4) = true from decide_eq_true cO] at z
            exact absurd z (by decide)
          · have hu := j6 d Q q
            unfold testR at hu
            refine zCz_mono hu fun b N x => ⟨fun z => ?_, fun z => ⟨fun y => absurd y (by decide), fun _ => (x.2 z).2 rfl⟩⟩
            exact zW_mono ((x.1 z).1 rfl) fun b N y => ⟨fun w => (y.1 w).2 rfl, y.2⟩
        · have h26 : (M3 0 26).toInt = p1 := by rw [h3.2.2.1, iv_toInt (by omega) (by omega)]
          refine ⟨true, C3, M3, ⟨f2'.trans f3, fun z => absurd z (by decide), fun _ => ⟨g3.trans g2', pr2'.trans (by omega) pr3, p1, e1, k1 + an.toNat + orr.toNat, h3, l3, by omega, by omega, by omega, ty3⟩⟩, fun _ => by omega, fun d Q q => rC3 d Q (q_isWord h3 (d := d + 2 * r + 4) (k := 4) (x := 4) (by decide) rfl (vX1_parseCondition_62 ⟨fun z => absurd (of_decide_eq_true z) cA, fun _ => ⟨fun z => absurd ?_ z, fun _ => q⟩⟩)), fun d Q q => rM3 d Q (vX9_any_9 ⟨fun _ => q, fun z => absurd z cO⟩)⟩
          rw [show decide (M3 0 25 = 4) = false from decide_eq_false cO]
          rfl
theorem s_cond {r : Nat} (hcl : ClS g g' t n r) : CdS g g' t n r := by
  intro p e k o C M ho h hk hkp h31
  obtain ⟨b, C', M', h1, h2, h3, h4⟩ := s_condL hcl ho (n + 1) p e k 0 k false false C M (by omega) h hk hkp (by omega) h31 Ty.nil
  refine ⟨b, C', M', h1, h2, fun d Q q => vX1_parseCondition (h3 d Q q), fun d Q q => vX9_any (vX9_every ?_)⟩
  have hu := h4 d Q q
  unfold testR at hu
  refine zCz_mono hu fun b N x => ⟨fun z => ?_, fun z => ⟨fun y => absurd y (by decide), fun _ => (x.2 z).2 rfl⟩⟩
  exact zW_mono ((x.1 z).1 rfl) fun b N y => ⟨fun w => (y.1 w).1 rfl, y.2⟩
end CN
