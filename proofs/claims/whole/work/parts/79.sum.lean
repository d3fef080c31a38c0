/-! A SUM, both sides: the class's one loop against the reference's two -/
def afterP (g' : zG) (d : Nat) (ph : Int32) (Q : Bool → zM → Prop) (b : Bool) (M : zM) : Prop := (b = true → (ph = -1 → zW shM g' (d + 10) mX9_sumUp (zz Q) 9 [(0, .ref 0)] [] M) ∧ (¬ ph = -1 → zCv shM g' (d + 9) mX9_lay [.ref 0, .int ph, .int 0] M (fun M2 => zW shM g' (d + 10) mX9_sumUp (zz Q) 9 [(0, .ref 0)] [] M2))) ∧ (b = false → Q false M)
def unitR (g' : zG) (d : Nat) (tm : Bool) (ph : Int32) (Q : Bool → zM → Prop) (M : zM) : Prop := zCz shM g' (d + 8) mX9_unit [.ref 0] M (fun b M1 => (b = true → (tm = false → zW shM g' (d + 9) mX9_product (zz (afterP g' d ph Q)) 9 [(0, .ref 0)] [] M1) ∧ (tm = true → zCv shM g' (d + 8) mX9_lay [.ref 0, .int 25, .int 0] M1 (fun M2 => zW shM g' (d + 9) mX9_product (zz (afterP g' d ph Q)) 9 [(0, .ref 0)] [] M2))) ∧ (b = false → afterP g' d ph Q false M1))
theorem zz_mono {Q Q2 : Bool → zM → Prop} (hq : ∀ b N, Q b N → Q2 b N) : ∀ r N, zz Q r N → zz Q2 r N := fun _ N q => by
  obtain ⟨b, e, q⟩ := q
  exact ⟨b, e, hq b N q⟩
theorem zCz_mono {sh : List zSh} {g : zG} {d : Nat} {m : zMi} {as : List Value} {M : zM} {Q Q2 : Bool → zM → Prop} (h : zCz sh g d m as M Q) (hq : ∀ b N, Q b N → Q2 b N) : zCz sh g d m as M Q2 := zC.mono h (zz_mono hq)
theorem zW_mono {sh : List zSh} {g : zG} {d : Nat} {m : zMi} {Q Q2 : Bool → zM → Prop} {pc : Nat} {lv : List (Nat × Value)} {st : List Value} {M : zM} (h : zW sh g d m (zz Q) pc lv st M) (hq : ∀ b N, Q b N → Q2 b N) : zW sh g d m (zz Q2) pc lv st M := zW.mono h (zz_mono hq)
/-- the sum that is open: none, plus, minus -/
def opn (pc ph : Int32) (m : Nat) : Prop := (pc = -1 ∧ ph = -1 ∧ m = 0) ∨ (pc = 5 ∧ ph = 23 ∧ m = 1) ∨ (pc = 6 ∧ ph = 24 ∧ m = 1)
theorem Ty.k_le {L a k : Nat} {s : List Bool} {M : zM} (h : Ty L M a k s) : a ≤ k := h.1
theorem ty_push {s : Int} {ts : List Bool} (h : s ≤ 6) : tyStep s ts = some (false :: ts) := by
  unfold tyStep
  exact if_pos h
theorem ty_bin {s : Int} {r : List Bool} (h7 : 7 ≤ s) (h25 : s ≤ 25) : tyStep s (false :: false :: r) = some (false :: r) := by
  unfold tyStep
  rw [if_neg (by omega), if_neg (by omega), if_neg (by omega), if_pos h25]
section SU
variable {g g' : zG} {t : Nat → Int32} {n : Nat}
theorem rc_op : RCode 4 25 0 ∧ RCode 5 23 0 ∧ RCode 6 24 0 ∧ RCode 7 27 0 ∧ RCode 8 28 0 ∧ RCode 9 29 0 ∧ RCode 2 30 0 ∧ RCode 10 31 0 ∧ RCode 11 32 0 := by
  refine ⟨⟨by decide, ?_⟩, ⟨by decide, ?_⟩, ⟨by decide, ?_⟩, ⟨by decide, ?_⟩, ⟨by decide, ?_⟩, ⟨by decide, ?_⟩, ⟨by decide, ?_⟩, ⟨by decide, ?_⟩, ⟨by decide, ?_⟩⟩ <;> simp
/-- an operation that both write down -/
theorem s_op {p e k a L : Nat} {C M : zM} {x s : Int32} {σ r : List Bool} (h : TK t n 1 p e C M) (hk : LK k C M) (hr : RCode x s 0) (hty : Ty L M a k σ) (hs : ∀ ts : List Bool, tyStep s.toInt (σ ++ ts) = some (r ++ ts)) (hl : σ.length + L < 60) :
    TK t n 1 p e (EC C k x) (EM M k s 0) ∧ LK (k + 1) (EC C k x) (EM M k s 0) ∧ Pre k C M (EC C k x) (EM M k s 0) ∧ Ty L (EM M k s 0) a (k + 1) r ∧ EM M k s 0 0 31 = M 0 31 ∧ EM M k s 0 0 25 = M 0 25 := by
  obtain ⟨ls, lp⟩ := hk.step hr
  exact ⟨h.ec.em, ls, lp, Ty.one (s := σ) (fun ts => by rw [EM_om.2.2.2.1]; exact hs ts) (hty.pre lp) hl, EM_om.2.1 31 (by omega), EM_om.2.1 25 (by omega)⟩
theorem s_sumL : ∀ (N p e k i a m : Nat) (tm : Bool) (pc ph : Int32) (C M : zM), n - p < N → TK t n 1 p e C M → LK k C M → opn pc ph m → k + tm.toNat + m ≤ p → 2 * i ≤ p → Ty 50 M a k (List.replicate (tm.toNat + m) false) →
    ∃ (b : Bool) (C' M' : zM), PL t n p k (tm.toNat + m) 50 a [false] C M b C' M' ∧ (b = true → ¬ M' 0 25 = 147 ∧ ¬ M' 0 25 = 142 ∧ ¬ M' 0 25 = 143 ∧ ¬ M' 0 25 = 145 ∧ p < (M' 0 26).toInt) ∧
      (∀ (d : Nat) (Q : Bool → zM → Prop), Q b C' → zW shC g (d + 6) mX1_parseSum (zz Q) 10 [(0, .ref 105), (1, .ref 98), (2, .int (zbI tm)), (3, .int (zbI false)), (4, .int pc), (5, .int (iv i))] [] C) ∧ ∀ (d : Nat) (Q : Bool → zM → Prop), Q b M' → unitR g' d tm ph Q M := by
  intro N
  induction N with
  | zero => intro p e k i a m tm pc ph C M hN; omega
  | succ N ih =>
    intro p e k i a m tm pc ph C M hN h hk hop hkp hi hty
    have hl := h.len
    have hb : tm.toNat ≤ 1 := by cases tm <;> decide
    have hm1 : m ≤ 1 := by rcases hop with ⟨-, -, x⟩ | ⟨-, -, x⟩ | ⟨-, -, x⟩ <;> omega
    rcases s_unit (g := g) (g' := g') h with ⟨-, u1, u2⟩ | ⟨s0, s1, s, v, hz, hrc, hs6, u1, u2⟩
    · exact ⟨false, FC C 1, FM M 1, ⟨FrL.off, fun _ => Flt.ofe h, fun z => absurd z (by decide)⟩, fun z => absurd z (by decide), fun d Q q => u1 d Q _ _ i (by omega) q, fun d Q q => u2 d _ ⟨fun z => absurd z (by decide), fun _ => ⟨fun z => absurd z (by decide), fun _ => q⟩⟩⟩
    · have hpn := h.lt hz
      -- the code of the factor, and the next token
      obtain ⟨l1, lp1⟩ := hk.step hrc
      have ht1 : TK t n 1 p e (EC C k (s1 + 16 * s0)) (EM M k s v) := h.ec.em
      have ty1 : Ty 50 (EM M k s v) a (k + 1) (false :: List.replicate (tm.toNat + m) false) := Ty.one (s := List.replicate (tm.toNat + m) false) (fun ts => by rw [EM_om.2.2.2.1, ty_push hs6]; rfl) (hty.pre lp1) (by rw [List.length_replicate]; omega)
      -- times, and the next token
      obtain ⟨p2, e2, C3, M3, h3, hp2, l3, ty3, f3, pr3, g3, rc3, rm3⟩ : ∃ (p2 e2 : Nat) (C3 M3 : zM), TK t n 1 p2 e2 C3 M3 ∧ p < p2 ∧ LK (k + 1 + tm.toNat) C3 M3 ∧ Ty 50 M3 a (k + 1 + tm.toNat) (false :: List.replicate m false) ∧ FrL C M C3 M3 ∧ Pre k C M C3 M3 ∧ M3 0 31 = M 0 31 ∧ (∀ (d : Nat) (Y R : zM → Prop), (∀ X, zCv shC g (d + 1) mX5_next [.ref 98] X R → Y X) → R C3 → zCv shC g (d + 1) mX1_emitIf [.ref 105, .int (zbI tm), .int 4] (EC C k (s1 + 16 * s0)) Y) ∧ ∀ (d : Nat) (Y R : zM → Prop), (∀ M2, (tm = false → R M2) ∧ (tm = true → zCv shM g' (d + 8) mX9_lay [.ref 0, .int 25, .int 0] M2 R) → Y M2) → R M3 → zCv shM g' (d + 7) mX9_next0 [.ref 0] (EM M k s v) Y := by
        cases tm with
        | false =>
          obtain ⟨p2, e2, C2, M2, h2, hp2, o1, o2, w1, w2⟩ := s_step (g := g) (g' := g') ht1 (by rw [EM_om.2.1 25 (by omega)]; exact hz)
          have l2 := l1.ofn o1 o2
          have ty2 := ty1.pre (Pre.ofn (k := k + 1) o1 o2)
          rw [show false.toNat + m = m from Nat.zero_add m] at ty2
          exact ⟨p2, e2, C2, M2, h2, hp2, l2, ty2, FrL.ofe.trans (FrL.ofn o1 o2), lp1.trans (Nat.le_refl _) (Pre.ofn o1 o2), (o2.2 31 (by omega)).trans (EM_om.2.1 31 (by omega)), fun d Y R f r => c7_emitIf (k := k) (fun z => absurd z (by decide)) fun _ => f _ (w1 d _ r), fun d Y R f r => w2 d _ (f _ ⟨fun _ => r, fun z => absurd z (by decide)⟩)⟩
        | true =>
          rw [show true.toNat + m = m + 1 from Nat.add_comm 1 m, List.replicate_succ] at ty1
          obtain ⟨p2, e2, C2, M2, h2, hp2, o1, o2, w1, w2⟩ := s_step (g := g) (g' := g') (ht1.ec (k := k + 1) (x := 4)) (by rw [EM_om.2.1 25 (by omega)]; exact hz)
          have tt : true.toNat = 1 := rfl
          have k4 : k + 1 < 400 := by omega
          obtain ⟨a1, a2, a3, a4, a5⟩ := s_late (r := false :: List.replicate m false) l1 rc_op.1 ty1 (fun ts => rfl) (by rw [List.length_cons, List.length_cons, List.length_replicate]; omega) o1 o2
          exact ⟨p2, e2, C2, _, h2.em, hp2, a1, a3, FrL.ofe.trans a4, lp1.trans (by omega) a2, a5.trans (EM_om.2.1 31 (by omega)), fun d Y R f r => c7_emitIf (k := k + 1) (fun _ => ⟨l1.1, k4, f _ (w1 d _ r)⟩) fun z => absurd z (by decide), fun d Y R f r => w2 d _ (f _ ⟨fun z => absurd z (by decide), fun _ => c9_lay ((o2.2 18 (by omega)).trans l1.2.1) k4 r⟩)⟩
      have hl2 := h3.len
      -- its parts
      obtain ⟨b, i', C4, M4, ⟨q1, q2, q3⟩, q4, q5, q6⟩ := s_parts (g := g) (g' := g') (r := List.replicate m false) (by rw [List.length_replicate]; omega) (n + 1) p2 e2 (k + 1 + tm.toNat) i C3 M3 (by omega) h3 l3 (by omega) (by omega) ty3
      have rC : ∀ (d : Nat) (Q : Bool → zM → Prop), (b = true → aftN g (d + 5) Q pc (iv i') C4) → (b = false → Q false C4) → zW shC g (d + 6) mX1_parseSum (zz Q) 10 [(0, .ref 105), (1, .ref 98), (2, .int (zbI tm)), (3, .int (zbI false)), (4, .int pc), (5, .int (iv i))] [] C := fun d Q x y =>
        u1 d Q _ _ i (by omega) (vX1_parseSum_102 (c7_emit hk.1 (by omega) (rc3 (d + 4) _ _ (fun X w => s_111 w) (q5 d Q pc x y))))
      have rM : ∀ (d : Nat) (Q : Bool → zM → Prop), (b = true → zW shM g' (d + 9) mX9_product (zz (afterP g' d ph Q)) 9 [(0, .ref 0)] [] M4) → (b = false → Q false M4) → unitR g' d tm ph Q M := fun d Q x y =>
        u2 d _ (c9_lay hk.2.1 (by omega) (rm3 d _ _ (fun M2 w => ⟨fun _ => w, fun z => absurd z (by decide)⟩) (q6 d _ x fun z => ⟨fun w => absurd w (by decide), fun _ => y z⟩)))
      cases b with
      | false => exact ⟨false, C4, M4, ⟨f3.trans q1, fun _ => q2 rfl, fun z => absurd z (by decide)⟩, fun z => absurd z (by decide), fun d Q q => rC d Q (fun z => absurd z (by decide)) fun _ => q, fun d Q q => rM d Q (fun z => absurd z (by decide)) fun _ => q⟩
      | true =>
        obtain ⟨r1, r2, p4, e4, k4, h4, l4, pp4, kk4, kp4, ty4⟩ := q3 rfl
        have hl4 := h4.len
        obtain ⟨n147, hi4⟩ := q4 rfl
        rw [h4.2.2.1, iv_toInt (by omega) (by omega)] at hi4
        have rC4 : ∀ (d : Nat) (Q : Bool → zM → Prop), (M4 0 25 = 142 → zCv shC g (d + 5) mX5_next [.ref 98] C4 (fun X => zW shC g (d + 6) mX1_parseSum (zz Q) 10 [(0, .ref 105), (1, .ref 98), (2, .int (zbI true)), (3, .int (zbI false)), (4, .int pc), (5, .int (iv (i' + 1 : Nat)))] [] X)) → (¬ M4 0 25 = 142 → (pc = -1 → zW shC g (d + 6) mX1_parseSum (zz Q) 149 [(0, .ref 105), (1, .ref 98), (2, .int (zbI false)), (3, .int (zbI false)), (4, .int pc), (5, .int (iv i'))] [.int 0, .ref 105] C4) ∧ (¬ pc = -1 → zW shC g (d + 6) mX1_parseSum (zz Q) 149 [(0, .ref 105), (1, .ref 98), (2, .int (zbI false)), (3, .int (zbI false)), (4, .int pc), (5, .int (iv i'))] [.int 1, .ref 105] C4)) → zW shC g (d + 6) mX1_parseSum (zz Q) 10 [(0, .ref 105), (1, .ref 98), (2, .int (zbI tm)), (3, .int (zbI false)), (4, .int pc), (5, .int (iv i))] [] C := fun d Q x y => by
          refine rC d Q (fun _ => ?_) fun z => absurd z (by decide)
          unfold aftN
          refine q_isSign h4 (c := 42) (x := 142) (by unfold isSg; simp only [true_or, or_true]) (by decide) (q_isSign h4 (c := 47) (x := 147) (by unfold isSg; simp only [true_or, or_true]) (by decide) ?_)
          rw [show decide (M4 0 25 = 147) = false from decide_eq_false n147, iv_s]
          by_cases c42 : M4 0 25 = 142
          · rw [show decide (M4 0 25 = 142) = true from decide_eq_true c42]
            exact ⟨fun _ => x c42, fun z => absurd z (by decide)⟩
          · rw [show decide (M4 0 25 = 142) = false from decide_eq_false c42]
            exact ⟨fun z => absurd z (by decide), fun _ => ⟨fun z => absurd z (by decide), fun _ => y c42⟩⟩
        have f4 := f3.trans q1
        have pr4 : Pre k C M C4 M4 := pr3.trans (by omega) r2
        have g4 := r1.trans g3
        by_cases c42 : M4 0 25 = 142
        · obtain ⟨p5, e5, C5, M5, h5, hp5, o3, o4, w3, w4⟩ := s_step (g := g) (g' := g') h4 (by rw [c42]; decide)
          have tt : true.toNat = 1 := rfl
          obtain ⟨b, C', M', ⟨j1, j2, j3⟩, j4, j5, j6⟩ := ih p5 e5 k4 (i' + 1) a m true pc ph C5 M5 (by omega) h5 (l4.ofn o3 o4) hop (by omega) (by omega) (by
            rw [show true.toNat + m = m + 1 from Nat.add_comm 1 m, List.replicate_succ]
            exact ty4.pre (Pre.ofn (k := k4) o3 o4))
          refine ⟨b, C', M', ⟨(f4.trans (FrL.ofn o3 o4)).trans j1, j2, fun hb => ?_⟩, fun hb => ?_, fun d Q q => rC4 d Q (fun _ => w3 (d + 4) _ (j5 d Q q)) fun z => absurd c42 z, fun d Q q => rM d Q (fun _ => vX9_product_9 ⟨fun _ => vX9_product_29 ⟨fun _ => vX9_product_44 (w4 (d + 1) _ ⟨fun _ => ?_, fun z => absurd rfl z⟩), fun z => absurd z n147⟩, fun z => absurd c42 z⟩) fun z => absurd z (by decide)⟩
          · obtain ⟨v1, v2, p6, e6, k6, v3, v4, v5, v6, v7, v8⟩ := j3 hb
            exact ⟨v1.trans ((o4.2 31 (by omega)).trans g4), (pr4.trans (by omega) (Pre.ofn (k := k4) o3 o4)).trans (by omega) v2, p6, e6, k6, v3, v4, by omega, by omega, by omega, v8⟩
          · obtain ⟨v1, v2, v3, v4, v5⟩ := j4 hb
            exact ⟨v1, v2, v3, v4, by omega⟩
          · have := j6 d Q q
            unfold unitR at this
            exact zCz_mono this fun b N => by
              intro x
              refine ⟨fun z => (x.1 z).2 rfl, fun z => x.2 z⟩
        · -- the open sum is closed
          obtain ⟨C5, M5, h5, l5, ty5, f5, pr5, g5, tk5, rc5, rm5⟩ : ∃ C5 M5 : zM, TK t n 1 p4 e4 C5 M5 ∧ LK (k4 + m) C5 M5 ∧ Ty 50 M5 a (k4 + m) [false] ∧ FrL C4 M4 C5 M5 ∧ Pre k4 C4 M4 C5 M5 ∧ M5 0 31 = M4 0 31 ∧ M5 0 25 = M4 0 25 ∧ (∀ (d : Nat) (R : zM → Prop), R C5 → (pc = -1 → zCv shC g (d + 1) mX1_emitIf [.ref 105, .int 0, .int pc] C4 R) ∧ (¬ pc = -1 → zCv shC g (d + 1) mX1_emitIf [.ref 105, .int 1, .int pc] C4 R)) ∧ ∀ (d : Nat) (Q : Bool → zM → Prop), zW shM g' (d + 10) mX9_sumUp (zz Q) 9 [(0, .ref 0)] [] M5 → afterP g' d ph Q true M4 := by
            have hone : ∀ pc0 ph0 : Int32, RCode pc0 ph0 0 → 7 ≤ ph0.toInt → ph0.toInt ≤ 25 → ¬ pc0 = -1 → m = 1 → pc = pc0 → ph = ph0 → ∃ C5 M5 : zM, TK t n 1 p4 e4 C5 M5 ∧ LK (k4 + m) C5 M5 ∧ Ty 50 M5 a (k4 + m) [false] ∧ FrL C4 M4 C5 M5 ∧ Pre k4 C4 M4 C5 M5 ∧ M5 0 31 = M4 0 31 ∧ M5 0 25 = M4 0 25 ∧ (∀ (d : Nat) (R : zM → Prop), R C5 → (pc = -1 → zCv shC g (d + 1) mX1_emitIf [.ref 105, .int 0, .int pc] C4 R) ∧ (¬ pc = -1 → zCv shC g (d + 1) mX1_emitIf [.ref 105, .int 1, .int pc] C4 R)) ∧ ∀ (d : Nat) (Q : Bool → zM → Prop), zW shM g' (d + 10) mX9_sumUp (zz Q) 9 [(0, .ref 0)] [] M5 → afterP g' d ph Q true M4 := by
              intro pc0 ph0 hr h7 h25 hn1 hm e1 e2
              rw [hm, e1, e2]
              rw [hm] at ty4
              obtain ⟨a1, a2, a3, a4, a5, a6⟩ := s_op h4 l4 hr ty4 (r := [false]) (fun ts => ty_bin h7 h25) (by simp)
              have hk400 : k4 < 400 := by omega
              have hph : ¬ ph0 = -1 := fun z => by
                rw [z] at h7
                exact absurd h7 (by decide)
              exact ⟨_, _, a1, a2, a4, FrL.ofe, a3, a5, a6, fun d R r => ⟨fun z => absurd z hn1, fun _ => c7_emitIf (b := true) (k := k4) (fun _ => ⟨l4.1, hk400, r⟩) fun z => absurd z (by decide)⟩, fun d Q q => ⟨fun _ => ⟨fun z => absurd z hph, fun _ => c9_lay l4.2.1 hk400 q⟩, fun z => absurd z (by decide)⟩⟩
            rcases hop with ⟨x1, x2, x3⟩ | ⟨x1, x2, x3⟩ | ⟨x1, x2, x3⟩
            · refine ⟨C4, M4, h4, ?_, ?_, FrL.rfl, Pre.rfl, rfl, rfl, fun d R r => ⟨fun _ => c7_emitIf (b := false) (k := k4) (fun z => absurd z (by decide)) fun _ => r, fun z => absurd x1 z⟩, fun d Q q => ⟨fun _ => ⟨fun _ => q, fun z => absurd x2 z⟩, fun z => absurd z (by decide)⟩⟩
              · rw [x3]; exact l4
              · rw [x3] at ty4 ⊢; exact ty4
            · exact hone 5 23 rc_op.2.1 (by decide) (by decide) (by decide) x3 x1 x2
            · exact hone 6 24 rc_op.2.2.1 (by decide) (by decide) (by decide) x3 x1 x2
          have rC5 : ∀ (d : Nat) (Q : Bool → zM → Prop), (zCz shC g (d + 5) mX5_isSign [.ref 98, .int 43] C5 (fun b1 M2 => (b1 = false → zCz shC g (d + 5) mX5_isSign [.ref 98, .int 45] M2 (fun b2 M3 => (b2 = false → zW shC g (d + 6) mX1_parseSum (zz Q) 182 [(0, .ref 105), (1, .ref 98), (2, .int (zbI false)), (3, .int (zbI false)), (5, .int (iv i'))] [.int (-1)] M3) ∧ (b2 = true → zW shC g (d + 6) mX1_parseSum (zz Q) 182 [(0, .ref 105), (1, .ref 98), (2, .int (zbI false)), (3, .int (zbI false)), (5, .int (iv i'))] [.int 6] M3))) ∧ (b1 = true → zW shC g (d + 6) mX1_parseSum (zz Q) 182 [(0, .ref 105), (1, .ref 98), (2, .int (zbI false)), (3, .int (zbI false)), (5, .int (iv i'))] [.int 5] M2))) → zW shC g (d + 6) mX1_parseSum (zz Q) 10 [(0, .ref 105), (1, .ref 98), (2, .int (zbI tm)), (3, .int (zbI false)), (4, .int pc), (5, .int (iv i))] [] C := fun d Q x =>
            rC4 d Q (fun z => absurd z c42) fun _ => ⟨fun z => vX1_parseSum_149 ((rc5 (d + 4) _ x).1 z), fun z => vX1_parseSum_149 ((rc5 (d + 4) _ x).2 z)⟩
          have rM5 : ∀ (d : Nat) (Q : Bool → zM → Prop), zW shM g' (d + 10) mX9_sumUp (zz Q) 9 [(0, .ref 0)] [] M5 → unitR g' d tm ph Q M := fun d Q x =>
            rM d Q (fun _ => vX9_product_9 ⟨fun z => absurd z c42, fun _ => ⟨fun _ => rm5 d Q x, fun z => absurd z n147⟩⟩) fun z => absurd z (by decide)
          have tkn : TK t n 1 p4 e4 C5 M5 := h5
          have goon : ∀ (pc' ph' : Int32), opn pc' ph' 1 → ¬ pc' = -1 → ¬ M5 0 25 = 0 → (∀ (d : Nat) (Q : Bool → zM → Prop), zW shC g (d + 6) mX1_parseSum (zz Q) 182 [(0, .ref 105), (1, .ref 98), (2, .int (zbI false)), (3, .int (zbI false)), (5, .int (iv i'))] [.int pc'] C5 → zW shC g (d + 6) mX1_parseSum (zz Q) 10 [(0, .ref 105), (1, .ref 98), (2, .int (zbI tm)), (3, .int (zbI false)), (4, .int pc), (5, .int (iv i))] [] C) → (∀ (d : Nat) (Q : Bool → zM → Prop), zW shM g' (d + 10) mX9_sumUp (zz Q) 46 [(0, .ref 0)] [.int ph'] M5 → zW shM g' (d + 10) mX9_sumUp (zz Q) 9 [(0, .ref 0)] [] M5) →
              ∃ (b : Bool) (C' M' : zM), PL t n p k (tm.toNat + m) 50 a [false] C M b C' M' ∧ (b = true → ¬ M' 0 25 = 147 ∧ ¬ M' 0 25 = 142 ∧ ¬ M' 0 25 = 143 ∧ ¬ M' 0 25 = 145 ∧ p < (M' 0 26).toInt) ∧ (∀ (d : Nat) (Q : Bool → zM → Prop), Q b C' → zW shC g (d + 6) mX1_parseSum (zz Q) 10 [(0, .ref 105), (1, .ref 98), (2, .int (zbI tm)), (3, .int (zbI false)), (4, .int pc), (5, .int (iv i))] [] C) ∧ ∀ (d : Nat) (Q : Bool → zM → Prop), Q b M' → unitR g' d tm ph Q M := by
            intro pc' ph' ho' hn' hz5 hC hM
            obtain ⟨p6, e6, C6, M6, h6, hp6, o3, o4, w3, w4⟩ := s_step (g := g) (g' := g') h5 hz5
            have ff : false.toNat = 0 := rfl
            obtain ⟨b, C', M', ⟨j1, j2, j3⟩, j4, j5, j6⟩ := ih p6 e6 (k4 + m) (i' + 1) a 1 false pc' ph' C6 M6 (by omega) h6 (l5.ofn o3 o4) ho' (by omega) (by omega) (ty5.pre (Pre.ofn (k := k4 + m) o3 o4))
            refine ⟨b, C', M', ⟨((f4.trans f5).trans (FrL.ofn o3 o4)).trans j1, j2, fun hb => ?_⟩, fun hb => ?_, fun d Q q => hC d Q (vX1_parseSum_182 ⟨fun _ => ?_, fun z => absurd z hn'⟩), fun d Q q => rM5 d Q (hM d Q (vX9_sumUp_46 (w4 (d + 2) _ (vX9_product ?_))))⟩
            · obtain ⟨v1, v2, p7, e7, k7, v3, v4, v5, v6, v7, v8⟩ := j3 hb
              exact ⟨v1.trans ((o4.2 31 (by omega)).trans (g5.trans g4)), ((pr4.trans (by omega) pr5).trans (by omega) (Pre.ofn (k := k4 + m) o3 o4)).trans (by omega) v2, p7, e7, k7, v3, v4, by omega, by omega, by omega, v8⟩
            · obtain ⟨v1, v2, v3, v4, v5⟩ := j4 hb
              exact ⟨v1, v2, v3, v4, by omega⟩
            · rw [iv_s]
              exact w3 (d + 4) _ (j5 d Q q)
            · have hu := j6 d Q q
              have hph : ¬ ph' = -1 := by
                rcases ho' with ⟨x, -, -⟩ | ⟨-, x, -⟩ | ⟨-, x, -⟩
                · exact absurd x hn'
                · rw [x]; decide
                · rw [x]; decide
              unfold unitR at hu
              refine zCz_mono hu fun b N x => ⟨fun z => ?_, fun z => ⟨fun y => absurd y (by decide), fun _ => (x.2 z).2 rfl⟩⟩
              refine zW_mono ((x.1 z).1 rfl) fun b N y => ⟨fun w => (y.1 w).2 hph, y.2⟩
          by_cases c43 : M5 0 25 = 143
          · refine goon 5 23 (Or.inr (Or.inl ⟨rfl, rfl, rfl⟩)) (by decide) (by rw [c43]; decide) (fun d Q w => rC5 d Q (q_isSign h5 (c := 43) (x := 143) (by unfold isSg; simp only [true_or, or_true]) (by decide) ⟨fun z => absurd c43 (of_decide_eq_false z), fun _ => w⟩)) fun d Q w => vX9_sumUp_9 ⟨fun _ => vX9_sumUp_29 ⟨fun z => absurd c43 z, fun _ => w⟩, fun z => absurd c43 z⟩
          · by_cases c45 : M5 0 25 = 145
            · refine goon 6 24 (Or.inr (Or.inr ⟨rfl, rfl, rfl⟩)) (by decide) (by rw [c45]; decide) (fun d Q w => rC5 d Q (q_isSign h5 (c := 43) (x := 143) (by unfold isSg; simp only [true_or, or_true]) (by decide) ⟨fun _ => q_isSign h5 (c := 45) (x := 145) (by unfold isSg; simp only [true_or, or_true]) (by decide) ⟨fun z => absurd c45 (of_decide_eq_false z), fun _ => w⟩, fun z => absurd (of_decide_eq_true z) c43⟩)) fun d Q w => vX9_sumUp_9 ⟨fun z => absurd z c43, fun _ => ⟨fun z => absurd c45 z, fun _ => vX9_sumUp_29 ⟨fun _ => w, fun z => absurd z c43⟩⟩⟩
            · have h526 : (M5 0 26).toInt = p4 := by rw [h5.2.2.1, iv_toInt (by omega) (by omega)]
              refine ⟨true, C5, M5, ⟨f4.trans f5, fun z => absurd z (by decide), fun _ => ⟨g5.trans g4, pr4.trans (by omega) pr5, p4, e4, k4 + m, h5, l5, by omega, by omega, by omega, ty5⟩⟩, fun _ => ⟨by rw [tk5]; exact n147, by rw [tk5]; exact c42, c43, c45, by omega⟩, fun d Q q => rC5 d Q (q_isSign h5 (c := 43) (x := 143) (by unfold isSg; simp only [true_or, or_true]) (by decide) ⟨fun _ => q_isSign h5 (c := 45) (x := 145) (by unfold isSg; simp only [true_or, or_true]) (by decide) ⟨fun _ => vX1_parseSum_182 ⟨fun z => absurd rfl z, fun _ => q⟩, fun z => absurd (of_decide_eq_true z) c45⟩, fun z => absurd (of_decide_eq_true z) c43⟩), fun d Q q => rM5 d Q (vX9_sumUp_9 ⟨fun z => absurd z c43, fun _ => ⟨fun _ => q, fun z => absurd z c45⟩⟩)⟩
end SU
