/-! A LINE of a law, both sides -/
/-- what reading a text leaves as it was -/
def FrX (C M C' M' : zM) : Prop := (∀ o, o ≠ 98 → ¬ (100 ≤ o ∧ o ≤ 115) → C' o = C o) ∧ C' 98 1 = C 98 1 ∧ (∀ o, o ≠ 0 → ¬ (5 ≤ o ∧ o ≤ 11) → M' o = M o) ∧ ∀ s, s < 16 ∨ s = 23 ∨ s = 30 ∨ s = 32 → M' 0 s = M 0 s
theorem FrX.rfl {C M : zM} : FrX C M C M := ⟨fun _ _ _ => Eq.refl _, Eq.refl _, fun _ _ _ => Eq.refl _, fun _ _ => Eq.refl _⟩
theorem FrX.trans {C M C1 M1 C2 M2 : zM} (h : FrX C M C1 M1) (h2 : FrX C1 M1 C2 M2) : FrX C M C2 M2 := ⟨fun o a b => (h2.1 o a b).trans (h.1 o a b), h2.2.1.trans h.2.1, fun o a b => (h2.2.2.1 o a b).trans (h.2.2.1 o a b), fun s a => (h2.2.2.2 s a).trans (h.2.2.2 s a)⟩
theorem FrL.x {C M C' M' : zM} (h : FrL C M C' M') : FrX C M C' M' := ⟨fun o a b => h.1 o a (by omega) (by omega), h.2.1, fun o a b => h.2.2.2.1 o a (by omega), fun s a => h.2.2.2.2 s (by omega)⟩
theorem FrX.c {C M : zM} {o i : Nat} {x : Int32} (ho : 100 ≤ o ∧ o ≤ 115) : FrX C M (zup C o i x) M := ⟨fun a _ b => zup_oth (by omega), by rw [zup_oth (by omega)], fun _ _ _ => Eq.refl _, fun _ _ => Eq.refl _⟩
theorem FrX.m {C M : zM} {o i : Nat} {x : Int32} (ho : 5 ≤ o ∧ o ≤ 11) : FrX C M C (zup M o i x) := ⟨fun _ _ _ => Eq.refl _, Eq.refl _, fun a _ b => zup_oth (by omega), fun s _ => by rw [zup_oth (by omega)]⟩
theorem FrX.m0 {C M : zM} {i : Nat} {x : Int32} (hi : 16 ≤ i ∧ i ≠ 23 ∧ i ≠ 30 ∧ i ≠ 32) : FrX C M C (zup M 0 i x) := ⟨fun _ _ _ => Eq.refl _, Eq.refl _, fun a b _ => zup_oth b, fun s _ => zup_ne (Or.inr (by omega))⟩
theorem TK.c {t : Nat → Int32} {n rd p e o i : Nat} {C M : zM} {x : Int32} (h : TK t n rd p e C M) (ho : 100 ≤ o) : TK t n rd p e (zup C o i x) M := h.keep (zup_oth (by omega)) (zup_oth (by omega)) rfl rfl fun _ _ _ => rfl
theorem TK.m {t : Nat → Int32} {n rd p e o i : Nat} {C M : zM} {x : Int32} (h : TK t n rd p e C M) (ho : 5 ≤ o ∧ o ≤ 11) : TK t n rd p e C (zup M o i x) := h.keep rfl rfl (zup_oth (by omega)) (by rw [zup_oth (by omega)]) fun _ _ _ => by rw [zup_oth (by omega)]
theorem TK.m0 {t : Nat → Int32} {n rd p e i : Nat} {C M : zM} {x : Int32} (h : TK t n rd p e C M) (hi : 17 ≤ i ∧ (i < 23 ∨ 27 < i)) : TK t n rd p e C (zup M 0 i x) := h.keep rfl rfl (zup_oth (by omega)) (zup_ne (Or.inr (by omega))) fun _ _ _ => zup_ne (Or.inr (by omega))
theorem LK.c {k o i : Nat} {C M : zM} {x : Int32} (h : LK k C M) (ho : 107 ≤ o) : LK k (zup C o i x) M := h.keep (by rw [zup_oth (by omega)]) (zup_oth (by omega)) rfl rfl
theorem LK.m5 {k i : Nat} {C M : zM} {x : Int32} (h : LK k C M) : LK k C (zup M 5 i x) := h.keep rfl rfl (by rw [zup_oth (by omega)]) (zup_oth (by omega))
theorem Pre.c {k o i : Nat} {C M : zM} {x : Int32} (ho : 107 ≤ o) : Pre k C M (zup C o i x) M := ⟨fun _ _ => by rw [zup_oth (by omega)], fun _ _ => Eq.refl _, by rw [zup_oth (by omega)], by rw [zup_oth (by omega)]⟩
theorem Pre.m5 {k i : Nat} {C M : zM} {x : Int32} : Pre k C M C (zup M 5 i x) := ⟨fun _ _ => Eq.refl _, fun _ _ => by rw [zup_oth (by omega)], Eq.refl _, Eq.refl _⟩
/-- line j of those read, codes up to k -/
def Ln (k j : Nat) (C M : zM) : Prop := ∃ f m u : Nat, M 5 (4 * j) = iv f ∧ M 5 (4 * j + 1) = iv m ∧ M 5 (4 * j + 2) = iv u ∧ f < m ∧ m ≤ u ∧ u ≤ k ∧ (M 5 (4 * j + 3) = 20 ∨ M 5 (4 * j + 3) = 21) ∧ Ty 20 M f m [false] ∧ (m < u → Ty 20 M m u [true]) ∧ C 107 j = (if M 5 (4 * j + 3) = 20 then 0 else 1) ∧ C 108 j = iv f ∧ C 109 j = iv m ∧ C 110 j = iv u
def LNs (i k : Nat) (C M : zM) : Prop := C 105 6 = iv i ∧ M 0 17 = iv i ∧ i ≤ 16 ∧ (∃ th : Nat, th ≤ i ∧ C 105 7 = iv th ∧ (th = 0 ↔ ∀ j, j < i → M 5 (4 * j + 3) = 20)) ∧ ∀ j, j < i → Ln k j C M
theorem Ln.keep {k k' j : Nat} {C M C' M' : zM} (h : Ln k j C M) (hk : k ≤ k') (hp : Pre k C M C' M') (hm : ∀ x, x < 4 → M' 5 (4 * j + x) = M 5 (4 * j + x)) (hc : ∀ o, 107 ≤ o → o ≤ 110 → C' o j = C o j) : Ln k' j C' M' := by
  obtain ⟨f, m, u, a1, a2, a3, a4, a5, a6, a7, a8, a9, b1, b2, b3, b4⟩ := h
  have h0 := hm 0 (by omega)
  rw [Nat.add_zero] at h0
  refine ⟨f, m, u, h0.trans a1, (hm 1 (by omega)).trans a2, (hm 2 (by omega)).trans a3, a4, a5, by omega, ?_, ?_, fun x => ?_, ?_, (hc 108 (by omega) (by omega)).trans b2, (hc 109 (by omega) (by omega)).trans b3, (hc 110 (by omega) (by omega)).trans b4⟩
  · rw [hm 3 (by omega)]; exact a7
  · refine ⟨a8.1, fun ts ht => ?_⟩
    rw [← a8.2 ts ht]
    refine ty_cong _ _ _ fun i x y => ?_
    rw [row6_at, row6_at]
    exact hp.2.1 _ (by omega)
  · have a9 := a9 x
    refine ⟨a9.1, fun ts ht => ?_⟩
    rw [← a9.2 ts ht]
    refine ty_cong _ _ _ fun i y z => ?_
    rw [row6_at, row6_at]
    exact hp.2.1 _ (by omega)
  · rw [hm 3 (by omega), hc 107 (by omega) (by omega)]; exact b1
theorem Ty.lt {L a k : Nat} {b : Bool} {M : zM} (h : Ty L M a k [b]) : a < k := by
  have h1 := h.1
  by_cases c : a = k
  · have h2 := h.2 [] (Nat.zero_le _)
    rw [c, Nat.sub_self, tyRun] at h2
    exact absurd (Option.some.inj h2) (List.cons_ne_nil _ _).symm
  · omega
section LI
variable {g g' : zG} {t : Nat → Int32} {n : Nat}
/-- the condition of a line, if there is one -/
theorem s_when {p e k : Nat} {C M : zM} (h : TK t n 1 p e C M) (hk : LK k C M) (hkp : k ≤ p) (h31 : M 0 31 = 0) : ∃ (b : Bool) (C' M' : zM), FrL C M C' M' ∧ (b = false → Flt C' M') ∧ (b = true → Pre k C M C' M' ∧ ∃ p' e' k' : Nat, TK t n 1 p' e' C' M' ∧ LK k' C' M' ∧ p ≤ p' ∧ k ≤ k' ∧ k' + p ≤ k + p' ∧ (k < k' → Ty 20 M' k k' [true])) ∧
    (∀ (d : Nat) (Q : Bool → zM → Prop) (l2 : Bool), (b = true → zW shC g (d + 26) mX1_parseLine (zz Q) 123 [(0, .ref 105), (1, .ref 98), (2, .int (zbI l2))] [] C') → (b = false → Q false C') → zCz shC g (d + 25) mX5_isWord [.ref 98, .ref (4096 + 16)] C (fun b2 M2 => (b2 = false → zW shC g (d + 26) mX1_parseLine (zz Q) 123 [(0, .ref 105), (1, .ref 98), (2, .int (zbI l2))] [] M2) ∧ (b2 = true → zCv shC g (d + 25) mX5_next [.ref 98] M2 (fun M3 => zCz shC g (d + 25) mX1_parseCondition [.ref 105, .ref 98, .int 0] M3 (fun b3 M4 => (b3 = true → zW shC g (d + 26) mX1_parseLine (zz Q) 123 [(0, .ref 105), (1, .ref 98), (2, .int (zbI l2))] [] M4) ∧ (b3 = false → Q false M4)))))) ∧
    ∀ (d : Nat) (Q : Bool → zM → Prop), (b = true → zW shM g' (d + 39) mX9_aLine (zz Q) 127 [(0, .ref 0)] [] M') → (b = false → Q false M') → (¬ M 0 25 = 3 → zW shM g' (d + 39) mX9_aLine (zz Q) 127 [(0, .ref 0)] [] M) ∧ (M 0 25 = 3 → zCv shM g' (d + 38) mX9_next0 [.ref 0] M (fun M3 => zCz shM g' (d + 38) mX9_any [.ref 0] M3 (fun b2 M4 => (b2 = true → zW shM g' (d + 39) mX9_aLine (zz Q) 127 [(0, .ref 0)] [] M4) ∧ (b2 = false → Q false M4)))) := by
  have hl := h.len
  by_cases c : M 0 25 = 3
  · obtain ⟨p1, e1, C1, M1, h1, hp1, o1, o2, w1, w2⟩ := s_step (g := g) (g' := g') h (by rw [c]; decide)
    obtain ⟨b, C2, M2, ⟨q1, q2, q3⟩, q4, q5, q6⟩ := s_cond (g := g) (g' := g') (s_clause 8) p1 e1 k 0 C1 M1 (by omega) h1 (hk.ofn o1 o2) (by omega) ((o2.2 31 (by omega)).trans h31)
    refine ⟨b, C2, M2, (FrL.ofn o1 o2).trans q1, q2, fun hb => ?_, fun d Q l2 x y => q_isWord h (d := d + 21) (k := 3) (x := 3) (by decide) rfl ⟨fun z => absurd c (of_decide_eq_false z), fun _ => w1 (d + 24) _ (q5 d _ ⟨x, y⟩)⟩, fun d Q x y => ⟨fun z => absurd c z, fun _ => w2 (d + 31) _ (q6 d _ ⟨x, y⟩)⟩⟩
    obtain ⟨r1, r2, p3, e3, k3, r3, r4, r5, r6, r7, r8⟩ := q3 hb
    exact ⟨(Pre.ofn o1 o2).trans (Nat.le_refl _) r2, p3, e3, k3, r3, r4, by omega, by omega, by omega, fun _ => r8⟩
  · exact ⟨true, C, M, FrL.rfl, fun z => absurd z (by decide), fun _ => ⟨Pre.rfl, p, e, k, h, hk, Nat.le_refl _, Nat.le_refl _, by omega, fun z => absurd z (Nat.lt_irrefl _)⟩, fun d Q l2 x y => q_isWord h (d := d + 21) (k := 3) (x := 3) (by decide) rfl ⟨fun _ => x rfl, fun z => absurd (of_decide_eq_true z) c⟩, fun d Q x y => ⟨fun _ => x rfl, fun z => absurd z c⟩⟩
theorem s_line {p e k i : Nat} {C M : zM} (h : TK t n 1 p e C M) (hk : LK k C M) (hkp : k ≤ p) (hn : LNs i k C M) : ∃ (b : Bool) (C' M' : zM), FrX C M C' M' ∧ (b = false → Flt C' M') ∧ (b = true → C' 98 6 = C 98 6 ∧ C' 98 7 = C 98 7 ∧ M' 0 17 = iv i ∧ ∃ p' e' k' : Nat, TK t n 1 p' e' C' M' ∧ LK k' C' M' ∧ p < p' ∧ k' ≤ p' ∧ LNs (i + 1) k' C' (zup M' 0 17 (iv (i + 1 : Nat)))) ∧
    (∀ (d : Nat) (Q : Bool → zM → Prop), Q b C' → zCz shC g (d + 26) mX1_parseLine [.ref 105, .ref 98] C Q) ∧ ∀ (d : Nat) (Q : Bool → zM → Prop), Q b M' → zCz shM g' (d + 39) mX9_aLine [.ref 0] M Q := by
  have hl := h.len
  obtain ⟨n6, n17, n16, ⟨th, nt1, nt2, nt3⟩, nj⟩ := hn
  by_cases c : M 0 25 = 20 ∨ M 0 25 = 21
  · obtain ⟨l2, hl2⟩ : ∃ l2 : Bool, l2 = decide (M 0 25 = 21) := ⟨_, rfl⟩
    have rC : ∀ (d : Nat) (Q : Bool → zM → Prop), zW shC g (d + 26) mX1_parseLine (zz Q) 26 [(0, .ref 105), (1, .ref 98), (2, .int (zbI l2))] [] C → zCz shC g (d + 26) mX1_parseLine [.ref 105, .ref 98] C Q := fun d Q x => by
      rw [hl2] at x
      refine vX1_parseLine (q_isWord h (d := d + 21) (k := 21) (x := 21) (by decide) rfl ⟨fun _ => x, fun z => q_isWord h (d := d + 21) (k := 20) (x := 20) (by decide) rfl ⟨fun _ => x, fun z2 => ?_⟩⟩)
      exact absurd c fun y => y.elim (of_decide_eq_false z2) (of_decide_eq_false z)
    have rM : ∀ (d : Nat) (Q : Bool → zM → Prop), zW shM g' (d + 39) mX9_aLine (zz Q) 24 [(0, .ref 0)] [] M → zCz shM g' (d + 39) mX9_aLine [.ref 0] M Q := fun d Q x => by
      refine vX9_aLine ⟨fun _ => x, fun z => ⟨fun _ => x, fun z2 => ?_⟩⟩
      exact absurd c fun y => y.elim z z2
    have hz : ¬ M 0 25 = 0 := by rcases c with c | c <;> rw [c] <;> decide
    by_cases c16 : i = 16
    · refine ⟨false, FC C 3, FM M 3, FrL.off.x, fun _ => Flt.ofe h, fun z => absurd z (by decide), fun d Q q => rC d Q (vX1_parseLine_26 ⟨fun z => ?_, fun _ => c7_fail q⟩), fun d Q q => rM d Q (vX9_aLine_24 ⟨fun z => ?_, fun _ => c9_bad q⟩)⟩
      · rw [n6, c16] at z; exact absurd z (by decide)
      · rw [n17, c16] at z; exact absurd rfl z
    · have i16 : i < 16 := by omega
      have e4 : ∀ x : Nat, x < 4 → (4 : Int32) * iv i + iv x = iv (4 * i + x : Nat) := fun x hx => by
        rw [show (4 : Int32) = iv 4 from rfl, iv_mul, iv_add]
        rfl
      have e40 : (4 : Int32) * iv i = iv (4 * i : Nat) := by
        rw [show (4 : Int32) = iv 4 from rfl, iv_mul]
        rfl
      obtain ⟨s0, hs0⟩ : ∃ s0 : Int32, s0 = (if M 0 25 = 20 then 0 else 1) := ⟨_, rfl⟩
      -- the next token, over the word that the reference wrote down
      obtain ⟨p1, e1, C1, M1, h1, hp1, o1, o2, w1, w2⟩ := s_step (g := g) (g' := g') ((h.dm (x := 0)).m (o := 5) (i := 4 * i + 3) (x := M 0 25) (by omega)) (by rw [zup_oth (by omega), DM_om.2.1 25 (by omega)]; exact hz)
      have lk1 : LK k C1 M1 := ((hk.dm (x := 0)).m5).ofn o1 o2
      have h1' := ((h1.c (o := 107) (i := i) (x := s0) (by omega)).c (o := 108) (i := i) (x := iv k) (by omega)).m (o := 5) (i := 4 * i) (x := iv k) (by omega)
      have lk1' : LK k (zup (zup C1 107 i s0) 108 i (iv k)) (zup M1 5 (4 * i) (iv k)) := ((lk1.c (by omega)).c (by omega)).m5
      have f1 : FrX C M (zup (zup C1 107 i s0) 108 i (iv k)) (zup M1 5 (4 * i) (iv k)) := ((((FrL.dm.x.trans (FrX.m (by omega))).trans (FrL.ofn o1 o2).x).trans (FrX.c (by omega))).trans (FrX.c (by omega))).trans (FrX.m (by omega))
      have pr1 : Pre k C M (zup (zup C1 107 i s0) 108 i (iv k)) (zup M1 5 (4 * i) (iv k)) := ((((Pre.dm.trans (Nat.le_refl _) Pre.m5).trans (Nat.le_refl _) (Pre.ofn o1 o2)).trans (Nat.le_refl _) (Pre.c (by omega))).trans (Nat.le_refl _) (Pre.c (by omega))).trans (Nat.le_refl _) Pre.m5
      have c6 : C1 105 6 = iv i := by rw [o1.1 105 (by omega)]; exact n6
      have c1k : C1 105 1 = iv k := lk1.1
      have m17 : M1 0 17 = iv i := by rw [o2.2 17 (by omega), zup_oth (by omega), DM_om.2.1 17 (by omega)]; exact n17
      have m18 : M1 0 18 = iv k := lk1.2.1
      obtain ⟨b, C2, M2, ⟨q1, q2, q3⟩, q4, q5, q6⟩ := s_sum (g := g) (g' := g') h1' lk1' (by omega)
      have rC2 : ∀ (d : Nat) (Q : Bool → zM → Prop), ((b = true → ∃ k3 : Nat, (C2 105 6) = iv k3 ∧ k3 < 16 ∧ zCz shC g (d + 25) mX5_isWord [.ref 98, .ref (4096 + 16)] (zup C2 109 k3 (C2 105 1)) (fun b2 M2 => (b2 = false → zW shC g (d + 26) mX1_parseLine (zz Q) 123 [(0, .ref 105), (1, .ref 98), (2, .int (zbI l2))] [] M2) ∧ (b2 = true → zCv shC g (d + 25) mX5_next [.ref 98] M2 (fun M3 => zCz shC g (d + 25) mX1_parseCondition [.ref 105, .ref 98, .int 0] M3 (fun b3 M4 => (b3 = true → zW shC g (d + 26) mX1_parseLine (zz Q) 123 [(0, .ref 105), (1, .ref 98), (2, .int (zbI l2))] [] M4) ∧ (b3 = false → Q false M4)))))) ∧ (b = false → Q false C2)) → zCz shC g (d + 26) mX1_parseLine [.ref 105, .ref 98] C Q := fun d Q x => by
        have w62 : zW shC g (d + 26) mX1_parseLine (zz Q) 62 [(0, .ref 105), (1, .ref 98), (2, .int (zbI l2))] [.int s0, .int (C1 105 6), .ref 107] C1 := by
          refine vX1_parseLine_62 ⟨i, c6, i16, i, by rw [zup_oth (by omega)]; exact c6, i16, ?_⟩
          rw [zup_oth (by omega), c1k]
          exact q5 (d + 19) _ x
        refine rC d Q (vX1_parseLine_26 ⟨fun _ => w1 (d + 24) _ ⟨fun z => ?_, fun z => ?_⟩, fun z => absurd ?_ z⟩)
        · have : s0 = 0 := by
            rw [hl2] at z
            rw [hs0, if_pos (c.resolve_right (of_decide_eq_false z))]
          rw [this] at w62
          exact w62
        · have : s0 = 1 := by
            rw [hl2] at z
            rw [hs0, if_neg (by rw [of_decide_eq_true z]; decide)]
          rw [this] at w62
          exact w62
        · rw [n6, Int32.lt_iff_toInt_lt, iv_toInt (by omega) (by omega)]
          simp only [Int32.reduceToInt]
          omega
      have rM2 : ∀ (d : Nat) (Q : Bool → zM → Prop), ((b = true → ∃ k3 : Nat, ((4 * (M2 0 17)) + 1) = iv k3 ∧ k3 < 64 ∧ (¬ ((zup M2 5 k3 (M2 0 18)) 0 25) = 3 → zW shM g' (d + 39) mX9_aLine (zz Q) 127 [(0, .ref 0)] [] (zup M2 5 k3 (M2 0 18))) ∧ (((zup M2 5 k3 (M2 0 18)) 0 25) = 3 → zCv shM g' (d + 38) mX9_next0 [.ref 0] (zup M2 5 k3 (M2 0 18)) (fun M3 => zCz shM g' (d + 38) mX9_any [.ref 0] M3 (fun b2 M4 => (b2 = true → zW shM g' (d + 39) mX9_aLine (zz Q) 127 [(0, .ref 0)] [] M4) ∧ (b2 = false → Q false M4))))) ∧ (b = false → Q false M2)) → zCz shM g' (d + 39) mX9_aLine [.ref 0] M Q := fun d Q x => by
        refine rM d Q (vX9_aLine_24 ⟨fun _ => ⟨4 * i + 3, ?_, by omega, ?_⟩, fun z => ?_⟩)
        · rw [zup_ne (Or.inr (by omega)), n17]
          exact e4 3 (by omega)
        · rw [zup_ne (j := 25) (Or.inr (by omega))]
          refine w2 (d + 31) _ ⟨4 * i, ?_, by omega, ?_⟩
          · rw [m17, e40]
          · rw [m18]
            exact q6 (d + 28) _ x
        · rw [n17, eqI, iv_toInt (by omega) (by omega)] at z
          simp only [Int32.reduceToInt] at z
          omega
      have f2 := f1.trans q1.x
      cases b with
      | false => exact ⟨false, C2, M2, f2, fun _ => q2 rfl, fun z => absurd z (by decide), fun d Q q => rC2 d Q ⟨fun z => absurd z (by decide), fun _ => q⟩, fun d Q q => rM2 d Q ⟨fun z => absurd z (by decide), fun _ => q⟩⟩
      | true =>
        obtain ⟨r1, r2, p2, e2, k2, h2, l2k, pp2, kk2, kp2, ty2⟩ := q3 rfl
        have hlen2 := h2.len
        have d6 : C2 105 6 = iv i := by rw [q1.2.2.1 6 (by omega), zup_oth (by omega), zup_oth (by omega)]; exact c6
        have d17 : M2 0 17 = iv i := by rw [q1.2.2.2.2 17 (by omega), zup_oth (by omega)]; exact m17
        have d31 : M2 0 31 = 0 := by rw [r1, zup_oth (by omega), o2.2 31 (by omega), zup_oth (by omega), DM_om.2.2]
        obtain ⟨b, C4, M4, j1, j2, j3, j5, j6⟩ := s_when (g := g) (g' := g') ((h2.c (o := 109) (i := i) (x := iv k2) (by omega)).m (o := 5) (i := 4 * i + 1) (x := iv k2) (by omega)) ((l2k.c (o := 109) (i := i) (x := iv k2) (by omega)).m5 (i := 4 * i + 1) (x := iv k2)) (by omega) (by rw [zup_oth (by omega)]; exact d31)
        have rC4 : ∀ (d : Nat) (Q : Bool → zM → Prop), (b = true → zW shC g (d + 26) mX1_parseLine (zz Q) 123 [(0, .ref 105), (1, .ref 98), (2, .int (zbI l2))] [] C4) → (b = false → Q false C4) → zCz shC g (d + 26) mX1_parseLine [.ref 105, .ref 98] C Q := fun d Q x y => rC2 d Q ⟨fun _ => ⟨i, d6, i16, by
          rw [l2k.1]
          exact j5 d Q l2 x y⟩, fun z => absurd z (by decide)⟩
        have rM4 : ∀ (d : Nat) (Q : Bool → zM → Prop), (b = true → zW shM g' (d + 39) mX9_aLine (zz Q) 127 [(0, .ref 0)] [] M4) → (b = false → Q false M4) → zCz shM g' (d + 39) mX9_aLine [.ref 0] M Q := fun d Q x y => rM2 d Q ⟨fun _ => ⟨4 * i + 1, by rw [d17]; exact e4 1 (by omega), by omega, by
          rw [l2k.2.1]
          exact j6 d Q x y⟩, fun z => absurd z (by decide)⟩
        have f4 : FrX C M C4 M4 := ((f2.trans (FrX.c (by omega))).trans (FrX.m (by omega))).trans j1.x
        cases b with
        | false => exact ⟨false, C4, M4, f4, fun _ => j2 rfl, fun z => absurd z (by decide), fun d Q q => rC4 d Q (fun z => absurd z (by decide)) fun _ => q, fun d Q q => rM4 d Q (fun z => absurd z (by decide)) fun _ => q⟩
        | true =>
          obtain ⟨v2, p4, e4', k4, h4, l4, pp4, kk4, kp4, ty4⟩ := j3 rfl
          have hlen4 := h4.len
          have g6 : C4 105 6 = iv i := by rw [j1.2.2.1 6 (by omega), zup_oth (by omega)]; exact d6
          have g7 : C4 105 7 = iv th := by rw [j1.2.2.1 7 (by omega), zup_oth (by omega), q1.2.2.1 7 (by omega), zup_oth (by omega), zup_oth (by omega), o1.1 105 (by omega)]; exact nt2
          have g17 : M4 0 17 = iv i := by rw [j1.2.2.2.2 17 (by omega), zup_oth (by omega)]; exact d17
          have h4' := (h4.c (o := 110) (i := i) (x := iv k4) (by omega)).m (o := 5) (i := 4 * i + 2) (x := iv k4) (by omega)
          have pr4 : Pre k C M C4 M4 := ((pr1.trans (Nat.le_refl _) r2).trans kk2 (Pre.trans (Nat.le_refl _) (Pre.c (by omega)) Pre.m5)).trans kk2 v2
          have rC5 : ∀ (d : Nat) (Q : Bool → zM → Prop), zCz shC g (d + 25) mX5_isSign [.ref 98, .int 59] (zup C4 110 i (iv k4)) (fun b1 M1 => (b1 = true → zCv shC g (d + 25) mX5_next [.ref 98] M1 (fun M2 => (l2 = false → Q true (zup (zup M2 105 6 ((M2 105 6) + 1)) 105 7 (((zup M2 105 6 ((M2 105 6) + 1)) 105 7) + 0))) ∧ (l2 = true → Q true (zup (zup M2 105 6 ((M2 105 6) + 1)) 105 7 (((zup M2 105 6 ((M2 105 6) + 1)) 105 7) + 1))))) ∧ (b1 = false → zCz shC g (d + 25) mX5_fail [.ref 98, .int 1] M1 (fun b2 M2 => Q b2 M2))) → zCz shC g (d + 26) mX1_parseLine [.ref 105, .ref 98] C Q := fun d Q x =>
            rC4 d Q (fun _ => vX1_parseLine_123 ⟨i, g6, i16, by rw [l4.1]; exact x⟩) fun z => absurd z (by decide)
          have rM5 : ∀ (d : Nat) (Q : Bool → zM → Prop), zCz shM g' (d + 38) mX9_need [.ref 0, .int 159] (zup M4 5 (4 * i + 2) (iv k4)) (fun b1 M1 => Q b1 M1) → zCz shM g' (d + 39) mX9_aLine [.ref 0] M Q := fun d Q x =>
            rM4 d Q (fun _ => vX9_aLine_127 ⟨4 * i + 2, by rw [g17]; exact e4 2 (by omega), by omega, by rw [l4.2.1]; exact x⟩) fun z => absurd z (by decide)
          have f4' := (f4.trans (FrX.c (o := 110) (i := i) (x := iv k4) (by omega))).trans (FrX.m (o := 5) (i := 4 * i + 2) (x := iv k4) (by omega))
          by_cases c59 : M4 0 25 = 159
          · obtain ⟨p5, e5, C5, M5, h5, hp5, o5, o6, w5, w6⟩ := s_step (g := g) (g' := g') h4' (by rw [zup_oth (by omega), c59]; decide)
            have y6 : C5 105 6 = iv i := by rw [o5.1 105 (by omega), zup_oth (by omega)]; exact g6
            have y7 : C5 105 7 = iv th := by rw [o5.1 105 (by omega), zup_oth (by omega)]; exact g7
            have y17 : M5 0 17 = iv i := by rw [o6.2 17 (by omega), zup_oth (by omega)]; exact g17
            have lk5 : LK k4 C5 M5 := ((l4.c (o := 110) (i := i) (x := iv k4) (by omega)).m5 (i := 4 * i + 2) (x := iv k4)).ofn o5 o6
            obtain ⟨th', ht'⟩ : ∃ th' : Nat, th' = th + (if l2 then 1 else 0) := ⟨_, rfl⟩
            have row5 : ∀ j, M5 5 j = upd (upd (upd (upd (M 5) (4 * i + 3) (M 0 25)) (4 * i) (iv k)) (4 * i + 1) (iv k2)) (4 * i + 2) (iv k4) j := fun j => by
              rw [o6.1 5 (by omega), zup_row, j1.2.2.2.1 5 (by omega) (by omega), zup_row, q1.2.2.2.1 5 (by omega) (by omega), zup_row, o2.1 5 (by omega), zup_row, DM_om.1 5 (by omega)]
            have row7 : ∀ j, C5 107 j = upd (C 107) i s0 j := fun j => by
              rw [o5.1 107 (by omega), zup_oth (by omega), j1.1 107 (by omega) (by omega) (by omega), zup_oth (by omega), q1.1 107 (by omega) (by omega) (by omega), zup_oth (by omega), zup_row, o1.1 107 (by omega)]
            have row8 : ∀ j, C5 108 j = upd (C 108) i (iv k) j := fun j => by
              rw [o5.1 108 (by omega), zup_oth (by omega), j1.1 108 (by omega) (by omega) (by omega), zup_oth (by omega), q1.1 108 (by omega) (by omega) (by omega), zup_row, zup_oth (by omega), o1.1 108 (by omega)]
            have row9 : ∀ j, C5 109 j = upd (C 109) i (iv k2) j := fun j => by
              rw [o5.1 109 (by omega), zup_oth (by omega), j1.1 109 (by omega) (by omega) (by omega), zup_row, q1.1 109 (by omega) (by omega) (by omega), zup_oth (by omega), zup_oth (by omega), o1.1 109 (by omega)]
            have row10 : ∀ j, C5 110 j = upd (C 110) i (iv k4) j := fun j => by
              rw [o5.1 110 (by omega), zup_row, j1.1 110 (by omega) (by omega) (by omega), zup_oth (by omega), q1.1 110 (by omega) (by omega) (by omega), zup_oth (by omega), zup_oth (by omega), o1.1 110 (by omega)]
            obtain ⟨C6, hC6⟩ : ∃ C6 : zM, C6 = zup (zup C5 105 6 (iv (i + 1 : Nat))) 105 7 (iv th') := ⟨_, rfl⟩
            have a3 : M5 5 (4 * i + 3) = M 0 25 := by rw [row5, upd_ne (by omega), upd_ne (by omega), upd_ne (by omega), upd_at]
            have old5 : ∀ j x, j < i → x < 4 → M5 5 (4 * j + x) = M 5 (4 * j + x) := fun j x hj hx => by rw [row5, upd_ne (by omega), upd_ne (by omega), upd_ne (by omega), upd_ne (by omega)]
            have pr5 : Pre k C M C5 M5 := (pr4.trans (show k ≤ k4 by omega) (Pre.trans (Nat.le_refl _) (Pre.c (by omega)) Pre.m5)).trans (show k ≤ k4 by omega) (Pre.ofn o5 o6)
            have pr6 : Pre k C M C6 (zup M5 0 17 (iv (i + 1 : Nat))) := by
              rw [hC6]
              exact ⟨fun j a => by rw [zup_oth (by omega), zup_oth (by omega)]; exact pr5.1 j a, fun j a => by rw [zup_oth (by omega)]; exact pr5.2.1 j a, by rw [zup_oth (by omega), zup_oth (by omega)]; exact pr5.2.2.1, by rw [zup_oth (by omega), zup_oth (by omega)]; exact pr5.2.2.2⟩
            have c6o : ∀ o, o ≠ 105 → C6 o = C5 o := fun o ho => by rw [hC6, zup_oth ho, zup_oth ho]
            have hc6 : ∀ (d : Nat) (Q : Bool → zM → Prop), Q true C6 → (l2 = false → Q true (zup (zup C5 105 6 ((C5 105 6) + 1)) 105 7 (((zup C5 105 6 ((C5 105 6) + 1)) 105 7) + 0))) ∧ (l2 = true → Q true (zup (zup C5 105 6 ((C5 105 6) + 1)) 105 7 (((zup C5 105 6 ((C5 105 6) + 1)) 105 7) + 1))) := fun d Q q => by
              rw [hC6, ht'] at q
              rw [zup_ne (j := 7) (Or.inr (by omega)), y6, y7, iv_s, iv_s, Int32.add_zero]
              refine ⟨fun z => ?_, fun z => ?_⟩ <;> rw [z] at q <;> exact q
            refine ⟨true, C6, M5, ?_, fun z => absurd z (by decide), fun _ => ⟨pr6.2.2.1, pr6.2.2.2, y17, p5, e5, k4, ?_, ?_, by omega, by omega, ?_⟩, fun d Q q => rC5 d Q (q_isSign ((h4.c (o := 110) (i := i) (x := iv k4) (by omega))) (c := 59) (x := 159) (by unfold isSg; simp only [true_or, or_true]) (by decide) ⟨fun _ => w5 (d + 24) _ (hc6 d Q q), fun z => absurd c59 (of_decide_eq_false z)⟩), fun d Q q => rM5 d Q (vX9_need ⟨fun _ => w6 (d + 30) _ q, fun z => absurd (by rw [zup_oth (by omega)]; exact c59) z⟩)⟩
            · rw [hC6]
              exact (f4'.trans (FrL.ofn o5 o6).x).trans ((FrX.c (by omega)).trans (FrX.c (by omega)))
            · rw [hC6]
              exact (h5.c (by omega)).c (by omega)
            · rw [hC6]
              exact lk5.keep (by rw [zup_ne (Or.inr (by omega)), zup_ne (Or.inr (by omega))]) (by rw [zup_oth (by omega), zup_oth (by omega)]) rfl rfl
            · refine ⟨by rw [hC6, zup_ne (Or.inr (by omega)), zup_same], zup_same, by omega, ⟨th', ?_, by rw [hC6, zup_same], ?_⟩, fun j hj => ?_⟩
              · rw [ht']
                split <;> omega
              · rw [zup_oth (by omega)]
                constructor
                · intro hth j hj
                  rw [ht'] at hth
                  by_cases ej : j = i
                  · rw [ej, a3]
                    refine c.resolve_right fun z => ?_
                    rw [hl2, z] at hth
                    simp at hth
                  · have := old5 j 3 (by omega) (by omega)
                    rw [this]
                    exact nt3.mp (by omega) j (by omega)
                · intro hall
                  have h20 := hall i (by omega)
                  rw [a3] at h20
                  rw [ht', hl2, h20]
                  have : th = 0 := nt3.mpr fun j hj => by
                    rw [← old5 j 3 hj (by omega)]
                    exact hall j (by omega)
                  rw [this]
                  rfl
              · by_cases ej : j = i
                · rw [ej]
                  have q20 : FrL C2 M2 C2 M2 := FrL.rfl
                  have t2 : Ty 20 (zup M5 0 17 (iv (i + 1 : Nat))) k k2 [false] := by
                    have a := (ty2.mono (show 20 ≤ 50 by omega)).pre (Pre.trans (Nat.le_refl _) (Pre.c (C := C2) (o := 109) (i := i) (x := iv k2) (by omega)) (Pre.m5 (i := 4 * i + 1) (x := iv k2)))
                    have a := a.pre v2
                    refine (a.pre (C' := C5) (M' := zup M5 0 17 (iv (i + 1 : Nat))) (C := C4) ?_)
                    have pp := ((Pre.trans (Nat.le_refl _) (Pre.c (C := C4) (M := M4) (k := k2) (o := 110) (i := i) (x := iv k4) (by omega)) (Pre.m5 (i := 4 * i + 2) (x := iv k4))).trans (Nat.le_refl _) (Pre.ofn o5 o6))
                    exact ⟨pp.1, fun j a => by rw [zup_oth (by omega)]; exact pp.2.1 j a, pp.2.2⟩
                  have t4 : k2 < k4 → Ty 20 (zup M5 0 17 (iv (i + 1 : Nat))) k2 k4 [true] := fun x => by
                    refine ((ty4 x).pre (C' := C5) (M' := zup M5 0 17 (iv (i + 1 : Nat))) (C := C4) ?_)
                    have pp := ((Pre.trans (Nat.le_refl _) (Pre.c (C := C4) (M := M4) (k := k4) (o := 110) (i := i) (x := iv k4) (by omega)) (Pre.m5 (i := 4 * i + 2) (x := iv k4))).trans (Nat.le_refl _) (Pre.ofn o5 o6))
                    exact ⟨pp.1, fun j a => by rw [zup_oth (by omega)]; exact pp.2.1 j a, pp.2.2⟩
                  refine ⟨k, k2, k4, ?_, ?_, ?_, ty2.lt, kk4, Nat.le_refl _, ?_, t2, t4, ?_, ?_, ?_, ?_⟩
                  · rw [zup_oth (by omega), row5, upd_ne (by omega), upd_ne (by omega), upd_at]
                  · rw [zup_oth (by omega), row5, upd_ne (by omega), upd_at]
                  · rw [zup_oth (by omega), row5, upd_at]
                  · rw [zup_oth (by omega), a3]; exact c
                  · rw [zup_oth (by omega), a3, c6o 107 (by omega), row7, upd_at]; exact hs0
                  · rw [c6o 108 (by omega), row8, upd_at]
                  · rw [c6o 109 (by omega), row9, upd_at]
                  · rw [c6o 110 (by omega), row10, upd_at]
                · refine (nj j (by omega)).keep (by omega) pr6 (fun x hx => by rw [zup_oth (by omega)]; exact old5 j x (by omega) hx) fun o a b => ?_
                  rw [c6o o (by omega)]
                  obtain rfl | rfl | rfl | rfl : o = 107 ∨ o = 108 ∨ o = 109 ∨ o = 110 := by omega
                  · rw [row7, upd_ne (by omega)]
                  · rw [row8, upd_ne (by omega)]
                  · rw [row9, upd_ne (by omega)]
                  · rw [row10, upd_ne (by omega)]
          · exact ⟨false, _, _, f4'.trans FrL.off.x, fun _ => Flt.ofe h4', fun z => absurd z (by decide), fun d Q q => rC5 d Q (q_isSign ((h4.c (o := 110) (i := i) (x := iv k4) (by omega))) (c := 59) (x := 159) (by unfold isSg; simp only [true_or, or_true]) (by decide) ⟨fun z => absurd (of_decide_eq_true z) c59, fun _ => c7_fail q⟩), fun d Q q => rM5 d Q (vX9_need ⟨fun z => absurd (by rw [zup_oth (by omega)] at z; exact z) c59, fun _ => c9_bad q⟩)⟩
  · refine ⟨false, FC C 1, FM M 1, FrL.off.x, fun _ => Flt.ofe h, fun z => absurd z (by decide), fun d Q q => vX1_parseLine (q_isWord h (d := d + 21) (k := 21) (x := 21) (by decide) rfl ⟨fun z => absurd (Or.inr (of_decide_eq_true z)) c, fun _ => q_isWord h (d := d + 21) (k := 20) (x := 20) (by decide) rfl ⟨fun z => absurd (Or.inl (of_decide_eq_true z)) c, fun _ => c7_fail q⟩⟩), fun d Q q => vX9_aLine ⟨fun z => absurd (Or.inl z) c, fun _ => ⟨fun z => absurd (Or.inr z) c, fun _ => c9_bad q⟩⟩⟩
end LI
