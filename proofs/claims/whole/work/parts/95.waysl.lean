/-! ALL LINES OF WAYS, both sides -/
section WZ
variable {g g' : zG} {t : Nat → Int32} {n : Nat}
theorem s_waysL {l2 : Int32} : ∀ (N p e j : Nat) (S : Nat → Bool) (C M : zM), n - p < N → TK t n 0 p e C M → rng (M 1 154) 0 6 → M 1 154 = l2 → WY S C M → j ≤ p → ∃ (b : Bool) (C' M' : zM), FrX C M C' M' ∧ (b = false → Flt C' M') ∧ (b = true → C' 98 6 = C 98 6 ∧ C' 98 7 = C 98 7 ∧ ∃ S' : Nat → Bool, WY S' C' M') ∧ (∀ (d : Nat) (Q : Bool → zM → Prop), Q b C' → zW shC g (d + 8) mX6_parse (zz Q) 6 [(0, .ref 100), (1, .ref 98), (2, .int l2), (3, .int (iv j))] [] C) ∧ ∀ (d : Nat) (Q : Bool → zM → Prop), Q b M' → zW shM g' (d + 11) mX9_readsWays (zz Q) 40 [(0, .ref 0), (1, .int 1)] [] M := by
  intro N
  induction N with
  | zero => intro p e j S C M hN; omega
  | succ N ih =>
    intro p e j S C M hN h hr hl2 hn hj
    have hl := h.len
    by_cases c : M 0 25 = 0
    · refine ⟨true, C, M, FrX.rfl, fun z => absurd z (by decide), fun _ => ⟨rfl, rfl, S, hn⟩, fun d Q q => vX6_parse_6 ⟨fun _ => q, fun _ => q_isEnd h ⟨fun _ => q, fun z => absurd c (of_decide_eq_false z)⟩⟩, fun d Q q => vX9_readsWays_40 ⟨fun z => absurd z (by decide), fun _ => ⟨fun _ => ⟨true, rfl, q⟩, fun z => absurd c z⟩⟩⟩
    · have hlt := h.lt c
      obtain ⟨b, C1, M1, q1, q2, q3, q5, q6⟩ := s_way (g := g) (g' := g') h hr hn
      rw [hl2] at q5
      have rC : ∀ (d : Nat) (Q : Bool → zM → Prop), (b = true → zW shC g (d + 8) mX6_parse (zz Q) 6 [(0, .ref 100), (1, .ref 98), (2, .int l2), (3, .int (iv (j + 1 : Nat)))] [] C1) → (b = false → Q false C1) → zW shC g (d + 8) mX6_parse (zz Q) 6 [(0, .ref 100), (1, .ref 98), (2, .int l2), (3, .int (iv j))] [] C := fun d Q x y => by
        refine vX6_parse_6 ⟨fun z => absurd z (i400 (by omega)), fun _ => q_isEnd h ⟨fun z => absurd (of_decide_eq_true z) c, fun _ => q5 d _ ⟨fun z => ?_, y⟩⟩⟩
        rw [iv_s]
        exact x z
      have rM : ∀ (d : Nat) (Q : Bool → zM → Prop), zW shM g' (d + 11) mX9_readsWays (zz Q) 40 [(0, .ref 0), (1, .int (zbI b))] [] M1 → zW shM g' (d + 11) mX9_readsWays (zz Q) 40 [(0, .ref 0), (1, .int 1)] [] M := fun d Q x =>
        vX9_readsWays_40 ⟨fun z => absurd z (by decide), fun _ => ⟨fun z => absurd z c, fun _ => q6 d _ x⟩⟩
      cases b with
      | false => exact ⟨false, C1, M1, q1, fun _ => q2 rfl, fun z => absurd z (by decide), fun d Q q => rC d Q (fun z => absurd z (by decide)) fun _ => q, fun d Q q => rM d Q (vX9_readsWays_40 ⟨fun _ => ⟨false, rfl, q⟩, fun z => absurd rfl z⟩)⟩
      | true =>
        obtain ⟨a6, a7, ⟨p1, e1, h1, pp1⟩, S1, n1⟩ := q3 rfl
        have em : M1 1 = M 1 := q1.2.2.1 1 (by omega) (by omega)
        obtain ⟨b, C2, M2, j1, j2, j3, j5, j6⟩ := ih p1 e1 (j + 1) S1 C1 M1 (by omega) h1 (by rw [em]; exact hr) (by rw [em]; exact hl2) n1 (by omega)
        refine ⟨b, C2, M2, q1.trans j1, j2, fun hb => ?_, fun d Q q => rC d Q (fun _ => j5 d Q q) fun z => absurd z (by decide), fun d Q q => rM d Q (j6 d Q q)⟩
        obtain ⟨x6, x7, x⟩ := j3 hb
        exact ⟨x6.trans a6, x7.trans a7, x⟩
/-- text of no kind: nothing is read -/
theorem s_textN {C M : zM} {k : Int32} (h : RR C M) (hk : isInB k 0 3 = false) : ∃ (C' M' : zM), RR C' M' ∧ (∀ (d : Nat) (Q : Int32 → zM → Prop), Q (-1) C' → zCi shC g (d + 3) mX8_text [.ref 0, .int k] C Q) ∧ ∀ (d : Nat) (Q : Int32 → zM → Prop), Q (-1) M' → zCi shM g' (d + 1) mX9_text [.ref 0, .int k] M Q := by
  obtain ⟨n, p, e, C1, M1, tk, a1, a2, a3, a4, a5, a6, a7, a8, a9⟩ := s_begin (g := g) (g' := g') (k := 1) h (by omega)
  have kn : ∀ x : Int32, 0 ≤ x.toInt → x.toInt ≤ 3 → ¬ k = x := fun x y z w => by
    simp only [isInB, decide_eq_true_eq, decide_eq_false_iff_not] at hk
    refine hk ?_
    rw [w]
    exact ⟨y, z⟩
  refine ⟨zup C1 98 1 0, zup (zup (zup M 0 30 0) 0 32 (-1)) 0 23 0, h.textF (fun o ho => by rw [zup_oth (by omega)]; exact a1 o (by omega)) (fun o ho => by rw [zup_oth (by omega), zup_oth (by omega), zup_oth (by omega)]) ?_ ?_ zup_same zup_same ?_ ?_, fun d Q q => vX8_text (a8 d _ ⟨fun _ => vX8_text_42 ⟨fun _ => vX8_text_89 ⟨fun _ => vX8_text_136 ⟨fun _ => q, fun z => absurd z (kn 3 (by decide) (by decide))⟩, fun z => absurd z (kn 2 (by decide) (by decide))⟩, fun z => absurd z (kn 1 (by decide) (by decide))⟩, fun z => absurd z (kn 0 (by decide) (by decide))⟩), fun d Q q => vX9_text (c9_isIn ?_)⟩
  · rw [zup_ne (Or.inr (by omega)), zup_ne (Or.inr (by omega)), zup_ne (Or.inr (by omega))]
  · rw [zup_ne (Or.inr (by omega)), zup_ne (Or.inr (by omega)), zup_ne (Or.inr (by omega))]
  · rw [zup_ne (Or.inr (by omega)), zup_ne (Or.inr (by omega)), zup_ne (Or.inr (by omega)), zup_same]
    exact a2
  · rw [zup_ne (Or.inr (by omega)), zup_ne (Or.inr (by omega)), zup_same]
    exact a3
  · rw [hk]
    exact ⟨fun z => absurd z (by decide), fun _ => q⟩
end WZ
