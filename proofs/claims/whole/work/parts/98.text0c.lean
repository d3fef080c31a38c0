/-! text(0), both sides: the last step -/
section Z0
variable {g g' : zG} {C M : zM}
theorem s_text0 (h : RR C M) : ∃ (x : Int32) (C' M' : zM), RR C' M' ∧ (∀ (d : Nat) (Q : Int32 → zM → Prop), Q x C' → zCi shC g (d + 10) mX8_text [.ref 0, .int 0] C Q) ∧ ∀ (d : Nat) (Q : Int32 → zM → Prop), Q x M' → zCi shM g' (d + 12) mX9_text [.ref 0, .int 0] M Q := by
  obtain ⟨n, p, e, C1, M1, tk, a1, a2, a3, a4, a5, a6, a7, a8, a9⟩ := s_begin (g := g) (g' := g') (k := 0) h (by omega)
  obtain ⟨D, hD⟩ : ∃ D : zM, D = zup (zfill (zfill (zfill C1 102 6 0) 103 6 0) 104 6 0) 100 4 0 := ⟨_, rfl⟩
  have dO : ∀ o, ¬ (100 ≤ o ∧ o ≤ 104) → D o = C1 o := fun o ho => by
    rw [hD]
    funext j
    unfold zup zfill
    have e0 : o ≠ 100 := by omega
    have e1 : o ≠ 102 := by omega
    have e2 : o ≠ 103 := by omega
    have e3 : o ≠ 104 := by omega
    simp [e0, e1, e2, e3]
  have dA : ∀ s, s < 6 → D 102 s = 0 ∧ D 103 s = 0 ∧ D 104 s = 0 := fun s hs => by
    rw [hD]
    unfold zup zfill
    simp [hs]
  have dB : D 100 4 = 0 := by rw [hD, zup_same]
  obtain ⟨fm1, fm2⟩ := frM_at (M := zup (zup M1 0 19 0) 0 20 0) 6
  obtain ⟨E, hE⟩ : ∃ E : zM, E = frM (zup (zup M1 0 19 0) 0 20 0) 6 := ⟨_, rfl⟩
  rw [← hE] at fm1 fm2
  have e0 : ∀ j, j ≠ 19 → j ≠ 20 → E 0 j = M1 0 j := fun j x y => by rw [fm1 0 (by omega) (by omega), zup_ne (Or.inr y), zup_ne (Or.inr x)]
  have eo : ∀ o, o ≠ 0 → o ≠ 8 → o ≠ 9 → E o = M1 o := fun o x y z => by rw [fm1 o y z, zup_oth x, zup_oth x]
  have em : E 1 = M 1 := (eo 1 (by omega) (by omega) (by omega)).trans (a4 1 (by omega))
  have wy : WY (fun _ => false) D E := by
    refine ⟨fun s hs => (dA s hs).2.2, ?_, dB, ?_, fun s hs z => absurd z Bool.false_ne_true, fun s hs _ => fm2 s hs, fun s hs => ?_⟩
    · rw [fm1 0 (by omega) (by omega), zup_same]
      rfl
    · rw [fm1 0 (by omega) (by omega), zup_ne (Or.inr (by omega)), zup_same]
      rfl
    · rw [(fm2 s hs).2]
      exact ⟨0, 0, 1, (fm2 s hs).1, (dA s hs).1, by omega, (dA s hs).2.1, by omega, rfl, by omega, rfl, fun i hi => by omega⟩
  have tkE : TK (M 12) n 0 p e D E := tk.keep (dO 98 (by omega)) (dO 99 (by omega)) (eo 12 (by omega) (by omega) (by omega)) (e0 16 (by omega) (by omega)) fun s x y => e0 s (by omega) (by omega)
  have c14 : C1 1 4 = M 1 154 := by rw [a1 1 (by omega)]; exact h.rs.2.2.2.2.1
  obtain ⟨b, C2, M2, f0, q2, q3, q5, q6⟩ := s_waysL (g := g) (g' := g') (l2 := M 1 154) (n + 1) p e 0 (fun _ => false) D E (by omega) tkE (by rw [em]; exact h.is.2.2.2.1) (by rw [em]) wy (by omega)
  have fD : FrX C1 M1 D E := ⟨fun o x y => dO o (by omega), by rw [dO 98 (by omega)], fun o x y => eo o x (by omega) (by omega), fun s hs => e0 s (by omega) (by omega)⟩
  obtain ⟨f1, f2, f3, f4⟩ := fD.trans f0
  have rC : ∀ (d : Nat) (Q : Int32 → zM → Prop), (b = false → Q (-1) (zup C2 98 1 0)) → (b = true → Q (wayF C2 10 4) (zup (wayF C2) 98 1 0)) → zCi shC g (d + 10) mX8_text [.ref 0, .int 0] C Q := fun d Q x y =>
    vX8_text (a8 (d + 7) _ ⟨fun z => absurd rfl z, fun _ => by
      rw [c14]
      refine vX6_parse (vX6_clear_b (c_fill (n := 6) rfl (by decide) (c_fill (n := 6) rfl (by decide) (c_fill (n := 6) rfl (by decide) ?_))))
      rw [← hD]
      refine q5 (d + 1) _ ?_
      exact ⟨fun z => vX8_text_42 ⟨fun _ => vX8_text_89 ⟨fun _ => vX8_text_136 ⟨fun _ => x z, fun z => absurd z (by decide)⟩, fun z => absurd z (by decide)⟩, fun z => absurd z (by decide)⟩, fun z => vX8_takeWays (vX6_copy_a (vX7_beginWays (c_fill (n := 6) rfl (by decide) (c_fill (n := 6) rfl (by decide) (vX8_forgetPast (y z))))))⟩⟩)
  have rM : ∀ (d : Nat) (Q : Int32 → zM → Prop), (b = false → Q (-1) (zup (zup (zup M2 0 23 0) 0 30 ((zup M2 0 23 0) 0 28)) 0 32 ((zup (zup M2 0 23 0) 0 30 ((zup M2 0 23 0) 0 28)) 0 29))) → (b = true → zCi shM g' (d + 11) mX9_putsWays [.ref 0] (zup M2 0 23 0) (fun x1 M1 => Q x1 M1)) → zCi shM g' (d + 12) mX9_text [.ref 0, .int 0] M Q := fun d Q x y =>
    vX9_text (c9_isIn ⟨fun _ => a9 (d + 4) _ ⟨fun z => absurd rfl z, fun _ => vX9_readsWays (c9_frM (M := zup (zup M1 0 19 0) 0 20 0) (by
      rw [← hE]
      exact q6 d _ (vX9_text_84 ⟨x, fun z => ⟨fun z2 => absurd rfl z2, fun _ => y z⟩⟩)) 6 0 (by omega))⟩, fun z => absurd z (by decide)⟩)
  have m : ∀ o, o = 1 ∨ o = 2 ∨ o = 3 → M2 o = M o := fun o ho => (f3 o (by omega) (by omega)).trans (a4 o (by omega))
  have cc : ∀ o, o ≤ 97 → C2 o = C o := fun o ho => (f1 o (by omega) (by omega)).trans (a1 o (by omega))
  cases b with
  | false =>
    have hf := q2 rfl
    refine ⟨-1, _, _, ?_, fun d Q q => rC d Q (fun _ => q) fun z => absurd z (by decide), fun d Q q => rM d Q (fun _ => q) fun z => absurd z (by decide)⟩
    refine h.textF (fun o ho => by rw [zup_oth (by omega)]; exact cc o ho) (fun o ho => by rw [zup_oth (by omega), zup_oth (by omega), zup_oth (by omega)]; exact m o ho) ?_ ?_ zup_same ?_ ?_ ?_
    · rw [zup_ne (Or.inr (by omega)), zup_ne (Or.inr (by omega)), zup_ne (Or.inr (by omega)), f4 4 (by omega), a5 4 (by omega)]
    · rw [zup_ne (Or.inr (by omega)), zup_ne (Or.inr (by omega)), zup_ne (Or.inr (by omega)), f4 5 (by omega), a5 5 (by omega)]
    · rw [zup_ne (Or.inr (by omega)), zup_ne (Or.inr (by omega)), zup_same]
    · rw [zup_ne (Or.inr (by omega)), zup_ne (j := 30) (Or.inr (by omega)), zup_same, zup_ne (Or.inr (by omega))]
      exact hf.1
    · rw [zup_ne (Or.inr (by omega)), zup_same, zup_ne (Or.inr (by omega)), zup_ne (Or.inr (by omega))]
      exact hf.2
  | true =>
    obtain ⟨x6, x7, S, hS⟩ := q3 rfl
    rw [dO 98 (by omega)] at x6 x7
    obtain ⟨g1, g2, g3, g4, g5, g6⟩ := wayF_at (C := C2)
    have hS' : WY S C2 (zup M2 0 23 0) := by
      obtain ⟨s1, s2, s3, s4, s5, s6, s7⟩ := hS
      refine ⟨s1, by rw [zup_ne (Or.inr (by omega))]; exact s2, s3, by rw [zup_ne (Or.inr (by omega))]; exact s4, by rw [zup_oth (by omega)]; exact s5, fun s hs z => by rw [zup_oth (by omega), zup_oth (by omega)]; exact s6 s hs z, fun s hs => ?_⟩
      rw [zup_oth (by omega)]
      exact (s7 s hs).keep (fun _ _ => rfl) rfl rfl (fun _ _ => by rw [zup_oth (by omega)]) (by rw [zup_oth (by omega)])
    have ex : wayF C2 10 4 = zup M2 0 23 0 0 19 := g4.trans (hS.2.2.1.trans hS'.2.2.2.1.symm)
    have hF : WCl C2 (zup (wayF C2) 98 1 0) → True := fun _ => trivial
    have rwo : RWo (wayF C2) 1 (wayR (zup M2 0 23 0)) := wy_rwo h.1.1 hS' (by rw [zup_oth (by omega)]; exact m 1 (by omega)) wayF_at cc
    refine ⟨wayF C2 10 4, zup (wayF C2) 98 1 0, zup (pwN (pwM (zup M2 0 23 0) 6) (zup M2 0 23 0) 360) 0 4 0, ?_, fun d Q q => rC d Q (fun z => absurd z (by decide)) fun _ => q, fun d Q q => rM d Q (fun z => absurd z (by decide)) fun _ => c9_putsWays (by rw [← ex]; exact q)⟩
    have ro : ∀ o, o ≠ 0 → o ≠ 1 → zup (pwN (pwM (zup M2 0 23 0) 6) (zup M2 0 23 0) 360) 0 4 0 o = M2 o := fun o x y => by rw [zup_oth x, pwN_o 360 o y, pwM_o 6 o y, zup_oth x]
    have r0 : ∀ j, j ≠ 4 → zup (pwN (pwM (zup M2 0 23 0) 6) (zup M2 0 23 0) 360) 0 4 0 0 j = zup M2 0 23 0 0 j := fun j x => by rw [zup_ne (Or.inr x), pwN_o 360 0 (by omega), pwM_o 6 0 (by omega)]
    have r1 : zup (pwN (pwM (zup M2 0 23 0) 6) (zup M2 0 23 0) 360) 0 4 0 1 = wayR (zup M2 0 23 0) := funext fun x => pw_row
    have cl : ∀ o, 26 ≤ o → o ≤ 97 → zup (wayF C2) 98 1 0 o = C o := fun o a b => by
      rw [zup_oth (by omega), g1 o (by omega) (by omega) (by omega)]
      exact cc o b
    refine h.textR cl ?_ ?_ ?_ ?_ ?_ zup_same ?_ ?_ ?_
    · rw [zup_oth (by omega), g2 2 (by omega), cc 0 (by omega)]
    · rw [ro 2 (by omega) (by omega)]
      exact m 2 (by omega)
    · rw [r0 5 (by omega), zup_ne (Or.inr (by omega)), f4 5 (by omega), a5 5 (by omega)]
    · rw [r1]
      refine ⟨rwo.keep fun o a b _ => zup_oth (by omega), fun j hj => ?_⟩
      rw [wayR_at.2.2.2 j (by omega), zup_oth (by omega), m 1 (by omega)]
      exact h.1.2 j hj
    · rw [zup_same]
      exact h.2.2.1.none (by rw [zup_oth (by omega)]; exact g3) (cl 61 (by omega) (by omega))
    · rw [r0 23 (by omega), zup_same]
    · rw [r0 30 (by omega), zup_ne (Or.inr (by omega)), zup_ne (Or.inr (by omega)), f4 30 (by omega), a6, g1 98 (by omega) (by omega) (by omega)]
      exact x6.trans a2
    · rw [r0 32 (by omega), zup_ne (Or.inr (by omega)), zup_ne (Or.inr (by omega)), f4 32 (by omega), a7, g1 98 (by omega) (by omega) (by omega)]
      exact x7.trans a3
end Z0
