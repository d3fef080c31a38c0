/-! THE TEXT OF A LAW, both sides, and what every text has -/
theorem rc_rng {x s v : Int32} (h : RCode x s v) : 0 ≤ s.toInt ∧ s.toInt ≤ 32 ∧ (s.toInt ≤ 6 ∨ 23 ≤ s.toInt) ∧ (s.toInt = 26 → 1 ≤ v.toInt) := by
  obtain ⟨h0, h⟩ := h
  rcases h with ⟨a, -⟩ | ⟨a, b, -⟩ | ⟨a, -⟩ | ⟨a, -, -, b⟩ | ⟨a, -⟩ | ⟨a, -⟩ | ⟨a, -⟩ | ⟨a, -⟩ | ⟨a, -⟩ | ⟨a, -⟩ | ⟨a, -⟩ | ⟨a, -⟩
  · rw [a]; exact ⟨by decide, by decide, by decide, fun z => absurd z (by decide)⟩
  · omega
  · rw [a]; exact ⟨by decide, by decide, by decide, fun z => absurd z (by decide)⟩
  · rw [a]; exact ⟨by decide, by decide, by decide, fun _ => b⟩
  all_goals
    rw [a]
    exact ⟨by decide, by decide, by decide, fun z => absurd z (by decide)⟩
/-- a text that was read, or was none: what the rest of the state needs -/
theorem RR.textR {C M C' M' : zM} (h : RR C M) (hC : ∀ o, 26 ≤ o → o ≤ 97 → C' o = C o) (hc0 : C' 0 2 = C 0 2) (hM : M' 2 = M 2) (h05 : M' 0 5 = M 0 5) (hw : Rnow C' (M' 1)) (hp : Rpast C' (M' 0 4) (M' 3) (M' 1)) (hl : C' 98 1 = 0) (h23 : M' 0 23 = 0) (h6 : C' 98 6 = M' 0 30) (h7 : C' 98 7 = M' 0 32) : RR C' M' := by
  obtain ⟨h1, h2, h3, h4⟩ := h
  unfold RR
  rw [hM, h05]
  refine ⟨hw, h2.keep hc0 fun o a b => hC o (by omega) (by omega), hp, ?_⟩
  rw [h23]
  refine ⟨hl, ⟨by decide, by decide⟩, fun i hi => ?_, h6, h7⟩
  have z0 : (0 : Int32).toInt = 0 := rfl
  omega
theorem RR.textF {C M C' M' : zM} (h : RR C M) (hC : ∀ o, o ≤ 97 → C' o = C o) (hM : ∀ o, o = 1 ∨ o = 2 ∨ o = 3 → M' o = M o) (h04 : M' 0 4 = M 0 4) (h05 : M' 0 5 = M 0 5) (hl : C' 98 1 = 0) (h23 : M' 0 23 = 0) (h6 : C' 98 6 = M' 0 30) (h7 : C' 98 7 = M' 0 32) : RR C' M' := by
  refine h.textR (fun o _ b => hC o b) (by rw [hC 0 (by omega)]) (hM 2 (by omega)) h05 ?_ ?_ hl h23 h6 h7
  · rw [hM 1 (by omega)]
    exact h.1.keep fun o a b _ => hC o (by omega)
  · rw [hM 1 (by omega), hM 3 (by omega), h04]
    exact h.2.2.1.keep (by rw [hC 0 (by omega)]) fun o a b => hC o b
section TB
variable {g g' : zG} {C M : zM}
/-- both begin -/
theorem s_begin {k : Nat} (h : RR C M) (hk : k < 4) : ∃ (n p e : Nat) (C' M' : zM), TK (M 12) n k p e C' M' ∧ (∀ o, o ≠ 98 → C' o = C o) ∧ C' 98 6 = 0 ∧ C' 98 7 = -1 ∧ (∀ o, o ≠ 0 → M' o = M o) ∧ (∀ s, s < 16 → M' 0 s = M 0 s) ∧ M' 0 30 = 0 ∧ M' 0 32 = -1 ∧
    (∀ (d : Nat) (Q : zM → Prop), Q C' → zCv shC g (d + 2) mX5_begin [.ref 98] C Q) ∧ ∀ (d : Nat) (Q : zM → Prop), Q M' → zCv shM g' (d + 7) mX9_next0 [.ref 0] (zup (zup (zup (zup (zup M 0 30 0) 0 32 (-1)) 0 28 0) 0 24 0) 0 16 (iv k)) Q := by
  obtain ⟨-, -, -, t1, t2, t3, t4, t5⟩ := h
  unfold rng at t2 t3
  obtain ⟨n, hn⟩ : ∃ n : Nat, n = (M 0 23).toInt.toNat := ⟨_, rfl⟩
  have e23 : M 0 23 = iv n := by
    rw [eqI, iv_toInt (by omega) (by omega)]
    omega
  have sc : SCn (M 12) n k 0 (zup (zup (zup C 98 6 0) 98 7 (-1)) 98 3 0) (zup (zup (zup (zup (zup M 0 30 0) 0 32 (-1)) 0 28 0) 0 24 0) 0 16 (iv k)) := by
    refine ⟨?_, ?_, by omega, fun i hi => ?_, ?_, fun i hi => (t3 i (by omega)).2, zup_same, hk, zup_same, ?_, by omega⟩
    · rw [zup_ne (Or.inr (by omega)), zup_ne (Or.inr (by omega)), zup_ne (Or.inr (by omega)), t1, e23]
    · rw [zup_ne (Or.inr (by omega)), zup_ne (Or.inr (by omega)), zup_ne (Or.inr (by omega)), zup_ne (Or.inr (by omega)), zup_ne (Or.inr (by omega)), e23]
    · rw [zup_oth (by omega), zup_oth (by omega), zup_oth (by omega)]
      exact (t3 i (by omega)).1
    · rw [zup_oth (by omega), zup_oth (by omega), zup_oth (by omega), zup_oth (by omega), zup_oth (by omega)]
    · rw [zup_ne (Or.inr (by omega)), zup_same]
      rfl
  obtain ⟨p, e, C', M', a, -, o1, o2, w1, w2⟩ := s_next (g := g) (g' := g') sc
  refine ⟨n, p, e, C', M', a, fun o ho => ?_, ?_, ?_, fun o ho => ?_, fun s hs => ?_, ?_, ?_, fun d Q q => vX5_begin (w1 d Q q), fun d Q q => w2 d Q q⟩
  · rw [o1.1 o ho, zup_oth ho, zup_oth ho, zup_oth ho]
  · rw [o1.2 6 (by omega), zup_ne (Or.inr (by omega)), zup_ne (Or.inr (by omega)), zup_same]
  · rw [o1.2 7 (by omega), zup_ne (Or.inr (by omega)), zup_same]
  · rw [o2.1 o ho, zup_oth ho, zup_oth ho, zup_oth ho, zup_oth ho, zup_oth ho]
  · rw [o2.2 s (by omega), zup_ne (Or.inr (by omega)), zup_ne (Or.inr (by omega)), zup_ne (Or.inr (by omega)), zup_ne (Or.inr (by omega)), zup_ne (Or.inr (by omega))]
  · rw [o2.2 30 (by omega), zup_ne (Or.inr (by omega)), zup_ne (Or.inr (by omega)), zup_ne (Or.inr (by omega)), zup_ne (Or.inr (by omega)), zup_same]
  · rw [o2.2 32 (by omega), zup_ne (Or.inr (by omega)), zup_ne (Or.inr (by omega)), zup_ne (Or.inr (by omega)), zup_same]
end TB
/-- the row under a new law keeps its ranges -/
theorem IS.lawN {w v : Nat → Int32} (hI : IS w) (h : ∀ j, j < 156 ∨ (157 ≤ j ∧ j < 1316) → v j = w j) (hL : LawOK v) : IS v := by
  obtain ⟨⟨a1, a2, a3, a4⟩, b2, b3, b4, b5, b7, b8, c0, c1, c2, c3, c4, c5, -⟩ := hI
  have r : ∀ {j : Nat} {x y : Int}, (j < 156 ∨ (157 ≤ j ∧ j < 1316)) → rng (w j) x y → rng (v j) x y := fun hj q => by rw [h _ hj]; exact q
  refine ⟨⟨by rw [h 150 (by omega)]; exact a1, by rw [h 150 (by omega)]; exact a2, by rw [h 151 (by omega)]; exact a3, by rw [h 151 (by omega)]; exact a4⟩, r (by omega) b2, r (by omega) b3, r (by omega) b4, r (by omega) b5, r (by omega) b7, r (by omega) b8, fun i hi => r (by omega) (c0 i hi), fun i hi => r (by omega) (c1 i hi), fun i hi => r (by omega) (c2 i hi), fun i hi hq => r (by omega) (c3 i hi (by rw [h (166 + i / 60) (by omega)] at hq; exact hq)), fun i hi => r (by omega) (c4 i hi), fun i hi hq => ?_, hL⟩
  rw [h 158 (by omega)] at hq
  rw [h 150 (by omega), h 151 (by omega), h 157 (by omega), h (546 + 2 * i) (by omega), h (547 + 2 * i) (by omega)]
  exact c5 i hi hq
