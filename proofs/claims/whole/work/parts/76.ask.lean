/-! WHAT A PARSER ASKS of a token, both sides; faults -/
theorem wlst_ok : ∀ rd, rd < 4 → ∀ a ∈ wlst rd, a.1 < 23 ∧ 3 ≤ a.2 ∧ a.2 ≤ 46 := by decide +kernel
theorem wlst_inj : ∀ rd, rd < 4 → ∀ a ∈ wlst rd, ∀ b ∈ wlst rd, (a.1 = b.1 → a.2 = b.2) ∧ (a.2 = b.2 → a.1 = b.1) := by decide +kernel
theorem wrd_dif : ∀ q, q < 23 → ∀ r, r < 23 → q ≠ r → ¬ (zLen.getD q 0 = zLen.getD r 0 ∧ ∀ k, k < zLen.getD q 0 → zChr q k = zChr r k) := by decide +kernel
theorem wrd_one {t : Nat → Int32} {p e q r : Nat} (hq : q < 23) (hr : r < 23) (h : wrd t p e q = true) (h2 : wrd t p e r = true) : q = r := by
  obtain ⟨a1, a2⟩ := wrd_iff.mp h
  obtain ⟨b1, b2⟩ := wrd_iff.mp h2
  by_cases c : q = r
  · exact c
  · refine absurd ⟨by omega, fun k hk => ?_⟩ (wrd_dif q hq r hr c)
    rw [← a2 k hk, ← b2 k (by omega)]
theorem wdV_val {t : Nat → Int32} {p e : Nat} : ∀ l : List (Nat × Nat), (wdV t p e l = 1 ∧ ∀ a ∈ l, ¬ wrd t p e a.1 = true) ∨ ∃ a ∈ l, wrd t p e a.1 = true ∧ wdV t p e l = iv (a.2 : Nat) := by
  intro l
  induction l with
  | nil => exact Or.inl ⟨by rw [wdV], fun a ha => absurd ha (List.not_mem_nil)⟩
  | cons b l ih =>
    rw [wdV]
    by_cases c : wrd t p e b.1 = true
    · rw [if_pos c]
      exact Or.inr ⟨b, List.mem_cons_self, c, rfl⟩
    · rw [if_neg c]
      rcases ih with ⟨h1, h2⟩ | ⟨a, h1, h2, h3⟩
      · refine Or.inl ⟨h1, fun a ha => ?_⟩
        rcases List.mem_cons.mp ha with rfl | ha
        · exact c
        · exact h2 a ha
      · exact Or.inr ⟨a, List.mem_cons_of_mem _ h1, h2, h3⟩
theorem wdV_rng {t : Nat → Int32} {p e rd : Nat} (hr : rd < 4) : wdV t p e (wlst rd) = 1 ∨ (3 ≤ (wdV t p e (wlst rd)).toInt ∧ (wdV t p e (wlst rd)).toInt ≤ 46) := by
  rcases wdV_val (t := t) (p := p) (e := e) (wlst rd) with ⟨h, -⟩ | ⟨a, h1, -, h3⟩
  · exact Or.inl h
  · have hb := wlst_ok rd hr a h1
    rw [h3, iv_toInt (by omega) (by omega)]
    omega
def isSg (c : Int32) : Prop := c = 59 ∨ c = 43 ∨ c = 45 ∨ c = 42 ∨ c = 47 ∨ c = 40 ∨ c = 41 ∨ c = 60 ∨ c = 61 ∨ c = 62
theorem isSg.rng {c : Int32} (h : isSg c) : 40 ≤ c.toInt ∧ c.toInt ≤ 62 := by
  rcases h with h | h | h | h | h | h | h | h | h | h <;> rw [h] <;> exact ⟨by decide, by decide⟩
theorem sgV_rng {c : Int32} : sgV c = 1 ∨ (140 ≤ (sgV c).toInt ∧ (sgV c).toInt ≤ 162) := by
  by_cases h : isSg c
  · have hr := h.rng
    have e : sgV c = 100 + c := if_pos h
    refine Or.inr ?_
    rw [e]
    simp (disch := ((try simp (disch := ((try simp (disch := ((try simp only [Int32.reduceToInt]); omega)) only [Int32.reduceToInt, ti_rem, ti_div, ti_mul, ti_add, ti_sub, iv_toInt]); omega)) only [Int32.reduceToInt, ti_rem, ti_div, ti_mul, ti_add, ti_sub, iv_toInt]); omega)) only [ti_add, Int32.reduceToInt]
    omega
  · exact Or.inl (if_neg h)
/-- the fault that each of both notes -/
def FC (C : zM) (k : Int32) : zM := zup (zup C 98 6 k) 98 7 (C 98 2)
def FM (M : zM) (k : Int32) : zM := zup (zup M 0 28 k) 0 29 (M 0 26)
section AS
variable {g g' : zG} {d : Nat} {t : Nat → Int32} {n rd p e : Nat} {C M : zM}
theorem TK.len (h : TK t n rd p e C M) : p ≤ e ∧ e ≤ n ∧ n ≤ 400 := ⟨h.2.2.2.1, h.1.2.2.2.2.2.2.2.2.2.2, h.1.2.2.1⟩
theorem TK.lt (h : TK t n rd p e C M) (hz : ¬ M 0 25 = 0) : p < e := by
  obtain ⟨-, -, -, -, h⟩ := h
  rcases h with ⟨-, -, x⟩ | ⟨x, -⟩ | ⟨x, -⟩ | ⟨x, -⟩ | ⟨x, -⟩
  · exact absurd x hz
  all_goals exact x
theorem TK.isEnd (h : TK t n rd p e C M) : C 98 4 = 0 ↔ M 0 25 = 0 := by
  obtain ⟨⟨-, -, -, -, -, -, -, hr, -⟩, -, -, -, h⟩ := h
  rcases h with ⟨-, x, y⟩ | ⟨-, x, y⟩ | ⟨-, x, y, -⟩ | ⟨-, x, y⟩ | ⟨-, x, -, y⟩ <;> rw [x, y]
  · refine ⟨fun z => absurd z (by decide), fun z => ?_⟩
    rcases wdV_rng (t := t) (p := p) (e := e) hr with w | w <;> rw [z] at w
    · exact absurd w (by decide)
    · exact absurd w.1 (by decide)
  · exact ⟨fun z => absurd z (by decide), fun z => absurd z (by decide)⟩
  · refine ⟨fun z => absurd z (by decide), fun z => ?_⟩
    rcases sgV_rng (c := t p) with w | w <;> rw [z] at w
    · exact absurd w (by decide)
    · exact absurd w.1 (by decide)
theorem TK.isNum (h : TK t n rd p e C M) : C 98 4 = 2 ↔ M 0 25 = 2 := by
  obtain ⟨⟨-, -, -, -, -, -, -, hr, -⟩, -, -, -, h⟩ := h
  rcases h with ⟨-, x, y⟩ | ⟨-, x, y⟩ | ⟨-, x, y, -⟩ | ⟨-, x, y⟩ | ⟨-, x, -, y⟩ <;> rw [x, y]
  · refine ⟨fun z => absurd z (by decide), fun z => ?_⟩
    rcases wdV_rng (t := t) (p := p) (e := e) hr with w | w <;> rw [z] at w
    · exact absurd w (by decide)
    · exact absurd w.1 (by decide)
  · exact ⟨fun z => absurd z (by decide), fun z => absurd z (by decide)⟩
  · refine ⟨fun z => absurd z (by decide), fun z => ?_⟩
    rcases sgV_rng (c := t p) with w | w <;> rw [z] at w
    · exact absurd w (by decide)
    · exact absurd w.1 (by decide)
theorem TK.num (h : TK t n rd p e C M) (hn : M 0 25 = 2) : M 0 27 = C 98 5 ∧ rng (C 98 5) 0 9999 := by
  have h4 := h.isNum.mpr hn
  obtain ⟨-, -, -, -, h⟩ := h
  rcases h with ⟨-, x, y⟩ | ⟨-, x, y⟩ | ⟨-, x, y, z⟩ | ⟨-, x, y⟩ | ⟨-, x, -, y⟩
  · rw [x] at h4; exact absurd h4 (by decide)
  · rw [x] at h4; exact absurd h4 (by decide)
  · exact z
  · rw [x] at h4; exact absurd h4 (by decide)
  · rw [x] at h4; exact absurd h4 (by decide)
theorem TK.sign (h : TK t n rd p e C M) {c : Int32} (hc : isSg c) : (C 98 4 = 3 ∧ C 98 5 = c) ↔ M 0 25 = 100 + c := by
  have hcr := hc.rng
  have e1 : (100 + c).toInt = 100 + c.toInt := by simp (disch := ((try simp (disch := ((try simp (disch := ((try simp only [Int32.reduceToInt]); omega)) only [Int32.reduceToInt, ti_rem, ti_div, ti_mul, ti_add, ti_sub, iv_toInt]); omega)) only [Int32.reduceToInt, ti_rem, ti_div, ti_mul, ti_add, ti_sub, iv_toInt]); omega)) only [ti_add, Int32.reduceToInt]
  obtain ⟨⟨-, -, -, -, -, -, -, hr, -⟩, -, -, -, h⟩ := h
  rcases h with ⟨-, x, y⟩ | ⟨-, x, y⟩ | ⟨-, x, y, -⟩ | ⟨-, x, y⟩ | ⟨-, x, z, y⟩
  · rw [x, y]
    refine ⟨fun z => absurd z.1 (by decide), fun z => ?_⟩
    rw [eqI, e1] at z
    simp only [Int32.reduceToInt] at z
    omega
  · rw [x, y]
    refine ⟨fun z => absurd z.1 (by decide), fun z => ?_⟩
    rw [eqI, e1] at z
    rcases wdV_rng (t := t) (p := p) (e := e) hr with w | w
    · rw [w] at z
      simp only [Int32.reduceToInt] at z
      omega
    · omega
  · rw [x, y]
    refine ⟨fun z => absurd z.1 (by decide), fun z => ?_⟩
    rw [eqI, e1] at z
    simp only [Int32.reduceToInt] at z
    omega
  · rw [x, y]
    refine ⟨fun z => absurd z.1 (by decide), fun z => ?_⟩
    rw [eqI, e1] at z
    simp only [Int32.reduceToInt] at z
    omega
  · rw [x, y, z]
    refine ⟨fun w => ?_, fun w => ⟨rfl, ?_⟩⟩
    · rw [w.2]
      exact if_pos hc
    · by_cases hs : isSg (t p)
      · have hsr := hs.rng
        have es : sgV (t p) = 100 + t p := if_pos hs
        have e2 : (100 + t p).toInt = 100 + (t p).toInt := by simp (disch := ((try simp (disch := ((try simp (disch := ((try simp only [Int32.reduceToInt]); omega)) only [Int32.reduceToInt, ti_rem, ti_div, ti_mul, ti_add, ti_sub, iv_toInt]); omega)) only [Int32.reduceToInt, ti_rem, ti_div, ti_mul, ti_add, ti_sub, iv_toInt]); omega)) only [ti_add, Int32.reduceToInt]
        rw [es, eqI, e1, e2] at w
        rw [eqI]
        omega
      · have es : sgV (t p) = 1 := if_neg hs
        rw [es, eqI, e1] at w
        simp only [Int32.reduceToInt] at w
        omega
theorem TK.word (h : TK t n rd p e C M) {q k : Nat} (hm : (q, k) ∈ wlst rd) : (C 98 4 = 1 ∧ wrd t p e q = true) ↔ M 0 25 = iv k := by
  obtain ⟨⟨-, -, -, -, -, -, -, hr, -⟩, -, -, -, h⟩ := h
  have hk := wlst_ok rd hr _ hm
  have ek : (iv k).toInt = k := iv_toInt (by omega) (by omega)
  simp only at hk
  rcases h with ⟨-, x, y⟩ | ⟨-, x, y⟩ | ⟨-, x, y, -⟩ | ⟨-, x, y⟩ | ⟨-, x, z, y⟩
  · rw [x, y]
    refine ⟨fun z => absurd z.1 (by decide), fun z => ?_⟩
    rw [eqI, ek] at z
    simp only [Int32.reduceToInt] at z
    omega
  · rw [x, y]
    rcases wdV_val (t := t) (p := p) (e := e) (wlst rd) with ⟨a, b⟩ | ⟨a, b1, b2, b3⟩
    · rw [a]
      refine ⟨fun z => absurd z.2 (b _ hm), fun z => ?_⟩
      rw [eqI, ek] at z
      simp only [Int32.reduceToInt] at z
      omega
    · have ha := wlst_ok rd hr a b1
      rw [b3, iv_inj (by omega) (by omega)]
      have hi := wlst_inj rd hr a b1 _ hm
      simp only at hi
      refine ⟨fun z => ?_, fun z => ⟨rfl, ?_⟩⟩
      · have := hi.1 (wrd_one ha.1 hk.1 b2 z.2)
        omega
      · rw [← hi.2 (by omega)]
        exact b2
  · rw [x, y]
    refine ⟨fun z => absurd z.1 (by decide), fun z => ?_⟩
    rw [eqI, ek] at z
    simp only [Int32.reduceToInt] at z
    omega
  · rw [x, y]
    refine ⟨fun z => absurd z.1 (by decide), fun z => ?_⟩
    rw [eqI, ek] at z
    simp only [Int32.reduceToInt] at z
    omega
  · rw [x, y]
    refine ⟨fun z => absurd z.1 (by decide), fun w => ?_⟩
    rw [eqI, ek] at w
    rcases sgV_rng (c := t p) with v | v
    · rw [v] at w
      simp only [Int32.reduceToInt] at w
      omega
    · omega
/-- the class's questions, told by the reference's token -/
theorem q_isEnd {Q : Bool → zM → Prop} (h : TK t n rd p e C M) (hq : Q (decide (M 0 25 = 0)) C) : zCz shC g d mX5_isEnd [.ref 98] C Q := by
  refine c7_isEnd ?_
  rw [show decide (C 98 4 = 0) = decide (M 0 25 = 0) from decide_eq_decide.mpr h.isEnd]
  exact hq
theorem q_isNum {Q : Bool → zM → Prop} (h : TK t n rd p e C M) (hq : Q (decide (M 0 25 = 2)) C) : zCz shC g d mX5_isNumber [.ref 98] C Q := by
  refine c7_isNumber ?_
  rw [show decide (C 98 4 = 2) = decide (M 0 25 = 2) from decide_eq_decide.mpr h.isNum]
  exact hq
theorem q_isSign {Q : Bool → zM → Prop} {c x : Int32} (h : TK t n rd p e C M) (hc : isSg c) (hx : 100 + c = x) (hq : Q (decide (M 0 25 = x)) C) : zCz shC g d mX5_isSign [.ref 98, .int c] C Q := by
  refine c7_isSign ?_
  rw [show decide (C 98 4 = 3 ∧ C 98 5 = c) = decide (M 0 25 = x) from decide_eq_decide.mpr (hx ▸ h.sign hc)]
  exact hq
theorem q_isWord {Q : Bool → zM → Prop} {q k : Nat} {x : Int32} (h : TK t n rd p e C M) (hm : (q, k) ∈ wlst rd) (hx : iv (k : Nat) = x) (hq : Q (decide (M 0 25 = x)) C) : zCz shC g (d + 4) mX5_isWord [.ref 98, .ref (4096 + q)] C Q := by
  have hb := (wlst_ok rd h.1.2.2.2.2.2.2.2.1 _ hm).1
  refine c7_isWord hb h.1.2.2.2.1 h.1.2.2.1 h.2.1 h.1.2.2.2.2.2.2.2.2.1 h.2.2.2.1 h.len.2.1 ?_
  rw [show decide (C 98 4 = 1 ∧ wrd t p e q = true) = decide (M 0 25 = x) from decide_eq_decide.mpr (hx ▸ h.word hm)]
  exact hq
theorem c7_fail {Q : Bool → zM → Prop} {k : Int32} (h : Q false (FC C k)) : zCz shC g d mX5_fail [.ref 98, .int k] C Q := by
  refine vX5_fail ?_
  rw [zup_ne (Or.inr (by omega))]
  exact h
theorem c9_bad {Q : Bool → zM → Prop} {k : Int32} (h : Q false (FM M k)) : zCz shM g d mX9_bad [.ref 0, .int k] M Q := by
  refine vX9_bad ?_
  rw [zup_ne (Or.inr (by omega))]
  exact h
theorem q_number {Q : Int32 → zM → Prop} {l1 l2 : Int32} (h : TK t n rd p e C M) (hq : M 0 25 = 2 → l1.toInt ≤ (C 98 5).toInt → (C 98 5).toInt ≤ l2.toInt → Q (C 98 5) C) (h2 : M 0 25 = 2 → ¬ (l1.toInt ≤ (C 98 5).toInt ∧ (C 98 5).toInt ≤ l2.toInt) → Q (-1) (FC C 2)) (h1 : ¬ M 0 25 = 2 → Q (-1) (FC C 1)) : zCi shC g (d + 1) mX5_number [.ref 98, .int l1, .int l2] C Q := by
  refine vX5_number ⟨fun a => ⟨fun b => c7_fail (h2 (h.isNum.mp a) ?_), fun b => ⟨fun c => hq (h.isNum.mp a) ?_ ?_, fun c => c7_fail (h2 (h.isNum.mp a) ?_)⟩⟩, fun a => c7_fail (h1 fun x => a (h.isNum.mpr x))⟩
  all_goals
    rw [Int32.lt_iff_toInt_lt] at b
    try rw [Int32.le_iff_toInt_le] at c
    omega
theorem FC_oc {k : Int32} : (∀ o, o ≠ 98 → FC C k o = C o) ∧ (∀ s, s < 6 → FC C k 98 s = C 98 s) ∧ FC C k 98 6 = k ∧ FC C k 98 7 = C 98 2 := by
  unfold FC
  refine ⟨fun o a => by rw [zup_oth a, zup_oth a], fun s a => by rw [zup_ne (Or.inr (by omega)), zup_ne (Or.inr (by omega))], by rw [zup_ne (Or.inr (by omega)), zup_same], zup_same⟩
theorem FM_om {k : Int32} : (∀ o, o ≠ 0 → FM M k o = M o) ∧ (∀ s, s ≠ 28 → s ≠ 29 → FM M k 0 s = M 0 s) ∧ FM M k 0 28 = k ∧ FM M k 0 29 = M 0 26 := by
  unfold FM
  refine ⟨fun o a => by rw [zup_oth a, zup_oth a], fun s a b => by rw [zup_ne (Or.inr b), zup_ne (Or.inr a)], by rw [zup_ne (Or.inr (by omega)), zup_same], zup_same⟩
end AS
