/-! A FACTOR, and parts of it, both sides -/
def FrL (C M C' M' : zM) : Prop := (∀ o, o ≠ 98 → o ≠ 105 → o ≠ 106 → C' o = C o) ∧ C' 98 1 = C 98 1 ∧ (∀ s, s ≠ 1 → C' 105 s = C 105 s) ∧ (∀ o, o ≠ 0 → o ≠ 6 → M' o = M o) ∧ ∀ s, s < 18 ∨ (18 < s ∧ s < 24) ∨ s = 30 ∨ 32 ≤ s → M' 0 s = M 0 s
def Flt (C M : zM) : Prop := C 98 6 = M 0 28 ∧ C 98 7 = M 0 29
theorem FrL.rfl {C M : zM} : FrL C M C M := ⟨fun _ _ _ _ => Eq.refl _, Eq.refl _, fun _ _ => Eq.refl _, fun _ _ _ => Eq.refl _, fun _ _ => Eq.refl _⟩
theorem FrL.trans {C M C1 M1 C2 M2 : zM} (h : FrL C M C1 M1) (h2 : FrL C1 M1 C2 M2) : FrL C M C2 M2 := ⟨fun o a b c => (h2.1 o a b c).trans (h.1 o a b c), h2.2.1.trans h.2.1, fun s a => (h2.2.2.1 s a).trans (h.2.2.1 s a), fun o a b => (h2.2.2.2.1 o a b).trans (h.2.2.2.1 o a b), fun s a => (h2.2.2.2.2 s a).trans (h.2.2.2.2 s a)⟩
theorem FrL.ofn {C M C' M' : zM} (h : OC C C') (h2 : OM M M') : FrL C M C' M' := ⟨fun o a _ _ => h.1 o a, h.2 1 (by omega), fun s _ => by rw [h.1 105 (by omega)], fun o a _ => h2.1 o a, fun s a => h2.2 s (by omega)⟩
theorem FrL.ofe {C M : zM} {k : Nat} {x s v : Int32} : FrL C M (EC C k x) (EM M k s v) := by
  obtain ⟨c1, c2, -⟩ := EC_oc (C := C) (k := k) (x := x)
  obtain ⟨m1, m2, -⟩ := EM_om (M := M) (k := k) (s := s) (v := v)
  exact ⟨fun o _ b c => c1 o b c, by rw [c1 98 (by omega) (by omega)], c2, m1, fun j a => m2 j (by omega)⟩
theorem FrL.off {C M : zM} {k : Int32} : FrL C M (FC C k) (FM M k) := by
  obtain ⟨c1, c2, -⟩ := FC_oc (C := C) (k := k)
  obtain ⟨m1, m2, -⟩ := FM_om (M := M) (k := k)
  exact ⟨fun o a _ _ => c1 o a, c2 1 (by omega), fun s _ => by rw [c1 105 (by omega)], fun o a _ => m1 o a, fun s a => m2 s (by omega) (by omega)⟩
theorem TK.keep {t : Nat → Int32} {n rd p e : Nat} {C M C' M' : zM} (h : TK t n rd p e C M) (h8 : C' 98 = C 98) (h9 : C' 99 = C 99) (h12 : M' 12 = M 12) (h16 : M' 0 16 = M 0 16) (hm : ∀ s, 23 ≤ s → s ≤ 27 → M' 0 s = M 0 s) : TK t n rd p e C' M' := by
  unfold TK SCn at h ⊢
  rw [h8, h9, h12, h16, hm 23 (by omega) (by omega), hm 24 (by omega) (by omega), hm 25 (by omega) (by omega), hm 26 (by omega) (by omega), hm 27 (by omega) (by omega)]
  exact h
theorem TK.ec {t : Nat → Int32} {n rd p e k : Nat} {C M : zM} {x : Int32} (h : TK t n rd p e C M) : TK t n rd p e (EC C k x) M := by
  obtain ⟨c1, -⟩ := EC_oc (C := C) (k := k) (x := x)
  exact h.keep (c1 98 (by omega) (by omega)) (c1 99 (by omega) (by omega)) rfl rfl fun _ _ _ => rfl
theorem TK.em {t : Nat → Int32} {n rd p e k : Nat} {C M : zM} {s v : Int32} (h : TK t n rd p e C M) : TK t n rd p e C (EM M k s v) := by
  obtain ⟨m1, m2, -⟩ := EM_om (M := M) (k := k) (s := s) (v := v)
  exact h.keep rfl rfl (m1 12 (by omega) (by omega)) (m2 16 (by omega)) fun j a b => m2 j (by omega)
theorem LK.keep {k : Nat} {C M C' M' : zM} (h : LK k C M) (h5 : C' 105 1 = C 105 1) (h6 : C' 106 = C 106) (h8 : M' 0 18 = M 0 18) (hm : M' 6 = M 6) : LK k C' M' := by
  unfold LK at h ⊢
  rw [h5, h6, h8, hm]
  exact h
theorem LK.ofn {k : Nat} {C M C' M' : zM} (h : LK k C M) (o : OC C C') (o2 : OM M M') : LK k C' M' := h.keep (by rw [o.1 105 (by omega)]) (o.1 106 (by omega)) (o2.2 18 (by omega)) (o2.1 6 (by omega))
theorem Pre.ofn {k : Nat} {C M C' M' : zM} (o : OC C C') (o2 : OM M M') : Pre k C M C' M' := ⟨fun j _ => by rw [o.1 106 (by omega)], fun j _ => by rw [o2.1 6 (by omega)], o.2 6 (by omega), o.2 7 (by omega)⟩
theorem EM_row {M M' : zM} {k : Nat} {s v : Int32} (h : M' 6 = M 6) : EM M' k s v 6 = EM M k s v 6 := by
  have e : ∀ N : zM, EM N k s v 6 = upd (upd (N 6) (2 * k) s) (2 * k + 1) v := fun N => by
    unfold EM
    rw [zup_oth (by omega), zup_row, zup_row]
  rw [e, e, h]
theorem Flt.ofe {t : Nat → Int32} {n rd p e : Nat} {C M : zM} {k : Int32} (h : TK t n rd p e C M) : Flt (FC C k) (FM M k) := by
  obtain ⟨-, -, c1, c2⟩ := FC_oc (C := C) (k := k)
  obtain ⟨-, -, m1, m2⟩ := FM_om (M := M) (k := k)
  exact ⟨by rw [c1, m1], by rw [c2, m2, h.2.1, h.2.2.1]⟩
/-- how a piece of a law ends: with a fault, or behind it -/
def PL (t : Nat → Int32) (n p k x L a : Nat) (ty : List Bool) (C M : zM) (b : Bool) (C' M' : zM) : Prop := FrL C M C' M' ∧ (b = false → Flt C' M') ∧
  (b = true → M' 0 31 = M 0 31 ∧ Pre k C M C' M' ∧ ∃ p' e' k' : Nat, TK t n 1 p' e' C' M' ∧ LK k' C' M' ∧ p ≤ p' ∧ k ≤ k' ∧ k' + p ≤ k + x + p' ∧ Ty L M' a k' ty)
section SPA
variable {g g' : zG} {t : Nat → Int32} {n p e : Nat} {C M : zM}
theorem s_step {rd : Nat} (h : TK t n rd p e C M) (hz : ¬ M 0 25 = 0) : ∃ (p' e' : Nat) (C' M' : zM), TK t n rd p' e' C' M' ∧ p < p' ∧ OC C C' ∧ OM M M' ∧ (∀ (d : Nat) (Q : zM → Prop), Q C' → zCv shC g (d + 1) mX5_next [.ref 98] C Q) ∧ ∀ (d : Nat) (Q : zM → Prop), Q M' → zCv shM g' (d + 7) mX9_next0 [.ref 0] M Q := by
  have hlt := h.lt hz
  obtain ⟨p', e', C', M', a, b, c, d, f, q⟩ := s_next (g := g) (g' := g') h.1
  exact ⟨p', e', C', M', a, by omega, c, d, f, q⟩
theorem c7_factTold {d : Nat} {Q : Int32 → zM → Prop} (h : TK t n 1 p e C M) (h1 : 41 ≤ (M 0 25).toInt → (M 0 25).toInt ≤ 46 → Q (M 0 25 - 41) C) (h0 : ¬ (41 ≤ (M 0 25).toInt ∧ (M 0 25).toInt ≤ 46) → Q (-1) C) : zCi shC g (d + 5) mX1_factTold [.ref 98] C Q := by
  have key : ∀ x y : Int32, 41 ≤ x.toInt → x.toInt ≤ 46 → x - 41 = y → decide (M 0 25 = x) = true → Q y C := fun x y a b c w => by
    have w := of_decide_eq_true w
    rw [w] at h1
    rw [← c]
    exact h1 a b
  refine vX1_factTold (q_isWord h (k := 41) (by decide) rfl ⟨fun w1 => q_isWord h (k := 42) (by decide) rfl ⟨fun w2 => q_isWord h (k := 43) (by decide) rfl ⟨fun w3 => q_isWord h (k := 44) (by decide) rfl ⟨fun w4 => q_isWord h (k := 45) (by decide) rfl ⟨fun w5 => q_isWord h (k := 46) (by decide) rfl ⟨fun w6 => ?_, key _ _ (by decide) (by decide) (by decide)⟩, key _ _ (by decide) (by decide) (by decide)⟩, key _ _ (by decide) (by decide) (by decide)⟩, key _ _ (by decide) (by decide) (by decide)⟩, key _ _ (by decide) (by decide) (by decide)⟩, key _ _ (by decide) (by decide) (by decide)⟩)
  refine h0 fun w => ?_
  simp only [decide_eq_true_eq, decide_eq_false_iff_not, eqI] at w1 w2 w3 w4 w5 w6
  simp (disch := omega) only [iv_toInt] at w1 w2 w3 w4 w5 w6
  omega
theorem rc_put {s0 : Int32} (h : rng s0 0 9999) (v : Int32) (hv : v = s0) : RCode (0 + 16 * s0) 0 v := by
  unfold rng at h
  have e : (0 + 16 * s0).toInt = 16 * s0.toInt := by simp (disch := ((try simp (disch := ((try simp (disch := ((try simp only [Int32.reduceToInt]); omega)) only [Int32.reduceToInt, ti_rem, ti_div, ti_mul, ti_add, ti_sub, iv_toInt]); omega)) only [Int32.reduceToInt, ti_rem, ti_div, ti_mul, ti_add, ti_sub, iv_toInt]); omega)) only [ti_add, ti_mul, Int32.reduceToInt]; omega
  exact ⟨by omega, Or.inl ⟨rfl, by omega, by rw [hv]; omega⟩⟩
theorem rc_fact {k v : Int32} (h : 41 ≤ k.toInt ∧ k.toInt ≤ 46) : RCode (1 + 16 * (k - 41)) (k - 40) v := by
  have e1 : (k - 41).toInt = k.toInt - 41 := by simp (disch := ((try simp (disch := ((try simp (disch := ((try simp only [Int32.reduceToInt]); omega)) only [Int32.reduceToInt, ti_rem, ti_div, ti_mul, ti_add, ti_sub, iv_toInt]); omega)) only [Int32.reduceToInt, ti_rem, ti_div, ti_mul, ti_add, ti_sub, iv_toInt]); omega)) only [ti_sub, Int32.reduceToInt]
  have e2 : (k - 40).toInt = k.toInt - 40 := by simp (disch := ((try simp (disch := ((try simp (disch := ((try simp only [Int32.reduceToInt]); omega)) only [Int32.reduceToInt, ti_rem, ti_div, ti_mul, ti_add, ti_sub, iv_toInt]); omega)) only [Int32.reduceToInt, ti_rem, ti_div, ti_mul, ti_add, ti_sub, iv_toInt]); omega)) only [ti_sub, Int32.reduceToInt]
  have e : (1 + 16 * (k - 41)).toInt = 1 + 16 * (k.toInt - 41) := by simp (disch := ((try simp (disch := ((try simp (disch := ((try simp only [Int32.reduceToInt]); omega)) only [Int32.reduceToInt, ti_rem, ti_div, ti_mul, ti_add, ti_sub, iv_toInt]); omega)) only [Int32.reduceToInt, ti_rem, ti_div, ti_mul, ti_add, ti_sub, iv_toInt]); omega)) only [ti_add, ti_mul, ti_sub, Int32.reduceToInt]
  exact ⟨by omega, Or.inr (Or.inl ⟨by omega, by omega, by omega, by omega⟩)⟩
theorem rc_part {v : Int32} (h : 1 ≤ v.toInt ∧ v.toInt ≤ 9999) : RCode (3 + 16 * v) 26 v := by
  have e : (3 + 16 * v).toInt = 3 + 16 * v.toInt := by simp (disch := ((try simp (disch := ((try simp (disch := ((try simp only [Int32.reduceToInt]); omega)) only [Int32.reduceToInt, ti_rem, ti_div, ti_mul, ti_add, ti_sub, iv_toInt]); omega)) only [Int32.reduceToInt, ti_rem, ti_div, ti_mul, ti_add, ti_sub, iv_toInt]); omega)) only [ti_add, ti_mul, Int32.reduceToInt]
  exact ⟨by omega, Or.inr (Or.inr (Or.inr (Or.inl ⟨rfl, by omega, by omega, h.1⟩)))⟩
theorem s_unit (h : TK t n 1 p e C M) : (¬ (M 0 25 = 2 ∨ (41 ≤ (M 0 25).toInt ∧ (M 0 25).toInt ≤ 46)) ∧ (∀ (d : Nat) (Q : Bool → zM → Prop) (l2 l3 : Int32) (i : Nat), i < 400 → Q false (FC C 1) → zW shC g (d + 6) mX1_parseSum (zz Q) 10 [(0, .ref 105), (1, .ref 98), (2, .int l2), (3, .int (zbI false)), (4, .int l3), (5, .int (iv i))] [] C) ∧ ∀ (d : Nat) (Q : Bool → zM → Prop), Q false (FM M 1) → zCz shM g' (d + 8) mX9_unit [.ref 0] M Q) ∨
    ∃ s0 s1 s v : Int32, ¬ M 0 25 = 0 ∧ RCode (s1 + 16 * s0) s v ∧ s.toInt ≤ 6 ∧ (∀ (d : Nat) (Q : Bool → zM → Prop) (l2 l3 : Int32) (i : Nat), i < 400 → zW shC g (d + 6) mX1_parseSum (zz Q) 102 [(0, .ref 105), (1, .ref 98), (2, .int l2), (4, .int l3), (5, .int (iv i))] [.int s0, .int s1, .ref 105] C → zW shC g (d + 6) mX1_parseSum (zz Q) 10 [(0, .ref 105), (1, .ref 98), (2, .int l2), (3, .int (zbI false)), (4, .int l3), (5, .int (iv i))] [] C) ∧
      ∀ (d : Nat) (Q : Bool → zM → Prop), zCv shM g' (d + 7) mX9_lay [.ref 0, .int s, .int v] M (fun M1 => zCv shM g' (d + 7) mX9_next0 [.ref 0] M1 (fun M2 => Q true M2)) → zCz shM g' (d + 8) mX9_unit [.ref 0] M Q := by
  have h400 : ∀ i : Nat, i < 400 → ¬ (400 : Int32) ≤ iv i := fun i hi x => by
    rw [Int32.le_iff_toInt_le, iv_toInt (by omega) (by omega)] at x
    simp only [Int32.reduceToInt] at x
    omega
  by_cases hf : 41 ≤ (M 0 25).toInt ∧ (M 0 25).toInt ≤ 46
  · refine Or.inr ⟨M 0 25 - 41, 1, M 0 25 - 40, M 0 27, fun z => ?_, rc_fact hf, ?_, fun d Q l2 l3 i hi w => ?_, fun d Q w => ?_⟩
    · rw [z] at hf; exact absurd hf.1 (by decide)
    · simp (disch := ((try simp (disch := ((try simp (disch := ((try simp only [Int32.reduceToInt]); omega)) only [Int32.reduceToInt, ti_rem, ti_div, ti_mul, ti_add, ti_sub, iv_toInt]); omega)) only [Int32.reduceToInt, ti_rem, ti_div, ti_mul, ti_add, ti_sub, iv_toInt]); omega)) only [ti_sub, Int32.reduceToInt]
      omega
    · have hx : ¬ M 0 25 - 41 = -1 := fun z => by
        rw [eqI] at z
        simp (disch := ((try simp (disch := ((try simp (disch := ((try simp only [Int32.reduceToInt]); omega)) only [Int32.reduceToInt, ti_rem, ti_div, ti_mul, ti_add, ti_sub, iv_toInt]); omega)) only [Int32.reduceToInt, ti_rem, ti_div, ti_mul, ti_add, ti_sub, iv_toInt]); omega)) only [ti_sub, Int32.reduceToInt] at z
        omega
      refine vX1_parseSum_10 ⟨fun x => absurd x (h400 i hi), fun _ => ⟨fun _ => c7_factTold h (fun _ _ => ⟨fun _ => vX1_parseSum_75 ⟨fun _ => vX1_parseSum_87 ⟨fun _ => w, fun x => absurd x hx⟩, fun x => absurd x hx⟩, fun x => absurd x hx⟩) fun x => absurd hf x, fun x => absurd rfl x⟩⟩
    · refine vX9_unit (c9_isIn ?_)
      have e : isInB (M 0 25) 41 46 = true := by
        simp only [isInB, decide_eq_true_eq, decide_eq_false_iff_not, Int32.reduceToInt]
        exact hf
      rw [e]
      exact ⟨fun _ => vX9_unit_30 ⟨fun x => absurd x (by decide), fun _ => w⟩, fun _ => ⟨fun _ => vX9_unit_30 ⟨fun x => absurd x (by decide), fun _ => w⟩, fun x => absurd x (by decide)⟩⟩
  · have e : isInB (M 0 25) 41 46 = false := by
      simp only [isInB, decide_eq_true_eq, decide_eq_false_iff_not, Int32.reduceToInt]
      exact hf
    by_cases hn : M 0 25 = 2
    · obtain ⟨n1, n2⟩ := h.num hn
      refine Or.inr ⟨C 98 5, 0, 0, M 0 27, by rw [hn]; decide, rc_put n2 _ n1, by decide, fun d Q l2 l3 i hi w => ?_, fun d Q w => ?_⟩
      · refine vX1_parseSum_10 ⟨fun x => absurd x (h400 i hi), fun _ => ⟨fun _ => c7_factTold h (fun a b => absurd ⟨a, b⟩ hf) fun _ => ⟨fun x => absurd rfl x, fun _ => q_isNum h ⟨fun _ => vX1_parseSum_75 ⟨fun x => absurd rfl x, fun _ => vX1_parseSum_87 ⟨fun x => absurd rfl x, fun _ => w⟩⟩, fun x => absurd hn (of_decide_eq_false x)⟩⟩, fun x => absurd rfl x⟩⟩
      · refine vX9_unit (c9_isIn ?_)
        rw [e]
        exact ⟨fun _ => vX9_unit_30 ⟨fun _ => w, fun x => absurd x (by decide)⟩, fun x => absurd hn x⟩
    · refine Or.inl ⟨fun x => x.elim hn hf, fun d Q l2 l3 i hi w => ?_, fun d Q w => ?_⟩
      · refine vX1_parseSum_10 ⟨fun x => absurd x (h400 i hi), fun _ => ⟨fun _ => c7_factTold h (fun a b => absurd ⟨a, b⟩ hf) fun _ => ⟨fun x => absurd rfl x, fun _ => q_isNum h ⟨fun x => absurd (of_decide_eq_true x) hn, fun _ => c7_fail w⟩⟩, fun x => absurd rfl x⟩⟩
      · refine vX9_unit (c9_isIn ?_)
        rw [e]
        exact ⟨fun x => absurd x hn, fun _ => ⟨fun x => absurd x (by decide), fun _ => c9_bad w⟩⟩
/-- the class behind the token of a factor or of a part -/
def aftN (g : zG) (d : Nat) (Q : Bool → zM → Prop) (l4 l5 : Int32) (M1 : zM) : Prop := zCz shC g d mX5_isSign [.ref 98, .int 42] M1 (fun b1 M2 => zCz shC g d mX5_isSign [.ref 98, .int 47] M2 (fun b2 M3 => (b1 = true → zCv shC g d mX5_next [.ref 98] M3 (fun M4 => zW shC g (d + 1) mX1_parseSum (zz Q) 10 [(0, .ref 105), (1, .ref 98), (2, .int (zbI b1)), (3, .int (zbI b2)), (4, .int l4), (5, .int (l5 + 1))] [] M4)) ∧ (b1 = false → (b2 = true → zCv shC g d mX5_next [.ref 98] M3 (fun M4 => zW shC g (d + 1) mX1_parseSum (zz Q) 10 [(0, .ref 105), (1, .ref 98), (2, .int (zbI b1)), (3, .int (zbI b2)), (4, .int l4), (5, .int (l5 + 1))] [] M4)) ∧ (b2 = false → (l4 = (-1) → zW shC g (d + 1) mX1_parseSum (zz Q) 149 [(0, .ref 105), (1, .ref 98), (2, .int (zbI b1)), (3, .int (zbI b2)), (4, .int l4), (5, .int l5)] [.int 0, .ref 105] M3) ∧ (¬ l4 = (-1) → zW shC g (d + 1) mX1_parseSum (zz Q) 149 [(0, .ref 105), (1, .ref 98), (2, .int (zbI b1)), (3, .int (zbI b2)), (4, .int l4), (5, .int l5)] [.int 1, .ref 105] M3)))))
theorem s_111 {d : Nat} {Q : Bool → zM → Prop} {M : zM} {l4 l5 : Int32} (h : zCv shC g d mX5_next [.ref 98] M (fun M1 => aftN g d Q l4 l5 M1)) : zW shC g (d + 1) mX1_parseSum (zz Q) 111 [(0, .ref 105), (1, .ref 98), (4, .int l4), (5, .int l5)] [] M := vX1_parseSum_111 h
/-- the class writes it down before it goes on, the reference behind -/
theorem s_late {k a L : Nat} {C M C2 M2 : zM} {x s v : Int32} {σ r : List Bool} (hk : LK k C M) (hr : RCode x s v) (hty : Ty L M a k σ) (hs : ∀ ts : List Bool, tyStep s.toInt (σ ++ ts) = some (r ++ ts)) (hl : σ.length + L < 60) (o3 : OC (EC C k x) C2) (o4 : OM M M2) :
    LK (k + 1) C2 (EM M2 k s v) ∧ Pre k C M C2 (EM M2 k s v) ∧ Ty L (EM M2 k s v) a (k + 1) r ∧ FrL C M C2 (EM M2 k s v) ∧ EM M2 k s v 0 31 = M 0 31 := by
  obtain ⟨ls, lp⟩ := hk.step hr
  have er : EM M2 k s v 6 = EM M k s v 6 := EM_row (o4.1 6 (by omega))
  have k2 : LK (k + 1) C2 (EM M2 k s v) := ls.keep (by rw [o3.1 105 (by omega)]) (o3.1 106 (by omega)) (by rw [EM_om.2.2.1, EM_om.2.2.1]) er
  have p2' : Pre k C M C2 (EM M2 k s v) := ⟨fun j a => by rw [o3.1 106 (by omega)]; exact lp.1 j a, fun j a => by rw [er]; exact lp.2.1 j a, (o3.2 6 (by omega)).trans lp.2.2.1, (o3.2 7 (by omega)).trans lp.2.2.2⟩
  have t2 : Ty L (EM M2 k s v) a (k + 1) r := Ty.one (s := σ) (fun ts => by rw [EM_om.2.2.2.1]; exact hs ts) (hty.pre p2') hl
  have f2 : FrL C M C2 (EM M2 k s v) := by
    have fe : FrL C M (EC C k x) M := by
      obtain ⟨a1, a2, -⟩ := EC_oc (C := C) (k := k) (x := x)
      exact ⟨fun o _ b c => a1 o b c, by rw [a1 98 (by omega) (by omega)], a2, fun _ _ _ => rfl, fun _ _ => rfl⟩
    have fm : FrL C2 M2 C2 (EM M2 k s v) := by
      obtain ⟨a1, a2, -⟩ := EM_om (M := M2) (k := k) (s := s) (v := v)
      exact ⟨fun _ _ _ _ => rfl, rfl, fun _ _ => rfl, a1, fun j b => a2 j (by omega)⟩
    exact (fe.trans (FrL.ofn o3 o4)).trans fm
  exact ⟨k2, p2', t2, f2, (EM_om.2.1 31 (by omega)).trans (o4.2 31 (by omega))⟩
/-- parts of a factor -/
theorem s_parts {a : Nat} {r : List Bool} (hr : r.length ≤ 8) : ∀ (N p e k i : Nat) (C M : zM), n - p < N → TK t n 1 p e C M → LK k C M → k ≤ p → 2 * i + 1 ≤ p → Ty 50 M a k (false :: r) →
    ∃ (b : Bool) (i' : Nat) (C' M' : zM), PL t n p k 0 50 a (false :: r) C M b C' M' ∧ (b = true → ¬ M' 0 25 = 147 ∧ 2 * (i' : Int) + 1 ≤ (M' 0 26).toInt) ∧ (∀ (d : Nat) (Q : Bool → zM → Prop) (pc : Int32), (b = true → aftN g (d + 5) Q pc (iv i') C') → (b = false → Q false C') → aftN g (d + 5) Q pc (iv i) C) ∧
      ∀ (d : Nat) (K : Bool → zM → Prop), (b = true → zW shM g' (d + 9) mX9_product (zz K) 9 [(0, .ref 0)] [] M') → (b = false → K false M') → zW shM g' (d + 9) mX9_product (zz K) 9 [(0, .ref 0)] [] M := by
  intro N
  induction N with
  | zero => intro p e k i C M hN; omega
  | succ N ih =>
    intro p e k i C M hN h hk hkp hi hty
    have hl := h.len
    by_cases c : M 0 25 = 147
    · have hz : ¬ M 0 25 = 0 := by rw [c]; decide
      have hpn := h.lt hz
      obtain ⟨p1, e1, C1, M1, h1, hp1, o1, o2, w1, w2⟩ := s_step (g := g) (g' := g') h hz
      have hl1 := h1.len
      have k1 := hk.ofn o1 o2
      have t1 := hty.pre (Pre.ofn (k := k) o1 o2)
      have h400 : ¬ (400 : Int32) ≤ iv (i + 1 : Nat) := fun x => by
        rw [Int32.le_iff_toInt_le, iv_toInt (by omega) (by omega)] at x
        simp only [Int32.reduceToInt] at x
        omega
      have rM : ∀ (d : Nat) (K : Bool → zM → Prop), (M1 0 25 = 2 → (¬ M1 0 27 = 0 → zCv shM g' (d + 8) mX9_next0 [.ref 0] M1 (fun M2 => zCv shM g' (d + 8) mX9_lay [.ref 0, .int 26, .int (M1 0 27)] M2 (fun M3 => zW shM g' (d + 9) mX9_product (zz K) 9 [(0, .ref 0)] [] M3))) ∧ (M1 0 27 = 0 → K false (FM M1 2))) → (¬ M1 0 25 = 2 → K false (FM M1 1)) → zW shM g' (d + 9) mX9_product (zz K) 9 [(0, .ref 0)] [] M := fun d K x y =>
        vX9_product_9 ⟨fun z => absurd (c ▸ z) (by decide), fun _ => ⟨fun z => absurd c z, fun _ => vX9_product_29 ⟨fun z => absurd c z, fun _ => vX9_product_44 (w2 (d + 1) _ ⟨fun z => absurd z (by decide), fun _ => ⟨fun z => ⟨(x z).1, fun u => c9_bad ((x z).2 u)⟩, fun z => c9_bad (y z)⟩⟩)⟩⟩⟩
      have rC : ∀ (d : Nat) (Q : Bool → zM → Prop) (pc : Int32), (zCi shC g (d + 5) mX5_number [.ref 98, .int 1, .int 9999] C1 (fun x1 M1 => (¬ x1 = (-1) → zCv shC g (d + 5) mX1_emit [.ref 105, .int 3, .int x1] M1 (fun M2 => zW shC g (d + 6) mX1_parseSum (zz Q) 111 [(0, .ref 105), (1, .ref 98), (4, .int pc), (5, .int (iv (i + 1 : Nat)))] [] M2)) ∧ (x1 = (-1) → Q false M1))) → aftN g (d + 5) Q pc (iv i) C := fun d Q pc x => by
        unfold aftN
        refine q_isSign h (c := 42) (x := 142) (by unfold isSg; simp only [true_or, or_true]) (by decide) (q_isSign h (c := 47) (x := 147) (by unfold isSg; simp only [true_or, or_true]) (by decide) ⟨fun z => absurd (c.symm.trans (of_decide_eq_true z)) (by decide), fun _ => ⟨fun _ => w1 (d + 4) _ ?_, fun z => absurd c (of_decide_eq_false z)⟩⟩)
        rw [show decide (M 0 25 = 147) = true from decide_eq_true c, iv_s]
        exact vX1_parseSum_10 ⟨fun z => absurd z h400, fun _ => ⟨fun z => absurd z (by decide), fun _ => x⟩⟩
      by_cases hn : M1 0 25 = 2
      · obtain ⟨n1, n2⟩ := h1.num hn
        unfold rng at n2
        by_cases hv : 1 ≤ (C1 98 5).toInt
        · have hz1 : ¬ M1 0 25 = 0 := by rw [hn]; decide
          have hpn1 := h1.lt hz1
          obtain ⟨p2, e2, C2, M2, h2, hp2, o3, o4, w3, w4⟩ := s_step (g := g) (g' := g') (h1.ec (k := k) (x := 3 + 16 * C1 98 5)) hz1
          obtain ⟨k2, p2', t2, f2, g31⟩ := s_late (r := false :: r) k1 (rc_part (v := C1 98 5) ⟨hv, n2.2⟩) t1 (fun ts => rfl) (by rw [List.length_cons]; omega) o3 o4
          obtain ⟨b, i', C', M', ⟨q1, q2, q3⟩, q4, q5, q6⟩ := ih p2 e2 (k + 1) (i + 1) C2 (EM M2 k 26 (C1 98 5)) (by omega) h2.em k2 (by omega) (by omega) t2
          refine ⟨b, i', C', M', ⟨((FrL.ofn o1 o2).trans f2).trans q1, q2, fun hb => ?_⟩, q4, fun d Q pc x y => rC d Q pc (q_number h1 (fun _ _ _ => ⟨fun _ => c7_emit k1.1 (by omega) (s_111 (w3 (d + 4) _ (q5 d Q pc x y))), fun z => ?_⟩) (fun _ z => absurd ⟨hv, n2.2⟩ z) fun z => absurd hn z), fun d K x y => rM d K (fun _ => ⟨fun _ => w4 (d + 1) _ (c9_lay (k := k) ?_ (by omega) ?_), fun z => ?_⟩) fun z => absurd hn z⟩
          · obtain ⟨r1, r2, p3, e3, k3, r3, r4, r5, r6, r7, r8⟩ := q3 hb
            refine ⟨?_, ((Pre.ofn o1 o2).trans (Nat.le_refl _) p2').trans (by omega) r2, p3, e3, k3, r3, r4, by omega, by omega, by omega, r8⟩
            rw [r1, g31, o2.2 31 (by omega)]
          · rw [z] at hv; exact absurd hv (by decide)
          · exact (o4.2 18 (by omega)).trans k1.2.1
          · rw [n1]
            exact q6 d K x y
          · rw [n1] at z
            rw [z] at hv
            exact absurd hv (by decide)
        · have hv0 : C1 98 5 = 0 := by
            rw [eqI]
            simp only [Int32.reduceToInt]
            omega
          refine ⟨false, 0, FC C1 2, FM M1 2, ⟨(FrL.ofn o1 o2).trans FrL.off, fun _ => Flt.ofe h1, fun z => absurd z (by decide)⟩, fun z => absurd z (by decide), fun d Q pc _ y => rC d Q pc (q_number h1 (fun _ z => absurd z hv) (fun _ _ => ⟨fun z => absurd rfl z, fun _ => y rfl⟩) fun z => absurd hn z), fun d K x y => rM d K (fun _ => ⟨fun z => absurd (n1.trans hv0) z, fun _ => y rfl⟩) fun z => absurd hn z⟩
      · refine ⟨false, 0, FC C1 1, FM M1 1, ⟨(FrL.ofn o1 o2).trans FrL.off, fun _ => Flt.ofe h1, fun z => absurd z (by decide)⟩, fun z => absurd z (by decide), fun d Q pc _ y => rC d Q pc (q_number h1 (fun z => absurd z hn) (fun z => absurd z hn) fun _ => ⟨fun z => absurd rfl z, fun _ => y rfl⟩), fun d K x y => rM d K (fun z => absurd z hn) fun _ => y rfl⟩
    · refine ⟨true, i, C, M, ⟨FrL.rfl, fun z => absurd z (by decide), fun _ => ⟨rfl, Pre.rfl, p, e, k, h, hk, Nat.le_refl _, Nat.le_refl _, by omega, hty⟩⟩, fun _ => ⟨c, ?_⟩, fun d Q pc x _ => x rfl, fun d K x _ => x rfl⟩
      rw [h.2.2.1, iv_toInt (by omega) (by omega)]
      omega
end SPA
