/-! THE WHOLE STATE, class beside reference -/
def IBk (w : Nat → Int32) : Prop := rng (w 0) 0 9999 ∧ ∀ i : Nat, (i : Int) < (w 2).toInt → rng (w (566 + 5 * i)) 0 9999 ∧ rng (w (567 + 5 * i)) 0 5 ∧ rng (w (568 + 5 * i)) 0 63 ∧ rng (w (569 + 5 * i)) 0 9 ∧ rng (w (570 + 5 * i)) 0 1
/-- who isn't there has no steps -/
def INo (w : Nat → Int32) : Prop := ∀ s : Nat, s < 6 → (w 154).toInt ≤ s → w (166 + s) = 0
/-- all that the class holds of a row, its world at place b -/
def RWo (C : zM) (b : Nat) (w : Nat → Int32) : Prop := IS w ∧ IMo w ∧ IBk w ∧ INo w ∧ RS C b w ∧ RMo C (b + 2) w ∧ RBk C (b + 8) w
/-- the row that undo brings back from minute i of those kept -/
def bkW (bk w : Nat → Int32) (i : Nat) : Nat → Int32 := fun j => if j < 150 then bk (150 * i + j) else w j
def Rnow (C : zM) (w : Nat → Int32) : Prop := RWo C 1 w ∧ ∀ j, 2200 ≤ j → w j = 0
def Rimg (C : zM) (f : Int32) (k : Nat → Int32) : Prop := (∀ j, 2200 ≤ j → k j = 0) ∧ ((f = 0 ∧ C 0 2 = 0) ∨ (f = 1 ∧ C 0 2 = 1 ∧ RWo C 28 k))
def Rpast (C : zM) (n : Int32) (bk w : Nat → Int32) : Prop := C 0 5 = n ∧ rng n 0 6 ∧ (∀ i, i < 6 → ∃ q, q < 6 ∧ C 61 i = iv (62 + 6 * q : Nat)) ∧ (∀ i j, i < 6 → j < 6 → C 61 i = C 61 j → i = j) ∧
  ∀ i : Nat, i < 6 → (i : Int) < n.toInt → IMo (bkW bk w i) ∧ rng (bkW bk w i 0) 0 9999 ∧ (bk (150 * i + 2)).toInt ≤ (w 2).toInt ∧ RMo C (C 61 i).toInt.toNat (bkW bk w i) ∧ ∀ j : Nat, i < j → (j : Int) < n.toInt → (bk (150 * i + 2)).toInt ≤ (bk (150 * j + 2)).toInt
def Rtape (C : zM) (n k p : Int32) (t : Nat → Int32) : Prop := C 98 1 = n ∧ rng n 0 400 ∧ (∀ i : Nat, (i : Int) < n.toInt → C 99 i = t i ∧ rng (t i) 0 255) ∧ C 98 6 = k ∧ C 98 7 = p
def RR (C M : zM) : Prop := Rnow C (M 1) ∧ Rimg C (M 0 5) (M 2) ∧ Rpast C (M 0 4) (M 3) (M 1) ∧ Rtape C (M 0 23) (M 0 30) (M 0 32) (M 12)
/-- contents of the reference that are the same but for what each call makes anew -/
def MEq (M M' : zM) : Prop := M' 1 = M 1 ∧ M' 2 = M 2 ∧ M' 3 = M 3 ∧ M' 12 = M 12 ∧ M' 0 4 = M 0 4 ∧ M' 0 5 = M 0 5 ∧ M' 0 23 = M 0 23 ∧ M' 0 30 = M 0 30 ∧ M' 0 32 = M 0 32
/-- of the class -/
def CEq (C C' : zM) : Prop := ∀ o, o ≤ 99 → o ≠ 21 → o ≠ 26 → o ≠ 27 → ¬ (55 ≤ o ∧ o ≤ 60) → C' o = C o
theorem MEq.rfl {M : zM} : MEq M M := ⟨Eq.refl _, Eq.refl _, Eq.refl _, Eq.refl _, Eq.refl _, Eq.refl _, Eq.refl _, Eq.refl _, Eq.refl _⟩
theorem MEq.of {M M' : zM} (h : ∀ o, o ≤ 3 ∨ o = 12 → M' o = M o) : MEq M M' := by
  have h0 := h 0 (by omega)
  exact ⟨h 1 (by omega), h 2 (by omega), h 3 (by omega), h 12 (by omega), by rw [h0], by rw [h0], by rw [h0], by rw [h0], by rw [h0]⟩
theorem MEq.trans {M M' M2 : zM} (h : MEq M M') (h2 : MEq M' M2) : MEq M M2 := by
  obtain ⟨a1, a2, a3, a4, a5, a6, a7, a8, a9⟩ := h
  obtain ⟨b1, b2, b3, b4, b5, b6, b7, b8, b9⟩ := h2
  exact ⟨b1.trans a1, b2.trans a2, b3.trans a3, b4.trans a4, b5.trans a5, b6.trans a6, b7.trans a7, b8.trans a8, b9.trans a9⟩
theorem CEq.rfl {C : zM} : CEq C C := fun _ _ _ _ _ _ => Eq.refl _
theorem CEq.trans {C C' C2 : zM} (h : CEq C C') (h2 : CEq C' C2) : CEq C C2 := fun o a b c d e => (h2 o a b c d e).trans (h o a b c d e)
theorem RR.meq {C M M' : zM} (h : RR C M) (he : MEq M M') : RR C M' := by
  obtain ⟨a1, a2, a3, a4, a5, a6, a7, a8, a9⟩ := he
  unfold RR at h ⊢
  rw [a1, a2, a3, a4, a5, a6, a7, a8, a9]
  exact h
theorem RS.keepb {C C' : zM} {b : Nat} {w : Nat → Int32} (h : RS C b w) (hk : ∀ o, b ≤ o → o ≤ b + 24 → o ≠ b + 20 → ¬ (b + 2 ≤ o ∧ o ≤ b + 8) → C' o = C o) : RS C' b w := by
  obtain ⟨h0, h1, h2, h3, h4, h5, ⟨a1, a2, a3, a4⟩, ⟨b1, b2, b3⟩, c1, c2, c3, c4⟩ := h
  refine ⟨?_, ?_, ?_, ?_, ?_, ?_, ⟨?_, ?_, ?_, ?_⟩, ⟨?_, ?_, ?_⟩, ?_, ?_, ?_, ?_⟩
  · rw [hk b (by omega) (by omega) (by omega) (by omega)]; exact h0
  · rw [hk b (by omega) (by omega) (by omega) (by omega)]; exact h1
  · rw [hk b (by omega) (by omega) (by omega) (by omega)]; exact h2
  · rw [hk b (by omega) (by omega) (by omega) (by omega)]; exact h3
  · rw [hk b (by omega) (by omega) (by omega) (by omega)]; exact h4
  · rw [hk (b + 1) (by omega) (by omega) (by omega) (by omega)]; exact h5
  · rw [hk (b + 9) (by omega) (by omega) (by omega) (by omega)]; exact a1
  · rw [hk (b + 11) (by omega) (by omega) (by omega) (by omega)]; exact a2
  · rw [hk (b + 10) (by omega) (by omega) (by omega) (by omega)]; exact a3
  · rw [hk (b + 12) (by omega) (by omega) (by omega) (by omega)]; exact a4
  · rw [hk (b + 14) (by omega) (by omega) (by omega) (by omega)]; exact b1
  · rw [hk (b + 14) (by omega) (by omega) (by omega) (by omega)]; exact b2
  · rw [hk (b + 16) (by omega) (by omega) (by omega) (by omega), hk (b + 17) (by omega) (by omega) (by omega) (by omega), hk (b + 18) (by omega) (by omega) (by omega) (by omega), hk (b + 19) (by omega) (by omega) (by omega) (by omega), hk (b + 15) (by omega) (by omega) (by omega) (by omega)]; exact b3
  · rw [hk (b + 21) (by omega) (by omega) (by omega) (by omega)]; exact c1
  · rw [hk (b + 21) (by omega) (by omega) (by omega) (by omega)]; exact c2
  · rw [hk (b + 22) (by omega) (by omega) (by omega) (by omega)]; exact c3
  · rw [hk (b + 23) (by omega) (by omega) (by omega) (by omega), hk (b + 24) (by omega) (by omega) (by omega) (by omega)]; exact c4
theorem RWo.keep {C C' : zM} {b : Nat} {w : Nat → Int32} (h : RWo C b w) (hk : ∀ o, b ≤ o → o ≤ b + 24 → o ≠ b + 20 → C' o = C o) : RWo C' b w := by
  obtain ⟨h1, h2, h3, h0, h4, h5, h6⟩ := h
  refine ⟨h1, h2, h3, h0, h4.keepb fun o a c e _ => hk o a c e, h5.keep fun o a c => hk o (by omega) (by omega) (by omega), fun i hi => ?_⟩
  rw [hk (b + 8) (by omega) (by omega) (by omega)]
  exact h6 i hi
theorem Rpast.keep {C C' : zM} {n : Int32} {bk w : Nat → Int32} (h : Rpast C n bk w) (h0 : C' 0 5 = C 0 5) (hk : ∀ o, 61 ≤ o → o ≤ 97 → C' o = C o) : Rpast C' n bk w := by
  obtain ⟨h1, h2, h3, h4, h5⟩ := h
  refine ⟨h0.trans h1, h2, fun i hi => by rw [hk 61 (by omega) (by omega)]; exact h3 i hi, fun i j hi hj he => h4 i j hi hj (by rw [hk 61 (by omega) (by omega)] at he; exact he), fun i hi hn => ?_⟩
  obtain ⟨a, b, c, e, f⟩ := h5 i hi hn
  obtain ⟨q, hq, eq⟩ := h3 i hi
  have et : (C 61 i).toInt.toNat = 62 + 6 * q := by rw [eq, iv_toInt (by omega) (by omega)]; omega
  refine ⟨a, b, c, ?_, f⟩
  rw [hk 61 (by omega) (by omega)]
  rw [et] at e ⊢
  exact e.keep fun o a b => hk o (by omega) (by omega)
theorem Rimg.keep {C C' : zM} {f : Int32} {k : Nat → Int32} (h : Rimg C f k) (h0 : C' 0 2 = C 0 2) (hk : ∀ o, 28 ≤ o → o ≤ 52 → C' o = C o) : Rimg C' f k := by
  obtain ⟨h1, h2⟩ := h
  refine ⟨h1, ?_⟩
  rcases h2 with ⟨a, b⟩ | ⟨a, b, c⟩
  · exact Or.inl ⟨a, h0.trans b⟩
  · exact Or.inr ⟨a, h0.trans b, c.keep fun o a b _ => hk o a (by omega)⟩
theorem Rtape.keep {C C' : zM} {n k p : Int32} {t : Nat → Int32} (h : Rtape C n k p t) (h8 : C' 98 = C 98) (h9 : C' 99 = C 99) : Rtape C' n k p t := by
  unfold Rtape at h ⊢
  rw [h8, h9]
  exact h
theorem Rnow.keep {C C' : zM} {w : Nat → Int32} (h : Rnow C w) (hk : ∀ o, 1 ≤ o → o ≤ 25 → o ≠ 21 → C' o = C o) : Rnow C' w := ⟨h.1.keep fun o a b c => hk o a b c, h.2⟩
theorem RR.ceq {C C' M : zM} (h : RR C M) (he : CEq C C') : RR C' M := by
  obtain ⟨h1, h2, h3, h4⟩ := h
  have e0 : C' 0 = C 0 := he 0 (by omega) (by omega) (by omega) (by omega) (by omega)
  exact ⟨h1.keep fun o a b c => he o (by omega) c (by omega) (by omega) (by omega), h2.keep (by rw [e0]) fun o a b => he o (by omega) (by omega) (by omega) (by omega) (by omega), h3.keep (by rw [e0]) fun o a b => he o (by omega) (by omega) (by omega) (by omega) (by omega), h4.keep (he 98 (by omega) (by omega) (by omega) (by omega) (by omega)) (he 99 (by omega) (by omega) (by omega) (by omega) (by omega))⟩
theorem Rpast.none {C C' : zM} {n : Int32} {bk w bk' w' : Nat → Int32} (h : Rpast C n bk w) (h0 : C' 0 5 = 0) (h61 : C' 61 = C 61) : Rpast C' 0 bk' w' := by
  obtain ⟨h1, h2, h3, h4, h5⟩ := h
  have z0 : (0 : Int32).toInt = 0 := rfl
  refine ⟨h0, ?_, by rw [h61]; exact h3, by rw [h61]; exact h4, fun i hi hn => ?_⟩
  · unfold rng
    omega
  · omega
/-- rows that agree but for the law, the paper and the book -/
theorem IMo.law {w v : Nat → Int32} (hi : IS w) (hv : ∀ j, j < 152 ∨ j = 154 → v j = w j) (h2 : ∀ j, 166 ≤ j → j < 538 → v j = w j) (h : IMo w) : IMo v := by
  have h60 := hi.2.2.2.2.2.2.2.2.1
  obtain ⟨h1, h2', h3, h4, h5, h6, h7, h8⟩ := h
  refine ⟨by rw [hv 2 (by omega)]; exact h1, fun t ht => ?_, fun t ht => ?_, fun t ht => ?_, fun c hc => ?_, fun c hc hcc => ?_, fun c hc => ?_, fun t ht hq => ?_⟩
  · rw [hv 150 (by omega), hv 151 (by omega), hv (3 + t) (by omega)]; exact h2' t ht
  · rw [hv (9 + t) (by omega), h2 (166 + t) (by omega) (by omega)]; exact h3 t ht
  · rw [hv (15 + t) (by omega)]; exact h4 t ht
  · rw [hv (21 + c) (by omega)]; exact h5 c hc
  · rw [hv 150 (by omega), hv 151 (by omega)] at hcc
    rw [hv (21 + c) (by omega)]; exact h6 c hc hcc
  · rw [hv (85 + c) (by omega), hv 154 (by omega)]; exact h7 c hc
  · rw [hv (9 + t) (by omega), h2 (166 + t) (by omega) (by omega)] at hq
    have h3t := h3 t ht
    have h6t := h60 t ht
    unfold rng at h6t
    have e : skt v t (w (9 + t)).toInt.toNat = skt w t (w (9 + t)).toInt.toNat := by
      unfold skt
      split
      · rfl
      · rw [h2 (178 + 60 * t + ((w (9 + t)).toInt.toNat - 1)) (by omega) (by omega)]
    rw [hv (15 + t) (by omega), hv (9 + t) (by omega), e]
    exact h8 t ht hq
/-- the past under a row that differs in the law, the paper or (more lines) the book -/
theorem Rpast.row {C : zM} {n : Int32} {bk w v : Nat → Int32} (hi : IS w) (hv : ∀ j, j = 150 ∨ j = 151 ∨ j = 154 → v j = w j) (h2 : ∀ j, 166 ≤ j → j < 538 → v j = w j) (hle : (w 2).toInt ≤ (v 2).toInt) (h : Rpast C n bk w) : Rpast C n bk v := by
  obtain ⟨a1, a2, a3, a4, a5⟩ := h
  refine ⟨a1, a2, a3, a4, fun i hi6 hn => ?_⟩
  obtain ⟨b1, b2, b3, b4, b5⟩ := a5 i hi6 hn
  have e1 : ∀ j, j < 150 → bkW bk v i j = bkW bk w i j := fun j hj => by unfold bkW; rw [if_pos hj, if_pos hj]
  have e2 : ∀ j, 150 ≤ j → bkW bk v i j = v j := fun j hj => by unfold bkW; rw [if_neg (by omega)]
  have e3 : ∀ j, 150 ≤ j → bkW bk w i j = w j := fun j hj => by unfold bkW; rw [if_neg (by omega)]
  refine ⟨b1.law (w := bkW bk w i) (hi.row e3) (fun j hj => ?_) (fun j h3 h4 => by rw [e2 j (by omega), e3 j (by omega)]; exact h2 j h3 h4), by rw [e1 0 (by omega)]; exact b2, by omega, RMo.row (w := bkW bk w i) (fun j hj => ?_) b4, b5⟩
  · by_cases c : j < 150
    · exact e1 j c
    · rw [e2 j (by omega), e3 j (by omega)]
      exact hv j (by omega)
  · rcases hj with hj | rfl
    · exact e1 j hj
    · rw [e2 154 (by omega), e3 154 (by omega)]
      exact hv 154 (by omega)
theorem RR.no {C M : zM} (h : RR C M) : INo (M 1) := h.1.1.2.2.2.1
theorem RR.rs {C M : zM} (h : RR C M) : RS C 1 (M 1) := h.1.1.2.2.2.2.1
theorem RR.rm {C M : zM} (h : RR C M) : RMo C 3 (M 1) := h.1.1.2.2.2.2.2.1
theorem RR.rb {C M : zM} (h : RR C M) : RBk C 9 (M 1) := h.1.1.2.2.2.2.2.2
/-- a call that forgets the past and leaves the image and the tape -/
theorem RR.change {C C' M M' : zM} (h : RR C M) (hw : RWo C' 1 (M' 1)) (hb : ∀ j, 2200 ≤ j → M' 1 j = 0) (hC : ∀ o, 28 ≤ o → o ≤ 99 → C' o = C o) (hc2 : C' 0 2 = C 0 2) (hc5 : C' 0 5 = 0) (hM2 : M' 2 = M 2) (h12 : M' 12 = M 12) (h04 : M' 0 4 = 0) (h05 : M' 0 5 = M 0 5) (h23 : M' 0 23 = M 0 23) (h30 : M' 0 30 = M 0 30) (h32 : M' 0 32 = M 0 32) : RR C' M' := by
  obtain ⟨h1, h2, h3, h4⟩ := h
  unfold RR
  rw [hM2, h12, h04, h05, h23, h30, h32]
  exact ⟨⟨hw, hb⟩, h2.keep hc2 fun o a b => hC o a (by omega), h3.none hc5 (hC 61 (by omega) (by omega)), h4.keep (hC 98 (by omega) (by omega)) (hC 99 (by omega) (by omega))⟩
theorem RR.is {C M : zM} (h : RR C M) : IS (M 1) := h.1.1.1
theorem RR.mo {C M : zM} (h : RR C M) : IMo (M 1) := h.1.1.2.1
theorem RR.bk {C M : zM} (h : RR C M) : IBk (M 1) := h.1.1.2.2.1
theorem zMo3 : zMo shC 3 := by
  refine ⟨?_, ?_, ?_, ?_, ?_, ?_⟩ <;> rfl
theorem zMo55 : zMo shC 55 := by
  refine ⟨?_, ?_, ?_, ?_, ?_, ?_⟩ <;> rfl
theorem zMoP {q : Nat} (h : q < 6) : zMo shC (62 + 6 * q) := by
  obtain rfl | rfl | rfl | rfl | rfl | rfl : q = 0 ∨ q = 1 ∨ q = 2 ∨ q = 3 ∨ q = 4 ∨ q = 5 := by omega
  all_goals
    refine ⟨?_, ?_, ?_, ?_, ?_, ?_⟩ <;> rfl
