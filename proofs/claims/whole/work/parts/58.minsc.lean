/-! MINUTES of the class -/
section KE8
variable {g : zG} {d : Nat} {M C : zM}
theorem tn_iv {k : Nat} (h : k < 2147483647) : (iv k).toNatClampNeg = k := (iv_idx (k := k) (n := k + 1) (by omega) (by omega)).2
/-- a moment copied -/
theorem c2_copy {Q : zM → Prop} {o m : Nat} (ho : zMo shC o) (hm : zMo shC m) (hne : o ≠ m) (h : ∀ C' : zM, (∀ x, (x < o ∨ o + 5 < x) → C' x = C x) → (∀ w : Nat → Int32, RMo C m w → RMo C' o w) → Q C') : zCv shC g (d + 1) mX2_copy [.ref o, .ref m] C Q := by
  have h1 := zMo_at ho
  have h2 := zMo_at hm
  have dis : o + 5 < m ∨ m + 5 < o := by omega
  refine vX2_copy ho hm (fun N1 e1 => h _ (fun x hx => ?_) (fun w hw => ?_))
  · funext j
    rw [e1]
    have n0 : x ≠ o := by omega
    have n1 : x ≠ o + 1 := by omega
    have n2 : x ≠ o + 2 := by omega
    have n3 : x ≠ o + 3 := by omega
    have n4 : x ≠ o + 4 := by omega
    have n5 : x ≠ o + 5 := by omega
    simp [zup, zcpy, n0, n1, n2, n3, n4, n5]
  · obtain ⟨r1, r2, r3, r4, r5, r6⟩ := hw
    rw [e1]
    have d0 : m ≠ o := by omega
    have dd : ∀ a b, a ≤ 5 → b ≤ 5 → m + a ≠ o + b := fun a b ha hb => by omega
    have d0b : ∀ b, b ≤ 5 → m ≠ o + b := fun b hb => by omega
    have d0a : ∀ a, a ≤ 5 → m + a ≠ o := fun a ha => by omega
    have p1 : ∀ b, b ≠ 0 → o + b ≠ o := fun b hb => by omega
    have p2 : ∀ b, b ≠ 0 → o ≠ o + b := fun b hb => by omega
    refine ⟨fun k hk => ?_, fun k hk => ?_, fun s hs hq => ⟨?_, ?_, ?_⟩, ?_, ?_, ?_⟩
    · have := r1 k hk
      simp [zup, zcpy, hk]
      exact this
    · have := r2 k hk
      simp [zup, zcpy, hk, dd]
      exact this
    · have := (r3 s hs hq).1
      simp [zup, zcpy, hs, dd]
      exact this
    · have := (r3 s hs hq).2.1
      simp [zup, zcpy, hs, dd]
      exact this
    · have := (r3 s hs hq).2.2
      simp [zup, zcpy, hs, dd]
      exact this
    · simp [zup, zcpy, d0, d0b]
      exact r4
    · simp [zup, zcpy, d0, d0b]
      exact r5
    · simp [zup, zcpy, d0, d0b]
      exact r6
theorem bkW_lo {bk w : Nat → Int32} {i j : Nat} (h : j < 150) : bkW bk w i j = bk (150 * i + j) := by
  unfold bkW
  rw [if_pos h]
theorem bkW_hi {bk w : Nat → Int32} {i j : Nat} (h : 150 ≤ j) : bkW bk w i j = w j := by
  unfold bkW
  rw [if_neg (by omega)]
theorem keepBk_old {n i : Nat} {bk w : Nat → Int32} (hn : n < 6) (h : i < n) : bkW (keepBk n bk w) w i = bkW bk w i := by
  funext j
  unfold bkW keepBk
  split
  · rw [if_neg (by omega), if_neg (by omega)]
  · rfl
theorem keepBk_sh {i : Nat} {bk w : Nat → Int32} (h : i < 5) : bkW (keepBk 6 bk w) w i = bkW bk w (i + 1) := by
  funext j
  unfold bkW keepBk
  split
  · rw [if_pos rfl, if_neg (by omega), if_pos (by omega)]
    congr 1
    omega
  · rfl
theorem keepBk_new {n m : Nat} {bk w : Nat → Int32} (hn : n ≤ 6) (hm : m + 1 = keepN n) : bkW (keepBk n bk w) w m = w := by
  funext j
  unfold bkW keepBk
  unfold keepN at hm
  split
  · by_cases c : n = 6
    · rw [if_pos c, if_pos (by rw [if_pos c] at hm; omega)]
      rw [if_pos c] at hm
      rw [show 150 * m + j - 750 = j by omega]
    · rw [if_neg c, if_pos (by rw [if_neg c] at hm; omega)]
      rw [if_neg c] at hm
      rw [show 150 * m + j - 150 * n = j by omega]
  · rfl
theorem keepBk_at {n m i j : Nat} {bk w : Nat → Int32} (hj : j < 150) : keepBk n bk w (150 * i + j) = bkW (keepBk n bk w) w i j := (bkW_lo hj).symm
/-- the past of the class with m kept moments, one more laid on it -/
theorem Rpast.push {C' : zM} {n m : Nat} {bk w : Nat → Int32} (hn : n ≤ 6) (hm : m + 1 = keepN n) (h0 : C' 0 5 = iv (m + 1 : Nat)) (hp : ∀ i, i < 6 → ∃ q, q < 6 ∧ C' 61 i = iv (62 + 6 * q : Nat)) (hj : ∀ i j, i < 6 → j < 6 → C' 61 i = C' 61 j → i = j)
    (ho : ∀ i, i < m → IMo (bkW (keepBk n bk w) w i) ∧ rng (bkW (keepBk n bk w) w i 0) 0 9999 ∧ (keepBk n bk w (150 * i + 2)).toInt ≤ (w 2).toInt ∧ RMo C' (C' 61 i).toInt.toNat (bkW (keepBk n bk w) w i) ∧ ∀ j, i < j → j < m → (keepBk n bk w (150 * i + 2)).toInt ≤ (keepBk n bk w (150 * j + 2)).toInt)
    (hw : IMo w) (hb : rng (w 0) 0 9999) (hr : RMo C' (C' 61 m).toInt.toNat w) : Rpast C' (iv (keepN n : Nat)) (keepBk n bk w) w := by
  have hk := keepN_le hn
  have en := keepBk_new (bk := bk) (w := w) hn hm
  have e2 : keepBk n bk w (150 * m + 2) = w 2 := by
    have := congrFun en 2
    rw [bkW_lo (by omega)] at this
    exact this
  rw [← hm]
  refine ⟨h0, ?_, hp, hj, fun i hi hq => ?_⟩
  · unfold rng
    rw [iv_toInt (by omega) (by omega)]
    omega
  · rw [iv_toInt (by omega) (by omega)] at hq ⊢
    by_cases e : i = m
    · subst e
      rw [en]
      exact ⟨hw, hb, by rw [e2]; omega, hr, fun j a b => by omega⟩
    · obtain ⟨a1, a2, a3, a4, a5⟩ := ho i (by omega)
      refine ⟨a1, a2, a3, a4, fun j b1 b2 => ?_⟩
      by_cases ej : j = m
      · rw [ej, e2]
        exact a3
      · exact a5 j b1 (by omega)
theorem rr_keep {C' : zM} (hR : RR C M) (hC : ∀ o, o ≤ 60 → o ≠ 0 → C' o = C o) (h02 : C' 0 2 = C 0 2) (h98 : C' 98 = C 98) (h99 : C' 99 = C 99) (hp : Rpast C' (iv (keepN (M 0 4).toInt.toNat : Nat)) (keepBk (M 0 4).toInt.toNat (M 3) (M 1)) (M 1)) : RR C' (keepM M) := by
  obtain ⟨r1, r2, r3, r4⟩ := hR
  refine ⟨?_, ?_, ?_, ?_⟩
  · show Rnow C' (M 1)
    exact r1.keep fun o a b _ => hC o (by omega) (by omega)
  · show Rimg C' (M 0 5) (M 2)
    exact r2.keep h02 fun o a b => hC o (by omega) (by omega)
  · exact hp
  · show Rtape C' (M 0 23) (M 0 30) (M 0 32) (M 12)
    exact r4.keep h98 h99
theorem c8_keepPast {Q : zM → Prop} (hR : RR C M) (h : ∀ C' : zM, RR C' (keepM M) → Q C') : zCv shC g (d + 2) mX8_keepPast [.ref 0] C Q := by
  obtain ⟨h1, h2, h3, h4, h5⟩ := hR.2.2.1
  obtain ⟨n, en, hn6, en2⟩ := rng_nat (b := 6) h2
  have e5 : C 0 5 = iv n := h1.trans en
  have en3 : (M 0 4).toInt.toNat = n := by omega
  have hw := hR.mo
  have hb0 := hR.bk.1
  have ptn : ∀ i, i < 6 → ∃ q, q < 6 ∧ C 61 i = iv (62 + 6 * q : Nat) ∧ (C 61 i).toNatClampNeg = 62 + 6 * q ∧ (C 61 i).toInt.toNat = 62 + 6 * q := fun i hi => by
    obtain ⟨q, hq, eq⟩ := h3 i hi
    exact ⟨q, hq, eq, by rw [eq, tn_iv (by omega)], by rw [eq, iv_tn (by omega)]⟩
  refine vX8_keepPast ⟨fun c => ?_, fun c => ?_⟩
  · rw [e5, Int32.lt_iff_toInt_lt, iv_toInt (by omega) (by omega)] at c
    simp only [Int32.reduceToInt] at c
    have hn : n < 6 := by omega
    obtain ⟨q, hq, eq1, eq2, eq3⟩ := ptn n hn
    refine vX8_keepPast_56 ⟨n, e5, hn, 62 + 6 * q, eq2, zMoP hq, c2_copy (zMoP hq) zMo3 (by omega) (fun C1 o1 r1 => h _ ?_)⟩
    have z61 : ∀ x : Int32, (zup C1 0 5 x) 61 = C 61 := fun x => by rw [zup_oth (by decide), o1 61 (by omega)]
    refine rr_keep hR (fun o a b => ?_) ?_ ?_ ?_ ?_
    · rw [zup_oth b, o1 o (by omega)]
    · rw [zup_ne (by omega), o1 0 (by omega)]
    · rw [zup_oth (by omega), o1 98 (by omega)]
    · rw [zup_oth (by omega), o1 99 (by omega)]
    · rw [en3]
      have kn : n + 1 = keepN n := by unfold keepN; rw [if_neg (by omega)]
      refine Rpast.push (m := n) (by omega) kn ?_ ?_ ?_ (fun i hi => ?_) hw hb0 ?_
      · rw [zup_same, o1 0 (by omega), e5, iv_s]
      · rw [z61]
        exact h3
      · rw [z61]
        exact h4
      · have hi6 : i < 6 := by omega
        obtain ⟨a1, a2, a3, a4, a5⟩ := h5 i hi6 (by omega)
        obtain ⟨q2, hq2, f1, f2, f3⟩ := ptn i hi6
        have qne : q2 ≠ q := fun z => by
          have := h4 i n hi6 hn (by rw [f1, eq1, z])
          omega
        have ek : ∀ k, k < n → keepBk n (M 3) (M 1) (150 * k + 2) = M 3 (150 * k + 2) := fun k hk => by
          have := congrFun (keepBk_old (bk := M 3) (w := M 1) hn hk) 2
          rw [bkW_lo (by omega), bkW_lo (by omega)] at this
          exact this
        rw [keepBk_old hn hi, z61, ek i hi]
        refine ⟨a1, a2, a3, ?_, fun j b1 b2 => ?_⟩
        · rw [f3] at a4 ⊢
          exact a4.keep fun o b1 b2 => by rw [zup_oth (by omega), o1 o (by omega)]
        · rw [ek j b2]
          exact a5 j b1 (by omega)
      · rw [z61, eq3]
        have := r1 (M 1) hR.rm
        exact this.keep fun o b1 b2 => zup_oth (by omega)
  · rw [e5, Int32.lt_iff_toInt_lt, iv_toInt (by omega) (by omega)] at c
    simp only [Int32.reduceToInt] at c
    have hn : n = 6 := by omega
    obtain ⟨q, hq, eq1, eq2, eq3⟩ := ptn 0 (by omega)
    refine ⟨62 + 6 * q, eq2, zMoP hq, ?_⟩
    have loop : ∀ (f k : Nat) (C1 : zM), k + f = 6 → 1 ≤ k → (∀ o, o ≠ 61 → C1 o = C o) → (∀ i, i < 6 → C1 61 i = if i + 1 < k then C 61 (i + 1) else C 61 i) → zW shC g (d + 2) mX8_keepPast (zv Q) 18 [(0, .ref 0), (1, .ref (62 + 6 * q)), (2, .int (iv k))] [] C1 := by
      intro f
      induction f with
      | zero =>
        intro k C1 hk h1k ho hc
        have ek : k = 6 := by omega
        subst ek
        refine vX8_keepPast_18 (zMoP hq) ⟨fun _ => ?_, fun z => absurd (by decide) z⟩
        have s61 : ∀ i, i < 6 → (zup (zup C1 61 5 (iv (62 + 6 * q : Nat))) 0 5 5) 61 i = C 61 (if i = 5 then 0 else i + 1) := fun i hi => by
          rw [zup_oth (by decide)]
          by_cases e : i = 5
          · rw [e, zup_same, if_pos rfl, eq1]
          · rw [zup_ne (Or.inr e), hc i hi, if_pos (by omega), if_neg e]
        have so : ∀ o, o ≠ 0 → o ≠ 61 → (zup (zup C1 61 5 (iv (62 + 6 * q : Nat))) 0 5 5) o = C o := fun o a b => by
          rw [zup_oth a, zup_oth b, ho o b]
        have s05 : (zup (zup C1 61 5 (iv (62 + 6 * q : Nat))) 0 5 5) 0 5 = iv (5 : Nat) := by
          rw [zup_same]
          rfl
        have s02 : (zup (zup C1 61 5 (iv (62 + 6 * q : Nat))) 0 5 5) 0 2 = C 0 2 := by
          rw [zup_ne (by omega), zup_oth (by decide), ho 0 (by decide)]
        generalize zup (zup C1 61 5 (iv (62 + 6 * q : Nat))) 0 5 5 = C2 at s61 so s05 s02
        have p5 : C2 61 5 = C 61 0 := by
          have := s61 5 (by omega)
          rw [if_pos rfl] at this
          exact this
        refine vX8_keepPast_56 ⟨5, s05, by omega, 62 + 6 * q, by rw [p5]; exact eq2, zMoP hq, c2_copy (zMoP hq) zMo3 (by omega) (fun C3 o3 r3 => h _ ?_)⟩
        have z61 : ∀ x : Int32, (zup C3 0 5 x) 61 = C2 61 := fun x => by rw [zup_oth (by decide), o3 61 (by omega)]
        refine rr_keep hR (fun o a b => ?_) ?_ ?_ ?_ ?_
        · rw [zup_oth b, o3 o (by omega), so o b (by omega)]
        · rw [zup_ne (by omega), o3 0 (by omega), s02]
        · rw [zup_oth (by omega), o3 98 (by omega), so 98 (by omega) (by omega)]
        · rw [zup_oth (by omega), o3 99 (by omega), so 99 (by omega) (by omega)]
        · rw [en3, hn]
          refine Rpast.push (m := 5) (by omega) rfl ?_ ?_ ?_ (fun i hi => ?_) hw hb0 ?_
          · rw [zup_same, o3 0 (by omega), s05, iv_s]
          · rw [z61]
            intro i hi
            rw [s61 i hi]
            exact h3 _ (by split <;> omega)
          · rw [z61]
            intro i j hi hj he
            rw [s61 i hi, s61 j hj] at he
            have := h4 _ _ (by split <;> omega) (by split <;> omega) he
            split at this <;> split at this <;> omega
          · obtain ⟨a1, a2, a3, a4, a5⟩ := h5 (i + 1) (by omega) (by omega)
            obtain ⟨q2, hq2, f1, f2, f3⟩ := ptn (i + 1) (by omega)
            have qne : q2 ≠ q := fun z => by
              have := h4 (i + 1) 0 (by omega) (by omega) (by rw [f1, eq1, z])
              omega
            have ek : ∀ k, k < 5 → keepBk 6 (M 3) (M 1) (150 * k + 2) = M 3 (150 * (k + 1) + 2) := fun k hk => by
              have := congrFun (keepBk_sh (bk := M 3) (w := M 1) hk) 2
              rw [bkW_lo (by omega), bkW_lo (by omega)] at this
              exact this
            rw [keepBk_sh hi, z61, ek i hi, s61 i (by omega), if_neg (by omega)]
            refine ⟨a1, a2, a3, ?_, fun j b1 b2 => ?_⟩
            · rw [f3] at a4 ⊢
              exact a4.keep fun o b1 b2 => by rw [zup_oth (by omega), o3 o (by omega), so o (by omega) (by omega)]
            · rw [ek j b2]
              exact a5 (j + 1) (by omega) (by omega)
          · rw [z61, p5, eq3]
            have hr2 : RMo C2 3 (M 1) := hR.rm.keep fun o b1 b2 => so o (by omega) (by omega)
            have := r3 (M 1) hr2
            exact this.keep fun o b1 b2 => zup_oth (by omega)
      | succ f ih =>
        intro k C1 hk h1k ho hc
        obtain ⟨q2, hq2, f1, f2, f3⟩ := ptn k (by omega)
        have ck : C1 61 k = C 61 k := by rw [hc k (by omega), if_neg (by omega)]
        refine vX8_keepPast_18 (zMoP hq) ⟨fun z => ?_, fun _ => ⟨k, rfl, by omega, 62 + 6 * q2, by rw [ck]; exact f2, zMoP hq2, k - 1, ?_, by omega, ?_⟩⟩
        · exfalso
          rw [Int32.le_iff_toInt_le, iv_toInt (by omega) (by omega)] at z
          simp only [Int32.reduceToInt] at z
          omega
        · rw [show (1 : Int32) = iv 1 from rfl, iv_sub]
          congr 1
          omega
        · rw [iv_s]
          refine ih (k + 1) _ (by omega) (by omega) (fun o a => (zup_oth a).trans (ho o a)) (fun i hi => ?_)
          by_cases e : i = k - 1
          · rw [e, zup_same, if_pos (by omega), show k - 1 + 1 = k by omega, f1]
          · rw [zup_ne (Or.inr e), hc i hi]
            by_cases e2 : i + 1 < k
            · rw [if_pos e2, if_pos (by omega)]
            · rw [if_neg e2, if_neg (by omega)]
    exact loop 5 1 C (by omega) (by omega) (fun _ _ => rfl) (fun i hi => by rw [if_neg (by omega)])
/-- one minute with what is kept ahead of it -/
theorem rr_one {C' : zM} (hR : RR C (keepM M)) (hi : IS (M 1)) (hq : IMo (M 1)) (hb : IBk (M 1)) (hlt : (M 1 0).toInt < 9999) (ho : ∀ o, (o < 3 ∨ 3 + 5 < o) → o ≠ 9 → o ≠ 21 → o ≠ 26 → o ≠ 27 → C' o = C o) (hr : RMo C' 3 (minW true (M 1))) (hB : RBk C' 9 (minW true (M 1))) : RR C' (oneM M) := by
  obtain ⟨r1, r2, r3, r4⟩ := hR
  obtain ⟨m1, m2⟩ := minW_keep (real := true) hi hq
  obtain ⟨b1, b2, b3, b4⟩ := minW_bk (real := true) hb hi hq hlt
  have r1' : Rnow C (M 1) := r1
  have rS : RS C 1 (M 1) := r1'.1.2.2.2.2.1
  have e0 : C' 0 = C 0 := ho 0 (by omega) (by omega) (by omega) (by omega) (by omega)
  refine ⟨⟨⟨?_, m1, b1, ?_, ?_, hr, hB⟩, ?_⟩, ?_, ?_, ?_⟩
  · exact hi.row2 m2
  · exact r1'.1.2.2.2.1.row fun j hj => m2 j (by omega) (by omega)
  · exact (rS.keepb fun o a b c e => ho o (by omega) (by omega) (by omega) (by omega) (by omega)).row2 hi m2
  · intro j hj
    show minW true (M 1) j = 0
    rw [m2 j (by omega) (by omega)]
    exact r1'.2 j hj
  · have : Rimg C (keepM M 0 5) (keepM M 2) := r2
    exact this.keep (by rw [e0]) fun o a b => ho o (by omega) (by omega) (by omega) (by omega) (by omega)
  · have h3 : Rpast C (keepM M 0 4) (keepM M 3) (M 1) := r3
    exact (h3.keep (by rw [e0]) fun o a b => ho o (by omega) (by omega) (by omega) (by omega) (by omega)).row hi (fun j hj => m2 j (by omega) (by omega)) (fun j a b => m2 j (by omega) (by omega)) b2
  · exact r4.keep (ho 98 (by omega) (by omega) (by omega) (by omega) (by omega)) (ho 99 (by omega) (by omega) (by omega) (by omega) (by omega))
theorem c8_minutes {Q : Int32 → zM → Prop} {n : Int32} (hR : RR C M) (h : ∀ C' : zM, RR C' (minutesM M n) → Q (minutesV M n) C') : zCi shC g (d + 6) mX8_minutes [.ref 0, .int n] C Q := by
  have e5 : C 3 5 = M 1 0 := hR.rm.2.2.2.1
  have z1 : (1 : Int32).toInt = 1 := rfl
  have z60 : (60 : Int32).toInt = 60 := rfl
  obtain ⟨b0, b1⟩ := hR.bk.1
  have loop : ∀ (N : Nat), N ≤ 60 → ∀ (f k : Nat) (l : Int32) (C X : zM), k + f = N → RR C X → (X 1 0).toInt + f ≤ 9999 → (∀ C' : zM, RR C' (minsM f X) → Q (minsF f l X) C') → zW shC g (d + 6) mX8_minutes (zi Q) 35 [(0, .ref 0), (1, .int (iv N)), (2, .int l), (3, .int (iv k))] [] C := by
    intro N hN f
    induction f with
    | zero =>
      intro k l C X hk hR hm h
      refine vX8_minutes_35 ⟨fun _ => h C hR, fun z => ?_⟩
      exfalso
      rw [Int32.le_iff_toInt_le, iv_toInt (by omega) (by omega), iv_toInt (by omega) (by omega)] at z
      omega
    | succ f ih =>
      intro k l C X hk hR hm h
      have hi := hR.is
      have hq := hR.mo
      have hb := hR.bk
      refine vX8_minutes_35 ⟨fun z => ?_, fun _ => c8_keepPast hR (fun C1 h1 => c7_pass (w := X 1) zMo3 (fun _ => rfl) hi hq h1.rs h1.rm h1.rb (fun C2 o2 r2 b2 => ?_))⟩
      · exfalso
        rw [Int32.le_iff_toInt_le, iv_toInt (by omega) (by omega), iv_toInt (by omega) (by omega)] at z
        omega
      · rw [iv_s]
        obtain ⟨-, -, -, q4⟩ := minW_bk (real := true) hb hi hq (by omega)
        have q4' : (oneM X 1 0).toInt = (X 1 0).toInt + 1 := q4
        exact ih (k + 1) _ C2 (oneM X) (by omega) (rr_one h1 hi hq hb (by omega) o2 r2 b2) (by rw [q4']; omega) h
  have no : ¬ (1 ≤ n.toInt ∧ n.toInt ≤ 60 ∧ (M 1 0).toInt + n.toInt ≤ 9999) → Q (-1) C := by
    intro z
    have e : minsOK (M 1) n = false := decide_eq_false z
    unfold minutesV minutesM at h
    rw [e, if_neg (by decide), if_neg (by decide)] at h
    exact h C hR
  refine vX8_minutes ⟨fun c => no fun z => ?_, fun c => ⟨fun c2 => no fun z => ?_, fun c2 => ⟨fun c3 => ?_, fun c3 => no fun z => ?_⟩⟩⟩
  · rw [Int32.lt_iff_toInt_lt, z1] at c
    omega
  · rw [Int32.lt_iff_toInt_lt, z60] at c2
    omega
  · rw [Int32.lt_iff_toInt_lt, z1] at c
    rw [Int32.lt_iff_toInt_lt, z60] at c2
    rw [e5, Int32.le_iff_toInt_le, ti_add (by omega) (by omega)] at c3
    simp only [Int32.reduceToInt] at c3
    have e : minsOK (M 1) n = true := decide_eq_true ⟨by omega, by omega, c3⟩
    unfold minutesV minutesM at h
    rw [e, if_pos rfl, if_pos rfl] at h
    obtain ⟨N, rfl, hN, hN2⟩ := iv_nat (x := n) (n := 61) (by omega) (by omega)
    rw [iv_tn (by omega)] at h
    exact loop N (by omega) N 0 0 C M (by omega) hR (by omega) h
  · rw [Int32.lt_iff_toInt_lt, z1] at c
    rw [Int32.lt_iff_toInt_lt, z60] at c2
    rw [e5, Int32.le_iff_toInt_le, ti_add (by omega) (by omega)] at c3
    simp only [Int32.reduceToInt] at c3
    omega
end KE8
