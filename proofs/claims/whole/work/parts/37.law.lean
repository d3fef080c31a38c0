/-! cut and thaw: both sides -/
def edgeV (w : Nat → Int32) (k : Nat) : Int32 := if k % 8 = 0 ∨ k / 8 = 0 ∨ ((k % 8 : Nat) : Int) = (w 150).toInt - 1 ∨ ((k / 8 : Nat) : Int) = (w 151).toInt - 1 then 1 else 0
def factsV (w : Nat → Int32) (k : Nat) (hand cr : Int32) : Nat → Int32
  | 0 => w (21 + k)
  | 1 => edgeV w k
  | 2 => w 0
  | 3 => hand
  | 4 => cr
  | _ => iv (arN w k : Nat)
def condB (w f : Nat → Int32) (i : Nat) : Bool := decide (w (1348 + i) = w (1332 + i)) || decide (evV w f (w (1332 + i)).toInt.toNat ((w (1348 + i)).toInt.toNat - (w (1332 + i)).toInt.toNat) = 1)
def rawF (w f : Nat → Int32) (word dflt : Int32) : Nat → Nat → Int32
  | 0, _ => dflt
  | n + 1, i => if w (1364 + i) = word ∧ condB w f i = true then evV w f (w (1316 + i)).toInt.toNat ((w (1332 + i)).toInt.toNat - (w (1316 + i)).toInt.toNat) else rawF w f word dflt n (i + 1)
def heldV (x : Int32) : Int32 := if x.toInt ≤ 0 then 0 else if 9 ≤ x.toInt then 9 else x
def othB (w : Nat → Int32) (k : Nat) (s : Int32) : Bool := decide (w (85 + k) ≠ -1 ∧ w (85 + k) ≠ s)
def lawV (w f : Nat → Int32) (word dflt : Int32) : Int32 := heldV (rawF w f word dflt (w 156).toInt.toNat 0)
def cutV (w : Nat → Int32) (s k : Nat) : Int32 := lawV w (factsV w k (w (160 + s)) (zbI (othB w k (iv s)))) 20 2
def thawV (w : Nat → Int32) (k : Nat) : Int32 := lawV w (factsV w k 0 0) 21 0
section L9
variable {g : zG} {d : Nat}
theorem c9_lays {Q : zM → Prop} {M : zM} {k : Nat} (hw : WHw (M 1)) (hk : k < 64) (h : ∀ M' : zM, (∀ o, o ≠ 14 → M' o = M o) → (∀ i, i < 6 → M' 14 (i + 1) = factsV (M 1) k 0 0 i) → Q M') : zCv shM g (d + 4) mX9_lays [.ref 0, .int (iv k)] M Q := by
  obtain ⟨w1, w2, w3, w4⟩ := hw
  have e1 : iv k / 8 = iv (k / 8 : Nat) := by
    rw [eqI, ti_div] <;> simp (disch := omega) only [iv_toInt, Int32.reduceToInt] <;> omega
  have e2 : iv k - iv (k / 8 : Nat) * 8 = iv (k % 8 : Nat) := by
    rw [show (8 : Int32) = iv 8 from rfl, iv_mul, iv_sub]
    congr 1
    omega
  have last : ∀ e : Int32, e = edgeV (M 1) k → zW shM g (d + 4) mX9_lays (zv Q) 71 [(0, .ref 0), (1, .int (iv k))] [.int e, .int 2, .ref 14] (zup M 14 1 (M 1 (21 + k))) := by
    intro e he
    have hrow : (zup (zup (zup (zup (zup M 14 1 (M 1 (21 + k))) 14 2 e) 14 3 ((zup (zup M 14 1 (M 1 (21 + k))) 14 2 e) 1 0)) 14 4 0) 14 5 0) 1 = M 1 := by
      simp only [zup_oth (show (1 : Nat) ≠ 14 by decide)]
    refine vX9_lays_71 (c9_aroundOf (by rw [hrow]; exact ⟨w1, w2, w3, w4⟩) hk ?_)
    rw [hrow]
    refine h _ (fun o ho => by simp only [zup_oth ho]) (fun i hi => ?_)
    have hi' : i = 0 ∨ i = 1 ∨ i = 2 ∨ i = 3 ∨ i = 4 ∨ i = 5 := by omega
    rcases hi' with rfl | rfl | rfl | rfl | rfl | rfl <;> simp [zup, factsV, he]
  have one : edgeV (M 1) k = 1 → zW shM g (d + 4) mX9_lays (zv Q) 66 [(0, .ref 0), (1, .int (iv k))] [.int 2, .ref 14] (zup M 14 1 (M 1 (21 + k))) := fun e => vX9_lays_66 (last 1 e.symm)
  refine vX9_lays ⟨21 + k, iv_n 21 k, by omega, ?_⟩
  simp only [zup_oth (show (1 : Nat) ≠ 14 by decide)]
  rw [e1, e2]
  refine ⟨fun c => one ?_, fun c => ⟨fun c2 => one ?_, fun c2 => ⟨fun c3 => one ?_, fun c3 => ⟨fun c4 => last 0 ?_, fun c4 => one ?_⟩⟩⟩⟩
  all_goals
    simp (disch := ((try simp (disch := ((try simp (disch := ((try simp only [Int32.reduceToInt]); omega)) only [Int32.reduceToInt, ti_rem, ti_div, ti_mul, ti_add, ti_sub, iv_toInt]); omega)) only [Int32.reduceToInt, ti_rem, ti_div, ti_mul, ti_add, ti_sub, iv_toInt]); omega)) only [eqI, iv_toInt, ti_sub, Int32.reduceToInt] at *
    unfold edgeV
  · rw [if_pos (by omega)]
    rfl
  · rw [if_pos (by omega)]
    rfl
  · rw [if_pos (by omega)]
    rfl
  · rw [if_neg (by omega)]
    rfl
  · rw [if_pos (by omega)]
    rfl
theorem LawOK.line {w : Nat → Int32} (h : LawOK w) {i : Nat} (hi : (i : Int) < (w 156).toInt) : ∃ f m t : Nat, w (1316 + i) = iv f ∧ w (1332 + i) = iv m ∧ w (1348 + i) = iv t ∧ f < m ∧ m ≤ t ∧ t ≤ 400 ∧ (w (1364 + i) = 20 ∨ w (1364 + i) = 21) ∧ codesOK w f m ∧ codesOK w m t ∧ tyRun w f (m - f) [] = some [false] ∧ (m < t → tyRun w m (t - m) [] = some [true]) := by
  obtain ⟨f, m, t, h1, h2, h3, h4, h5, h6, h7, h8, h9, h10⟩ := h.2.2 i hi
  exact ⟨f, m, t, h1, h2, h3, h4, h5, h6, h7, fun j a b => h8 j a (by omega), fun j a b => h8 j (by omega) b, h9, h10⟩
theorem c9_isSo {Q : Bool → zM → Prop} {M : zM} {f : Nat → Int32} {i : Nat} (hL : LawOK (M 1)) (hi : (i : Int) < (M 1 156).toInt) (hf : ∀ i, i < 6 → M 14 (i + 1) = f i) (h : ∀ M' : zM, (∀ o, o ≠ 13 → M' o = M o) → Q (condB (M 1) f i) M') : zCz shM g (d + 2) mX9_isSo [.ref 0, .int (iv i)] M Q := by
  have h16 := hL.2.1
  obtain ⟨f0, m0, t0, h1, h2, h3, h4, h5, h6, h7, h8, h9, h10, h11⟩ := hL.line hi
  refine vX9_isSo ⟨1348 + i, iv_n 1348 i, by omega, 1332 + i, iv_n 1332 i, by omega, fun c => ?_, fun c => ?_⟩
  · have e : condB (M 1) f i = true := by
      unfold condB
      rw [decide_eq_true c]
      rfl
    have := h M (fun _ _ => rfl)
    rw [e] at this
    exact this
  · have hmt : m0 < t0 := by
      rcases Nat.lt_or_ge m0 t0 with q | q
      · exact q
      · exfalso
        apply c
        rw [h2, h3]
        congr 2
        omega
    rw [h2, h3]
    refine c9_comesTo (f := f) (b := true) (by omega) h6 h9 hf (h11 hmt) (fun M' hM hb => ?_)
    have hv : condB (M 1) f i = decide (evV (M 1) f m0 (t0 - m0) = 1) := by
      unfold condB
      rw [decide_eq_false c, h2, h3, iv_toInt (by omega) (by omega), iv_toInt (by omega) (by omega)]
      rfl
    have hq := h M' hM
    rw [hv] at hq
    exact ⟨fun c2 => dF hq c2, fun c2 => dT hq c2⟩
theorem rawF_def {w f : Nat → Int32} {word dflt : Int32} {n i : Nat} : rawF w f word dflt (n + 1) i = if w (1364 + i) = word ∧ condB w f i = true then evV w f (w (1316 + i)).toInt.toNat ((w (1332 + i)).toInt.toNat - (w (1316 + i)).toInt.toNat) else rawF w f word dflt n (i + 1) := rfl
theorem c9_says {Q : Int32 → zM → Prop} {M : zM} {f : Nat → Int32} {word dflt : Int32} (hL : LawOK (M 1)) (hf : ∀ i, i < 6 → M 14 (i + 1) = f i) (hd : heldV dflt = dflt) (h : ∀ M' : zM, (∀ o, o ≠ 13 → M' o = M o) → Q (lawV (M 1) f word dflt) M') : zCi shM g (d + 3) mX9_says [.ref 0, .int word, .int dflt] M Q := by
  have h0 := hL.1
  have h16 := hL.2.1
  refine vX9_says ?_
  have loop : ∀ (n i : Nat) (M1 : zM), i + n = (M 1 156).toInt.toNat → (∀ o, o ≠ 13 → M1 o = M o) → (∀ M' : zM, (∀ o, o ≠ 13 → M' o = M o) → Q (heldV (rawF (M 1) f word dflt n i)) M') → zW shM g (d + 3) mX9_says (zi Q) 2 [(0, .ref 0), (1, .int word), (2, .int dflt), (3, .int (iv i))] [] M1 := by
    intro n
    induction n with
    | zero =>
      intro i M1 hi hM h
      have r1 : M1 1 = M 1 := hM 1 (by decide)
      refine vX9_says_2 ⟨fun _ => ?_, fun c => ?_⟩
      · have := h M1 hM
        rw [rawF, hd] at this
        exact this
      · rw [r1, Int32.le_iff_toInt_le, iv_toInt (by omega) (by omega)] at c
        omega
    | succ n ih =>
      intro i M1 hi hM h
      have r1 : M1 1 = M 1 := hM 1 (by decide)
      rw [rawF_def] at h
      have hi' : (i : Int) < (M 1 156).toInt := by omega
      obtain ⟨f0, m0, t0, h1, h2, h3, h4, h5, h6, h7, h8, h9, h10, h11⟩ := hL.line hi'
      refine vX9_says_2 ⟨fun c => ?_, fun _ => ⟨1364 + i, iv_n 1364 i, by omega, ?_⟩⟩
      · rw [r1, Int32.le_iff_toInt_le, iv_toInt (by omega) (by omega)] at c
        omega
      rw [r1, iv_s]
      refine ⟨fun c => ?_, fun c => ?_⟩
      · rw [if_neg (fun z => c z.1)] at h
        exact ih (i + 1) M1 (by omega) hM h
      · refine c9_isSo (f := f) (by rw [r1]; exact hL) (by rw [r1]; exact hi') (fun j hj => by rw [hM 14 (by decide)]; exact hf j hj) (fun M2 hM2 => ?_)
        have hM2' : ∀ o, o ≠ 13 → M2 o = M o := fun o ho => (hM2 o ho).trans (hM o ho)
        have r2 : M2 1 = M 1 := hM2' 1 (by decide)
        rw [r1]
        refine ⟨fun c2 => ?_, fun c2 => ?_⟩
        · rw [if_neg (fun z => by rw [c2] at z; cases z.2)] at h
          exact ih (i + 1) M2 (by omega) hM2' h
        · rw [if_pos ⟨c, c2⟩] at h
          refine ⟨1316 + i, iv_n 1316 i, by omega, 1332 + i, iv_n 1332 i, by omega, ?_⟩
          rw [r2, h1, h2]
          refine c9_comesTo (f := f) (b := false) (by omega) (by omega) (by rw [r2]; exact h8) (fun j hj => by rw [hM2' 14 (by decide)]; exact hf j hj) (by rw [r2]; exact h10) (fun M3 hM3 _ => ?_)
          rw [r2]
          have hq := h M3 (fun o ho => (hM3 o ho).trans (hM2' o ho))
          rw [h1, h2, iv_toInt (by omega) (by omega), iv_toInt (by omega) (by omega)] at hq
          simp only [Int.toNat_natCast] at hq
          generalize evV (M 1) f f0 (m0 - f0) = x at hq ⊢
          refine c9_lesser (c9_greater ?_)
          have e : (if (if (9 : Int32) < x then (9 : Int32) else x) < 0 then (0 : Int32) else (if (9 : Int32) < x then (9 : Int32) else x)) = heldV x := by
            unfold heldV
            simp only [Int32.lt_iff_toInt_lt, Int32.reduceToInt]
            have t9 : (9 : Int32).toInt = 9 := rfl
            by_cases q1 : 9 < x.toInt
            · rw [if_pos q1, if_neg (by rw [t9]; omega), if_neg (by omega), if_pos (by omega)]
            · rw [if_neg q1]
              by_cases q2 : x.toInt < 0
              · rw [if_pos q2, if_pos (by omega)]
              · rw [if_neg q2]
                by_cases q3 : x.toInt ≤ 0
                · rw [if_pos q3, eqI]
                  simp only [Int32.reduceToInt]
                  omega
                · rw [if_neg q3]
                  split
                  · rw [eqI, t9]
                    omega
                  · rfl
          have e2 : (if (0 : Int32) > (if (9 : Int32) < x then (9 : Int32) else x) then (0 : Int32) else (if (9 : Int32) < x then (9 : Int32) else x)) = heldV x := e
          rw [e2]
          exact hq
  exact loop _ 0 M (by omega) (fun _ _ => rfl) h
end L9
section L9b
variable {g : zG} {d : Nat}
theorem c9_isAnothers {Q : Bool → zM → Prop} {M : zM} {k : Nat} {s : Int32} (hk : k < 64) (h : Q (othB (M 1) k s) M) : zCz shM g d mX9_isAnothers [.ref 0, .int (iv k), .int s] M Q := by
  refine vX9_isAnothers ⟨85 + k, iv_n 85 k, by omega, fun c => dF h fun z => z.1 c, fun c => ⟨fun c2 => dF h fun z => z.2 c2, fun c2 => dT h ⟨c, c2⟩⟩⟩
theorem c9_cutOf {Q : Int32 → zM → Prop} {M : zM} {s k : Nat} (hw : WHw (M 1)) (hL : LawOK (M 1)) (hs : s < 6) (hk : k < 64) (h : ∀ M' : zM, (∀ o, o ≠ 13 → o ≠ 14 → M' o = M o) → Q (cutV (M 1) s k) M') : zCi shM g (d + 5) mX9_cutOf [.ref 0, .int (iv s), .int (iv k)] M Q := by
  refine vX9_cutOf (c9_lays hw hk fun M1 h1 hf => ?_)
  have r1 : M1 1 = M 1 := h1 1 (by decide)
  refine ⟨160 + s, iv_n 160 s, by omega, ?_⟩
  have rr : (zup M1 14 4 (M1 1 (160 + s))) 1 = M 1 := by rw [zup_oth (by decide)]; exact r1
  have main : ∀ b : Bool, othB (M 1) k (iv s) = b → zCi shM g (d + 4) mX9_says [.ref 0, .int 20, .int 2] (zup (zup M1 14 4 (M1 1 (160 + s))) 14 5 (zbI b)) (fun x2 M3 => Q x2 M3) := by
    intro b hb
    have r2 : (zup (zup M1 14 4 (M1 1 (160 + s))) 14 5 (zbI b)) 1 = M 1 := by rw [zup_oth (by decide)]; exact rr
    refine c9_says (f := factsV (M 1) k (M 1 (160 + s)) (zbI b)) (by rw [r2]; exact hL) (fun i hi => ?_) rfl (fun M' hM => ?_)
    · have hi' : i = 0 ∨ i = 1 ∨ i = 2 ∨ i = 3 ∨ i = 4 ∨ i = 5 := by omega
      have := hf i hi
      rcases hi' with rfl | rfl | rfl | rfl | rfl | rfl <;> simp [zup, factsV, r1] at this ⊢ <;> exact this
    · rw [r2]
      have hq := h M' (fun o h13 h14 => by rw [hM o h13, zup_oth h14, zup_oth h14]; exact h1 o h14)
      rw [cutV, hb] at hq
      exact hq
  refine c9_isAnothers hk ⟨fun c => ?_, fun c => ?_⟩
  · rw [rr] at c
    exact main false c
  · rw [rr] at c
    exact main true c
theorem c9_thawOf {Q : Int32 → zM → Prop} {M : zM} {k : Nat} (hw : WHw (M 1)) (hL : LawOK (M 1)) (hk : k < 64) (h : ∀ M' : zM, (∀ o, o ≠ 13 → o ≠ 14 → M' o = M o) → Q (thawV (M 1) k) M') : zCi shM g (d + 5) mX9_thawOf [.ref 0, .int (iv k)] M Q := by
  refine vX9_thawOf (c9_lays hw hk fun M1 h1 hf => ?_)
  have r1 : M1 1 = M 1 := h1 1 (by decide)
  refine c9_says (f := factsV (M 1) k 0 0) (by rw [r1]; exact hL) hf rfl (fun M' hM => ?_)
  rw [r1]
  exact h M' (fun o h13 h14 => (hM o h13).trans (h1 o h14))
end L9b
