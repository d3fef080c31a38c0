/-! text(0), both sides, put together -/
section Y0
variable {g g' : zG} {C M : zM}
theorem wayR_at {M : zM} : wayR M 155 = M 0 19 ∧ (∀ s, s < 6 → wayR M (166 + s) = M 8 s ∧ wayR M (172 + s) = M 9 s ∧ wayR M (9 + s) = 0 ∧ wayR M (15 + s) = 1) ∧ (∀ i, i < 360 → wayR M (178 + i) = M 7 i) ∧ ∀ j, j < 9 ∨ (21 ≤ j ∧ j < 155) ∨ (156 ≤ j ∧ j < 166) ∨ 538 ≤ j → wayR M j = M 1 j := by
  unfold wayR
  refine ⟨if_pos rfl, fun s hs => ⟨?_, ?_, ?_, ?_⟩, fun i hi => ?_, fun j hj => ?_⟩
  · rw [if_neg (by omega), if_pos (by omega), show 166 + s - 166 = s by omega]
  · rw [if_neg (by omega), if_neg (by omega), if_pos (by omega), show 172 + s - 172 = s by omega]
  · rw [if_neg (by omega), if_neg (by omega), if_neg (by omega), if_pos (by omega)]
  · rw [if_neg (by omega), if_neg (by omega), if_neg (by omega), if_neg (by omega), if_pos (by omega)]
  · rw [if_neg (by omega), if_neg (by omega), if_neg (by omega), if_neg (by omega), if_neg (by omega), if_pos (by omega), show 178 + i - 178 = i by omega]
  · rw [if_neg (by omega), if_neg (by omega), if_neg (by omega), if_neg (by omega), if_neg (by omega), if_neg (by omega)]
/-- what the rows of the class hold of the new ways -/
def WCl (C F : zM) : Prop := (∀ o, ¬ (7 ≤ o ∧ o ≤ 8) → ¬ (10 ≤ o ∧ o ≤ 13) → o ≠ 0 → F o = C o) ∧ (∀ j, j ≠ 5 → F 0 j = C 0 j) ∧ F 0 5 = 0 ∧ F 10 4 = C 100 4 ∧ (∀ s, s < 6 → F 7 s = 0 ∧ F 8 s = 1 ∧ F 12 s = C 102 s ∧ F 13 s = C 103 s) ∧ ∀ j, j < 360 → F 11 j = C 101 j
def wayF (C : zM) : zM := zup (zfill (zfill (zup (zcpy (zcpy (zcpy C 101 11 360) 102 12 6) 103 13 6) 10 4 ((zcpy (zcpy (zcpy C 101 11 360) 102 12 6) 103 13 6) 100 4)) 7 6 0) 8 6 1) 0 5 0
theorem wayF_at : WCl C (wayF C) := by
  unfold WCl wayF
  refine ⟨fun o a b c => ?_, fun j hj => ?_, zup_same, ?_, fun s hs => ⟨?_, ?_, ?_, ?_⟩, fun j hj => ?_⟩
  · funext j
    unfold zup zfill zcpy
    have e0 : o ≠ 7 := by omega
    have e1 : o ≠ 8 := by omega
    have e2 : o ≠ 10 := by omega
    have e3 : o ≠ 11 := by omega
    have e4 : o ≠ 12 := by omega
    have e5 : o ≠ 13 := by omega
    simp [e0, e1, e2, e3, e4, e5, c]
  · unfold zup zfill zcpy
    simp [hj]
  · unfold zup zfill zcpy
    simp
  · unfold zup zfill zcpy
    simp [hs]
  · unfold zup zfill zcpy
    simp [hs]
  · unfold zup zfill zcpy
    simp [hs]
  · unfold zup zfill zcpy
    simp [hs]
  · unfold zup zfill zcpy
    simp [hj]
theorem wy_rwo {S : Nat → Bool} {C2 F N : zM} (h : RWo C 1 (M 1)) (hw : WY S C2 N) (hN : N 1 = M 1) (hf : WCl C2 F) (hc : ∀ o, o ≤ 97 → C2 o = C o) : RWo F 1 (wayR N) := by
  obtain ⟨w1, w2, w3, w4, w5, w6, w7⟩ := h
  have hIS := w1
  obtain ⟨⟨a1, a2, a3, a4⟩, b2, b3, b4, b5, b7, b8, c0, c1, c2, c3, c4, c5, cL⟩ := w1
  obtain ⟨s1, s2, s3, s4, s5, s6, s7⟩ := hw
  obtain ⟨f1, f2, f3, f4, f5, f6⟩ := hf
  obtain ⟨v1, v2, v3, v4⟩ := wayR_at (M := N)
  rw [hN] at v4 s5
  have cl : ∀ o, 1 ≤ o → o ≤ 97 → ¬ (7 ≤ o ∧ o ≤ 8) → ¬ (10 ≤ o ∧ o ≤ 13) → F o = C o := fun o x y a b => (f1 o a b (by omega)).trans (hc o y)
  have r : ∀ {j : Nat} {x y : Int}, (j < 9 ∨ (21 ≤ j ∧ j < 155) ∨ (156 ≤ j ∧ j < 166) ∨ 538 ≤ j) → rng (M 1 j) x y → rng (wayR N j) x y := fun hj q => by rw [v4 _ hj]; exact q
  have ct : cntB S 6 ≤ 6 := cntB_le 6
  have v5 : rng (wayR N 155) 0 6 := by
    rw [v1, s4]
    unfold rng
    rw [iv_toInt (by omega) (by omega)]
    omega
  have nrng : (M 1 2).toInt ≤ 150 := w2.1.2
  have sksk : ∀ s i, s < 6 → i ≤ 60 → skt (wayR N) s i = sks (N 7) s i := fun s i a b => by
    unfold skt sks
    split
    · rfl
    · rw [show 178 + 60 * s + (i - 1) = 178 + (60 * s + (i - 1)) by omega, v3 (60 * s + (i - 1)) (by omega)]
  have o1 : (1 : Int32).toInt = 1 := rfl
  have o0 : (0 : Int32).toInt = 0 := rfl
  refine ⟨⟨⟨by rw [v4 150 (by omega)]; exact a1, by rw [v4 150 (by omega)]; exact a2, by rw [v4 151 (by omega)]; exact a3, by rw [v4 151 (by omega)]; exact a4⟩, r (by omega) b2, r (by omega) b3, r (by omega) b4, v5, r (by omega) b7, r (by omega) b8, fun i hi => r (by omega) (c0 i hi), fun s hs => ?_, fun s hs => ?_, fun i hi hq => ?_, fun i hi => r (by omega) (c4 i hi), fun i hi hq => ?_, cL.cong fun j hj => v4 j (by omega)⟩, ?_, IBk.row (v4 0 (by omega)) (v4 2 (by omega)) (fun j x y => v4 j (by omega)) nrng w3, ?_, ?_, ?_, ?_⟩
  · obtain ⟨n0, tl, pk, x1, x2, x3, -⟩ := s7 s hs
    rw [(v2 s hs).1, x1]
    unfold rng
    rw [iv_toInt (by omega) (by omega)]
    omega
  · obtain ⟨n0, tl, pk, x1, x2, x3, x4, x5, x6, x7, -⟩ := s7 s hs
    rw [(v2 s hs).2.1, x6]
    unfold rng
    rw [iv_toInt (by omega) (by omega)]
    omega
  · obtain ⟨n0, tl, pk, x1, x2, x3, x4, x5, x6, x7, x8, x9⟩ := s7 (i / 60) (by omega)
    rw [(v2 (i / 60) (by omega)).1, x1, iv_toInt (by omega) (by omega)] at hq
    obtain ⟨a, b, pr, y1, y2, y3, y4, y5, y6⟩ := x9 (i % 60) (by omega)
    rw [v3 i hi, show i = 60 * (i / 60) + i % 60 by omega, y5]
    unfold rng
    rw [iv_toInt (by omega) (by omega)]
    omega
  · rw [v4 158 (by omega)] at hq
    rw [v4 157 (by omega), v4 150 (by omega), v4 151 (by omega), v4 (546 + 2 * i) (by omega), v4 (547 + 2 * i) (by omega)]
    exact c5 i hi hq
  · obtain ⟨d1, d2, d3, d4, d5, d6, d7, d8⟩ := w2
    refine ⟨r (by omega) d1, fun s hs => ?_, fun s hs => ?_, fun s hs => ?_, fun c hc => r (by omega) (d5 c hc), fun c hc hcc => ?_, fun c hc => ?_, fun s hs hq => ?_⟩
    · rw [v4 150 (by omega), v4 151 (by omega), v4 (3 + s) (by omega)]
      exact d2 s hs
    · obtain ⟨n0, tl, pk, x1, x2, x3, -⟩ := s7 s hs
      rw [(v2 s hs).2.2.1, (v2 s hs).1, x1, iv_toInt (by omega) (by omega), o0]
      omega
    · rw [(v2 s hs).2.2.2]
      exact ⟨by decide, by decide⟩
    · rw [v4 150 (by omega), v4 151 (by omega)] at hcc
      rw [v4 (21 + c) (by omega)]
      exact d6 c hc hcc
    · rw [v4 (85 + c) (by omega), v4 154 (by omega)]
      exact d7 c hc
    · rw [(v2 s hs).2.2.2, (v2 s hs).2.2.1, o1, o0]
      rfl
  · intro s hs hq
    rw [v4 154 (by omega)] at hq
    rw [(v2 s hs).1]
    refine (s6 s hs ?_).1
    refine Bool.eq_false_iff.mpr fun z => ?_
    have := s5 s hs z
    omega
  · obtain ⟨y0, y1, y2, y3, y4, y5, -, yl, p1, p2, p3, p4⟩ := w5
    refine ⟨by rw [cl 1 (by omega) (by omega) (by omega) (by omega), v4 150 (by omega)]; exact y0, by rw [cl 1 (by omega) (by omega) (by omega) (by omega), v4 151 (by omega)]; exact y1, by rw [cl 1 (by omega) (by omega) (by omega) (by omega), v4 152 (by omega)]; exact y2, by rw [cl 1 (by omega) (by omega) (by omega) (by omega), v4 153 (by omega)]; exact y3, by rw [cl 1 (by omega) (by omega) (by omega) (by omega), v4 154 (by omega)]; exact y4, fun s hs hq => ?_, ⟨f4.trans (s3.trans (s4.symm.trans v1.symm)), fun s hs => ?_, fun s i hs hq => ?_, fun s hs hq => ?_⟩, yl.cong (fun j hj => v4 j (by omega)) (fun o a b => cl o (by omega) (by omega) (by omega) (by omega)), by rw [cl (1 + 21) (by omega) (by omega) (by omega) (by omega), v4 157 (by omega)]; exact p1, by rw [cl (1 + 21) (by omega) (by omega) (by omega) (by omega), v4 158 (by omega)]; exact p2, fun l hl hq => ?_, fun l hl hq => ?_⟩
    · rw [v4 154 (by omega)] at hq
      rw [cl (1 + 1) (by omega) (by omega) (by omega) (by omega), v4 (160 + s) (by omega)]
      exact y5 s hs hq
    · obtain ⟨n0, tl, pk, x1, x2, -⟩ := s7 s hs
      rw [(v2 s hs).1, x1]
      exact (f5 s hs).2.2.1.trans x2
    · obtain ⟨n0, tl, pk, x1, x2, x3, x4, x5, x6, x7, x8, x9⟩ := s7 s hs
      rw [(v2 s hs).1, x1, iv_toInt (by omega) (by omega)] at hq
      obtain ⟨a, b, pr, k1, k2, k3, k4, k5, k6⟩ := x9 i (by omega)
      rw [show F (1 + 10) (60 * s + i) = iv (b + 8 * a : Nat) from (f6 _ (by omega)).trans k4, show 178 + 60 * s + i = 178 + (60 * s + i) by omega, v3 (60 * s + i) (by omega), k5, sksk s i hs (by omega), iv_toInt (by omega) (by omega), iv_toInt (by omega) (by omega)]
      refine ⟨by omega, by omega, by omega, ?_⟩
      rw [show ((b + 8 * a : Nat) : Int) / 8 = a by omega, ← k6]
      omega
    · obtain ⟨n0, tl, pk, x1, x2, x3, x4, x5, x6, x7, x8, x9⟩ := s7 s hs
      rw [show F (1 + 12) s = iv tl from (f5 s hs).2.2.2.trans x4, (v2 s hs).2.1, (v2 s hs).1, x1, x6, iv_toInt (z := (tl : Int)) (by omega) (by omega), iv_toInt (z := (pk : Int)) (by omega) (by omega), iv_toInt (z := (n0 : Int)) (by omega) (by omega), Int.toNat_natCast, sksk s n0 hs x3]
      exact ⟨by omega, by omega, x8⟩
    · rw [v4 157 (by omega)] at hq
      rw [cl (1 + 22) (by omega) (by omega) (by omega) (by omega), v4 (538 + l) (by omega)]
      exact p3 l hl hq
    · rw [v4 158 (by omega)] at hq
      rw [cl (1 + 23) (by omega) (by omega) (by omega) (by omega), cl (1 + 24) (by omega) (by omega) (by omega) (by omega), v4 (546 + 2 * l) (by omega), v4 (547 + 2 * l) (by omega)]
      exact p4 l hl hq
  · obtain ⟨q1, q2, q3, q4, q5, q6⟩ := w6
    refine ⟨fun k hk => by rw [cl (1 + 2 + 1) (by omega) (by omega) (by omega) (by omega), v4 (21 + k) (by omega)]; exact q1 k hk, fun k hk => by rw [cl (1 + 2 + 2) (by omega) (by omega) (by omega) (by omega), v4 (85 + k) (by omega)]; exact q2 k hk, fun s hs hq => ?_, by rw [cl (1 + 2) (by omega) (by omega) (by omega) (by omega), v4 0 (by omega)]; exact q4, by rw [cl (1 + 2) (by omega) (by omega) (by omega) (by omega), v4 1 (by omega)]; exact q5, by rw [cl (1 + 2) (by omega) (by omega) (by omega) (by omega), v4 2 (by omega)]; exact q6⟩
    rw [v4 154 (by omega)] at hq
    rw [cl (1 + 2 + 3) (by omega) (by omega) (by omega) (by omega), v4 (3 + s) (by omega), (v2 s hs).2.2.1, (v2 s hs).2.2.2]
    exact ⟨(q3 s hs hq).1, (f5 s hs).1, (f5 s hs).2.1⟩
  · exact RBk.keep (cl (1 + 8) (by omega) (by omega) (by omega) (by omega)) (RBk.row2 (v4 2 (by omega)) (fun j x y => v4 j (by omega)) nrng w7)
end Y0
