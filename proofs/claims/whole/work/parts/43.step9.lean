/-! A STEP of the reference -/
def stOf (w : Nat → Int32) (s : Nat) : Int32 := w (178 + 60 * s + (w (9 + s)).toInt.toNat)
def wayOf (w : Nat → Int32) (s : Nat) : Nat := ((stOf w s).toInt / 2).toNat
def toOf (w : Nat → Int32) (s : Nat) : Nat := goV w (w (3 + s)).toInt.toNat (wayOf w s)
def stepA (w : Nat → Int32) (s : Nat) : Nat → Int32 := upd (upd w (15 + s) (iv ((stOf w s).toInt % 2))) (9 + s) (w (9 + s) + 1)
def stepB (real : Bool) (w : Nat → Int32) (s : Nat) : Nat → Int32 :=
  if wayOf w s = 4 then stepA w s
  else if (stOf w s).toInt % 2 = 1 ∧ 0 < (cutV w s (toOf w s)).toInt then deepW real (upd (stepA w s) (3 + s) (iv (toOf w s))) s (toOf w s) (cutV w s (toOf w s)) 0
  else upd (stepA w s) (3 + s) (iv (toOf w s))
def stepW (real : Bool) (w : Nat → Int32) (s : Nat) : Nat → Int32 :=
  if w (9 + s) + 1 = w (166 + s) then upd (stepB real w s) (15 + s) (w (172 + s)) else stepB real w s
/-- what a skater with steps left has -/
theorem st_rng {w : Nat → Int32} (hi : IS w) (hq : IMo w) {s : Nat} (hs : s < 6) (hg : (w (9 + s)).toInt < (w (166 + s)).toInt) : rng (stOf w s) 0 9 ∧ wayOf w s < 5 ∧ (wayOf w s : Int) = (stOf w s).toInt / 2 := by
  have h9 := hi.2.2.2.2.2.2.2.2.1 s hs
  have hgo := hq.2.2.1 s hs
  obtain ⟨a, b⟩ := h9
  obtain ⟨c, e⟩ := hgo
  have h := hi.2.2.2.2.2.2.2.2.2.2.1 (60 * s + (w (9 + s)).toInt.toNat) (by omega) (by
    rw [show (60 * s + (w (9 + s)).toInt.toNat) / 60 = s by omega, show (60 * s + (w (9 + s)).toInt.toNat) % 60 = (w (9 + s)).toInt.toNat by omega]
    omega)
  have e1 : 178 + (60 * s + (w (9 + s)).toInt.toNat) = 178 + 60 * s + (w (9 + s)).toInt.toNat := by omega
  rw [e1] at h
  have h' : rng (stOf w s) 0 9 := h
  obtain ⟨h1, h2⟩ := h'
  refine ⟨⟨h1, h2⟩, ?_, ?_⟩ <;> unfold wayOf <;> omega
theorem place_rng {w : Nat → Int32} (hq : IMo w) {s : Nat} (hs : s < 6) : ∃ k : Nat, w (3 + s) = iv k ∧ k < 64 ∧ (w (3 + s)).toInt = k ∧ cellB (w 150) (w 151) (iv k) = true := by
  have h := hq.2.1 s hs
  have h2 := h
  simp only [cellB, decide_eq_true_eq, decide_eq_false_iff_not] at h2
  obtain ⟨k, h3, h4, h5⟩ := iv_nat (x := w (3 + s)) (n := 64) (by omega) (by omega)
  rw [h3] at h
  exact ⟨k, h3, h4, h5, h⟩
theorem besV_al {w v : Nat → Int32} (h0 : v 150 = w 150) (h1 : v 151 = w 151) (k i : Nat) : besV v k i = besV w k i := by
  unfold besV
  rw [h0, h1]
theorem goV_al {w v : Nat → Int32} (h0 : v 150 = w 150) (h1 : v 151 = w 151) (k i : Nat) : goV v k i = goV w k i := by
  unfold goV
  rw [besV_al h0 h1]
section S9
variable {g : zG} {d : Nat}
theorem c9_goesOn {Q : zM → Prop} {M : zM} {s : Nat} {real : Bool} (hi : IS (M 1)) (hq : IMo (M 1)) (hs : s < 6) (hg : (M 1 (9 + s)).toInt < (M 1 (166 + s)).toInt) (h : ∀ M' : zM, (∀ o, o ≠ 1 → o ≠ 13 → o ≠ 14 → M' o = M o) → M' 1 = stepW real (M 1) s → Q M') : zCv shM g (d + 6) mX9_goesOn [.ref 0, .int (iv s), .int (zbI real)] M Q := by
  obtain ⟨⟨t0, t9⟩, hway, hwI⟩ := st_rng hi hq hs hg
  obtain ⟨k, hk, hk64, hkI, hkc⟩ := place_rng hq hs
  obtain ⟨g0, gle⟩ := hq.2.2.1 s hs
  obtain ⟨q0, q60⟩ := hi.2.2.2.2.2.2.2.2.1 s hs
  obtain ⟨n, hn, hn2, hn3⟩ := iv_nat (x := M 1 (9 + s)) (n := 60) g0 (by omega)
  have ent : (M 1 (9 + s)).toInt.toNat = n := by omega
  have est : stOf (M 1) s = M 1 (178 + 60 * s + n) := by unfold stOf; rw [ent]
  have hw : WHw (M 1) := hi.1
  have hL : LawOK (M 1) := hi.2.2.2.2.2.2.2.2.2.2.2.2.2
  -- the end: at 119
  have fin : ∀ M1 : zM, (∀ o, o ≠ 1 → o ≠ 13 → o ≠ 14 → M1 o = M o) → M1 1 = stepB real (M 1) s → zW shM g (d + 6) mX9_goesOn (zv Q) 119 [(0, .ref 0), (1, .int (iv s))] [] M1 := by
    intro M1 ho hr
    have b9 : stepB real (M 1) s (9 + s) = M 1 (9 + s) + 1 := by
      have a9 : stepA (M 1) s (9 + s) = M 1 (9 + s) + 1 := by rw [stepA, upd_at]
      unfold stepB
      split
      · exact a9
      · split
        · unfold deepW
          split
          · have hne : ∀ j, j = 2 ∨ 21 ≤ j → 9 + s ≠ j := fun j hj => by omega
            rw [upd_ne (by omega), upd_ne (by omega), upd_ne (by omega), upd_ne (by omega), upd_ne (by omega), upd_ne (by omega), upd_ne (by omega), upd_ne (by omega), upd_ne (by omega)]
            exact a9
          · rw [upd_ne (by omega), upd_ne (by omega), upd_ne (by omega)]
            exact a9
        · rw [upd_ne (by omega)]
          exact a9
    have hbig : ∀ j, 150 ≤ j → j < 566 → stepB real (M 1) s j = M 1 j := by
      intro j hj hj2
      have aj : stepA (M 1) s j = M 1 j := by rw [stepA, upd_ne (by omega), upd_ne (by omega)]
      unfold stepB
      split
      · exact aj
      · split
        · rw [deepW_hi (by
            have := (goV_cell hw hkc hk64 (i := wayOf (M 1) s)).1
            unfold toOf
            rw [hkI]
            exact this) ?_ hj (Or.inl hj2), upd_ne (by omega)]
          · exact aj
          · have e2 : upd (stepA (M 1) s) (3 + s) (iv (toOf (M 1) s)) 2 = M 1 2 := by
              rw [upd_ne (by omega), stepA, upd_ne (by omega), upd_ne (by omega)]
            rw [e2]
            exact hq.1
        · rw [upd_ne (by omega)]
          exact aj
    refine vX9_goesOn_119 ⟨9 + s, iv_n 9 s, by omega, 166 + s, iv_n 166 s, by omega, fun c => ?_, fun c => ⟨172 + s, iv_n 172 s, by omega, 15 + s, iv_n 15 s, by omega, ?_⟩⟩
    · rw [hr, b9, hbig (166 + s) (by omega) (by omega)] at c
      exact h M1 ho (by rw [hr, stepW, if_neg c])
    · rw [hr, b9, hbig (166 + s) (by omega) (by omega)] at c
      refine h _ (fun o o1 o2 o3 => by rw [zup_oth o1]; exact ho o o1 o2 o3) ?_
      rw [zup_row, hr, hbig (172 + s) (by omega) (by omega), stepW, if_pos c]
  have e60 : (178 + 60 * iv s) + iv n = iv (178 + 60 * s + n : Nat) := by
    rw [show (60 : Int32) = iv 60 from rfl, iv_mul, show (178 : Int32) = iv 178 from rfl, iv_add, iv_add]
    congr 1
  refine vX9_goesOn ⟨9 + s, iv_n 9 s, by omega, ?_⟩
  rw [hn]
  refine vX9_stepOf ⟨178 + 60 * s + n, e60, by omega, ?_⟩
  refine ⟨15 + s, iv_n 15 s, by omega, ?_⟩
  rw [← est]
  have ew : stOf (M 1) s / 2 = iv (wayOf (M 1) s : Nat) := by
    rw [eqI, ti_div t0 (by decide), iv_toInt (by omega) (by omega)]
    simp only [Int32.reduceToInt]
    omega
  have em : stOf (M 1) s - stOf (M 1) s / 2 * 2 = iv ((stOf (M 1) s).toInt % 2) := by
    rw [eqI, ti_rem t0 (by decide), iv_toInt (by omega) (by omega)]
    rfl
  rw [em, ew]
  have e9 : (zup M 1 (15 + s) (iv ((stOf (M 1) s).toInt % 2))) 1 (9 + s) = M 1 (9 + s) := by rw [zup_ne (by omega)]
  rw [e9]
  have rA : (zup (zup M 1 (15 + s) (iv ((stOf (M 1) s).toInt % 2))) 1 (9 + s) (M 1 (9 + s) + 1)) 1 = stepA (M 1) s := by
    rw [zup_row, zup_row, stepA]
  generalize hMA : zup (zup M 1 (15 + s) (iv ((stOf (M 1) s).toInt % 2))) 1 (9 + s) (M 1 (9 + s) + 1) = MA at rA
  have hoA : ∀ o, o ≠ 1 → MA o = M o := fun o ho => by rw [← hMA, zup_oth ho, zup_oth ho]
  have aj : ∀ j, j ≠ 15 + s → j ≠ 9 + s → stepA (M 1) s j = M 1 j := fun j h1 h2 => by rw [stepA, upd_ne h2, upd_ne h1]
  refine ⟨fun c => fin MA (fun o o1 _ _ => hoA o o1) ?_, fun c => ⟨3 + s, iv_n 3 s, by omega, ?_⟩⟩
  · have c4 : wayOf (M 1) s = 4 := by
      rw [show (4 : Int32) = iv 4 from rfl, iv_inj (by omega) (by omega)] at c
      omega
    rw [rA, stepB, if_pos c4]
  · have c4 : ¬ wayOf (M 1) s = 4 := by
      intro z
      rw [z] at c
      exact c rfl
    have ep : MA 1 (3 + s) = iv k := by rw [rA, aj _ (by omega) (by omega), hk]
    rw [ep]
    have hwA : WHw (MA 1) := by rw [rA]; unfold WHw; rw [aj 150 (by omega) (by omega), aj 151 (by omega) (by omega)]; exact hw
    refine c9_wentTo hwA hk64 (by omega) ?_
    have egoA : goV (MA 1) k (wayOf (M 1) s) = toOf (M 1) s := by
      rw [rA, goV_al (aj 150 (by omega) (by omega)) (aj 151 (by omega) (by omega))]
      unfold toOf
      rw [hkI]
      rfl
    rw [egoA]
    have htc := goV_cell hw hkc hk64 (i := wayOf (M 1) s)
    have eto : goV (M 1) k (wayOf (M 1) s) = toOf (M 1) s := by
      unfold toOf
      rw [hkI]
      rfl
    rw [eto] at htc
    obtain ⟨ht64, htcell⟩ := htc
    have rB : (zup MA 1 (3 + s) (iv (toOf (M 1) s))) 1 = upd (stepA (M 1) s) (3 + s) (iv (toOf (M 1) s)) := by rw [zup_row, rA]
    generalize hMB : zup MA 1 (3 + s) (iv (toOf (M 1) s)) = MB at rB
    have hoB : ∀ o, o ≠ 1 → MB o = M o := fun o ho => by rw [← hMB, zup_oth ho]; exact hoA o ho
    have bj : ∀ j, j ≠ 15 + s → j ≠ 9 + s → j ≠ 3 + s → MB 1 j = M 1 j := fun j h1 h2 h3 => by rw [rB, upd_ne h3]; exact aj j h1 h2
    have b15 : MB 1 (15 + s) = iv ((stOf (M 1) s).toInt % 2) := by
      rw [rB, upd_ne (by omega), stepA, upd_ne (by omega), upd_at]
    have hal : alikeW (M 1) (MB 1) := ⟨bj 0 (by omega) (by omega) (by omega), fun j hj => bj j (by omega) (by omega) (by omega)⟩
    have hrowB : ∀ j, 150 ≤ j → MB 1 j = M 1 j := fun j hj => bj j (by omega) (by omega) (by omega)
    rw [b15]
    refine ⟨fun c2 => vX9_goesOn_101 ⟨fun _ => fin MB (fun o o1 _ _ => hoB o o1) ?_, fun c3 => absurd (by decide) c3⟩, fun c2 => ?_⟩
    · have c2' : ¬ (stOf (M 1) s).toInt % 2 = 1 := by
        intro z
        rw [z] at c2
        exact c2 rfl
      rw [rB, stepB, if_neg c4, if_neg (fun z => c2' z.1)]
    · have c2' : (stOf (M 1) s).toInt % 2 = 1 := by
        rw [show (1 : Int32) = iv 1 from rfl, iv_inj (by omega) (by omega)] at c2
        exact c2
      have hLB : LawOK (MB 1) := hL.row hrowB
      have hwB : WHw (MB 1) := by unfold WHw; rw [hrowB 150 (by omega), hrowB 151 (by omega)]; exact hw
      refine c9_cutOf hwB hLB hs ht64 (fun M3 h3 => ?_)
      rw [cutV_al hal]
      have r3 : M3 1 = MB 1 := h3 1 (by decide) (by decide)
      obtain ⟨u0, u9⟩ := cutV_rng (M 1) s (toOf (M 1) s)
      refine vX9_goesOn_101 ⟨fun c3 => fin M3 (fun o o1 o2 o3 => (h3 o o2 o3).trans (hoB o o1)) ?_, fun c3 => ?_⟩
      · rw [Int32.le_iff_toInt_le] at c3
        simp only [Int32.reduceToInt] at c3
        rw [r3, rB, stepB, if_neg c4, if_neg (fun z => by omega)]
      · rw [Int32.le_iff_toInt_le] at c3
        simp only [Int32.reduceToInt] at c3
        refine c9_deepens ht64 hs (by rw [r3, bj 2 (by omega) (by omega) (by omega)]; exact hq.1) (fun M4 h4 hr4 => fin M4 (fun o o1 o2 o3 => (h4 o o1).trans ((h3 o o2 o3).trans (hoB o o1))) ?_)
        rw [hr4, r3, rB, stepB, if_neg c4, if_pos ⟨c2', by omega⟩]
end S9
