/-! A MINUTE: draws and falls -/
def nextD (x : Int32) : Int32 := (1664525 * x) + 1013904223
def shiftD (x : Int32) : Int32 := (((nextD x)).toUInt32 >>> ((8 : Int32).toUInt32 &&& Int32.toUInt32 31)).toInt32
def drawV (x : Int32) : Int32 := shiftD x - shiftD x / 1000 * 1000
def drewW (real : Bool) (w : Nat → Int32) : Nat → Int32 := if real = true ∧ 0 < (w 153).toInt then upd w 1 (nextD (w 1)) else w
def fellB (real : Bool) (w : Nat → Int32) : Bool := decide (real = true ∧ 0 < (w 153).toInt ∧ (drawV (w 1)).toInt < (w 153).toInt)
theorem drewW_ne {real : Bool} {w : Nat → Int32} {j : Nat} (h : j ≠ 1) : drewW real w j = w j := by
  unfold drewW
  split
  · exact upd_ne h
  · rfl
theorem IMo.low {w v : Nat → Int32} (hv : ∀ j, 2 ≤ j → v j = w j) (h : IMo w) : IMo v := by
  obtain ⟨h1, h2, h3, h4, h5, h6, h7, h8⟩ := h
  refine ⟨by rw [hv 2 (by omega)]; exact h1, fun t ht => ?_, fun t ht => ?_, fun t ht => ?_, fun c hc => ?_, fun c hc hcc => ?_, fun c hc => ?_, fun t ht hq => ?_⟩
  · rw [hv 150 (by omega), hv 151 (by omega), hv (3 + t) (by omega)]; exact h2 t ht
  · rw [hv (9 + t) (by omega), hv (166 + t) (by omega)]; exact h3 t ht
  · rw [hv (15 + t) (by omega)]; exact h4 t ht
  · rw [hv (21 + c) (by omega)]; exact h5 c hc
  · rw [hv 150 (by omega), hv 151 (by omega)] at hcc
    rw [hv (21 + c) (by omega)]; exact h6 c hc hcc
  · rw [hv (85 + c) (by omega), hv 154 (by omega)]; exact h7 c hc
  · rw [hv (9 + t) (by omega), hv (166 + t) (by omega)] at hq
    have e : skt v t (w (9 + t)).toInt.toNat = skt w t (w (9 + t)).toInt.toNat := by
      unfold skt
      rw [hv _ (by omega)]
    rw [hv (15 + t) (by omega), hv (9 + t) (by omega), e]
    exact h8 t ht hq
section DR
variable {g : zG} {d : Nat} {M : zM} {C : zM}
theorem c9_draw {Q : Int32 → zM → Prop} (h : Q (drawV (M 1 1)) (zup M 1 1 (nextD (M 1 1)))) : zCi shM g d mX9_draw [.ref 0, .int 1000] M Q := by
  refine vX9_draw fun v1 hv => ⟨by decide, ?_⟩
  rw [zup_same] at hv
  have e : v1 = shiftD (M 1 1) := hv
  rw [e]
  exact h
theorem c2_draw {Q : Int32 → zM → Prop} (h : Q (drawV (C 3 6)) (zup C 3 6 (nextD (C 3 6)))) : zCi shC g d mX2_drawOf1000 [.ref 3] C Q := by
  refine vX2_drawOf1000 fun v1 hv => ?_
  have ec : C 3 6 * 1664525 = 1664525 * C 3 6 := Int32.mul_comm _ _
  rw [zup_same, ec] at hv
  have e : v1 = shiftD (C 3 6) := hv
  rw [e, ec]
  exact h
theorem c9_falls {Q : Bool → zM → Prop} {real : Bool} (h : ∀ M' : zM, (∀ o, o ≠ 1 → M' o = M o) → M' 1 = drewW real (M 1) → Q (fellB real (M 1)) M') : zCz shM g (d + 1) mX9_falls [.ref 0, .int (zbI real)] M Q := by
  have z0 : (0 : Int32).toInt = 0 := rfl
  have e153 : (zup M 1 1 (nextD (M 1 1))) 1 153 = M 1 153 := zup_ne (Or.inr (by decide))
  refine vX9_falls ⟨fun e => ?_, fun e => ⟨fun z => ?_, fun z => c9_draw ⟨fun z2 => ?_, fun z2 => ?_⟩⟩⟩
  · refine dF (h M (fun _ _ => rfl) ?_) (fun c => ?_)
    · unfold drewW
      rw [if_neg]
      rintro ⟨c, _⟩
      rw [e] at c
      cases c
    · have c1 := c.1
      rw [e] at c1
      cases c1
  · rw [Int32.le_iff_toInt_le, z0] at z
    refine dF (h M (fun _ _ => rfl) ?_) (fun c => ?_)
    · unfold drewW
      rw [if_neg]
      rintro ⟨_, c⟩
      omega
    · have c1 := c.2.1
      omega
  · rw [Int32.le_iff_toInt_le, z0] at z
    rw [e153, Int32.le_iff_toInt_le] at z2
    refine dF (h _ (fun o ho => zup_oth ho) ?_) (fun c => ?_)
    · unfold drewW
      rw [if_pos ⟨e, by omega⟩, zup_row]
    · have c1 := c.2.2
      omega
  · rw [Int32.le_iff_toInt_le, z0] at z
    rw [e153, Int32.le_iff_toInt_le] at z2
    refine dT (h _ (fun o ho => zup_oth ho) ?_) ⟨e, by omega, by omega⟩
    unfold drewW
    rw [if_pos ⟨e, by omega⟩, zup_row]
end DR
