/-! A step keeps the ranges -/
section IV
variable {real : Bool} {w : Nat → Int32} {s k : Nat} {b f : Int32}
theorem deepW_lo {j : Nat} (h3 : 3 ≤ j ∨ j = 0 ∨ j = 1) (h21 : j < 21) : deepW real w s k b f j = w j := by
  unfold deepW
  split
  · rw [upd_ne (by omega), upd_ne (by omega), upd_ne (by omega), upd_ne (by omega), upd_ne (by omega), upd_ne (by omega), upd_ne (by omega), upd_ne (by omega)]
  · rw [upd_ne (by omega), upd_ne (by omega)]
theorem deepW_dep {c : Nat} (hc : c < 64) (hk : k < 64) : deepW real w s k b f (21 + c) = if c = k then w (21 + k) + moreV w k b else w (21 + c) := by
  unfold deepW
  split
  · rw [upd_ne (by omega), upd_ne (by omega), upd_ne (by omega), upd_ne (by omega), upd_ne (by omega), upd_ne (by omega), upd_ne (by omega)]
    by_cases e : c = k
    · rw [if_pos e, e, upd_at]
    · rw [if_neg e, upd_ne (by omega)]
  · rw [upd_ne (by omega)]
    by_cases e : c = k
    · rw [if_pos e, e, upd_at]
    · rw [if_neg e, upd_ne (by omega)]
theorem deepW_lat {c : Nat} (hc : c < 64) (hk : k < 64) : deepW real w s k b f (85 + c) = if c = k then iv s else w (85 + c) := by
  unfold deepW
  split
  · rw [upd_ne (by omega), upd_ne (by omega), upd_ne (by omega), upd_ne (by omega), upd_ne (by omega), upd_ne (by omega)]
    by_cases e : c = k
    · rw [if_pos e, e, upd_at]
    · rw [if_neg e, upd_ne (by omega), upd_ne (by omega)]
  · by_cases e : c = k
    · rw [if_pos e, e, upd_at]
    · rw [if_neg e, upd_ne (by omega), upd_ne (by omega)]
theorem deepW_n (hn : rng (w 2) 0 150) : rng (deepW real w s k b f 2) 0 150 := by
  obtain ⟨h0, h1⟩ := hn
  unfold deepW
  split
  · rename_i c
    rw [upd_at]
    have : (w 2).toInt ≠ 150 := fun z => c.2 (by rw [eqI, z]; rfl)
    unfold rng
    rw [ti_add (by simp only [Int32.reduceToInt]; omega) (by simp only [Int32.reduceToInt]; omega)]
    simp only [Int32.reduceToInt]
    omega
  · rw [upd_ne (by omega), upd_ne (by omega)]
    exact ⟨h0, h1⟩
theorem more_rng {x b : Int32} (hx : rng x 0 9) (hb : rng b 0 9) : rng (x + (if b < 9 - x then b else 9 - x)) 0 9 := by
  rw [← more_eq hx hb]
  obtain ⟨x0, x9⟩ := hx
  obtain ⟨b0, b9⟩ := hb
  have t9 : (9 : Int32).toInt = 9 := rfl
  have e1 : (x + b).toInt = x.toInt + b.toInt := ti_add (by omega) (by omega)
  unfold imin rng
  simp only [Int32.lt_iff_toInt_lt, e1, t9]
  split
  · rw [e1]; omega
  · rw [t9]; omega
theorem IMo.deep (h : IMo w) (hI : IS w) (hc : cellB (w 150) (w 151) (iv k) = true) (hk : k < 64) (hs : s < 6) (hsk : (s : Int) < (w 154).toInt) (hb : rng b 0 9) : IMo (deepW real w s k b f) := by
  obtain ⟨h1, h2, h3, h4, h5, h6, h7, h8⟩ := h
  have hi : ∀ j, 150 ≤ j → j < 566 → deepW real w s k b f j = w j := fun j a c => deepW_hi hk h1 a (Or.inl c)
  have h60 := hI.2.2.2.2.2.2.2.2.1
  refine ⟨deepW_n h1, fun t ht => ?_, fun t ht => ?_, fun t ht => ?_, fun c hc64 => ?_, fun c hc64 hcc => ?_, fun c hc64 => ?_, fun t ht hq => ?_⟩
  · rw [hi 150 (by omega) (by omega), hi 151 (by omega) (by omega), deepW_lo (by omega) (by omega)]
    exact h2 t ht
  · rw [hi (166 + t) (by omega) (by omega), deepW_lo (by omega) (by omega)]
    exact h3 t ht
  · rw [deepW_lo (by omega) (by omega)]
    exact h4 t ht
  · rw [deepW_dep hc64 hk]
    split
    · exact more_rng (h5 k hk) hb
    · exact h5 c hc64
  · rw [hi 150 (by omega) (by omega), hi 151 (by omega) (by omega)] at hcc
    rw [deepW_dep hc64 hk]
    split
    · rename_i e
      rw [e, hc] at hcc
      cases hcc
    · exact h6 c hc64 hcc
  · rw [hi 154 (by omega) (by omega), deepW_lat hc64 hk]
    split
    · rw [iv_toInt (by omega) (by omega)]
      omega
    · exact h7 c hc64
  · rw [hi (166 + t) (by omega) (by omega), deepW_lo (by omega) (by omega)] at hq
    have hg := h3 t ht
    have h6t := h60 t ht
    obtain ⟨a1, a2⟩ := h6t
    rw [deepW_lo (by omega) (by omega), deepW_lo (by omega) (by omega)]
    have e : skt (deepW real w s k b f) t (w (9 + t)).toInt.toNat = skt w t (w (9 + t)).toInt.toNat := by
      unfold skt
      rw [hi _ (by omega) (by omega)]
    rw [e]
    exact h8 t ht hq
theorem IMo.step (h : IMo w) (hI : IS w) (hs : s < 6) (hsk : (s : Int) < (w 154).toInt) (hg : (w (9 + s)).toInt < (w (166 + s)).toInt) : IMo (stepW real w s) := by
  obtain ⟨⟨t0, t9⟩, hway, hwI⟩ := st_rng hI h hs hg
  obtain ⟨k, hk, hk64, hkI, hkc⟩ := place_rng h hs
  obtain ⟨g0, gle⟩ := h.2.2.1 s hs
  obtain ⟨q0, q60⟩ := hI.2.2.2.2.2.2.2.2.1 s hs
  have hw : WHw w := hI.1
  have e1 : (w (9 + s) + 1).toInt = (w (9 + s)).toInt + 1 := by
    rw [ti_add (by simp only [Int32.reduceToInt]; omega) (by simp only [Int32.reduceToInt]; omega)]
    rfl
  -- the skate behind the step is told by the step
  have esk : skt w s ((w (9 + s)).toInt + 1).toNat = (stOf w s).toInt % 2 := by
    unfold skt stOf
    rw [if_neg (by omega), show ((w (9 + s)).toInt + 1).toNat - 1 = (w (9 + s)).toInt.toNat by omega]
  -- a row v that has done the step but for his place, ice and the end of his way
  have key : ∀ (v : Nat → Int32) (k2 : Nat), (∀ j, 21 ≤ j → v j = w j) → v 2 = w 2 → (∀ t, t < 6 → t ≠ s → v (3 + t) = w (3 + t) ∧ v (9 + t) = w (9 + t) ∧ v (15 + t) = w (15 + t)) → v (3 + s) = iv k2 → cellB (w 150) (w 151) (iv k2) = true → v (9 + s) = w (9 + s) + 1 →
      ((w (9 + s) + 1 = w (166 + s) ∧ rng (v (15 + s)) 0 1) ∨ v (15 + s) = iv ((stOf w s).toInt % 2)) → IMo v := by
    intro v k2 hv h2 ho hp hc hgo hdn
    obtain ⟨a1, a2, a3, a4, a5, a6, a7, a8⟩ := h
    refine ⟨by rw [h2]; exact a1, fun t ht => ?_, fun t ht => ?_, fun t ht => ?_, fun c hc64 => by rw [hv _ (by omega)]; exact a5 c hc64, fun c hc64 hcc => ?_, fun c hc64 => by rw [hv _ (by omega), hv _ (by omega)]; exact a7 c hc64, fun t ht hq => ?_⟩
    · rw [hv 150 (by omega), hv 151 (by omega)]
      by_cases e : t = s
      · rw [e, hp]; exact hc
      · rw [(ho t ht e).1]; exact a2 t ht
    · rw [hv (166 + t) (by omega)]
      by_cases e : t = s
      · rw [e, hgo, e1]; omega
      · rw [(ho t ht e).2.1]; exact a3 t ht
    · by_cases e : t = s
      · rw [e]
        rcases hdn with hdn | hdn
        · exact hdn.2
        · rw [hdn]
          unfold rng
          rw [iv_toInt (by omega) (by omega)]
          omega
      · rw [(ho t ht e).2.2]; exact a4 t ht
    · rw [hv 150 (by omega), hv 151 (by omega)] at hcc
      rw [hv _ (by omega)]
      exact a6 c hc64 hcc
    · rw [hv (166 + t) (by omega)] at hq
      have es : ∀ i, skt v t i = skt w t i := fun i => by unfold skt; rw [hv _ (by omega)]
      rw [es]
      by_cases e : t = s
      · subst e
        rw [hgo, e1] at hq ⊢
        rw [esk]
        rcases hdn with hdn | hdn
        · exfalso
          have := hdn.1
          rw [eqI, e1] at this
          omega
        · rw [hdn, iv_toInt (by omega) (by omega)]
      · rw [(ho t ht e).2.1] at hq ⊢
        rw [(ho t ht e).2.2]
        exact a8 t ht hq
  have htc := goV_cell hw hkc hk64 (i := wayOf w s)
  have eto : goV w k (wayOf w s) = toOf w s := by
    unfold toOf
    rw [hkI]
    rfl
  rw [eto] at htc
  obtain ⟨ht64, htcell⟩ := htc
  -- the end of the way goes over what is cut
  have aA : ∀ j, j ≠ 15 + s → j ≠ 9 + s → stepA w s j = w j := fun j a c => by rw [stepA, upd_ne c, upd_ne a]
  have a9 : stepA w s (9 + s) = w (9 + s) + 1 := by rw [stepA, upd_at]
  have a15 : stepA w s (15 + s) = iv ((stOf w s).toInt % 2) := by rw [stepA, upd_ne (by omega), upd_at]
  have hends := hI.2.2.2.2.2.2.2.2.2.1 s hs
  have fin : ∀ (x : Int32), ((w (9 + s) + 1 = w (166 + s) ∧ rng x 0 1) ∨ x = iv ((stOf w s).toInt % 2)) → IMo (upd (stepB real w s) (15 + s) x) := by
    intro x hx
    unfold stepB
    split
    · refine key _ k (fun j hj => by rw [upd_ne (by omega), aA _ (by omega) (by omega)]) (by rw [upd_ne (by omega), aA _ (by omega) (by omega)]) (fun t ht e => ⟨by rw [upd_ne (by omega), aA _ (by omega) (by omega)], by rw [upd_ne (by omega), aA _ (by omega) (by omega)], by rw [upd_ne (by omega), aA _ (by omega) (by omega)]⟩) (by rw [upd_ne (by omega), aA _ (by omega) (by omega), hk]) hkc (by rw [upd_ne (by omega), a9]) (by rw [upd_at]; exact hx)
    · have kP : IMo (upd (upd (stepA w s) (3 + s) (iv (toOf w s))) (15 + s) x) := by
        refine key _ (toOf w s) (fun j hj => by rw [upd_ne (by omega), upd_ne (by omega), aA _ (by omega) (by omega)]) (by rw [upd_ne (by omega), upd_ne (by omega), aA _ (by omega) (by omega)]) (fun t ht e => ⟨by rw [upd_ne (by omega), upd_ne (by omega), aA _ (by omega) (by omega)], by rw [upd_ne (by omega), upd_ne (by omega), aA _ (by omega) (by omega)], by rw [upd_ne (by omega), upd_ne (by omega), aA _ (by omega) (by omega)]⟩) (by rw [upd_ne (by omega), upd_at]) htcell (by rw [upd_ne (by omega), upd_ne (by omega), a9]) (by rw [upd_at]; exact hx)
      split
      · rw [← deepW_comm (by omega) (by omega)]
        have hv : ∀ j, 21 ≤ j → upd (upd (stepA w s) (3 + s) (iv (toOf w s))) (15 + s) x j = w j := fun j hj => by rw [upd_ne (by omega), upd_ne (by omega), aA _ (by omega) (by omega)]
        refine IMo.deep kP (hI.row fun j hj => hv j (by omega)) (by rw [hv 150 (by omega), hv 151 (by omega)]; exact htcell) ht64 hs (by rw [hv 154 (by omega)]; exact hsk) (cutV_rng w s (toOf w s))
      · exact kP
  unfold stepW
  split
  · rename_i c
    exact fin _ (Or.inl ⟨c, hends⟩)
  · have e15 : stepB real w s (15 + s) = iv ((stOf w s).toInt % 2) := by
      unfold stepB
      split
      · exact a15
      · split
        · rw [deepW_lo (by omega) (by omega), upd_ne (by omega)]
          exact a15
        · rw [upd_ne (by omega)]
          exact a15
    have := fin (iv ((stOf w s).toInt % 2)) (Or.inr rfl)
    rw [upd_self e15] at this
    exact this
theorem stepW_hi (h : IMo w) (hI : IS w) (hs : s < 6) {j : Nat} (hj : 150 ≤ j) (hj2 : j < 566 ∨ 1316 ≤ j) : stepW real w s j = w j := by
  obtain ⟨k, hk, hk64, hkI, hkc⟩ := place_rng h hs
  have htc := goV_cell hI.1 hkc hk64 (i := wayOf w s)
  have eto : goV w k (wayOf w s) = toOf w s := by
    unfold toOf
    rw [hkI]
    rfl
  rw [eto] at htc
  have aA : ∀ j, j ≠ 15 + s → j ≠ 9 + s → stepA w s j = w j := fun j a c => by rw [stepA, upd_ne c, upd_ne a]
  have hB : stepB real w s j = w j := by
    unfold stepB
    split
    · exact aA j (by omega) (by omega)
    · split
      · rw [deepW_hi htc.1 (by rw [upd_ne (by omega), aA 2 (by omega) (by omega)]; exact h.1) hj hj2, upd_ne (by omega)]
        exact aA j (by omega) (by omega)
      · rw [upd_ne (by omega)]
        exact aA j (by omega) (by omega)
  unfold stepW
  split
  · rw [upd_ne (by omega)]
    exact hB
  · exact hB
end IV
