/-! WAYS, both sides: the steps of one skater -/
/-- the skate ahead of step i, in the fresh rows -/
def sks (r : Nat → Int32) (s i : Nat) : Int := if i = 0 then 1 else (r (60 * s + (i - 1))).toInt % 2
def Sk (s : Nat) (C M : zM) (sk : Int32) : Prop := ∃ n tl pk : Nat, M 8 s = iv n ∧ C 102 s = iv n ∧ n ≤ 60 ∧ C 103 s = iv tl ∧ tl ≤ 2 ∧ sk = iv pk ∧ pk ≤ 1 ∧ (pk : Int) = mkd tl (sks (M 7) s n) ∧ ∀ i, i < n → ∃ a b pr : Nat, a ≤ 2 ∧ b ≤ 4 ∧ pr ≤ 1 ∧ C 101 (60 * s + i) = iv (b + 8 * a : Nat) ∧ M 7 (60 * s + i) = iv (2 * b + pr : Nat) ∧ (pr : Int) = mkd a (sks (M 7) s i)
theorem Sk.keep {s : Nat} {C M C' M' : zM} {sk : Int32} (h : Sk s C M sk) (c1 : ∀ i, i < 60 → C' 101 (60 * s + i) = C 101 (60 * s + i)) (c2 : C' 102 s = C 102 s) (c3 : C' 103 s = C 103 s) (m7 : ∀ i, i < 60 → M' 7 (60 * s + i) = M 7 (60 * s + i)) (m8 : M' 8 s = M 8 s) : Sk s C' M' sk := by
  have sk' : ∀ i, i ≤ 60 → sks (M' 7) s i = sks (M 7) s i := fun i hi => by
    unfold sks
    split
    · rfl
    · rw [m7 (i - 1) (by omega)]
  obtain ⟨n, tl, pk, a1, a2, a3, a4, a5, a6, a7, a8, a9⟩ := h
  refine ⟨n, tl, pk, m8.trans a1, c2.trans a2, a3, c3.trans a4, a5, a6, a7, by rw [sk' n a3]; exact a8, fun i hi => ?_⟩
  obtain ⟨a, b, pr, b1, b2, b3, b4, b5, b6⟩ := a9 i hi
  exact ⟨a, b, pr, b1, b2, b3, (c1 i (by omega)).trans b4, (m7 i (by omega)).trans b5, by rw [sk' i (by omega)]; exact b6⟩
/-- one step more -/
def apC (C : zM) (s n tl wy : Nat) : zM := zup (zup (zup C 101 (60 * s + n) (iv (wy + 8 * tl : Nat))) 103 s 0) 102 s (iv (n + 1 : Nat))
def apM (M : zM) (s n wy pk : Nat) : zM := zup (zup M 7 (60 * s + n) (iv (2 * wy + pk : Nat))) 8 s (iv (n + 1 : Nat))
theorem ap_one {s n tl pk wy : Nat} {C M : zM} (hn : n < 60) (h8 : M 8 s = iv n) (h3 : C 103 s = iv tl) (h : Sk s C M (iv pk)) (hw : wy ≤ 4) (htl : tl ≤ 2) (hpk : pk ≤ 1) : Sk s (apC C s n tl wy) (apM M s n wy pk) (iv pk) := by
  obtain ⟨n', tl', pk', a1, a2, a3, a4, a5, a6, a7, a8, a9⟩ := h
  obtain rfl : n' = n := by
    rw [h8, iv_inj (by omega) (by omega)] at a1
    omega
  obtain rfl : tl' = tl := by
    rw [h3, iv_inj (by omega) (by omega)] at a4
    omega
  obtain rfl : pk' = pk := by
    rw [iv_inj (by omega) (by omega)] at a6
    omega
  have m7 : ∀ x, apM M s n' wy pk' 7 x = upd (M 7) (60 * s + n') (iv (2 * wy + pk' : Nat)) x := fun x => by
    unfold apM
    rw [zup_oth (by omega), zup_row]
  have c1 : ∀ x, apC C s n' tl' wy 101 x = upd (C 101) (60 * s + n') (iv (wy + 8 * tl' : Nat)) x := fun x => by
    unfold apC
    rw [zup_oth (by omega), zup_oth (by omega), zup_row]
  have sk1 : ∀ i, i ≤ n' → sks (apM M s n' wy pk' 7) s i = sks (M 7) s i := fun i hi => by
    unfold sks
    split
    · rfl
    · rw [m7, upd_ne (by omega)]
  refine ⟨n' + 1, 0, pk', by unfold apM; rw [zup_same], by unfold apC; rw [zup_same], by omega, by unfold apC; rw [zup_oth (by omega), zup_same]; rfl, by omega, rfl, hpk, ?_, fun i hi => ?_⟩
  · unfold mkd sks
    rw [if_pos (by omega), if_neg (by omega), m7, show n' + 1 - 1 = n' by omega, upd_at, iv_toInt (by omega) (by omega)]
    omega
  · by_cases e : i = n'
    · rw [e, c1, m7, upd_at, upd_at]
      exact ⟨tl', wy, pk', htl, hw, hpk, rfl, rfl, by rw [sk1 n' (by omega)]; exact a8⟩
    · obtain ⟨a, b, pr, b1, b2, b3, b4, b5, b6⟩ := a9 i (by omega)
      rw [c1, m7, upd_ne (by omega), upd_ne (by omega), sk1 i (by omega)]
      exact ⟨a, b, pr, b1, b2, b3, b4, b5, b6⟩
/-- what the writing of steps leaves -/
def ApK (s : Nat) (C M C' M' : zM) : Prop := (∀ o, ¬ (101 ≤ o ∧ o ≤ 103) → C' o = C o) ∧ (∀ o, o ≠ 7 → o ≠ 8 → M' o = M o) ∧ (∀ u sk, u ≠ s → Sk u C M sk → Sk u C' M' sk) ∧ ∀ u, u ≠ s → M' 8 u = M 8 u
theorem ApK.trans {s : Nat} {C M C1 M1 C2 M2 : zM} (h : ApK s C M C1 M1) (h2 : ApK s C1 M1 C2 M2) : ApK s C M C2 M2 := ⟨fun o a => (h2.1 o a).trans (h.1 o a), fun o a b => (h2.2.1 o a b).trans (h.2.1 o a b), fun u sk a b => h2.2.2.1 u sk a (h.2.2.1 u sk a b), fun u a => (h2.2.2.2 u a).trans (h.2.2.2 u a)⟩
theorem ApK.one {s n tl pk wy : Nat} {C M : zM} (hn : n < 60) : ApK s C M (apC C s n tl wy) (apM M s n wy pk) := by
  refine ⟨fun o ho => ?_, fun o a b => ?_, fun u sk a b => b.keep (fun i hi => ?_) ?_ ?_ (fun i hi => ?_) ?_, fun u a => by unfold apM; rw [zup_ne (Or.inr a), zup_oth (by omega)]⟩
  · unfold apC
    rw [zup_oth (by omega), zup_oth (by omega), zup_oth (by omega)]
  · unfold apM
    rw [zup_oth (by omega), zup_oth (by omega)]
  · unfold apC
    rw [zup_oth (by omega), zup_oth (by omega), zup_ne (Or.inr (by omega))]
  · unfold apC
    rw [zup_ne (Or.inr (by omega)), zup_oth (by omega), zup_oth (by omega)]
  · unfold apC
    rw [zup_oth (by omega), zup_ne (Or.inr (by omega)), zup_oth (by omega)]
  · unfold apM
    rw [zup_oth (by omega), zup_ne (Or.inr (by omega))]
  · unfold apM
    rw [zup_ne (Or.inr (by omega)), zup_oth (by omega)]
def apCs (C : zM) (s n tl wy : Nat) : Nat → zM
  | 0 => C
  | m + 1 => apCs (apC C s n tl wy) s (n + 1) 0 wy m
def apMs (M : zM) (s n wy pk : Nat) : Nat → zM
  | 0 => M
  | m + 1 => apMs (apM M s n wy pk) s (n + 1) wy pk m
section AP
variable {g g' : zG} {s : Nat}
theorem s_append {v pk wy : Nat} (hs : s < 6) (hw : wy ≤ 4) (hpk : pk ≤ 1) : ∀ (m j n tl : Nat) (C M : zM), j + m = v → v ≤ 20 → n + m ≤ 60 → M 8 s = iv n → M 0 33 = iv v → C 103 s = iv tl → tl ≤ 2 → Sk s C M (iv pk) → Sk s (apCs C s n tl wy m) (apMs M s n wy pk m) (iv pk) ∧ ApK s C M (apCs C s n tl wy m) (apMs M s n wy pk m) ∧ (∀ (d : Nat) (Q : zM → Prop), Q (apCs C s n tl wy m) → zW shC g d mX6_append (zv Q) 3 [(0, .ref 100), (1, .int (iv s)), (2, .int (iv wy)), (3, .int (iv v)), (4, .int (iv j))] [] C) ∧ ∀ (d : Nat) (Q : Bool → zM → Prop), Q true (apMs M s n wy pk m) → zW shM g' (d + 1) mX9_someSteps (zz Q) 70 [(0, .ref 0), (1, .int (iv s)), (2, .int (iv pk)), (3, .int (iv wy)), (4, .int (iv j))] [] M := by
  intro m
  induction m with
  | zero =>
    intro j n tl C M hj hv hn h8 h33 h3 htl h
    obtain rfl : j = v := by omega
    exact ⟨h, ⟨fun _ _ => rfl, fun _ _ _ => rfl, fun _ _ _ x => x, fun _ _ => rfl⟩, fun d Q q => vX6_append_3 ⟨fun _ => q, fun z => absurd (Int32.le_refl _) z⟩, fun d Q q => vX9_someSteps_70 ⟨fun _ => q, fun z => absurd (by rw [h33]; exact Int32.le_refl _) z⟩⟩
  | succ m ih =>
    intro j n tl C M hj hv hn h8 h33 h3 htl h
    have hh := h
    obtain ⟨n', tl', pk', a1, a2, a3, a4, a5, -⟩ := hh
    obtain rfl : n' = n := by
      rw [h8, iv_inj (by omega) (by omega)] at a1
      omega
    have hlt : ¬ iv (v : Nat) ≤ iv (j : Nat) := fun z => by
      rw [Int32.le_iff_toInt_le, iv_toInt (by omega) (by omega), iv_toInt (by omega) (by omega)] at z
      omega
    obtain ⟨q1, q2, q3, q4⟩ := ih (j + 1) (n' + 1) 0 (apC C s n' tl wy) (apM M s n' wy pk) (by omega) hv (by omega) (by unfold apM; rw [zup_same]) (by unfold apM; rw [zup_oth (by omega), zup_oth (by omega)]; exact h33) (by unfold apC; rw [zup_oth (by omega), zup_same]; rfl) (by omega) (ap_one (by omega) h8 h3 h hw htl hpk)
    refine ⟨q1, (ApK.one (by omega)).trans q2, fun d Q q => vX6_append_3 ⟨fun z => absurd z hlt, fun _ => ⟨s, rfl, hs, 60 * s + n', ?_, by omega, fun v1 hv1 => ?_⟩⟩, fun d Q q => vX9_someSteps_70 ⟨fun z => absurd (by rw [h33] at z; exact z) hlt, fun _ => ⟨s, rfl, hs, 60 * s + n', ?_, by omega, ?_⟩⟩⟩
    · rw [a2, show (60 : Int32) = iv 60 from rfl, iv_mul, iv_add]
      congr 1
      omega
    · have e1 : iv (wy : Nat) + 8 * C 103 s = iv (wy + 8 * tl : Nat) := by
        rw [h3, show (8 : Int32) = iv 8 from rfl, iv_mul, iv_add]
        rfl
      have e2 : v1 = iv (n' + 1 : Nat) := by
        rw [hv1, zup_oth (by omega), zup_oth (by omega), a2, iv_s]
      rw [iv_s, e1, e2]
      exact q3 d Q q
    · rw [h8, show (60 : Int32) = iv 60 from rfl, iv_mul, iv_add]
      congr 1
    · have e1 : 2 * iv (wy : Nat) + iv (pk : Nat) = iv (2 * wy + pk : Nat) := by
        rw [show (2 : Int32) = iv 2 from rfl, iv_mul, iv_add]
        rfl
      rw [iv_s, e1, zup_oth (by omega), h8, iv_s]
      exact q4 d Q q
end AP
