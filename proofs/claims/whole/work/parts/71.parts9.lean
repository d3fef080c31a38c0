/-! PARTS of the reference -/
def optI : Option Nat → Int32
  | none => -1
  | some u => iv u
def B9 (M : zM) (X : PSt) : Prop := (∀ v, v < 128 → M 21 v = optI (X.1 v)) ∧ (∀ j, j < X.2.length → M 22 j = iv (X.2.getD j 0 : Nat)) ∧ M 0 45 = iv X.2.length ∧ ∀ v u, X.1 v = some u → u < 128
def F9 (M : zM) (F : FSt) : Prop := (∀ c, c < 64 → M 23 c = zbI (F.1 c)) ∧ ∀ j, j < 256 → M 24 j = zbI (F.2 j)
def K9 (M M' : zM) : Prop := (∀ o, o ≠ 0 → o ≠ 21 → o ≠ 22 → M' o = M o) ∧ ∀ j, j ≠ 45 → M' 0 j = M 0 j
theorem K9.rfl {M : zM} : K9 M M := ⟨fun _ _ _ _ => Eq.refl _, fun _ _ => Eq.refl _⟩
theorem K9.trans {M M' M2 : zM} (h : K9 M M') (h2 : K9 M' M2) : K9 M M2 := ⟨fun o a b c => (h2.1 o a b c).trans (h.1 o a b c), fun j hj => (h2.2 j hj).trans (h.2 j hj)⟩
theorem mod64 {v : Nat} (h : v < 128) : iv v - iv v / 64 * 64 = iv (v % 64 : Nat) := by
  rw [eqI, ti_rem (by rw [iv_toInt (by omega) (by omega)]; omega) (by decide), iv_toInt (by omega) (by omega), iv_toInt (by omega) (by omega)]
  simp only [Int32.reduceToInt]
  omega
theorem optI_none {X : PSt} {v : Nat} (hu : ∀ u, X.1 v = some u → u < 128) : optI (X.1 v) = -1 ↔ X.1 v = none := by
  cases c : X.1 v with
  | none => exact ⟨fun _ => rfl, fun _ => rfl⟩
  | some u =>
    have := hu u c
    refine ⟨fun z => ?_, fun z => by cases z⟩
    exfalso
    have z2 : iv u = iv (-1) := z
    rw [iv_inj (by omega) (by omega)] at z2
    omega
section PA9
variable {g : zG} {d : Nat} {M : zM}
theorem c9_comesBy {Q : zM → Prop} {X : PSt} {u t : Nat} (h9 : B9 M X) (hu : u < 128) (ht : t < 128) (hroom : X.1 t = none → X.2.length ≤ 126) (h : ∀ M' : zM, K9 M M' → B9 M' (cbS u t X) → Q M') : zCv shM g d mX9_comesBy [.ref 0, .int (iv u), .int (iv t)] M Q := by
  obtain ⟨h1, h2, h3, h4⟩ := h9
  refine vX9_comesBy ⟨t, rfl, ht, fun q => ?_, fun q => ?_⟩
  · rw [h1 t ht, optI_none (h4 t)] at q
    have hr := hroom q
    refine ⟨X.2.length, by rw [zup_oth (by decide)]; exact h3, by omega, h _ ⟨fun o a b c => ?_, fun j hj => ?_⟩ ?_⟩
    · rw [zup_oth a, zup_oth c, zup_oth b]
    · rw [zup_ne (Or.inr hj), zup_oth (by decide), zup_oth (by decide)]
    · rw [cb_yes q]
      refine ⟨fun v hv => ?_, fun j hj => ?_, ?_, fun v x hx => ?_⟩
      · rw [zup_oth (by decide), zup_oth (by decide)]
        show _ = optI (if v = t then some u else X.1 v)
        by_cases e : v = t
        · rw [e, zup_same, if_pos rfl]
          rfl
        · rw [zup_ne (Or.inr e), if_neg e]
          exact h1 v hv
      · have hj2 : j < (X.2 ++ [t]).length := hj
        rw [List.length_append] at hj2
        simp only [List.length_singleton] at hj2
        show _ = iv ((X.2 ++ [t]).getD j 0 : Nat)
        rw [zup_oth (by decide), getD_app]
        by_cases e : j = X.2.length
        · rw [e, zup_same, if_pos rfl]
        · rw [zup_ne (Or.inr e), if_neg e, zup_oth (by decide)]
          exact h2 j (by omega)
      · show _ = iv ((X.2 ++ [t]).length : Nat)
        rw [zup_same, zup_oth (by decide), zup_oth (by decide), h3, iv_s, List.length_append]
        rfl
      · have hx2 : (if v = t then some u else X.1 v) = some x := hx
        by_cases e : v = t
        · rw [if_pos e] at hx2
          cases hx2
          exact hu
        · rw [if_neg e] at hx2
          exact h4 v x hx2
  · rw [h1 t ht, optI_none (h4 t)] at q
    have h0 := h M K9.rfl
    rw [cb_no q] at h0
    exact h0 ⟨h1, h2, h3, h4⟩
theorem c9_spreads {Q : zM → Prop} {X : PSt} {F : FSt} {a k v : Nat} (hw : WHw (M 1)) (ha : a < 64) (hF : F9 M F) (hB : BI (M 1) F.2 a X) (h9 : B9 M X) (hk : k < X.2.length) (hv : X.2.getD k 0 = v) (h : ∀ M' : zM, K9 M M' → B9 M' (sprS (M 1) F.1 F.2 a v X) → Q M') : zCv shM g (d + 3) mX9_spreads [.ref 0, .int (iv v), .int (iv a)] M Q := by
  obtain ⟨⟨n1, n2⟩, n3, n4⟩ := hB.2.2.1 k hk
  rw [hv] at n1 n2
  have gE : ∀ (c : Nat), c < 64 → cellB (M 1 150) (M 1 151) (iv c) = true → ∀ (n i : Nat) (Y : PSt) (M1 : zM), i + n = 4 → K9 M M1 → BI (M 1) F.2 a Y → B9 M1 Y → k < Y.2.length → Y.2.getD k 0 = c → (∀ M' : zM, K9 M M' → B9 M' (wayE (M 1) F.2 c n i Y) → Q M') → zW shM g (d + 3) mX9_spreads (zv Q) 32 [(0, .ref 0), (1, .int (iv c)), (3, .int (iv c)), (4, .int (iv i))] [] M1 := by
    intro c hc hcc n
    induction n with
    | zero =>
      intro i Y M1 hi hK hBY h9Y _ _ hh
      obtain rfl : i = 4 := by omega
      exact vX9_spreads_32 ⟨fun _ => hh M1 hK h9Y, fun z => absurd (by decide) z⟩
    | succ n ih =>
      intro i Y M1 hi hK hBY h9Y hkY hvY hh
      rw [wayE] at hh
      have e1 : M1 1 = M 1 := hK.1 1 (by decide) (by decide) (by decide)
      have hgc := goV_cell hw hcc hc (i := i)
      refine vX9_spreads_32 ⟨fun z => (not_le_iv (a := 4) (b := i) (by omega) (by omega) z).elim, fun _ => c9_wentTo (by rw [e1]; exact hw) hc (by omega) ?_⟩
      rw [e1]
      have nx : ∀ M2 : zM, K9 M M2 → BI (M 1) F.2 a (if goV (M 1) c i ≠ c ∧ F.2 (4 * goV (M 1) c i + (i + 2) % 4) = true then cbS c (goV (M 1) c i + 64) Y else Y) → B9 M2 (if goV (M 1) c i ≠ c ∧ F.2 (4 * goV (M 1) c i + (i + 2) % 4) = true then cbS c (goV (M 1) c i + 64) Y else Y) → grew Y (if goV (M 1) c i ≠ c ∧ F.2 (4 * goV (M 1) c i + (i + 2) % 4) = true then cbS c (goV (M 1) c i + 64) Y else Y) → zW shM g (d + 3) mX9_spreads (zv Q) 32 [(0, .ref 0), (1, .int (iv c)), (3, .int (iv c)), (4, .int (iv i + 1))] [] M2 := by
        intro M2 hK2 hB2 h92 hg2
        rw [iv_s]
        exact ih (i + 1) _ M2 (by omega) hK2 hB2 h92 (Nat.lt_of_lt_of_le hkY hg2.1) ((hg2.2 k hkY).trans hvY) hh
      refine ⟨fun z => ?_, fun z => ⟨4 * goV (M 1) c i + (i + 2) % 4, ?_, by omega, fun z2 => ?_, fun z2 => ?_⟩⟩
      · rw [iv_inj (by omega) (by omega)] at z
        have hno : ¬ (goV (M 1) c i ≠ c ∧ F.2 (4 * goV (M 1) c i + (i + 2) % 4) = true) := fun q => q.1 (by omega)
        rw [if_neg hno] at nx
        exact nx M1 hK hBY h9Y grew.rfl
      · have e2 : (iv i + 2) - (iv i + 2) / 4 * 4 = iv ((i + 2) % 4 : Nat) := by
          rw [show (2 : Int32) = iv (2 : Nat) from rfl, iv_add, ← Int.natCast_add, eqI, ti_rem (by rw [iv_toInt (by omega) (by omega)]; omega) (by decide), iv_toInt (by omega) (by omega), iv_toInt (by omega) (by omega)]
          simp only [Int32.reduceToInt]
          omega
        rw [e2, show (4 : Int32) = iv 4 from rfl, iv_mul, iv_add]
        congr 1
      · rw [hK.1 24 (by decide) (by decide) (by decide), hF.2 _ (by omega)] at z2
        have hno : ¬ (goV (M 1) c i ≠ c ∧ F.2 (4 * goV (M 1) c i + (i + 2) % 4) = true) := fun q => by
          rw [q.2] at z2
          exact absurd z2 (by decide)
        rw [if_neg hno] at nx
        exact nx M1 hK hBY h9Y grew.rfl
      · rw [hK.1 24 (by decide) (by decide) (by decide), hF.2 _ (by omega)] at z2
        have hgo : goV (M 1) c i ≠ c := fun q => z (by rw [q])
        have hyes : goV (M 1) c i ≠ c ∧ F.2 (4 * goV (M 1) c i + (i + 2) % 4) = true := by
          refine ⟨hgo, ?_⟩
          cases q : F.2 (4 * goV (M 1) c i + (i + 2) % 4)
          · rw [q] at z2
            exact absurd rfl z2
          · rfl
        rw [if_pos hyes] at nx
        have e64 : iv (goV (M 1) c i : Nat) + 64 = iv (goV (M 1) c i + 64 : Nat) := by
          rw [show (64 : Int32) = iv 64 from rfl, iv_add]
          congr 1
        rw [e64]
        exact c9_comesBy h9Y (by omega) (by omega) (fun q => hBY.room (by omega) q) fun M2 hK2 h92 => nx M2 (hK.trans hK2) (cb_inv hBY hkY hvY (nodeE hgc.1 hgc.2).2 (adj_in hc (by omega) hgo)) h92 cb_grew
  have gX : ∀ (c : Nat), c < 64 → cellB (M 1 150) (M 1 151) (iv c) = true → ∀ (n i : Nat) (Y : PSt) (M1 : zM), i + n = 4 → K9 M M1 → BI (M 1) F.2 a Y → B9 M1 Y → k < Y.2.length → Y.2.getD k 0 = c + 64 → (∀ M' : zM, K9 M M' → B9 M' (wayX (M 1) F.2 c n i Y) → Q M') → zW shM g (d + 3) mX9_spreads (zv Q) 112 [(0, .ref 0), (1, .int (iv (c + 64 : Nat))), (3, .int (iv c)), (4, .int (iv i))] [] M1 := by
    intro c hc hcc n
    induction n with
    | zero =>
      intro i Y M1 hi hK hBY h9Y _ _ hh
      obtain rfl : i = 4 := by omega
      exact vX9_spreads_112 ⟨fun _ => hh M1 hK h9Y, fun z => absurd (by decide) z⟩
    | succ n ih =>
      intro i Y M1 hi hK hBY h9Y hkY hvY hh
      rw [wayX] at hh
      have e1 : M1 1 = M 1 := hK.1 1 (by decide) (by decide) (by decide)
      have hgc := goV_cell hw hcc hc (i := i)
      refine vX9_spreads_112 ⟨fun z => (not_le_iv (a := 4) (b := i) (by omega) (by omega) z).elim, fun _ => c9_wentTo (by rw [e1]; exact hw) hc (by omega) ?_⟩
      rw [e1]
      have nx : ∀ M2 : zM, K9 M M2 → BI (M 1) F.2 a (if goV (M 1) c i ≠ c ∧ F.2 (4 * c + i) = false then cbS (c + 64) (goV (M 1) c i) Y else Y) → B9 M2 (if goV (M 1) c i ≠ c ∧ F.2 (4 * c + i) = false then cbS (c + 64) (goV (M 1) c i) Y else Y) → grew Y (if goV (M 1) c i ≠ c ∧ F.2 (4 * c + i) = false then cbS (c + 64) (goV (M 1) c i) Y else Y) → zW shM g (d + 3) mX9_spreads (zv Q) 112 [(0, .ref 0), (1, .int (iv (c + 64 : Nat))), (3, .int (iv c)), (4, .int (iv i + 1))] [] M2 := by
        intro M2 hK2 hB2 h92 hg2
        rw [iv_s]
        exact ih (i + 1) _ M2 (by omega) hK2 hB2 h92 (Nat.lt_of_lt_of_le hkY hg2.1) ((hg2.2 k hkY).trans hvY) hh
      refine ⟨fun z => ?_, fun z => ⟨4 * c + i, ?_, by omega, fun z2 => ?_, fun z2 => ?_⟩⟩
      · rw [iv_inj (by omega) (by omega)] at z
        have hno : ¬ (goV (M 1) c i ≠ c ∧ F.2 (4 * c + i) = false) := fun q => q.1 (by omega)
        rw [if_neg hno] at nx
        exact nx M1 hK hBY h9Y grew.rfl
      · rw [show (4 : Int32) = iv 4 from rfl, iv_mul, iv_add]
        congr 1
      · rw [hK.1 24 (by decide) (by decide) (by decide), hF.2 _ (by omega)] at z2
        have hno : ¬ (goV (M 1) c i ≠ c ∧ F.2 (4 * c + i) = false) := fun q => by
          rw [q.2] at z2
          exact absurd rfl z2
        rw [if_neg hno] at nx
        exact nx M1 hK hBY h9Y grew.rfl
      · rw [hK.1 24 (by decide) (by decide) (by decide), hF.2 _ (by omega)] at z2
        have hgo : goV (M 1) c i ≠ c := fun q => z (by rw [q])
        have hf : F.2 (4 * c + i) = false := by
          cases q : F.2 (4 * c + i)
          · rfl
          · rw [q] at z2
            exact absurd z2 (by decide)
        rw [if_pos ⟨hgo, hf⟩] at nx
        exact c9_comesBy h9Y (by omega) (by omega) (fun q => hBY.room (by omega) q) fun M2 hK2 h92 => nx M2 (hK.trans hK2) (cb_inv hBY hkY hvY (nodeE hgc.1 hgc.2).1 (adj_out (by omega) hgo hgc.1 hf)) h92 cb_grew
  unfold sprS at h
  refine vX9_spreads ⟨fun z => ?_, fun z => ?_⟩
  · rw [show (64 : Int32) = iv (64 : Nat) from rfl, Int32.le_iff_toInt_le, iv_toInt (by omega) (by omega), iv_toInt (by omega) (by omega)] at z
    rw [if_neg (by omega)] at h
    obtain ⟨c, he⟩ : ∃ c, v = c + 64 := ⟨v - 64, by omega⟩
    subst he
    rw [show (c + 64) % 64 = c by omega] at n2
    rw [show c + 64 - 64 = c by omega] at h
    rw [mod64 n1, show (c + 64) % 64 = c by omega]
    refine ⟨c, rfl, by omega, fun z2 => ?_, fun z2 => ⟨fun z3 => ?_, fun z3 => ?_⟩⟩
    · rw [hF.1 c (by omega)] at z2
      have hno : ¬ (F.1 c = true ∧ c ≠ a) := fun q => by
        rw [q.1] at z2
        exact absurd z2 (by decide)
      rw [if_neg hno] at h
      exact gX c (by omega) n2 4 0 X M rfl K9.rfl hB h9 hk hv h
    · rw [iv_inj (by omega) (by omega)] at z3
      have hno : ¬ (F.1 c = true ∧ c ≠ a) := fun q => q.2 (by omega)
      rw [if_neg hno] at h
      exact gX c (by omega) n2 4 0 X M rfl K9.rfl hB h9 hk hv h
    · have hca : c ≠ a := fun q => z3 (by rw [q])
      have hfc : F.1 c = true := by
        cases q : F.1 c
        · rw [hF.1 c (by omega), q] at z2
          exact absurd rfl z2
        · rfl
      rw [if_pos ⟨hfc, hca⟩] at h
      refine c9_comesBy h9 (by omega) (by omega) (fun q => hB.room (by omega) q) fun M2 hK2 h92 => ?_
      have hg2 : grew X (cbS (c + 64) c X) := cb_grew
      exact gX c (by omega) n2 4 0 _ M2 rfl hK2 (cb_inv hB hk hv (nodeE (by omega) n2).1 (adj_same (by omega)).2) h92 (Nat.lt_of_lt_of_le hk hg2.1) ((hg2.2 k hk).trans hv) h
  · rw [show (64 : Int32) = iv (64 : Nat) from rfl, Int32.le_iff_toInt_le, iv_toInt (by omega) (by omega), iv_toInt (by omega) (by omega)] at z
    rw [if_pos (by omega)] at h
    rw [show v % 64 = v by omega] at n2
    rw [mod64 n1, show v % 64 = v by omega]
    refine ⟨v, rfl, by omega, fun z2 => ?_, fun z2 => ?_⟩
    · have hfc : F.1 v = true := by
        cases q : F.1 v
        · rw [hF.1 v (by omega), q] at z2
          exact absurd rfl z2
        · rfl
      rw [if_pos hfc] at h
      exact gE v (by omega) n2 4 0 X M rfl K9.rfl hB h9 hk hv h
    · rw [hF.1 v (by omega)] at z2
      have hno : ¬ (F.1 v = true) := fun q => by
        rw [q] at z2
        exact absurd z2 (by decide)
      rw [if_neg hno] at h
      have e64 : iv v + 64 = iv (v + 64 : Nat) := by
        rw [show (64 : Int32) = iv 64 from rfl, iv_add]
        congr 1
      rw [e64]
      refine c9_comesBy h9 (by omega) (by omega) (fun q => hB.room (by omega) q) fun M2 hK2 h92 => ?_
      have hg2 : grew X (cbS v (v + 64) X) := cb_grew
      exact gE v (by omega) n2 4 0 _ M2 rfl hK2 (cb_inv hB hk hv (nodeE (by omega) n2).2 (adj_same (by omega)).1) h92 (Nat.lt_of_lt_of_le hk hg2.1) ((hg2.2 k hk).trans hv) h
theorem c9_wayBetween {Q : Int32 → zM → Prop} {c e i0 : Nat} (hw : WHw (M 1)) (hc : c < 64) (hcc : cellB (M 1 150) (M 1 151) (iv c) = true) (hi : i0 < 4) (hg : goV (M 1) c i0 = e) (hne : e ≠ c) (h : Q (iv (dirN c e : Nat)) M) : zCi shM g (d + 3) mX9_wayBetween [.ref 0, .int (iv c), .int (iv e)] M Q := by
  have he : e < 64 := by
    rw [← hg]
    exact (goV_cell hw hcc hc).1
  have hd := (go_dir hw hc hcc hi (by rw [hg]; exact hne)).1
  rw [hg] at hd
  rw [hd] at h
  refine vX9_wayBetween ?_
  have loop : ∀ f i : Nat, i + f = i0 → zW shM g (d + 3) mX9_wayBetween (zi Q) 2 [(0, .ref 0), (1, .int (iv c)), (2, .int (iv e)), (3, .int (iv i))] [] M := by
    intro f
    induction f with
    | zero =>
      intro i hi2
      obtain rfl : i = i0 := by omega
      refine vX9_wayBetween_2 ⟨fun z => (not_le_iv (a := 4) (b := i) (by omega) (by omega) z).elim, fun _ => c9_wentTo hw hc hi ?_⟩
      rw [hg]
      refine ⟨fun z => absurd rfl z, fun _ => ⟨fun z => ?_, fun _ => h⟩⟩
      rw [iv_inj (by omega) (by omega)] at z
      omega
    | succ f ih =>
      intro i hi2
      have hgi := goV_cell hw hcc hc (i := i)
      have hne2 : goV (M 1) c i ≠ e := fun z => by
        have hd2 := (go_dir hw hc hcc (show i < 4 by omega) (by rw [z]; exact hne)).1
        rw [z] at hd2
        omega
      refine vX9_wayBetween_2 ⟨fun z => (not_le_iv (a := 4) (b := i) (by omega) (by omega) z).elim, fun _ => c9_wentTo hw hc (by omega) ⟨fun _ => ?_, fun z => ?_⟩⟩
      · rw [iv_s]
        exact ih (i + 1) (by omega)
      · rw [iv_inj (by omega) (by omega)] at z
        exact absurd (by omega) hne2
  exact loop i0 0 (by omega)
theorem c9_turnsBack {Q : zM → Prop} {X : PSt} {a : Nat} {fl : Nat → Bool} (ha : a < 64) (hw : WHw (M 1)) (hB : BI (M 1) fl a X) (h9 : B9 M X) : ∀ (f j v : Nat) (F : FSt) (M1 : zM), j < f → j < X.2.length → X.2.getD j 0 = v → (∀ o, o ≠ 23 → o ≠ 24 → M1 o = M o) → F9 M1 F → (∀ M' : zM, (∀ o, o ≠ 23 → o ≠ 24 → M' o = M o) → F9 M' (trnF a X.1 f v F) → Q M') → zW shM g (d + 4) mX9_turnsBack (zv Q) 2 [(0, .ref 0), (1, .int (iv a)), (3, .int (iv v))] [] M1
  | 0, j, _, _, _, hj, _, _, _, _, _ => absurd hj (Nat.not_lt_zero j)
  | f + 1, j, v, F, M1, hj, hjl, hv, ho, hF, h => by
    obtain ⟨⟨p1, pc⟩, p2, p3⟩ := hB.2.2.1 j hjl
    rw [hv] at p1 p2 p3 pc
    have e64 : iv a + 64 = iv (a + 64 : Nat) := by
      rw [show (64 : Int32) = iv 64 from rfl, iv_add]
      congr 1
    rw [trnF] at h
    by_cases hv64 : v = a + 64
    · rw [if_pos hv64] at h
      refine vX9_turnsBack_2 ⟨fun _ => h M1 ho hF, fun z => absurd ?_ z⟩
      rw [e64, hv64]
    · rw [if_neg hv64] at h
      have hj0 : 0 < j := Nat.pos_of_ne_zero fun z => hv64 (by rw [← hv, z]; exact hB.2.2.2.2.2.2.2)
      obtain ⟨i2, h1, h2, h5⟩ := hB.2.2.2.1.1 j hj0 hjl
      rw [hv] at h2 h5
      obtain ⟨⟨q1, qc⟩, q2, q3⟩ := hB.2.2.1 i2 (by omega)
      obtain ⟨u, hu⟩ : ∃ u, u = X.2.getD i2 0 := ⟨_, rfl⟩
      rw [← hu] at q1 q2 q3 h2 h5 qc
      rw [h2] at h
      have hh : ∀ M' : zM, (∀ o, o ≠ 23 → o ≠ 24 → M' o = M o) → F9 M' (trnF a X.1 f u (trn1 u v F)) → Q M' := h
      have e21 : M1 21 v = iv u := by
        rw [ho 21 (by decide) (by decide), h9.1 v p1, h2]
        rfl
      have e1 : M1 1 = M 1 := ho 1 (by decide) (by decide)
      have hw1 : WHw (M1 1) := by rw [e1]; exact hw
      have go : ∀ M2 : zM, (∀ o, o ≠ 23 → o ≠ 24 → M2 o = M o) → F9 M2 (trn1 u v F) → zW shM g (d + 4) mX9_turnsBack (zv Q) 2 [(0, .ref 0), (1, .int (iv a)), (3, .int (iv u))] [] M2 := fun M2 ho2 hF2 => c9_turnsBack ha hw hB h9 f i2 u _ M2 (by omega) (by omega) hu.symm ho2 hF2 hh
      unfold trn1 at go
      refine vX9_turnsBack_2 ⟨fun z => ?_, fun _ => ⟨v, rfl, p1, ?_⟩⟩
      · rw [e64, iv_inj (by omega) (by omega)] at z
        exact absurd (by omega) hv64
      · rw [e21, mod64 q1, mod64 p1]
        rcases h5 with ⟨e, hne⟩ | ⟨g1, g2, i, g3, g4, g5, g6⟩ | ⟨g1, g2, i, g3, g4, g5⟩
        · rw [if_pos e] at go
          refine ⟨fun z => absurd (by rw [e]) z, fun _ => ⟨fun z => ⟨u % 64, rfl, by omega, go _ (fun o a b => by rw [zup_oth a]; exact ho o a b) ⟨fun c hc => ?_, fun j hj => ?_⟩⟩, fun z => ⟨u % 64, rfl, by omega, go _ (fun o a b => by rw [zup_oth a]; exact ho o a b) ⟨fun c hc => ?_, fun j hj => ?_⟩⟩⟩⟩
          · rw [show (64 : Int32) = iv (64 : Nat) from rfl, Int32.le_iff_toInt_le, iv_toInt (by omega) (by omega), iv_toInt (by omega) (by omega)] at z
            show _ = zbI (setB1 F.1 (u % 64) (decide (u < 64)) c)
            by_cases ec : c = u % 64
            · rw [ec, zup_same, setB1_at, decide_eq_false (by omega)]
            · rw [zup_ne (Or.inr ec), setB1_ne ec]
              exact hF.1 c hc
          · rw [zup_oth (by decide)]
            exact hF.2 j hj
          · rw [show (64 : Int32) = iv (64 : Nat) from rfl, Int32.le_iff_toInt_le, iv_toInt (by omega) (by omega), iv_toInt (by omega) (by omega)] at z
            show _ = zbI (setB1 F.1 (u % 64) (decide (u < 64)) c)
            by_cases ec : c = u % 64
            · rw [ec, zup_same, setB1_at, decide_eq_true (by omega)]
            · rw [zup_ne (Or.inr ec), setB1_ne ec]
              exact hF.1 c hc
          · rw [zup_oth (by decide)]
            exact hF.2 j hj
        · have hcc : cellB (M1 1 150) (M1 1 151) (iv (u % 64 : Nat)) = true := by rw [e1]; exact qc
          have hd4 : dirN (u % 64) (v % 64) < 4 := by
            unfold dirN
            split <;> split <;> omega
          rw [if_neg (by omega), if_pos g1] at go
          refine ⟨fun _ => ⟨fun z => ?_, fun _ => c9_wayBetween (i0 := i) hw1 (by omega) hcc g3 (by rw [e1, show u % 64 = u - 64 by omega, g4]; omega) (by omega) ⟨4 * (u % 64) + dirN (u % 64) (v % 64), ?_, by omega, go _ (fun o a b => by rw [zup_oth b]; exact ho o a b) ⟨fun c hc => ?_, fun j hj => ?_⟩⟩⟩, fun z => ?_⟩
          · exfalso
            rw [show (64 : Int32) = iv (64 : Nat) from rfl, Int32.lt_iff_toInt_lt, iv_toInt (by omega) (by omega), iv_toInt (by omega) (by omega)] at z
            omega
          · rw [show (4 : Int32) = iv 4 from rfl, iv_mul, iv_add]
            congr 1
          · rw [zup_oth (by decide)]
            exact hF.1 c hc
          · show _ = zbI (setB1 F.2 (4 * (u % 64) + dirN (u % 64) (v % 64)) true j)
            by_cases ej : j = 4 * (u % 64) + dirN (u % 64) (v % 64)
            · rw [ej, zup_same, setB1_at]
            · rw [zup_ne (Or.inr ej), setB1_ne ej]
              exact hF.2 j hj
          · exfalso
            rw [iv_inj (by omega) (by omega)] at z
            omega
        · have hcc : cellB (M1 1 150) (M1 1 151) (iv (v % 64 : Nat)) = true := by rw [e1]; exact pc
          have hd4 : dirN (v % 64) (u % 64) < 4 := by
            unfold dirN
            split <;> split <;> omega
          have hb := (go_dir hw (k := u) (i := i) (by omega) (by rw [show u % 64 = u by omega] at qc; exact qc) g3 (by rw [g4]; exact g5)).2
          rw [g4] at hb
          rw [if_neg (by omega), if_neg (by omega)] at go
          refine ⟨fun _ => ⟨fun _ => c9_wayBetween (i0 := (i + 2) % 4) hw1 (by omega) hcc (by omega) (by rw [e1, show v % 64 = v - 64 by omega, hb]; omega) (by omega) ⟨4 * (v % 64) + dirN (v % 64) (u % 64), ?_, by omega, go _ (fun o a b => by rw [zup_oth b]; exact ho o a b) ⟨fun c hc => ?_, fun j hj => ?_⟩⟩, fun z => ?_⟩, fun z => ?_⟩
          · rw [show (4 : Int32) = iv 4 from rfl, iv_mul, iv_add]
            congr 1
          · rw [zup_oth (by decide)]
            exact hF.1 c hc
          · show _ = zbI (setB1 F.2 (4 * (v % 64) + dirN (v % 64) (u % 64)) false j)
            by_cases ej : j = 4 * (v % 64) + dirN (v % 64) (u % 64)
            · rw [ej, zup_same, setB1_at]
            · rw [zup_ne (Or.inr ej), setB1_ne ej]
              exact hF.2 j hj
          · exfalso
            apply z
            rw [show (64 : Int32) = iv (64 : Nat) from rfl, Int32.lt_iff_toInt_lt, iv_toInt (by omega) (by omega), iv_toInt (by omega) (by omega)]
            omega
          · exfalso
            rw [iv_inj (by omega) (by omega)] at z
            omega
theorem c9_oneMore {Q : Bool → zM → Prop} {F : FSt} {a b : Nat} (hw : WHw (M 1)) (ha : a < 64) (hca : cellB (M 1 150) (M 1 151) (iv a) = true) (hb : b < 64) (hba : b ≠ a) (hF : F9 M F) (h : ∀ M' : zM, (∀ o, o ≠ 0 → o ≠ 21 → o ≠ 22 → o ≠ 23 → o ≠ 24 → M' o = M o) → (∀ j, j ≠ 45 → M' 0 j = M 0 j) → ((bfsS (M 1) F.1 F.2 a b).1 b = none → F9 M' F → Q false M') ∧ ((bfsS (M 1) F.1 F.2 a b).1 b ≠ none → F9 M' (trnF a (bfsS (M 1) F.1 F.2 a b).1 128 b F) → Q true M')) : zCz shM g (d + 5) mX9_oneMore [.ref 0, .int (iv a), .int (iv b)] M Q := by
  refine vX9_oneMore ?_
  have fin : ∀ (X : PSt) (M1 : zM), X = bfsS (M 1) F.1 F.2 a b → K9 M M1 → BI (M 1) F.2 a X → B9 M1 X → zW shM g (d + 5) mX9_oneMore (zz Q) 83 [(0, .ref 0), (1, .int (iv a)), (2, .int (iv b))] [] M1 := by
    intro X M1 hX hK hB h9
    have hF1 : F9 M1 F := by
      unfold F9
      rw [hK.1 23 (by decide) (by decide) (by decide), hK.1 24 (by decide) (by decide) (by decide)]
      exact hF
    rw [← hX] at h
    have e1 : M1 1 = M 1 := hK.1 1 (by decide) (by decide) (by decide)
    refine vX9_oneMore_83 ⟨b, rfl, by omega, fun z => ?_, fun z => ?_⟩
    · rw [h9.1 b (by omega), optI_none (h9.2.2.2 b)] at z
      rcases hB.2.2.2.1.2 b z with e | ⟨j, j1, j2⟩
      · exact absurd e hba
      · have hl := hB.len
        refine vX9_turnsBack (c9_turnsBack (M := M1) (fl := F.2) ha (by rw [e1]; exact hw) (by rw [e1]; exact hB) h9 128 j b F M1 (by omega) j1 j2 (fun _ _ _ => rfl) hF1 fun M2 ho2 hF2 => ?_)
        exact (h M2 (fun o a b c e f => (ho2 o e f).trans (hK.1 o a b c)) (fun j hj => by rw [ho2 0 (by decide) (by decide)]; exact hK.2 j hj)).2 z hF2
    · rw [h9.1 b (by omega), optI_none (h9.2.2.2 b)] at z
      exact (h M1 (fun o a b c _ _ => hK.1 o a b c) hK.2).1 z hF1
  have loop : ∀ (f k : Nat) (X : PSt) (M1 : zM), k + f = 128 → K9 M M1 → BI (M 1) F.2 a X → B9 M1 X → bfsF (M 1) F.1 F.2 a b f k X = bfsS (M 1) F.1 F.2 a b → zW shM g (d + 5) mX9_oneMore (zz Q) 48 [(0, .ref 0), (1, .int (iv a)), (2, .int (iv b)), (3, .int (iv k))] [] M1 := by
    intro f
    induction f with
    | zero =>
      intro k X M1 hk hK hB h9 hX
      have hl := hB.len
      refine vX9_oneMore_48 ⟨fun _ => fin X M1 hX hK hB h9, fun z => absurd ?_ z⟩
      rw [h9.2.2.1]
      exact le_iv_of (by omega) (by omega)
    | succ f ih =>
      intro k X M1 hk hK hB h9 hX
      have hl := hB.len
      have e1 : M1 1 = M 1 := hK.1 1 (by decide) (by decide) (by decide)
      rw [bfsF] at hX
      refine vX9_oneMore_48 ⟨fun z => ?_, fun z => ⟨b, rfl, by omega, fun z2 => ?_, fun z2 => ⟨k, rfl, by omega, ?_⟩⟩⟩
      · rw [h9.2.2.1, Int32.le_iff_toInt_le, iv_toInt (by omega) (by omega), iv_toInt (by omega) (by omega)] at z
        rw [if_neg (fun q => by omega)] at hX
        exact fin X M1 hX hK hB h9
      · rw [h9.1 b (by omega), optI_none (h9.2.2.2 b)] at z2
        rw [if_neg (fun q => z2 q.2)] at hX
        exact fin X M1 hX hK hB h9
      · rw [h9.2.2.1, Int32.le_iff_toInt_le, iv_toInt (by omega) (by omega), iv_toInt (by omega) (by omega)] at z
        rw [h9.1 b (by omega), optI_none (h9.2.2.2 b)] at z2
        rw [if_pos ⟨by omega, z2⟩] at hX
        have hF1 : F9 M1 F := by
          unfold F9
          rw [hK.1 23 (by decide) (by decide) (by decide), hK.1 24 (by decide) (by decide) (by decide)]
          exact hF
        rw [h9.2.1 k (by omega)]
        refine c9_spreads (F := F) (k := k) (by rw [e1]; exact hw) ha hF1 (by rw [e1]; exact hB) h9 (by omega) rfl fun M2 hK2 h92 => ?_
        rw [e1] at h92
        rw [iv_s]
        exact ih (k + 1) _ M2 (by omega) (hK.trans hK2) (sprS_inv hw hB (by omega) rfl).1 h92 hX
  have start : ∀ (f k : Nat) (M1 : zM), k + f = 128 → (∀ o, o ≠ 21 → M1 o = M o) → (∀ v, v < k → M1 21 v = -1) → zW shM g (d + 5) mX9_oneMore (zz Q) 2 [(0, .ref 0), (1, .int (iv a)), (2, .int (iv b)), (3, .int (iv k))] [] M1 := by
    intro f
    induction f with
    | zero =>
      intro k M1 hk ho hr
      obtain rfl : k = 128 := by omega
      have e64 : iv a + 64 = iv (a + 64 : Nat) := by
        rw [show (64 : Int32) = iv 64 from rfl, iv_add]
        congr 1
      have ex : cbS (a + 64) (a + 64) (fun k => if k = a then some a else none, []) = bfs0 a := by
        rw [cb_yes (if_neg (by omega))]
        unfold bfs0
        congr 1
        funext k
        show (if k = a + 64 then some (a + 64) else if k = a then some a else none) = (if k = a then some a else if k = a + 64 then some (a + 64) else none)
        by_cases e : k = a
        · rw [if_neg (by omega), if_pos e, if_pos e]
        · rw [if_neg e, if_neg e]
      refine vX9_oneMore_2 ⟨fun _ => ⟨a, rfl, by omega, ?_⟩, fun z => absurd (by decide) z⟩
      rw [e64]
      refine c9_comesBy (X := (fun k => if k = a then some a else none, [])) ⟨fun v hv => ?_, fun j hj => absurd hj (Nat.not_lt_zero j), ?_, fun v u hvu => ?_⟩ (by omega) (by omega) (fun _ => Nat.zero_le _) fun M2 hK2 h92 => ?_
      · show _ = optI (if v = a then some a else none)
        by_cases e : v = a
        · rw [e, zup_same, if_pos rfl]
          rfl
        · rw [zup_ne (Or.inr e), if_neg e, zup_oth (by decide)]
          exact hr v hv
      · rw [zup_oth (by decide), zup_same]
        rfl
      · have hvu2 : (if v = a then some a else none) = some u := hvu
        by_cases e : v = a
        · rw [if_pos e] at hvu2
          cases hvu2
          omega
        · rw [if_neg e] at hvu2
          cases hvu2
      · rw [ex] at h92
        refine loop 128 0 (bfs0 a) M2 rfl ⟨fun o q1 q2 q3 => ?_, fun j hj => ?_⟩ (bfs0_inv ha hca) h92 rfl
        · rw [hK2.1 o q1 q2 q3, zup_oth q2, zup_oth q1]
          exact ho o q2
        · rw [hK2.2 j hj, zup_oth (by decide), zup_ne (Or.inr hj), ho 0 (by decide)]
    | succ f ih =>
      intro k M1 hk ho hr
      refine vX9_oneMore_2 ⟨fun z => (not_le_iv (a := 128) (b := k) (by omega) (by omega) z).elim, fun _ => ⟨k, rfl, by omega, ?_⟩⟩
      rw [iv_s]
      refine ih (k + 1) _ (by omega) (fun o hoo => by rw [zup_oth hoo]; exact ho o hoo) fun v hv => ?_
      by_cases e : v = k
      · rw [e, zup_same]
      · rw [zup_ne (Or.inr e)]
        exact hr v (by omega)
  exact start 128 0 M rfl (fun _ _ => rfl) fun v hv => absurd hv (Nat.not_lt_zero v)
theorem c9_parts {Q : Int32 → zM → Prop} {a b : Int32} (hi : IS (M 1)) (h : ∀ M' : zM, MEq M M' → Q (partsV (M 1) a b) M') : zCi shM g (d + 6) mX9_parts [.ref 0, .int a, .int b] M Q := by
  have hw := hi.1
  unfold partsV at h
  have h0 := h M MEq.rfl
  refine vX9_parts (c9_isCell hw ⟨fun hb => ?_, fun hca => c9_isCell hw ⟨fun hb => ?_, fun hcb => ?_⟩⟩)
  · rw [if_neg (fun z => by rw [hb] at z; exact Bool.noConfusion z.1)] at h0
    exact h0
  · rw [if_neg (fun z => by rw [hb] at z; exact Bool.noConfusion z.2.1)] at h0
    exact h0
  · obtain ⟨x, rfl, hx⟩ := cell_nat hca
    obtain ⟨y, rfl, hy⟩ := cell_nat hcb
    have hdl := distN_le (a := x) (b := y) hx hy
    rw [iv_tn (by omega), iv_tn (by omega)] at h h0
    refine c9_apart hx hy ⟨fun q => ?_, fun q => ?_⟩
    · rw [show (2 : Int32) = iv (2 : Nat) from rfl, Int32.le_iff_toInt_le, iv_toInt (by omega) (by omega), iv_toInt (by omega) (by omega)] at q
      rw [if_pos ⟨hca, hcb, by omega⟩] at h
      have hyx : y ≠ x := fun z => by
        have : distN x y = 0 := by
          rw [z]
          unfold distN
          omega
        omega
      have main : ∀ (f n : Nat) (F : FSt) (M1 : zM), n + f = 5 → (∀ o, o ≠ 0 → o ≠ 21 → o ≠ 22 → o ≠ 23 → o ≠ 24 → M1 o = M o) → (∀ j, j ≠ 45 → M1 0 j = M 0 j) → F9 M1 F → NI (M 1) x F → cntB (fun i => F.2 (4 * x + i)) 4 = n → prtF (M 1) x y f n F = prtF (M 1) x y 5 0 (fun _ => false, fun _ => false) → zW shM g (d + 6) mX9_parts (zi Q) 72 [(0, .ref 0), (1, .int (iv x)), (2, .int (iv y)), (3, .int (iv n))] [] M1 := by
        intro f
        induction f with
        | zero =>
          intro n F M1 hn _ _ _ _ hcnt _
          have := cntB_le (p := fun i => F.2 (4 * x + i)) 4
          omega
        | succ f ih =>
          intro n F M1 hn ho hj hF hN hcnt hP
          have e1 : M1 1 = M 1 := ho 1 (by decide) (by decide) (by decide) (by decide) (by decide)
          rw [prtF] at hP
          refine vX9_parts_72 (c9_oneMore (F := F) (by rw [e1]; exact hw) hx (by rw [e1]; exact hca) hy hyx hF fun M2 ho2 hj2 => ?_)
          rw [e1]
          refine ⟨fun hz hF2 => ⟨fun _ => ?_, fun z => Bool.noConfusion z⟩, fun hz hF2 => ⟨fun z => Bool.noConfusion z, fun _ => ?_⟩⟩
          · rw [if_pos hz] at hP
            have hm : MEq M M2 := by
              have hM2 : ∀ o, o ≠ 0 → o ≠ 21 → o ≠ 22 → o ≠ 23 → o ≠ 24 → M2 o = M o := fun o a b c e f => (ho2 o a b c e f).trans (ho o a b c e f)
              have hM0 : ∀ j, j ≠ 45 → M2 0 j = M 0 j := fun j hjj => (hj2 j hjj).trans (hj j hjj)
              exact ⟨hM2 1 (by decide) (by decide) (by decide) (by decide) (by decide), hM2 2 (by decide) (by decide) (by decide) (by decide) (by decide), hM2 3 (by decide) (by decide) (by decide) (by decide) (by decide), hM2 12 (by decide) (by decide) (by decide) (by decide) (by decide), hM0 4 (by decide), hM0 5 (by decide), hM0 23 (by decide), hM0 30 (by decide), hM0 32 (by decide)⟩
            have h9 := h M2 hm
            rw [← hP] at h9
            exact h9
          · rw [if_neg hz] at hP
            have hB := bfsS_inv (w := M 1) (fo := F.1) (fl := F.2) (a := x) (b := y) hw hx hca
            rw [iv_s]
            rcases hB.2.2.2.1.2 y hz with e | ⟨j, j1, j2⟩
            · exact absurd e hyx
            · have hl := hB.len
              obtain ⟨k1, i, i1, i2, i3, i4⟩ := trn_keep (X := bfsS (M 1) F.1 F.2 x y) hw hB hx 128 j y F (by omega) j1 j2 (by omega) hN fun _ _ => rfl
              refine ih (n + 1) _ M2 (by omega) (fun o a b c e f => (ho2 o a b c e f).trans (ho o a b c e f)) (fun j hjj => (hj2 j hjj).trans (hj j hjj)) hF2 k1 ?_ hP
              rw [← hcnt]
              exact cntB_one (k := i) 4 i1 i2 i3 fun j hj hji => i4 j hj hji
      have l50 : ∀ (f k : Nat) (M1 : zM), k + f = 256 → (∀ o, o ≠ 23 → o ≠ 24 → M1 o = M o) → (∀ c, c < 64 → M1 23 c = zbI false) → (∀ j, j < k → M1 24 j = zbI false) → zW shM g (d + 6) mX9_parts (zi Q) 50 [(0, .ref 0), (1, .int (iv x)), (2, .int (iv y)), (3, .int (iv k))] [] M1 := by
        intro f
        induction f with
        | zero =>
          intro k M1 hk ho h23 h24
          obtain rfl : k = 256 := by omega
          refine vX9_parts_50 ⟨fun _ => main 5 0 (fun _ => false, fun _ => false) M1 rfl (fun o _ _ _ e f => ho o e f) (fun j _ => by rw [ho 0 (by decide) (by decide)]) ⟨h23, h24⟩ ⟨rfl, fun _ _ _ _ _ _ _ => rfl⟩ rfl rfl, fun z => absurd (by decide) z⟩
        | succ f ih =>
          intro k M1 hk ho h23 h24
          refine vX9_parts_50 ⟨fun z => (not_le_iv (a := 256) (b := k) (by omega) (by omega) z).elim, fun _ => ⟨k, rfl, by omega, ?_⟩⟩
          rw [iv_s]
          refine ih (k + 1) _ (by omega) (fun o a b => by rw [zup_oth b]; exact ho o a b) (fun c hc => by rw [zup_oth (by decide)]; exact h23 c hc) fun j hj => ?_
          by_cases e : j = k
          · rw [e, zup_same]
          · rw [zup_ne (Or.inr e)]
            exact h24 j (by omega)
      have l29 : ∀ (f k : Nat) (M1 : zM), k + f = 64 → (∀ o, o ≠ 23 → M1 o = M o) → (∀ c, c < k → M1 23 c = zbI false) → zW shM g (d + 6) mX9_parts (zi Q) 29 [(0, .ref 0), (1, .int (iv x)), (2, .int (iv y)), (3, .int (iv k))] [] M1 := by
        intro f
        induction f with
        | zero =>
          intro k M1 hk ho h23
          obtain rfl : k = 64 := by omega
          exact vX9_parts_29 ⟨fun _ => l50 256 0 M1 rfl (fun o a _ => ho o a) h23 fun j hj => absurd hj (Nat.not_lt_zero j), fun z => absurd (by decide) z⟩
        | succ f ih =>
          intro k M1 hk ho h23
          refine vX9_parts_29 ⟨fun z => (not_le_iv (a := 64) (b := k) (by omega) (by omega) z).elim, fun _ => ⟨k, rfl, by omega, ?_⟩⟩
          rw [iv_s]
          refine ih (k + 1) _ (by omega) (fun o a => by rw [zup_oth a]; exact ho o a) fun j hj => ?_
          by_cases e : j = k
          · rw [e, zup_same]
          · rw [zup_ne (Or.inr e)]
            exact h23 j (by omega)
      exact l29 64 0 M rfl (fun _ _ => rfl) fun c hc => absurd hc (Nat.not_lt_zero c)
    · rw [show (2 : Int32) = iv (2 : Nat) from rfl, Int32.le_iff_toInt_le, iv_toInt (by omega) (by omega), iv_toInt (by omega) (by omega)] at q
      rw [if_neg (fun z => by omega)] at h0
      exact h0
end PA9
