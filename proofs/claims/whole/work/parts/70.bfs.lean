/-! PARTS: ways between two cells that share no cell, found breadth first -/
theorem cntB_one {p q : Nat → Bool} {k : Nat} : ∀ n, k < n → p k = false → q k = true → (∀ j, j < n → j ≠ k → q j = p j) → cntB q n = cntB p n + 1
  | 0, h, _, _, _ => absurd h (Nat.not_lt_zero _)
  | n + 1, h, h1, h2, h3 => by
    rw [cntB, cntB]
    by_cases e : k = n
    · subst e
      rw [cntB_congr (p := q) (q := p) k fun j hj => h3 j (by omega) (by omega), h1, h2, if_pos rfl, if_neg (by decide)]
    · rw [cntB_one n (by omega) h1 h2 fun j hj hne => h3 j (by omega) hne, h3 n (by omega) (fun z => e z.symm)]
      omega
theorem cntB_lt {p : Nat → Bool} {k n : Nat} (hk : k < n) (h : p k = false) : cntB p n < n := by
  have := cntB_one (p := p) (q := fun j => if j = k then true else p j) n hk h (if_pos rfl) fun j _ hj => if_neg hj
  have := cntB_le (p := fun j => if j = k then true else p j) n
  omega
theorem go_bes {w : Nat → Int32} (hw : WHw w) {k i : Nat} (hk : k < 64) (hc : cellB (w 150) (w 151) (iv k) = true) (hi : i < 4) : (goV w k i = k ∧ besV w k i = -1) ∨ (goV w k i ≠ k ∧ besV w k i = (goV w k i : Nat) ∧ goV w k i < 64) := by
  obtain ⟨w1, w2, w3, w4⟩ := hw
  simp only [cellB, decide_eq_true_eq, decide_eq_false_iff_not] at hc
  rw [iv_toInt (by omega) (by omega)] at hc
  unfold goV
  by_cases c : besV w k i = -1
  · rw [if_pos c]
    exact Or.inl ⟨rfl, c⟩
  · rw [if_neg c]
    refine Or.inr ?_
    unfold besV at c ⊢
    split at c
    · rename_i c2
      rw [if_pos c2]
      have hi4 : i = 0 ∨ i = 1 ∨ i = 2 ∨ i = 3 := by omega
      rcases hi4 with rfl | rfl | rfl | rfl <;> simp only [dX, dY] at c2 ⊢ <;> simp only [Nat.reduceEqDiff, if_true, if_false] at c2 ⊢ <;> omega
    · exact absurd rfl c
/-- which way leads from c to d -/
def dirN (c d : Nat) : Nat := if d / 8 = c / 8 then (if c ≤ d then 1 else 3) else (if c ≤ d then 2 else 0)
theorem go_dir {w : Nat → Int32} (hw : WHw w) {k i : Nat} (hk : k < 64) (hc : cellB (w 150) (w 151) (iv k) = true) (hi : i < 4) (hne : goV w k i ≠ k) : dirN k (goV w k i) = i ∧ goV w (goV w k i) ((i + 2) % 4) = k := by
  obtain ⟨w1, w2, w3, w4⟩ := hw
  simp only [cellB, decide_eq_true_eq, decide_eq_false_iff_not] at hc
  rw [iv_toInt (by omega) (by omega)] at hc
  have key : ∀ j d : Nat, j < 4 → (0 ≤ ((d % 8 : Nat) : Int) + dX j ∧ ((d % 8 : Nat) : Int) + dX j < (w 150).toInt ∧ 0 ≤ ((d / 8 : Nat) : Int) + dY j ∧ ((d / 8 : Nat) : Int) + dY j < (w 151).toInt) → goV w d j = (8 * (((d / 8 : Nat) : Int) + dY j) + (((d % 8 : Nat) : Int) + dX j)).toNat := by
    intro j d hj hc2
    unfold goV besV
    rw [if_pos hc2, if_neg (by omega)]
  have hin : 0 ≤ ((k % 8 : Nat) : Int) + dX i ∧ ((k % 8 : Nat) : Int) + dX i < (w 150).toInt ∧ 0 ≤ ((k / 8 : Nat) : Int) + dY i ∧ ((k / 8 : Nat) : Int) + dY i < (w 151).toInt := by
    refine Decidable.byContradiction fun z => hne ?_
    unfold goV besV
    rw [if_neg z, if_pos rfl]
  have e := key i k hi hin
  have hi4 : i = 0 ∨ i = 1 ∨ i = 2 ∨ i = 3 := by omega
  rcases hi4 with rfl | rfl | rfl | rfl <;> simp only [dX, dY] at hin e <;> simp only [Nat.reduceEqDiff, if_true, if_false] at hin e
  · have e8 : goV w k 0 = k - 8 := by omega
    refine ⟨?_, ?_⟩
    · rw [e8]
      unfold dirN
      rw [if_neg (by omega), if_neg (by omega)]
    · rw [e8, key _ _ (by decide) (by simp only [dX, dY]; simp only [Nat.reduceAdd, Nat.reduceMod, Nat.reduceEqDiff, if_true, if_false]; omega)]
      simp only [dX, dY]
      simp only [Nat.reduceAdd, Nat.reduceMod, Nat.reduceEqDiff, if_true, if_false]
      omega
  · have e8 : goV w k 1 = k + 1 := by omega
    refine ⟨?_, ?_⟩
    · rw [e8]
      unfold dirN
      rw [if_pos (by omega), if_pos (by omega)]
    · rw [e8, key _ _ (by decide) (by simp only [dX, dY]; simp only [Nat.reduceAdd, Nat.reduceMod, Nat.reduceEqDiff, if_true, if_false]; omega)]
      simp only [dX, dY]
      simp only [Nat.reduceAdd, Nat.reduceMod, Nat.reduceEqDiff, if_true, if_false]
      omega
  · have e8 : goV w k 2 = k + 8 := by omega
    refine ⟨?_, ?_⟩
    · rw [e8]
      unfold dirN
      rw [if_neg (by omega), if_pos (by omega)]
    · rw [e8, key _ _ (by decide) (by simp only [dX, dY]; simp only [Nat.reduceAdd, Nat.reduceMod, Nat.reduceEqDiff, if_true, if_false]; omega)]
      simp only [dX, dY]
      simp only [Nat.reduceAdd, Nat.reduceMod, Nat.reduceEqDiff, if_true, if_false]
      omega
  · have e8 : goV w k 3 = k - 1 := by omega
    refine ⟨?_, ?_⟩
    · rw [e8]
      unfold dirN
      rw [if_pos (by omega), if_neg (by omega)]
    · rw [e8, key _ _ (by decide) (by simp only [dX, dY]; simp only [Nat.reduceAdd, Nat.reduceMod, Nat.reduceEqDiff, if_true, if_false]; omega)]
      simp only [dX, dY]
      simp only [Nat.reduceAdd, Nat.reduceMod, Nat.reduceEqDiff, if_true, if_false]
      omega
abbrev PSt : Type := (Nat → Option Nat) × List Nat
/-- t comes to be known by way of u -/
def cbS (u t : Nat) (X : PSt) : PSt := if X.1 t = none then (fun k => if k = t then some u else X.1 k, X.2 ++ [t]) else X
def wayE (w : Nat → Int32) (fl : Nat → Bool) (c : Nat) : Nat → Nat → PSt → PSt
  | 0, _, X => X
  | n + 1, i, X => wayE w fl c n (i + 1) (if goV w c i ≠ c ∧ fl (4 * goV w c i + (i + 2) % 4) = true then cbS c (goV w c i + 64) X else X)
def wayX (w : Nat → Int32) (fl : Nat → Bool) (c : Nat) : Nat → Nat → PSt → PSt
  | 0, _, X => X
  | n + 1, i, X => wayX w fl c n (i + 1) (if goV w c i ≠ c ∧ fl (4 * c + i) = false then cbS (c + 64) (goV w c i) X else X)
def sprS (w : Nat → Int32) (fo fl : Nat → Bool) (a v : Nat) (X : PSt) : PSt :=
  if v < 64 then wayE w fl v 4 0 (if fo v = true then X else cbS v (v + 64) X)
  else wayX w fl (v - 64) 4 0 (if fo (v - 64) = true ∧ v - 64 ≠ a then cbS v (v - 64) X else X)
def bfsF (w : Nat → Int32) (fo fl : Nat → Bool) (a b : Nat) : Nat → Nat → PSt → PSt
  | 0, _, X => X
  | f + 1, k, X => if k < X.2.length ∧ X.1 b = none then bfsF w fo fl a b f (k + 1) (sprS w fo fl a (X.2.getD k 0) X) else X
def bfs0 (a : Nat) : PSt := (fun k => if k = a then some a else if k = a + 64 then some (a + 64) else none, [a + 64])
def bfsS (w : Nat → Int32) (fo fl : Nat → Bool) (a b : Nat) : PSt := bfsF w fo fl a b 128 0 (bfs0 a)
abbrev FSt : Type := (Nat → Bool) × (Nat → Bool)
def setB1 (f : Nat → Bool) (k : Nat) (x : Bool) : Nat → Bool := fun j => if j = k then x else f j
def trn1 (u v : Nat) (F : FSt) : FSt :=
  if u % 64 = v % 64 then (setB1 F.1 (u % 64) (decide (u < 64)), F.2)
  else if 64 ≤ u then (F.1, setB1 F.2 (4 * (u % 64) + dirN (u % 64) (v % 64)) true)
  else (F.1, setB1 F.2 (4 * (v % 64) + dirN (v % 64) (u % 64)) false)
def trnF (a : Nat) (p : Nat → Option Nat) : Nat → Nat → FSt → FSt
  | 0, _, F => F
  | f + 1, v, F => if v = a + 64 then F else trnF a p f ((p v).getD 0) (trn1 ((p v).getD 0) v F)
def prtF (w : Nat → Int32) (a b : Nat) : Nat → Nat → FSt → Nat
  | 0, n, _ => n
  | f + 1, n, F => if (bfsS w F.1 F.2 a b).1 b = none then n else prtF w a b f (n + 1) (trnF a (bfsS w F.1 F.2 a b).1 128 b F)
def partsV (w : Nat → Int32) (a b : Int32) : Int32 :=
  if cellB (w 150) (w 151) a = true ∧ cellB (w 150) (w 151) b = true ∧ 2 ≤ distN a.toInt.toNat b.toInt.toNat then iv (prtF w a.toInt.toNat b.toInt.toNat 5 0 (fun _ => false, fun _ => false) : Nat) else -1
/-- how one node leads to another -/
def adjS (w : Nat → Int32) (fl : Nat → Bool) (u v : Nat) : Prop :=
  (u % 64 = v % 64 ∧ u ≠ v) ∨ (64 ≤ u ∧ v < 64 ∧ ∃ i, i < 4 ∧ goV w (u - 64) i = v ∧ v ≠ u - 64 ∧ fl (4 * (u - 64) + i) = false) ∨ (u < 64 ∧ 64 ≤ v ∧ ∃ i, i < 4 ∧ goV w u i = v - 64 ∧ v - 64 ≠ u)
def nodeOK (w : Nat → Int32) (v : Nat) : Prop := v < 128 ∧ cellB (w 150) (w 151) (iv (v % 64 : Nat)) = true
/-- what holds while it spreads -/
def BI (w : Nat → Int32) (fl : Nat → Bool) (a : Nat) (X : PSt) : Prop :=
  (∀ v, X.1 v ≠ none → v < 128) ∧ cntB (fun v => (X.1 v).isSome) 128 = X.2.length + 1 ∧ (∀ j, j < X.2.length → nodeOK w (X.2.getD j 0) ∧ X.2.getD j 0 ≠ a ∧ X.1 (X.2.getD j 0) ≠ none) ∧
  ((∀ j, 0 < j → j < X.2.length → ∃ i, i < j ∧ X.1 (X.2.getD j 0) = some (X.2.getD i 0) ∧ adjS w fl (X.2.getD i 0) (X.2.getD j 0)) ∧ ∀ v, X.1 v ≠ none → v = a ∨ ∃ j, j < X.2.length ∧ X.2.getD j 0 = v) ∧ X.1 a = some a ∧ X.1 (a + 64) = some (a + 64) ∧ 0 < X.2.length ∧ X.2.getD 0 0 = a + 64
theorem cb_no {u t : Nat} {X : PSt} (h : X.1 t ≠ none) : cbS u t X = X := if_neg h
theorem cb_yes {u t : Nat} {X : PSt} (h : X.1 t = none) : cbS u t X = (fun k => if k = t then some u else X.1 k, X.2 ++ [t]) := if_pos h
/-- it only grows -/
def grew (X Y : PSt) : Prop := X.2.length ≤ Y.2.length ∧ (∀ j, j < X.2.length → Y.2.getD j 0 = X.2.getD j 0)
theorem grew.rfl {X : PSt} : grew X X := ⟨Nat.le_refl _, fun _ _ => Eq.refl _⟩
theorem grew.trans {X Y Z : PSt} (h : grew X Y) (h2 : grew Y Z) : grew X Z := ⟨Nat.le_trans h.1 h2.1, fun j hj => (h2.2 j (Nat.lt_of_lt_of_le hj h.1)).trans (h.2 j hj)⟩
theorem cb_grew {u t : Nat} {X : PSt} : grew X (cbS u t X) := by
  by_cases c : X.1 t = none
  · rw [cb_yes c]
    refine ⟨by show X.2.length ≤ (X.2 ++ [t]).length; rw [List.length_append]; omega, fun j hj => ?_⟩
    show (X.2 ++ [t]).getD j 0 = _
    rw [getD_app, if_neg (by omega)]
  · rw [cb_no c]
    exact grew.rfl
theorem cb_inv {w : Nat → Int32} {fl : Nat → Bool} {a u t k : Nat} {X : PSt} (hB : BI w fl a X) (hk : k < X.2.length) (hu : X.2.getD k 0 = u) (ht : nodeOK w t) (ha : adjS w fl u t) : BI w fl a (cbS u t X) := by
  by_cases c : X.1 t = none
  · rw [cb_yes c]
    obtain ⟨b1, b2, b3, b4, b5, b6, b7, b8⟩ := hB
    have hta : t ≠ a := fun z => by
      rw [z, b5] at c
      cases c
    have hlen : (X.2 ++ [t]).length = X.2.length + 1 := by rw [List.length_append]; rfl
    refine ⟨fun v hv => ?_, ?_, fun j hj => ?_, ⟨fun j hj0 hj => ?_, fun v hv => ?_⟩, ?_, ?_, ?_, ?_⟩
    · have hv2 : (if v = t then some u else X.1 v) ≠ none := hv
      by_cases e : v = t
      · rw [e]
        exact ht.1
      · rw [if_neg e] at hv2
        exact b1 v hv2
    · show cntB (fun v => (if v = t then some u else X.1 v).isSome) 128 = (X.2 ++ [t]).length + 1
      rw [hlen, ← b2]
      refine cntB_one (k := t) 128 ht.1 (by rw [c]; rfl) (by rw [if_pos rfl]; rfl) fun j _ hj => ?_
      rw [if_neg hj]
    · have hj2 : j < (X.2 ++ [t]).length := hj
      rw [hlen] at hj2
      show nodeOK w ((X.2 ++ [t]).getD j 0) ∧ (X.2 ++ [t]).getD j 0 ≠ a ∧ (if (X.2 ++ [t]).getD j 0 = t then some u else X.1 ((X.2 ++ [t]).getD j 0)) ≠ none
      rw [getD_app]
      by_cases e : j = X.2.length
      · rw [if_pos e, if_pos rfl]
        exact ⟨ht, hta, fun z => by cases z⟩
      · rw [if_neg e]
        obtain ⟨p1, p2, p3⟩ := b3 j (by omega)
        refine ⟨p1, p2, ?_⟩
        split
        · exact fun z => by cases z
        · exact p3
    · have hj2 : j < (X.2 ++ [t]).length := hj
      rw [hlen] at hj2
      show ∃ i, i < j ∧ (if (X.2 ++ [t]).getD j 0 = t then some u else X.1 ((X.2 ++ [t]).getD j 0)) = some ((X.2 ++ [t]).getD i 0) ∧ adjS w fl ((X.2 ++ [t]).getD i 0) ((X.2 ++ [t]).getD j 0)
      by_cases e : j = X.2.length
      · refine ⟨k, by omega, ?_⟩
        rw [getD_app, if_pos e, if_pos rfl, getD_app, if_neg (by omega), hu]
        exact ⟨rfl, ha⟩
      · obtain ⟨i, h1, h2, h3⟩ := b4.1 j hj0 (by omega)
        refine ⟨i, h1, ?_⟩
        have ei : (X.2 ++ [t]).getD i 0 = X.2.getD i 0 := by rw [getD_app, if_neg (by omega)]
        rw [getD_app, if_neg e, ei]
        have hne : X.2.getD j 0 ≠ t := fun z => by
          have := (b3 j (by omega)).2.2
          rw [z] at this
          exact this c
        rw [if_neg hne]
        exact ⟨h2, h3⟩
    · have hv2 : (if v = t then some u else X.1 v) ≠ none := hv
      show v = a ∨ ∃ j, j < (X.2 ++ [t]).length ∧ (X.2 ++ [t]).getD j 0 = v
      by_cases e : v = t
      · refine Or.inr ⟨X.2.length, by omega, ?_⟩
        rw [getD_app, if_pos rfl, e]
      · rw [if_neg e] at hv2
        rcases b4.2 v hv2 with h | ⟨j, h1, h2⟩
        · exact Or.inl h
        · refine Or.inr ⟨j, by omega, ?_⟩
          rw [getD_app, if_neg (by omega)]
          exact h2
    · show (if a = t then some u else X.1 a) = some a
      rw [if_neg (fun z => hta z.symm)]
      exact b5
    · show (if a + 64 = t then some u else X.1 (a + 64)) = some (a + 64)
      rw [if_neg (fun z => by rw [← z, b6] at c; cases c)]
      exact b6
    · show 0 < (X.2 ++ [t]).length
      omega
    · show (X.2 ++ [t]).getD 0 0 = a + 64
      rw [getD_app, if_neg (by omega)]
      exact b8
  · rw [cb_no c]
    exact hB
theorem BI.len {w : Nat → Int32} {fl : Nat → Bool} {a : Nat} {X : PSt} (h : BI w fl a X) : X.2.length ≤ 127 := by
  have := cntB_le (p := fun v => (X.1 v).isSome) 128
  have := h.2.1
  omega
theorem BI.room {w : Nat → Int32} {fl : Nat → Bool} {a t : Nat} {X : PSt} (h : BI w fl a X) (ht : t < 128) (hn : X.1 t = none) : X.2.length ≤ 126 := by
  have := cntB_lt (p := fun v => (X.1 v).isSome) (k := t) (n := 128) ht (by show (X.1 t).isSome = false; rw [hn]; rfl)
  have := h.2.1
  omega
theorem adj_same {w : Nat → Int32} {fl : Nat → Bool} {c : Nat} (hc : c < 64) : adjS w fl c (c + 64) ∧ adjS w fl (c + 64) c := ⟨Or.inl ⟨by omega, by omega⟩, Or.inl ⟨by omega, by omega⟩⟩
theorem adj_out {w : Nat → Int32} {fl : Nat → Bool} {c i : Nat} (hi : i < 4) (hne : goV w c i ≠ c) (hd : goV w c i < 64) (hf : fl (4 * c + i) = false) : adjS w fl (c + 64) (goV w c i) := Or.inr (Or.inl ⟨by omega, hd, i, hi, by rw [show c + 64 - 64 = c by omega], by omega, by rw [show c + 64 - 64 = c by omega]; exact hf⟩)
theorem adj_in {w : Nat → Int32} {fl : Nat → Bool} {c i : Nat} (hc : c < 64) (hi : i < 4) (hne : goV w c i ≠ c) : adjS w fl c (goV w c i + 64) := Or.inr (Or.inr ⟨hc, by omega, i, hi, by omega, by omega⟩)
theorem nodeE {w : Nat → Int32} {c : Nat} (hc : c < 64) (h : cellB (w 150) (w 151) (iv c) = true) : nodeOK w c ∧ nodeOK w (c + 64) := by
  refine ⟨⟨by omega, ?_⟩, by omega, ?_⟩
  · rw [show c % 64 = c by omega]
    exact h
  · rw [show (c + 64) % 64 = c by omega]
    exact h
/-- each round of the spreading keeps it -/
theorem wayE_inv {w : Nat → Int32} {fl : Nat → Bool} {a c k : Nat} (hw : WHw w) (hc : c < 64) (hcc : cellB (w 150) (w 151) (iv c) = true) : ∀ (n i : Nat) (X : PSt), i + n = 4 → BI w fl a X → k < X.2.length → X.2.getD k 0 = c → BI w fl a (wayE w fl c n i X) ∧ grew X (wayE w fl c n i X)
  | 0, _, _, _, hB, _, _ => ⟨hB, grew.rfl⟩
  | n + 1, i, X, hn, hB, hk, hu => by
    have hg := goV_cell hw hcc hc (i := i)
    rw [wayE]
    split
    · rename_i q
      have h1 := cb_inv hB hk hu (nodeE hg.1 hg.2).2 (adj_in hc (by omega) q.1)
      have h2 : grew X (cbS c (goV w c i + 64) X) := cb_grew
      obtain ⟨h3, h4⟩ := wayE_inv hw hc hcc n (i + 1) _ (by omega) h1 (Nat.lt_of_lt_of_le hk h2.1) ((h2.2 k hk).trans hu)
      exact ⟨h3, h2.trans h4⟩
    · exact wayE_inv hw hc hcc n (i + 1) X (by omega) hB hk hu
theorem wayX_inv {w : Nat → Int32} {fl : Nat → Bool} {a c k : Nat} (hw : WHw w) (hc : c < 64) (hcc : cellB (w 150) (w 151) (iv c) = true) : ∀ (n i : Nat) (X : PSt), i + n = 4 → BI w fl a X → k < X.2.length → X.2.getD k 0 = c + 64 → BI w fl a (wayX w fl c n i X) ∧ grew X (wayX w fl c n i X)
  | 0, _, _, _, hB, _, _ => ⟨hB, grew.rfl⟩
  | n + 1, i, X, hn, hB, hk, hu => by
    have hg := goV_cell hw hcc hc (i := i)
    rw [wayX]
    split
    · rename_i q
      have h1 := cb_inv hB hk hu (nodeE hg.1 hg.2).1 (adj_out (by omega) q.1 hg.1 q.2)
      have h2 : grew X (cbS (c + 64) (goV w c i) X) := cb_grew
      obtain ⟨h3, h4⟩ := wayX_inv hw hc hcc n (i + 1) _ (by omega) h1 (Nat.lt_of_lt_of_le hk h2.1) ((h2.2 k hk).trans hu)
      exact ⟨h3, h2.trans h4⟩
    · exact wayX_inv hw hc hcc n (i + 1) X (by omega) hB hk hu
theorem sprS_inv {w : Nat → Int32} {fo fl : Nat → Bool} {a v k : Nat} {X : PSt} (hw : WHw w) (hB : BI w fl a X) (hk : k < X.2.length) (hu : X.2.getD k 0 = v) : BI w fl a (sprS w fo fl a v X) ∧ grew X (sprS w fo fl a v X) := by
  obtain ⟨⟨n1, n2⟩, n3, n4⟩ := hB.2.2.1 k hk
  rw [hu] at n1 n2
  unfold sprS
  by_cases c : v < 64
  · rw [if_pos c]
    rw [show v % 64 = v by omega] at n2
    split
    · exact wayE_inv hw c n2 4 0 X rfl hB hk hu
    · have h1 := cb_inv hB hk hu (nodeE c n2).2 (adj_same c).1
      have h2 : grew X (cbS v (v + 64) X) := cb_grew
      obtain ⟨h3, h4⟩ := wayE_inv hw c n2 4 0 _ rfl h1 (Nat.lt_of_lt_of_le hk h2.1) ((h2.2 k hk).trans hu)
      exact ⟨h3, h2.trans h4⟩
  · rw [if_neg c]
    obtain ⟨e, he⟩ : ∃ e, v = e + 64 := ⟨v - 64, by omega⟩
    subst he
    rw [show e + 64 - 64 = e by omega]
    rw [show (e + 64) % 64 = e by omega] at n2
    split
    · have h1 := cb_inv hB hk hu (nodeE (by omega) n2).1 (adj_same (by omega)).2
      have h2 : grew X (cbS (e + 64) e X) := cb_grew
      obtain ⟨h3, h4⟩ := wayX_inv hw (by omega) n2 4 0 _ rfl h1 (Nat.lt_of_lt_of_le hk h2.1) ((h2.2 k hk).trans hu)
      exact ⟨h3, h2.trans h4⟩
    · exact wayX_inv hw (by omega) n2 4 0 X rfl hB hk hu
theorem bfs0_inv {w : Nat → Int32} {fl : Nat → Bool} {a : Nat} (ha : a < 64) (hc : cellB (w 150) (w 151) (iv a) = true) : BI w fl a (bfs0 a) := by
  have h1 : ∀ v, (bfs0 a).1 v = if v = a then some a else if v = a + 64 then some (a + 64) else none := fun _ => rfl
  have h2 : (bfs0 a).2 = [a + 64] := rfl
  refine ⟨fun v hv => ?_, ?_, fun j hj => ?_, ⟨fun j hj0 hj => ?_, fun v hv => ?_⟩, ?_, ?_, by rw [h2]; exact Nat.zero_lt_one, by rw [h2]; rfl⟩
  · rw [h1] at hv
    by_cases e : v = a
    · omega
    · rw [if_neg e] at hv
      by_cases e2 : v = a + 64
      · omega
      · rw [if_neg e2] at hv
        exact absurd rfl hv
  · rw [h2]
    have z : ∀ n, cntB (fun _ => false) n = 0 := fun n => by
      induction n with
      | zero => rfl
      | succ n ih => rw [cntB, ih]; rfl
    have c1 := cntB_one (p := fun _ => false) (q := fun v => decide (v = a)) (k := a) 128 (by omega) rfl (decide_eq_true rfl) fun j _ hj => decide_eq_false hj
    have c2 := cntB_one (p := fun v => decide (v = a)) (q := fun v => ((bfs0 a).1 v).isSome) (k := a + 64) 128 (by omega) (decide_eq_false (by omega)) (by
      show ((bfs0 a).1 (a + 64)).isSome = true
      rw [h1, if_neg (by omega), if_pos rfl]
      rfl) fun j _ hj => by
      show ((bfs0 a).1 j).isSome = decide (j = a)
      rw [h1]
      by_cases e : j = a
      · rw [if_pos e, decide_eq_true e]
        rfl
      · rw [if_neg e, if_neg hj, decide_eq_false e]
        rfl
    rw [c2, c1, z]
    rfl
  · rw [h2] at hj ⊢
    simp only [List.length_singleton] at hj
    obtain rfl : j = 0 := by omega
    refine ⟨(nodeE ha hc).2, by show a + 64 ≠ a; omega, ?_⟩
    show (bfs0 a).1 (a + 64) ≠ none
    rw [h1, if_neg (by omega), if_pos rfl]
    exact fun z => by cases z
  · rw [h2] at hj
    simp only [List.length_singleton] at hj
    omega
  · rw [h1] at hv
    by_cases e : v = a
    · exact Or.inl e
    · rw [if_neg e] at hv
      by_cases e2 : v = a + 64
      · exact Or.inr ⟨0, by rw [h2]; exact Nat.zero_lt_one, by rw [h2, e2]; rfl⟩
      · rw [if_neg e2] at hv
        exact absurd rfl hv
  · rw [h1, if_pos rfl]
  · rw [h1, if_neg (by omega), if_pos rfl]
theorem bfsF_inv {w : Nat → Int32} {fo fl : Nat → Bool} {a b : Nat} (hw : WHw w) : ∀ (f k : Nat) (X : PSt), BI w fl a X → BI w fl a (bfsF w fo fl a b f k X)
  | 0, _, _, hB => hB
  | f + 1, k, X, hB => by
    rw [bfsF]
    split
    · rename_i q
      exact bfsF_inv hw f (k + 1) _ (sprS_inv hw hB q.1 rfl).1
    · exact hB
theorem bfsS_inv {w : Nat → Int32} {fo fl : Nat → Bool} {a b : Nat} (hw : WHw w) (ha : a < 64) (hc : cellB (w 150) (w 151) (iv a) = true) : BI w fl a (bfsS w fo fl a b) := bfsF_inv hw 128 0 _ (bfs0_inv ha hc)
/-- nothing flows into a -/
def NI (w : Nat → Int32) (a : Nat) (F : FSt) : Prop := F.1 a = false ∧ ∀ c i : Nat, c < 64 → i < 4 → cellB (w 150) (w 151) (iv c) = true → goV w c i = a → c ≠ a → F.2 (4 * c + i) = false
theorem setB1_at {f : Nat → Bool} {k : Nat} {x : Bool} : setB1 f k x k = x := if_pos rfl
theorem setB1_ne {f : Nat → Bool} {k j : Nat} {x : Bool} (h : j ≠ k) : setB1 f k x j = f j := if_neg h
/-- one step back along the way found -/
theorem trn1_keep {w : Nat → Int32} {fl : Nat → Bool} {a u v : Nat} {F : FSt} (hw : WHw w) (hN : NI w a F) (hu : nodeOK w u) (hv : nodeOK w v) (hua : u ≠ a) (hva : v ≠ a) (hv64 : v ≠ a + 64) (ha : a < 64) (hadj : adjS w fl u v) : NI w a (trn1 u v F) ∧ (u ≠ a + 64 → ∀ i, i < 4 → (trn1 u v F).2 (4 * a + i) = F.2 (4 * a + i)) ∧ (u = a + 64 → ∃ i, i < 4 ∧ fl (4 * a + i) = false ∧ (trn1 u v F).2 (4 * a + i) = true ∧ ∀ j, j < 4 → j ≠ i → (trn1 u v F).2 (4 * a + j) = F.2 (4 * a + j)) := by
  obtain ⟨n1, n2⟩ := hN
  have hu1 := hu.1
  have hv1 := hv.1
  unfold trn1
  rcases hadj with ⟨e, hne⟩ | ⟨h1, h2, i, h3, h4, h5, h6⟩ | ⟨h1, h2, i, h3, h4, h5⟩
  · rw [if_pos e]
    refine ⟨⟨?_, n2⟩, fun _ i _ => rfl, fun z => by omega⟩
    show setB1 F.1 (u % 64) _ a = false
    rw [setB1_ne (by omega)]
    exact n1
  · have hcc := hu.2
    rw [show u % 64 = u - 64 by omega] at hcc
    have hd := go_dir hw (k := u - 64) (i := i) (by omega) hcc h3 (by rw [h4]; exact h5)
    rw [h4] at hd
    rw [if_neg (by omega), if_pos h1]
    rw [show u % 64 = u - 64 by omega, show v % 64 = v by omega, hd.1]
    refine ⟨⟨n1, fun c j hc hj hcb hg hca => ?_⟩, fun hua2 j hj => ?_, fun hua2 => ⟨i, h3, ?_, ?_, fun j hj hji => ?_⟩⟩
    · show setB1 F.2 (4 * (u - 64) + i) true (4 * c + j) = false
      rw [setB1_ne (fun z => ?_)]
      · exact n2 c j hc hj hcb hg hca
      · have e1 : c = u - 64 := by omega
        have e2 : j = i := by omega
        rw [e1, e2, h4] at hg
        exact hva hg
    · show setB1 F.2 (4 * (u - 64) + i) true (4 * a + j) = _
      rw [setB1_ne (by omega)]
    · rw [show a = u - 64 by omega]
      exact h6
    · show setB1 F.2 (4 * (u - 64) + i) true (4 * a + i) = true
      rw [show a = u - 64 by omega, setB1_at]
    · show setB1 F.2 (4 * (u - 64) + i) true (4 * a + j) = _
      rw [setB1_ne (by omega)]
  · rw [if_neg (by omega), if_neg (by omega)]
    have hd4 : dirN (v % 64) (u % 64) < 4 := by
      unfold dirN
      split <;> split <;> omega
    refine ⟨⟨n1, fun c j hc hj hcb hg hca => ?_⟩, fun _ j hj => ?_, fun z => by omega⟩
    · show setB1 F.2 _ false (4 * c + j) = false
      unfold setB1
      split
      · rfl
      · exact n2 c j hc hj hcb hg hca
    · show setB1 F.2 _ false (4 * a + j) = _
      rw [setB1_ne (by omega)]
/-- the way back, as far as index j -/
theorem trn_keep {w : Nat → Int32} {fl : Nat → Bool} {a : Nat} {X : PSt} (hw : WHw w) (hB : BI w fl a X) (ha : a < 64) : ∀ (f j v : Nat) (F : FSt), j < f → j < X.2.length → X.2.getD j 0 = v → v ≠ a + 64 → NI w a F → (∀ i, i < 4 → F.2 (4 * a + i) = fl (4 * a + i)) → NI w a (trnF a X.1 f v F) ∧ ∃ i, i < 4 ∧ fl (4 * a + i) = false ∧ (trnF a X.1 f v F).2 (4 * a + i) = true ∧ ∀ k, k < 4 → k ≠ i → (trnF a X.1 f v F).2 (4 * a + k) = fl (4 * a + k)
  | 0, j, v, F, hj, _, _, _, _, _ => absurd hj (Nat.not_lt_zero j)
  | f + 1, j, v, F, hj, hjl, hv, hv64, hN, hF => by
    obtain ⟨p1, p2, p3⟩ := hB.2.2.1 j hjl
    have hj0 : 0 < j := Nat.pos_of_ne_zero fun z => hv64 (by rw [← hv, z]; exact hB.2.2.2.2.2.2.2)
    obtain ⟨i2, h1, h2, h5⟩ := hB.2.2.2.1.1 j hj0 hjl
    rw [hv] at p1 p2 p3 h2 h5
    obtain ⟨q1, q2, q3⟩ := hB.2.2.1 i2 (by omega)
    obtain ⟨u, hu⟩ : ∃ u, u = X.2.getD i2 0 := ⟨_, rfl⟩
    rw [← hu] at q1 q2 q3 h2 h5
    rw [trnF, if_neg hv64, h2]
    show NI w a (trnF a X.1 f u (trn1 u v F)) ∧ ∃ i, i < 4 ∧ fl (4 * a + i) = false ∧ (trnF a X.1 f u (trn1 u v F)).2 (4 * a + i) = true ∧ ∀ k, k < 4 → k ≠ i → (trnF a X.1 f u (trn1 u v F)).2 (4 * a + k) = fl (4 * a + k)
    obtain ⟨k1, k2, k3⟩ := trn1_keep hw hN q1 p1 q2 p2 hv64 ha h5
    by_cases e : u = a + 64
    · have ef : trnF a X.1 f u (trn1 u v F) = trn1 u v F := by
        cases f with
        | zero => rfl
        | succ f => rw [trnF, if_pos e]
      rw [ef]
      obtain ⟨i, i1, i2, i3, i4⟩ := k3 e
      exact ⟨k1, i, i1, i2, i3, fun k hk hki => (i4 k hk hki).trans (hF k hk)⟩
    · exact trn_keep hw hB ha f i2 u _ (by omega) (by omega) hu.symm e k1 fun i hi => (k2 e i hi).trans (hF i hi)
/-- when all four ways out of a are taken nothing more is found -/
theorem bfs_full {w : Nat → Int32} {fo fl : Nat → Bool} {a b : Nat} (hfo : fo a = false) (hfl : ∀ i, i < 4 → fl (4 * a + i) = true) (hba : b ≠ a) (hb : b ≠ a + 64) : (bfsS w fo fl a b).1 b = none := by
  have h0 : (bfs0 a).1 b = none := by
    show (if b = a then some a else if b = a + 64 then some (a + 64) else none) = none
    rw [if_neg hba, if_neg hb]
  have hway : ∀ (n i : Nat) (X : PSt), i + n = 4 → wayX w fl a n i X = X := by
    intro n
    induction n with
    | zero => intro i X _; rfl
    | succ n ih =>
      intro i X hi
      rw [wayX, if_neg (fun z => by rw [hfl i (by omega)] at z; exact Bool.noConfusion z.2)]
      exact ih (i + 1) X (by omega)
  have hs : sprS w fo fl a (a + 64) (bfs0 a) = bfs0 a := by
    unfold sprS
    rw [if_neg (by omega), show a + 64 - 64 = a by omega, if_neg (fun z => by rw [hfo] at z; exact Bool.noConfusion z.1)]
    exact hway 4 0 _ rfl
  have hl : (bfs0 a).2 = [a + 64] := rfl
  unfold bfsS
  rw [bfsF, if_pos ⟨by rw [hl]; exact Nat.zero_lt_one, h0⟩]
  have hg : (bfs0 a).2.getD 0 0 = a + 64 := rfl
  rw [hg, hs, bfsF, if_neg (fun z => by
    have := z.1
    rw [hl] at this
    exact absurd this (by simp))]
  exact h0
