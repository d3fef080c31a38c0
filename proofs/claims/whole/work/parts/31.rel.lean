/-! THE TWO SIDES. A row w of the reference (the first 2200 places of its array); what the class holds of it -/
def rng (x : Int32) (a b : Int) : Prop := a ≤ x.toInt ∧ x.toInt ≤ b
def WHw (w : Nat → Int32) : Prop := 3 ≤ (w 150).toInt ∧ (w 150).toInt ≤ 8 ∧ 3 ≤ (w 151).toInt ∧ (w 151).toInt ≤ 7
def atB (W H x y : Int32) : Bool := decide (0 ≤ x.toInt ∧ x.toInt < W.toInt ∧ 0 ≤ y.toInt ∧ y.toInt < H.toInt)
/-- skater s is there -/
def skB (n s : Int32) : Bool := decide (0 ≤ s.toInt ∧ s.toInt < n.toInt)
def mkd (mark down : Int) : Int := if mark = 0 then down else if mark = 2 then 1 else 0
/-- the skate ahead of step i of skater s -/
def skt (w : Nat → Int32) (s i : Nat) : Int := if i = 0 then 1 else (w (178 + 60 * s + (i - 1))).toInt % 2
def RWays (C : zM) (b : Nat) (w : Nat → Int32) : Prop := C (b + 9) 4 = w 155 ∧ (∀ s : Nat, s < 6 → C (b + 11) s = w (166 + s)) ∧
  (∀ s i : Nat, s < 6 → (i : Int) < (w (166 + s)).toInt → 0 ≤ (C (b + 10) (60 * s + i)).toInt ∧ (C (b + 10) (60 * s + i)).toInt / 8 ≤ 2 ∧ (C (b + 10) (60 * s + i)).toInt % 8 = (w (178 + 60 * s + i)).toInt / 2 ∧ (w (178 + 60 * s + i)).toInt % 2 = mkd ((C (b + 10) (60 * s + i)).toInt / 8) (skt w s i)) ∧
  (∀ s : Nat, s < 6 → 0 < (w (166 + s)).toInt → 0 ≤ (C (b + 12) s).toInt ∧ (C (b + 12) s).toInt ≤ 2 ∧ (w (172 + s)).toInt = mkd (C (b + 12) s).toInt (skt w s (w (166 + s)).toInt.toNat))
def RPaper (C : zM) (b : Nat) (w : Nat → Int32) : Prop := C (b + 21) 1 = w 157 ∧ C (b + 21) 4 = w 158 ∧ (∀ i : Nat, i < 8 → (i : Int) < (w 157).toInt → C (b + 22) i = w (538 + i)) ∧
  (∀ i : Nat, i < 10 → (i : Int) < (w 158).toInt → C (b + 23) i = w (546 + 2 * i) ∧ C (b + 24) i = w (547 + 2 * i))
/-- one code of the class's law against one of the reference's -/
def RCode (x s v : Int32) : Prop := 0 ≤ x.toInt ∧
  ((s = 0 ∧ x.toInt % 16 = 0 ∧ v.toInt = x.toInt / 16) ∨ (1 ≤ s.toInt ∧ s.toInt ≤ 6 ∧ x.toInt % 16 = 1 ∧ x.toInt / 16 = s.toInt - 1) ∨ (s = 30 ∧ x = 2) ∨ (s = 26 ∧ x.toInt % 16 = 3 ∧ v.toInt = x.toInt / 16 ∧ 1 ≤ v.toInt) ∨
   (s = 25 ∧ x = 4) ∨ (s = 23 ∧ x = 5) ∨ (s = 24 ∧ x = 6) ∨ (s = 27 ∧ x = 7) ∨ (s = 28 ∧ x = 8) ∨ (s = 29 ∧ x = 9) ∨ (s = 31 ∧ x = 10) ∨ (s = 32 ∧ x = 11))
/-- how deep the pile stands behind codes a .. a + n - 1, and of which kinds (true: a truth value); none: it can't be -/
def tyStep (s : Int) (ts : List Bool) : Option (List Bool) :=
  if s ≤ 6 then some (false :: ts) else if s = 26 then (match ts with | false :: r => some (false :: r) | _ => none) else if s = 30 then (match ts with | true :: r => some (true :: r) | _ => none)
  else if s ≤ 25 then (match ts with | false :: false :: r => some (false :: r) | _ => none) else if s ≤ 29 then (match ts with | false :: false :: r => some (true :: r) | _ => none) else (match ts with | true :: true :: r => some (true :: r) | _ => none)
def tyRun (w : Nat → Int32) (a : Nat) : Nat → List Bool → Option (List Bool)
  | 0, ts => some ts
  | n + 1, ts => if ts.length ≥ 60 then none else match tyStep (w (1380 + 2 * a)).toInt ts with
    | none => none
    | some t => tyRun w (a + 1) n t
def LawOK (w : Nat → Int32) : Prop := 0 ≤ (w 156).toInt ∧ (w 156).toInt ≤ 16 ∧ ∀ i : Nat, (i : Int) < (w 156).toInt → ∃ f m t : Nat, w (1316 + i) = iv f ∧ w (1332 + i) = iv m ∧ w (1348 + i) = iv t ∧ f < m ∧ m ≤ t ∧ t ≤ 400 ∧ (w (1364 + i) = 20 ∨ w (1364 + i) = 21) ∧
  (∀ j : Nat, f ≤ j → j < t → 0 ≤ (w (1380 + 2 * j)).toInt ∧ (w (1380 + 2 * j)).toInt ≤ 32 ∧ ((w (1380 + 2 * j)).toInt ≤ 6 ∨ 23 ≤ (w (1380 + 2 * j)).toInt) ∧ ((w (1380 + 2 * j)).toInt = 26 → 1 ≤ (w (1381 + 2 * j)).toInt)) ∧
  tyRun w f (m - f) [] = some [false] ∧ (m < t → tyRun w m (t - m) [] = some [true])
def RLaw (C : zM) (b : Nat) (w : Nat → Int32) : Prop := C (b + 14) 6 = w 156 ∧ (C (b + 14) 7 = 0 ↔ ∀ i : Nat, (i : Int) < (w 156).toInt → w (1364 + i) = 20) ∧
  ∀ i : Nat, (i : Int) < (w 156).toInt → C (b + 16) i = (if w (1364 + i) = 20 then 0 else 1) ∧ C (b + 17) i = w (1316 + i) ∧ C (b + 18) i = w (1332 + i) ∧ C (b + 19) i = w (1348 + i) ∧
    ∀ j : Nat, (w (1316 + i)).toInt ≤ j → (j : Int) < (w (1348 + i)).toInt → RCode (C (b + 15) j) (w (1380 + 2 * j)) (w (1381 + 2 * j))
def RS (C : zM) (b : Nat) (w : Nat → Int32) : Prop := C b 0 = w 150 ∧ C b 1 = w 151 ∧ C b 2 = w 152 ∧ C b 3 = w 153 ∧ C b 4 = w 154 ∧ (∀ s : Nat, s < 6 → (s : Int) < (w 154).toInt → C (b + 1) s = w (160 + s)) ∧ RWays C b w ∧ RLaw C b w ∧ RPaper C b w
def RMo (C : zM) (m : Nat) (w : Nat → Int32) : Prop := (∀ k : Nat, k < 64 → C (m + 1) k = w (21 + k)) ∧ (∀ k : Nat, k < 64 → C (m + 2) k = w (85 + k)) ∧ (∀ s : Nat, s < 6 → (s : Int) < (w 154).toInt → C (m + 3) s = w (3 + s) ∧ C (m + 4) s = w (9 + s) ∧ C (m + 5) s = w (15 + s)) ∧ C m 5 = w 0 ∧ C m 6 = w 1 ∧ C m 7 = w 2
/-- the ranges of a row: its still part -/
def IS (w : Nat → Int32) : Prop := WHw w ∧ rng (w 152) 1 9 ∧ rng (w 153) 0 1000 ∧ rng (w 154) 0 6 ∧ rng (w 155) 0 6 ∧ rng (w 157) 0 8 ∧ rng (w 158) 0 10 ∧ (∀ s : Nat, s < 6 → rng (w (160 + s)) 0 9) ∧ (∀ s : Nat, s < 6 → rng (w (166 + s)) 0 60) ∧ (∀ s : Nat, s < 6 → rng (w (172 + s)) 0 1) ∧ (∀ i : Nat, i < 360 → ((i % 60 : Nat) : Int) < (w (166 + i / 60)).toInt → rng (w (178 + i)) 0 9) ∧
  (∀ i : Nat, i < 8 → rng (w (538 + i)) 0 511) ∧ (∀ i : Nat, i < 10 → (i : Int) < (w 158).toInt → skB (w 157) (w (546 + 2 * i)) = true ∧ boxB (w 150) (w 151) (w (547 + 2 * i)) = true) ∧ LawOK w
/-- the ranges of its moment -/
def IMo (w : Nat → Int32) : Prop := rng (w 2) 0 150 ∧ (∀ s : Nat, s < 6 → cellB (w 150) (w 151) (w (3 + s)) = true) ∧ (∀ s : Nat, s < 6 → 0 ≤ (w (9 + s)).toInt ∧ (w (9 + s)).toInt ≤ (w (166 + s)).toInt) ∧ (∀ s : Nat, s < 6 → rng (w (15 + s)) 0 1) ∧ (∀ c : Nat, c < 64 → rng (w (21 + c)) 0 9) ∧ (∀ c : Nat, c < 64 → cellB (w 150) (w 151) (iv c) = false → w (21 + c) = 0) ∧
  (∀ c : Nat, c < 64 → -1 ≤ (w (85 + c)).toInt ∧ (w (85 + c)).toInt < (w 154).toInt) ∧ (∀ s : Nat, s < 6 → (w (9 + s)).toInt < (w (166 + s)).toInt → (w (15 + s)).toInt = skt w s (w (9 + s)).toInt.toNat)
theorem iv_s (k : Nat) : iv k + 1 = iv (k + 1 : Nat) := iv_add k 1
theorem iv_n (n k : Nat) : (OfNat.ofNat n : Int32) + iv k = iv (n + k : Nat) := iv_add n k
/-- cell k is seen -/
def seenB (w : Nat → Int32) (k : Nat) : Bool := decide ((w 152).toInt ≤ (w (21 + k)).toInt)
/-- 1, if the cell at x, y is on the basin and seen -/
def nb (w : Nat → Int32) (x y : Int) : Nat := if 0 ≤ x ∧ x < (w 150).toInt ∧ 0 ≤ y ∧ y < (w 151).toInt ∧ seenB w (8 * y + x).toNat = true then 1 else 0
def arN (w : Nat → Int32) (k : Nat) : Nat := nb w (k % 8 : Nat) ((k / 8 : Nat) - 1) + nb w ((k % 8 : Nat) + 1) (k / 8 : Nat) + nb w (k % 8 : Nat) ((k / 8 : Nat) + 1) + nb w ((k % 8 : Nat) - 1) (k / 8 : Nat)
/-- a set of 32: those below n that p holds of -/
def bset (p : Nat → Bool) : Nat → Int32
  | 0 => 0
  | n + 1 => if p n then bset p n ||| (1 <<< (iv n &&& 31)) else bset p n
def shp (w : Nat → Int32) (k : Nat) : Int32 := bset (fun i => seenB w (k + 8 * (i / 3) + i % 3)) 9
def rdF (w : Nat → Int32) (sh : Int32) : Nat → Nat → Int32
  | 0, _ => -1
  | n + 1, i => if w (538 + i) = sh then iv i else rdF w sh n (i + 1)
def readV (w : Nat → Int32) (k : Nat) : Int32 := rdF w (shp w k) (w 157).toInt.toNat 0
def isReadB (w : Nat → Int32) (i : Nat) : Bool := decide (readV w (w (547 + 2 * i)).toInt.toNat = w (546 + 2 * i))
def wantSet (w : Nat → Int32) : Int32 := bset (isReadB w) (w 158).toInt.toNat
/-- a box at k lies in the first 64 places -/
def boxOK (k : Nat) : Prop := k % 8 + 3 ≤ 8 ∧ k / 8 + 3 ≤ 8
theorem boxOK.at {k i : Nat} (h : boxOK k) (hi : i < 9) : k + 8 * (i / 3) + i % 3 < 64 := by
  obtain ⟨h1, h2⟩ := h
  omega
theorem inbox_eq {k i : Nat} (hi : i < 9) : (iv k + ((iv i / 3) * 8)) + (iv i - iv i / 3 * 3) = iv (k + 8 * (i / 3) + i % 3 : Nat) := by
  have e1 : iv i / 3 = iv (i / 3 : Nat) := by
    rw [eqI, ti_div] <;> simp (disch := omega) only [iv_toInt, Int32.reduceToInt] <;> omega
  rw [e1, show (8 : Int32) = iv 8 from rfl, show (3 : Int32) = iv 3 from rfl, iv_mul, iv_mul, iv_sub, iv_add, iv_add]
  congr 1
  omega
