/-! IN THOUGHT: goes, wants, spoilt -/
theorem deepF_hi {w : Nat → Int32} {s k j : Nat} {b f : Int32} (hk : k < 64) (hj : j = 2 ∨ 150 ≤ j) : deepW false w s k b f j = w j := by
  unfold deepW
  rw [if_neg (fun z => Bool.noConfusion z.1), upd_ne (by omega), upd_ne (by omega)]
theorem stepF_hi {w : Nat → Int32} {s j : Nat} (hi : IS w) (hq : IMo w) (hs : s < 6) (hj : j = 2 ∨ 150 ≤ j) : stepW false w s j = w j := by
  obtain ⟨k, hk, hk64, hkI, hkc⟩ := place_rng hq hs
  have ht : toOf w s < 64 := by
    have := (goV_cell hi.1 hkc hk64 (i := wayOf w s)).1
    unfold toOf
    rw [hkI]
    exact this
  have ha : stepA w s j = w j := by rw [stepA, upd_ne (by omega), upd_ne (by omega)]
  have hb : stepB false w s j = w j := by
    unfold stepB
    split
    · exact ha
    · split
      · rw [deepF_hi ht hj, upd_ne (by omega)]
        exact ha
      · rw [upd_ne (by omega)]
        exact ha
  unfold stepW
  split
  · rw [upd_ne (by omega)]
    exact hb
  · exact hb
theorem skF_hi {w : Nat → Int32} {s j : Nat} (hi : IS w) (hq : IMo w) (hs : s < 6) (hj : j = 2 ∨ 150 ≤ j) : skW false w s j = w j := by
  unfold skW
  split
  · rfl
  · have hf : fellB false w = false := by
      unfold fellB
      exact decide_eq_false (fun z => Bool.noConfusion z.1)
    have hd : drewW false w = w := by
      unfold drewW
      rw [if_neg (fun z => Bool.noConfusion z.1)]
    rw [if_neg (by rw [hf]; decide), hd]
    exact stepF_hi hi hq hs hj
theorem skRF_hi : ∀ (n s : Nat) (w : Nat → Int32), IS w → IMo w → s + n ≤ 6 → ((s + n : Nat) : Int) ≤ (w 154).toInt → ∀ j, j = 2 ∨ 150 ≤ j → skR false n s w j = w j
  | 0, _, _, _, _, _, _, _, _ => rfl
  | n + 1, s, w, hi, hq, h6, hn, j, hj => by
    obtain ⟨h1, h2⟩ := sk_keep (real := false) hi hq (show s < 6 by omega) (by omega)
    rw [skR, skRF_hi n (s + 1) (skW false w s) (hi.row2 h2) h1 (by omega) (by rw [h2 154 (by omega) (by omega)]; omega) j hj]
    exact skF_hi hi hq (by omega) hj
theorem minF_hi {w : Nat → Int32} (hi : IS w) (hq : IMo w) {j : Nat} (hj : j = 2 ∨ 150 ≤ j) : minW false w j = w j := by
  obtain ⟨a, b⟩ := hi.2.2.2.1
  unfold minW
  rw [thaW_ne (by omega) (by omega)]
  exact skRF_hi _ 0 w hi hq (by omega) (by omega) j hj
def runW : Nat → (Nat → Int32) → (Nat → Int32)
  | 0, w => w
  | n + 1, w => runW n (minW false w)
/-- a thought of one minute -/
theorem minF_keep {w : Nat → Int32} (hi : IS w) (hq : IMo w) : IS (minW false w) ∧ IMo (minW false w) ∧ ∀ j, j = 2 ∨ 150 ≤ j → minW false w j = w j :=
  ⟨hi.row fun j hj => minF_hi hi hq (Or.inr hj), (minW_keep (real := false) hi hq).1, fun j hj => minF_hi hi hq hj⟩
theorem runW_keep : ∀ (n : Nat) (w : Nat → Int32), IS w → IMo w → IS (runW n w) ∧ IMo (runW n w) ∧ ∀ j, j = 2 ∨ 150 ≤ j → runW n w j = w j
  | 0, w, hi, hq => ⟨hi, hq, fun _ _ => rfl⟩
  | n + 1, w, hi, hq => by
    obtain ⟨h1, h2, h3⟩ := minF_keep hi hq
    obtain ⟨h4, h5, h6⟩ := runW_keep n (minW false w) h1 h2
    exact ⟨h4, h5, fun j hj => (h6 j hj).trans (h3 j hj)⟩
def seeB (w : Nat → Int32) (c : Nat) : Bool := cellB (w 150) (w 151) (iv c) && seenB w c
def seenL (w : Nat → Int32) : Int64 := lset (seeB w) 64
theorem think_back {M M1 M2 M3 : zM} (h1 : ∀ o, o ≠ 4 → M1 o = M o) (h4 : ∀ j, j < 150 → M1 4 j = M 1 j) (h2 : ∀ o, o ≠ 1 → o ≠ 13 → o ≠ 14 → o ≠ 15 → M2 o = M1 o) (hj : ∀ j, j = 2 ∨ 150 ≤ j → M2 1 j = M 1 j) (h3 : ∀ o, o ≠ 1 → M3 o = M2 o) (hr : ∀ j, M3 1 j = if j < 150 then M2 4 j else M2 1 j) : MEq M M3 := by
  refine MEq.of fun o ho => ?_
  by_cases e : o = 1
  · subst e
    funext j
    rw [hr]
    by_cases c : j < 150
    · rw [if_pos c, h2 4 (by decide) (by decide) (by decide) (by decide)]
      exact h4 j c
    · rw [if_neg c]
      exact hj j (Or.inr (by omega))
  · rw [h3 o e, h2 o e (by omega) (by omega) (by omega), h1 o (by omega)]
def goesV (w : Nat → Int32) (n : Int32) : Int64 := if 0 ≤ n.toInt ∧ n.toInt ≤ 99 then seenL (runW n.toInt.toNat w) else -1
def wantsV (w : Nat → Int32) (n : Int32) : Int32 := if 0 ≤ n.toInt ∧ n.toInt ≤ 99 then iv (cntB (isReadB (runW n.toInt.toNat w)) (w 158).toInt.toNat : Nat) else -1
def lowF (x : Int32) : Nat → Nat → Int32
  | 0, _ => -1
  | f + 1, k => if bitB x k = true then iv k else lowF x f (k + 1)
def spoF (now what : Int32) : Nat → Nat → (Nat → Int32) → Int32
  | 0, _, _ => -1
  | f + 1, k, w => if now &&& (wantSet (minW false w) ^^^ (-1)) = 0 then spoF now what f (k + 1) (minW false w) else if what = 0 then iv k else lowF (now &&& (wantSet (minW false w) ^^^ (-1))) 32 0
def spoV (w : Nat → Int32) (what : Int32) : Int32 := if what = 0 ∨ what = 1 then (if wantSet w = 0 then -1 else spoF (wantSet w) what 99 1 w) else -1
theorem not_le_iv {a b : Nat} (h : b < a) (ha : a < 2147483648) (c : iv a ≤ iv b) : False := by
  rw [Int32.le_iff_toInt_le, iv_toInt (by omega) (by omega), iv_toInt (by omega) (by omega)] at c
  omega
theorem le_iv_of {a b : Nat} (h : a ≤ b) (hb : b < 2147483648) : iv a ≤ iv b := by
  rw [Int32.le_iff_toInt_le, iv_toInt (by omega) (by omega), iv_toInt (by omega) (by omega)]
  omega
section TK9
variable {g : zG} {d : Nat} {M : zM}
theorem c9_seenAll {Q : Int64 → zM → Prop} (hw : WHw (M 1)) (h : Q (seenL (M 1)) M) : zCl shM g (d + 3) mX9_seenAll [.ref 0] M Q := by
  refine vX9_seenAll ?_
  have loop : ∀ n i : Nat, i + n = 64 → zW shM g (d + 3) mX9_seenAll (zl Q) 4 [(0, .ref 0), (1, .long (lset (seeB (M 1)) i)), (3, .int (iv i))] [] M := by
    intro n
    induction n with
    | zero =>
      intro i hi
      obtain rfl : i = 64 := by omega
      exact vX9_seenAll_4 ⟨fun _ => h, fun c => absurd (by decide) c⟩
    | succ n ih =>
      intro i hi
      have ih := ih (i + 1) (by omega)
      rw [lset] at ih
      refine vX9_seenAll_4 ⟨fun c => (not_le_iv (a := 64) (b := i) (by omega) (by omega) c).elim, fun _ => c9_isCell hw ⟨fun hb => ?_, fun hb => c9_isSeen (by omega) ⟨fun hs => ?_, fun hs => ?_⟩⟩⟩
      all_goals
        rw [iv_s]
      · rw [if_neg (by rw [seeB, hb, Bool.false_and]; decide)] at ih
        exact ih
      · rw [if_neg (by rw [seeB, hb, hs]; decide)] at ih
        exact ih
      · rw [if_pos (by rw [seeB, hb, hs]; rfl)] at ih
        exact ih
  exact loop 64 0 rfl
theorem c9_laysAside {Q : zM → Prop} (h : ∀ M' : zM, (∀ o, o ≠ 4 → M' o = M o) → (∀ j, j < 150 → M' 4 j = M 1 j) → Q M') : zCv shM g d mX9_laysAside [.ref 0] M Q := by
  refine vX9_laysAside ?_
  have loop : ∀ (n i : Nat) (M1 : zM), i + n = 150 → (∀ o, o ≠ 4 → M1 o = M o) → (∀ j, j < i → M1 4 j = M 1 j) → zW shM g d mX9_laysAside (zv Q) 2 [(0, .ref 0), (1, .int (iv i))] [] M1 := by
    intro n
    induction n with
    | zero =>
      intro i M1 hi ho hj
      obtain rfl : i = 150 := by omega
      exact vX9_laysAside_2 ⟨fun _ => h M1 ho hj, fun c => absurd (by decide) c⟩
    | succ n ih =>
      intro i M1 hi ho hj
      refine vX9_laysAside_2 ⟨fun c => (not_le_iv (a := 150) (b := i) (by omega) (by omega) c).elim, fun _ => ⟨i, rfl, by omega, by omega, ?_⟩⟩
      rw [iv_s]
      refine ih (i + 1) _ (by omega) (fun o a => (zup_oth a).trans (ho o a)) (fun j hj2 => ?_)
      by_cases e : j = i
      · rw [e, zup_same, ho 1 (by decide)]
      · rw [zup_ne (Or.inr e)]
        exact hj j (by omega)
  exact loop 150 0 M rfl (fun _ _ => rfl) (fun j hj => by omega)
theorem c9_putsBack {Q : zM → Prop} (h : ∀ M' : zM, (∀ o, o ≠ 1 → M' o = M o) → (∀ j, M' 1 j = if j < 150 then M 4 j else M 1 j) → Q M') : zCv shM g d mX9_putsBack [.ref 0] M Q := by
  refine vX9_putsBack ?_
  have loop : ∀ (n i : Nat) (M1 : zM), i + n = 150 → (∀ o, o ≠ 1 → M1 o = M o) → (∀ j, M1 1 j = if j < i then M 4 j else M 1 j) → zW shM g d mX9_putsBack (zv Q) 2 [(0, .ref 0), (1, .int (iv i))] [] M1 := by
    intro n
    induction n with
    | zero =>
      intro i M1 hi ho hj
      obtain rfl : i = 150 := by omega
      exact vX9_putsBack_2 ⟨fun _ => h M1 ho hj, fun c => absurd (by decide) c⟩
    | succ n ih =>
      intro i M1 hi ho hj
      refine vX9_putsBack_2 ⟨fun c => (not_le_iv (a := 150) (b := i) (by omega) (by omega) c).elim, fun _ => ⟨i, rfl, by omega, by omega, ?_⟩⟩
      rw [iv_s]
      refine ih (i + 1) _ (by omega) (fun o a => (zup_oth a).trans (ho o a)) (fun j => ?_)
      by_cases e : j = i
      · rw [e, zup_same, if_pos (by omega), ho 4 (by decide)]
      · rw [zup_ne (Or.inr e), hj j]
        by_cases c : j < i
        · rw [if_pos c, if_pos (by omega)]
        · rw [if_neg c, if_neg (by omega)]
  exact loop 150 0 M rfl (fun _ _ => rfl) (fun j => by rw [if_neg (by omega)])
theorem c9_readMany {Q : Int32 → zM → Prop} (hi : IS (M 1)) (h : Q (iv (cntB (isReadB (M 1)) (M 1 158).toInt.toNat : Nat)) M) : zCi shM g (d + 4) mX9_readMany [.ref 0] M Q := by
  obtain ⟨a, b⟩ := hi.2.2.2.2.2.2.1
  obtain ⟨N, e1, e2, e3⟩ := iv_nat (x := M 1 158) (n := 11) a (by omega)
  have e4 : (M 1 158).toInt.toNat = N := by omega
  rw [e4] at h
  refine vX9_readMany ?_
  have loop : ∀ n i : Nat, i + n = N → zW shM g (d + 4) mX9_readMany (zi Q) 4 [(0, .ref 0), (1, .int (iv (cntB (isReadB (M 1)) i : Nat))), (2, .int (iv i))] [] M := by
    intro n
    induction n with
    | zero =>
      intro i hi2
      obtain rfl : i = N := by omega
      refine vX9_readMany_4 ⟨fun _ => h, fun c => absurd ?_ c⟩
      rw [e1]
      exact Int32.le_refl _
    | succ n ih =>
      intro i hi2
      have ih := ih (i + 1) (by omega)
      rw [cntB] at ih
      refine vX9_readMany_4 ⟨fun c => ?_, fun _ => c9_isRead hi (by omega) (by omega) ⟨fun hb => ?_, fun hb => ?_⟩⟩
      · rw [e1] at c
        exact (not_le_iv (a := N) (b := i) (by omega) (by omega) c).elim
      · rw [if_neg (by rw [hb]; decide)] at ih
        rw [iv_s, Int32.add_zero]
        exact ih
      · rw [if_pos hb] at ih
        rw [iv_s, iv_s]
        exact ih
  exact loop N 0 (by omega)
theorem c9_readSet {Q : Int32 → zM → Prop} (hi : IS (M 1)) (h : Q (wantSet (M 1)) M) : zCi shM g (d + 4) mX9_readSet [.ref 0] M Q := by
  obtain ⟨a, b⟩ := hi.2.2.2.2.2.2.1
  obtain ⟨N, e1, e2, e3⟩ := iv_nat (x := M 1 158) (n := 11) a (by omega)
  have e4 : (M 1 158).toInt.toNat = N := by omega
  rw [wantSet, e4] at h
  refine vX9_readSet ?_
  have loop : ∀ n i : Nat, i + n = N → zW shM g (d + 4) mX9_readSet (zi Q) 4 [(0, .ref 0), (1, .int (bset (isReadB (M 1)) i)), (2, .int (iv i))] [] M := by
    intro n
    induction n with
    | zero =>
      intro i hi2
      obtain rfl : i = N := by omega
      refine vX9_readSet_4 ⟨fun _ => h, fun c => absurd ?_ c⟩
      rw [e1]
      exact Int32.le_refl _
    | succ n ih =>
      intro i hi2
      have ih := ih (i + 1) (by omega)
      rw [bset] at ih
      refine vX9_readSet_4 ⟨fun c => ?_, fun _ => c9_isRead hi (by omega) (by omega) ⟨fun hb => ?_, fun hb => ?_⟩⟩
      · rw [e1] at c
        exact (not_le_iv (a := N) (b := i) (by omega) (by omega) c).elim
      · rw [if_neg (by rw [hb]; decide)] at ih
        rw [iv_s, Int32.or_zero]
        exact ih
      · rw [if_pos hb] at ih
        rw [iv_s]
        exact ih
  exact loop N 0 (by omega)
theorem c9_goes {Q : Int64 → zM → Prop} {n : Int32} (hi : IS (M 1)) (hq : IMo (M 1)) (h : ∀ M' : zM, MEq M M' → Q (goesV (M 1) n) M') : zCl shM g (d + 8) mX9_goes [.ref 0, .int n] M Q := by
  unfold goesV at h
  refine vX9_goes (c9_isIn ⟨fun hb => c9_laysAside (fun M1 h1 h4 => ?_), fun hb => ?_⟩)
  · simp only [isInB, decide_eq_true_eq, decide_eq_false_iff_not, Int32.reduceToInt] at hb
    rw [if_pos hb] at h
    obtain ⟨k, rfl, hk, hkI⟩ := iv_nat (x := n) (n := 100) hb.1 (by omega)
    rw [iv_tn (by omega)] at h
    have loop : ∀ (f i : Nat) (M2 : zM), i + f = k → (∀ o, o ≠ 1 → o ≠ 13 → o ≠ 14 → o ≠ 15 → M2 o = M1 o) → IS (M2 1) → IMo (M2 1) → (∀ j, j = 2 ∨ 150 ≤ j → M2 1 j = M 1 j) → runW f (M2 1) = runW k (M 1) → zW shM g (d + 8) mX9_goes (zl Q) 20 [(0, .ref 0), (1, .int (iv k)), (2, .int (iv i))] [] M2 := by
      intro f
      induction f with
      | zero =>
        intro i M2 hf ho hi2 hq2 hj hr
        obtain rfl : i = k := by omega
        refine vX9_goes_20 ⟨fun _ => c9_seenAll hi2.1 (c9_putsBack fun M3 h3 hr3 => ?_), fun c => absurd (Int32.le_refl _) c⟩
        have e : M2 1 = runW i (M 1) := hr
        rw [e]
        exact h M3 (think_back h1 h4 ho hj h3 hr3)
      | succ f ih =>
        intro i M2 hf ho hi2 hq2 hj hr
        refine vX9_goes_20 ⟨fun c => (not_le_iv (a := k) (b := i) (by omega) (by omega) c).elim, fun _ => c9_aMinute hi2 hq2 (fun M3 h3 hr3 => ?_)⟩
        obtain ⟨g1, g2, g3⟩ := minF_keep hi2 hq2
        rw [← hr3] at g1 g2 g3
        rw [iv_s]
        refine ih (i + 1) M3 (by omega) (fun o a b c e => (h3 o a b c e).trans (ho o a b c e)) g1 g2 (fun j hj2 => (g3 j hj2).trans (hj j hj2)) ?_
        rw [hr3]
        exact hr
    exact loop k 0 M1 (by omega) (fun _ _ _ _ _ => rfl) (by rw [h1 1 (by decide)]; exact hi) (by rw [h1 1 (by decide)]; exact hq) (fun j _ => by rw [h1 1 (by decide)]) (by rw [h1 1 (by decide)])
  · simp only [isInB, decide_eq_true_eq, decide_eq_false_iff_not, Int32.reduceToInt] at hb
    have h0 := h M MEq.rfl
    rw [if_neg hb] at h0
    exact h0
theorem c9_wants {Q : Int32 → zM → Prop} {n : Int32} (hi : IS (M 1)) (hq : IMo (M 1)) (h : ∀ M' : zM, MEq M M' → Q (wantsV (M 1) n) M') : zCi shM g (d + 8) mX9_wants [.ref 0, .int n] M Q := by
  unfold wantsV at h
  refine vX9_wants (c9_isIn ⟨fun hb => c9_laysAside (fun M1 h1 h4 => ?_), fun hb => ?_⟩)
  · simp only [isInB, decide_eq_true_eq, decide_eq_false_iff_not, Int32.reduceToInt] at hb
    rw [if_pos hb] at h
    obtain ⟨k, rfl, hk, hkI⟩ := iv_nat (x := n) (n := 100) hb.1 (by omega)
    rw [iv_tn (by omega)] at h
    have loop : ∀ (f i : Nat) (M2 : zM), i + f = k → (∀ o, o ≠ 1 → o ≠ 13 → o ≠ 14 → o ≠ 15 → M2 o = M1 o) → IS (M2 1) → IMo (M2 1) → (∀ j, j = 2 ∨ 150 ≤ j → M2 1 j = M 1 j) → runW f (M2 1) = runW k (M 1) → zW shM g (d + 8) mX9_wants (zi Q) 18 [(0, .ref 0), (1, .int (iv k)), (2, .int (iv i))] [] M2 := by
      intro f
      induction f with
      | zero =>
        intro i M2 hf ho hi2 hq2 hj hr
        obtain rfl : i = k := by omega
        refine vX9_wants_18 ⟨fun _ => c9_readMany hi2 (c9_putsBack fun M3 h3 hr3 => ?_), fun c => absurd (Int32.le_refl _) c⟩
        have e : M2 1 = runW i (M 1) := hr
        rw [hj 158 (by omega), e]
        exact h M3 (think_back h1 h4 ho hj h3 hr3)
      | succ f ih =>
        intro i M2 hf ho hi2 hq2 hj hr
        refine vX9_wants_18 ⟨fun c => (not_le_iv (a := k) (b := i) (by omega) (by omega) c).elim, fun _ => c9_aMinute hi2 hq2 (fun M3 h3 hr3 => ?_)⟩
        obtain ⟨g1, g2, g3⟩ := minF_keep hi2 hq2
        rw [← hr3] at g1 g2 g3
        rw [iv_s]
        refine ih (i + 1) M3 (by omega) (fun o a b c e => (h3 o a b c e).trans (ho o a b c e)) g1 g2 (fun j hj2 => (g3 j hj2).trans (hj j hj2)) ?_
        rw [hr3]
        exact hr
    exact loop k 0 M1 (by omega) (fun _ _ _ _ _ => rfl) (by rw [h1 1 (by decide)]; exact hi) (by rw [h1 1 (by decide)]; exact hq) (fun j _ => by rw [h1 1 (by decide)]) (by rw [h1 1 (by decide)])
  · simp only [isInB, decide_eq_true_eq, decide_eq_false_iff_not, Int32.reduceToInt] at hb
    have h0 := h M MEq.rfl
    rw [if_neg hb] at h0
    exact h0
theorem c9_leastIn {Q : Int32 → zM → Prop} {x : Int32} (hx : x ≠ 0) (h : Q (lowF x 32 0) M) : zCi shM g d mX9_leastIn [.int x] M Q := by
  refine vX9_leastIn ?_
  have loop : ∀ f k : Nat, k + f = 32 → (∀ j, j < k → bitB x j = false) → Q (lowF x f k) M → zW shM g d mX9_leastIn (zi Q) 2 [(0, .int x), (1, .int (iv k))] [] M := by
    intro f
    induction f with
    | zero =>
      intro k hk hz h
      exact absurd (bit_ext fun j hj => by rw [bit_z]; exact hz j (by omega)) hx
    | succ f ih =>
      intro k hk hz h
      rw [lowF] at h
      refine vX9_leastIn_2 ⟨fun c => ?_, fun c => ?_⟩
      · have hb : bitB x k = true := by
          cases hb : bitB x k
          · exact absurd ((bitAt0 (by omega)).mpr hb) c
          · rfl
        rw [if_pos hb] at h
        exact h
      · have hb := (bitAt0 (by omega)).mp c
        rw [if_neg (by rw [hb]; decide)] at h
        rw [iv_s]
        refine ih (k + 1) (by omega) (fun j hj => ?_) h
        by_cases e : j = k
        · rw [e]
          exact hb
        · exact hz j (by omega)
  exact loop 32 0 rfl (fun j hj => by omega) h
theorem c9_spoilt {Q : Int32 → zM → Prop} {what : Int32} (hi : IS (M 1)) (hq : IMo (M 1)) (h : ∀ M' : zM, MEq M M' → Q (spoV (M 1) what) M') : zCi shM g (d + 8) mX9_spoilt [.ref 0, .int what] M Q := by
  unfold spoV at h
  refine vX9_spoilt (c9_isIn ⟨fun hb => c9_readSet hi (c9_laysAside (fun M1 h1 h4 => ?_)), fun hb => ?_⟩)
  · simp only [isInB, decide_eq_true_eq, decide_eq_false_iff_not, Int32.reduceToInt] at hb
    have hw : what = 0 ∨ what = 1 := by
      by_cases c : what.toInt = 0
      · exact Or.inl (by rw [eqI, c]; rfl)
      · exact Or.inr (by rw [eqI]; simp only [Int32.reduceToInt]; omega)
    rw [if_pos hw] at h
    -- the end
    have fin : ∀ (M2 : zM) (l3 l4 : Int32), (∀ o, o ≠ 1 → o ≠ 13 → o ≠ 14 → o ≠ 15 → M2 o = M1 o) → (∀ j, j = 2 ∨ 150 ≤ j → M2 1 j = M 1 j) → (∀ M' : zM, MEq M M' → Q (if l3 = 0 then -1 else if what = 0 then l4 else lowF l3 32 0) M') → zW shM g (d + 8) mX9_spoilt (zi Q) 68 [(0, .ref 0), (1, .int what), (3, .int l3), (4, .int l4)] [] M2 := by
      intro M2 l3 l4 ho hj hh
      refine vX9_spoilt_68 (c9_putsBack fun M3 h3 hr3 => ?_)
      have hm : MEq M M3 := think_back h1 h4 ho hj h3 hr3
      have h0 := hh M3 hm
      refine ⟨fun c => ⟨fun c2 => c9_leastIn c ?_, fun c2 => ?_⟩, fun c => ?_⟩
      · rw [if_neg c, if_neg c2] at h0
        exact h0
      · rw [if_neg c, if_pos c2] at h0
        exact h0
      · rw [if_pos c] at h0
        exact h0
    by_cases hz : wantSet (M 1) = 0
    · rw [if_pos hz] at h
      refine vX9_spoilt_28 ⟨fun c => absurd c (by decide), fun _ => ⟨fun _ => fin M1 0 (-1) (fun _ _ _ _ _ => rfl) (fun j _ => by rw [h1 1 (by decide)]) (fun M' hM => ?_), fun c => absurd hz c⟩⟩
      rw [if_pos rfl]
      exact h M' hM
    · rw [if_neg hz] at h
      have loop : ∀ (f k : Nat) (l4 : Int32) (M2 : zM), k + f = 100 → (∀ o, o ≠ 1 → o ≠ 13 → o ≠ 14 → o ≠ 15 → M2 o = M1 o) → IS (M2 1) → IMo (M2 1) → (∀ j, j = 2 ∨ 150 ≤ j → M2 1 j = M 1 j) → (∀ M' : zM, MEq M M' → Q (spoF (wantSet (M 1)) what f k (M2 1)) M') → zW shM g (d + 8) mX9_spoilt (zi Q) 28 [(0, .ref 0), (1, .int what), (2, .int (wantSet (M 1))), (3, .int 0), (4, .int l4), (5, .int (iv k))] [] M2 := by
        intro f
        induction f with
        | zero =>
          intro k l4 M2 hk ho hi2 hq2 hj hh
          obtain rfl : k = 100 := by omega
          refine vX9_spoilt_28 ⟨fun _ => fin M2 0 l4 ho hj (fun M' hM => ?_), fun c => absurd (by decide) c⟩
          rw [if_pos rfl]
          exact hh M' hM
        | succ f ih =>
          intro k l4 M2 hk ho hi2 hq2 hj hh
          refine vX9_spoilt_28 ⟨fun c => ?_, fun _ => ⟨fun c => absurd c hz, fun _ => ⟨fun c => absurd rfl c, fun _ => c9_aMinute hi2 hq2 (fun M3 h3 hr3 => ?_)⟩⟩⟩
          · exfalso
            rw [Int32.lt_iff_toInt_lt, iv_toInt (by omega) (by omega)] at c
            simp only [Int32.reduceToInt] at c
            omega
          obtain ⟨g1, g2, g3⟩ := minF_keep hi2 hq2
          rw [← hr3] at g1 g2 g3
          have ho3 : ∀ o, o ≠ 1 → o ≠ 13 → o ≠ 14 → o ≠ 15 → M3 o = M1 o := fun o a b c e => (h3 o a b c e).trans (ho o a b c e)
          have hj3 : ∀ j, j = 2 ∨ 150 ≤ j → M3 1 j = M 1 j := fun j hj2 => (g3 j hj2).trans (hj j hj2)
          refine c9_readSet g1 ?_
          simp only [spoF] at hh
          rw [← hr3] at hh
          by_cases hl : wantSet (M 1) &&& (wantSet (M3 1) ^^^ (-1)) = 0
          · rw [hl, iv_s]
            refine ih (k + 1) _ M3 (by omega) ho3 g1 g2 hj3 (fun M' hM => ?_)
            have h0 := hh M' hM
            rw [if_pos hl] at h0
            exact h0
          · have hfin := fin M3 (wantSet (M 1) &&& (wantSet (M3 1) ^^^ (-1))) (iv k) ho3 hj3 (fun M' hM => by
              have h0 := hh M' hM
              rw [if_neg hl] at h0
              rw [if_neg hl]
              exact h0)
            exact vX9_spoilt_28 ⟨fun _ => hfin, fun _ => ⟨fun _ => hfin, fun _ => ⟨fun _ => hfin, fun c => absurd c hl⟩⟩⟩
      exact loop 99 1 (-1) M1 rfl (fun _ _ _ _ _ => rfl) (by rw [h1 1 (by decide)]; exact hi) (by rw [h1 1 (by decide)]; exact hq) (fun j _ => by rw [h1 1 (by decide)]) (fun M' hM => by rw [h1 1 (by decide)]; exact h M' hM)
  · simp only [isInB, decide_eq_true_eq, decide_eq_false_iff_not, Int32.reduceToInt] at hb
    have h0 := h M MEq.rfl
    rw [if_neg (fun z => hb (by rcases z with rfl | rfl <;> simp only [Int32.reduceToInt] <;> omega))] at h0
    exact h0
end TK9
/-- the class, where a thought may lay the book's places anew as they were -/
def CEq9 (C C' : zM) : Prop := ∀ o, o ≤ 99 → o ≠ 9 → o ≠ 21 → o ≠ 26 → o ≠ 27 → ¬ (55 ≤ o ∧ o ≤ 60) → C' o = C o
theorem RR.ceq9 {C C' M : zM} (h : RR C M) (he : CEq9 C C') (hb : RBk C' 9 (M 1)) : RR C' M := by
  obtain ⟨⟨⟨a1, a2, a3, a4, a5, a6, a7⟩, a8⟩, h2, h3, h4⟩ := h
  have e0 : C' 0 = C 0 := he 0 (by omega) (by omega) (by omega) (by omega) (by omega) (by omega)
  exact ⟨⟨⟨a1, a2, a3, a4, a5.keepb fun o a b c e => he o (by omega) (by omega) (by omega) (by omega) (by omega) (by omega), a6.keep fun o a b => he o (by omega) (by omega) (by omega) (by omega) (by omega) (by omega), hb⟩, a8⟩, h2.keep (by rw [e0]) fun o a b => he o (by omega) (by omega) (by omega) (by omega) (by omega) (by omega), h3.keep (by rw [e0]) fun o a b => he o (by omega) (by omega) (by omega) (by omega) (by omega) (by omega), h4.keep (he 98 (by omega) (by omega) (by omega) (by omega) (by omega) (by omega)) (he 99 (by omega) (by omega) (by omega) (by omega) (by omega) (by omega))⟩
section TK7
variable {g : zG} {d : Nat} {C M : zM}
theorem c7_seenCells {Q : Int64 → zM → Prop} {m : Nat} {w : Nat → Int32} (hm : zMo shC m) (hs : RS C 1 w) (hr : RMo C m w) (h : Q (seenL w) C) : zCl shC g (d + 1) mX7_seenCells [.ref 1, .ref m] C Q := by
  refine vX7_seenCells hm ?_
  have loop : ∀ n i : Nat, i + n = 64 → zW shC g (d + 1) mX7_seenCells (zl Q) 5 [(0, .ref 1), (1, .ref m), (2, .long (lset (seeB w) i)), (4, .int (iv i))] [] C := by
    intro n
    induction n with
    | zero =>
      intro i hi
      obtain rfl : i = 64 := by omega
      exact vX7_seenCells_5 hm ⟨fun _ => h, fun c => absurd (by decide) c⟩
    | succ n ih =>
      intro i hi
      have ih := ih (i + 1) (by omega)
      rw [lset] at ih
      refine vX7_seenCells_5 hm ⟨fun c => (not_le_iv (a := 64) (b := i) (by omega) (by omega) c).elim, fun _ => c7_isCell hs ⟨fun hb => ?_, fun hb => c7_isSeen hm hs hr (by omega) ⟨fun hs => ?_, fun hs => ?_⟩⟩⟩
      all_goals
        rw [iv_s]
      · rw [if_neg (by rw [seeB, hb, Bool.false_and]; decide)] at ih
        exact ih
      · rw [if_neg (by rw [seeB, hb, hs]; decide)] at ih
        exact ih
      · rw [if_pos (by rw [seeB, hb, hs]; rfl)] at ih
        exact ih
  exact loop 64 0 rfl
theorem c7_wantsRead {Q : Int32 → zM → Prop} {m : Nat} {w : Nat → Int32} (hm : zMo shC m) (hi : IS w) (hs : RS C 1 w) (hr : RMo C m w) (h : Q (wantSet w) C) : zCi shC g (d + 4) mX7_wantsRead [.ref 1, .ref m] C Q := by
  obtain ⟨a, b⟩ := hi.2.2.2.2.2.2.1
  obtain ⟨N, e1, e2, e3⟩ := iv_nat (x := w 158) (n := 11) a (by omega)
  have e4 : (w 158).toInt.toNat = N := by omega
  have e5 : C 22 4 = iv N := by
    rw [← e1]
    exact hs.2.2.2.2.2.2.2.2.2.1
  rw [wantSet, e4] at h
  refine vX7_wantsRead hm ?_
  have loop : ∀ n i : Nat, i + n = N → zW shC g (d + 4) mX7_wantsRead (zi Q) 4 [(0, .ref 1), (1, .ref m), (2, .int (bset (isReadB w) i)), (3, .int (iv i))] [] C := by
    intro n
    induction n with
    | zero =>
      intro i hi2
      obtain rfl : i = N := by omega
      refine vX7_wantsRead_4 hm ⟨fun _ => h, fun c => absurd ?_ c⟩
      rw [e5]
      exact Int32.le_refl _
    | succ n ih =>
      intro i hi2
      have ih := ih (i + 1) (by omega)
      rw [bset] at ih
      refine vX7_wantsRead_4 hm ⟨fun c => ?_, fun _ => c7_isReadSo hm hi hs hr (by omega) (by omega) ⟨fun hb => ?_, fun hb => ?_⟩⟩
      · rw [e5] at c
        exact (not_le_iv (a := N) (b := i) (by omega) (by omega) c).elim
      · rw [if_neg (by rw [hb]; decide)] at ih
        rw [iv_s]
        exact ih
      · rw [if_pos hb] at ih
        rw [iv_s]
        exact ih
  exact loop N 0 (by omega)
theorem c8_think {Q : zM → Prop} {n : Nat} (hR : RR C M) (hn : n ≤ 99) (h : ∀ C' : zM, RR C' M → RMo C' 55 (runW n (M 1)) → Q C') : zCv shC g (d + 6) mX8_think [.ref 0, .int (iv n)] C Q := by
  have hi := hR.is
  have hq := hR.mo
  refine vX8_think (c2_copy zMo55 zMo3 (by decide) (fun C1 h1 hc => ?_))
  have hr1 : RMo C1 55 (M 1) := hc _ hR.rm
  have hb1 : RBk C1 9 (M 1) := hR.rb.keep (h1 9 (by omega))
  have loop : ∀ (f i : Nat) (C2 : zM) (w : Nat → Int32), i + f = n → CEq9 C C2 → RMo C2 55 w → RBk C2 9 w → IS w → IMo w → (∀ j, j = 2 ∨ 150 ≤ j → w j = M 1 j) → runW f w = runW n (M 1) → zW shC g (d + 6) mX8_think (zv Q) 16 [(0, .ref 0), (1, .int (iv n)), (2, .int (iv i))] [] C2 := by
    intro f
    induction f with
    | zero =>
      intro i C2 w hf he hr hb hiw hqw hj hrun
      obtain rfl : i = n := by omega
      have hbm : RBk C2 9 (M 1) := RBk.row2 (w := w) (hj 2 (Or.inl rfl)).symm (fun j a _ => (hj j (Or.inr (by omega))).symm) hqw.1.2 hb
      refine vX8_think_16 ⟨fun _ => h C2 (hR.ceq9 he hbm) ?_, fun c => absurd (Int32.le_refl _) c⟩
      rw [← hrun]
      exact hr
    | succ f ih =>
      intro i C2 w hf he hr hb hiw hqw hj hrun
      have hS2 : RS C2 1 w := (hR.rs.keepb fun o a b c e => he o (by omega) (by omega) (by omega) (by omega) (by omega) (by omega)).row fun j hj2 => hj j (Or.inr hj2)
      refine vX8_think_16 ⟨fun c => (not_le_iv (a := n) (b := i) (by omega) (by omega) c).elim, fun _ => c7_pass zMo55 (fun z => Bool.noConfusion z) hiw hqw hS2 hr hb (fun C3 h3 hr3 hb3 => ?_)⟩
      obtain ⟨g1, g2, g3⟩ := minF_keep hiw hqw
      rw [iv_s]
      exact ih (i + 1) C3 (minW false w) (by omega) (fun o a b c e f k => (h3 o (by omega) b c e f).trans (he o a b c e f k)) hr3 hb3 g1 g2 (fun j hj2 => (g3 j hj2).trans (hj j hj2)) hrun
  exact loop n 0 C1 (M 1) (by omega) (fun o a b c e f k => h1 o (by omega)) hr1 hb1 hi hq (fun _ _ => rfl) rfl
theorem c8_goes {Q : Int64 → zM → Prop} {n : Int32} (hR : RR C M) (h : ∀ C' : zM, RR C' M → Q (goesV (M 1) n) C') : zCl shC g (d + 7) mX8_goes [.ref 0, .int n] C Q := by
  unfold goesV at h
  refine vX8_goes ⟨fun c => ?_, fun c => ⟨fun c2 => ?_, fun c2 => ?_⟩⟩
  · rw [Int32.lt_iff_toInt_lt] at c
    simp only [Int32.reduceToInt] at c
    have h0 := h C hR
    rw [if_neg (by omega)] at h0
    exact h0
  · rw [Int32.lt_iff_toInt_lt] at c
    rw [Int32.le_iff_toInt_le] at c2
    simp only [Int32.reduceToInt] at c c2
    obtain ⟨k, rfl, hk, hkI⟩ := iv_nat (x := n) (n := 100) (by omega) (by omega)
    rw [if_pos (by omega), iv_tn (by omega)] at h
    refine c8_think hR (by omega) (fun C1 hR1 hr1 => c7_seenCells zMo55 (hR1.rs.row fun j hj => (runW_keep k (M 1) hR.is hR.mo).2.2 j (Or.inr hj)) hr1 (h C1 hR1))
  · rw [Int32.le_iff_toInt_le] at c2
    simp only [Int32.reduceToInt] at c2
    have h0 := h C hR
    rw [if_neg (by omega)] at h0
    exact h0
theorem c8_wants {Q : Int32 → zM → Prop} {n : Int32} (hR : RR C M) (h : ∀ C' : zM, RR C' M → Q (wantsV (M 1) n) C') : zCi shC g (d + 7) mX8_wants [.ref 0, .int n] C Q := by
  unfold wantsV at h
  refine vX8_wants ⟨fun c => ?_, fun c => ⟨fun c2 => ?_, fun c2 => ?_⟩⟩
  · rw [Int32.lt_iff_toInt_lt] at c
    simp only [Int32.reduceToInt] at c
    have h0 := h C hR
    rw [if_neg (by omega)] at h0
    exact h0
  · rw [Int32.lt_iff_toInt_lt] at c
    rw [Int32.le_iff_toInt_le] at c2
    simp only [Int32.reduceToInt] at c c2
    obtain ⟨k, rfl, hk, hkI⟩ := iv_nat (x := n) (n := 100) (by omega) (by omega)
    rw [if_pos (by omega), iv_tn (by omega)] at h
    obtain ⟨r1, r2, r3⟩ := runW_keep k (M 1) hR.is hR.mo
    obtain ⟨a, b⟩ := hR.is.2.2.2.2.2.2.1
    refine c8_think hR (by omega) (fun C1 hR1 hr1 => c7_wantsRead zMo55 r1 (hR1.rs.row fun j hj => r3 j (Or.inr hj)) hr1 (c_bitCount ?_))
    rw [wantSet, r3 158 (by omega), jbc_bset (by omega)]
    exact h C1 hR1
  · rw [Int32.le_iff_toInt_le] at c2
    simp only [Int32.reduceToInt] at c2
    have h0 := h C hR
    rw [if_neg (by omega)] at h0
    exact h0
theorem c8_leastOf {Q : Int32 → zM → Prop} {x : Int32} (h : Q (lowF x 32 0) C) : zCi shC g d mX8_leastOf [.int x] C Q := by
  refine vX8_leastOf ?_
  have loop : ∀ f k : Nat, k + f = 32 → Q (lowF x f k) C → zW shC g d mX8_leastOf (zi Q) 2 [(0, .int x), (1, .int (iv k))] [] C := by
    intro f
    induction f with
    | zero =>
      intro k hk h
      obtain rfl : k = 32 := by omega
      exact vX8_leastOf_2 ⟨fun _ => h, fun c => absurd (by decide) c⟩
    | succ f ih =>
      intro k hk h
      rw [lowF] at h
      refine vX8_leastOf_2 ⟨fun c => (not_le_iv (a := 32) (b := k) (by omega) (by omega) c).elim, fun _ => ⟨fun c => ?_, fun c => ?_⟩⟩
      · rw [if_neg (fun z => c ((bitAt1 (by omega)).mpr z))] at h
        rw [iv_s]
        exact ih (k + 1) (by omega) h
      · rw [if_pos ((bitAt1 (by omega)).mp c)] at h
        exact h
  exact loop 32 0 rfl h
theorem c8_spoilt {Q : Int32 → zM → Prop} {what : Int32} (hR : RR C M) (h : ∀ C' : zM, RR C' M → Q (spoV (M 1) what) C') : zCi shC g (d + 7) mX8_spoilt [.ref 0, .int what] C Q := by
  unfold spoV at h
  have hi := hR.is
  have hq := hR.mo
  have main : (what = 0 ∨ what = 1) → zW shC g (d + 7) mX8_spoilt (zi Q) 11 [(0, .ref 0), (1, .int what)] [] C := by
    intro hw
    rw [if_pos hw] at h
    refine vX8_spoilt_11 (c7_wantsRead zMo3 hi hR.rs hR.rm ⟨fun hz => c2_copy zMo55 zMo3 (by decide) (fun C1 h1 hc => ?_), fun hz => ?_⟩)
    · rw [if_neg hz] at h
      have hr1 : RMo C1 55 (M 1) := hc _ hR.rm
      have hb1 : RBk C1 9 (M 1) := hR.rb.keep (h1 9 (by omega))
      have loop : ∀ (f k : Nat) (C2 : zM) (w : Nat → Int32), k + f = 100 → CEq9 C C2 → RMo C2 55 w → RBk C2 9 w → IS w → IMo w → (∀ j, j = 2 ∨ 150 ≤ j → w j = M 1 j) → (∀ C' : zM, RR C' M → Q (spoF (wantSet (M 1)) what f k w) C') → zW shC g (d + 7) mX8_spoilt (zi Q) 48 [(0, .ref 0), (1, .int what), (2, .int (wantSet (M 1))), (3, .int (iv k))] [] C2 := by
        intro f
        induction f with
        | zero =>
          intro k C2 w hf he hr hb hiw hqw hj hh
          obtain rfl : k = 100 := by omega
          have hbm : RBk C2 9 (M 1) := RBk.row2 (w := w) (hj 2 (Or.inl rfl)).symm (fun j a _ => (hj j (Or.inr (by omega))).symm) hqw.1.2 hb
          exact vX8_spoilt_48 ⟨fun _ => hh C2 (hR.ceq9 he hbm), fun c => absurd (by decide) c⟩
        | succ f ih =>
          intro k C2 w hf he hr hb hiw hqw hj hh
          have hS2 : RS C2 1 w := (hR.rs.keepb fun o a b c e => he o (by omega) (by omega) (by omega) (by omega) (by omega) (by omega)).row fun j hj2 => hj j (Or.inr hj2)
          refine vX8_spoilt_48 ⟨fun c => ?_, fun _ => c7_pass zMo55 (fun z => Bool.noConfusion z) hiw hqw hS2 hr hb (fun C3 h3 hr3 hb3 => ?_)⟩
          · exfalso
            rw [Int32.lt_iff_toInt_lt, iv_toInt (by omega) (by omega)] at c
            simp only [Int32.reduceToInt] at c
            omega
          obtain ⟨g1, g2, g3⟩ := minF_keep hiw hqw
          have he3 : CEq9 C C3 := fun o a b c e f k => (h3 o (by omega) b c e f).trans (he o a b c e f k)
          have hj3 : ∀ j, j = 2 ∨ 150 ≤ j → minW false w j = M 1 j := fun j hj2 => (g3 j hj2).trans (hj j hj2)
          have hS3 : RS C3 1 (minW false w) := (hR.rs.keepb fun o a b c e => he3 o (by omega) (by omega) (by omega) (by omega) (by omega) (by omega)).row fun j hj2 => hj3 j (Or.inr hj2)
          have hbm : RBk C3 9 (M 1) := RBk.row2 (w := minW false w) (hj3 2 (Or.inl rfl)).symm (fun j a _ => (hj3 j (Or.inr (by omega))).symm) g2.1.2 hb3
          have hR3 := hR.ceq9 he3 hbm
          simp only [spoF] at hh
          refine c7_wantsRead zMo55 g1 hS3 hr3 ⟨fun hl => ?_, fun hl => ⟨fun c2 => c8_leastOf ?_, fun c2 => ?_⟩⟩
          · rw [iv_s]
            refine ih (k + 1) C3 (minW false w) (by omega) he3 hr3 hb3 g1 g2 hj3 (fun C' hR' => ?_)
            have h0 := hh C' hR'
            rw [if_pos hl] at h0
            exact h0
          · have h0 := hh C3 hR3
            rw [if_neg hl, if_neg c2] at h0
            exact h0
          · have h0 := hh C3 hR3
            rw [if_neg hl, if_pos c2] at h0
            exact h0
      exact loop 99 1 C1 (M 1) rfl (fun o a b c e f k => h1 o (by omega)) hr1 hb1 hi hq (fun _ _ => rfl) h
    · rw [if_pos hz] at h
      exact h C hR
  refine vX8_spoilt ⟨fun c => main (Or.inl c), fun c => ⟨fun c2 => main (Or.inr c2), fun c2 => ?_⟩⟩
  rw [if_neg (fun z => z.elim c c2)] at h
  exact h C hR
end TK7
