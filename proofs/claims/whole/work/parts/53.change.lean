/-! METHODS that change the state: state, set, skater, basin -/
/-- the small things that stay when a row changes -/
theorem IBk.row {w v : Nat → Int32} (h0 : v 0 = w 0) (h2 : v 2 = w 2) (h : ∀ j, 566 ≤ j → j < 1316 → v j = w j) (hn : (w 2).toInt ≤ 150) (hb : IBk w) : IBk v := by
  obtain ⟨a, b⟩ := hb
  refine ⟨by rw [h0]; exact a, fun i hi => ?_⟩
  rw [h2] at hi
  rw [h (566 + 5 * i) (by omega) (by omega), h (567 + 5 * i) (by omega) (by omega), h (568 + 5 * i) (by omega) (by omega), h (569 + 5 * i) (by omega) (by omega), h (570 + 5 * i) (by omega) (by omega)]
  exact b i hi
theorem RBk.row2 {C : zM} {p : Nat} {w v : Nat → Int32} (h2 : v 2 = w 2) (h : ∀ j, 566 ≤ j → j < 1316 → v j = w j) (hn : (w 2).toInt ≤ 150) (hR : RBk C p w) : RBk C p v := by
  intro i hi
  rw [h2] at hi
  rw [hR i hi]
  unfold packV
  rw [h (566 + 5 * i) (by omega) (by omega), h (567 + 5 * i) (by omega) (by omega), h (568 + 5 * i) (by omega) (by omega), h (569 + 5 * i) (by omega) (by omega), h (570 + 5 * i) (by omega) (by omega)]
theorem RBk.keep {C C' : zM} {p : Nat} {w : Nat → Int32} (h : C' p = C p) (hR : RBk C p w) : RBk C' p w := by
  intro i hi
  rw [h]
  exact hR i hi
theorem INo.row {w v : Nat → Int32} (h : ∀ j, j = 154 ∨ (166 ≤ j ∧ j < 172) → v j = w j) (hN : INo w) : INo v := by
  intro s hs hq
  rw [h 154 (by omega)] at hq
  rw [h (166 + s) (by omega)]
  exact hN s hs hq
/-- places that no law, paper, way or book is in, but for what is set: sight, falls -/
theorem LawOK.row3 {w v : Nat → Int32} (h : ∀ j, j = 156 ∨ 1316 ≤ j → v j = w j) (hL : LawOK w) : LawOK v := by
  have ht : ∀ (n a : Nat) (ts : List Bool), tyRun v a n ts = tyRun w a n ts := by
    intro n
    induction n with
    | zero => intro a ts; rfl
    | succ n ih =>
      intro a ts
      rw [tyRun, tyRun, h _ (by omega)]
      split
      · rfl
      · split
        · rfl
        · exact ih (a + 1) _
  obtain ⟨h0, h16, hl⟩ := hL
  refine ⟨by rw [h _ (by omega)]; exact h0, by rw [h _ (by omega)]; exact h16, fun i hi => ?_⟩
  rw [h _ (by omega)] at hi
  obtain ⟨f, m, t, h1, h2, h3, h4, h5, h6, h7, h8, h9, h10⟩ := hl i hi
  refine ⟨f, m, t, by rw [h _ (by omega)]; exact h1, by rw [h _ (by omega)]; exact h2, by rw [h _ (by omega)]; exact h3, h4, h5, h6, by rw [h _ (by omega)]; exact h7, fun j a b => ?_, by rw [ht]; exact h9, fun q => by rw [ht]; exact h10 q⟩
  rw [h _ (by omega), h _ (by omega)]
  exact h8 j a b
section CH9
variable {g : zG} {d : Nat} {M : zM}
theorem c9_state {Q : Int32 → zM → Prop} {v : Int32} (h : Q (M 1 1) (zup (zup M 1 1 v) 0 4 0)) : zCi shM g (d + 1) mX9_state [.ref 0, .int v] M Q := vX9_state (vX9_forgets h)
/-- what set changes: nothing, if it is none -/
def setP (w : Nat → Int32) (what who v : Int32) : Option Nat :=
  if what.toInt = 0 then (if 1 ≤ v.toInt ∧ v.toInt ≤ 9 then some 152 else none)
  else if what.toInt = 1 then (if 0 ≤ v.toInt ∧ v.toInt ≤ 1000 then some 153 else none)
  else if what.toInt = 2 then (if cellB (w 150) (w 151) who = true ∧ 0 ≤ v.toInt ∧ v.toInt ≤ 9 then some (21 + who.toInt.toNat) else none)
  else if what.toInt = 3 then (if skB (w 154) who = true ∧ cellB (w 150) (w 151) v = true then some (3 + who.toInt.toNat) else none)
  else none
def setM (M : zM) (what who v : Int32) : zM := match setP (M 1) what who v with
  | none => M
  | some k => zup (zup M 1 k v) 0 4 0
def setB (M : zM) (what who v : Int32) : Bool := (setP (M 1) what who v).isSome
theorem c9_canSet {Q : Bool → zM → Prop} {what who v : Int32} (hi : IS (M 1)) (h : Q (setB M what who v) M) : zCz shM g (d + 3) mX9_canSet [.ref 0, .int what, .int who, .int v] M Q := by
  obtain ⟨n0, n6⟩ := hi.2.2.2.1
  unfold setB setP at h
  refine vX9_canSet ⟨fun z => ?_, fun z => c9_isIn ?_, fun z => c9_isIn ?_, fun z => c9_isCell hi.1 ⟨fun hb => ?_, fun hb => c9_isIn ⟨fun hc => ?_, fun hc => ?_⟩⟩, fun z => c9_isSkater ⟨n0, n6⟩ ⟨fun hb => ?_, fun hb => c9_isCell hi.1 ⟨fun hc => ?_, fun hc => ?_⟩⟩⟩
  · rw [if_neg (by omega), if_neg (by omega), if_neg (by omega), if_neg (by omega)] at h
    exact h
  · rw [if_pos z] at h
    unfold isInB
    by_cases c : 1 ≤ v.toInt ∧ v.toInt ≤ 9
    · rw [if_pos c] at h
      rw [decide_eq_true (by exact c)]
      exact h
    · rw [if_neg c] at h
      rw [decide_eq_false (by exact c)]
      exact h
  · rw [if_neg (by omega), if_pos z] at h
    unfold isInB
    by_cases c : 0 ≤ v.toInt ∧ v.toInt ≤ 1000
    · rw [if_pos c] at h
      rw [decide_eq_true (by exact c)]
      exact h
    · rw [if_neg c] at h
      rw [decide_eq_false (by exact c)]
      exact h
  · rw [if_neg (by omega), if_neg (by omega), if_pos z, if_neg (fun y => by rw [hb] at y; exact absurd y.1 (by decide))] at h
    exact h
  · simp only [isInB, decide_eq_true_eq, decide_eq_false_iff_not, Int32.reduceToInt] at hc
    rw [if_neg (by omega), if_neg (by omega), if_pos z, if_neg (fun y => hc y.2)] at h
    exact h
  · simp only [isInB, decide_eq_true_eq, decide_eq_false_iff_not, Int32.reduceToInt] at hc
    rw [if_neg (by omega), if_neg (by omega), if_pos z, if_pos ⟨hb, hc⟩] at h
    exact h
  · rw [if_neg (by omega), if_neg (by omega), if_neg (by omega), if_pos z, if_neg (fun y => by rw [hb] at y; exact absurd y.1 (by decide))] at h
    exact h
  · rw [if_neg (by omega), if_neg (by omega), if_neg (by omega), if_pos z, if_neg (fun y => by rw [hc] at y; exact absurd y.2 (by decide))] at h
    exact h
  · rw [if_neg (by omega), if_neg (by omega), if_neg (by omega), if_pos z, if_pos ⟨hb, hc⟩] at h
    exact h
theorem setP_what {w : Nat → Int32} {what who v : Int32} {k : Nat} (h : setP w what who v = some k) : (what.toInt = 0 ∧ k = 152 ∧ rng v 1 9) ∨ (what.toInt = 1 ∧ k = 153 ∧ rng v 0 1000) ∨ (what.toInt = 2 ∧ k = 21 + who.toInt.toNat ∧ cellB (w 150) (w 151) who = true ∧ rng v 0 9) ∨ (what.toInt = 3 ∧ k = 3 + who.toInt.toNat ∧ skB (w 154) who = true ∧ cellB (w 150) (w 151) v = true) := by
  unfold setP at h
  unfold rng
  split at h
  · split at h
    · cases h
      exact Or.inl ⟨by assumption, rfl, by assumption⟩
    · cases h
  · split at h
    · split at h
      · cases h
        exact Or.inr (Or.inl ⟨by assumption, rfl, by assumption⟩)
      · cases h
    · split at h
      · split at h
        · rename_i c
          cases h
          exact Or.inr (Or.inr (Or.inl ⟨by assumption, rfl, c.1, c.2⟩))
        · cases h
      · split at h
        · split at h
          · rename_i c
            cases h
            exact Or.inr (Or.inr (Or.inr ⟨by assumption, rfl, c.1, c.2⟩))
          · cases h
        · cases h
theorem c9_set {Q : Bool → zM → Prop} {what who v : Int32} (hi : IS (M 1)) (h : Q (setB M what who v) (setM M what who v)) : zCz shM g (d + 4) mX9_set [.ref 0, .int what, .int who, .int v] M Q := by
  obtain ⟨n0, n6⟩ := hi.2.2.2.1
  refine vX9_set (c9_canSet hi ⟨fun hb => ?_, fun hb => ?_⟩)
  · rw [hb] at h
    unfold setB at hb
    obtain ⟨k, hk⟩ := Option.isSome_iff_exists.mp hb
    unfold setM at h
    rw [hk] at h
    have h' : Q true (zup (zup M 1 k v) 0 4 0) := h
    have e2 : (2 : Int32).toInt = 2 := rfl
    rcases setP_what hk with ⟨a, b, c⟩ | ⟨a, b, c⟩ | ⟨a, b, c, e⟩ | ⟨a, b, c, e⟩
    · refine ⟨fun z => ?_, fun z => ⟨k, ?_, by omega, vX9_forgets h'⟩⟩
      · rw [Int32.le_iff_toInt_le, e2] at z
        omega
      · rw [show what = iv 0 by rw [eqI, a]; rfl, b]
        rfl
    · refine ⟨fun z => ?_, fun z => ⟨k, ?_, by omega, vX9_forgets h'⟩⟩
      · rw [Int32.le_iff_toInt_le, e2] at z
        omega
      · rw [show what = iv 1 by rw [eqI, a]; rfl, b]
        rfl
    · obtain ⟨j, rfl, hj⟩ := cell_nat c
      rw [iv_tn (by omega)] at b
      refine ⟨fun z => ⟨fun y => absurd (show what = 2 by rw [eqI, a]; rfl) y, fun y => ⟨k, ?_, by omega, vX9_forgets h'⟩⟩, fun z => ?_⟩
      · rw [b]
        exact iv_n 21 j
      · rw [Int32.le_iff_toInt_le, e2] at z
        omega
    · obtain ⟨j, rfl, hj, hj2, hj3⟩ := sk_nat (z := 6) (by omega) c
      rw [iv_tn (by omega)] at b
      refine ⟨fun z => ⟨fun y => ⟨k, ?_, by omega, vX9_forgets h'⟩, fun y => ?_⟩, fun z => ?_⟩
      · rw [b]
        exact iv_n 3 j
      · rw [eqI, e2] at y
        omega
      · rw [Int32.le_iff_toInt_le, e2] at z
        omega
  · rw [hb] at h
    unfold setB at hb
    unfold setM at h
    have hn : setP (M 1) what who v = none := by
      cases hq : setP (M 1) what who v with
      | none => rfl
      | some k => rw [hq] at hb; cases hb
    rw [hn] at h
    exact h
def skM (M : zM) (hand cell : Int32) (n : Nat) : zM := zup (zup (zup (zup (zup (zup (zup M 1 (160 + n) hand) 1 (3 + n) cell) 1 (166 + n) 0) 1 (9 + n) 0) 1 (15 + n) 1) 1 154 (iv (n + 1 : Nat))) 0 4 0
def skOK (w : Nat → Int32) (hand cell : Int32) : Bool := decide (0 ≤ hand.toInt ∧ hand.toInt ≤ 9 ∧ cellB (w 150) (w 151) cell = true ∧ (w 154).toInt < 6)
def skaterV (w : Nat → Int32) (hand cell : Int32) : Int32 := if skOK w hand cell = true then w 154 else -1
def skaterM (M : zM) (hand cell : Int32) : zM := if skOK (M 1) hand cell = true then skM M hand cell (M 1 154).toInt.toNat else M
theorem c9_skater {Q : Int32 → zM → Prop} {hand cell : Int32} (hi : IS (M 1)) (h : Q (skaterV (M 1) hand cell) (skaterM M hand cell)) : zCi shM g (d + 3) mX9_skater [.ref 0, .int hand, .int cell] M Q := by
  have n06 := hi.2.2.2.1
  obtain ⟨n, en, hn, en2⟩ := rng_nat (b := 6) n06
  have no : ∀ (z : ¬ (0 ≤ hand.toInt ∧ hand.toInt ≤ 9 ∧ cellB (M 1 150) (M 1 151) cell = true ∧ (M 1 154).toInt < 6)), Q (-1) M := by
    intro z
    have e : skOK (M 1) hand cell = false := decide_eq_false z
    unfold skaterV skaterM at h
    rw [e, if_neg (by decide), if_neg (by decide)] at h
    exact h
  refine vX9_skater (c9_isIn ⟨fun hb => no fun z => ?_, fun hb => c9_isCell hi.1 ⟨fun hc => no fun z => ?_, fun hc => ⟨fun h6 => ?_, fun h6 => no fun z => ?_⟩⟩⟩)
  · simp only [isInB, decide_eq_true_eq, decide_eq_false_iff_not, Int32.reduceToInt] at hb
    exact hb ⟨z.1, z.2.1⟩
  · rw [hc] at z
    exact absurd z.2.2.1 (by decide)
  · simp only [isInB, decide_eq_true_eq, decide_eq_false_iff_not, Int32.reduceToInt] at hb
    rw [en] at h6 ⊢
    have n6 : n ≠ 6 := fun z => h6 (by rw [z]; rfl)
    have e : skOK (M 1) hand cell = true := decide_eq_true ⟨hb.1, hb.2, hc, by omega⟩
    unfold skaterV skaterM at h
    rw [e, if_pos rfl, if_pos rfl, en, iv_tn (by omega)] at h
    refine ⟨160 + n, iv_n 160 n, by omega, 3 + n, iv_n 3 n, by omega, 166 + n, iv_n 166 n, by omega, 9 + n, iv_n 9 n, by omega, 15 + n, iv_n 15 n, by omega, fun v1 hv => vX9_forgets ?_⟩
    rw [zup_ne (by omega), zup_ne (by omega), zup_ne (by omega), zup_ne (by omega), zup_ne (by omega), en, iv_s] at hv
    rw [hv]
    exact h
  · rw [h6] at z
    exact absurd z.2.2.2 (by decide)
def freshW (across down st : Int32) : Nat → Int32 := fun j => if j = 1 then st else if j = 150 then across else if j = 151 then down else if j = 152 then 1 else if 85 ≤ j ∧ j < 149 then -1 else 0
def basinB (across down : Int32) : Bool := decide (3 ≤ across.toInt ∧ across.toInt ≤ 8 ∧ 3 ≤ down.toInt ∧ down.toInt ≤ 7)
/-- all begins anew -/
def freshM (M : zM) (across down : Int32) : zM := fun o => if o = 1 then freshW across down (M 1 1) else if o = 0 then upd (M 0) 4 0 else M o
theorem c9_begins {Q : zM → Prop} {across down : Int32} (hb : ∀ j, 2200 ≤ j → M 1 j = 0) (h : Q (freshM M across down)) : zCv shM g d mX9_begins [.ref 0, .int across, .int down] M Q := by
  have l69 : ∀ (n c : Nat) (M1 : zM), c + n = 64 → (∀ o, o ≠ 1 → M1 o = M o) → (∀ j, M1 1 j = if 85 ≤ j ∧ j < 149 then (if j < 85 + c then -1 else 0) else freshW across down (M 1 1) j) → zW shM g d mX9_begins (zv Q) 69 [(0, .ref 0), (4, .int (iv c))] [] M1 := by
    intro n
    induction n with
    | zero =>
      intro c M1 hc ho hr
      have e64 : c = 64 := by omega
      subst e64
      refine vX9_begins_69 ⟨fun _ => ?_, fun c => absurd (by decide) c⟩
      have e : zup M1 0 4 0 = freshM M across down := by
        funext o j
        unfold freshM
        by_cases h1 : o = 1
        · rw [if_pos h1, h1, zup_oth (by decide), hr j]
          split
          · rename_i c
            unfold freshW
            rw [if_pos (by omega), if_neg (by omega), if_neg (by omega), if_neg (by omega), if_neg (by omega), if_pos c]
          · rfl
        · rw [if_neg h1]
          by_cases h0 : o = 0
          · rw [if_pos h0, h0, zup_row, ho 0 (by decide)]
          · rw [if_neg h0, zup_oth h0, ho o h1]
      rw [e]
      exact h
    | succ n ih =>
      intro c M1 hc ho hr
      refine vX9_begins_69 ⟨fun z => ?_, fun _ => ⟨85 + c, iv_n 85 c, by omega, ?_⟩⟩
      · exfalso
        rw [Int32.le_iff_toInt_le, iv_toInt (by omega) (by omega)] at z
        simp only [Int32.reduceToInt] at z
        omega
      · rw [iv_s]
        refine ih (c + 1) _ (by omega) (fun o h1 => (zup_oth h1).trans (ho o h1)) (fun j => ?_)
        rw [zup_row]
        by_cases e : j = 85 + c
        · rw [e, upd_at, if_pos (by omega), if_pos (by omega)]
        · rw [upd_ne e, hr j]
          split
          · by_cases e2 : j < 85 + c
            · rw [if_pos e2, if_pos (by omega)]
            · rw [if_neg e2, if_neg (by omega)]
          · rfl
  have l10 : ∀ (n c : Nat) (M1 : zM), c + n = 2200 → (∀ o, o ≠ 1 → M1 o = M o) → (∀ j, M1 1 j = if j < c then 0 else M 1 j) → zW shM g d mX9_begins (zv Q) 10 [(0, .ref 0), (1, .int across), (2, .int down), (3, .int (M 1 1)), (4, .int (iv c))] [] M1 := by
    intro n
    induction n with
    | zero =>
      intro c M1 hc ho hr
      have e64 : c = 2200 := by omega
      subst e64
      refine vX9_begins_10 ⟨fun _ => l69 64 0 _ (by omega) (fun o h1 => by rw [zup_oth h1, zup_oth h1, zup_oth h1, zup_oth h1]; exact ho o h1) (fun j => ?_), fun c => absurd (by decide) c⟩
      rw [zup_row, zup_row, zup_row, zup_row]
      unfold freshW
      have e0 : M1 1 j = 0 := by
        rw [hr j]
        split
        · rfl
        · exact hb j (by omega)
      by_cases h2 : j = 152
      · rw [h2, upd_at, if_neg (by omega), if_neg (by omega), if_neg (by omega), if_neg (by omega), if_pos rfl]
      · rw [upd_ne h2]
        by_cases h3 : j = 151
        · rw [h3, upd_at, if_neg (by omega), if_neg (by omega), if_neg (by omega), if_pos rfl]
        · rw [upd_ne h3]
          by_cases h4 : j = 150
          · rw [h4, upd_at, if_neg (by omega), if_neg (by omega), if_pos rfl]
          · rw [upd_ne h4]
            by_cases h5 : j = 1
            · rw [h5, upd_at, if_neg (by omega), if_pos rfl]
            · rw [upd_ne h5, e0]
              split
              · rw [if_neg (by omega)]
              · rfl
    | succ n ih =>
      intro c M1 hc ho hr
      refine vX9_begins_10 ⟨fun z => ?_, fun _ => ⟨c, rfl, by omega, ?_⟩⟩
      · exfalso
        rw [Int32.le_iff_toInt_le, iv_toInt (by omega) (by omega)] at z
        simp only [Int32.reduceToInt] at z
        omega
      · rw [iv_s]
        refine ih (c + 1) _ (by omega) (fun o h1 => (zup_oth h1).trans (ho o h1)) (fun j => ?_)
        rw [zup_row]
        by_cases e : j = c
        · rw [e, upd_at, if_pos (by omega)]
        · rw [upd_ne e, hr j]
          by_cases e2 : j < c
          · rw [if_pos e2, if_pos (by omega)]
          · rw [if_neg e2, if_neg (by omega)]
  exact vX9_begins (l10 2200 0 M (by omega) (fun _ _ => rfl) (fun j => by rw [if_neg (by omega)]))
def basinM (M : zM) (across down : Int32) : zM := if basinB across down = true then freshM M across down else M
theorem c9_basin {Q : Bool → zM → Prop} {across down : Int32} (hb : ∀ j, 2200 ≤ j → M 1 j = 0) (h : Q (basinB across down) (basinM M across down)) : zCz shM g (d + 1) mX9_basin [.ref 0, .int across, .int down] M Q := by
  unfold basinM at h
  refine vX9_basin (c9_isIn ⟨fun b1 => ?_, fun b1 => c9_isIn ⟨fun b2 => ?_, fun b2 => ?_⟩⟩)
  · simp only [isInB, decide_eq_true_eq, decide_eq_false_iff_not, Int32.reduceToInt] at b1
    have e : basinB across down = false := decide_eq_false fun z => b1 ⟨z.1, z.2.1⟩
    rw [e, if_neg (by decide)] at h
    exact h
  · simp only [isInB, decide_eq_true_eq, decide_eq_false_iff_not, Int32.reduceToInt] at b1 b2
    have e : basinB across down = true := decide_eq_true ⟨b1.1, b1.2, b2.1, b2.2⟩
    rw [e, if_pos rfl] at h
    exact c9_begins hb h
  · simp only [isInB, decide_eq_true_eq, decide_eq_false_iff_not, Int32.reduceToInt] at b2
    have e : basinB across down = false := decide_eq_false fun z => b2 ⟨z.2.2.1, z.2.2.2⟩
    rw [e, if_neg (by decide)] at h
    exact h
end CH9
