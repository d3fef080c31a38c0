/-! MINUTES: the book keeps its ranges; what is kept for undo -/
section BKK
variable {real : Bool} {w : Nat → Int32} {s k : Nat} {b f : Int32}
theorem more_r {x b : Int32} (hx : rng x 0 9) (hb : rng b 0 9) : rng (if b < 9 - x then b else 9 - x) 0 9 := by
  obtain ⟨x0, x9⟩ := hx
  obtain ⟨b0, b9⟩ := hb
  have t9 : (9 : Int32).toInt = 9 := rfl
  have e2 : (9 - x).toInt = 9 - x.toInt := by rw [ti_sub (by rw [t9]; omega) (by rw [t9]; omega), t9]
  unfold rng
  split
  · exact ⟨b0, b9⟩
  · rw [e2]
    omega
/-- what a cut keeps of the book -/
def kept (w v : Nat → Int32) : Prop := IBk v ∧ (w 2).toInt ≤ (v 2).toInt ∧ (v 2).toInt ≤ 150 ∧ v 0 = w 0
theorem kept_self (hb : IBk w) (hn : rng (w 2) 0 150) : kept w w := ⟨hb, by omega, hn.2, rfl⟩
theorem kept_row {u v : Nat → Int32} (h : kept w v) (h0 : u 0 = v 0) (h2 : u 2 = v 2) (hj : ∀ j, 566 ≤ j → j < 1316 → u j = v j) : kept w u := by
  obtain ⟨a, b, c, e⟩ := h
  exact ⟨a.row h0 h2 hj c, by rw [h2]; exact b, by rw [h2]; exact c, h0.trans e⟩
theorem kept.trans {u v : Nat → Int32} (h : kept w v) (h2 : kept v u) : kept w u := ⟨h2.1, by have := h.2.1; have := h2.2.1; omega, h2.2.2.1, h2.2.2.2.trans h.2.2.2⟩
theorem kept_deep (hbk : IBk w) (hn : rng (w 2) 0 150) (hk : k < 64) (hs : s < 6) (hd : rng (w (21 + k)) 0 9) (hb : rng b 0 9) (hf : rng f 0 1) : kept w (deepW real w s k b f) := by
  obtain ⟨n0, n1⟩ := hn
  obtain ⟨m0, hl⟩ := hbk
  obtain ⟨n, en, hnn, en2⟩ := rng_nat (b := 150) (x := w 2) ⟨n0, n1⟩
  have hm := more_r hd hb
  unfold deepW
  split
  · rename_i c
    have c2 : n ≠ 150 := fun z => c.2 (by rw [en, z]; rfl)
    have e1 : (w 2 + 1).toInt = n + 1 := by rw [en, iv_s, iv_toInt (by omega) (by omega)]; omega
    have en3 : (w 2).toInt.toNat = n := by omega
    rw [en3]
    refine ⟨⟨?_, fun i hi => ?_⟩, ?_, ?_, ?_⟩
    · rw [upd_ne (by omega), upd_ne (by omega), upd_ne (by omega), upd_ne (by omega), upd_ne (by omega), upd_ne (by omega), upd_ne (by omega), upd_ne (by omega)]
      exact m0
    · rw [upd_at, e1] at hi
      by_cases e : i = n
      · subst e
        refine ⟨?_, ?_, ?_, ?_, ?_⟩
        · rw [upd_ne (by omega), upd_ne (by omega), upd_ne (by omega), upd_ne (by omega), upd_ne (by omega), upd_at]
          exact m0
        · rw [upd_ne (by omega), upd_ne (by omega), upd_ne (by omega), upd_ne (by omega), upd_at]
          unfold rng
          rw [iv_toInt (by omega) (by omega)]
          omega
        · rw [upd_ne (by omega), upd_ne (by omega), upd_ne (by omega), upd_at]
          unfold rng
          rw [iv_toInt (by omega) (by omega)]
          omega
        · rw [upd_ne (by omega), upd_ne (by omega), upd_at]
          exact hm
        · rw [upd_ne (by omega), upd_at]
          exact hf
      · have hv : ∀ c, c < 5 → ∀ x1 x2 x3 x4 x5 x6 x7 x8 : Int32, upd (upd (upd (upd (upd (upd (upd (upd w (21 + k) x1) (85 + k) x2) (566 + 5 * n) x3) (567 + 5 * n) x4) (568 + 5 * n) x5) (569 + 5 * n) x6) (570 + 5 * n) x7) 2 x8 (566 + c + 5 * i) = w (566 + c + 5 * i) := by
          intro c hc x1 x2 x3 x4 x5 x6 x7 x8
          rw [upd_ne (by omega), upd_ne (by omega), upd_ne (by omega), upd_ne (by omega), upd_ne (by omega), upd_ne (by omega), upd_ne (by omega), upd_ne (by omega)]
        have q := hl i (by omega)
        rw [hv 0 (by omega), hv 1 (by omega), hv 2 (by omega), hv 3 (by omega), hv 4 (by omega)]
        exact q
    · rw [upd_at, e1]
      omega
    · rw [upd_at, e1]
      omega
    · rw [upd_ne (by omega), upd_ne (by omega), upd_ne (by omega), upd_ne (by omega), upd_ne (by omega), upd_ne (by omega), upd_ne (by omega), upd_ne (by omega)]
  · exact kept_row (kept_self ⟨m0, hl⟩ ⟨n0, n1⟩) (by rw [upd_ne (by omega), upd_ne (by omega)]) (by rw [upd_ne (by omega), upd_ne (by omega)]) (fun j a b => by rw [upd_ne (by omega), upd_ne (by omega)])
theorem kept_step (hbk : IBk w) (h : IMo w) (hI : IS w) (hs : s < 6) : kept w (stepW real w s) := by
  obtain ⟨k, hk, hk64, hkI, hkc⟩ := place_rng h hs
  have htc := goV_cell hI.1 hkc hk64 (i := wayOf w s)
  have eto : goV w k (wayOf w s) = toOf w s := by
    unfold toOf
    rw [hkI]
    rfl
  rw [eto] at htc
  have aA : ∀ j, j ≠ 15 + s → j ≠ 9 + s → stepA w s j = w j := fun j a c => by rw [stepA, upd_ne c, upd_ne a]
  have kA : kept w (stepA w s) := kept_row (kept_self hbk h.1) (aA 0 (by omega) (by omega)) (aA 2 (by omega) (by omega)) (fun j a b => aA j (by omega) (by omega))
  have kP : kept w (upd (stepA w s) (3 + s) (iv (toOf w s))) := kept_row kA (upd_ne (by omega)) (upd_ne (by omega)) (fun j a b => upd_ne (by omega))
  have kB : kept w (stepB real w s) := by
    unfold stepB
    split
    · exact kA
    · split
      · refine kP.trans (kept_deep kP.1 ?_ htc.1 hs ?_ (cutV_rng w s (toOf w s)) ?_)
        · rw [upd_ne (by omega), aA 2 (by omega) (by omega)]
          exact h.1
        · rw [upd_ne (by omega), aA (21 + toOf w s) (by omega) (by omega)]
          exact h.2.2.2.2.1 _ htc.1
        · exact rng0 (by omega) (by omega)
      · exact kP
  unfold stepW
  split
  · exact kept_row kB (upd_ne (by omega)) (upd_ne (by omega)) (fun j a b => upd_ne (by omega))
  · exact kB
theorem kept_sk (hbk : IBk w) (hq : IMo w) (hi : IS w) (hs : s < 6) : kept w (skW real w s) := by
  have hd : ∀ j, j ≠ 1 → drewW real w j = w j := fun j hj => drewW_ne hj
  have hqd : IMo (drewW real w) := IMo.low (fun j hj => hd j (by omega)) hq
  have hid : IS (drewW real w) := hi.row fun j hj => hd j (by omega)
  have kd : kept w (drewW real w) := kept_row (kept_self hbk hq.1) (hd 0 (by omega)) (hd 2 (by omega)) (fun j a b => hd j (by omega))
  obtain ⟨k, hk, hk64, hkI, hkc⟩ := place_rng hq hs
  unfold skW
  split
  · exact kept_self hbk hq.1
  · split
    · have e : (w (3 + s)).toInt.toNat = k := by omega
      rw [e]
      exact kd.trans (kept_deep kd.1 hqd.1 hk64 hs (by rw [hd _ (by omega)]; exact hq.2.2.2.2.1 k hk64) r39 (by unfold rng; decide))
    · exact kd.trans (kept_step kd.1 hqd hid hs)
end BKK
theorem kept_skR {real : Bool} : ∀ (n s : Nat) (w : Nat → Int32), IBk w → IS w → IMo w → s + n ≤ 6 → ((s + n : Nat) : Int) ≤ (w 154).toInt → kept w (skR real n s w)
  | 0, s, w, hb, hi, hq, h6, hn => kept_self hb hq.1
  | n + 1, s, w, hb, hi, hq, h6, hn => by
    obtain ⟨h1, h2⟩ := sk_keep (real := real) hi hq (show s < 6 by omega) (by omega)
    have k1 := kept_sk (real := real) hb hq hi (show s < 6 by omega)
    exact k1.trans (kept_skR n (s + 1) (skW real w s) k1.1 (hi.row2 h2) h1 (by omega) (by rw [h2 154 (by omega) (by omega)]; omega))
theorem minW_bk {real : Bool} {w : Nat → Int32} (hb : IBk w) (hi : IS w) (hq : IMo w) (h0 : (w 0).toInt < 9999) : IBk (minW real w) ∧ (w 2).toInt ≤ (minW real w 2).toInt ∧ (minW real w 2).toInt ≤ 150 ∧ (minW real w 0).toInt = (w 0).toInt + 1 := by
  obtain ⟨a, b⟩ := hi.2.2.2.1
  obtain ⟨k1, k2, k3, k4⟩ := kept_skR (real := real) (w 154).toInt.toNat 0 w hb hi hq (by omega) (by omega)
  have m0 := hb.1
  have e0 : (minW real w 0).toInt = (w 0).toInt + 1 := by
    unfold minW thaW
    rw [upd_at, k4, ti_add (by simp only [Int32.reduceToInt]; unfold rng at m0; omega) (by simp only [Int32.reduceToInt]; omega)]
    rfl
  have e2 : minW real w 2 = skR real (w 154).toInt.toNat 0 w 2 := thaW_ne (by omega) (by omega)
  refine ⟨⟨?_, fun i hi => ?_⟩, by rw [e2]; exact k2, by rw [e2]; exact k3, e0⟩
  · unfold rng at m0 ⊢
    omega
  · rw [e2] at hi
    have ej : ∀ j, 566 ≤ j → minW real w j = skR real (w 154).toInt.toNat 0 w j := fun j hj => thaW_ne (by omega) (by omega)
    rw [ej (566 + 5 * i) (by omega), ej (567 + 5 * i) (by omega), ej (568 + 5 * i) (by omega), ej (569 + 5 * i) (by omega), ej (570 + 5 * i) (by omega)]
    exact k1.2 i hi
/-! what is kept for undo -/
def keepBk (n : Nat) (bk w : Nat → Int32) : Nat → Int32 := fun j =>
  if n = 6 then (if 750 ≤ j ∧ j < 900 then w (j - 750) else if j < 750 then bk (j + 150) else bk j) else (if 150 * n ≤ j ∧ j < 150 * n + 150 then w (j - 150 * n) else bk j)
def keepN (n : Nat) : Nat := if n = 6 then 6 else n + 1
def keepM (M : zM) : zM := fun o => if o = 3 then keepBk (M 0 4).toInt.toNat (M 3) (M 1) else if o = 0 then upd (M 0) 4 (iv (keepN (M 0 4).toInt.toNat : Nat)) else M o
def oneM (M : zM) : zM := fun o => if o = 1 then minW true (M 1) else keepM M o
def minsM : Nat → zM → zM
  | 0, M => M
  | n + 1, M => minsM n (oneM M)
def minsF : Nat → Int32 → zM → Int32
  | 0, l, _ => l
  | n + 1, l, M => minsF n (l + minN true (M 1)) (oneM M)
def minsOK (w : Nat → Int32) (n : Int32) : Bool := decide (1 ≤ n.toInt ∧ n.toInt ≤ 60 ∧ (w 0).toInt + n.toInt ≤ 9999)
def minutesV (M : zM) (n : Int32) : Int32 := if minsOK (M 1) n = true then minsF n.toInt.toNat 0 M else -1
def minutesM (M : zM) (n : Int32) : zM := if minsOK (M 1) n = true then minsM n.toInt.toNat M else M
def undoM (M : zM) : zM := if M 0 4 = 0 then M else (fun o => if o = 1 then bkW (M 3) (M 1) ((M 0 4).toInt.toNat - 1) else if o = 0 then upd (M 0) 4 (M 0 4 - 1) else M o)
def undoB (M : zM) : Bool := decide (M 0 4 ≠ 0)
section KE9
variable {g : zG} {d : Nat} {M : zM}
theorem c9_keeps {Q : zM → Prop} (hn : rng (M 0 4) 0 6) (h : Q (keepM M)) : zCv shM g d mX9_keeps [.ref 0] M Q := by
  obtain ⟨n, en, hn6, en2⟩ := rng_nat (b := 6) hn
  unfold keepM at h
  rw [en2, show ((n : Int)).toNat = n by omega] at h
  -- the second loop: the row goes behind m others
  have l52 : ∀ (m : Nat) (B : Nat → Int32), m < 6 → ∀ (f k : Nat) (M1 : zM), k + f = 150 → (∀ o, o ≠ 0 → o ≠ 3 → M1 o = M o) → M1 0 = upd (M 0) 4 (iv m) → (∀ j, M1 3 j = if 150 * m ≤ j ∧ j < 150 * m + k then M 1 (j - 150 * m) else B j) →
      (∀ M2 : zM, (∀ o, o ≠ 0 → o ≠ 3 → M2 o = M o) → M2 0 = upd (M 0) 4 (iv (m + 1 : Nat)) → (∀ j, M2 3 j = if 150 * m ≤ j ∧ j < 150 * m + 150 then M 1 (j - 150 * m) else B j) → Q M2) → zW shM g d mX9_keeps (zv Q) 52 [(0, .ref 0), (1, .int (iv k))] [] M1 := by
    intro m B hm f
    induction f with
    | zero =>
      intro k M1 hk ho h0 h3 hQ
      have ek : k = 150 := by omega
      subst ek
      refine vX9_keeps_52 ⟨fun _ => ?_, fun z => absurd (by decide) z⟩
      refine hQ _ (fun o a b => (zup_oth a).trans (ho o a b)) ?_ (fun j => ?_)
      · rw [zup_row, h0, upd_at, iv_s]
        funext j
        simp only [upd]
        split
        · rfl
        · rfl
      · rw [zup_oth (by decide)]
        exact h3 j
    | succ f ih =>
      intro k M1 hk ho h0 h3 hQ
      refine vX9_keeps_52 ⟨fun z => ?_, fun _ => ⟨k, rfl, by omega, 150 * m + k, ?_, by omega, ?_⟩⟩
      · exfalso
        rw [Int32.le_iff_toInt_le, iv_toInt (by omega) (by omega)] at z
        simp only [Int32.reduceToInt] at z
        omega
      · rw [h0, upd_at, show (150 : Int32) = iv 150 from rfl, iv_mul, iv_add]
        congr 1
      · rw [iv_s]
        refine ih (k + 1) _ (by omega) (fun o a b => (zup_oth b).trans (ho o a b)) (by rw [zup_oth (by decide)]; exact h0) (fun j => ?_) hQ
        rw [zup_row, ho 1 (by decide) (by decide)]
        by_cases e : j = 150 * m + k
        · rw [e, upd_at, if_pos (by omega), show 150 * m + k - 150 * m = k by omega]
        · rw [upd_ne e, h3 j]
          by_cases e2 : 150 * m ≤ j ∧ j < 150 * m + k
          · rw [if_pos e2, if_pos (by omega)]
          · rw [if_neg e2, if_neg (by omega)]
  refine vX9_keeps ⟨fun c => ?_, fun c => ?_⟩
  · have c6 : n ≠ 6 := fun z => c (by rw [en, z]; rfl)
    refine l52 n (M 3) (by omega) 150 0 M (by omega) (fun _ _ _ => rfl) (upd_self en).symm (fun j => by rw [if_neg (by omega)]) (fun M2 o2 z2 b2 => ?_)
    have e : M2 = fun o => if o = 3 then keepBk n (M 3) (M 1) else if o = 0 then upd (M 0) 4 (iv (keepN n : Nat)) else M o := by
      funext o
      by_cases o3 : o = 3
      · rw [if_pos o3, o3]
        funext j
        rw [b2 j]
        unfold keepBk
        rw [if_neg c6]
      · rw [if_neg o3]
        by_cases o0 : o = 0
        · rw [if_pos o0, o0, z2]
          unfold keepN
          rw [if_neg c6]
        · rw [if_neg o0, o2 o o0 o3]
    rw [e]
    exact h
  · have c6 : n = 6 := by
      rw [en, show (6 : Int32) = iv 6 from rfl, iv_inj (by omega) (by omega)] at c
      omega
    subst c6
    have l11 : ∀ (f k : Nat) (M1 : zM), k + f = 750 → (∀ o, o ≠ 3 → M1 o = M o) → (∀ j, M1 3 j = if j < k then M 3 (j + 150) else M 3 j) → zW shM g d mX9_keeps (zv Q) 11 [(0, .ref 0), (1, .int (iv k))] [] M1 := by
      intro f
      induction f with
      | zero =>
        intro k M1 hk ho h3
        have ek : k = 750 := by omega
        subst ek
        refine vX9_keeps_11 ⟨fun _ => ?_, fun z => absurd (by decide) z⟩
        refine l52 5 (M1 3) (by omega) 150 0 _ (by omega) (fun o a b => (zup_oth a).trans (ho o b)) ?_ (fun j => by rw [if_neg (by omega), zup_oth (by decide)]) (fun M2 o2 z2 b2 => ?_)
        · rw [zup_row, ho 0 (by decide), en]
          rfl
        · have e : M2 = fun o => if o = 3 then keepBk 6 (M 3) (M 1) else if o = 0 then upd (M 0) 4 (iv (keepN 6 : Nat)) else M o := by
            funext o
            by_cases o3 : o = 3
            · rw [if_pos o3, o3]
              funext j
              rw [b2 j]
              unfold keepBk
              rw [if_pos rfl]
              by_cases c1 : 750 ≤ j ∧ j < 900
              · rw [if_pos c1, if_pos (by omega)]
              · rw [if_neg c1, if_neg (by omega), h3 j]
            · rw [if_neg o3]
              by_cases o0 : o = 0
              · rw [if_pos o0, o0, z2]
                rfl
              · rw [if_neg o0, o2 o o0 o3]
          rw [e]
          exact h
      | succ f ih =>
        intro k M1 hk ho h3
        refine vX9_keeps_11 ⟨fun z => ?_, fun _ => ⟨k + 150, ?_, by omega, k, rfl, by omega, ?_⟩⟩
        · exfalso
          rw [Int32.le_iff_toInt_le, iv_toInt (by omega) (by omega)] at z
          simp only [Int32.reduceToInt] at z
          omega
        · rw [show (150 : Int32) = iv 150 from rfl, iv_add]
          congr 1
        · rw [iv_s]
          refine ih (k + 1) _ (by omega) (fun o a => (zup_oth a).trans (ho o a)) (fun j => ?_)
          rw [zup_row]
          by_cases e : j = k
          · rw [e, upd_at, h3, if_neg (by omega), if_pos (by omega)]
          · rw [upd_ne e, h3 j]
            by_cases e2 : j < k
            · rw [if_pos e2, if_pos (by omega)]
            · rw [if_neg e2, if_neg (by omega)]
    exact l11 750 0 M (by omega) (fun _ _ => rfl) (fun j => by rw [if_neg (by omega)])
theorem keepN_le {n : Nat} (h : n ≤ 6) : keepN n ≤ 6 := by
  unfold keepN
  split
  · omega
  · omega
theorem oneM_4 {M : zM} (hn : rng (M 0 4) 0 6) : rng (oneM M 0 4) 0 6 := by
  obtain ⟨n, en, hn6, en2⟩ := rng_nat (b := 6) hn
  show rng (upd (M 0) 4 (iv (keepN (M 0 4).toInt.toNat : Nat)) 4) 0 6
  have := keepN_le (n := n) (by omega)
  rw [upd_at, en2, show ((n : Int)).toNat = n by omega]
  unfold rng
  rw [iv_toInt (by omega) (by omega)]
  omega
theorem MEq.kp {X M : zM} (h : MEq X M) : MEq (keepM X) (keepM M) := by
  obtain ⟨a1, a2, a3, a4, a5, a6, a7, a8, a9⟩ := h
  refine ⟨a1, a2, ?_, a4, ?_, ?_, ?_, ?_, ?_⟩
  · show keepBk _ _ _ = keepBk _ _ _
    rw [a1, a3, a5]
  · show iv (keepN (M 0 4).toInt.toNat : Nat) = iv (keepN (X 0 4).toInt.toNat : Nat)
    rw [a5]
  · exact a6
  · exact a7
  · exact a8
  · exact a9
theorem c9_minutes {Q : Int32 → zM → Prop} {n : Int32} (hi : IS (M 1)) (hq : IMo (M 1)) (hb : IBk (M 1)) (h4 : rng (M 0 4) 0 6) (h : ∀ M' : zM, MEq (minutesM M n) M' → Q (minutesV M n) M') : zCi shM g (d + 8) mX9_minutes [.ref 0, .int n] M Q := by
  have loop : ∀ (N : Nat), N ≤ 60 → ∀ (f k : Nat) (l : Int32) (X M1 : zM), k + f = N → IS (X 1) → IMo (X 1) → rng (X 0 4) 0 6 → MEq X M1 → (∀ M' : zM, MEq (minsM f X) M' → Q (minsF f l X) M') → zW shM g (d + 8) mX9_minutes (zi Q) 30 [(0, .ref 0), (1, .int (iv N)), (2, .int l), (3, .int (iv k))] [] M1 := by
    intro N hN f
    induction f with
    | zero =>
      intro k l X M1 hk hi hq h4 hX h
      refine vX9_minutes_30 ⟨fun _ => h M1 hX, fun z => ?_⟩
      exfalso
      rw [Int32.le_iff_toInt_le, iv_toInt (by omega) (by omega), iv_toInt (by omega) (by omega)] at z
      omega
    | succ f ih =>
      intro k l X M1 hk hi hq h4 hX h
      have e1 : M1 1 = X 1 := hX.1
      have k1 : (keepM M1) 1 = X 1 := e1
      refine vX9_minutes_30 ⟨fun z => ?_, fun _ => c9_keeps (by rw [hX.2.2.2.2.1]; exact h4) (c9_aMinute (by rw [k1]; exact hi) (by rw [k1]; exact hq) (fun M2 h2 hr2 => ?_))⟩
      · exfalso
        rw [Int32.le_iff_toInt_le, iv_toInt (by omega) (by omega), iv_toInt (by omega) (by omega)] at z
        omega
      · rw [k1, iv_s]
        rw [k1] at hr2
        obtain ⟨m1, m2⟩ := minW_keep (real := true) hi hq
        have hk2 := hX.kp
        refine ih (k + 1) _ (oneM X) M2 (by omega) ?_ ?_ (oneM_4 h4) ?_ (fun M' hM' => h M' hM')
        · exact hi.row2 m2
        · exact m1
        · have h20 : M2 0 = keepM M1 0 := h2 0 (by decide) (by decide) (by decide) (by decide)
          obtain ⟨a1, a2, a3, a4, a5, a6, a7, a8, a9⟩ := hk2
          refine ⟨hr2, (h2 2 (by decide) (by decide) (by decide) (by decide)).trans a2, (h2 3 (by decide) (by decide) (by decide) (by decide)).trans a3, (h2 12 (by decide) (by decide) (by decide) (by decide)).trans a4, ?_, ?_, ?_, ?_, ?_⟩
          · rw [h20]; exact a5
          · rw [h20]; exact a6
          · rw [h20]; exact a7
          · rw [h20]; exact a8
          · rw [h20]; exact a9
  obtain ⟨b0, b1⟩ := hb.1
  unfold minutesV minutesM at h
  refine vX9_minutes (c9_isIn ⟨fun c => ?_, fun c => ⟨fun c2 => ?_, fun c2 => ?_⟩⟩)
  · simp only [isInB, decide_eq_true_eq, decide_eq_false_iff_not, Int32.reduceToInt] at c
    have e : minsOK (M 1) n = false := decide_eq_false fun z => c ⟨z.1, z.2.1⟩
    rw [e, if_neg (by decide), if_neg (by decide)] at h
    exact h M MEq.rfl
  · simp only [isInB, decide_eq_true_eq, decide_eq_false_iff_not, Int32.reduceToInt] at c
    rw [Int32.le_iff_toInt_le, ti_add (by omega) (by omega)] at c2
    simp only [Int32.reduceToInt] at c2
    have e : minsOK (M 1) n = true := decide_eq_true ⟨c.1, c.2, c2⟩
    rw [e, if_pos rfl, if_pos rfl] at h
    obtain ⟨N, rfl, hN, hN2⟩ := iv_nat (x := n) (n := 61) (by omega) (by omega)
    rw [iv_tn (by omega)] at h
    exact loop N (by omega) N 0 0 M M (by omega) hi hq h4 MEq.rfl h
  · simp only [isInB, decide_eq_true_eq, decide_eq_false_iff_not, Int32.reduceToInt] at c
    rw [Int32.le_iff_toInt_le, ti_add (by omega) (by omega)] at c2
    simp only [Int32.reduceToInt] at c2
    have e : minsOK (M 1) n = false := decide_eq_false fun z => c2 z.2.2
    rw [e, if_neg (by decide), if_neg (by decide)] at h
    exact h M MEq.rfl
theorem c9_undo {Q : Bool → zM → Prop} (hn : rng (M 0 4) 0 6) (h : Q (undoB M) (undoM M)) : zCz shM g d mX9_undo [.ref 0] M Q := by
  obtain ⟨n, en, hn6, en2⟩ := rng_nat (b := 6) hn
  unfold undoB undoM at h
  refine vX9_undo ⟨fun c => ?_, fun c => ?_⟩
  · rw [if_neg c, decide_eq_true c, en2, show ((n : Int)).toNat = n by omega] at h
    have n0 : n ≠ 0 := fun z => c (by rw [en, z]; rfl)
    have e5 : M 0 4 - 1 = iv (n - 1 : Nat) := by
      rw [en, show (1 : Int32) = iv 1 from rfl, iv_sub]
      congr 1
      omega
    rw [e5] at h ⊢
    have loop : ∀ (f k : Nat) (M1 : zM), k + f = 150 → (∀ o, o ≠ 1 → M1 o = (zup M 0 4 (iv (n - 1 : Nat))) o) → (∀ j, M1 1 j = if j < k then M 3 (150 * (n - 1) + j) else M 1 j) → zW shM g d mX9_undo (zz Q) 21 [(0, .ref 0), (1, .int (iv k))] [] M1 := by
      intro f
      induction f with
      | zero =>
        intro k M1 hk ho h1
        have ek : k = 150 := by omega
        subst ek
        refine vX9_undo_21 ⟨fun _ => ?_, fun z => absurd (by decide) z⟩
        have e : M1 = fun o => if o = 1 then bkW (M 3) (M 1) (n - 1) else if o = 0 then upd (M 0) 4 (iv (n - 1 : Nat)) else M o := by
          funext o
          by_cases o1 : o = 1
          · rw [if_pos o1, o1]
            funext j
            exact h1 j
          · rw [if_neg o1, ho o o1]
            by_cases o0 : o = 0
            · rw [if_pos o0, o0, zup_row]
            · rw [if_neg o0, zup_oth o0]
        rw [e]
        exact h
      | succ f ih =>
        intro k M1 hk ho h1
        refine vX9_undo_21 ⟨fun z => ?_, fun _ => ⟨150 * (n - 1) + k, ?_, by omega, k, rfl, by omega, ?_⟩⟩
        · exfalso
          rw [Int32.le_iff_toInt_le, iv_toInt (by omega) (by omega)] at z
          simp only [Int32.reduceToInt] at z
          omega
        · rw [ho 0 (by decide), zup_same, show (150 : Int32) = iv 150 from rfl, iv_mul, iv_add]
          congr 1
        · rw [iv_s]
          refine ih (k + 1) _ (by omega) (fun o a => (zup_oth a).trans (ho o a)) (fun j => ?_)
          rw [zup_row]
          by_cases e : j = k
          · rw [e, upd_at, if_pos (by omega), ho 3 (by decide), zup_oth (by decide)]
          · rw [upd_ne e, h1 j]
            by_cases e2 : j < k
            · rw [if_pos e2, if_pos (by omega)]
            · rw [if_neg e2, if_neg (by omega)]
    exact loop 150 0 _ (by omega) (fun _ _ => rfl) (fun j => by rw [if_neg (by omega), zup_oth (by decide)])
  · rw [if_pos c, decide_eq_false (fun z => z c)] at h
    exact h
end KE9
