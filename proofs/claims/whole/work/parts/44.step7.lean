/-! A STEP of the class -/
theorem deepW_comm {real : Bool} {w : Nat → Int32} {s k j : Nat} {b f x : Int32} (h3 : 3 ≤ j) (h21 : j < 21) : deepW real (upd w j x) s k b f = upd (deepW real w s k b f) j x := by
  have e2 : upd w j x 2 = w 2 := upd_ne (by omega)
  have e0 : upd w j x 0 = w 0 := upd_ne (by omega)
  have ek : upd w j x (21 + k) = w (21 + k) := upd_ne (by omega)
  have em : moreV (upd w j x) k b = moreV w k b := by unfold moreV; rw [ek]
  unfold deepW
  rw [e2, e0, ek, em]
  funext i
  split
  · by_cases hi : i = j
    · subst hi
      rw [upd_at, upd_ne (by omega), upd_ne (by omega), upd_ne (by omega), upd_ne (by omega), upd_ne (by omega), upd_ne (by omega), upd_ne (by omega), upd_ne (by omega), upd_at]
    · simp only [upd, hi, if_false]
  · by_cases hi : i = j
    · subst hi
      rw [upd_at, upd_ne (by omega), upd_ne (by omega), upd_at]
    · simp only [upd, hi, if_false]
theorem upd_swap {f : Nat → Int32} {a b : Nat} {x y : Int32} (h : a ≠ b) : upd (upd f a x) b y = upd (upd f b y) a x := by
  funext i
  simp only [upd]
  by_cases h1 : i = b
  · subst h1
    rw [if_pos rfl, if_neg (Ne.symm h), if_pos rfl]
  · rw [if_neg h1, if_neg h1]
theorem upd_self {f : Nat → Int32} {a : Nat} {x : Int32} (h : f a = x) : upd f a x = f := by
  funext i
  simp only [upd]
  split
  · rename_i c
    rw [c, h]
  · rfl
section S7
variable {g : zG} {d : Nat} {C : zM} {w : Nat → Int32} {m : Nat}
theorem c6_marked {Q : Int32 → zM → Prop} {a b : Int32} (h : Q (iv (mkd a.toInt b.toInt)) C) : zCi shC g d mX6_marked [.int a, .int b] C Q := by
  unfold mkd at h
  refine vX6_marked ⟨fun c => ⟨fun c2 => ?_, fun c2 => ?_⟩, fun c => ?_⟩
  · rw [if_neg (fun z => c (by rw [eqI, z]; rfl)), if_neg (fun z => c2 (by rw [eqI, z]; rfl))] at h
    exact h
  · rw [if_neg (fun z => c (by rw [eqI, z]; rfl)), if_pos (by rw [c2]; rfl)] at h
    exact h
  · rw [if_pos (by rw [c]; rfl), ← iv_of] at h
    exact h
/-- what the class's steps say of step n of skater s -/
theorem ways_at (hi : IS w) (hq : IMo w) (hs : RS C 1 w) {s n : Nat} (h6 : s < 6) (hn : (w (9 + s)).toInt = n) (hg : (w (9 + s)).toInt < (w (166 + s)).toInt) :
    n < 60 ∧ (C 11 (60 * s + n)) - (C 11 (60 * s + n)) / 8 * 8 = iv (wayOf w s : Nat) ∧ iv (mkd ((C 11 (60 * s + n)) / 8).toInt (w (15 + s)).toInt) = iv ((stOf w s).toInt % 2) := by
  obtain ⟨q0, q60⟩ := hi.2.2.2.2.2.2.2.2.1 s h6
  obtain ⟨⟨t0, t9⟩, hway, hwI⟩ := st_rng hi hq h6 hg
  obtain ⟨a0, a1, a2, a3⟩ := hs.2.2.2.2.2.2.1.2.2.1 s n h6 (by omega)
  have ent : (w (9 + s)).toInt.toNat = n := by omega
  have est : stOf w s = w (178 + 60 * s + n) := by unfold stOf; rw [ent]
  rw [← est] at a2 a3
  have hd := hq.2.2.2.2.2.2.2 s h6 hg
  rw [ent] at hd
  have hx := tr32 (C 11 (60 * s + n))
  refine ⟨by omega, ?_, ?_⟩
  · rw [eqI, ti_rem a0 (by decide), iv_toInt (by omega) (by omega)]
    simp only [Int32.reduceToInt]
    omega
  · rw [hd, ti_div a0 (by decide)]
    simp only [Int32.reduceToInt]
    rw [← a3]
theorem c7_step {Q : zM → Prop} {s : Nat} {real : Bool} (hm : zMo shC m) (hi : IS w) (hq : IMo w) (hs : RS C 1 w) (hr : RMo C m w) (hbk : RBk C 9 w) (h6 : s < 6) (hsk : (s : Int) < (w 154).toInt) (hg : (w (9 + s)).toInt < (w (166 + s)).toInt)
    (h : ∀ C' : zM, (∀ o, (o < m ∨ m + 5 < o) → o ≠ 9 → o ≠ 21 → o ≠ 26 → C' o = C o) → RMo C' m (stepW real w s) → RBk C' 9 (stepW real w s) → Q C') : zCv shC g (d + 4) mX7_step [.ref 1, .ref m, .int (iv s), .int (zbI real)] C Q := by
  have hmm := zMo_at hm
  obtain ⟨⟨t0, t9⟩, hway, hwI⟩ := st_rng hi hq h6 hg
  obtain ⟨k, hk, hk64, hkI, hkc⟩ := place_rng hq h6
  obtain ⟨g0, gle⟩ := hq.2.2.1 s h6
  obtain ⟨n, hn, hn2, hn3⟩ := iv_nat (x := w (9 + s)) (n := 2147483647) g0 (by have := tr32 (w (166 + s)); omega)
  obtain ⟨hn60, wv, mv⟩ := ways_at hi hq hs h6 hn3 hg
  have hw : WHw w := hi.1
  obtain ⟨p1, p2, p3⟩ := hr.2.2.1 s h6 hsk
  have e60 : iv s * 60 + iv n = iv (60 * s + n : Nat) := by
    rw [show (60 : Int32) = iv 60 from rfl, iv_mul, iv_add]
    congr 1
    push_cast
    omega
  -- the end, at 109
  have fin : ∀ (C1 : zM) (v : Nat → Int32), (∀ o, (o < m ∨ m + 5 < o) → o ≠ 9 → o ≠ 21 → o ≠ 26 → C1 o = C o) → RMo C1 m v → RBk C1 9 v → v (9 + s) = w (9 + s) → v (15 + s) = iv ((stOf w s).toInt % 2) → (∀ j, 150 ≤ j → j < 566 ∨ 1316 ≤ j → v j = w j) → upd v (9 + s) (w (9 + s) + 1) = stepB real w s → zW shC g (d + 4) mX7_step (zv Q) 109 [(0, .ref 1), (1, .ref m), (2, .int (iv s))] [] C1 := by
    intro C1 v ho hrv hbv v9 v15 vhi hB
    have hskv : (s : Int) < (v 154).toInt := by rw [vhi 154 (by omega) (by omega)]; exact hsk
    obtain ⟨r1, r2, r3⟩ := hrv.2.2.1 s h6 hskv
    have hr9 := hrv.setSk (p := 4) (r := 9) (s := s) (x := w (9 + s) + 1) (by omega) h6
    rw [hB] at hr9
    have hb9 : RBk (zup C1 (m + 4) s (w (9 + s) + 1)) 9 (stepB real w s) := by
      rw [← hB]
      refine RBk.row (w := v) (by rw [upd_ne (by omega)]) (fun j hj => by rw [upd_ne (by omega)]) ?_
      intro i hi
      rw [zup_oth (by omega)]
      exact hbv i hi
    have e12 : (zup C1 (m + 4) s (w (9 + s) + 1)) 12 s = w (166 + s) := by
      rw [zup_oth (by omega), ho 12 (by omega) (by omega) (by omega) (by omega)]
      exact hs.2.2.2.2.2.2.1.2.1 s h6
    refine vX7_step_109 hm ⟨s, rfl, h6, ?_⟩
    rw [r2, v9, zup_same, e12]
    refine ⟨fun c => ?_, fun c => vX6_downBehind ⟨s, rfl, h6, ?_⟩⟩
    · refine h _ (fun o o1 o2 o3 o4 => by rw [zup_oth (by omega)]; exact ho o o1 o2 o3 o4) ?_ ?_
      · rw [stepW, if_neg c]; exact hr9
      · rw [stepW, if_neg c]; exact hb9
    · have e13 : (zup C1 (m + 4) s (w (9 + s) + 1)) 13 s = C 13 s := by
        rw [zup_oth (by omega), ho 13 (by omega) (by omega) (by omega) (by omega)]
      have e5 : (zup C1 (m + 4) s (w (9 + s) + 1)) (m + 5) s = iv ((stOf w s).toInt % 2) := by
        rw [zup_oth (by omega), r3, v15]
      rw [e13, e5]
      obtain ⟨a0, a2, a3⟩ := hs.2.2.2.2.2.2.1.2.2.2 s h6 (by omega)
      have hcnt : (w (166 + s)).toInt = n + 1 := by
        rw [eqI, ti_add (by rw [hn3]; simp only [Int32.reduceToInt]; omega) (by rw [hn3]; simp only [Int32.reduceToInt]; omega), hn3] at c
        simp only [Int32.reduceToInt] at c
        omega
      have esk : skt w s (w (166 + s)).toInt.toNat = (stOf w s).toInt % 2 := by
        unfold skt stOf
        rw [if_neg (by omega)]
        have e1 : (w (166 + s)).toInt.toNat - 1 = (w (9 + s)).toInt.toNat := by omega
        rw [e1]
      rw [esk] at a3
      refine c6_marked ?_
      have e15 : iv (mkd (C 13 s).toInt (iv ((stOf w s).toInt % 2)).toInt) = w (172 + s) := by
        rw [iv_toInt (by omega) (by omega)]
        have a3' : (w (172 + s)).toInt = mkd (C 13 s).toInt ((stOf w s).toInt % 2) := a3
        rw [← a3', ← iv_of]
      rw [e15]
      refine h _ (fun o o1 o2 o3 o4 => by rw [zup_oth (by omega), zup_oth (by omega)]; exact ho o o1 o2 o3 o4) ?_ ?_
      · rw [stepW, if_pos c]
        exact hr9.setSk (p := 5) (r := 15) (by omega) h6
      · rw [stepW, if_pos c]
        refine RBk.row (w := stepB real w s) (by rw [upd_ne (by omega)]) (fun j hj => by rw [upd_ne (by omega)]) ?_
        intro i hi
        rw [zup_oth (by omega)]
        exact hb9 i hi
  refine vX7_step hm ⟨s, rfl, h6, ?_⟩
  rw [p2, p3, hn]
  refine vX6_downAt ⟨60 * s + n, e60, by omega, c6_marked ?_⟩
  rw [mv]
  -- C1: his skate
  have hr1 := hr.setSk (p := 5) (r := 15) (s := s) (x := iv ((stOf w s).toInt % 2)) (by omega) h6
  generalize hC1 : zup C (m + 5) s (iv ((stOf w s).toInt % 2)) = C1 at hr1
  have ho1 : ∀ o, o ≠ m + 5 → C1 o = C o := fun o ho => by rw [← hC1, zup_oth ho]
  refine vX6_wayOf ⟨60 * s + n, e60, by omega, ?_⟩
  rw [ho1 11 (by omega), wv, ho1 (m + 3) (by omega), p1, hk]
  have hs1 : RS C1 1 w := hs.keep fun o a b c => ho1 o (by omega)
  refine c7_cellBehind hi hs1 hk64 hway ?_
  -- C2: his place
  have eto : (if wayOf w s = 4 then k else goV w k (wayOf w s)) = (if wayOf w s = 4 then k else toOf w s) := by
    unfold toOf
    rw [hkI]
    rfl
  rw [eto]
  generalize hk2 : (if wayOf w s = 4 then k else toOf w s) = k2
  have hk2c : k2 < 64 ∧ cellB (w 150) (w 151) (iv k2) = true := by
    rw [← hk2]
    split
    · exact ⟨hk64, hkc⟩
    · have := goV_cell hw hkc hk64 (i := wayOf w s)
      unfold toOf
      rw [hkI]
      exact this
  obtain ⟨hk264, hk2cell⟩ := hk2c
  have hr2 := hr1.setSk (p := 3) (r := 3) (s := s) (x := iv k2) (by omega) h6
  generalize hC2 : zup C1 (m + 3) s (iv k2) = C2 at hr2
  have ho2 : ∀ o, o ≠ m + 5 → o ≠ m + 3 → C2 o = C o := fun o h1 h2 => by rw [← hC2, zup_oth h2]; exact ho1 o h1
  have hoo : ∀ o, (o < m ∨ m + 5 < o) → C2 o = C o := fun o h1 => ho2 o (by omega) (by omega)
  refine vX6_wayOf ⟨60 * s + n, e60, by omega, ?_⟩
  rw [hoo 11 (by omega), wv]
  -- the row behind the place
  have vhi : ∀ j, 21 ≤ j → upd (upd w (15 + s) (iv ((stOf w s).toInt % 2))) (3 + s) (iv k2) j = w j := fun j hj => by rw [upd_ne (by omega), upd_ne (by omega)]
  have v0 : upd (upd w (15 + s) (iv ((stOf w s).toInt % 2))) (3 + s) (iv k2) 0 = w 0 := by rw [upd_ne (by omega), upd_ne (by omega)]
  have v2 : upd (upd w (15 + s) (iv ((stOf w s).toInt % 2))) (3 + s) (iv k2) 2 = w 2 := by rw [upd_ne (by omega), upd_ne (by omega)]
  have v9 : upd (upd w (15 + s) (iv ((stOf w s).toInt % 2))) (3 + s) (iv k2) (9 + s) = w (9 + s) := by rw [upd_ne (by omega), upd_ne (by omega)]
  have v15 : upd (upd w (15 + s) (iv ((stOf w s).toInt % 2))) (3 + s) (iv k2) (15 + s) = iv ((stOf w s).toInt % 2) := by rw [upd_ne (by omega), upd_at]
  have v3 : upd (upd w (15 + s) (iv ((stOf w s).toInt % 2))) (3 + s) (iv k2) (3 + s) = iv k2 := by rw [upd_at]
  have vA : upd (upd (upd w (15 + s) (iv ((stOf w s).toInt % 2))) (3 + s) (iv k2)) (9 + s) (w (9 + s) + 1) = upd (stepA w s) (3 + s) (iv k2) := by
    rw [stepA, upd_swap (show 3 + s ≠ 9 + s by omega)]
  generalize upd (upd w (15 + s) (iv ((stOf w s).toInt % 2))) (3 + s) (iv k2) = v at hr2 vhi v0 v2 v9 v15 v3 vA
  have hbk2 : RBk C2 9 v := by
    refine RBk.row (w := w) v2 (fun j hj => vhi j (by omega)) ?_
    intro i hi
    rw [hoo 9 (by omega)]
    exact hbk i hi
  have hs2 : RS C2 1 w := hs.keep fun o a b c => hoo o (by omega)
  have hs2v : RS C2 1 v := hs2.row fun j hj => vhi j (by omega)
  have hiv : IS v := hi.row fun j hj => vhi j (by omega)
  have hal : alikeW w v := ⟨v0, vhi⟩
  have hskv : (s : Int) < (v 154).toInt := by rw [vhi 154 (by omega)]; exact hsk
  have d3 : C2 (m + 3) s = iv k2 := by rw [(hr2.2.2.1 s h6 hskv).1, v3]
  have d5 : C2 (m + 5) s = iv ((stOf w s).toInt % 2) := by rw [(hr2.2.2.1 s h6 hskv).2.2, v15]
  have c4i : iv (wayOf w s : Nat) = 4 ↔ wayOf w s = 4 := by
    rw [show (4 : Int32) = iv 4 from rfl, iv_inj (by omega) (by omega)]
    omega
  refine ⟨fun c => ?_, fun c => ?_⟩
  · have c4 := c4i.mp c
    rw [if_pos c4] at hk2
    refine fin C2 v (fun o o1 _ _ _ => hoo o o1) hr2 hbk2 v9 v15 (fun j hj _ => vhi j (by omega)) ?_
    rw [vA, stepB, if_pos c4, ← hk2]
    refine upd_self ?_
    rw [stepA, upd_ne (by omega), upd_ne (by omega), hk]
  · have c4 : ¬ wayOf w s = 4 := fun z => c (c4i.mpr z)
    rw [if_neg c4] at hk2
    rw [d5, d3]
    refine ⟨fun c2 => ?_, fun c2 => ?_⟩
    · have c2' : ¬ (stOf w s).toInt % 2 = 1 := by
        intro z
        rw [z] at c2
        exact c2 rfl
      refine fin C2 v (fun o o1 _ _ _ => hoo o o1) hr2 hbk2 v9 v15 (fun j hj _ => vhi j (by omega)) ?_
      rw [vA, stepB, if_neg c4, if_neg (fun z => c2' z.1), hk2]
    · have c2' : (stOf w s).toInt % 2 = 1 := by
        rw [show (1 : Int32) = iv 1 from rfl, iv_inj (by omega) (by omega)] at c2
        exact c2
      refine c7_cutOf hm hiv hs2v hr2 hk264 h6 hskv (fun C3 h3 => ?_)
      rw [cutV_al hal]
      obtain ⟨u0, u9⟩ := cutV_rng w s k2
      have hr3 : RMo C3 m v := hr2.keep fun o a b => h3 o (by omega) (by omega)
      have hb3 : RBk C3 9 v := fun i hi => by rw [h3 9 (by omega) (by omega)]; exact hbk2 i hi
      have ho3 : ∀ o, (o < m ∨ m + 5 < o) → o ≠ 9 → o ≠ 21 → o ≠ 26 → C3 o = C o := fun o o1 o2 o3 o4 => (h3 o o3 o4).trans (hoo o o1)
      refine ⟨fun c3 => ?_, fun c3 => ?_⟩
      · rw [Int32.le_iff_toInt_le] at c3
        simp only [Int32.reduceToInt] at c3
        refine fin C3 v ho3 hr3 hb3 v9 v15 (fun j hj _ => vhi j (by omega)) ?_
        rw [vA, stepB, if_neg c4, if_neg (fun z => by rw [hk2] at z; omega), hk2]
      · rw [Int32.le_iff_toInt_le] at c3
        simp only [Int32.reduceToInt] at c3
        have hn2v : rng (v 2) 0 150 := by rw [v2]; exact hq.1
        refine c7_deepen hm hr3 hb3 hn2v h6 hk264 (by rw [h3 (m + 3) (by omega) (by omega)]; exact d3) (by rw [vhi (21 + k2) (by omega)]; exact hq.2.2.2.2.1 k2 hk264) ⟨u0, u9⟩ (fun C4 h4 hr4 hb4 => ?_)
        have dv : ∀ j, 3 ≤ j → j < 21 → deepW real v s k2 (cutV w s k2) 0 j = v j := fun j a b => by
          unfold deepW
          split
          · rw [upd_ne (by omega), upd_ne (by omega), upd_ne (by omega), upd_ne (by omega), upd_ne (by omega), upd_ne (by omega), upd_ne (by omega), upd_ne (by omega)]
          · rw [upd_ne (by omega), upd_ne (by omega)]
        refine fin C4 _ (fun o o1 o2 o3 o4 => (h4 o (by omega) (by omega) (by omega) o2).trans (ho3 o o1 o2 o3 o4)) hr4 hb4 (by rw [dv _ (by omega) (by omega)]; exact v9) (by rw [dv _ (by omega) (by omega)]; exact v15) (fun j hj hj2 => by rw [deepW_hi hk264 hn2v hj hj2]; exact vhi j (by omega)) ?_
        rw [← deepW_comm (by omega) (by omega), vA, stepB, if_neg c4, if_pos ⟨c2', by rw [hk2]; omega⟩, hk2]
end S7
