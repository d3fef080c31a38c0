/-! METHODS that change the state, of the class -/
theorem freshW_hi {a b c : Int32} {j : Nat} (h : 153 ≤ j) : freshW a b c j = 0 := by
  unfold freshW
  rw [if_neg (by omega), if_neg (by omega), if_neg (by omega), if_neg (by omega), if_neg (by omega)]
theorem freshW_lo {a b c : Int32} {j : Nat} (h : j ≠ 1) (h2 : j < 85 ∨ j = 149) : freshW a b c j = 0 := by
  unfold freshW
  rw [if_neg (by omega), if_neg (by omega), if_neg (by omega), if_neg (by omega), if_neg (by omega)]
theorem rng0 {a b : Int} (h1 : a ≤ 0) (h2 : 0 ≤ b) : rng 0 a b := by
  have z0 : (0 : Int32).toInt = 0 := rfl
  unfold rng
  rw [z0]
  exact ⟨h1, h2⟩
section CH8
variable {g : zG} {d : Nat} {M C : zM}
theorem c8_forget {Q : zM → Prop} (h : Q (zup C 0 5 0)) : zCv shC g d mX8_forgetPast [.ref 0] C Q := vX8_forgetPast h
/-- a call that changes M 1 and the class's world, and forgets -/
theorem RR.chg {C C' M : zM} {w : Nat → Int32} (h : RR C M) (hw : RWo C' 1 w) (hb : ∀ j, 2200 ≤ j → w j = 0) (hC : ∀ o, 26 ≤ o ∨ o = 0 → C' o = C o) {M' : zM} (hM1 : M' 1 = w) (hM0 : M' 0 = upd (M 0) 4 0) (hM : ∀ o, o ≠ 0 → o ≠ 1 → M' o = M o) : RR (zup C' 0 5 0) M' := by
  have ew : RWo (zup C' 0 5 0) 1 (M' 1) := by
    rw [hM1]
    exact hw.keep fun o a b c => zup_oth (by omega)
  refine h.change ew (by rw [hM1]; exact hb) (fun o a b => (zup_oth (by omega)).trans (hC o (by omega))) ?_ ?_ (hM 2 (by decide) (by decide)) (hM 12 (by decide) (by decide)) ?_ ?_ ?_ ?_ ?_
  · rw [zup_ne (by omega), hC 0 (by omega)]
  · rw [zup_same]
  · rw [hM0, upd_at]
  · rw [hM0, upd_ne (by omega)]
  · rw [hM0, upd_ne (by omega)]
  · rw [hM0, upd_ne (by omega)]
  · rw [hM0, upd_ne (by omega)]
theorem c8_state {Q : Int32 → zM → Prop} {v : Int32} (hR : RR C M) (h : ∀ C' : zM, RR C' (zup (zup M 1 1 v) 0 4 0) → Q (M 1 1) C') : zCi shC g (d + 1) mX8_state [.ref 0, .int v] C Q := by
  have hn := hR.mo.1
  have e : C 3 6 = M 1 1 := hR.rm.2.2.2.2.1
  refine vX8_state (c8_forget ?_)
  rw [e]
  have hv : ∀ j, 2 ≤ j → upd (M 1) 1 v j = M 1 j := fun j hj => upd_ne (by omega)
  have hv' : ∀ j, j ≠ 1 → upd (M 1) 1 v j = M 1 j := fun j hj => upd_ne hj
  refine h _ (hR.chg (w := upd (M 1) 1 v) ⟨hR.is.row fun j hj => hv j (by omega), IMo.low hv hR.mo, hR.bk.row (hv' 0 (by omega)) (hv 2 (by omega)) (fun j a _ => hv j (by omega)) hn.2, hR.no.row fun j hj => hv j (by omega), ?_, ?_, ?_⟩ (fun j hj => by rw [hv j (by omega)]; exact hR.1.2 j hj) (fun o ho => zup_oth (by omega)) ?_ ?_ (fun o a b => by rw [zup_oth a, zup_oth b]))
  · exact (hR.rs.keepb fun o a b c e => zup_oth (by omega)).row fun j hj => hv j (by omega)
  · exact hR.rm.setN (p := 6) (r := 1) (by omega)
  · exact (hR.rb.keep (zup_oth (by omega))).row2 (hv 2 (by omega)) (fun j a _ => hv j (by omega)) hn.2
  · rw [zup_oth (by decide), zup_row]
  · rw [zup_row, zup_oth (by decide)]
theorem c8_tell {Q : Bool → zM → Prop} {what who v : Int32} (hR : RR C M) (h0 : setP (M 1) what who v = none → Q false C)
    (h1 : ∀ (C' : zM) (k : Nat), setP (M 1) what who v = some k → RWo C' 1 (upd (M 1) k v) → (∀ o, 26 ≤ o ∨ o = 0 → C' o = C o) → Q true C') : zCz shC g (d + 1) mX8_tell [.ref 0, .int what, .int who, .int v] C Q := by
  have hi := hR.is
  have hq := hR.mo
  have hn := hq.1
  have hS := hR.rs
  have hr := hR.rm
  have hB := hR.rb
  have z0 : (0 : Int32).toInt = 0 := rfl
  have z1 : (1 : Int32).toInt = 1 := rfl
  have z2 : (2 : Int32).toInt = 2 := rfl
  have z3 : (3 : Int32).toInt = 3 := rfl
  have z9 : (9 : Int32).toInt = 9 := rfl
  have z1000 : (1000 : Int32).toInt = 1000 := rfl
  -- sight and falls
  have big : ∀ k : Nat, k = 152 ∨ k = 153 → IS (upd (M 1) k v) → RWo (zup C 1 (k - 150) v) 1 (upd (M 1) k v) := by
    intro k hk hIS
    have hv : ∀ j, j ≠ k → upd (M 1) k v j = M 1 j := fun j hj => upd_ne hj
    refine ⟨hIS, hq.law hi (fun j hj => hv j (by omega)) (fun j a b => hv j (by omega)), hR.bk.row (hv 0 (by omega)) (hv 2 (by omega)) (fun j a _ => hv j (by omega)) hn.2, hR.no.row fun j hj => hv j (by omega), ?_, ?_, ?_⟩
    · obtain ⟨a0, a1, a2, a3, a4, a5, ⟨b1, b2, b3, b4⟩, ⟨c1, c2, c3⟩, e1, e2, e3, e4⟩ := hS
      have es : ∀ s i : Nat, skt (upd (M 1) k v) s i = skt (M 1) s i := fun s i => by
        unfold skt
        rw [hv _ (by omega)]
      refine ⟨?_, ?_, ?_, ?_, ?_, fun s hs hq => ?_, ⟨?_, fun s hs => ?_, fun s i hs hq => ?_, fun s hs hq => ?_⟩, ⟨?_, ⟨fun z i hi => ?_, fun z => ?_⟩, fun i hi => ?_⟩, ?_, ?_, fun i hi hq => ?_, fun i hi hq => ?_⟩
      · rw [zup_ne (by omega), hv _ (by omega)]; exact a0
      · rw [zup_ne (by omega), hv _ (by omega)]; exact a1
      · rcases hk with rfl | rfl
        · rw [zup_same, upd_at]
        · rw [zup_ne (by omega), hv _ (by omega)]; exact a2
      · rcases hk with rfl | rfl
        · rw [zup_ne (by omega), hv _ (by omega)]; exact a3
        · rw [zup_same, upd_at]
      · rw [zup_ne (by omega), hv _ (by omega)]; exact a4
      · rw [hv _ (by omega)] at hq
        rw [zup_oth (by omega), hv _ (by omega)]; exact a5 s hs hq
      · rw [zup_oth (by omega), hv _ (by omega)]; exact b1
      · rw [zup_oth (by omega), hv _ (by omega)]; exact b2 s hs
      · rw [hv _ (by omega)] at hq
        rw [zup_oth (by omega), hv _ (by omega), es]; exact b3 s i hs hq
      · rw [hv _ (by omega)] at hq
        rw [zup_oth (by omega), hv (172 + s) (by omega), hv (166 + s) (by omega), es]; exact b4 s hs hq
      · rw [zup_oth (by omega), hv _ (by omega)]; exact c1
      · rw [zup_oth (by omega)] at z
        rw [hv _ (by omega)] at hi ⊢
        exact c2.mp z i hi
      · rw [zup_oth (by omega)]
        refine c2.mpr fun i hi => ?_
        have := z i (by rw [hv _ (by omega)]; exact hi)
        rw [hv _ (by omega)] at this
        exact this
      · rw [hv _ (by omega)] at hi
        rw [zup_oth (by omega), zup_oth (by omega), zup_oth (by omega), zup_oth (by omega), zup_oth (by omega), hv (1364 + i) (by omega), hv (1316 + i) (by omega), hv (1332 + i) (by omega), hv (1348 + i) (by omega)]
        obtain ⟨q1, q2, q3, q4, q5⟩ := c3 i hi
        refine ⟨q1, q2, q3, q4, fun j a b => ?_⟩
        rw [hv (1380 + 2 * j) (by omega), hv (1381 + 2 * j) (by omega)]
        exact q5 j a b
      · rw [zup_oth (by omega), hv _ (by omega)]; exact e1
      · rw [zup_oth (by omega), hv _ (by omega)]; exact e2
      · rw [hv _ (by omega)] at hq
        rw [zup_oth (by omega), hv _ (by omega)]; exact e3 i hi hq
      · rw [hv _ (by omega)] at hq
        rw [zup_oth (by omega), zup_oth (by omega), hv (546 + 2 * i) (by omega), hv (547 + 2 * i) (by omega)]; exact e4 i hi hq
    · exact (hr.keep fun o a b => zup_oth (by omega)).row fun j hj => hv j (by omega)
    · exact (hB.keep (zup_oth (by omega))).row2 (hv 2 (by omega)) (fun j a _ => hv j (by omega)) hn.2
  have still : ∀ k : Nat, k = 152 ∨ k = 153 → rng (upd (M 1) k v 152) 1 9 → rng (upd (M 1) k v 153) 0 1000 → IS (upd (M 1) k v) := by
    intro k hk h152 h153
    have hv : ∀ j, j ≠ k → upd (M 1) k v j = M 1 j := fun j hj => upd_ne hj
    obtain ⟨⟨w1, w2, w3, w4⟩, h2, h3, h4, h5, h6, h7, h8, h9, h10, h11, h12, h13, h14⟩ := hi
    refine ⟨⟨by rw [hv 150 (by omega)]; exact w1, by rw [hv 150 (by omega)]; exact w2, by rw [hv 151 (by omega)]; exact w3, by rw [hv 151 (by omega)]; exact w4⟩, h152, h153, by rw [hv _ (by omega)]; exact h4, by rw [hv _ (by omega)]; exact h5, by rw [hv _ (by omega)]; exact h6, by rw [hv _ (by omega)]; exact h7, fun s hs => by rw [hv _ (by omega)]; exact h8 s hs, fun s hs => by rw [hv _ (by omega)]; exact h9 s hs, fun s hs => by rw [hv _ (by omega)]; exact h10 s hs, fun s hs hq => by rw [hv (166 + s / 60) (by omega)] at hq; rw [hv _ (by omega)]; exact h11 s hs hq, fun s hs => by rw [hv _ (by omega)]; exact h12 s hs, fun i hi hq => ?_, h14.row3 fun j hj => hv j (by omega)⟩
    rw [hv 158 (by omega)] at hq
    rw [hv 157 (by omega), hv 150 (by omega), hv 151 (by omega), hv (546 + 2 * i) (by omega), hv (547 + 2 * i) (by omega)]
    exact h13 i hi hq
  have l92 : (what.toInt = 0 → ¬ (1 ≤ v.toInt ∧ v.toInt ≤ 9)) → (what.toInt = 1 → ¬ (0 ≤ v.toInt ∧ v.toInt ≤ 1000)) → (what.toInt = 2 → ¬ (cellB (M 1 150) (M 1 151) who = true ∧ 0 ≤ v.toInt ∧ v.toInt ≤ 9)) → zW shC g (d + 1) mX8_tell (zz Q) 92 [(0, .ref 0), (1, .int what), (2, .int who), (3, .int v)] [] C := by
    intro n0 n1 n2
    have no : (what.toInt = 3 → ¬ (skB (M 1 154) who = true ∧ cellB (M 1 150) (M 1 151) v = true)) → Q false C := by
      intro n3
      refine h0 ?_
      unfold setP
      split
      · rw [if_neg (n0 (by assumption))]
      · split
        · rw [if_neg (n1 (by assumption))]
        · split
          · rw [if_neg (n2 (by assumption))]
          · split
            · rw [if_neg (n3 (by assumption))]
            · rfl
    refine vX8_tell_92 ⟨fun c => no fun z => absurd (by rw [eqI, z3]; exact z) c, fun c => c7_isSkater hS ⟨fun hb => no fun _ z => ?_, fun hb => c7_isCell hS ⟨fun hc => no fun _ z => ?_, fun hc => ?_⟩⟩⟩
    · rw [hb] at z
      exact absurd z.1 (by decide)
    · rw [hc] at z
      exact absurd z.2 (by decide)
    · have c' : what.toInt = 3 := by rw [c]; rfl
      obtain ⟨j, rfl, hj, hj2, hj3⟩ := sk_nat (z := 6) hi.2.2.2.1.2 hb
      refine ⟨j, rfl, hj, h1 _ (3 + j) ?_ ?_ (fun o ho => zup_oth (by omega))⟩
      · unfold setP
        rw [if_neg (by omega), if_neg (by omega), if_neg (by omega), if_pos c', if_pos ⟨hb, hc⟩, iv_tn (by omega)]
      · have hv : ∀ i, i ≠ 3 + j → upd (M 1) (3 + j) v i = M 1 i := fun i hi => upd_ne hi
        refine ⟨hi.row fun i hi => hv i (by omega), ?_, hR.bk.row (hv 0 (by omega)) (hv 2 (by omega)) (fun i a _ => hv i (by omega)) hn.2, hR.no.row fun i hi => hv i (by omega), ?_, ?_, ?_⟩
        · obtain ⟨a1, a2, a3, a4, a5, a6, a7, a8⟩ := hq
          have es : ∀ t i, skt (upd (M 1) (3 + j) v) t i = skt (M 1) t i := fun t i => by unfold skt; rw [hv _ (by omega)]
          refine ⟨by rw [hv 2 (by omega)]; exact a1, fun t ht => ?_, fun t ht => ?_, fun t ht => ?_, fun c hc => ?_, fun c hc hcc => ?_, fun c hc => ?_, fun t ht hq => ?_⟩
          · rw [hv 150 (by omega), hv 151 (by omega)]
            by_cases e : t = j
            · rw [e, upd_at]; exact hc
            · rw [hv _ (by omega)]; exact a2 t ht
          · rw [hv (9 + t) (by omega), hv (166 + t) (by omega)]; exact a3 t ht
          · rw [hv (15 + t) (by omega)]; exact a4 t ht
          · rw [hv (21 + c) (by omega)]; exact a5 c hc
          · rw [hv 150 (by omega), hv 151 (by omega)] at hcc
            rw [hv (21 + c) (by omega)]; exact a6 c hc hcc
          · rw [hv (85 + c) (by omega), hv 154 (by omega)]; exact a7 c hc
          · rw [hv (9 + t) (by omega), hv (166 + t) (by omega)] at hq
            rw [hv (15 + t) (by omega), hv (9 + t) (by omega), es]
            exact a8 t ht hq
        · exact (hS.keepb fun o a b c e => zup_oth (by omega)).row fun i hi => hv i (by omega)
        · exact hr.setSk (p := 3) (r := 3) (by omega) hj
        · exact (hB.keep (zup_oth (by omega))).row2 (hv 2 (by omega)) (fun i a _ => hv i (by omega)) hn.2
  have l51 : (what.toInt = 0 → ¬ (1 ≤ v.toInt ∧ v.toInt ≤ 9)) → (what.toInt = 1 → ¬ (0 ≤ v.toInt ∧ v.toInt ≤ 1000)) → zW shC g (d + 1) mX8_tell (zz Q) 51 [(0, .ref 0), (1, .int what), (2, .int who), (3, .int v)] [] C := by
    intro n0 n1
    refine vX8_tell_51 ⟨fun c => l92 n0 n1 fun z => absurd (by rw [eqI, z2]; exact z) c, fun c => c7_isCell hS ⟨fun hb => l92 n0 n1 fun _ z => ?_, fun hb => ⟨fun c2 => l92 n0 n1 fun _ z => ?_, fun c2 => ⟨fun c3 => l92 n0 n1 fun _ z => ?_, fun c3 => ?_⟩⟩⟩⟩
    · rw [hb] at z
      exact absurd z.1 (by decide)
    · rw [Int32.lt_iff_toInt_lt, z0] at c2
      omega
    · rw [Int32.lt_iff_toInt_lt, z9] at c3
      omega
    · rw [Int32.lt_iff_toInt_lt, z0] at c2
      rw [Int32.lt_iff_toInt_lt, z9] at c3
      have c' : what.toInt = 2 := by rw [c]; rfl
      obtain ⟨j, rfl, hj⟩ := cell_nat hb
      refine ⟨j, rfl, hj, h1 _ (21 + j) ?_ ?_ (fun o ho => zup_oth (by omega))⟩
      · unfold setP
        rw [if_neg (by omega), if_neg (by omega), if_pos c', if_pos ⟨hb, by omega, by omega⟩, iv_tn (by omega)]
      · have hv : ∀ i, i ≠ 21 + j → upd (M 1) (21 + j) v i = M 1 i := fun i hi => upd_ne hi
        refine ⟨hi.row fun i hi => hv i (by omega), ?_, hR.bk.row (hv 0 (by omega)) (hv 2 (by omega)) (fun i a _ => hv i (by omega)) hn.2, hR.no.row fun i hi => hv i (by omega), ?_, ?_, ?_⟩
        · obtain ⟨a1, a2, a3, a4, a5, a6, a7, a8⟩ := hq
          have es : ∀ t i, skt (upd (M 1) (21 + j) v) t i = skt (M 1) t i := fun t i => by unfold skt; rw [hv _ (by omega)]
          refine ⟨by rw [hv 2 (by omega)]; exact a1, fun t ht => ?_, fun t ht => ?_, fun t ht => ?_, fun c hc => ?_, fun c hc hcc => ?_, fun c hc => ?_, fun t ht hq => ?_⟩
          · rw [hv 150 (by omega), hv 151 (by omega), hv (3 + t) (by omega)]; exact a2 t ht
          · rw [hv (9 + t) (by omega), hv (166 + t) (by omega)]; exact a3 t ht
          · rw [hv (15 + t) (by omega)]; exact a4 t ht
          · by_cases e : c = j
            · rw [e, upd_at]
              unfold rng
              omega
            · rw [hv (21 + c) (by omega)]; exact a5 c hc
          · rw [hv 150 (by omega), hv 151 (by omega)] at hcc
            by_cases e : c = j
            · rw [e, hb] at hcc
              cases hcc
            · rw [hv (21 + c) (by omega)]; exact a6 c hc hcc
          · rw [hv (85 + c) (by omega), hv 154 (by omega)]; exact a7 c hc
          · rw [hv (9 + t) (by omega), hv (166 + t) (by omega)] at hq
            rw [hv (15 + t) (by omega), hv (9 + t) (by omega), es]
            exact a8 t ht hq
        · exact (hS.keepb fun o a b c e => zup_oth (by omega)).row fun i hi => hv i (by omega)
        · exact hr.setDepth hj
        · exact (hB.keep (zup_oth (by omega))).row2 (hv 2 (by omega)) (fun i a _ => hv i (by omega)) hn.2
  have l25 : (what.toInt = 0 → ¬ (1 ≤ v.toInt ∧ v.toInt ≤ 9)) → zW shC g (d + 1) mX8_tell (zz Q) 25 [(0, .ref 0), (1, .int what), (2, .int who), (3, .int v)] [] C := by
    intro n0
    refine vX8_tell_25 ⟨fun c => l51 n0 fun z => absurd (by rw [eqI, z1]; exact z) c, fun c => ⟨fun c2 => l51 n0 fun _ z => ?_, fun c2 => ⟨fun c3 => l51 n0 fun _ z => ?_, fun c3 => ?_⟩⟩⟩
    · rw [Int32.lt_iff_toInt_lt, z0] at c2
      omega
    · rw [Int32.lt_iff_toInt_lt, z1000] at c3
      omega
    · rw [Int32.lt_iff_toInt_lt, z0] at c2
      rw [Int32.lt_iff_toInt_lt, z1000] at c3
      have c' : what.toInt = 1 := by rw [c]; rfl
      refine h1 _ 153 ?_ (big 153 (by omega) (still 153 (by omega) ?_ ?_)) (fun o ho => zup_oth (by omega))
      · unfold setP
        rw [if_neg (by omega), if_pos c', if_pos ⟨by omega, by omega⟩]
      · rw [upd_ne (by omega)]
        exact hi.2.1
      · rw [upd_at]
        unfold rng
        omega
  refine vX8_tell ⟨fun c => l25 fun z => absurd (by rw [eqI, z0]; exact z) c, fun c => ⟨fun c2 => l25 fun _ z => ?_, fun c2 => ⟨fun c3 => l25 fun _ z => ?_, fun c3 => ?_⟩⟩⟩
  · rw [Int32.lt_iff_toInt_lt, z1] at c2
    omega
  · rw [Int32.lt_iff_toInt_lt, z9] at c3
    omega
  · rw [Int32.lt_iff_toInt_lt, z1] at c2
    rw [Int32.lt_iff_toInt_lt, z9] at c3
    have c' : what.toInt = 0 := by rw [c]; rfl
    refine h1 _ 152 ?_ (big 152 (by omega) (still 152 (by omega) ?_ ?_)) (fun o ho => zup_oth (by omega))
    · unfold setP
      rw [if_pos c', if_pos ⟨by omega, by omega⟩]
    · rw [upd_at]
      unfold rng
      omega
    · rw [upd_ne (by omega)]
      exact hi.2.2.1
theorem setP_lt {w : Nat → Int32} {what who v : Int32} {k : Nat} (hn : rng (w 154) 0 6) (h : setP w what who v = some k) : k < 154 := by
  rcases setP_what h with ⟨a, b, c⟩ | ⟨a, b, c⟩ | ⟨a, b, c, e⟩ | ⟨a, b, c, e⟩
  · omega
  · omega
  · obtain ⟨j, rfl, hj⟩ := cell_nat c
    rw [iv_tn (by omega)] at b
    omega
  · obtain ⟨j, rfl, hj, hj2, hj3⟩ := sk_nat (z := 6) hn.2 c
    rw [iv_tn (by omega)] at b
    omega
theorem c8_set {Q : Bool → zM → Prop} {what who v : Int32} (hR : RR C M) (h : ∀ C' : zM, RR C' (setM M what who v) → Q (setB M what who v) C') : zCz shC g (d + 2) mX8_set [.ref 0, .int what, .int who, .int v] C Q := by
  refine vX8_set (c8_tell hR (fun hn => ⟨fun _ => ?_, fun z => (by cases z)⟩) (fun C' k hk hw ho => ⟨fun z => (by cases z), fun _ => c8_forget ?_⟩))
  · unfold setM setB at h
    rw [hn] at h
    exact h C hR
  · unfold setM setB at h
    rw [hk] at h
    have hlt := setP_lt hR.is.2.2.2.1 hk
    refine h _ (hR.chg hw (fun j hj => by rw [upd_ne (by omega)]; exact hR.1.2 j hj) ho ?_ ?_ (fun o a b => ?_))
    · show (zup (zup M 1 k v) 0 4 0) 1 = _
      rw [zup_oth (by decide), zup_row]
    · show (zup (zup M 1 k v) 0 4 0) 0 = _
      rw [zup_row, zup_oth (by decide)]
    · show (zup (zup M 1 k v) 0 4 0) o = _
      rw [zup_oth a, zup_oth b]
end CH8
