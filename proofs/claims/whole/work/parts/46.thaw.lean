/-! A MINUTE: thawing -/
theorem skt_row2 {w v : Nat → Int32} {s i : Nat} (hs : s < 6) (hi : i ≤ 60) (h : ∀ j, 150 ≤ j → j < 566 ∨ 1316 ≤ j → v j = w j) : skt v s i = skt w s i := by
  unfold skt
  rw [h _ (by omega) (by omega)]
theorem tyRun_row2 {w v : Nat → Int32} (h : ∀ j, 150 ≤ j → j < 566 ∨ 1316 ≤ j → v j = w j) : ∀ (n a : Nat) (ts : List Bool), tyRun v a n ts = tyRun w a n ts
  | 0, _, _ => rfl
  | n + 1, a, ts => by
    rw [tyRun, tyRun, h _ (by omega) (by omega)]
    split
    · rfl
    · split
      · rfl
      · exact tyRun_row2 h n (a + 1) _
theorem LawOK.row2 {w v : Nat → Int32} (h : ∀ j, 150 ≤ j → j < 566 ∨ 1316 ≤ j → v j = w j) (hL : LawOK w) : LawOK v := by
  obtain ⟨h0, h16, hl⟩ := hL
  refine ⟨by rw [h _ (by omega) (by omega)]; exact h0, by rw [h _ (by omega) (by omega)]; exact h16, fun i hi => ?_⟩
  rw [h _ (by omega) (by omega)] at hi
  obtain ⟨f, m, t, h1, h2, h3, h4, h5, h6, h7, h8, h9, h10⟩ := hl i hi
  refine ⟨f, m, t, by rw [h _ (by omega) (by omega)]; exact h1, by rw [h _ (by omega) (by omega)]; exact h2, by rw [h _ (by omega) (by omega)]; exact h3, h4, h5, h6, by rw [h _ (by omega) (by omega)]; exact h7, fun j a b => ?_, by rw [tyRun_row2 h]; exact h9, fun q => by rw [tyRun_row2 h]; exact h10 q⟩
  rw [h _ (by omega) (by omega), h _ (by omega) (by omega)]
  exact h8 j a b
theorem RS.row2 {C : zM} {b : Nat} {w v : Nat → Int32} (hI : IS w) (h : ∀ j, 150 ≤ j → j < 566 ∨ 1316 ≤ j → v j = w j) (hR : RS C b w) : RS C b v := by
  have h60 := hI.2.2.2.2.2.2.2.2.1
  obtain ⟨h0, h1, h2, h3, h4, h5, ⟨a1, a2, a3, a4⟩, ⟨b1, b2, b3⟩, c1, c2, c3, c4⟩ := hR
  refine ⟨by rw [h _ (by omega) (by omega)]; exact h0, by rw [h _ (by omega) (by omega)]; exact h1, by rw [h _ (by omega) (by omega)]; exact h2, by rw [h _ (by omega) (by omega)]; exact h3, by rw [h _ (by omega) (by omega)]; exact h4, fun s hs hq => ?_, ⟨by rw [h _ (by omega) (by omega)]; exact a1, fun s hs => by rw [h _ (by omega) (by omega)]; exact a2 s hs, fun s i hs hq => ?_, fun s hs hq => ?_⟩, ⟨by rw [h _ (by omega) (by omega)]; exact b1, ⟨fun z i hi => ?_, fun z => b2.mpr fun i hi => ?_⟩, fun i hi => ?_⟩, by rw [h _ (by omega) (by omega)]; exact c1, by rw [h _ (by omega) (by omega)]; exact c2, fun i hi hq => ?_, fun i hi hq => ?_⟩
  · rw [h _ (by omega) (by omega)] at hq ⊢
    exact h5 s hs hq
  · rw [h _ (by omega) (by omega)] at hq
    have q := h60 s hs
    unfold rng at q
    rw [h _ (by omega) (by omega), skt_row2 hs (by omega) h]
    exact a3 s i hs hq
  · rw [h _ (by omega) (by omega)] at hq
    have q := h60 s hs
    unfold rng at q
    rw [h (172 + s) (by omega) (by omega), h (166 + s) (by omega) (by omega), skt_row2 hs (by omega) h]
    exact a4 s hs hq
  · rw [h _ (by omega) (by omega)] at hi ⊢
    exact b2.mp z i hi
  · have := z i (by rw [h _ (by omega) (by omega)]; exact hi)
    rw [h _ (by omega) (by omega)] at this
    exact this
  · rw [h _ (by omega) (by omega)] at hi
    rw [h (1364 + i) (by omega) (by omega), h (1316 + i) (by omega) (by omega), h (1332 + i) (by omega) (by omega), h (1348 + i) (by omega) (by omega)]
    obtain ⟨q1, q2, q3, q4, q5⟩ := b3 i hi
    refine ⟨q1, q2, q3, q4, fun j a b => ?_⟩
    rw [h (1380 + 2 * j) (by omega) (by omega), h (1381 + 2 * j) (by omega) (by omega)]
    exact q5 j a b
  · rw [h _ (by omega) (by omega)] at hq ⊢
    exact c3 i hi hq
  · rw [h _ (by omega) (by omega)] at hq
    rw [h (546 + 2 * i) (by omega) (by omega), h (547 + 2 * i) (by omega) (by omega)]
    exact c4 i hi hq
theorem IS.row2 {w v : Nat → Int32} (h : ∀ j, 150 ≤ j → j < 566 ∨ 1316 ≤ j → v j = w j) (hI : IS w) : IS v := by
  obtain ⟨⟨w1, w2, w3, w4⟩, h2, h3, h4, h5, h6, h7, h8, h9, h10, h11, h12, h13, h14⟩ := hI
  refine ⟨⟨by rw [h _ (by omega) (by omega)]; exact w1, by rw [h _ (by omega) (by omega)]; exact w2, by rw [h _ (by omega) (by omega)]; exact w3, by rw [h _ (by omega) (by omega)]; exact w4⟩, by rw [h _ (by omega) (by omega)]; exact h2, by rw [h _ (by omega) (by omega)]; exact h3, by rw [h _ (by omega) (by omega)]; exact h4, by rw [h _ (by omega) (by omega)]; exact h5, by rw [h _ (by omega) (by omega)]; exact h6, by rw [h _ (by omega) (by omega)]; exact h7, fun s hs => by rw [h _ (by omega) (by omega)]; exact h8 s hs, fun s hs => by rw [h _ (by omega) (by omega)]; exact h9 s hs, fun s hs => by rw [h _ (by omega) (by omega)]; exact h10 s hs, fun s hs hq => by rw [h (166 + s / 60) (by omega) (by omega)] at hq; rw [h _ (by omega) (by omega)]; exact h11 s hs hq, fun s hs => by rw [h _ (by omega) (by omega)]; exact h12 s hs, fun i hi hq => ?_, h14.row2 h⟩
  rw [h 158 (by omega) (by omega)] at hq
  rw [h 157 (by omega) (by omega), h 150 (by omega) (by omega), h 151 (by omega) (by omega), h (546 + 2 * i) (by omega) (by omega), h (547 + 2 * i) (by omega) (by omega)]
  exact h13 i hi hq

def mltV (w : Nat → Int32) (k : Nat) : Int32 := if w (21 + k) ≤ thawV w k then 0 else w (21 + k) - thawV w k
def thawN (w : Nat → Int32) (n : Nat) : Nat → Int32 := fun j => if 21 ≤ j ∧ j < 21 + n then mltV w (j - 21) else w j
def tvV (w : Nat → Int32) (k : Nat) : Int32 := if cellB (w 150) (w 151) (iv k) = true then thawV w k else 0
theorem thawN_0 (w : Nat → Int32) : thawN w 0 = w := by
  funext j
  unfold thawN
  rw [if_neg (by omega)]
theorem thawN_s (w : Nat → Int32) (n : Nat) : thawN w (n + 1) = upd (thawN w n) (21 + n) (mltV w n) := by
  funext j
  unfold thawN upd
  by_cases e : j = 21 + n
  · rw [if_pos e, if_pos (by omega), e, show 21 + n - 21 = n by omega]
  · rw [if_neg e]
    by_cases e2 : 21 ≤ j ∧ j < 21 + n
    · show _ = if 21 ≤ j ∧ j < 21 + n then mltV w (j - 21) else w j
      rw [if_pos e2, if_pos (by omega)]
    · show _ = if 21 ≤ j ∧ j < 21 + n then mltV w (j - 21) else w j
      rw [if_neg e2, if_neg (by omega)]
theorem thawN_out {w : Nat → Int32} {n j : Nat} (h : j < 21 ∨ 21 + n ≤ j) : thawN w n j = w j := by
  unfold thawN
  rw [if_neg (by omega)]
theorem thawN_in {w : Nat → Int32} {n k : Nat} (h : k < n) : thawN w n (21 + k) = mltV w k := by
  unfold thawN
  rw [if_pos (by omega), show 21 + k - 21 = k by omega]
theorem mlt9 {x t : Int32} (hx : rng x 0 9) (ht : rng t 0 9) : (if x - t < 0 then 0 else x - t) = if x ≤ t then 0 else x - t := by
  obtain ⟨a, b⟩ := hx
  obtain ⟨c, e⟩ := ht
  have hs : (x - t).toInt = x.toInt - t.toInt := ti_sub (by omega) (by omega)
  have z0 : (0 : Int32).toInt = 0 := rfl
  simp only [Int32.lt_iff_toInt_lt, Int32.le_iff_toInt_le, hs, z0]
  split <;> split <;> first | rfl | (rw [eqI]; rw [hs]; rw [z0]; omega) | (rw [eqI]; rw [z0]; rw [hs]; omega) | omega
theorem mlt7 {x t : Int32} (hx : rng x 0 9) (ht : rng t 0 9) : imax 0 (x - t) = if x ≤ t then 0 else x - t := by
  obtain ⟨a, b⟩ := hx
  obtain ⟨c, e⟩ := ht
  have hs : (x - t).toInt = x.toInt - t.toInt := ti_sub (by omega) (by omega)
  have z0 : (0 : Int32).toInt = 0 := rfl
  unfold imax
  simp only [Int32.lt_iff_toInt_lt, Int32.le_iff_toInt_le, hs, z0]
  split <;> split <;> first | rfl | (rw [eqI]; rw [hs]; rw [z0]; omega) | (rw [eqI]; rw [z0]; rw [hs]; omega) | omega
theorem r00 : rng 0 0 9 := by
  unfold rng
  decide
/-- melting off a cell by what either side lays aside for it -/
theorem mlt_z {w : Nat → Int32} {k : Nat} {t : Int32} (hd : rng (w (21 + k)) 0 9) (ht : t = thawV w k ∨ (t = 0 ∧ w (21 + k) = 0)) : (if w (21 + k) ≤ t then 0 else w (21 + k) - t) = mltV w k := by
  unfold mltV
  rcases ht with rfl | ⟨rfl, hz⟩
  · rfl
  · rw [hz, if_pos (by decide), if_pos]
    have := (thawV_rng w k).1
    rw [Int32.le_iff_toInt_le]
    exact this
theorem tv_rng (w : Nat → Int32) (k : Nat) : rng (tvV w k) 0 9 := by
  unfold tvV
  split
  · exact thawV_rng w k
  · exact r00
theorem rawF_none {w f : Nat → Int32} {word dflt : Int32} : ∀ (n i : Nat), (∀ j, i ≤ j → j < i + n → w (1364 + j) ≠ word) → rawF w f word dflt n i = dflt
  | 0, _, _ => rfl
  | n + 1, i, h => by
    rw [rawF_def, if_neg (fun c => h i (by omega) (by omega) c.1)]
    exact rawF_none n (i + 1) fun j a b => h j (by omega) (by omega)
theorem thawV_none {w : Nat → Int32} (h : ∀ i : Nat, (i : Int) < (w 156).toInt → w (1364 + i) = 20) (k : Nat) : thawV w k = 0 := by
  unfold thawV lawV
  rw [rawF_none _ _ fun j _ hj => ?_]
  · rfl
  · rw [h j (by omega)]
    decide
theorem thawN_none {w : Nat → Int32} (hq : IMo w) (h : ∀ i : Nat, (i : Int) < (w 156).toInt → w (1364 + i) = 20) : thawN w 64 = w := by
  funext j
  by_cases e : 21 ≤ j ∧ j < 85
  · obtain ⟨k, rfl⟩ : ∃ k, j = 21 + k := ⟨j - 21, by omega⟩
    rw [thawN_in (by omega)]
    unfold mltV
    rw [thawV_none h]
    obtain ⟨a, b⟩ := hq.2.2.2.2.1 k (by omega)
    have z0 : (0 : Int32).toInt = 0 := rfl
    split
    · rename_i c
      rw [Int32.le_iff_toInt_le, z0] at c
      rw [eqI, z0]
      omega
    · exact Int32.sub_zero ..
  · exact thawN_out (by omega)
theorem IMo.thaw {w : Nat → Int32} (h : IMo w) : IMo (thawN w 64) := by
  obtain ⟨h1, h2, h3, h4, h5, h6, h7, h8⟩ := h
  have hm : ∀ c, c < 64 → rng (mltV w c) 0 9 ∧ (w (21 + c) = 0 → mltV w c = 0) := by
    intro c hc
    obtain ⟨a, b⟩ := h5 c hc
    obtain ⟨t0, t9⟩ := thawV_rng w c
    unfold mltV
    split
    · exact ⟨r00, fun _ => rfl⟩
    · rename_i q
      rw [Int32.le_iff_toInt_le] at q
      refine ⟨?_, fun z => ?_⟩
      · unfold rng
        rw [ti_sub (by omega) (by omega)]
        omega
      · rw [z] at q
        have z0 : (0 : Int32).toInt = 0 := rfl
        rw [z0] at q
        omega
  refine ⟨by rw [thawN_out (by omega)]; exact h1, fun t ht => ?_, fun t ht => ?_, fun t ht => ?_, fun c hc => ?_, fun c hc hcc => ?_, fun c hc => ?_, fun t ht hq => ?_⟩
  · rw [thawN_out (by omega), thawN_out (by omega), thawN_out (by omega)]; exact h2 t ht
  · rw [thawN_out (by omega), thawN_out (by omega)]; exact h3 t ht
  · rw [thawN_out (by omega)]; exact h4 t ht
  · rw [thawN_in hc]; exact (hm c hc).1
  · rw [thawN_out (by omega), thawN_out (by omega)] at hcc
    rw [thawN_in hc]; exact (hm c hc).2 (h6 c hc hcc)
  · rw [thawN_out (by omega), thawN_out (by omega)]; exact h7 c hc
  · rw [thawN_out (by omega), thawN_out (by omega)] at hq
    have e : skt (thawN w 64) t (w (9 + t)).toInt.toNat = skt w t (w (9 + t)).toInt.toNat := by
      unfold skt
      rw [thawN_out (by omega)]
    rw [thawN_out (by omega), thawN_out (by omega), e]
    exact h8 t ht hq
section TH9
variable {g : zG} {d : Nat} {M : zM} {W : Nat → Int32} {Q : Int32 → zM → Prop} {l2 : Int32}
theorem t122 (hq : IMo W) (h : ∀ M' : zM, (∀ o, o ≠ 1 → M' o = M o) → M' 1 = upd (thawN W 64) 0 (W 0 + 1) → Q l2 M') (hT : ∀ i, i < 64 → M 15 i = tvV W i) :
    ∀ (n c : Nat) (M1 : zM), c + n = 64 → (∀ o, o ≠ 1 → M1 o = M o) → M1 1 = thawN W c → zW shM g (d + 7) mX9_aMinute (zi Q) 122 [(0, .ref 0), (2, .int l2), (3, .int (iv c))] [] M1
  | 0, c, M1, hc, ho, hr => by
    have e64 : c = 64 := by omega
    subst e64
    refine vX9_aMinute_122 ⟨fun _ => h _ (fun o h1 => (zup_oth h1).trans (ho o h1)) ?_, fun c => absurd (by decide) c⟩
    rw [zup_row, hr, thawN_out (by omega)]
  | n + 1, c, M1, hc, ho, hr => by
    have hk : c < 64 := by omega
    refine vX9_aMinute_122 ⟨fun z => ?_, fun _ => ⟨21 + c, iv_n 21 c, by omega, c, rfl, hk, c9_greater ?_⟩⟩
    · exfalso
      rw [Int32.le_iff_toInt_le, iv_toInt (by omega) (by omega)] at z
      simp only [Int32.reduceToInt] at z
      omega
    · have e1 : M1 1 (21 + c) = W (21 + c) := by rw [hr, thawN_out (by omega)]
      have e2 : M1 15 c = tvV W c := by rw [ho 15 (by decide)]; exact hT c hk
      rw [e1, e2, mlt9 (hq.2.2.2.2.1 c hk) (tv_rng W c), mlt_z (hq.2.2.2.2.1 c hk)]
      · rw [iv_s]
        refine t122 hq h hT n (c + 1) _ (by omega) (fun o h1 => (zup_oth h1).trans (ho o h1)) ?_
        rw [zup_row, hr, thawN_s]
      · unfold tvV
        split
        · exact Or.inl rfl
        · rename_i z
          exact Or.inr ⟨rfl, hq.2.2.2.2.2.1 c hk (by simpa using z)⟩
theorem t85 (hi : IS W) (hW : M 1 = W) (h : ∀ M' : zM, (∀ o, o ≠ 13 → o ≠ 14 → o ≠ 15 → M' o = M o) → (∀ i, i < 64 → M' 15 i = tvV W i) → zW shM g (d + 7) mX9_aMinute (zi Q) 122 [(0, .ref 0), (2, .int l2), (3, .int (iv (0 : Nat)))] [] M') :
    ∀ (n c : Nat) (M1 : zM), c + n = 64 → (∀ o, o ≠ 13 → o ≠ 14 → o ≠ 15 → M1 o = M o) → (∀ i, i < c → M1 15 i = tvV W i) → zW shM g (d + 7) mX9_aMinute (zi Q) 85 [(0, .ref 0), (2, .int l2), (3, .int (iv c))] [] M1
  | 0, c, M1, hc, ho, hr => by
    have e64 : c = 64 := by omega
    subst e64
    exact vX9_aMinute_85 ⟨fun _ => h M1 ho hr, fun c => absurd (by decide) c⟩
  | n + 1, c, M1, hc, ho, hr => by
    have hk : c < 64 := by omega
    have r1 : M1 1 = W := (ho 1 (by decide) (by decide) (by decide)).trans hW
    have hL : LawOK W := hi.2.2.2.2.2.2.2.2.2.2.2.2.2
    have nx : ∀ (M2 : zM) (x : Int32), (∀ o, o ≠ 13 → o ≠ 14 → M2 o = M1 o) → x = tvV W c → zW shM g (d + 7) mX9_aMinute (zi Q) 85 [(0, .ref 0), (2, .int l2), (3, .int (iv c + 1))] [] (zup M2 15 c x) := by
      intro M2 x h2 hx
      rw [iv_s]
      refine t85 hi hW h n (c + 1) _ (by omega) (fun o a b e => ?_) (fun i hi2 => ?_)
      · rw [zup_oth e, h2 o a b]
        exact ho o a b e
      · by_cases e : i = c
        · rw [e, zup_same, hx]
        · rw [zup_ne (Or.inr e), h2 15 (by decide) (by decide)]
          exact hr i (by omega)
    refine vX9_aMinute_85 ⟨fun z => ?_, fun _ => c9_isCell (by rw [r1]; exact hi.1) ?_⟩
    · exfalso
      rw [Int32.le_iff_toInt_le, iv_toInt (by omega) (by omega)] at z
      simp only [Int32.reduceToInt] at z
      omega
    · rw [r1]
      refine ⟨fun z => ⟨c, rfl, hk, nx M1 0 (fun o _ _ => rfl) ?_⟩, fun z => c9_thawOf (by rw [r1]; exact hi.1) (by rw [r1]; exact hL) hk fun M2 h2 => ⟨c, rfl, hk, nx M2 _ h2 ?_⟩⟩
      · unfold tvV
        rw [if_neg (by rw [z]; decide)]
      · unfold tvV
        rw [if_pos z, r1]
end TH9
section TH7
variable {g : zG} {d : Nat} {C : zM} {m : Nat} {w : Nat → Int32} {Q : zM → Prop}
theorem c7_thaw (hm : zMo shC m) (hi : IS w) (hq : IMo w) (hs : RS C 1 w) (hr : RMo C m w)
    (h : ∀ C' : zM, (∀ o, o ≠ m + 1 → o ≠ 21 → o ≠ 26 → o ≠ 27 → C' o = C o) → RMo C' m (thawN w 64) → Q C') : zCv shC g (d + 4) mX7_thaw [.ref 1, .ref m] C Q := by
  have hmm := zMo_at hm
  have l52 : ∀ (C0 : zM), (∀ o, o ≠ 21 → o ≠ 26 → o ≠ 27 → C0 o = C o) → (∀ i, i < 64 → C0 27 i = thawV w i ∨ (C0 27 i = 0 ∧ w (21 + i) = 0)) → ∀ (n c : Nat) (C1 : zM), c + n = 64 → (∀ o, o ≠ m + 1 → C1 o = C0 o) → RMo C1 m (thawN w c) → zW shC g (d + 4) mX7_thaw (zv Q) 52 [(0, .ref 1), (1, .ref m), (2, .int (iv c))] [] C1 := by
    intro C0 h0 hT n
    induction n with
    | zero =>
      intro c C1 hc ho hR
      have e64 : c = 64 := by omega
      subst e64
      exact vX7_thaw_52 hm ⟨fun _ => h C1 (fun o a b e f => (ho o a).trans (h0 o b e f)) hR, fun c => absurd (by decide) c⟩
    | succ n ih =>
      intro c C1 hc ho hR
      have hk : c < 64 := by omega
      refine vX7_thaw_52 hm ⟨fun z => ?_, fun _ => ⟨c, rfl, hk, ?_⟩⟩
      · exfalso
        rw [Int32.le_iff_toInt_le, iv_toInt (by omega) (by omega)] at z
        simp only [Int32.reduceToInt] at z
        omega
      · have e1 : C1 (m + 1) c = w (21 + c) := by
          rw [hR.1 c hk, thawN_out (by omega)]
        have e2 : C1 27 c = C0 27 c := by rw [ho 27 (by omega)]
        have ht : rng (C0 27 c) 0 9 := by
          rcases hT c hk with e | e
          · rw [e]; exact thawV_rng w c
          · rw [e.1]; exact r00
        rw [e1, e2, mlt7 (hq.2.2.2.2.1 c hk) ht, mlt_z (hq.2.2.2.2.1 c hk) (hT c hk), iv_s]
        refine ih (c + 1) _ (by omega) (fun o a => (zup_oth a).trans (ho o a)) ?_
        rw [thawN_s]
        exact hR.setDepth hk
  have l13 : ∀ (n c : Nat) (C1 : zM), c + n = 64 → (∀ o, o ≠ 21 → o ≠ 26 → o ≠ 27 → C1 o = C o) → (∀ i, i < c → C1 27 i = thawV w i ∨ (C1 27 i = 0 ∧ w (21 + i) = 0)) → zW shC g (d + 4) mX7_thaw (zv Q) 13 [(0, .ref 1), (1, .ref m), (2, .int (iv c))] [] C1 := by
    intro n
    induction n with
    | zero =>
      intro c C1 hc ho hT
      have e64 : c = 64 := by omega
      subst e64
      refine vX7_thaw_13 hm ⟨fun _ => l52 C1 ho hT 64 0 C1 (by omega) (fun o _ => rfl) ?_, fun c => absurd (by decide) c⟩
      rw [thawN_0]
      exact hr.keep fun o a b => ho o (by omega) (by omega) (by omega)
    | succ n ih =>
      intro c C1 hc ho hT
      have hk : c < 64 := by omega
      have hr1 : RMo C1 m w := hr.keep fun o a b => ho o (by omega) (by omega) (by omega)
      have hs1 : RS C1 1 w := hs.keep fun o a b c => ho o (by omega) (by omega) (by omega)
      have e1 : C1 (m + 1) c = w (21 + c) := hr1.1 c hk
      have nx : ∀ (C2 : zM) (x : Int32), (∀ o, o ≠ 21 → o ≠ 26 → C2 o = C1 o) → (x = thawV w c ∨ (x = 0 ∧ w (21 + c) = 0)) → zW shC g (d + 4) mX7_thaw (zv Q) 13 [(0, .ref 1), (1, .ref m), (2, .int (iv c + 1))] [] (zup C2 27 c x) := by
        intro C2 x h2 hx
        rw [iv_s]
        refine ih (c + 1) _ (by omega) (fun o a b e => ?_) (fun i hi2 => ?_)
        · rw [zup_oth e, h2 o a b]
          exact ho o a b e
        · by_cases e : i = c
          · rw [e, zup_same]
            exact hx
          · rw [zup_ne (Or.inr e), h2 27 (by decide) (by decide)]
            exact hT i (by omega)
      refine vX7_thaw_13 hm ⟨fun z => ?_, fun _ => ⟨c, rfl, hk, fun z => nx C1 0 (fun o _ _ => rfl) (Or.inr ⟨rfl, ?_⟩), fun z => c7_thawOf hm hi hs1 hr1 hk fun C2 h2 => nx C2 _ h2 (Or.inl rfl)⟩⟩
      · exfalso
        rw [Int32.le_iff_toInt_le, iv_toInt (by omega) (by omega)] at z
        simp only [Int32.reduceToInt] at z
        omega
      · rw [e1, Int32.le_iff_toInt_le] at z
        have z0 : (0 : Int32).toInt = 0 := rfl
        rw [z0] at z
        obtain ⟨a, b⟩ := hq.2.2.2.2.1 c hk
        rw [eqI, z0]
        omega
  refine vX7_thaw hm ⟨fun _ => l13 64 0 C (by omega) (fun o _ _ _ => rfl) (fun i hi => by omega), fun z => h C (fun o _ _ _ _ => rfl) ?_⟩
  rw [thawN_none hq (hs.2.2.2.2.2.2.2.1.2.1.mp z)]
  exact hr
end TH7
