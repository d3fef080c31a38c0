/-! ROWS that agree -/
theorem upd_at (f : Nat → Int32) (k : Nat) (x : Int32) : upd f k x k = x := by simp [upd]
theorem upd_ne {f : Nat → Int32} {k j : Nat} {x : Int32} (h : j ≠ k) : upd f k x j = f j := by simp [upd, h]
theorem skt_row {w v : Nat → Int32} (h : ∀ j, 150 ≤ j → v j = w j) (s i : Nat) : skt v s i = skt w s i := by
  unfold skt
  rw [h _ (by omega)]
theorem tyRun_row {w v : Nat → Int32} (h : ∀ j, 150 ≤ j → v j = w j) : ∀ (n a : Nat) (ts : List Bool), tyRun v a n ts = tyRun w a n ts
  | 0, _, _ => rfl
  | n + 1, a, ts => by
    rw [tyRun, tyRun, h _ (by omega)]
    split
    · rfl
    · split
      · rfl
      · exact tyRun_row h n (a + 1) _
theorem LawOK.row {w v : Nat → Int32} (h : ∀ j, 150 ≤ j → v j = w j) (hL : LawOK w) : LawOK v := by
  obtain ⟨h0, h16, hl⟩ := hL
  refine ⟨by rw [h _ (by omega)]; exact h0, by rw [h _ (by omega)]; exact h16, fun i hi => ?_⟩
  rw [h _ (by omega)] at hi
  obtain ⟨f, m, t, h1, h2, h3, h4, h5, h6, h7, h8, h9, h10⟩ := hl i hi
  refine ⟨f, m, t, by rw [h _ (by omega)]; exact h1, by rw [h _ (by omega)]; exact h2, by rw [h _ (by omega)]; exact h3, h4, h5, h6, by rw [h _ (by omega)]; exact h7, fun j a b => ?_, by rw [tyRun_row h]; exact h9, fun q => by rw [tyRun_row h]; exact h10 q⟩
  rw [h _ (by omega), h _ (by omega)]
  exact h8 j a b
theorem RS.row {C : zM} {b : Nat} {w v : Nat → Int32} (h : ∀ j, 150 ≤ j → v j = w j) (hR : RS C b w) : RS C b v := by
  obtain ⟨h0, h1, h2, h3, h4, h5, ⟨a1, a2, a3, a4⟩, ⟨b1, b2, b3⟩, c1, c2, c3, c4⟩ := hR
  refine ⟨by rw [h _ (by omega)]; exact h0, by rw [h _ (by omega)]; exact h1, by rw [h _ (by omega)]; exact h2, by rw [h _ (by omega)]; exact h3, by rw [h _ (by omega)]; exact h4, fun s hs hq => ?_, ⟨by rw [h _ (by omega)]; exact a1, fun s hs => by rw [h _ (by omega)]; exact a2 s hs, fun s i hs hq => ?_, fun s hs hq => ?_⟩, ⟨by rw [h _ (by omega)]; exact b1, ⟨fun z i hi => ?_, fun z => b2.mpr fun i hi => ?_⟩, fun i hi => ?_⟩, by rw [h _ (by omega)]; exact c1, by rw [h _ (by omega)]; exact c2, fun i hi hq => ?_, fun i hi hq => ?_⟩
  · rw [h _ (by omega)] at hq ⊢
    exact h5 s hs hq
  · rw [h _ (by omega)] at hq
    rw [h _ (by omega), skt_row h]
    exact a3 s i hs hq
  · rw [h _ (by omega)] at hq
    rw [h (172 + s) (by omega), h (166 + s) (by omega), skt_row h]
    exact a4 s hs hq
  · rw [h _ (by omega)] at hi ⊢
    exact b2.mp z i hi
  · have := z i (by rw [h _ (by omega)]; exact hi)
    rw [h _ (by omega)] at this
    exact this
  · rw [h _ (by omega)] at hi
    rw [h (1364 + i) (by omega), h (1316 + i) (by omega), h (1332 + i) (by omega), h (1348 + i) (by omega)]
    obtain ⟨q1, q2, q3, q4, q5⟩ := b3 i hi
    refine ⟨q1, q2, q3, q4, fun j a b => ?_⟩
    rw [h (1380 + 2 * j) (by omega), h (1381 + 2 * j) (by omega)]
    exact q5 j a b
  · rw [h _ (by omega)] at hq ⊢
    exact c3 i hi hq
  · rw [h _ (by omega)] at hq
    rw [h (546 + 2 * i) (by omega), h (547 + 2 * i) (by omega)]
    exact c4 i hi hq
theorem IS.row {w v : Nat → Int32} (h : ∀ j, 150 ≤ j → v j = w j) (hI : IS w) : IS v := by
  obtain ⟨⟨w1, w2, w3, w4⟩, h2, h3, h4, h5, h6, h7, h8, h9, h10, h11, h12, h13, h14⟩ := hI
  refine ⟨⟨by rw [h _ (by omega)]; exact w1, by rw [h _ (by omega)]; exact w2, by rw [h _ (by omega)]; exact w3, by rw [h _ (by omega)]; exact w4⟩, by rw [h _ (by omega)]; exact h2, by rw [h _ (by omega)]; exact h3, by rw [h _ (by omega)]; exact h4, by rw [h _ (by omega)]; exact h5, by rw [h _ (by omega)]; exact h6, by rw [h _ (by omega)]; exact h7, fun s hs => by rw [h _ (by omega)]; exact h8 s hs, fun s hs => by rw [h _ (by omega)]; exact h9 s hs, fun s hs => by rw [h _ (by omega)]; exact h10 s hs, fun s hs hq => by rw [h (166 + s / 60) (by omega)] at hq; rw [h _ (by omega)]; exact h11 s hs hq, fun s hs => by rw [h _ (by omega)]; exact h12 s hs, fun i hi hq => ?_, h14.row h⟩
  rw [h 158 (by omega)] at hq
  rw [h 157 (by omega), h 150 (by omega), h 151 (by omega), h (546 + 2 * i) (by omega), h (547 + 2 * i) (by omega)]
  exact h13 i hi hq
/-- rows alike but for the skaters' places and steps, the draws and the book's length -/
def alikeW (w v : Nat → Int32) : Prop := v 0 = w 0 ∧ ∀ j, 21 ≤ j → v j = w j
theorem seenB_al {w v : Nat → Int32} (h : alikeW w v) (k : Nat) : seenB v k = seenB w k := by
  unfold seenB
  rw [h.2 152 (by omega), h.2 (21 + k) (by omega)]
theorem nb_al {w v : Nat → Int32} (h : alikeW w v) (x y : Int) : nb v x y = nb w x y := by
  unfold nb
  rw [h.2 150 (by omega), h.2 151 (by omega), seenB_al h]
theorem arN_al {w v : Nat → Int32} (h : alikeW w v) (k : Nat) : arN v k = arN w k := by simp only [arN, nb_al h]
theorem factsV_al {w v : Nat → Int32} (h : alikeW w v) (k : Nat) (a b : Int32) : factsV v k a b = factsV w k a b := by
  funext i
  unfold factsV
  split
  · exact h.2 _ (by omega)
  · unfold edgeV
    rw [h.2 150 (by omega), h.2 151 (by omega)]
  · exact h.1
  · rfl
  · rfl
  · rw [arN_al h]
theorem evRun_al {w v : Nat → Int32} (h : alikeW w v) (f : Nat → Int32) : ∀ (n a : Nat) (st : List Int32), evRun v f n a st = evRun w f n a st
  | 0, _, _ => rfl
  | n + 1, a, st => by
    rw [evRun, evRun, h.2 (1380 + 2 * a) (by omega), h.2 (1381 + 2 * a) (by omega)]
    exact evRun_al h f n (a + 1) _
theorem condB_al {w v : Nat → Int32} (h : alikeW w v) (f : Nat → Int32) (i : Nat) : condB v f i = condB w f i := by
  unfold condB evV
  rw [evRun_al h, h.2 (1348 + i) (by omega), h.2 (1332 + i) (by omega)]
theorem rawF_al {w v : Nat → Int32} (h : alikeW w v) (f : Nat → Int32) (a b : Int32) : ∀ (n i : Nat), rawF v f a b n i = rawF w f a b n i
  | 0, _ => rfl
  | n + 1, i => by
    rw [rawF_def, rawF_def, rawF_al h f a b n (i + 1), condB_al h, h.2 (1364 + i) (by omega)]
    unfold evV
    rw [evRun_al h, h.2 (1316 + i) (by omega), h.2 (1332 + i) (by omega)]
theorem lawV_al {w v : Nat → Int32} (h : alikeW w v) (f : Nat → Int32) (a b : Int32) : lawV v f a b = lawV w f a b := by
  unfold lawV
  rw [rawF_al h, h.2 156 (by omega)]
theorem cutV_al {w v : Nat → Int32} (h : alikeW w v) (s k : Nat) : cutV v s k = cutV w s k := by
  unfold cutV othB
  rw [lawV_al h, factsV_al h, h.2 (160 + s) (by omega), h.2 (85 + k) (by omega)]
theorem thawV_al {w v : Nat → Int32} (h : alikeW w v) (k : Nat) : thawV v k = thawV w k := by
  unfold thawV
  rw [lawV_al h, factsV_al h]
theorem heldV_rng (x : Int32) : rng (heldV x) 0 9 := by
  unfold heldV rng
  split
  · decide
  · split
    · decide
    · omega
theorem cutV_rng (w : Nat → Int32) (s k : Nat) : rng (cutV w s k) 0 9 := heldV_rng _
theorem thawV_rng (w : Nat → Int32) (k : Nat) : rng (thawV w k) 0 9 := heldV_rng _
section RM
variable {C : zM} {m : Nat} {w : Nat → Int32}
theorem RMo.setDepth {k : Nat} {x : Int32} (h : RMo C m w) (hk : k < 64) : RMo (zup C (m + 1) k x) m (upd w (21 + k) x) := by
  obtain ⟨h1, h2, h3, h4, h5, h6⟩ := h
  refine ⟨fun j hj => ?_, fun j hj => ?_, fun s hs hq => ?_, ?_, ?_, ?_⟩
  · by_cases e : j = k
    · subst e
      rw [zup_same, upd_at]
    · rw [zup_ne (Or.inr e), upd_ne (by omega)]
      exact h1 j hj
  · rw [zup_ne (by omega), upd_ne (by omega)]
    exact h2 j hj
  · rw [upd_ne (by omega)] at hq
    rw [zup_ne (by omega), zup_ne (by omega), zup_ne (by omega), upd_ne (by omega), upd_ne (by omega), upd_ne (by omega)]
    exact h3 s hs hq
  · rw [zup_ne (by omega), upd_ne (by omega)]; exact h4
  · rw [zup_ne (by omega), upd_ne (by omega)]; exact h5
  · rw [zup_ne (by omega), upd_ne (by omega)]; exact h6
theorem RMo.setLatest {k : Nat} {x : Int32} (h : RMo C m w) (hk : k < 64) : RMo (zup C (m + 2) k x) m (upd w (85 + k) x) := by
  obtain ⟨h1, h2, h3, h4, h5, h6⟩ := h
  refine ⟨fun j hj => ?_, fun j hj => ?_, fun s hs hq => ?_, ?_, ?_, ?_⟩
  · rw [zup_ne (by omega), upd_ne (by omega)]
    exact h1 j hj
  · by_cases e : j = k
    · subst e
      rw [zup_same, upd_at]
    · rw [zup_ne (Or.inr e), upd_ne (by omega)]
      exact h2 j hj
  · rw [upd_ne (by omega)] at hq
    rw [zup_ne (by omega), zup_ne (by omega), zup_ne (by omega), upd_ne (by omega), upd_ne (by omega), upd_ne (by omega)]
    exact h3 s hs hq
  · rw [zup_ne (by omega), upd_ne (by omega)]; exact h4
  · rw [zup_ne (by omega), upd_ne (by omega)]; exact h5
  · rw [zup_ne (by omega), upd_ne (by omega)]; exact h6
theorem RMo.setSk {p r s : Nat} {x : Int32} (h : RMo C m w) (hp : (p = 3 ∧ r = 3) ∨ (p = 4 ∧ r = 9) ∨ (p = 5 ∧ r = 15)) (hs : s < 6) : RMo (zup C (m + p) s x) m (upd w (r + s) x) := by
  obtain ⟨h1, h2, h3, h4, h5, h6⟩ := h
  refine ⟨fun j hj => ?_, fun j hj => ?_, fun t ht hq => ?_, ?_, ?_, ?_⟩
  · rw [zup_ne (by omega), upd_ne (by omega)]
    exact h1 j hj
  · rw [zup_ne (by omega), upd_ne (by omega)]
    exact h2 j hj
  · rw [upd_ne (by omega)] at hq
    obtain ⟨g1, g2, g3⟩ := h3 t ht hq
    by_cases e : t = s
    · subst e
      rcases hp with ⟨rfl, rfl⟩ | ⟨rfl, rfl⟩ | ⟨rfl, rfl⟩
      · rw [zup_same, upd_at, zup_ne (by omega), zup_ne (by omega), upd_ne (by omega), upd_ne (by omega)]
        exact ⟨rfl, g2, g3⟩
      · rw [zup_same, upd_at, zup_ne (by omega), zup_ne (by omega), upd_ne (by omega), upd_ne (by omega)]
        exact ⟨g1, rfl, g3⟩
      · rw [zup_same, upd_at, zup_ne (by omega), zup_ne (by omega), upd_ne (by omega), upd_ne (by omega)]
        exact ⟨g1, g2, rfl⟩
    · rw [zup_ne (by omega), zup_ne (by omega), zup_ne (by omega), upd_ne (by omega), upd_ne (by omega), upd_ne (by omega)]
      exact ⟨g1, g2, g3⟩
  · rw [zup_ne (by omega), upd_ne (by omega)]; exact h4
  · rw [zup_ne (by omega), upd_ne (by omega)]; exact h5
  · rw [zup_ne (by omega), upd_ne (by omega)]; exact h6
theorem RMo.setN {p r : Nat} {x : Int32} (h : RMo C m w) (hp : (p = 5 ∧ r = 0) ∨ (p = 6 ∧ r = 1) ∨ (p = 7 ∧ r = 2)) : RMo (zup C m p x) m (upd w r x) := by
  obtain ⟨h1, h2, h3, h4, h5, h6⟩ := h
  refine ⟨fun j hj => ?_, fun j hj => ?_, fun t ht hq => ?_, ?_, ?_, ?_⟩
  · rw [zup_ne (by omega), upd_ne (by omega)]
    exact h1 j hj
  · rw [zup_ne (by omega), upd_ne (by omega)]
    exact h2 j hj
  · rw [upd_ne (by omega)] at hq
    rw [zup_ne (by omega), zup_ne (by omega), zup_ne (by omega), upd_ne (by omega), upd_ne (by omega), upd_ne (by omega)]
    exact h3 t ht hq
  all_goals
    rcases hp with ⟨rfl, rfl⟩ | ⟨rfl, rfl⟩ | ⟨rfl, rfl⟩ <;> first | (rw [zup_same, upd_at]; done) | (rw [zup_ne (by omega), upd_ne (by omega)]; assumption)
end RM
