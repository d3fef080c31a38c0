/-! PARTS of the class -/
def mu1 (v : Nat) : Nat := 2 * (v % 64) + v / 64
theorem mu1_lt {v : Nat} (h : v < 128) : mu1 v < 128 := by
  unfold mu1
  omega
theorem mu1_inj {u v : Nat} (hu : u < 128) (hv : v < 128) (h : mu1 u = mu1 v) : u = v := by
  unfold mu1 at h
  omega
theorem mu1_in {c : Nat} (h : c < 64) : mu1 c = 2 * c ∧ mu1 (c + 64) = 2 * c + 1 := by
  unfold mu1
  omega
def B7 (C : zM) (X : PSt) (a q : Nat) : Prop := (∀ v, v < 128 → v ≠ a → C 126 (mu1 v) = optI ((X.1 v).map mu1)) ∧ (∀ v u, X.1 v = some u → u < 128) ∧
  ((q = 1000 ∧ C 126 (2 * a) = -1 ∧ C 123 4 = iv X.2.length ∧ ∀ j, j < X.2.length → C 127 j = iv (mu1 (X.2.getD j 0) : Nat)) ∨
   (q ≤ X.2.length ∧ C 126 (2 * a) ≠ -1 ∧ C 123 4 = iv (X.2.length + 1 : Nat) ∧ C 127 q = iv (2 * a : Nat) ∧ (∀ j, j < q → C 127 j = iv (mu1 (X.2.getD j 0) : Nat)) ∧ ∀ j, q ≤ j → j < X.2.length → C 127 (j + 1) = iv (mu1 (X.2.getD j 0) : Nat)))
def F7 (C : zM) (F : FSt) : Prop := (∀ c, c < 64 → C 125 c = zbI (F.1 c)) ∧ ∀ j, j < 256 → C 124 j = zbI (F.2 j)
def K7 (C C' : zM) : Prop := (∀ o, o ≠ 123 → o ≠ 126 → o ≠ 127 → C' o = C o) ∧ ∀ j, j ≠ 4 → C' 123 j = C 123 j
theorem K7.rfl {C : zM} : K7 C C := ⟨fun _ _ _ _ => Eq.refl _, fun _ _ => Eq.refl _⟩
theorem K7.trans {C C' C2 : zM} (h : K7 C C') (h2 : K7 C' C2) : K7 C C2 := ⟨fun o a b c => (h2.1 o a b c).trans (h.1 o a b c), fun j hj => (h2.2 j hj).trans (h.2 j hj)⟩
theorem F7.keep {C C' : zM} {F : FSt} (h : F7 C F) (hK : K7 C C') : F7 C' F := by
  unfold F7 at h ⊢
  rw [hK.1 124 (by decide) (by decide) (by decide), hK.1 125 (by decide) (by decide) (by decide)]
  exact h
theorem RS.k7 {C C' : zM} {w : Nat → Int32} (h : RS C 1 w) (hK : K7 C C') : RS C' 1 w := h.keepb fun o a b _ _ => hK.1 o (by omega) (by omega) (by omega)
theorem opt7 {X : PSt} {v : Nat} (hu : ∀ u, X.1 v = some u → u < 128) : optI ((X.1 v).map mu1) = -1 ↔ X.1 v = none := by
  cases c : X.1 v with
  | none => exact ⟨fun _ => rfl, fun _ => rfl⟩
  | some u =>
    have := mu1_lt (hu u c)
    refine ⟨fun z => ?_, fun z => by cases z⟩
    exfalso
    have z2 : iv (mu1 u : Nat) = iv (-1) := z
    rw [iv_inj (by omega) (by omega)] at z2
    omega
theorem half1 {v : Nat} (h : v < 128) : iv (mu1 v : Nat) / 2 = iv (v % 64 : Nat) ∧ iv (mu1 v : Nat) - iv (mu1 v : Nat) / 2 * 2 = iv (v / 64 : Nat) := by
  have hm := mu1_lt h
  have e : mu1 v = 2 * (v % 64) + v / 64 := rfl
  constructor
  · rw [eqI, ti_div (by rw [iv_toInt (by omega) (by omega)]; omega) (by decide), iv_toInt (by omega) (by omega), iv_toInt (by omega) (by omega)]
    simp only [Int32.reduceToInt]
    omega
  · rw [eqI, ti_rem (by rw [iv_toInt (by omega) (by omega)]; omega) (by decide), iv_toInt (by omega) (by omega), iv_toInt (by omega) (by omega)]
    simp only [Int32.reduceToInt]
    omega
theorem two_c (c : Nat) : (2 : Int32) * iv c = iv (2 * c : Nat) := by
  rw [show (2 : Int32) = iv 2 from rfl, iv_mul]
  congr 1
theorem four_at (c i : Nat) : (iv c * (4 : Int32)) + iv i = iv (4 * c + i : Nat) := by
  rw [Int32.mul_comm, show (4 : Int32) = iv 4 from rfl, iv_mul, iv_add]
  congr 1
section PA7
variable {g : zG} {d : Nat} {C : zM} {w : Nat → Int32}
theorem c0_find {Q : zM → Prop} {X : PSt} {a q u t : Nat} (h7 : B7 C X a q) (ha : a < 64) (hXa : X.1 a = some a) (hu : u < 128) (ht : t < 128) (hlen : X.2.length ≤ 127) (hroom : X.1 t = none → X.2.length ≤ 126) (h : ∀ (C' : zM) (r : Nat), K7 C C' → B7 C' (cbS u t X) a r → (r = q ∨ (t = a ∧ q = 1000 ∧ r = X.2.length)) → Q C') : zCv shC g d mX0_find [.ref 123, .int (iv (mu1 t : Nat)), .int (iv (mu1 u : Nat))] C Q := by
  obtain ⟨h1, h2, h3⟩ := id h7
  have hmt := mu1_lt ht
  have hmu := mu1_lt hu
  have h0 := h C q K7.rfl
  refine vX0_find ⟨mu1 t, rfl, hmt, fun z => ?_, fun z => ⟨fun z2 => ?_, fun z2 => ?_⟩⟩
  · have hs : X.1 t ≠ none := by
      by_cases e : t = a
      · rw [e, hXa]
        exact fun z => by cases z
      · rw [h1 t ht e, opt7 (h2 t)] at z
        exact z
    rw [cb_no hs] at h0
    exact h0 h7 (Or.inl rfl)
  · exfalso
    rcases h3 with ⟨p1, p2, p3, p4⟩ | ⟨p1, p2, p3, p4, p5, p6⟩
    · rw [p3, show (128 : Int32) = iv (128 : Nat) from rfl, Int32.le_iff_toInt_le, iv_toInt (by omega) (by omega), iv_toInt (by omega) (by omega)] at z2
      omega
    · have hta : t ≠ a := fun e => by
        rw [e, (mu1_in ha).1] at z
        exact p2 z
      rw [h1 t ht hta, opt7 (h2 t)] at z
      have := hroom z
      rw [p3, show (128 : Int32) = iv (128 : Nat) from rfl, Int32.le_iff_toInt_le, iv_toInt (by omega) (by omega), iv_toInt (by omega) (by omega)] at z2
      omega
  · by_cases hta : t = a
    · -- the entry of a: not in the reference's row
      have ema : mu1 t = 2 * a := by rw [hta]; exact (mu1_in ha).1
      rcases h3 with ⟨p1, p2, p3, p4⟩ | ⟨p1, p2, p3, p4, p5, p6⟩
      · refine ⟨X.2.length, by rw [zup_oth (by decide)]; exact p3, by omega, ?_⟩
        have hs : X.1 t ≠ none := by
          rw [hta, hXa]
          exact fun z => by cases z
        refine h _ X.2.length ⟨fun o q1 q2 q3 => by rw [zup_oth q1, zup_oth q3, zup_oth q2], fun j hj => by rw [zup_ne (Or.inr hj), zup_oth (by decide), zup_oth (by decide)]⟩ ?_ (Or.inr ⟨hta, p1, rfl⟩)
        rw [cb_no hs]
        refine ⟨fun v hv hva => ?_, h2, Or.inr ⟨Nat.le_refl _, ?_, ?_, ?_, fun j hj => ?_, fun j hj1 hj2 => by omega⟩⟩
        · rw [zup_oth (by decide), zup_oth (by decide), zup_ne (Or.inr (fun e => hva (by rw [← hta]; exact mu1_inj hv ht e)))]
          exact h1 v hv hva
        · rw [zup_oth (by decide), zup_oth (by decide), ← ema, zup_same]
          intro e
          have e2 : iv (mu1 u : Nat) = iv (-1) := e
          rw [iv_inj (by omega) (by omega)] at e2
          omega
        · rw [zup_same, zup_oth (by decide), zup_oth (by decide), p3, iv_s]
        · rw [zup_oth (by decide), zup_same, ema]
        · rw [zup_oth (by decide), zup_ne (Or.inr (by omega)), zup_oth (by decide)]
          exact p4 j hj
      · rw [ema] at z
        exact absurd z p2
    · rw [h1 t ht hta, opt7 (h2 t)] at z
      have hr := hroom z
      have hrow : ∀ (n : Nat) (v : Nat), v < 128 → v ≠ a → (zup (zup (zup C 126 (mu1 t) (iv (mu1 u : Nat))) 127 n (iv (mu1 t : Nat))) 123 4 ((zup (zup C 126 (mu1 t) (iv (mu1 u : Nat))) 127 n (iv (mu1 t : Nat))) 123 4 + 1)) 126 (mu1 v) = optI ((if v = t then some u else X.1 v).map mu1) := by
        intro n v hv hva
        rw [zup_oth (by decide), zup_oth (by decide)]
        by_cases e : v = t
        · rw [e, zup_same, if_pos rfl]
          rfl
        · rw [zup_ne (Or.inr (fun e2 => e (mu1_inj hv ht e2))), if_neg e]
          exact h1 v hv hva
      have hsm : ∀ v x, (if v = t then some u else X.1 v) = some x → x < 128 := by
        intro v x hx
        by_cases e : v = t
        · rw [if_pos e] at hx
          cases hx
          exact hu
        · rw [if_neg e] at hx
          exact h2 v x hx
      have hlen1 : (X.2 ++ [t]).length = X.2.length + 1 := by rw [List.length_append]; rfl
      have hne2a : (2 * a) ≠ mu1 t := fun e => hta (mu1_inj ht (by omega) (by rw [← e, (mu1_in ha).1]))
      rcases h3 with ⟨p1, p2, p3, p4⟩ | ⟨p1, p2, p3, p4, p5, p6⟩
      · refine ⟨X.2.length, by rw [zup_oth (by decide)]; exact p3, by omega, ?_⟩
        refine h _ q ⟨fun o q1 q2 q3 => by rw [zup_oth q1, zup_oth q3, zup_oth q2], fun j hj => by rw [zup_ne (Or.inr hj), zup_oth (by decide), zup_oth (by decide)]⟩ ?_ (Or.inl rfl)
        rw [cb_yes z]
        refine ⟨hrow _, hsm, Or.inl ⟨p1, ?_, ?_, fun j hj => ?_⟩⟩
        · rw [zup_oth (by decide), zup_oth (by decide), zup_ne (Or.inr hne2a)]
          exact p2
        · show _ = iv ((X.2 ++ [t]).length : Nat)
          rw [zup_same, zup_oth (by decide), zup_oth (by decide), p3, iv_s, hlen1]
        · have hj2 : j < (X.2 ++ [t]).length := hj
          rw [hlen1] at hj2
          show _ = iv (mu1 ((X.2 ++ [t]).getD j 0) : Nat)
          rw [zup_oth (by decide), getD_app]
          by_cases e : j = X.2.length
          · rw [e, zup_same, if_pos rfl]
          · rw [zup_ne (Or.inr e), if_neg e, zup_oth (by decide)]
            exact p4 j (by omega)
      · refine ⟨X.2.length + 1, by rw [zup_oth (by decide)]; exact p3, by omega, ?_⟩
        refine h _ q ⟨fun o q1 q2 q3 => by rw [zup_oth q1, zup_oth q3, zup_oth q2], fun j hj => by rw [zup_ne (Or.inr hj), zup_oth (by decide), zup_oth (by decide)]⟩ ?_ (Or.inl rfl)
        rw [cb_yes z]
        refine ⟨hrow _, hsm, Or.inr ⟨?_, ?_, ?_, ?_, fun j hj => ?_, fun j hj1 hj => ?_⟩⟩
        · show q ≤ (X.2 ++ [t]).length
          omega
        · rw [zup_oth (by decide), zup_oth (by decide), zup_ne (Or.inr hne2a)]
          exact p2
        · show _ = iv ((X.2 ++ [t]).length + 1 : Nat)
          rw [zup_same, zup_oth (by decide), zup_oth (by decide), p3, iv_s, hlen1]
        · rw [zup_oth (by decide), zup_ne (Or.inr (by omega)), zup_oth (by decide)]
          exact p4
        · show _ = iv (mu1 ((X.2 ++ [t]).getD j 0) : Nat)
          rw [zup_oth (by decide), zup_ne (Or.inr (by omega)), zup_oth (by decide), getD_app, if_neg (by omega)]
          exact p5 j hj
        · have hj2 : j < (X.2 ++ [t]).length := hj
          rw [hlen1] at hj2
          show _ = iv (mu1 ((X.2 ++ [t]).getD j 0) : Nat)
          rw [zup_oth (by decide), getD_app]
          by_cases e : j = X.2.length
          · rw [e, zup_same, if_pos rfl]
          · rw [zup_ne (Or.inr (by omega)), if_neg e, zup_oth (by decide)]
            exact p6 j hj1 (by omega)
/-- one node gone on from, on the side of the class -/
theorem c0_leave {Q : zM → Prop} {X : PSt} {F : FSt} {a q k c : Nat} (hi : IS w) (hS : RS C 1 w) (ha : a < 64) (hF : F7 C F) (hN : NI w a F) (hB : BI w F.2 a X) (h7 : B7 C X a q) (hk : k < X.2.length) (hc : c < 64) (hv : X.2.getD k 0 = c + 64) (h : ∀ (C' : zM) (r : Nat), K7 C C' → B7 C' (sprS w F.1 F.2 a (c + 64) X) a r → (r = q ∨ (q = 1000 ∧ k < r)) → Q C') : zCv shC g (d + 1) mX0_leave [.ref 123, .ref 1, .int (iv c)] C Q := by
  have hw := hi.1
  obtain ⟨⟨n1, n2⟩, n3, n4⟩ := hB.2.2.1 k hk
  rw [hv, show (c + 64) % 64 = c by omega] at n2
  have gX : ∀ (n i : Nat) (Y : PSt) (C1 : zM) (r : Nat), i + n = 4 → K7 C C1 → BI w F.2 a Y → B7 C1 Y a r → (r = q ∨ (q = 1000 ∧ k < r)) → k < Y.2.length → Y.2.getD k 0 = c + 64 → (∀ (C' : zM) (r : Nat), K7 C C' → B7 C' (wayX w F.2 c n i Y) a r → (r = q ∨ (q = 1000 ∧ k < r)) → Q C') → zW shC g (d + 1) mX0_leave (zv Q) 24 [(0, .ref 123), (1, .ref 1), (2, .int (iv c)), (3, .int (iv i))] [] C1 := by
    intro n
    induction n with
    | zero =>
      intro i Y C1 r hi2 hK hBY h7Y hr _ _ hh
      obtain rfl : i = 4 := by omega
      exact vX0_leave_24 ⟨fun _ => hh C1 r hK h7Y hr, fun z => absurd (by decide) z⟩
    | succ n ih =>
      intro i Y C1 r hi2 hK hBY h7Y hr hkY hvY hh
      rw [wayX] at hh
      have hgc := goV_cell hw n2 hc (i := i)
      have hlY := hBY.len
      refine vX0_leave_24 ⟨fun z => (not_le_iv (a := 4) (b := i) (by omega) (by omega) z).elim, fun _ => c7_beside hi (hS.k7 hK) hc (by omega) ?_⟩
      rcases go_bes hw hc n2 (show i < 4 by omega) with ⟨e1, e2⟩ | ⟨e1, e2, e3⟩
      · rw [e2]
        refine ⟨fun _ => ?_, fun z => absurd rfl z⟩
        rw [if_neg (fun z => z.1 e1)] at hh
        rw [iv_s]
        exact ih (i + 1) Y C1 r (by omega) hK hBY h7Y hr hkY hvY hh
      · rw [e2]
        refine ⟨fun z => ?_, fun _ => ⟨4 * c + i, four_at c i, by omega, fun z => ?_, fun z => ?_⟩⟩
        · exfalso
          rw [show (-1 : Int32) = iv (-1) from rfl, iv_inj (by omega) (by omega)] at z
          omega
        · rw [(hF.keep hK).2 _ (by omega)] at z
          rw [if_neg (fun y => by rw [y.2] at z; exact z rfl)] at hh
          rw [iv_s]
          exact ih (i + 1) Y C1 r (by omega) hK hBY h7Y hr hkY hvY hh
        · rw [(hF.keep hK).2 _ (by omega)] at z
          have hf : F.2 (4 * c + i) = false := by
            cases y : F.2 (4 * c + i)
            · rfl
            · rw [y] at z
              exact absurd z (by decide)
          rw [if_pos ⟨e1, hf⟩] at hh
          have m1 := (mu1_in hc).2
          have m2 := (mu1_in e3).1
          have hf2 := c0_find (g := g) (d := d) (Q := fun M2 => zW shC g (d + 1) mX0_leave (zv Q) 24 [(0, .ref 123), (1, .ref 1), (2, .int (iv c)), (3, .int (iv i + 1))] [] M2) (u := c + 64) (t := goV w c i) h7Y ha hBY.2.2.2.2.1 (by omega) (by omega) hlY (fun y => hBY.room (by omega) y) fun C2 r2 hK2 h72 hr2 => by
            have hg2 : grew Y (cbS (c + 64) (goV w c i) Y) := cb_grew
            rw [iv_s]
            exact ih (i + 1) _ C2 r2 (by omega) (hK.trans hK2) (cb_inv hBY hkY hvY (nodeE hgc.1 hgc.2).1 (adj_out (by omega) e1 hgc.1 hf)) h72 (by omega) (Nat.lt_of_lt_of_le hkY hg2.1) ((hg2.2 k hkY).trans hvY) hh
          rw [m1, m2] at hf2
          have e5 : (2 : Int32) * iv c + 1 = iv (2 * c + 1 : Nat) := by rw [two_c, iv_s]
          rw [two_c, e5]
          exact hf2
  unfold sprS at h
  rw [if_neg (by omega), show c + 64 - 64 = c by omega] at h
  have hlX := hB.len
  refine vX0_leave ⟨c, rfl, hc, fun z => ?_, fun z => ?_⟩
  · rw [hF.1 c hc] at z
    have hno : ¬ (F.1 c = true ∧ c ≠ a) := fun y => by
      rw [y.1] at z
      exact z rfl
    rw [if_neg hno] at h
    exact gX 4 0 X C q rfl K7.rfl hB h7 (Or.inl rfl) hk hv h
  · rw [hF.1 c hc] at z
    have hfc : F.1 c = true := by
      cases y : F.1 c
      · rw [y] at z
        exact absurd z (by decide)
      · rfl
    have hca : c ≠ a := fun y => by
      rw [y, hN.1] at hfc
      exact Bool.noConfusion hfc
    rw [if_pos ⟨hfc, hca⟩] at h
    have m1 := (mu1_in hc).2
    have m2 := (mu1_in hc).1
    have hf2 := c0_find (g := g) (d := d) (Q := fun M2 => zW shC g (d + 1) mX0_leave (zv Q) 24 [(0, .ref 123), (1, .ref 1), (2, .int (iv c)), (3, .int (iv (0 : Nat)))] [] M2) (u := c + 64) (t := c) h7 ha hB.2.2.2.2.1 (by omega) (by omega) hlX (fun y => hB.room (by omega) y) fun C2 r2 hK2 h72 hr2 => by
      have hg2 : grew X (cbS (c + 64) c X) := cb_grew
      exact gX 4 0 _ C2 r2 rfl hK2 (cb_inv hB hk hv (nodeE hc n2).1 (adj_same hc).2) h72 (by omega) (Nat.lt_of_lt_of_le hk hg2.1) ((hg2.2 k hk).trans hv) h
    rw [m1, m2] at hf2
    have e5 : (2 : Int32) * iv c + 1 = iv (2 * c + 1 : Nat) := by rw [two_c, iv_s]
    rw [two_c, iv_s]
    exact hf2
theorem back1 {i : Nat} (hi : i < 4) : (iv i + 2) - (iv i + 2) / 4 * 4 = iv ((i + 2) % 4 : Nat) := by
  rw [show (2 : Int32) = iv (2 : Nat) from rfl, iv_add, ← Int.natCast_add, eqI, ti_rem (by rw [iv_toInt (by omega) (by omega)]; omega) (by decide), iv_toInt (by omega) (by omega), iv_toInt (by omega) (by omega)]
  simp only [Int32.reduceToInt]
  omega
theorem c0_enter {Q : zM → Prop} {X : PSt} {F : FSt} {a q k c : Nat} (hi : IS w) (hS : RS C 1 w) (ha : a < 64) (hF : F7 C F) (hB : BI w F.2 a X) (h7 : B7 C X a q) (hk : k < X.2.length) (hc : c < 64) (hv : X.2.getD k 0 = c) (h : ∀ (C' : zM) (r : Nat), K7 C C' → B7 C' (sprS w F.1 F.2 a c X) a r → (r = q ∨ (q = 1000 ∧ k < r)) → Q C') : zCv shC g (d + 1) mX0_enter [.ref 123, .ref 1, .int (iv c)] C Q := by
  have hw := hi.1
  obtain ⟨⟨n1, n2⟩, n3, n4⟩ := hB.2.2.1 k hk
  rw [hv, show c % 64 = c by omega] at n2
  have gE : ∀ (n i : Nat) (Y : PSt) (C1 : zM) (r : Nat), i + n = 4 → K7 C C1 → BI w F.2 a Y → B7 C1 Y a r → (r = q ∨ (q = 1000 ∧ k < r)) → k < Y.2.length → Y.2.getD k 0 = c → (∀ (C' : zM) (r : Nat), K7 C C' → B7 C' (wayE w F.2 c n i Y) a r → (r = q ∨ (q = 1000 ∧ k < r)) → Q C') → zW shC g (d + 1) mX0_enter (zv Q) 23 [(0, .ref 123), (1, .ref 1), (2, .int (iv c)), (3, .int (iv i))] [] C1 := by
    intro n
    induction n with
    | zero =>
      intro i Y C1 r hi2 hK hBY h7Y hr _ _ hh
      obtain rfl : i = 4 := by omega
      exact vX0_enter_23 ⟨fun _ => hh C1 r hK h7Y hr, fun z => absurd (by decide) z⟩
    | succ n ih =>
      intro i Y C1 r hi2 hK hBY h7Y hr hkY hvY hh
      rw [wayE] at hh
      have hgc := goV_cell hw n2 hc (i := i)
      have hlY := hBY.len
      refine vX0_enter_23 ⟨fun z => (not_le_iv (a := 4) (b := i) (by omega) (by omega) z).elim, fun _ => c7_beside hi (hS.k7 hK) hc (by omega) ?_⟩
      rcases go_bes hw hc n2 (show i < 4 by omega) with ⟨e1, e2⟩ | ⟨e1, e2, e3⟩
      · rw [e2]
        refine ⟨fun _ => ?_, fun z => absurd rfl z⟩
        rw [if_neg (fun z => z.1 e1)] at hh
        rw [iv_s]
        exact ih (i + 1) Y C1 r (by omega) hK hBY h7Y hr hkY hvY hh
      · rw [e2]
        refine ⟨fun z => ?_, fun _ => vX0_back ?_⟩
        · exfalso
          rw [show (-1 : Int32) = iv (-1) from rfl, iv_inj (by omega) (by omega)] at z
          omega
        rw [back1 (by omega)]
        refine ⟨4 * goV w c i + (i + 2) % 4, four_at _ _, by omega, fun z => ?_, fun z => ?_⟩
        · rw [(hF.keep hK).2 _ (by omega)] at z
          rw [if_neg (fun y => by rw [y.2] at z; exact z rfl)] at hh
          rw [iv_s]
          exact ih (i + 1) Y C1 r (by omega) hK hBY h7Y hr hkY hvY hh
        · rw [(hF.keep hK).2 _ (by omega)] at z
          have hf : F.2 (4 * goV w c i + (i + 2) % 4) = true := by
            cases y : F.2 (4 * goV w c i + (i + 2) % 4)
            · rw [y] at z
              exact absurd z (by decide)
            · rfl
          rw [if_pos ⟨e1, hf⟩] at hh
          have m1 := (mu1_in hc).1
          have m2 := (mu1_in e3).2
          have hf2 := c0_find (g := g) (d := d) (Q := fun M2 => zW shC g (d + 1) mX0_enter (zv Q) 23 [(0, .ref 123), (1, .ref 1), (2, .int (iv c)), (3, .int (iv i + 1))] [] M2) (u := c) (t := goV w c i + 64) h7Y ha hBY.2.2.2.2.1 (by omega) (by omega) hlY (fun y => hBY.room (by omega) y) fun C2 r2 hK2 h72 hr2 => by
            have hg2 : grew Y (cbS c (goV w c i + 64) Y) := cb_grew
            rw [iv_s]
            exact ih (i + 1) _ C2 r2 (by omega) (hK.trans hK2) (cb_inv hBY hkY hvY (nodeE hgc.1 hgc.2).2 (adj_in hc (by omega) e1)) h72 (by omega) (Nat.lt_of_lt_of_le hkY hg2.1) ((hg2.2 k hkY).trans hvY) hh
          rw [m1, m2] at hf2
          rw [two_c, two_c, iv_s]
          exact hf2
  unfold sprS at h
  rw [if_pos hc] at h
  have hlX := hB.len
  refine vX0_enter ⟨c, rfl, hc, fun z => ?_, fun z => ?_⟩
  · rw [hF.1 c hc] at z
    have hfc : F.1 c = true := by
      cases y : F.1 c
      · rw [y] at z
        exact absurd rfl z
      · rfl
    rw [if_pos hfc] at h
    exact gE 4 0 X C q rfl K7.rfl hB h7 (Or.inl rfl) hk hv h
  · rw [hF.1 c hc] at z
    have hno : ¬ F.1 c = true := fun y => by
      rw [y] at z
      exact absurd z (by decide)
    rw [if_neg hno] at h
    have m1 := (mu1_in hc).1
    have m2 := (mu1_in hc).2
    have hf2 := c0_find (g := g) (d := d) (Q := fun M2 => zW shC g (d + 1) mX0_enter (zv Q) 23 [(0, .ref 123), (1, .ref 1), (2, .int (iv c)), (3, .int (iv (0 : Nat)))] [] M2) (u := c) (t := c + 64) h7 ha hB.2.2.2.2.1 (by omega) (by omega) hlX (fun y => hB.room (by omega) y) fun C2 r2 hK2 h72 hr2 => by
      have hg2 : grew X (cbS c (c + 64) X) := cb_grew
      exact gE 4 0 _ C2 r2 rfl hK2 (cb_inv hB hk hv (nodeE hc n2).2 (adj_same hc).1) h72 (by omega) (Nat.lt_of_lt_of_le hk hg2.1) ((hg2.2 k hk).trans hv) h
    rw [m1, m2] at hf2
    rw [two_c, iv_s]
    exact hf2
/-- the entry of a leads nowhere -/
theorem c0_dead {Q : zM → Prop} {X : PSt} {F : FSt} {a q : Nat} (hi : IS w) (hS : RS C 1 w) (ha : a < 64) (hca : cellB (w 150) (w 151) (iv a) = true) (hF : F7 C F) (hN : NI w a F) (hB : BI w F.2 a X) (h7 : B7 C X a q) (h : Q C) : zCv shC g (d + 1) mX0_enter [.ref 123, .ref 1, .int (iv a)] C Q := by
  have hw := hi.1
  have gE : ∀ (n i : Nat), i + n = 4 → zW shC g (d + 1) mX0_enter (zv Q) 23 [(0, .ref 123), (1, .ref 1), (2, .int (iv a)), (3, .int (iv i))] [] C := by
    intro n
    induction n with
    | zero =>
      intro i hi2
      obtain rfl : i = 4 := by omega
      exact vX0_enter_23 ⟨fun _ => h, fun z => absurd (by decide) z⟩
    | succ n ih =>
      intro i hi2
      have hgc := goV_cell hw hca ha (i := i)
      refine vX0_enter_23 ⟨fun z => (not_le_iv (a := 4) (b := i) (by omega) (by omega) z).elim, fun _ => c7_beside hi hS ha (by omega) ?_⟩
      rcases go_bes hw ha hca (show i < 4 by omega) with ⟨e1, e2⟩ | ⟨e1, e2, e3⟩
      · rw [e2]
        refine ⟨fun _ => ?_, fun z => absurd rfl z⟩
        rw [iv_s]
        exact ih (i + 1) (by omega)
      · rw [e2]
        refine ⟨fun z => ?_, fun _ => vX0_back ?_⟩
        · exfalso
          rw [show (-1 : Int32) = iv (-1) from rfl, iv_inj (by omega) (by omega)] at z
          omega
        have hb := (go_dir hw ha hca (show i < 4 by omega) e1).2
        have hno := hN.2 (goV w a i) ((i + 2) % 4) e3 (by omega) hgc.2 hb e1
        rw [back1 (by omega)]
        refine ⟨4 * goV w a i + (i + 2) % 4, four_at _ _, by omega, fun z => ?_, fun z => ?_⟩
        · rw [iv_s]
          exact ih (i + 1) (by omega)
        · rw [hF.2 _ (by omega), hno] at z
          exact absurd z (by decide)
  have h64 : cbS a (a + 64) X = X := cb_no (by rw [hB.2.2.2.2.2.1]; exact fun z => by cases z)
  refine vX0_enter ⟨a, rfl, ha, fun z => ?_, fun z => ?_⟩
  · rw [hF.1 a ha, hN.1] at z
    exact absurd rfl z
  · refine vX0_find ⟨2 * a + 1, by rw [two_c, iv_s], by omega, fun _ => gE 4 0 rfl, fun z2 => ?_⟩
    exfalso
    have e := h7.1 (a + 64) (by omega) (by omega)
    rw [(mu1_in ha).2, hB.2.2.2.2.2.1] at e
    rw [e] at z2
    have hm := mu1_lt (show a + 64 < 128 by omega)
    have z3 : iv (mu1 (a + 64) : Nat) = iv (-1) := z2
    rw [iv_inj (by omega) (by omega)] at z3
    omega
theorem c0_findsWay {Q : Bool → zM → Prop} {F : FSt} {a b : Nat} (hi : IS w) (hS : RS C 1 w) (ha : a < 64) (hca : cellB (w 150) (w 151) (iv a) = true) (hb : b < 64) (hba : b ≠ a) (hF : F7 C F) (hN : NI w a F) (h : ∀ (C' : zM) (r : Nat), K7 C C' → B7 C' (bfsS w F.1 F.2 a b) a r → Q (decide ((bfsS w F.1 F.2 a b).1 b ≠ none)) C') : zCz shC g (d + 2) mX0_findsWay [.ref 123, .ref 1, .int (iv a), .int (iv b)] C Q := by
  have hw := hi.1
  have fin : ∀ (X : PSt) (C1 : zM) (q : Nat), X = bfsS w F.1 F.2 a b → K7 C C1 → BI w F.2 a X → B7 C1 X a q → zW shC g (d + 2) mX0_findsWay (zz Q) 101 [(0, .ref 123), (3, .int (iv b))] [] C1 := by
    intro X C1 q hX hK hB h7
    rw [← hX] at h
    have e := h7.1 b (by omega) hba
    rw [(mu1_in hb).1] at e
    have h0 := h C1 q hK h7
    refine vX0_findsWay_101 ⟨2 * b, two_c b, by omega, fun z => ?_, fun z => ?_⟩
    · rw [e, opt7 (h7.2.1 b)] at z
      exact dF h0 fun y => y z
    · rw [e, opt7 (h7.2.1 b)] at z
      exact dT h0 z
  -- the entry of a lies behind
  have loopB : ∀ (f k q : Nat) (X : PSt) (C1 : zM), k + f = 128 → q ≤ k → K7 C C1 → BI w F.2 a X → B7 C1 X a q → bfsF w F.1 F.2 a b f k X = bfsS w F.1 F.2 a b → zW shC g (d + 2) mX0_findsWay (zz Q) 30 [(0, .ref 123), (1, .ref 1), (3, .int (iv b)), (4, .int (iv (k + 1 : Nat)))] [] C1 := by
    intro f
    induction f with
    | zero =>
      intro k q X C1 hk hqk hK hB h7 hX
      have hl := hB.len
      refine vX0_findsWay_30 ⟨fun _ => fin X C1 q hX hK hB h7, fun z => absurd ?_ z⟩
      rcases h7.2.2 with ⟨p1, p2, p3, p4⟩ | ⟨p1, p2, p3, p4, p5, p6⟩
      · rw [p3]
        exact le_iv_of (by omega) (by omega)
      · rw [p3]
        exact le_iv_of (by omega) (by omega)
    | succ f ih =>
      intro k q X C1 hk hqk hK hB h7 hX
      have hl := hB.len
      have e126 := h7.1 b (by omega) hba
      rw [(mu1_in hb).1] at e126
      rw [bfsF] at hX
      rcases h7.2.2 with ⟨p1, p2, p3, p4⟩ | ⟨p1, p2, p3, p4, p5, p6⟩
      · omega
      refine vX0_findsWay_30 ⟨fun z => ?_, fun z => ⟨2 * b, two_c b, by omega, fun z2 => ?_, fun z2 => ⟨k + 1, rfl, (by
        rw [p3, Int32.le_iff_toInt_le, iv_toInt (by omega) (by omega), iv_toInt (by omega) (by omega)] at z
        omega), ?_⟩⟩⟩
      · rw [p3, Int32.le_iff_toInt_le, iv_toInt (by omega) (by omega), iv_toInt (by omega) (by omega)] at z
        rw [if_neg (fun y => by omega)] at hX
        exact fin X C1 q hX hK hB h7
      · rw [e126, opt7 (h7.2.1 b)] at z2
        rw [if_neg (fun y => z2 y.2)] at hX
        exact fin X C1 q hX hK hB h7
      · rw [p3, Int32.le_iff_toInt_le, iv_toInt (by omega) (by omega), iv_toInt (by omega) (by omega)] at z
        rw [e126, opt7 (h7.2.1 b)] at z2
        rw [if_pos ⟨by omega, z2⟩] at hX
        obtain ⟨⟨n1, n2⟩, n3, n4⟩ := hB.2.2.1 k (by omega)
        obtain ⟨hh1, hh2⟩ := half1 n1
        rw [p6 k (by omega) (by omega), hh2, hh1]
        have nx : ∀ (C2 : zM) (r : Nat), K7 C1 C2 → B7 C2 (sprS w F.1 F.2 a (X.2.getD k 0) X) a r → (r = q ∨ (q = 1000 ∧ k < r)) → zW shC g (d + 2) mX0_findsWay (zz Q) 30 [(0, .ref 123), (1, .ref 1), (3, .int (iv b)), (4, .int (iv (k + 1 : Nat) + 1))] [] C2 := by
          intro C2 r hK2 h72 hr
          rw [iv_s]
          exact ih (k + 1) r _ C2 (by omega) (by omega) (hK.trans hK2) (sprS_inv hw hB (by omega) rfl).1 h72 hX
        refine ⟨fun z3 => ?_, fun z3 => ?_⟩
        · have hlt : X.2.getD k 0 < 64 := by
            refine Nat.lt_of_not_le fun y => z3 ?_
            rw [show X.2.getD k 0 / 64 = 1 by omega]
            rfl
          rw [show X.2.getD k 0 % 64 = X.2.getD k 0 by omega]
          exact c0_enter (F := F) (k := k) hi (hS.k7 hK) ha (hF.keep hK) hB h7 (by omega) hlt rfl nx
        · rw [show (1 : Int32) = iv 1 from rfl, iv_inj (by omega) (by omega)] at z3
          have e64 : X.2.getD k 0 = X.2.getD k 0 % 64 + 64 := by omega
          refine c0_leave (F := F) (k := k) hi (hS.k7 hK) ha (hF.keep hK) hN hB h7 (by omega) (by omega) e64 ?_
          rw [← e64]
          exact nx
  have loopA : ∀ (f k q : Nat) (X : PSt) (C1 : zM), k + f = 128 → k ≤ q → K7 C C1 → BI w F.2 a X → B7 C1 X a q → bfsF w F.1 F.2 a b f k X = bfsS w F.1 F.2 a b → zW shC g (d + 2) mX0_findsWay (zz Q) 30 [(0, .ref 123), (1, .ref 1), (3, .int (iv b)), (4, .int (iv k))] [] C1 := by
    intro f
    induction f with
    | zero =>
      intro k q X C1 hk hqk hK hB h7 hX
      have hl := hB.len
      refine vX0_findsWay_30 ⟨fun _ => fin X C1 q hX hK hB h7, fun z => absurd ?_ z⟩
      rcases h7.2.2 with ⟨p1, p2, p3, p4⟩ | ⟨p1, p2, p3, p4, p5, p6⟩
      · rw [p3]
        exact le_iv_of (by omega) (by omega)
      · rw [p3]
        exact le_iv_of (by omega) (by omega)
    | succ f ih =>
      intro k q X C1 hk hqk hK hB h7 hX
      have hl := hB.len
      have e126 := h7.1 b (by omega) hba
      rw [(mu1_in hb).1] at e126
      have hX0 := hX
      rw [bfsF] at hX
      -- the node at k, if it isn't the entry of a
      have step : k < X.2.length → X.1 b = none → C1 127 k = iv (mu1 (X.2.getD k 0) : Nat) → (∀ r, (r = q ∨ (q = 1000 ∧ k < r)) → k + 1 ≤ r) → (¬ ((C1 127 k) - (C1 127 k) / 2 * 2) = 1 → zCv shC g (d + 1) mX0_enter [.ref 123, .ref 1, .int ((C1 127 k) / 2)] C1 (fun M1 => zW shC g (d + 2) mX0_findsWay (zz Q) 30 [(0, .ref 123), (1, .ref 1), (3, .int (iv b)), (4, .int (iv k + 1))] [] M1)) ∧ (((C1 127 k) - (C1 127 k) / 2 * 2) = 1 → zCv shC g (d + 1) mX0_leave [.ref 123, .ref 1, .int ((C1 127 k) / 2)] C1 (fun M1 => zW shC g (d + 2) mX0_findsWay (zz Q) 30 [(0, .ref 123), (1, .ref 1), (3, .int (iv b)), (4, .int (iv k + 1))] [] M1)) := by
        intro hkl hnone hnode hrk
        rw [if_pos ⟨hkl, hnone⟩] at hX
        obtain ⟨⟨n1, n2⟩, n3, n4⟩ := hB.2.2.1 k hkl
        obtain ⟨hh1, hh2⟩ := half1 n1
        rw [hnode, hh2, hh1]
        have nx : ∀ (C2 : zM) (r : Nat), K7 C1 C2 → B7 C2 (sprS w F.1 F.2 a (X.2.getD k 0) X) a r → (r = q ∨ (q = 1000 ∧ k < r)) → zW shC g (d + 2) mX0_findsWay (zz Q) 30 [(0, .ref 123), (1, .ref 1), (3, .int (iv b)), (4, .int (iv k + 1))] [] C2 := by
          intro C2 r hK2 h72 hr
          rw [iv_s]
          exact ih (k + 1) r _ C2 (by omega) (hrk r hr) (hK.trans hK2) (sprS_inv hw hB hkl rfl).1 h72 hX
        refine ⟨fun z3 => ?_, fun z3 => ?_⟩
        · have hlt : X.2.getD k 0 < 64 := by
            refine Nat.lt_of_not_le fun y => z3 ?_
            rw [show X.2.getD k 0 / 64 = 1 by omega]
            rfl
          rw [show X.2.getD k 0 % 64 = X.2.getD k 0 by omega]
          exact c0_enter (F := F) (k := k) hi (hS.k7 hK) ha (hF.keep hK) hB h7 hkl hlt rfl nx
        · rw [show (1 : Int32) = iv 1 from rfl, iv_inj (by omega) (by omega)] at z3
          have e64 : X.2.getD k 0 = X.2.getD k 0 % 64 + 64 := by omega
          refine c0_leave (F := F) (k := k) hi (hS.k7 hK) ha (hF.keep hK) hN hB h7 hkl (by omega) e64 ?_
          rw [← e64]
          exact nx
      rcases h7.2.2 with ⟨p1, p2, p3, p4⟩ | ⟨p1, p2, p3, p4, p5, p6⟩
      · refine vX0_findsWay_30 ⟨fun z => ?_, fun z => ⟨2 * b, two_c b, by omega, fun z2 => ?_, fun z2 => ⟨k, rfl, by omega, ?_⟩⟩⟩
        · rw [p3, Int32.le_iff_toInt_le, iv_toInt (by omega) (by omega), iv_toInt (by omega) (by omega)] at z
          rw [if_neg (fun y => by omega)] at hX
          exact fin X C1 q hX hK hB h7
        · rw [e126, opt7 (h7.2.1 b)] at z2
          rw [if_neg (fun y => z2 y.2)] at hX
          exact fin X C1 q hX hK hB h7
        · rw [p3, Int32.le_iff_toInt_le, iv_toInt (by omega) (by omega), iv_toInt (by omega) (by omega)] at z
          rw [e126, opt7 (h7.2.1 b)] at z2
          exact step (by omega) z2 (p4 k (by omega)) fun r hr => by omega
      · refine vX0_findsWay_30 ⟨fun z => ?_, fun z => ⟨2 * b, two_c b, by omega, fun z2 => ?_, fun z2 => ⟨k, rfl, by omega, ?_⟩⟩⟩
        · exfalso
          rw [p3, Int32.le_iff_toInt_le, iv_toInt (by omega) (by omega), iv_toInt (by omega) (by omega)] at z
          omega
        · rw [e126, opt7 (h7.2.1 b)] at z2
          rw [if_neg (fun y => z2 y.2)] at hX
          exact fin X C1 q hX hK hB h7
        · rw [e126, opt7 (h7.2.1 b)] at z2
          by_cases hkq : k = q
          · have en : C1 127 k = iv (mu1 a : Nat) := by rw [hkq, p4, (mu1_in ha).1]
            obtain ⟨hh1, hh2⟩ := half1 (show a < 128 by omega)
            rw [en, hh2, hh1, show a % 64 = a by omega, show a / 64 = 0 by omega]
            refine ⟨fun _ => c0_dead (F := F) hi (hS.k7 hK) ha hca (hF.keep hK) hN hB h7 ?_, fun y => absurd y (by decide)⟩
            rw [iv_s]
            exact loopB (f + 1) k q X C1 hk (by omega) hK hB h7 hX0
          · exact step (by omega) z2 (p5 k (by omega)) fun r hr => by omega
  have ex : cbS (a + 64) (a + 64) (fun k => if k = a then some a else none, []) = bfs0 a := by
    rw [cb_yes (if_neg (by omega))]
    unfold bfs0
    congr 1
    funext k
    show (if k = a + 64 then some (a + 64) else if k = a then some a else none) = (if k = a then some a else if k = a + 64 then some (a + 64) else none)
    by_cases e : k = a
    · rw [if_neg (by omega), if_pos e, if_pos e]
    · rw [if_neg e, if_neg e]
  have e5 : (2 : Int32) * iv a + 1 = iv (mu1 (a + 64) : Nat) := by rw [two_c, iv_s, (mu1_in ha).2]
  refine vX0_findsWay (c_fill (n := 128) (l := []) rfl (by decide) ?_)
  rw [e5]
  refine c0_find (X := (fun k => if k = a then some a else none, [])) (a := a) (q := 1000) ⟨fun v hv hva => ?_, fun v u hvu => ?_, Or.inl ⟨rfl, ?_, ?_, fun j hj => absurd hj (Nat.not_lt_zero j)⟩⟩ ha (if_pos rfl) (by omega) (by omega) (Nat.zero_le _) (fun _ => Nat.zero_le _) fun C2 r hK2 h72 hr => ?_
  · show _ = optI ((if v = a then some a else none).map mu1)
    rw [if_neg hva, zup_oth (by decide), zfill_at (mu1_lt hv)]
    rfl
  · have hvu2 : (if v = a then some a else none) = some u := hvu
    by_cases e : v = a
    · rw [if_pos e] at hvu2
      cases hvu2
      omega
    · rw [if_neg e] at hvu2
      cases hvu2
  · rw [zup_oth (by decide), zfill_at (by omega)]
  · rw [zup_same]
    rfl
  · rw [ex] at h72
    refine loopA 128 0 r (bfs0 a) C2 rfl (Nat.zero_le r) ⟨fun o q1 q2 q3 => ?_, fun j hj => ?_⟩ (bfs0_inv ha hca) h72 rfl
    · rw [hK2.1 o q1 q2 q3, zup_oth q1]
      funext j
      simp only [zfill, q2, false_and, if_false]
    · rw [hK2.2 j hj, zup_ne (Or.inr hj)]
      simp only [zfill, show ¬ (123 : Nat) = 126 by decide, false_and, if_false]
theorem c0_direction {Q : Int32 → zM → Prop} {c e : Nat} (hc : c < 64) (he : e < 64) (h : Q (iv (dirN c e : Nat)) C) : zCi shC g d mX0_direction [.int (iv c), .int (iv e)] C Q := by
  unfold dirN at h
  refine vX0_direction ?_
  rw [(dm8 hc).1, (dm8 he).1]
  simp only [Int32.le_iff_toInt_le]
  rw [iv_toInt (by omega) (by omega), iv_toInt (by omega) (by omega)]
  refine ⟨fun z => ⟨fun z2 => ?_, fun z2 => ?_⟩, fun z => ⟨fun z2 => ?_, fun z2 => ?_⟩⟩
  · rw [iv_inj (by omega) (by omega)] at z
    rw [if_pos (by omega), if_pos (by omega)] at h
    exact h
  · rw [iv_inj (by omega) (by omega)] at z
    rw [if_pos (by omega), if_neg (by omega)] at h
    exact h
  · rw [iv_inj (by omega) (by omega)] at z
    rw [if_neg (by omega), if_pos (by omega)] at h
    exact h
  · rw [iv_inj (by omega) (by omega)] at z
    rw [if_neg (by omega), if_neg (by omega)] at h
    exact h
theorem c0_turn {Q : zM → Prop} {F : FSt} {u v : Nat} (hu : u < 128) (hv : v < 128) (hne : u ≠ v) (hF : F7 C F) (h : ∀ C' : zM, (∀ o, o ≠ 124 → o ≠ 125 → C' o = C o) → F7 C' (trn1 u v F) → Q C') : zCv shC g (d + 1) mX0_turn [.ref 123, .int (iv (mu1 u : Nat)), .int (iv (mu1 v : Nat))] C Q := by
  obtain ⟨u1, u2⟩ := half1 hu
  obtain ⟨v1, v2⟩ := half1 hv
  unfold trn1 at h
  have d1 : ∀ x y : Nat, dirN x y < 4 := fun x y => by
    unfold dirN
    split <;> split <;> omega
  have d4 := d1 (u % 64) (v % 64)
  have d5 := d1 (v % 64) (u % 64)
  refine vX0_turn ?_
  rw [u2, v2, u1, v1]
  refine ⟨fun z => ⟨fun z2 => c0_direction (by omega) (by omega) ⟨4 * (v % 64) + dirN (v % 64) (u % 64), four_at _ _, by omega, ?_⟩, fun z2 => c0_direction (by omega) (by omega) ⟨4 * (u % 64) + dirN (u % 64) (v % 64), four_at _ _, by omega, ?_⟩⟩, fun z => ⟨v % 64, rfl, by omega, ?_⟩⟩
  · have hs : ¬ u % 64 = v % 64 := fun y => z (by rw [y])
    have hlt : ¬ 64 ≤ u := fun y => z2 (by rw [show u / 64 = 1 by omega]; rfl)
    rw [if_neg hs, if_neg hlt] at h
    refine h _ (fun o a b => zup_oth a) ⟨fun c hc => ?_, fun j hj => ?_⟩
    · rw [zup_oth (by decide)]
      exact hF.1 c hc
    · show _ = zbI (setB1 F.2 _ false j)
      by_cases ej : j = 4 * (v % 64) + dirN (v % 64) (u % 64)
      · rw [ej, zup_same, setB1_at]
        rfl
      · rw [zup_ne (Or.inr ej), setB1_ne ej]
        exact hF.2 j hj
  · have hs : ¬ u % 64 = v % 64 := fun y => z (by rw [y])
    rw [show (1 : Int32) = iv 1 from rfl, iv_inj (by omega) (by omega)] at z2
    rw [if_neg hs, if_pos (by omega)] at h
    refine h _ (fun o a b => zup_oth a) ⟨fun c hc => ?_, fun j hj => ?_⟩
    · rw [zup_oth (by decide)]
      exact hF.1 c hc
    · show _ = zbI (setB1 F.2 _ true j)
      by_cases ej : j = 4 * (u % 64) + dirN (u % 64) (v % 64)
      · rw [ej, zup_same, setB1_at]
        rfl
      · rw [zup_ne (Or.inr ej), setB1_ne ej]
        exact hF.2 j hj
  · rw [iv_inj (by omega) (by omega)] at z
    rw [if_pos (by omega)] at h
    refine h _ (fun o a b => zup_oth b) ⟨fun c hc => ?_, fun j hj => ?_⟩
    · show _ = zbI (setB1 F.1 (u % 64) (decide (u < 64)) c)
      by_cases ec : c = v % 64
      · rw [ec, zup_same, show v % 64 = u % 64 by omega, setB1_at]
        by_cases c2 : u < 64
        · rw [decide_eq_true c2, show v / 64 = 1 by omega]
          rfl
        · rw [decide_eq_false c2, show v / 64 = 0 by omega]
          rfl
      · rw [zup_ne (Or.inr ec), setB1_ne (by omega)]
        exact hF.1 c hc
    · rw [zup_oth (by decide)]
      exact hF.2 j hj
theorem c0_addWay {Q : zM → Prop} {X : PSt} {a q : Nat} {fl : Nat → Bool} (ha : a < 64) (hB : BI w fl a X) (h7 : B7 C X a q) : ∀ (f i j v : Nat) (F : FSt) (C1 : zM), i + f = 128 → j < f → j < X.2.length → X.2.getD j 0 = v → (∀ o, o ≠ 124 → o ≠ 125 → C1 o = C o) → F7 C1 F → (∀ C' : zM, (∀ o, o ≠ 124 → o ≠ 125 → C' o = C o) → F7 C' (trnF a X.1 f v F) → Q C') → zW shC g (d + 2) mX0_addWay (zv Q) 7 [(0, .ref 123), (1, .int (iv a)), (3, .int (iv (mu1 v : Nat))), (4, .int (iv i))] [] C1
  | 0, i, j, _, _, _, _, hj, _, _, _, _, _ => absurd hj (Nat.not_lt_zero j)
  | f + 1, i, j, v, F, C1, hif, hj, hjl, hv, ho, hF, h => by
    obtain ⟨⟨p1, pc⟩, p2, p3⟩ := hB.2.2.1 j hjl
    rw [hv] at p1 p2 p3 pc
    have hmv := mu1_lt p1
    have e5 : (2 : Int32) * iv a + 1 = iv (mu1 (a + 64) : Nat) := by rw [two_c, iv_s, (mu1_in ha).2]
    have hma := mu1_lt (show a + 64 < 128 by omega)
    rw [trnF] at h
    by_cases hv64 : v = a + 64
    · rw [if_pos hv64] at h
      refine vX0_addWay_7 ⟨fun _ => h C1 ho hF, fun _ => ⟨fun _ => h C1 ho hF, fun z => absurd ?_ z⟩⟩
      rw [e5, hv64]
    · rw [if_neg hv64] at h
      have hj0 : 0 < j := Nat.pos_of_ne_zero fun z => hv64 (by rw [← hv, z]; exact hB.2.2.2.2.2.2.2)
      obtain ⟨i2, h1, h2, h5⟩ := hB.2.2.2.1.1 j hj0 hjl
      rw [hv] at h2 h5
      obtain ⟨⟨q1, qc⟩, q2, q3⟩ := hB.2.2.1 i2 (by omega)
      obtain ⟨u, hu⟩ : ∃ u, u = X.2.getD i2 0 := ⟨_, rfl⟩
      rw [← hu] at q1 q2 q3 h2 h5 qc
      rw [h2] at h
      have hh : ∀ C' : zM, (∀ o, o ≠ 124 → o ≠ 125 → C' o = C o) → F7 C' (trnF a X.1 f u (trn1 u v F)) → Q C' := h
      have e126 : C1 126 (mu1 v) = iv (mu1 u : Nat) := by
        rw [ho 126 (by decide) (by decide), h7.1 v p1 p2, h2]
        rfl
      have hne : u ≠ v := by
        rcases h5 with ⟨_, e⟩ | ⟨e1, e2, _⟩ | ⟨e1, e2, _⟩
        · exact e
        · omega
        · omega
      refine vX0_addWay_7 ⟨fun z => ?_, fun _ => ⟨fun z => ?_, fun _ => ⟨mu1 v, rfl, hmv, ?_⟩⟩⟩
      · exact (not_le_iv (a := 128) (b := i) (by omega) (by omega) z).elim
      · exfalso
        rw [e5, iv_inj (by omega) (by omega)] at z
        exact hv64 (mu1_inj p1 (by omega) (by omega))
      · rw [e126]
        refine c0_turn q1 p1 hne hF fun C2 ho2 hF2 => ?_
        rw [iv_s]
        exact c0_addWay ha hB h7 f (i + 1) i2 u _ C2 (by omega) (by omega) (by omega) hu.symm (fun o a b => (ho2 o a b).trans (ho o a b)) hF2 hh
theorem c8_parts {Q : Int32 → zM → Prop} {a b : Int32} (hi : IS w) (hS : RS C 1 w) (h : ∀ C' : zM, CEq C C' → Q (partsV w a b) C') : zCi shC g (d + 4) mX8_parts [.ref 0, .int a, .int b] C Q := by
  have hw := hi.1
  unfold partsV at h
  have h0 := h C CEq.rfl
  refine vX8_parts (c7_isCell hS ⟨fun hb => ?_, fun hca => c7_isCell hS ⟨fun hb => ?_, fun hcb => ?_⟩⟩)
  · rw [if_neg (fun z => by rw [hb] at z; exact Bool.noConfusion z.1)] at h0
    exact h0
  · rw [if_neg (fun z => by rw [hb] at z; exact Bool.noConfusion z.2.1)] at h0
    exact h0
  · obtain ⟨x, rfl, hx⟩ := cell_nat hca
    obtain ⟨y, rfl, hy⟩ := cell_nat hcb
    have hdl := distN_le (a := x) (b := y) hx hy
    rw [iv_tn (by omega), iv_tn (by omega)] at h h0
    refine c8_distance hx hy ⟨fun q => ?_, fun q => ?_⟩
    · rw [show (2 : Int32) = iv (2 : Nat) from rfl, Int32.le_iff_toInt_le, iv_toInt (by omega) (by omega), iv_toInt (by omega) (by omega)] at q
      rw [if_pos ⟨hca, hcb, by omega⟩] at h
      have hyx : y ≠ x := fun z => by
        have : distN x y = 0 := by
          rw [z]
          unfold distN
          omega
        omega
      have main : ∀ (f n : Nat) (F : FSt) (C1 : zM), n + f = 5 → f ≠ 0 → (∀ o, o < 123 ∨ 127 < o → C1 o = C o) → F7 C1 F → NI w x F → cntB (fun i => F.2 (4 * x + i)) 4 = n → prtF w x y f n F = prtF w x y 5 0 (fun _ => false, fun _ => false) → zW shC g (d + 3) mX0_between (zi Q) 22 [(0, .ref 123), (1, .ref 1), (2, .int (iv x)), (3, .int (iv y)), (4, .int (iv n)), (5, .int (iv n))] [] C1 := by
        intro f
        induction f with
        | zero => intro n F C1 hn hf0 _ _ _ _ _; exact absurd rfl hf0
        | succ f ih =>
          intro n F C1 hn _ ho hF hN hcnt hP
          have hm : CEq C C1 := fun o a _ _ _ _ => ho o (by omega)
          have hS1 : RS C1 1 w := hS.keepb fun o a b _ _ => ho o (by omega)
          rw [prtF] at hP
          by_cases hn4 : n = 4
          · subst hn4
            have hall : ∀ i, i < 4 → F.2 (4 * x + i) = true := by
              intro i hi4
              cases z : F.2 (4 * x + i)
              · have := cntB_lt (p := fun i => F.2 (4 * x + i)) (k := i) (n := 4) hi4 z
                omega
              · rfl
            have hnone := bfs_full (w := w) (fo := F.1) (fl := F.2) (a := x) (b := y) hN.1 hall hyx (by omega)
            rw [if_pos hnone] at hP
            refine vX0_between_22 ⟨fun _ => ?_, fun z => absurd (by decide) z⟩
            have h9 := h C1 hm
            rw [← hP] at h9
            exact h9
          · refine vX0_between_22 ⟨fun z => (not_le_iv (a := 4) (b := n) (by omega) (by omega) z).elim, fun _ => c0_findsWay (F := F) hi hS1 hx hca hy hyx hF hN fun C2 r hK2 h72 => ?_⟩
            have hB := bfsS_inv (w := w) (fo := F.1) (fl := F.2) (a := x) (b := y) hw hx hca
            have ho2 : ∀ o, o < 123 ∨ 127 < o → C2 o = C o := fun o a => (hK2.1 o (by omega) (by omega) (by omega)).trans (ho o a)
            refine ⟨fun z => ?_, fun z => ?_⟩
            · have hz : (bfsS w F.1 F.2 x y).1 y = none := Decidable.not_not.mp (of_decide_eq_false z)
              rw [if_pos hz] at hP
              have h9 := h C2 (fun o a _ _ _ _ => ho2 o (by omega))
              rw [← hP] at h9
              exact h9
            · have hz := of_decide_eq_true z
              rw [if_neg hz] at hP
              rcases hB.2.2.2.1.2 y hz with e | ⟨j, j1, j2⟩
              · exact absurd e hyx
              · have hl := hB.len
                obtain ⟨k1, i, i1, i2, i3, i4⟩ := trn_keep (X := bfsS w F.1 F.2 x y) hw hB hx 128 j y F (by omega) j1 j2 (by omega) hN fun _ _ => rfl
                have e2 : (2 : Int32) * iv y = iv (mu1 y : Nat) := by rw [two_c, (mu1_in hy).1]
                refine vX0_addWay ?_
                rw [e2]
                refine c0_addWay (C := C2) (X := bfsS w F.1 F.2 x y) (fl := F.2) hx hB h72 128 0 j y F C2 rfl (by omega) j1 j2 (fun _ _ _ => rfl) (hF.keep hK2) fun C3 ho3 hF3 => ?_
                rw [iv_s]
                refine ih (n + 1) _ C3 (by omega) (by omega) (fun o a => (ho3 o (by omega) (by omega)).trans (ho2 o a)) hF3 k1 ?_ hP
                rw [← hcnt]
                exact cntB_one (k := i) 4 i1 i2 i3 fun j hj hji => i4 j hj hji
      refine vX0_between (c_fill (n := 256) (l := []) rfl (by decide) (c_fill (n := 64) (l := []) rfl (by decide) ?_))
      refine main 5 0 (fun _ => false, fun _ => false) _ rfl (by decide) (fun o ho => ?_) ⟨fun c hc => ?_, fun j hj => ?_⟩ ⟨rfl, fun _ _ _ _ _ _ _ => rfl⟩ rfl rfl
      · funext j
        simp only [zfill, show ¬ o = 125 by omega, show ¬ o = 124 by omega, false_and, if_false]
      · rw [zfill_at hc]
        rfl
      · have e : zfill (zfill C 124 256 0) 125 64 0 124 j = zfill C 124 256 0 124 j := by
          simp only [zfill, show ¬ (124 : Nat) = 125 by decide, false_and, if_false]
        rw [e, zfill_at hj]
        rfl
    · rw [show (2 : Int32) = iv (2 : Nat) from rfl, Int32.le_iff_toInt_le, iv_toInt (by omega) (by omega), iv_toInt (by omega) (by omega)] at q
      rw [if_neg (fun z => by omega)] at h0
      exact h0
end PA7
