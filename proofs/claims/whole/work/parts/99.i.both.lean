/-! BOTH SIDES, METHOD BY METHOD: the class answers, then the reference from its own contents answers the same, and both stand related again -/
def JI (gC gM : zG) (m8 m9 : zMi) (as : List Value) (C M : zM) : Prop := zCi shC gC 60 m8 (.ref 0 :: as) C (fun x C1 => zCi shM gM 60 m9 (.ref 0 :: as) M (fun y M1 => y = x ∧ RR C1 M1))
def JZ (gC gM : zG) (m8 m9 : zMi) (as : List Value) (C M : zM) : Prop := zCz shC gC 60 m8 (.ref 0 :: as) C (fun x C1 => zCz shM gM 60 m9 (.ref 0 :: as) M (fun y M1 => y = x ∧ RR C1 M1))
def JL (gC gM : zG) (m8 m9 : zMi) (as : List Value) (C M : zM) : Prop := zCl shC gC 60 m8 (.ref 0 :: as) C (fun x C1 => zCl shM gM 60 m9 (.ref 0 :: as) M (fun y M1 => y = x ∧ RR C1 M1))
section JJ
variable {gC gM : zG} {C M : zM}
theorem j_state {v : Int32} (h : RR C M) : JI gC gM mX8_state mX9_state [.int v] C M := c8_state h (fun C1 h1 => c9_state  ⟨rfl, h1⟩)
theorem j_basin {a : Int32} {b : Int32} (h : RR C M) : JZ gC gM mX8_basin mX9_basin [.int a, .int b] C M := c8_basin h (fun C1 h1 => c9_basin h.1.2 ⟨rfl, h1⟩)
theorem j_skater {a : Int32} {b : Int32} (h : RR C M) : JI gC gM mX8_skater mX9_skater [.int a, .int b] C M := c8_skater h (fun C1 h1 => c9_skater h.is ⟨rfl, h1⟩)
theorem j_set {a : Int32} {b : Int32} {c : Int32} (h : RR C M) : JZ gC gM mX8_set mX9_set [.int a, .int b, .int c] C M := c8_set h (fun C1 h1 => c9_set h.is ⟨rfl, h1⟩)
theorem j_feed {a : Int32} {b : Int32} {c : Int32} {d : Int32} {e : Int32} (h : RR C M) : JI gC gM mX8_feed mX9_feed [.int a, .int b, .int c, .int d, .int e] C M := c8_feed h (fun C1 h1 => c9_feed h.2.2.2.2.1 ⟨rfl, h1⟩)
theorem j_end {a : Int32} (h : RR C M) : JZ gC gM mX8_end mX9_end [.int a] C M := c8_end h (fun C1 h1 => c9_end  ⟨rfl, h1⟩)
theorem j_undo (h : RR C M) : JZ gC gM mX8_undo mX9_undo [] C M := c8_undo h (fun C1 h1 => c9_undo h.2.2.1.2.1 ⟨rfl, h1⟩)
theorem j_image {t : Bool} (h : RR C M) : JZ gC gM mX8_image mX9_image [.int (zbI t)] C M := c8_image h (fun C1 h1 => c9_image h.1.2 h.2.1.1 ⟨rfl, h1⟩)
theorem j_minutes {n : Int32} (h : RR C M) : JI gC gM mX8_minutes mX9_minutes [.int n] C M := c8_minutes h (fun C1 h1 => c9_minutes h.is h.mo h.bk h.2.2.1.2.1 (fun M1 hM => ⟨rfl, h1.meq hM⟩))
theorem j_fault {a : Int32} (h : RR C M) : JI gC gM mX8_fault mX9_fault [.int a] C M := c8_fault h (c9_fault ⟨rfl, h⟩)
theorem j_look {a : Int32} (h : RR C M) : JI gC gM mX8_look mX9_look [.int a] C M := c8_look h (c9_look h.is ⟨rfl, h⟩)
theorem j_goes {a : Int32} (h : RR C M) : JL gC gM mX8_goes mX9_goes [.int a] C M := c8_goes h (fun C1 h1 => c9_goes h.is h.mo (fun M1 hM => ⟨rfl, h1.meq hM⟩))
theorem j_wants {a : Int32} (h : RR C M) : JI gC gM mX8_wants mX9_wants [.int a] C M := c8_wants h (fun C1 h1 => c9_wants h.is h.mo (fun M1 hM => ⟨rfl, h1.meq hM⟩))
theorem j_spoilt {a : Int32} (h : RR C M) : JI gC gM mX8_spoilt mX9_spoilt [.int a] C M := c8_spoilt h (fun C1 h1 => c9_spoilt h.is h.mo (fun M1 hM => ⟨rfl, h1.meq hM⟩))
theorem j_of {a : Int32} {b : Int32} (h : RR C M) : JI gC gM mX8_of mX9_of [.int a, .int b] C M := c8_of h.is h.mo h.rs h.rm (c9_of h.is h.mo ⟨rfl, h⟩)
theorem j_at {a : Int32} {b : Int32} (h : RR C M) : JI gC gM mX8_at mX9_at [.int a, .int b] C M := c8_at h.is h.rs h.rm (fun C1 hC => c9_at h.is (fun M1 hM => ⟨rfl, ((h.ceq hC).meq hM)⟩))
theorem j_cut {a : Int32} {b : Int32} (h : RR C M) : JI gC gM mX8_cut mX9_cut [.int a, .int b] C M := c8_cut h.is h.rs h.rm (fun C1 hC => c9_cut h.is (fun M1 hM => ⟨rfl, ((h.ceq hC).meq hM)⟩))
theorem j_letter {a : Int32} (h : RR C M) : JI gC gM mX8_letter mX9_letter [.int a] C M := c8_letter h.is h.rs (c9_letter h.is ⟨rfl, h⟩)
theorem j_want {a : Int32} {b : Int32} (h : RR C M) : JI gC gM mX8_want mX9_want [.int a, .int b] C M := c8_want h.is h.rs h.rm (c9_want h.is ⟨rfl, h⟩)
theorem j_book {a : Int32} {b : Int32} (h : RR C M) : JI gC gM mX8_book mX9_book [.int a, .int b] C M := c8_book h.mo h.bk h.rm h.1.1.2.2.2.2.2.2 (c9_book h.mo ⟨rfl, h⟩)
theorem j_read {a : Int32} (h : RR C M) : JI gC gM mX8_read mX9_read [.int a] C M := c8_read h.is h.rs h.rm (c9_read h.is ⟨rfl, h⟩)
theorem j_beneath {a : Int32} {b : Int32} (h : RR C M) : JI gC gM mX8_beneath mX9_beneath [.int a, .int b] C M := c8_beneath h.is h.rs h.rm (c9_beneath h.is ⟨rfl, h⟩)
theorem j_lookAt {a : Int32} (h : RR C M) : JI gC gM mX8_lookAt mX9_lookAt [.int a] C M := c8_lookAt h.is h.rs (c9_lookAt h.is ⟨rfl, h⟩)
theorem j_who {a : Int32} {b : Int32} (h : RR C M) : JI gC gM mX8_who mX9_who [.int a, .int b] C M := c8_who h.is h.rs h.rm (c9_who h.is ⟨rfl, h⟩)
theorem j_holds {a : Int32} {b : Int32} (h : RR C M) : JI gC gM mX8_holds mX9_holds [.int a, .int b] C M := c8_holds h.is h.rs (c9_holds h.is ⟨rfl, h⟩)
theorem j_parts {a : Int32} {b : Int32} (h : RR C M) : JI gC gM mX8_parts mX9_parts [.int a, .int b] C M := c8_parts h.is h.rs (fun C1 hC => c9_parts h.is (fun M1 hM => ⟨rfl, ((h.ceq hC).meq hM)⟩))
theorem j_yet {a : Int32} {b : Int32} {c : Int32} (h : RR C M) : JI gC gM mX8_yet mX9_yet [.int a, .int b, .int c] C M := c8_yet h.is h.mo h.rs h.rm (fun C1 hC => c9_yet h.is h.mo (fun M1 hM => ⟨rfl, ((h.ceq hC).meq hM)⟩))
theorem j_heard {a : Int32} {b : Int32} (h : RR C M) : JL gC gM mX8_heard mX9_heard [.int a, .int b] C M := c8_heard h.is h.mo h.rs h.rm (c9_heard h.is h.mo ⟨rfl, h⟩)
theorem j_route {a b : Int32} {x : Int64} (h : RR C M) : JI gC gM mX8_route mX9_route [.int a, .long x, .int b] C M := c8_route h.is h.mo h.rs h.rm (fun C1 hC => c9_route h.is h.mo (fun M1 hM => ⟨rfl, ((h.ceq hC).meq hM)⟩))
theorem j_soonest {b : Int32} {x : Int64} (h : RR C M) : JI gC gM mX8_soonest mX9_soonest [.long x, .int b] C M := c8_soonest h.is h.mo h.rs h.rm (fun C1 hC => c9_soonest h.is h.mo (fun M1 hM => ⟨rfl, ((h.ceq hC).meq hM)⟩))
theorem j_text {k : Int32} (h : RR C M) : JI gC gM mX8_text mX9_text [.int k] C M := by
  by_cases h0 : k = 0
  · subst h0
    obtain ⟨x, C1, M1, hr, k8, k9⟩ := s_text0 (g := gC) (g' := gM) h
    exact k8 50 _ (k9 48 _ ⟨rfl, hr⟩)
  by_cases h1 : k = 1
  · subst h1
    obtain ⟨x, C1, M1, hr, k8, k9⟩ := s_text1 (g := gC) (g' := gM) h
    exact k8 32 _ (k9 19 _ ⟨rfl, hr⟩)
  by_cases h2 : k = 2
  · subst h2
    obtain ⟨x, C1, M1, hr, k8, k9⟩ := s_text2 (g := gC) (g' := gM) h
    exact k8 53 _ (k9 49 _ ⟨rfl, hr⟩)
  by_cases h3 : k = 3
  · subst h3
    obtain ⟨x, C1, M1, hr, k8, k9⟩ := s_text3 (g := gC) (g' := gM) h
    exact k8 53 _ (k9 49 _ ⟨rfl, hr⟩)
  have hk : isInB k 0 3 = false := by
    unfold isInB
    rw [decide_eq_false_iff_not]
    rw [eqI] at h0 h1 h2 h3
    simp only [Int32.reduceToInt] at h0 h1 h2 h3 ⊢
    omega
  obtain ⟨C1, M1, hr, k8, k9⟩ := s_textN (g := gC) (g' := gM) h hk
  exact k8 57 _ (k9 59 _ ⟨rfl, hr⟩)
end JJ
