/-! WHAT THE TABLES SAY of the methods, links and fields; the shapes -/
theorem Met.mono {l : Launch} {y : MethodName} {ws : List Cond} {rm : Room} {Pc : Array Value → State → Prop} {Qc Qc2 : Array Value → State → Outcome → State → Prop} {mc ms : Nat} {free : Addr → Prop} (h : Met l y ws rm Pc Qc mc ms free) (hq : ∀ a st o t, Qc a st o t → Qc2 a st o t) : Met l y ws rm Pc Qc2 mc ms free := by
  intro p e ha hc hk s m args below hf happ hP hK
  obtain ⟨t, o, h1, h2, h3, h4, h5⟩ := h p e ha hc hk s m args below hf happ hP hK
  exact ⟨t, o, h1, h2, h3, hq _ _ _ _ h4, h5⟩
theorem zC.mono {sh : List zSh} {g : zG} {d : Nat} {m : zMi} {as : List Value} {M : zM} {Q Q2 : Option Value → zM → Prop} (h : zC sh g d m as M Q) (hq : ∀ r M1, Q r M1 → Q2 r M1) : zC sh g d m as M Q2 := Met.mono h fun _ _ _ _ q => by
  obtain ⟨⟨r, M1, h1, h2, h3⟩, h4⟩ := q
  exact ⟨⟨r, M1, h1, hq r M1 h2, h3⟩, h4⟩
theorem zW.sub {sh : List zSh} {g : zG} {d : Nat} {m : zMi} {Q : Option Value → zM → Prop} {pc : Nat} {lv lv2 : List (Nat × Value)} {st : List Value} {M : zM} (ks : List Nat) (hs : lv_pick lv ks = lv2) (h : zW sh g d m Q pc lv2 st M) : zW sh g d m Q pc lv st M := by
  intro p e s mid args below meth c H locs ls hh
  obtain ⟨hx, hb, hr, hk, hml, hown, hts, hE, hP, hS, hl⟩ := hh
  refine h p e s mid args below meth c H locs ls ⟨hx, hb, hr, hk, hml, hown, hts, hE, hP, hS, lv_sub hl ks ?_⟩
  rw [← hs]
  simp only [lv_pick, List.getElem?_map, List.map_filterMap]
theorem zW.mono {sh : List zSh} {g : zG} {d : Nat} {m : zMi} {Q Q2 : Option Value → zM → Prop} {pc : Nat} {lv : List (Nat × Value)} {st : List Value} {M : zM} (h : zW sh g d m Q pc lv st M) (hq : ∀ r M1, Q r M1 → Q2 r M1) : zW sh g d m Q2 pc lv st M := by
  intro p e s mid args below meth c H locs ls hh T hT X
  obtain ⟨t, a, o, b1, b2, ⟨⟨r, M1, q1, q2, q3⟩, q4⟩, b4⟩ := h p e s mid args below meth c H locs ls hh T hT X
  exact ⟨t, a, o, b1, b2, ⟨⟨r, M1, q1, hq r M1 q2, q3⟩, q4⟩, b4⟩
theorem z_topi {sh : List zSh} {g : zG} {d : Nat} {m : zMi} {Q : Option Value → zM → Prop} {pc : Nat} {lv : List (Nat × Value)} {st : List Value} {M : zM} {x : Int32} (y : Int32) (h : y = x) (k : zW sh g d m Q pc lv (.int y :: st) M) : zW sh g d m Q pc lv (.int x :: st) M := h ▸ k
abbrev zCi (sh : List zSh) (g : zG) (d : Nat) (m : zMi) (as : List Value) (M : zM) (Q : Int32 → zM → Prop) : Prop := zC sh g d m as M (zi Q)
abbrev zCz (sh : List zSh) (g : zG) (d : Nat) (m : zMi) (as : List Value) (M : zM) (Q : Bool → zM → Prop) : Prop := zC sh g d m as M (zz Q)
abbrev zCl (sh : List zSh) (g : zG) (d : Nat) (m : zMi) (as : List Value) (M : zM) (Q : Int64 → zM → Prop) : Prop := zC sh g d m as M (zl Q)
abbrev zCv (sh : List zSh) (g : zG) (d : Nat) (m : zMi) (as : List Value) (M : zM) (Q : zM → Prop) : Prop := zC sh g d m as M (zv Q)
theorem zb_narrow (b : Bool) : narrow .boolean (.int (zbI b)) = .int (zbI b) := by cases b <;> rfl
theorem zb_fits (b : Bool) : fits .boolean (.int (zbI b)) = true := by cases b <;> rfl
theorem z_zret {sh : List zSh} {g : zG} {d : Nat} {m : zMi} {Q : Bool → zM → Prop} {pc : Nat} {lv : List (Nat × Value)} {M : zM} {x : Int32} {b : Bool} (e : x = zbI b) (hty : m.2.2.2 = some .boolean) (hd : decode m.2.1 pc = .ok (.ireturn, 1)) (k : Q b M) : zW sh g d m (zz Q) pc lv [.int x] M := by
  subst e
  exact z_iret (st := []) hty (zb_narrow b) hd ⟨b, rfl, k⟩
/-- a call that answers an int, a boolean, a long, nothing: what goes on behind it -/
theorem zgo_i {sh : List zSh} {g : zG} {d d2 : Nat} {m m2 : zMi} {as : List Value} {M : zM} {Q : Option Value → zM → Prop} {Q1 : Int32 → zM → Prop} {pc : Nat} {lv : List (Nat × Value)} {st : List Value} (h : zCi sh g d m2 as M Q1) (k : ∀ x M1, Q1 x M1 → zW sh g d2 m Q pc lv (.int x :: st) M1) : zC sh g d m2 as M (fun r M1 => zW sh g d2 m Q pc lv (r.toList ++ st) M1) := zC.mono h fun r M1 q => by
  obtain ⟨x, rfl, q⟩ := q
  exact k x M1 q
theorem zgo_z {sh : List zSh} {g : zG} {d d2 : Nat} {m m2 : zMi} {as : List Value} {M : zM} {Q : Option Value → zM → Prop} {Q1 : Bool → zM → Prop} {pc : Nat} {lv : List (Nat × Value)} {st : List Value} (h : zCz sh g d m2 as M Q1) (k : ∀ b M1, Q1 b M1 → zW sh g d2 m Q pc lv (.int (zbI b) :: st) M1) : zC sh g d m2 as M (fun r M1 => zW sh g d2 m Q pc lv (r.toList ++ st) M1) := zC.mono h fun r M1 q => by
  obtain ⟨x, rfl, q⟩ := q
  exact k x M1 q
theorem zgo_l {sh : List zSh} {g : zG} {d d2 : Nat} {m m2 : zMi} {as : List Value} {M : zM} {Q : Option Value → zM → Prop} {Q1 : Int64 → zM → Prop} {pc : Nat} {lv : List (Nat × Value)} {st : List Value} (h : zCl sh g d m2 as M Q1) (k : ∀ x M1, Q1 x M1 → zW sh g d2 m Q pc lv (.long x :: st) M1) : zC sh g d m2 as M (fun r M1 => zW sh g d2 m Q pc lv (r.toList ++ st) M1) := zC.mono h fun r M1 q => by
  obtain ⟨x, rfl, q⟩ := q
  exact k x M1 q
theorem zgo_v {sh : List zSh} {g : zG} {d d2 : Nat} {m m2 : zMi} {as : List Value} {M : zM} {Q : Option Value → zM → Prop} {Q1 : zM → Prop} {pc : Nat} {lv : List (Nat × Value)} {st : List Value} (h : zCv sh g d m2 as M Q1) (k : ∀ M1, Q1 M1 → zW sh g d2 m Q pc lv st M1) : zC sh g d m2 as M (fun r M1 => zW sh g d2 m Q pc lv (r.toList ++ st) M1) := zC.mono h fun r M1 q => by
  obtain ⟨rfl, q⟩ := q
  exact k M1 q
