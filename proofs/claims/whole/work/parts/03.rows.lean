/-! THE ROWS of zW: an instruction each, out of the kit's rows of W -/
def zlit (n : Int) : Int32 := Int32.ofInt n
theorem z_iconst {sh : List zSh} {g : zG} {d : Nat} {m : zMi} {Q : Option Value → zM → Prop} {pc : Nat} {lv : List (Nat × Value)} {st : List Value} {M : zM} {n : Int} {v : Int32} (hd : decode m.2.1 pc = .ok (.iconst n, 1)) (hv : Int32.ofInt n = v) (k : zW sh g d m Q (pc + 1) lv (.int v :: st) M) : zW sh g d m Q pc lv (st) M := by
  intro p e s mid args below meth c H locs ls h
  obtain ⟨hx, hb, hr, hk, hml, hown, hts, hE, hP, hS, hl⟩ := id h
  exact lv_iconst hx hb hd hv (k p e s mid args below meth c H locs ls h)
theorem z_bipush {sh : List zSh} {g : zG} {d : Nat} {m : zMi} {Q : Option Value → zM → Prop} {pc : Nat} {lv : List (Nat × Value)} {st : List Value} {M : zM} {n : Int} {v : Int32} (hd : decode m.2.1 pc = .ok (.bipush n, 2)) (hv : (Int8.ofInt n).toInt32 = v) (k : zW sh g d m Q (pc + 2) lv (.int v :: st) M) : zW sh g d m Q pc lv (st) M := by
  intro p e s mid args below meth c H locs ls h
  obtain ⟨hx, hb, hr, hk, hml, hown, hts, hE, hP, hS, hl⟩ := id h
  exact lv_bipush hx hb hd hv (k p e s mid args below meth c H locs ls h)
theorem z_sipush {sh : List zSh} {g : zG} {d : Nat} {m : zMi} {Q : Option Value → zM → Prop} {pc : Nat} {lv : List (Nat × Value)} {st : List Value} {M : zM} {n : Int} {v : Int32} (hd : decode m.2.1 pc = .ok (.sipush n, 3)) (hv : (Int16.ofInt n).toInt32 = v) (k : zW sh g d m Q (pc + 3) lv (.int v :: st) M) : zW sh g d m Q pc lv (st) M := by
  intro p e s mid args below meth c H locs ls h
  obtain ⟨hx, hb, hr, hk, hml, hown, hts, hE, hP, hS, hl⟩ := id h
  exact lv_sipush hx hb hd hv (k p e s mid args below meth c H locs ls h)
theorem z_lconst {sh : List zSh} {g : zG} {d : Nat} {m : zMi} {Q : Option Value → zM → Prop} {pc : Nat} {lv : List (Nat × Value)} {st : List Value} {M : zM} {n : Fin 2} {v : Int64} (hd : decode m.2.1 pc = .ok (.lconst n, 1)) (hv : Int64.ofNat (n : Nat) = v) (k : zW sh g d m Q (pc + 1) lv (.long v :: st) M) : zW sh g d m Q pc lv (st) M := by
  intro p e s mid args below meth c H locs ls h
  obtain ⟨hx, hb, hr, hk, hml, hown, hts, hE, hP, hS, hl⟩ := id h
  exact lv_lconst hx hb hd hv (k p e s mid args below meth c H locs ls h)
theorem z_ldc {sh : List zSh} {g : zG} {d : Nat} {m : zMi} {Q : Option Value → zM → Prop} {pc : Nat} {lv : List (Nat × Value)} {st : List Value} {M : zM} {index : Nat} {v : Int32} (hd : decode m.2.1 pc = .ok (.ldc index, 2)) (hc : Cond.constant m.1.cls index v ∈ zTb) (k : zW sh g d m Q (pc + 2) lv (.int v :: st) M) : zW sh g d m Q pc lv (st) M := by
  intro p e s mid args below meth c H locs ls h
  obtain ⟨hx, hb, hr, hk, hml, hown, hts, hE, hP, hS, hl⟩ := id h
  exact lv_ldc hx hb hown (hts _ hc) hd (k p e s mid args below meth c H locs ls h)
theorem z_ldcw {sh : List zSh} {g : zG} {d : Nat} {m : zMi} {Q : Option Value → zM → Prop} {pc : Nat} {lv : List (Nat × Value)} {st : List Value} {M : zM} {index : Nat} {v : Int32} (hd : decode m.2.1 pc = .ok (.ldc_w index, 3)) (hc : Cond.constant m.1.cls index v ∈ zTb) (k : zW sh g d m Q (pc + 3) lv (.int v :: st) M) : zW sh g d m Q pc lv (st) M := by
  intro p e s mid args below meth c H locs ls h
  obtain ⟨hx, hb, hr, hk, hml, hown, hts, hE, hP, hS, hl⟩ := id h
  exact lv_ldcw hx hb hown (hts _ hc) hd (k p e s mid args below meth c H locs ls h)
theorem z_ldc2 {sh : List zSh} {g : zG} {d : Nat} {m : zMi} {Q : Option Value → zM → Prop} {pc : Nat} {lv : List (Nat × Value)} {st : List Value} {M : zM} {index : Nat} {v : Int64} (hd : decode m.2.1 pc = .ok (.ldc2_w index, 3)) (hc : Cond.constantLong m.1.cls index v ∈ zTb) (k : zW sh g d m Q (pc + 3) lv (.long v :: st) M) : zW sh g d m Q pc lv (st) M := by
  intro p e s mid args below meth c H locs ls h
  obtain ⟨hx, hb, hr, hk, hml, hown, hts, hE, hP, hS, hl⟩ := id h
  exact lv_ldc2 hx hb hown (hts _ hc) hd (k p e s mid args below meth c H locs ls h)
theorem z_ldcS {sh : List zSh} {g : zG} {d : Nat} {m : zMi} {Q : Option Value → zM → Prop} {pc : Nat} {lv : List (Nat × Value)} {st : List Value} {M : zM} {index i : Nat} {tx : String} (hd : decode m.2.1 pc = .ok (.ldc index, 2)) (hc : (m.1.cls, index, tx, i) ∈ zLits) (k : zW sh g d m Q (pc + 2) lv (.ref (4096 + i) :: st) M) : zW sh g d m Q pc lv (st) M := by
  intro p e s mid args below meth c H locs ls h
  obtain ⟨hx, hb, hr, hk, hml, hown, hts, hE, hP, hS, hl⟩ := id h
  exact va_ldcS hx hb hown (hE.2.2.1 _ hc) hd (k p e s mid args below meth c H locs ls h)
theorem zlv_at {g : zG} {lv : List (Nat × Value)} {ls : Array Slot} {n : Nat} (hl : lv_has ls n (lv.map fun q => (q.1, ztr g q.2))) (k : Nat) {i : Nat} {v : Value} (h : lv[k]? = some (i, v)) : ls[i]? = some (.val (ztr g v)) := lv_at hl k (by rw [List.getElem?_map, h]; rfl)
theorem z_iload_n {sh : List zSh} {g : zG} {d : Nat} {m : zMi} {Q : Option Value → zM → Prop} {pc : Nat} {lv : List (Nat × Value)} {st : List Value} {M : zM} {j : Fin 4} {x : Int32} (hd : decode m.2.1 pc = .ok (.iload_n j, 1)) (i : Nat) (hi : lv[i]? = some ((j : Nat), .int x)) (k : zW sh g d m Q (pc + 1) lv (.int x :: st) M) : zW sh g d m Q pc lv (st) M := by
  intro p e s mid args below meth c H locs ls h
  obtain ⟨hx, hb, hr, hk, hml, hown, hts, hE, hP, hS, hl⟩ := id h
  exact lv_iload_n hx hb hd rfl (zlv_at hl i hi) (k p e s mid args below meth c H locs ls h)
theorem z_iload {sh : List zSh} {g : zG} {d : Nat} {m : zMi} {Q : Option Value → zM → Prop} {pc : Nat} {lv : List (Nat × Value)} {st : List Value} {M : zM} {j : Nat} {x : Int32} (hd : decode m.2.1 pc = .ok (.iload j, 2)) (i : Nat) (hi : lv[i]? = some (j, .int x)) (k : zW sh g d m Q (pc + 2) lv (.int x :: st) M) : zW sh g d m Q pc lv (st) M := by
  intro p e s mid args below meth c H locs ls h
  obtain ⟨hx, hb, hr, hk, hml, hown, hts, hE, hP, hS, hl⟩ := id h
  exact lv_iload hx hb hd (zlv_at hl i hi) (k p e s mid args below meth c H locs ls h)
theorem z_lload_n {sh : List zSh} {g : zG} {d : Nat} {m : zMi} {Q : Option Value → zM → Prop} {pc : Nat} {lv : List (Nat × Value)} {st : List Value} {M : zM} {j : Fin 4} {x : Int64} (hd : decode m.2.1 pc = .ok (.lload_n j, 1)) (i : Nat) (hi : lv[i]? = some ((j : Nat), .long x)) (k : zW sh g d m Q (pc + 1) lv (.long x :: st) M) : zW sh g d m Q pc lv (st) M := by
  intro p e s mid args below meth c H locs ls h
  obtain ⟨hx, hb, hr, hk, hml, hown, hts, hE, hP, hS, hl⟩ := id h
  exact lv_lload_n hx hb hd rfl (zlv_at hl i hi) (k p e s mid args below meth c H locs ls h)
theorem z_lload {sh : List zSh} {g : zG} {d : Nat} {m : zMi} {Q : Option Value → zM → Prop} {pc : Nat} {lv : List (Nat × Value)} {st : List Value} {M : zM} {j : Nat} {x : Int64} (hd : decode m.2.1 pc = .ok (.lload j, 2)) (i : Nat) (hi : lv[i]? = some (j, .long x)) (k : zW sh g d m Q (pc + 2) lv (.long x :: st) M) : zW sh g d m Q pc lv (st) M := by
  intro p e s mid args below meth c H locs ls h
  obtain ⟨hx, hb, hr, hk, hml, hown, hts, hE, hP, hS, hl⟩ := id h
  exact lv_lload hx hb hd (zlv_at hl i hi) (k p e s mid args below meth c H locs ls h)
theorem z_aload_n {sh : List zSh} {g : zG} {d : Nat} {m : zMi} {Q : Option Value → zM → Prop} {pc : Nat} {lv : List (Nat × Value)} {st : List Value} {M : zM} {j : Fin 4} {x : Nat} (hd : decode m.2.1 pc = .ok (.aload_n j, 1)) (i : Nat) (hi : lv[i]? = some ((j : Nat), .ref x)) (k : zW sh g d m Q (pc + 1) lv (.ref x :: st) M) : zW sh g d m Q pc lv (st) M := by
  intro p e s mid args below meth c H locs ls h
  obtain ⟨hx, hb, hr, hk, hml, hown, hts, hE, hP, hS, hl⟩ := id h
  exact lv_aload_n hx hb hd rfl (zlv_at hl i hi) (k p e s mid args below meth c H locs ls h)
theorem z_aload {sh : List zSh} {g : zG} {d : Nat} {m : zMi} {Q : Option Value → zM → Prop} {pc : Nat} {lv : List (Nat × Value)} {st : List Value} {M : zM} {j : Nat} {x : Nat} (hd : decode m.2.1 pc = .ok (.aload j, 2)) (i : Nat) (hi : lv[i]? = some (j, .ref x)) (k : zW sh g d m Q (pc + 2) lv (.ref x :: st) M) : zW sh g d m Q pc lv (st) M := by
  intro p e s mid args below meth c H locs ls h
  obtain ⟨hx, hb, hr, hk, hml, hown, hts, hE, hP, hS, hl⟩ := id h
  exact lv_aload hx hb hd (zlv_at hl i hi) (k p e s mid args below meth c H locs ls h)
theorem zlv_st1 {g : zG} {i : Nat} {v : Value} {lv lv2 : List (Nat × Value)} (h : (i, v) :: lv.filter (fun q => !(q.1 == i) && !(q.1 + 1 == i && q.2.category == 2)) = lv2) : (i, ztr g v) :: (lv.map fun q => (q.1, ztr g q.2)).filter (fun q => !(q.1 == i) && !(q.1 + 1 == i && q.2.category == 2)) = lv2.map fun q => (q.1, ztr g q.2) := by
  have hc : ∀ v : Value, (ztr g v).category = v.category := fun v => by cases v <;> rfl
  rw [← h, List.map_cons, List.filter_map]
  simp only [Function.comp_def, hc]
theorem zlv_st2 {g : zG} {i : Nat} {v : Value} {lv lv2 : List (Nat × Value)} (h : (i, v) :: lv.filter (fun q => !(q.1 == i) && (!(q.1 == i + 1) && !(q.1 + 1 == i && q.2.category == 2))) = lv2) : (i, ztr g v) :: (lv.map fun q => (q.1, ztr g q.2)).filter (fun q => !(q.1 == i) && (!(q.1 == i + 1) && !(q.1 + 1 == i && q.2.category == 2))) = lv2.map fun q => (q.1, ztr g q.2) := by
  have hc : ∀ v : Value, (ztr g v).category = v.category := fun v => by cases v <;> rfl
  rw [← h, List.map_cons, List.filter_map]
  simp only [Function.comp_def, hc]
theorem z_istore_n {sh : List zSh} {g : zG} {d : Nat} {m : zMi} {Q : Option Value → zM → Prop} {pc : Nat} {lv : List (Nat × Value)} {st : List Value} {M : zM} {j : Fin 4} {x : Int32} (lv2 : List (Nat × Value)) (hd : decode m.2.1 pc = .ok (.istore_n j, 1)) (hn : (j : Nat) < m.2.2.1) (hl2 : ((j : Nat), .int x) :: lv.filter (fun q => !(q.1 == (j : Nat)) && !(q.1 + 1 == (j : Nat) && q.2.category == 2)) = lv2) (k : zW sh g d m Q (pc + 1) lv2 (st) M) : zW sh g d m Q pc lv (.int x :: st) M := by
  intro p e s mid args below meth c H locs ls h
  obtain ⟨hx, hb, hr, hk, hml, hown, hts, hE, hP, hS, hl⟩ := id h
  exact lv_istore_n hx hb hd rfl hl hn (zlv_st1 hl2) (fun ls2 hl2 => k p e s mid args below meth c H locs ls2 ⟨hx, hb, hr, hk, hml, hown, hts, hE, hP, hS, hl2⟩)
theorem z_istore {sh : List zSh} {g : zG} {d : Nat} {m : zMi} {Q : Option Value → zM → Prop} {pc : Nat} {lv : List (Nat × Value)} {st : List Value} {M : zM} {j : Nat} {x : Int32} (lv2 : List (Nat × Value)) (hd : decode m.2.1 pc = .ok (.istore j, 2)) (hn : j < m.2.2.1) (hl2 : (j, .int x) :: lv.filter (fun q => !(q.1 == j) && !(q.1 + 1 == j && q.2.category == 2)) = lv2) (k : zW sh g d m Q (pc + 2) lv2 (st) M) : zW sh g d m Q pc lv (.int x :: st) M := by
  intro p e s mid args below meth c H locs ls h
  obtain ⟨hx, hb, hr, hk, hml, hown, hts, hE, hP, hS, hl⟩ := id h
  exact lv_istore hx hb hd hl hn (zlv_st1 hl2) (fun ls2 hl2 => k p e s mid args below meth c H locs ls2 ⟨hx, hb, hr, hk, hml, hown, hts, hE, hP, hS, hl2⟩)
theorem z_astore_n {sh : List zSh} {g : zG} {d : Nat} {m : zMi} {Q : Option Value → zM → Prop} {pc : Nat} {lv : List (Nat × Value)} {st : List Value} {M : zM} {j : Fin 4} {x : Nat} (lv2 : List (Nat × Value)) (hd : decode m.2.1 pc = .ok (.astore_n j, 1)) (hn : (j : Nat) < m.2.2.1) (hl2 : ((j : Nat), .ref x) :: lv.filter (fun q => !(q.1 == (j : Nat)) && !(q.1 + 1 == (j : Nat) && q.2.category == 2)) = lv2) (k : zW sh g d m Q (pc + 1) lv2 (st) M) : zW sh g d m Q pc lv (.ref x :: st) M := by
  intro p e s mid args below meth c H locs ls h
  obtain ⟨hx, hb, hr, hk, hml, hown, hts, hE, hP, hS, hl⟩ := id h
  exact lv_astore_n hx hb hd rfl hl hn (zlv_st1 hl2) (fun ls2 hl2 => k p e s mid args below meth c H locs ls2 ⟨hx, hb, hr, hk, hml, hown, hts, hE, hP, hS, hl2⟩)
theorem z_astore {sh : List zSh} {g : zG} {d : Nat} {m : zMi} {Q : Option Value → zM → Prop} {pc : Nat} {lv : List (Nat × Value)} {st : List Value} {M : zM} {j : Nat} {x : Nat} (lv2 : List (Nat × Value)) (hd : decode m.2.1 pc = .ok (.astore j, 2)) (hn : j < m.2.2.1) (hl2 : (j, .ref x) :: lv.filter (fun q => !(q.1 == j) && !(q.1 + 1 == j && q.2.category == 2)) = lv2) (k : zW sh g d m Q (pc + 2) lv2 (st) M) : zW sh g d m Q pc lv (.ref x :: st) M := by
  intro p e s mid args below meth c H locs ls h
  obtain ⟨hx, hb, hr, hk, hml, hown, hts, hE, hP, hS, hl⟩ := id h
  exact lv_astore hx hb hd hl hn (zlv_st1 hl2) (fun ls2 hl2 => k p e s mid args below meth c H locs ls2 ⟨hx, hb, hr, hk, hml, hown, hts, hE, hP, hS, hl2⟩)
theorem z_lstore_n {sh : List zSh} {g : zG} {d : Nat} {m : zMi} {Q : Option Value → zM → Prop} {pc : Nat} {lv : List (Nat × Value)} {st : List Value} {M : zM} {j : Fin 4} {x : Int64} (lv2 : List (Nat × Value)) (hd : decode m.2.1 pc = .ok (.lstore_n j, 1)) (hn : (j : Nat) + 1 < m.2.2.1) (hl2 : ((j : Nat), .long x) :: lv.filter (fun q => !(q.1 == (j : Nat)) && (!(q.1 == (j : Nat) + 1) && !(q.1 + 1 == (j : Nat) && q.2.category == 2))) = lv2) (k : zW sh g d m Q (pc + 1) lv2 (st) M) : zW sh g d m Q pc lv (.long x :: st) M := by
  intro p e s mid args below meth c H locs ls h
  obtain ⟨hx, hb, hr, hk, hml, hown, hts, hE, hP, hS, hl⟩ := id h
  exact lv_lstore_n hx hb hd rfl hl hn (zlv_st2 hl2) (fun ls2 hl2 => k p e s mid args below meth c H locs ls2 ⟨hx, hb, hr, hk, hml, hown, hts, hE, hP, hS, hl2⟩)
theorem z_lstore {sh : List zSh} {g : zG} {d : Nat} {m : zMi} {Q : Option Value → zM → Prop} {pc : Nat} {lv : List (Nat × Value)} {st : List Value} {M : zM} {j : Nat} {x : Int64} (lv2 : List (Nat × Value)) (hd : decode m.2.1 pc = .ok (.lstore j, 2)) (hn : j + 1 < m.2.2.1) (hl2 : (j, .long x) :: lv.filter (fun q => !(q.1 == j) && (!(q.1 == j + 1) && !(q.1 + 1 == j && q.2.category == 2))) = lv2) (k : zW sh g d m Q (pc + 2) lv2 (st) M) : zW sh g d m Q pc lv (.long x :: st) M := by
  intro p e s mid args below meth c H locs ls h
  obtain ⟨hx, hb, hr, hk, hml, hown, hts, hE, hP, hS, hl⟩ := id h
  exact lv_lstore hx hb hd hl hn (zlv_st2 hl2) (fun ls2 hl2 => k p e s mid args below meth c H locs ls2 ⟨hx, hb, hr, hk, hml, hown, hts, hE, hP, hS, hl2⟩)
theorem z_iinc {sh : List zSh} {g : zG} {d : Nat} {m : zMi} {Q : Option Value → zM → Prop} {pc : Nat} {lv : List (Nat × Value)} {st : List Value} {M : zM} {j : Nat} {n : Int} {x v : Int32} (lv2 : List (Nat × Value)) (hd : decode m.2.1 pc = .ok (.iinc j n, 3)) (i : Nat) (hi : lv[i]? = some (j, .int x)) (hv : x + Int32.ofInt n = v) (hn : j < m.2.2.1) (hl2 : (j, .int v) :: lv.filter (fun q => !(q.1 == j) && !(q.1 + 1 == j && q.2.category == 2)) = lv2) (k : zW sh g d m Q (pc + 3) lv2 (st) M) : zW sh g d m Q pc lv (st) M := by
  intro p e s mid args below meth c H locs ls h
  obtain ⟨hx, hb, hr, hk, hml, hown, hts, hE, hP, hS, hl⟩ := id h
  exact lv_iinc (k := i) hx hb hd hl (by rw [List.getElem?_map, hi]; rfl) hv hn (zlv_st1 hl2) (fun ls2 hl2 => k p e s mid args below meth c H locs ls2 ⟨hx, hb, hr, hk, hml, hown, hts, hE, hP, hS, hl2⟩)
theorem z_iadd {sh : List zSh} {g : zG} {d : Nat} {m : zMi} {Q : Option Value → zM → Prop} {pc : Nat} {lv : List (Nat × Value)} {st : List Value} {M : zM} {x y : Int32} (hd : decode m.2.1 pc = .ok (.iadd, 1)) (k : zW sh g d m Q (pc + 1) lv (.int (x + y) :: st) M) : zW sh g d m Q pc lv (.int y :: .int x :: st) M := by
  intro p e s mid args below meth c H locs ls h
  obtain ⟨hx, hb, hr, hk, hml, hown, hts, hE, hP, hS, hl⟩ := id h
  exact lv_iadd hx hb hd (k p e s mid args below meth c H locs ls h)
theorem z_isub {sh : List zSh} {g : zG} {d : Nat} {m : zMi} {Q : Option Value → zM → Prop} {pc : Nat} {lv : List (Nat × Value)} {st : List Value} {M : zM} {x y : Int32} (hd : decode m.2.1 pc = .ok (.isub, 1)) (k : zW sh g d m Q (pc + 1) lv (.int (x - y) :: st) M) : zW sh g d m Q pc lv (.int y :: .int x :: st) M := by
  intro p e s mid args below meth c H locs ls h
  obtain ⟨hx, hb, hr, hk, hml, hown, hts, hE, hP, hS, hl⟩ := id h
  exact lv_isub hx hb hd (k p e s mid args below meth c H locs ls h)
theorem z_imul {sh : List zSh} {g : zG} {d : Nat} {m : zMi} {Q : Option Value → zM → Prop} {pc : Nat} {lv : List (Nat × Value)} {st : List Value} {M : zM} {x y : Int32} (hd : decode m.2.1 pc = .ok (.imul, 1)) (k : zW sh g d m Q (pc + 1) lv (.int (x * y) :: st) M) : zW sh g d m Q pc lv (.int y :: .int x :: st) M := by
  intro p e s mid args below meth c H locs ls h
  obtain ⟨hx, hb, hr, hk, hml, hown, hts, hE, hP, hS, hl⟩ := id h
  exact lv_imul hx hb hd (k p e s mid args below meth c H locs ls h)
theorem z_iand {sh : List zSh} {g : zG} {d : Nat} {m : zMi} {Q : Option Value → zM → Prop} {pc : Nat} {lv : List (Nat × Value)} {st : List Value} {M : zM} {x y : Int32} (hd : decode m.2.1 pc = .ok (.iand, 1)) (k : zW sh g d m Q (pc + 1) lv (.int (x &&& y) :: st) M) : zW sh g d m Q pc lv (.int y :: .int x :: st) M := by
  intro p e s mid args below meth c H locs ls h
  obtain ⟨hx, hb, hr, hk, hml, hown, hts, hE, hP, hS, hl⟩ := id h
  exact lv_iand hx hb hd (k p e s mid args below meth c H locs ls h)
theorem z_ior {sh : List zSh} {g : zG} {d : Nat} {m : zMi} {Q : Option Value → zM → Prop} {pc : Nat} {lv : List (Nat × Value)} {st : List Value} {M : zM} {x y : Int32} (hd : decode m.2.1 pc = .ok (.ior, 1)) (k : zW sh g d m Q (pc + 1) lv (.int (x ||| y) :: st) M) : zW sh g d m Q pc lv (.int y :: .int x :: st) M := by
  intro p e s mid args below meth c H locs ls h
  obtain ⟨hx, hb, hr, hk, hml, hown, hts, hE, hP, hS, hl⟩ := id h
  exact lv_ior hx hb hd (k p e s mid args below meth c H locs ls h)
theorem z_ixor {sh : List zSh} {g : zG} {d : Nat} {m : zMi} {Q : Option Value → zM → Prop} {pc : Nat} {lv : List (Nat × Value)} {st : List Value} {M : zM} {x y : Int32} (hd : decode m.2.1 pc = .ok (.ixor, 1)) (k : zW sh g d m Q (pc + 1) lv (.int (x ^^^ y) :: st) M) : zW sh g d m Q pc lv (.int y :: .int x :: st) M := by
  intro p e s mid args below meth c H locs ls h
  obtain ⟨hx, hb, hr, hk, hml, hown, hts, hE, hP, hS, hl⟩ := id h
  exact lv_ixor hx hb hd (k p e s mid args below meth c H locs ls h)
theorem z_ishl {sh : List zSh} {g : zG} {d : Nat} {m : zMi} {Q : Option Value → zM → Prop} {pc : Nat} {lv : List (Nat × Value)} {st : List Value} {M : zM} {x y : Int32} (hd : decode m.2.1 pc = .ok (.ishl, 1)) (k : zW sh g d m Q (pc + 1) lv (.int (x <<< (y &&& 31)) :: st) M) : zW sh g d m Q pc lv (.int y :: .int x :: st) M := by
  intro p e s mid args below meth c H locs ls h
  obtain ⟨hx, hb, hr, hk, hml, hown, hts, hE, hP, hS, hl⟩ := id h
  exact lv_ishl hx hb hd (k p e s mid args below meth c H locs ls h)
theorem z_ishr {sh : List zSh} {g : zG} {d : Nat} {m : zMi} {Q : Option Value → zM → Prop} {pc : Nat} {lv : List (Nat × Value)} {st : List Value} {M : zM} {x y : Int32} (hd : decode m.2.1 pc = .ok (.ishr, 1)) (k : zW sh g d m Q (pc + 1) lv (.int (x >>> (y &&& 31)) :: st) M) : zW sh g d m Q pc lv (.int y :: .int x :: st) M := by
  intro p e s mid args below meth c H locs ls h
  obtain ⟨hx, hb, hr, hk, hml, hown, hts, hE, hP, hS, hl⟩ := id h
  exact lv_ishr hx hb hd (k p e s mid args below meth c H locs ls h)
theorem z_iushr {sh : List zSh} {g : zG} {d : Nat} {m : zMi} {Q : Option Value → zM → Prop} {pc : Nat} {lv : List (Nat × Value)} {st : List Value} {M : zM} {x y : Int32} (hd : decode m.2.1 pc = .ok (.iushr, 1)) (k : zW sh g d m Q (pc + 1) lv (.int ((x.toUInt32 >>> (y.toUInt32 &&& Int32.toUInt32 31)).toInt32) :: st) M) : zW sh g d m Q pc lv (.int y :: .int x :: st) M := by
  intro p e s mid args below meth c H locs ls h
  obtain ⟨hx, hb, hr, hk, hml, hown, hts, hE, hP, hS, hl⟩ := id h
  exact lv_iushr hx hb hd rfl (k p e s mid args below meth c H locs ls h)
theorem z_idiv {sh : List zSh} {g : zG} {d : Nat} {m : zMi} {Q : Option Value → zM → Prop} {pc : Nat} {lv : List (Nat × Value)} {st : List Value} {M : zM} {x y : Int32} (hd : decode m.2.1 pc = .ok (.idiv, 1)) (hne : ¬ y = 0) (k : zW sh g d m Q (pc + 1) lv (.int (x / y) :: st) M) : zW sh g d m Q pc lv (.int y :: .int x :: st) M := by
  intro p e s mid args below meth c H locs ls h
  obtain ⟨hx, hb, hr, hk, hml, hown, hts, hE, hP, hS, hl⟩ := id h
  exact lv_idiv hx hb hd hne (k p e s mid args below meth c H locs ls h)
theorem z_irem {sh : List zSh} {g : zG} {d : Nat} {m : zMi} {Q : Option Value → zM → Prop} {pc : Nat} {lv : List (Nat × Value)} {st : List Value} {M : zM} {x y : Int32} (hd : decode m.2.1 pc = .ok (.irem, 1)) (hne : ¬ y = 0) (k : zW sh g d m Q (pc + 1) lv (.int (x - x / y * y) :: st) M) : zW sh g d m Q pc lv (.int y :: .int x :: st) M := by
  intro p e s mid args below meth c H locs ls h
  obtain ⟨hx, hb, hr, hk, hml, hown, hts, hE, hP, hS, hl⟩ := id h
  exact lv_irem hx hb hd hne (k p e s mid args below meth c H locs ls h)
theorem z_ineg {sh : List zSh} {g : zG} {d : Nat} {m : zMi} {Q : Option Value → zM → Prop} {pc : Nat} {lv : List (Nat × Value)} {st : List Value} {M : zM} {x : Int32} (hd : decode m.2.1 pc = .ok (.ineg, 1)) (k : zW sh g d m Q (pc + 1) lv (.int (-x) :: st) M) : zW sh g d m Q pc lv (.int x :: st) M := by
  intro p e s mid args below meth c H locs ls h
  obtain ⟨hx, hb, hr, hk, hml, hown, hts, hE, hP, hS, hl⟩ := id h
  exact lv_ineg hx hb hd (k p e s mid args below meth c H locs ls h)
theorem z_ladd {sh : List zSh} {g : zG} {d : Nat} {m : zMi} {Q : Option Value → zM → Prop} {pc : Nat} {lv : List (Nat × Value)} {st : List Value} {M : zM} {x y : Int64} (hd : decode m.2.1 pc = .ok (.ladd, 1)) (k : zW sh g d m Q (pc + 1) lv (.long (x + y) :: st) M) : zW sh g d m Q pc lv (.long y :: .long x :: st) M := by
  intro p e s mid args below meth c H locs ls h
  obtain ⟨hx, hb, hr, hk, hml, hown, hts, hE, hP, hS, hl⟩ := id h
  exact lv_ladd hx hb hd (k p e s mid args below meth c H locs ls h)
theorem z_lsub {sh : List zSh} {g : zG} {d : Nat} {m : zMi} {Q : Option Value → zM → Prop} {pc : Nat} {lv : List (Nat × Value)} {st : List Value} {M : zM} {x y : Int64} (hd : decode m.2.1 pc = .ok (.lsub, 1)) (k : zW sh g d m Q (pc + 1) lv (.long (x - y) :: st) M) : zW sh g d m Q pc lv (.long y :: .long x :: st) M := by
  intro p e s mid args below meth c H locs ls h
  obtain ⟨hx, hb, hr, hk, hml, hown, hts, hE, hP, hS, hl⟩ := id h
  exact lv_lsub hx hb hd (k p e s mid args below meth c H locs ls h)
theorem z_lmul {sh : List zSh} {g : zG} {d : Nat} {m : zMi} {Q : Option Value → zM → Prop} {pc : Nat} {lv : List (Nat × Value)} {st : List Value} {M : zM} {x y : Int64} (hd : decode m.2.1 pc = .ok (.lmul, 1)) (k : zW sh g d m Q (pc + 1) lv (.long (x * y) :: st) M) : zW sh g d m Q pc lv (.long y :: .long x :: st) M := by
  intro p e s mid args below meth c H locs ls h
  obtain ⟨hx, hb, hr, hk, hml, hown, hts, hE, hP, hS, hl⟩ := id h
  exact lv_lmul hx hb hd (k p e s mid args below meth c H locs ls h)
theorem z_land {sh : List zSh} {g : zG} {d : Nat} {m : zMi} {Q : Option Value → zM → Prop} {pc : Nat} {lv : List (Nat × Value)} {st : List Value} {M : zM} {x y : Int64} (hd : decode m.2.1 pc = .ok (.land, 1)) (k : zW sh g d m Q (pc + 1) lv (.long (x &&& y) :: st) M) : zW sh g d m Q pc lv (.long y :: .long x :: st) M := by
  intro p e s mid args below meth c H locs ls h
  obtain ⟨hx, hb, hr, hk, hml, hown, hts, hE, hP, hS, hl⟩ := id h
  exact lv_land hx hb hd (k p e s mid args below meth c H locs ls h)
theorem z_lor {sh : List zSh} {g : zG} {d : Nat} {m : zMi} {Q : Option Value → zM → Prop} {pc : Nat} {lv : List (Nat × Value)} {st : List Value} {M : zM} {x y : Int64} (hd : decode m.2.1 pc = .ok (.lor, 1)) (k : zW sh g d m Q (pc + 1) lv (.long (x ||| y) :: st) M) : zW sh g d m Q pc lv (.long y :: .long x :: st) M := by
  intro p e s mid args below meth c H locs ls h
  obtain ⟨hx, hb, hr, hk, hml, hown, hts, hE, hP, hS, hl⟩ := id h
  exact lv_lor hx hb hd (k p e s mid args below meth c H locs ls h)
theorem z_lxor {sh : List zSh} {g : zG} {d : Nat} {m : zMi} {Q : Option Value → zM → Prop} {pc : Nat} {lv : List (Nat × Value)} {st : List Value} {M : zM} {x y : Int64} (hd : decode m.2.1 pc = .ok (.lxor, 1)) (k : zW sh g d m Q (pc + 1) lv (.long (x ^^^ y) :: st) M) : zW sh g d m Q pc lv (.long y :: .long x :: st) M := by
  intro p e s mid args below meth c H locs ls h
  obtain ⟨hx, hb, hr, hk, hml, hown, hts, hE, hP, hS, hl⟩ := id h
  exact lv_lxor hx hb hd (k p e s mid args below meth c H locs ls h)
theorem z_ldiv {sh : List zSh} {g : zG} {d : Nat} {m : zMi} {Q : Option Value → zM → Prop} {pc : Nat} {lv : List (Nat × Value)} {st : List Value} {M : zM} {x y : Int64} (hd : decode m.2.1 pc = .ok (.ldiv, 1)) (hne : ¬ y = 0) (k : zW sh g d m Q (pc + 1) lv (.long (x / y) :: st) M) : zW sh g d m Q pc lv (.long y :: .long x :: st) M := by
  intro p e s mid args below meth c H locs ls h
  obtain ⟨hx, hb, hr, hk, hml, hown, hts, hE, hP, hS, hl⟩ := id h
  exact lv_ldiv hx hb hd hne (k p e s mid args below meth c H locs ls h)
theorem z_lshl {sh : List zSh} {g : zG} {d : Nat} {m : zMi} {Q : Option Value → zM → Prop} {pc : Nat} {lv : List (Nat × Value)} {st : List Value} {M : zM} {x : Int64} {y : Int32} (hd : decode m.2.1 pc = .ok (.lshl, 1)) (k : zW sh g d m Q (pc + 1) lv (.long (x <<< (y.toInt64 &&& 63)) :: st) M) : zW sh g d m Q pc lv (.int y :: .long x :: st) M := by
  intro p e s mid args below meth c H locs ls h
  obtain ⟨hx, hb, hr, hk, hml, hown, hts, hE, hP, hS, hl⟩ := id h
  exact lv_lshl hx hb hd rfl (k p e s mid args below meth c H locs ls h)
theorem z_lshr {sh : List zSh} {g : zG} {d : Nat} {m : zMi} {Q : Option Value → zM → Prop} {pc : Nat} {lv : List (Nat × Value)} {st : List Value} {M : zM} {x : Int64} {y : Int32} (hd : decode m.2.1 pc = .ok (.lshr, 1)) (k : zW sh g d m Q (pc + 1) lv (.long (x >>> (y.toInt64 &&& 63)) :: st) M) : zW sh g d m Q pc lv (.int y :: .long x :: st) M := by
  intro p e s mid args below meth c H locs ls h
  obtain ⟨hx, hb, hr, hk, hml, hown, hts, hE, hP, hS, hl⟩ := id h
  exact lv_lshr hx hb hd rfl (k p e s mid args below meth c H locs ls h)
theorem z_lushr {sh : List zSh} {g : zG} {d : Nat} {m : zMi} {Q : Option Value → zM → Prop} {pc : Nat} {lv : List (Nat × Value)} {st : List Value} {M : zM} {x : Int64} {y : Int32} (hd : decode m.2.1 pc = .ok (.lushr, 1)) (k : zW sh g d m Q (pc + 1) lv (.long ((x.toUInt64 >>> (y.toInt64.toUInt64 &&& Int64.toUInt64 63)).toInt64) :: st) M) : zW sh g d m Q pc lv (.int y :: .long x :: st) M := by
  intro p e s mid args below meth c H locs ls h
  obtain ⟨hx, hb, hr, hk, hml, hown, hts, hE, hP, hS, hl⟩ := id h
  exact lv_lushr hx hb hd rfl (k p e s mid args below meth c H locs ls h)
theorem z_lcmp {sh : List zSh} {g : zG} {d : Nat} {m : zMi} {Q : Option Value → zM → Prop} {pc : Nat} {lv : List (Nat × Value)} {st : List Value} {M : zM} {x y : Int64} (hd : decode m.2.1 pc = .ok (.lcmp, 1)) (k : zW sh g d m Q (pc + 1) lv (.int (lg_cmp x y) :: st) M) : zW sh g d m Q pc lv (.long y :: .long x :: st) M := by
  intro p e s mid args below meth c H locs ls h
  obtain ⟨hx, hb, hr, hk, hml, hown, hts, hE, hP, hS, hl⟩ := id h
  exact W.lcmp hx hb hd (k p e s mid args below meth c H locs ls h)
theorem z_i2l {sh : List zSh} {g : zG} {d : Nat} {m : zMi} {Q : Option Value → zM → Prop} {pc : Nat} {lv : List (Nat × Value)} {st : List Value} {M : zM} {x : Int32} (hd : decode m.2.1 pc = .ok (.i2l, 1)) (k : zW sh g d m Q (pc + 1) lv (.long x.toInt64 :: st) M) : zW sh g d m Q pc lv (.int x :: st) M := by
  intro p e s mid args below meth c H locs ls h
  obtain ⟨hx, hb, hr, hk, hml, hown, hts, hE, hP, hS, hl⟩ := id h
  exact lv_i2l hx hb hd rfl (k p e s mid args below meth c H locs ls h)
theorem z_l2i {sh : List zSh} {g : zG} {d : Nat} {m : zMi} {Q : Option Value → zM → Prop} {pc : Nat} {lv : List (Nat × Value)} {st : List Value} {M : zM} {x : Int64} (hd : decode m.2.1 pc = .ok (.l2i, 1)) (k : zW sh g d m Q (pc + 1) lv (.int x.toInt32 :: st) M) : zW sh g d m Q pc lv (.long x :: st) M := by
  intro p e s mid args below meth c H locs ls h
  obtain ⟨hx, hb, hr, hk, hml, hown, hts, hE, hP, hS, hl⟩ := id h
  exact lv_l2i hx hb hd rfl (k p e s mid args below meth c H locs ls h)
theorem z_i2c {sh : List zSh} {g : zG} {d : Nat} {m : zMi} {Q : Option Value → zM → Prop} {pc : Nat} {lv : List (Nat × Value)} {st : List Value} {M : zM} {x : Int32} (hd : decode m.2.1 pc = .ok (.i2c, 1)) (k : zW sh g d m Q (pc + 1) lv (.int ((x.toUInt32 % 65536).toInt32) :: st) M) : zW sh g d m Q pc lv (.int x :: st) M := by
  intro p e s mid args below meth c H locs ls h
  obtain ⟨hx, hb, hr, hk, hml, hown, hts, hE, hP, hS, hl⟩ := id h
  exact lv_i2c hx hb hd rfl (k p e s mid args below meth c H locs ls h)
theorem z_dupi {sh : List zSh} {g : zG} {d : Nat} {m : zMi} {Q : Option Value → zM → Prop} {pc : Nat} {lv : List (Nat × Value)} {st : List Value} {M : zM} {x : Int32} (hd : decode m.2.1 pc = .ok (.dup, 1)) (k : zW sh g d m Q (pc + 1) lv (.int x :: .int x :: st) M) : zW sh g d m Q pc lv (.int x :: st) M := by
  intro p e s mid args below meth c H locs ls h
  obtain ⟨hx, hb, hr, hk, hml, hown, hts, hE, hP, hS, hl⟩ := id h
  exact lv_dup hx hb hd rfl (k p e s mid args below meth c H locs ls h)
theorem z_dupr {sh : List zSh} {g : zG} {d : Nat} {m : zMi} {Q : Option Value → zM → Prop} {pc : Nat} {lv : List (Nat × Value)} {st : List Value} {M : zM} {x : Nat} (hd : decode m.2.1 pc = .ok (.dup, 1)) (k : zW sh g d m Q (pc + 1) lv (.ref x :: .ref x :: st) M) : zW sh g d m Q pc lv (.ref x :: st) M := by
  intro p e s mid args below meth c H locs ls h
  obtain ⟨hx, hb, hr, hk, hml, hown, hts, hE, hP, hS, hl⟩ := id h
  exact lv_dup hx hb hd rfl (k p e s mid args below meth c H locs ls h)
theorem z_dup2 {sh : List zSh} {g : zG} {d : Nat} {m : zMi} {Q : Option Value → zM → Prop} {pc : Nat} {lv : List (Nat × Value)} {st : List Value} {M : zM} {x : Int32} {a : Nat} (hd : decode m.2.1 pc = .ok (.dup2, 1)) (k : zW sh g d m Q (pc + 1) lv (.int x :: .ref a :: .int x :: .ref a :: st) M) : zW sh g d m Q pc lv (.int x :: .ref a :: st) M := by
  intro p e s mid args below meth c H locs ls h
  obtain ⟨hx, hb, hr, hk, hml, hown, hts, hE, hP, hS, hl⟩ := id h
  exact lv_dup2_11 hx hb hd rfl rfl (k p e s mid args below meth c H locs ls h)
theorem z_popi {sh : List zSh} {g : zG} {d : Nat} {m : zMi} {Q : Option Value → zM → Prop} {pc : Nat} {lv : List (Nat × Value)} {st : List Value} {M : zM} {x : Int32} (hd : decode m.2.1 pc = .ok (.pop, 1)) (k : zW sh g d m Q (pc + 1) lv (st) M) : zW sh g d m Q pc lv (.int x :: st) M := by
  intro p e s mid args below meth c H locs ls h
  obtain ⟨hx, hb, hr, hk, hml, hown, hts, hE, hP, hS, hl⟩ := id h
  exact lv_pop hx hb hd rfl (k p e s mid args below meth c H locs ls h)
theorem z_goto {sh : List zSh} {g : zG} {d : Nat} {m : zMi} {Q : Option Value → zM → Prop} {pc : Nat} {lv : List (Nat × Value)} {st : List Value} {M : zM} {off : Int} (tgt : Nat) (hd : decode m.2.1 pc = .ok (.goto off, 3)) (ht : (pc : Int) + off = (tgt : Int)) (k : zW sh g d m Q (tgt) lv (st) M) : zW sh g d m Q pc lv (st) M := by
  intro p e s mid args below meth c H locs ls h
  obtain ⟨hx, hb, hr, hk, hml, hown, hts, hE, hP, hS, hl⟩ := id h
  exact lv_goto hx hb hd ht (k p e s mid args below meth c H locs ls h)
theorem z_if_eq {sh : List zSh} {g : zG} {d : Nat} {m : zMi} {Q : Option Value → zM → Prop} {pc : Nat} {lv : List (Nat × Value)} {st : List Value} {M : zM} {x : Int32} {off : Int} (tgt : Nat) (hd : decode m.2.1 pc = .ok (.ifCond .eq off, 3)) (ht : (pc : Int) + off = (tgt : Int)) (k1 : x = 0 → zW sh g d m Q tgt lv st M) (k2 : ¬ x = 0 → zW sh g d m Q (pc + 3) lv st M) : zW sh g d m Q pc lv (.int x :: st) M := by
  intro p e s mid args below meth c H locs ls h
  exact lv_if_eq h.1 h.2.1 hd ht (fun q => k1 q p e s mid args below meth c H locs ls h) (fun q => k2 q p e s mid args below meth c H locs ls h)
theorem z_icmp_eq {sh : List zSh} {g : zG} {d : Nat} {m : zMi} {Q : Option Value → zM → Prop} {pc : Nat} {lv : List (Nat × Value)} {st : List Value} {M : zM} {x y : Int32} {off : Int} (tgt : Nat) (hd : decode m.2.1 pc = .ok (.if_icmp .eq off, 3)) (ht : (pc : Int) + off = (tgt : Int)) (k1 : x = y → zW sh g d m Q tgt lv st M) (k2 : ¬ x = y → zW sh g d m Q (pc + 3) lv st M) : zW sh g d m Q pc lv (.int y :: .int x :: st) M := by
  intro p e s mid args below meth c H locs ls h
  exact lv_icmp_eq h.1 h.2.1 hd ht (fun q => k1 q p e s mid args below meth c H locs ls h) (fun q => k2 q p e s mid args below meth c H locs ls h)
theorem z_if_ne {sh : List zSh} {g : zG} {d : Nat} {m : zMi} {Q : Option Value → zM → Prop} {pc : Nat} {lv : List (Nat × Value)} {st : List Value} {M : zM} {x : Int32} {off : Int} (tgt : Nat) (hd : decode m.2.1 pc = .ok (.ifCond .ne off, 3)) (ht : (pc : Int) + off = (tgt : Int)) (k1 : ¬ x = 0 → zW sh g d m Q tgt lv st M) (k2 : x = 0 → zW sh g d m Q (pc + 3) lv st M) : zW sh g d m Q pc lv (.int x :: st) M := by
  intro p e s mid args below meth c H locs ls h
  exact lv_if_ne h.1 h.2.1 hd ht (fun q => k1 q p e s mid args below meth c H locs ls h) (fun q => k2 q p e s mid args below meth c H locs ls h)
theorem z_icmp_ne {sh : List zSh} {g : zG} {d : Nat} {m : zMi} {Q : Option Value → zM → Prop} {pc : Nat} {lv : List (Nat × Value)} {st : List Value} {M : zM} {x y : Int32} {off : Int} (tgt : Nat) (hd : decode m.2.1 pc = .ok (.if_icmp .ne off, 3)) (ht : (pc : Int) + off = (tgt : Int)) (k1 : ¬ x = y → zW sh g d m Q tgt lv st M) (k2 : x = y → zW sh g d m Q (pc + 3) lv st M) : zW sh g d m Q pc lv (.int y :: .int x :: st) M := by
  intro p e s mid args below meth c H locs ls h
  exact lv_icmp_ne h.1 h.2.1 hd ht (fun q => k1 q p e s mid args below meth c H locs ls h) (fun q => k2 q p e s mid args below meth c H locs ls h)
theorem z_if_lt {sh : List zSh} {g : zG} {d : Nat} {m : zMi} {Q : Option Value → zM → Prop} {pc : Nat} {lv : List (Nat × Value)} {st : List Value} {M : zM} {x : Int32} {off : Int} (tgt : Nat) (hd : decode m.2.1 pc = .ok (.ifCond .lt off, 3)) (ht : (pc : Int) + off = (tgt : Int)) (k1 : x < 0 → zW sh g d m Q tgt lv st M) (k2 : ¬ x < 0 → zW sh g d m Q (pc + 3) lv st M) : zW sh g d m Q pc lv (.int x :: st) M := by
  intro p e s mid args below meth c H locs ls h
  exact lv_if_lt h.1 h.2.1 hd ht (fun q => k1 q p e s mid args below meth c H locs ls h) (fun q => k2 q p e s mid args below meth c H locs ls h)
theorem z_icmp_lt {sh : List zSh} {g : zG} {d : Nat} {m : zMi} {Q : Option Value → zM → Prop} {pc : Nat} {lv : List (Nat × Value)} {st : List Value} {M : zM} {x y : Int32} {off : Int} (tgt : Nat) (hd : decode m.2.1 pc = .ok (.if_icmp .lt off, 3)) (ht : (pc : Int) + off = (tgt : Int)) (k1 : x < y → zW sh g d m Q tgt lv st M) (k2 : ¬ x < y → zW sh g d m Q (pc + 3) lv st M) : zW sh g d m Q pc lv (.int y :: .int x :: st) M := by
  intro p e s mid args below meth c H locs ls h
  exact lv_icmp_lt h.1 h.2.1 hd ht (fun q => k1 q p e s mid args below meth c H locs ls h) (fun q => k2 q p e s mid args below meth c H locs ls h)
theorem z_if_ge {sh : List zSh} {g : zG} {d : Nat} {m : zMi} {Q : Option Value → zM → Prop} {pc : Nat} {lv : List (Nat × Value)} {st : List Value} {M : zM} {x : Int32} {off : Int} (tgt : Nat) (hd : decode m.2.1 pc = .ok (.ifCond .ge off, 3)) (ht : (pc : Int) + off = (tgt : Int)) (k1 : 0 ≤ x → zW sh g d m Q tgt lv st M) (k2 : ¬ 0 ≤ x → zW sh g d m Q (pc + 3) lv st M) : zW sh g d m Q pc lv (.int x :: st) M := by
  intro p e s mid args below meth c H locs ls h
  exact lv_if_ge h.1 h.2.1 hd ht (fun q => k1 q p e s mid args below meth c H locs ls h) (fun q => k2 q p e s mid args below meth c H locs ls h)
theorem z_icmp_ge {sh : List zSh} {g : zG} {d : Nat} {m : zMi} {Q : Option Value → zM → Prop} {pc : Nat} {lv : List (Nat × Value)} {st : List Value} {M : zM} {x y : Int32} {off : Int} (tgt : Nat) (hd : decode m.2.1 pc = .ok (.if_icmp .ge off, 3)) (ht : (pc : Int) + off = (tgt : Int)) (k1 : y ≤ x → zW sh g d m Q tgt lv st M) (k2 : ¬ y ≤ x → zW sh g d m Q (pc + 3) lv st M) : zW sh g d m Q pc lv (.int y :: .int x :: st) M := by
  intro p e s mid args below meth c H locs ls h
  exact lv_icmp_ge h.1 h.2.1 hd ht (fun q => k1 q p e s mid args below meth c H locs ls h) (fun q => k2 q p e s mid args below meth c H locs ls h)
theorem z_if_gt {sh : List zSh} {g : zG} {d : Nat} {m : zMi} {Q : Option Value → zM → Prop} {pc : Nat} {lv : List (Nat × Value)} {st : List Value} {M : zM} {x : Int32} {off : Int} (tgt : Nat) (hd : decode m.2.1 pc = .ok (.ifCond .gt off, 3)) (ht : (pc : Int) + off = (tgt : Int)) (k1 : 0 < x → zW sh g d m Q tgt lv st M) (k2 : ¬ 0 < x → zW sh g d m Q (pc + 3) lv st M) : zW sh g d m Q pc lv (.int x :: st) M := by
  intro p e s mid args below meth c H locs ls h
  exact lv_if_gt h.1 h.2.1 hd ht (fun q => k1 q p e s mid args below meth c H locs ls h) (fun q => k2 q p e s mid args below meth c H locs ls h)
theorem z_icmp_gt {sh : List zSh} {g : zG} {d : Nat} {m : zMi} {Q : Option Value → zM → Prop} {pc : Nat} {lv : List (Nat × Value)} {st : List Value} {M : zM} {x y : Int32} {off : Int} (tgt : Nat) (hd : decode m.2.1 pc = .ok (.if_icmp .gt off, 3)) (ht : (pc : Int) + off = (tgt : Int)) (k1 : y < x → zW sh g d m Q tgt lv st M) (k2 : ¬ y < x → zW sh g d m Q (pc + 3) lv st M) : zW sh g d m Q pc lv (.int y :: .int x :: st) M := by
  intro p e s mid args below meth c H locs ls h
  exact lv_icmp_gt h.1 h.2.1 hd ht (fun q => k1 q p e s mid args below meth c H locs ls h) (fun q => k2 q p e s mid args below meth c H locs ls h)
theorem z_if_le {sh : List zSh} {g : zG} {d : Nat} {m : zMi} {Q : Option Value → zM → Prop} {pc : Nat} {lv : List (Nat × Value)} {st : List Value} {M : zM} {x : Int32} {off : Int} (tgt : Nat) (hd : decode m.2.1 pc = .ok (.ifCond .le off, 3)) (ht : (pc : Int) + off = (tgt : Int)) (k1 : x ≤ 0 → zW sh g d m Q tgt lv st M) (k2 : ¬ x ≤ 0 → zW sh g d m Q (pc + 3) lv st M) : zW sh g d m Q pc lv (.int x :: st) M := by
  intro p e s mid args below meth c H locs ls h
  exact lv_if_le h.1 h.2.1 hd ht (fun q => k1 q p e s mid args below meth c H locs ls h) (fun q => k2 q p e s mid args below meth c H locs ls h)
theorem z_icmp_le {sh : List zSh} {g : zG} {d : Nat} {m : zMi} {Q : Option Value → zM → Prop} {pc : Nat} {lv : List (Nat × Value)} {st : List Value} {M : zM} {x y : Int32} {off : Int} (tgt : Nat) (hd : decode m.2.1 pc = .ok (.if_icmp .le off, 3)) (ht : (pc : Int) + off = (tgt : Int)) (k1 : x ≤ y → zW sh g d m Q tgt lv st M) (k2 : ¬ x ≤ y → zW sh g d m Q (pc + 3) lv st M) : zW sh g d m Q pc lv (.int y :: .int x :: st) M := by
  intro p e s mid args below meth c H locs ls h
  exact lv_icmp_le h.1 h.2.1 hd ht (fun q => k1 q p e s mid args below meth c H locs ls h) (fun q => k2 q p e s mid args below meth c H locs ls h)
def zTab (F : Nat → Prop) (x : Int) : Int → List Nat → Prop
  | _, [] => True
  | lo, t :: T => (x = lo → F t) ∧ zTab F x (lo + 1) T
theorem zTab_get {F : Nat → Prop} {x : Int} : ∀ (T : List Nat) (lo : Int) (j t : Nat), zTab F x lo T → T[j]? = some t → x = lo + j → F t
  | [], _, _, _, _, h, _ => by simp at h
  | a :: T, lo, 0, t, hT, h, hx => by
    simp at h
    subst h
    exact hT.1 (by simpa using hx)
  | a :: T, lo, j + 1, t, hT, h, hx => zTab_get T (lo + 1) j t hT.2 (by simpa using h) (by rw [hx]; push_cast; omega)
theorem z_table {sh : List zSh} {g : zG} {d : Nat} {m : zMi} {Q : Option Value → zM → Prop} {pc : Nat} {lv : List (Nat × Value)} {st : List Value} {M : zM} {x : Int32} {dflt lo hi : Int} {offs : Array Int} {len : Nat} (T : List Nat) (tD : Nat) (hd : decode m.2.1 pc = .ok (.tableswitch dflt lo hi offs, len)) (hT : offs.toList.map (fun o => (pc : Int) + o) = T.map Int.ofNat) (hz : lo + T.length = hi + 1) (ht : (pc : Int) + dflt = (tD : Int)) (kD : x.toInt < lo ∨ hi < x.toInt → zW sh g d m Q tD lv st M) (kT : zTab (fun t => zW sh g d m Q t lv st M) x.toInt lo T) : zW sh g d m Q pc lv (.int x :: st) M := by
  intro p e s mid args below meth c H locs ls h
  by_cases h1 : x.toInt < lo
  · exact lv_tableOut h.1 h.2.1 hd (Or.inl h1) ht (kD (Or.inl h1) p e s mid args below meth c H locs ls h)
  · by_cases h2 : hi < x.toInt
    · exact lv_tableOut h.1 h.2.1 hd (Or.inr h2) ht (kD (Or.inr h2) p e s mid args below meth c H locs ls h)
    · have hj : (x.toInt - lo).toNat < T.length := by omega
      have e1 : T[(x.toInt - lo).toNat]? = some T[(x.toInt - lo).toNat] := List.getElem?_eq_getElem hj
      have e2 : (offs.toList.map (fun o => (pc : Int) + o))[(x.toInt - lo).toNat]? = some ((T[(x.toInt - lo).toNat] : Nat) : Int) := by rw [hT, List.getElem?_map, e1]; rfl
      rw [List.getElem?_map] at e2
      obtain ⟨o, h3, h4⟩ := Option.map_eq_some_iff.mp e2
      exact lv_tableIn h.1 h.2.1 hd h1 h2 (by rw [← Array.getElem?_toList]; exact h3) h4 (zTab_get T lo _ _ kT e1 (by omega) p e s mid args below meth c H locs ls h)
/-- what the tables say of a field of an object of the class ci -/
def zFl (own : String) (idx ci k : Nat) : Prop := ∃ (C : String) (T : u_T) (N : Nat), vwCl[ci]? = some (C, T, N) ∧ k < N ∧ Cond.fieldLink own idx (T k).1 (T k).2.1 (T k).2.2.1 ∈ zTb ∧ ∀ w ∈ u_ws C T N, w ∈ zTb
def zFp (own : String) (idx ci k : Nat) (ty : FieldType) : Prop := ∃ (C : String) (T : u_T) (N : Nat) (ty0 : Nat → FieldType), vwCl[ci]? = some (C, T, N) ∧ k < N ∧ Cond.fieldLink own idx (T k).1 (T k).2.1 (T k).2.2.1 ∈ zTb ∧ (∀ w ∈ u_ws C T N, w ∈ zTb) ∧
  (∀ k, k < N → parseFieldDescriptor (T k).2.2.1 = some (ty0 k)) ∧ (∀ a, a < N → ∀ b, b < N → a ≠ b → (T a).2.1 ≠ (T b).2.1) ∧ (T k).2.2.2 = false ∧ parseFieldDescriptor (T k).2.2.1 = some ty
theorem z_geti {sh : List zSh} {g : zG} {d : Nat} {m : zMi} {Q : Option Value → zM → Prop} {pc : Nat} {lv : List (Nat × Value)} {st : List Value} {M : zM} {o ci k0 idx : Nat} {fs : List (Option Nat)} (hs : sh[o]? = some (3, ci, fs)) (hk0 : fs[k0]? = some none) (hf : zFl m.1.cls idx ci k0) (hd : decode m.2.1 pc = .ok (.getfield idx, 3)) (k : zW sh g d m Q (pc + 3) lv (.int (M o k0) :: st) M) : zW sh g d m Q pc lv (.ref o :: st) M := by
  intro p e s mid args below meth c H locs ls h
  obtain ⟨hx, hb, hr, hk, hml, hown, hts, hE, hP, hS, hl⟩ := id h
  obtain ⟨C, T, N, h1, h2, h3, h4⟩ := hf
  exact va_get hx hb hts h4 hown hE.1 hP o (zws_at hs) h1 k0 h2 (hts _ h3) (fun _ z => z) (zfs_i hk0) hd (k p e s mid args below meth c H locs ls h)
theorem z_getr {sh : List zSh} {g : zG} {d : Nat} {m : zMi} {Q : Option Value → zM → Prop} {pc : Nat} {lv : List (Nat × Value)} {st : List Value} {M : zM} {o ci k0 idx r : Nat} {fs : List (Option Nat)} (hs : sh[o]? = some (3, ci, fs)) (hk0 : fs[k0]? = some (some r)) (hf : zFl m.1.cls idx ci k0) (hd : decode m.2.1 pc = .ok (.getfield idx, 3)) (k : zW sh g d m Q (pc + 3) lv (.ref r :: st) M) : zW sh g d m Q pc lv (.ref o :: st) M := by
  intro p e s mid args below meth c H locs ls h
  obtain ⟨hx, hb, hr, hk, hml, hown, hts, hE, hP, hS, hl⟩ := id h
  obtain ⟨C, T, N, h1, h2, h3, h4⟩ := hf
  exact va_get hx hb hts h4 hown hE.1 hP o (zws_at hs) h1 k0 h2 (hts _ h3) (fun _ z => z) (zfs_r hk0) hd (k p e s mid args below meth c H locs ls h)
theorem z_puti {sh : List zSh} {g : zG} {d : Nat} {m : zMi} {Q : Option Value → zM → Prop} {pc : Nat} {lv : List (Nat × Value)} {st : List Value} {M : zM} {o ci k0 idx : Nat} {fs : List (Option Nat)} {ty : FieldType} {x : Int32} (hs : sh[o]? = some (3, ci, fs)) (hk0 : fs[k0]? = some none) (hf : zFp m.1.cls idx ci k0 ty) (hn : narrow ty (.int x) = .int x) (hfit : fits ty (.int x) = true) (hd : decode m.2.1 pc = .ok (.putfield idx, 3)) (k : zW sh g d m Q (pc + 3) lv (st) (zup M o k0 x)) : zW sh g d m Q pc lv (.int x :: .ref o :: st) M := by
  intro p e s mid args below meth c H locs ls h
  obtain ⟨hx, hb, hr, hk, hml, hown, hts, hE, hP, hS, hl⟩ := id h
  obtain ⟨C, T, N, ty0, h1, h2, h3, h4, h5, h6, h7, h8⟩ := hf
  refine va_put hx hb hts h4 ty0 h5 h6 hown hE.1 hP (zD hE.2.2.2.2.2.2.2.1) hS o (zws_at hs) h1 k0 h2 (hts _ h3) (fun _ z => z) h7 h8 hn hfit (by rw [zfs_len]; exact (List.getElem?_eq_some_iff.mp hk0).1) hd (fun H1 locs1 h9 _ h11 => ?_)
  rw [zws_set (M' := zup M o k0 x) hs (by rw [zcell_o, ← zfs_set hk0]; rfl) (fun a ha => zup_other ha)] at h9
  exact (k p e s mid args below meth c H1 locs1 ls ⟨hx, hb, hr, hk, hml, hown, hts, hE, h9, h11, hl⟩)
theorem z_iald {sh : List zSh} {g : zG} {d : Nat} {m : zMi} {Q : Option Value → zM → Prop} {pc : Nat} {lv : List (Nat × Value)} {st : List Value} {M : zM} {o n : Nat} {l : List (Option Nat)} {i : Int32} (hs : sh[o]? = some (0, n, l)) (hin : vp_in i n) (hd : decode m.2.1 pc = .ok (.iaload, 1)) (k : zW sh g d m Q (pc + 1) lv (.int (M o i.toNatClampNeg) :: st) M) : zW sh g d m Q pc lv (.int i :: .ref o :: st) M := by
  intro p e s mid args below meth c H locs ls h
  obtain ⟨hx, hb, hr, hk, hml, hown, hts, hE, hP, hS, hl⟩ := id h
  exact va_iald hx hb hE.1 hP o 0 (zws_at hs) rfl hin hd (k p e s mid args below meth c H locs ls h)
theorem z_zald {sh : List zSh} {g : zG} {d : Nat} {m : zMi} {Q : Option Value → zM → Prop} {pc : Nat} {lv : List (Nat × Value)} {st : List Value} {M : zM} {o n : Nat} {l : List (Option Nat)} {i : Int32} (hs : sh[o]? = some (1, n, l)) (hin : vp_in i n) (hd : decode m.2.1 pc = .ok (.baload, 1)) (k : zW sh g d m Q (pc + 1) lv (.int (M o i.toNatClampNeg) :: st) M) : zW sh g d m Q pc lv (.int i :: .ref o :: st) M := by
  intro p e s mid args below meth c H locs ls h
  obtain ⟨hx, hb, hr, hk, hml, hown, hts, hE, hP, hS, hl⟩ := id h
  exact va_zald hx hb hE.1 hP o 1 (zws_at hs) rfl hin hd (k p e s mid args below meth c H locs ls h)
theorem z_aald {sh : List zSh} {g : zG} {d : Nat} {m : zMi} {Q : Option Value → zM → Prop} {pc : Nat} {lv : List (Nat × Value)} {st : List Value} {M : zM} {o n : Nat} {l : List (Option Nat)} {i : Int32} (hs : sh[o]? = some (2, n, l)) (hin : vp_in i n) (hd : decode m.2.1 pc = .ok (.aaload, 1)) (k : zW sh g d m Q (pc + 1) lv (.ref (M o i.toNatClampNeg).toNatClampNeg :: st) M) : zW sh g d m Q pc lv (.int i :: .ref o :: st) M := by
  intro p e s mid args below meth c H locs ls h
  obtain ⟨hx, hb, hr, hk, hml, hown, hts, hE, hP, hS, hl⟩ := id h
  exact va_aldq hx hb hE.1 hP o 2 (zws_at hs) rfl hin hd (k p e s mid args below meth c H locs ls h)
theorem z_iast {sh : List zSh} {g : zG} {d : Nat} {m : zMi} {Q : Option Value → zM → Prop} {pc : Nat} {lv : List (Nat × Value)} {st : List Value} {M : zM} {o n : Nat} {l : List (Option Nat)} {i x : Int32} (hs : sh[o]? = some (0, n, l)) (hin : vp_in i n) (hd : decode m.2.1 pc = .ok (.iastore, 1)) (k : zW sh g d m Q (pc + 1) lv (st) (zup M o i.toNatClampNeg x)) : zW sh g d m Q pc lv (.int x :: .int i :: .ref o :: st) M := by
  intro p e s mid args below meth c H locs ls h
  obtain ⟨hx, hb, hr, hk, hml, hown, hts, hE, hP, hS, hl⟩ := id h
  refine va_iast hx hb hE.1 hP (zD hE.2.2.2.2.2.2.2.1) hS o 0 (zws_at hs) rfl hin hd (fun H1 locs1 h9 _ h11 => ?_)
  rw [zws_set (M' := zup M o i.toNatClampNeg x) hs (by rw [zcell_a, zup_row]) (fun a ha => zup_other ha)] at h9
  exact (k p e s mid args below meth c H1 locs1 ls ⟨hx, hb, hr, hk, hml, hown, hts, hE, h9, h11, hl⟩)
theorem z_zast {sh : List zSh} {g : zG} {d : Nat} {m : zMi} {Q : Option Value → zM → Prop} {pc : Nat} {lv : List (Nat × Value)} {st : List Value} {M : zM} {o n : Nat} {l : List (Option Nat)} {i : Int32} {b : Bool} (hs : sh[o]? = some (1, n, l)) (hin : vp_in i n) (hd : decode m.2.1 pc = .ok (.bastore, 1)) (k : zW sh g d m Q (pc + 1) lv (st) (zup M o i.toNatClampNeg (zbI b))) : zW sh g d m Q pc lv (.int (zbI b) :: .int i :: .ref o :: st) M := by
  intro p e s mid args below meth c H locs ls h
  obtain ⟨hx, hb, hr, hk, hml, hown, hts, hE, hP, hS, hl⟩ := id h
  refine va_zast hx hb hE.1 hP (zD hE.2.2.2.2.2.2.2.1) hS o 1 (zws_at hs) rfl hin hd (fun H1 locs1 h9 _ h11 => ?_)
  rw [show vp_nar .boolean (zbI b) = zbI b from by cases b <;> rfl, zws_set (M' := zup M o i.toNatClampNeg (zbI b)) hs (by rw [zcell_z, zup_row]) (fun a ha => zup_other ha)] at h9
  exact (k p e s mid args below meth c H1 locs1 ls ⟨hx, hb, hr, hk, hml, hown, hts, hE, h9, h11, hl⟩)
theorem z_aast {sh : List zSh} {g : zG} {d : Nat} {m : zMi} {Q : Option Value → zM → Prop} {pc : Nat} {lv : List (Nat × Value)} {st : List Value} {M : zM} {o n v : Nat} {l fs : List (Option Nat)} {i : Int32} (hs : sh[o]? = some (2, n, l)) (hv : sh[v]? = some (3, 2, fs)) (hv2 : v < 2 ^ 31) (hin : vp_in i n) (hd : decode m.2.1 pc = .ok (.aastore, 1)) (k : zW sh g d m Q (pc + 1) lv (st) (zup M o i.toNatClampNeg (nI v))) : zW sh g d m Q pc lv (.ref v :: .int i :: .ref o :: st) M := by
  intro p e s mid args below meth c H locs ls h
  obtain ⟨hx, hb, hr, hk, hml, hown, hts, hE, hP, hS, hl⟩ := id h
  refine va_astq hx hb hE.1 hP (zD hE.2.2.2.2.2.2.2.1) hS o 2 v 2 (r := (RX2, TX2, 8)) (zws_at hs) rfl (zws_at hv) rfl hin hd (fun H1 locs1 h9 _ h11 => ?_)
  have e9 : (fun j => some (zad g (upd (M o) i.toNatClampNeg (nI v) j).toNatClampNeg)) = va_up (fun j => some (zad g (M o j).toNatClampNeg)) i.toNatClampNeg (some (zad g v)) := by
    funext j
    by_cases hj : j = i.toNatClampNeg
    · subst hj
      simp [upd, va_up, nI_clamp hv2]
    · simp [upd, va_up, hj]
  rw [zws_set (M' := zup M o i.toNatClampNeg (nI v)) hs (by rw [zcell_q, zup_row, e9]) (fun a ha => zup_other ha)] at h9
  exact (k p e s mid args below meth c H1 locs1 ls ⟨hx, hb, hr, hk, hml, hown, hts, hE, h9, h11, hl⟩)
theorem z_alen {sh : List zSh} {g : zG} {d : Nat} {m : zMi} {Q : Option Value → zM → Prop} {pc : Nat} {lv : List (Nat × Value)} {st : List Value} {M : zM} {o n : Nat} {l : List (Option Nat)} {kd : Nat} {v : Int32} (hs : sh[o]? = some (kd, n, l)) (hkd : kd = 0 ∨ kd = 1) (hv : Int32.ofNat n = v) (hd : decode m.2.1 pc = .ok (.arraylength, 1)) (k : zW sh g d m Q (pc + 1) lv (.int v :: st) M) : zW sh g d m Q pc lv (.ref o :: st) M := by
  intro p e s mid args below meth c H locs ls h
  obtain ⟨hx, hb, hr, hk, hml, hown, hts, hE, hP, hS, hl⟩ := id h
  rcases hkd with rfl | rfl
  · exact va_alen hx hb hE.1 hP o 0 (zws_at hs) rfl hv hd (k p e s mid args below meth c H locs ls h)
  · exact va_alen hx hb hE.1 hP o 1 (zws_at hs) rfl hv hd (k p e s mid args below meth c H locs ls h)
theorem z_gets0 {sh : List zSh} {g : zG} {d : Nat} {m : zMi} {Q : Option Value → zM → Prop} {pc : Nat} {lv : List (Nat × Value)} {st : List Value} {M : zM} {idx : Nat} {host : String} (hc : (m.1.cls, idx, "LeftSkate", "STEP_X", "[I", host) ∈ zNF) (hd : decode m.2.1 pc = .ok (.getstatic idx, 3)) (k : zW sh g d m Q (pc + 3) lv (.ref 3000 :: st) M) : zW sh g d m Q pc lv (st) M := by
  intro p e s mid args below meth c H locs ls h
  obtain ⟨hx, hb, hr, hk, hml, hown, hts, hE, hP, hS, hl⟩ := id h
  exact va_getsN hx hb hE.2.2.2.2.1 hS hown (va_Nw.use rfl (hE.2.2.2.2.2.2.2.2.2.1 _ hc)) (fun _ z => z) hd (k p e s mid args below meth c H locs ls h)
theorem z_gets1 {sh : List zSh} {g : zG} {d : Nat} {m : zMi} {Q : Option Value → zM → Prop} {pc : Nat} {lv : List (Nat × Value)} {st : List Value} {M : zM} {idx : Nat} {host : String} (hc : (m.1.cls, idx, "LeftSkate", "STEP_Y", "[I", host) ∈ zNF) (hd : decode m.2.1 pc = .ok (.getstatic idx, 3)) (k : zW sh g d m Q (pc + 3) lv (.ref 3001 :: st) M) : zW sh g d m Q pc lv (st) M := by
  intro p e s mid args below meth c H locs ls h
  obtain ⟨hx, hb, hr, hk, hml, hown, hts, hE, hP, hS, hl⟩ := id h
  exact va_getsN hx hb hE.2.2.2.2.2.1 hS hown (va_Nw.use rfl (hE.2.2.2.2.2.2.2.2.2.1 _ hc)) (fun _ z => z) hd (k p e s mid args below meth c H locs ls h)
theorem z_getsC {sh : List zSh} {g : zG} {d : Nat} {m : zMi} {Q : Option Value → zM → Prop} {pc : Nat} {lv : List (Nat × Value)} {st : List Value} {M : zM} {idx : Nat} (hc : Cond.fieldLink m.1.cls idx "java/lang/String" "COMPACT_STRINGS" "Z" ∈ zTb) (hd : decode m.2.1 pc = .ok (.getstatic idx, 3)) (k : zW sh g d m Q (pc + 3) lv (.int 1 :: st) M) : zW sh g d m Q pc lv (st) M := by
  intro p e s mid args below meth c H locs ls h
  obtain ⟨hx, hb, hr, hk, hml, hown, hts, hE, hP, hS, hl⟩ := id h
  exact va_gets hx hb hE.2.2.2.1 hS hown (hts _ hc) (fun _ z => z) hd (k p e s mid args below meth c H locs ls h)
theorem z_stald {sh : List zSh} {g : zG} {d : Nat} {m : zMi} {Q : Option Value → zM → Prop} {pc : Nat} {lv : List (Nat × Value)} {st : List Value} {M : zM} {q : Nat} {i : Int32} (hq : q < 2) (hin : vp_in i 4) (hd : decode m.2.1 pc = .ok (.iaload, 1)) (k : zW sh g d m Q (pc + 1) lv (.int (zSt q i.toNatClampNeg) :: st) M) : zW sh g d m Q pc lv (.int i :: .ref (3000 + q) :: st) M := by
  intro p e s mid args below meth c H locs ls h
  obtain ⟨hx, hb, hr, hk, hml, hown, hts, hE, hP, hS, hl⟩ := id h
  exact va_ti hx hb (hE.2.2.2.2.2.2.1 q hq) hS hin rfl hd (k p e s mid args below meth c H locs ls h)
theorem z_strval {sh : List zSh} {g : zG} {d : Nat} {m : zMi} {Q : Option Value → zM → Prop} {pc : Nat} {lv : List (Nat × Value)} {st : List Value} {M : zM} {q idx : Nat} (hq : q < 23) (hc : Cond.fieldLink m.1.cls idx "java/lang/String" "value" "[B" ∈ zTb) (hd : decode m.2.1 pc = .ok (.getfield idx, 3)) (k : zW sh g d m Q (pc + 3) lv (.ref (8192 + q) :: st) M) : zW sh g d m Q pc lv (.ref (4096 + q) :: st) M := by
  intro p e s mid args below meth c H locs ls h
  obtain ⟨hx, hb, hr, hk, hml, hown, hts, hE, hP, hS, hl⟩ := id h
  exact vk_getf hx hb (hE.2.1.1 q hq).2.2.1 hS hown (hts _ hc) (fun _ z => z) hd (k p e s mid args below meth c H locs ls h)
theorem z_strcod {sh : List zSh} {g : zG} {d : Nat} {m : zMi} {Q : Option Value → zM → Prop} {pc : Nat} {lv : List (Nat × Value)} {st : List Value} {M : zM} {q idx : Nat} (hq : q < 23) (hc : Cond.fieldLink m.1.cls idx "java/lang/String" "coder" "B" ∈ zTb) (hd : decode m.2.1 pc = .ok (.getfield idx, 3)) (k : zW sh g d m Q (pc + 3) lv (.int 0 :: st) M) : zW sh g d m Q pc lv (.ref (4096 + q) :: st) M := by
  intro p e s mid args below meth c H locs ls h
  obtain ⟨hx, hb, hr, hk, hml, hown, hts, hE, hP, hS, hl⟩ := id h
  exact vk_getf hx hb (hE.2.1.1 q hq).2.1 hS hown (hts _ hc) (fun _ z => z) hd (k p e s mid args below meth c H locs ls h)
theorem z_strlen {sh : List zSh} {g : zG} {d : Nat} {m : zMi} {Q : Option Value → zM → Prop} {pc : Nat} {lv : List (Nat × Value)} {st : List Value} {M : zM} {q : Nat} {v : Int32} (hq : q < 23) (hv : Int32.ofNat (zLen.getD q 0) = v) (hd : decode m.2.1 pc = .ok (.arraylength, 1)) (k : zW sh g d m Q (pc + 1) lv (.int v :: st) M) : zW sh g d m Q pc lv (.ref (8192 + q) :: st) M := by
  intro p e s mid args below meth c H locs ls h
  obtain ⟨hx, hb, hr, hk, hml, hown, hts, hE, hP, hS, hl⟩ := id h
  exact va_tlen hx hb (hE.2.1.1 q hq).2.2.2 hS hv hd (k p e s mid args below meth c H locs ls h)
theorem z_strald {sh : List zSh} {g : zG} {d : Nat} {m : zMi} {Q : Option Value → zM → Prop} {pc : Nat} {lv : List (Nat × Value)} {st : List Value} {M : zM} {q : Nat} {i : Int32} (hq : q < 23) (hin : vp_in i (zLen.getD q 0)) (hd : decode m.2.1 pc = .ok (.baload, 1)) (k : zW sh g d m Q (pc + 1) lv (.int ((zBy.getD q []).getD i.toNatClampNeg 0) :: st) M) : zW sh g d m Q pc lv (.int i :: .ref (8192 + q) :: st) M := by
  intro p e s mid args below meth c H locs ls h
  obtain ⟨hx, hb, hr, hk, hml, hown, hts, hE, hP, hS, hl⟩ := id h
  exact va_tb hx hb (hE.2.1.1 q hq).2.2.2 hS hin rfl hd (k p e s mid args below meth c H locs ls h)
theorem z_iret {sh : List zSh} {g : zG} {d : Nat} {m : zMi} {Q : Option Value → zM → Prop} {pc : Nat} {lv : List (Nat × Value)} {st : List Value} {M : zM} {x : Int32} {ty : FieldType} (hty : m.2.2.2 = some ty) (hn : narrow ty (.int x) = .int x) (hd : decode m.2.1 pc = .ok (.ireturn, 1)) (k : Q (some (.int x)) M) : zW sh g d m Q pc lv [.int x] M := by
  intro p e s mid args below meth c H locs ls h
  obtain ⟨hx, hb, hr, hk, hml, hown, hts, hE, hP, hS, hl⟩ := h
  exact W.zret hx hb (hr.trans hty) hn (fun t ht hW => ⟨⟨some (.int x), M, rfl, k, by rw [ht]; exact hP⟩, hS.F ht⟩) hS.2.2 hd
theorem z_lret {sh : List zSh} {g : zG} {d : Nat} {m : zMi} {Q : Option Value → zM → Prop} {pc : Nat} {lv : List (Nat × Value)} {st : List Value} {M : zM} {x : Int64} (hty : m.2.2.2 = some .long) (hd : decode m.2.1 pc = .ok (.lreturn, 1)) (k : Q (some (.long x)) M) : zW sh g d m Q pc lv [.long x] M := by
  intro p e s mid args below meth c H locs ls h
  obtain ⟨hx, hb, hr, hk, hml, hown, hts, hE, hP, hS, hl⟩ := h
  exact W.lret hx hb (hr.trans hty) (fun t ht hW => ⟨⟨some (.long x), M, rfl, k, by rw [ht]; exact hP⟩, hS.F ht⟩) hS.2.2 hd
theorem z_vret {sh : List zSh} {g : zG} {d : Nat} {m : zMi} {Q : Option Value → zM → Prop} {pc : Nat} {lv : List (Nat × Value)} {st : List Value} {M : zM}  (hty : m.2.2.2 = none) (hd : decode m.2.1 pc = .ok (.return_, 1)) (k : Q none M) : zW sh g d m Q pc lv [] M := by
  intro p e s mid args below meth c H locs ls h
  obtain ⟨hx, hb, hr, hk, hml, hown, hts, hE, hP, hS, hl⟩ := h
  exact W.vret hx hb (hr.trans hty) (fun t ht hW => ⟨⟨none, M, rfl, k, by rw [ht]; exact hP⟩, hS.F ht⟩) hS.2.2 hd
/-- what the tables say of a method that is called: with its parameters' number -/
def zOk (m : zMi) (n : Nat) : Prop := Cond.code m.1 m.2.1 m.2.2.1 m.2.2.2 ∈ zTb ∧ Cond.initialized m.1.cls ∈ zTb ∧ (m.1.cls ≠ "java/lang/invoke/MethodHandle" ∧ m.1.cls ≠ "java/lang/invoke/VarHandle") ∧ (parseMethodDescriptor m.1.desc).map (fun q => q.parameters.length) = some n ∧ m.2.2.1 ≤ 40
def zLnk (own : String) (idx : Nat) (y : MethodName) : Prop := Cond.methodLink own idx y ∈ zTb ∨ ∃ host, (own, idx, y, host) ∈ zNM
def zOkV (m : zMi) (n : Nat) : Prop := zOk m n ∧ Cond.instanceMethod m.1 ∈ zTb ∧ Cond.selects m.1.cls m.1 m.1 ∈ zTb
def zOkS (m : zMi) (n : Nat) : Prop := zOk m n ∧ Cond.static m.1 ∈ zTb
theorem zgood : ∀ w ∈ zTb, goodWord w = true := fun w hw => (List.mem_filter.mp hw).2
theorem zGood {m : zMi} {n : Nat} (h : zOk m n) : GoodIn zTb (.code m.1 m.2.1 m.2.2.1 m.2.2.2 :: zTb) := by
  intro w hw
  have h1 : w ∈ zTb := by
    rcases List.mem_cons.mp hw with rfl | h2
    · exact h.1
    · exact h2
  exact ⟨h1, good_of_word (zgood w h1)⟩
theorem zblind {sh : List zSh} {g : zG} {as : List Value} {M : zM} : FrameBlind (zPc sh g as M) := fun a U gf mk h => ⟨h.1, zE.call h.2.1, h.2.2⟩
theorem zcat (g : zG) (st : List Value) : ((st.map (ztr g)).map fun v => v.category).sum = (st.map fun v => v.category).sum := by
  have hc : ∀ v : Value, (ztr g v).category = v.category := fun v => by cases v <;> rfl
  simp only [List.map_map, Function.comp_def, hc]
theorem zpre {sh : List zSh} {g : zG} {as : List Value} {M : zM} {s : State} {H : Heap} {locs : List Loc} (hE : zE sh g s s.heap) (hP : va_P (zDD g) vwCl (zws sh g M) H) (hS : va_S (zA sh g) s.heap H locs) : ∀ U : State, U.heap = H → s.WarmedH U.vm → zPc sh g as M (as.map (ztr g)).toArray U := fun U hU hW => ⟨rfl, by rw [hU]; exact hE.go hW hS.2.1, by rw [hU]; exact hP⟩
theorem zback {sh : List zSh} {g : zG} {d : Nat} {m : zMi} {Q : Option Value → zM → Prop} {pc : Nat} {lv : List (Nat × Value)} {st st0 : List Value} {M : zM} {Q1 : Option Value → zM → Prop} (hQ : ∀ r M1, Q1 r M1 → zW sh g d m Q (pc + 3) lv (r.toList ++ st) M1) {p : Program} {e : Env} {s : State} {mid : MethodId} {args : Array Value} {below : List Frame} {meth : Method} {c : Code} {H : Heap} {locs : List Loc} {ls : Array Slot} {a : Array Value} (h : zH sh g m lv M p s mid args meth c H locs ls)
    (hr : va_Run p g.1 e (zrm d) s mid args below meth c H locs 0 0 0 0 (F0 mid pc ls (st0.map (ztr g))) (st.map (ztr g)) (zQc sh g Q1 a) (zA sh g)) : W p g.1 e (zrm d) s mid args below meth c H locs 0 0 (MQ below (zQc sh g Q) args s 0 0 (zA sh g)) (F0 mid pc ls (st0.map (ztr g))) := by
  obtain ⟨hx, hb, hr2, hk, hml, hown, hts, hE, hP, hS, hl⟩ := h
  intro T hT X
  obtain ⟨v, st₀, t, T', L, h0, X', hL, e1, e2, ⟨⟨r, M1, hv, hq, hp⟩, hz, hkk⟩, hst⟩ := hr T hT X
  cases hv
  rw [h0] at hz hkk
  have hS1 : va_S (zA sh g) s.heap T'.heap (locs ++ L) := ⟨Nat.le_trans hS.1 (by rw [e1]; exact hz), fun q h1 h2 => by rw [e1, hkk q (Nat.lt_of_lt_of_le h1 hS.1) h2]; exact hS.2.1 q h1 h2, fun q hq => by
      rcases List.mem_append.mp hq with h | h
      · exact hS.2.2 q h
      · exact hL q h⟩
  obtain ⟨t2, a1, b1⟩ := hQ r M1 hq p e s mid args below meth c T'.heap (locs ++ L) ls ⟨hx, hb, hr2, hk, hml, hown, hts, hE, by rw [e1]; exact hp, hS1, hl⟩ T' rfl X'
  refine ⟨t2, hst t2 ?_, b1⟩
  have e3 : (r.map (ztr g)).toList ++ st.map (ztr g) = (r.toList ++ st).map (ztr g) := by cases r <;> rfl
  rw [e3]
  exact a1
theorem z_callV {sh : List zSh} {g : zG} {d : Nat} {m m2 : zMi} {Q : Option Value → zM → Prop} {pc : Nat} {lv : List (Nat × Value)} {st stk : List Value} {M : zM} {o ci n idx : Nat} {fs : List (Option Nat)} (as : List Value) (hok : zOkV m2 n) (hl : zLnk m.1.cls idx m2.1) (hs : sh[o]? = some (3, ci, fs)) (hc : vwCl[ci]?.map (fun q => q.1) = some m2.1.cls) (hn : as.length = n) (hstk : stk = as.reverse ++ .ref o :: st) (hcat : (st.map fun v => v.category).sum ≤ 8) (hd : decode m.2.1 pc = .ok (.invokevirtual idx, 3))
    (k : zC sh g d m2 (.ref o :: as) M (fun r M1 => zW sh g (d + 1) m Q (pc + 3) lv (r.toList ++ st) M1)) : zW sh g (d + 1) m Q pc lv stk M := by
  intro p e s mid args below meth c H locs ls h
  obtain ⟨hx, hb, hr, hk, hml, hown, hts, hE, hP, hS, hlv⟩ := id h
  subst hstk
  obtain ⟨hok0, hin, hsel⟩ := hok
  obtain ⟨q, hq1, hq2⟩ := Option.map_eq_some_iff.mp hc
  have hrecv := va_recv hE.1 hP hq1 (zws_at hs)
  rw [hq2] at hrecv
  refine zback (st := st) (Q1 := fun r M1 => zW sh g (d + 1) m Q (pc + 3) lv (r.toList ++ st) M1) (a := (Value.ref (zad g o) :: as.map (ztr g)).toArray) (fun r M1 hq => hq) h ?_
  have hR : (zrm d).frames + 1 ≤ (zrm (d + 1)).frames ∧ 8 + (m2.2.2.1 + 11) + (zrm d).locals ≤ (zrm (d + 1)).locals := by
    have := hok0.2.2.2.2
    simp only [zrm]
    omega
  rcases hl with hl | ⟨host, hl⟩
  · exact va_runV (As := as.map (ztr g)) (n := n) ⟨hx, hb, hml, hown, hts⟩ k ⟨callB_of n hts (zGood hok0) rfl rfl rfl (hts _ hok0.2.1) (hts _ hl) ⟨hok0.2.2.1.1, hok0.2.2.1.2, hok0.2.2.2.1⟩ hR, hts _ hin, hts _ hsel⟩ ⟨zblind, hrecv, zpre hE hP hS⟩ rfl (by rw [List.length_map]; exact hn) hlv.1 (by show List.map (ztr g) _ = _; simp only [List.map_append, List.map_reverse, List.map_cons]; rfl) (by rw [zcat]; simpa [JFrame.monitorRoom] using hcat) hd ⟨Nat.le_refl _, Nat.le_refl _⟩
  · exact va_runVN (As := as.map (ztr g)) (n := n) ⟨hx, hb, hml, hown, hts⟩ k ⟨va_cnB n hts (zGood hok0) rfl rfl rfl (hE.2.2.2.2.2.2.2.2.1 _ hl) (hts _ hok0.2.1) ⟨hok0.2.2.1.1, hok0.2.2.1.2, hok0.2.2.2.1⟩ hR, hts _ hin, hts _ hsel⟩ ⟨zblind, hrecv, zpre hE hP hS⟩ rfl (by rw [List.length_map]; exact hn) hlv.1 (by show List.map (ztr g) _ = _; simp only [List.map_append, List.map_reverse, List.map_cons]; rfl) (by rw [zcat]; simpa [JFrame.monitorRoom] using hcat) hd ⟨Nat.le_refl _, Nat.le_refl _⟩
theorem z_callT {sh : List zSh} {g : zG} {d : Nat} {m m2 : zMi} {Q : Option Value → zM → Prop} {pc : Nat} {lv : List (Nat × Value)} {st stk : List Value} {M : zM} {i n idx : Nat} (as : List Value) (hok : zOkV m2 n) (hl : Cond.methodLink m.1.cls idx m2.1 ∈ zTb) (hi : i < 23) (hc : m2.1.cls = "java/lang/String") (hn : as.length = n) (hstk : stk = as.reverse ++ .ref (4096 + i) :: st) (hcat : (st.map fun v => v.category).sum ≤ 8) (hd : decode m.2.1 pc = .ok (.invokevirtual idx, 3))
    (k : zC sh g d m2 (.ref (4096 + i) :: as) M (fun r M1 => zW sh g (d + 1) m Q (pc + 3) lv (r.toList ++ st) M1)) : zW sh g (d + 1) m Q pc lv stk M := by
  intro p e s mid args below meth c H locs ls h
  obtain ⟨hx, hb, hr, hk, hml, hown, hts, hE, hP, hS, hlv⟩ := id h
  subst hstk
  obtain ⟨hok0, hin, hsel⟩ := hok
  have hrecv := vk_recv hE.2.1 hi hS
  rw [← hc] at hrecv
  refine zback (st := st) (Q1 := fun r M1 => zW sh g (d + 1) m Q (pc + 3) lv (r.toList ++ st) M1) (a := (Value.ref (zad g (4096 + i)) :: as.map (ztr g)).toArray) (fun r M1 hq => hq) h ?_
  have hR : (zrm d).frames + 1 ≤ (zrm (d + 1)).frames ∧ 8 + (m2.2.2.1 + 11) + (zrm d).locals ≤ (zrm (d + 1)).locals := by
    have := hok0.2.2.2.2
    simp only [zrm]
    omega
  exact va_runV (As := as.map (ztr g)) (n := n) ⟨hx, hb, hml, hown, hts⟩ k ⟨callB_of n hts (zGood hok0) rfl rfl rfl (hts _ hok0.2.1) (hts _ hl) ⟨hok0.2.2.1.1, hok0.2.2.1.2, hok0.2.2.2.1⟩ hR, hts _ hin, hts _ hsel⟩ ⟨zblind, hrecv, zpre hE hP hS⟩ rfl (by rw [List.length_map]; exact hn) hlv.1 (by show List.map (ztr g) _ = _; simp only [List.map_append, List.map_reverse, List.map_cons]; rfl) (by rw [zcat]; simpa [JFrame.monitorRoom] using hcat) hd ⟨Nat.le_refl _, Nat.le_refl _⟩
theorem z_callS {sh : List zSh} {g : zG} {d : Nat} {m m2 : zMi} {Q : Option Value → zM → Prop} {pc : Nat} {lv : List (Nat × Value)} {st stk : List Value} {M : zM} {n idx : Nat} (as : List Value) (hok : zOkS m2 n) (hl : zLnk m.1.cls idx m2.1) (hn : as.length = n) (hstk : stk = as.reverse ++ st) (hcat : (st.map fun v => v.category).sum ≤ 8) (hd : decode m.2.1 pc = .ok (.invokestatic idx, 3))
    (k : zC sh g d m2 as M (fun r M1 => zW sh g (d + 1) m Q (pc + 3) lv (r.toList ++ st) M1)) : zW sh g (d + 1) m Q pc lv stk M := by
  intro p e s mid args below meth c H locs ls h
  obtain ⟨hx, hb, hr, hk, hml, hown, hts, hE, hP, hS, hlv⟩ := id h
  subst hstk
  obtain ⟨hok0, hsta⟩ := hok
  refine zback (st := st) (Q1 := fun r M1 => zW sh g (d + 1) m Q (pc + 3) lv (r.toList ++ st) M1) (a := (as.map (ztr g)).toArray) (fun r M1 hq => hq) h ?_
  have hR : (zrm d).frames + 1 ≤ (zrm (d + 1)).frames ∧ 8 + (m2.2.2.1 + 11) + (zrm d).locals ≤ (zrm (d + 1)).locals := by
    have := hok0.2.2.2.2
    simp only [zrm]
    omega
  rcases hl with hl | ⟨host, hl⟩
  · exact va_runS (As := as.map (ztr g)) (n := n) ⟨hx, hb, hml, hown, hts⟩ k ⟨callB_of n hts (zGood hok0) rfl rfl rfl (hts _ hok0.2.1) (hts _ hl) ⟨hok0.2.2.1.1, hok0.2.2.1.2, hok0.2.2.2.1⟩ hR, hts _ hsta⟩ ⟨zblind, zpre hE hP hS⟩ rfl (by rw [List.length_map]; exact hn) hlv.1 (by show List.map (ztr g) _ = _; simp only [List.map_append, List.map_reverse]) (by rw [zcat]; simpa [JFrame.monitorRoom] using hcat) hd ⟨Nat.le_refl _, Nat.le_refl _⟩
  · exact va_runSN (As := as.map (ztr g)) (n := n) ⟨hx, hb, hml, hown, hts⟩ k ⟨va_cnB n hts (zGood hok0) rfl rfl rfl (hE.2.2.2.2.2.2.2.2.1 _ hl) (hts _ hok0.2.1) ⟨hok0.2.2.1.1, hok0.2.2.1.2, hok0.2.2.2.1⟩ hR, hts _ hsta, trivial⟩ ⟨zblind, zpre hE hP hS⟩ rfl (by rw [List.length_map]; exact hn) hlv.1 (by show List.map (ztr g) _ = _; simp only [List.map_append, List.map_reverse]) (by rw [zcat]; simpa [JFrame.monitorRoom] using hcat) hd ⟨Nat.le_refl _, Nat.le_refl _⟩
theorem z_copy {sh : List zSh} {g : zG} {d : Nat} {m : zMi} {Q : Option Value → zM → Prop} {pc : Nat} {lv : List (Nat × Value)} {st : List Value} {M : zM} {o0 o1 n0 n1 idx : Nat} {l0 l1 : List (Option Nat)} {sp dp n : Int32} (hs0 : sh[o0]? = some (0, n0, l0)) (hs1 : sh[o1]? = some (0, n1, l1)) (hl : Cond.methodLink m.1.cls idx arraycopyName ∈ zTb) (h1 : ¬ sp < 0) (h2 : ¬ dp < 0) (h3 : ¬ n < 0) (h4 : sp.toNatClampNeg + n.toNatClampNeg ≤ n0) (h5 : dp.toNatClampNeg + n.toNatClampNeg ≤ n1) (hcat : (st.map fun v => v.category).sum ≤ 8) (hd : decode m.2.1 pc = .ok (.invokestatic idx, 3))
    (k : zW sh g (d + 1) m Q (pc + 3) lv st (fun a j => if a = o1 then va_cpy (M o0) (M o1) sp.toNatClampNeg dp.toNatClampNeg n.toNatClampNeg j else M a j)) : zW sh g (d + 1) m Q pc lv (.int n :: .int dp :: .ref o1 :: .int sp :: .ref o0 :: st) M := by
  intro p e s mid args below meth c H locs ls h
  obtain ⟨hx, hb, hr, hk, hml, hown, hts, hE, hP, hS, hlv⟩ := id h
  refine va_copyi hx hb (hml.trans hlv.1.symm) hown (hts _ hl) (hts _ (by decide +kernel)) (hts _ (by decide +kernel)) (hts _ (by decide +kernel)) hE.1 hP (zD hE.2.2.2.2.2.2.2.1) hS o0 o1 0 0 (zws_at hs0) (zws_at hs1) rfl rfl rfl h1 h2 h3 h4 h5 (fun _ _ => rfl) (by simp only [zrm]; omega) ?_ hd (fun H1 locs1 h9 _ h11 => ?_)
  · rw [zcat]
    have : nativeFrameWords "java/lang/System" "arraycopy" 5 + 11 ≤ 56 := by decide +kernel
    simp only [zrm]
    omega
  · rw [zws_set (M' := fun a j => if a = o1 then va_cpy (M o0) (M o1) sp.toNatClampNeg dp.toNatClampNeg n.toNatClampNeg j else M a j) hs1 (by simp only [zcell_a, if_true]) (fun a ha => by funext j; simp only [ha, if_false])] at h9
    exact k p e s mid args below meth c H1 locs1 ls ⟨hx, hb, hr, hk, hml, hown, hts, hE, h9, h11, hlv⟩
