/-! Math.max, min, abs: rows (the machine keeps them by itself) -/
def imax (x y : Int32) : Int32 := if x < y then y else x
def imin (x y : Int32) : Int32 := if y < x then y else x
def iabs (x : Int32) : Int32 := if 0 ≤ x then x else 0 - x
theorem z_max {sh : List zSh} {g : zG} {d : Nat} {m : zMi} {Q : Option Value → zM → Prop} {pc : Nat} {lv : List (Nat × Value)} {st : List Value} {M : zM} {x y : Int32} {idx : Nat} (hl : Cond.methodLink m.1.cls idx yJ9_max_7cf53 ∈ zTb) (hcat : (st.map fun v => v.category).sum ≤ 8) (hd : decode m.2.1 pc = .ok (.invokestatic idx, 3)) (k : zW sh g (d + 1) m Q (pc + 3) lv (.int (imax x y) :: st) M) : zW sh g (d + 1) m Q pc lv (.int y :: .int x :: st) M := by
  intro p e s mid args below meth c H locs ls h
  obtain ⟨hx, hb, hr, hk, hml, hown, hts, hE, hP, hS, hlv⟩ := id h
  have h1 : Cond.code Lib.Math.max.name Lib.Math.max.code 2 (some .int) ∈ zTb := zat 883 (by decide +kernel) rfl
  have h2 : Cond.static Lib.Math.max.name ∈ zTb := zat 882 (by decide +kernel) rfl
  have h3 : Cond.initialized "java/lang/Math" ∈ zTb := zat 136 (by decide +kernel) rfl
  exact va_mmax hx hb (hml.trans hlv.1.symm) hown (hts _ hl) (hts _ h2) (hts _ h3) (hts _ h1) (by simp only [zrm]; omega) (by rw [zcat]; simp only [zrm]; omega) (Nat.zero_le _) (Nat.zero_le _) hd (k p e s mid args below meth c H locs ls h)
theorem z_min {sh : List zSh} {g : zG} {d : Nat} {m : zMi} {Q : Option Value → zM → Prop} {pc : Nat} {lv : List (Nat × Value)} {st : List Value} {M : zM} {x y : Int32} {idx : Nat} (hl : Cond.methodLink m.1.cls idx yJ9_min_7cf53 ∈ zTb) (hcat : (st.map fun v => v.category).sum ≤ 8) (hd : decode m.2.1 pc = .ok (.invokestatic idx, 3)) (k : zW sh g (d + 1) m Q (pc + 3) lv (.int (imin x y) :: st) M) : zW sh g (d + 1) m Q pc lv (.int y :: .int x :: st) M := by
  intro p e s mid args below meth c H locs ls h
  obtain ⟨hx, hb, hr, hk, hml, hown, hts, hE, hP, hS, hlv⟩ := id h
  have h1 : Cond.code Lib.Math.min.name Lib.Math.min.code 2 (some .int) ∈ zTb := zat 820 (by decide +kernel) rfl
  have h2 : Cond.static Lib.Math.min.name ∈ zTb := zat 819 (by decide +kernel) rfl
  have h3 : Cond.initialized "java/lang/Math" ∈ zTb := zat 136 (by decide +kernel) rfl
  exact va_mmin hx hb (hml.trans hlv.1.symm) hown (hts _ hl) (hts _ h2) (hts _ h3) (hts _ h1) (by simp only [zrm]; omega) (by rw [zcat]; simp only [zrm]; omega) (Nat.zero_le _) (Nat.zero_le _) hd (k p e s mid args below meth c H locs ls h)
theorem z_abs {sh : List zSh} {g : zG} {d : Nat} {m : zMi} {Q : Option Value → zM → Prop} {pc : Nat} {lv : List (Nat × Value)} {st : List Value} {M : zM} {x : Int32} {idx : Nat} (hl : Cond.methodLink m.1.cls idx yJ9_abs_0f7a4 ∈ zTb) (hcat : (st.map fun v => v.category).sum ≤ 8) (hd : decode m.2.1 pc = .ok (.invokestatic idx, 3)) (k : zW sh g (d + 1) m Q (pc + 3) lv (.int (iabs x) :: st) M) : zW sh g (d + 1) m Q pc lv (.int x :: st) M := by
  intro p e s mid args below meth c H locs ls h
  obtain ⟨hx, hb, hr, hk, hml, hown, hts, hE, hP, hS, hlv⟩ := id h
  have h1 : Cond.code Lib.Math.abs.name Lib.Math.abs.code 1 (some .int) ∈ zTb := zat 1032 (by decide +kernel) rfl
  have h2 : Cond.static Lib.Math.abs.name ∈ zTb := zat 1031 (by decide +kernel) rfl
  have h3 : Cond.initialized "java/lang/Math" ∈ zTb := zat 136 (by decide +kernel) rfl
  exact va_mabs hx hb (hml.trans hlv.1.symm) hown (hts _ hl) (hts _ h2) (hts _ h3) (hts _ h1) (by simp only [zrm]; omega) (by rw [zcat]; simp only [zrm]; omega) (Nat.zero_le _) (Nat.zero_le _) hd (k p e s mid args below meth c H locs ls h)
