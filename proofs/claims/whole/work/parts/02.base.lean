/-! THE PURE LAYER. A world of a fixed shape 'sh' (arrays of int, of boolean, of references to moments; objects with int slots and slots that hold a fixed place), its changing contents M : place → slot → Int32.
zW: the machine at pc with these locals, this stack, these contents comes to an end that Q says. zC: a method's contract. Rows: an instruction each. -/
/-- the tables' words that stay through every call -/
def zTb : List Cond := lw_tbl.filter goodWord
theorem zin {w : Cond} (h : w ∈ lw_tbl) (hg : goodWord w = true) : w ∈ zTb := List.mem_filter.mpr ⟨h, hg⟩
theorem zat {w : Cond} (i : Nat) (h : lw_tbl[i]? = some w) (hg : goodWord w = true) : w ∈ zTb := zin (List.mem_of_getElem? h) hg
/-- the words of nest mates -/
def zNM : List (String × Nat × MethodName × String) := [("LeftSkate$Router", 57, yX8_distance, "LeftSkate")]
def zNF : List (String × Nat × String × String × String × String) := [("LeftSkate$World", 112, "LeftSkate", "STEP_X", "[I", "LeftSkate"), ("LeftSkate$World", 115, "LeftSkate", "STEP_Y", "[I", "LeftSkate")]
abbrev zSh : Type := Nat × Nat × List (Option Nat)
abbrev zM : Type := Nat → Nat → Int32
abbrev zMi : Type := MethodName × ByteArray × Nat × Option FieldType
abbrev zG : Type := Launch × (Nat → Nat) × va_G × ClassId × ClassId × ClassId
abbrev zad (g : zG) : Nat → Nat := g.2.1
abbrev zDD (g : zG) : va_G := g.2.2.1
def ztr (g : zG) (v : Value) : Value := match v with
  | .ref k => .ref (zad g k)
  | v => v
def zfs (g : zG) (M : zM) (k : Nat) (fs : List (Option Nat)) : List Value := fs.mapIdx fun j o => match o with
  | none => Value.int (M k j)
  | some r => .ref (zad g r)
def zcell (g : zG) (M : zM) (k : Nat) (s : zSh) : Nat × va_E := (zad g k,
  if s.1 = 0 then .inl (g.2.2.2.1, s.2.1, .inl (M k)) else if s.1 = 1 then .inl (g.2.2.2.2.1, s.2.1, .inl (M k))
  else if s.1 = 2 then .inl (g.2.2.2.2.2, s.2.1, .inr (.inr (.inr (.inr fun j => some (zad g (M k j).toNatClampNeg))))) else .inr (s.2.1, zfs g M k s.2.2))
def zws (sh : List zSh) (g : zG) (M : zM) : va_W := sh.mapIdx (zcell g M)
def zA (sh : List zSh) (g : zG) : Nat → Prop := fun q => ∃ k, k < sh.length ∧ q = zad g k
def zI (sh : List zSh) (g : zG) : Prop := ∀ i j, i < sh.length → j < sh.length → zad g i = zad g j → i = j
def zup (M : zM) (k i : Nat) (x : Int32) : zM := fun a j => if a = k ∧ j = i then x else M a j
theorem zup_row (M : zM) (k i : Nat) (x : Int32) : zup M k i x k = upd (M k) i x := by
  funext j
  simp [zup, upd]
theorem zup_other {M : zM} {k i : Nat} {x : Int32} {a : Nat} (h : a ≠ k) : zup M k i x a = M a := by
  funext j
  simp [zup, h]
theorem zws_at {sh : List zSh} {g : zG} {M : zM} {k : Nat} {s : zSh} (h : sh[k]? = some s) : (zws sh g M)[k]? = some (zcell g M k s) := by simp [zws, List.getElem?_mapIdx, h]
theorem zws_inv {sh : List zSh} {g : zG} {M : zM} {k : Nat} {q : Nat × va_E} (h : (zws sh g M)[k]? = some q) : ∃ s, sh[k]? = some s ∧ q = zcell g M k s := by
  simp only [zws, List.getElem?_mapIdx, Option.map_eq_some_iff] at h
  obtain ⟨s, h1, h2⟩ := h
  exact ⟨s, h1, h2.symm⟩
theorem zD {sh : List zSh} {g : zG} {M : zM} (h : zI sh g) : va_D (zA sh g) (zws sh g M) := by
  refine ⟨fun i j p q hi hj hpq => ?_, fun k q hk => ?_⟩
  · obtain ⟨s, h1, rfl⟩ := zws_inv hi
    obtain ⟨s', h2, rfl⟩ := zws_inv hj
    exact h i j (List.getElem?_eq_some_iff.mp h1).1 (List.getElem?_eq_some_iff.mp h2).1 hpq
  · obtain ⟨s, h1, rfl⟩ := zws_inv hk
    exact ⟨k, (List.getElem?_eq_some_iff.mp h1).1, rfl⟩
theorem zws_set {sh : List zSh} {g : zG} {M M' : zM} {k : Nat} {s : zSh} {q : Nat × va_E} (h : sh[k]? = some s) (hq : zcell g M' k s = q) (ho : ∀ a, a ≠ k → M' a = M a) : (zws sh g M).set k q = zws sh g M' := by
  refine List.ext_getElem? fun j => ?_
  by_cases hj : j = k
  · subst hj
    rw [zws_at h, hq]
    simp [zws, (List.getElem?_eq_some_iff.mp h).1]
  · rw [List.getElem?_set_ne (Ne.symm hj)]
    simp only [zws, List.getElem?_mapIdx]
    cases hs : sh[j]? with
    | none => rfl
    | some s' => simp only [Option.map_some, zcell, zfs, ho j hj]
theorem zcell_a {g : zG} {M : zM} {k n : Nat} {l : List (Option Nat)} : zcell g M k (0, n, l) = (zad g k, .inl (g.2.2.2.1, n, .inl (M k))) := rfl
theorem zcell_z {g : zG} {M : zM} {k n : Nat} {l : List (Option Nat)} : zcell g M k (1, n, l) = (zad g k, .inl (g.2.2.2.2.1, n, .inl (M k))) := rfl
theorem zcell_q {g : zG} {M : zM} {k n : Nat} {l : List (Option Nat)} : zcell g M k (2, n, l) = (zad g k, .inl (g.2.2.2.2.2, n, .inr (.inr (.inr (.inr fun j => some (zad g (M k j).toNatClampNeg)))))) := rfl
theorem zcell_o {g : zG} {M : zM} {k n : Nat} {l : List (Option Nat)} : zcell g M k (3, n, l) = (zad g k, .inr (n, zfs g M k l)) := rfl
theorem zfs_i {g : zG} {M : zM} {k j : Nat} {l : List (Option Nat)} (h : l[j]? = some none) : (zfs g M k l)[j]? = some (.int (M k j)) := by simp [zfs, List.getElem?_mapIdx, h]
theorem zfs_r {g : zG} {M : zM} {k j r : Nat} {l : List (Option Nat)} (h : l[j]? = some (some r)) : (zfs g M k l)[j]? = some (.ref (zad g r)) := by simp [zfs, List.getElem?_mapIdx, h]
theorem zfs_len {g : zG} {M : zM} {k : Nat} {l : List (Option Nat)} : (zfs g M k l).length = l.length := by simp [zfs]
theorem zfs_set {g : zG} {M : zM} {k j : Nat} {l : List (Option Nat)} {x : Int32} (h : l[j]? = some none) : (zfs g M k l).set j (.int x) = zfs g (zup M k j x) k l := by
  refine List.ext_getElem? fun i => ?_
  by_cases hi : i = j
  · subst hi
    rw [zfs_i h, zup_row]
    have hl : i < (zfs g M k l).length := by rw [zfs_len]; exact (List.getElem?_eq_some_iff.mp h).1
    rw [List.getElem?_set_self hl]
    simp [upd]
  · rw [List.getElem?_set_ne (Ne.symm hi)]
    simp only [zfs, List.getElem?_mapIdx, zup_row, upd, hi, if_false]
/-- the literals: one place for each text -/
def zTx : List String := ["skater", "lift", "down", "north", "east", "south", "west", "rest", "thaw", "cut", "depth", "edge", "minute", "hand", "crossed", "around", "when", "not", "and", "or", "letter", "want", "at"]
def zBy : List (List Int32) := zTx.map fun t => t.toList.map fun c => Int32.ofNat c.toNat
def zLen : List Nat := zBy.map List.length
def zLits : List (String × Nat × String × Nat) := [("LeftSkate$Ways", 57, "skater", 0), ("LeftSkate$Ways", 91, "lift", 1), ("LeftSkate$Ways", 93, "down", 2), ("LeftSkate$Ways", 95, "north", 3), ("LeftSkate$Ways", 97, "east", 4), ("LeftSkate$Ways", 99, "south", 5), ("LeftSkate$Ways", 101, "west", 6), ("LeftSkate$Ways", 103, "rest", 7), ("LeftSkate$Law", 59, "thaw", 8), ("LeftSkate$Law", 65, "cut", 9), ("LeftSkate$Law", 121, "depth", 10), ("LeftSkate$Law", 123, "edge", 11), ("LeftSkate$Law", 125, "minute", 12), ("LeftSkate$Law", 127, "hand", 13), ("LeftSkate$Law", 129, "crossed", 14), ("LeftSkate$Law", 131, "around", 15), ("LeftSkate$Law", 77, "when", 16), ("LeftSkate$Law", 98, "not", 17), ("LeftSkate$Law", 94, "and", 18), ("LeftSkate$Law", 96, "or", 19), ("LeftSkate$Paper", 53, "letter", 20), ("LeftSkate$Paper", 88, "want", 21), ("LeftSkate$Paper", 90, "at", 22), ("LeftSkateModel", 139, "skater", 0), ("LeftSkateModel", 145, "north", 3), ("LeftSkateModel", 147, "east", 4), ("LeftSkateModel", 149, "south", 5), ("LeftSkateModel", 151, "west", 6), ("LeftSkateModel", 153, "rest", 7), ("LeftSkateModel", 155, "lift", 1), ("LeftSkateModel", 157, "down", 2), ("LeftSkateModel", 159, "when", 16), ("LeftSkateModel", 161, "or", 19), ("LeftSkateModel", 163, "and", 18), ("LeftSkateModel", 165, "not", 17), ("LeftSkateModel", 167, "cut", 9), ("LeftSkateModel", 169, "thaw", 8), ("LeftSkateModel", 171, "depth", 10), ("LeftSkateModel", 173, "edge", 11), ("LeftSkateModel", 175, "minute", 12), ("LeftSkateModel", 177, "hand", 13), ("LeftSkateModel", 179, "crossed", 14), ("LeftSkateModel", 181, "around", 15), ("LeftSkateModel", 195, "letter", 20), ("LeftSkateModel", 183, "want", 21), ("LeftSkateModel", 185, "at", 22)]
def zSt (i j : Nat) : Int32 := ([[0, 1, 0, -1], [-1, 0, 1, 0]].getD i []).getD j 0
def zTys (g : zG) : List (ClassId × FieldType) := [(g.2.2.2.1, .int), (g.2.2.2.2.1, .boolean), (g.2.2.2.2.2, .object "LeftSkate$Moment")]
/-- what a state and a heap hold that no method changes -/
def zE (sh : List zSh) (g : zG) (U : State) (H : Heap) : Prop :=
  va_K (zDD g) vwCl (zTys g) U ∧ vk_S 23 zLen zBy (fun i => zad g (4096 + i)) (fun i => zad g (8192 + i)) (zA sh g) U H ∧ (∀ q ∈ zLits, vk_R q.1 q.2.1 q.2.2.1 (zad g (4096 + q.2.2.2)) U) ∧
  va_Z "java/lang/String" "COMPACT_STRINGS" "Z" (.int 1) (zA sh g) U H ∧ va_Z "LeftSkate" "STEP_X" "[I" (.ref (zad g 3000)) (zA sh g) U H ∧ va_Z "LeftSkate" "STEP_Y" "[I" (.ref (zad g 3001)) (zA sh g) U H ∧
  (∀ i, i < 2 → va_T .int (zad g (3000 + i)) 4 (fun j => .int (zSt i j)) (zA sh g) U H) ∧ zI sh g ∧
  (∀ q ∈ zNM, va_Nw (.methodLinkNest q.1 q.2.1 q.2.2.1 q.2.2.2) U) ∧ (∀ q ∈ zNF, va_Nw (.fieldLinkNest q.1 q.2.1 q.2.2.1 q.2.2.2.1 q.2.2.2.2.1 q.2.2.2.2.2) U) ∧
  ∃ v, (v = Value.null ∨ v = .ref 3002) ∧ va_Z "jdk/internal/util/Preconditions" "SIOOBE_FORMATTER" "Ljava/util/function/BiFunction;" (ztr g v) (zA sh g) U H
theorem zE.go {sh : List zSh} {g : zG} {s U : State} {H H1 : Heap} (h : zE sh g s H) (hW : s.WarmedH U.vm) (hq : ∀ a : Nat, a < H.size → ¬ zA sh g a → H1[a]? = H[a]?) : zE sh g U H1 := by
  obtain ⟨h1, h2, h3, h4, h5, h6, h7, h8, h9, h10, v, h11, h12⟩ := h
  exact ⟨va_K.moved hW.alike h1, (vk_S.moved hW.alike h2).kept hq, fun q m => vk_R.warm hW (h3 q m), (va_Z.moved hW.alike h4).kept hq, (va_Z.moved hW.alike h5).kept hq, (va_Z.moved hW.alike h6).kept hq, fun i hi => (va_T.moved hW.alike (h7 i hi)).kept hq, h8, fun q m => va_Nw.warmM hW (h9 q m), fun q m => va_Nw.warmF hW (h10 q m), v, h11, (va_Z.moved hW.alike h12).kept hq⟩
theorem zE.call {sh : List zSh} {g : zG} {U : State} {gf : JFrame} {mk : MethodId} {a : Array Value} (h : zE sh g U U.heap) : zE sh g (U.calling gf mk a) (U.calling gf mk a).heap := by
  obtain ⟨h1, h2, h3, h4, h5, h6, h7, h8, h9, h10, v, h11, h12⟩ := h
  have e := Vm.Alike.refl U.vm
  exact ⟨va_K.moved (u := U) (U := U.calling gf mk a) e h1, vk_S.moved (u := U) (U := U.calling gf mk a) e h2, fun q m => vk_R.same (u := U) (U := U.calling gf mk a) rfl (h3 q m), va_Z.moved (u := U) (U := U.calling gf mk a) e h4, va_Z.moved (u := U) (U := U.calling gf mk a) e h5, va_Z.moved (u := U) (U := U.calling gf mk a) e h6, fun i hi => va_T.moved (u := U) (U := U.calling gf mk a) e (h7 i hi), h8, fun q m => va_Nw.same (u := U) (U := U.calling gf mk a) rfl rfl (h9 q m), fun q m => va_Nw.same (u := U) (U := U.calling gf mk a) rfl rfl (h10 q m), v, h11, va_Z.moved (u := U) (U := U.calling gf mk a) e h12⟩
def zrm (d : Nat) : Room := { frames := d, cells := 0, slots := 0, locals := 64 * d }
def zPc (sh : List zSh) (g : zG) (as : List Value) (M : zM) : Array Value → State → Prop := va_Pc (as.map (ztr g)) (fun U => zE sh g U U.heap ∧ va_P (zDD g) vwCl (zws sh g M) U.heap)
def zQc (sh : List zSh) (g : zG) (Q : Option Value → zM → Prop) : Array Value → State → Outcome → State → Prop := fun _ st o t =>
  (∃ (r : Option Value) (M' : zM), o = .returned (r.map (ztr g)) ∧ Q r M' ∧ va_P (zDD g) vwCl (zws sh g M') t.heap) ∧ va_F (zA sh g) st t
/-- a method's contract -/
def zC (sh : List zSh) (g : zG) (d : Nat) (m : zMi) (as : List Value) (M : zM) (Q : Option Value → zM → Prop) : Prop :=
  Met g.1 m.1 (.code m.1 m.2.1 m.2.2.1 m.2.2.2 :: zTb) (zrm d) (zPc sh g as M) (zQc sh g Q) 0 0 (zA sh g)
def zi (Q : Int32 → zM → Prop) : Option Value → zM → Prop := fun r M => ∃ x, r = some (.int x) ∧ Q x M
def zl (Q : Int64 → zM → Prop) : Option Value → zM → Prop := fun r M => ∃ x, r = some (.long x) ∧ Q x M
def zv (Q : zM → Prop) : Option Value → zM → Prop := fun r M => r = none ∧ Q M
def zbI (b : Bool) : Int32 := if b then 1 else 0
def zz (Q : Bool → zM → Prop) : Option Value → zM → Prop := fun r M => ∃ b : Bool, r = some (.int (zbI b)) ∧ Q b M
/-- all that a walk knows -/
def zH (sh : List zSh) (g : zG) (m : zMi) (lv : List (Nat × Value)) (M : zM) (p : Program) (s : State) (mid : MethodId) (args : Array Value) (meth : Method) (c : Code) (H : Heap) (locs : List Loc) (ls : Array Slot) : Prop :=
  p.tables.exec = Jvm.exec ∧ c.code = m.2.1 ∧ meth.sig.returnType = m.2.2.2 ∧ meth.locks = false ∧ c.maxLocals = m.2.2.1 ∧ s.vm.findClass m.1.cls = some mid.cls ∧ (∀ w ∈ zTb, w.before args s = true) ∧
  zE sh g s s.heap ∧ va_P (zDD g) vwCl (zws sh g M) H ∧ va_S (zA sh g) s.heap H locs ∧ lv_has ls m.2.2.1 (lv.map fun q => (q.1, ztr g q.2))
/-- the machine from here on -/
def zW (sh : List zSh) (g : zG) (d : Nat) (m : zMi) (Q : Option Value → zM → Prop) (pc : Nat) (lv : List (Nat × Value)) (st : List Value) (M : zM) : Prop :=
  ∀ (p : Program) (e : Env) (s : State) (mid : MethodId) (args : Array Value) (below : List Frame) (meth : Method) (c : Code) (H : Heap) (locs : List Loc) (ls : Array Slot), zH sh g m lv M p s mid args meth c H locs ls →
    W p g.1 e (zrm d) s mid args below meth c H locs 0 0 (MQ below (zQc sh g Q) args s 0 0 (zA sh g)) (F0 mid pc ls (st.map (ztr g)))
theorem zW.enter {sh : List zSh} {g : zG} {d : Nat} {m : zMi} {as : List Value} {M : zM} {Q : Option Value → zM → Prop} (hy : plainName m.1.cls = true) (hn : (lg_sl (as.map (ztr g))).length ≤ m.2.2.1) (h : zW sh g d m Q 0 (lv_args 0 as) [] M) : zC sh g d m as M Q := by
  refine Met.ofW (cc := m.2.1) (maxL := m.2.2.1) (ret := m.2.2.2) hy rfl ?_
  intro p e s mid args below meth c s₁ B hml hv
  obtain ⟨rfl, hE, hP⟩ := hv
  have hts := atoms_spec (ws := .code m.1 m.2.1 m.2.2.1 m.2.2.2 :: zTb) B.pre
  have hown : s.vm.findClass m.1.cls = some mid.cls := findClass_of_methodNamed B.named
  rw [lg_entry_eq]
  refine h p e s mid _ below meth c s.heap [] _ ⟨B.exec, B.bytes, B.returns, B.notSynchronized, hml, hown, fun w hw => hts w (List.mem_cons_of_mem _ hw), hE, hP, va_S.rf, ?_⟩
  have hl := lv_entry (as.map (ztr g)) hn
  have e : ∀ (i : Nat) (vs : List Value), lv_args i (vs.map (ztr g)) = (lv_args i vs).map fun q => (q.1, ztr g q.2) := by
    intro i vs
    induction vs generalizing i with
    | nil => rfl
    | cons v vs ih =>
      have hc : (ztr g v).category = v.category := by cases v <;> rfl
      simp only [List.map_cons, lv_args, hc, ih]
  rw [e] at hl
  exact hl
