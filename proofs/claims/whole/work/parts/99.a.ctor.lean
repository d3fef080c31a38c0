/-! CONSTRUCTORS: a world that grows, cell by cell; the object that is made stands first -/
def nNI : List (String × Nat × MethodName × String) := [("LeftSkate", 9, yX7_init, "LeftSkate"), ("LeftSkate$World", 33, yX2_init, "LeftSkate"), ("LeftSkate$World", 43, yX6_init, "LeftSkate"), ("LeftSkate$World", 50, yX1_init, "LeftSkate"), ("LeftSkate$World", 57, yX3_init, "LeftSkate"), ("LeftSkate", 25, yX2_init, "LeftSkate"), ("LeftSkate", 40, yX5_init, "LeftSkate"), ("LeftSkate", 47, yX6_init, "LeftSkate"), ("LeftSkate", 54, yX1_init, "LeftSkate"), ("LeftSkate", 61, yX3_init, "LeftSkate"), ("LeftSkate", 68, yX4_init, "LeftSkate"), ("LeftSkate", 75, yX0_init, "LeftSkate")]
/-- what no method changes, beside any cells that may change -/
def zF (A : Nat → Prop) (g : zG) (U : State) (H : Heap) : Prop :=
  va_K (zDD g) vwCl (zTys g) U ∧ vk_S 23 zLen zBy (fun i => zad g (4096 + i)) (fun i => zad g (8192 + i)) A U H ∧ (∀ q ∈ zLits, vk_R q.1 q.2.1 q.2.2.1 (zad g (4096 + q.2.2.2)) U) ∧
  va_Z "java/lang/String" "COMPACT_STRINGS" "Z" (.int 1) A U H ∧ va_Z "LeftSkate" "STEP_X" "[I" (.ref (zad g 3000)) A U H ∧ va_Z "LeftSkate" "STEP_Y" "[I" (.ref (zad g 3001)) A U H ∧
  (∀ i, i < 2 → va_T .int (zad g (3000 + i)) 4 (fun j => .int (zSt i j)) A U H) ∧
  (∀ q ∈ zNM, va_Nw (.methodLinkNest q.1 q.2.1 q.2.2.1 q.2.2.2) U) ∧ (∀ q ∈ zNF, va_Nw (.fieldLinkNest q.1 q.2.1 q.2.2.1 q.2.2.2.1 q.2.2.2.2.1 q.2.2.2.2.2) U) ∧
  (∃ v, (v = Value.null ∨ v = .ref 3002) ∧ va_Z "jdk/internal/util/Preconditions" "SIOOBE_FORMATTER" "Ljava/util/function/BiFunction;" (ztr g v) A U H) ∧
  (∀ q ∈ nNI, va_Nw (.methodLinkNest q.1 q.2.1 q.2.2.1 q.2.2.2) U) ∧ va_AO "LeftSkate$Moment" U
def gA (g : zG) (ad : Nat → Nat) : zG := (g.1, ad, g.2.2)
theorem zF.narrow {A B : Nat → Prop} {g : zG} {U : State} {H : Heap} (h : zF A g U H) (hB : ∀ q, B q → A q) : zF B g U H := by
  obtain ⟨h1, h2, h3, h4, h5, h6, h7, h9, h10, ⟨v, h11, h12⟩, h13, h14⟩ := h
  exact ⟨h1, h2.narrow hB, h3, h4.narrow hB, h5.narrow hB, h6.narrow hB, fun i hi => (h7 i hi).narrow hB, h9, h10, ⟨v, h11, h12.narrow hB⟩, h13, h14⟩
theorem zF.zE {A : Nat → Prop} {sh : List zSh} {g : zG} {U : State} {H : Heap} (h : zF A g U H) (hI : zI sh g) (hA : ∀ q, zA sh g q → A q) : zE sh g U H := by
  obtain ⟨h1, h2, h3, h4, h5, h6, h7, h9, h10, ⟨v, h11, h12⟩, h13, h14⟩ := h.narrow hA
  exact ⟨h1, h2, h3, h4, h5, h6, h7, hI, h9, h10, v, h11, h12⟩
theorem zF.go {A : Nat → Prop} {g : zG} {s U : State} {H H1 : Heap} (h : zF A g s H) (hW : s.WarmedH U.vm) (hq : ∀ a : Nat, a < H.size → ¬ A a → H1[a]? = H[a]?) : zF A g U H1 := by
  obtain ⟨h1, h2, h3, h4, h5, h6, h7, h9, h10, ⟨v, h11, h12⟩, h13, h14⟩ := h
  exact ⟨va_K.moved hW.alike h1, (vk_S.moved hW.alike h2).kept hq, fun q m => vk_R.warm hW (h3 q m), (va_Z.moved hW.alike h4).kept hq, (va_Z.moved hW.alike h5).kept hq, (va_Z.moved hW.alike h6).kept hq, fun i hi => (va_T.moved hW.alike (h7 i hi)).kept hq, fun q m => va_Nw.warmM hW (h9 q m), fun q m => va_Nw.warmF hW (h10 q m), ⟨v, h11, (va_Z.moved hW.alike h12).kept hq⟩, fun q m => va_Nw.warmM hW (h13 q m), va_AO.moved hW.alike h14⟩
theorem zF.call {A : Nat → Prop} {g : zG} {U : State} {gf : JFrame} {mk : MethodId} {a : Array Value} (h : zF A g U U.heap) : zF A g (U.calling gf mk a) (U.calling gf mk a).heap := by
  obtain ⟨h1, h2, h3, h4, h5, h6, h7, h9, h10, ⟨v, h11, h12⟩, h13, h14⟩ := h
  have e := Vm.Alike.refl U.vm
  exact ⟨va_K.moved (u := U) (U := U.calling gf mk a) e h1, vk_S.moved (u := U) (U := U.calling gf mk a) e h2, fun q m => vk_R.same (u := U) (U := U.calling gf mk a) rfl (h3 q m), va_Z.moved (u := U) (U := U.calling gf mk a) e h4, va_Z.moved (u := U) (U := U.calling gf mk a) e h5, va_Z.moved (u := U) (U := U.calling gf mk a) e h6, fun i hi => va_T.moved (u := U) (U := U.calling gf mk a) e (h7 i hi), fun q m => va_Nw.same (u := U) (U := U.calling gf mk a) rfl rfl (h9 q m), fun q m => va_Nw.same (u := U) (U := U.calling gf mk a) rfl rfl (h10 q m), ⟨v, h11, va_Z.moved (u := U) (U := U.calling gf mk a) e h12⟩, fun q m => va_Nw.same (u := U) (U := U.calling gf mk a) rfl rfl (h13 q m), va_AO.moved (u := U) (U := U.calling gf mk a) e h14⟩
/-- other addresses below 3000 -/
theorem zF.ad {A : Nat → Prop} {g : zG} {U : State} {H : Heap} {ad : Nat → Nat} (h : zF A g U H) (he : ∀ k, 3000 ≤ k → ad k = zad g k) : zF A (gA g ad) U H := by
  obtain ⟨h1, h2, h3, h4, h5, h6, h7, h9, h10, ⟨v, h11, h12⟩, h13, h14⟩ := h
  have e1 : (fun i => zad (gA g ad) (4096 + i)) = fun i => zad g (4096 + i) := by
    funext i
    exact he _ (by omega)
  have e2 : (fun i => zad (gA g ad) (8192 + i)) = fun i => zad g (8192 + i) := by
    funext i
    exact he _ (by omega)
  refine ⟨h1, ?_, fun q m => ?_, h4, ?_, ?_, fun i hi => ?_, h9, h10, ⟨v, h11, ?_⟩, h13, h14⟩
  · rw [e1, e2]
    exact h2
  · rw [show zad (gA g ad) (4096 + q.2.2.2) = zad g (4096 + q.2.2.2) from he _ (by omega)]
    exact h3 q m
  · rw [show zad (gA g ad) 3000 = zad g 3000 from he _ (by omega)]
    exact h5
  · rw [show zad (gA g ad) 3001 = zad g 3001 from he _ (by omega)]
    exact h6
  · rw [show zad (gA g ad) (3000 + i) = zad g (3000 + i) from he _ (by omega)]
    exact h7 i hi
  · rcases h11 with rfl | rfl
    · exact h12
    · show va_Z _ _ _ (.ref (zad (gA g ad) 3002)) A U H
      rw [show zad (gA g ad) 3002 = zad g 3002 from he _ (by omega)]
      exact h12
def nA (h0 sz : Nat) : Nat → Prop := fun q => q = h0 ∨ sz ≤ q
def nrm (d nc ns : Nat) : Room := { frames := d, cells := nc, slots := ns, locals := 64 * d }
def nPc (g : zG) (h0 sz ci : Nat) (fs : List Value) : Array Value → State → Prop := va_Pc [.ref h0] (fun U => U.heap.size = sz ∧ zF (nA h0 sz) g U U.heap ∧ va_P (zDD g) vwCl [(h0, .inr (ci, fs))] U.heap)
def nQc (g : zG) (A : Nat → Prop) (B : va_W → Prop) : Array Value → State → Outcome → State → Prop := fun _ st o t => (∃ ws, o = .returned none ∧ B ws ∧ va_P (zDD g) vwCl ws t.heap ∧ va_D A ws) ∧ va_F A st t
/-- a constructor's contract: nc cells, ns slots are new; B says what is made -/
def nC (g : zG) (d nc ns : Nat) (m : zMi) (h0 sz ci : Nat) (fs : List Value) (B : va_W → Prop) : Prop :=
  Met g.1 m.1 (.code m.1 m.2.1 m.2.2.1 m.2.2.2 :: zTb) (nrm d nc ns) (nPc g h0 sz ci fs) (nQc g (nA h0 sz) B) nc ns (nA h0 sz)
def nH (g : zG) (A : Nat → Prop) (m : zMi) (lv : List (Nat × Value)) (ws : va_W) (p : Program) (s : State) (mid : MethodId) (args : Array Value) (meth : Method) (c : Code) (H : Heap) (locs : List Loc) (ls : Array Slot) : Prop :=
  p.tables.exec = Jvm.exec ∧ c.code = m.2.1 ∧ meth.sig.returnType = m.2.2.2 ∧ meth.locks = false ∧ c.maxLocals = m.2.2.1 ∧ s.vm.findClass m.1.cls = some mid.cls ∧ (∀ w ∈ zTb, w.before args s = true) ∧ meth.name = "<init>" ∧
  zF A g s s.heap ∧ (∀ q, s.heap.size ≤ q → A q) ∧ va_P (zDD g) vwCl ws H ∧ va_D A ws ∧ va_S A s.heap H locs ∧ lv_has ls m.2.2.1 lv
def nW (g : zG) (A : Nat → Prop) (d nc ns : Nat) (m : zMi) (B : va_W → Prop) (kc ks pc : Nat) (lv : List (Nat × Value)) (st : List Value) (ws : va_W) : Prop :=
  ∀ (p : Program) (e : Env) (s : State) (mid : MethodId) (args : Array Value) (below : List Frame) (meth : Method) (c : Code) (H : Heap) (locs : List Loc) (ls : Array Slot), nH g A m lv ws p s mid args meth c H locs ls →
    W p g.1 e (nrm d nc ns) s mid args below meth c H locs kc ks (MQ below (nQc g A B) args s nc ns A) (F0 mid pc ls st)
theorem n_one {A : Nat → Prop} {h0 : Nat} {e : va_E} (h : A h0) : va_D A [(h0, e)] := by
  have one : ∀ {i : Nat} {p : Nat × va_E}, [(h0, e)][i]? = some p → i = 0 ∧ p = (h0, e) := by
    intro i p hi
    have hz : i < 1 := (List.getElem?_eq_some_iff.mp hi).1
    obtain rfl : i = 0 := by omega
    cases hi
    exact ⟨rfl, rfl⟩
  refine ⟨fun i j p q hi hj _ => ?_, fun k q hk => ?_⟩
  · rw [(one hi).1, (one hj).1]
  · rw [(one hk).2]
    exact h
theorem nW.enter {g : zG} {d nc ns : Nat} {m : zMi} {h0 sz ci : Nat} {fs : List Value} {B : va_W → Prop} (hy : plainName m.1.cls = true) (hi : m.1.name = "<init>") (hn : (lg_sl [Value.ref h0]).length ≤ m.2.2.1) (h : nW g (nA h0 sz) d nc ns m B 0 0 0 [(0, .ref h0)] [] [(h0, .inr (ci, fs))]) : nC g d nc ns m h0 sz ci fs B := by
  refine Met.ofW (cc := m.2.1) (maxL := m.2.2.1) (ret := m.2.2.2) hy rfl ?_
  intro p e s mid args below meth c s₁ B0 hml hv
  obtain ⟨rfl, rfl, hE, hP⟩ := hv
  have hts := atoms_spec (ws := .code m.1 m.2.1 m.2.2.1 m.2.2.2 :: zTb) B0.pre
  have hown : s.vm.findClass m.1.cls = some mid.cls := findClass_of_methodNamed B0.named
  have hin : meth.name = "<init>" := (name_of_methodNamed B0.named B0.method).1.trans hi
  have hl := lv_entry [Value.ref h0] hn
  rw [lg_entry_eq]
  exact h p e s mid _ below meth c s.heap [] _ ⟨B0.exec, B0.bytes, B0.returns, B0.notSynchronized, hml, hown, fun w hw => hts w (List.mem_cons_of_mem _ hw), hin, hE, fun q hq => Or.inr hq, hP, n_one (Or.inl rfl), va_S.rf, hl⟩
/-- behind a constructor's call: what it made stands beside the rest -/
theorem n_join {D : va_G} {cl : List vw_C} {A : Nat → Prop} {ws w1 : va_W} {q : Nat} {e : va_E} {H H1 : Heap} (hP : va_P D cl (ws ++ [(q, e)]) H) (hD : va_D A (ws ++ [(q, e)])) (hA : ∀ x, H.size ≤ x → A x) (hk : ∀ x : Nat, x < H.size → ¬ nA q H.size x → H1[x]? = H[x]?) (hP1 : va_P D cl w1 H1) (hD1 : va_D (nA q H.size) w1) : va_P D cl (ws ++ w1) H1 ∧ va_D A (ws ++ w1) := by
  have at_ : ∀ (k : Nat) (y : Nat × va_E), ws[k]? = some y → (ws ++ [(q, e)])[k]? = some y := by
    intro k y h
    rw [List.getElem?_append_left (List.getElem?_eq_some_iff.mp h).1]
    exact h
  have lq : (ws ++ [(q, e)])[ws.length]? = some (q, e) := by simp
  have ap : ∀ (k : Nat) (y : Nat × va_E), ws[k]? = some y → y.1 < H.size ∧ ¬ nA q H.size y.1 := by
    intro k y h
    have hl := (hP k y (at_ k y h)).lt
    refine ⟨hl, fun z => ?_⟩
    rcases z with z | z
    · have h1 := hD.1 k ws.length y (q, e) (at_ k y h) lq z
      have h2 := (List.getElem?_eq_some_iff.mp h).1
      omega
    · omega
  refine ⟨va_P.app (fun k y h => (hP k y (at_ k y h)).kept (hk y.1 (ap k y h).1 (ap k y h).2)) hP1, va_D.app ⟨fun i j x y hi hj => hD.1 i j x y (at_ i x hi) (at_ j y hj), fun k y h => hD.2 k y (at_ k y h)⟩ (hD1.weaken fun k y _ z => ?_) (fun i j x y hx hy hxy => (ap i x hx).2 (by rw [hxy]; exact hD1.2 j y hy))⟩
  rcases z with z | z
  · rw [z]
    exact hD.2 ws.length (q, e) lq
  · exact hA _ z
/-- what the tables say of a final field that its constructor writes; of a class that is made; of a constructor -/
def zFq (own : String) (idx ci k : Nat) (ty : FieldType) : Prop := ∃ (C : String) (T : u_T) (N : Nat) (ty0 : Nat → FieldType), vwCl[ci]? = some (C, T, N) ∧ k < N ∧ Cond.fieldLink own idx (T k).1 (T k).2.1 (T k).2.2.1 ∈ zTb ∧ (∀ w ∈ u_ws C T N, w ∈ zTb) ∧
  (∀ k, k < N → parseFieldDescriptor (T k).2.2.1 = some (ty0 k)) ∧ (∀ a, a < N → ∀ b, b < N → a ≠ b → (T a).2.1 ≠ (T b).2.1) ∧ (T k).2.2.2 = true ∧ (T k).1 = own ∧ parseFieldDescriptor (T k).2.2.1 = some ty
def zNw (own : String) (idx ci N : Nat) (fs : List Value) : Prop := ∃ (C : String) (T : u_T) (ty0 : Nat → FieldType), vwCl[ci]? = some (C, T, N) ∧ Cond.classLink own idx C ∈ zTb ∧ Cond.instantiable C N ∈ zTb ∧ Cond.initialized C ∈ zTb ∧ (∀ w ∈ u_ws C T N, w ∈ zTb) ∧
  (∀ k, k < N → parseFieldDescriptor (T k).2.2.1 = some (ty0 k)) ∧ ∀ j, j < N → defaultValue (ty0 j) = vp_V fs j
def zOkI (m : zMi) : Prop := zOk m 0 ∧ m.1.name = "<init>" ∧ Cond.instanceMethod m.1 ∈ zTb ∧ m.2.2.2 = none
section CT
variable {g : zG} {A : Nat → Prop} {d nc ns : Nat} {m : zMi} {B : va_W → Prop} {kc ks pc : Nat} {lv : List (Nat × Value)} {st : List Value} {ws : va_W}
theorem n_aload_n {j : Fin 4} {x : Nat} (hd : decode m.2.1 pc = .ok (.aload_n j, 1)) (i : Nat) (hi : lv[i]? = some ((j : Nat), .ref x)) (k : nW g A d nc ns m B kc ks (pc + 1) lv (.ref x :: st) ws) : nW g A d nc ns m B kc ks pc lv st ws := by
  intro p e s mid args below meth c H locs ls h
  obtain ⟨hx, hb, hr, hk, hml, hown, hts, hin, hE, hA, hP, hD, hS, hl⟩ := id h
  exact lv_aload_n hx hb hd rfl (lv_at hl i hi) (k p e s mid args below meth c H locs ls h)
theorem n_iload_n {j : Fin 4} {x : Int32} (hd : decode m.2.1 pc = .ok (.iload_n j, 1)) (i : Nat) (hi : lv[i]? = some ((j : Nat), .int x)) (k : nW g A d nc ns m B kc ks (pc + 1) lv (.int x :: st) ws) : nW g A d nc ns m B kc ks pc lv st ws := by
  intro p e s mid args below meth c H locs ls h
  obtain ⟨hx, hb, hr, hk, hml, hown, hts, hin, hE, hA, hP, hD, hS, hl⟩ := id h
  exact lv_iload_n hx hb hd rfl (lv_at hl i hi) (k p e s mid args below meth c H locs ls h)
theorem n_istore_n {j : Fin 4} {x : Int32} (lv2 : List (Nat × Value)) (hd : decode m.2.1 pc = .ok (.istore_n j, 1)) (hn : (j : Nat) < m.2.2.1) (hl2 : ((j : Nat), .int x) :: lv.filter (fun q => !(q.1 == (j : Nat)) && !(q.1 + 1 == (j : Nat) && q.2.category == 2)) = lv2) (k : nW g A d nc ns m B kc ks (pc + 1) lv2 st ws) : nW g A d nc ns m B kc ks pc lv (.int x :: st) ws := by
  intro p e s mid args below meth c H locs ls h
  obtain ⟨hx, hb, hr, hk, hml, hown, hts, hin, hE, hA, hP, hD, hS, hl⟩ := id h
  exact lv_istore_n hx hb hd rfl hl hn hl2 (fun ls2 hl2 => k p e s mid args below meth c H locs ls2 ⟨hx, hb, hr, hk, hml, hown, hts, hin, hE, hA, hP, hD, hS, hl2⟩)
theorem n_iinc {j : Nat} {n : Int} {x v : Int32} (lv2 : List (Nat × Value)) (hd : decode m.2.1 pc = .ok (.iinc j n, 3)) (i : Nat) (hi : lv[i]? = some (j, .int x)) (hv : x + Int32.ofInt n = v) (hn : j < m.2.2.1) (hl2 : (j, .int v) :: lv.filter (fun q => !(q.1 == j) && !(q.1 + 1 == j && q.2.category == 2)) = lv2) (k : nW g A d nc ns m B kc ks (pc + 3) lv2 st ws) : nW g A d nc ns m B kc ks pc lv st ws := by
  intro p e s mid args below meth c H locs ls h
  obtain ⟨hx, hb, hr, hk, hml, hown, hts, hin, hE, hA, hP, hD, hS, hl⟩ := id h
  exact lv_iinc (k := i) hx hb hd hl hi hv hn hl2 (fun ls2 hl2 => k p e s mid args below meth c H locs ls2 ⟨hx, hb, hr, hk, hml, hown, hts, hin, hE, hA, hP, hD, hS, hl2⟩)
theorem n_iconst {n : Int} {v : Int32} (hd : decode m.2.1 pc = .ok (.iconst n, 1)) (hv : Int32.ofInt n = v) (k : nW g A d nc ns m B kc ks (pc + 1) lv (.int v :: st) ws) : nW g A d nc ns m B kc ks pc lv st ws := by
  intro p e s mid args below meth c H locs ls h
  exact lv_iconst h.1 h.2.1 hd hv (k p e s mid args below meth c H locs ls h)
theorem n_bipush {n : Int} {v : Int32} (hd : decode m.2.1 pc = .ok (.bipush n, 2)) (hv : (Int8.ofInt n).toInt32 = v) (k : nW g A d nc ns m B kc ks (pc + 2) lv (.int v :: st) ws) : nW g A d nc ns m B kc ks pc lv st ws := by
  intro p e s mid args below meth c H locs ls h
  exact lv_bipush h.1 h.2.1 hd hv (k p e s mid args below meth c H locs ls h)
theorem n_sipush {n : Int} {v : Int32} (hd : decode m.2.1 pc = .ok (.sipush n, 3)) (hv : (Int16.ofInt n).toInt32 = v) (k : nW g A d nc ns m B kc ks (pc + 3) lv (.int v :: st) ws) : nW g A d nc ns m B kc ks pc lv st ws := by
  intro p e s mid args below meth c H locs ls h
  exact lv_sipush h.1 h.2.1 hd hv (k p e s mid args below meth c H locs ls h)
theorem n_goto {off : Int} (tgt : Nat) (hd : decode m.2.1 pc = .ok (.goto off, 3)) (ht : (pc : Int) + off = (tgt : Int)) (k : nW g A d nc ns m B kc ks tgt lv st ws) : nW g A d nc ns m B kc ks pc lv st ws := by
  intro p e s mid args below meth c H locs ls h
  exact lv_goto h.1 h.2.1 hd ht (k p e s mid args below meth c H locs ls h)
theorem n_icmp_ge {x y : Int32} {off : Int} (tgt : Nat) (hd : decode m.2.1 pc = .ok (.if_icmp .ge off, 3)) (ht : (pc : Int) + off = (tgt : Int)) (k1 : y ≤ x → nW g A d nc ns m B kc ks tgt lv st ws) (k2 : ¬ y ≤ x → nW g A d nc ns m B kc ks (pc + 3) lv st ws) : nW g A d nc ns m B kc ks pc lv (.int y :: .int x :: st) ws := by
  intro p e s mid args below meth c H locs ls h
  exact lv_icmp_ge h.1 h.2.1 hd ht (fun q => k1 q p e s mid args below meth c H locs ls h) (fun q => k2 q p e s mid args below meth c H locs ls h)
theorem n_objInit {h0 idx : Nat} (hl : Cond.methodLink m.1.cls idx Lib.objectInit ∈ zTb) (hf : 1 ≤ d) (hcat : (st.map fun v => v.category).sum ≤ 8) (hd : decode m.2.1 pc = .ok (.invokespecial idx, 3)) (k : nW g A d nc ns m B kc ks (pc + 3) lv st ws) : nW g A d nc ns m B kc ks pc lv (.ref h0 :: st) ws := by
  intro p e s mid args below meth c H locs ls h
  obtain ⟨hx, hb, hr, hk, hml, hown, hts, hin, hE, hA, hP, hD, hS, hlv⟩ := id h
  refine W.objInit hx hb hown (hts _ hl) (hts _ (by decide +kernel)) (hts _ (by decide +kernel)) rfl (by rw [hml]; exact hlv.1) rfl hd hf ?_ ?_
  · simp only [nrm, JFrame.monitorRoom]
    omega
  · exact k p e s mid args below meth c H locs ls h
theorem n_vret (hc : kc ≤ nc) (hs : ks ≤ ns) (hty : m.2.2.2 = none) (hd : decode m.2.1 pc = .ok (.return_, 1)) (k : B ws) : nW g A d nc ns m B kc ks pc lv [] ws := by
  intro p e s mid args below meth c H locs ls h
  obtain ⟨hx, hb, hr, hk, hml, hown, hts, hin, hE, hA, hP, hD, hS, hl⟩ := h
  refine W.widen hc hs ?_
  exact W.vret hx hb (hr.trans hty) (fun t ht hW => ⟨⟨ws, rfl, k, by rw [ht]; exact hP, hD⟩, hS.F ht⟩) hS.2.2 hd
theorem n_tyI {g : zG} {s : State} {cA : ClassId} {ty : FieldType} (t0 : Nat) (c1 : ClassId) (h0 : (zTys g)[t0]? = some (c1, ty)) (hK : va_K (zDD g) vwCl (zTys g ++ [(cA, ty)]) s) : cA = c1 := by
  have h1 : (zTys g ++ [(cA, ty)])[t0]? = some (c1, ty) := by
    rw [List.getElem?_append_left (List.getElem?_eq_some_iff.mp h0).1]
    exact h0
  have h2 : (zTys g ++ [(cA, ty)])[(zTys g).length]? = some (cA, ty) := by simp
  have e1 := (hK.2 _ _ h1).2
  have e2 := (hK.2 _ _ h2).2
  cases ty with
  | object C =>
    obtain ⟨_, _, _, _, _, q1⟩ := e1
    obtain ⟨_, _, _, _, _, q2⟩ := e2
    exact Option.some.inj (q2.symm.trans q1)
  | _ => exact Option.some.inj (Eq.trans (Eq.symm e2) e1)
/-- new int[n] -/
theorem n_newi {x : Nat × va_E} {N : Nat} {n : Int32} (hn : ¬ n < 0) (hN : n.toNatClampNeg = N) (hb4 : N * 4 ≤ 536870912) (hc : kc + 1 ≤ nc) (hs : ks + N ≤ ns) (hd : decode m.2.1 pc = .ok (.newarray .int, 2)) (k : ∀ q, nW g A d nc ns m B (kc + 1) (ks + N) (pc + 2) lv (.ref q :: st) (x :: (ws ++ [(q, .inl (g.2.2.2.1, N, .inl (fun _ => 0)))]))) : nW g A d nc ns m B kc ks pc lv (.int n :: st) (x :: ws) := by
  intro p e s mid args below meth c H locs ls h
  obtain ⟨hx, hb, hr, hk, hml, hown, hts, hin, hE, hA, hP, hD, hS, hl⟩ := id h
  refine va_newa (atype := .int) (ty := .int) (a0 := (N, .inl (fun _ => 0))) hx hb (hts _ (by decide +kernel)) rfl hE.1 hP hD hS hA (fun cA => vp_cell_i cA N _) hn hN hb4 hc hs hd (fun q cA H1 hK1 hP1 hD1 hS1 => ?_)
  obtain rfl := n_tyI 0 g.2.2.2.1 rfl hK1
  exact k q p e s mid args below meth c H1 locs ls ⟨hx, hb, hr, hk, hml, hown, hts, hin, hE, hA, hP1, hD1, hS1, hl⟩
/-- new boolean[n] -/
theorem n_newz {x : Nat × va_E} {N : Nat} {n : Int32} (hn : ¬ n < 0) (hN : n.toNatClampNeg = N) (hb4 : N * 1 ≤ 536870912) (hc : kc + 1 ≤ nc) (hs : ks + N ≤ ns) (hd : decode m.2.1 pc = .ok (.newarray .boolean, 2)) (k : ∀ q, nW g A d nc ns m B (kc + 1) (ks + N) (pc + 2) lv (.ref q :: st) (x :: (ws ++ [(q, .inl (g.2.2.2.2.1, N, .inl (fun _ => 0)))]))) : nW g A d nc ns m B kc ks pc lv (.int n :: st) (x :: ws) := by
  intro p e s mid args below meth c H locs ls h
  obtain ⟨hx, hb, hr, hk, hml, hown, hts, hin, hE, hA, hP, hD, hS, hl⟩ := id h
  refine va_newa (atype := .boolean) (ty := .boolean) (a0 := (N, .inl (fun _ => 0))) hx hb (hts _ (by decide +kernel)) rfl hE.1 hP hD hS hA (fun cA => vp_cell_i cA N _) hn hN hb4 hc hs hd (fun q cA H1 hK1 hP1 hD1 hS1 => ?_)
  obtain rfl := n_tyI 1 g.2.2.2.2.1 rfl hK1
  exact k q p e s mid args below meth c H1 locs ls ⟨hx, hb, hr, hk, hml, hown, hts, hin, hE, hA, hP1, hD1, hS1, hl⟩
/-- new Moment[n] -/
theorem n_newq {x : Nat × va_E} {N idx : Nat} {n : Int32} (hl : Cond.classLink m.1.cls idx "LeftSkate$Moment" ∈ zTb) (hn : ¬ n < 0) (hN : n.toNatClampNeg = N) (hb4 : N * 4 ≤ 536870912) (hc : kc + 1 ≤ nc) (hs : ks + N ≤ ns) (hd : decode m.2.1 pc = .ok (.anewarray idx, 3)) (k : ∀ q, nW g A d nc ns m B (kc + 1) (ks + N) (pc + 3) lv (.ref q :: st) (x :: (ws ++ [(q, .inl (g.2.2.2.2.2, N, .inr (.inr (.inr (.inr (fun _ => none))))))]))) : nW g A d nc ns m B kc ks pc lv (.int n :: st) (x :: ws) := by
  intro p e s mid args below meth c H locs ls h
  obtain ⟨hx, hb, hr, hk, hml, hown, hts, hin, hE, hA, hP, hD, hS, hlv⟩ := id h
  refine va_newq hx hb hown (hts _ hl) hE.2.2.2.2.2.2.2.2.2.2.2 hE.1 hP hD hS hA hn hN hb4 hc hs hd (fun q cA H1 hK1 hP1 hD1 hS1 => ?_)
  obtain rfl := n_tyI 2 g.2.2.2.2.2 rfl hK1
  exact k q p e s mid args below meth c H1 locs ls ⟨hx, hb, hr, hk, hml, hown, hts, hin, hE, hA, hP1, hD1, hS1, hlv⟩
/-- a final field, in its constructor -/
theorem n_putF {h0 ci k0 idx : Nat} {fs : List Value} {ty : FieldType} {v : Value} (fs2 : List Value) (hf : zFq m.1.cls idx ci k0 ty) (hn : narrow ty v = v) (hfit : fits ty v = true) (hl : k0 < fs.length) (h2 : fs.set k0 v = fs2) (hd : decode m.2.1 pc = .ok (.putfield idx, 3)) (k : nW g A d nc ns m B kc ks (pc + 3) lv st ((h0, .inr (ci, fs2)) :: ws)) : nW g A d nc ns m B kc ks pc lv (v :: .ref h0 :: st) ((h0, .inr (ci, fs)) :: ws) := by
  intro p e s mid args below meth c H locs ls h
  obtain ⟨hx, hb, hr, hk, hml, hown, hts, hin, hE, hA, hP, hD, hS, hlv⟩ := id h
  obtain ⟨C, T, N, ty0, h1, h2', h3, h4, h5, h6, h7, h8, h9⟩ := hf
  subst h2
  exact va_putF hx hb hts h4 ty0 h5 h6 hown hE.1 hP hD hS 0 rfl h1 k0 h2' (hts _ h3) (fun _ z => z) h7 hin h8 h9 hn hfit hl hd (fun H1 locs1 hP1 hD1 hS1 => k p e s mid args below meth c H1 locs1 ls ⟨hx, hb, hr, hk, hml, hown, hts, hin, hE, hA, hP1, hD1, hS1, hlv⟩)
/-- a field of int or boolean -/
theorem n_puti {h0 ci k0 idx : Nat} {fs : List Value} {ty : FieldType} {v : Value} (fs2 : List Value) (hf : zFp m.1.cls idx ci k0 ty) (hn : narrow ty v = v) (hfit : fits ty v = true) (hl : k0 < fs.length) (h2 : fs.set k0 v = fs2) (hd : decode m.2.1 pc = .ok (.putfield idx, 3)) (k : nW g A d nc ns m B kc ks (pc + 3) lv st ((h0, .inr (ci, fs2)) :: ws)) : nW g A d nc ns m B kc ks pc lv (v :: .ref h0 :: st) ((h0, .inr (ci, fs)) :: ws) := by
  intro p e s mid args below meth c H locs ls h
  obtain ⟨hx, hb, hr, hk, hml, hown, hts, hin, hE, hA, hP, hD, hS, hlv⟩ := id h
  obtain ⟨C, T, N, ty0, h1, h2', h3, h4, h5, h6, h7, h8⟩ := hf
  subst h2
  exact va_put hx hb hts h4 ty0 h5 h6 hown hE.1 hP hD hS 0 rfl h1 k0 h2' (hts _ h3) (fun _ z => z) h7 h8 hn hfit hl hd (fun H1 locs1 hP1 hD1 hS1 => k p e s mid args below meth c H1 locs1 ls ⟨hx, hb, hr, hk, hml, hown, hts, hin, hE, hA, hP1, hD1, hS1, hlv⟩)
/-- a field of the object that is made, read -/
theorem n_get {h0 ci k0 idx : Nat} {fs : List Value} {v : Value} (hf : zFl m.1.cls idx ci k0) (hv : fs[k0]? = some v) (hd : decode m.2.1 pc = .ok (.getfield idx, 3)) (k : nW g A d nc ns m B kc ks (pc + 3) lv (v :: st) ((h0, .inr (ci, fs)) :: ws)) : nW g A d nc ns m B kc ks pc lv (.ref h0 :: st) ((h0, .inr (ci, fs)) :: ws) := by
  intro p e s mid args below meth c H locs ls h
  obtain ⟨hx, hb, hr, hk, hml, hown, hts, hin, hE, hA, hP, hD, hS, hlv⟩ := id h
  obtain ⟨C, T, N, h1, h2, h3, h4⟩ := hf
  exact va_get hx hb hts h4 hown hE.1 hP 0 rfl h1 k0 h2 (hts _ h3) (fun _ z => z) hv hd (k p e s mid args below meth c H locs ls h)
theorem nblind {g : zG} {h0 sz ci : Nat} {fs : List Value} : FrameBlind (nPc g h0 sz ci fs) := fun a U gf mk h => ⟨h.1, h.2.1, zF.call h.2.2.1, h.2.2.2⟩
/-- new C(), by a nest mate: new, dup, its constructor -/
theorem n_newC {x : Nat × va_E} {m2 : zMi} {B1 : Nat → va_W → Prop} {d2 nc2 ns2 ci N i1 i2 : Nat} {fs0 : List Value} {host : String} (hnw : zNw m.1.cls i1 ci N fs0) (hok : zOkI m2) (hl : (m.1.cls, i2, m2.1, host) ∈ nNI) (hd2 : d2 + 1 ≤ d) (hc : kc + 1 + nc2 ≤ nc) (hs : ks + N + ns2 ≤ ns) (hcat : (st.map fun v => v.category).sum ≤ 7)
    (hd : decode m.2.1 pc = .ok (.new i1, 3)) (hdd : decode m.2.1 (pc + 3) = .ok (.dup, 1)) (hdi : decode m.2.1 (pc + 4) = .ok (.invokespecial i2, 3)) (hM : ∀ q sz, nC g d2 nc2 ns2 m2 q sz ci fs0 (B1 q))
    (k : ∀ q w1, B1 q w1 → nW g A d nc ns m B (kc + 1 + nc2) (ks + N + ns2) (pc + 7) lv (.ref q :: st) (x :: (ws ++ w1))) : nW g A d nc ns m B kc ks pc lv st (x :: ws) := by
  intro p e s mid args below meth c H locs ls h
  obtain ⟨hx, hb, hr, hk, hml, hown, hts, hin, hE, hA, hP, hD, hS, hlv⟩ := id h
  obtain ⟨C, T, ty0, h1, h2, h3, h4, h5, h6, h7⟩ := hnw
  refine va_new hx hb hts h5 ty0 h6 hown (hts _ h2) (hts _ h3) (hts _ h4) hE.1 hP hD hS hA h1 h7 (by show kc + 1 ≤ nc; omega) (by show ks + N ≤ ns; omega) hd (fun q H1 hP1 hD1 hS1 => ?_)
  refine lv_dup hx hb hdd rfl ?_
  obtain ⟨hok0, hnm, hinm, hrt⟩ := hok
  have hNI := hE.2.2.2.2.2.2.2.2.2.2.1
  have lq : ((x :: ws) ++ [(q, Sum.inr (ci, fs0))])[(x :: ws).length]? = some (q, Sum.inr (ci, fs0)) := by simp
  have hAq : A q := hD1.2 _ _ lq
  have hnar : ∀ z, nA q H1.size z → A z := fun z hz => by
    rcases hz with hz | hz
    · rw [hz]
      exact hAq
    · exact hA z (Nat.le_trans hS1.1 hz)
  have hPq : va_P (zDD g) vwCl [(q, .inr (ci, fs0))] H1 := fun i y hi => by
    have hz : i < 1 := (List.getElem?_eq_some_iff.mp hi).1
    obtain rfl : i = 0 := by omega
    cases hi
    exact hP1 _ _ lq
  have hR : d2 + 1 ≤ d ∧ 8 + (m2.2.2.1 + 11) + 64 * d2 ≤ 64 * d := by
    have := hok0.2.2.2.2
    omega
  have run := va_runIN (p := p) (e := e) (R := nrm d nc ns) (below := below) (meth := meth) (locs := locs) (cells := kc + 1) (slots := ks + N) (As := []) (rest := .ref q :: st) (n := 0) (g := F0 mid (pc + 3 + 1) ls (.ref q :: .ref q :: st)) ⟨hx, hb, hml, hown, hts⟩ (hM q H1.size) ⟨va_cnB 0 hts (zGood hok0) (by rw [hrt]) rfl rfl (hNI _ hl) (hts _ hok0.2.1) ⟨hok0.2.2.1.1, hok0.2.2.1.2, hok0.2.2.2.1⟩ hR, hnm, hts _ hinm⟩ ⟨nblind, fun U hU hW => ⟨rfl, by rw [hU], by rw [hU]; exact (hE.go hW hS1.2.1).narrow hnar, by rw [hU]; exact hPq⟩⟩ rfl rfl hlv.1 rfl (by simp only [JFrame.monitorRoom, List.map_cons, List.sum_cons]; show 2 * 0 + (1 + _) ≤ 8; omega) hdi ⟨by show kc + 1 + nc2 ≤ nc; omega, by show ks + N + ns2 ≤ ns; omega⟩
  intro T hT X
  obtain ⟨v, st₀, t, T', L, e0, X', hL, e1, e2, ⟨⟨w1, hv, hB1, hPw, hDw⟩, hz, hkk⟩, hst⟩ := run T hT X
  cases hv
  rw [e0] at hz hkk
  have hj := n_join hP1 hD1 (fun z hz => hA z (Nat.le_trans hS1.1 hz)) hkk hPw hDw
  have hS2 : va_S A s.heap T'.heap (locs ++ L) := ⟨Nat.le_trans hS1.1 (by rw [e1]; exact hz), fun z z1 z2 => by rw [e1, hkk z (Nat.lt_of_lt_of_le z1 hS1.1) (fun y => z2 (hnar z y))]; exact hS1.2.1 z z1 z2, fun z hz => by
      rcases List.mem_append.mp hz with h | h
      · exact hS1.2.2 z h
      · exact hnar _ (hL z h)⟩
  obtain ⟨t2, a1, b1⟩ := k q w1 hB1 p e s mid args below meth c T'.heap (locs ++ L) ls ⟨hx, hb, hr, hk, hml, hown, hts, hin, hE, hA, by rw [e1]; exact hj.1, hj.2, hS2, hlv⟩ T' rfl X'
  exact ⟨t2, hst t2 a1, b1⟩
end CT
