/-! THE CLAIM OUT OF ONE WALK OF THE LAW'S BODY. Your part is whole_start (and what it stands on); all else here is the same for every law, but numbers. -/
def R_law : String := "LeftSkateLaw"
def lw_P (b : Addr) (xs : List Int32) (args : Array Value) (s : State) : Prop := args = #[.ref b] ∧ s.IntsAt b xs ∧ xs.length ≤ 3072 ∧ (Jvm.Cond.and given_1 narrow_1).before args s = true
def lw_Q (_ : Array Value) (s : State) (o : Outcome) (t : State) : Prop := o = .returned (some (.int 1)) ∧ Framed s o t [] 600000 7302250
def lw_Z (below : List Frame) (a : Array Value) (s : State) : State → Prop := fun t => ∃ o, t.status = .running ∧ Ended t below o ∧ lw_Q a s o t
/-- the law's own end, with 1 on the stack, nothing written that was there before, its room as the claim has it -/
theorem lw_ret {p : Program} {l : Launch} {e : Env} {s : State} {m : MethodId} {below : List Frame} {meth : Method} {c : Code} {b : Nat} (hx : p.tables.exec = Jvm.exec) (hb : c.code = code) (hr : meth.sig.returnType = ret) (hlocks : meth.locks = false) {pc : Nat} {H : Heap} {ls : Array Slot} (hdg : decode code pc = .ok (.ireturn, 1)) : W p l e room_1 s m #[Value.ref b] below meth c H [] 600000 7302250 (lw_Z below #[Value.ref b] s) (F0 m pc ls [.int 1]) := by
  intro T hT X
  obtain ⟨fs, hret, hrun, hended, hW, hframe⟩ := X.leave (v := some (.int 1)) (hlocks := hlocks) (fun h => by rw [hr] at h; cases h)
  have hmeth' : T.vm.method? m = some meth := X.method'
  refine ⟨T.setFrames fs, ?_, .returned (some (.int 1)), hrun, hended, rfl, ⟨_, rfl⟩, hW, hframe⟩
  jvm_step X.here [X.here.top, hx, hb, hdg, hmeth', hr, ret, narrow_b1]
  (try refine ⟨rfl, ?_⟩); (try refine ⟨rfl, ?_⟩)
  first | (intro acts; rw [hret _ acts rfl rfl rfl]) | rw [hret _ _ rfl rfl rfl]
  exact Steps.refl _
/-- what holds at the law's entry: the machine, the code, the tables' words (any of lw_tbl by 'hts w (by decide +kernel)'), the script of L ints xs at the cell b, what the Statement gives of the start (any of its parts by flat_of_before) -/
def lw_At (p : Program) (s : State) (m : MethodId) (meth : Method) (c : Code) (b L : Nat) (xs : Nat → Int32) : Prop :=
  p.tables.exec = Jvm.exec ∧ c.code = code ∧ meth.sig.returnType = ret ∧ c.maxLocals = 4 ∧ s.vm.findClass R_law = some m.cls ∧ (∀ w ∈ lw_tbl, w.before #[Value.ref b] s = true) ∧ va_X b L xs s s.heap ∧ b < s.heap.size ∧ meth.locks = false ∧ (Jvm.Cond.and given_1 narrow_1).before #[Value.ref b] s = true
/-! THE LAW, WITH BOTH WORLDS BESIDE EACH OTHER -/
def lK (g : zG) (aC aM : Nat → Nat) (sz : Nat) : Prop := zI shC (gA g aC) ∧ zI shM (gA g aM) ∧ (∀ q, zA shC (gA g aC) q → sz ≤ q) ∧ (∀ q, zA shM (gA g aM) q → sz ≤ q) ∧ (∀ q, zA shC (gA g aC) q → zA shM (gA g aM) q → False) ∧ (∀ k, 3000 ≤ k → aC k = zad g k) ∧ ∀ k, 3000 ≤ k → aM k = zad g k
def lH (g : zG) (aC aM : Nat → Nat) (b L : Nat) (xs : Nat → Int32) (lv : List (Nat × Value)) (C M : zM) (p : Program) (s : State) (m : MethodId) (meth : Method) (c : Code) (H : Heap) (locs : List Loc) (ls : Array Slot) : Prop :=
  lw_At p s m meth c b L xs ∧ zF (fun q => s.heap.size ≤ q) g s s.heap ∧ lK g aC aM s.heap.size ∧ va_P (zDD g) vwCl (zws shC (gA g aC) C) H ∧ va_P (zDD g) vwCl (zws shM (gA g aM) M) H ∧ va_S (fun q => s.heap.size ≤ q) s.heap H locs ∧ lv_has ls 4 lv
def lW (g : zG) (aC aM : Nat → Nat) (b L : Nat) (xs : Nat → Int32) (pc : Nat) (lv : List (Nat × Value)) (st : List Value) (C M : zM) : Prop :=
  ∀ (p : Program) (e : Env) (s : State) (m : MethodId) (below : List Frame) (meth : Method) (c : Code) (H : Heap) (locs : List Loc) (ls : Array Slot), lH g aC aM b L xs lv C M p s m meth c H locs ls →
    W p g.1 e room_1 s m #[Value.ref b] below meth c H locs 600000 7302250 (lw_Z below #[Value.ref b] s) (F0 m pc ls st)
section LW
variable {g : zG} {aC aM : Nat → Nat} {b L : Nat} {xs : Nat → Int32} {pc : Nat} {lv : List (Nat × Value)} {st stk : List Value} {C M : zM}
theorem l_aload {j : Fin 4} {x : Nat} (hd : decode code pc = .ok (.aload_n j, 1)) (i : Nat) (hi : lv[i]? = some ((j : Nat), .ref x)) (k : lW g aC aM b L xs (pc + 1) lv (.ref x :: st) C M) : lW g aC aM b L xs pc lv st C M := by
  intro p e s m below meth c H locs ls h
  obtain ⟨⟨hx, hb, hr, hml, hown, hts, hX, hbl, hlk, hgv⟩, hF, hK, hPC, hPM, hS, hlv⟩ := id h
  exact lv_aload_n hx hb hd rfl (lv_at hlv i hi) (k p e s m below meth c H locs ls h)
theorem l_iload {j : Fin 4} {x : Int32} (hd : decode code pc = .ok (.iload_n j, 1)) (i : Nat) (hi : lv[i]? = some ((j : Nat), .int x)) (k : lW g aC aM b L xs (pc + 1) lv (.int x :: st) C M) : lW g aC aM b L xs pc lv st C M := by
  intro p e s m below meth c H locs ls h
  obtain ⟨⟨hx, hb, hr, hml, hown, hts, hX, hbl, hlk, hgv⟩, hF, hK, hPC, hPM, hS, hlv⟩ := id h
  exact lv_iload_n hx hb hd rfl (lv_at hlv i hi) (k p e s m below meth c H locs ls h)
theorem l_iinc {j : Nat} {n : Int} {x v : Int32} (lv2 : List (Nat × Value)) (hd : decode code pc = .ok (.iinc j n, 3)) (i : Nat) (hi : lv[i]? = some (j, .int x)) (hv : x + Int32.ofInt n = v) (hn : j < 4) (hl2 : (j, .int v) :: lv.filter (fun q => !(q.1 == j) && !(q.1 + 1 == j && q.2.category == 2)) = lv2) (k : lW g aC aM b L xs (pc + 3) lv2 st C M) : lW g aC aM b L xs pc lv st C M := by
  intro p e s m below meth c H locs ls h
  obtain ⟨⟨hx, hb, hr, hml, hown, hts, hX, hbl, hlk, hgv⟩, hF, hK, hPC, hPM, hS, hlv⟩ := id h
  exact lv_iinc (k := i) hx hb hd hlv hi hv hn hl2 (fun ls2 hl2 => k p e s m below meth c H locs ls2 ⟨h.1, hF, hK, hPC, hPM, hS, hl2⟩)
theorem l_iconst {n : Int} {v : Int32} (hd : decode code pc = .ok (.iconst n, 1)) (hv : Int32.ofInt n = v) (k : lW g aC aM b L xs (pc + 1) lv (.int v :: st) C M) : lW g aC aM b L xs pc lv st C M := by
  intro p e s m below meth c H locs ls h
  exact lv_iconst h.1.1 h.1.2.1 hd hv (k p e s m below meth c H locs ls h)
theorem l_bipush {n : Int} {v : Int32} (hd : decode code pc = .ok (.bipush n, 2)) (hv : (Int8.ofInt n).toInt32 = v) (k : lW g aC aM b L xs (pc + 2) lv (.int v :: st) C M) : lW g aC aM b L xs pc lv st C M := by
  intro p e s m below meth c H locs ls h
  exact lv_bipush h.1.1 h.1.2.1 hd hv (k p e s m below meth c H locs ls h)
theorem l_iadd {x y : Int32} (hd : decode code pc = .ok (.iadd, 1)) (k : lW g aC aM b L xs (pc + 1) lv (.int (x + y) :: st) C M) : lW g aC aM b L xs pc lv (.int y :: .int x :: st) C M := by
  intro p e s m below meth c H locs ls h
  exact lv_iadd h.1.1 h.1.2.1 hd (k p e s m below meth c H locs ls h)
theorem l_isub {x y : Int32} (hd : decode code pc = .ok (.isub, 1)) (k : lW g aC aM b L xs (pc + 1) lv (.int (x - y) :: st) C M) : lW g aC aM b L xs pc lv (.int y :: .int x :: st) C M := by
  intro p e s m below meth c H locs ls h
  exact lv_isub h.1.1 h.1.2.1 hd (k p e s m below meth c H locs ls h)
theorem l_iand {x y : Int32} (hd : decode code pc = .ok (.iand, 1)) (k : lW g aC aM b L xs (pc + 1) lv (.int (x &&& y) :: st) C M) : lW g aC aM b L xs pc lv (.int y :: .int x :: st) C M := by
  intro p e s m below meth c H locs ls h
  exact lv_iand h.1.1 h.1.2.1 hd (k p e s m below meth c H locs ls h)
theorem l_i2l {x : Int32} (hd : decode code pc = .ok (.i2l, 1)) (k : lW g aC aM b L xs (pc + 1) lv (.long x.toInt64 :: st) C M) : lW g aC aM b L xs pc lv (.int x :: st) C M := by
  intro p e s m below meth c H locs ls h
  exact lv_i2l h.1.1 h.1.2.1 hd rfl (k p e s m below meth c H locs ls h)
theorem l_lshl {x : Int64} {y : Int32} (hd : decode code pc = .ok (.lshl, 1)) (k : lW g aC aM b L xs (pc + 1) lv (.long (x <<< (y.toInt64 &&& 63)) :: st) C M) : lW g aC aM b L xs pc lv (.int y :: .long x :: st) C M := by
  intro p e s m below meth c H locs ls h
  exact lv_lshl h.1.1 h.1.2.1 hd rfl (k p e s m below meth c H locs ls h)
theorem l_land {x y : Int64} (hd : decode code pc = .ok (.land, 1)) (k : lW g aC aM b L xs (pc + 1) lv (.long (x &&& y) :: st) C M) : lW g aC aM b L xs pc lv (.long y :: .long x :: st) C M := by
  intro p e s m below meth c H locs ls h
  exact lv_land h.1.1 h.1.2.1 hd (k p e s m below meth c H locs ls h)
theorem l_lor {x y : Int64} (hd : decode code pc = .ok (.lor, 1)) (k : lW g aC aM b L xs (pc + 1) lv (.long (x ||| y) :: st) C M) : lW g aC aM b L xs pc lv (.long y :: .long x :: st) C M := by
  intro p e s m below meth c H locs ls h
  exact lv_lor h.1.1 h.1.2.1 hd (k p e s m below meth c H locs ls h)
theorem l_ldc2 {index : Nat} {v : Int64} (hd : decode code pc = .ok (.ldc2_w index, 3)) (hc : Cond.constantLong R_law index v ∈ lw_tbl) (k : lW g aC aM b L xs (pc + 3) lv (.long v :: st) C M) : lW g aC aM b L xs pc lv st C M := by
  intro p e s m below meth c H locs ls h
  obtain ⟨⟨hx, hb, hr, hml, hown, hts, hX, hbl, hlk, hgv⟩, hF, hK, hPC, hPM, hS, hlv⟩ := id h
  exact lv_ldc2 hx hb hown (hts _ hc) hd (k p e s m below meth c H locs ls h)
theorem l_lcmp {x y : Int64} (hd : decode code pc = .ok (.lcmp, 1)) (k : lW g aC aM b L xs (pc + 1) lv (.int (lg_cmp x y) :: st) C M) : lW g aC aM b L xs pc lv (.long y :: .long x :: st) C M := by
  intro p e s m below meth c H locs ls h
  exact W.lcmp h.1.1 h.1.2.1 hd (k p e s m below meth c H locs ls h)
theorem l_goto {off : Int} (tgt : Nat) (hd : decode code pc = .ok (.goto off, 3)) (ht : (pc : Int) + off = (tgt : Int)) (k : lW g aC aM b L xs tgt lv st C M) : lW g aC aM b L xs pc lv st C M := by
  intro p e s m below meth c H locs ls h
  exact lv_goto h.1.1 h.1.2.1 hd ht (k p e s m below meth c H locs ls h)
theorem l_if_eq {x : Int32} {off : Int} (tgt : Nat) (hd : decode code pc = .ok (.ifCond .eq off, 3)) (ht : (pc : Int) + off = (tgt : Int)) (k1 : x = 0 → lW g aC aM b L xs tgt lv st C M) (k2 : ¬ x = 0 → lW g aC aM b L xs (pc + 3) lv st C M) : lW g aC aM b L xs pc lv (.int x :: st) C M := by
  intro p e s m below meth c H locs ls h
  exact lv_if_eq h.1.1 h.1.2.1 hd ht (fun q => k1 q p e s m below meth c H locs ls h) (fun q => k2 q p e s m below meth c H locs ls h)
theorem l_icmp_eq {x y : Int32} {off : Int} (tgt : Nat) (hd : decode code pc = .ok (.if_icmp .eq off, 3)) (ht : (pc : Int) + off = (tgt : Int)) (k1 : x = y → lW g aC aM b L xs tgt lv st C M) (k2 : ¬ x = y → lW g aC aM b L xs (pc + 3) lv st C M) : lW g aC aM b L xs pc lv (.int y :: .int x :: st) C M := by
  intro p e s m below meth c H locs ls h
  exact lv_icmp_eq h.1.1 h.1.2.1 hd ht (fun q => k1 q p e s m below meth c H locs ls h) (fun q => k2 q p e s m below meth c H locs ls h)
theorem l_icmp_gt {x y : Int32} {off : Int} (tgt : Nat) (hd : decode code pc = .ok (.if_icmp .gt off, 3)) (ht : (pc : Int) + off = (tgt : Int)) (k1 : y < x → lW g aC aM b L xs tgt lv st C M) (k2 : ¬ y < x → lW g aC aM b L xs (pc + 3) lv st C M) : lW g aC aM b L xs pc lv (.int y :: .int x :: st) C M := by
  intro p e s m below meth c H locs ls h
  exact lv_icmp_gt h.1.1 h.1.2.1 hd ht (fun q => k1 q p e s m below meth c H locs ls h) (fun q => k2 q p e s m below meth c H locs ls h)
theorem l_table {x : Int32} {dflt lo hi : Int} {offs : Array Int} {len : Nat} (T : List Nat) (tD : Nat) (hd : decode code pc = .ok (.tableswitch dflt lo hi offs, len)) (hT : offs.toList.map (fun o => (pc : Int) + o) = T.map Int.ofNat) (hz : lo + T.length = hi + 1) (ht : (pc : Int) + dflt = (tD : Int)) (kD : x.toInt < lo ∨ hi < x.toInt → lW g aC aM b L xs tD lv st C M) (kT : ∀ (i t : Nat), T[i]? = some t → x.toInt = lo + i → lW g aC aM b L xs t lv st C M) : lW g aC aM b L xs pc lv (.int x :: st) C M := by
  intro p e s m below meth c H locs ls h
  by_cases h1 : x.toInt < lo
  · exact lv_tableOut h.1.1 h.1.2.1 hd (Or.inl h1) ht (kD (Or.inl h1) p e s m below meth c H locs ls h)
  · by_cases h2 : hi < x.toInt
    · exact lv_tableOut h.1.1 h.1.2.1 hd (Or.inr h2) ht (kD (Or.inr h2) p e s m below meth c H locs ls h)
    · have hj : (x.toInt - lo).toNat < T.length := by omega
      have e1 : T[(x.toInt - lo).toNat]? = some T[(x.toInt - lo).toNat] := List.getElem?_eq_getElem hj
      have e2 : (offs.toList.map (fun o => (pc : Int) + o))[(x.toInt - lo).toNat]? = some ((T[(x.toInt - lo).toNat] : Nat) : Int) := by rw [hT, List.getElem?_map, e1]; rfl
      rw [List.getElem?_map] at e2
      obtain ⟨o, h3, h4⟩ := Option.map_eq_some_iff.mp e2
      exact lv_tableIn h.1.1 h.1.2.1 hd h1 h2 (by rw [← Array.getElem?_toList]; exact h3) h4 (kT _ _ e1 (by omega) p e s m below meth c H locs ls h)
theorem l_len (hd : decode code pc = .ok (.arraylength, 1)) (k : lW g aC aM b L xs (pc + 1) lv (.int (Int32.ofNat L) :: st) C M) : lW g aC aM b L xs pc lv (.ref b :: st) C M := by
  intro p e s m below meth c H locs ls h
  obtain ⟨⟨hx, hb, hr, hml, hown, hts, hX, hbl, hlk, hgv⟩, hF, hK, hPC, hPM, hS, hlv⟩ := id h
  exact va_slen hx hb hX hbl (Nat.not_le.mpr hbl) hS hd (k p e s m below meth c H locs ls h)
theorem l_iald {i : Int32} {j : Nat} (hi : i = iv j) (hj : j < L) (hL : L ≤ 3072) (hd : decode code pc = .ok (.iaload, 1)) (k : lW g aC aM b L xs (pc + 1) lv (.int (xs j) :: st) C M) : lW g aC aM b L xs pc lv (.int i :: .ref b :: st) C M := by
  intro p e s m below meth c H locs ls h
  obtain ⟨⟨hx, hb, hr, hml, hown, hts, hX, hbl, hlk, hgv⟩, hF, hK, hPC, hPM, hS, hlv⟩ := id h
  subst hi
  obtain ⟨h1, h2⟩ := iv_idx hj (show L < 2 ^ 31 by omega)
  refine va_sld hx hb hX hbl (Nat.not_le.mpr hbl) hS h1 hd ?_
  rw [h2]
  exact k p e s m below meth c H locs ls h
def lvL (b : Nat) (aC aM : Nat → Nat) (t : Nat) : List (Nat × Value) := [(3, .int (iv (6 * t : Nat))), (2, .ref (aM 0)), (1, .ref (aC 0)), (0, .ref b)]
/-- an int of this call's six -/
theorem l_arg {t k0 : Nat} {kz : Int} (hk : kz = (k0 : Int)) (hj : 6 * t + k0 < L) (hL : L ≤ 3072) (h1 : decode code pc = .ok (.aload_n 0, 1)) (h2 : decode code (pc + 1) = .ok (.iload_n 3, 1)) (h3 : decode code (pc + 2) = .ok (.iconst kz, 1)) (h4 : decode code (pc + 3) = .ok (.iadd, 1)) (h5 : decode code (pc + 4) = .ok (.iaload, 1)) (k : lW g aC aM b L xs (pc + 5) (lvL b aC aM t) (.int (xs (6 * t + k0)) :: st) C M) : lW g aC aM b L xs pc (lvL b aC aM t) st C M := by
  refine l_aload h1 3 rfl ?_
  refine l_iload h2 0 rfl ?_
  refine l_iconst (v := iv k0) h3 (by rw [hk]; rfl) ?_
  refine l_iadd h4 ?_
  refine l_iald (j := 6 * t + k0) ?_ hj hL h5 k
  rw [iv_add]
  congr 1
theorem l_callC {m2 : zMi} {n idx d : Nat} {as : List Value} (has : as.map (ztr (gA g aC)) = as) (hok : zOkV m2 n) (hcl : m2.1.cls = RX8) (hl : Cond.methodLink R_law idx m2.1 ∈ zTb) (hn : as.length = n) (hstk : stk = as.reverse ++ .ref (aC 0) :: st) (hcat : (st.map fun v => v.category).sum ≤ 8) (hd8 : d ≤ 1000) (hd : decode code pc = .ok (.invokevirtual idx, 3))
    (k : zC shC (gA g aC) d m2 (.ref 0 :: as) C (fun r C1 => lW g aC aM b L xs (pc + 3) lv ((r.map (ztr (gA g aC))).toList ++ st) C1 M)) : lW g aC aM b L xs pc lv stk C M := by
  intro p e s m below meth c H locs ls h
  subst hstk
  obtain ⟨⟨hx, hb, hr, hml, hown, hts, hX, hbl, hlk, hgv⟩, hF, hK, hPC, hPM, hS, hlv⟩ := id h
  obtain ⟨hIC, hIM, hAC, hAM, hdis, haC, haM⟩ := id hK
  obtain ⟨hok0, hin, hsel⟩ := hok
  have hts2 : ∀ w ∈ zTb, w.before #[Value.ref b] s = true := fun w hw => hts w (List.mem_filter.mp hw).1
  have hrecv := va_recv hF.1 hPC (q0 := 0) (ci := 8) (q := (RX8, TX8, 13)) rfl (zws_at shC_0)
  rw [show ((RX8, TX8, 13) : vw_C).1 = m2.1.cls from hcl.symm] at hrecv
  have hR : (zrm d).frames + 1 ≤ room_1.frames ∧ 8 + (m2.2.2.1 + 11) + (zrm d).locals ≤ room_1.locals := by
    have := hok0.2.2.2.2
    simp only [zrm, room_1]
    omega
  have run := va_runV (p := p) (e := e) (R := room_1) (below := below) (meth := meth) (locs := locs) (cells := 600000) (slots := 7302250) (As := as) (rest := st) (n := n) (g := F0 m pc ls (as.reverse ++ .ref (aC 0) :: st)) ⟨hx, hb, hml, hown, hts2⟩ k ⟨callB_of n hts2 (zGood hok0) rfl rfl rfl (hts2 _ hok0.2.1) (hts2 _ hl) ⟨hok0.2.2.1.1, hok0.2.2.1.2, hok0.2.2.2.1⟩ hR, hts2 _ hin, hts2 _ hsel⟩ ⟨zblind, hrecv, fun U hU hW => ⟨by rw [List.map_cons, has]; rfl, by rw [hU]; exact ((hF.go hW hS.2.1).ad haC).zE hIC hAC, by rw [hU]; exact hPC⟩⟩ rfl hn hlv.1 rfl (by simpa [JFrame.monitorRoom] using hcat) hd ⟨Nat.le_refl _, Nat.le_refl _⟩
  intro T hT X
  obtain ⟨v, st₀, t, T', L2, e0, X', hL, e1, e2, ⟨⟨r, C1, hv, hq, hp⟩, hz, hkk⟩, hst⟩ := run T hT X
  cases hv
  rw [e0] at hz hkk
  have hS1 : va_S (fun q => s.heap.size ≤ q) s.heap T'.heap (locs ++ L2) := ⟨Nat.le_trans hS.1 (by rw [e1]; exact hz), fun z h1 h2 => by rw [e1, hkk z (Nat.lt_of_lt_of_le h1 hS.1) (fun y => h2 (hAC z y))]; exact hS.2.1 z h1 h2, fun z hz => by
      rcases List.mem_append.mp hz with h | h
      · exact hS.2.2 z h
      · exact hAC _ (hL z h)⟩
  have hPM1 : va_P (zDD g) vwCl (zws shM (gA g aM) M) T'.heap := hPM.kept fun i y hy => by
    rw [e1]
    exact hkk y.1 (hPM i y hy).lt (fun z => hdis _ z ((zD hIM).2 i y hy))
  obtain ⟨t2, a1, b1⟩ := hq p e s m below meth c T'.heap (locs ++ L2) ls ⟨h.1, hF, hK, by rw [e1]; exact hp, hPM1, hS1, hlv⟩ T' rfl X'
  exact ⟨t2, hst t2 a1, b1⟩
theorem l_callM {m2 : zMi} {n idx d : Nat} {as : List Value} (has : as.map (ztr (gA g aM)) = as) (hok : zOkV m2 n) (hcl : m2.1.cls = RX9) (hl : Cond.methodLink R_law idx m2.1 ∈ zTb) (hn : as.length = n) (hstk : stk = as.reverse ++ .ref (aM 0) :: st) (hcat : (st.map fun v => v.category).sum ≤ 8) (hd8 : d ≤ 1000) (hd : decode code pc = .ok (.invokevirtual idx, 3))
    (k : zC shM (gA g aM) d m2 (.ref 0 :: as) M (fun r M1 => lW g aC aM b L xs (pc + 3) lv ((r.map (ztr (gA g aM))).toList ++ st) C M1)) : lW g aC aM b L xs pc lv stk C M := by
  intro p e s m below meth c H locs ls h
  subst hstk
  obtain ⟨⟨hx, hb, hr, hml, hown, hts, hX, hbl, hlk, hgv⟩, hF, hK, hPC, hPM, hS, hlv⟩ := id h
  obtain ⟨hIC, hIM, hAC, hAM, hdis, haC, haM⟩ := id hK
  obtain ⟨hok0, hin, hsel⟩ := hok
  have hts2 : ∀ w ∈ zTb, w.before #[Value.ref b] s = true := fun w hw => hts w (List.mem_filter.mp hw).1
  have hrecv := va_recv hF.1 hPM (q0 := 0) (ci := 9) (q := (RX9, TX9, 47)) rfl (zws_at shM_0)
  rw [show ((RX9, TX9, 47) : vw_C).1 = m2.1.cls from hcl.symm] at hrecv
  have hR : (zrm d).frames + 1 ≤ room_1.frames ∧ 8 + (m2.2.2.1 + 11) + (zrm d).locals ≤ room_1.locals := by
    have := hok0.2.2.2.2
    simp only [zrm, room_1]
    omega
  have run := va_runV (p := p) (e := e) (R := room_1) (below := below) (meth := meth) (locs := locs) (cells := 600000) (slots := 7302250) (As := as) (rest := st) (n := n) (g := F0 m pc ls (as.reverse ++ .ref (aM 0) :: st)) ⟨hx, hb, hml, hown, hts2⟩ k ⟨callB_of n hts2 (zGood hok0) rfl rfl rfl (hts2 _ hok0.2.1) (hts2 _ hl) ⟨hok0.2.2.1.1, hok0.2.2.1.2, hok0.2.2.2.1⟩ hR, hts2 _ hin, hts2 _ hsel⟩ ⟨zblind, hrecv, fun U hU hW => ⟨by rw [List.map_cons, has]; rfl, by rw [hU]; exact ((hF.go hW hS.2.1).ad haM).zE hIM hAM, by rw [hU]; exact hPM⟩⟩ rfl hn hlv.1 rfl (by simpa [JFrame.monitorRoom] using hcat) hd ⟨Nat.le_refl _, Nat.le_refl _⟩
  intro T hT X
  obtain ⟨v, st₀, t, T', L2, e0, X', hL, e1, e2, ⟨⟨r, M1, hv, hq, hp⟩, hz, hkk⟩, hst⟩ := run T hT X
  cases hv
  rw [e0] at hz hkk
  have hS1 : va_S (fun q => s.heap.size ≤ q) s.heap T'.heap (locs ++ L2) := ⟨Nat.le_trans hS.1 (by rw [e1]; exact hz), fun z h1 h2 => by rw [e1, hkk z (Nat.lt_of_lt_of_le h1 hS.1) (fun y => h2 (hAM z y))]; exact hS.2.1 z h1 h2, fun z hz => by
      rcases List.mem_append.mp hz with h | h
      · exact hS.2.2 z h
      · exact hAM _ (hL z h)⟩
  have hPC1 : va_P (zDD g) vwCl (zws shC (gA g aC) C) T'.heap := hPC.kept fun i y hy => by
    rw [e1]
    exact hkk y.1 (hPC i y hy).lt (fun z => hdis _ ((zD hIC).2 i y hy) z)
  obtain ⟨t2, a1, b1⟩ := hq p e s m below meth c T'.heap (locs ++ L2) ls ⟨h.1, hF, hK, hPC1, by rw [e1]; exact hp, hS1, hlv⟩ T' rfl X'
  exact ⟨t2, hst t2 a1, b1⟩
theorem l_cI {m8 m9 : zMi} {n idx : Nat} {as : List Value} (hJ : JI (gA g aC) (gA g aM) m8 m9 as C M) (has : as.map (ztr (gA g aC)) = as) (hok : zOkV m8 n) (hcl : m8.1.cls = RX8) (hl : Cond.methodLink R_law idx m8.1 ∈ zTb) (hn : as.length = n) (hstk : stk = as.reverse ++ .ref (aC 0) :: st) (hcat : (st.map fun v => v.category).sum ≤ 8) (hd : decode code pc = .ok (.invokevirtual idx, 3))
    (k : ∀ (x : Int32) (C1 : zM), zCi shM (gA g aM) 60 m9 (.ref 0 :: as) M (fun y M1 => y = x ∧ RR C1 M1) → lW g aC aM b L xs (pc + 3) lv (.int x :: st) C1 M) : lW g aC aM b L xs pc lv stk C M := l_callC has hok hcl hl hn hstk hcat (by decide : 60 ≤ 1000) hd (zC.mono hJ fun r C1 hq => by
  obtain ⟨x, rfl, hq⟩ := hq
  exact k x C1 hq)
theorem l_mI {m9 : zMi} {n idx : Nat} {as : List Value} {x : Int32} (hJ : zCi shM (gA g aM) 60 m9 (.ref 0 :: as) M (fun y M1 => y = x ∧ RR C M1)) (has : as.map (ztr (gA g aM)) = as) (hok : zOkV m9 n) (hcl : m9.1.cls = RX9) (hl : Cond.methodLink R_law idx m9.1 ∈ zTb) (hn : as.length = n) (hstk : stk = as.reverse ++ .ref (aM 0) :: st) (hcat : (st.map fun v => v.category).sum ≤ 8) (hd : decode code pc = .ok (.invokevirtual idx, 3))
    (k : ∀ M1 : zM, RR C M1 → lW g aC aM b L xs (pc + 3) lv (.int x :: st) C M1) : lW g aC aM b L xs pc lv stk C M := l_callM has hok hcl hl hn hstk hcat (by decide : 60 ≤ 1000) hd (zC.mono hJ fun r M1 hq => by
  obtain ⟨y, rfl, rfl, hR⟩ := hq
  exact k M1 hR)
theorem l_cZ {m8 m9 : zMi} {n idx : Nat} {as : List Value} (hJ : JZ (gA g aC) (gA g aM) m8 m9 as C M) (has : as.map (ztr (gA g aC)) = as) (hok : zOkV m8 n) (hcl : m8.1.cls = RX8) (hl : Cond.methodLink R_law idx m8.1 ∈ zTb) (hn : as.length = n) (hstk : stk = as.reverse ++ .ref (aC 0) :: st) (hcat : (st.map fun v => v.category).sum ≤ 8) (hd : decode code pc = .ok (.invokevirtual idx, 3))
    (k : ∀ (x : Bool) (C1 : zM), zCz shM (gA g aM) 60 m9 (.ref 0 :: as) M (fun y M1 => y = x ∧ RR C1 M1) → lW g aC aM b L xs (pc + 3) lv (.int (zbI x) :: st) C1 M) : lW g aC aM b L xs pc lv stk C M := l_callC has hok hcl hl hn hstk hcat (by decide : 60 ≤ 1000) hd (zC.mono hJ fun r C1 hq => by
  obtain ⟨x, rfl, hq⟩ := hq
  exact k x C1 hq)
theorem l_mZ {m9 : zMi} {n idx : Nat} {as : List Value} {x : Bool} (hJ : zCz shM (gA g aM) 60 m9 (.ref 0 :: as) M (fun y M1 => y = x ∧ RR C M1)) (has : as.map (ztr (gA g aM)) = as) (hok : zOkV m9 n) (hcl : m9.1.cls = RX9) (hl : Cond.methodLink R_law idx m9.1 ∈ zTb) (hn : as.length = n) (hstk : stk = as.reverse ++ .ref (aM 0) :: st) (hcat : (st.map fun v => v.category).sum ≤ 8) (hd : decode code pc = .ok (.invokevirtual idx, 3))
    (k : ∀ M1 : zM, RR C M1 → lW g aC aM b L xs (pc + 3) lv (.int (zbI x) :: st) C M1) : lW g aC aM b L xs pc lv stk C M := l_callM has hok hcl hl hn hstk hcat (by decide : 60 ≤ 1000) hd (zC.mono hJ fun r M1 hq => by
  obtain ⟨y, rfl, rfl, hR⟩ := hq
  exact k M1 hR)
theorem l_cL {m8 m9 : zMi} {n idx : Nat} {as : List Value} (hJ : JL (gA g aC) (gA g aM) m8 m9 as C M) (has : as.map (ztr (gA g aC)) = as) (hok : zOkV m8 n) (hcl : m8.1.cls = RX8) (hl : Cond.methodLink R_law idx m8.1 ∈ zTb) (hn : as.length = n) (hstk : stk = as.reverse ++ .ref (aC 0) :: st) (hcat : (st.map fun v => v.category).sum ≤ 8) (hd : decode code pc = .ok (.invokevirtual idx, 3))
    (k : ∀ (x : Int64) (C1 : zM), zCl shM (gA g aM) 60 m9 (.ref 0 :: as) M (fun y M1 => y = x ∧ RR C1 M1) → lW g aC aM b L xs (pc + 3) lv (.long x :: st) C1 M) : lW g aC aM b L xs pc lv stk C M := l_callC has hok hcl hl hn hstk hcat (by decide : 60 ≤ 1000) hd (zC.mono hJ fun r C1 hq => by
  obtain ⟨x, rfl, hq⟩ := hq
  exact k x C1 hq)
theorem l_mL {m9 : zMi} {n idx : Nat} {as : List Value} {x : Int64} (hJ : zCl shM (gA g aM) 60 m9 (.ref 0 :: as) M (fun y M1 => y = x ∧ RR C M1)) (has : as.map (ztr (gA g aM)) = as) (hok : zOkV m9 n) (hcl : m9.1.cls = RX9) (hl : Cond.methodLink R_law idx m9.1 ∈ zTb) (hn : as.length = n) (hstk : stk = as.reverse ++ .ref (aM 0) :: st) (hcat : (st.map fun v => v.category).sum ≤ 8) (hd : decode code pc = .ok (.invokevirtual idx, 3))
    (k : ∀ M1 : zM, RR C M1 → lW g aC aM b L xs (pc + 3) lv (.long x :: st) C M1) : lW g aC aM b L xs pc lv stk C M := l_callM has hok hcl hl hn hstk hcat (by decide : 60 ≤ 1000) hd (zC.mono hJ fun r M1 hq => by
  obtain ⟨y, rfl, rfl, hR⟩ := hq
  exact k M1 hR)
end LW
