/-! THE LAW: its start -/
theorem nwL_7 : zNw R_law 7 8 13 [.null, .null, .int 0, .null, .null, .int 0, .null, .null, .null, .null, .null, .null, .null] := ⟨RX8, TX8, tyX8, rfl, zat 139 (by decide +kernel) rfl, zat 140 (by decide +kernel) rfl, zat 120 (by decide +kernel) rfl, inzX8, tyX8_ok, by decide +kernel⟩
theorem okX8_init : zOkI mX8_init := ⟨⟨zat 143 (by decide +kernel) rfl, zat 120 (by decide +kernel) rfl, ⟨by decide +kernel, by decide +kernel⟩, by decide +kernel, by decide +kernel⟩, rfl, zat 142 (by decide +kernel) rfl, rfl⟩
theorem nwL_10 : zNw R_law 10 9 47 [.null, .null, .null, .null, .int 0, .int 0, .null, .null, .null, .null, .null, .null, .null, .null, .null, .null, .int 0, .int 0, .int 0, .int 0, .int 0, .int 0, .int 0, .int 0, .int 0, .int 0, .int 0, .int 0, .int 0, .int 0, .int 0, .int 0, .int 0, .int 0, .null, .null, .null, .null, .int 0, .null, .null, .null, .null, .null, .null, .int 0, .null] := ⟨RX9, TX9, tyX9, rfl, zat 1192 (by decide +kernel) rfl, zat 1193 (by decide +kernel) rfl, zat 130 (by decide +kernel) rfl, inzX9, tyX9_ok, by decide +kernel⟩
theorem okX9_init : zOkI mX9_init := ⟨⟨zat 1196 (by decide +kernel) rfl, zat 130 (by decide +kernel) rfl, ⟨by decide +kernel, by decide +kernel⟩, by decide +kernel, by decide +kernel⟩, rfl, zat 1195 (by decide +kernel) rfl, rfl⟩
theorem l_new {g : zG} {p : Program} {e : Env} {s : State} {m : MethodId} {args : Array Value} {below : List Frame} {meth : Method} {c : Code} {H : Heap} {locs : List Loc} {kc ks pc : Nat} {Q : State → Prop} {ls : Array Slot} {st : List Value} {ws : va_W} {m2 : zMi} {B1 : Nat → va_W → Prop} {d2 nc2 ns2 ci N i1 i2 : Nat} {fs0 : List Value}
    (hx : p.tables.exec = Jvm.exec) (hb : c.code = code) (hml : c.maxLocals = 4) (hown : s.vm.findClass R_law = some m.cls) (hts : ∀ w ∈ zTb, w.before args s = true) (hE : zF (fun q => s.heap.size ≤ q) g s s.heap) (hP : va_P (zDD g) vwCl ws H) (hD : va_D (fun q => s.heap.size ≤ q) ws) (hS : va_S (fun q => s.heap.size ≤ q) s.heap H locs) (hsz : ls.size = 4)
    (hnw : zNw R_law i1 ci N fs0) (hok : zOkI m2) (hl : Cond.methodLink R_law i2 m2.1 ∈ zTb) (hd8 : d2 ≤ 1000) (hc : kc + 1 + nc2 ≤ 600000) (hs : ks + N + ns2 ≤ 7302250) (hcat : (st.map fun v => v.category).sum ≤ 7)
    (hd : decode code pc = .ok (.new i1, 3)) (hdd : decode code (pc + 3) = .ok (.dup, 1)) (hdi : decode code (pc + 4) = .ok (.invokespecial i2, 3)) (hM : ∀ q sz, nC g d2 nc2 ns2 m2 q sz ci fs0 (B1 q))
    (k : ∀ (q : Nat) (w1 : va_W) (H1 : Heap) (locs1 : List Loc), B1 q w1 → va_P (zDD g) vwCl (ws ++ w1) H1 → va_D (fun q => s.heap.size ≤ q) (ws ++ w1) → va_S (fun q => s.heap.size ≤ q) s.heap H1 locs1 → W p g.1 e room_1 s m args below meth c H1 locs1 (kc + 1 + nc2) (ks + N + ns2) Q (F0 m (pc + 7) ls (.ref q :: st))) : W p g.1 e room_1 s m args below meth c H locs kc ks Q (F0 m pc ls st) := by
  obtain ⟨C, T, ty0, h1, h2, h3, h4, h5, h6, h7⟩ := hnw
  have hA : ∀ q : Nat, s.heap.size ≤ q → (fun q : Nat => s.heap.size ≤ q) q := fun _ h => h
  refine va_new hx hb hts h5 ty0 h6 hown (hts _ h2) (hts _ h3) (hts _ h4) hE.1 hP hD hS hA h1 h7 (by show kc + 1 ≤ 600000; omega) (by show ks + N ≤ 7302250; omega) hd (fun q H1 hP1 hD1 hS1 => ?_)
  refine lv_dup hx hb hdd rfl ?_
  obtain ⟨hok0, hnm, hinm, hrt⟩ := hok
  have lq : (ws ++ [(q, Sum.inr (ci, fs0))])[ws.length]? = some (q, Sum.inr (ci, fs0)) := by simp
  have hAq : s.heap.size ≤ q := hD1.2 _ _ lq
  have hnar : ∀ z, nA q H1.size z → s.heap.size ≤ z := fun z hz => by
    rcases hz with hz | hz
    · rw [hz]
      exact hAq
    · exact Nat.le_trans hS1.1 hz
  have hPq : va_P (zDD g) vwCl [(q, .inr (ci, fs0))] H1 := fun i y hi => by
    have hz : i < 1 := (List.getElem?_eq_some_iff.mp hi).1
    obtain rfl : i = 0 := by omega
    cases hi
    exact hP1 _ _ lq
  have hR : d2 + 1 ≤ 2048 ∧ 8 + (m2.2.2.1 + 11) + 64 * d2 ≤ 84000 := by
    have := hok0.2.2.2.2
    omega
  have run := va_runI (p := p) (e := e) (R := room_1) (below := below) (meth := meth) (locs := locs) (cells := kc + 1) (slots := ks + N) (As := []) (rest := .ref q :: st) (n := 0) (g := F0 m (pc + 3 + 1) ls (.ref q :: .ref q :: st)) ⟨hx, hb, hml, hown, hts⟩ (hM q H1.size) ⟨callB_of 0 hts (zGood hok0) (by rw [hrt]) rfl rfl (hts _ hok0.2.1) (hts _ hl) ⟨hok0.2.2.1.1, hok0.2.2.1.2, hok0.2.2.2.1⟩ hR, hnm, hts _ hinm⟩ ⟨nblind, fun U hU hW => ⟨rfl, by rw [hU], by rw [hU]; exact (hE.go hW hS1.2.1).narrow hnar, by rw [hU]; exact hPq⟩⟩ rfl rfl hsz rfl (by simp only [JFrame.monitorRoom, List.map_cons, List.sum_cons]; show 2 * 0 + (1 + _) ≤ 8; omega) hdi ⟨by show kc + 1 + nc2 ≤ 600000; omega, by show ks + N + ns2 ≤ 7302250; omega⟩
  intro T0 hT X
  obtain ⟨v, st₀, t, T', L, e0, X', hL, e1, e2, ⟨⟨w1, hv, hB1, hPw, hDw⟩, hz, hkk⟩, hst⟩ := run T0 hT X
  cases hv
  rw [e0] at hz hkk
  have hj := n_join hP1 hD1 (fun z hz => Nat.le_trans hS1.1 hz) hkk hPw hDw
  have hS2 : va_S (fun q => s.heap.size ≤ q) s.heap T'.heap (locs ++ L) := ⟨Nat.le_trans hS1.1 (by rw [e1]; exact hz), fun z z1 z2 => by rw [e1, hkk z (Nat.lt_of_lt_of_le z1 hS1.1) (fun y => z2 (hnar z y))]; exact hS1.2.1 z z1 z2, fun z hz => by
      rcases List.mem_append.mp hz with h | h
      · exact hS1.2.2 z h
      · exact hnar _ (hL z h)⟩
  obtain ⟨t2, a1, b1⟩ := k q w1 T'.heap (locs ++ L) hB1 (by rw [e1]; exact hj.1) hj.2 hS2 T' rfl X'
  exact ⟨t2, hst t2 a1, b1⟩
theorem n_split {A : Nat → Prop} {w1 w2 : va_W} (h : va_D A (w1 ++ w2)) : va_D A w1 ∧ va_D A w2 ∧ ∀ x ∈ w1, ∀ y ∈ w2, x.1 ≠ y.1 := by
  rw [va_D_iff] at h
  obtain ⟨h1, h2⟩ := h
  rw [List.map_append, List.nodup_append] at h1
  exact ⟨va_D_iff.mpr ⟨h1.1, fun q hq => h2 q (List.mem_append_left _ hq)⟩, va_D_iff.mpr ⟨h1.2.1, fun q hq => h2 q (List.mem_append_right _ hq)⟩, fun x hx y hy => h1.2.2 x.1 (List.mem_map_of_mem hx) y.1 (List.mem_map_of_mem hy)⟩
theorem zA_mem {sh : List zSh} {g : zG} {M : zM} {q : Nat} (h : zA sh g q) : ∃ x ∈ zws sh g M, x.1 = q := by
  obtain ⟨k, hk, rfl⟩ := h
  exact ⟨_, List.mem_of_getElem? (zws_at (List.getElem?_eq_getElem hk)), rfl⟩
set_option maxRecDepth 100000 in
/-- THE LAW, from its entry -/
theorem whole_start {p : Program} {e : Env} {s : State} {m : MethodId} {below : List Frame} {meth : Method} {c : Code} (l : Launch) {b L : Nat} {xs : Nat → Int32} (hL : L ≤ 3072) (C0 : lw_At p s m meth c b L xs) : W p l e room_1 s m #[Value.ref b] below meth c s.heap [] 0 0 (lw_Z below #[Value.ref b] s) (entryFrame m ([Value.ref b] : List Value).toArray 4) := by
  obtain ⟨hx, hb, hr, hml, hown, hts, hX, hbl, hlocks, hgv⟩ := id C0
  obtain ⟨bs, D, cI, cB, cQ, hF⟩ := zF_start hts hgv l
  have hts2 : ∀ w ∈ zTb, w.before #[Value.ref b] s = true := fun w hw => hts w (List.mem_filter.mp hw).1
  have hl := lv_entry [Value.ref b] (n := 4) (Nat.le_of_ble_eq_true rfl)
  rw [lg_entry_eq]
  generalize (lg_sl ([.ref b]) ++ List.replicate (4 - (lg_sl ([.ref b])).length) Slot.unset).toArray = ls at hl ⊢
  have hl : lv_has ls 4 [(0, .ref b)] := hl
  obtain ⟨g, hg⟩ : ∃ g : zG, g = (l, bs, D, cI, cB, cQ) := ⟨_, rfl⟩
  rw [← hg] at hF
  have hgl : g.1 = l := by rw [hg]
  subst hgl
  clear hg
  refine l_new (ws := []) (d2 := 8) (nc2 := 128) (ns2 := 11895) hx hb hml hown hts2 hF (fun k q h => by simp at h) ⟨fun i j x q h => by simp at h, fun k q h => by simp at h⟩ va_S.rf hl.1 nwL_7 okX8_init (zat 141 (by decide +kernel) rfl) (by decide) (by omega) (by omega) (by decide) dL_0 dL_3 dL_4 (fun q sz => kX8_init g q sz) (fun q1 w1 H1 locs1 hB1 hP1 hD1 hS1 => ?_)
  refine lv_astore_n (lv' := [(1, .ref q1), (0, .ref b)]) hx hb dL_7 rfl hl (by decide) rfl (fun ls hl => ?_)
  refine l_new (ws := [] ++ w1) (d2 := 8) (nc2 := 25) (ns2 := 19490) hx hb hml hown hts2 hF hP1 hD1 hS1 hl.1 nwL_10 okX9_init (zat 1194 (by decide +kernel) rfl) (by decide) (by omega) (by omega) (by decide) dL_8 dL_11 dL_12 (fun q sz => kX9_init g q sz) (fun q2 w2 H2 locs2 hB2 hP2 hD2 hS2 => ?_)
  refine lv_astore_n (lv' := [(2, .ref q2), (1, .ref q1), (0, .ref b)]) hx hb dL_15 rfl hl (by decide) rfl (fun ls hl => ?_)
  refine lv_iconst (v := iv (6 * 0 : Nat)) hx hb dL_16 (by decide) ?_
  obtain ⟨aC, C, h1, haC, hfr, hw1⟩ := hB1
  obtain ⟨aM, M, h2, haM, hMe, hw2⟩ := hB2
  rw [List.nil_append] at hP2 hD2
  rw [hw1, hw2] at hP2 hD2
  have hPP := va_P_iff.mp hP2
  obtain ⟨hDC, hDM, hdis⟩ := n_split hD2
  refine lv_istore_n (lv' := [(3, .int (iv (6 * 0 : Nat))), (2, .ref q2), (1, .ref q1), (0, .ref b)]) hx hb dL_17 rfl hl (by decide) rfl (fun ls hl => ?_)
  rw [← h1, ← h2] at hl
  refine W.widen (k := 600000) (n := 7302250) (by omega) (by omega) ?_
  have hRR : RR C M := by
    rw [hMe]
    exact fr_RR hfr
  refine l_loop hL (L + 1) 0 C M (by omega) (by omega) hRR p e s m below meth c H2 locs2 ls ⟨C0, hF, ⟨(zws_D hDC).1, (zws_D hDM).1, (zws_D hDC).2, (zws_D hDM).2, fun q h3 h4 => ?_, haC, haM⟩, va_P_iff.mpr fun q hq => hPP q (List.mem_append_left _ hq), va_P_iff.mpr fun q hq => hPP q (List.mem_append_right _ hq), hS2, hl⟩
  obtain ⟨x, hx1, hx2⟩ := zA_mem (M := C) h3
  obtain ⟨y, hy1, hy2⟩ := zA_mem (M := M) h4
  exact hdis x hx1 y hy1 (hx2.trans hy2.symm)
