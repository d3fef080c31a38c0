/-! WORLDS OUT OF PIECES -/
def zfA (g : zG) (M : zM) (k : Nat) : Nat → List (Option Nat) → List Value
  | _, [] => []
  | j, o :: t => (match o with
    | none => Value.int (M k j)
    | some r => .ref (zad g r)) :: zfA g M k (j + 1) t
def zcA (g : zG) (M : zM) (k : Nat) (s : zSh) : Nat × va_E := (zad g k,
  if s.1 = 0 then .inl (g.2.2.2.1, s.2.1, .inl (M k)) else if s.1 = 1 then .inl (g.2.2.2.2.1, s.2.1, .inl (M k))
  else if s.1 = 2 then .inl (g.2.2.2.2.2, s.2.1, .inr (.inr (.inr (.inr fun j => some (zad g (M k j).toNatClampNeg))))) else .inr (s.2.1, zfA g M k 0 s.2.2))
def zwA (g : zG) (M : zM) : Nat → List zSh → va_W
  | _, [] => []
  | o, s :: t => zcA g M o s :: zwA g M (o + 1) t
theorem zfA_get {g : zG} {M : zM} {k : Nat} : ∀ (t : List (Option Nat)) (j i : Nat), (zfA g M k j t)[i]? = (t[i]?).map (fun o => match o with
    | none => Value.int (M k (j + i))
    | some r => .ref (zad g r)) := by
  intro t
  induction t with
  | nil => intro j i; simp [zfA]
  | cons o t ih =>
    intro j i
    cases i with
    | zero => simp [zfA]
    | succ i =>
      simp only [zfA, List.getElem?_cons_succ]
      rw [ih (j + 1) i, show j + 1 + i = j + (i + 1) by omega]
theorem zfs_A {g : zG} {M : zM} {k : Nat} {fs : List (Option Nat)} : zfs g M k fs = zfA g M k 0 fs := by
  refine List.ext_getElem? fun i => ?_
  rw [zfA_get]
  simp only [zfs, List.getElem?_mapIdx, Nat.zero_add]
  cases fs[i]? with
  | none => rfl
  | some o => cases o <;> rfl
theorem zcell_A {g : zG} {M : zM} {k : Nat} {s : zSh} : zcell g M k s = zcA g M k s := by
  unfold zcell zcA
  rw [zfs_A]
theorem zwA_get {g : zG} {M : zM} : ∀ (t : List zSh) (o i : Nat), (zwA g M o t)[i]? = (t[i]?).map (zcA g M (o + i)) := by
  intro t
  induction t with
  | nil => intro o i; simp [zwA]
  | cons s t ih =>
    intro o i
    cases i with
    | zero => simp [zwA]
    | succ i =>
      simp only [zwA, List.getElem?_cons_succ]
      rw [ih (o + 1) i, show o + 1 + i = o + (i + 1) by omega]
theorem zws_A {g : zG} {M : zM} {sh : List zSh} : zws sh g M = zwA g M 0 sh := by
  refine List.ext_getElem? fun i => ?_
  rw [zwA_get]
  simp only [zws, List.getElem?_mapIdx, Nat.zero_add]
  cases sh[i]? with
  | none => rfl
  | some s => simp only [Option.map_some, zcell_A]
def shS (o : Nat) (sh : List zSh) : List zSh := sh.map fun s => (s.1, s.2.1, s.2.2.map (Option.map (o + ·)))
def shOk (N : Nat) (sh : List zSh) : Bool := sh.all fun s => decide (s.1 ≠ 2) && s.2.2.all fun o => match o with
  | none => true
  | some r => decide (r < N)
theorem zfA_seg {g : zG} {M M1 : zM} {ad1 : Nat → Nat} {o i N : Nat} (hz : ∀ k, k < N → zad g (o + k) = ad1 k) (hM : M (o + i) = M1 i) : ∀ (fs : List (Option Nat)) (j : Nat), (∀ r, some r ∈ fs → r < N) → zfA g M (o + i) j (fs.map (Option.map (o + ·))) = zfA (gA g ad1) M1 i j fs := by
  intro fs
  induction fs with
  | nil => intro j _; rfl
  | cons x t ih =>
    intro j h
    simp only [List.map_cons, zfA]
    rw [ih (j + 1) (fun r hr => h r (List.mem_cons_of_mem _ hr))]
    cases x with
    | none =>
      simp only [Option.map_none]
      rw [hM]
    | some r =>
      simp only [Option.map_some]
      rw [hz r (h r List.mem_cons_self)]
      rfl
theorem zwA_seg {g : zG} {M M1 : zM} {ad1 : Nat → Nat} {o N : Nat} (hz : ∀ k, k < N → zad g (o + k) = ad1 k) (hM : ∀ k, k < N → M (o + k) = M1 k) : ∀ (t : List zSh) (i : Nat), shOk N t = true → i + t.length ≤ N → zwA g M (o + i) (shS o t) = zwA (gA g ad1) M1 i t := by
  intro t
  induction t with
  | nil => intro i _ _; rfl
  | cons s t ih =>
    intro i hok hl
    simp only [shOk, List.all_cons, Bool.and_eq_true, decide_eq_true_eq] at hok
    rw [List.length_cons] at hl
    simp only [shS, List.map_cons, zwA]
    have h2 := ih (i + 1) (by simp only [shOk]; exact hok.2) (by omega)
    rw [show o + i + 1 = o + (i + 1) by omega]
    simp only [shS] at h2
    rw [h2]
    congr 1
    unfold zcA
    have e1 : zad g (o + i) = zad (gA g ad1) i := hz i (by omega)
    simp only [e1, hM i (by omega)]
    by_cases c0 : s.1 = 0
    · simp only [c0, if_true]
      rfl
    · by_cases c1 : s.1 = 1
      · simp only [c1, if_true]
        rfl
      · simp only [c0, c1, hok.1.1, if_false]
        rw [zfA_seg hz (hM i (by omega)) s.2.2 0 (fun r hr => ?_)]
        have := List.all_eq_true.mp hok.1.2 (some r) hr
        simpa using this
theorem zws_seg {g : zG} {M : zM} {o : Nat} (sh1 : List zSh) (ad1 : Nat → Nat) (M1 : zM) (hz : ∀ k, k < sh1.length → zad g (o + k) = ad1 k) (hM : ∀ k, k < sh1.length → M (o + k) = M1 k) (hok : shOk sh1.length sh1 = true) : zwA g M o (shS o sh1) = zws sh1 (gA g ad1) M1 := by
  rw [zws_A]
  exact zwA_seg hz hM sh1 0 hok (by omega)
theorem zws_D {sh : List zSh} {g : zG} {M : zM} {A : Nat → Prop} (h : va_D A (zws sh g M)) : zI sh g ∧ ∀ q, zA sh g q → A q := by
  refine ⟨fun i j hi hj e => h.1 i j (zcell g M i sh[i]) (zcell g M j sh[j]) (zws_at (List.getElem?_eq_getElem hi)) (zws_at (List.getElem?_eq_getElem hj)) e, ?_⟩
  rintro q ⟨k, hk, rfl⟩
  exact h.2 k (zcell g M k sh[k]) (zws_at (List.getElem?_eq_getElem hk))
theorem zws_D2 {sh : List zSh} {g : zG} {M : zM} {A : Nat → Prop} (h : zI sh g) (hA : ∀ q, zA sh g q → A q) : va_D A (zws sh g M) := (zD h).weaken fun _ _ _ z => hA _ z
theorem va_P_iff {D : va_G} {cl : List vw_C} {ws : va_W} {H : Heap} : va_P D cl ws H ↔ ∀ q ∈ ws, va_at D cl q H := by
  refine ⟨fun h q hq => ?_, fun h k q hk => h q (List.mem_of_getElem? hk)⟩
  obtain ⟨k, hk⟩ := List.getElem?_of_mem hq
  exact h k q hk
theorem va_D_iff {A : Nat → Prop} {ws : va_W} : va_D A ws ↔ (ws.map Prod.fst).Nodup ∧ ∀ q ∈ ws, A q.1 := by
  constructor
  · intro h
    refine ⟨?_, fun q hq => ?_⟩
    · unfold List.Nodup
      rw [List.pairwise_map, List.pairwise_iff_getElem]
      intro i j hi hj hij e
      have := h.1 i j _ _ (List.getElem?_eq_getElem hi) (List.getElem?_eq_getElem hj) e
      omega
    · obtain ⟨k, hk⟩ := List.getElem?_of_mem hq
      exact h.2 k q hk
  · rintro ⟨h1, h2⟩
    unfold List.Nodup at h1
    rw [List.pairwise_map, List.pairwise_iff_getElem] at h1
    refine ⟨fun i j p q hi hj e => ?_, fun k q hk => h2 q (List.mem_of_getElem? hk)⟩
    obtain ⟨hi', ei⟩ := List.getElem?_eq_some_iff.mp hi
    obtain ⟨hj', ej⟩ := List.getElem?_eq_some_iff.mp hj
    rcases Nat.lt_trichotomy i j with c | c | c
    · exact absurd (by rw [ei, ej]; exact e) (h1 i j hi' hj' c)
    · exact c
    · exact absurd (by rw [ei, ej]; exact e.symm) (h1 j i hj' hi' c)
theorem n_perm {D : va_G} {cl : List vw_C} {A : Nat → Prop} {ws w2 : va_W} {H : Heap} (hp : ws.Perm w2) (h : va_P D cl ws H ∧ va_D A ws) : va_P D cl w2 H ∧ va_D A w2 := by
  obtain ⟨hP, hD⟩ := h
  rw [va_P_iff] at hP ⊢
  rw [va_D_iff] at hD ⊢
  exact ⟨fun q hq => hP q (hp.mem_iff.mpr hq), (hp.map Prod.fst).nodup_iff.mp hD.1, fun q hq => hD.2 q (hp.mem_iff.mpr hq)⟩
/-- an array of references, told by what it holds below its length -/
theorem n_swapq {D : va_G} {cl : List vw_C} {A : Nat → Prop} {pre post : va_W} {q n : Nat} {cA : ClassId} {f f2 : Nat → Option Nat} {H : Heap} (hf : ∀ j, j < n → f j = f2 j) (h : va_P D cl (pre ++ (q, .inl (cA, n, .inr (.inr (.inr (.inr f))))) :: post) H ∧ va_D A (pre ++ (q, .inl (cA, n, .inr (.inr (.inr (.inr f))))) :: post)) : va_P D cl (pre ++ (q, .inl (cA, n, .inr (.inr (.inr (.inr f2))))) :: post) H ∧ va_D A (pre ++ (q, .inl (cA, n, .inr (.inr (.inr (.inr f2))))) :: post) := by
  obtain ⟨hP, hD⟩ := h
  rw [va_P_iff] at hP ⊢
  rw [va_D_iff] at hD ⊢
  have hc : vp_cell cA (n, .inr (.inr (.inr (.inr f2)))) = vp_cell cA (n, .inr (.inr (.inr (.inr f)))) := by
    rw [vp_cell_q, vp_cell_q]
    unfold arrV
    congr 2
    funext j
    show va_rf (f2 j.1) = va_rf (f j.1)
    rw [hf j.1 j.2]
  refine ⟨fun x hx => ?_, ?_, fun x hx => ?_⟩
  · rcases List.mem_append.mp hx with h | h
    · exact hP x (List.mem_append_left _ h)
    · rcases List.mem_cons.mp h with h | h
      · subst h
        have := hP (q, .inl (cA, n, .inr (.inr (.inr (.inr f))))) (List.mem_append_right _ List.mem_cons_self)
        show H[q]? = some (vp_cell cA (n, .inr (.inr (.inr (.inr f2)))))
        rw [hc]
        exact this
      · exact hP x (List.mem_append_right _ (List.mem_cons_of_mem _ h))
  · have := hD.1
    simp only [List.map_append, List.map_cons] at this ⊢
    exact this
  · rcases List.mem_append.mp hx with h | h
    · exact hD.2 x (List.mem_append_left _ h)
    · rcases List.mem_cons.mp h with h | h
      · subst h
        exact hD.2 (q, .inl (cA, n, .inr (.inr (.inr (.inr f))))) (List.mem_append_right _ List.mem_cons_self)
      · exact hD.2 x (List.mem_append_right _ (List.mem_cons_of_mem _ h))
theorem n_set {α : Type} (x c c2 : α) (pre post : List α) : (x :: (pre ++ c :: post)).set (pre.length + 1) c2 = x :: (pre ++ c2 :: post) := by
  rw [List.set_cons_succ]
  congr 1
  induction pre with
  | nil => rfl
  | cons y t ih =>
    simp only [List.cons_append, List.length_cons, List.set_cons_succ]
    rw [ih]
def nGl {α : Type} (n : Nat) (f r : Nat → α) : Nat → α := fun k => if k < n then f k else r (k - n)
theorem nGl_lo {α : Type} {n : Nat} {f r : Nat → α} {k : Nat} (h : k < n) : nGl n f r k = f k := if_pos h
theorem nGl_ge {α : Type} {n : Nat} {f r : Nat → α} {k : Nat} (h : n ≤ k) : nGl n f r k = r (k - n) := if_neg (by omega)
/-- what a constructor leaves: a world of this shape and these contents, its object first -/
def nB (g : zG) (sh : List zSh) (M : zM) (h0 : Nat) : va_W → Prop := fun ws => ∃ ad : Nat → Nat, ad 0 = h0 ∧ ws = zws sh (gA g ad) M
section CT2
variable {g : zG} {A : Nat → Prop} {d nc ns : Nat} {m : zMi} {B : va_W → Prop} {kc ks pc : Nat} {lv : List (Nat × Value)} {st : List Value} {ws : va_W}
/-- a new object whose constructor leaves a world -/
theorem n_newB {x : Nat × va_E} {m2 : zMi} {sh1 : List zSh} {M1 : zM} {d2 nc2 ns2 ci N i1 i2 : Nat} {fs0 : List Value} {host : String} (hnw : zNw m.1.cls i1 ci N fs0) (hok : zOkI m2) (hl : (m.1.cls, i2, m2.1, host) ∈ nNI) (hd2 : d2 + 1 ≤ d) (hc : kc + 1 + nc2 ≤ nc) (hs : ks + N + ns2 ≤ ns) (hcat : (st.map fun v => v.category).sum ≤ 7)
    (hd : decode m.2.1 pc = .ok (.new i1, 3)) (hdd : decode m.2.1 (pc + 3) = .ok (.dup, 1)) (hdi : decode m.2.1 (pc + 4) = .ok (.invokespecial i2, 3)) (hM : ∀ q sz, nC g d2 nc2 ns2 m2 q sz ci fs0 (nB g sh1 M1 q))
    (k : ∀ a : Nat → Nat, nW g A d nc ns m B (kc + 1 + nc2) (ks + N + ns2) (pc + 7) lv (.ref (a 0) :: st) (x :: (ws ++ zws sh1 (gA g a) M1))) : nW g A d nc ns m B kc ks pc lv st (x :: ws) := by
  refine n_newC hnw hok hl hd2 hc hs hcat hd hdd hdi hM (fun q w1 hw => ?_)
  obtain ⟨a, rfl, rfl⟩ := hw
  exact k a
/-- an element of an array of moments is written -/
theorem n_astq {x : Nat × va_E} {pre post : va_W} {qp n v : Nat} {vs : List Value} {f : Nat → Option Nat} {i : Int32} (k0 : Nat) (hw : ws = pre ++ (qp, .inl (g.2.2.2.2.2, n, .inr (.inr (.inr (.inr f))))) :: post) (hv : (v, Sum.inr (2, vs)) ∈ x :: ws) (hin : vp_in i n) (hk0 : i.toNatClampNeg = k0) (hd : decode m.2.1 pc = .ok (.aastore, 1)) (k : nW g A d nc ns m B kc ks (pc + 1) lv st (x :: (pre ++ (qp, .inl (g.2.2.2.2.2, n, .inr (.inr (.inr (.inr (va_up f k0 (some v))))))) :: post))) : nW g A d nc ns m B kc ks pc lv (.ref v :: .int i :: .ref qp :: st) (x :: ws) := by
  intro p e s mid args below meth c H locs ls h
  obtain ⟨hx, hb, hr, hk, hml, hown, hts, hi, hE, hA, hP, hD, hS, hlv⟩ := id h
  subst hw
  subst hk0
  obtain ⟨qk, hqk⟩ := List.getElem?_of_mem hv
  have hq0 : (x :: (pre ++ (qp, Sum.inl (g.2.2.2.2.2, n, .inr (.inr (.inr (.inr f))))) :: post))[pre.length + 1]? = some (qp, Sum.inl (g.2.2.2.2.2, n, .inr (.inr (.inr (.inr f))))) := by simp
  refine va_astq hx hb hE.1 hP hD hS (pre.length + 1) 2 qk 2 (r := (RX2, TX2, 8)) hq0 rfl hqk rfl hin hd (fun H1 locs1 hP1 hD1 hS1 => ?_)
  rw [n_set] at hP1 hD1
  exact k p e s mid args below meth c H1 locs1 ls ⟨hx, hb, hr, hk, hml, hown, hts, hi, hE, hA, hP1, hD1, hS1, hlv⟩
/-- a method of a world that is whole -/
theorem n_callZ {sh : List zSh} {ad : Nat → Nat} {C : zM} {m2 : zMi} {o ci n idx d2 : Nat} {fs : List (Option Nat)} {stk : List Value} {Dn : zM → Prop} (as : List Value) (hcv : ∀ (H : Heap), va_P (zDD g) vwCl ws H ∧ va_D A ws → va_P (zDD g) vwCl (zws sh (gA g ad) C) H ∧ va_D A (zws sh (gA g ad) C)) (had : ∀ k, 3000 ≤ k → ad k = zad g k) (hok : zOkV m2 n) (hl : Cond.methodLink m.1.cls idx m2.1 ∈ zTb) (hs : sh[o]? = some (3, ci, fs)) (hc : vwCl[ci]?.map (fun q => q.1) = some m2.1.cls) (hn : as.length = n) (hstk : stk = (as.map (ztr (gA g ad))).reverse ++ .ref (ad o) :: st) (hcat : (st.map fun v => v.category).sum ≤ 8) (hd2 : d2 + 1 ≤ d) (hkc : kc ≤ nc) (hks : ks ≤ ns) (hd : decode m.2.1 pc = .ok (.invokevirtual idx, 3))
    (hZ : zC sh (gA g ad) d2 m2 (.ref o :: as) C (zv Dn)) (k : ∀ M1, Dn M1 → nW g A d nc ns m B kc ks (pc + 3) lv st (zws sh (gA g ad) M1)) : nW g A d nc ns m B kc ks pc lv stk ws := by
  intro p e s mid args below meth c H locs ls h
  obtain ⟨hx, hb, hr, hk, hml, hown, hts, hi, hE, hA, hP, hD, hS, hlv⟩ := id h
  subst hstk
  obtain ⟨hok0, hin, hsel⟩ := hok
  obtain ⟨hP2, hD2⟩ := hcv H ⟨hP, hD⟩
  obtain ⟨hI, hAq⟩ := zws_D hD2
  obtain ⟨q, hq1, hq2⟩ := Option.map_eq_some_iff.mp hc
  have hrecv := va_recv hE.1 hP2 hq1 (zws_at hs)
  rw [hq2] at hrecv
  have hR : d2 + 1 ≤ d ∧ 8 + (m2.2.2.1 + 11) + 64 * d2 ≤ 64 * d := by
    have := hok0.2.2.2.2
    omega
  have run := va_runV (p := p) (e := e) (R := nrm d nc ns) (below := below) (meth := meth) (locs := locs) (cells := kc) (slots := ks) (As := as.map (ztr (gA g ad))) (rest := st) (n := n) (g := F0 mid pc ls ((as.map (ztr (gA g ad))).reverse ++ .ref (ad o) :: st)) ⟨hx, hb, hml, hown, hts⟩ hZ ⟨callB_of n hts (zGood hok0) rfl rfl rfl (hts _ hok0.2.1) (hts _ hl) ⟨hok0.2.2.1.1, hok0.2.2.1.2, hok0.2.2.2.1⟩ hR, hts _ hin, hts _ hsel⟩ ⟨zblind, hrecv, fun U hU hW => ⟨rfl, by rw [hU]; exact ((hE.go hW hS.2.1).ad had).zE hI hAq, by rw [hU]; exact hP2⟩⟩ rfl (by rw [List.length_map]; exact hn) hlv.1 rfl (by simpa [JFrame.monitorRoom] using hcat) hd ⟨hkc, hks⟩
  intro T hT X
  obtain ⟨v, st₀, t, T', L, e0, X', hL, e1, e2, ⟨⟨r, M1, hv, hq, hp⟩, hz, hkk⟩, hst⟩ := run T hT X
  obtain ⟨rfl, hq⟩ := hq
  cases hv
  rw [e0] at hz hkk
  have hS1 : va_S A s.heap T'.heap (locs ++ L) := ⟨Nat.le_trans hS.1 (by rw [e1]; exact hz), fun z h1 h2 => by rw [e1, hkk z (Nat.lt_of_lt_of_le h1 hS.1) (fun y => h2 (hAq z y))]; exact hS.2.1 z h1 h2, fun z hz => by
      rcases List.mem_append.mp hz with h | h
      · exact hS.2.2 z h
      · exact hAq _ (hL z h)⟩
  obtain ⟨t2, a1, b1⟩ := k M1 hq p e s mid args below meth c T'.heap (locs ++ L) ls ⟨hx, hb, hr, hk, hml, hown, hts, hi, hE, hA, by rw [e1]; exact hp, zws_D2 hI hAq, hS1, hlv⟩ T' rfl X'
  exact ⟨t2, hst t2 a1, b1⟩
end CT2
