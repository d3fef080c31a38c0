/-! WHAT HOLDS AT THE LAW'S ENTRY -/
theorem k_eqr {args : Array Value} {s : State} {t1 t2 : Term} {a : Nat} (h : (Cond.eq t1 t2).before args s = true) (h1 : t1.eval args s none [] s = some (.ref a)) : t2.eval args s none [] s = some (.ref a) := by
  cases hv : t2.eval args s none [] s with
  | none => simp [Cond.before, Cond.holds, Cond.value, hv, h1] at h
  | some w =>
    simp only [Cond.before, Cond.holds, Cond.value, hv, h1] at h
    cases w <;> simp_all
theorem k_S {args : Array Value} {s : State} {N : Nat} {tm : Nat → Term} {len : List Nat} {byt : List (List Int32)} {A : Nat → Prop} (hN : ∀ i : Nat, i < N → len.getD i 0 < 2 ^ 31) (hex : ∀ i : Nat, i < N → (Cond.exactly (tm i) "java/lang/String").before args s = true) (hco : ∀ i : Nat, i < N → (Cond.eq (.field (tm i) "java/lang/String" "coder" "B") (.int 0)).before args s = true)
    (har : ∀ i : Nat, i < N → (Cond.arrayOf (.field (tm i) "java/lang/String" "value" "[B") .byte).before args s = true) (hle : ∀ i : Nat, i < N → (Cond.eq (.length (.field (tm i) "java/lang/String" "value" "[B")) (.int (Int32.ofNat (len.getD i 0)))).before args s = true)
    (hel : ∀ i : Nat, i < N → ∀ j : Nat, j < len.getD i 0 → (Cond.eq (.elem (.field (tm i) "java/lang/String" "value" "[B") (.int (Int32.ofNat j))) (.int ((byt.getD i []).getD j 0))).before args s = true)
    (hdi : ∀ i : Nat, i < N → ∀ j : Nat, j < N → len.getD i 0 = len.getD j 0 → (∀ k : Nat, k < len.getD i 0 → (byt.getD i []).getD k 0 = (byt.getD j []).getD k 0) → i = j) (hA : ∀ a : Nat, a < s.heap.size → ¬ A a) :
    ∃ adK adV : Nat → Nat, vk_S N len byt adK adV A s s.heap ∧ ∀ i : Nat, i < N → (tm i).eval args s none [] s = some (.ref (adK i)) := by
  have h0 : ∀ i : Nat, ∃ q : Nat × Nat, i < N → (tm i).eval args s none [] s = some (.ref q.1) ∧ va_O "java/lang/String" q.1 A s s.heap ∧ va_OF "java/lang/String" "coder" "B" (.int 0) q.1 A s s.heap ∧ va_OF "java/lang/String" "value" "[B" (.ref q.2) q.1 A s s.heap ∧ va_T .byte q.2 (len.getD i 0) (fun j => .int ((byt.getD i []).getD j 0)) A s s.heap := by
    intro i
    by_cases hi : i < N
    · obtain ⟨a, c, cA, kA, q1, q2, q3, q4, q5, q6, -⟩ := Cond.exactly_spec (args := args) (first := s) (o := none) (s := s) (idx := []) (t := tm i) (cls := "java/lang/String") (hex i hi)
      obtain ⟨t, ht, hT⟩ := va_Tof (f := fun j => .int ((byt.getD i []).getD j 0)) (A := A) (hN i hi) (har i hi) (va_eqt (hle i hi)) (fun j hj => va_eqt (hel i hi j hj)) hA
      exact ⟨(a, t), fun _ => ⟨q1, ⟨cA, q3, q5, by rw [q6]; exact q2, hA a (Array.getElem?_eq_some_iff.mp q3).1⟩, vk_OFof q1 (va_eqt (hco i hi)) hA, vk_OFof q1 ht hA, hT⟩⟩
    · exact ⟨(0, 0), fun h => absurd h hi⟩
  obtain ⟨ad, had⟩ := Classical.axiomOfChoice h0
  refine ⟨fun i => (ad i).1, fun i => (ad i).2, ⟨fun i hi => (had i hi).2, fun i j hi hj e => ?_⟩, fun i hi => (had i hi).1⟩
  obtain ⟨-, -, -, ⟨cf, k, i0, f, cell, v1, v2, v3, v4, v5, v6⟩, ⟨cT, t1, t2, t3, t4, t5, t6, t7⟩⟩ := had i hi
  obtain ⟨-, -, -, ⟨cf', k', i0', f', cell', w1, w2, w3, w4, w5, w6⟩, ⟨cT', u1, u2, u3, u4, u5, u6, u7⟩⟩ := had j hj
  have e' : (ad i).1 = (ad j).1 := e
  have ef := Option.some.inj (v1.symm.trans w1)
  have ef' : f = f' := (Prod.mk.inj (Prod.mk.inj (Prod.mk.inj ef).2).2).2
  rw [e'] at v3
  have ec : cell = cell' := Option.some.inj (v3.symm.trans w3)
  rw [ec, ef'] at v5
  have ev : (ad i).2 = (ad j).2 := Value.ref.inj (Option.some.inj (v5.symm.trans w5))
  rw [ev] at t1
  have eT : cT = cT' := Option.some.inj (t1.symm.trans u1)
  rw [eT] at t5 t6
  have el : len.getD i 0 = len.getD j 0 := (nI_eq (hN i hi) (hN j hj)).mp (t5.symm.trans u5)
  refine hdi i hi j hj el (fun m hm => ?_)
  have h1 := t6 m hm
  have h2 := u6 m (by rw [← el]; exact hm)
  exact Value.int.inj (Option.some.inj (h1.symm.trans h2))
def kTm (i : Nat) : Term := match zLits[i]? with
  | some q => .string q.1 q.2.1
  | none => .int 0
def kFl : List Cond := flatC (Jvm.Cond.and given_1 narrow_1)
theorem kF_ex : ∀ i, i < 23 → Cond.exactly (kTm i) "java/lang/String" ∈ kFl := by decide +kernel
theorem kF_co : ∀ i, i < 23 → Cond.eq (.field (kTm i) "java/lang/String" "coder" "B") (.int 0) ∈ kFl := by decide +kernel
theorem kF_ar : ∀ i, i < 23 → Cond.arrayOf (.field (kTm i) "java/lang/String" "value" "[B") .byte ∈ kFl := by decide +kernel
theorem kF_le : ∀ i, i < 23 → Cond.eq (.length (.field (kTm i) "java/lang/String" "value" "[B")) (.int (Int32.ofNat (zLen.getD i 0))) ∈ kFl := by decide +kernel
theorem kF_el : ∀ i, i < 23 → ∀ j, j < zLen.getD i 0 → Cond.eq (.elem (.field (kTm i) "java/lang/String" "value" "[B") (.int (Int32.ofNat j))) (.int ((zBy.getD i []).getD j 0)) ∈ kFl := by decide +kernel
theorem kF_n : ∀ i, i < 23 → zLen.getD i 0 < 2 ^ 31 := by decide +kernel
theorem kF_di : ∀ i, i < 23 → ∀ j, j < 23 → zLen.getD i 0 = zLen.getD j 0 → (∀ k, k < zLen.getD i 0 → (zBy.getD i []).getD k 0 = (zBy.getD j []).getD k 0) → i = j := by decide +kernel
theorem kF_sr : ∀ q ∈ zLits, Cond.stringRef q.1 q.2.1 q.2.2.1 ∈ lw_tbl := by decide +kernel
theorem kF_eq : ∀ q ∈ zLits, q.2.2.2 < 23 ∧ (kTm q.2.2.2 = .string q.1 q.2.1 ∨ Cond.eq (kTm q.2.2.2) (.string q.1 q.2.1) ∈ kFl) := by decide +kernel
def kSf (i : Nat) : String := if i = 0 then "STEP_X" else "STEP_Y"
theorem kF_sa : ∀ i, i < 2 → Cond.arrayOf (.static "LeftSkate" (kSf i) "[I") .int ∈ kFl ∧ Cond.eq (.length (.static "LeftSkate" (kSf i) "[I")) (.int (Int32.ofNat 4)) ∈ kFl ∧ ∀ j, j < 4 → Cond.eq (.elem (.static "LeftSkate" (kSf i) "[I") (.int (Int32.ofNat j))) (.int (zSt i j)) ∈ kFl := by decide +kernel
theorem kF_sl : ∀ i, i < 2 → Cond.laysStatic "LeftSkate" (kSf i) "[I" ∈ lw_tbl := by decide +kernel
theorem kF_nm : (∀ q ∈ zNM, Cond.methodLinkNest q.1 q.2.1 q.2.2.1 q.2.2.2 ∈ lw_tbl) ∧ (∀ q ∈ zNF, Cond.fieldLinkNest q.1 q.2.1 q.2.2.1 q.2.2.2.1 q.2.2.2.2.1 q.2.2.2.2.2 ∈ lw_tbl) ∧ ∀ q ∈ nNI, Cond.methodLinkNest q.1 q.2.1 q.2.2.1 q.2.2.2 ∈ lw_tbl := by decide +kernel
theorem kF_in : ∀ q ∈ vwCl, Cond.instantiable q.1 q.2.2 ∈ lw_tbl := by decide +kernel
theorem kF_ws : ∀ q ∈ vwCl, ∀ w ∈ u_ws q.1 q.2.1 q.2.2, w ∈ lw_tbl := by decide +kernel
theorem k_arr {args : Array Value} {s : State} {ty : FieldType} (hty : ∀ C, ty ≠ .object C) (h : (Cond.arrayClass ty).before args s = true) : ∃ cA : ClassId, ArrOfT s cA ty ∧ va_RA s cA ty := by
  obtain ⟨cA, kA, comp, h1, h2, h3⟩ := Cond.arrayClass_spec h
  refine ⟨cA, fun n z => ⟨fun k h => (by cases h), kA, h2, comp, h3⟩, ?_⟩
  cases ty with
  | object C => exact absurd rfl (hty C)
  | _ => exact h1
theorem k_arrq {args : Array Value} {s : State} {C : String} (h : (Cond.arrayOver (.object C)).before args s = true) : ∃ cA : ClassId, ArrOfT s cA (.object C) ∧ va_RA s cA (.object C) := by
  obtain ⟨comp, c, k, h1, h2, h3, h4, h5⟩ := Cond.arrayOver_spec h
  exact ⟨c, fun n z => ⟨fun k h => (by cases h), k, h3, comp, h4⟩, k, comp, h3, h4, h1, h5⟩
theorem zF_start {args : Array Value} {s : State} (hts : ∀ w ∈ lw_tbl, w.before args s = true) (hgv : (Jvm.Cond.and given_1 narrow_1).before args s = true) (l : Launch) : ∃ (bs : Nat → Nat) (D : va_G) (cI cB cQ : ClassId), zF (fun q => s.heap.size ≤ q) (l, bs, D, cI, cB, cQ) s s.heap := by
  have hs : ∀ w ∈ kFl, w.before args s = true := flat_of_before _ hgv
  have hA : ∀ a : Nat, a < s.heap.size → ¬ (fun q : Nat => s.heap.size ≤ q) a := fun a h => Nat.not_le.mpr h
  obtain ⟨adK, adV, hS, hev⟩ := k_S (args := args) (s := s) (tm := kTm) kF_n (fun i hi => hs _ (kF_ex i hi)) (fun i hi => hs _ (kF_co i hi)) (fun i hi => hs _ (kF_ar i hi)) (fun i hi => hs _ (kF_le i hi)) (fun i hi j hj => hs _ (kF_el i hi j hj)) kF_di hA
  have hT : ∀ i, i < 2 → ∃ t : Nat, (Term.static "LeftSkate" (kSf i) "[I").eval args s none [] s = some (.ref t) ∧ va_T .int t 4 (fun j => .int (zSt i j)) (fun q => s.heap.size ≤ q) s s.heap := fun i hi => va_Tof (by decide) (hs _ (kF_sa i hi).1) (va_eqt (hs _ (kF_sa i hi).2.1)) (fun j hj => va_eqt (hs _ ((kF_sa i hi).2.2 j hj))) hA
  obtain ⟨t0, e0, T0⟩ := hT 0 (by decide)
  obtain ⟨t1, e1, T1⟩ := hT 1 (by decide)
  have hZq : va_Zq "jdk/internal/util/Preconditions" "SIOOBE_FORMATTER" "Ljava/util/function/BiFunction;" (fun q => s.heap.size ≤ q) s s.heap := va_Zqof (hts _ (by decide +kernel)) (hts _ (by decide +kernel)) (hs _ (by decide +kernel)) hA
  obtain ⟨t2, hZ2⟩ : ∃ t2 : Nat, ∃ v, (v = Value.null ∨ v = .ref t2) ∧ va_Z "jdk/internal/util/Preconditions" "SIOOBE_FORMATTER" "Ljava/util/function/BiFunction;" v (fun q => s.heap.size ≤ q) s s.heap := by
    rcases hZq with h | ⟨t, h⟩
    · exact ⟨0, _, Or.inl rfl, h⟩
    · exact ⟨t, _, Or.inr rfl, h⟩
  obtain ⟨cI, hI⟩ := k_arr (ty := .int) (fun C h => by cases h) (hts (.arrayClass .int) (by decide +kernel))
  obtain ⟨cB, hB⟩ := k_arr (ty := .boolean) (fun C h => by cases h) (hts (.arrayClass .boolean) (by decide +kernel))
  obtain ⟨cQ, hQ⟩ := k_arrq (hts (.arrayOver (.object "LeftSkate$Moment")) (by decide +kernel))
  have hK0 : ∀ k : Nat, ∃ D : ClassId × (Nat → Nat), ∀ q : vw_C, vwCl[k]? = some q → u_Kn s q.1 q.2.1 q.2.2 D.1 D.2 := by
    intro k
    cases hq : vwCl[k]? with
    | none => exact ⟨(0, fun _ => 0), fun q h => by cases h⟩
    | some q =>
      have hm := List.mem_of_getElem? hq
      obtain ⟨c0, i0, h0⟩ := u_known (C := q.1) (T := q.2.1) (N := q.2.2) hts (kF_ws q hm) (hts _ (kF_in q hm))
      exact ⟨(c0, i0), fun q' h => by cases h; exact h0⟩
  obtain ⟨DD, hDD⟩ := Classical.axiomOfChoice hK0
  refine ⟨fun k => if k = 3000 then t0 else if k = 3001 then t1 else if k = 3002 then t2 else if k < 8192 then adK (k - 4096) else adV (k - 8192), (fun k => (DD k).1, fun k => (DD k).2), cI, cB, cQ, ?_⟩
  have eK : ∀ i, i < 23 → (if 4096 + i = 3000 then t0 else if 4096 + i = 3001 then t1 else if 4096 + i = 3002 then t2 else if 4096 + i < 8192 then adK (4096 + i - 4096) else adV (4096 + i - 8192)) = adK i := by
    intro i hi
    rw [if_neg (by omega), if_neg (by omega), if_neg (by omega), if_pos (by omega)]
    exact congrArg adK (by omega)
  have eV : ∀ i, (if 8192 + i = 3000 then t0 else if 8192 + i = 3001 then t1 else if 8192 + i = 3002 then t2 else if 8192 + i < 8192 then adK (8192 + i - 4096) else adV (8192 + i - 8192)) = adV i := by
    intro i
    rw [if_neg (by omega), if_neg (by omega), if_neg (by omega), if_neg (by omega)]
    exact congrArg adV (by omega)
  refine ⟨⟨fun k q hq => hDD k q hq, fun k q hq => ?_⟩, ⟨fun i hi => ?_, fun i j hi hj e => ?_⟩, fun q hq => ?_, ?_, ?_, ?_, fun i hi => ?_, fun q hq => va_Nw.of rfl (hts _ (kF_nm.1 q hq)), fun q hq => va_Nw.of rfl (hts _ (kF_nm.2.1 q hq)), ?_, fun q hq => va_Nw.of rfl (hts _ (kF_nm.2.2 q hq)), va_AO.of (hts (.arrayOver (.object "LeftSkate$Moment")) (by decide +kernel))⟩
  · rcases (show k = 0 ∨ k = 1 ∨ k = 2 ∨ 3 ≤ k by omega) with rfl | rfl | rfl | h3
    · cases hq
      exact hI
    · cases hq
      exact hB
    · cases hq
      exact hQ
    · have hz : k < 3 := (List.getElem?_eq_some_iff.mp hq).1
      omega
  · have h1 := hS.1 i hi
    show va_O _ (if 4096 + i = 3000 then t0 else _) _ _ _ ∧ va_OF _ _ _ _ (if 4096 + i = 3000 then t0 else _) _ _ _ ∧ va_OF _ _ _ (.ref (if 8192 + i = 3000 then t0 else _)) (if 4096 + i = 3000 then t0 else _) _ _ _ ∧ va_T _ (if 8192 + i = 3000 then t0 else _) _ _ _ _ _
    rw [eK i hi, eV i]
    exact h1
  · refine hS.2 i j hi hj ?_
    have e' : (if 4096 + i = 3000 then t0 else if 4096 + i = 3001 then t1 else if 4096 + i = 3002 then t2 else if 4096 + i < 8192 then adK (4096 + i - 4096) else adV (4096 + i - 8192)) = (if 4096 + j = 3000 then t0 else if 4096 + j = 3001 then t1 else if 4096 + j = 3002 then t2 else if 4096 + j < 8192 then adK (4096 + j - 4096) else adV (4096 + j - 8192)) := e
    rw [eK i hi, eK j hj] at e'
    exact e'
  · obtain ⟨hlt, hc⟩ := kF_eq q hq
    refine vk_R.of (A := args) (hts _ (kF_sr q hq)) ?_
    show (Term.string q.1 q.2.1).eval args s none [] s = some (.ref (if 4096 + q.2.2.2 = 3000 then t0 else _))
    rw [eK _ hlt]
    have hv := hev _ hlt
    rcases hc with hc | hc
    · rw [hc] at hv
      exact hv
    · exact k_eqr (hs _ hc) hv
  · exact va_Zof (hts _ (by decide +kernel)) (hts _ (by decide +kernel)) (va_eqi (hs _ (by decide +kernel))) hA
  · exact va_Zof (hts _ (kF_sl 0 (by decide))) (hts _ (by decide +kernel)) e0 hA
  · exact va_Zof (hts _ (kF_sl 1 (by decide))) (hts _ (by decide +kernel)) e1 hA
  · rcases (show i = 0 ∨ i = 1 by omega) with rfl | rfl
    · exact T0
    · exact T1
  · obtain ⟨v, hv, hZ⟩ := hZ2
    rcases hv with rfl | rfl
    · exact ⟨.null, Or.inl rfl, hZ⟩
    · exact ⟨.ref 3002, Or.inr rfl, hZ⟩
