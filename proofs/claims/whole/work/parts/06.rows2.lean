/-! MORE ROWS: an index as a number; conditions on booleans; copies; and the normal form of ints: iv z -/
def iv (z : Int) : Int32 := Int32.ofInt z
def zcpy (M : zM) (o0 o1 n : Nat) : zM := fun a j => if a = o1 ∧ j < n then M o0 j else M a j
/-- a moment stands at p -/
def zMo (sh : List zSh) (p : Nat) : Prop := sh[p]? = some (3, 2, [some (p + 1), some (p + 2), some (p + 3), some (p + 4), some (p + 5), none, none, none]) ∧ sh[(p + 1)]? = some (0, 64, []) ∧ sh[(p + 2)]? = some (0, 64, []) ∧ sh[(p + 3)]? = some (0, 6, []) ∧ sh[(p + 4)]? = some (0, 6, []) ∧ sh[(p + 5)]? = some (0, 6, [])
theorem iv_toInt {z : Int} (h1 : -2147483648 ≤ z) (h2 : z < 2147483648) : (iv z).toInt = z := by
  rw [iv, Int32.toInt_ofInt]
  have : z.bmod (2 ^ 32) = z := by
    rw [Int.bmod_def]
    omega
  exact this
theorem iv_idx {k n : Nat} (h : k < n) (hn : n < 2 ^ 31) : vp_in (iv k) n ∧ (iv k).toNatClampNeg = k := by
  have e : (iv k).toInt = k := iv_toInt (by omega) (by omega)
  refine ⟨vp_in_iff.mpr ⟨by rw [e]; omega, by rw [e]; omega⟩, ?_⟩
  rw [show (iv k).toNatClampNeg = (iv k).toInt.toNat from rfl, e]
  rfl
section R2
variable {sh : List zSh} {g : zG} {d : Nat} {m : zMi} {Q : Option Value → zM → Prop} {pc : Nat} {lv : List (Nat × Value)} {st : List Value} {M : zM}
theorem z_mem (M1 : zM) (h : M1 = M) (k : zW sh g d m Q pc lv st M1) : zW sh g d m Q pc lv st M := h ▸ k
theorem z_topl {x : Int64} (y : Int64) (h : y = x) (k : zW sh g d m Q pc lv (.long y :: st) M) : zW sh g d m Q pc lv (.long x :: st) M := h ▸ k
theorem z_ifb_eq {b : Bool} {off : Int} (tgt : Nat) (hd : decode m.2.1 pc = .ok (.ifCond .eq off, 3)) (ht : (pc : Int) + off = (tgt : Int)) (k1 : b = false → zW sh g d m Q tgt lv st M) (k2 : b = true → zW sh g d m Q (pc + 3) lv st M) : zW sh g d m Q pc lv (.int (zbI b) :: st) M := by
  refine z_if_eq tgt hd ht (fun c => k1 ?_) (fun c => k2 ?_)
  · cases b
    · rfl
    · exact absurd c (by decide)
  · cases b
    · exact absurd rfl c
    · rfl
theorem z_ifb_ne {b : Bool} {off : Int} (tgt : Nat) (hd : decode m.2.1 pc = .ok (.ifCond .ne off, 3)) (ht : (pc : Int) + off = (tgt : Int)) (k1 : b = true → zW sh g d m Q tgt lv st M) (k2 : b = false → zW sh g d m Q (pc + 3) lv st M) : zW sh g d m Q pc lv (.int (zbI b) :: st) M := by
  refine z_if_ne tgt hd ht (fun c => k1 ?_) (fun c => k2 ?_)
  · cases b
    · exact absurd rfl c
    · rfl
  · cases b
    · rfl
    · exact absurd c (by decide)
theorem z_iald2 {o n k0 : Nat} {l : List (Option Nat)} {i : Int32} (hs : sh[o]? = some (0, n, l)) (hn : n < 2 ^ 31) (hi : i = iv k0) (hk : k0 < n) (hd : decode m.2.1 pc = .ok (.iaload, 1)) (k : zW sh g d m Q (pc + 1) lv (.int (M o k0) :: st) M) : zW sh g d m Q pc lv (.int i :: .ref o :: st) M := by
  subst hi
  refine z_iald hs (iv_idx hk hn).1 hd ?_
  rw [(iv_idx hk hn).2]
  exact k
theorem z_zald2 {o n k0 : Nat} {l : List (Option Nat)} {i : Int32} (hs : sh[o]? = some (1, n, l)) (hn : n < 2 ^ 31) (hi : i = iv k0) (hk : k0 < n) (hd : decode m.2.1 pc = .ok (.baload, 1)) (k : zW sh g d m Q (pc + 1) lv (.int (M o k0) :: st) M) : zW sh g d m Q pc lv (.int i :: .ref o :: st) M := by
  subst hi
  refine z_zald hs (iv_idx hk hn).1 hd ?_
  rw [(iv_idx hk hn).2]
  exact k
theorem z_aald2 {o n k0 : Nat} {l : List (Option Nat)} {i : Int32} (hs : sh[o]? = some (2, n, l)) (hn : n < 2 ^ 31) (hi : i = iv k0) (hk : k0 < n) (hd : decode m.2.1 pc = .ok (.aaload, 1)) (k : zW sh g d m Q (pc + 1) lv (.ref (M o k0).toNatClampNeg :: st) M) : zW sh g d m Q pc lv (.int i :: .ref o :: st) M := by
  subst hi
  refine z_aald hs (iv_idx hk hn).1 hd ?_
  rw [(iv_idx hk hn).2]
  exact k
theorem z_stald2 {q k0 : Nat} {i : Int32} (hq : q < 2) (hi : i = iv k0) (hk : k0 < 4) (hd : decode m.2.1 pc = .ok (.iaload, 1)) (k : zW sh g d m Q (pc + 1) lv (.int (zSt q k0) :: st) M) : zW sh g d m Q pc lv (.int i :: .ref (3000 + q) :: st) M := by
  subst hi
  refine z_stald hq (iv_idx hk (by decide)).1 hd ?_
  rw [(iv_idx hk (by decide)).2]
  exact k
theorem z_iast2 {o n k0 : Nat} {l : List (Option Nat)} {i x : Int32} (hs : sh[o]? = some (0, n, l)) (hn : n < 2 ^ 31) (hi : i = iv k0) (hk : k0 < n) (hd : decode m.2.1 pc = .ok (.iastore, 1)) (k : zW sh g d m Q (pc + 1) lv st (zup M o k0 x)) : zW sh g d m Q pc lv (.int x :: .int i :: .ref o :: st) M := by
  subst hi
  refine z_iast hs (iv_idx hk hn).1 hd ?_
  rw [(iv_idx hk hn).2]
  exact k
theorem z_zast2 {o n k0 : Nat} {l : List (Option Nat)} {i : Int32} {b : Bool} (hs : sh[o]? = some (1, n, l)) (hn : n < 2 ^ 31) (hi : i = iv k0) (hk : k0 < n) (hd : decode m.2.1 pc = .ok (.bastore, 1)) (k : zW sh g d m Q (pc + 1) lv st (zup M o k0 (zbI b))) : zW sh g d m Q pc lv (.int (zbI b) :: .int i :: .ref o :: st) M := by
  subst hi
  refine z_zast hs (iv_idx hk hn).1 hd ?_
  rw [(iv_idx hk hn).2]
  exact k
theorem z_aast2 {o n v k0 : Nat} {l fs : List (Option Nat)} {i : Int32} (hs : sh[o]? = some (2, n, l)) (hv : sh[v]? = some (3, 2, fs)) (hv2 : v < 2 ^ 31) (hn : n < 2 ^ 31) (hi : i = iv k0) (hk : k0 < n) (hd : decode m.2.1 pc = .ok (.aastore, 1)) (k : zW sh g d m Q (pc + 1) lv st (zup M o k0 (iv v))) : zW sh g d m Q pc lv (.ref v :: .int i :: .ref o :: st) M := by
  subst hi
  refine z_aast hs hv hv2 (iv_idx hk hn).1 hd ?_
  rw [(iv_idx hk hn).2]
  exact k
theorem z_cpy {o0 o1 n0 n1 idx k0 : Nat} {l0 l1 : List (Option Nat)} {n : Int32} (hs0 : sh[o0]? = some (0, n0, l0)) (hs1 : sh[o1]? = some (0, n1, l1)) (hl : Cond.methodLink m.1.cls idx arraycopyName ∈ zTb) (hi : n = iv k0) (h4 : k0 ≤ n0) (h5 : k0 ≤ n1) (hn0 : n0 < 2 ^ 31) (hn1 : n1 < 2 ^ 31) (hcat : (st.map fun v => v.category).sum ≤ 8) (hd : decode m.2.1 pc = .ok (.invokestatic idx, 3))
    (k : zW sh g (d + 1) m Q (pc + 3) lv st (zcpy M o0 o1 k0)) : zW sh g (d + 1) m Q pc lv (.int n :: .int 0 :: .ref o1 :: .int 0 :: .ref o0 :: st) M := by
  subst hi
  have e : (iv k0).toInt = k0 := iv_toInt (by omega) (by omega)
  have e2 : (iv k0).toNatClampNeg = k0 := by
    rw [show (iv k0).toNatClampNeg = (iv k0).toInt.toNat from rfl, e]
    rfl
  have z0 : (0 : Int32).toNatClampNeg = 0 := by decide
  refine z_copy hs0 hs1 hl (by decide) (by decide) (by rw [Int32.lt_iff_toInt_lt, e, Int32.toInt_zero]; omega) (by rw [e2, z0]; omega) (by rw [e2, z0]; omega) hcat hd ?_
  rw [e2, z0]
  have e3 : (fun a j => if a = o1 then va_cpy (M o0) (M o1) 0 0 k0 j else M a j) = zcpy M o0 o1 k0 := by
    funext a j
    by_cases ha : a = o1
    · subst ha
      by_cases hj : j < k0
      · simp [zcpy, va_cpy, hj]
      · simp [zcpy, va_cpy, hj]
    · simp [zcpy, ha]
  rw [e3]
  exact k
end R2
theorem z_strald2 {sh : List zSh} {g : zG} {d : Nat} {m : zMi} {Q : Option Value → zM → Prop} {pc : Nat} {lv : List (Nat × Value)} {st : List Value} {M : zM} {q k0 : Nat} {i : Int32} (hq : q < 23) (hi : i = iv k0) (hk : k0 < zLen.getD q 0) (hd : decode m.2.1 pc = .ok (.baload, 1)) (k : zW sh g d m Q (pc + 1) lv (.int ((zBy.getD q []).getD k0 0) :: st) M) : zW sh g d m Q pc lv (.int i :: .ref (8192 + q) :: st) M := by
  subst hi
  have hn : zLen.getD q 0 < 2 ^ 31 := by
    have : ∀ q, q < 23 → zLen.getD q 0 < 2 ^ 31 := by decide +kernel
    exact this q hq
  refine z_strald hq (iv_idx hk hn).1 hd ?_
  rw [(iv_idx hk hn).2]
  exact k
theorem z_getsF {sh : List zSh} {g : zG} {d : Nat} {m : zMi} {Q : Option Value → zM → Prop} {pc : Nat} {lv : List (Nat × Value)} {st : List Value} {M : zM} {idx : Nat} (hc : Cond.fieldLink m.1.cls idx "jdk/internal/util/Preconditions" "SIOOBE_FORMATTER" "Ljava/util/function/BiFunction;" ∈ zTb) (hd : decode m.2.1 pc = .ok (.getstatic idx, 3)) (k : ∀ v, (v = Value.null ∨ v = .ref 3002) → zW sh g d m Q (pc + 3) lv (v :: st) M) : zW sh g d m Q pc lv st M := by
  intro p e s mid args below meth c H locs ls h
  obtain ⟨v, h1, h2⟩ := h.2.2.2.2.2.2.2.1.2.2.2.2.2.2.2.2.2.2
  exact va_gets h.1 h.2.1 h2 h.2.2.2.2.2.2.2.2.2.1 h.2.2.2.2.2.1 (h.2.2.2.2.2.2.1 _ hc) (fun _ z => z) hd (k v h1 p e s mid args below meth c H locs ls h)
