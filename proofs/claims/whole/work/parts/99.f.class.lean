/-! THE WORLD OF THE CLASS, OUT OF ITS PIECES: by program -/
def nMC : zM := fun k => if k = 1 ∨ k = 28 then nMW 0 else if k = 98 then (fun j => if j = 7 then -1 else 0) else if k = 61 then (fun j => iv (62 + 6 * j : Nat)) else fun _ => 0
theorem zwA_app {g : zG} {M : zM} : ∀ (a b : List zSh) (o : Nat), zwA g M o (a ++ b) = zwA g M o a ++ zwA g M (o + a.length) b := by
  intro a
  induction a with
  | nil => intro b o; rfl
  | cons s t ih =>
    intro b o
    simp only [List.cons_append, zwA, List.length_cons]
    rw [ih b (o + 1), show o + 1 + t.length = o + (t.length + 1) by omega]
theorem nMC_0 {k : Nat} (h : k ≠ 1 ∧ k ≠ 28 ∧ k ≠ 98 ∧ k ≠ 61) : nMC k = fun _ => 0 := by
  unfold nMC
  rw [if_neg (by omega), if_neg (by omega), if_neg (by omega)]
theorem nMC_w {k : Nat} (o : Nat) (ho : o = 1 ∨ o = 28) (h : k < 27) : nMC (o + k) = nMW k := by
  by_cases hk : k = 0
  · subst hk
    exact if_pos (by omega)
  · rw [nMW_s hk]
    exact nMC_0 (by omega)
theorem nMC_t {k : Nat} (h : k < 2) : nMC (98 + k) = (fun k => if k = 0 then (fun j => if j = 7 then -1 else 0) else fun _ => 0 : zM) k := by
  by_cases hk : k = 0
  · subst hk
    rfl
  · show _ = if k = 0 then _ else _
    rw [if_neg hk]
    exact nMC_0 (by omega)
def nAC (g : zG) (h0 : Nat) (a1 : Nat → Nat) (a2 : Nat → Nat) (a3 : Nat → Nat) (q4 : Nat) (b0 : Nat → Nat) (b1 : Nat → Nat) (b2 : Nat → Nat) (b3 : Nat → Nat) (b4 : Nat → Nat) (b5 : Nat → Nat) (a5 : Nat → Nat) (a6 : Nat → Nat) (a7 : Nat → Nat) (a8 : Nat → Nat) (a9 : Nat → Nat) (a10 : Nat → Nat) (q11 : Nat) : Nat → Nat := (nGl 1 (fun _ => h0) (nGl 27 a1 (nGl 27 a2 (nGl 6 a3 (nGl 1 (fun _ => q4) (nGl 6 b0 (nGl 6 b1 (nGl 6 b2 (nGl 6 b3 (nGl 6 b4 (nGl 6 b5 (nGl 2 a5 (nGl 5 a6 (nGl 7 a7 (nGl 4 a8 (nGl 7 a9 (nGl 5 a10 (nGl 1 (fun _ => q11) (fun j => zad g (129 + j))))))))))))))))))))
theorem nAC_hi {g : zG} (h0 : Nat) (a1 : Nat → Nat) (a2 : Nat → Nat) (a3 : Nat → Nat) (q4 : Nat) (b0 : Nat → Nat) (b1 : Nat → Nat) (b2 : Nat → Nat) (b3 : Nat → Nat) (b4 : Nat → Nat) (b5 : Nat → Nat) (a5 : Nat → Nat) (a6 : Nat → Nat) (a7 : Nat → Nat) (a8 : Nat → Nat) (a9 : Nat → Nat) (a10 : Nat → Nat) (q11 : Nat) {k : Nat} (hk : 3000 ≤ k) : nAC g h0 a1 a2 a3 q4 b0 b1 b2 b3 b4 b5 a5 a6 a7 a8 a9 a10 q11 k = zad g k := by
  unfold nAC
  rw [nGl_ge (by omega), nGl_ge (by omega), nGl_ge (by omega), nGl_ge (by omega), nGl_ge (by omega), nGl_ge (by omega), nGl_ge (by omega), nGl_ge (by omega), nGl_ge (by omega), nGl_ge (by omega), nGl_ge (by omega), nGl_ge (by omega), nGl_ge (by omega), nGl_ge (by omega), nGl_ge (by omega), nGl_ge (by omega), nGl_ge (by omega), nGl_ge (by omega)]
  exact congrArg (zad g) (by omega)
theorem nAC_a1 {g : zG} (h0 : Nat) (a1 : Nat → Nat) (a2 : Nat → Nat) (a3 : Nat → Nat) (q4 : Nat) (b0 : Nat → Nat) (b1 : Nat → Nat) (b2 : Nat → Nat) (b3 : Nat → Nat) (b4 : Nat → Nat) (b5 : Nat → Nat) (a5 : Nat → Nat) (a6 : Nat → Nat) (a7 : Nat → Nat) (a8 : Nat → Nat) (a9 : Nat → Nat) (a10 : Nat → Nat) (q11 : Nat) : zwA (gA g (nAC g h0 a1 a2 a3 q4 b0 b1 b2 b3 b4 b5 a5 a6 a7 a8 a9 a10 q11)) nMC 1 (shS 1 shX7) = zws shX7 (gA g a1) nMW := by
  refine zws_seg shX7 a1 nMW (fun k hk => ?_) (fun k hk => ?_) (by decide +kernel)
  · have hk : k < 27 := hk
    show nAC g h0 a1 a2 a3 q4 b0 b1 b2 b3 b4 b5 a5 a6 a7 a8 a9 a10 q11 (1 + k) = _
    unfold nAC
    rw [nGl_ge (by omega), nGl_lo (by omega)]
    exact congrArg a1 (by omega)
  · have hk : k < 27 := hk
    exact nMC_w 1 (by omega) hk
theorem nAC_a2 {g : zG} (h0 : Nat) (a1 : Nat → Nat) (a2 : Nat → Nat) (a3 : Nat → Nat) (q4 : Nat) (b0 : Nat → Nat) (b1 : Nat → Nat) (b2 : Nat → Nat) (b3 : Nat → Nat) (b4 : Nat → Nat) (b5 : Nat → Nat) (a5 : Nat → Nat) (a6 : Nat → Nat) (a7 : Nat → Nat) (a8 : Nat → Nat) (a9 : Nat → Nat) (a10 : Nat → Nat) (q11 : Nat) : zwA (gA g (nAC g h0 a1 a2 a3 q4 b0 b1 b2 b3 b4 b5 a5 a6 a7 a8 a9 a10 q11)) nMC 28 (shS 28 shX7) = zws shX7 (gA g a2) nMW := by
  refine zws_seg shX7 a2 nMW (fun k hk => ?_) (fun k hk => ?_) (by decide +kernel)
  · have hk : k < 27 := hk
    show nAC g h0 a1 a2 a3 q4 b0 b1 b2 b3 b4 b5 a5 a6 a7 a8 a9 a10 q11 (28 + k) = _
    unfold nAC
    rw [nGl_ge (by omega), nGl_ge (by omega), nGl_lo (by omega)]
    exact congrArg a2 (by omega)
  · have hk : k < 27 := hk
    exact nMC_w 28 (by omega) hk
theorem nAC_a3 {g : zG} (h0 : Nat) (a1 : Nat → Nat) (a2 : Nat → Nat) (a3 : Nat → Nat) (q4 : Nat) (b0 : Nat → Nat) (b1 : Nat → Nat) (b2 : Nat → Nat) (b3 : Nat → Nat) (b4 : Nat → Nat) (b5 : Nat → Nat) (a5 : Nat → Nat) (a6 : Nat → Nat) (a7 : Nat → Nat) (a8 : Nat → Nat) (a9 : Nat → Nat) (a10 : Nat → Nat) (q11 : Nat) : zwA (gA g (nAC g h0 a1 a2 a3 q4 b0 b1 b2 b3 b4 b5 a5 a6 a7 a8 a9 a10 q11)) nMC 55 (shS 55 shX2) = zws shX2 (gA g a3) (fun _ _ => 0) := by
  refine zws_seg shX2 a3 (fun _ _ => 0) (fun k hk => ?_) (fun k hk => ?_) (by decide +kernel)
  · have hk : k < 6 := hk
    show nAC g h0 a1 a2 a3 q4 b0 b1 b2 b3 b4 b5 a5 a6 a7 a8 a9 a10 q11 (55 + k) = _
    unfold nAC
    rw [nGl_ge (by omega), nGl_ge (by omega), nGl_ge (by omega), nGl_lo (by omega)]
    exact congrArg a3 (by omega)
  · have hk : k < 6 := hk
    exact nMC_0 (by omega)
theorem nAC_b0 {g : zG} (h0 : Nat) (a1 : Nat → Nat) (a2 : Nat → Nat) (a3 : Nat → Nat) (q4 : Nat) (b0 : Nat → Nat) (b1 : Nat → Nat) (b2 : Nat → Nat) (b3 : Nat → Nat) (b4 : Nat → Nat) (b5 : Nat → Nat) (a5 : Nat → Nat) (a6 : Nat → Nat) (a7 : Nat → Nat) (a8 : Nat → Nat) (a9 : Nat → Nat) (a10 : Nat → Nat) (q11 : Nat) : zwA (gA g (nAC g h0 a1 a2 a3 q4 b0 b1 b2 b3 b4 b5 a5 a6 a7 a8 a9 a10 q11)) nMC 62 (shS 62 shX2) = zws shX2 (gA g b0) (fun _ _ => 0) := by
  refine zws_seg shX2 b0 (fun _ _ => 0) (fun k hk => ?_) (fun k hk => ?_) (by decide +kernel)
  · have hk : k < 6 := hk
    show nAC g h0 a1 a2 a3 q4 b0 b1 b2 b3 b4 b5 a5 a6 a7 a8 a9 a10 q11 (62 + k) = _
    unfold nAC
    rw [nGl_ge (by omega), nGl_ge (by omega), nGl_ge (by omega), nGl_ge (by omega), nGl_ge (by omega), nGl_lo (by omega)]
    exact congrArg b0 (by omega)
  · have hk : k < 6 := hk
    exact nMC_0 (by omega)
theorem nAC_b1 {g : zG} (h0 : Nat) (a1 : Nat → Nat) (a2 : Nat → Nat) (a3 : Nat → Nat) (q4 : Nat) (b0 : Nat → Nat) (b1 : Nat → Nat) (b2 : Nat → Nat) (b3 : Nat → Nat) (b4 : Nat → Nat) (b5 : Nat → Nat) (a5 : Nat → Nat) (a6 : Nat → Nat) (a7 : Nat → Nat) (a8 : Nat → Nat) (a9 : Nat → Nat) (a10 : Nat → Nat) (q11 : Nat) : zwA (gA g (nAC g h0 a1 a2 a3 q4 b0 b1 b2 b3 b4 b5 a5 a6 a7 a8 a9 a10 q11)) nMC 68 (shS 68 shX2) = zws shX2 (gA g b1) (fun _ _ => 0) := by
  refine zws_seg shX2 b1 (fun _ _ => 0) (fun k hk => ?_) (fun k hk => ?_) (by decide +kernel)
  · have hk : k < 6 := hk
    show nAC g h0 a1 a2 a3 q4 b0 b1 b2 b3 b4 b5 a5 a6 a7 a8 a9 a10 q11 (68 + k) = _
    unfold nAC
    rw [nGl_ge (by omega), nGl_ge (by omega), nGl_ge (by omega), nGl_ge (by omega), nGl_ge (by omega), nGl_ge (by omega), nGl_lo (by omega)]
    exact congrArg b1 (by omega)
  · have hk : k < 6 := hk
    exact nMC_0 (by omega)
theorem nAC_b2 {g : zG} (h0 : Nat) (a1 : Nat → Nat) (a2 : Nat → Nat) (a3 : Nat → Nat) (q4 : Nat) (b0 : Nat → Nat) (b1 : Nat → Nat) (b2 : Nat → Nat) (b3 : Nat → Nat) (b4 : Nat → Nat) (b5 : Nat → Nat) (a5 : Nat → Nat) (a6 : Nat → Nat) (a7 : Nat → Nat) (a8 : Nat → Nat) (a9 : Nat → Nat) (a10 : Nat → Nat) (q11 : Nat) : zwA (gA g (nAC g h0 a1 a2 a3 q4 b0 b1 b2 b3 b4 b5 a5 a6 a7 a8 a9 a10 q11)) nMC 74 (shS 74 shX2) = zws shX2 (gA g b2) (fun _ _ => 0) := by
  refine zws_seg shX2 b2 (fun _ _ => 0) (fun k hk => ?_) (fun k hk => ?_) (by decide +kernel)
  · have hk : k < 6 := hk
    show nAC g h0 a1 a2 a3 q4 b0 b1 b2 b3 b4 b5 a5 a6 a7 a8 a9 a10 q11 (74 + k) = _
    unfold nAC
    rw [nGl_ge (by omega), nGl_ge (by omega), nGl_ge (by omega), nGl_ge (by omega), nGl_ge (by omega), nGl_ge (by omega), nGl_ge (by omega), nGl_lo (by omega)]
    exact congrArg b2 (by omega)
  · have hk : k < 6 := hk
    exact nMC_0 (by omega)
theorem nAC_b3 {g : zG} (h0 : Nat) (a1 : Nat → Nat) (a2 : Nat → Nat) (a3 : Nat → Nat) (q4 : Nat) (b0 : Nat → Nat) (b1 : Nat → Nat) (b2 : Nat → Nat) (b3 : Nat → Nat) (b4 : Nat → Nat) (b5 : Nat → Nat) (a5 : Nat → Nat) (a6 : Nat → Nat) (a7 : Nat → Nat) (a8 : Nat → Nat) (a9 : Nat → Nat) (a10 : Nat → Nat) (q11 : Nat) : zwA (gA g (nAC g h0 a1 a2 a3 q4 b0 b1 b2 b3 b4 b5 a5 a6 a7 a8 a9 a10 q11)) nMC 80 (shS 80 shX2) = zws shX2 (gA g b3) (fun _ _ => 0) := by
  refine zws_seg shX2 b3 (fun _ _ => 0) (fun k hk => ?_) (fun k hk => ?_) (by decide +kernel)
  · have hk : k < 6 := hk
    show nAC g h0 a1 a2 a3 q4 b0 b1 b2 b3 b4 b5 a5 a6 a7 a8 a9 a10 q11 (80 + k) = _
    unfold nAC
    rw [nGl_ge (by omega), nGl_ge (by omega), nGl_ge (by omega), nGl_ge (by omega), nGl_ge (by omega), nGl_ge (by omega), nGl_ge (by omega), nGl_ge (by omega), nGl_lo (by omega)]
    exact congrArg b3 (by omega)
  · have hk : k < 6 := hk
    exact nMC_0 (by omega)
theorem nAC_b4 {g : zG} (h0 : Nat) (a1 : Nat → Nat) (a2 : Nat → Nat) (a3 : Nat → Nat) (q4 : Nat) (b0 : Nat → Nat) (b1 : Nat → Nat) (b2 : Nat → Nat) (b3 : Nat → Nat) (b4 : Nat → Nat) (b5 : Nat → Nat) (a5 : Nat → Nat) (a6 : Nat → Nat) (a7 : Nat → Nat) (a8 : Nat → Nat) (a9 : Nat → Nat) (a10 : Nat → Nat) (q11 : Nat) : zwA (gA g (nAC g h0 a1 a2 a3 q4 b0 b1 b2 b3 b4 b5 a5 a6 a7 a8 a9 a10 q11)) nMC 86 (shS 86 shX2) = zws shX2 (gA g b4) (fun _ _ => 0) := by
  refine zws_seg shX2 b4 (fun _ _ => 0) (fun k hk => ?_) (fun k hk => ?_) (by decide +kernel)
  · have hk : k < 6 := hk
    show nAC g h0 a1 a2 a3 q4 b0 b1 b2 b3 b4 b5 a5 a6 a7 a8 a9 a10 q11 (86 + k) = _
    unfold nAC
    rw [nGl_ge (by omega), nGl_ge (by omega), nGl_ge (by omega), nGl_ge (by omega), nGl_ge (by omega), nGl_ge (by omega), nGl_ge (by omega), nGl_ge (by omega), nGl_ge (by omega), nGl_lo (by omega)]
    exact congrArg b4 (by omega)
  · have hk : k < 6 := hk
    exact nMC_0 (by omega)
theorem nAC_b5 {g : zG} (h0 : Nat) (a1 : Nat → Nat) (a2 : Nat → Nat) (a3 : Nat → Nat) (q4 : Nat) (b0 : Nat → Nat) (b1 : Nat → Nat) (b2 : Nat → Nat) (b3 : Nat → Nat) (b4 : Nat → Nat) (b5 : Nat → Nat) (a5 : Nat → Nat) (a6 : Nat → Nat) (a7 : Nat → Nat) (a8 : Nat → Nat) (a9 : Nat → Nat) (a10 : Nat → Nat) (q11 : Nat) : zwA (gA g (nAC g h0 a1 a2 a3 q4 b0 b1 b2 b3 b4 b5 a5 a6 a7 a8 a9 a10 q11)) nMC 92 (shS 92 shX2) = zws shX2 (gA g b5) (fun _ _ => 0) := by
  refine zws_seg shX2 b5 (fun _ _ => 0) (fun k hk => ?_) (fun k hk => ?_) (by decide +kernel)
  · have hk : k < 6 := hk
    show nAC g h0 a1 a2 a3 q4 b0 b1 b2 b3 b4 b5 a5 a6 a7 a8 a9 a10 q11 (92 + k) = _
    unfold nAC
    rw [nGl_ge (by omega), nGl_ge (by omega), nGl_ge (by omega), nGl_ge (by omega), nGl_ge (by omega), nGl_ge (by omega), nGl_ge (by omega), nGl_ge (by omega), nGl_ge (by omega), nGl_ge (by omega), nGl_lo (by omega)]
    exact congrArg b5 (by omega)
  · have hk : k < 6 := hk
    exact nMC_0 (by omega)
theorem nAC_a5 {g : zG} (h0 : Nat) (a1 : Nat → Nat) (a2 : Nat → Nat) (a3 : Nat → Nat) (q4 : Nat) (b0 : Nat → Nat) (b1 : Nat → Nat) (b2 : Nat → Nat) (b3 : Nat → Nat) (b4 : Nat → Nat) (b5 : Nat → Nat) (a5 : Nat → Nat) (a6 : Nat → Nat) (a7 : Nat → Nat) (a8 : Nat → Nat) (a9 : Nat → Nat) (a10 : Nat → Nat) (q11 : Nat) : zwA (gA g (nAC g h0 a1 a2 a3 q4 b0 b1 b2 b3 b4 b5 a5 a6 a7 a8 a9 a10 q11)) nMC 98 (shS 98 shX5) = zws shX5 (gA g a5) (fun k => if k = 0 then (fun j => if j = 7 then -1 else 0) else fun _ => 0) := by
  refine zws_seg shX5 a5 (fun k => if k = 0 then (fun j => if j = 7 then -1 else 0) else fun _ => 0) (fun k hk => ?_) (fun k hk => ?_) (by decide +kernel)
  · have hk : k < 2 := hk
    show nAC g h0 a1 a2 a3 q4 b0 b1 b2 b3 b4 b5 a5 a6 a7 a8 a9 a10 q11 (98 + k) = _
    unfold nAC
    rw [nGl_ge (by omega), nGl_ge (by omega), nGl_ge (by omega), nGl_ge (by omega), nGl_ge (by omega), nGl_ge (by omega), nGl_ge (by omega), nGl_ge (by omega), nGl_ge (by omega), nGl_ge (by omega), nGl_ge (by omega), nGl_lo (by omega)]
    exact congrArg a5 (by omega)
  · have hk : k < 2 := hk
    exact nMC_t hk
theorem nAC_a6 {g : zG} (h0 : Nat) (a1 : Nat → Nat) (a2 : Nat → Nat) (a3 : Nat → Nat) (q4 : Nat) (b0 : Nat → Nat) (b1 : Nat → Nat) (b2 : Nat → Nat) (b3 : Nat → Nat) (b4 : Nat → Nat) (b5 : Nat → Nat) (a5 : Nat → Nat) (a6 : Nat → Nat) (a7 : Nat → Nat) (a8 : Nat → Nat) (a9 : Nat → Nat) (a10 : Nat → Nat) (q11 : Nat) : zwA (gA g (nAC g h0 a1 a2 a3 q4 b0 b1 b2 b3 b4 b5 a5 a6 a7 a8 a9 a10 q11)) nMC 100 (shS 100 shX6) = zws shX6 (gA g a6) (fun _ _ => 0) := by
  refine zws_seg shX6 a6 (fun _ _ => 0) (fun k hk => ?_) (fun k hk => ?_) (by decide +kernel)
  · have hk : k < 5 := hk
    show nAC g h0 a1 a2 a3 q4 b0 b1 b2 b3 b4 b5 a5 a6 a7 a8 a9 a10 q11 (100 + k) = _
    unfold nAC
    rw [nGl_ge (by omega), nGl_ge (by omega), nGl_ge (by omega), nGl_ge (by omega), nGl_ge (by omega), nGl_ge (by omega), nGl_ge (by omega), nGl_ge (by omega), nGl_ge (by omega), nGl_ge (by omega), nGl_ge (by omega), nGl_ge (by omega), nGl_lo (by omega)]
    exact congrArg a6 (by omega)
  · have hk : k < 5 := hk
    exact nMC_0 (by omega)
theorem nAC_a7 {g : zG} (h0 : Nat) (a1 : Nat → Nat) (a2 : Nat → Nat) (a3 : Nat → Nat) (q4 : Nat) (b0 : Nat → Nat) (b1 : Nat → Nat) (b2 : Nat → Nat) (b3 : Nat → Nat) (b4 : Nat → Nat) (b5 : Nat → Nat) (a5 : Nat → Nat) (a6 : Nat → Nat) (a7 : Nat → Nat) (a8 : Nat → Nat) (a9 : Nat → Nat) (a10 : Nat → Nat) (q11 : Nat) : zwA (gA g (nAC g h0 a1 a2 a3 q4 b0 b1 b2 b3 b4 b5 a5 a6 a7 a8 a9 a10 q11)) nMC 105 (shS 105 shX1) = zws shX1 (gA g a7) (fun _ _ => 0) := by
  refine zws_seg shX1 a7 (fun _ _ => 0) (fun k hk => ?_) (fun k hk => ?_) (by decide +kernel)
  · have hk : k < 7 := hk
    show nAC g h0 a1 a2 a3 q4 b0 b1 b2 b3 b4 b5 a5 a6 a7 a8 a9 a10 q11 (105 + k) = _
    unfold nAC
    rw [nGl_ge (by omega), nGl_ge (by omega), nGl_ge (by omega), nGl_ge (by omega), nGl_ge (by omega), nGl_ge (by omega), nGl_ge (by omega), nGl_ge (by omega), nGl_ge (by omega), nGl_ge (by omega), nGl_ge (by omega), nGl_ge (by omega), nGl_ge (by omega), nGl_lo (by omega)]
    exact congrArg a7 (by omega)
  · have hk : k < 7 := hk
    exact nMC_0 (by omega)
theorem nAC_a8 {g : zG} (h0 : Nat) (a1 : Nat → Nat) (a2 : Nat → Nat) (a3 : Nat → Nat) (q4 : Nat) (b0 : Nat → Nat) (b1 : Nat → Nat) (b2 : Nat → Nat) (b3 : Nat → Nat) (b4 : Nat → Nat) (b5 : Nat → Nat) (a5 : Nat → Nat) (a6 : Nat → Nat) (a7 : Nat → Nat) (a8 : Nat → Nat) (a9 : Nat → Nat) (a10 : Nat → Nat) (q11 : Nat) : zwA (gA g (nAC g h0 a1 a2 a3 q4 b0 b1 b2 b3 b4 b5 a5 a6 a7 a8 a9 a10 q11)) nMC 112 (shS 112 shX3) = zws shX3 (gA g a8) (fun _ _ => 0) := by
  refine zws_seg shX3 a8 (fun _ _ => 0) (fun k hk => ?_) (fun k hk => ?_) (by decide +kernel)
  · have hk : k < 4 := hk
    show nAC g h0 a1 a2 a3 q4 b0 b1 b2 b3 b4 b5 a5 a6 a7 a8 a9 a10 q11 (112 + k) = _
    unfold nAC
    rw [nGl_ge (by omega), nGl_ge (by omega), nGl_ge (by omega), nGl_ge (by omega), nGl_ge (by omega), nGl_ge (by omega), nGl_ge (by omega), nGl_ge (by omega), nGl_ge (by omega), nGl_ge (by omega), nGl_ge (by omega), nGl_ge (by omega), nGl_ge (by omega), nGl_ge (by omega), nGl_lo (by omega)]
    exact congrArg a8 (by omega)
  · have hk : k < 4 := hk
    exact nMC_0 (by omega)
theorem nAC_a9 {g : zG} (h0 : Nat) (a1 : Nat → Nat) (a2 : Nat → Nat) (a3 : Nat → Nat) (q4 : Nat) (b0 : Nat → Nat) (b1 : Nat → Nat) (b2 : Nat → Nat) (b3 : Nat → Nat) (b4 : Nat → Nat) (b5 : Nat → Nat) (a5 : Nat → Nat) (a6 : Nat → Nat) (a7 : Nat → Nat) (a8 : Nat → Nat) (a9 : Nat → Nat) (a10 : Nat → Nat) (q11 : Nat) : zwA (gA g (nAC g h0 a1 a2 a3 q4 b0 b1 b2 b3 b4 b5 a5 a6 a7 a8 a9 a10 q11)) nMC 116 (shS 116 shX4) = zws shX4 (gA g a9) (fun _ _ => 0) := by
  refine zws_seg shX4 a9 (fun _ _ => 0) (fun k hk => ?_) (fun k hk => ?_) (by decide +kernel)
  · have hk : k < 7 := hk
    show nAC g h0 a1 a2 a3 q4 b0 b1 b2 b3 b4 b5 a5 a6 a7 a8 a9 a10 q11 (116 + k) = _
    unfold nAC
    rw [nGl_ge (by omega), nGl_ge (by omega), nGl_ge (by omega), nGl_ge (by omega), nGl_ge (by omega), nGl_ge (by omega), nGl_ge (by omega), nGl_ge (by omega), nGl_ge (by omega), nGl_ge (by omega), nGl_ge (by omega), nGl_ge (by omega), nGl_ge (by omega), nGl_ge (by omega), nGl_ge (by omega), nGl_lo (by omega)]
    exact congrArg a9 (by omega)
  · have hk : k < 7 := hk
    exact nMC_0 (by omega)
theorem nAC_a10 {g : zG} (h0 : Nat) (a1 : Nat → Nat) (a2 : Nat → Nat) (a3 : Nat → Nat) (q4 : Nat) (b0 : Nat → Nat) (b1 : Nat → Nat) (b2 : Nat → Nat) (b3 : Nat → Nat) (b4 : Nat → Nat) (b5 : Nat → Nat) (a5 : Nat → Nat) (a6 : Nat → Nat) (a7 : Nat → Nat) (a8 : Nat → Nat) (a9 : Nat → Nat) (a10 : Nat → Nat) (q11 : Nat) : zwA (gA g (nAC g h0 a1 a2 a3 q4 b0 b1 b2 b3 b4 b5 a5 a6 a7 a8 a9 a10 q11)) nMC 123 (shS 123 shX0) = zws shX0 (gA g a10) (fun _ _ => 0) := by
  refine zws_seg shX0 a10 (fun _ _ => 0) (fun k hk => ?_) (fun k hk => ?_) (by decide +kernel)
  · have hk : k < 5 := hk
    show nAC g h0 a1 a2 a3 q4 b0 b1 b2 b3 b4 b5 a5 a6 a7 a8 a9 a10 q11 (123 + k) = _
    unfold nAC
    rw [nGl_ge (by omega), nGl_ge (by omega), nGl_ge (by omega), nGl_ge (by omega), nGl_ge (by omega), nGl_ge (by omega), nGl_ge (by omega), nGl_ge (by omega), nGl_ge (by omega), nGl_ge (by omega), nGl_ge (by omega), nGl_ge (by omega), nGl_ge (by omega), nGl_ge (by omega), nGl_ge (by omega), nGl_ge (by omega), nGl_lo (by omega)]
    exact congrArg a10 (by omega)
  · have hk : k < 5 := hk
    exact nMC_0 (by omega)
set_option maxRecDepth 100000 in
theorem shC_cut : shC = [(3, 8, [some 1, some 28, none, some 55, some 61, none, some 98, some 100, some 105, some 112, some 116, some 123, some 128])] ++ (shS 1 shX7 ++ (shS 28 shX7 ++ (shS 55 shX2 ++ ([(2, 6, [])] ++ (shS 62 shX2 ++ (shS 68 shX2 ++ (shS 74 shX2 ++ (shS 80 shX2 ++ (shS 86 shX2 ++ (shS 92 shX2 ++ (shS 98 shX5 ++ (shS 100 shX6 ++ (shS 105 shX1 ++ (shS 112 shX3 ++ (shS 116 shX4 ++ (shS 123 shX0 ++ ([(0, 10, [])]))))))))))))))))) := by decide +kernel
set_option maxRecDepth 100000 in
theorem nAC_cut {g : zG} (h0 : Nat) (a1 : Nat → Nat) (a2 : Nat → Nat) (a3 : Nat → Nat) (q4 : Nat) (b0 : Nat → Nat) (b1 : Nat → Nat) (b2 : Nat → Nat) (b3 : Nat → Nat) (b4 : Nat → Nat) (b5 : Nat → Nat) (a5 : Nat → Nat) (a6 : Nat → Nat) (a7 : Nat → Nat) (a8 : Nat → Nat) (a9 : Nat → Nat) (a10 : Nat → Nat) (q11 : Nat) : zwA (gA g (nAC g h0 a1 a2 a3 q4 b0 b1 b2 b3 b4 b5 a5 a6 a7 a8 a9 a10 q11)) nMC 0 shC = zwA (gA g (nAC g h0 a1 a2 a3 q4 b0 b1 b2 b3 b4 b5 a5 a6 a7 a8 a9 a10 q11)) nMC 0 [(3, 8, [some 1, some 28, none, some 55, some 61, none, some 98, some 100, some 105, some 112, some 116, some 123, some 128])] ++ (zwA (gA g (nAC g h0 a1 a2 a3 q4 b0 b1 b2 b3 b4 b5 a5 a6 a7 a8 a9 a10 q11)) nMC 1 (shS 1 shX7) ++ (zwA (gA g (nAC g h0 a1 a2 a3 q4 b0 b1 b2 b3 b4 b5 a5 a6 a7 a8 a9 a10 q11)) nMC 28 (shS 28 shX7) ++ (zwA (gA g (nAC g h0 a1 a2 a3 q4 b0 b1 b2 b3 b4 b5 a5 a6 a7 a8 a9 a10 q11)) nMC 55 (shS 55 shX2) ++ (zwA (gA g (nAC g h0 a1 a2 a3 q4 b0 b1 b2 b3 b4 b5 a5 a6 a7 a8 a9 a10 q11)) nMC 61 [(2, 6, [])] ++ (zwA (gA g (nAC g h0 a1 a2 a3 q4 b0 b1 b2 b3 b4 b5 a5 a6 a7 a8 a9 a10 q11)) nMC 62 (shS 62 shX2) ++ (zwA (gA g (nAC g h0 a1 a2 a3 q4 b0 b1 b2 b3 b4 b5 a5 a6 a7 a8 a9 a10 q11)) nMC 68 (shS 68 shX2) ++ (zwA (gA g (nAC g h0 a1 a2 a3 q4 b0 b1 b2 b3 b4 b5 a5 a6 a7 a8 a9 a10 q11)) nMC 74 (shS 74 shX2) ++ (zwA (gA g (nAC g h0 a1 a2 a3 q4 b0 b1 b2 b3 b4 b5 a5 a6 a7 a8 a9 a10 q11)) nMC 80 (shS 80 shX2) ++ (zwA (gA g (nAC g h0 a1 a2 a3 q4 b0 b1 b2 b3 b4 b5 a5 a6 a7 a8 a9 a10 q11)) nMC 86 (shS 86 shX2) ++ (zwA (gA g (nAC g h0 a1 a2 a3 q4 b0 b1 b2 b3 b4 b5 a5 a6 a7 a8 a9 a10 q11)) nMC 92 (shS 92 shX2) ++ (zwA (gA g (nAC g h0 a1 a2 a3 q4 b0 b1 b2 b3 b4 b5 a5 a6 a7 a8 a9 a10 q11)) nMC 98 (shS 98 shX5) ++ (zwA (gA g (nAC g h0 a1 a2 a3 q4 b0 b1 b2 b3 b4 b5 a5 a6 a7 a8 a9 a10 q11)) nMC 100 (shS 100 shX6) ++ (zwA (gA g (nAC g h0 a1 a2 a3 q4 b0 b1 b2 b3 b4 b5 a5 a6 a7 a8 a9 a10 q11)) nMC 105 (shS 105 shX1) ++ (zwA (gA g (nAC g h0 a1 a2 a3 q4 b0 b1 b2 b3 b4 b5 a5 a6 a7 a8 a9 a10 q11)) nMC 112 (shS 112 shX3) ++ (zwA (gA g (nAC g h0 a1 a2 a3 q4 b0 b1 b2 b3 b4 b5 a5 a6 a7 a8 a9 a10 q11)) nMC 116 (shS 116 shX4) ++ (zwA (gA g (nAC g h0 a1 a2 a3 q4 b0 b1 b2 b3 b4 b5 a5 a6 a7 a8 a9 a10 q11)) nMC 123 (shS 123 shX0) ++ (zwA (gA g (nAC g h0 a1 a2 a3 q4 b0 b1 b2 b3 b4 b5 a5 a6 a7 a8 a9 a10 q11)) nMC 128 [(0, 10, [])]))))))))))))))))) := by
  rw [shC_cut]
  simp only [zwA_app]
  rfl
theorem nAC_0 {g : zG} (h0 : Nat) (a1 : Nat → Nat) (a2 : Nat → Nat) (a3 : Nat → Nat) (q4 : Nat) (b0 : Nat → Nat) (b1 : Nat → Nat) (b2 : Nat → Nat) (b3 : Nat → Nat) (b4 : Nat → Nat) (b5 : Nat → Nat) (a5 : Nat → Nat) (a6 : Nat → Nat) (a7 : Nat → Nat) (a8 : Nat → Nat) (a9 : Nat → Nat) (a10 : Nat → Nat) (q11 : Nat) : zwA (gA g (nAC g h0 a1 a2 a3 q4 b0 b1 b2 b3 b4 b5 a5 a6 a7 a8 a9 a10 q11)) nMC 0 [(3, 8, [some 1, some 28, none, some 55, some 61, none, some 98, some 100, some 105, some 112, some 116, some 123, some 128])] = [(h0, Sum.inr (8, [.ref (a1 0), .ref (a2 0), .int 0, .ref (a3 0), .ref q4, .int 0, .ref (a5 0), .ref (a6 0), .ref (a7 0), .ref (a8 0), .ref (a9 0), .ref (a10 0), .ref q11]))] := rfl
theorem nAC_61 {g : zG} (h0 : Nat) (a1 : Nat → Nat) (a2 : Nat → Nat) (a3 : Nat → Nat) (q4 : Nat) (b0 : Nat → Nat) (b1 : Nat → Nat) (b2 : Nat → Nat) (b3 : Nat → Nat) (b4 : Nat → Nat) (b5 : Nat → Nat) (a5 : Nat → Nat) (a6 : Nat → Nat) (a7 : Nat → Nat) (a8 : Nat → Nat) (a9 : Nat → Nat) (a10 : Nat → Nat) (q11 : Nat) : zwA (gA g (nAC g h0 a1 a2 a3 q4 b0 b1 b2 b3 b4 b5 a5 a6 a7 a8 a9 a10 q11)) nMC 61 [(2, 6, [])] = [(q4, Sum.inl (g.2.2.2.2.2, 6, .inr (.inr (.inr (.inr (fun j => some (zad (gA g (nAC g h0 a1 a2 a3 q4 b0 b1 b2 b3 b4 b5 a5 a6 a7 a8 a9 a10 q11)) (nMC 61 j).toNatClampNeg)))))))] := rfl
theorem nAC_128 {g : zG} (h0 : Nat) (a1 : Nat → Nat) (a2 : Nat → Nat) (a3 : Nat → Nat) (q4 : Nat) (b0 : Nat → Nat) (b1 : Nat → Nat) (b2 : Nat → Nat) (b3 : Nat → Nat) (b4 : Nat → Nat) (b5 : Nat → Nat) (a5 : Nat → Nat) (a6 : Nat → Nat) (a7 : Nat → Nat) (a8 : Nat → Nat) (a9 : Nat → Nat) (a10 : Nat → Nat) (q11 : Nat) : zwA (gA g (nAC g h0 a1 a2 a3 q4 b0 b1 b2 b3 b4 b5 a5 a6 a7 a8 a9 a10 q11)) nMC 128 [(0, 10, [])] = [(q11, Sum.inl (g.2.2.2.1, 10, .inl (fun _ => 0)))] := rfl
theorem nAC_all {g : zG} (h0 : Nat) (a1 : Nat → Nat) (a2 : Nat → Nat) (a3 : Nat → Nat) (q4 : Nat) (b0 : Nat → Nat) (b1 : Nat → Nat) (b2 : Nat → Nat) (b3 : Nat → Nat) (b4 : Nat → Nat) (b5 : Nat → Nat) (a5 : Nat → Nat) (a6 : Nat → Nat) (a7 : Nat → Nat) (a8 : Nat → Nat) (a9 : Nat → Nat) (a10 : Nat → Nat) (q11 : Nat) : zws shC (gA g (nAC g h0 a1 a2 a3 q4 b0 b1 b2 b3 b4 b5 a5 a6 a7 a8 a9 a10 q11)) nMC = (h0, Sum.inr (8, [.ref (a1 0), .ref (a2 0), .int 0, .ref (a3 0), .ref q4, .int 0, .ref (a5 0), .ref (a6 0), .ref (a7 0), .ref (a8 0), .ref (a9 0), .ref (a10 0), .ref q11])) :: ((zws shX7 (gA g a1) nMW ++ (zws shX7 (gA g a2) nMW ++ zws shX2 (gA g a3) (fun _ _ => 0))) ++ (q4, Sum.inl (g.2.2.2.2.2, 6, .inr (.inr (.inr (.inr (fun j => some (zad (gA g (nAC g h0 a1 a2 a3 q4 b0 b1 b2 b3 b4 b5 a5 a6 a7 a8 a9 a10 q11)) (nMC 61 j).toNatClampNeg))))))) :: ((zws shX2 (gA g b0) (fun _ _ => 0) ++ (zws shX2 (gA g b1) (fun _ _ => 0) ++ (zws shX2 (gA g b2) (fun _ _ => 0) ++ (zws shX2 (gA g b3) (fun _ _ => 0) ++ (zws shX2 (gA g b4) (fun _ _ => 0) ++ (zws shX2 (gA g b5) (fun _ _ => 0))))))) ++ (zws shX5 (gA g a5) (fun k => if k = 0 then (fun j => if j = 7 then -1 else 0) else fun _ => 0) ++ (zws shX6 (gA g a6) (fun _ _ => 0) ++ (zws shX1 (gA g a7) (fun _ _ => 0) ++ (zws shX3 (gA g a8) (fun _ _ => 0) ++ (zws shX4 (gA g a9) (fun _ _ => 0) ++ (zws shX0 (gA g a10) (fun _ _ => 0) ++ [(q11, Sum.inl (g.2.2.2.1, 10, .inl (fun _ => 0)))])))))))) := by
  rw [zws_A, nAC_cut, nAC_0, nAC_61, nAC_128, nAC_a1, nAC_a2, nAC_a3, nAC_b0, nAC_b1, nAC_b2, nAC_b3, nAC_b4, nAC_b5, nAC_a5, nAC_a6, nAC_a7, nAC_a8, nAC_a9, nAC_a10]
  simp only [List.append_assoc, List.cons_append, List.nil_append]
theorem nAC_f {g : zG} (h0 : Nat) (a1 : Nat → Nat) (a2 : Nat → Nat) (a3 : Nat → Nat) (q4 : Nat) (b0 : Nat → Nat) (b1 : Nat → Nat) (b2 : Nat → Nat) (b3 : Nat → Nat) (b4 : Nat → Nat) (b5 : Nat → Nat) (a5 : Nat → Nat) (a6 : Nat → Nat) (a7 : Nat → Nat) (a8 : Nat → Nat) (a9 : Nat → Nat) (a10 : Nat → Nat) (q11 : Nat) : ∀ j, j < 6 → (va_up (va_up (va_up (va_up (va_up (va_up (fun _ => none) 0 (some (b0 0))) 1 (some (b1 0))) 2 (some (b2 0))) 3 (some (b3 0))) 4 (some (b4 0))) 5 (some (b5 0))) j = (fun j => some (zad (gA g (nAC g h0 a1 a2 a3 q4 b0 b1 b2 b3 b4 b5 a5 a6 a7 a8 a9 a10 q11)) (nMC 61 j).toNatClampNeg)) j := by
  intro j hj
  rcases (show j = 0 ∨ j = 1 ∨ j = 2 ∨ j = 3 ∨ j = 4 ∨ j = 5 by omega) with rfl | rfl | rfl | rfl | rfl | rfl
  · have e : (nMC 61 0).toNatClampNeg = 62 := by decide +kernel
    show _ = some (zad (gA g (nAC g h0 a1 a2 a3 q4 b0 b1 b2 b3 b4 b5 a5 a6 a7 a8 a9 a10 q11)) (nMC 61 0).toNatClampNeg)
    rw [e]
    rfl
  · have e : (nMC 61 1).toNatClampNeg = 68 := by decide +kernel
    show _ = some (zad (gA g (nAC g h0 a1 a2 a3 q4 b0 b1 b2 b3 b4 b5 a5 a6 a7 a8 a9 a10 q11)) (nMC 61 1).toNatClampNeg)
    rw [e]
    rfl
  · have e : (nMC 61 2).toNatClampNeg = 74 := by decide +kernel
    show _ = some (zad (gA g (nAC g h0 a1 a2 a3 q4 b0 b1 b2 b3 b4 b5 a5 a6 a7 a8 a9 a10 q11)) (nMC 61 2).toNatClampNeg)
    rw [e]
    rfl
  · have e : (nMC 61 3).toNatClampNeg = 80 := by decide +kernel
    show _ = some (zad (gA g (nAC g h0 a1 a2 a3 q4 b0 b1 b2 b3 b4 b5 a5 a6 a7 a8 a9 a10 q11)) (nMC 61 3).toNatClampNeg)
    rw [e]
    rfl
  · have e : (nMC 61 4).toNatClampNeg = 86 := by decide +kernel
    show _ = some (zad (gA g (nAC g h0 a1 a2 a3 q4 b0 b1 b2 b3 b4 b5 a5 a6 a7 a8 a9 a10 q11)) (nMC 61 4).toNatClampNeg)
    rw [e]
    rfl
  · have e : (nMC 61 5).toNatClampNeg = 92 := by decide +kernel
    show _ = some (zad (gA g (nAC g h0 a1 a2 a3 q4 b0 b1 b2 b3 b4 b5 a5 a6 a7 a8 a9 a10 q11)) (nMC 61 5).toNatClampNeg)
    rw [e]
    rfl
/-- the world as the constructor has made it is the class's world -/
theorem nAC_conv {g : zG} {A : Nat → Prop} {H : Heap} (h0 : Nat) (a1 : Nat → Nat) (a2 : Nat → Nat) (a3 : Nat → Nat) (q4 : Nat) (b0 : Nat → Nat) (b1 : Nat → Nat) (b2 : Nat → Nat) (b3 : Nat → Nat) (b4 : Nat → Nat) (b5 : Nat → Nat) (a5 : Nat → Nat) (a6 : Nat → Nat) (a7 : Nat → Nat) (a8 : Nat → Nat) (a9 : Nat → Nat) (a10 : Nat → Nat) (q11 : Nat) {pre post : va_W} (hpre : (zws shX7 (gA g a1) nMW ++ (zws shX7 (gA g a2) nMW ++ zws shX2 (gA g a3) (fun _ _ => 0))) = pre) (hpost : zws shX5 (gA g a5) (fun k => if k = 0 then (fun j => if j = 7 then -1 else 0) else fun _ => 0) ++ (zws shX6 (gA g a6) (fun _ _ => 0) ++ (zws shX1 (gA g a7) (fun _ _ => 0) ++ (zws shX3 (gA g a8) (fun _ _ => 0) ++ (zws shX4 (gA g a9) (fun _ _ => 0) ++ (zws shX0 (gA g a10) (fun _ _ => 0) ++ [(q11, Sum.inl (g.2.2.2.1, 10, .inl (fun _ => 0)))]))))) = post) (h : va_P (zDD g) vwCl ((h0, Sum.inr (8, [.ref (a1 0), .ref (a2 0), .int 0, .ref (a3 0), .ref q4, .int 0, .ref (a5 0), .ref (a6 0), .ref (a7 0), .ref (a8 0), .ref (a9 0), .ref (a10 0), .ref q11])) :: (pre ++ (q4, Sum.inl (g.2.2.2.2.2, 6, .inr (.inr (.inr (.inr (va_up (va_up (va_up (va_up (va_up (va_up (fun _ => none) 0 (some (b0 0))) 1 (some (b1 0))) 2 (some (b2 0))) 3 (some (b3 0))) 4 (some (b4 0))) 5 (some (b5 0)))))))) :: ((((((post ++ zws shX2 (gA g b0) (fun _ _ => 0)) ++ zws shX2 (gA g b1) (fun _ _ => 0)) ++ zws shX2 (gA g b2) (fun _ _ => 0)) ++ zws shX2 (gA g b3) (fun _ _ => 0)) ++ zws shX2 (gA g b4) (fun _ _ => 0)) ++ zws shX2 (gA g b5) (fun _ _ => 0)))) H ∧ va_D A ((h0, Sum.inr (8, [.ref (a1 0), .ref (a2 0), .int 0, .ref (a3 0), .ref q4, .int 0, .ref (a5 0), .ref (a6 0), .ref (a7 0), .ref (a8 0), .ref (a9 0), .ref (a10 0), .ref q11])) :: (pre ++ (q4, Sum.inl (g.2.2.2.2.2, 6, .inr (.inr (.inr (.inr (va_up (va_up (va_up (va_up (va_up (va_up (fun _ => none) 0 (some (b0 0))) 1 (some (b1 0))) 2 (some (b2 0))) 3 (some (b3 0))) 4 (some (b4 0))) 5 (some (b5 0)))))))) :: ((((((post ++ zws shX2 (gA g b0) (fun _ _ => 0)) ++ zws shX2 (gA g b1) (fun _ _ => 0)) ++ zws shX2 (gA g b2) (fun _ _ => 0)) ++ zws shX2 (gA g b3) (fun _ _ => 0)) ++ zws shX2 (gA g b4) (fun _ _ => 0)) ++ zws shX2 (gA g b5) (fun _ _ => 0))))) : va_P (zDD g) vwCl (zws shC (gA g (nAC g h0 a1 a2 a3 q4 b0 b1 b2 b3 b4 b5 a5 a6 a7 a8 a9 a10 q11)) nMC) H ∧ va_D A (zws shC (gA g (nAC g h0 a1 a2 a3 q4 b0 b1 b2 b3 b4 b5 a5 a6 a7 a8 a9 a10 q11)) nMC) := by
  have h1 := n_swapq (pre := (h0, Sum.inr (8, [.ref (a1 0), .ref (a2 0), .int 0, .ref (a3 0), .ref q4, .int 0, .ref (a5 0), .ref (a6 0), .ref (a7 0), .ref (a8 0), .ref (a9 0), .ref (a10 0), .ref q11])) :: pre) (nAC_f (g := g) h0 a1 a2 a3 q4 b0 b1 b2 b3 b4 b5 a5 a6 a7 a8 a9 a10 q11) h
  have hp : (((((((post ++ zws shX2 (gA g b0) (fun _ _ => 0)) ++ zws shX2 (gA g b1) (fun _ _ => 0)) ++ zws shX2 (gA g b2) (fun _ _ => 0)) ++ zws shX2 (gA g b3) (fun _ _ => 0)) ++ zws shX2 (gA g b4) (fun _ _ => 0)) ++ zws shX2 (gA g b5) (fun _ _ => 0))).Perm ((zws shX2 (gA g b0) (fun _ _ => 0) ++ (zws shX2 (gA g b1) (fun _ _ => 0) ++ (zws shX2 (gA g b2) (fun _ _ => 0) ++ (zws shX2 (gA g b3) (fun _ _ => 0) ++ (zws shX2 (gA g b4) (fun _ _ => 0) ++ (zws shX2 (gA g b5) (fun _ _ => 0))))))) ++ post) := by
    rw [show ((((((post ++ zws shX2 (gA g b0) (fun _ _ => 0)) ++ zws shX2 (gA g b1) (fun _ _ => 0)) ++ zws shX2 (gA g b2) (fun _ _ => 0)) ++ zws shX2 (gA g b3) (fun _ _ => 0)) ++ zws shX2 (gA g b4) (fun _ _ => 0)) ++ zws shX2 (gA g b5) (fun _ _ => 0)) = post ++ (zws shX2 (gA g b0) (fun _ _ => 0) ++ (zws shX2 (gA g b1) (fun _ _ => 0) ++ (zws shX2 (gA g b2) (fun _ _ => 0) ++ (zws shX2 (gA g b3) (fun _ _ => 0) ++ (zws shX2 (gA g b4) (fun _ _ => 0) ++ (zws shX2 (gA g b5) (fun _ _ => 0))))))) by simp only [List.append_assoc]]
    exact List.perm_append_comm
  have h2 := n_perm (List.Perm.cons (h0, Sum.inr (8, [.ref (a1 0), .ref (a2 0), .int 0, .ref (a3 0), .ref q4, .int 0, .ref (a5 0), .ref (a6 0), .ref (a7 0), .ref (a8 0), .ref (a9 0), .ref (a10 0), .ref q11])) (List.Perm.append_left pre (List.Perm.cons (q4, Sum.inl (g.2.2.2.2.2, 6, .inr (.inr (.inr (.inr (fun j => some (zad (gA g (nAC g h0 a1 a2 a3 q4 b0 b1 b2 b3 b4 b5 a5 a6 a7 a8 a9 a10 q11)) (nMC 61 j).toNatClampNeg))))))) hp))) h1
  rw [nAC_all, hpre, hpost]
  exact h2
