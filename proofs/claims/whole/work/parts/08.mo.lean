theorem zMoC_lt {p : Nat} (h : zMo shC p) : p < 2 ^ 31 := by
  have h1 := (List.getElem?_eq_some_iff.mp h.1).1
  rw [shC_len] at h1
  omega
