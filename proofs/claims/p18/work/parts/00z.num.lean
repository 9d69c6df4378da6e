/-! numbers: literals as nI, bounds, stores of truth values -/
theorem rd_l0 : (0 : Int32) = nI 0 := rfl
theorem rd_l1 : (1 : Int32) = nI 1 := rfl
theorem rd_l2 : (2 : Int32) = nI 2 := rfl
theorem rd_l3 : (3 : Int32) = nI 3 := rfl
theorem rd_l4 : (4 : Int32) = nI 4 := rfl
theorem rd_l5 : (5 : Int32) = nI 5 := rfl
theorem rd_l6 : (6 : Int32) = nI 6 := rfl
theorem rd_l7 : (7 : Int32) = nI 7 := rfl
theorem rd_l8 : (8 : Int32) = nI 8 := rfl
theorem rd_l9 : (9 : Int32) = nI 9 := rfl
theorem rd_l10 : (10 : Int32) = nI 10 := rfl
theorem rd_l11 : (11 : Int32) = nI 11 := rfl
theorem rd_l12 : (12 : Int32) = nI 12 := rfl
theorem rd_l13 : (13 : Int32) = nI 13 := rfl
theorem rd_l14 : (14 : Int32) = nI 14 := rfl
theorem rd_l15 : (15 : Int32) = nI 15 := rfl
theorem rd_l16 : (16 : Int32) = nI 16 := rfl
theorem rd_l64 : (64 : Int32) = nI 64 := rfl
theorem rd_l70 : (70 : Int32) = nI 70 := rfl
theorem rd_l255 : (255 : Int32) = nI 255 := rfl
theorem rd_l256 : (256 : Int32) = nI 256 := rfl
theorem rd_l2000 : (2000 : Int32) = nI 2000 := rfl
theorem rd_in {k N : Nat} (hk : k < 2 ^ 31) : vp_in (nI k) N ↔ k < N := by
  rw [vp_in_iff, nI_toInt hk]; omega
theorem rd_inr {x : Int32} {a : Nat → Int32} {p N : Nat} (e : x = nI p) (h : p < N) (hN : N < 2 ^ 31) : vp_in x N ∧ a x.toNatClampNeg = a p := by
  subst e
  exact ⟨vp_in_nI h hN, by rw [nI_clamp (by omega)]⟩
theorem rd_nb0 : vp_nar .boolean 0 = 0 := rfl
theorem rd_nb1 : vp_nar .boolean 1 = 1 := rfl
theorem rd_lt0 {k : Nat} (h : k < 2 ^ 31) : ¬ nI k < 0 := nI_pos h
theorem rd_ge0 {k : Nat} (h : k < 2 ^ 31) : 0 ≤ nI k := nI_pos' h
theorem rd_neg {x : Int32} (h : x < 0) : ¬ 0 ≤ x := Int32.not_le.mpr h
