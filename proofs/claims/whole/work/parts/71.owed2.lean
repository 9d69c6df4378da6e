/-! what is owed: the calls that read, and run -/
theorem rd_ixo {A B : Prop} {x : Int32} {s : Nat} (h : x < 0 ∨ nI s ≤ x) (b : B) : (x < 0 → B) ∧ (¬ x < 0 → ((x < nI s → A) ∧ (¬ x < nI s → B))) := by
  by_cases h0 : x < 0
  · exact br_t h0 b
  · exact br_f h0 (br_f (Int32.not_lt.mpr (h.resolve_left h0)) b)
theorem rd_ixi {A B : Prop} {j s : Nat} (hs : s ≤ 64) (hj : j < s) (a : A) : (nI j < 0 → B) ∧ (¬ nI j < 0 → ((nI j < nI s → A) ∧ (¬ nI j < nI s → B))) :=
  br_f (rd_lt0 (by omega)) (pk_lt j s (fun _ => a) (fun z => absurd z (by omega)))
theorem rd_ix (x : Int32) {s : Nat} (hs : s ≤ 64) : (x < 0 ∨ nI s ≤ x) ∨ ∃ j : Nat, j < s ∧ x = nI j := by
  rcases pk_ix x (n := s) (by omega) with z | z | z
  · exact Or.inl (Or.inl z)
  · exact Or.inl (Or.inr z)
  · exact Or.inr z
theorem rd_bn {P : Prop} (h : P) : ¬ rd_b P = 0 := fun z => rd_b0.mp z h
theorem i_vc_byteClass {k : Nat} {u : SX} {v : SY} (I : i_Rel k u v) (hk : k + 4 ≤ 2049) (v1 : Int32) : wpX_byteClass (fun r => wpY_byteClass (fun r' => r' = r ∧ i_Rel (k + 4) u v) v v1) u v1 := by
  have I' := i_up I
  obtain ⟨c, s, ne, pd, im, E, an, st, sp, ms, B, HX, HY⟩ := I; obtain ⟨f_outputSize, a_image, a_entry, a_reached, a_classes, a_symbolic, a_functionStart, a_newAddress, a_output, rfl, hXI, hXE, hXA⟩ := HX; obtain ⟨f_pad, f_changed, a_img, a_ent, a_inS, a_mem, en, rfl, hYI, hYe, hYE, hYA⟩ := HY; obtain ⟨c8, c64, hsc, hne8, hb, hEs, hM, han⟩ := B; have hs : s ≤ 64 := (by omega); have hXI' : ∀ j, j < 64 → a_image j = nI (im j) := (fun j _ => hXI j); have hYI' : ∀ j, j < 64 → a_img j = nI (im j) := (fun j _ => hYI j)
  by_cases ha : an
  · have hn := rd_bn ha
    rcases rd_ix v1 hs with h | ⟨j, hj, rfl⟩
    · exact br_f hn (xl_inI_f h (br_t rfl (br_f hn (rd_ixo h ⟨rfl, I'⟩))))
    · have hA := hXA ha
      have hY := hYA ha
      refine br_f hn (xl_inI_t hj hs (br_f (by decide) ⟨pk_in j 64 (by omega), br_f hn (rd_ixi hs hj ?_)⟩))
      refine yr_cls hj hs hYI' hb hY.2 ⟨?_, I'⟩
      rw [nI_clamp (by omega), hA.1 j hj]
  · exact br_t (rd_b_f ha) (br_t (rd_b_f ha) ⟨rfl, I'⟩)
theorem i_vc_count {k : Nat} {u : SX} {v : SY} (I : i_Rel k u v) (hk : k + 4 ≤ 2049) (v1 : Int32) : wpX_count (fun r => wpY_count (fun r' => r' = r ∧ i_Rel (k + 4) u v) v v1) u v1 := by
  have I' := i_up I
  obtain ⟨c, s, ne, pd, im, E, an, st, sp, ms, B, HX, HY⟩ := I; obtain ⟨f_outputSize, a_image, a_entry, a_reached, a_classes, a_symbolic, a_functionStart, a_newAddress, a_output, rfl, hXI, hXE, hXA⟩ := HX; obtain ⟨f_pad, f_changed, a_img, a_ent, a_inS, a_mem, en, rfl, hYI, hYe, hYE, hYA⟩ := HY; obtain ⟨c8, c64, hsc, hne8, hb, hEs, hM, han⟩ := B; have hs : s ≤ 64 := (by omega); have hXI' : ∀ j, j < 64 → a_image j = nI (im j) := (fun j _ => hXI j); have hYI' : ∀ j, j < 64 → a_img j = nI (im j) := (fun j _ => hYI j)
  by_cases h9 : v1 = 9
  · exact br_t h9 (br_t h9 ⟨rfl, I'⟩)
  by_cases h10 : v1 = 10
  · exact br_f h9 (br_t h10 (br_f h9 (br_t h10 ⟨rfl, I'⟩)))
  by_cases ha : an
  · have hn := rd_bn ha
    by_cases h0 : v1 < 0
    · exact br_f h9 (br_f h10 (br_f hn (br_t h0 (br_f h9 (br_f h10 (br_t h0 ⟨rfl, I'⟩))))))
    by_cases h8 : 8 < v1
    · exact br_f h9 (br_f h10 (br_f hn (br_f h0 (br_t h8 (br_f h9 (br_f h10 (br_f h0 (br_t h8 ⟨rfl, I'⟩))))))))
    obtain ⟨j, hj, rfl⟩ := nI_of2 (x := v1) (M := 8) (n := 8) (by decide) h0 (Int32.not_lt.mp h8)
    have hA := hXA ha
    obtain ⟨rfl, hS⟩ := hYA ha
    rw [rd_b_t ha] at I' ⊢
    refine xl_count hj hs hXI' hb hA ?_
    exact yr_count hj hs hYI' hb hS hne8 hYe hYE ⟨rfl, I'⟩
  · have hz := rd_b_f ha
    refine br_f h9 (br_f h10 (br_t hz (br_f h9 (br_f h10 (br_c (fun _ => ⟨rfl, I'⟩) (fun _ => br_c (fun _ => ⟨rfl, I'⟩) (fun _ => br_t hz ⟨rfl, I'⟩)))))))
theorem i_vc_isSymbolic {k : Nat} {u : SX} {v : SY} (I : i_Rel k u v) (hk : k + 4 ≤ 2049) (v1 : Int32) : wpX_isSymbolic (fun r => wpY_isSymbolic (fun r' => r' = r ∧ i_Rel (k + 4) u v) v v1) u v1 := by
  have I' := i_up I
  obtain ⟨c, s, ne, pd, im, E, an, st, sp, ms, B, HX, HY⟩ := I; obtain ⟨f_outputSize, a_image, a_entry, a_reached, a_classes, a_symbolic, a_functionStart, a_newAddress, a_output, rfl, hXI, hXE, hXA⟩ := HX; obtain ⟨f_pad, f_changed, a_img, a_ent, a_inS, a_mem, en, rfl, hYI, hYe, hYE, hYA⟩ := HY; obtain ⟨c8, c64, hsc, hne8, hb, hEs, hM, han⟩ := B; have hs : s ≤ 64 := (by omega); have hXI' : ∀ j, j < 64 → a_image j = nI (im j) := (fun j _ => hXI j); have hYI' : ∀ j, j < 64 → a_img j = nI (im j) := (fun j _ => hYI j)
  by_cases ha : an
  · have hn := rd_bn ha
    rcases rd_ix v1 hs with h | ⟨j, hj, rfl⟩
    · exact br_f hn (xl_inI_f h (br_t rfl (br_f hn (rd_ixo h ⟨rfl, I'⟩))))
    · have hA := (hXA ha).2.1 j hj
      have hY := hYA ha
      have hA' : a_symbolic (nI j).toNatClampNeg = rd_b (rd_sym im s E s j) := by rw [nI_clamp (by omega)]; exact hA
      refine br_f hn (xl_inI_t hj hs (br_f (by decide) ⟨pk_in j 64 (by omega), ?_⟩))
      rw [hA']
      refine rd_brb (fun z => br_f hn (rd_ixi hs hj ?_)) (fun z => br_f hn (rd_ixi hs hj ?_))
      · refine yr_sym hj hs hYI' hb hY.2 ?_
        rw [rd_b_f z]; exact ⟨rfl, rfl, I'⟩
      · refine yr_sym hj hs hYI' hb hY.2 ?_
        rw [rd_b_t z]; exact ⟨rfl, rfl, I'⟩
  · exact br_t (rd_b_f ha) (br_t (rd_b_f ha) ⟨rfl, I'⟩)
theorem i_vc_isFunctionStart {k : Nat} {u : SX} {v : SY} (I : i_Rel k u v) (hk : k + 4 ≤ 2049) (v1 : Int32) : wpX_isFunctionStart (fun r => wpY_isFunctionStart (fun r' => r' = r ∧ i_Rel (k + 4) u v) v v1) u v1 := by
  have I' := i_up I
  obtain ⟨c, s, ne, pd, im, E, an, st, sp, ms, B, HX, HY⟩ := I; obtain ⟨f_outputSize, a_image, a_entry, a_reached, a_classes, a_symbolic, a_functionStart, a_newAddress, a_output, rfl, hXI, hXE, hXA⟩ := HX; obtain ⟨f_pad, f_changed, a_img, a_ent, a_inS, a_mem, en, rfl, hYI, hYe, hYE, hYA⟩ := HY; obtain ⟨c8, c64, hsc, hne8, hb, hEs, hM, han⟩ := B; have hs : s ≤ 64 := (by omega); have hXI' : ∀ j, j < 64 → a_image j = nI (im j) := (fun j _ => hXI j); have hYI' : ∀ j, j < 64 → a_img j = nI (im j) := (fun j _ => hYI j)
  by_cases ha : an
  · have hn := rd_bn ha
    rcases rd_ix v1 hs with h | ⟨j, hj, rfl⟩
    · exact br_f hn (xl_inI_f h (br_t rfl (br_f hn (rd_ixo h ⟨rfl, I'⟩))))
    · have hA := (hXA ha).2.2.1 j hj
      have hY := hYA ha
      have hA' : a_functionStart (nI j).toNatClampNeg = rd_b (rd_fs im s E j) := by rw [nI_clamp (by omega)]; exact hA
      refine br_f hn (xl_inI_t hj hs (br_f (by decide) ⟨pk_in j 64 (by omega), ?_⟩))
      rw [hA']
      refine rd_brb (fun z => br_f hn (rd_ixi hs hj ?_)) (fun z => br_f hn (rd_ixi hs hj ?_))
      · refine yr_fs (by omega) hs hYI' hb hY.2 hne8 hYe hYE ?_
        rw [rd_b_f z]; exact ⟨rfl, rfl, I'⟩
      · refine yr_fs (by omega) hs hYI' hb hY.2 hne8 hYe hYE ?_
        rw [rd_b_t z]; exact ⟨rfl, rfl, I'⟩
  · exact br_t (rd_b_f ha) (br_t (rd_b_f ha) ⟨rfl, I'⟩)
theorem i_vc_outSize {k : Nat} {u : SX} {v : SY} (I : i_Rel k u v) (hk : k + 4 ≤ 2049) : wpX_outSize (fun r => wpY_outSize (fun r' => r' = r ∧ i_Rel (k + 4) u v) v) u := by
  have I' := i_up I
  obtain ⟨c, s, ne, pd, im, E, an, st, sp, ms, B, HX, HY⟩ := I; obtain ⟨f_outputSize, a_image, a_entry, a_reached, a_classes, a_symbolic, a_functionStart, a_newAddress, a_output, rfl, hXI, hXE, hXA⟩ := HX; obtain ⟨f_pad, f_changed, a_img, a_ent, a_inS, a_mem, en, rfl, hYI, hYe, hYE, hYA⟩ := HY; obtain ⟨c8, c64, hsc, hne8, hb, hEs, hM, han⟩ := B; have hs : s ≤ 64 := (by omega); have hXI' : ∀ j, j < 64 → a_image j = nI (im j) := (fun j _ => hXI j); have hYI' : ∀ j, j < 64 → a_img j = nI (im j) := (fun j _ => hYI j)
  by_cases ha : an
  · have hn := rd_bn ha
    obtain ⟨hs0, hpd⟩ := han ha
    obtain ⟨rfl, hS⟩ := hYA ha
    refine br_f hn (br_f hn ?_)
    exact yr_os hs0 hs hYI' hb hS hne8 hYe hYE ⟨(hXA ha).2.2.2.2.1.symm, I'⟩
  · exact br_t (rd_b_f ha) (br_t (rd_b_f ha) ⟨rfl, I'⟩)
theorem i_vc_outByte {k : Nat} {u : SX} {v : SY} (I : i_Rel k u v) (hk : k + 4 ≤ 2049) (v1 : Int32) : wpX_outByte (fun r => wpY_outByte (fun r' => r' = r ∧ i_Rel (k + 4) u v) v v1) u v1 := by
  have I' := i_up I
  obtain ⟨c, s, ne, pd, im, E, an, st, sp, ms, B, HX, HY⟩ := I; obtain ⟨f_outputSize, a_image, a_entry, a_reached, a_classes, a_symbolic, a_functionStart, a_newAddress, a_output, rfl, hXI, hXE, hXA⟩ := HX; obtain ⟨f_pad, f_changed, a_img, a_ent, a_inS, a_mem, en, rfl, hYI, hYe, hYE, hYA⟩ := HY; obtain ⟨c8, c64, hsc, hne8, hb, hEs, hM, han⟩ := B; have hs : s ≤ 64 := (by omega); have hXI' : ∀ j, j < 64 → a_image j = nI (im j) := (fun j _ => hXI j); have hYI' : ∀ j, j < 64 → a_img j = nI (im j) := (fun j _ => hYI j)
  by_cases ha : an
  · have hn := rd_bn ha
    obtain ⟨hs0, hpd⟩ := han ha
    obtain ⟨rfl, hS⟩ := hYA ha
    obtain ⟨-, -, -, -, rfl, hA6⟩ := hXA ha
    have hos := rd_os_le im E hs0 hs hpd
    by_cases h0 : v1 < 0
    · exact br_f hn (br_t h0 (br_f hn (br_f (rd_neg h0) ⟨rfl, I'⟩)))
    by_cases h1 : nI (rd_os im s E pd) ≤ v1
    · refine br_f hn (br_f h0 (br_t h1 (br_f hn (br_t (Int32.not_lt.mp h0) ?_))))
      exact yr_os hs0 hs hYI' hb hS hne8 hYe hYE (br_f (Int32.not_lt.mpr h1) ⟨rfl, I'⟩)
    obtain ⟨j, hj, rfl⟩ : ∃ j : Nat, j < rd_os im s E pd ∧ v1 = nI j := by
      rcases pk_ix v1 (n := rd_os im s E pd) (by omega) with z | z | z
      · exact absurd z h0
      · exact absurd z h1
      · exact z
    refine br_f hn (br_f h0 (br_f h1 ⟨pk_in j 253 (by omega), br_f hn (br_t (Int32.not_lt.mp h0) ?_)⟩))
    refine yr_os hs0 hs hYI' hb hS hne8 hYe hYE (pk_lt j (rd_os im s E pd) (fun _ => ?_) (fun z => absurd z (by omega)))
    refine yr_out (by omega) hs0 hpd hs hYI' hb hS hne8 hYe hYE ⟨?_, I'⟩
    rw [nI_clamp (by omega), hA6 j hj]
  · exact br_t (rd_b_f ha) (br_t (rd_b_f ha) ⟨rfl, I'⟩)
theorem i_vc_mapAddr {k : Nat} {u : SX} {v : SY} (I : i_Rel k u v) (hk : k + 4 ≤ 2049) (v1 : Int32) : wpX_mapAddr (fun r => wpY_mapAddr (fun r' => r' = r ∧ i_Rel (k + 4) u v) v v1) u v1 := by
  have I' := i_up I
  obtain ⟨c, s, ne, pd, im, E, an, st, sp, ms, B, HX, HY⟩ := I; obtain ⟨f_outputSize, a_image, a_entry, a_reached, a_classes, a_symbolic, a_functionStart, a_newAddress, a_output, rfl, hXI, hXE, hXA⟩ := HX; obtain ⟨f_pad, f_changed, a_img, a_ent, a_inS, a_mem, en, rfl, hYI, hYe, hYE, hYA⟩ := HY; obtain ⟨c8, c64, hsc, hne8, hb, hEs, hM, han⟩ := B; have hs : s ≤ 64 := (by omega); have hXI' : ∀ j, j < 64 → a_image j = nI (im j) := (fun j _ => hXI j); have hYI' : ∀ j, j < 64 → a_img j = nI (im j) := (fun j _ => hYI j)
  by_cases ha : an
  · have hn := rd_bn ha
    rcases rd_ix v1 hs with h | ⟨j, hj, rfl⟩
    · exact br_f hn (xl_inI_f h (br_t rfl (br_f hn (rd_ixo h ⟨rfl, I'⟩))))
    · have hA := (hXA ha).2.2.2.1 j hj
      obtain ⟨rfl, hS⟩ := hYA ha
      refine br_f hn (xl_inI_t hj hs (br_f (by decide) ⟨pk_in j 64 (by omega), br_f hn (rd_ixi hs hj ?_)⟩))
      refine yr_m0 rfl hj hs hYI' hb hS hne8 hYe hYE ⟨?_, I'⟩
      rw [nI_clamp (by omega), hA]
  · exact br_t (rd_b_f ha) (br_t (rd_b_f ha) ⟨rfl, I'⟩)
theorem i_vc_runInfo {k : Nat} {u : SX} {v : SY} (I : i_Rel k u v) (hk : k + 4 ≤ 2049) (v1 : Int32) : wpX_runInfo (fun r => wpY_runInfo (fun r' => r' = r ∧ i_Rel (k + 4) u v) v v1) u v1 := by
  have I' := i_up I
  obtain ⟨c, s, ne, pd, im, E, an, st, sp, ms, B, HX, HY⟩ := I; obtain ⟨f_outputSize, a_image, a_entry, a_reached, a_classes, a_symbolic, a_functionStart, a_newAddress, a_output, rfl, hXI, hXE, hXA⟩ := HX; obtain ⟨f_pad, f_changed, a_img, a_ent, a_inS, a_mem, en, rfl, hYI, hYe, hYE, hYA⟩ := HY; obtain ⟨c8, c64, hsc, hne8, hb, hEs, hM, han⟩ := B; have hs : s ≤ 64 := (by omega); have hXI' : ∀ j, j < 64 → a_image j = nI (im j) := (fun j _ => hXI j); have hYI' : ∀ j, j < 64 → a_img j = nI (im j) := (fun j _ => hYI j)
  by_cases e0 : v1 = 0
  · subst e0
    exact br_f (by decide) (br_f (by decide) (br_t rfl (br_t rfl ⟨rfl, I'⟩)))
  by_cases e1 : v1 = 1
  · subst e1
    exact br_f (by decide) (br_f (by decide) (br_f (by decide) (br_t rfl (br_f (by decide) (br_t rfl ⟨rfl, I'⟩)))))
  by_cases e2 : v1 = 2
  · subst e2
    exact br_f (by decide) (br_f (by decide) (br_f (by decide) (br_f (by decide) (br_t rfl (br_f (by decide) (br_f (by decide) (br_t rfl ⟨rfl, I'⟩)))))))
  by_cases e3 : v1 = 3
  · subst e3
    exact br_f (by decide) (br_f (by decide) (br_f (by decide) (br_f (by decide) (br_f (by decide) (br_t rfl (br_f (by decide) (br_f (by decide) (br_f (by decide) (br_t rfl ⟨rfl, I'⟩)))))))))
  by_cases e4 : v1 = 4
  · subst e4
    exact br_f (by decide) (br_f (by decide) (br_f (by decide) (br_f (by decide) (br_f (by decide) (br_f (by decide) (br_t rfl (br_f (by decide) (br_f (by decide) (br_f (by decide) (br_f (by decide) (br_t rfl ⟨rfl, I'⟩)))))))))))
  by_cases h0 : v1 < 0
  · exact br_t h0 (br_f e0 (br_f e1 (br_f e2 (br_f e3 (br_f e4 ⟨rfl, I'⟩)))))
  by_cases h4 : 4 < v1
  · exact br_f h0 (br_t h4 (br_f e0 (br_f e1 (br_f e2 (br_f e3 (br_f e4 ⟨rfl, I'⟩))))))
  obtain ⟨j, hj, rfl⟩ := nI_of2 (x := v1) (M := 4) (n := 4) (by decide) h0 (Int32.not_lt.mp h4)
  have hc : j = 0 ∨ j = 1 ∨ j = 2 ∨ j = 3 ∨ j = 4 := by omega
  rcases hc with rfl | rfl | rfl | rfl | rfl
  · exact absurd rfl e0
  · exact absurd rfl e1
  · exact absurd rfl e2
  · exact absurd rfl e3
  · exact absurd rfl e4
theorem i_vc_runReg {k : Nat} {u : SX} {v : SY} (I : i_Rel k u v) (hk : k + 4 ≤ 2049) (v1 : Int32) : wpX_runReg (fun r => wpY_runReg (fun r' => r' = r ∧ i_Rel (k + 4) u v) v v1) u v1 := by
  have I' := i_up I
  obtain ⟨c, s, ne, pd, im, E, an, st, sp, ms, B, HX, HY⟩ := I; obtain ⟨f_outputSize, a_image, a_entry, a_reached, a_classes, a_symbolic, a_functionStart, a_newAddress, a_output, rfl, hXI, hXE, hXA⟩ := HX; obtain ⟨f_pad, f_changed, a_img, a_ent, a_inS, a_mem, en, rfl, hYI, hYe, hYE, hYA⟩ := HY; obtain ⟨c8, c64, hsc, hne8, hb, hEs, hM, han⟩ := B; have hs : s ≤ 64 := (by omega); have hXI' : ∀ j, j < 64 → a_image j = nI (im j) := (fun j _ => hXI j); have hYI' : ∀ j, j < 64 → a_img j = nI (im j) := (fun j _ => hYI j)
  by_cases h0 : v1 < 0
  · exact br_t h0 (br_t h0 ⟨rfl, I'⟩)
  obtain ⟨j, hj, rfl⟩ := nI_of h0
  exact br_f h0 (pk_le 4 j (fun h => br_f h0 (pk_le j 3 (fun z => absurd z (by omega)) (fun _ => ⟨rfl, I'⟩))) (fun h => ⟨pk_in j 4 (by omega), br_f h0 (pk_le j 3 (fun _ => ⟨pk_in j 4 (by omega), rfl, I'⟩) (fun z => absurd z (by omega)))⟩))
theorem i_vc_runOut {k : Nat} {u : SX} {v : SY} (I : i_Rel k u v) (hk : k + 4 ≤ 2049) (v1 : Int32) : wpX_runOut (fun r => wpY_runOut (fun r' => r' = r ∧ i_Rel (k + 4) u v) v v1) u v1 := by
  have I' := i_up I
  obtain ⟨c, s, ne, pd, im, E, an, st, sp, ms, B, HX, HY⟩ := I; obtain ⟨f_outputSize, a_image, a_entry, a_reached, a_classes, a_symbolic, a_functionStart, a_newAddress, a_output, rfl, hXI, hXE, hXA⟩ := HX; obtain ⟨f_pad, f_changed, a_img, a_ent, a_inS, a_mem, en, rfl, hYI, hYe, hYE, hYA⟩ := HY; obtain ⟨c8, c64, hsc, hne8, hb, hEs, hM, han⟩ := B; have hs : s ≤ 64 := (by omega); have hXI' : ∀ j, j < 64 → a_image j = nI (im j) := (fun j _ => hXI j); have hYI' : ∀ j, j < 64 → a_img j = nI (im j) := (fun j _ => hYI j)
  have hc := hM.2.2.2.2
  by_cases h0 : v1 < 0
  · exact br_t h0 (br_t h0 ⟨rfl, I'⟩)
  obtain ⟨j, hj, rfl⟩ := nI_of h0
  exact br_f h0 (pk_le ms.2.2.2.2.2 j (fun h => br_f h0 (pk_lt j ms.2.2.2.2.2 (fun z => absurd z (by omega)) (fun _ => ⟨rfl, I'⟩))) (fun h => ⟨pk_in j 16 (by omega), br_f h0 (pk_lt j ms.2.2.2.2.2 (fun _ => ⟨pk_in j 16 (by omega), rfl, I'⟩) (fun z => absurd z (by omega)))⟩))
theorem i_vc_run {k : Nat} {u : SX} {v : SY} (I : i_Rel k u v) (hk : k + 4 ≤ 2049) (v1 : Int32) (v2 : Int32) (v3 : Int32) : wpX_run (fun r u' => wpY_run (fun r' v' => r' = r ∧ i_Rel (k + 4) u' v') v v1 v2 v3) u v1 v2 v3 := by
  have I' := i_up I
  obtain ⟨c, s, ne, pd, im, E, an, st, sp, ms, B, HX, HY⟩ := I; obtain ⟨f_outputSize, a_image, a_entry, a_reached, a_classes, a_symbolic, a_functionStart, a_newAddress, a_output, rfl, hXI, hXE, hXA⟩ := HX; obtain ⟨f_pad, f_changed, a_img, a_ent, a_inS, a_mem, en, rfl, hYI, hYe, hYE, hYA⟩ := HY; obtain ⟨c8, c64, hsc, hne8, hb, hEs, hM, han⟩ := B; have hs : s ≤ 64 := (by omega); have hXI' : ∀ j, j < 64 → a_image j = nI (im j) := (fun j _ => hXI j); have hYI' : ∀ j, j < 64 → a_img j = nI (im j) := (fun j _ => hYI j)
  have key : (v1 = 0 ∨ v1 = 1) ∨ (¬ v1 = 0 ∧ ¬ v1 = 1) := by
    by_cases a : v1 = 0
    · exact Or.inl (Or.inl a)
    · by_cases b : v1 = 1
      · exact Or.inl (Or.inr b)
      · exact Or.inr ⟨a, b⟩
  rcases key with hw | ⟨w0, w1⟩
  rotate_left
  · exact br_f w0 (br_f w1 (br_f w0 (br_f w1 ⟨rfl, I'⟩)))
  have gX : ∀ {A B : Prop}, (v1 = 0 → A) → (v1 = 1 → A) → ((v1 = 0 → A) ∧ (¬ v1 = 0 → ((v1 = 1 → A) ∧ (¬ v1 = 1 → B)))) := fun a b => ⟨a, fun z => ⟨b, fun y => absurd (hw.resolve_left z) y⟩⟩
  by_cases h1 : v3 < 1
  · exact gX (fun e => br_t h1 (gX (fun e => br_t h1 ⟨rfl, I'⟩) (fun e => br_t h1 ⟨rfl, I'⟩))) (fun e => br_t h1 (gX (fun e => br_t h1 ⟨rfl, I'⟩) (fun e => br_t h1 ⟨rfl, I'⟩)))
  by_cases h2 : 2000 < v3
  · have h2' : ¬ v3 ≤ 2000 := Int32.not_le.mpr h2
    exact gX (fun e => br_f h1 (br_t h2 (gX (fun e => br_f h1 (br_f h2' ⟨rfl, I'⟩)) (fun e => br_f h1 (br_f h2' ⟨rfl, I'⟩))))) (fun e => br_f h1 (br_t h2 (gX (fun e => br_f h1 (br_f h2' ⟨rfl, I'⟩)) (fun e => br_f h1 (br_f h2' ⟨rfl, I'⟩)))))
  have h2' : v3 ≤ 2000 := Int32.not_lt.mp h2
  obtain ⟨mx, hmx, rfl⟩ := nI_of2 (x := v3) (M := 2000) (n := 2000) (by decide) (fun z => h1 (Int32.lt_of_lt_of_le z (by decide))) h2'
  have hmx1 : 1 ≤ mx := by
    rcases Nat.eq_zero_or_pos mx with z | z
    · exact absurd (by rw [z]; decide) h1
    · exact z
  rcases rd_ix v2 hs with h | ⟨j, hj, rfl⟩
  · have Y : ∀ e : True, (wY_run_11 (fun r' v' => r' = 0 ∧ i_Rel (k + 4) (nI c, nI s, nI ne, rd_b an, f_outputSize, st, sp, nI ms.1, nI ms.2.2.2.1, nI ms.2.2.2.2.2, a_image, a_entry, a_reached, a_classes, a_symbolic, a_functionStart, a_newAddress, a_output, ms.2.1, ms.2.2.1, ms.2.2.2.2.1) v') v1 v2 (nI mx) (nI c) (nI s) (nI ne) (rd_b an) f_pad f_changed st sp (nI ms.1) (nI ms.2.2.2.2.2) (nI ms.2.2.2.1) a_img a_ent a_inS ms.2.1 ms.2.2.2.2.1 ms.2.2.1 a_mem) := fun _ => br_f h1 (br_t h2' (rd_ixo h ⟨rfl, I'⟩))
    exact gX (fun e => br_f h1 (br_f h2 (xl_inI_f h (br_t rfl (gX (fun _ => Y trivial) (fun _ => Y trivial)))))) (fun e => br_f h1 (br_f h2 (xl_inI_f h (br_t rfl (gX (fun _ => Y trivial) (fun _ => Y trivial))))))
  rcases hw with rfl | rfl
  · refine xl_run0 hj hmx1 hmx hs hXI' hb hM.2.1 hM.2.2.1 ?_
    refine yl_run0 hj hmx1 hmx hs hYI' hb hM.2.1 hM.2.2.1 fun M => ⟨rfl, ?_⟩
    have hE2 := rd_MI_exec (m := im) (n := s) (by omega) hb mx 0 (j, rd_z4 ms.2.1, ms.2.2.1, 0, ms.2.2.2.2.1, 0) ⟨by show j < 256; omega, rd_By_z4 hM.2.1, hM.2.2.1, by show 0 ≤ 8; omega, by show 0 ≤ 16; omega⟩
    generalize rd_exec im s mx 0 (j, rd_z4 ms.2.1, ms.2.2.1, 0, ms.2.2.2.2.1, 0) = w at hE2 ⊢
    refine ⟨c, s, ne, pd, im, E, an, w.1, nI w.2.1, w.2.2, ⟨c8, c64, hsc, hne8, hb, hEs, hE2.1, han⟩, ?_, ?_⟩
    · exact ⟨f_outputSize, a_image, a_entry, a_reached, a_classes, a_symbolic, a_functionStart, a_newAddress, a_output, rfl, hXI, hXE, hXA⟩
    · exact ⟨f_pad, f_changed, a_img, a_ent, a_inS, M, en, rfl, hYI, hYe, hYE, hYA⟩
  · by_cases ha : an
    · have hn := rd_bn ha
      obtain ⟨hs0, hpd⟩ := han ha
      have hos := rd_os_le im E hs0 hs hpd
      have hna := rd_na_os im E pd hj
      obtain ⟨rfl, hS⟩ := hYA ha
      refine xl_run1 hj hmx1 hmx hpd hs hXI' hb hM.2.1 hM.2.2.1 (hXA ha) hn ?_
      refine yl_run1 hj hmx1 hmx hpd hs hYI' hb hS hne8 hYe hYE hM.2.1 hM.2.2.1 hn fun M => ⟨rfl, ?_⟩
      have hE2 := rd_MI_exec (m := rd_ob im s E pd) (n := rd_os im s E pd) (by omega) (fun i => rd_ob_lt hb hs0 hs hpd) mx 0 (rd_na im s E pd j, rd_z4 ms.2.1, ms.2.2.1, 0, ms.2.2.2.2.1, 0) ⟨by show rd_na im s E pd j < 256; omega, rd_By_z4 hM.2.1, hM.2.2.1, by show 0 ≤ 8; omega, by show 0 ≤ 16; omega⟩
      generalize rd_exec (rd_ob im s E pd) (rd_os im s E pd) mx 0 (rd_na im s E pd j, rd_z4 ms.2.1, ms.2.2.1, 0, ms.2.2.2.2.1, 0) = w at hE2 ⊢
      refine ⟨c, s, ne, pd, im, E, an, w.1, nI w.2.1, w.2.2, ⟨c8, c64, hsc, hne8, hb, hEs, hE2.1, han⟩, ?_, ?_⟩
      · exact ⟨f_outputSize, a_image, a_entry, a_reached, a_classes, a_symbolic, a_functionStart, a_newAddress, a_output, rfl, hXI, hXE, hXA⟩
      · exact ⟨nI pd, f_changed, a_img, a_ent, a_inS, M, en, rfl, hYI, hYe, hYE, hYA⟩
    · have hz := rd_b_f ha
      have n1 : ¬ (1 : Int32) = 0 := by decide
      exact br_f n1 (br_t rfl (br_f h1 (br_f h2 (xl_inI_t hj hs (br_f n1 (br_t rfl (br_t hz (br_f n1 (br_t rfl (br_f h1 (br_t h2' (rd_ixi hs hj (br_t rfl (br_t hz ⟨rfl, I'⟩))))))))))))))
