/-! X: kinds, symbols, function starts -/
section
variable {f_capacity f_size f_entryCount f_analysed f_outputSize f_status f_steps f_pc f_depth f_valueCount : Int32} {a_image a_entry a_reached a_classes a_symbolic a_functionStart a_newAddress a_output a_registers a_stack a_values : Nat → Int32} {im : Nat → Nat} {s : Nat} {E : Nat → Prop} {post : St2 → Prop}
theorem rd_br1 {a : Nat → Int32} {i : Nat} {A B : Prop} (hi : i < 2 ^ 31) (f : a i = 1 → A) (g : ¬ a i = 1 → B) : (a (nI i).toNatClampNeg = 1 → A) ∧ (¬ a (nI i).toNatClampNeg = 1 → B) := by
  rw [nI_clamp hi]; exact ⟨f, g⟩
theorem xl_len' {post : Int32 → Prop} {op : Nat} {x : Int32} (hx : x = nI op) (h : op ≤ 14) (hp : post (nI (rd_len op))) : wpX_lengthOf post (f_capacity, nI s, f_entryCount, f_analysed, f_outputSize, f_status, f_steps, f_pc, f_depth, f_valueCount, a_image, a_entry, a_reached, a_classes, a_symbolic, a_functionStart, a_newAddress, a_output, a_registers, a_stack, a_values) x := by
  subst hx; exact xl_len h hp
theorem xl_slo' {post : Int32 → Prop} {op : Nat} {x : Int32} (hx : x = nI op) (h : op ≤ 14) (hp : post (nI (rd_slo op))) : wpX_slotOffset post (f_capacity, nI s, f_entryCount, f_analysed, f_outputSize, f_status, f_steps, f_pc, f_depth, f_valueCount, a_image, a_entry, a_reached, a_classes, a_symbolic, a_functionStart, a_newAddress, a_output, a_registers, a_stack, a_values) x := by
  subst hx; exact xl_slo h hp
theorem xl_claim {f e : Nat} {c x y : Int32} (hx : x = nI f) (hy : y = nI e) (hfe : f ≤ e) (he : e ≤ 64) (hp : post (f_capacity, nI s, f_entryCount, f_analysed, f_outputSize, f_status, f_steps, f_pc, f_depth, f_valueCount, a_image, a_entry, a_reached, rd_clm a_classes f e c, a_symbolic, a_functionStart, a_newAddress, a_output, a_registers, a_stack, a_values)) : wpX_claim post (f_capacity, nI s, f_entryCount, f_analysed, f_outputSize, f_status, f_steps, f_pc, f_depth, f_valueCount, a_image, a_entry, a_reached, a_classes, a_symbolic, a_functionStart, a_newAddress, a_output, a_registers, a_stack, a_values) x y c := by
  subst hx hy
  refine pk_loop (fun n i A => wX_claim_3 post (nI e) c f_capacity (nI s) f_entryCount f_analysed f_outputSize f_status f_steps f_pc f_depth f_valueCount n (nI i) a_image a_entry a_reached A a_symbolic a_functionStart a_newAddress a_output a_registers a_stack a_values) (fun i A => f ≤ i ∧ A = rd_clm a_classes f i c) e f a_classes hfe ?_ ?_ ?_
  · exact ⟨Nat.le_refl _, (rd_clm_0 _ _ (Nat.le_refl _) _).symm⟩
  · rintro n A ⟨-, rfl⟩
    exact pk_le e e (fun _ => hp) (fun z => absurd z (by omega))
  · rintro n i A hi ⟨hf, rfl⟩ hn
    refine pk_le e i (fun z => absurd z (by omega)) (fun _ => ⟨pk_in i 64 (by omega), rd_br0 (by omega) (fun z => ⟨pk_in i 64 (by omega), nm_r (e' := upd (rd_clm a_classes f i c) i c) ?_ (nm_r (nI_1 i) (hn _ ⟨by omega, rd_clm_t hf z⟩))⟩) (fun z => nm_r (nI_1 i) (hn _ ⟨by omega, rd_clm_f z⟩))⟩)
    rw [nI_clamp (by omega)]
theorem xl_claimTable {p : Nat} (hs : s ≤ 64) (hI : ∀ j, j < 64 → a_image j = nI (im j)) (hb : ∀ j, im j < 256) (ho : rd_ok im s p) (hp : post (f_capacity, nI s, f_entryCount, f_analysed, f_outputSize, f_status, f_steps, f_pc, f_depth, f_valueCount, a_image, a_entry, a_reached, rd_clm a_classes (im (p + 2)) (im (p + 2) + rd_tl im s p) 3, a_symbolic, a_functionStart, a_newAddress, a_output, a_registers, a_stack, a_values)) : wpX_claimTable post (f_capacity, nI s, f_entryCount, f_analysed, f_outputSize, f_status, f_steps, f_pc, f_depth, f_valueCount, a_image, a_entry, a_reached, a_classes, a_symbolic, a_functionStart, a_newAddress, a_output, a_registers, a_stack, a_values) (nI p) := by
  unfold wpX_claimTable
  refine xl_tl hs hI hb ho ?_
  by_cases h0 : 0 < rd_tl im s p
  · have ht := rd_tl_le h0
    have hle := ho.2.2.1
    have el : rd_len (im p) = 3 := by rw [ht.1.1]; rfl
    have c2 := hb (p + 2)
    refine pk_le (rd_tl im s p) 0 (fun z => absurd z (by omega)) (fun _ => ⟨pk_in (p + 2) 64 (by omega) (nI_add p 2), nm_r (rd_rd hI (p + 2) (by omega) (by omega) (nI_add p 2)) ?_⟩)
    exact xl_claim rfl (nI_add _ _) (by omega) (by omega) hp
  · have e0 : rd_tl im s p = 0 := by omega
    rw [e0]
    rw [e0, rd_clm_0 _ _ (by omega)] at hp
    exact br_t (by decide) hp
theorem xl_classify (hs : s ≤ 64) (hI : ∀ j, j < 64 → a_image j = nI (im j)) (hb : ∀ j, im j < 256) (hR : ∀ q, q < s → (rd_nz a_reached q ↔ rd_LR im s E q)) (hp : ∀ C, (∀ q, q < s → C q = rd_cls im s E q) → post (f_capacity, nI s, f_entryCount, f_analysed, f_outputSize, f_status, f_steps, f_pc, f_depth, f_valueCount, a_image, a_entry, a_reached, C, a_symbolic, a_functionStart, a_newAddress, a_output, a_registers, a_stack, a_values)) : wpX_classify post (f_capacity, nI s, f_entryCount, f_analysed, f_outputSize, f_status, f_steps, f_pc, f_depth, f_valueCount, a_image, a_entry, a_reached, a_classes, a_symbolic, a_functionStart, a_newAddress, a_output, a_registers, a_stack, a_values) := by
  refine pk_loop (fun n i A => wX_classify_2 post f_capacity (nI s) f_entryCount f_analysed f_outputSize f_status f_steps f_pc f_depth f_valueCount n (nI i) a_image a_entry a_reached A a_symbolic a_functionStart a_newAddress a_output a_registers a_stack a_values) (fun i A => ∀ q, q < i → A q = rd_c2 im s E (fun _ => False) (fun _ => False) q) s 0 a_classes (by omega) (fun q hq => absurd hq (by omega)) ?_ ?_
  · intro n A hA
    refine pk_le s s (fun _ => ?_) (fun z => absurd z (by omega))
    refine pk_loop (fun n i A => wX_classify_64 post n (nI i) f_capacity (nI s) f_entryCount f_analysed f_outputSize f_status f_steps f_pc f_depth f_valueCount a_image a_entry a_reached A a_symbolic a_functionStart a_newAddress a_output a_registers a_stack a_values) (fun i A => ∀ q, q < s → A q = rd_c2 im s E (rd_opd im s E i) (fun _ => False) q) s 0 A (by omega) ?_ ?_ ?_
    · intro q hq
      rw [hA q hq]
      exact rd_c2_c ⟨False.elim, rd_opd_0⟩ Iff.rfl
    · intro n A hA
      refine pk_le s s (fun _ => ?_) (fun z => absurd z (by omega))
      refine pk_loop (fun n i A => wX_classify_112 post n (nI i) f_capacity (nI s) f_entryCount f_analysed f_outputSize f_status f_steps f_pc f_depth f_valueCount a_image a_entry a_reached A a_symbolic a_functionStart a_newAddress a_output a_registers a_stack a_values) (fun i A => ∀ q, q < s → A q = rd_c2 im s E (rd_opd im s E s) (rd_tab im s E i) q) s 0 A (by omega) ?_ ?_ ?_
      · intro q hq
        rw [hA q hq]
        exact rd_c2_c Iff.rfl ⟨False.elim, rd_tab_0⟩
      · intro n A hA
        exact pk_le s s (fun _ => hp A hA) (fun z => absurd z (by omega))
      · intro n i A hi hA hn
        refine pk_le s i (fun z => absurd z (by omega)) (fun _ => ⟨pk_in i 64 (by omega), rd_br1 (by omega) (fun z => ?_) (fun z => nm_r (nI_1 i) (hn A fun q hq => ?_))⟩)
        · rw [hA i hi, rd_c2_st] at z
          refine xl_claimTable hs hI hb z.2 (nm_r (nI_1 i) (hn _ fun q hq => ?_))
          rw [rd_clm_tab (hA q hq)]
          exact rd_c2_c Iff.rfl ⟨fun h => rd_tab_s.mpr (h.imp id fun h => ⟨z, h⟩), fun h => (rd_tab_s.mp h).imp id fun h => h.2⟩
        · rw [hA i hi, rd_c2_st] at z
          rw [hA q hq]
          exact rd_c2_c Iff.rfl ⟨fun h => rd_tab_s.mpr (Or.inl h), fun h => (rd_tab_s.mp h).resolve_right fun h => z h.1⟩
    · intro n i A hi hA hn
      refine pk_le s i (fun z => absurd z (by omega)) (fun _ => ⟨pk_in i 64 (by omega), rd_br1 (by omega) (fun z => ⟨pk_in i 64 (by omega), ?_⟩) (fun z => nm_r (nI_1 i) (hn A fun q hq => ?_))⟩)
      · rw [hA i hi, rd_c2_st] at z
        have hl := rd_len_r (im i)
        have hle := z.2.2.2.1
        refine xl_len' (rd_rd hI i (by omega) (by omega)) z.2.2.1 (nm_r (nI_add _ _) ?_)
        refine xl_claim (nI_1 i) rfl (by omega) (by omega) (nm_r (nI_1 i) (hn _ fun q hq => ?_))
        rw [rd_clm_opd (hA q hq)]
        exact rd_c2_c ⟨fun h => rd_opd_s.mpr (h.imp id fun h => ⟨z, by omega, h.2⟩), fun h => (rd_opd_s.mp h).imp id fun h => ⟨by omega, h.2.2⟩⟩ Iff.rfl
      · rw [hA i hi, rd_c2_st] at z
        rw [hA q hq]
        exact rd_c2_c ⟨fun h => rd_opd_s.mpr (Or.inl h), fun h => (rd_opd_s.mp h).resolve_right fun h => z h.1⟩ Iff.rfl
  · intro n i A hi hA hn
    have T : ∀ x : Int32, x = rd_c2 im s E (fun _ => False) (fun _ => False) i → ∀ q, q < i + 1 → upd A i x q = rd_c2 im s E (fun _ => False) (fun _ => False) q := by
      intro x hx q hq
      by_cases e : q = i
      · subst e; rw [pk_us]; exact hx
      · rw [pk_un e]; exact hA q (by omega)
    refine pk_le s i (fun z => absurd z (by omega)) (fun _ => ⟨pk_in i 64 (by omega), rd_br0 (by omega) (fun z => ⟨pk_in i 64 (by omega), nm_r (e' := upd A i 0) ?_ (nm_r (nI_1 i) (hn _ (T _ ?_)))⟩) (fun z => ?_)⟩)
    · rw [nI_clamp (by omega)]
    · exact (rd_c2_0.mpr ⟨fun h => (hR i hi).mpr h z, fun h => h, fun h => h⟩).symm
    · have hL := (hR i hi).mp z
      refine xl_dec_image (m := im) hs (fun j hj => hI j (by omega)) hb (by omega) ?_
      refine rd_brb (fun hno => ⟨pk_in i 64 (by omega), nm_r (e' := upd A i 4) ?_ (nm_r (nI_1 i) (hn _ (T _ ?_)))⟩) (fun ho => ⟨pk_in i 64 (by omega), nm_r (e' := upd A i 1) ?_ (nm_r (nI_1 i) (hn _ (T _ ?_)))⟩)
      · rw [nI_clamp (by omega)]
      · unfold rd_c2; rw [rd_if_t hL, rd_if_f hno]
      · rw [nI_clamp (by omega)]
      · unfold rd_c2; rw [rd_if_t hL, rd_if_t ho]
theorem xl_markIf {a : Nat} {x : Int32} (hx : x = nI a) (ha : a < 64) (hs : s ≤ 64) (hI : ∀ j, j < 64 → a_image j = nI (im j)) (hb : ∀ j, im j < 256) (hp : ∀ S, (∀ q, q < s → ∀ P : Prop, a_symbolic q = rd_b P → S q = rd_b (P ∨ (im q < s ∧ q = a))) → post (f_capacity, nI s, f_entryCount, f_analysed, f_outputSize, f_status, f_steps, f_pc, f_depth, f_valueCount, a_image, a_entry, a_reached, a_classes, S, a_functionStart, a_newAddress, a_output, a_registers, a_stack, a_values)) : wpX_markIfAddress post (f_capacity, nI s, f_entryCount, f_analysed, f_outputSize, f_status, f_steps, f_pc, f_depth, f_valueCount, a_image, a_entry, a_reached, a_classes, a_symbolic, a_functionStart, a_newAddress, a_output, a_registers, a_stack, a_values) x := by
  subst hx
  have ca := hb a
  refine ⟨pk_in a 64 ha, pk_le s (im a) (fun h => hp _ fun q hq P hP => ?_) (fun h => ⟨pk_in a 64 ha, nm_r (e' := upd a_symbolic a 1) ?_ (hp _ fun q hq P hP => ?_)⟩) rfl (rd_rd hI a ha (by omega))⟩
  · rw [hP]
    refine rd_bc ⟨Or.inl, fun z => z.resolve_right ?_⟩
    rintro ⟨z1, rfl⟩
    omega
  · rw [nI_clamp (by omega)]
  · by_cases e : q = a
    · subst e; rw [pk_us]; exact (rd_b_t (Or.inr ⟨h, rfl⟩)).symm
    · rw [pk_un e, hP]
      exact rd_bc ⟨Or.inl, fun z => z.resolve_right fun z => e z.2⟩
theorem xl_mark22 {p : Nat} (hs : s ≤ 64) (hI : ∀ j, j < 64 → a_image j = nI (im j)) (hb : ∀ j, im j < 256) (ho : rd_ok im s p) (hp : ∀ S, (∀ q, q < s → ∀ P : Prop, a_symbolic q = rd_b P → S q = rd_b (P ∨ (im q < s ∧ im (p + 2) ≤ q ∧ q < im (p + 2) + rd_tl im s p))) → post (f_capacity, nI s, f_entryCount, f_analysed, f_outputSize, f_status, f_steps, f_pc, f_depth, f_valueCount, a_image, a_entry, a_reached, a_classes, S, a_functionStart, a_newAddress, a_output, a_registers, a_stack, a_values)) : wX_markSymbolsOf_22 post (nI p) f_capacity (nI s) f_entryCount f_analysed f_outputSize f_status f_steps f_pc f_depth f_valueCount a_image a_entry a_reached a_classes a_symbolic a_functionStart a_newAddress a_output a_registers a_stack a_values := by
  unfold wX_markSymbolsOf_22
  refine xl_tl hs hI hb ho ?_
  by_cases h0 : 0 < rd_tl im s p
  · have ht := rd_tl_le h0
    have hle := ho.2.2.1
    have el : rd_len (im p) = 3 := by rw [ht.1.1]; rfl
    have c2 := hb (p + 2)
    refine pk_le (rd_tl im s p) 0 (fun z => absurd z (by omega)) (fun _ => ⟨pk_in (p + 2) 64 (by omega) (nI_add p 2), nm_r (rd_rd hI (p + 2) (by omega) (by omega) (nI_add p 2)) ?_⟩)
    refine pk_loop (fun n i S => wX_markSymbolsOf_46 post (nI (rd_tl im s p)) (nI (im (p + 2))) n (nI i) f_capacity (nI s) f_entryCount f_analysed f_outputSize f_status f_steps f_pc f_depth f_valueCount a_image a_entry a_reached a_classes S a_functionStart a_newAddress a_output a_registers a_stack a_values)
      (fun i S => im (p + 2) ≤ i ∧ ∀ q, q < s → ∀ P : Prop, a_symbolic q = rd_b P → S q = rd_b (P ∨ (im q < s ∧ im (p + 2) ≤ q ∧ q < i))) (im (p + 2) + rd_tl im s p) (im (p + 2)) a_symbolic (by omega) ?_ ?_ ?_
    · refine ⟨Nat.le_refl _, fun q hq P hP => ?_⟩
      rw [hP]; exact rd_bc ⟨Or.inl, fun z => z.resolve_right (by omega)⟩
    · rintro n S ⟨-, hS⟩
      exact pk_le (im (p + 2) + rd_tl im s p) (im (p + 2) + rd_tl im s p) (fun _ => hp S hS) (fun z => absurd z (by omega)) (nI_add _ _) rfl
    · rintro n i S hi ⟨hf, hS⟩ hn
      refine pk_le (im (p + 2) + rd_tl im s p) i (fun z => absurd z (by omega)) (fun _ => ?_) (nI_add _ _) rfl
      refine xl_markIf rfl (by omega) hs hI hb fun S' hS' => nm_r (nI_1 i) (hn S' ⟨by omega, fun q hq P hP => ?_⟩)
      rw [hS' q hq _ (hS q hq P hP)]
      refine rd_bc ⟨?_, ?_⟩
      · rintro ((z | z) | ⟨z1, z2⟩)
        · exact Or.inl z
        · exact Or.inr ⟨z.1, z.2.1, by omega⟩
        · exact Or.inr ⟨z1, by omega, by omega⟩
      · rintro (z | ⟨z1, z2, z3⟩)
        · exact Or.inl (Or.inl z)
        · by_cases e : q = i
          · exact Or.inr ⟨z1, e⟩
          · exact Or.inl (Or.inr ⟨z1, z2, by omega⟩)
  · have e0 : rd_tl im s p = 0 := by omega
    rw [e0]
    refine br_t (by decide) (hp a_symbolic fun q hq P hP => ?_)
    rw [hP]; exact rd_bc ⟨Or.inl, fun z => z.resolve_right (by omega)⟩
theorem xl_markOf {p : Nat} (hs : s ≤ 64) (hI : ∀ j, j < 64 → a_image j = nI (im j)) (hb : ∀ j, im j < 256) (ho : rd_ok im s p) (hp : ∀ S, (∀ q, q < s → ∀ P : Prop, a_symbolic q = rd_b P → S q = rd_b (P ∨ (im q < s ∧ ((0 < rd_slo (im p) ∧ q = p + rd_slo (im p)) ∨ (im (p + 2) ≤ q ∧ q < im (p + 2) + rd_tl im s p))))) → post (f_capacity, nI s, f_entryCount, f_analysed, f_outputSize, f_status, f_steps, f_pc, f_depth, f_valueCount, a_image, a_entry, a_reached, a_classes, S, a_functionStart, a_newAddress, a_output, a_registers, a_stack, a_values)) : wpX_markSymbolsOf post (f_capacity, nI s, f_entryCount, f_analysed, f_outputSize, f_status, f_steps, f_pc, f_depth, f_valueCount, a_image, a_entry, a_reached, a_classes, a_symbolic, a_functionStart, a_newAddress, a_output, a_registers, a_stack, a_values) (nI p) := by
  have hps := ho.1
  have hle := ho.2.2.1
  have hsl := rd_slo_r (im p)
  refine ⟨pk_in p 64 (by omega), ?_⟩
  refine xl_slo' (rd_rd hI p (by omega) (by omega)) ho.2.1 ?_
  refine pk_le (rd_slo (im p)) 0 (fun h => ?_) (fun h => ?_)
  · refine xl_mark22 hs hI hb ho fun S hS => hp S fun q hq P hP => ?_
    rw [hS q hq P hP]
    exact rd_bc ⟨fun z => z.imp id fun z => ⟨z.1, Or.inr z.2⟩, fun z => z.imp id fun z => ⟨z.1, z.2.resolve_left (by omega)⟩⟩
  · have hlt := rd_slo_len (im p) ho.2.1 h
    refine xl_markIf (nI_add _ _) (by omega) hs hI hb fun S hS => ?_
    refine xl_mark22 hs hI hb ho fun S2 hS2 => hp S2 fun q hq P hP => ?_
    rw [hS2 q hq _ (hS q hq P hP)]
    refine rd_bc ⟨?_, ?_⟩
    · rintro ((z | z) | z)
      · exact Or.inl z
      · exact Or.inr ⟨z.1, Or.inl ⟨h, z.2⟩⟩
      · exact Or.inr ⟨z.1, Or.inr z.2⟩
    · rintro (z | ⟨z1, z2 | z2⟩)
      · exact Or.inl (Or.inl z)
      · exact Or.inl (Or.inr ⟨z1, z2.2⟩)
      · exact Or.inr ⟨z1, z2⟩
theorem xl_markSymbols (hs : s ≤ 64) (hI : ∀ j, j < 64 → a_image j = nI (im j)) (hb : ∀ j, im j < 256) (hC : ∀ q, q < s → a_classes q = rd_cls im s E q) (hp : ∀ S, (∀ q, q < s → S q = rd_b (rd_sym im s E s q)) → post (f_capacity, nI s, f_entryCount, f_analysed, f_outputSize, f_status, f_steps, f_pc, f_depth, f_valueCount, a_image, a_entry, a_reached, a_classes, S, a_functionStart, a_newAddress, a_output, a_registers, a_stack, a_values)) : wpX_markSymbols post (f_capacity, nI s, f_entryCount, f_analysed, f_outputSize, f_status, f_steps, f_pc, f_depth, f_valueCount, a_image, a_entry, a_reached, a_classes, a_symbolic, a_functionStart, a_newAddress, a_output, a_registers, a_stack, a_values) := by
  refine pk_loop (fun n i S => wX_markSymbols_2 post f_capacity (nI s) f_entryCount f_analysed f_outputSize f_status f_steps f_pc f_depth f_valueCount n (nI i) a_image a_entry a_reached a_classes S a_functionStart a_newAddress a_output a_registers a_stack a_values) (fun i S => ∀ q, q < i → S q = 0) s 0 a_symbolic (by omega) (fun q hq => absurd hq (by omega)) ?_ ?_
  · intro n S hS
    refine pk_le s s (fun _ => ?_) (fun z => absurd z (by omega))
    refine pk_loop (fun n i S => wX_markSymbols_25 post n (nI i) f_capacity (nI s) f_entryCount f_analysed f_outputSize f_status f_steps f_pc f_depth f_valueCount a_image a_entry a_reached a_classes S a_functionStart a_newAddress a_output a_registers a_stack a_values) (fun i S => ∀ q, q < s → S q = rd_b (rd_sym im s E i q)) s 0 S (by omega) ?_ ?_ ?_
    · intro q hq
      rw [hS q hq]
      exact (rd_b_f fun h => h.2.elim rd_slot_0 rd_tab_0).symm
    · intro n S hS
      exact pk_le s s (fun _ => hp S hS) (fun z => absurd z (by omega))
    · intro n i S hi hS hn
      refine pk_le s i (fun z => absurd z (by omega)) (fun _ => ⟨pk_in i 64 (by omega), rd_br1 (by omega) (fun z => ?_) (fun z => nm_r (nI_1 i) (hn S fun q hq => ?_))⟩)
      · rw [hC i hi, rd_cls, rd_c2_st] at z
        refine xl_markOf hs hI hb z.2 fun S' hS' => nm_r (nI_1 i) (hn S' fun q hq => ?_)
        rw [hS' q hq _ (hS q hq)]
        refine rd_bc ⟨?_, ?_⟩
        · rintro (⟨z1, z2 | z2⟩ | ⟨z1, z2 | z2⟩)
          · exact ⟨z1, Or.inl (rd_slot_s.mpr (Or.inl z2))⟩
          · exact ⟨z1, Or.inr (rd_tab_s.mpr (Or.inl z2))⟩
          · exact ⟨z1, Or.inl (rd_slot_s.mpr (Or.inr ⟨z, z2⟩))⟩
          · exact ⟨z1, Or.inr (rd_tab_s.mpr (Or.inr ⟨z, z2⟩))⟩
        · rintro ⟨z1, z2 | z2⟩
          · rcases rd_slot_s.mp z2 with z3 | z3
            · exact Or.inl ⟨z1, Or.inl z3⟩
            · exact Or.inr ⟨z1, Or.inl z3.2⟩
          · rcases rd_tab_s.mp z2 with z3 | z3
            · exact Or.inl ⟨z1, Or.inr z3⟩
            · exact Or.inr ⟨z1, Or.inr z3.2⟩
      · rw [hC i hi, rd_cls, rd_c2_st] at z
        rw [hS q hq]
        exact rd_bc ⟨fun h => ⟨h.1, h.2.imp (fun h => rd_slot_s.mpr (Or.inl h)) fun h => rd_tab_s.mpr (Or.inl h)⟩, fun h => ⟨h.1, h.2.imp (fun h => (rd_slot_s.mp h).resolve_right fun h => z h.1) fun h => (rd_tab_s.mp h).resolve_right fun h => z h.1⟩⟩
  · intro n i S hi hS hn
    refine pk_le s i (fun z => absurd z (by omega)) (fun _ => ⟨pk_in i 64 (by omega), nm_r (e' := upd S i 0) ?_ (nm_r (nI_1 i) (hn _ fun q hq => ?_))⟩)
    · rw [nI_clamp (by omega)]
    · by_cases e : q = i
      · subst e; exact pk_us
      · rw [pk_un e]; exact hS q (by omega)
theorem xl_markFS (hs : s ≤ 64) (hI : ∀ j, j < 64 → a_image j = nI (im j)) (hb : ∀ j, im j < 256) (hE : ∀ j, j < 64 → a_entry j = rd_b (E j)) (hC : ∀ q, q < s → a_classes q = rd_cls im s E q) (hp : ∀ F, (∀ q, q < s → F q = rd_b (rd_fs im s E q)) → post (f_capacity, nI s, f_entryCount, f_analysed, f_outputSize, f_status, f_steps, f_pc, f_depth, f_valueCount, a_image, a_entry, a_reached, a_classes, a_symbolic, F, a_newAddress, a_output, a_registers, a_stack, a_values)) : wpX_markFunctionStarts post (f_capacity, nI s, f_entryCount, f_analysed, f_outputSize, f_status, f_steps, f_pc, f_depth, f_valueCount, a_image, a_entry, a_reached, a_classes, a_symbolic, a_functionStart, a_newAddress, a_output, a_registers, a_stack, a_values) := by
  refine pk_loop (fun n i F => wX_markFunctionStarts_2 post f_capacity (nI s) f_entryCount f_analysed f_outputSize f_status f_steps f_pc f_depth f_valueCount n (nI i) a_image a_entry a_reached a_classes a_symbolic F a_newAddress a_output a_registers a_stack a_values) (fun i F => ∀ q, q < i → F q = rd_b (E q)) s 0 a_functionStart (by omega) (fun q hq => absurd hq (by omega)) ?_ ?_
  · intro n F hF
    refine pk_le s s (fun _ => ?_) (fun z => absurd z (by omega))
    refine pk_loop (fun n i F => wX_markFunctionStarts_30 post f_capacity (nI s) f_entryCount f_analysed f_outputSize f_status f_steps f_pc f_depth f_valueCount n (nI i) a_image a_entry a_reached a_classes a_symbolic F a_newAddress a_output a_registers a_stack a_values) (fun i F => ∀ q, q < s → F q = rd_b (E q ∨ rd_cal im s E i q)) s 0 F (by omega) ?_ ?_ ?_
    · intro q hq
      rw [hF q hq]
      exact rd_bc ⟨Or.inl, fun z => z.resolve_right rd_cal_0⟩
    · intro n F hF
      exact pk_le s s (fun _ => hp F hF) (fun z => absurd z (by omega))
    · intro n i F hi hF hn
      have N : (∀ q, q < s → ¬ (rd_st im s E i ∧ im i = 11 ∧ im (i + 1) = q)) → ∀ q, q < s → F q = rd_b (E q ∨ rd_cal im s E (i + 1) q) := by
        intro h q hq
        rw [hF q hq]
        exact rd_bc ⟨fun z => z.imp id fun z => rd_cal_s.mpr (Or.inl z), fun z => z.imp id fun z => (rd_cal_s.mp z).resolve_right (h q hq)⟩
      have bi := hb i
      refine pk_le s i (fun z => absurd z (by omega)) (fun _ => ⟨pk_in i 64 (by omega), rd_br1 (by omega) (fun z => ⟨pk_in i 64 (by omega), ?_⟩) (fun z => nm_r (nI_1 i) (hn F (N fun q hq h => ?_)))⟩)
      · rw [hC i hi, rd_cls, rd_c2_st] at z
        have hle := z.2.2.2.1
        refine pk_eq (im i) 11 (fun e => ?_) (fun e => nm_r (nI_1 i) (hn F (N fun q hq h => e h.2.1))) (rd_rd hI i (by omega) (by omega)) rfl
        have el : rd_len (im i) = 2 := by rw [e]; rfl
        have c1 := hb (i + 1)
        have hr := rd_rd hI (i + 1) (by omega) (by omega) (x := nI i + 1) (nI_1 i)
        refine ⟨pk_in (i + 1) 64 (by omega) (nI_1 i), pk_le s (im (i + 1)) (fun h => nm_r (nI_1 i) (hn F (N fun q hq hh => ?_))) (fun h => ⟨pk_in (i + 1) 64 (by omega) (nI_1 i), pk_in (im (i + 1)) 64 (by omega) hr, nm_r (e' := upd F (im (i + 1)) 1) ?_ (nm_r (nI_1 i) (hn _ fun q hq => ?_))⟩) rfl hr⟩
        · have := hh.2.2; omega
        · rw [hr, nI_clamp (by omega)]
        · by_cases eq : q = im (i + 1)
          · rw [eq, pk_us]
            exact (rd_b_t (Or.inr (rd_cal_s.mpr (Or.inr ⟨z, e, rfl⟩)))).symm
          · rw [pk_un eq, hF q hq]
            exact rd_bc ⟨fun z => z.imp id fun z => rd_cal_s.mpr (Or.inl z), fun z => z.imp id fun z => (rd_cal_s.mp z).resolve_right fun h => eq h.2.2.symm⟩
      · rw [hC i hi, rd_cls, rd_c2_st] at z
        exact z h.1
  · intro n i F hi hF hn
    refine pk_le s i (fun z => absurd z (by omega)) (fun _ => ⟨pk_in i 64 (by omega), pk_in i 64 (by omega), nm_r (e' := upd F i (rd_b (E i))) ?_ (nm_r (nI_1 i) (hn _ fun q hq => ?_))⟩)
    · rw [nI_clamp (by omega), hE i (by omega), rd_nbb]
    · by_cases e : q = i
      · subst e; exact pk_us
      · rw [pk_un e]; exact hF q (by omega)
end
