/-! run on both sides, where it is accepted -/
section
variable {f_capacity f_size f_entryCount f_analysed f_outputSize f_status f_steps f_pc f_depth f_valueCount : Int32} {a_image a_entry a_reached a_classes a_symbolic a_functionStart a_newAddress a_output a_registers a_stack a_values : Nat → Int32} {im : Nat → Nat} {s : Nat} {E : Nat → Prop} {post : Int32 → SX → Prop}
theorem xl_run0 {j mx : Nat} (hj : j < s) (h1 : 1 ≤ mx) (h2 : mx ≤ 2000) (hs : s ≤ 64) (hI : ∀ j, j < 64 → a_image j = nI (im j)) (hb : ∀ j, im j < 256) (hB : rd_By a_registers) (hK : rd_By a_stack)
    (hp : post 1 (rd_Xm f_capacity (nI s) f_entryCount f_analysed f_outputSize f_status f_steps f_pc f_depth f_valueCount a_image a_entry a_reached a_classes a_symbolic a_functionStart a_newAddress a_output a_registers a_stack a_values (rd_exec im s mx 0 (j, rd_z4 a_registers, a_stack, 0, a_values, 0)))) : wpX_run post (f_capacity, nI s, f_entryCount, f_analysed, f_outputSize, f_status, f_steps, f_pc, f_depth, f_valueCount, a_image, a_entry, a_reached, a_classes, a_symbolic, a_functionStart, a_newAddress, a_output, a_registers, a_stack, a_values) 0 (nI j) (nI mx) := by
  refine br_t rfl ?_
  refine pk_lt mx 1 (fun z => absurd z (by omega)) (fun _ => pk_lt 2000 mx (fun z => absurd z (by omega)) (fun _ => ?_))
  refine xl_inI_t hj hs (br_f (by decide) (br_f (by decide) ?_))
  unfold wX_run_47
  refine xl_clear (br_t rfl ?_)
  refine ⟨mx + 2, ?_⟩
  exact xl_loop_image (f_status := f_status) (f_steps := f_steps) (f_pc := f_pc) (f_depth := f_depth) (f_valueCount := f_valueCount) (a_registers := a_registers) (a_stack := a_stack) (a_values := a_values) hs h2 (fun i hi => hI i (by omega)) hb mx 0 (mx + 2) (j, rd_z4 a_registers, a_stack, 0, a_values, 0) ⟨by show j < 256; omega, rd_By_z4 hB, hK, by show 0 ≤ 8; omega, by show 0 ≤ 16; omega⟩ (by omega) (by omega) hp
theorem xl_run1 {j mx pd : Nat} (hj : j < s) (h1 : 1 ≤ mx) (h2 : mx ≤ 2000) (hpd : pd ≤ 3) (hs : s ≤ 64) (hI : ∀ j, j < 64 → a_image j = nI (im j)) (hb : ∀ j, im j < 256) (hB : rd_By a_registers) (hK : rd_By a_stack) (hA : rd_XA im s E pd f_outputSize a_classes a_symbolic a_functionStart a_newAddress a_output) (han : ¬ f_analysed = 0)
    (hp : post 1 (rd_Xm f_capacity (nI s) f_entryCount f_analysed f_outputSize f_status f_steps f_pc f_depth f_valueCount a_image a_entry a_reached a_classes a_symbolic a_functionStart a_newAddress a_output a_registers a_stack a_values (rd_exec (rd_ob im s E pd) (rd_os im s E pd) mx 0 (rd_na im s E pd j, rd_z4 a_registers, a_stack, 0, a_values, 0)))) : wpX_run post (f_capacity, nI s, f_entryCount, f_analysed, f_outputSize, f_status, f_steps, f_pc, f_depth, f_valueCount, a_image, a_entry, a_reached, a_classes, a_symbolic, a_functionStart, a_newAddress, a_output, a_registers, a_stack, a_values) 1 (nI j) (nI mx) := by
  obtain ⟨-, -, -, hA4, rfl, hA6⟩ := hA
  have hos := rd_os_le im E (pd := pd) (by omega) hs hpd
  have hna := rd_na_os im E pd hj
  refine br_f (by decide) (br_t rfl ?_)
  refine pk_lt mx 1 (fun z => absurd z (by omega)) (fun _ => pk_lt 2000 mx (fun z => absurd z (by omega)) (fun _ => ?_))
  refine xl_inI_t hj hs (br_f (by decide) (br_t rfl (br_f han ?_)))
  unfold wX_run_47
  refine xl_clear (br_f (by decide) ⟨pk_in j 64 (by omega), nm_r (e' := nI (rd_na im s E pd j)) ?_ ?_⟩)
  · rw [nI_clamp (by omega)]; exact hA4 j hj
  refine ⟨mx + 2, ?_⟩
  exact xl_loop_output (f_status := f_status) (f_steps := f_steps) (f_pc := f_pc) (f_depth := f_depth) (f_valueCount := f_valueCount) (a_registers := a_registers) (a_stack := a_stack) (a_values := a_values) hos h2 hA6 (fun i => rd_ob_lt hb (by omega) hs hpd) mx 0 (mx + 2) (rd_na im s E pd j, rd_z4 a_registers, a_stack, 0, a_values, 0) ⟨by show rd_na im s E pd j < 256; omega, rd_By_z4 hB, hK, by show 0 ≤ 8; omega, by show 0 ≤ 16; omega⟩ (by omega) (by omega) hp
end
section
variable {f_cap f_size f_nent f_analysed f_pad f_changed f_status f_steps f_pc f_outCount f_depth : Int32} {a_img a_ent a_inS a_reg a_outs a_stack a_mem : Nat → Int32} {im : Nat → Nat} {s : Nat} {E : Nat → Prop} {post : Int32 → SY → Prop}
theorem yl_run0 {j mx : Nat} (hj : j < s) (h1 : 1 ≤ mx) (h2 : mx ≤ 2000) (hs : s ≤ 64) (hI : ∀ j, j < 64 → a_img j = nI (im j)) (hb : ∀ j, im j < 256) (hB : rd_By a_reg) (hK : rd_By a_stack)
    (hp : ∀ M, post 1 (rd_Ym f_cap (nI s) f_nent f_analysed f_pad f_changed f_status f_steps f_pc f_outCount f_depth a_img a_ent a_inS a_reg a_outs a_stack M (rd_exec im s mx 0 (j, rd_z4 a_reg, a_stack, 0, a_outs, 0)))) : wpY_run post (f_cap, nI s, f_nent, f_analysed, f_pad, f_changed, f_status, f_steps, f_pc, f_outCount, f_depth, a_img, a_ent, a_inS, a_reg, a_outs, a_stack, a_mem) 0 (nI j) (nI mx) := by
  refine br_t rfl ?_
  refine pk_lt mx 1 (fun z => absurd z (by omega)) (fun _ => pk_le mx 2000 (fun _ => br_f (rd_lt0 (by omega)) (pk_lt j s (fun _ => br_f (by decide) ?_) (fun z => absurd z (by omega)))) (fun z => absurd z (by omega)))
  unfold wY_run_53
  refine yl_clear (br_f (by decide) ?_)
  refine pk_loop (fun n i M => wY_run_77 post 0 (nI j) (nI mx) (nI s) f_cap (nI s) f_nent f_analysed f_pad f_changed 0 0 0 0 0 n (nI i) a_img a_ent a_inS (rd_z4 a_reg) a_outs a_stack M) (fun i M => ∀ q, q < i → M q = nI (im q)) s 0 a_mem (by omega) (fun q hq => absurd hq (by omega)) ?_ ?_
  · intro n M hM
    refine pk_le s s (fun _ => br_t rfl ⟨mx + 1, ?_⟩) (fun z => absurd z (by omega))
    exact yl_loop (f_status := f_status) (f_steps := f_steps) (f_pc := f_pc) (f_depth := f_depth) (f_outCount := f_outCount) (a_reg := a_reg) (a_stack := a_stack) (a_outs := a_outs) (by omega) h2 hM hb mx 0 (mx + 1) (j, rd_z4 a_reg, a_stack, 0, a_outs, 0) ⟨by show j < 256; omega, rd_By_z4 hB, hK, by show 0 ≤ 8; omega, by show 0 ≤ 16; omega⟩ (by omega) (by omega) (hp M)
  · intro n i M hi hM hn
    refine pk_le s i (fun z => absurd z (by omega)) (fun _ => pk_le 256 i (fun z => absurd z (by omega)) (fun _ => br_t rfl ⟨pk_in i 64 (by omega), pk_in i 256 (by omega), nm_r (e' := upd M i (nI (im i))) ?_ (nm_r (nI_1 i) (hn _ fun q hq => ?_))⟩))
    · rw [nI_clamp (by omega), hI i (by omega)]
    · by_cases e : q = i
      · subst e; exact pk_us
      · rw [pk_un e]; exact hM q (by omega)
theorem yl_run1 {ne pd : Nat} {en : Nat → Nat} {j mx : Nat} (hj : j < s) (h1 : 1 ≤ mx) (h2 : mx ≤ 2000) (hpd : pd ≤ 3) (hs : s ≤ 64) (hI : ∀ j, j < 64 → a_img j = nI (im j)) (hb : ∀ j, im j < 256) (hS : ∀ q, q < s → (rd_nz a_inS q ↔ rd_LR im s E q)) (hne8 : ne ≤ 8) (hEn : ∀ e, e < ne → a_ent e = nI (en e) ∧ en e < s) (hEE : ∀ q, E q ↔ ∃ e, e < ne ∧ en e = q) (hB : rd_By a_reg) (hK : rd_By a_stack) (han : ¬ f_analysed = 0)
    (hp : ∀ M, post 1 (rd_Ym f_cap (nI s) (nI ne) f_analysed (nI pd) f_changed f_status f_steps f_pc f_outCount f_depth a_img a_ent a_inS a_reg a_outs a_stack M (rd_exec (rd_ob im s E pd) (rd_os im s E pd) mx 0 (rd_na im s E pd j, rd_z4 a_reg, a_stack, 0, a_outs, 0)))) : wpY_run post (f_cap, nI s, nI ne, f_analysed, nI pd, f_changed, f_status, f_steps, f_pc, f_outCount, f_depth, a_img, a_ent, a_inS, a_reg, a_outs, a_stack, a_mem) 1 (nI j) (nI mx) := by
  have hos := rd_os_le im E (pd := pd) (by omega) hs hpd
  have hna := rd_na_os im E pd hj
  refine br_f (by decide) (br_t rfl ?_)
  refine pk_lt mx 1 (fun z => absurd z (by omega)) (fun _ => pk_le mx 2000 (fun _ => br_f (rd_lt0 (by omega)) (pk_lt j s (fun _ => br_t rfl (br_f han ?_)) (fun z => absurd z (by omega)))) (fun z => absurd z (by omega)))
  unfold wY_run_53
  refine yl_clear (br_t rfl ?_)
  refine yr_os (by omega) hs hI hb hS hne8 hEn hEE ?_
  refine pk_loop (fun n i M => wY_run_77 post 1 (nI j) (nI mx) (nI (rd_os im s E pd)) f_cap (nI s) (nI ne) f_analysed (nI pd) f_changed 0 0 0 0 0 n (nI i) a_img a_ent a_inS (rd_z4 a_reg) a_outs a_stack M) (fun i M => ∀ q, q < i → M q = nI (rd_ob im s E pd q)) (rd_os im s E pd) 0 a_mem (by omega) (fun q hq => absurd hq (by omega)) ?_ ?_
  · intro n M hM
    refine pk_le (rd_os im s E pd) (rd_os im s E pd) (fun _ => br_f (by decide) ?_) (fun z => absurd z (by omega))
    refine yr_m0 rfl hj hs hI hb hS hne8 hEn hEE ⟨mx + 1, ?_⟩
    exact yl_loop (f_status := f_status) (f_steps := f_steps) (f_pc := f_pc) (f_depth := f_depth) (f_outCount := f_outCount) (a_reg := a_reg) (a_stack := a_stack) (a_outs := a_outs) hos h2 hM (fun i => rd_ob_lt hb (by omega) hs hpd) mx 0 (mx + 1) (rd_na im s E pd j, rd_z4 a_reg, a_stack, 0, a_outs, 0) ⟨by show rd_na im s E pd j < 256; omega, rd_By_z4 hB, hK, by show 0 ≤ 8; omega, by show 0 ≤ 16; omega⟩ (by omega) (by omega) (hp M)
  · intro n i M hi hM hn
    refine pk_le (rd_os im s E pd) i (fun z => absurd z (by omega)) (fun _ => pk_le 256 i (fun z => absurd z (by omega)) (fun _ => br_f (by decide) ?_))
    refine yr_out (by omega) (by omega) hpd hs hI hb hS hne8 hEn hEE ⟨pk_in i 256 (by omega), nm_r (e' := upd M i (nI (rd_ob im s E pd i))) ?_ (nm_r (nI_1 i) (hn _ fun q hq => ?_))⟩
    · rw [nI_clamp (by omega)]
    · by_cases e : q = i
      · subst e; exact pk_us
      · rw [pk_un e]; exact hM q (by omega)
end
