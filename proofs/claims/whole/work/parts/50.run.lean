/-! clearing a run, and run, on both sides -/
def rd_z4 (a : Nat → Int32) : Nat → Int32 := upd (upd (upd (upd a 0 0) 1 0) 2 0) 3 0
theorem rd_By_z4 {a : Nat → Int32} (h : rd_By a) : rd_By (rd_z4 a) :=
  rd_By_u (b := 0) (rd_By_u (b := 0) (rd_By_u (b := 0) (rd_By_u (b := 0) h 0 (by omega)) 1 (by omega)) 2 (by omega)) 3 (by omega)
section
variable {f_capacity f_size f_entryCount f_analysed f_outputSize f_status f_steps f_pc f_depth f_valueCount : Int32} {a_image a_entry a_reached a_classes a_symbolic a_functionStart a_newAddress a_output a_registers a_stack a_values : Nat → Int32} {s : Nat}
theorem xl_clear {post : SX → Prop} (hp : post (f_capacity, f_size, f_entryCount, f_analysed, f_outputSize, 0, 0, 0, 0, 0, a_image, a_entry, a_reached, a_classes, a_symbolic, a_functionStart, a_newAddress, a_output, rd_z4 a_registers, a_stack, a_values)) : wpX_clearRun post (f_capacity, f_size, f_entryCount, f_analysed, f_outputSize, f_status, f_steps, f_pc, f_depth, f_valueCount, a_image, a_entry, a_reached, a_classes, a_symbolic, a_functionStart, a_newAddress, a_output, a_registers, a_stack, a_values) :=
  ⟨5, br_f (by decide) ⟨pk_in 0 4 (by omega), nm_r (e' := upd a_registers 0 0) rfl (nm_r (e' := nI 1) rfl
    (br_f (by decide) ⟨pk_in 1 4 (by omega), nm_r (e' := upd (upd a_registers 0 0) 1 0) rfl (nm_r (e' := nI 2) rfl
    (br_f (by decide) ⟨pk_in 2 4 (by omega), nm_r (e' := upd (upd (upd a_registers 0 0) 1 0) 2 0) rfl (nm_r (e' := nI 3) rfl
    (br_f (by decide) ⟨pk_in 3 4 (by omega), nm_r (e' := rd_z4 a_registers) rfl (nm_r (e' := nI 4) rfl
    (br_t (by decide) hp))⟩))⟩))⟩))⟩⟩
end
section
variable {f_cap f_size f_nent f_analysed f_pad f_changed f_status f_steps f_pc f_outCount f_depth : Int32} {a_img a_ent a_inS a_reg a_outs a_stack a_mem : Nat → Int32} {s : Nat}
theorem yl_clear {post : SY → Prop} (hp : post (f_cap, f_size, f_nent, f_analysed, f_pad, f_changed, 0, 0, 0, 0, 0, a_img, a_ent, a_inS, rd_z4 a_reg, a_outs, a_stack, a_mem)) : wpY_clearRun post (f_cap, f_size, f_nent, f_analysed, f_pad, f_changed, f_status, f_steps, f_pc, f_outCount, f_depth, a_img, a_ent, a_inS, a_reg, a_outs, a_stack, a_mem) :=
  ⟨5, br_f (by decide) ⟨pk_in 0 4 (by omega), nm_r (e' := upd a_reg 0 0) rfl (nm_r (e' := nI 1) rfl
    (br_f (by decide) ⟨pk_in 1 4 (by omega), nm_r (e' := upd (upd a_reg 0 0) 1 0) rfl (nm_r (e' := nI 2) rfl
    (br_f (by decide) ⟨pk_in 2 4 (by omega), nm_r (e' := upd (upd (upd a_reg 0 0) 1 0) 2 0) rfl (nm_r (e' := nI 3) rfl
    (br_f (by decide) ⟨pk_in 3 4 (by omega), nm_r (e' := rd_z4 a_reg) rfl (nm_r (e' := nI 4) rfl
    (br_t (by decide) hp))⟩))⟩))⟩))⟩⟩
end
